/-! eigen, diagonal -/
def evS (p : Nat) (w : Fin 5) : Nat → Fin 5
  | 0 => 0
  | i + 1 => evS p w i * w + pd p (4 - i)
theorem evS_5 (p : Nat) (w : Fin 5) : evS p w 5 = ev (pd p) w := by
  simp only [evS, ev]; grind
theorem xs_van {post : Int32 → Prop} {p w : Nat} (hp : p < 3125) (hw : w < 5) (H : post (nI (ev (pd p) (kk w)).val)) : wpX_valueAtNumber post (nI p) (nI w) := by
  show ∃ n9, wX_valueAtNumber_9 post (nI p) (nI w) n9 0 3125 0
  refine loop_0 (fun n i (q : Nat) => wX_valueAtNumber_9 post (nI p) (nI w) n (nI q) (nI (5 ^ (5 - i))) (nI i)) (fun i q => q < 5 ∧ kk q = evS p (kk w) i) 5 0 ⟨by decide, rfl⟩ ?_ ?_
  · intro n q hI
    refine br_t (nI_le (a := 5) (Nat.le_refl _) (by omega)) ?_
    have : q = (ev (pd p) (kk w)).val := by
      rw [← evS_5, ← hI.2, kk_v, Nat.mod_eq_of_lt hI.1]
    rw [this]; exact H
  · intro n i q hi hI ih
    obtain ⟨e1, e2, e3, e4, e5⟩ := z5p i hi
    have hdiv : p / 5 ^ (4 - i) ≤ p := Nat.div_le_self _ _
    have hq : q * w ≤ 4 * 4 := Nat.mul_le_mul (by have := hI.1; omega) (by omega)
    refine br_f (nI_ge (b := 5) hi (by omega)) ⟨zf5, nm_r (e' := nI (5 ^ (4 - i))) (by rw [z5d e5, e1]) ⟨nI_ne0 e4 e3, zf5, nm_r (e' := nI ((q * w + p / 5 ^ (4 - i)) % 5)) (by rw [pk_div (by omega) e4 e3, pk_mul, nI_add, z5r (by omega)]) (nm_r (nI_1 i) ?_)⟩⟩
    rw [← e2]
    refine ih _ ⟨Nat.mod_lt _ (by decide), ?_⟩
    rw [kk_mod, kk_add, kk_mul, hI.2, e2]; rfl
theorem xs_fwr {post : Int32 → Prop} {N w : Nat} {c m f s : Nat → Nat} (hN : N ≤ 4) (hw : w < 5) (hf : ∀ i, i < N → f i = s i) (hs : ∀ i, i < N → s i < 3125) (H : post (nI (cw s (kk w) N))) : wpX_factorsWithRoot post (zX N c m f) (nI w) := by
  show ∃ n4, wX_factorsWithRoot_4 post (nI w) (nI N) (zA c) (zA m) (zA f) n4 0 0
  refine loop_0 (fun n i (q : Nat) => wX_factorsWithRoot_4 post (nI w) (nI N) (zA c) (zA m) (zA f) n (nI q) (nI i)) (fun i q => q = cw s (kk w) i) N 0 rfl ?_ ?_
  · intro n q hq
    refine br_t (nI_le (Nat.le_refl _) (by omega)) ?_
    rw [hq]; exact H
  · intro n i q hi hq ih
    have hev := (ev (pd (s i)) (kk w)).isLt
    refine br_f (nI_ge hi (by omega)) ⟨vp_in_nI (by omega) (by decide), ?_⟩
    rw [nI_clamp (by omega), zA_at, hf i hi]
    refine xs_van (hs i hi) hw (pk_eq (ev (pd (s i)) (kk w)).val 0 ?_ ?_)
    · intro e
      have e' : ev (pd (s i)) (kk w) = 0 := Fin.ext e
      refine nm_r (nI_1 q) (nm_r (nI_1 i) (ih (q + 1) ?_))
      show _ = cw s (kk w) i + (if ev (pd (s i)) (kk w) = 0 then 1 else 0)
      rw [if_pos e', hq]
    · intro e
      have e' : ev (pd (s i)) (kk w) ≠ 0 := fun z => e (by rw [z]; rfl)
      refine nm_r (nI_1 i) (ih q ?_)
      show _ = cw s (kk w) i + (if ev (pd (s i)) (kk w) = 0 then 1 else 0)
      rw [if_neg e', hq, Nat.add_zero]
theorem ys_rank {post : Int32 → SY → Prop} {N r : Nat} {g : Nat → Nat} {mn te dv ot fc kp rw : Nat → Nat} (hN : N ≤ 4) (hr : r < 5) (hg : ∀ j, g j < 5)
    (H : ∀ (mn' te' : Nat → Nat) (q : Nat), q ≤ N → (q = 0 ∨ ∃ R C, R < 2 ^ N ∧ C < 2 ^ N ∧ pc R = q ∧ pc C = q ∧ dtm (fun i j => kk (zSl g N r i j)) q R C ≠ 0) →
      (∀ R C, R < 2 ^ N → C < 2 ^ N → pc R = pc C → dtm (fun i j => kk (zSl g N r i j)) (pc R) R C ≠ 0 → pc R ≤ q) → post (nI q) (zY N g mn' te' dv ot fc kp rw)) :
    wpY_rankOf post (zY N g mn te dv ot fc kp rw) (nI r) := by
  obtain ⟨w1, w2⟩ := pw2 N (by omega)
  show ∃ n4, wY_rankOf_4 post (nI r) n4 0 0 (nI N) (zA g) (zA mn) (zA te) (zA dv) (zA ot) (zA fc) (zA kp) (zA rw)
  refine loop_0 (fun n j (s : Nat × (Nat → Nat) × (Nat → Nat)) => wY_rankOf_4 post (nI r) n (nI s.1) (nI j) (nI N) (zA g) (zA s.2.1) (zA s.2.2) (zA dv) (zA ot) (zA fc) (zA kp) (zA rw))
    (fun j s => s.1 ≤ N ∧ (s.1 = 0 ∨ ∃ R C, R < 2 ^ N ∧ C < 2 ^ N ∧ pc R = s.1 ∧ pc C = s.1 ∧ dtm (fun i j => kk (zSl g N r i j)) s.1 R C ≠ 0) ∧ ∀ R C, 16 * R + C < j → R < 2 ^ N → C < 2 ^ N → pc R = pc C → dtm (fun i j => kk (zSl g N r i j)) (pc R) R C ≠ 0 → pc R ≤ s.1) 256 (0, mn, te) ⟨Nat.zero_le _, Or.inl rfl, fun R C h => absurd h (by omega)⟩ ?_ ?_
  · intro n s hI
    exact br_t (nI_le (a := 256) (Nat.le_refl _) (by omega)) (H s.2.1 s.2.2 s.1 hI.1 hI.2.1 (fun R C hR hC => hI.2.2 R C (by omega) hR hC))
  · intro n j s hj hI ih
    have hR16 : j / 16 < 16 := by omega
    have hC16 : j % 16 < 16 := by omega
    have hpR := pc4 (j / 16) hR16
    have hpC := pc4 (j % 16) hC16
    have hq := hI.1
    have skip : (∀ R C, 16 * R + C = j → R < 2 ^ N → C < 2 ^ N → pc R = pc C → dtm (fun i j => kk (zSl g N r i j)) (pc R) R C ≠ 0 → pc R ≤ s.1) → ∀ x : Int32, x = nI j + 1 → wY_rankOf_4 post (nI r) n (nI s.1) x (nI N) (zA g) (zA s.2.1) (zA s.2.2) (zA dv) (zA ot) (zA fc) (zA kp) (zA rw) := by
      intro hh
      refine nm_r (nI_1 j) (ih s ⟨hI.1, hI.2.1, fun R C h1 h2 h3 h4 h5 => ?_⟩)
      by_cases e : 16 * R + C = j
      · exact hh R C e h2 h3 h4 h5
      · exact hI.2.2 R C (by omega) h2 h3 h4 h5
    have rc : ∀ R C, 16 * R + C = j → C < 2 ^ N → R = j / 16 ∧ C = j % 16 := fun R C e hC => by omega
    refine br_f (nI_ge (b := 256) hj (by omega)) ⟨zf16, nm_r (z16d (by omega)) ⟨zf16, nm_r (z16r (by omega)) ?_⟩⟩
    refine ys_size hR16 (pk_le (pc (j / 16)) s.1 ?_ ?_)
    · intro e
      refine skip (fun R C h1 h2 h3 h4 h5 => ?_)
      rw [(rc R C h1 h3).1]; exact e
    · intro e
      refine ys_size hC16 (pk_eq (pc (j % 16)) (pc (j / 16)) ?_ ?_)
      · intro e2
        rw [zshl (by omega)]
        refine pk_le (2 ^ N) (j / 16) (fun z => skip (fun R C h1 h2 h3 h4 h5 => by have := (rc R C h1 h3).1; omega)) ?_
        intro e3
        refine pk_le (2 ^ N) (j % 16) (fun z => skip (fun R C h1 h2 h3 h4 h5 => by have := (rc R C h1 h3).2; omega)) ?_
        intro e4
        refine ys_findMinor (x := false) hN hr hg e3 e4 ?_
        intro mn' te' m1 m2
        have hm0 := m1 0 (by decide)
        have hm := m2 0 (by decide)
        rw [mn_df _ hR16 hC16 e2.symm] at hm
        refine pk_eq (mn' 0) 0 ?_ ?_
        · intro z
          refine nm_r (nI_1 j) (ih (s.1, mn', te') ⟨hI.1, hI.2.1, fun R C h1 h2 h3 h4 h5 => ?_⟩)
          by_cases e' : 16 * R + C = j
          · exfalso
            obtain ⟨r1, r2⟩ := rc R C e' h3
            rw [z, ← r1, ← r2] at hm
            exact h5 hm.symm
          · exact hI.2.2 R C (by omega) h2 h3 h4 h5
        · intro z
          have hne : dtm (fun i j => kk (zSl g N r i j)) (pc (j / 16)) (j / 16) (j % 16) ≠ 0 := by
            intro q
            rw [q] at hm
            exact z (kk_inj hm0 (by decide) hm)
          refine nm_r (nI_1 j) (ih (pc (j / 16), mn', te') ⟨pc_le N (by omega) _ e3, Or.inr ⟨j / 16, j % 16, e3, e4, rfl, e2, hne⟩, fun R C h1 h2 h3 h4 h5 => ?_⟩)
          show pc R ≤ pc (j / 16)
          by_cases e' : 16 * R + C = j
          · rw [(rc R C e' h3).1]; exact Nat.le_refl _
          · have := hI.2.2 R C (by omega) h2 h3 h4 h5
            omega
      · intro e2
        refine skip (fun R C h1 h2 h3 h4 h5 => ?_)
        exfalso
        obtain ⟨r1, r2⟩ := rc R C h1 h3
        rw [r1, r2] at h4
        exact e2 h4.symm
theorem ys_e28 {post : Int32 → SY → Prop} {N w : Nat} {g : Nat → Nat} {mn te dv ot fc kp rw : Nat → Nat} (hN : N ≤ 4) (hw : w < 5) (hg : ∀ j, g j < 5)
    (H : ∀ g' : Nat → Nat, (∀ j, j < 64 → g' j = g j) → (∀ j, g' j < 5) →
      (∀ i j, i < N → j < N → g' (64 + (N * i + j)) = if i = j then (g (64 + (N * i + j)) + 5 - w) % 5 else g (64 + (N * i + j))) → wpY_rankOf (fun r_34 u => match u with | (f_n_35, a_regs_36, a_minor_37, a_term_38, a_divisor_39, a_other_40, a_factors_41, a_kept_42, a_rows_43) => (post (nI N - r_34) (f_n_35, a_regs_36, a_minor_37, a_term_38, a_divisor_39, a_other_40, a_factors_41, a_kept_42, a_rows_43))) (zY N g' mn te dv ot fc kp rw) 4) :
    ∃ n, wY_eigen_28 post (nI w) (nI N) n 0 (zA g) (zA mn) (zA te) (zA dv) (zA ot) (zA fc) (zA kp) (zA rw) := by
  have hsq := zi_sq hN
  refine loop_0 (fun n i (s' : Nat → Nat) => wY_eigen_28 post (nI w) (nI N) n (nI i) (zA s') (zA mn) (zA te) (zA dv) (zA ot) (zA fc) (zA kp) (zA rw))
    (fun k s => (∀ j, j < 64 → s j = g j) ∧ (∀ j, s j < 5) ∧ ∀ i j, i < N → j < N → s (64 + (N * i + j)) = if i = j ∧ i < k then (g (64 + (N * i + j)) + 5 - w) % 5 else g (64 + (N * i + j))) N g ⟨fun _ _ => rfl, hg, fun i j _ _ => (if_neg (by omega)).symm⟩ ?_ ?_
  · intro n s' hI
    refine br_t (nI_le (Nat.le_refl _) (by omega)) (H s' hI.1 hI.2.1 ?_)
    intro i j hi hj
    rw [hI.2.2 i j hi hj]
    by_cases e : i = j
    · rw [if_pos ⟨e, hi⟩, if_pos e]
    · rw [if_neg (by omega), if_neg e]
  · intro n i s' hi hI ih
    have hlt := zi_lt hi hi
    have hs := hI.2.1 (64 + (N * i + i))
    have e0 : (64 : Int32) + nI i * (nI N + 1) = nI (64 + (N * i + i)) := by
      rw [nI_1, pk_mul, z64a, show i * (N + 1) = N * i + i by rw [Nat.mul_succ, Nat.mul_comm i N]]
    refine br_f (nI_ge hi (by omega)) ⟨?_, zf5, ?_, nm_r (e' := zA (zu s' (64 + (N * i + i)) ((s' (64 + (N * i + i)) + 5 - w) % 5))) ?_ (nm_r (nI_1 i) (ih _ ⟨?_, ?_, ?_⟩))⟩
    · rw [e0]; exact vp_in_nI (by omega) (by decide)
    · rw [e0]; exact vp_in_nI (by omega) (by decide)
    · rw [e0, nI_clamp (by omega), zA_at, za5, pk_sub (by omega), z5r (by omega), zA_upd]
    · intro j hj
      rw [zu_n (by omega)]
      exact hI.1 j hj
    · exact zu_lt hI.2.1 (by omega)
    · intro i' j' hi' hj'
      by_cases e : 64 + (N * i' + j') = 64 + (N * i + i)
      · obtain ⟨rfl, rfl⟩ := zi_inj hj' hi (Nat.add_left_cancel e)
        rw [zu_s, if_pos ⟨rfl, by omega⟩, hI.2.2 _ _ hi hi, if_neg (by omega)]
      · rw [zu_n e, hI.2.2 i' j' hi' hj']
        by_cases e2 : i' = j' ∧ i' < i
        · rw [if_pos e2, if_pos ⟨e2.1, by omega⟩]
        · have e3 : ¬ (i' = j' ∧ i' < i + 1) := by
            intro z
            obtain ⟨z1, z2⟩ := z
            subst z1
            have : i' = i := by
              by_cases z3 : i' = i
              · exact z3
              · exact absurd ⟨rfl, by omega⟩ e2
            subst this
            exact e rfl
          rw [if_neg e2, if_neg e3]
theorem ys_eigen {post : Int32 → SY → Prop} {N r w : Nat} {g d s : Nat → Nat} {mn te dv ot fc kp rw : Nat → Nat} (hN : N ≤ 4) (hr : r < 4) (hw : w < 5) (hg : ∀ j, g j < 5) (hF : fac (zSl g N r) N d s)
    (H : ∀ (g' mn' te' : Nat → Nat), (∀ j, j < 64 → g' j = g j) → (∀ j, g' j < 5) → post (nI (cw s (kk w) N)) (zY N g' mn' te' dv ot fc kp rw)) :
    wpY_eigen post (zY N g mn te dv ot fc kp rw) (nI r) (nI w) := by
  have hsq := zi_sq hN
  unfold wpY_eigen; dsimp only
  refine yr_ok hr (br_f zf1 ?_)
  refine ys_in (n := w) (a := 0) (b := 4) (Nat.zero_le _) (by omega) (by decide) (br_f zf1 ?_)
  refine ys_copy (d := 4) (by omega) (by omega) (by omega) ?_
  intro g1 p1 p2
  refine ys_e28 hN hw (ycp5 hg p1 p2) ?_
  intro g2 p3 p4 p5
  refine ys_rank (r := 4) hN (by omega) p4 ?_
  intro mn' te' q q1 q2 q3
  have hB : ∀ i j, i < N → j < N → kk (zSl g2 N 4 i j) = kk (zSl g N r i j) - (if i = j then kk w else 0) := by
    intro i j hi hj
    have hij := zi_lt hi hj
    have e1 : g1 (64 + (N * i + j)) = zSl g N r i j := by
      rw [show 64 + (N * i + j) = 16 * 4 + (N * i + j) from rfl, p2 _ (by omega), zSl_at hi hj]
    have b1 := zSl_lt hg N r i j
    rw [zSl_at hi hj]
    show kk (g2 (64 + (N * i + j))) = _
    rw [p5 i j hi hj, e1]
    split
    · rw [kk_mod, Nat.add_sub_assoc (by omega), kk_add, kk_5s (by omega)]; grind
    · grind
  have hc := fac_rank hN hF (kk w) q q1 ?_ ?_
  · rw [hc] at H
    dsimp only
    rw [pk_sub q1]
    refine H g2 mn' te' (fun j hj => ?_) p4
    rw [p3 j hj, p1 j (by omega)]
  · rcases q2 with z | ⟨R, C, hR, hC, e1, e2, z⟩
    · exact Or.inl z
    · refine Or.inr ⟨R, C, hR, hC, e1, e2, fun z' => z ?_⟩
      have := shift_dt hN hB hR hC (by omega)
      rw [e1] at this
      exact this.mpr z'
  · intro R C hR hC e1 z
    exact q3 R C hR hC e1 (fun z' => z ((shift_dt hN hB hR hC e1).mp z'))
theorem i_vc_eigen {k : Nat} {u : SX} {v : SY} (I : i_Rel k u v) (hk : k + 5 ≤ 2561) (v1 : Int32) (v2 : Int32) : wpX_eigen (fun r u' => wpY_eigen (fun r' v' => r' = r ∧ i_Rel (k + 5) u' v') v v1 v2) u v1 v2 := by
  obtain ⟨N, c, m, f, g, mn, te, dv, ot, fc, kp, rw, rfl, rfl, h1, h4, hc, hg, h⟩ := I
  have hsq := zi_sq h4
  have J : ∀ m' f' : Nat → Nat, i_Rel (k + 5) (zX N c m' f') (zY N g mn te dv ot fc kp rw) := fun m' f' => zR h1 h4 hc hg h
  unfold wpX_eigen; dsimp only
  rcases zout v1 (n := 4) (by decide) with ⟨r, hr, rfl⟩ | o1
  · refine xr_ok hr (br_f zf1 ?_)
    rcases zout v2 (n := 5) (by decide) with ⟨w, hw, rfl⟩ | o2
    · refine xr_num hw (br_f zf1 (xs_findFactors (st := 0) h1 h4 (by omega) (by omega) hc ?_))
      intro m' f' d s hF hf _
      rw [zrel h hr] at hF
      have hf0 : ∀ i, i < N → f' i = s i := fun i hi => by have := hf i hi; rwa [Nat.zero_add] at this
      refine xs_fwr h4 hw hf0 (fun i hi => (fac_s h4 hF i hi).2.1) ?_
      refine ys_eigen h4 hr hw hg hF ?_
      intro g' mn' te' r1 r2
      refine ⟨rfl, zR h1 h4 hc r2 ?_⟩
      intro r' t hr' ht
      rw [r1 _ (by omega)]; exact h r' t hr' ht
    · refine xr_nnum o2 (br_t rfl ?_)
      unfold wpY_eigen; dsimp only
      exact yr_ok hr (br_f zf1 (ys_inO (n := 4) (by decide) o2 (br_t rfl ⟨rfl, J m f⟩)))
  · refine xr_no o1 (br_t rfl ?_)
    unfold wpY_eigen; dsimp only
    exact yr_no o1 (br_t rfl ⟨rfl, J m f⟩)
theorem i_vc_diagonal {k : Nat} {u : SX} {v : SY} (I : i_Rel k u v) (hk : k + 5 ≤ 2561) (v1 : Int32) : wpX_diagonal (fun r u' => wpY_diagonal (fun r' v' => r' = r ∧ i_Rel (k + 5) u' v') v v1) u v1 := by
  obtain ⟨N, c, m, f, g, mn, te, dv, ot, fc, kp, rw, rfl, rfl, h1, h4, hc, hg, h⟩ := I
  have hsq := zi_sq h4
  unfold wpX_diagonal; dsimp only
  rcases zout v1 (n := 4) (by decide) with ⟨r, hr, rfl⟩ | o1
  · refine xr_ok hr (br_f zf1 (xs_findFactors (st := 0) h1 h4 (by omega) (by omega) hc ?_))
    intro m' f' d s hF hf _
    rw [zrel h hr] at hF
    have hf0 : ∀ i, i < N → f' i = s i := fun i hi => by have := hf i hi; rwa [Nat.zero_add] at this
    have hb : ∀ w, zs (fun w => cw s (kk w) N) w ≤ w * 4 := fun w => zs_le (fun t => by have := cw_le s (kk t) N; omega) w
    have y : ∀ z : Nat, z < 2 → (z = 1 ↔ zs (fun w => cw s (kk w) N) 5 = N) → wpY_diagonal (fun r' v' => r' = nI z ∧ i_Rel (k + 5) (zX N c m' f') v') (zY N g mn te dv ot fc kp rw) (nI r) := by
      intro z hz hzz
      unfold wpY_diagonal; dsimp only
      refine yr_ok hr (br_f zf1 ?_)
      refine loop_0 (fun n w (q : Nat × (Nat → Nat) × (Nat → Nat) × (Nat → Nat)) => wY_diagonal_14 (fun r' v' => r' = nI z ∧ i_Rel (k + 5) (zX N c m' f') v') (nI r) n (nI q.1) (nI w) (nI N) (zA q.2.1) (zA q.2.2.1) (zA q.2.2.2) (zA dv) (zA ot) (zA fc) (zA kp) (zA rw))
        (fun w q => q.1 = zs (fun w => cw s (kk w) N) w ∧ (∀ j, j < 64 → q.2.1 j = g j) ∧ ∀ j, q.2.1 j < 5) 5 (0, g, mn, te) ⟨rfl, fun _ _ => rfl, hg⟩ ?_ ?_
      · intro n q hI
        have b := hb 5
        refine br_t (nI_le (a := 5) (Nat.le_refl _) (by omega)) ?_
        have R2 : i_Rel (k + 5) (zX N c m' f') (zY N q.2.1 q.2.2.1 q.2.2.2 dv ot fc kp rw) := zR h1 h4 hc hI.2.2 (fun r' t hr' ht => by rw [hI.2.1 _ (by omega)]; exact h r' t hr' ht)
        rw [hI.1]
        refine pk_eq (zs (fun w => cw s (kk w) N) 5) N (fun e => ⟨?_, R2⟩) (fun e => ⟨?_, R2⟩)
        · rw [hzz.mpr e]; rfl
        · have : z ≠ 1 := fun zz => e (hzz.mp zz)
          rw [show z = 0 by omega]; rfl
      · intro n w q hw hI ih
        have hF2 : fac (zSl q.2.1 N r) N d s := by
          rw [zSl_eq (g := g) (b := r) (fun t ht => hI.2.1 _ (by omega))]; exact hF
        refine br_f (nI_ge (b := 5) hw (by omega)) (ys_eigen h4 hr hw hI.2.2 hF2 ?_)
        intro g' mn' te' r1 r2
        refine nm_r (nI_add _ _) (nm_r (nI_1 w) (ih (q.1 + cw s (kk w) N, g', mn', te') ⟨?_, ?_, r2⟩))
        · show q.1 + cw s (kk w) N = _
          rw [hI.1]; rfl
        · intro j hj
          show g' j = g j
          rw [r1 j hj]; exact hI.2.1 j hj
    refine loop_0 (fun n w (q : Nat) => wX_diagonal_19 (fun r u' => wpY_diagonal (fun r' v' => r' = r ∧ i_Rel (k + 5) u' v') (zY N g mn te dv ot fc kp rw) _) (nI N) (zA c) (zA m') (zA f') n (nI q) (nI w)) (fun w q => q = zs (fun w => cw s (kk w) N) w) 5 0 rfl ?_ ?_
    · intro n q hq
      have b := hb 5
      refine br_t (nI_le (a := 5) (Nat.le_refl _) (by omega)) ?_
      rw [hq]
      refine pk_eq (zs (fun w => cw s (kk w) N) 5) N (fun e => ?_) (fun e => ?_)
      · exact y 1 (by decide) ⟨fun _ => e, fun _ => rfl⟩
      · exact y 0 (by decide) ⟨fun z => absurd z (by decide), fun z => absurd z e⟩
    · intro n w q hw hq ih
      refine br_f (nI_ge (b := 5) hw (by omega)) (xs_fwr h4 hw hf0 (fun i hi => (fac_s h4 hF i hi).2.1) ?_)
      refine nm_r (nI_add _ _) (nm_r (nI_1 w) (ih _ ?_))
      rw [hq]; rfl
  · refine xr_no o1 (br_t rfl ?_)
    unfold wpY_diagonal; dsimp only
    exact yr_no o1 (br_t rfl ⟨rfl, zR h1 h4 hc hg h⟩)
