/-! invert -/
theorem msk : ∀ N, N < 5 → ∀ j, j < N → (nI (2 ^ N - 1) &&& (nI (2 ^ j) ^^^ (-1)) = nI (2 ^ N - 1 - 2 ^ j)) ∧ 2 ^ N - 1 - 2 ^ j < 2 ^ N ∧ pc (2 ^ N - 1 - 2 ^ j) = N - 1 := by decide +kernel
theorem fM_s (N : Nat) (A B : Nat → Nat → Fin 5) (s : Fin 5) (i k : Nat) : fM N (fun i j => s * A i j) B i k = s * fM N A B i k := by
  unfold fM
  have : ∀ n, fs (fun t => s * A i t * B t k) n = s * fs (fun t => A i t * B t k) n := by
    intro n
    induction n with
    | zero => show (0 : Fin 5) = s * 0; grind
    | succ n ih =>
      show fs (fun t => s * A i t * B t k) n + s * A i n * B n k = s * (fs (fun t => A i t * B t k) n + A i n * B n k)
      rw [ih]; grind
  exact this N
theorem fE_s (N : Nat) (c : Nat → Fin 5) (A : Nat → Nat → Fin 5) (s : Fin 5) : ∀ n, fE N (fun k => s * c k) A n = fun i k => s * fE N c A n i k := by
  intro n
  induction n with
  | zero => funext i k; show (0 : Fin 5) = s * 0; grind
  | succ n ih =>
    funext i k
    show (if i = k then fM N (fE N (fun k => s * c k) A n) A i k + s * c (4 - n) else fM N (fE N (fun k => s * c k) A n) A i k) = s * (if i = k then fM N (fE N c A n) A i k + c (4 - n) else fM N (fE N c A n) A i k)
    rw [ih, fM_s]
    split <;> grind
theorem fE_cong (N : Nat) {c c' : Nat → Fin 5} (A : Nat → Nat → Fin 5) (h : ∀ k, k < 5 → c k = c' k) : ∀ n, fE N c A n = fE N c' A n := by
  intro n
  induction n with
  | zero => rfl
  | succ n ih =>
    funext i k
    show (if i = k then fM N (fE N c A n) A i k + c (4 - n) else fM N (fE N c A n) A i k) = (if i = k then fM N (fE N c' A n) A i k + c' (4 - n) else fM N (fE N c' A n) A i k)
    rw [ih, h (4 - n) (by omega)]
theorem inv_u {N : Nat} (h1 : 1 ≤ N) (h4 : N ≤ 4) (d e : Fin 5) : - ((spw 4 N * d) * (spw 4 N * d) * (spw 4 N * d)) * (spw 4 (N - 1) * e) = e * (d * d * d) := by
  match N, h1, h4 with
  | 1, _, _ => simp only [spw, show 1 - 1 = 0 from rfl]; grind
  | 2, _, _ => simp only [spw, show 2 - 1 = 1 from rfl]; grind
  | 3, _, _ => simp only [spw, show 3 - 1 = 2 from rfl]; grind
  | 4, _, _ => simp only [spw, show 4 - 1 = 3 from rfl]; grind
theorem spw_z {N : Nat} (h4 : N ≤ 4) (d : Fin 5) : spw 4 N * d = 0 ↔ d = 0 := by
  match N, h4 with
  | 0, _ => revert d; decide
  | 1, _ => revert d; decide
  | 2, _ => revert d; decide
  | 3, _ => revert d; decide
  | 4, _ => revert d; decide
theorem ys_inv53 {post : Int32 → SY → Prop} {N d a by_ : Nat} {g : Nat → Nat} {mn te dv ot fc kp rw : Nat → Nat} (h1 : 1 ≤ N) (hN : N ≤ 4) (hd : d < 4) (ha : a < 4) (hb : by_ < 5) (hg : ∀ j, g j < 5)
    (H : ∀ (g' mn' te' : Nat → Nat), (∀ j, j < 64 → (j < 16 * d ∨ 16 * d + 16 ≤ j) → g' j = g j) → (∀ j, g' j < 5) →
      (∀ i j, i < N → j < N → kk (g' (16 * d + (N * i + j))) = adj (fun i j => kk (zSl g N a i j)) N i j * kk by_) → post 1 (zY N g' mn' te' dv ot fc kp rw)) :
    ∃ n53, wY_invert_53 post (nI d) (nI a) (nI (2 ^ N - 1)) (nI by_) n53 0 (nI N) (zA g) (zA mn) (zA te) (zA dv) (zA ot) (zA fc) (zA kp) (zA rw) := by
  have hsq := zi_sq hN
  obtain ⟨w1, w2⟩ := pw2 N (by omega)
  refine loop_0 (fun n i (s : (Nat → Nat) × (Nat → Nat) × (Nat → Nat)) => wY_invert_53 post (nI d) (nI a) (nI (2 ^ N - 1)) (nI by_) n (nI i) (nI N) (zA s.1) (zA s.2.1) (zA s.2.2) (zA dv) (zA ot) (zA fc) (zA kp) (zA rw))
    (fun i s => (∀ j, j < 64 → s.1 j = g j) ∧ (∀ j, s.1 j < 5) ∧ ∀ i' j', i' < i → i' < N → j' < N → kk (s.1 (64 + (N * i' + j'))) = adj (fun i j => kk (zSl g N a i j)) N i' j' * kk by_) N (g, mn, te) ⟨fun _ _ => rfl, hg, fun i' j' h => absurd h (by omega)⟩ ?_ ?_
  · intro n s hI
    refine br_t (nI_le (Nat.le_refl _) (by omega)) ?_
    refine ys_copy (d := d) (a := 4) (by omega) (by omega) (by omega) ?_
    intro g' q1 q2
    refine H g' s.2.1 s.2.2 ?_ (ycp5 hI.2.1 q1 q2) ?_
    · intro j hj e
      rw [q1 j e]; exact hI.1 j hj
    · intro i j hi hj
      have := zi_lt hi hj
      rw [q2 _ (by omega)]
      exact hI.2.2 i j hi hi hj
  · intro n i s hi hI ih
    refine br_f (nI_ge hi (by omega)) ?_
    refine loop_0 (fun n' j (s : (Nat → Nat) × (Nat → Nat) × (Nat → Nat)) => wY_invert_65 post (wY_invert_53 post (nI d) (nI a) (nI (2 ^ N - 1)) (nI by_) n) (nI d) (nI a) (nI (2 ^ N - 1)) (nI by_) (nI i) n' (nI j) (nI N) (zA s.1) (zA s.2.1) (zA s.2.2) (zA dv) (zA ot) (zA fc) (zA kp) (zA rw))
      (fun j s => (∀ j, j < 64 → s.1 j = g j) ∧ (∀ j, s.1 j < 5) ∧ ∀ i' j', (i' < i ∨ (i' = i ∧ j' < j)) → i' < N → j' < N → kk (s.1 (64 + (N * i' + j'))) = adj (fun i j => kk (zSl g N a i j)) N i' j' * kk by_) N s ⟨hI.1, hI.2.1, ?_⟩ ?_ ?_
    · intro i' j' h hi' hj'
      exact hI.2.2 i' j' (by omega) hi' hj'
    · intro n' s' hJ
      refine br_t (nI_le (Nat.le_refl _) (by omega)) (nm_r (nI_1 i) (ih s' ⟨hJ.1, hJ.2.1, ?_⟩))
      intro i' j' h hi' hj'
      exact hJ.2.2 i' j' (by omega) hi' hj'
    · intro n' j s' hj hJ ih'
      obtain ⟨mj1, mj2, mj3⟩ := msk N (by omega) j hj
      obtain ⟨mi1, mi2, mi3⟩ := msk N (by omega) i hi
      have hij := zi_lt hi hj
      refine br_f (nI_ge hj (by omega)) ?_
      rw [zshl (by omega), zshl (by omega), mj1, mi1]
      refine ys_findMinor (x := false) hN (by omega) hJ.2.1 mj2 mi2 ?_
      intro mn' te' p1 p2
      have esl : zSl s'.1 N a = zSl g N a := zSl_eq (fun t ht => hJ.1 _ (by omega))
      have hm0 := p1 0 (by decide)
      have hm := p2 0 (by decide)
      rw [mn_df _ (by omega) (by omega) (by rw [mj3, mi3]), mj3, esl] at hm
      have step : ∀ z : Nat, z < 5 → (z = if (i + j) % 2 = 0 then 1 else 4) → wY_invert_111 post (wY_invert_53 post (nI d) (nI a) (nI (2 ^ N - 1)) (nI by_) n) (wY_invert_65 post (wY_invert_53 post (nI d) (nI a) (nI (2 ^ N - 1)) (nI by_) n) (nI d) (nI a) (nI (2 ^ N - 1)) (nI by_) (nI i) n') (nI d) (nI a) (nI (2 ^ N - 1)) (nI by_) (nI i) (nI j) (nI z) (nI N) (zA s'.1) (zA mn') (zA te') (zA dv) (zA ot) (zA fc) (zA kp) (zA rw) := by
        intro z hz ez
        have l1 : mn' 0 * z ≤ 4 * 4 := Nat.mul_le_mul (by omega) (by omega)
        have l2 : mn' 0 * z * by_ ≤ 16 * 4 := Nat.mul_le_mul l1 (by omega)
        unfold wY_invert_111
        refine ⟨zf5, ?_, nm_r (e' := zA (zu s'.1 (64 + (N * i + j)) (mn' 0 * z * by_ % 5))) ?_ (nm_r (nI_1 j) (ih' (zu s'.1 (64 + (N * i + j)) (mn' 0 * z * by_ % 5), mn', te') ⟨?_, ?_, ?_⟩))⟩
        · rw [pk_mul, z64a, nI_add]; exact vp_in_nI (by omega) (by decide)
        · rw [pk_mul, z64a, nI_add, nI_clamp (by omega), zA_at, pk_mul, pk_mul, z5r (by omega), zA_upd, Nat.add_assoc]
        · intro j' hj'
          show zu s'.1 (64 + (N * i + j)) _ j' = g j'
          rw [zu_n (by omega)]; exact hJ.1 j' hj'
        · exact zu_lt hJ.2.1 (Nat.mod_lt _ (by decide))
        · intro i' j' h hi' hj'
          show kk (zu s'.1 (64 + (N * i + j)) _ (64 + (N * i' + j'))) = _
          by_cases e : 64 + (N * i' + j') = 64 + (N * i + j)
          · obtain ⟨rfl, rfl⟩ := zi_inj hj' hj (Nat.add_left_cancel e)
            rw [zu_s, kk_mod, kk_mul, kk_mul, hm, ez]
            unfold adj
            split
            · rw [show kk 1 = 1 from rfl]; grind
            · rw [show kk 4 = 4 from rfl]; grind
          · rw [zu_n e]
            refine hJ.2.2 i' j' ?_ hi' hj'
            rcases h with h | ⟨h, h'⟩
            · exact Or.inl h
            · refine Or.inr ⟨h, ?_⟩
              subst h
              by_cases e2 : j' = j
              · subst e2; exact absurd rfl e
              · omega
      have hm2 : (i + j) % 2 < 2 := Nat.mod_lt _ (by decide)
      refine ⟨zf2, ?_⟩
      rw [nI_add, z2r (by omega)]
      refine pk_eq ((i + j) % 2) 0 ?_ ?_
      · intro e
        exact step 1 (by decide) (by rw [if_pos e])
      · intro e
        exact step 4 (by decide) (by rw [if_neg e])
theorem i_vc_invert {k : Nat} {u : SX} {v : SY} (I : i_Rel k u v) (hk : k + 5 ≤ 2561) (v1 : Int32) (v2 : Int32) : wpX_invert (fun r u' => wpY_invert (fun r' v' => r' = r ∧ i_Rel (k + 5) u' v') v v1 v2) u v1 v2 := by
  obtain ⟨N, c, m, f, g, mn, te, dv, ot, fc, kp, rw, rfl, rfl, h1, h4, hc, hg, h⟩ := I
  have hsq := zi_sq h4
  unfold wpX_invert wpY_invert; dsimp only
  rcases zout v1 (n := 4) (by decide) with ⟨d, hd, rfl⟩ | o1
  · refine xr_ok hd (br_f zf1 ?_)
    rcases zout v2 (n := 4) (by decide) with ⟨a, ha, rfl⟩ | o2
    · refine xr_ok ha (br_f zf1 (xs_char h4 (by omega) hc ?_))
      intro m' p p1 p2
      have hb5 : (5 : Nat) ^ (N + 1) ≤ 5 ^ 5 := Nat.pow_le_pow_right (by decide) (by omega)
      have h55 : (5 : Nat) ^ 5 = 3125 := rfl
      have e0 := p2 0 (by decide)
      rw [ch_0 _ h4, zrel h ha] at e0
      have ev0 : kk (p % 5) = pd p 0 := by
        rw [kk_mod]; unfold pd; rw [Nat.pow_zero, Nat.div_one]
      have hp5 : p % 5 < 5 := Nat.mod_lt _ (by decide)
      refine ⟨zf5, nm_r (z5r (by omega)) (pk_eq (p % 5) 0 ?_ ?_)⟩
      · intro ez
        have hd0 : dtA (zSl g N a) N = 0 := by
          rw [ez, e0] at ev0
          exact (spw_z h4 _).mp ev0.symm
        refine yr_ok hd (br_f zf1 (yr_ok ha (br_f zf1 (nm_r (zall h4) (ys_det h4 (by omega) hg ?_)))))
        intro mn' te'
        rw [hd0]
        exact br_t rfl ⟨rfl, zR h1 h4 hc hg h⟩
      · intro enz
        have hdn : dtA (zSl g N a) N ≠ 0 := by
          intro z
          rw [z] at e0
          have : kk (p % 5) = kk 0 := by rw [ev0, e0, kk_0]; grind
          exact enz (kk_inj hp5 (by decide) this)
        generalize hD : dtA (zSl g N a) N = D at *
        have l1 : p % 5 * (p % 5) ≤ 4 * 4 := Nat.mul_le_mul (by omega) (by omega)
        have l2 : p % 5 * (p % 5) * (p % 5) ≤ 16 * 4 := Nat.mul_le_mul l1 (by omega)
        have l3 : p % 5 * (p % 5) * (p % 5) % 5 < 5 := Nat.mod_lt _ (by decide)
        have hq : p / 5 < 3125 := by omega
        unfold wpX_reciprocal
        refine ⟨zf5, ?_⟩
        rw [pk_mul, pk_mul, z5r (by omega)]
        refine nm_r (z5s (by omega)) ⟨zf5, ?_⟩
        rw [z5d (by omega)]
        refine xs_pm (p := 0) (by decide) (by omega) hq ?_
        have ksc : kk (5 - p % 5 * (p % 5) * (p % 5) % 5) = - ((spw 4 N * D) * (spw 4 N * D) * (spw 4 N * D)) := by
          rw [kk_5s (by omega), kk_mod, kk_mul, kk_mul, ev0, e0]
        generalize hS : 5 - p % 5 * (p % 5) * (p % 5) % 5 = S at *
        have hpd : ∀ k, k < 5 → pd (pm 0 S (p / 5)) k = kk S * pd p (k + 1) := by
          intro k hk
          rw [pd_pm _ _ _ _ hk]
          have z0 : pd 0 k = 0 := by unfold pd; rw [Nat.zero_div]; rfl
          have z1 : pd (p / 5) k = pd p (k + 1) := by
            unfold pd
            rw [Nat.div_div_eq_div_mul, Nat.pow_succ, Nat.mul_comm]
          rw [z0, z1]; grind
        refine xs_eval h4 (pm_lt _ _ _) hd ha hc (zHas_sl c N a) ?_
        intro c' r1 r2 r3
        refine yr_ok hd (br_f zf1 (yr_ok ha (br_f zf1 (nm_r (zall h4) (ys_det h4 (by omega) hg ?_)))))
        intro mn' te'
        rw [hD]
        have Dv : D.val < 5 := D.isLt
        have Dn : D.val ≠ 0 := fun z => hdn (Fin.ext z)
        have m1 : D.val * D.val ≤ 4 * 4 := Nat.mul_le_mul (by omega) (by omega)
        have m2 : D.val * D.val * D.val ≤ 16 * 4 := Nat.mul_le_mul m1 (by omega)
        refine br_f (nI_ne0 (by omega) (by omega)) ?_
        unfold wpY_inverse
        refine ⟨zf5, ?_⟩
        rw [pk_mul, pk_mul, z5r (by omega)]
        refine ys_inv53 h1 h4 hd ha (Nat.mod_lt _ (by decide)) hg ?_
        intro g' mn2 te2 s1 s2 s3
        refine ⟨rfl, zR h1 h4 r2 s2 (zSub (d := d) h hsq r1 s1 ?_)⟩
        intro t ht
        obtain ⟨i, j, hi, hj, rfl⟩ := zij ht
        apply kk_inj (r2 _) (s2 _)
        rw [s3 i j hi hj, r3 i j hi hj, kk_zEv, kk_mod, kk_mul, kk_mul, kk_fin, zrel h ha]
        have q4 : pd p 5 = 0 := pd_hi (j := 5) (by omega) (by omega)
        have ec : fE N (pd (pm 0 S (p / 5))) (fun i j => kk (zSl g N a i j)) 5 i j = kk S * fE N (fun k => if k < 4 then chp (zSl g N a) N (k + 1) else 0) (fun i j => kk (zSl g N a i j)) 5 i j := by
          rw [fE_cong N (c' := fun k => kk S * (fun k => if k < 4 then chp (zSl g N a) N (k + 1) else 0) k) _ ?_ 5, fE_s]
          intro k hk
          show pd (pm 0 S (p / 5)) k = kk S * (if k < 4 then chp (zSl g N a) N (k + 1) else 0)
          rw [hpd k hk]
          by_cases e : k < 4
          · rw [if_pos e, p2 (k + 1) (by omega), zrel h ha]
          · have : k = 4 := by omega
            subst this
            rw [if_neg e, q4]
        rw [ec, aj_all _ _ h1 h4 ?_ ?_ hi hj, ksc]
        · exact inv_u h1 h4 D _
        · intro k hk
          show (if k < 4 then chp (zSl g N a) N (k + 1) else 0) = _
          rw [if_pos hk]
        · show (if 4 < 4 then chp (zSl g N a) N (4 + 1) else 0) = 0
          rw [if_neg (by decide)]
    · exact xr_no o2 (br_t rfl (yr_ok hd (br_f zf1 (yr_no o2 (br_t rfl ⟨rfl, zR h1 h4 hc hg h⟩)))))
  · exact xr_no o1 (br_t rfl (yr_no o1 (br_t rfl ⟨rfl, zR h1 h4 hc hg h⟩)))
