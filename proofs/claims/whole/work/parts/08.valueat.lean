/-! valueAt; the component's evaluate -/
/-- Horner's values: after s places of the polynomial p -/
def zEv (N p : Nat) (A : Nat → Nat → Nat) : Nat → (Nat → Nat → Nat)
  | 0 => fun _ _ => 0
  | s + 1 => fun i k => if i = k then (zM N (zEv N p A s) A i k + p / 5 ^ (4 - s) % 5) % 5 else zM N (zEv N p A s) A i k
theorem z5p : ∀ s, s < 5 → 5 ^ (5 - s) / 5 = 5 ^ (4 - s) ∧ 5 ^ (5 - (s + 1)) = 5 ^ (4 - s) ∧ 5 ^ (4 - s) < 2 ^ 31 ∧ 0 < 5 ^ (4 - s) ∧ 5 ^ (5 - s) < 2 ^ 31 := by decide
theorem xs_eval {post : SX → Prop} {N p d a : Nat} {c m f : Nat → Nat} {A : Nat → Nat → Nat} (hN : N ≤ 4) (hp : p < 3125) (hd : d < 4) (ha : a < 4) (hc : ∀ j, c j < 5) (hA : zHas c N a A)
    (H : ∀ c' : Nat → Nat, (∀ j, j < 64 → (j < 16 * d ∨ 16 * d + N * N ≤ j) → c' j = c j) → (∀ j, c' j < 5) → zHas c' N d (zEv N p A 5) → post (zX N c' m f)) :
    wpX_evaluate post (zX N c m f) (nI d) (nI a) (nI p) := by
  have hsq := zi_sq hN
  unfold wpX_evaluate; dsimp only
  refine xs_clear (d := 4) hN (by omega) ?_
  intro c1 q1 q2
  refine loop_0 (fun n i (s : Nat → Nat) => wX_evaluate_13 post (nI d) (nI a) (nI p) n (nI (5 ^ (5 - i))) (nI i) (nI N) (zA s) (zA m) (zA f))
    (fun i s => (∀ j, j < 64 → s j = c j) ∧ (∀ j, s j < 5) ∧ zHas s N 4 (zEv N p A i)) 5 c1 ⟨fun j hj => q1 j (by omega), xcl5 hc q1 q2, fun i k hi hk => q2 _ (zi_lt hi hk)⟩ ?_ ?_
  · intro n s hI
    refine br_t (nI_le (a := 5) (Nat.le_refl _) (by omega)) ?_
    refine xs_copy (a := 4) hN (by omega) (by omega) (by omega) ?_
    intro c' r1 r2
    refine H c' ?_ (xcp5 hI.2.1 r1 r2) (zHas_of hI.2.2 r2)
    intro j hj e
    rw [r1 j e]; exact hI.1 j hj
  · intro n i s hi hI ih
    obtain ⟨e1, e2, e3, e4, e5⟩ := z5p i hi
    refine br_f (nI_ge (b := 5) hi (by omega)) ⟨zf5, nm_r (e' := nI (5 ^ (4 - i))) (by rw [z5d e5, e1]) ?_⟩
    refine xs_mul (d := 4) (a := 4) (b := a) hN (by omega) (by omega) (by omega) hI.2.1 ?_
    intro s1 t1 t2 t3
    have hdiv : p / 5 ^ (4 - i) < 2 ^ 31 := Nat.lt_of_le_of_lt (Nat.div_le_self _ _) (by omega)
    refine ⟨nI_ne0 e4 e3, zf5, ?_⟩
    rw [pk_div (by omega) e4 e3, z5r hdiv]
    refine xs_addDiag (d := 4) (v := p / 5 ^ (4 - i) % 5) hN (by omega) (Nat.mod_lt _ (by decide)) t2 ?_
    intro s2 w1 w2 w3
    refine nm_r (nI_1 i) ?_
    rw [← e2]
    refine ih s2 ⟨?_, w2, ?_⟩
    · intro j hj
      rw [w1 j (by omega), t1 j (by omega) (by omega)]; exact hI.1 j hj
    · have hA' : zHas s N a A := zHas_of hA (fun t ht => hI.1 _ (by omega))
      intro i' k' hi' hk'
      rw [w3 i' k' hi' hk', t3 i' k' hi' hk', zP_M hI.2.2 hA' hi' hk']
      rfl
theorem ys_vdiag {post : Int32 → SY → Prop} {J : Int32 → Int32 → Int32 → (Nat → Int32) → (Nat → Int32) → (Nat → Int32) → (Nat → Int32) → (Nat → Int32) → (Nat → Int32) → (Nat → Int32) → (Nat → Int32) → Prop} {N d v q s : Nat} {x3 : Int32} {g : Nat → Nat} {mn te dv ot fc kp rw : Nat → Nat} (hN : N ≤ 4) (hd : d < 4) (hv : v < 5) (hq : q < 2 ^ 31) (hg : ∀ j, g j < 5)
    (H : ∀ g' : Nat → Nat, (∀ j, (j < 16 * d ∨ 16 * d + N * N ≤ j) → g' j = g j) → (∀ j, g' j < 5) →
      (∀ i j, i < N → j < N → g' (16 * d + (N * i + j)) = if i = j then (g (16 * d + (N * i + j)) + v) % 5 else g (16 * d + (N * i + j))) → J (nI (q / 5)) (nI (s + 1)) (nI N) (zA g') (zA mn) (zA te) (zA dv) (zA ot) (zA fc) (zA kp) (zA rw)) :
    ∃ n, wY_valueAt_112 post J (nI d) x3 (nI q) (nI s) (nI v) (nI N) n 0 (zA g) (zA mn) (zA te) (zA dv) (zA ot) (zA fc) (zA kp) (zA rw) := by
  have hsq := zi_sq hN
  refine loop_0 (fun n i (s' : Nat → Nat) => wY_valueAt_112 post J (nI d) x3 (nI q) (nI s) (nI v) (nI N) n (nI i) (zA s') (zA mn) (zA te) (zA dv) (zA ot) (zA fc) (zA kp) (zA rw))
    (fun k s => (∀ j, (j < 16 * d ∨ 16 * d + N * N ≤ j) → s j = g j) ∧ (∀ j, s j < 5) ∧ ∀ i j, i < N → j < N → s (16 * d + (N * i + j)) = if i = j ∧ i < k then (g (16 * d + (N * i + j)) + v) % 5 else g (16 * d + (N * i + j))) N g ⟨fun _ _ => rfl, hg, fun i j _ _ => (if_neg (by omega)).symm⟩ ?_ ?_
  · intro n s' hI
    refine br_t (nI_le (Nat.le_refl _) (by omega)) ⟨zf5, nm_r (z5d hq) (nm_r (nI_1 s) (H s' hI.1 hI.2.1 ?_))⟩
    intro i j hi hj
    rw [hI.2.2 i j hi hj]
    by_cases e : i = j
    · rw [if_pos ⟨e, hi⟩, if_pos e]
    · rw [if_neg (by omega), if_neg e]
  · intro n i s' hi hI ih
    have hlt := zi_lt hi hi
    have hs := hI.2.1 (16 * d + (N * i + i))
    have e0 : (16 : Int32) * nI d + nI i * (nI N + 1) = nI (16 * d + (N * i + i)) := by
      rw [z16m, nI_1, pk_mul, nI_add, show i * (N + 1) = N * i + i by rw [Nat.mul_succ, Nat.mul_comm i N]]
    refine br_f (nI_ge hi (by omega)) ⟨?_, zf5, ?_, nm_r (e' := zA (zu s' (16 * d + (N * i + i)) ((s' (16 * d + (N * i + i)) + v) % 5))) ?_ (nm_r (nI_1 i) (ih _ ⟨?_, ?_, ?_⟩))⟩
    · rw [e0]; exact vp_in_nI (by omega) (by decide)
    · rw [e0]; exact vp_in_nI (by omega) (by decide)
    · rw [e0, nI_clamp (by omega), zA_at, nI_add, z5r (by omega), zA_upd]
    · intro j hj
      rw [zu_n (by omega)]
      exact hI.1 j hj
    · exact zu_lt hI.2.1 (by omega)
    · intro i' j' hi' hj'
      by_cases e : 16 * d + (N * i' + j') = 16 * d + (N * i + i)
      · obtain ⟨rfl, rfl⟩ := zi_inj hj' hi (Nat.add_left_cancel e)
        rw [zu_s, if_pos ⟨rfl, by omega⟩, hI.2.2 _ _ hi hi, if_neg (by omega)]
      · rw [zu_n e, hI.2.2 i' j' hi' hj']
        by_cases e2 : i' = j' ∧ i' < i
        · rw [if_pos e2, if_pos ⟨e2.1, by omega⟩]
        · have e3 : ¬ (i' = j' ∧ i' < i + 1) := by
            intro z
            obtain ⟨z1, z2⟩ := z
            subst z1
            have : i' = i := by
              by_cases z3 : i' = i
              · exact z3
              · exact absurd ⟨rfl, by omega⟩ e2
            subst this
            exact e rfl
          rw [if_neg e2, if_neg e3]
theorem ys_val73 {post : Int32 → SY → Prop} {N p d : Nat} {g : Nat → Nat} {mn te dv ot fc kp rw : Nat → Nat} {A : Nat → Nat → Nat} (hN : N ≤ 4) (hp : p < 3125) (hd : d < 4) (hg : ∀ j, g j < 5) (hA : zHas g N 4 A) (h0 : zHas g N d (fun _ _ => 0))
    (H : ∀ g' : Nat → Nat, (∀ j, j < 64 → (j < 16 * d ∨ 16 * d + 16 ≤ j) → g' j = g j) → (∀ j, g' j < 5) → zHas g' N d (zEv N p A 5) → post 1 (zY N g' mn te dv ot fc kp rw)) :
    ∃ n73, wY_valueAt_73 post (nI d) (nI p) n73 (nI 625) 0 (nI N) (zA g) (zA mn) (zA te) (zA dv) (zA ot) (zA fc) (zA kp) (zA rw) := by
  have hsq := zi_sq hN
  refine loop_0 (fun n i (s : Nat → Nat) => wY_valueAt_73 post (nI d) (nI p) n (nI (5 ^ (5 - i) / 5)) (nI i) (nI N) (zA s) (zA mn) (zA te) (zA dv) (zA ot) (zA fc) (zA kp) (zA rw))
    (fun i s => (∀ j, j < 64 → (j < 16 * d ∨ 16 * d + 16 ≤ j) → s j = g j) ∧ (∀ j, s j < 5) ∧ zHas s N d (zEv N p A i) ∧ zHas s N 4 A) 5 g ⟨fun _ _ _ => rfl, hg, h0, hA⟩ ?_ ?_
  · intro n s hI
    exact br_t (nI_le (a := 5) (Nat.le_refl _) (by omega)) (H s hI.1 hI.2.1 hI.2.2.1)
  · intro n i s hi hI ih
    obtain ⟨e1, e2, e3, e4, e5⟩ := z5p i hi
    refine br_f (nI_ge (b := 5) hi (by omega)) ?_
    refine ys_mul (a := d) (b := 4) hN (by omega) (by omega) hI.2.1 ?_
    intro s1 q1 q2 q3
    refine ys_copy (d := d) (a := 5) (by omega) (by omega) (by omega) ?_
    intro s2 t1 t2
    have hdiv : p / 5 ^ (4 - i) < 2 ^ 31 := Nat.lt_of_le_of_lt (Nat.div_le_self _ _) (by omega)
    rw [e1]
    refine br_t (nI_le (a := 1) e4 e3) ⟨nI_ne0 e4 e3, zf5, nm_r (e' := nI (p / 5 ^ (4 - i) % 5)) (by rw [pk_div (by omega) e4 e3, z5r hdiv]) ?_⟩
    refine ys_vdiag hN hd (Nat.mod_lt _ (by decide)) e3 (ycp5 (e := 5) q2 t1 t2) ?_
    intro s3 w1 w2 w3
    rw [← e2]
    refine ih s3 ⟨?_, w2, ?_, ?_⟩
    · intro j hj e
      rw [w1 j (by omega), t1 j (by omega), q1 j (by omega)]; exact hI.1 j hj e
    · intro i' k' hi' hk'
      have := zi_lt hi' hk'
      have e6 : s2 (16 * d + (N * i' + k')) = zM N (zEv N p A i) A i' k' := by
        rw [t2 _ (by omega)]
        show s1 (80 + (N * i' + k')) = _
        rw [q3 i' k' hi' hk']
        exact zP_M hI.2.2.1 hI.2.2.2 hi' hk'
      rw [w3 i' k' hi' hk', e6]
      rfl
    · refine zHas_of hI.2.2.2 (fun t ht => ?_)
      rw [w1 _ (by omega), t1 _ (by omega), q1 _ (by omega)]
theorem ys_val44 {post : Int32 → SY → Prop} {N d : Nat} {x3 x4 : Int32} {g : Nat → Nat} {mn te dv ot fc kp rw : Nat → Nat} (hN : N ≤ 4) (hd : d < 4) (hg : ∀ j, g j < 5)
    (H : ∀ g' : Nat → Nat, (∀ j, (j < 16 * d ∨ 16 * d + 16 ≤ j) → g' j = g j) → (∀ j, g' j < 5) → (∀ t, t < 16 → g' (16 * d + t) = 0) → ∃ n73, wY_valueAt_73 post (nI d) x3 n73 x4 0 (nI N) (zA g') (zA mn) (zA te) (zA dv) (zA ot) (zA fc) (zA kp) (zA rw)) :
    ∃ n44, wY_valueAt_44 post (nI d) x3 x4 (nI N) n44 0 (zA g) (zA mn) (zA te) (zA dv) (zA ot) (zA fc) (zA kp) (zA rw) := by
  refine loop_0 (fun n i (s : Nat → Nat) => wY_valueAt_44 post (nI d) x3 x4 (nI N) n (nI i) (zA s) (zA mn) (zA te) (zA dv) (zA ot) (zA fc) (zA kp) (zA rw))
    (fun i s => (∀ j, (j < 16 * d ∨ 16 * d + i ≤ j) → s j = g j) ∧ (∀ j, s j < 5) ∧ ∀ t, t < i → s (16 * d + t) = 0) 16 g ⟨fun _ _ => rfl, hg, fun t h => absurd h (by omega)⟩ ?_ ?_
  · intro n s hI
    exact br_t (nI_le (a := 16) (Nat.le_refl _) (by omega)) (H s hI.1 hI.2.1 hI.2.2)
  · intro n i s hi hI ih
    refine br_f (nI_ge (b := 16) hi (by omega)) ⟨?_, nm_r (e' := zA (zu s (16 * d + i) 0)) ?_ (nm_r (nI_1 i) (ih _ ⟨?_, ?_, ?_⟩))⟩
    · rw [z16m, nI_add]; exact vp_in_nI (by omega) (by decide)
    · rw [z16m, nI_add, nI_clamp (by omega), ← zA_upd]; rfl
    · intro j hj
      rw [zu_n (by omega)]
      exact hI.1 j (by omega)
    · exact zu_lt hI.2.1 (by decide)
    · intro t ht
      by_cases e : t = i
      · subst e
        exact zu_s _ _ _
      · rw [zu_n (by omega)]
        exact hI.2.2 t (by omega)
theorem i_vc_valueAt {k : Nat} {u : SX} {v : SY} (I : i_Rel k u v) (hk : k + 5 ≤ 2561) (v1 : Int32) (v2 : Int32) (v3 : Int32) : wpX_valueAt (fun r u' => wpY_valueAt (fun r' v' => r' = r ∧ i_Rel (k + 5) u' v') v v1 v2 v3) u v1 v2 v3 := by
  obtain ⟨N, c, m, f, g, mn, te, dv, ot, fc, kp, rw, rfl, rfl, h1, h4, hc, hg, h⟩ := I
  have hsq := zi_sq h4
  have J : i_Rel (k + 5) (zX N c m f) (zY N g mn te dv ot fc kp rw) := zR h1 h4 hc hg h
  unfold wpX_valueAt wpY_valueAt; dsimp only
  rcases zout v1 (n := 4) (by decide) with ⟨d, hd, rfl⟩ | o1
  · refine xr_ok hd (br_f zf1 ?_)
    rcases zout v2 (n := 4) (by decide) with ⟨a, ha, rfl⟩ | o2
    · refine xr_ok ha (br_f zf1 ?_)
      rcases zout v3 (n := 3125) (by decide) with ⟨p, hp, rfl⟩ | o3
      · refine br_f (nI_pos (by omega)) (br_t (nI_lt (b := 3125) hp (by decide)) ?_)
        refine xs_eval h4 hp hd ha hc (zHas_sl c N a) ?_
        intro c' r1 r2 r3
        refine yr_ok hd (br_f zf1 ?_)
        refine yr_ok ha (br_f zf1 ?_)
        refine ys_in (n := p) (a := 0) (b := 3124) (Nat.zero_le _) (by omega) (by decide) (br_f zf1 ?_)
        refine ys_copy (d := 4) (by omega) (by omega) (by omega) ?_
        intro g1 p1 p2
        refine ys_val44 h4 hd (ycp5 hg p1 p2) ?_
        intro g2 p3 p4 p5
        have hA : zHas g2 N 4 (zSl c N a) := by
          refine zHas_of (zHas_sl c N a) (fun t ht => ?_)
          rw [p3 _ (by omega), p2 t (by omega), h a t ha ht]
        have h0 : zHas g2 N d (fun _ _ => 0) := fun i k hi hk => p5 _ (by have := zi_lt hi hk; omega)
        refine ys_val73 h4 hp hd p4 hA h0 ?_
        intro g' s1 s2 s3
        refine ⟨rfl, zR h1 h4 r2 s2 (zSub (d := d) h hsq r1 ?_ (zHas_eq r3 s3))⟩
        intro j hj e
        rw [s1 j hj e, p3 j e, p1 j (by omega)]
      · have hy := fun (P : Int32 → Prop) (H : P 0) => ys_inO (post := P) (u := zY N g mn te dv ot fc kp rw) (n := 3124) (by decide) o3 H
        refine zOutL (n := 3124) (by decide) o3 ?_ (fun q0 q => br_f ?_ ?_)
        · exact yr_ok hd (br_f zf1 (yr_ok ha (br_f zf1 (hy _ (br_t rfl ⟨rfl, J⟩)))))
        · intro z
          obtain ⟨j, hj, rfl⟩ := nI_of q0
          exact q (nI_le (b := 3124) (by have := (nI_ltI (b := 3125) hj (by decide)).mp z; omega) (by decide))
        · exact yr_ok hd (br_f zf1 (yr_ok ha (br_f zf1 (hy _ (br_t rfl ⟨rfl, J⟩)))))
    · exact xr_no o2 (br_t rfl (yr_ok hd (br_f zf1 (yr_no o2 (br_t rfl ⟨rfl, J⟩)))))
  · exact xr_no o1 (br_t rfl (yr_no o1 (br_t rfl ⟨rfl, J⟩)))
