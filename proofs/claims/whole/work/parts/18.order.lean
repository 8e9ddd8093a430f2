/-! order -/
def oS (N : Nat) (A : Nat → Nat → Nat) : Nat → (Nat → Nat → Nat)
  | 0 => A
  | j + 1 => zM N (oS N A j) A
def isI (N : Nat) (X : Nat → Nat → Nat) : Prop := ∀ i k, i < N → k < N → X i k = if i = k then 1 else 0
theorem fM_idL {N : Nat} (hN : N ≤ 4) (X : Nat → Nat → Fin 5) {i k : Nat} (hi : i < N) : fM N (fun i k => if i = k then 1 else 0) X i k = X i k := by
  match N, hN, i, hi with
  | 1, _, 0, _ => simp [fM, fs]; grind
  | 2, _, 0, _ => simp [fM, fs]; grind
  | 2, _, 1, _ => simp [fM, fs]; grind
  | 3, _, 0, _ => simp [fM, fs]; grind
  | 3, _, 1, _ => simp [fM, fs]; grind
  | 3, _, 2, _ => simp [fM, fs]; grind
  | 4, _, 0, _ => simp [fM, fs]; grind
  | 4, _, 1, _ => simp [fM, fs]; grind
  | 4, _, 2, _ => simp [fM, fs]; grind
  | 4, _, 3, _ => simp [fM, fs]; grind
theorem oS_lt {N : Nat} {A : Nat → Nat → Nat} (hA : ∀ i k, A i k < 5) (j i k : Nat) : oS N A j i k < 5 := by
  cases j with
  | zero => exact hA i k
  | succ j => exact zM_lt _ _ _ _ _
theorem oS_k {N : Nat} (hN : N ≤ 4) (A : Nat → Nat → Nat) : ∀ j, fEq N (fun i k => kk (oS N A j i k)) (fP N (fun i j => kk (A i j)) (j + 1)) := by
  intro j
  induction j with
  | zero =>
    intro i k hi hk
    exact (fM_idL hN (fun i j => kk (A i j)) hi).symm
  | succ j ih =>
    intro i k hi hk
    show kk (zM N (oS N A j) A i k) = fM N (fP N (fun i j => kk (A i j)) (j + 1)) (fun i j => kk (A i j)) i k
    rw [kk_zM]
    exact fM_eqL _ ih hi
theorem oS_ex {N : Nat} (h1 : 1 ≤ N) (h4 : N ≤ 4) {A : Nat → Nat → Nat} (hA : ∀ i k, A i k < 5) (hd : dtA A N ≠ 0) : ∃ j, (j < 624 ∧ isI N (oS N A j)) ∧ ∀ j', j' < j → ¬ isI N (oS N A j') := by
  obtain ⟨d, hd1, hd2⟩ := ord_ex A h1 h4 hd
  have hI : isI N (oS N A d) := by
    intro i k hi hk
    apply kk_inj (oS_lt hA d i k) (by split <;> decide)
    have := oS_k h4 A d i k hi hk
    dsimp only at this
    rw [this, hd2 i k hi hk]
    dsimp only
    split <;> rfl
  obtain ⟨j, hj, hl⟩ := pk_least (fun j => isI N (oS N A j)) ⟨d, hI⟩
  refine ⟨j, ⟨?_, hj⟩, hl⟩
  by_cases e : j < 624
  · exact e
  · exact absurd hI (hl d (by omega))
theorem xs_order {post : Int32 → SX → Prop} {N r j0 : Nat} {c m f : Nat → Nat} {A : Nat → Nat → Nat} (hN : N ≤ 4) (hr : r < 4) (hc : ∀ j, c j < 5) (hA : zHas c N r A) (hW : zHas c N 4 A) (hj : j0 < 624) (hI : isI N (oS N A j0)) (hl : ∀ j', j' < j0 → ¬ isI N (oS N A j'))
    (H : ∀ c' : Nat → Nat, (∀ j, j < 64 → c' j = c j) → (∀ j, c' j < 5) → post (nI (j0 + 1)) (zX N c' m f)) :
    ∃ n31, wX_order_31 post (nI r) n31 1 (nI N) (zA c) (zA m) (zA f) := by
  have hsq := zi_sq hN
  have tr : ∀ (s : Nat → Nat) (X : Nat → Nat → Nat), zHas s N 4 X → ((∀ i k, i < N → k < N → s (16 * 4 + (N * i + k)) = if i = k then 1 else 0) ↔ isI N X) := by
    intro s X hX
    refine ⟨fun h i k hi hk => ?_, fun h i k hi hk => ?_⟩
    · rw [← hX i k hi hk]; exact h i k hi hk
    · rw [hX i k hi hk]; exact h i k hi hk
  refine loop_0 (fun n i (s : Nat → Nat) => wX_order_31 post (nI r) n (nI (i + 1)) (nI N) (zA s) (zA m) (zA f))
    (fun i s => (∀ j, j < 64 → s j = c j) ∧ (∀ j, s j < 5) ∧ zHas s N 4 (oS N A i)) j0 c ⟨fun _ _ => rfl, hc, hW⟩ ?_ ?_
  · intro n s hS
    refine br_f (nI_ge (b := 1000000) (by omega) (by decide)) ?_
    refine xs_isId (s := 4) hN (by omega) hS.2.1 (fun _ => br_f zf1 (H s hS.1 hS.2.1)) (fun z => absurd ((tr s _ hS.2.2).mpr hI) z)
  · intro n i s hi hS ih
    refine br_f (nI_ge (b := 1000000) (by omega) (by decide)) ?_
    refine xs_isId (s := 4) hN (by omega) hS.2.1 (fun z => absurd ((tr s _ hS.2.2).mp z) (hl i hi)) (fun _ => br_t rfl ?_)
    refine xs_mul (d := 4) (a := 4) (b := r) hN (by omega) (by omega) (by omega) hS.2.1 ?_
    intro c' q1 q2 q3
    refine nm_r (nI_1 (i + 1)) (ih c' ⟨?_, q2, ?_⟩)
    · intro j hj
      rw [q1 j (by omega) (by omega)]; exact hS.1 j hj
    · intro i' k' hi' hk'
      rw [q3 i' k' hi' hk']
      exact zP_M hS.2.2 (zHas_of hA (fun t ht => hS.1 _ (by omega))) hi' hk'
theorem ys_o41 {post : Int32 → SY → Prop} {J : Int32 → Int32 → (Nat → Int32) → (Nat → Int32) → (Nat → Int32) → (Nat → Int32) → (Nat → Int32) → (Nat → Int32) → (Nat → Int32) → (Nat → Int32) → Prop} {x2 : Int32} {N r : Nat} {g : Nat → Nat} {mn te dv ot fc kp rw : Nat → Nat} (hN : N ≤ 4) (hg : ∀ j, g j < 5)
    (H1 : (∀ t, t < N * N → g (64 + t) = if t % (N + 1) = 0 then 1 else 0) → post x2 (zY N g mn te dv ot fc kp rw))
    (H0 : (¬ ∀ t, t < N * N → g (64 + t) = if t % (N + 1) = 0 then 1 else 0) → wpY_multiply (fun u => match u with | (f_n_37, a_regs_38, a_minor_39, a_term_40, a_divisor_41, a_other_42, a_factors_43, a_kept_44, a_rows_45) => (wpY_copy (fun u => match u with | (f_n_47, a_regs_48, a_minor_49, a_term_50, a_divisor_51, a_other_52, a_factors_53, a_kept_54, a_rows_55) => (∀ x2_56 : Int32, x2_56 = x2 + 1 → (J x2_56 f_n_47 a_regs_48 a_minor_49 a_term_50 a_divisor_51 a_other_52 a_factors_53 a_kept_54 a_rows_55))) (f_n_37, a_regs_38, a_minor_39, a_term_40, a_divisor_41, a_other_42, a_factors_43, a_kept_44, a_rows_45) 4 5)) (zY N g mn te dv ot fc kp rw) 4 (nI r)) :
    ∃ n41, wY_order_41 post J (nI r) x2 (nI N) (zA g) (zA mn) (zA te) (zA dv) (zA ot) (zA fc) (zA kp) (zA rw) n41 1 0 := by
  have hsq := zi_sq hN
  refine loop_0 (fun n t (q : Nat) => wY_order_41 post J (nI r) x2 (nI N) (zA g) (zA mn) (zA te) (zA dv) (zA ot) (zA fc) (zA kp) (zA rw) n (nI q) (nI t))
    (fun t q => q < 2 ∧ (q = 1 ↔ ∀ t', t' < t → g (64 + t') = if t' % (N + 1) = 0 then 1 else 0)) (N * N) 1 ⟨by decide, fun _ t' h => absurd h (by omega), fun _ => rfl⟩ ?_ ?_
  · intro n q hI
    refine br_t (by rw [pk_mul]; exact nI_le (Nat.le_refl _) (by omega)) (pk_eq q 0 ?_ ?_ (ha := by have := hI.1; omega))
    · intro e
      exact H0 (fun z => absurd (hI.2.mpr z) (by omega))
    · intro e
      exact H1 (hI.2.mp (by have := hI.1; omega))
  · intro n t q ht hI ih
    have gt := hg (64 + t)
    have step : ∀ z : Nat, z < 5 → (z = if t % (N + 1) = 0 then 1 else 0) → wY_order_82 post J (wY_order_41 post J (nI r) x2 (nI N) (zA g) (zA mn) (zA te) (zA dv) (zA ot) (zA fc) (zA kp) (zA rw) n) (nI r) x2 (nI q) (nI t) (nI z) (nI (g (64 + t))) (nI N) (zA g) (zA mn) (zA te) (zA dv) (zA ot) (zA fc) (zA kp) (zA rw) := by
      intro z hz ez
      unfold wY_order_82
      refine pk_eq (g (64 + t)) z ?_ ?_
      · intro e
        refine nm_r (nI_1 t) (ih q ⟨hI.1, ?_⟩)
        rw [hI.2]
        refine ⟨fun h t' ht' => ?_, fun h t' ht' => h t' (by omega)⟩
        by_cases e' : t' = t
        · subst e'; rw [e, ez]
        · exact h t' (by omega)
      · intro e
        refine nm_r (nI_1 t) (ih 0 ⟨by decide, fun z => absurd z (by decide), fun h => ?_⟩)
        exact absurd (by rw [h t (by omega), ez]) e
    refine br_f (by rw [pk_mul]; exact nI_ge ht (by omega)) ?_
    rw [z64a, nI_clamp (by omega), zA_at, nI_1, pk_rem (by omega) (by omega) (by omega)]
    refine ⟨vp_in_nI (by omega) (by decide), nI_ne0 (by omega) (by omega), pk_eq (t % (N + 1)) 0 ?_ ?_ (ha := Nat.lt_of_le_of_lt (Nat.mod_le _ _) (by omega))⟩
    · intro e
      exact step 1 (by decide) (by rw [if_pos e])
    · intro e
      exact step 0 (by decide) (by rw [if_neg e])
theorem ys_order {post : Int32 → SY → Prop} {N r j0 : Nat} {g : Nat → Nat} {mn te dv ot fc kp rw : Nat → Nat} {A : Nat → Nat → Nat} (hN : N ≤ 4) (hr : r < 4) (hg : ∀ j, g j < 5) (hA : zHas g N r A) (hW : zHas g N 4 A) (hj : j0 < 624) (hI : isI N (oS N A j0)) (hl : ∀ j', j' < j0 → ¬ isI N (oS N A j'))
    (H : ∀ g' : Nat → Nat, (∀ j, j < 64 → g' j = g j) → (∀ j, g' j < 5) → post (nI (j0 + 1)) (zY N g' mn te dv ot fc kp rw)) :
    ∃ n29, wY_order_29 post (nI r) n29 1 (nI N) (zA g) (zA mn) (zA te) (zA dv) (zA ot) (zA fc) (zA kp) (zA rw) := by
  have hsq := zi_sq hN
  have tr : ∀ (s : Nat → Nat) (X : Nat → Nat → Nat), zHas s N 4 X → ((∀ t, t < N * N → s (64 + t) = if t % (N + 1) = 0 then 1 else 0) ↔ isI N X) := by
    intro s X hX
    refine ⟨fun h i k hi hk => ?_, fun h t ht => ?_⟩
    · rw [← hX i k hi hk]
      show s (64 + (N * i + k)) = _
      rw [h _ (zi_lt hi hk)]
      have := zdiag N hN i hi k hk
      by_cases e : i = k
      · rw [if_pos e, if_pos (this.mpr e)]
      · rw [if_neg e, if_neg (fun z => e (this.mp z))]
    · obtain ⟨i, k, hi, hk, rfl⟩ := zij ht
      show s (16 * 4 + (N * i + k)) = _
      rw [hX i k hi hk, h i k hi hk]
      have := zdiag N hN i hi k hk
      by_cases e : i = k
      · rw [if_pos e, if_pos (this.mpr e)]
      · rw [if_neg e, if_neg (fun z => e (this.mp z))]
  refine loop_0 (fun n i (s : Nat → Nat) => wY_order_29 post (nI r) n (nI (i + 1)) (nI N) (zA s) (zA mn) (zA te) (zA dv) (zA ot) (zA fc) (zA kp) (zA rw))
    (fun i s => (∀ j, j < 64 → s j = g j) ∧ (∀ j, s j < 5) ∧ zHas s N 4 (oS N A i)) j0 g ⟨fun _ _ => rfl, hg, hW⟩ ?_ ?_
  · intro n s hS
    refine br_f (nI_nlt (a := 624) (by omega) (by decide)) ?_
    exact ys_o41 hN hS.2.1 (fun _ => H s hS.1 hS.2.1) (fun z => absurd ((tr s _ hS.2.2).mpr hI) z)
  · intro n i s hi hS ih
    refine br_f (nI_nlt (a := 624) (by omega) (by decide)) ?_
    refine ys_o41 hN hS.2.1 (fun z => absurd ((tr s _ hS.2.2).mp z) (hl i hi)) (fun _ => ?_)
    refine ys_mul (a := 4) (b := r) hN (by omega) (by omega) hS.2.1 ?_
    intro s1 q1 q2 q3
    refine ys_copy (d := 4) (a := 5) (by omega) (by omega) (by omega) ?_
    intro s2 t1 t2
    refine nm_r (nI_1 (i + 1)) (ih s2 ⟨?_, ycp5 (e := 5) q2 t1 t2, ?_⟩)
    · intro j hj
      rw [t1 j (by omega), q1 j (by omega)]; exact hS.1 j hj
    · intro i' k' hi' hk'
      have := zi_lt hi' hk'
      rw [t2 _ (by omega)]
      show s1 (80 + (N * i' + k')) = _
      rw [q3 i' k' hi' hk']
      exact zP_M hS.2.2 (zHas_of hA (fun t ht => hS.1 _ (by omega))) hi' hk'
theorem i_vc_order {k : Nat} {u : SX} {v : SY} (I : i_Rel k u v) (hk : k + 5 ≤ 2561) (v1 : Int32) : wpX_order (fun r u' => wpY_order (fun r' v' => r' = r ∧ i_Rel (k + 5) u' v') v v1) u v1 := by
  obtain ⟨N, c, m, f, g, mn, te, dv, ot, fc, kp, rw, rfl, rfl, h1, h4, hc, hg, h⟩ := I
  have hsq := zi_sq h4
  unfold wpX_order wpY_order; dsimp only
  rcases zout v1 (n := 4) (by decide) with ⟨r, hr, rfl⟩ | o1
  · refine xr_ok hr (br_f zf1 (xs_char h4 (by omega) hc ?_))
    intro m' p p1 p2
    have hb5 : (5 : Nat) ^ (N + 1) ≤ 5 ^ 5 := Nat.pow_le_pow_right (by decide) (by omega)
    have h55 : (5 : Nat) ^ 5 = 3125 := rfl
    have e0 := p2 0 (by decide)
    rw [ch_0 _ h4, zrel h hr] at e0
    have ev0 : kk (p % 5) = pd p 0 := by
      rw [kk_mod]; unfold pd; rw [Nat.pow_zero, Nat.div_one]
    have hp5 : p % 5 < 5 := Nat.mod_lt _ (by decide)
    refine ⟨zf5, nm_r (z5r (by omega)) (pk_eq (p % 5) 0 ?_ ?_)⟩
    · intro ez
      have hd0 : dtA (zSl g N r) N = 0 := by
        rw [ez, e0] at ev0
        exact (spw_z h4 _).mp ev0.symm
      refine yr_ok hr (br_f zf1 (ys_det h4 (by omega) hg ?_))
      intro mn' te'
      rw [hd0]
      exact br_t rfl ⟨rfl, zR h1 h4 hc hg h⟩
    · intro enz
      have hdn : dtA (zSl g N r) N ≠ 0 := by
        intro z
        rw [z] at e0
        have : kk (p % 5) = kk 0 := by rw [ev0, e0, kk_0]; grind
        exact enz (kk_inj hp5 (by decide) this)
      obtain ⟨j0, ⟨hj, hI⟩, hl⟩ := oS_ex h1 h4 (zSl_lt hg N r) hdn
      refine xs_copy (d := 4) h4 (by omega) (by omega) (by omega) ?_
      intro c1 q1 q2
      have hA1 : zHas c1 N r (zSl g N r) := by
        rw [← zrel h hr]
        exact zHas_of (zHas_sl c N r) (fun t ht => q1 _ (by omega))
      have hW1 : zHas c1 N 4 (zSl g N r) := by
        rw [← zrel h hr]
        exact zHas_of (zHas_sl c N r) (fun t ht => q2 t ht)
      refine xs_order h4 hr (xcp5 hc q1 q2) hA1 hW1 hj hI hl ?_
      intro c' r1 r2
      refine yr_ok hr (br_f zf1 (ys_det h4 (by omega) hg ?_))
      intro mn' te'
      have Dn : (dtA (zSl g N r) N).val ≠ 0 := fun z => hdn (Fin.ext z)
      have Dl := (dtA (zSl g N r) N).isLt
      refine br_f (nI_ne0 (by omega) (by omega)) ?_
      refine ys_copy (d := 4) (by omega) (by omega) (by omega) ?_
      intro g1 p3 p4
      have hA2 : zHas g1 N r (zSl g N r) := zHas_of (zHas_sl g N r) (fun t ht => p3 _ (by omega))
      have hW2 : zHas g1 N 4 (zSl g N r) := zHas_of (zHas_sl g N r) (fun t ht => p4 t (by omega))
      refine ys_order h4 hr (ycp5 hg p3 p4) hA2 hW2 hj hI hl ?_
      intro g' s1 s2
      refine ⟨rfl, zR h1 h4 r2 s2 ?_⟩
      intro r' t hr' ht
      rw [r1 _ (by omega), q1 _ (by omega), s1 _ (by omega), p3 _ (by omega)]
      exact h r' t hr' ht
  · exact xr_no o1 (br_t rfl (yr_no o1 (br_t rfl ⟨rfl, zR h1 h4 hc hg h⟩)))
