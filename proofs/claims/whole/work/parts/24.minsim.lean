/-! minimal, similar -/
theorem i_vc_minimal {k : Nat} {u : SX} {v : SY} (I : i_Rel k u v) (hk : k + 5 ≤ 2561) (v1 : Int32) : wpX_minimal (fun r u' => wpY_minimal (fun r' v' => r' = r ∧ i_Rel (k + 5) u' v') v v1) u v1 := by
  obtain ⟨N, c, m, f, g, mn, te, dv, ot, fc, kp, rw, rfl, rfl, h1, h4, hc, hg, h⟩ := I
  unfold wpX_minimal wpY_minimal; dsimp only
  rcases zout v1 (n := 4) (by decide) with ⟨r, hr, rfl⟩ | o1
  · refine xr_ok hr (br_f zf1 (xs_findFactors (st := 0) h1 h4 (by omega) (by omega) hc ?_))
    intro m' f' d s hF hf _
    have e1 : f' (N - 1) = s (N - 1) := by have := hf (N - 1) (by omega); rwa [Nat.zero_add] at this
    dsimp only
    rw [zs1 h1, nI_clamp (by omega)]
    refine ⟨vp_in_nI (by omega) (by decide), ?_⟩
    refine yr_ok hr (br_f zf1 (ys_findFactors h1 h4 (by omega) hg ?_))
    intro mn' te' dv' ot' fc' d' s' hF' hf'
    rw [zrel h hr] at hF
    have hu := (fac_u h4 hF hF').2 (N - 1) (by omega)
    have h3 := (fac_s h4 hF' (N - 1) (by omega)).2.1
    dsimp only
    rw [zs1 h1]
    refine ys_writ (s := s' (N - 1)) (by omega) h3 (fun j hj => hf' (N - 1) j (by omega) hj) ⟨?_, zR h1 h4 hc hg h⟩
    rw [zA_at, e1, hu]
  · exact xr_no o1 (br_t rfl (yr_no o1 (br_t rfl ⟨rfl, zR h1 h4 hc hg h⟩)))
theorem xs_cmp {post : Int32 → SX → Prop} {N : Nat} {c m f : Nat → Nat} (hN : N ≤ 4) (hb : ∀ i, i < N → f i < 3125 ∧ f (4 + i) < 3125)
    (H1 : (∀ i, i < N → f i = f (4 + i)) → post 1 (zX N c m f)) (H0 : (¬ ∀ i, i < N → f i = f (4 + i)) → post 0 (zX N c m f)) :
    ∃ n30, wX_similar_30 post (nI N) (zA c) (zA m) (zA f) n30 0 := by
  refine loop_0 (fun n i (_ : Unit) => wX_similar_30 post (nI N) (zA c) (zA m) (zA f) n (nI i)) (fun i _ => ∀ i', i' < i → f i' = f (4 + i')) N () (fun i' h => absurd h (by omega)) ?_ ?_
  · intro n _ hI
    exact br_t (nI_le (Nat.le_refl _) (by omega)) (H1 hI)
  · intro n i _ hi hI ih
    obtain ⟨b1, b2⟩ := hb i hi
    refine br_f (nI_ge hi (by omega)) ?_
    rw [z4a, nI_clamp (by omega), nI_clamp (by omega), zA_at, zA_at]
    refine ⟨vp_in_nI (by omega) (by decide), vp_in_nI (by omega) (by decide), pk_eq (f i) (f (4 + i)) ?_ ?_⟩
    · intro e
      refine nm_r (nI_1 i) (ih () ?_)
      intro i' hi'
      by_cases z : i' = i
      · rw [z]; exact e
      · exact hI i' (by omega)
    · intro e
      exact H0 (fun z => e (z i hi))
theorem ys_cmp {post : Int32 → SY → Prop} {N : Nat} {g : Nat → Nat} {mn te dv ot fc kp rw : Nat → Nat} (hN : N ≤ 4) (hb : ∀ i, i < 5 * N → kp i < 5 ∧ fc i < 5)
    (H1 : (∀ i, i < 5 * N → kp i = fc i) → post 1 (zY N g mn te dv ot fc kp rw)) (H0 : (¬ ∀ i, i < 5 * N → kp i = fc i) → post 0 (zY N g mn te dv ot fc kp rw)) :
    ∃ n56, wY_similar_56 post (nI N) (zA g) (zA mn) (zA te) (zA dv) (zA ot) (zA fc) (zA kp) (zA rw) n56 0 := by
  refine loop_0 (fun n i (_ : Unit) => wY_similar_56 post (nI N) (zA g) (zA mn) (zA te) (zA dv) (zA ot) (zA fc) (zA kp) (zA rw) n (nI i)) (fun i _ => ∀ i', i' < i → kp i' = fc i') (5 * N) () (fun i' h => absurd h (by omega)) ?_ ?_
  · intro n _ hI
    exact br_t (by rw [z5m]; exact nI_le (Nat.le_refl _) (by omega)) (H1 hI)
  · intro n i _ hi hI ih
    obtain ⟨b1, b2⟩ := hb i hi
    refine br_f (by rw [z5m]; exact nI_ge hi (by omega)) ?_
    rw [nI_clamp (by omega), zA_at, zA_at]
    refine ⟨vp_in_nI (by omega) (by decide), vp_in_nI (by omega) (by decide), pk_eq (kp i) (fc i) ?_ ?_⟩
    · intro e
      refine nm_r (nI_1 i) (ih () ?_)
      intro i' hi'
      by_cases z : i' = i
      · rw [z]; exact e
      · exact hI i' (by omega)
    · intro e
      exact H0 (fun z => e (z i hi))
theorem ys_keep {post : Int32 → SY → Prop} {N b : Nat} {g : Nat → Nat} {mn te dv ot fc kp rw : Nat → Nat}
    (H : ∀ kp' : Nat → Nat, (∀ i, i < 20 → kp' i = fc i) → wpY_findFactors (fun u => match u with | (f_n_35, a_regs_36, a_minor_37, a_term_38, a_divisor_39, a_other_40, a_factors_41, a_kept_42, a_rows_43) => (∃ n56 : Nat, wY_similar_56 post f_n_35 a_regs_36 a_minor_37 a_term_38 a_divisor_39 a_other_40 a_factors_41 a_kept_42 a_rows_43 n56 0)) (zY N g mn te dv ot fc kp' rw) (nI b)) :
    ∃ n25, wY_similar_25 post (nI b) (nI N) n25 0 (zA g) (zA mn) (zA te) (zA dv) (zA ot) (zA fc) (zA kp) (zA rw) := by
  refine loop_0 (fun n i (q : Nat → Nat) => wY_similar_25 post (nI b) (nI N) n (nI i) (zA g) (zA mn) (zA te) (zA dv) (zA ot) (zA fc) (zA q) (zA rw)) (fun i q => ∀ i', i' < i → q i' = fc i') 20 kp (fun i' h => absurd h (by omega)) ?_ ?_
  · intro n q hI
    exact br_t (nI_le (a := 20) (Nat.le_refl _) (by omega)) (H q hI)
  · intro n i q hi hI ih
    have vi : vp_in (nI i) 20 := vp_in_nI (by omega) (by decide)
    refine br_f (nI_ge (b := 20) hi (by omega)) ?_
    rw [nI_clamp (by omega), zA_at]
    refine ⟨vi, vi, nm_r (zA_upd _ _ _) (nm_r (nI_1 i) (ih _ ?_))⟩
    intro i' hi'
    by_cases e : i' = i
    · rw [e, zu_s]
    · rw [zu_n e]; exact hI i' (by omega)
theorem i_vc_similar {k : Nat} {u : SX} {v : SY} (I : i_Rel k u v) (hk : k + 5 ≤ 2561) (v1 : Int32) (v2 : Int32) : wpX_similar (fun r u' => wpY_similar (fun r' v' => r' = r ∧ i_Rel (k + 5) u' v') v v1 v2) u v1 v2 := by
  obtain ⟨N, c, m, f, g, mn, te, dv, ot, fc, kp, rw, rfl, rfl, h1, h4, hc, hg, h⟩ := I
  unfold wpX_similar wpY_similar; dsimp only
  rcases zout v1 (n := 4) (by decide) with ⟨a, ha, rfl⟩ | o1
  · refine xr_ok ha (br_f zf1 ?_)
    rcases zout v2 (n := 4) (by decide) with ⟨b, hb, rfl⟩ | o2
    · refine xr_ok hb (br_f zf1 (xs_findFactors (st := 0) h1 h4 (by omega) (by omega) hc ?_))
      intro m1 f1 d1 s1 hF1 hf1 _
      dsimp only
      refine xs_findFactors (st := 4) h1 h4 (by omega) (by omega) hc ?_
      intro m2 f2 d2 s2 hF2 hf2 hf2'
      rw [zrel h ha] at hF1
      rw [zrel h hb] at hF2
      have q1 : ∀ i, i < N → f2 i = s1 i := fun i hi => by
        rw [hf2' i (by omega)]
        have := hf1 i hi
        rwa [Nat.zero_add] at this
      have q2 : ∀ i, i < N → f2 (4 + i) = s2 i := fun i hi => hf2 i hi
      have y : ∀ z : Nat, z < 2 → (z = 1 ↔ ∀ i, i < N → s1 i = s2 i) → wpY_similar (fun r' v' => r' = nI z ∧ i_Rel (k + 5) (zX N c m2 f2) v') (zY N g mn te dv ot fc kp rw) (nI a) (nI b) := by
        intro z hz hzz
        unfold wpY_similar; dsimp only
        refine yr_ok ha (br_f zf1 (yr_ok hb (br_f zf1 (ys_findFactors h1 h4 (by omega) hg ?_))))
        intro mn' te' dv' ot' fc1 d3 s3 hF3 hf3
        dsimp only
        refine ys_keep ?_
        intro kp' hkp
        refine ys_findFactors h1 h4 (by omega) hg ?_
        intro mn2 te2 dv2 ot2 fc2 d4 s4 hF4 hf4
        have u1 := (fac_u h4 hF1 hF3).2
        have u2 := (fac_u h4 hF2 hF4).2
        have dgs : ∀ i, i < 5 * N → kp' i = s3 (i / 5) / 5 ^ (i % 5) % 5 ∧ fc2 i = s4 (i / 5) / 5 ^ (i % 5) % 5 := by
          intro i hi
          have e5 : i = 5 * (i / 5) + i % 5 := (Nat.div_add_mod i 5).symm
          refine ⟨?_, ?_⟩
          · rw [hkp i (by omega)]
            have := hf3 (i / 5) (i % 5) (by omega) (by omega)
            rwa [← e5] at this
          · have := hf4 (i / 5) (i % 5) (by omega) (by omega)
            rwa [← e5] at this
        have same : (∀ i, i < 5 * N → kp' i = fc2 i) ↔ ∀ i, i < N → s1 i = s2 i := by
          refine ⟨fun hh i hi => ?_, fun hh i hi => ?_⟩
          · rw [u1 i hi, u2 i hi]
            refine pd_inj (fac_s h4 hF3 i hi).2.1 (fac_s h4 hF4 i hi).2.1 (fun j hj => ?_)
            have := hh (5 * i + j) (by omega)
            obtain ⟨t1, t2⟩ := dgs (5 * i + j) (by omega)
            rw [t1, t2, show (5 * i + j) / 5 = i by omega, show (5 * i + j) % 5 = j by omega] at this
            exact Fin.ext this
          · obtain ⟨t1, t2⟩ := dgs i hi
            rw [t1, t2, ← u1 _ (by omega), ← u2 _ (by omega), hh _ (by omega)]
        refine ys_cmp h4 (fun i hi => ?_) (fun hh => ⟨?_, zR h1 h4 hc hg h⟩) (fun hh => ⟨?_, zR h1 h4 hc hg h⟩)
        · obtain ⟨t1, t2⟩ := dgs i hi
          rw [t1, t2]
          exact ⟨Nat.mod_lt _ (by decide), Nat.mod_lt _ (by decide)⟩
        · rw [hzz.mpr (same.mp hh)]; rfl
        · have : z ≠ 1 := fun zz => hh (same.mpr (hzz.mp zz))
          have : z = 0 := by omega
          rw [this]; rfl
      refine xs_cmp h4 (fun i hi => ?_) (fun hh => ?_) (fun hh => ?_)
      · rw [q1 i hi, q2 i hi]
        exact ⟨(fac_s h4 hF1 i hi).2.1, (fac_s h4 hF2 i hi).2.1⟩
      · exact y 1 (by decide) ⟨fun _ i hi => by rw [← q1 i hi, ← q2 i hi]; exact hh i hi, fun _ => rfl⟩
      · exact y 0 (by decide) ⟨fun z => absurd z (by decide), fun z => absurd (fun i hi => by rw [q1 i hi, q2 i hi]; exact z i hi) hh⟩
    · exact xr_no o2 (br_t rfl (yr_ok ha (br_f zf1 (yr_no o2 (br_t rfl ⟨rfl, zR h1 h4 hc hg h⟩)))))
  · exact xr_no o1 (br_t rfl (yr_no o1 (br_t rfl ⟨rfl, zR h1 h4 hc hg h⟩)))
