/-! commutant -/
theorem i_vc_commutant {k : Nat} {u : SX} {v : SY} (I : i_Rel k u v) (hk : k + 5 ≤ 2561) (v1 : Int32) : wpX_commutant (fun r u' => wpY_commutant (fun r' v' => r' = r ∧ i_Rel (k + 5) u' v') v v1) u v1 := by
  obtain ⟨N, c, m, f, g, mn, te, dv, ot, fc, kp, rw, rfl, rfl, h1, h4, hc, hg, h⟩ := I
  unfold wpX_commutant; dsimp only
  rcases zout v1 (n := 4) (by decide) with ⟨r, hr, rfl⟩ | o1
  · refine xr_ok hr (br_f zf1 (xs_findFactors (st := 0) h1 h4 (by omega) (by omega) hc ?_))
    intro m' f' d s hF hf _
    rw [zrel h hr] at hF
    have hf0 : ∀ i, i < N → f' i = s i := fun i hi => by have := hf i hi; rwa [Nat.zero_add] at this
    refine xs_commutant h1 h4 hf0 (fun i hi => (fac_s h4 hF i hi).2.1) ?_
    refine ys_commutant h1 h4 hr hg (cm_dim h1 h4 (zSl_lt hg N r) (fun i j z => if_neg z) hF) ?_
    intro rw'
    exact ⟨rfl, zR h1 h4 hc hg h⟩
  · refine xr_no o1 (br_t rfl ?_)
    unfold wpY_commutant; dsimp only
    exact yr_no o1 (br_t rfl ⟨rfl, zR h1 h4 hc hg h⟩)
