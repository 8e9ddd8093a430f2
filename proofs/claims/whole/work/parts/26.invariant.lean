/-! factors that are 1 stand in front; invariant -/
def der (p : Nat) : Nat := hrn (fun k => ((k + 1) * (p / 5 ^ (k + 1) % 5)) % 5) 5 0
theorem der_b (p : Nat) : b5 (fun k => ((k + 1) * (p / 5 ^ (k + 1) % 5)) % 5) := fun _ _ => Nat.mod_lt _ (by decide)
theorem der_lt (p : Nat) : der p < 3125 := nu_lt (der_b p)
theorem der_pd (p : Nat) : ∀ k, k < 5 → pd (der p) k = kk (k + 1) * pd p (k + 1) := by
  intro k hk
  rw [show pd (der p) k = kk (((k + 1) * (p / 5 ^ (k + 1) % 5)) % 5) from nu_pd (der_b p) k hk, kk_mod, kk_mul, kk_mod]
  rfl
/-- the derivative of a minor lies in each ideal that holds the smaller minors -/
theorem dr_P {P : Nat → Prop} (hP : Idl P) (A : Nat → Nat → Nat) {N k : Nat} (hN : N ≤ 4) (h : ∀ R C, R < 2 ^ N → C < 2 ^ N → pc R = k → pc C = k → P (mnum A R C)) :
    ∀ R C, R < 2 ^ N → C < 2 ^ N → pc R = k + 1 → pc C = k + 1 → P (der (mnum A R C)) := by
  intro R C hR hC e1 e2
  obtain ⟨w1, w2⟩ := pw2 N (by omega)
  have hR0 : 0 < R := by
    refine Nat.pos_of_ne_zero (fun z => ?_)
    subst z
    have : pc 0 = 0 := rfl
    omega
  have hk4 := pc4 R (by omega)
  have hd := dr_all A R (by omega) hR0 C (by omega) (by omega)
  rw [e1, Nat.add_sub_cancel] at hd
  have main : ∀ i, i ≤ 4 → ∃ S, S < 3125 ∧ P S ∧ ∀ j, j < 5 → pd S j = dsm A k R C i j := by
    intro i
    induction i with
    | zero => intro _; exact ⟨0, by decide, hP.1, fun j _ => pd_0 j⟩
    | succ i ih =>
      intro hi
      obtain ⟨S, s1, s2, s3⟩ := ih (by omega)
      have W : dsm A k R C (i + 1) = (if R / 2 ^ i % 2 = 1 ∧ C / 2 ^ i % 2 = 1 then fun j => dsm A k R C i j + (if (pcb R i + pcb C i) % 2 = 0 then 1 else 4) * dtp A k (R - 2 ^ i) (C - 2 ^ i) j else dsm A k R C i) := rfl
      by_cases hb : R / 2 ^ i % 2 = 1 ∧ C / 2 ^ i % 2 = 1
      · rw [if_pos hb] at W
        obtain ⟨g1, _⟩ := (set_bit R (by omega) i (by omega)).1 hb.1
        obtain ⟨g2, _⟩ := (set_bit C (by omega) i (by omega)).1 hb.2
        have hm := h (R - 2 ^ i) (C - 2 ^ i) (set_bit2 N (by omega) R hR i (by omega) hb.1) (set_bit2 N (by omega) C hC i (by omega) hb.2) (by omega) (by omega)
        have hpr : pc (R - 2 ^ i) = k := by omega
        refine ⟨pm S (if (pcb R i + pcb C i) % 2 = 0 then 1 else 4) (mnum A (R - 2 ^ i) (C - 2 ^ i)), pm_lt _ _ _, hP.2.1 _ _ _ s1 (mnum_lt _ _ _) (by split <;> omega) s2 hm, fun j hj => ?_⟩
        rw [pd_pm _ _ _ _ hj, s3 j hj, mnum_pd _ _ _ j hj, hpr, W]
        dsimp only
        split <;> rfl
      · rw [if_neg hb] at W
        rw [W]
        exact ⟨S, s1, s2, s3⟩
  obtain ⟨S, s1, s2, s3⟩ := main 4 (by omega)
  have hs4 : ∀ i, i ≤ 4 → dsm A k R C i 4 = 0 := by
    intro i
    induction i with
    | zero => intro _; rfl
    | succ i ih =>
      intro hi
      show (if R / 2 ^ i % 2 = 1 ∧ C / 2 ^ i % 2 = 1 then fun j => dsm A k R C i j + (if (pcb R i + pcb C i) % 2 = 0 then 1 else 4) * dtp A k (R - 2 ^ i) (C - 2 ^ i) j else dsm A k R C i) 4 = 0
      split
      · show dsm A k R C i 4 + _ * dtp A k (R - 2 ^ i) (C - 2 ^ i) 4 = 0
        rw [ih (by omega), dtp_hi A k _ _ 4 (by omega)]; grind
      · exact ih (by omega)
  have : S = der (mnum A R C) := by
    refine pd_inj s1 (der_lt _) (fun j hj => ?_)
    rw [s3 j hj, der_pd _ j hj]
    by_cases e : j = 4
    · subst e
      rw [hs4 4 (Nat.le_refl _), show kk (4 + 1) = 0 from rfl]; grind
    · rw [mnum_pd _ _ _ (j + 1) (by omega), e1, hd j (by omega)]
  rw [← this]; exact s2
theorem mulQ {g : Nat} (hg : g < 3125) (hg0 : g ≠ 0) : Idl (fun p => mul g p ∧ mul g (der p)) := by
  have hI := mul_I hg hg0
  refine ⟨⟨hI.1, ?_⟩, ?_, ?_⟩
  · have : der 0 = 0 := by decide
    rw [this]; exact hI.1
  · intro p q s hp hq hs h1 h2
    refine ⟨hI.2.1 p q s hp hq hs h1.1 h2.1, ?_⟩
    have e : der (pm p s q) = pm (der p) s (der q) := by
      refine pd_inj (der_lt _) (pm_lt _ _ _) (fun k hk => ?_)
      rw [der_pd _ k hk, pd_pm _ _ _ _ hk, der_pd _ k hk, der_pd _ k hk]
      by_cases e : k = 4
      · subst e
        rw [show kk (4 + 1) = 0 from rfl]; grind
      · rw [pd_pm _ _ _ _ (by omega)]; grind
    rw [e]
    exact hI.2.1 _ _ _ (der_lt _) (der_lt _) hs h1.2 h2.2
  · intro p hp h
    refine ⟨hI.2.2 p hp h.1, ?_⟩
    have hd : der p < 625 := by
      have := pd_ltp (j := 4) (der_lt p) (by omega) (fun k k1 k5 => by
        rw [der_pd _ k k5, show k = 4 by omega, show kk (4 + 1) = 0 from rfl]; grind)
      simpa using this
    have e : der (5 * p) = pm p 1 (5 * der p) := by
      refine pd_inj (der_lt _) (pm_lt _ _ _) (fun k hk => ?_)
      rw [der_pd _ k hk, pd_pm _ _ _ _ hk, pd_5, pd_5, show kk 1 = 1 from rfl]
      cases k with
      | zero => show kk (0 + 1) * pd p 0 = pd p 0 + 1 * 0; rw [show kk (0 + 1) = 1 from rfl]; grind
      | succ k =>
        show kk (k + 1 + 1) * pd p (k + 1) = pd p (k + 1) + 1 * pd (der p) k
        rw [der_pd _ k (by omega), kk_add (k + 1) 1, show kk 1 = 1 from rfl]; grind
    rw [e]
    exact hI.2.1 _ _ _ (by omega) (by omega) (by omega) h.1 (hI.2.2 _ hd h.2)
theorem f5_nz : ∀ x y : Fin 5, x ≠ 0 → y ≠ 0 → x * y ≠ 0 := by decide
theorem der_no {g : Nat} (hg : g < 3125) (hd : 0 < dg g) (h : mul g (der g)) : False := by
  have h4 := dg_4 g
  have g0 : g ≠ 0 := by
    intro z
    subst z
    exact absurd hd (by decide)
  obtain ⟨j, hj⟩ : ∃ j, dg g = j + 1 := ⟨dg g - 1, by omega⟩
  have e1 : pd (der g) j = kk (j + 1) * kk (ld g) := by
    rw [der_pd _ j (by omega), ← hj, pd_ld]
  have ne : pd (der g) j ≠ 0 := by
    rw [e1]
    have n2 : kk (j + 1) ≠ 0 := by
      match j, (show j < 4 by omega) with
      | 0, _ => decide
      | 1, _ => decide
      | 2, _ => decide
      | 3, _ => decide
    exact f5_nz _ _ n2 (ld_k hg g0)
  have d0 : der g ≠ 0 := by
    intro z
    rw [z, pd_0] at ne
    exact ne rfl
  have lt : der g < 5 ^ (j + 1) := by
    refine pd_ltp (der_lt _) (by omega) (fun k k1 k5 => ?_)
    rw [der_pd _ k k5, pd_gt hg (by omega)]; grind
  have dl := dg_le lt
  obtain ⟨s, hs⟩ := h
  have s0 : s ≠ 0 := fun z => d0 (mlt_0 (der_lt _) (by rw [← z]; exact hs))
  have := (mlt_top hg (der_lt _) g0 hs s0).1
  omega
theorem one_of {s : Nat} (hs : s < 3125) (h1 : ld s = 1) (hd : dg s = 0) : s = 1 := by
  unfold ld at h1
  rw [hd, Nat.pow_zero, Nat.div_one] at h1
  exact h1
theorem fac_ch {A : Nat → Nat → Nat} {N : Nat} {d s : Nat → Nat} (hN : N ≤ 4) (h : fac A N d s) : ∀ k, k + 1 < N → 0 < dg (s k) → 0 < dg (s (k + 1)) := by
  intro k hk hpos
  refine Nat.pos_of_ne_zero (fun z => ?_)
  obtain ⟨a1, a2, a3, a4⟩ := fac_s hN h k (by omega)
  obtain ⟨b1, b2, b3, b4⟩ := fac_s hN h (k + 1) hk
  have s1 := one_of b2 b4 z
  have g1 := h.1 (k + 1) (by omega)
  have g2 := h.1 (k + 1 + 1) (by omega)
  have hm := h.2 (k + 1) hk
  rw [s1] at hm
  have e : d (k + 1 + 1) = d (k + 1) := pd_inj g2.1 g1.1 (fun j hj => by rw [hm.2 j hj, (mlt_1 (d (k + 1))).2 j hj])
  rw [e] at g2
  obtain ⟨n1, n2⟩ := gD_ne hN (by omega) g1
  have hI := mul_I g1.1 n1
  have hQ := mulQ g1.1 n1
  have p1 := (g1.2.2 _ hI).mp ⟨1, mlt_1 _⟩
  have p2 := (g2.2.2 _ hI).mp ⟨1, mlt_1 _⟩
  have p3 := dr_P hI A hN p1
  have := (g2.2.2 _ hQ).mpr (fun R C hR hC e1 e2 => ⟨p2 R C hR hC e1 e2, p3 R C hR hC e1 e2⟩)
  exact der_no g1.1 (by omega) this.2
/-- where the factors that are not 1 begin -/
theorem fac_z {A : Nat → Nat → Nat} {N : Nat} {d s : Nat → Nat} (hN : N ≤ 4) (h : fac A N d s) : ∃ z, z ≤ N ∧ (∀ i, i < z → s i = 1) ∧ ∀ i, z ≤ i → i < N → 0 < dg (s i) ∧ s i ≠ 1 := by
  obtain ⟨z, hz, hl⟩ := pk_least (fun i => N ≤ i ∨ 0 < dg (s i)) ⟨N, Or.inl (Nat.le_refl _)⟩
  have zN : z ≤ N := by
    refine Nat.le_of_not_lt (fun w => ?_)
    exact hl N w (Or.inl (Nat.le_refl _))
  refine ⟨z, zN, ?_, ?_⟩
  · intro i hi
    have := hl i hi
    obtain ⟨a1, a2, a3, a4⟩ := fac_s hN h i (by omega)
    refine one_of a2 a4 ?_
    refine Nat.eq_zero_of_not_pos (fun w => this (Or.inr w))
  · intro i hi hiN
    have hp : ∀ t, z + t < N → 0 < dg (s (z + t)) := by
      intro t
      induction t with
      | zero =>
        intro ht
        rcases hz with w | w
        · omega
        · exact w
      | succ t ih => intro ht; exact fac_ch hN h (z + t) ht (ih (by omega))
    have := hp (i - z) (by omega)
    rw [show z + (i - z) = i by omega] at this
    refine ⟨this, fun w => ?_⟩
    rw [w] at this
    exact absurd this (by decide)
theorem xs_inv20 {post : Int32 → SX → Prop} {N z : Nat} {x2 : Int32} {c m f s : Nat → Nat} (hN : N ≤ 4) (hz : z ≤ N) (hf : ∀ i, i < N → f i = s i) (hs : ∀ i, i < N → s i < 3125) (h1 : ∀ i, i < z → s i = 1) (h2 : ∀ i, z ≤ i → i < N → s i ≠ 1)
    (H : ∀ κ, κ < N - z → x2 = nI κ → post (nI (s (z + κ))) (zX N c m f)) (H0 : zOut x2 (N - z) → post (-2) (zX N c m f)) :
    ∃ n20, wX_invariant_20 post x2 (nI N) (zA c) (zA m) (zA f) n20 0 0 := by
  refine loop_0 (fun n i (q : Nat) => wX_invariant_20 post x2 (nI N) (zA c) (zA m) (zA f) n (nI q) (nI i)) (fun i q => q = if i ≤ z then i else z) N 0 (by rw [if_pos (Nat.zero_le _)]) ?_ ?_
  · intro n q hq
    have hqz : q = z := by
      rw [hq]; split <;> omega
    subst hqz
    refine br_t (nI_le (Nat.le_refl _) (by omega)) ?_
    rw [pk_sub hz]
    rcases zout x2 (n := N - q) (by omega) with ⟨κ, hκ, rfl⟩ | o
    · refine br_f (nI_pos (by omega)) (br_t (nI_lt hκ (by omega)) ?_)
      rw [nI_add, nI_clamp (by omega), zA_at, hf _ (by omega)]
      exact ⟨vp_in_nI (by omega) (by decide), H κ hκ rfl⟩
    · have h0 := H0 o
      rcases o with o | ⟨o, o'⟩
      · exact br_t o h0
      · exact br_f o (br_f (Int32.not_lt.mpr o') h0)
  · intro n i q hi hq ih
    have b := hs i hi
    refine br_f (nI_ge hi (by omega)) ?_
    rw [nI_clamp (by omega), zA_at, hf i hi]
    refine ⟨vp_in_nI (by omega) (by decide), pk_eq (s i) 1 ?_ ?_⟩
    · intro e
      have : i < z := Nat.lt_of_not_le (fun w => h2 i w hi e)
      refine nm_r (nI_1 q) (nm_r (nI_1 i) (ih (q + 1) ?_))
      rw [hq, if_pos (by omega), if_pos (by omega)]
    · intro e
      have : z ≤ i := Nat.le_of_not_lt (fun w => e (h1 i w))
      refine nm_r (nI_1 i) (ih q ?_)
      rw [hq]
      split <;> split <;> omega
theorem ys_inv20 {post : Int32 → SY → Prop} {N z : Nat} {x2 : Int32} {g s : Nat → Nat} {mn te dv ot fc kp rw : Nat → Nat} (hN : N ≤ 4) (hz : z ≤ N) (hf : ∀ k j, k < N → j < 5 → fc (5 * k + j) = s k / 5 ^ j % 5) (hs : ∀ i, i < N → s i < 3125 ∧ s i ≠ 0) (h1 : ∀ i, i < z → s i = 1) (h2 : ∀ i, z ≤ i → i < N → 0 < dg (s i))
    (H : ∀ κ, κ < N - z → x2 = nI κ → post (nI (s (z + κ))) (zY N g mn te dv ot fc kp rw)) (H0 : zOut x2 (N - z) → post (-2) (zY N g mn te dv ot fc kp rw)) :
    ∃ n20, wY_invariant_20 post x2 (nI N) (zA g) (zA mn) (zA te) (zA dv) (zA ot) (zA fc) (zA kp) (zA rw) n20 0 0 := by
  rcases zout x2 (n := N - z) (by omega) with ⟨κ, hκ, hx⟩ | o
  · have h0 := H κ hκ hx
    refine loop_0 (fun n i (q : Nat) => wY_invariant_20 post x2 (nI N) (zA g) (zA mn) (zA te) (zA dv) (zA ot) (zA fc) (zA kp) (zA rw) n (nI q) (nI i)) (fun i q => q = i - z) (z + κ) 0 (by omega) ?_ ?_
    · intro n q hq
      obtain ⟨b1, b2⟩ := hs (z + κ) (by omega)
      have b3 := dg_4 (s (z + κ))
      refine br_f (nI_ge (by omega) (by omega)) (ys_degF (by omega) b1 b2 (fun j hj => hf _ j (by omega) hj) ?_)
      refine br_f (nI_nle (h2 _ (by omega) (by omega)) (by omega)) (br_t (by rw [hx, hq, show z + κ - z = κ by omega]) ?_)
      exact ys_writ (by omega) b1 (fun j hj => hf _ j (by omega) hj) h0
    · intro n i q hi hq ih
      obtain ⟨b1, b2⟩ := hs i (by omega)
      have b3 := dg_4 (s i)
      refine br_f (nI_ge (by omega) (by omega)) (ys_degF (by omega) b1 b2 (fun j hj => hf _ j (by omega) hj) (pk_le (dg (s i)) 0 ?_ ?_))
      · intro e
        have : i < z := Nat.lt_of_not_le (fun w => by have := h2 i w (by omega); omega)
        refine nm_r (nI_1 i) (ih q ?_)
        omega
      · intro e
        have : z ≤ i := Nat.le_of_not_lt (fun w => by rw [h1 i w] at e; exact absurd e (by decide))
        rw [hx]
        refine pk_eq q κ (fun w => by omega) ?_
        intro w
        rw [← hx]
        refine nm_r (nI_1 q) (nm_r (nI_1 i) (ih (q + 1) ?_))
        omega
  · have h0 := H0 o
    refine loop_0 (fun n i (q : Nat) => wY_invariant_20 post x2 (nI N) (zA g) (zA mn) (zA te) (zA dv) (zA ot) (zA fc) (zA kp) (zA rw) n (nI q) (nI i)) (fun i q => q = i - z) N 0 (by omega) ?_ ?_
    · intro n q hq
      exact br_t (nI_le (Nat.le_refl _) (by omega)) h0
    · intro n i q hi hq ih
      obtain ⟨b1, b2⟩ := hs i hi
      have b3 := dg_4 (s i)
      refine br_f (nI_ge (by omega) (by omega)) (ys_degF (by omega) b1 b2 (fun j hj => hf _ j (by omega) hj) (pk_le (dg (s i)) 0 ?_ ?_))
      · intro e
        have : i < z := Nat.lt_of_not_le (fun w => by have := h2 i w (by omega); omega)
        refine nm_r (nI_1 i) (ih q ?_)
        omega
      · intro e
        have : z ≤ i := Nat.le_of_not_lt (fun w => by rw [h1 i w] at e; exact absurd e (by decide))
        have hne : ¬ nI q = x2 := by
          intro w
          rw [← w] at o
          rcases o with o | ⟨o, o'⟩
          · exact nI_pos (by omega) o
          · rw [nI_leI (by omega) (by omega)] at o'
            omega
        refine br_f hne (nm_r (nI_1 q) (nm_r (nI_1 i) (ih (q + 1) ?_)))
        omega
theorem i_vc_invariant {k : Nat} {u : SX} {v : SY} (I : i_Rel k u v) (hk : k + 5 ≤ 2561) (v1 : Int32) (v2 : Int32) : wpX_invariant (fun r u' => wpY_invariant (fun r' v' => r' = r ∧ i_Rel (k + 5) u' v') v v1 v2) u v1 v2 := by
  obtain ⟨N, c, m, f, g, mn, te, dv, ot, fc, kp, rw, rfl, rfl, h1, h4, hc, hg, h⟩ := I
  unfold wpX_invariant wpY_invariant; dsimp only
  rcases zout v1 (n := 4) (by decide) with ⟨r, hr, rfl⟩ | o1
  · refine xr_ok hr (br_f zf1 (xs_findFactors (st := 0) h1 h4 (by omega) (by omega) hc ?_))
    intro m' f' d s hF hf _
    rw [zrel h hr] at hF
    obtain ⟨z, z1, z2, z3⟩ := fac_z h4 hF
    have hf0 : ∀ i, i < N → f' i = s i := fun i hi => by have := hf i hi; rwa [Nat.zero_add] at this
    have y : ∀ ans : Int32, (∀ κ, κ < N - z → v2 = nI κ → ans = nI (s (z + κ))) → (zOut v2 (N - z) → ans = -2) → wpY_invariant (fun r' v' => r' = ans ∧ i_Rel (k + 5) (zX N c m' f') v') (zY N g mn te dv ot fc kp rw) (nI r) v2 := by
      intro ans a1 a2
      unfold wpY_invariant; dsimp only
      refine yr_ok hr (br_f zf1 (ys_findFactors h1 h4 (by omega) hg ?_))
      intro mn' te' dv' ot' fc' d' s' hF' hf'
      have u := (fac_u h4 hF hF').2
      refine ys_inv20 (z := z) (s := s') h4 z1 hf' (fun i hi => ⟨(fac_s h4 hF' i hi).2.1, (fac_s h4 hF' i hi).1⟩) (fun i hi => by rw [← u i (by omega)]; exact z2 i hi) (fun i hi hiN => by rw [← u i hiN]; exact (z3 i hi hiN).1) (fun κ hκ hx => ⟨?_, zR h1 h4 hc hg h⟩) (fun o => ⟨?_, zR h1 h4 hc hg h⟩)
      · rw [a1 κ hκ hx, u _ (by omega)]
      · exact (a2 o).symm
    refine xs_inv20 (z := z) (s := s) h4 z1 hf0 (fun i hi => (fac_s h4 hF i hi).2.1) z2 (fun i hi hiN => (z3 i hi hiN).2) (fun κ hκ hx => ?_) (fun o => ?_)
    · refine y _ (fun κ' hκ' hx' => ?_) (fun o => ?_)
      · rw [hx] at hx'
        rw [(nI_eq (by omega) (by omega)).mp hx']
      · exfalso
        rw [hx] at o
        rcases o with o | ⟨o, o'⟩
        · exact nI_pos (by omega) o
        · rw [nI_leI (by omega) (by omega)] at o'
          omega
    · refine y _ (fun κ' hκ' hx' => ?_) (fun _ => rfl)
      exfalso
      rw [hx'] at o
      rcases o with o | ⟨o, o'⟩
      · exact nI_pos (by omega) o
      · rw [nI_leI (by omega) (by omega)] at o'
        omega
  · exact xr_no o1 (br_t rfl (yr_no o1 (br_t rfl ⟨rfl, zR h1 h4 hc hg h⟩)))
