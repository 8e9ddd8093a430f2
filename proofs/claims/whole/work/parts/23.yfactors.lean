/-! the reference's invariant factors -/
theorem szo : ∀ s, s < 16 → (((nI s &&& 1) + ((nI s >>> ((1 : Int32) &&& 31)) &&& 1)) + ((nI s >>> ((2 : Int32) &&& 31)) &&& 1)) + ((nI s >>> ((3 : Int32) &&& 31)) &&& 1) = nI (pc s) := by decide +kernel
theorem ys_size {post : Int32 → Prop} {N s : Nat} {g : Nat → Nat} {mn te dv ot fc kp rw : Nat → Nat} (hs : s < 16) (H : post (nI (pc s))) : wpY_sizeOf post (zY N g mn te dv ot fc kp rw) (nI s) := by
  unfold wpY_sizeOf; dsimp only
  rw [szo s hs]; exact H
theorem and7 : ∀ d, d < 5 → nI d &&& 7 = nI d := by decide +kernel
theorem ys_norm {post : SY → Prop} {N : Nat} {g : Nat → Nat} {mn te dv ot fc kp rw : Nat → Nat} (hd : b5 dv) (h0 : nu dv ≠ 0)
    (H : ∀ dv' : Nat → Nat, b5 dv' → nu dv' = pm 0 (ld (nu dv) * ld (nu dv) * ld (nu dv) % 5) (nu dv) → post (zY N g mn te dv' ot fc kp rw)) :
    wpY_degreeOfDivisor (fun r_3 => (vp_in (r_3 &&& 7) 5 ∧ (wpY_inverse (fun r_14 => (∃ n126 : Nat, wY_shareAll_126 post r_14 (nI N) n126 0 (zA g) (zA mn) (zA te) (zA dv) (zA ot) (zA fc) (zA kp) (zA rw))) (zY N g mn te dv ot fc kp rw) (zA dv (r_3 &&& 7).toNatClampNeg)))) (zY N g mn te dv ot fc kp rw) := by
  have b4 := dg_4 (nu dv)
  have adv := nu_lt hd
  have ed : dv (dg (nu dv)) = ld (nu dv) := by
    rw [nu_dig hd (by omega)]
    exact Nat.mod_eq_of_lt (ld_lt adv)
  have lv := ld_lt adv
  have l1 : ld (nu dv) * ld (nu dv) ≤ 4 * 4 := Nat.mul_le_mul (by omega) (by omega)
  have l2 : ld (nu dv) * ld (nu dv) * ld (nu dv) ≤ 16 * 4 := Nat.mul_le_mul l1 (by omega)
  have l3 : ld (nu dv) * ld (nu dv) * ld (nu dv) % 5 < 5 := Nat.mod_lt _ (by decide)
  refine ys_degD hd ?_
  rw [nd_pos h0, nI_pred, and7 _ (by omega), nI_clamp (by omega), zA_at, ed]
  refine ⟨vp_in_nI (by omega) (by decide), ?_⟩
  unfold wpY_inverse
  refine ⟨zf5, ?_⟩
  rw [pk_mul, pk_mul, z5r (by omega)]
  generalize hc : ld (nu dv) * ld (nu dv) * ld (nu dv) % 5 = cc at *
  refine loop_0 (fun n k (s : Nat → Nat) => wY_shareAll_126 post (nI cc) (nI N) n (nI k) (zA g) (zA mn) (zA te) (zA s) (zA ot) (zA fc) (zA kp) (zA rw))
    (fun k s => b5 s ∧ ∀ j, j < 5 → kk (s j) = if j < k then kk cc * kk (dv j) else kk (dv j)) 5 dv ⟨hd, fun j hj => by rw [if_neg (by omega)]⟩ ?_ ?_
  · intro n s hI
    refine br_t (nI_le (a := 5) (Nat.le_refl _) (by omega)) (H s hI.1 ?_)
    refine nu_of hI.1 (pm_lt _ _ _) (fun j hj => ?_)
    rw [hI.2 j hj, if_pos hj, pd_pm _ _ _ _ hj, pd_0, nu_pd hd j hj]; grind
  · intro n k s hk hI ih
    have vk : vp_in (nI k) 5 := vp_in_nI (by omega) (by decide)
    have b1 := hI.1 k hk
    have b3 : s k * cc ≤ 4 * 4 := Nat.mul_le_mul (by omega) (by omega)
    refine br_f (nI_ge (b := 5) hk (by omega)) ?_
    rw [nI_clamp (by omega), zA_at, pk_mul, z5r (by omega)]
    refine ⟨vk, zf5, vk, nm_r (zA_upd _ _ _) (nm_r (nI_1 k) (ih _ ⟨?_, ?_⟩))⟩
    · intro j hj
      by_cases e : j = k
      · rw [e, zu_s]; exact Nat.mod_lt _ (by decide)
      · rw [zu_n e]; exact hI.1 j hj
    · intro j hj
      by_cases e : j = k
      · rw [e, zu_s, kk_mod, kk_mul, hI.2 k hk, if_neg (by omega), if_pos (by omega)]; grind
      · rw [zu_n e, hI.2 j hj]
        by_cases e2 : j < k
        · rw [if_pos e2, if_pos (by omega)]
        · rw [if_neg e2, if_neg (by omega)]
theorem ys_shareAll {post : SY → Prop} {N r k : Nat} {g : Nat → Nat} {mn te dv ot fc kp rw : Nat → Nat} (hN : N ≤ 4) (hr : r < 5) (hk1 : 1 ≤ k) (hk : k ≤ N) (hg : ∀ j, g j < 5)
    (H : ∀ mn' te' dv' : Nat → Nat, b5 dv' → gD (zSl g N r) N k (nu dv') → post (zY N g mn' te' dv' ot fc kp rw)) :
    wpY_shareAll post (zY N g mn te dv ot fc kp rw) (nI r) (nI k) := by
  obtain ⟨w1, w2⟩ := pw2 N (by omega)
  generalize hA : zSl g N r = A at *
  show ∃ n2, wY_shareAll_2 post (nI r) (nI k) (nI N) n2 0 (zA g) (zA mn) (zA te) (zA dv) (zA ot) (zA fc) (zA kp) (zA rw)
  refine loop_0 (fun n j (s : Nat → Nat) => wY_shareAll_2 post (nI r) (nI k) (nI N) n (nI j) (zA g) (zA mn) (zA te) (zA s) (zA ot) (zA fc) (zA kp) (zA rw))
    (fun j s => ∀ i, i < j → s i = 0) 5 dv (fun i h => absurd h (by omega)) ?_ ?_
  · intro n s0 hz
    have z5 : b5 s0 := fun i hi => by rw [hz i hi]; decide
    have zn : nu s0 = 0 := nu_of z5 (by decide) (fun i hi => by rw [hz i hi, pd_0]; rfl)
    refine br_t (nI_le (a := 5) (Nat.le_refl _) (by omega)) ?_
    refine loop_0 (fun n j (s : (Nat → Nat) × (Nat → Nat) × (Nat → Nat)) => wY_shareAll_22 post (nI r) (nI k) n (nI j) (nI N) (zA g) (zA s.1) (zA s.2.1) (zA s.2.2) (zA ot) (zA fc) (zA kp) (zA rw))
      (fun j s => b5 s.2.2 ∧ ∀ P, Idl P → (P (nu s.2.2) ↔ ∀ R C, 16 * R + C < j → C < 16 → R < 2 ^ N → C < 2 ^ N → pc R = k → pc C = k → P (mnum A R C))) 256 (mn, te, s0) ⟨z5, fun P hP => ⟨fun _ R C h1 => absurd h1 (by omega), fun _ => by show P (nu s0); rw [zn]; exact hP.1⟩⟩ ?_ ?_
    · intro n' s hI
      have hP2 : ∀ P, Idl P → (P (nu s.2.2) ↔ ∀ R C, R < 2 ^ N → C < 2 ^ N → pc R = k → pc C = k → P (mnum A R C)) := fun P hP => (hI.2 P hP).trans ⟨fun h R C hR hC e1 e2 => h R C (by omega) (by omega) hR hC e1 e2, fun h R C _ _ hR hC e1 e2 => h R C hR hC e1 e2⟩
      have h0 : nu s.2.2 ≠ 0 := by
        intro z
        obtain ⟨a1, a2⟩ := pc_all k (by omega)
        have hle : 2 ^ k ≤ 2 ^ N := Nat.pow_le_pow_right (by decide) hk
        have := (hP2 _ I_0).mp z (2 ^ k - 1) (2 ^ k - 1) (by omega) (by omega) a1 a1
        have e := mnum_pd A (2 ^ k - 1) (2 ^ k - 1) k (by omega)
        rw [this, pd_0, a1, chkk A k (by omega)] at e
        exact absurd e (by decide)
      refine br_t (nI_le (a := 256) (Nat.le_refl _) (by omega)) (ys_norm hI.1 h0 ?_)
      intro dv' d1 d2
      obtain ⟨n1, n2⟩ := nrm (nu_lt hI.1)
      refine H s.1 s.2.1 dv' d1 ⟨nu_lt d1, by rw [d2]; exact n1, fun P hP => ?_⟩
      rw [d2]
      exact (n2 P hP).trans (hP2 P hP)
    · intro n' j s hj hI ih
      have hR16 : j / 16 < 16 := by omega
      have hC16 : j % 16 < 16 := by omega
      have e16 : 16 * (j / 16) + j % 16 = j := Nat.div_add_mod j 16
      have hpR := pc4 (j / 16) hR16
      have hpC := pc4 (j % 16) hC16
      have skip : ¬ (j / 16 < 2 ^ N ∧ j % 16 < 2 ^ N ∧ pc (j / 16) = k ∧ pc (j % 16) = k) → ∀ x : Int32, x = nI j + 1 → wY_shareAll_22 post (nI r) (nI k) n' x (nI N) (zA g) (zA s.1) (zA s.2.1) (zA s.2.2) (zA ot) (zA fc) (zA kp) (zA rw) := by
        intro hne
        refine nm_r (nI_1 j) (ih s ⟨hI.1, fun P hP => (hI.2 P hP).trans ⟨fun h R C h1 h2 h3 h4 h5 h6 => ?_, fun h R C h1 h2 h3 h4 h5 h6 => h R C (by omega) h2 h3 h4 h5 h6⟩⟩)
        by_cases e : 16 * R + C = j
        · exfalso
          have er : R = j / 16 := by omega
          have ec : C = j % 16 := by omega
          rw [er] at h3 h5
          rw [ec] at h4 h6
          exact hne ⟨h3, h4, h5, h6⟩
        · exact h R C (by omega) h2 h3 h4 h5 h6
      refine br_f (nI_ge (b := 256) hj (by omega)) ⟨zf16, nm_r (z16d (by omega)) ⟨zf16, nm_r (z16r (by omega)) ?_⟩⟩
      refine ys_size hR16 (pk_eq (pc (j / 16)) k ?_ (fun z => skip (fun w => z w.2.2.1)))
      intro e1
      refine ys_size hC16 (pk_eq (pc (j % 16)) k ?_ (fun z => skip (fun w => z w.2.2.2)))
      intro e2
      rw [zshl (by omega)]
      refine pk_le (2 ^ N) (j / 16) (fun z => skip (fun w => by have := w.1; omega)) ?_
      intro e3
      refine pk_le (2 ^ N) (j % 16) (fun z => skip (fun w => by have := w.2.1; omega)) ?_
      intro e4
      refine ys_findMinor (x := true) hN hr hg e3 e4 ?_
      intro mn' te' m1 m2
      have hmn : nu mn' = mnum A (j / 16) (j % 16) := by
        refine nu_of m1 (mnum_lt _ _ _) (fun i hi => ?_)
        rw [m2 i hi, hA, mn_dt A hR16 hC16 (by omega) i hi, mnum_pd _ _ _ i hi]
      refine ys_share m1 hI.1 ?_
      intro mn2 dv2 q1 q2 q3
      refine nm_r (nI_1 j) (ih (mn2, te', dv2) ⟨q2, fun P hP => ?_⟩)
      show P (nu dv2) ↔ _
      rw [q3 P hP, hmn, hI.2 P hP]
      refine ⟨fun h R C h1 h2 h3 h4 h5 h6 => ?_, fun h => ⟨?_, fun R C h1 h2 h3 h4 h5 h6 => h R C (by omega) h2 h3 h4 h5 h6⟩⟩
      · by_cases e : 16 * R + C = j
        · have er : R = j / 16 := by omega
          have ec : C = j % 16 := by omega
          rw [er, ec]; exact h.1
        · exact h.2 R C (by omega) h2 h3 h4 h5 h6
      · exact h (j / 16) (j % 16) (by omega) hC16 e3 e4 e1 e2
  · intro n j s hj hz ih
    refine br_f (nI_ge (b := 5) hj (by omega)) ⟨vp_in_nI (by omega) (by decide), nm_r (e' := zA (zu s j 0)) (by rw [nI_clamp (by omega), ← zA_upd]; rfl) (nm_r (nI_1 j) (ih _ ?_))⟩
    intro i hi
    by_cases e : i = j
    · rw [e, zu_s]
    · rw [zu_n e]; exact hz i (by omega)
/-- taking digit b off -/
theorem mlt_cut {q p s b : Nat} (hq : q < 3125) (hs : mlt q p s) (hb : dg q + b ≤ 4) (hsb : s < 5 ^ (b + 1)) : mlt q (pm p (5 - s / 5 ^ b) (q * 5 ^ b)) (s % 5 ^ b) ∧ pd p (dg q + b) = pd q (dg q) * kk (s / 5 ^ b) ∧ s / 5 ^ b < 5 := by
  have hpos : 0 < 5 ^ b := Nat.pow_pos (by decide)
  have hmod := Nat.mod_lt s hpos
  have hs3 := mlt_s hs
  have hdl : s / 5 ^ b < 5 := by
    rw [Nat.div_lt_iff_lt_mul hpos]
    rw [Nat.pow_succ] at hsb
    omega
  have hd : ∀ j, j < 5 → pd s j = pd (s % 5 ^ b) j + kk (s / 5 ^ b) * (if j = b then 1 else 0) := by
    intro j hj
    by_cases c1 : j = b
    · subst c1
      rw [if_pos rfl, pd_hi hmod (Nat.le_refl _)]
      show kk (s / 5 ^ j) = _
      grind
    · rw [if_neg c1]
      by_cases c2 : j < b
      · have : pd (s % 5 ^ b) j = pd s j := by
          unfold pd
          rw [← kk_mod (s % 5 ^ b / 5 ^ j), ← kk_mod (s / 5 ^ j)]
          have e2 : b = j + (b - j) := by omega
          rw [e2, Nat.pow_add, Nat.mod_mul_right_div_self, show b - j = (b - j - 1) + 1 by omega, Nat.pow_succ, Nat.mul_comm (5 ^ (b - j - 1)) 5, Nat.mod_mul_right_mod]
        rw [this]; grind
      · rw [pd_hi hsb (by omega), pd_hi hmod (by omega)]; grind
  refine ⟨⟨?_, fun k hk => ?_⟩, ?_, hdl⟩
  · have := hs.1
    have : s % 5 ^ b ≤ s := Nat.mod_le _ _
    omega
  · have hp2 := hs.2 k hk
    rw [cv_cong (pd q) hd k hk, cv_lin _ _ _ _ k hk, cv_e _ b (by omega) k hk] at hp2
    rw [pd_pm _ _ _ _ hk, pd_sh, kk_5s (by omega), hp2]
    generalize (if k < b then 0 else pd q (k - b)) = y
    grind
  · rw [hs.2 _ (by omega)]
    exact (cv_top (pd q) (pd s) (dg q) (by omega) b (by omega) hb (fun i hi _ => pd_gt hq hi) (fun j hj _ => pd_hi hsb (by omega))).1
theorem ys_div81 {post : SY → Prop} {J : Int32 → (Nat → Int32) → (Nat → Int32) → (Nat → Int32) → (Nat → Int32) → (Nat → Int32) → (Nat → Int32) → (Nat → Int32) → (Nat → Int32) → Prop} {x1 : Int32} {N lw b cc : Nat} {g : Nat → Nat} {mn te dv ot fc kp rw : Nat → Nat} (hm : b5 mn) (ho : b5 ot) (hlw : dg (nu ot) = lw) (hb : lw + b ≤ 4) (hcc : cc < 5)
    (H : ∀ mn' : Nat → Nat, b5 mn' → nu mn' = pm (nu mn) (5 - cc) (nu ot * 5 ^ b) → J (nI (lw + b) + (-1)) (zA g) (zA mn') (zA te) (zA dv) (zA ot) (zA fc) (zA kp) (zA rw)) :
    ∃ n81, wY_divide_81 post J x1 (nI lw) (nI (lw + b)) (nI cc) (nI N) n81 0 (zA g) (zA mn) (zA te) (zA dv) (zA ot) (zA fc) (zA kp) (zA rw) := by
  have aot := nu_lt ho
  refine loop_0 (fun n k (s : Nat → Nat) => wY_divide_81 post J x1 (nI lw) (nI (lw + b)) (nI cc) (nI N) n (nI k) (zA g) (zA s) (zA te) (zA dv) (zA ot) (zA fc) (zA kp) (zA rw))
    (fun k s => b5 s ∧ ∀ j, j < 5 → kk (s j) = kk (mn j) + (if b ≤ j ∧ j < b + k then kk (5 - cc) * kk (ot (j - b)) else 0)) (lw + 1) mn ⟨hm, fun j hj => ?_⟩ ?_ ?_
  · rw [if_neg (by omega)]; grind
  · intro n s hI
    refine br_t (nI_lt (by omega) (by omega)) (nm_e (H s hI.1 ?_))
    refine nu_of hI.1 (pm_lt _ _ _) (fun j hj => ?_)
    rw [hI.2 j hj, pd_pm _ _ _ _ hj, nu_pd hm j hj, pd_sh]
    by_cases e1 : j < b
    · rw [if_neg (by omega), if_pos e1]; grind
    · rw [if_neg e1]
      by_cases e2 : j < b + (lw + 1)
      · rw [if_pos ⟨by omega, e2⟩, nu_pd ho _ (by omega)]
      · rw [if_neg (by omega), pd_gt aot (by omega)]; grind
  · intro n k s hk hI ih
    have e0 : nI (lw + b) - nI lw + nI k = nI (b + k) := by rw [pk_sub (by omega), nI_add, Nat.add_sub_cancel_left]
    have b1 := hI.1 (b + k) (by omega)
    have b2 := ho k (by omega)
    have b3 : (5 - cc) * ot k ≤ 5 * 4 := Nat.mul_le_mul (by omega) (by omega)
    refine br_f (nI_nlt (by omega) (by omega)) ?_
    rw [e0, nI_clamp (by omega), nI_clamp (by omega), zA_at, zA_at, z5s (by omega), pk_mul, nI_add, z5r (by omega)]
    refine ⟨vp_in_nI (by omega) (by decide), vp_in_nI (by omega) (by decide), zf5, vp_in_nI (by omega) (by decide), nm_r (zA_upd _ _ _) (nm_r (nI_1 k) (ih _ ⟨?_, ?_⟩))⟩
    · intro j hj
      by_cases e : j = b + k
      · rw [e, zu_s]; exact Nat.mod_lt _ (by decide)
      · rw [zu_n e]; exact hI.1 j hj
    · intro j hj
      by_cases e : j = b + k
      · rw [e, zu_s, kk_mod, kk_add, kk_mul, hI.2 _ (by omega), if_neg (by omega), if_pos ⟨by omega, by omega⟩, show b + k - b = k by omega]
        grind
      · rw [zu_n e, hI.2 j hj]
        by_cases e2 : b ≤ j ∧ j < b + k
        · rw [if_pos e2, if_pos ⟨e2.1, by omega⟩]
        · rw [if_neg e2, if_neg (by omega)]
theorem dvd_mod_dig {s b : Nat} {i : Nat} (h : i < b) : s % 5 ^ b / 5 ^ i % 5 = s / 5 ^ i % 5 := by
  have e2 : b = i + (b - i) := by omega
  rw [e2, Nat.pow_add, Nat.mod_mul_right_div_self, show b - i = (b - i - 1) + 1 by omega, Nat.pow_succ, Nat.mul_comm (5 ^ (b - i - 1)) 5, Nat.mod_mul_right_mod]
theorem ys_div51 {post : SY → Prop} {N k s : Nat} {g : Nat → Nat} {mn te dv ot fc kp rw : Nat → Nat} (hk : k < 4) (hm : b5 mn) (ho : b5 ot) (h0 : nu ot ≠ 0) (hl : ld (nu ot) = 1) (hs : mlt (nu ot) (nu mn) s) (hf : ∀ j, j < 5 → fc (5 * k + j) = 0)
    (H : ∀ mn' fc' : Nat → Nat, (∀ j, j < 5 → fc' (5 * k + j) = s / 5 ^ j % 5) → (∀ j, (j < 5 * k ∨ 5 * k + 5 ≤ j) → fc' j = fc j) → post (zY N g mn' te dv ot fc' kp rw)) :
    ∃ n51, wY_divide_51 post (nI k) (nI (dg (nu ot))) (nI N) n51 4 (zA g) (zA mn) (zA te) (zA dv) (zA ot) (zA fc) (zA kp) (zA rw) := by
  have b4 := dg_4 (nu ot)
  have aot := nu_lt ho
  generalize hlw : dg (nu ot) = lw at *
  have hs1 := hs.1
  rw [hlw] at hs1
  have main : ∀ e (mn' fc' : Nat → Nat), lw + e ≤ 5 → b5 mn' → mlt (nu ot) (nu mn') (s % 5 ^ e) → (∀ j, e ≤ j → j < 5 → fc' (5 * k + j) = s / 5 ^ j % 5) → (∀ j, j < e → fc' (5 * k + j) = 0) → (∀ j, (j < 5 * k ∨ 5 * k + 5 ≤ j) → fc' j = fc j) →
      wY_divide_51 post (nI k) (nI lw) (nI N) (e + 1) (nI (lw + e) - 1) (zA g) (zA mn') (zA te) (zA dv) (zA ot) (zA fc') (zA kp) (zA rw) := by
    intro e
    induction e with
    | zero =>
      intro mn' fc' he m1 m2 f1 f2 f3
      have hx : nI (lw + 0) - 1 < nI lw := by
        rw [Nat.add_zero]
        by_cases z : lw = 0
        · subst z; decide
        · rw [zs1 (by omega)]; exact nI_lt (by omega) (by omega)
      exact br_t hx (H mn' fc' (fun j hj => f1 j (Nat.zero_le _) hj) f3)
    | succ e ih =>
      intro mn' fc' he m1 m2 f1 f2 f3
      have hpos : 0 < 5 ^ (e + 1) := Nat.pow_pos (by decide)
      obtain ⟨c1, c2, c3⟩ := mlt_cut (b := e) aot m2 (by omega) (Nat.mod_lt _ hpos)
      have e1 : nI (lw + (e + 1)) - 1 = nI (lw + e) := by rw [← Nat.add_assoc, nI_pred]
      rw [e1]
      have hdig : s % 5 ^ (e + 1) / 5 ^ e = s / 5 ^ e % 5 := by
        rw [Nat.pow_succ, Nat.mod_mul_right_div_self]
      have hmod2 : s % 5 ^ (e + 1) % 5 ^ e = s % 5 ^ e := by
        rw [Nat.pow_succ]; exact Nat.mod_mul_right_mod _ _ _
      rw [hmod2, hdig] at c1
      rw [hdig, hlw] at c2
      rw [hdig] at c3
      have hc : mn' (lw + e) = s / 5 ^ e % 5 := by
        refine kk_inj (m1 _ (by omega)) c3 ?_
        rw [← nu_pd m1 _ (by omega), c2]
        have : pd (nu ot) lw = 1 := by rw [← hlw, pd_ld, hl]; rfl
        rw [this]; grind
      have e2 : (5 : Int32) * nI k + nI (lw + e) - nI lw = nI (5 * k + e) := by
        rw [z5m, nI_add, pk_sub (by omega)]
        exact congrArg nI (by omega)
      refine br_f (nI_nlt (by omega) (by omega)) ⟨vp_in_nI (by omega) (by decide), nm_r (e' := nI (s / 5 ^ e % 5)) (by rw [nI_clamp (by omega), zA_at, hc]) ⟨by rw [e2]; exact vp_in_nI (by omega) (by decide), nm_r (e' := zA (zu fc' (5 * k + e) (s / 5 ^ e % 5))) (by rw [e2, nI_clamp (by omega), zA_upd]) ?_⟩⟩
      refine ys_div81 m1 ho hlw (by omega) c3 ?_
      intro mn2 q1 q2
      rw [show nI (lw + e) + (-1) = nI (lw + e) - 1 from (Int32.sub_eq_add_neg _ _).symm]
      refine ih mn2 _ (by omega) q1 (by rw [q2]; exact c1) ?_ ?_ ?_
      · intro j hj hj5
        by_cases z : j = e
        · rw [z, zu_s]
        · rw [zu_n (by omega)]; exact f1 j (by omega) hj5
      · intro j hj
        rw [zu_n (by omega)]; exact f2 j (by omega)
      · intro j hj
        rw [zu_n (by omega)]; exact f3 j hj
  have hfull : s % 5 ^ (5 - lw) = s := Nat.mod_eq_of_lt hs1
  have hst := main (5 - lw) mn fc (by omega) hm (by rw [hfull]; exact hs) (fun j hj hj5 => by
    rw [hf j hj5, Nat.div_eq_of_lt (Nat.lt_of_lt_of_le hs1 (Nat.pow_le_pow_right (by decide) hj))]) (fun j hj => hf j (by omega)) (fun _ _ => rfl)
  rw [show lw + (5 - lw) = 5 by omega] at hst
  exact ⟨_, hst⟩
theorem ndA_dg {a : Nat → Nat} (h : b5 a) (h0 : nu a ≠ 0) : ndA a 5 = dg (nu a) + 1 := by rw [ndA_nd h, nd_pos h0]
theorem ys_divide {post : SY → Prop} {N k s : Nat} {g : Nat → Nat} {mn te dv ot fc kp rw : Nat → Nat} (hk : k < 4) (hd : b5 dv) (ho : b5 ot) (h0 : nu ot ≠ 0) (hl : ld (nu ot) = 1) (hs : mlt (nu ot) (nu dv) s)
    (H : ∀ mn' fc' : Nat → Nat, (∀ j, j < 5 → fc' (5 * k + j) = s / 5 ^ j % 5) → (∀ j, (j < 5 * k ∨ 5 * k + 5 ≤ j) → fc' j = fc j) → post (zY N g mn' te dv ot fc' kp rw)) :
    wpY_divide post (zY N g mn te dv ot fc kp rw) (nI k) := by
  show ∃ n4, wY_divide_4 post (nI k) (nI N) n4 0 0 (zA g) (zA mn) (zA te) (zA dv) (zA ot) (zA fc) (zA kp) (zA rw)
  refine loop_0 (fun n j (q : Nat × (Nat → Nat) × (Nat → Nat)) => wY_divide_4 post (nI k) (nI N) n (nI q.1) (nI j) (zA g) (zA q.2.1) (zA te) (zA dv) (zA ot) (zA q.2.2) (zA kp) (zA rw))
    (fun j q => q.1 = ndA ot j - 1 ∧ (∀ i, i < j → q.2.1 i = dv i) ∧ (∀ i, i < j → q.2.2 (5 * k + i) = 0) ∧ ∀ i, (i < 5 * k ∨ 5 * k + 5 ≤ i) → q.2.2 i = fc i) 5 (0, mn, fc) ⟨rfl, fun i h => absurd h (by omega), fun i h => absurd h (by omega), fun _ _ => rfl⟩ ?_ ?_
  · intro n q hI
    obtain ⟨i1, i2, i3, i4⟩ := hI
    have e1 : q.1 = dg (nu ot) := by rw [i1, ndA_dg ho h0]; rfl
    have m5 : b5 q.2.1 := fun i hi => by rw [i2 i hi]; exact hd i hi
    have en : nu q.2.1 = nu dv := nu_cong i2
    refine br_t (nI_le (a := 5) (Nat.le_refl _) (by omega)) ?_
    rw [e1]
    refine ys_div51 hk m5 ho h0 hl (by rw [en]; exact hs) i3 ?_
    intro mn' fc' f1 f2
    refine H mn' fc' f1 (fun j hj => ?_)
    rw [f2 j hj]; exact i4 j hj
  · intro n j q hj hI ih
    obtain ⟨i1, i2, i3, i4⟩ := hI
    have vj : vp_in (nI j) 5 := vp_in_nI (by omega) (by decide)
    have hoj := ho j hj
    have e0 : (5 : Int32) * nI k + nI j = nI (5 * k + j) := by rw [z5m, nI_add]
    have step : ∀ z : Nat, z = ndA ot (j + 1) - 1 → wY_divide_32 post (wY_divide_4 post (nI k) (nI N) n) (nI k) (nI z) (nI j) (nI N) (zA g) (zA (zu q.2.1 j (dv j))) (zA te) (zA dv) (zA ot) (zA q.2.2) (zA kp) (zA rw) := by
      intro z hz
      unfold wY_divide_32
      rw [e0, nI_clamp (by omega)]
      refine ⟨vp_in_nI (by omega) (by decide), nm_r (e' := zA (zu q.2.2 (5 * k + j) 0)) (by rw [← zA_upd]; rfl) (nm_r (nI_1 j) (ih (z, zu q.2.1 j (dv j), zu q.2.2 (5 * k + j) 0) ⟨hz, ?_, ?_, ?_⟩))⟩
      · intro i hi
        show zu q.2.1 j (dv j) i = dv i
        by_cases e : i = j
        · rw [e, zu_s]
        · rw [zu_n e]; exact i2 i (by omega)
      · intro i hi
        show zu q.2.2 (5 * k + j) 0 (5 * k + i) = 0
        by_cases e : i = j
        · rw [e, zu_s]
        · rw [zu_n (by omega)]; exact i3 i (by omega)
      · intro i hi
        show zu q.2.2 (5 * k + j) 0 i = fc i
        rw [zu_n (by omega)]; exact i4 i hi
    refine br_f (nI_ge (b := 5) hj (by omega)) ?_
    rw [nI_clamp (by omega), zA_at, zA_at]
    refine ⟨vj, vj, nm_r (zA_upd _ _ _) ⟨vj, pk_eq (ot j) 0 ?_ ?_⟩⟩
    · intro e
      refine step q.1 ?_
      rw [i1]
      show _ = (if ot j = 0 then ndA ot j else j + 1) - 1
      rw [if_pos e]
    · intro e
      refine step j ?_
      show _ = (if ot j = 0 then ndA ot j else j + 1) - 1
      rw [if_neg e, Nat.add_sub_cancel]
theorem ys_findFactors {post : SY → Prop} {N r : Nat} {g : Nat → Nat} {mn te dv ot fc kp rw : Nat → Nat} (h1 : 1 ≤ N) (hN : N ≤ 4) (hr : r < 5) (hg : ∀ j, g j < 5)
    (H : ∀ mn' te' dv' ot' fc' d s : Nat → Nat, fac (zSl g N r) N d s → (∀ k j, k < N → j < 5 → fc' (5 * k + j) = s k / 5 ^ j % 5) → post (zY N g mn' te' dv' ot' fc' kp rw)) :
    wpY_findFactors post (zY N g mn te dv ot fc kp rw) (nI r) := by
  generalize hA : zSl g N r = A at *
  show ∃ n2, wY_findFactors_2 post (nI r) (nI N) n2 0 (zA g) (zA mn) (zA te) (zA dv) (zA ot) (zA fc) (zA kp) (zA rw)
  refine loop_0 (fun n j (s : Nat → Nat) => wY_findFactors_2 post (nI r) (nI N) n (nI j) (zA g) (zA mn) (zA te) (zA dv) (zA s) (zA fc) (zA kp) (zA rw))
    (fun j s => ∀ i, i < j → s i = if i = 0 then 1 else 0) 5 ot (fun i h => absurd h (by omega)) ?_ ?_
  · intro n o0 hz
    have z5 : b5 o0 := fun i hi => by rw [hz i hi]; split <;> decide
    have zn : nu o0 = 1 := nu_of z5 (by decide) (fun i hi => by rw [hz i hi, pd_1]; split <;> rfl)
    refine br_t (nI_le (a := 5) (Nat.le_refl _) (by omega)) ?_
    refine loop_0 (fun n k (q : (Nat → Nat) × (Nat → Nat) × (Nat → Nat) × (Nat → Nat) × (Nat → Nat)) => wY_findFactors_30 post (nI r) n (nI k) (nI N) (zA g) (zA q.1) (zA q.2.1) (zA q.2.2.1) (zA q.2.2.2.1) (zA q.2.2.2.2) (zA kp) (zA rw))
      (fun k q => b5 q.2.2.2.1 ∧ ∃ d s : Nat → Nat, (∀ i, i ≤ k → gD A N i (d i)) ∧ (∀ i, i < k → mlt (d i) (d (i + 1)) (s i)) ∧ nu q.2.2.2.1 = d k ∧ ∀ i j, i < k → j < 5 → q.2.2.2.2 (5 * i + j) = s i / 5 ^ j % 5) N (mn, te, dv, o0, fc) ⟨z5, fun _ => 1, fun _ => 0, ?_, fun i hi => absurd hi (by omega), zn, fun i j hi => absurd hi (by omega)⟩ ?_ ?_
    · intro i hi
      have : i = 0 := by omega
      subst this
      exact gD_0 A hN
    · intro n' q hI
      obtain ⟨_, d, s, i1, i2, i3, i4⟩ := hI
      exact br_t (nI_le (Nat.le_refl _) (by omega)) (H _ _ _ _ _ d s ⟨i1, i2⟩ i4)
    · intro n' k q hk hI ih
      obtain ⟨i0, d, s, i1, i2, i3, i4⟩ := hI
      refine br_f (nI_ge hk (by omega)) ?_
      rw [nI_1]
      refine ys_shareAll hN hr (by omega) (by omega) hg ?_
      intro mn' te' dv' d5 hD
      rw [hA] at hD
      have gb := i1 k (Nat.le_refl _)
      obtain ⟨n1, n2⟩ := gD_ne hN (by omega) gb
      obtain ⟨t, ht⟩ := gD_mul hN (by omega) gb hD
      refine ys_divide (s := t) (by omega) d5 i0 (by rw [i3]; exact n1) (by rw [i3]; exact n2) (by rw [i3]; exact ht) ?_
      intro mn2 fc2 f1 f2
      refine loop_0 (fun n2 j (o : Nat → Nat) => wY_findFactors_53 post (wY_findFactors_30 post (nI r) n') (nI r) (nI k) (nI N) n2 (nI j) (zA g) (zA mn2) (zA te') (zA dv') (zA o) (zA fc2) (zA kp) (zA rw))
        (fun j o => ∀ i, i < j → o i = dv' i) 5 q.2.2.2.1 (fun i h => absurd h (by omega)) ?_ ?_
      · intro n2 o ho
        have o5 : b5 o := fun i hi => by rw [ho i hi]; exact d5 i hi
        have on : nu o = nu dv' := nu_cong ho
        refine br_t (nI_le (a := 5) (Nat.le_refl _) (by omega)) (nm_r (nI_1 k) (ih (mn2, te', dv', o, fc2) ⟨o5, zu d (k + 1) (nu dv'), zu s k t, ?_, ?_, ?_, ?_⟩))
        · intro i hi
          by_cases e : i = k + 1
          · rw [e, zu_s]; exact hD
          · rw [zu_n e]; exact i1 i (by omega)
        · intro i hi
          by_cases e : i = k
          · rw [e, zu_s, zu_s, zu_n (by omega)]; exact ht
          · rw [zu_n (by omega), zu_n (by omega), zu_n e]; exact i2 i (by omega)
        · show nu o = zu d (k + 1) (nu dv') (k + 1)
          rw [zu_s, on]
        · intro i j hi hj
          show fc2 (5 * i + j) = zu s k t i / 5 ^ j % 5
          by_cases e : i = k
          · rw [e, zu_s]; exact f1 j hj
          · rw [zu_n e, f2 _ (by omega)]; exact i4 i j (by omega) hj
      · intro n2 j o hj ho ih2
        have vj : vp_in (nI j) 5 := vp_in_nI (by omega) (by decide)
        refine br_f (nI_ge (b := 5) hj (by omega)) ?_
        rw [nI_clamp (by omega), zA_at]
        refine ⟨vj, vj, nm_r (zA_upd _ _ _) (nm_r (nI_1 j) (ih2 _ ?_))⟩
        intro i hi
        by_cases e : i = j
        · rw [e, zu_s]
        · rw [zu_n e]; exact ho i (by omega)
  · intro n j s hj hz ih
    have vj : vp_in (nI j) 5 := vp_in_nI (by omega) (by decide)
    have step : ∀ z : Nat, (z = if j = 0 then 1 else 0) → ∀ {y : Int32}, y = nI z → vp_in (nI j) 5 ∧ ∀ b : Nat → Int32, b = upd (zA s) (nI j).toNatClampNeg y → ∀ x : Int32, x = nI j + 1 →
        wY_findFactors_2 post (nI r) (nI N) n x (zA g) (zA mn) (zA te) (zA dv) b (zA fc) (zA kp) (zA rw) := by
      intro z ez y hy
      subst hy
      refine ⟨vj, nm_r (e' := zA (zu s j z)) (by rw [nI_clamp (by omega), zA_upd]) (nm_r (nI_1 j) (ih _ ?_))⟩
      intro i hi
      by_cases e : i = j
      · rw [e, zu_s, ez]
      · rw [zu_n e]; exact hz i (by omega)
    refine br_f (nI_ge (b := 5) hj (by omega)) (pk_eq j 0 ?_ ?_)
    · intro e
      exact step 1 (by rw [if_pos e]) rfl
    · intro e
      exact step 0 (by rw [if_neg e]) rfl
theorem ys_degF {post : Int32 → Prop} {N k s : Nat} {g : Nat → Nat} {mn te dv ot fc kp rw : Nat → Nat} (hk : k < 4) (hs : s < 3125) (h0 : s ≠ 0) (hf : ∀ j, j < 5 → fc (5 * k + j) = s / 5 ^ j % 5) (H : post (nI (dg s))) : wpY_degreeOfFactor post (zY N g mn te dv ot fc kp rw) (nI k) := by
  have a5 : b5 (fun j => fc (5 * k + j)) := fun j hj => by show fc (5 * k + j) < 5; rw [hf j hj]; exact Nat.mod_lt _ (by decide)
  have an : nu (fun j => fc (5 * k + j)) = s := nu_of a5 hs (fun j hj => by show kk (fc (5 * k + j)) = _; rw [hf j hj, kk_mod]; rfl)
  show ∃ n4, wY_degreeOfFactor_4 post (nI k) (nI N) (zA g) (zA mn) (zA te) (zA dv) (zA ot) (zA fc) (zA kp) (zA rw) n4 0 0
  refine loop_0 (fun n j (e : Nat) => wY_degreeOfFactor_4 post (nI k) (nI N) (zA g) (zA mn) (zA te) (zA dv) (zA ot) (zA fc) (zA kp) (zA rw) n (nI e) (nI j))
    (fun j e => e = ndA (fun j => fc (5 * k + j)) j - 1) 5 0 rfl ?_ ?_
  · intro n e he
    refine br_t (nI_le (a := 5) (Nat.le_refl _) (by omega)) ?_
    rw [he, ndA_dg a5 (by rw [an]; exact h0), an]; exact H
  · intro n j e hj he ih
    have hb := a5 j hj
    have e0 : (5 : Int32) * nI k + nI j = nI (5 * k + j) := by rw [z5m, nI_add]
    refine br_f (nI_ge (b := 5) hj (by omega)) ?_
    rw [e0, nI_clamp (by omega), zA_at]
    refine ⟨vp_in_nI (by omega) (by decide), pk_eq (fc (5 * k + j)) 0 ?_ ?_ (ha := by have : fc (5 * k + j) < 5 := hb; omega)⟩
    · intro z
      refine nm_r (nI_1 j) (ih e ?_)
      rw [he]
      show _ = (if fc (5 * k + j) = 0 then ndA (fun j => fc (5 * k + j)) j else j + 1) - 1
      rw [if_pos z]
    · intro z
      refine nm_r (nI_1 j) (ih j ?_)
      show _ = (if fc (5 * k + j) = 0 then ndA (fun j => fc (5 * k + j)) j else j + 1) - 1
      rw [if_neg z, Nat.add_sub_cancel]
theorem ys_writ {post : Int32 → Prop} {N k s : Nat} {g : Nat → Nat} {mn te dv ot fc kp rw : Nat → Nat} (hk : k < 4) (hs : s < 3125) (hf : ∀ j, j < 5 → fc (5 * k + j) = s / 5 ^ j % 5) (H : post (nI s)) : wpY_written post (zY N g mn te dv ot fc kp rw) (nI k) := by
  have a5 : b5 (fun j => fc (5 * k + j)) := fun j hj => by show fc (5 * k + j) < 5; rw [hf j hj]; exact Nat.mod_lt _ (by decide)
  have an : nu (fun j => fc (5 * k + j)) = s := nu_of a5 hs (fun j hj => by show kk (fc (5 * k + j)) = _; rw [hf j hj, kk_mod]; rfl)
  have main : ∀ d p, d ≤ 5 → p < 5 ^ (5 - d) → post (nI (hrn (fun j => fc (5 * k + j)) d p)) → wY_written_4 post (nI k) (nI N) (zA g) (zA mn) (zA te) (zA dv) (zA ot) (zA fc) (zA kp) (zA rw) (d + 1) (nI p) (nI d - 1) := by
    intro d
    induction d with
    | zero =>
      intro p _ _ h
      exact br_t (by decide) h
    | succ d ih =>
      intro p hd hp h
      have md : fc (5 * k + d) < 5 := a5 d (by omega)
      have e : 5 - d = (5 - (d + 1)) + 1 := by omega
      have hp5 : 5 * p + fc (5 * k + d) < 5 ^ (5 - d) := by
        rw [e, Nat.pow_succ]; omega
      have e0 : (5 : Int32) * nI k + nI d = nI (5 * k + d) := by rw [z5m, nI_add]
      rw [nI_pred]
      refine br_f (nI_pos (by omega)) ?_
      rw [e0, nI_clamp (by omega), zA_at]
      refine ⟨vp_in_nI (by omega) (by decide), nm_r (e' := nI (5 * p + fc (5 * k + d))) (by rw [z5m, nI_add]) (nm_r (e' := nI d - 1) (Int32.sub_eq_add_neg _ _).symm (ih _ (by omega) hp5 h))⟩
  refine ⟨6, main 5 0 (by omega) (by decide) ?_⟩
  have : hrn (fun j => fc (5 * k + j)) 5 0 = s := an
  rw [this]; exact H
