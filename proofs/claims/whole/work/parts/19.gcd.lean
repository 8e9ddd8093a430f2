/-! polynomials as numbers: degree, ideals, the component's common divisor -/
def dg (p : Nat) : Nat := if p < 5 then 0 else if p < 25 then 1 else if p < 125 then 2 else if p < 625 then 3 else 4
theorem dg_4 (p : Nat) : dg p ≤ 4 := by
  unfold dg; repeat' split
  all_goals omega
theorem dg_lt {p : Nat} (h : p < 3125) : p < 5 ^ (dg p + 1) := by
  unfold dg; repeat' split
  all_goals (simp only [Nat.reduceAdd, Nat.reducePow]; omega)
theorem dg_ge {p : Nat} (h0 : p ≠ 0) : 5 ^ dg p ≤ p := by
  unfold dg; repeat' split
  all_goals (simp only [Nat.reducePow]; omega)
theorem dg_of {p j : Nat} (h4 : j ≤ 4) (h1 : p < 5 ^ (j + 1)) (h2 : j = 0 ∨ 5 ^ j ≤ p) : dg p = j := by
  unfold dg
  match j, h4 with
  | 0, _ => rw [if_pos (by simpa using h1)]
  | 1, _ => simp only [Nat.reduceAdd, Nat.reducePow] at h1 h2; rw [if_neg (by omega), if_pos (by omega)]
  | 2, _ => simp only [Nat.reduceAdd, Nat.reducePow] at h1 h2; rw [if_neg (by omega), if_neg (by omega), if_pos (by omega)]
  | 3, _ => simp only [Nat.reduceAdd, Nat.reducePow] at h1 h2; rw [if_neg (by omega), if_neg (by omega), if_neg (by omega), if_pos (by omega)]
  | 4, _ => simp only [Nat.reduceAdd, Nat.reducePow] at h1 h2; rw [if_neg (by omega), if_neg (by omega), if_neg (by omega), if_neg (by omega)]
theorem dg_mono {p q : Nat} (h : p ≤ q) : dg p ≤ dg q := by
  unfold dg; repeat' split
  all_goals omega
theorem dg_le {p j : Nat} (h : p < 5 ^ (j + 1)) : dg p ≤ j := by
  by_cases e : j ≤ 4
  · have := dg_mono (show p ≤ 5 ^ (j + 1) - 1 by omega)
    match j, e with
    | 0, _ => exact this
    | 1, _ => exact this
    | 2, _ => exact this
    | 3, _ => exact this
    | 4, _ => exact this
  · have := dg_4 p
    omega
theorem xs_top {post : Int32 → Prop} {p : Nat} (hp : p < 3125) (H : post (nI (5 ^ dg p))) : wpX_topPlace post (nI p) := by
  show ∃ n4, wX_topPlace_4 post (nI p) n4 1 1
  refine pk_loop (fun n i (j : Nat) => wX_topPlace_4 post (nI p) n (nI (5 ^ j)) (nI i))
    (fun i j => 1 ≤ i ∧ j ≤ i - 1 ∧ (p < 5 ^ (j + 1) ∨ j = i - 1) ∧ (j = 0 ∨ 5 ^ j ≤ p)) 5 1 0 (by omega) ⟨by omega, by omega, Or.inr rfl, Or.inl rfl⟩ ?_ ?_
  · intro n j hI
    refine br_t (nI_le (a := 5) (Nat.le_refl _) (by omega)) ?_
    have : p < 5 ^ (j + 1) := by
      rcases hI.2.2.1 with h | h
      · exact h
      · rw [h]; exact hp
    rw [← dg_of (by omega) this hI.2.2.2]
    exact H
  · intro n i j hi hI ih
    have h5 : 5 ^ (j + 1) ≤ 3125 := (pow5 (j + 1) (by omega)).2
    refine br_f (nI_ge (b := 5) hi (by omega)) ?_
    rw [zm5, ← Nat.pow_succ]
    refine pk_lt p (5 ^ (j + 1)) ?_ ?_
    · intro e
      exact nm_r (nI_1 i) (ih j ⟨by omega, by omega, Or.inl e, hI.2.2.2⟩)
    · intro e
      refine nm_r (e' := nI (5 ^ (j + 1))) rfl (nm_r (nI_1 i) (ih (j + 1) ⟨by omega, by omega, Or.inr ?_, Or.inr e⟩))
      rcases hI.2.2.1 with h | h <;> omega
theorem dg_cnt : ∀ p, p < 3125 → zs (fun t => if 0 < p / 5 ^ (t + 1) then 1 else 0) 4 = dg p := by
  intro p hp
  show 0 + (if 0 < p / 5 ^ (0 + 1) then 1 else 0) + (if 0 < p / 5 ^ (1 + 1) then 1 else 0) + (if 0 < p / 5 ^ (2 + 1) then 1 else 0) + (if 0 < p / 5 ^ (3 + 1) then 1 else 0) = dg p
  simp only [Nat.reduceAdd, Nat.reducePow]
  unfold dg
  repeat' split
  all_goals omega
theorem xs_degree {post : Int32 → Prop} {p : Nat} (hp : p < 3125) (H : post (nI (dg p))) : wpX_degree post (nI p) := by
  unfold wpX_degree
  refine ⟨zf5, nm_r (z5d (by omega)) ?_⟩
  have hb : ∀ i, zs (fun t => if 0 < p / 5 ^ (t + 1) then 1 else 0) i ≤ i := fun i => zs_le1 (fun t => by split <;> decide) i
  refine pk_loop (fun n i (q : Nat × Nat) => wX_degree_8 post n (nI q.1) (nI q.2) (nI i))
    (fun i q => 1 ≤ i ∧ q.2 = p / 5 ^ i ∧ q.1 = zs (fun t => if 0 < p / 5 ^ (t + 1) then 1 else 0) (i - 1)) 5 1 (0, p / 5) (by omega) ⟨by omega, by rw [Nat.pow_one], rfl⟩ ?_ ?_
  · intro n q hI
    refine br_t (nI_le (a := 5) (Nat.le_refl _) (by omega)) ?_
    rw [hI.2.2, dg_cnt p hp]
    exact H
  · intro n i q hi hI ih
    obtain ⟨i', rfl⟩ : ∃ i', i = i' + 1 := ⟨i - 1, by have := hI.1; omega⟩
    have e1 : q.1 = zs (fun t => if 0 < p / 5 ^ (t + 1) then 1 else 0) i' := hI.2.2
    have e2 : q.2 = p / 5 ^ (i' + 1) := hI.2.1
    have b1 := hb i'
    have b2 : q.2 ≤ p := by rw [e2]; exact Nat.div_le_self _ _
    have e3 : q.2 / 5 = p / 5 ^ (i' + 1 + 1) := by
      rw [e2, Nat.div_div_eq_div_mul, Nat.pow_succ 5 (i' + 1)]
    refine br_f (nI_ge (b := 5) hi (by omega)) (pk_le q.2 0 ?_ ?_)
    · intro e
      refine ⟨zf5, nm_r (z5d (by omega)) (nm_r (nI_1 (i' + 1)) (ih (q.1, q.2 / 5) ⟨by omega, e3, ?_⟩))⟩
      show q.1 = zs (fun t => if 0 < p / 5 ^ (t + 1) then 1 else 0) i' + (if 0 < p / 5 ^ (i' + 1) then 1 else 0)
      rw [if_neg (by omega), e1]; rfl
    · intro e
      refine nm_r (nI_1 q.1) ⟨zf5, nm_r (z5d (by omega)) (nm_r (nI_1 (i' + 1)) (ih (q.1 + 1, q.2 / 5) ⟨by omega, e3, ?_⟩))⟩
      show q.1 + 1 = zs (fun t => if 0 < p / 5 ^ (t + 1) then 1 else 0) i' + (if 0 < p / 5 ^ (i' + 1) then 1 else 0)
      rw [if_pos (by omega), e1]
def Idl (P : Nat → Prop) : Prop := P 0 ∧ (∀ p q s, p < 3125 → q < 3125 → s ≤ 5 → P p → P q → P (pm p s q)) ∧ (∀ p, p < 625 → P p → P (5 * p))
theorem Idl_sh {P : Nat → Prop} (hP : Idl P) {q : Nat} (hq : P q) : ∀ j, q * 5 ^ j < 3125 → P (q * 5 ^ j) := by
  intro j
  induction j with
  | zero => intro _; rw [Nat.pow_zero, Nat.mul_one]; exact hq
  | succ j ih =>
    intro h
    have e : q * 5 ^ (j + 1) = 5 * (q * 5 ^ j) := by rw [Nat.pow_succ, ← Nat.mul_assoc, Nat.mul_comm]
    rw [e] at h ⊢
    exact hP.2.2 _ (by omega) (ih (by omega))
theorem pd_sh (q : Nat) : ∀ j k, pd (q * 5 ^ j) k = if k < j then 0 else pd q (k - j) := by
  intro j
  induction j with
  | zero => intro k; rw [Nat.pow_zero, Nat.mul_one, if_neg (by omega)]; rfl
  | succ j ih =>
    intro k
    have e : q * 5 ^ (j + 1) = 5 * (q * 5 ^ j) := by rw [Nat.pow_succ, ← Nat.mul_assoc, Nat.mul_comm]
    rw [e, pd_5]
    cases k with
    | zero => rw [if_pos (by omega)]; rfl
    | succ k =>
      show pd (q * 5 ^ j) k = _
      rw [ih k]
      by_cases h : k < j
      · rw [if_pos h, if_pos (by omega)]
      · rw [if_neg h, if_neg (by omega), show k + 1 - (j + 1) = k - j by omega]
theorem pm_back {p s q : Nat} (hp : p < 3125) (hs : s ≤ 5) : pm (pm p s q) (5 - s) q = p := by
  refine pd_inj (pm_lt _ _ _) hp (fun k hk => ?_)
  rw [pd_pm _ _ _ _ hk, pd_pm _ _ _ _ hk, kk_5s hs]
  grind
/-- the leading coefficient -/
def ld (p : Nat) : Nat := p / 5 ^ dg p
theorem ld_in {p : Nat} (h : p < 3125) (h0 : p ≠ 0) : 0 < ld p ∧ ld p < 5 := by
  have h1 := dg_lt h
  have h2 := dg_ge h0
  have h3 := (pow5 (dg p) (by have := dg_4 p; omega)).1
  unfold ld
  refine ⟨Nat.div_pos h2 h3, ?_⟩
  rw [Nat.div_lt_iff_lt_mul h3]
  rw [Nat.pow_succ] at h1
  omega
theorem ld_lt {p : Nat} (h : p < 3125) : ld p < 5 := by
  by_cases e : p = 0
  · subst e; decide
  · exact (ld_in h e).2
theorem ld_k {p : Nat} (h : p < 3125) (h0 : p ≠ 0) : kk (ld p) ≠ 0 := by
  obtain ⟨h1, h2⟩ := ld_in h h0
  intro z
  have := kk_inj h2 (by decide : 0 < 5) (by rw [z]; rfl)
  omega
theorem pd_ld (p : Nat) : pd p (dg p) = kk (ld p) := rfl
theorem pd_gt {p k : Nat} (h : p < 3125) (hk : dg p < k) : pd p k = 0 := pd_hi (dg_lt h) hk
theorem inv_k {a : Nat} (h : kk a ≠ 0) : kk (a * a * a % 5) * kk a = 1 := by
  rw [kk_mod, kk_mul, kk_mul]
  have := kt_inv _ h
  grind
/-- one step of the division -/
def stp (a b : Nat) : Nat := pm a ((5 - ld a) * (ld b * ld b * ld b % 5) % 5) (b * 5 ^ (dg a - dg b))
theorem stp_q {a b : Nat} (ha : a < 3125) (hb : b < 3125) (hd : dg b ≤ dg a) : b * 5 ^ (dg a - dg b) < 3125 := by
  have h1 := dg_lt hb
  have h2 := dg_4 a
  have : b * 5 ^ (dg a - dg b) < 5 ^ (dg b + 1) * 5 ^ (dg a - dg b) := Nat.mul_lt_mul_of_pos_right h1 (Nat.pow_pos (by decide))
  rw [← Nat.pow_add] at this
  have h3 : (5 : Nat) ^ (dg b + 1 + (dg a - dg b)) ≤ 5 ^ 5 := Nat.pow_le_pow_right (by decide) (by omega)
  have h4 : (5 : Nat) ^ 5 = 3125 := rfl
  omega
theorem stp_lt {a b : Nat} (ha : a < 3125) (hb : b < 3125) (hb0 : b ≠ 0) (hd : dg b ≤ dg a) : stp a b < 5 ^ dg a := by
  have h4 := dg_4 a
  refine pd_ltp (pm_lt _ _ _) (by omega) ?_
  intro k k1 k5
  unfold stp
  rw [pd_pm _ _ _ _ k5, pd_sh, if_neg (by omega)]
  by_cases e : k = dg a
  · subst e
    rw [show dg a - (dg a - dg b) = dg b by omega, pd_ld, pd_ld, kk_mod, kk_mul, kk_5s (by have := ld_lt ha; omega)]
    have := inv_k (ld_k hb hb0)
    grind
  · rw [pd_gt ha (by omega), pd_gt hb (by omega)]
    grind
theorem stp_I {P : Nat → Prop} (hP : Idl P) {a b : Nat} (ha : a < 3125) (hb : b < 3125) (hd : dg b ≤ dg a) (hPb : P b) : P (stp a b) ↔ P a := by
  have hq := stp_q ha hb hd
  have hPq := Idl_sh hP hPb _ hq
  have hs : (5 - ld a) * (ld b * ld b * ld b % 5) % 5 < 5 := Nat.mod_lt _ (by decide)
  refine ⟨fun h => ?_, fun h => hP.2.1 _ _ _ ha hq (by omega) h hPq⟩
  have := hP.2.1 _ _ _ (pm_lt _ _ _) hq (show 5 - (5 - ld a) * (ld b * ld b * ld b % 5) % 5 ≤ 5 by omega) h hPq
  unfold stp at this
  rwa [pm_back ha (by omega)] at this
/-- number of digits -/
def nd (p : Nat) : Nat := if p = 0 then 0 else dg p + 1
theorem nd_5 (p : Nat) : nd p ≤ 5 := by
  unfold nd; have := dg_4 p; split <;> omega
theorem nd_lt {p j : Nat} (h : p < 5 ^ j) : nd p ≤ j := by
  unfold nd
  split
  · omega
  · rename_i e
    cases j with
    | zero => simp at h; exact absurd h e
    | succ j => have := dg_le h; omega
/-- 0 or with leading coefficient 1 -/
def mon (p : Nat) : Prop := p = 0 ∨ ld p = 1
theorem nrm {a : Nat} (ha : a < 3125) : mon (pm 0 (ld a * ld a * ld a % 5) a) ∧ (∀ P, Idl P → (P (pm 0 (ld a * ld a * ld a % 5) a) ↔ P a)) := by
  have hl : ld a * ld a * ld a % 5 < 5 := Nat.mod_lt _ (by decide)
  by_cases e : a = 0
  · subst e
    have e0 : pm 0 (ld 0 * ld 0 * ld 0 % 5) 0 = 0 := by decide
    rw [e0]
    exact ⟨Or.inl rfl, fun P hP => Iff.rfl⟩
  · have hk := ld_k ha e
    have hi := inv_k hk
    have h4 := dg_4 a
    have hz : ∀ k, pd 0 k = 0 := fun k => by unfold pd; rw [Nat.zero_div]; rfl
    have hd : ∀ k, k < 5 → pd (pm 0 (ld a * ld a * ld a % 5) a) k = kk (ld a * ld a * ld a % 5) * pd a k := by
      intro k hk
      rw [pd_pm _ _ _ _ hk, hz]; grind
    have hlt : pm 0 (ld a * ld a * ld a % 5) a < 5 ^ (dg a + 1) := by
      refine pd_ltp (pm_lt _ _ _) (by omega) (fun k k1 k5 => ?_)
      rw [hd k k5, pd_gt ha (by omega)]; grind
    have hld : pd (pm 0 (ld a * ld a * ld a % 5) a) (dg a) = 1 := by
      rw [hd _ (by omega), pd_ld]; exact hi
    generalize hb : pm 0 (ld a * ld a * ld a % 5) a = b at *
    have hb3 : b < 3125 := by rw [← hb]; exact pm_lt _ _ _
    have hge : 5 ^ dg a ≤ b := by
      refine Nat.le_of_not_lt (fun z => ?_)
      rw [pd_hi z (Nat.le_refl _)] at hld
      exact absurd hld (by decide)
    have hdg : dg b = dg a := dg_of h4 hlt (Or.inr hge)
    refine ⟨Or.inr ?_, fun P hP => ⟨fun h => ?_, fun h => ?_⟩⟩
    · have : kk (ld b) = kk 1 := by rw [← pd_ld, hdg, hld]; rfl
      exact kk_inj (ld_lt hb3) (by decide) this
    · have := hP.2.1 0 b (ld a) (by decide) hb3 (by have := ld_lt ha; omega) hP.1 h
      have e2 : pm 0 (ld a) b = a := by
        refine pd_inj (pm_lt _ _ _) ha (fun k hk => ?_)
        rw [pd_pm _ _ _ _ hk, hz, hd k hk]
        grind
      rwa [e2] at this
    · rw [← hb]
      exact hP.2.1 _ _ _ (by decide) ha (by omega) hP.1 h
theorem xs_recip {post : Int32 → Prop} {a : Nat} (ha : a < 5) (H : post (nI (a * a * a % 5))) : wpX_reciprocal post (nI a) := by
  have l1 : a * a ≤ 4 * 4 := Nat.mul_le_mul (by omega) (by omega)
  have l2 : a * a * a ≤ 16 * 4 := Nat.mul_le_mul l1 (by omega)
  unfold wpX_reciprocal
  refine ⟨zf5, ?_⟩
  rw [pk_mul, pk_mul, z5r (by omega)]
  exact H
theorem xs_gcd85 {post : Int32 → Prop} {a : Nat} (ha : a < 3125) (H : post (nI (pm 0 (ld a * ld a * ld a % 5) a))) : wX_commonDivisor_85 post (nI a) := by
  unfold wX_commonDivisor_85
  have h4 := dg_4 a
  obtain ⟨g1, g2⟩ := pow5 (dg a) (by omega)
  have hl : ld a * ld a * ld a % 5 < 5 := Nat.mod_lt _ (by decide)
  refine xs_top ha ⟨nI_ne0 g1 (by omega), nm_r (e' := nI (ld a)) (pk_div (by omega) g1 (by omega)) ?_⟩
  refine xs_recip (ld_lt ha) ?_
  exact xs_pm (by decide) (by omega) ha H
theorem xs_gcd {post : Int32 → Prop} {p q : Nat} (hp : p < 3125) (hq : q < 3125)
    (H : ∀ g, g < 3125 → mon g → (∀ P, Idl P → (P g ↔ P p ∧ P q)) → post (nI g)) : wpX_commonDivisor post (nI p) (nI q) := by
  show ∃ n7, wX_commonDivisor_7 post n7 (nI p) (nI q) 0
  have fin : ∀ a, a < 3125 → (∀ P, Idl P → (P a ↔ P p ∧ P q)) → wX_commonDivisor_85 post (nI a) := by
    intro a ha hI
    obtain ⟨n1, n2⟩ := nrm ha
    exact xs_gcd85 ha (H _ (pm_lt _ _ _) n1 (fun P hP => (n2 P hP).trans (hI P hP)))
  have body : ∀ n i a b, a < 3125 → b < 3125 → b ≤ a → nd a + nd b + i ≤ 10 → (∀ P, Idl P → (P a ∧ P b ↔ P p ∧ P q)) →
      (∀ a' b', a' < 3125 → b' < 3125 → nd a' + nd b' + (i + 1) ≤ 10 → nd a' + nd b' < nd a + nd b → (∀ P, Idl P → (P a' ∧ P b' ↔ P p ∧ P q)) → wX_commonDivisor_7 post n (nI a') (nI b') (nI (i + 1))) →
      wX_commonDivisor_28 post (wX_commonDivisor_7 post n) (nI a) (nI b) (nI i) := by
    intro n i a b ha hb hba hm hI ih
    unfold wX_commonDivisor_28
    refine pk_eq b 0 ?_ ?_
    · intro e
      refine fin a ha (fun P hP => ?_)
      rw [← hI P hP, e]
      exact ⟨fun h => ⟨h, hP.1⟩, fun h => h.1⟩
    · intro e
      have a0 : a ≠ 0 := by omega
      have ha4 := dg_4 a
      have hb4 := dg_4 b
      have hd := dg_mono hba
      obtain ⟨g1, g2⟩ := pow5 (dg a) (by omega)
      obtain ⟨g3, g4⟩ := pow5 (dg b) (by omega)
      have lb := ld_lt hb
      have la := ld_lt ha
      have hl : ld b * ld b * ld b % 5 < 5 := Nat.mod_lt _ (by decide)
      have hl2 : (5 - ld a) * (ld b * ld b * ld b % 5) ≤ 5 * 4 := Nat.mul_le_mul (by omega) (by omega)
      have hsq := stp_q ha hb hd
      refine xs_top ha (xs_top hb ⟨nI_ne0 g1 (by omega), nI_ne0 g3 (by omega), ?_⟩)
      rw [pk_div (a := b) (by omega) g3 (by omega)]
      refine xs_recip (a := ld b) lb ⟨zf5, nm_r (e' := nI ((5 - ld a) * (ld b * ld b * ld b % 5) % 5)) ?_ ⟨nI_ne0 g3 (by omega), ?_⟩⟩
      · rw [pk_div (a := a) (by omega) g1 (by omega), show a / 5 ^ dg a = ld a from rfl, z5s (by omega), pk_mul, z5r (by omega)]
      · rw [pk_div (by omega) g3 (by omega), Nat.pow_div hd (by decide), pk_mul]
        have hs5 : (5 - ld a) * (ld b * ld b * ld b % 5) % 5 < 5 := Nat.mod_lt _ (by decide)
        refine xs_pm ha (by omega) hsq (nm_r (nI_1 i) ?_)
        have hlt := stp_lt ha hb e hd
        have hnd : nd (stp a b) < nd a := by
          have := nd_lt hlt
          have : nd a = dg a + 1 := if_neg a0
          omega
        refine ih (stp a b) b (pm_lt _ _ _) hb (by omega) (by omega) (fun P hP => ?_)
        rw [← hI P hP]
        exact ⟨fun h => ⟨(stp_I hP ha hb hd h.2).mp h.1, h.2⟩, fun h => ⟨(stp_I hP ha hb hd h.2).mpr h.1, h.2⟩⟩
  have main : ∀ w n i a b, nd a + nd b ≤ w → w < n → a < 3125 → b < 3125 → nd a + nd b + i ≤ 10 → (∀ P, Idl P → (P a ∧ P b ↔ P p ∧ P q)) → wX_commonDivisor_7 post n (nI a) (nI b) (nI i) := by
    intro w
    induction w with
    | zero =>
      intro n i a b hw hn ha hb hm hI
      obtain ⟨n', rfl⟩ : ∃ n', n = n' + 1 := ⟨n - 1, by omega⟩
      refine br_f (nI_ge (b := 1000) (by omega) (by decide)) (pk_le b a ?_ ?_)
      · intro e
        exact body n' i a b ha hb e hm hI (fun a' b' _ _ _ h => by omega)
      · intro e
        exact body n' i b a hb ha (by omega) (by omega) (fun P hP => by rw [← hI P hP]; exact And.comm) (fun a' b' _ _ _ h => by omega)
    | succ w ih =>
      intro n i a b hw hn ha hb hm hI
      obtain ⟨n', rfl⟩ : ∃ n', n = n' + 1 := ⟨n - 1, by omega⟩
      refine br_f (nI_ge (b := 1000) (by omega) (by decide)) (pk_le b a ?_ ?_)
      · intro e
        exact body n' i a b ha hb e hm hI (fun a' b' h1 h2 h3 h4 h5 => ih n' (i + 1) a' b' (by omega) (by omega) h1 h2 h3 h5)
      · intro e
        exact body n' i b a hb ha (by omega) (by omega) (fun P hP => by rw [← hI P hP]; exact And.comm) (fun a' b' h1 h2 h3 h4 h5 => ih n' (i + 1) a' b' (by omega) (by omega) h1 h2 h3 h5)
  have n1 := nd_5 p
  have n2 := nd_5 q
  exact ⟨11, main 10 11 0 p q (by omega) (by omega) hp hq (by omega) (fun P hP => Iff.rfl)⟩
/-- a k-minor's number -/
def mnum (A : Nat → Nat → Nat) (R C : Nat) : Nat := hrn (fun k => (dtp A (pc R) R C k).val) 5 0
theorem mnum_lt (A : Nat → Nat → Nat) (R C : Nat) : mnum A R C < 3125 := (hrn_pd (fun k _ => (dtp A (pc R) R C k).isLt)).1
theorem mnum_pd (A : Nat → Nat → Nat) (R C : Nat) : ∀ k, k < 5 → pd (mnum A R C) k = dtp A (pc R) R C k := by
  intro k hk
  rw [show pd (mnum A R C) k = kk (dtp A (pc R) R C k).val from (hrn_pd (fun k _ => (dtp A (pc R) R C k).isLt)).2 k hk, kk_fin]
theorem mOK_num {A : Nat → Nat → Nat} {m : Nat → Nat} {R C : Nat} (hR : R < 16) (h : mOK A m R C) : m (16 * R + C) = mnum A R C := by
  have h4 := pc4 R hR
  have : (5 : Nat) ^ (pc R + 1) ≤ 5 ^ 5 := Nat.pow_le_pow_right (by decide) (by omega)
  have h5 : (5 : Nat) ^ 5 = 3125 := rfl
  exact pd_inj (by have := h.1; omega) (mnum_lt _ _ _) (fun k hk => by rw [h.2 k hk, mnum_pd _ _ _ k hk])
/-- D is a monic common divisor of the k-minors, with the same ideals -/
def gD (A : Nat → Nat → Nat) (N k D : Nat) : Prop := D < 3125 ∧ mon D ∧ ∀ P, Idl P → (P D ↔ ∀ R C, R < 2 ^ N → C < 2 ^ N → pc R = k → pc C = k → P (mnum A R C))
theorem xs_div {post : Int32 → Prop} {N k : Nat} {A : Nat → Nat → Nat} {c m f : Nat → Nat} (hN : N ≤ 4) (hk : 1 ≤ k) (hk4 : k ≤ 4) (hm : ∀ R C, R < 2 ^ N → C < 2 ^ N → pc R = pc C → mOK A m R C)
    (H : ∀ D, gD A N k D → post (nI D)) : wpX_divisorOfMinors post (zX N c m f) (nI k) := by
  obtain ⟨w1, w2⟩ := pw2 N (by omega)
  unfold wpX_divisorOfMinors; dsimp only
  refine nm_r (zshl (k := N) (by omega)) ?_
  refine pk_loop (fun n R (D : Nat) => wX_divisorOfMinors_12 post (nI k) (nI (2 ^ N)) (nI N) (zA c) (zA m) (zA f) n (nI D) (nI R))
    (fun R D => 1 ≤ R ∧ D < 3125 ∧ mon D ∧ ∀ P, Idl P → (P D ↔ ∀ R' C', R' < R → R' < 2 ^ N → C' < 2 ^ N → pc R' = k → pc C' = k → P (mnum A R' C'))) (2 ^ N) 1 0 w2 ⟨by omega, by decide, Or.inl rfl, fun P hP => ⟨fun _ R' C' h1 h2 h3 h4 h5 => ?_, fun _ => hP.1⟩⟩ ?_ ?_
  · exfalso
    have : R' = 0 := by omega
    subst this
    have : pc 0 = 0 := rfl
    omega
  · intro n D hI
    exact br_t (nI_le (Nat.le_refl _) (by omega)) (H D ⟨hI.2.1, hI.2.2.1, fun P hP => (hI.2.2.2 P hP).trans ⟨fun h R C hR hC e1 e2 => h R C hR hR hC e1 e2, fun h R C _ hR hC e1 e2 => h R C hR hC e1 e2⟩⟩)
  · intro n R D hR hI ih
    refine br_f (nI_ge hR (by omega)) ?_
    refine pk_loop (fun n' C (D : Nat) => wX_divisorOfMinors_21 post (wX_divisorOfMinors_12 post (nI k) (nI (2 ^ N)) (nI N) (zA c) (zA m) (zA f) n) (nI k) (nI (2 ^ N)) (nI R) (nI N) (zA c) (zA m) (zA f) n' (nI D) (nI C))
      (fun C D => 1 ≤ C ∧ D < 3125 ∧ mon D ∧ ∀ P, Idl P → (P D ↔ ∀ R' C', (R' < R ∨ (R' = R ∧ C' < C)) → R' < 2 ^ N → C' < 2 ^ N → pc R' = k → pc C' = k → P (mnum A R' C'))) (2 ^ N) 1 D w2 ⟨by omega, hI.2.1, hI.2.2.1, fun P hP => (hI.2.2.2 P hP).trans ⟨fun h R' C' h1 h2 h3 h4 h5 => ?_, fun h R' C' h1 h2 h3 h4 h5 => h R' C' (Or.inl h1) h2 h3 h4 h5⟩⟩ ?_ ?_
    · rcases h1 with h1 | ⟨h1, h1'⟩
      · exact h R' C' h1 h2 h3 h4 h5
      · exfalso
        have : C' = 0 := by omega
        subst this
        have : pc 0 = 0 := rfl
        omega
    · intro n' D' hJ
      refine br_t (nI_le (Nat.le_refl _) (by omega)) (nm_r (nI_1 R) (ih D' ⟨by omega, hJ.2.1, hJ.2.2.1, fun P hP => (hJ.2.2.2 P hP).trans ⟨fun h R' C' h1 h2 h3 h4 h5 => h R' C' (by omega) h2 h3 h4 h5, fun h R' C' h1 h2 h3 h4 h5 => h R' C' (by omega) h2 h3 h4 h5⟩⟩))
    · intro n' C D' hC hJ ih'
      refine br_f (nI_ge hC (by omega)) ?_
      refine xs_members (by omega) (xs_members (by omega) ?_)
      have hpR := pc4 R (by omega)
      have hpC := pc4 C (by omega)
      have skip : (pc R ≠ k ∨ pc C ≠ k) → ∀ P, Idl P → (P D' ↔ ∀ R' C', (R' < R ∨ (R' = R ∧ C' < C + 1)) → R' < 2 ^ N → C' < 2 ^ N → pc R' = k → pc C' = k → P (mnum A R' C')) := by
        intro hne P hP
        refine (hJ.2.2.2 P hP).trans ⟨fun h R' C' h1 h2 h3 h4 h5 => ?_, fun h R' C' h1 h2 h3 h4 h5 => h R' C' (by omega) h2 h3 h4 h5⟩
        rcases h1 with h1 | ⟨h1, h1'⟩
        · exact h R' C' (Or.inl h1) h2 h3 h4 h5
        · by_cases e : C' = C
          · subst e; subst h1
            rcases hne with z | z
            · exact absurd h4 z
            · exact absurd h5 z
          · exact h R' C' (Or.inr ⟨h1, by omega⟩) h2 h3 h4 h5
      refine pk_eq (pc R) k ?_ ?_
      · intro e1
        refine pk_eq (pc C) k ?_ ?_
        · intro e2
          have hmm : m (16 * R + C) = mnum A R C := mOK_num (by omega) (hm R C hR hC (by omega))
          rw [z16m, nI_add, nI_clamp (by omega), zA_at, hmm]
          refine ⟨vp_in_nI (by omega) (by decide), ?_⟩
          refine xs_gcd hJ.2.1 (mnum_lt _ _ _) ?_
          intro g g1 g2 g3
          refine nm_r (nI_1 C) (ih' g ⟨by omega, g1, g2, fun P hP => (g3 P hP).trans ⟨fun h R' C' h1 h2 h3 h4 h5 => ?_, fun h => ⟨(hJ.2.2.2 P hP).mpr (fun R' C' h1 h2 h3 h4 h5 => h R' C' (by omega) h2 h3 h4 h5), h R C (Or.inr ⟨rfl, by omega⟩) hR hC e1 e2⟩⟩⟩)
          by_cases e : R' = R ∧ C' = C
          · obtain ⟨rfl, rfl⟩ := e
            exact h.2
          · exact (hJ.2.2.2 P hP).mp h.1 R' C' (by omega) h2 h3 h4 h5
        · intro e2
          exact nm_r (nI_1 C) (ih' D' ⟨by omega, hJ.2.1, hJ.2.2.1, skip (Or.inr e2)⟩)
      · intro e1
        exact nm_r (nI_1 C) (ih' D' ⟨by omega, hJ.2.1, hJ.2.2.1, skip (Or.inl e1)⟩)
