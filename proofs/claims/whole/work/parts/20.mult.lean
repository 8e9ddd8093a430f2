/-! multiples; the common divisor is unique; the component's quotient -/
def cv (f h : Nat → Fin 5) : Nat → Fin 5
  | 0 => f 0 * h 0
  | 1 => f 0 * h 1 + f 1 * h 0
  | 2 => f 0 * h 2 + f 1 * h 1 + f 2 * h 0
  | 3 => f 0 * h 3 + f 1 * h 2 + f 2 * h 1 + f 3 * h 0
  | 4 => f 0 * h 4 + f 1 * h 3 + f 2 * h 2 + f 3 * h 1 + f 4 * h 0
  | _ + 5 => 0
theorem k5 {P : Nat → Prop} (h0 : P 0) (h1 : P 1) (h2 : P 2) (h3 : P 3) (h4 : P 4) : ∀ k, k < 5 → P k := by
  intro k hk
  match k, hk with
  | 0, _ => exact h0
  | 1, _ => exact h1
  | 2, _ => exact h2
  | 3, _ => exact h3
  | 4, _ => exact h4
theorem cv_lin (f h h' : Nat → Fin 5) (c : Fin 5) : ∀ k, k < 5 → cv f (fun j => h j + c * h' j) k = cv f h k + c * cv f h' k := by
  refine k5 ?_ ?_ ?_ ?_ ?_ <;> simp only [cv] <;> grind
theorem cv_cong (f : Nat → Fin 5) {h h' : Nat → Fin 5} (e : ∀ j, j < 5 → h j = h' j) : ∀ k, k < 5 → cv f h k = cv f h' k := by
  have e0 := e 0 (by decide); have e1 := e 1 (by decide); have e2 := e 2 (by decide); have e3 := e 3 (by decide); have e4 := e 4 (by decide)
  refine k5 ?_ ?_ ?_ ?_ ?_ <;> simp only [cv, e0, e1, e2, e3, e4]
theorem cv_px (f h : Nat → Fin 5) (h4 : cv f h 4 = 0) : ∀ k, k < 5 → cv f (px h) k = px (cv f h) k := by
  refine k5 ?_ ?_ ?_ ?_ ?_ <;> simp only [cv, px] <;> grind
theorem cv_0 (f : Nat → Fin 5) : ∀ k, k < 5 → cv f (fun _ => 0) k = 0 := by
  refine k5 ?_ ?_ ?_ ?_ ?_ <;> simp only [cv] <;> grind
theorem cv_e (f : Nat → Fin 5) : ∀ b, b < 5 → ∀ k, k < 5 → cv f (fun j => if j = b then 1 else 0) k = if k < b then 0 else f (k - b) := by
  refine k5 ?_ ?_ ?_ ?_ ?_ <;> refine k5 ?_ ?_ ?_ ?_ ?_ <;> simp [cv] <;> grind
theorem cv_top (f h : Nat → Fin 5) : ∀ a, a < 5 → ∀ b, b < 5 → a + b ≤ 4 → (∀ i, a < i → i < 5 → f i = 0) → (∀ j, b < j → j < 5 → h j = 0) → cv f h (a + b) = f a * h b ∧ ∀ k, k < 5 → a + b < k → cv f h k = 0 := by
  refine k5 ?_ ?_ ?_ ?_ ?_ <;> refine k5 ?_ ?_ ?_ ?_ ?_
  all_goals (intro hab hf hh; try (exact absurd hab (by decide)))
  all_goals (refine ⟨?_, ?_⟩)
  all_goals (try refine k5 ?_ ?_ ?_ ?_ ?_)
  all_goals (try (intro hk; exact absurd hk (by decide)))
  all_goals (try (intro _))
  all_goals (simp [cv, hf, hh] <;> grind)
def mlt (g p s : Nat) : Prop := s < 5 ^ (5 - dg g) ∧ ∀ k, k < 5 → pd p k = cv (pd g) (pd s) k
def mul (g p : Nat) : Prop := ∃ s, mlt g p s
theorem p5le {j : Nat} (h : j ≤ 5) : 5 ^ j ≤ 3125 := (pow5 j (by omega)).2
theorem mlt_s {g p s : Nat} (h : mlt g p s) : s < 3125 := by
  have := h.1
  have := p5le (j := 5 - dg g) (by omega)
  omega
theorem mlt_dg {g p s : Nat} (h : mlt g p s) : dg g + dg s ≤ 4 := by
  have := dg_4 g
  have e := h.1
  rw [show 5 - dg g = (4 - dg g) + 1 by omega] at e
  have := dg_le e
  omega
theorem mlt_top {g p s : Nat} (hg : g < 3125) (hp : p < 3125) (hg0 : g ≠ 0) (h : mlt g p s) (hs : s ≠ 0) : dg p = dg g + dg s ∧ kk (ld p) = kk (ld g) * kk (ld s) ∧ p ≠ 0 := by
  have hs3 := mlt_s h
  have hab := mlt_dg h
  obtain ⟨t1, t2⟩ := cv_top (pd g) (pd s) (dg g) (by have := dg_4 g; omega) (dg s) (by have := dg_4 s; omega) hab (fun i hi _ => pd_gt hg hi) (fun j hj _ => pd_gt hs3 hj)
  rw [← h.2 _ (by omega)] at t1
  have hne : pd p (dg g + dg s) ≠ 0 := by
    rw [t1, pd_ld, pd_ld]
    have n1 := ld_k hg hg0
    have n2 := ld_k hs3 hs
    generalize kk (ld g) = x at *
    generalize kk (ld s) = y at *
    revert x y; decide
  have hlt : p < 5 ^ (dg g + dg s + 1) := pd_ltp hp (by omega) (fun k k1 k5 => by rw [h.2 k k5]; exact t2 k k5 (by omega))
  have hge : 5 ^ (dg g + dg s) ≤ p := by
    refine Nat.le_of_not_lt (fun z => ?_)
    exact hne (pd_hi z (Nat.le_refl _))
  have hdg := dg_of (p := p) hab hlt (Or.inr hge)
  refine ⟨hdg, ?_, ?_⟩
  · rw [← pd_ld p, hdg, t1]; rfl
  · intro z
    subst z
    exact hne (by unfold pd; rw [Nat.zero_div]; rfl)
theorem pd_0 (k : Nat) : pd 0 k = 0 := by unfold pd; rw [Nat.zero_div]; rfl
theorem mlt_0 {g p : Nat} (hp : p < 3125) (h : mlt g p 0) : p = 0 := by
  refine pd_inj hp (by decide) (fun k hk => ?_)
  rw [h.2 k hk, cv_cong (pd g) (h' := fun _ => 0) (fun j _ => pd_0 j) k hk, cv_0 _ k hk, pd_0]
theorem mlt_pm {g p s q t c : Nat} (hp : p < 3125) (hs : mlt g p s) (ht : mlt g q t) : mlt g (pm p c q) (pm s c t) := by
  have h4 := dg_4 g
  refine ⟨?_, fun k hk => ?_⟩
  · refine pd_ltp (pm_lt _ _ _) (by omega) (fun k k1 k5 => ?_)
    rw [pd_pm _ _ _ _ k5, pd_hi hs.1 k1, pd_hi ht.1 k1]; grind
  · rw [pd_pm _ _ _ _ hk, hs.2 k hk, ht.2 k hk, cv_cong (pd g) (h' := fun j => pd s j + kk c * pd t j) (fun j hj => pd_pm _ _ _ _ hj) k hk, cv_lin _ _ _ _ k hk]
theorem mul_I {g : Nat} (hg : g < 3125) (hg0 : g ≠ 0) : Idl (mul g) := by
  have h4 := dg_4 g
  refine ⟨⟨0, Nat.pow_pos (by decide), fun k hk => ?_⟩, ?_, ?_⟩
  · rw [cv_cong (pd g) (h' := fun _ => 0) (fun j _ => pd_0 j) k hk, cv_0 _ k hk, pd_0]
  · intro p q c hp hq hc h1 h2
    obtain ⟨s, hs⟩ := h1
    obtain ⟨t, ht⟩ := h2
    exact ⟨pm s c t, mlt_pm hp hs ht⟩
  · intro p hp h
    obtain ⟨s, hs⟩ := h
    have hs3 := mlt_s hs
    refine ⟨5 * s, ?_, fun k hk => ?_⟩
    · by_cases e : s = 0
      · subst e; exact Nat.pow_pos (by decide)
      · obtain ⟨d1, _, p0⟩ := mlt_top hg (by omega) hg0 hs e
        have d2 : dg p ≤ 3 := dg_le (j := 3) (by simpa using hp)
        have d3 := dg_lt hs3
        have d4 : (5 : Nat) ^ (dg s + 1) ≤ 5 ^ (4 - dg g) := Nat.pow_le_pow_right (by decide) (by omega)
        have d5 : (5 : Nat) ^ (5 - dg g) = 5 ^ (4 - dg g) * 5 := by rw [← Nat.pow_succ, show 5 - dg g = (4 - dg g) + 1 by omega]
        omega
    · have hp4 : cv (pd g) (pd s) 4 = 0 := by
        rw [← hs.2 4 (by decide)]
        exact pd_hi (j := 4) (by simpa using hp) (by decide)
      rw [pd_5, cv_cong (pd g) (h' := px (pd s)) (fun j _ => pd_5 s j) k hk, cv_px _ _ hp4 k hk]
      exact px_c (fun j hj => hs.2 j (by omega))
theorem pd_1 (k : Nat) : pd 1 k = if k = 0 then 1 else 0 := by
  cases k with
  | zero => rfl
  | succ k =>
    rw [if_neg (by omega)]
    exact pd_hi (j := 1) (by decide) (by omega)
theorem mlt_1 (g : Nat) : mlt g g 1 := by
  have h4 := dg_4 g
  refine ⟨?_, fun k hk => ?_⟩
  · have : (5 : Nat) ^ 1 ≤ 5 ^ (5 - dg g) := Nat.pow_le_pow_right (by decide) (by omega)
    have h1 : (5 : Nat) ^ 1 = 5 := rfl
    omega
  · rw [cv_cong (pd g) (h' := fun j => if j = 0 then 1 else 0) (fun j _ => pd_1 j) k hk, cv_e _ 0 (by decide) k hk, if_neg (by omega)]
    rfl
theorem I_0 : Idl (fun p => p = 0) := by
  refine ⟨rfl, ?_, ?_⟩
  · intro p q s _ _ _ h1 h2
    show pm p s q = 0
    rw [h1, h2]
    refine pd_inj (pm_lt _ _ _) (by decide) (fun k hk => ?_)
    rw [pd_pm _ _ _ _ hk, pd_0]; grind
  · intro p _ h
    show 5 * p = 0
    rw [h]
theorem mon_uniq {g h : Nat} (hg : g < 3125) (hh : h < 3125) (mg : mon g) (mh : mon h) (e : ∀ P, Idl P → (P g ↔ P h)) : g = h := by
  by_cases g0 : g = 0
  · rw [g0]; exact ((e _ I_0).mp g0).symm
  · have h0 : h ≠ 0 := fun z => g0 ((e _ I_0).mpr z)
    have lg : ld g = 1 := by rcases mg with z | z; exact absurd z g0; exact z
    have lh : ld h = 1 := by rcases mh with z | z; exact absurd z h0; exact z
    obtain ⟨s, hs⟩ := (e _ (mul_I hg g0)).mp ⟨1, mlt_1 g⟩
    obtain ⟨t, ht⟩ := (e _ (mul_I hh h0)).mpr ⟨1, mlt_1 h⟩
    have s0 : s ≠ 0 := fun z => h0 (mlt_0 hh (by rw [← z]; exact hs))
    have t0 : t ≠ 0 := fun z => g0 (mlt_0 hg (by rw [← z]; exact ht))
    obtain ⟨a1, a2, _⟩ := mlt_top hg hh g0 hs s0
    obtain ⟨b1, _, _⟩ := mlt_top hh hg h0 ht t0
    have ds : dg s = 0 := by omega
    have hs3 := mlt_s hs
    have ls : ld s = 1 := by
      rw [lg, lh] at a2
      have : kk (ld s) = kk 1 := by
        have : kk 1 * kk (ld s) = kk (ld s) := by rw [show kk 1 = 1 from rfl]; grind
        rw [← this, ← a2]
      exact kk_inj (ld_lt hs3) (by decide) this
    have s1 : s = 1 := by
      unfold ld at ls
      rw [ds, Nat.pow_zero, Nat.div_one] at ls
      exact ls
    subst s1
    refine pd_inj hg hh (fun k hk => ?_)
    rw [hs.2 k hk, (mlt_1 g).2 k hk]
/-- taking the leading term off -/
theorem mlt_st {q p s : Nat} (hq : q < 3125) (hp : p < 3125) (hs : mlt q p s) (hs0 : s ≠ 0) : mlt q (pm p (5 - ld s) (q * 5 ^ dg s)) (s - ld s * 5 ^ dg s) ∧ s - ld s * 5 ^ dg s < 5 ^ dg s := by
  have hs3 := mlt_s hs
  have hab := mlt_dg hs
  have h4 := dg_4 s
  have hsplit : s = ld s * 5 ^ dg s + s % 5 ^ dg s := by
    unfold ld; rw [Nat.mul_comm]; exact (Nat.div_add_mod s (5 ^ dg s)).symm
  have hpos : 0 < 5 ^ dg s := Nat.pow_pos (by decide)
  have hmod := Nat.mod_lt s hpos
  have e1 : s - ld s * 5 ^ dg s = s % 5 ^ dg s := by omega
  rw [e1]
  refine ⟨⟨?_, fun k hk => ?_⟩, hmod⟩
  · have := hs.1
    have : s % 5 ^ dg s ≤ s := Nat.mod_le _ _
    omega
  · have hd : ∀ j, j < 5 → pd s j = pd (s % 5 ^ dg s) j + kk (ld s) * (if j = dg s then 1 else 0) := by
      intro j hj
      by_cases c1 : j = dg s
      · subst c1
        rw [if_pos rfl, pd_ld, pd_hi hmod (Nat.le_refl _)]; grind
      · rw [if_neg c1]
        by_cases c2 : j < dg s
        · have : pd (s % 5 ^ dg s) j = pd s j := by
            unfold pd
            rw [← kk_mod (s % 5 ^ dg s / 5 ^ j), ← kk_mod (s / 5 ^ j)]
            have e2 : dg s = j + (dg s - j) := by omega
            rw [e2, Nat.pow_add, Nat.mod_mul_right_div_self, show dg s - j = (dg s - j - 1) + 1 by omega, Nat.pow_succ, Nat.mul_comm (5 ^ (dg s - j - 1)) 5, Nat.mod_mul_right_mod]
          rw [this]; grind
        · rw [pd_gt hs3 (by omega), pd_hi hmod (by omega)]; grind
    have hp2 := hs.2 k hk
    rw [cv_cong (pd q) hd k hk, cv_lin _ _ _ _ k hk, cv_e _ (dg s) (by omega) k hk] at hp2
    rw [pd_pm _ _ _ _ hk, pd_sh, kk_5s (by have := ld_lt hs3; omega), hp2]
    generalize (if k < dg s then 0 else pd q (k - dg s)) = y
    grind
theorem xs_quot {post : Int32 → Prop} {p q s : Nat} (hp : p < 3125) (hq : q < 3125) (hq0 : q ≠ 0) (hl : ld q = 1) (hs : mlt q p s) (H : post (nI s)) : wpX_quotient post (nI p) (nI q) := by
  unfold wpX_quotient
  have hs3 := mlt_s hs
  refine xs_top hq ?_
  refine loop_0 (fun n i (r : Nat × Nat) => wX_quotient_13 post (nI q) (nI (5 ^ dg q)) n (nI r.1) (nI r.2) (nI i))
    (fun i r => r.1 < 3125 ∧ ∃ s', mlt q r.1 s' ∧ r.2 + s' = s ∧ nd s' + i ≤ 5) 5 (p, 0) ⟨hp, s, hs, by show 0 + s = s; omega, by have := nd_5 s; omega⟩ ?_ ?_
  · intro n r hI
    obtain ⟨hr, s', h1, h2, h3⟩ := hI
    have : s' = 0 := by
      have h0 : nd s' = 0 := by omega
      unfold nd at h0
      by_cases e : s' = 0
      · exact e
      · rw [if_neg e] at h0; omega
    have e2 : r.2 = s := by omega
    refine br_t (nI_le (a := 5) (Nat.le_refl _) (by omega)) ?_
    rw [e2]; exact H
  · intro n i r hi hI ih
    obtain ⟨hr, s', h1, h2, h3⟩ := hI
    refine br_f (nI_ge (b := 5) hi (by omega)) (xs_top hr (pk_eq r.1 0 ?_ ?_))
    · intro e
      have : s' = 0 := by
        by_cases e' : s' = 0
        · exact e'
        · exact absurd e (mlt_top hq hr hq0 h1 e').2.2
      have e2 : r.2 = s := by omega
      rw [e2]; exact H
    · intro e
      have s0 : s' ≠ 0 := fun z => e (mlt_0 hr (by rw [← z]; exact h1))
      obtain ⟨d1, d2, d3⟩ := mlt_top hq hr hq0 h1 s0
      have hs3' := mlt_s h1
      have hr4 := dg_4 r.1
      obtain ⟨g1, g2⟩ := pow5 (dg r.1) (by omega)
      obtain ⟨g3, g4⟩ := pow5 (dg q) (by omega)
      have hle : 5 ^ dg q ≤ 5 ^ dg r.1 := Nat.pow_le_pow_right (by decide) (by omega)
      have hld : ld r.1 = ld s' := by
        refine kk_inj (ld_lt hr) (ld_lt hs3') ?_
        rw [d2, hl, show kk 1 = 1 from rfl]; grind
      have l1 := ld_lt hs3'
      obtain ⟨g5, g6⟩ := pow5 (dg s') (by omega)
      have hsh : 5 ^ dg r.1 / 5 ^ dg q = 5 ^ dg s' := by
        rw [Nat.pow_div (by omega) (by decide), d1, Nat.add_sub_cancel_left]
      have hq5 : q * 5 ^ dg s' < 3125 := by
        have := dg_lt hq
        have h6 : q * 5 ^ dg s' < 5 ^ (dg q + 1) * 5 ^ dg s' := Nat.mul_lt_mul_of_pos_right this g5
        rw [← Nat.pow_add] at h6
        have := p5le (j := dg q + 1 + dg s') (by omega)
        omega
      obtain ⟨m1, m2⟩ := mlt_st hq hr h1 s0
      have hcut : ld s' * 5 ^ dg s' ≤ s' := by unfold ld; exact Nat.div_mul_le_self _ _
      refine pk_le (5 ^ dg q) (5 ^ dg r.1) ?_ (fun z => absurd z (by omega))
      intro _
      refine ⟨nI_ne0 g1 (by omega), nm_r (e' := nI (ld s')) ?_ ⟨nI_ne0 g3 (by omega), nm_r (e' := nI (5 ^ dg s')) ?_ (nm_r (e' := nI (r.2 + ld s' * 5 ^ dg s')) ?_ ?_)⟩⟩
      · rw [pk_div (by omega) g1 (by omega), show r.1 / 5 ^ dg r.1 = ld r.1 from rfl, hld]
      · rw [pk_div (by omega) g3 (by omega), hsh]
      · rw [pk_mul, nI_add]
      · rw [z5s (by omega), pk_mul]
        refine xs_pm hr (by omega) hq5 (nm_r (nI_1 i) (ih (pm r.1 (5 - ld s') (q * 5 ^ dg s'), r.2 + ld s' * 5 ^ dg s') ⟨pm_lt _ _ _, _, m1, by show r.2 + ld s' * 5 ^ dg s' + (s' - ld s' * 5 ^ dg s') = s; omega, ?_⟩))
        have := nd_lt m2
        have : nd s' = dg s' + 1 := if_neg s0
        omega
