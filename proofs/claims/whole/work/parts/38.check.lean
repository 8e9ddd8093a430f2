/-! normal forms: what the kernel reckons -/
def cgd : Nat → Nat → Nat → Nat
  | 0, a, _ => a
  | f + 1, a, b => if b = 0 then a else if a < b then cgd f b a else cgd f (stp a b) b
theorem cgd_I : ∀ f a b, a < 3125 → b < 3125 → 2 * (nd a + nd b) + (if a < b then 1 else 0) < f → cgd f a b < 3125 ∧ ∀ P, Idl P → (P (cgd f a b) ↔ P a ∧ P b) := by
  intro f
  induction f with
  | zero => intro a b _ _ h; omega
  | succ f ih =>
    intro a b ha hb h
    show (if b = 0 then a else if a < b then cgd f b a else cgd f (stp a b) b) < 3125 ∧ ∀ P, Idl P → (P (if b = 0 then a else if a < b then cgd f b a else cgd f (stp a b) b) ↔ P a ∧ P b)
    by_cases e0 : b = 0
    · rw [if_pos e0]
      refine ⟨ha, fun P hP => ⟨fun z => ⟨z, by rw [e0]; exact hP.1⟩, fun z => z.1⟩⟩
    · rw [if_neg e0]
      by_cases e1 : a < b
      · rw [if_pos e1] at h ⊢
        obtain ⟨i1, i2⟩ := ih b a hb ha (by rw [if_neg (by omega)]; omega)
        exact ⟨i1, fun P hP => (i2 P hP).trans And.comm⟩
      · rw [if_neg e1] at h ⊢
        have a0 : a ≠ 0 := by omega
        have hd := dg_mono (show b ≤ a by omega)
        have hl := nd_lt (stp_lt ha hb e0 hd)
        have np := nd_pos a0
        have z1 : (if stp a b < b then 1 else 0) ≤ 1 := by split <;> decide
        obtain ⟨i1, i2⟩ := ih (stp a b) b (pm_lt _ _ _) hb (by omega)
        refine ⟨i1, fun P hP => (i2 P hP).trans ⟨fun z => ⟨(stp_I hP ha hb hd z.2).mp z.1, z.2⟩, fun z => ⟨(stp_I hP ha hb hd z.2).mpr z.1, z.2⟩⟩⟩
def gE (A : Nat → Nat → Nat) : List (Nat × Nat) → Nat → Nat
  | [], acc => acc
  | t :: l, acc => if 0 < acc ∧ acc < 5 then acc else gE A l (cgd 30 (mnum A t.1 t.2) acc)
def prs (N k : Nat) : List (Nat × Nat) := ((List.range (2 ^ N)).reverse.filter (fun R => pc R == k)).flatMap (fun R => ((List.range (2 ^ N)).filter (fun C => pc C == k)).map (fun C => (R, C)))
def dgK (N : Nat) (A : Nat → Nat → Nat) (k : Nat) : Nat := dg (gE A (prs N k) 0)
def chk4 (A : Nat → Nat → Nat) : Bool := rankL 16 (adL 4 A) + 4 + 2 * (dgK 4 A 1 + dgK 4 A 2 + dgK 4 A 3) == 16
def chk3 (A : Nat → Nat → Nat) : Bool := rankL 9 (adL 3 A) + 3 + 2 * (dgK 3 A 1 + dgK 3 A 2) == 9
def chk2 (A : Nat → Nat → Nat) : Bool := rankL 4 (adL 2 A) + 2 + 2 * dgK 2 A 1 == 4
theorem prs_m {N k R C : Nat} : (R, C) ∈ prs N k ↔ R < 2 ^ N ∧ C < 2 ^ N ∧ pc R = k ∧ pc C = k := by
  unfold prs
  rw [List.mem_flatMap]
  refine ⟨fun h => ?_, fun h => ?_⟩
  · obtain ⟨R', h1, h2⟩ := h
    obtain ⟨C', h3, h4⟩ := List.mem_map.mp h2
    cases h4
    rw [List.mem_filter, List.mem_reverse, List.mem_range] at h1
    rw [List.mem_filter, List.mem_range] at h3
    exact ⟨h1.1, h3.1, by simpa using h1.2, by simpa using h3.2⟩
  · refine ⟨R, ?_, List.mem_map.mpr ⟨C, ?_, rfl⟩⟩
    · rw [List.mem_filter, List.mem_reverse, List.mem_range]
      exact ⟨h.1, by simpa using h.2.2.1⟩
    · rw [List.mem_filter, List.mem_range]
      exact ⟨h.2.1, by simpa using h.2.2.2⟩
theorem unit_P {P : Nat → Prop} (hP : Idl P) {a : Nat} (h0 : 0 < a) (h5 : a < 5) (ha : P a) {p : Nat} (hp : p < 3125) : P p := by
  have hk : kk a ≠ 0 := fun z => by
    have := kk_inj h5 (by decide : 0 < 5) z
    omega
  have hi := inv_k hk
  have h1 : P 1 := by
    have := hP.2.1 0 a (a * a * a % 5) (by decide) (by omega) (by have := Nat.mod_lt (a * a * a) (show 5 > 0 by decide); omega) hP.1 ha
    have e : pm 0 (a * a * a % 5) a = 1 := by
      refine pd_inj (pm_lt _ _ _) (by decide) (fun k hk' => ?_)
      rw [pd_pm _ _ _ _ hk', pd_0, pd_1]
      by_cases z : k = 0
      · subst z
        rw [if_pos rfl, show pd a 0 = kk a by unfold pd; rw [Nat.pow_zero, Nat.div_one], hi]; rfl
      · rw [if_neg z, pd_hi (j := 1) (by simpa using h5) (by omega)]; grind
    rwa [e] at this
  have sh : ∀ j, j < 5 → P (1 * 5 ^ j) := fun j hj => Idl_sh hP h1 j (by have := (pow5 j (by omega)).2; have : 5 ^ j ≤ 5 ^ 4 := Nat.pow_le_pow_right (by decide) (by omega); have : (5 : Nat) ^ 4 = 625 := rfl; omega)
  have lt : ∀ j, j < 5 → 1 * 5 ^ j < 3125 := fun j hj => by have : 5 ^ j ≤ 5 ^ 4 := Nat.pow_le_pow_right (by decide) (by omega); have : (5 : Nat) ^ 4 = 625 := rfl; omega
  have dl : ∀ j, p / 5 ^ j % 5 ≤ 5 := fun j => by have := Nat.mod_lt (p / 5 ^ j) (show 5 > 0 by decide); omega
  have main : ∀ n, n ≤ 5 → ∃ S, S < 3125 ∧ P S ∧ ∀ k, k < 5 → pd S k = if k < n then pd p k else 0 := by
    intro n
    induction n with
    | zero => intro _; exact ⟨0, by decide, hP.1, fun k _ => by rw [pd_0, if_neg (by omega)]⟩
    | succ n ih =>
      intro hn
      obtain ⟨S, s1, s2, s3⟩ := ih (by omega)
      refine ⟨pm S (p / 5 ^ n % 5) (1 * 5 ^ n), pm_lt _ _ _, hP.2.1 _ _ _ s1 (lt n (by omega)) (dl n) s2 (sh n (by omega)), fun k hk' => ?_⟩
      rw [pd_pm _ _ _ _ hk', s3 k hk', pd_sh, kk_mod]
      by_cases z : k = n
      · subst z
        rw [if_neg (by omega), if_neg (by omega), if_pos (by omega), Nat.sub_self]
        show 0 + kk (p / 5 ^ k) * 1 = kk (p / 5 ^ k)
        grind
      · by_cases z2 : k < n
        · rw [if_pos z2, if_pos z2, if_pos (by omega)]; grind
        · rw [if_neg z2, if_neg z2, if_neg (by omega), pd_1, if_neg (by omega)]; grind
  obtain ⟨S, s1, s2, s3⟩ := main 5 (by omega)
  have : S = p := pd_inj s1 hp (fun k hk' => by rw [s3 k hk', if_pos hk'])
  rw [← this]; exact s2
theorem gE_I (A : Nat → Nat → Nat) : ∀ l acc, acc < 3125 → gE A l acc < 3125 ∧ ∀ P, Idl P → (P (gE A l acc) ↔ P acc ∧ ∀ t, t ∈ l → P (mnum A t.1 t.2)) := by
  intro l
  induction l with
  | nil => intro acc h; exact ⟨h, fun P hP => ⟨fun z => ⟨z, fun t ht => by cases ht⟩, fun z => z.1⟩⟩
  | cons t l ih =>
    intro acc h
    show (if 0 < acc ∧ acc < 5 then acc else gE A l (cgd 30 (mnum A t.1 t.2) acc)) < 3125 ∧ ∀ P, Idl P → (P (if 0 < acc ∧ acc < 5 then acc else gE A l (cgd 30 (mnum A t.1 t.2) acc)) ↔ _)
    by_cases e : 0 < acc ∧ acc < 5
    · rw [if_pos e]
      exact ⟨h, fun P hP => ⟨fun z => ⟨z, fun t _ => unit_P hP e.1 e.2 z (mnum_lt _ _ _)⟩, fun z => z.1⟩⟩
    · rw [if_neg e]
      have n1 := nd_5 (mnum A t.1 t.2)
      have n2 := nd_5 acc
      obtain ⟨c1, c2⟩ := cgd_I 30 (mnum A t.1 t.2) acc (mnum_lt _ _ _) h (by split <;> omega)
      obtain ⟨i1, i2⟩ := ih _ c1
      refine ⟨i1, fun P hP => (i2 P hP).trans ?_⟩
      rw [c2 P hP]
      refine ⟨fun z => ⟨z.1.2, fun t' ht' => ?_⟩, fun z => ⟨⟨z.2 t List.mem_cons_self, z.1⟩, fun t' ht' => z.2 t' (List.mem_cons_of_mem _ ht')⟩⟩
      cases ht' with
      | head => exact z.1.1
      | tail _ h' => exact z.2 t' h'
theorem dgK_eq {A : Nat → Nat → Nat} {N k D : Nat} (hN : N ≤ 4) (hk : k ≤ N) (h : gD A N k D) : dg D = dgK N A k := by
  obtain ⟨g1, g2⟩ := gE_I A (prs N k) 0 (by decide)
  unfold dgK
  generalize gE A (prs N k) 0 = G at *
  obtain ⟨n1, _⟩ := gD_ne hN hk h
  have e : ∀ P, Idl P → (P D ↔ P G) := by
    intro P hP
    rw [h.2.2 P hP, g2 P hP]
    refine ⟨fun z => ⟨hP.1, fun t ht => ?_⟩, fun z R C hR hC e1 e2 => z.2 (R, C) (prs_m.mpr ⟨hR, hC, e1, e2⟩)⟩
    obtain ⟨q1, q2, q3, q4⟩ := prs_m.mp (show (t.1, t.2) ∈ prs N k from ht)
    exact z _ _ q1 q2 q3 q4
  have G0 : G ≠ 0 := fun z => n1 ((e _ I_0).mpr z)
  obtain ⟨s, hs⟩ := (e _ (mul_I h.1 n1)).mp ⟨1, mlt_1 D⟩
  obtain ⟨t, ht⟩ := (e _ (mul_I g1 G0)).mpr ⟨1, mlt_1 G⟩
  have s0 : s ≠ 0 := fun z => G0 (mlt_0 g1 (by rw [← z]; exact hs))
  have t0 : t ≠ 0 := fun z => n1 (mlt_0 h.1 (by rw [← z]; exact ht))
  have a1 := (mlt_top h.1 g1 n1 hs s0).1
  have a2 := (mlt_top g1 h.1 G0 ht t0).1
  omega
theorem mt_lt {l : List (List Nat)} (h : ∀ c, c ∈ l → ∀ x, x ∈ c → x < 5) (i j : Nat) : mt l i j < 5 := by
  show (l.getD j []).getD i 0 < 5
  rcases gd_mem 0 (l.getD j []) i with z | z
  · rcases gd_mem [] l j with w | w
    · exact h _ w _ z
    · rw [w] at z; cases z
  · rw [z]; decide
