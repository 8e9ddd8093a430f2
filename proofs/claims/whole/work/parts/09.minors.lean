/-! polynomials as digits; the component's minors -/
def pd (p : Nat) : Nat → Fin 5 := fun k => kk (p / 5 ^ k)
def pmt (p s q k : Nat) : Nat := (p / 5 ^ k + s * (q / 5 ^ k)) % 5 * 5 ^ k
def pm (p s q : Nat) : Nat := zs (pmt p s q) 5
theorem pow5 : ∀ k, k < 6 → 0 < 5 ^ k ∧ 5 ^ k ≤ 3125 := by decide
theorem dig5 {a b c d e : Nat} (ha : a < 5) (hb : b < 5) (hc : c < 5) (hd : d < 5) (he : e < 5) :
    ∀ k, k < 5 → (a + b * 5 + c * 25 + d * 125 + e * 625) / 5 ^ k % 5 = (if k = 0 then a else if k = 1 then b else if k = 2 then c else if k = 3 then d else e) := by
  intro k hk
  match k, hk with
  | 0, _ => simp only [Nat.pow_zero, Nat.div_one, if_true]; omega
  | 1, _ => rw [if_neg (by decide), if_pos rfl, show 5 ^ 1 = 5 from rfl]; omega
  | 2, _ => rw [if_neg (by decide), if_neg (by decide), if_pos rfl, show 5 ^ 2 = 25 from rfl]; omega
  | 3, _ => rw [if_neg (by decide), if_neg (by decide), if_neg (by decide), if_pos rfl, show 5 ^ 3 = 125 from rfl]; omega
  | 4, _ => rw [if_neg (by decide), if_neg (by decide), if_neg (by decide), if_neg (by decide), show 5 ^ 4 = 625 from rfl]; omega
theorem pm_eq (p s q : Nat) : pm p s q = (p / 5 ^ 0 + s * (q / 5 ^ 0)) % 5 + (p / 5 ^ 1 + s * (q / 5 ^ 1)) % 5 * 5 + (p / 5 ^ 2 + s * (q / 5 ^ 2)) % 5 * 25 + (p / 5 ^ 3 + s * (q / 5 ^ 3)) % 5 * 125 + (p / 5 ^ 4 + s * (q / 5 ^ 4)) % 5 * 625 := by
  show 0 + pmt p s q 0 + pmt p s q 1 + pmt p s q 2 + pmt p s q 3 + pmt p s q 4 = _
  unfold pmt
  rw [Nat.zero_add, Nat.pow_zero, Nat.mul_one]
theorem pm_dig (p s q : Nat) : ∀ k, k < 5 → pm p s q / 5 ^ k % 5 = (p / 5 ^ k + s * (q / 5 ^ k)) % 5 := by
  intro k hk
  rw [pm_eq, dig5 (Nat.mod_lt _ (by decide)) (Nat.mod_lt _ (by decide)) (Nat.mod_lt _ (by decide)) (Nat.mod_lt _ (by decide)) (Nat.mod_lt _ (by decide)) k hk]
  match k, hk with
  | 0, _ => rfl
  | 1, _ => rfl
  | 2, _ => rfl
  | 3, _ => rfl
  | 4, _ => rfl
theorem pm_lt (p s q : Nat) : pm p s q < 3125 := by
  rw [pm_eq]
  have h0 : (p / 5 ^ 0 + s * (q / 5 ^ 0)) % 5 < 5 := Nat.mod_lt _ (by decide)
  have h1 : (p / 5 ^ 1 + s * (q / 5 ^ 1)) % 5 < 5 := Nat.mod_lt _ (by decide)
  have h2 : (p / 5 ^ 2 + s * (q / 5 ^ 2)) % 5 < 5 := Nat.mod_lt _ (by decide)
  have h3 : (p / 5 ^ 3 + s * (q / 5 ^ 3)) % 5 < 5 := Nat.mod_lt _ (by decide)
  have h4 : (p / 5 ^ 4 + s * (q / 5 ^ 4)) % 5 < 5 := Nat.mod_lt _ (by decide)
  generalize (p / 5 ^ 0 + s * (q / 5 ^ 0)) % 5 = a0 at *
  generalize (p / 5 ^ 1 + s * (q / 5 ^ 1)) % 5 = a1 at *
  generalize (p / 5 ^ 2 + s * (q / 5 ^ 2)) % 5 = a2 at *
  generalize (p / 5 ^ 3 + s * (q / 5 ^ 3)) % 5 = a3 at *
  generalize (p / 5 ^ 4 + s * (q / 5 ^ 4)) % 5 = a4 at *
  omega
theorem pd_pm (p s q k : Nat) (hk : k < 5) : pd (pm p s q) k = pd p k + kk s * pd q k := by
  unfold pd
  rw [← kk_mod, pm_dig p s q k hk, kk_mod, kk_add, kk_mul]
/-- digits tell the number -/
theorem num5 {p : Nat} (h : p < 3125) : p = p / 5 ^ 0 % 5 + p / 5 ^ 1 % 5 * 5 + p / 5 ^ 2 % 5 * 25 + p / 5 ^ 3 % 5 * 125 + p / 5 ^ 4 % 5 * 625 := by
  rw [Nat.pow_zero, Nat.div_one, show 5 ^ 1 = 5 from rfl, show 5 ^ 2 = 25 from rfl, show 5 ^ 3 = 125 from rfl, show 5 ^ 4 = 625 from rfl]
  omega
theorem pd_v (p k : Nat) : (pd p k).val = p / 5 ^ k % 5 := rfl
theorem pd_inj {p q : Nat} (hp : p < 3125) (hq : q < 3125) (h : ∀ k, k < 5 → pd p k = pd q k) : p = q := by
  have e : ∀ k, k < 5 → p / 5 ^ k % 5 = q / 5 ^ k % 5 := fun k hk => congrArg Fin.val (h k hk)
  rw [num5 hp, num5 hq, e 0 (by decide), e 1 (by decide), e 2 (by decide), e 3 (by decide), e 4 (by decide)]
/-- degree below j, by digits -/
theorem pd_ltp {p j : Nat} (hp : p < 3125) (hj : j ≤ 5) (h : ∀ k, j ≤ k → k < 5 → pd p k = 0) : p < 5 ^ j := by
  have e : ∀ k, j ≤ k → k < 5 → p / 5 ^ k % 5 = 0 := fun k h1 h2 => congrArg Fin.val (h k h1 h2)
  have hn := num5 hp
  have l0 : p / 5 ^ 0 % 5 < 5 := Nat.mod_lt _ (by decide)
  have l1 : p / 5 ^ 1 % 5 < 5 := Nat.mod_lt _ (by decide)
  have l2 : p / 5 ^ 2 % 5 < 5 := Nat.mod_lt _ (by decide)
  have l3 : p / 5 ^ 3 % 5 < 5 := Nat.mod_lt _ (by decide)
  match j, hj with
  | 0, _ =>
    have := e 0 (by decide) (by decide); have := e 1 (by decide) (by decide); have := e 2 (by decide) (by decide); have := e 3 (by decide) (by decide); have := e 4 (by decide) (by decide)
    rw [show 5 ^ 0 = 1 from rfl]; omega
  | 1, _ =>
    have := e 1 (by decide) (by decide); have := e 2 (by decide) (by decide); have := e 3 (by decide) (by decide); have := e 4 (by decide) (by decide)
    rw [show 5 ^ 1 = 5 from rfl] at *; omega
  | 2, _ =>
    have := e 2 (by decide) (by decide); have := e 3 (by decide) (by decide); have := e 4 (by decide) (by decide)
    rw [show 5 ^ 2 = 25 from rfl] at *; omega
  | 3, _ =>
    have := e 3 (by decide) (by decide); have := e 4 (by decide) (by decide)
    rw [show 5 ^ 3 = 125 from rfl] at *; omega
  | 4, _ =>
    have := e 4 (by decide) (by decide)
    rw [show 5 ^ 4 = 625 from rfl] at *; omega
  | 5, _ => exact hp
theorem pd_hi {p j k : Nat} (h : p < 5 ^ j) (hk : j ≤ k) : pd p k = 0 := by
  unfold pd
  rw [Nat.div_eq_of_lt (Nat.lt_of_lt_of_le h (Nat.pow_le_pow_right (by decide) hk))]
  rfl
def px (p : Nat → Fin 5) : Nat → Fin 5
  | 0 => 0
  | k + 1 => p k
theorem pd_5 (q k : Nat) : pd (5 * q) k = px (pd q) k := by
  cases k with
  | zero =>
    apply Fin.ext
    show 5 * q / 5 ^ 0 % 5 = 0
    rw [Nat.pow_zero, Nat.div_one]; omega
  | succ k =>
    show kk (5 * q / 5 ^ (k + 1)) = kk (q / 5 ^ k)
    rw [Nat.pow_succ, Nat.mul_comm (5 ^ k) 5, ← Nat.div_div_eq_div_mul, Nat.mul_div_cancel_left _ (by decide)]
theorem xs_pm {post : Int32 → Prop} {p s q : Nat} (hp : p < 3125) (hs : s ≤ 5) (hq : q < 3125) (H : post (nI (pm p s q))) : wpX_plusMultiple post (nI p) (nI s) (nI q) := by
  show ∃ n8, wX_plusMultiple_8 post (nI p) (nI s) (nI q) n8 0 1 0
  have hb : ∀ i, i ≤ 5 → zs (pmt p s q) i ≤ i * 20000 := by
    intro i hi
    induction i with
    | zero => exact Nat.zero_le _
    | succ i ih =>
      have h1 := ih (by omega)
      have h2 : pmt p s q i ≤ 4 * 3125 := Nat.mul_le_mul (by have := Nat.mod_lt (p / 5 ^ i + s * (q / 5 ^ i)) (show 5 > 0 by decide); omega) (pow5 i (by omega)).2
      show zs (pmt p s q) i + pmt p s q i ≤ (i + 1) * 20000
      omega
  refine loop_0 (fun n i (r : Nat) => wX_plusMultiple_8 post (nI p) (nI s) (nI q) n (nI r) (nI (5 ^ i)) (nI i))
    (fun i r => r = zs (pmt p s q) i) 5 0 rfl ?_ ?_
  · intro n r hr
    refine br_t (nI_le (a := 5) (Nat.le_refl _) (by omega)) ?_
    rw [hr]; exact H
  · intro n i r hi hr ih
    obtain ⟨g1, g2⟩ := pow5 i (by omega)
    have d1 : p / 5 ^ i ≤ p := Nat.div_le_self _ _
    have d2 : q / 5 ^ i ≤ q := Nat.div_le_self _ _
    have d3 : s * (q / 5 ^ i) ≤ 5 * 3125 := Nat.mul_le_mul hs (by omega)
    have ne : ¬ nI (5 ^ i) = 0 := nI_ne0 g1 (by omega)
    refine br_f (nI_ge (b := 5) hi (by omega)) ⟨ne, ne, zf5, nm_r (e' := nI ((p / 5 ^ i + s * (q / 5 ^ i)) % 5)) ?_ (nm_r (e' := nI (r + pmt p s q i)) ?_ (nm_r (e' := nI (5 ^ (i + 1))) ?_ (nm_r (nI_1 i) (ih _ ?_))))⟩
    · rw [pk_div (by omega) g1 (by omega), pk_div (by omega) g1 (by omega), pk_mul, nI_add, z5r (by omega)]
    · rw [pk_mul, nI_add]; rfl
    · rw [zm5, Nat.pow_succ]
    · rw [hr]; rfl
def pc (s : Nat) : Nat := zs (fun i => s / 2 ^ i % 2) 4
theorem xs_members {post : Int32 → Prop} {s : Nat} (hs : s < 2 ^ 31) (H : post (nI (pc s))) : wpX_members post (nI s) := by
  show ∃ n4, wX_members_4 post (nI s) n4 0 0
  refine loop_0 (fun n i (r : Nat) => wX_members_4 post (nI s) n (nI r) (nI i))
    (fun i r => r = zs (fun i => s / 2 ^ i % 2) i) 4 0 rfl ?_ ?_
  · intro n r hr
    refine br_t (nI_le (a := 4) (Nat.le_refl _) (by omega)) ?_
    rw [hr]; exact H
  · intro n i r hi hr ih
    refine br_f (nI_ge (b := 4) hi (by omega)) (nm_r (e' := nI (r + s / 2 ^ i % 2)) ?_ (nm_r (nI_1 i) (ih _ ?_)))
    · rw [zbit hs (by omega), nI_add]
    · rw [hr]; rfl
def lo (s : Nat) : Nat := if s % 2 = 1 then 0 else if s / 2 % 2 = 1 then 1 else if s / 4 % 2 = 1 then 2 else 3
def rs (s : Nat) : Nat := s - 2 ^ lo s
theorem set_facts : ∀ s, s < 16 → 0 < s → rs s < s ∧ pc (rs s) + 1 = pc s ∧ lo s < 4 ∧ s &&& (s - 1) = rs s ∧ (s ^^^ rs s) = 2 ^ lo s ∧ pc (2 ^ lo s - 1) = lo s := by decide +kernel
theorem set_lo : ∀ N, N < 5 → ∀ s, s < 2 ^ N → 0 < s → lo s < N := by decide +kernel
theorem set_bit : ∀ s, s < 16 → ∀ i, i < 4 → (s / 2 ^ i % 2 = 1 → pc (s - 2 ^ i) + 1 = pc s ∧ s ^^^ 2 ^ i = s - 2 ^ i ∧ s &&& 2 ^ i = 2 ^ i ∧ 2 ^ i ≤ s) ∧ (s / 2 ^ i % 2 ≠ 1 → s &&& 2 ^ i = 0) := by decide +kernel
theorem pc_0 : ∀ s, s < 16 → pc s = 0 → s = 0 := by decide +kernel
theorem pc_le : ∀ N, N < 5 → ∀ s, s < 2 ^ N → pc s ≤ N := by decide +kernel
theorem pw2 : ∀ N, N < 5 → 2 ^ N ≤ 16 ∧ 1 ≤ 2 ^ N := by decide
/-- expansion along a row: sum and sign after i columns, q i the cofactor's polynomial times the entry -/
def lapP (q : Nat → Nat → Fin 5) (C : Nat) : Nat → (Nat → Fin 5) × Fin 5
  | 0 => (fun _ => 0, 1)
  | i + 1 => if C / 2 ^ i % 2 = 1 then (fun k => (lapP q C i).1 k + (lapP q C i).2 * q i k, - (lapP q C i).2) else lapP q C i
/-- the minor of x I - A with rows R and columns C, as coefficients -/
def dtp (A : Nat → Nat → Nat) : Nat → Nat → Nat → (Nat → Fin 5)
  | 0, _, _ => fun k => if k = 0 then 1 else 0
  | f + 1, R, C => (lapP (fun i k => (if lo R = i then px (dtp A f (rs R) (C - 2 ^ i)) k else 0) - kk (A (lo R) i) * dtp A f (rs R) (C - 2 ^ i) k) C 4).1
theorem lapP_hi (q : Nat → Nat → Fin 5) {C N : Nat} (hN : N ≤ 4) (hC : C < 2 ^ N) : lapP q C 4 = lapP q C N := by
  have : ∀ d, N + d ≤ 4 → lapP q C (N + d) = lapP q C N := by
    intro d
    induction d with
    | zero => intro _; rfl
    | succ d ih =>
      intro h
      rw [← ih (by omega)]
      have hb : ¬ C / 2 ^ (N + d) % 2 = 1 := by
        rw [Nat.div_eq_of_lt (Nat.lt_of_lt_of_le hC (Nat.pow_le_pow_right (by decide) (by omega)))]
        decide
      exact if_neg hb
  have h := this (4 - N) (by omega)
  rwa [show N + (4 - N) = 4 by omega] at h
/-- the table m holds the minor at R, C -/
def mOK (A : Nat → Nat → Nat) (m : Nat → Nat) (R C : Nat) : Prop := m (16 * R + C) < 5 ^ (pc R + 1) ∧ ∀ k, k < 5 → pd (m (16 * R + C)) k = dtp A (pc R) R C k
theorem pc4 : ∀ s, s < 16 → pc s ≤ 4 := by decide +kernel
theorem px_c {p q : Nat → Fin 5} {k : Nat} (h : ∀ j, j < k → p j = q j) : px p k = px q k := by
  cases k with
  | zero => rfl
  | succ k => exact h k (by omega)
theorem xs_expand {post : Int32 → Prop} {N s R C : Nat} {c m f : Nat → Nat} (hN : N ≤ 4) (hs : s < 7) (hc : ∀ j, c j < 5) (hR : R < 2 ^ N) (hR0 : 0 < R) (hC : C < 2 ^ N) (hRC : pc R = pc C)
    (hm : ∀ R' C', R' < R → C' < 2 ^ N → pc R' = pc C' → mOK (zSl c N s) m R' C')
    (H : ∀ p, p < 5 ^ (pc R + 1) → (∀ k, k < 5 → pd p k = dtp (zSl c N s) (pc R) R C k) → post (nI p)) :
    wpX_expandedMinor post (zX N c m f) (nI s) (nI R) (nI C) := by
  have hsq := zi_sq hN
  obtain ⟨w1, w2⟩ := pw2 N (by omega)
  obtain ⟨e1, e2, e3, e4, e5, e6⟩ := set_facts R (by omega) hR0
  have hlo := set_lo N (by omega) R hR hR0
  have hp4 := pc_le N (by omega) R hR
  unfold wpX_expandedMinor; dsimp only
  refine nm_r (e' := nI (rs R)) (by rw [zs1 hR0, nx_and, e4]) ?_
  rw [nx_xor, e5, zs1 (Nat.two_pow_pos _)]
  have hl16 : 2 ^ lo R ≤ 2 ^ 4 := Nat.pow_le_pow_right (by decide) (by omega)
  refine xs_members (by omega) ?_
  rw [e6]
  generalize hA : zSl c N s = A at *
  have hAe : ∀ i, i < N → c (16 * s + (N * lo R + i)) = A (lo R) i := fun i hi => by rw [← hA]; exact (zSl_at hlo hi).symm
  have hA5 : ∀ i, A (lo R) i < 5 := fun i => by rw [← hA]; exact zSl_lt hc _ _ _ _
  let q : Nat → Nat → Fin 5 := fun i k => (if lo R = i then px (dtp A (pc (rs R)) (rs R) (C - 2 ^ i)) k else 0) - kk (A (lo R) i) * dtp A (pc (rs R)) (rs R) (C - 2 ^ i) k
  have hdt : dtp A (pc R) R C = (lapP q C N).1 := by
    rw [← lapP_hi q hN hC, ← e2]; rfl
  refine loop_0 (fun n i (r : Nat × Nat) => wX_expandedMinor_27 post (nI s) (nI C) (nI (rs R)) (nI (lo R)) (nI N) (zA c) (zA m) (zA f) n (nI r.1) (nI r.2) (nI i))
    (fun i r => r.1 < 5 ^ (pc R + 1) ∧ (∀ k, k < 5 → pd r.1 k = (lapP q C i).1 k) ∧ (r.2 = 1 ∨ r.2 = 4) ∧ kk r.2 = (lapP q C i).2) N (0, 1) ⟨Nat.pow_pos (by decide), fun k hk => ?_, Or.inl rfl, rfl⟩ ?_ ?_
  · show pd 0 k = 0
    unfold pd; rw [Nat.zero_div]; rfl
  · intro n r hI
    refine br_t (nI_le (Nat.le_refl _) (by omega)) (H r.1 hI.1 ?_)
    intro k hk
    rw [hdt]; exact hI.2.1 k hk
  · intro n i r hi hI ih
    obtain ⟨b1, b0⟩ := set_bit C (by omega) i (by omega)
    have h5 : (5 : Nat) ^ (pc R + 1) ≤ 3125 := (pow5 _ (by omega)).2
    have hr1 : r.1 < 3125 := by have := hI.1; omega
    have hr2 : r.2 < 5 := by rcases hI.2.2.1 with h | h <;> omega
    refine br_f (nI_ge hi (by omega)) (nm_r (zshl (k := i) (by omega)) ?_)
    by_cases hb : C / 2 ^ i % 2 = 1
    · obtain ⟨g1, g2, g3, g4⟩ := b1 hb
      obtain ⟨o1, o2⟩ := hm (rs R) (C - 2 ^ i) e1 (by omega) (by omega)
      have hil := zi_lt hlo hi
      have hne : ¬ nI C &&& nI (2 ^ i) = 0 := by
        rw [nx_and, g3]
        exact nI_ne0 (Nat.two_pow_pos _) (by omega)
      have hmi : m (16 * rs R + (C - 2 ^ i)) < 625 := by
        have : (5 : Nat) ^ (pc (rs R) + 1) ≤ 5 ^ 4 := Nat.pow_le_pow_right (by decide) (by omega)
        have := (show (5 : Nat) ^ 4 = 625 from rfl)
        omega
      have ea := hA5 i
      have lapS : lapP q C (i + 1) = (fun k => (lapP q C i).1 k + (lapP q C i).2 * q i k, - (lapP q C i).2) := by
        show (if C / 2 ^ i % 2 = 1 then _ else _) = _
        rw [if_pos hb]
      have hsgn : ∀ S, S < 5 ^ (pc R + 1) → (∀ k, k < 5 → pd S k = (lapP q C i).1 k + (lapP q C i).2 * q i k) → ∀ x7 : Int32, x7 = 5 - nI r.2 → ∀ x8 : Int32, x8 = nI i + 1 →
          wX_expandedMinor_27 post (nI s) (nI C) (nI (rs R)) (nI (lo R)) (nI N) (zA c) (zA m) (zA f) n (nI S) x7 x8 := by
        intro S hS hd
        refine nm_r (z5s (by omega)) (nm_r (nI_1 i) (ih (S, 5 - r.2) ⟨hS, ?_, ?_, ?_⟩))
        · intro k hk
          rw [lapS]; exact hd k hk
        · rcases hI.2.2.1 with h | h
          · right; show 5 - r.2 = 4; omega
          · left; show 5 - r.2 = 1; omega
        · rw [lapS]
          show kk (5 - r.2) = _
          rw [kk_5s (by omega), hI.2.2.2]
      refine br_f hne ⟨?_, nm_r (e' := nI (m (16 * rs R + (C - 2 ^ i)))) ?_ ⟨?_, nm_r (e' := nI (A (lo R) i)) ?_ ⟨zf5, nm_r (e' := nI (r.2 * (5 - A (lo R) i) % 5)) ?_ ?_⟩⟩⟩
      · rw [nx_xor, g2, z16m, nI_add]; exact vp_in_nI (by omega) (by decide)
      · rw [nx_xor, g2, z16m, nI_add, nI_clamp (by omega), zA_at]
      · rw [z16m, pk_mul, nI_add, nI_add]; exact vp_in_nI (by omega) (by decide)
      · rw [z16m, pk_mul, nI_add, nI_add, nI_clamp (by omega), zA_at, Nat.add_assoc, hAe i hi]
      · have : r.2 * (5 - A (lo R) i) ≤ 4 * 5 := Nat.mul_le_mul (by omega) (by omega)
        rw [z5s (by omega), pk_mul, z5r (by omega)]
      · have hsc : r.2 * (5 - A (lo R) i) % 5 < 5 := Nat.mod_lt _ (by decide)
        have ksc : kk (r.2 * (5 - A (lo R) i) % 5) = - ((lapP q C i).2 * kk (A (lo R) i)) := by
          rw [kk_mod, kk_mul, kk_5s (by omega), hI.2.2.2]
          grind
        refine xs_pm hr1 (by omega) (by omega) ?_
        have hb2 : ∀ p s' q', p < 5 ^ (pc R + 1) → q' < 5 ^ (pc R + 1) → pm p s' q' < 5 ^ (pc R + 1) := by
          intro p s' q' hp hq'
          refine pd_ltp (pm_lt _ _ _) (by omega) ?_
          intro k k1 k2
          rw [pd_pm _ _ _ _ k2, pd_hi hp k1, pd_hi hq' k1]
          grind
        have hmi2 : m (16 * rs R + (C - 2 ^ i)) < 5 ^ (pc R + 1) := Nat.lt_of_lt_of_le o1 (Nat.pow_le_pow_right (by decide) (by omega))
        have hS1 := hb2 r.1 (r.2 * (5 - A (lo R) i) % 5) _ hI.1 hmi2
        refine pk_eq (lo R) i ?_ ?_
        · intro el
          have hmi5 : 5 * m (16 * rs R + (C - 2 ^ i)) < 5 ^ (pc R + 1) := by
            rw [Nat.pow_succ, ← e2]
            omega
          rw [z5m]
          refine xs_pm (pm_lt _ _ _) (by omega) (by omega) ?_
          refine hsgn _ (hb2 _ _ _ hS1 hmi5) ?_
          intro k hk
          rw [pd_pm _ _ _ _ hk, pd_pm _ _ _ _ hk, hI.2.1 k hk, ksc, hI.2.2.2, pd_5, o2 k hk, px_c (q := dtp A (pc (rs R)) (rs R) (C - 2 ^ i)) (fun j hj => o2 j (by omega))]
          show _ = (lapP q C i).1 k + (lapP q C i).2 * ((if lo R = i then px (dtp A (pc (rs R)) (rs R) (C - 2 ^ i)) k else 0) - kk (A (lo R) i) * dtp A (pc (rs R)) (rs R) (C - 2 ^ i) k)
          rw [if_pos el]
          grind
        · intro el
          refine hsgn _ hS1 ?_
          intro k hk
          rw [pd_pm _ _ _ _ hk, hI.2.1 k hk, ksc, o2 k hk]
          show _ = (lapP q C i).1 k + (lapP q C i).2 * ((if lo R = i then px (dtp A (pc (rs R)) (rs R) (C - 2 ^ i)) k else 0) - kk (A (lo R) i) * dtp A (pc (rs R)) (rs R) (C - 2 ^ i) k)
          rw [if_neg el]
          grind
    · have lapS : lapP q C (i + 1) = lapP q C i := by
        show (if C / 2 ^ i % 2 = 1 then _ else _) = _
        rw [if_neg hb]
      refine br_t (by rw [nx_and, b0 hb]; rfl) (nm_r (nI_1 i) (ih r ?_))
      rw [lapS]; exact hI
theorem xs_findMinors {post : SX → Prop} {N s : Nat} {c m f : Nat → Nat} (hN : N ≤ 4) (hs : s < 7) (hc : ∀ j, c j < 5)
    (H : ∀ m' : Nat → Nat, (∀ R C, R < 2 ^ N → C < 2 ^ N → pc R = pc C → mOK (zSl c N s) m' R C) → post (zX N c m' f)) :
    wpX_findMinors post (zX N c m f) (nI s) := by
  obtain ⟨w1, w2⟩ := pw2 N (by omega)
  unfold wpX_findMinors; dsimp only
  refine nm_r (zshl (k := N) (by omega)) (nm_r (e' := zA (zu m 0 1)) (zA_upd m 0 1) ?_)
  refine pk_loop (fun n R (s' : Nat → Nat) => wX_findMinors_16 post (nI s) (nI (2 ^ N)) (nI N) n (nI R) (zA c) (zA s') (zA f))
    (fun R m' => 1 ≤ R ∧ ∀ R' C', R' < R → R' < 2 ^ N → C' < 2 ^ N → pc R' = pc C' → mOK (zSl c N s) m' R' C') (2 ^ N) 1 _ w2 ?_ ?_ ?_
  · refine ⟨Nat.le_refl _, ?_⟩
    intro R' C' h1 h2 h3 h4
    have hR' : R' = 0 := by omega
    subst hR'
    have hC' : C' = 0 := pc_0 C' (by omega) (by rw [← h4]; rfl)
    subst hC'
    refine ⟨by show zu m 0 1 0 < _; rw [zu_s]; decide, ?_⟩
    intro k hk
    show pd (zu m 0 1 0) k = (if k = 0 then 1 else 0)
    rw [zu_s]
    match k, hk with
    | 0, _ => rfl
    | 1, _ => rfl
    | 2, _ => rfl
    | 3, _ => rfl
    | 4, _ => rfl
  · intro n m' hI
    exact br_t (nI_le (Nat.le_refl _) (by omega)) (H m' (fun R C hR hC e => hI.2 R C hR hR hC e))
  · intro n R m' hR hI ih
    refine br_f (nI_ge hR (by omega)) ?_
    have hR0 : 0 < R := hI.1
    · refine pk_loop (fun n' C (s' : Nat → Nat) => wX_findMinors_24 post (wX_findMinors_16 post (nI s) (nI (2 ^ N)) (nI N) n) (nI s) (nI (2 ^ N)) (nI R) (nI N) n' (nI C) (zA c) (zA s') (zA f))
        (fun C m' => ∀ R' C', (R' < R ∨ (R' = R ∧ C' < C)) → R' < 2 ^ N → C' < 2 ^ N → pc R' = pc C' → mOK (zSl c N s) m' R' C') (2 ^ N) 1 m' w2 ?_ ?_ ?_
      · intro R' C' h h2 h3 h4
        rcases h with h | ⟨h, h'⟩
        · exact hI.2 R' C' h h2 h3 h4
        · exfalso
          have hC0 : C' = 0 := by omega
          subst hC0
          have := pc_0 R' (by omega) (by rw [h4]; rfl)
          omega
      · intro n' m2 hJ
        refine br_t (nI_le (Nat.le_refl _) (by omega)) (nm_r (nI_1 R) (ih m2 ⟨by omega, ?_⟩))
        intro R' C' h h2 h3 h4
        exact hJ R' C' (by omega) h2 h3 h4
      · intro n' C m2 hC hJ ih'
        refine br_f (nI_ge hC (by omega)) ?_
        refine xs_members (by omega) (xs_members (by omega) ?_)
        have hpR := pc4 R (by omega)
        have hpC := pc4 C (by omega)
        refine pk_eq (pc R) (pc C) ?_ ?_
        · intro e
          refine xs_expand hN hs hc hR hR0 hC e (fun R' C' h1 h2 h3 => hJ R' C' (Or.inl h1) (by omega) h2 h3) ?_
          intro p hp1 hp2
          refine ⟨?_, nm_r (e' := zA (zu m2 (16 * R + C) p)) ?_ (nm_r (nI_1 C) (ih' _ ?_))⟩
          · rw [z16m, nI_add]; exact vp_in_nI (by omega) (by decide)
          · rw [z16m, nI_add, nI_clamp (by omega), zA_upd]
          · intro R' C' h h2 h3 h4
            by_cases ee : 16 * R' + C' = 16 * R + C
            · have e1 : R' = R := by omega
              have e2 : C' = C := by omega
              subst e1; subst e2
              refine ⟨by rw [zu_s]; exact hp1, ?_⟩
              intro k hk
              rw [zu_s]; exact hp2 k hk
            · have := hJ R' C' (by omega) h2 h3 h4
              refine ⟨by rw [zu_n ee]; exact this.1, ?_⟩
              intro k hk
              rw [zu_n ee]; exact this.2 k hk
        · intro e
          refine nm_r (nI_1 C) (ih' m2 ?_)
          intro R' C' h h2 h3 h4
          refine hJ R' C' ?_ h2 h3 h4
          rcases h with h | ⟨h, h'⟩
          · exact Or.inl h
          · refine Or.inr ⟨h, ?_⟩
            by_cases ee : C' = C
            · subst ee; subst h; exact absurd h4 e
            · omega
