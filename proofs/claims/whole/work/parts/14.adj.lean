/-! the adjugate is a polynomial of the matrix -/
theorem ch1 (A : Nat → Nat → Nat) : chp A 1 1 = 1 := by
  simp [chp, dtp, lapP, px, lo, rs]
  grind
theorem ch2 (A : Nat → Nat → Nat) : chp A 2 2 = 1 ∧ chp A 2 1 = - (kk (A 0 0) + kk (A 1 1)) := by
  simp [chp, dtp, lapP, px, lo, rs]
  grind
theorem ch3 (A : Nat → Nat → Nat) : chp A 3 3 = 1 ∧ chp A 3 2 = - (kk (A 0 0) + kk (A 1 1) + kk (A 2 2)) ∧
    chp A 3 1 = kk (A 0 0) * kk (A 1 1) - kk (A 0 1) * kk (A 1 0) + (kk (A 0 0) * kk (A 2 2) - kk (A 0 2) * kk (A 2 0)) + (kk (A 1 1) * kk (A 2 2) - kk (A 1 2) * kk (A 2 1)) := by
  simp [chp, dtp, lapP, px, lo, rs]
  grind
theorem ch4 (A : Nat → Nat → Nat) : chp A 4 4 = 1 ∧ chp A 4 3 = - (kk (A 0 0) + kk (A 1 1) + kk (A 2 2) + kk (A 3 3)) ∧
    chp A 4 2 = kk (A 0 0) * kk (A 1 1) - kk (A 0 1) * kk (A 1 0) + (kk (A 0 0) * kk (A 2 2) - kk (A 0 2) * kk (A 2 0)) + (kk (A 0 0) * kk (A 3 3) - kk (A 0 3) * kk (A 3 0)) + (kk (A 1 1) * kk (A 2 2) - kk (A 1 2) * kk (A 2 1)) + (kk (A 1 1) * kk (A 3 3) - kk (A 1 3) * kk (A 3 1)) + (kk (A 2 2) * kk (A 3 3) - kk (A 2 3) * kk (A 3 2)) ∧
    chp A 4 1 = - (dtm (fun i j => kk (A i j)) 3 7 7 + dtm (fun i j => kk (A i j)) 3 11 11 + dtm (fun i j => kk (A i j)) 3 13 13 + dtm (fun i j => kk (A i j)) 3 14 14) := by
  refine ⟨?_, ?_, ?_, ?_⟩
  · simp [chp, dtp, lapP, px, lo, rs]
    grind
  · simp [chp, dtp, lapP, px, lo, rs]
    grind
  · simp [chp, dtp, lapP, px, lo, rs]
    grind
  · simp [chp, dtp, lapP, px, lo, rs, dtm, lapM]
    grind
def fs (f : Nat → Fin 5) : Nat → Fin 5
  | 0 => 0
  | n + 1 => fs f n + f n
def fM (N : Nat) (A B : Nat → Nat → Fin 5) : Nat → Nat → Fin 5 := fun i k => fs (fun t => A i t * B t k) N
def fE (N : Nat) (c : Nat → Fin 5) (A : Nat → Nat → Fin 5) : Nat → (Nat → Nat → Fin 5)
  | 0 => fun _ _ => 0
  | s + 1 => fun i k => if i = k then fM N (fE N c A s) A i k + c (4 - s) else fM N (fE N c A s) A i k
theorem kk_zs (f : Nat → Nat) (n : Nat) : kk (zs f n) = fs (fun t => kk (f t)) n := by
  induction n with
  | zero => rfl
  | succ n ih =>
    show kk (zs f n + f n) = fs _ n + kk (f n)
    rw [kk_add, ih]
theorem kk_zM (N : Nat) (A B : Nat → Nat → Nat) (i k : Nat) : kk (zM N A B i k) = fM N (fun i j => kk (A i j)) (fun i j => kk (B i j)) i k := by
  unfold zM fM
  rw [kk_mod, kk_zs]
  simp only [kk_mul]
theorem kk_zEv (N p : Nat) (A : Nat → Nat → Nat) : ∀ s i k, kk (zEv N p A s i k) = fE N (pd p) (fun i j => kk (A i j)) s i k := by
  intro s
  induction s with
  | zero => intro i k; rfl
  | succ s ih =>
    intro i k
    show kk (if i = k then (zM N (zEv N p A s) A i k + p / 5 ^ (4 - s) % 5) % 5 else zM N (zEv N p A s) A i k) = (if i = k then fM N (fE N (pd p) (fun i j => kk (A i j)) s) (fun i j => kk (A i j)) i k + pd p (4 - s) else fM N (fE N (pd p) (fun i j => kk (A i j)) s) (fun i j => kk (A i j)) i k)
    have e : kk (zM N (zEv N p A s) A i k) = fM N (fE N (pd p) (fun i j => kk (A i j)) s) (fun i j => kk (A i j)) i k := by
      rw [kk_zM]
      have : (fun i j => kk (zEv N p A s i j)) = fE N (pd p) (fun i j => kk (A i j)) s := by
        funext i j; exact ih i j
      rw [this]
    split
    · rw [kk_mod, kk_add, kk_mod, e]; rfl
    · exact e
/-- the adjugate's entry -/
def adj (M : Nat → Nat → Fin 5) (N i j : Nat) : Fin 5 := (if (i + j) % 2 = 0 then 1 else 4) * dtm M (N - 1) (2 ^ N - 1 - 2 ^ j) (2 ^ N - 1 - 2 ^ i)
