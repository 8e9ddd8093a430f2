/-! the derivative of a minor -/
def pcb (s i : Nat) : Nat := zs (fun t => s / 2 ^ t % 2) i
def dsm (A : Nat → Nat → Nat) (f R C : Nat) : Nat → (Nat → Fin 5)
  | 0 => fun _ => 0
  | i + 1 => if R / 2 ^ i % 2 = 1 ∧ C / 2 ^ i % 2 = 1 then fun k => dsm A f R C i k + (if (pcb R i + pcb C i) % 2 = 0 then 1 else 4) * dtp A f (R - 2 ^ i) (C - 2 ^ i) k else dsm A f R C i
theorem dr_1_1_0 (A : Nat → Nat → Nat) : 1 * dtp A 1 1 1 1 = dsm A 0 1 1 4 0 := by
  simp [dsm, pcb, zs, dtp, lapP, px, lo, rs] <;> grind
theorem dr_1_1_1 (A : Nat → Nat → Nat) : 2 * dtp A 1 1 1 2 = dsm A 0 1 1 4 1 := by
  simp [dsm, pcb, zs, dtp, lapP, px, lo, rs] <;> grind
theorem dr_1_1_2 (A : Nat → Nat → Nat) : 3 * dtp A 1 1 1 3 = dsm A 0 1 1 4 2 := by
  simp [dsm, pcb, zs, dtp, lapP, px, lo, rs] <;> grind
theorem dr_1_1_3 (A : Nat → Nat → Nat) : 4 * dtp A 1 1 1 4 = dsm A 0 1 1 4 3 := by
  simp [dsm, pcb, zs, dtp, lapP, px, lo, rs] <;> grind
theorem dr_1_2_0 (A : Nat → Nat → Nat) : 1 * dtp A 1 1 2 1 = dsm A 0 1 2 4 0 := by
  simp [dsm, pcb, zs, dtp, lapP, px, lo, rs] <;> grind
theorem dr_1_2_1 (A : Nat → Nat → Nat) : 2 * dtp A 1 1 2 2 = dsm A 0 1 2 4 1 := by
  simp [dsm, pcb, zs, dtp, lapP, px, lo, rs] <;> grind
theorem dr_1_2_2 (A : Nat → Nat → Nat) : 3 * dtp A 1 1 2 3 = dsm A 0 1 2 4 2 := by
  simp [dsm, pcb, zs, dtp, lapP, px, lo, rs] <;> grind
theorem dr_1_2_3 (A : Nat → Nat → Nat) : 4 * dtp A 1 1 2 4 = dsm A 0 1 2 4 3 := by
  simp [dsm, pcb, zs, dtp, lapP, px, lo, rs] <;> grind
theorem dr_1_4_0 (A : Nat → Nat → Nat) : 1 * dtp A 1 1 4 1 = dsm A 0 1 4 4 0 := by
  simp [dsm, pcb, zs, dtp, lapP, px, lo, rs] <;> grind
theorem dr_1_4_1 (A : Nat → Nat → Nat) : 2 * dtp A 1 1 4 2 = dsm A 0 1 4 4 1 := by
  simp [dsm, pcb, zs, dtp, lapP, px, lo, rs] <;> grind
theorem dr_1_4_2 (A : Nat → Nat → Nat) : 3 * dtp A 1 1 4 3 = dsm A 0 1 4 4 2 := by
  simp [dsm, pcb, zs, dtp, lapP, px, lo, rs] <;> grind
theorem dr_1_4_3 (A : Nat → Nat → Nat) : 4 * dtp A 1 1 4 4 = dsm A 0 1 4 4 3 := by
  simp [dsm, pcb, zs, dtp, lapP, px, lo, rs] <;> grind
theorem dr_1_8_0 (A : Nat → Nat → Nat) : 1 * dtp A 1 1 8 1 = dsm A 0 1 8 4 0 := by
  simp [dsm, pcb, zs, dtp, lapP, px, lo, rs] <;> grind
theorem dr_1_8_1 (A : Nat → Nat → Nat) : 2 * dtp A 1 1 8 2 = dsm A 0 1 8 4 1 := by
  simp [dsm, pcb, zs, dtp, lapP, px, lo, rs] <;> grind
theorem dr_1_8_2 (A : Nat → Nat → Nat) : 3 * dtp A 1 1 8 3 = dsm A 0 1 8 4 2 := by
  simp [dsm, pcb, zs, dtp, lapP, px, lo, rs] <;> grind
theorem dr_1_8_3 (A : Nat → Nat → Nat) : 4 * dtp A 1 1 8 4 = dsm A 0 1 8 4 3 := by
  simp [dsm, pcb, zs, dtp, lapP, px, lo, rs] <;> grind
theorem dr_2_1_0 (A : Nat → Nat → Nat) : 1 * dtp A 1 2 1 1 = dsm A 0 2 1 4 0 := by
  simp [dsm, pcb, zs, dtp, lapP, px, lo, rs] <;> grind
theorem dr_2_1_1 (A : Nat → Nat → Nat) : 2 * dtp A 1 2 1 2 = dsm A 0 2 1 4 1 := by
  simp [dsm, pcb, zs, dtp, lapP, px, lo, rs] <;> grind
theorem dr_2_1_2 (A : Nat → Nat → Nat) : 3 * dtp A 1 2 1 3 = dsm A 0 2 1 4 2 := by
  simp [dsm, pcb, zs, dtp, lapP, px, lo, rs] <;> grind
theorem dr_2_1_3 (A : Nat → Nat → Nat) : 4 * dtp A 1 2 1 4 = dsm A 0 2 1 4 3 := by
  simp [dsm, pcb, zs, dtp, lapP, px, lo, rs] <;> grind
theorem dr_2_2_0 (A : Nat → Nat → Nat) : 1 * dtp A 1 2 2 1 = dsm A 0 2 2 4 0 := by
  simp [dsm, pcb, zs, dtp, lapP, px, lo, rs] <;> grind
theorem dr_2_2_1 (A : Nat → Nat → Nat) : 2 * dtp A 1 2 2 2 = dsm A 0 2 2 4 1 := by
  simp [dsm, pcb, zs, dtp, lapP, px, lo, rs] <;> grind
theorem dr_2_2_2 (A : Nat → Nat → Nat) : 3 * dtp A 1 2 2 3 = dsm A 0 2 2 4 2 := by
  simp [dsm, pcb, zs, dtp, lapP, px, lo, rs] <;> grind
theorem dr_2_2_3 (A : Nat → Nat → Nat) : 4 * dtp A 1 2 2 4 = dsm A 0 2 2 4 3 := by
  simp [dsm, pcb, zs, dtp, lapP, px, lo, rs] <;> grind
theorem dr_2_4_0 (A : Nat → Nat → Nat) : 1 * dtp A 1 2 4 1 = dsm A 0 2 4 4 0 := by
  simp [dsm, pcb, zs, dtp, lapP, px, lo, rs] <;> grind
theorem dr_2_4_1 (A : Nat → Nat → Nat) : 2 * dtp A 1 2 4 2 = dsm A 0 2 4 4 1 := by
  simp [dsm, pcb, zs, dtp, lapP, px, lo, rs] <;> grind
theorem dr_2_4_2 (A : Nat → Nat → Nat) : 3 * dtp A 1 2 4 3 = dsm A 0 2 4 4 2 := by
  simp [dsm, pcb, zs, dtp, lapP, px, lo, rs] <;> grind
theorem dr_2_4_3 (A : Nat → Nat → Nat) : 4 * dtp A 1 2 4 4 = dsm A 0 2 4 4 3 := by
  simp [dsm, pcb, zs, dtp, lapP, px, lo, rs] <;> grind
theorem dr_2_8_0 (A : Nat → Nat → Nat) : 1 * dtp A 1 2 8 1 = dsm A 0 2 8 4 0 := by
  simp [dsm, pcb, zs, dtp, lapP, px, lo, rs] <;> grind
theorem dr_2_8_1 (A : Nat → Nat → Nat) : 2 * dtp A 1 2 8 2 = dsm A 0 2 8 4 1 := by
  simp [dsm, pcb, zs, dtp, lapP, px, lo, rs] <;> grind
theorem dr_2_8_2 (A : Nat → Nat → Nat) : 3 * dtp A 1 2 8 3 = dsm A 0 2 8 4 2 := by
  simp [dsm, pcb, zs, dtp, lapP, px, lo, rs] <;> grind
theorem dr_2_8_3 (A : Nat → Nat → Nat) : 4 * dtp A 1 2 8 4 = dsm A 0 2 8 4 3 := by
  simp [dsm, pcb, zs, dtp, lapP, px, lo, rs] <;> grind
theorem dr_3_3_0 (A : Nat → Nat → Nat) : 1 * dtp A 2 3 3 1 = dsm A 1 3 3 4 0 := by
  simp [dsm, pcb, zs, dtp, lapP, px, lo, rs] <;> grind
theorem dr_3_3_1 (A : Nat → Nat → Nat) : 2 * dtp A 2 3 3 2 = dsm A 1 3 3 4 1 := by
  simp [dsm, pcb, zs, dtp, lapP, px, lo, rs] <;> grind
theorem dr_3_3_2 (A : Nat → Nat → Nat) : 3 * dtp A 2 3 3 3 = dsm A 1 3 3 4 2 := by
  simp [dsm, pcb, zs, dtp, lapP, px, lo, rs] <;> grind
theorem dr_3_3_3 (A : Nat → Nat → Nat) : 4 * dtp A 2 3 3 4 = dsm A 1 3 3 4 3 := by
  simp [dsm, pcb, zs, dtp, lapP, px, lo, rs] <;> grind
theorem dr_3_5_0 (A : Nat → Nat → Nat) : 1 * dtp A 2 3 5 1 = dsm A 1 3 5 4 0 := by
  simp [dsm, pcb, zs, dtp, lapP, px, lo, rs] <;> grind
theorem dr_3_5_1 (A : Nat → Nat → Nat) : 2 * dtp A 2 3 5 2 = dsm A 1 3 5 4 1 := by
  simp [dsm, pcb, zs, dtp, lapP, px, lo, rs] <;> grind
theorem dr_3_5_2 (A : Nat → Nat → Nat) : 3 * dtp A 2 3 5 3 = dsm A 1 3 5 4 2 := by
  simp [dsm, pcb, zs, dtp, lapP, px, lo, rs] <;> grind
theorem dr_3_5_3 (A : Nat → Nat → Nat) : 4 * dtp A 2 3 5 4 = dsm A 1 3 5 4 3 := by
  simp [dsm, pcb, zs, dtp, lapP, px, lo, rs] <;> grind
theorem dr_3_6_0 (A : Nat → Nat → Nat) : 1 * dtp A 2 3 6 1 = dsm A 1 3 6 4 0 := by
  simp [dsm, pcb, zs, dtp, lapP, px, lo, rs] <;> grind
theorem dr_3_6_1 (A : Nat → Nat → Nat) : 2 * dtp A 2 3 6 2 = dsm A 1 3 6 4 1 := by
  simp [dsm, pcb, zs, dtp, lapP, px, lo, rs] <;> grind
theorem dr_3_6_2 (A : Nat → Nat → Nat) : 3 * dtp A 2 3 6 3 = dsm A 1 3 6 4 2 := by
  simp [dsm, pcb, zs, dtp, lapP, px, lo, rs] <;> grind
theorem dr_3_6_3 (A : Nat → Nat → Nat) : 4 * dtp A 2 3 6 4 = dsm A 1 3 6 4 3 := by
  simp [dsm, pcb, zs, dtp, lapP, px, lo, rs] <;> grind
theorem dr_3_9_0 (A : Nat → Nat → Nat) : 1 * dtp A 2 3 9 1 = dsm A 1 3 9 4 0 := by
  simp [dsm, pcb, zs, dtp, lapP, px, lo, rs] <;> grind
theorem dr_3_9_1 (A : Nat → Nat → Nat) : 2 * dtp A 2 3 9 2 = dsm A 1 3 9 4 1 := by
  simp [dsm, pcb, zs, dtp, lapP, px, lo, rs] <;> grind
theorem dr_3_9_2 (A : Nat → Nat → Nat) : 3 * dtp A 2 3 9 3 = dsm A 1 3 9 4 2 := by
  simp [dsm, pcb, zs, dtp, lapP, px, lo, rs] <;> grind
theorem dr_3_9_3 (A : Nat → Nat → Nat) : 4 * dtp A 2 3 9 4 = dsm A 1 3 9 4 3 := by
  simp [dsm, pcb, zs, dtp, lapP, px, lo, rs] <;> grind
theorem dr_3_10_0 (A : Nat → Nat → Nat) : 1 * dtp A 2 3 10 1 = dsm A 1 3 10 4 0 := by
  simp [dsm, pcb, zs, dtp, lapP, px, lo, rs] <;> grind
theorem dr_3_10_1 (A : Nat → Nat → Nat) : 2 * dtp A 2 3 10 2 = dsm A 1 3 10 4 1 := by
  simp [dsm, pcb, zs, dtp, lapP, px, lo, rs] <;> grind
theorem dr_3_10_2 (A : Nat → Nat → Nat) : 3 * dtp A 2 3 10 3 = dsm A 1 3 10 4 2 := by
  simp [dsm, pcb, zs, dtp, lapP, px, lo, rs] <;> grind
theorem dr_3_10_3 (A : Nat → Nat → Nat) : 4 * dtp A 2 3 10 4 = dsm A 1 3 10 4 3 := by
  simp [dsm, pcb, zs, dtp, lapP, px, lo, rs] <;> grind
theorem dr_3_12_0 (A : Nat → Nat → Nat) : 1 * dtp A 2 3 12 1 = dsm A 1 3 12 4 0 := by
  simp [dsm, pcb, zs, dtp, lapP, px, lo, rs] <;> grind
theorem dr_3_12_1 (A : Nat → Nat → Nat) : 2 * dtp A 2 3 12 2 = dsm A 1 3 12 4 1 := by
  simp [dsm, pcb, zs, dtp, lapP, px, lo, rs] <;> grind
theorem dr_3_12_2 (A : Nat → Nat → Nat) : 3 * dtp A 2 3 12 3 = dsm A 1 3 12 4 2 := by
  simp [dsm, pcb, zs, dtp, lapP, px, lo, rs] <;> grind
theorem dr_3_12_3 (A : Nat → Nat → Nat) : 4 * dtp A 2 3 12 4 = dsm A 1 3 12 4 3 := by
  simp [dsm, pcb, zs, dtp, lapP, px, lo, rs] <;> grind
theorem dr_4_1_0 (A : Nat → Nat → Nat) : 1 * dtp A 1 4 1 1 = dsm A 0 4 1 4 0 := by
  simp [dsm, pcb, zs, dtp, lapP, px, lo, rs] <;> grind
theorem dr_4_1_1 (A : Nat → Nat → Nat) : 2 * dtp A 1 4 1 2 = dsm A 0 4 1 4 1 := by
  simp [dsm, pcb, zs, dtp, lapP, px, lo, rs] <;> grind
theorem dr_4_1_2 (A : Nat → Nat → Nat) : 3 * dtp A 1 4 1 3 = dsm A 0 4 1 4 2 := by
  simp [dsm, pcb, zs, dtp, lapP, px, lo, rs] <;> grind
theorem dr_4_1_3 (A : Nat → Nat → Nat) : 4 * dtp A 1 4 1 4 = dsm A 0 4 1 4 3 := by
  simp [dsm, pcb, zs, dtp, lapP, px, lo, rs] <;> grind
theorem dr_4_2_0 (A : Nat → Nat → Nat) : 1 * dtp A 1 4 2 1 = dsm A 0 4 2 4 0 := by
  simp [dsm, pcb, zs, dtp, lapP, px, lo, rs] <;> grind
theorem dr_4_2_1 (A : Nat → Nat → Nat) : 2 * dtp A 1 4 2 2 = dsm A 0 4 2 4 1 := by
  simp [dsm, pcb, zs, dtp, lapP, px, lo, rs] <;> grind
theorem dr_4_2_2 (A : Nat → Nat → Nat) : 3 * dtp A 1 4 2 3 = dsm A 0 4 2 4 2 := by
  simp [dsm, pcb, zs, dtp, lapP, px, lo, rs] <;> grind
theorem dr_4_2_3 (A : Nat → Nat → Nat) : 4 * dtp A 1 4 2 4 = dsm A 0 4 2 4 3 := by
  simp [dsm, pcb, zs, dtp, lapP, px, lo, rs] <;> grind
theorem dr_4_4_0 (A : Nat → Nat → Nat) : 1 * dtp A 1 4 4 1 = dsm A 0 4 4 4 0 := by
  simp [dsm, pcb, zs, dtp, lapP, px, lo, rs] <;> grind
theorem dr_4_4_1 (A : Nat → Nat → Nat) : 2 * dtp A 1 4 4 2 = dsm A 0 4 4 4 1 := by
  simp [dsm, pcb, zs, dtp, lapP, px, lo, rs] <;> grind
theorem dr_4_4_2 (A : Nat → Nat → Nat) : 3 * dtp A 1 4 4 3 = dsm A 0 4 4 4 2 := by
  simp [dsm, pcb, zs, dtp, lapP, px, lo, rs] <;> grind
theorem dr_4_4_3 (A : Nat → Nat → Nat) : 4 * dtp A 1 4 4 4 = dsm A 0 4 4 4 3 := by
  simp [dsm, pcb, zs, dtp, lapP, px, lo, rs] <;> grind
theorem dr_4_8_0 (A : Nat → Nat → Nat) : 1 * dtp A 1 4 8 1 = dsm A 0 4 8 4 0 := by
  simp [dsm, pcb, zs, dtp, lapP, px, lo, rs] <;> grind
theorem dr_4_8_1 (A : Nat → Nat → Nat) : 2 * dtp A 1 4 8 2 = dsm A 0 4 8 4 1 := by
  simp [dsm, pcb, zs, dtp, lapP, px, lo, rs] <;> grind
theorem dr_4_8_2 (A : Nat → Nat → Nat) : 3 * dtp A 1 4 8 3 = dsm A 0 4 8 4 2 := by
  simp [dsm, pcb, zs, dtp, lapP, px, lo, rs] <;> grind
theorem dr_4_8_3 (A : Nat → Nat → Nat) : 4 * dtp A 1 4 8 4 = dsm A 0 4 8 4 3 := by
  simp [dsm, pcb, zs, dtp, lapP, px, lo, rs] <;> grind
theorem dr_5_3_0 (A : Nat → Nat → Nat) : 1 * dtp A 2 5 3 1 = dsm A 1 5 3 4 0 := by
  simp [dsm, pcb, zs, dtp, lapP, px, lo, rs] <;> grind
theorem dr_5_3_1 (A : Nat → Nat → Nat) : 2 * dtp A 2 5 3 2 = dsm A 1 5 3 4 1 := by
  simp [dsm, pcb, zs, dtp, lapP, px, lo, rs] <;> grind
theorem dr_5_3_2 (A : Nat → Nat → Nat) : 3 * dtp A 2 5 3 3 = dsm A 1 5 3 4 2 := by
  simp [dsm, pcb, zs, dtp, lapP, px, lo, rs] <;> grind
theorem dr_5_3_3 (A : Nat → Nat → Nat) : 4 * dtp A 2 5 3 4 = dsm A 1 5 3 4 3 := by
  simp [dsm, pcb, zs, dtp, lapP, px, lo, rs] <;> grind
theorem dr_5_5_0 (A : Nat → Nat → Nat) : 1 * dtp A 2 5 5 1 = dsm A 1 5 5 4 0 := by
  simp [dsm, pcb, zs, dtp, lapP, px, lo, rs] <;> grind
theorem dr_5_5_1 (A : Nat → Nat → Nat) : 2 * dtp A 2 5 5 2 = dsm A 1 5 5 4 1 := by
  simp [dsm, pcb, zs, dtp, lapP, px, lo, rs] <;> grind
theorem dr_5_5_2 (A : Nat → Nat → Nat) : 3 * dtp A 2 5 5 3 = dsm A 1 5 5 4 2 := by
  simp [dsm, pcb, zs, dtp, lapP, px, lo, rs] <;> grind
theorem dr_5_5_3 (A : Nat → Nat → Nat) : 4 * dtp A 2 5 5 4 = dsm A 1 5 5 4 3 := by
  simp [dsm, pcb, zs, dtp, lapP, px, lo, rs] <;> grind
theorem dr_5_6_0 (A : Nat → Nat → Nat) : 1 * dtp A 2 5 6 1 = dsm A 1 5 6 4 0 := by
  simp [dsm, pcb, zs, dtp, lapP, px, lo, rs] <;> grind
theorem dr_5_6_1 (A : Nat → Nat → Nat) : 2 * dtp A 2 5 6 2 = dsm A 1 5 6 4 1 := by
  simp [dsm, pcb, zs, dtp, lapP, px, lo, rs] <;> grind
theorem dr_5_6_2 (A : Nat → Nat → Nat) : 3 * dtp A 2 5 6 3 = dsm A 1 5 6 4 2 := by
  simp [dsm, pcb, zs, dtp, lapP, px, lo, rs] <;> grind
theorem dr_5_6_3 (A : Nat → Nat → Nat) : 4 * dtp A 2 5 6 4 = dsm A 1 5 6 4 3 := by
  simp [dsm, pcb, zs, dtp, lapP, px, lo, rs] <;> grind
theorem dr_5_9_0 (A : Nat → Nat → Nat) : 1 * dtp A 2 5 9 1 = dsm A 1 5 9 4 0 := by
  simp [dsm, pcb, zs, dtp, lapP, px, lo, rs] <;> grind
theorem dr_5_9_1 (A : Nat → Nat → Nat) : 2 * dtp A 2 5 9 2 = dsm A 1 5 9 4 1 := by
  simp [dsm, pcb, zs, dtp, lapP, px, lo, rs] <;> grind
theorem dr_5_9_2 (A : Nat → Nat → Nat) : 3 * dtp A 2 5 9 3 = dsm A 1 5 9 4 2 := by
  simp [dsm, pcb, zs, dtp, lapP, px, lo, rs] <;> grind
theorem dr_5_9_3 (A : Nat → Nat → Nat) : 4 * dtp A 2 5 9 4 = dsm A 1 5 9 4 3 := by
  simp [dsm, pcb, zs, dtp, lapP, px, lo, rs] <;> grind
theorem dr_5_10_0 (A : Nat → Nat → Nat) : 1 * dtp A 2 5 10 1 = dsm A 1 5 10 4 0 := by
  simp [dsm, pcb, zs, dtp, lapP, px, lo, rs] <;> grind
theorem dr_5_10_1 (A : Nat → Nat → Nat) : 2 * dtp A 2 5 10 2 = dsm A 1 5 10 4 1 := by
  simp [dsm, pcb, zs, dtp, lapP, px, lo, rs] <;> grind
theorem dr_5_10_2 (A : Nat → Nat → Nat) : 3 * dtp A 2 5 10 3 = dsm A 1 5 10 4 2 := by
  simp [dsm, pcb, zs, dtp, lapP, px, lo, rs] <;> grind
theorem dr_5_10_3 (A : Nat → Nat → Nat) : 4 * dtp A 2 5 10 4 = dsm A 1 5 10 4 3 := by
  simp [dsm, pcb, zs, dtp, lapP, px, lo, rs] <;> grind
theorem dr_5_12_0 (A : Nat → Nat → Nat) : 1 * dtp A 2 5 12 1 = dsm A 1 5 12 4 0 := by
  simp [dsm, pcb, zs, dtp, lapP, px, lo, rs] <;> grind
theorem dr_5_12_1 (A : Nat → Nat → Nat) : 2 * dtp A 2 5 12 2 = dsm A 1 5 12 4 1 := by
  simp [dsm, pcb, zs, dtp, lapP, px, lo, rs] <;> grind
theorem dr_5_12_2 (A : Nat → Nat → Nat) : 3 * dtp A 2 5 12 3 = dsm A 1 5 12 4 2 := by
  simp [dsm, pcb, zs, dtp, lapP, px, lo, rs] <;> grind
theorem dr_5_12_3 (A : Nat → Nat → Nat) : 4 * dtp A 2 5 12 4 = dsm A 1 5 12 4 3 := by
  simp [dsm, pcb, zs, dtp, lapP, px, lo, rs] <;> grind
theorem dr_6_3_0 (A : Nat → Nat → Nat) : 1 * dtp A 2 6 3 1 = dsm A 1 6 3 4 0 := by
  simp [dsm, pcb, zs, dtp, lapP, px, lo, rs] <;> grind
theorem dr_6_3_1 (A : Nat → Nat → Nat) : 2 * dtp A 2 6 3 2 = dsm A 1 6 3 4 1 := by
  simp [dsm, pcb, zs, dtp, lapP, px, lo, rs] <;> grind
theorem dr_6_3_2 (A : Nat → Nat → Nat) : 3 * dtp A 2 6 3 3 = dsm A 1 6 3 4 2 := by
  simp [dsm, pcb, zs, dtp, lapP, px, lo, rs] <;> grind
theorem dr_6_3_3 (A : Nat → Nat → Nat) : 4 * dtp A 2 6 3 4 = dsm A 1 6 3 4 3 := by
  simp [dsm, pcb, zs, dtp, lapP, px, lo, rs] <;> grind
theorem dr_6_5_0 (A : Nat → Nat → Nat) : 1 * dtp A 2 6 5 1 = dsm A 1 6 5 4 0 := by
  simp [dsm, pcb, zs, dtp, lapP, px, lo, rs] <;> grind
theorem dr_6_5_1 (A : Nat → Nat → Nat) : 2 * dtp A 2 6 5 2 = dsm A 1 6 5 4 1 := by
  simp [dsm, pcb, zs, dtp, lapP, px, lo, rs] <;> grind
theorem dr_6_5_2 (A : Nat → Nat → Nat) : 3 * dtp A 2 6 5 3 = dsm A 1 6 5 4 2 := by
  simp [dsm, pcb, zs, dtp, lapP, px, lo, rs] <;> grind
theorem dr_6_5_3 (A : Nat → Nat → Nat) : 4 * dtp A 2 6 5 4 = dsm A 1 6 5 4 3 := by
  simp [dsm, pcb, zs, dtp, lapP, px, lo, rs] <;> grind
theorem dr_6_6_0 (A : Nat → Nat → Nat) : 1 * dtp A 2 6 6 1 = dsm A 1 6 6 4 0 := by
  simp [dsm, pcb, zs, dtp, lapP, px, lo, rs] <;> grind
theorem dr_6_6_1 (A : Nat → Nat → Nat) : 2 * dtp A 2 6 6 2 = dsm A 1 6 6 4 1 := by
  simp [dsm, pcb, zs, dtp, lapP, px, lo, rs] <;> grind
theorem dr_6_6_2 (A : Nat → Nat → Nat) : 3 * dtp A 2 6 6 3 = dsm A 1 6 6 4 2 := by
  simp [dsm, pcb, zs, dtp, lapP, px, lo, rs] <;> grind
theorem dr_6_6_3 (A : Nat → Nat → Nat) : 4 * dtp A 2 6 6 4 = dsm A 1 6 6 4 3 := by
  simp [dsm, pcb, zs, dtp, lapP, px, lo, rs] <;> grind
theorem dr_6_9_0 (A : Nat → Nat → Nat) : 1 * dtp A 2 6 9 1 = dsm A 1 6 9 4 0 := by
  simp [dsm, pcb, zs, dtp, lapP, px, lo, rs] <;> grind
theorem dr_6_9_1 (A : Nat → Nat → Nat) : 2 * dtp A 2 6 9 2 = dsm A 1 6 9 4 1 := by
  simp [dsm, pcb, zs, dtp, lapP, px, lo, rs] <;> grind
theorem dr_6_9_2 (A : Nat → Nat → Nat) : 3 * dtp A 2 6 9 3 = dsm A 1 6 9 4 2 := by
  simp [dsm, pcb, zs, dtp, lapP, px, lo, rs] <;> grind
theorem dr_6_9_3 (A : Nat → Nat → Nat) : 4 * dtp A 2 6 9 4 = dsm A 1 6 9 4 3 := by
  simp [dsm, pcb, zs, dtp, lapP, px, lo, rs] <;> grind
theorem dr_6_10_0 (A : Nat → Nat → Nat) : 1 * dtp A 2 6 10 1 = dsm A 1 6 10 4 0 := by
  simp [dsm, pcb, zs, dtp, lapP, px, lo, rs] <;> grind
theorem dr_6_10_1 (A : Nat → Nat → Nat) : 2 * dtp A 2 6 10 2 = dsm A 1 6 10 4 1 := by
  simp [dsm, pcb, zs, dtp, lapP, px, lo, rs] <;> grind
theorem dr_6_10_2 (A : Nat → Nat → Nat) : 3 * dtp A 2 6 10 3 = dsm A 1 6 10 4 2 := by
  simp [dsm, pcb, zs, dtp, lapP, px, lo, rs] <;> grind
theorem dr_6_10_3 (A : Nat → Nat → Nat) : 4 * dtp A 2 6 10 4 = dsm A 1 6 10 4 3 := by
  simp [dsm, pcb, zs, dtp, lapP, px, lo, rs] <;> grind
theorem dr_6_12_0 (A : Nat → Nat → Nat) : 1 * dtp A 2 6 12 1 = dsm A 1 6 12 4 0 := by
  simp [dsm, pcb, zs, dtp, lapP, px, lo, rs] <;> grind
theorem dr_6_12_1 (A : Nat → Nat → Nat) : 2 * dtp A 2 6 12 2 = dsm A 1 6 12 4 1 := by
  simp [dsm, pcb, zs, dtp, lapP, px, lo, rs] <;> grind
theorem dr_6_12_2 (A : Nat → Nat → Nat) : 3 * dtp A 2 6 12 3 = dsm A 1 6 12 4 2 := by
  simp [dsm, pcb, zs, dtp, lapP, px, lo, rs] <;> grind
theorem dr_6_12_3 (A : Nat → Nat → Nat) : 4 * dtp A 2 6 12 4 = dsm A 1 6 12 4 3 := by
  simp [dsm, pcb, zs, dtp, lapP, px, lo, rs] <;> grind
theorem dr_7_7_0 (A : Nat → Nat → Nat) : 1 * dtp A 3 7 7 1 = dsm A 2 7 7 4 0 := by
  simp [dsm, pcb, zs, dtp, lapP, px, lo, rs] <;> grind
theorem dr_7_7_1 (A : Nat → Nat → Nat) : 2 * dtp A 3 7 7 2 = dsm A 2 7 7 4 1 := by
  simp [dsm, pcb, zs, dtp, lapP, px, lo, rs] <;> grind
theorem dr_7_7_2 (A : Nat → Nat → Nat) : 3 * dtp A 3 7 7 3 = dsm A 2 7 7 4 2 := by
  simp [dsm, pcb, zs, dtp, lapP, px, lo, rs] <;> grind
theorem dr_7_7_3 (A : Nat → Nat → Nat) : 4 * dtp A 3 7 7 4 = dsm A 2 7 7 4 3 := by
  simp [dsm, pcb, zs, dtp, lapP, px, lo, rs] <;> grind
theorem dr_7_11_0 (A : Nat → Nat → Nat) : 1 * dtp A 3 7 11 1 = dsm A 2 7 11 4 0 := by
  simp [dsm, pcb, zs, dtp, lapP, px, lo, rs] <;> grind
theorem dr_7_11_1 (A : Nat → Nat → Nat) : 2 * dtp A 3 7 11 2 = dsm A 2 7 11 4 1 := by
  simp [dsm, pcb, zs, dtp, lapP, px, lo, rs] <;> grind
theorem dr_7_11_2 (A : Nat → Nat → Nat) : 3 * dtp A 3 7 11 3 = dsm A 2 7 11 4 2 := by
  simp [dsm, pcb, zs, dtp, lapP, px, lo, rs] <;> grind
theorem dr_7_11_3 (A : Nat → Nat → Nat) : 4 * dtp A 3 7 11 4 = dsm A 2 7 11 4 3 := by
  simp [dsm, pcb, zs, dtp, lapP, px, lo, rs] <;> grind
theorem dr_7_13_0 (A : Nat → Nat → Nat) : 1 * dtp A 3 7 13 1 = dsm A 2 7 13 4 0 := by
  simp [dsm, pcb, zs, dtp, lapP, px, lo, rs] <;> grind
theorem dr_7_13_1 (A : Nat → Nat → Nat) : 2 * dtp A 3 7 13 2 = dsm A 2 7 13 4 1 := by
  simp [dsm, pcb, zs, dtp, lapP, px, lo, rs] <;> grind
theorem dr_7_13_2 (A : Nat → Nat → Nat) : 3 * dtp A 3 7 13 3 = dsm A 2 7 13 4 2 := by
  simp [dsm, pcb, zs, dtp, lapP, px, lo, rs] <;> grind
theorem dr_7_13_3 (A : Nat → Nat → Nat) : 4 * dtp A 3 7 13 4 = dsm A 2 7 13 4 3 := by
  simp [dsm, pcb, zs, dtp, lapP, px, lo, rs] <;> grind
theorem dr_7_14_0 (A : Nat → Nat → Nat) : 1 * dtp A 3 7 14 1 = dsm A 2 7 14 4 0 := by
  simp [dsm, pcb, zs, dtp, lapP, px, lo, rs] <;> grind
theorem dr_7_14_1 (A : Nat → Nat → Nat) : 2 * dtp A 3 7 14 2 = dsm A 2 7 14 4 1 := by
  simp [dsm, pcb, zs, dtp, lapP, px, lo, rs] <;> grind
theorem dr_7_14_2 (A : Nat → Nat → Nat) : 3 * dtp A 3 7 14 3 = dsm A 2 7 14 4 2 := by
  simp [dsm, pcb, zs, dtp, lapP, px, lo, rs] <;> grind
theorem dr_7_14_3 (A : Nat → Nat → Nat) : 4 * dtp A 3 7 14 4 = dsm A 2 7 14 4 3 := by
  simp [dsm, pcb, zs, dtp, lapP, px, lo, rs] <;> grind
theorem dr_8_1_0 (A : Nat → Nat → Nat) : 1 * dtp A 1 8 1 1 = dsm A 0 8 1 4 0 := by
  simp [dsm, pcb, zs, dtp, lapP, px, lo, rs] <;> grind
theorem dr_8_1_1 (A : Nat → Nat → Nat) : 2 * dtp A 1 8 1 2 = dsm A 0 8 1 4 1 := by
  simp [dsm, pcb, zs, dtp, lapP, px, lo, rs] <;> grind
theorem dr_8_1_2 (A : Nat → Nat → Nat) : 3 * dtp A 1 8 1 3 = dsm A 0 8 1 4 2 := by
  simp [dsm, pcb, zs, dtp, lapP, px, lo, rs] <;> grind
theorem dr_8_1_3 (A : Nat → Nat → Nat) : 4 * dtp A 1 8 1 4 = dsm A 0 8 1 4 3 := by
  simp [dsm, pcb, zs, dtp, lapP, px, lo, rs] <;> grind
theorem dr_8_2_0 (A : Nat → Nat → Nat) : 1 * dtp A 1 8 2 1 = dsm A 0 8 2 4 0 := by
  simp [dsm, pcb, zs, dtp, lapP, px, lo, rs] <;> grind
theorem dr_8_2_1 (A : Nat → Nat → Nat) : 2 * dtp A 1 8 2 2 = dsm A 0 8 2 4 1 := by
  simp [dsm, pcb, zs, dtp, lapP, px, lo, rs] <;> grind
theorem dr_8_2_2 (A : Nat → Nat → Nat) : 3 * dtp A 1 8 2 3 = dsm A 0 8 2 4 2 := by
  simp [dsm, pcb, zs, dtp, lapP, px, lo, rs] <;> grind
theorem dr_8_2_3 (A : Nat → Nat → Nat) : 4 * dtp A 1 8 2 4 = dsm A 0 8 2 4 3 := by
  simp [dsm, pcb, zs, dtp, lapP, px, lo, rs] <;> grind
theorem dr_8_4_0 (A : Nat → Nat → Nat) : 1 * dtp A 1 8 4 1 = dsm A 0 8 4 4 0 := by
  simp [dsm, pcb, zs, dtp, lapP, px, lo, rs] <;> grind
theorem dr_8_4_1 (A : Nat → Nat → Nat) : 2 * dtp A 1 8 4 2 = dsm A 0 8 4 4 1 := by
  simp [dsm, pcb, zs, dtp, lapP, px, lo, rs] <;> grind
theorem dr_8_4_2 (A : Nat → Nat → Nat) : 3 * dtp A 1 8 4 3 = dsm A 0 8 4 4 2 := by
  simp [dsm, pcb, zs, dtp, lapP, px, lo, rs] <;> grind
theorem dr_8_4_3 (A : Nat → Nat → Nat) : 4 * dtp A 1 8 4 4 = dsm A 0 8 4 4 3 := by
  simp [dsm, pcb, zs, dtp, lapP, px, lo, rs] <;> grind
theorem dr_8_8_0 (A : Nat → Nat → Nat) : 1 * dtp A 1 8 8 1 = dsm A 0 8 8 4 0 := by
  simp [dsm, pcb, zs, dtp, lapP, px, lo, rs] <;> grind
theorem dr_8_8_1 (A : Nat → Nat → Nat) : 2 * dtp A 1 8 8 2 = dsm A 0 8 8 4 1 := by
  simp [dsm, pcb, zs, dtp, lapP, px, lo, rs] <;> grind
theorem dr_8_8_2 (A : Nat → Nat → Nat) : 3 * dtp A 1 8 8 3 = dsm A 0 8 8 4 2 := by
  simp [dsm, pcb, zs, dtp, lapP, px, lo, rs] <;> grind
theorem dr_8_8_3 (A : Nat → Nat → Nat) : 4 * dtp A 1 8 8 4 = dsm A 0 8 8 4 3 := by
  simp [dsm, pcb, zs, dtp, lapP, px, lo, rs] <;> grind
theorem dr_9_3_0 (A : Nat → Nat → Nat) : 1 * dtp A 2 9 3 1 = dsm A 1 9 3 4 0 := by
  simp [dsm, pcb, zs, dtp, lapP, px, lo, rs] <;> grind
theorem dr_9_3_1 (A : Nat → Nat → Nat) : 2 * dtp A 2 9 3 2 = dsm A 1 9 3 4 1 := by
  simp [dsm, pcb, zs, dtp, lapP, px, lo, rs] <;> grind
theorem dr_9_3_2 (A : Nat → Nat → Nat) : 3 * dtp A 2 9 3 3 = dsm A 1 9 3 4 2 := by
  simp [dsm, pcb, zs, dtp, lapP, px, lo, rs] <;> grind
theorem dr_9_3_3 (A : Nat → Nat → Nat) : 4 * dtp A 2 9 3 4 = dsm A 1 9 3 4 3 := by
  simp [dsm, pcb, zs, dtp, lapP, px, lo, rs] <;> grind
theorem dr_9_5_0 (A : Nat → Nat → Nat) : 1 * dtp A 2 9 5 1 = dsm A 1 9 5 4 0 := by
  simp [dsm, pcb, zs, dtp, lapP, px, lo, rs] <;> grind
theorem dr_9_5_1 (A : Nat → Nat → Nat) : 2 * dtp A 2 9 5 2 = dsm A 1 9 5 4 1 := by
  simp [dsm, pcb, zs, dtp, lapP, px, lo, rs] <;> grind
theorem dr_9_5_2 (A : Nat → Nat → Nat) : 3 * dtp A 2 9 5 3 = dsm A 1 9 5 4 2 := by
  simp [dsm, pcb, zs, dtp, lapP, px, lo, rs] <;> grind
theorem dr_9_5_3 (A : Nat → Nat → Nat) : 4 * dtp A 2 9 5 4 = dsm A 1 9 5 4 3 := by
  simp [dsm, pcb, zs, dtp, lapP, px, lo, rs] <;> grind
theorem dr_9_6_0 (A : Nat → Nat → Nat) : 1 * dtp A 2 9 6 1 = dsm A 1 9 6 4 0 := by
  simp [dsm, pcb, zs, dtp, lapP, px, lo, rs] <;> grind
theorem dr_9_6_1 (A : Nat → Nat → Nat) : 2 * dtp A 2 9 6 2 = dsm A 1 9 6 4 1 := by
  simp [dsm, pcb, zs, dtp, lapP, px, lo, rs] <;> grind
theorem dr_9_6_2 (A : Nat → Nat → Nat) : 3 * dtp A 2 9 6 3 = dsm A 1 9 6 4 2 := by
  simp [dsm, pcb, zs, dtp, lapP, px, lo, rs] <;> grind
theorem dr_9_6_3 (A : Nat → Nat → Nat) : 4 * dtp A 2 9 6 4 = dsm A 1 9 6 4 3 := by
  simp [dsm, pcb, zs, dtp, lapP, px, lo, rs] <;> grind
theorem dr_9_9_0 (A : Nat → Nat → Nat) : 1 * dtp A 2 9 9 1 = dsm A 1 9 9 4 0 := by
  simp [dsm, pcb, zs, dtp, lapP, px, lo, rs] <;> grind
theorem dr_9_9_1 (A : Nat → Nat → Nat) : 2 * dtp A 2 9 9 2 = dsm A 1 9 9 4 1 := by
  simp [dsm, pcb, zs, dtp, lapP, px, lo, rs] <;> grind
theorem dr_9_9_2 (A : Nat → Nat → Nat) : 3 * dtp A 2 9 9 3 = dsm A 1 9 9 4 2 := by
  simp [dsm, pcb, zs, dtp, lapP, px, lo, rs] <;> grind
theorem dr_9_9_3 (A : Nat → Nat → Nat) : 4 * dtp A 2 9 9 4 = dsm A 1 9 9 4 3 := by
  simp [dsm, pcb, zs, dtp, lapP, px, lo, rs] <;> grind
theorem dr_9_10_0 (A : Nat → Nat → Nat) : 1 * dtp A 2 9 10 1 = dsm A 1 9 10 4 0 := by
  simp [dsm, pcb, zs, dtp, lapP, px, lo, rs] <;> grind
theorem dr_9_10_1 (A : Nat → Nat → Nat) : 2 * dtp A 2 9 10 2 = dsm A 1 9 10 4 1 := by
  simp [dsm, pcb, zs, dtp, lapP, px, lo, rs] <;> grind
theorem dr_9_10_2 (A : Nat → Nat → Nat) : 3 * dtp A 2 9 10 3 = dsm A 1 9 10 4 2 := by
  simp [dsm, pcb, zs, dtp, lapP, px, lo, rs] <;> grind
theorem dr_9_10_3 (A : Nat → Nat → Nat) : 4 * dtp A 2 9 10 4 = dsm A 1 9 10 4 3 := by
  simp [dsm, pcb, zs, dtp, lapP, px, lo, rs] <;> grind
theorem dr_9_12_0 (A : Nat → Nat → Nat) : 1 * dtp A 2 9 12 1 = dsm A 1 9 12 4 0 := by
  simp [dsm, pcb, zs, dtp, lapP, px, lo, rs] <;> grind
theorem dr_9_12_1 (A : Nat → Nat → Nat) : 2 * dtp A 2 9 12 2 = dsm A 1 9 12 4 1 := by
  simp [dsm, pcb, zs, dtp, lapP, px, lo, rs] <;> grind
theorem dr_9_12_2 (A : Nat → Nat → Nat) : 3 * dtp A 2 9 12 3 = dsm A 1 9 12 4 2 := by
  simp [dsm, pcb, zs, dtp, lapP, px, lo, rs] <;> grind
theorem dr_9_12_3 (A : Nat → Nat → Nat) : 4 * dtp A 2 9 12 4 = dsm A 1 9 12 4 3 := by
  simp [dsm, pcb, zs, dtp, lapP, px, lo, rs] <;> grind
theorem dr_10_3_0 (A : Nat → Nat → Nat) : 1 * dtp A 2 10 3 1 = dsm A 1 10 3 4 0 := by
  simp [dsm, pcb, zs, dtp, lapP, px, lo, rs] <;> grind
theorem dr_10_3_1 (A : Nat → Nat → Nat) : 2 * dtp A 2 10 3 2 = dsm A 1 10 3 4 1 := by
  simp [dsm, pcb, zs, dtp, lapP, px, lo, rs] <;> grind
theorem dr_10_3_2 (A : Nat → Nat → Nat) : 3 * dtp A 2 10 3 3 = dsm A 1 10 3 4 2 := by
  simp [dsm, pcb, zs, dtp, lapP, px, lo, rs] <;> grind
theorem dr_10_3_3 (A : Nat → Nat → Nat) : 4 * dtp A 2 10 3 4 = dsm A 1 10 3 4 3 := by
  simp [dsm, pcb, zs, dtp, lapP, px, lo, rs] <;> grind
theorem dr_10_5_0 (A : Nat → Nat → Nat) : 1 * dtp A 2 10 5 1 = dsm A 1 10 5 4 0 := by
  simp [dsm, pcb, zs, dtp, lapP, px, lo, rs] <;> grind
theorem dr_10_5_1 (A : Nat → Nat → Nat) : 2 * dtp A 2 10 5 2 = dsm A 1 10 5 4 1 := by
  simp [dsm, pcb, zs, dtp, lapP, px, lo, rs] <;> grind
theorem dr_10_5_2 (A : Nat → Nat → Nat) : 3 * dtp A 2 10 5 3 = dsm A 1 10 5 4 2 := by
  simp [dsm, pcb, zs, dtp, lapP, px, lo, rs] <;> grind
theorem dr_10_5_3 (A : Nat → Nat → Nat) : 4 * dtp A 2 10 5 4 = dsm A 1 10 5 4 3 := by
  simp [dsm, pcb, zs, dtp, lapP, px, lo, rs] <;> grind
theorem dr_10_6_0 (A : Nat → Nat → Nat) : 1 * dtp A 2 10 6 1 = dsm A 1 10 6 4 0 := by
  simp [dsm, pcb, zs, dtp, lapP, px, lo, rs] <;> grind
theorem dr_10_6_1 (A : Nat → Nat → Nat) : 2 * dtp A 2 10 6 2 = dsm A 1 10 6 4 1 := by
  simp [dsm, pcb, zs, dtp, lapP, px, lo, rs] <;> grind
theorem dr_10_6_2 (A : Nat → Nat → Nat) : 3 * dtp A 2 10 6 3 = dsm A 1 10 6 4 2 := by
  simp [dsm, pcb, zs, dtp, lapP, px, lo, rs] <;> grind
theorem dr_10_6_3 (A : Nat → Nat → Nat) : 4 * dtp A 2 10 6 4 = dsm A 1 10 6 4 3 := by
  simp [dsm, pcb, zs, dtp, lapP, px, lo, rs] <;> grind
theorem dr_10_9_0 (A : Nat → Nat → Nat) : 1 * dtp A 2 10 9 1 = dsm A 1 10 9 4 0 := by
  simp [dsm, pcb, zs, dtp, lapP, px, lo, rs] <;> grind
theorem dr_10_9_1 (A : Nat → Nat → Nat) : 2 * dtp A 2 10 9 2 = dsm A 1 10 9 4 1 := by
  simp [dsm, pcb, zs, dtp, lapP, px, lo, rs] <;> grind
theorem dr_10_9_2 (A : Nat → Nat → Nat) : 3 * dtp A 2 10 9 3 = dsm A 1 10 9 4 2 := by
  simp [dsm, pcb, zs, dtp, lapP, px, lo, rs] <;> grind
theorem dr_10_9_3 (A : Nat → Nat → Nat) : 4 * dtp A 2 10 9 4 = dsm A 1 10 9 4 3 := by
  simp [dsm, pcb, zs, dtp, lapP, px, lo, rs] <;> grind
theorem dr_10_10_0 (A : Nat → Nat → Nat) : 1 * dtp A 2 10 10 1 = dsm A 1 10 10 4 0 := by
  simp [dsm, pcb, zs, dtp, lapP, px, lo, rs] <;> grind
theorem dr_10_10_1 (A : Nat → Nat → Nat) : 2 * dtp A 2 10 10 2 = dsm A 1 10 10 4 1 := by
  simp [dsm, pcb, zs, dtp, lapP, px, lo, rs] <;> grind
theorem dr_10_10_2 (A : Nat → Nat → Nat) : 3 * dtp A 2 10 10 3 = dsm A 1 10 10 4 2 := by
  simp [dsm, pcb, zs, dtp, lapP, px, lo, rs] <;> grind
theorem dr_10_10_3 (A : Nat → Nat → Nat) : 4 * dtp A 2 10 10 4 = dsm A 1 10 10 4 3 := by
  simp [dsm, pcb, zs, dtp, lapP, px, lo, rs] <;> grind
theorem dr_10_12_0 (A : Nat → Nat → Nat) : 1 * dtp A 2 10 12 1 = dsm A 1 10 12 4 0 := by
  simp [dsm, pcb, zs, dtp, lapP, px, lo, rs] <;> grind
theorem dr_10_12_1 (A : Nat → Nat → Nat) : 2 * dtp A 2 10 12 2 = dsm A 1 10 12 4 1 := by
  simp [dsm, pcb, zs, dtp, lapP, px, lo, rs] <;> grind
theorem dr_10_12_2 (A : Nat → Nat → Nat) : 3 * dtp A 2 10 12 3 = dsm A 1 10 12 4 2 := by
  simp [dsm, pcb, zs, dtp, lapP, px, lo, rs] <;> grind
theorem dr_10_12_3 (A : Nat → Nat → Nat) : 4 * dtp A 2 10 12 4 = dsm A 1 10 12 4 3 := by
  simp [dsm, pcb, zs, dtp, lapP, px, lo, rs] <;> grind
theorem dr_11_7_0 (A : Nat → Nat → Nat) : 1 * dtp A 3 11 7 1 = dsm A 2 11 7 4 0 := by
  simp [dsm, pcb, zs, dtp, lapP, px, lo, rs] <;> grind
theorem dr_11_7_1 (A : Nat → Nat → Nat) : 2 * dtp A 3 11 7 2 = dsm A 2 11 7 4 1 := by
  simp [dsm, pcb, zs, dtp, lapP, px, lo, rs] <;> grind
theorem dr_11_7_2 (A : Nat → Nat → Nat) : 3 * dtp A 3 11 7 3 = dsm A 2 11 7 4 2 := by
  simp [dsm, pcb, zs, dtp, lapP, px, lo, rs] <;> grind
theorem dr_11_7_3 (A : Nat → Nat → Nat) : 4 * dtp A 3 11 7 4 = dsm A 2 11 7 4 3 := by
  simp [dsm, pcb, zs, dtp, lapP, px, lo, rs] <;> grind
theorem dr_11_11_0 (A : Nat → Nat → Nat) : 1 * dtp A 3 11 11 1 = dsm A 2 11 11 4 0 := by
  simp [dsm, pcb, zs, dtp, lapP, px, lo, rs] <;> grind
theorem dr_11_11_1 (A : Nat → Nat → Nat) : 2 * dtp A 3 11 11 2 = dsm A 2 11 11 4 1 := by
  simp [dsm, pcb, zs, dtp, lapP, px, lo, rs] <;> grind
theorem dr_11_11_2 (A : Nat → Nat → Nat) : 3 * dtp A 3 11 11 3 = dsm A 2 11 11 4 2 := by
  simp [dsm, pcb, zs, dtp, lapP, px, lo, rs] <;> grind
theorem dr_11_11_3 (A : Nat → Nat → Nat) : 4 * dtp A 3 11 11 4 = dsm A 2 11 11 4 3 := by
  simp [dsm, pcb, zs, dtp, lapP, px, lo, rs] <;> grind
theorem dr_11_13_0 (A : Nat → Nat → Nat) : 1 * dtp A 3 11 13 1 = dsm A 2 11 13 4 0 := by
  simp [dsm, pcb, zs, dtp, lapP, px, lo, rs] <;> grind
theorem dr_11_13_1 (A : Nat → Nat → Nat) : 2 * dtp A 3 11 13 2 = dsm A 2 11 13 4 1 := by
  simp [dsm, pcb, zs, dtp, lapP, px, lo, rs] <;> grind
theorem dr_11_13_2 (A : Nat → Nat → Nat) : 3 * dtp A 3 11 13 3 = dsm A 2 11 13 4 2 := by
  simp [dsm, pcb, zs, dtp, lapP, px, lo, rs] <;> grind
theorem dr_11_13_3 (A : Nat → Nat → Nat) : 4 * dtp A 3 11 13 4 = dsm A 2 11 13 4 3 := by
  simp [dsm, pcb, zs, dtp, lapP, px, lo, rs] <;> grind
theorem dr_11_14_0 (A : Nat → Nat → Nat) : 1 * dtp A 3 11 14 1 = dsm A 2 11 14 4 0 := by
  simp [dsm, pcb, zs, dtp, lapP, px, lo, rs] <;> grind
theorem dr_11_14_1 (A : Nat → Nat → Nat) : 2 * dtp A 3 11 14 2 = dsm A 2 11 14 4 1 := by
  simp [dsm, pcb, zs, dtp, lapP, px, lo, rs] <;> grind
theorem dr_11_14_2 (A : Nat → Nat → Nat) : 3 * dtp A 3 11 14 3 = dsm A 2 11 14 4 2 := by
  simp [dsm, pcb, zs, dtp, lapP, px, lo, rs] <;> grind
theorem dr_11_14_3 (A : Nat → Nat → Nat) : 4 * dtp A 3 11 14 4 = dsm A 2 11 14 4 3 := by
  simp [dsm, pcb, zs, dtp, lapP, px, lo, rs] <;> grind
theorem dr_12_3_0 (A : Nat → Nat → Nat) : 1 * dtp A 2 12 3 1 = dsm A 1 12 3 4 0 := by
  simp [dsm, pcb, zs, dtp, lapP, px, lo, rs] <;> grind
theorem dr_12_3_1 (A : Nat → Nat → Nat) : 2 * dtp A 2 12 3 2 = dsm A 1 12 3 4 1 := by
  simp [dsm, pcb, zs, dtp, lapP, px, lo, rs] <;> grind
theorem dr_12_3_2 (A : Nat → Nat → Nat) : 3 * dtp A 2 12 3 3 = dsm A 1 12 3 4 2 := by
  simp [dsm, pcb, zs, dtp, lapP, px, lo, rs] <;> grind
theorem dr_12_3_3 (A : Nat → Nat → Nat) : 4 * dtp A 2 12 3 4 = dsm A 1 12 3 4 3 := by
  simp [dsm, pcb, zs, dtp, lapP, px, lo, rs] <;> grind
theorem dr_12_5_0 (A : Nat → Nat → Nat) : 1 * dtp A 2 12 5 1 = dsm A 1 12 5 4 0 := by
  simp [dsm, pcb, zs, dtp, lapP, px, lo, rs] <;> grind
theorem dr_12_5_1 (A : Nat → Nat → Nat) : 2 * dtp A 2 12 5 2 = dsm A 1 12 5 4 1 := by
  simp [dsm, pcb, zs, dtp, lapP, px, lo, rs] <;> grind
theorem dr_12_5_2 (A : Nat → Nat → Nat) : 3 * dtp A 2 12 5 3 = dsm A 1 12 5 4 2 := by
  simp [dsm, pcb, zs, dtp, lapP, px, lo, rs] <;> grind
theorem dr_12_5_3 (A : Nat → Nat → Nat) : 4 * dtp A 2 12 5 4 = dsm A 1 12 5 4 3 := by
  simp [dsm, pcb, zs, dtp, lapP, px, lo, rs] <;> grind
theorem dr_12_6_0 (A : Nat → Nat → Nat) : 1 * dtp A 2 12 6 1 = dsm A 1 12 6 4 0 := by
  simp [dsm, pcb, zs, dtp, lapP, px, lo, rs] <;> grind
theorem dr_12_6_1 (A : Nat → Nat → Nat) : 2 * dtp A 2 12 6 2 = dsm A 1 12 6 4 1 := by
  simp [dsm, pcb, zs, dtp, lapP, px, lo, rs] <;> grind
theorem dr_12_6_2 (A : Nat → Nat → Nat) : 3 * dtp A 2 12 6 3 = dsm A 1 12 6 4 2 := by
  simp [dsm, pcb, zs, dtp, lapP, px, lo, rs] <;> grind
theorem dr_12_6_3 (A : Nat → Nat → Nat) : 4 * dtp A 2 12 6 4 = dsm A 1 12 6 4 3 := by
  simp [dsm, pcb, zs, dtp, lapP, px, lo, rs] <;> grind
theorem dr_12_9_0 (A : Nat → Nat → Nat) : 1 * dtp A 2 12 9 1 = dsm A 1 12 9 4 0 := by
  simp [dsm, pcb, zs, dtp, lapP, px, lo, rs] <;> grind
theorem dr_12_9_1 (A : Nat → Nat → Nat) : 2 * dtp A 2 12 9 2 = dsm A 1 12 9 4 1 := by
  simp [dsm, pcb, zs, dtp, lapP, px, lo, rs] <;> grind
theorem dr_12_9_2 (A : Nat → Nat → Nat) : 3 * dtp A 2 12 9 3 = dsm A 1 12 9 4 2 := by
  simp [dsm, pcb, zs, dtp, lapP, px, lo, rs] <;> grind
theorem dr_12_9_3 (A : Nat → Nat → Nat) : 4 * dtp A 2 12 9 4 = dsm A 1 12 9 4 3 := by
  simp [dsm, pcb, zs, dtp, lapP, px, lo, rs] <;> grind
theorem dr_12_10_0 (A : Nat → Nat → Nat) : 1 * dtp A 2 12 10 1 = dsm A 1 12 10 4 0 := by
  simp [dsm, pcb, zs, dtp, lapP, px, lo, rs] <;> grind
theorem dr_12_10_1 (A : Nat → Nat → Nat) : 2 * dtp A 2 12 10 2 = dsm A 1 12 10 4 1 := by
  simp [dsm, pcb, zs, dtp, lapP, px, lo, rs] <;> grind
theorem dr_12_10_2 (A : Nat → Nat → Nat) : 3 * dtp A 2 12 10 3 = dsm A 1 12 10 4 2 := by
  simp [dsm, pcb, zs, dtp, lapP, px, lo, rs] <;> grind
theorem dr_12_10_3 (A : Nat → Nat → Nat) : 4 * dtp A 2 12 10 4 = dsm A 1 12 10 4 3 := by
  simp [dsm, pcb, zs, dtp, lapP, px, lo, rs] <;> grind
theorem dr_12_12_0 (A : Nat → Nat → Nat) : 1 * dtp A 2 12 12 1 = dsm A 1 12 12 4 0 := by
  simp [dsm, pcb, zs, dtp, lapP, px, lo, rs] <;> grind
theorem dr_12_12_1 (A : Nat → Nat → Nat) : 2 * dtp A 2 12 12 2 = dsm A 1 12 12 4 1 := by
  simp [dsm, pcb, zs, dtp, lapP, px, lo, rs] <;> grind
theorem dr_12_12_2 (A : Nat → Nat → Nat) : 3 * dtp A 2 12 12 3 = dsm A 1 12 12 4 2 := by
  simp [dsm, pcb, zs, dtp, lapP, px, lo, rs] <;> grind
theorem dr_12_12_3 (A : Nat → Nat → Nat) : 4 * dtp A 2 12 12 4 = dsm A 1 12 12 4 3 := by
  simp [dsm, pcb, zs, dtp, lapP, px, lo, rs] <;> grind
theorem dr_13_7_0 (A : Nat → Nat → Nat) : 1 * dtp A 3 13 7 1 = dsm A 2 13 7 4 0 := by
  simp [dsm, pcb, zs, dtp, lapP, px, lo, rs] <;> grind
theorem dr_13_7_1 (A : Nat → Nat → Nat) : 2 * dtp A 3 13 7 2 = dsm A 2 13 7 4 1 := by
  simp [dsm, pcb, zs, dtp, lapP, px, lo, rs] <;> grind
theorem dr_13_7_2 (A : Nat → Nat → Nat) : 3 * dtp A 3 13 7 3 = dsm A 2 13 7 4 2 := by
  simp [dsm, pcb, zs, dtp, lapP, px, lo, rs] <;> grind
theorem dr_13_7_3 (A : Nat → Nat → Nat) : 4 * dtp A 3 13 7 4 = dsm A 2 13 7 4 3 := by
  simp [dsm, pcb, zs, dtp, lapP, px, lo, rs] <;> grind
theorem dr_13_11_0 (A : Nat → Nat → Nat) : 1 * dtp A 3 13 11 1 = dsm A 2 13 11 4 0 := by
  simp [dsm, pcb, zs, dtp, lapP, px, lo, rs] <;> grind
theorem dr_13_11_1 (A : Nat → Nat → Nat) : 2 * dtp A 3 13 11 2 = dsm A 2 13 11 4 1 := by
  simp [dsm, pcb, zs, dtp, lapP, px, lo, rs] <;> grind
theorem dr_13_11_2 (A : Nat → Nat → Nat) : 3 * dtp A 3 13 11 3 = dsm A 2 13 11 4 2 := by
  simp [dsm, pcb, zs, dtp, lapP, px, lo, rs] <;> grind
theorem dr_13_11_3 (A : Nat → Nat → Nat) : 4 * dtp A 3 13 11 4 = dsm A 2 13 11 4 3 := by
  simp [dsm, pcb, zs, dtp, lapP, px, lo, rs] <;> grind
theorem dr_13_13_0 (A : Nat → Nat → Nat) : 1 * dtp A 3 13 13 1 = dsm A 2 13 13 4 0 := by
  simp [dsm, pcb, zs, dtp, lapP, px, lo, rs] <;> grind
theorem dr_13_13_1 (A : Nat → Nat → Nat) : 2 * dtp A 3 13 13 2 = dsm A 2 13 13 4 1 := by
  simp [dsm, pcb, zs, dtp, lapP, px, lo, rs] <;> grind
theorem dr_13_13_2 (A : Nat → Nat → Nat) : 3 * dtp A 3 13 13 3 = dsm A 2 13 13 4 2 := by
  simp [dsm, pcb, zs, dtp, lapP, px, lo, rs] <;> grind
theorem dr_13_13_3 (A : Nat → Nat → Nat) : 4 * dtp A 3 13 13 4 = dsm A 2 13 13 4 3 := by
  simp [dsm, pcb, zs, dtp, lapP, px, lo, rs] <;> grind
theorem dr_13_14_0 (A : Nat → Nat → Nat) : 1 * dtp A 3 13 14 1 = dsm A 2 13 14 4 0 := by
  simp [dsm, pcb, zs, dtp, lapP, px, lo, rs] <;> grind
theorem dr_13_14_1 (A : Nat → Nat → Nat) : 2 * dtp A 3 13 14 2 = dsm A 2 13 14 4 1 := by
  simp [dsm, pcb, zs, dtp, lapP, px, lo, rs] <;> grind
theorem dr_13_14_2 (A : Nat → Nat → Nat) : 3 * dtp A 3 13 14 3 = dsm A 2 13 14 4 2 := by
  simp [dsm, pcb, zs, dtp, lapP, px, lo, rs] <;> grind
theorem dr_13_14_3 (A : Nat → Nat → Nat) : 4 * dtp A 3 13 14 4 = dsm A 2 13 14 4 3 := by
  simp [dsm, pcb, zs, dtp, lapP, px, lo, rs] <;> grind
theorem dr_14_7_0 (A : Nat → Nat → Nat) : 1 * dtp A 3 14 7 1 = dsm A 2 14 7 4 0 := by
  simp [dsm, pcb, zs, dtp, lapP, px, lo, rs] <;> grind
theorem dr_14_7_1 (A : Nat → Nat → Nat) : 2 * dtp A 3 14 7 2 = dsm A 2 14 7 4 1 := by
  simp [dsm, pcb, zs, dtp, lapP, px, lo, rs] <;> grind
theorem dr_14_7_2 (A : Nat → Nat → Nat) : 3 * dtp A 3 14 7 3 = dsm A 2 14 7 4 2 := by
  simp [dsm, pcb, zs, dtp, lapP, px, lo, rs] <;> grind
theorem dr_14_7_3 (A : Nat → Nat → Nat) : 4 * dtp A 3 14 7 4 = dsm A 2 14 7 4 3 := by
  simp [dsm, pcb, zs, dtp, lapP, px, lo, rs] <;> grind
theorem dr_14_11_0 (A : Nat → Nat → Nat) : 1 * dtp A 3 14 11 1 = dsm A 2 14 11 4 0 := by
  simp [dsm, pcb, zs, dtp, lapP, px, lo, rs] <;> grind
theorem dr_14_11_1 (A : Nat → Nat → Nat) : 2 * dtp A 3 14 11 2 = dsm A 2 14 11 4 1 := by
  simp [dsm, pcb, zs, dtp, lapP, px, lo, rs] <;> grind
theorem dr_14_11_2 (A : Nat → Nat → Nat) : 3 * dtp A 3 14 11 3 = dsm A 2 14 11 4 2 := by
  simp [dsm, pcb, zs, dtp, lapP, px, lo, rs] <;> grind
theorem dr_14_11_3 (A : Nat → Nat → Nat) : 4 * dtp A 3 14 11 4 = dsm A 2 14 11 4 3 := by
  simp [dsm, pcb, zs, dtp, lapP, px, lo, rs] <;> grind
theorem dr_14_13_0 (A : Nat → Nat → Nat) : 1 * dtp A 3 14 13 1 = dsm A 2 14 13 4 0 := by
  simp [dsm, pcb, zs, dtp, lapP, px, lo, rs] <;> grind
theorem dr_14_13_1 (A : Nat → Nat → Nat) : 2 * dtp A 3 14 13 2 = dsm A 2 14 13 4 1 := by
  simp [dsm, pcb, zs, dtp, lapP, px, lo, rs] <;> grind
theorem dr_14_13_2 (A : Nat → Nat → Nat) : 3 * dtp A 3 14 13 3 = dsm A 2 14 13 4 2 := by
  simp [dsm, pcb, zs, dtp, lapP, px, lo, rs] <;> grind
theorem dr_14_13_3 (A : Nat → Nat → Nat) : 4 * dtp A 3 14 13 4 = dsm A 2 14 13 4 3 := by
  simp [dsm, pcb, zs, dtp, lapP, px, lo, rs] <;> grind
theorem dr_14_14_0 (A : Nat → Nat → Nat) : 1 * dtp A 3 14 14 1 = dsm A 2 14 14 4 0 := by
  simp [dsm, pcb, zs, dtp, lapP, px, lo, rs] <;> grind
theorem dr_14_14_1 (A : Nat → Nat → Nat) : 2 * dtp A 3 14 14 2 = dsm A 2 14 14 4 1 := by
  simp [dsm, pcb, zs, dtp, lapP, px, lo, rs] <;> grind
theorem dr_14_14_2 (A : Nat → Nat → Nat) : 3 * dtp A 3 14 14 3 = dsm A 2 14 14 4 2 := by
  simp [dsm, pcb, zs, dtp, lapP, px, lo, rs] <;> grind
theorem dr_14_14_3 (A : Nat → Nat → Nat) : 4 * dtp A 3 14 14 4 = dsm A 2 14 14 4 3 := by
  simp [dsm, pcb, zs, dtp, lapP, px, lo, rs] <;> grind
theorem dr_15_15_0 (A : Nat → Nat → Nat) : 1 * dtp A 4 15 15 1 = dsm A 3 15 15 4 0 := by
  simp [dsm, pcb, zs, dtp, lapP, px, lo, rs] <;> grind
theorem dr_15_15_1 (A : Nat → Nat → Nat) : 2 * dtp A 4 15 15 2 = dsm A 3 15 15 4 1 := by
  simp [dsm, pcb, zs, dtp, lapP, px, lo, rs] <;> grind
theorem dr_15_15_2 (A : Nat → Nat → Nat) : 3 * dtp A 4 15 15 3 = dsm A 3 15 15 4 2 := by
  simp [dsm, pcb, zs, dtp, lapP, px, lo, rs] <;> grind
theorem dr_15_15_3 (A : Nat → Nat → Nat) : 4 * dtp A 4 15 15 4 = dsm A 3 15 15 4 3 := by
  simp [dsm, pcb, zs, dtp, lapP, px, lo, rs] <;> grind
theorem k4 {P : Nat → Prop} (h0 : P 0) (h1 : P 1) (h2 : P 2) (h3 : P 3) : ∀ k, k < 4 → P k := by
  intro k hk
  match k, hk with
  | 0, _ => exact h0
  | 1, _ => exact h1
  | 2, _ => exact h2
  | 3, _ => exact h3
theorem drr_1 (A : Nat → Nat → Nat) : ∀ C, C < 16 → pc 1 = pc C → ∀ k, k < 4 → kk (k + 1) * dtp A (pc 1 - 1 + 1) 1 C (k + 1) = dsm A (pc 1 - 1) 1 C 4 k := by
  intro C hC h
  match C, hC, h with
  | 0, _, h => exact absurd h (by decide)
  | 1, _, _ => exact k4 (P := fun k => kk (k + 1) * dtp A 1 1 1 (k + 1) = dsm A 0 1 1 4 k) (dr_1_1_0 A) (dr_1_1_1 A) (dr_1_1_2 A) (dr_1_1_3 A)
  | 2, _, _ => exact k4 (P := fun k => kk (k + 1) * dtp A 1 1 2 (k + 1) = dsm A 0 1 2 4 k) (dr_1_2_0 A) (dr_1_2_1 A) (dr_1_2_2 A) (dr_1_2_3 A)
  | 3, _, h => exact absurd h (by decide)
  | 4, _, _ => exact k4 (P := fun k => kk (k + 1) * dtp A 1 1 4 (k + 1) = dsm A 0 1 4 4 k) (dr_1_4_0 A) (dr_1_4_1 A) (dr_1_4_2 A) (dr_1_4_3 A)
  | 5, _, h => exact absurd h (by decide)
  | 6, _, h => exact absurd h (by decide)
  | 7, _, h => exact absurd h (by decide)
  | 8, _, _ => exact k4 (P := fun k => kk (k + 1) * dtp A 1 1 8 (k + 1) = dsm A 0 1 8 4 k) (dr_1_8_0 A) (dr_1_8_1 A) (dr_1_8_2 A) (dr_1_8_3 A)
  | 9, _, h => exact absurd h (by decide)
  | 10, _, h => exact absurd h (by decide)
  | 11, _, h => exact absurd h (by decide)
  | 12, _, h => exact absurd h (by decide)
  | 13, _, h => exact absurd h (by decide)
  | 14, _, h => exact absurd h (by decide)
  | 15, _, h => exact absurd h (by decide)
  | (n + 16), hC, _ => exact absurd hC (by omega)
theorem drr_2 (A : Nat → Nat → Nat) : ∀ C, C < 16 → pc 2 = pc C → ∀ k, k < 4 → kk (k + 1) * dtp A (pc 2 - 1 + 1) 2 C (k + 1) = dsm A (pc 2 - 1) 2 C 4 k := by
  intro C hC h
  match C, hC, h with
  | 0, _, h => exact absurd h (by decide)
  | 1, _, _ => exact k4 (P := fun k => kk (k + 1) * dtp A 1 2 1 (k + 1) = dsm A 0 2 1 4 k) (dr_2_1_0 A) (dr_2_1_1 A) (dr_2_1_2 A) (dr_2_1_3 A)
  | 2, _, _ => exact k4 (P := fun k => kk (k + 1) * dtp A 1 2 2 (k + 1) = dsm A 0 2 2 4 k) (dr_2_2_0 A) (dr_2_2_1 A) (dr_2_2_2 A) (dr_2_2_3 A)
  | 3, _, h => exact absurd h (by decide)
  | 4, _, _ => exact k4 (P := fun k => kk (k + 1) * dtp A 1 2 4 (k + 1) = dsm A 0 2 4 4 k) (dr_2_4_0 A) (dr_2_4_1 A) (dr_2_4_2 A) (dr_2_4_3 A)
  | 5, _, h => exact absurd h (by decide)
  | 6, _, h => exact absurd h (by decide)
  | 7, _, h => exact absurd h (by decide)
  | 8, _, _ => exact k4 (P := fun k => kk (k + 1) * dtp A 1 2 8 (k + 1) = dsm A 0 2 8 4 k) (dr_2_8_0 A) (dr_2_8_1 A) (dr_2_8_2 A) (dr_2_8_3 A)
  | 9, _, h => exact absurd h (by decide)
  | 10, _, h => exact absurd h (by decide)
  | 11, _, h => exact absurd h (by decide)
  | 12, _, h => exact absurd h (by decide)
  | 13, _, h => exact absurd h (by decide)
  | 14, _, h => exact absurd h (by decide)
  | 15, _, h => exact absurd h (by decide)
  | (n + 16), hC, _ => exact absurd hC (by omega)
theorem drr_3 (A : Nat → Nat → Nat) : ∀ C, C < 16 → pc 3 = pc C → ∀ k, k < 4 → kk (k + 1) * dtp A (pc 3 - 1 + 1) 3 C (k + 1) = dsm A (pc 3 - 1) 3 C 4 k := by
  intro C hC h
  match C, hC, h with
  | 0, _, h => exact absurd h (by decide)
  | 1, _, h => exact absurd h (by decide)
  | 2, _, h => exact absurd h (by decide)
  | 3, _, _ => exact k4 (P := fun k => kk (k + 1) * dtp A 2 3 3 (k + 1) = dsm A 1 3 3 4 k) (dr_3_3_0 A) (dr_3_3_1 A) (dr_3_3_2 A) (dr_3_3_3 A)
  | 4, _, h => exact absurd h (by decide)
  | 5, _, _ => exact k4 (P := fun k => kk (k + 1) * dtp A 2 3 5 (k + 1) = dsm A 1 3 5 4 k) (dr_3_5_0 A) (dr_3_5_1 A) (dr_3_5_2 A) (dr_3_5_3 A)
  | 6, _, _ => exact k4 (P := fun k => kk (k + 1) * dtp A 2 3 6 (k + 1) = dsm A 1 3 6 4 k) (dr_3_6_0 A) (dr_3_6_1 A) (dr_3_6_2 A) (dr_3_6_3 A)
  | 7, _, h => exact absurd h (by decide)
  | 8, _, h => exact absurd h (by decide)
  | 9, _, _ => exact k4 (P := fun k => kk (k + 1) * dtp A 2 3 9 (k + 1) = dsm A 1 3 9 4 k) (dr_3_9_0 A) (dr_3_9_1 A) (dr_3_9_2 A) (dr_3_9_3 A)
  | 10, _, _ => exact k4 (P := fun k => kk (k + 1) * dtp A 2 3 10 (k + 1) = dsm A 1 3 10 4 k) (dr_3_10_0 A) (dr_3_10_1 A) (dr_3_10_2 A) (dr_3_10_3 A)
  | 11, _, h => exact absurd h (by decide)
  | 12, _, _ => exact k4 (P := fun k => kk (k + 1) * dtp A 2 3 12 (k + 1) = dsm A 1 3 12 4 k) (dr_3_12_0 A) (dr_3_12_1 A) (dr_3_12_2 A) (dr_3_12_3 A)
  | 13, _, h => exact absurd h (by decide)
  | 14, _, h => exact absurd h (by decide)
  | 15, _, h => exact absurd h (by decide)
  | (n + 16), hC, _ => exact absurd hC (by omega)
theorem drr_4 (A : Nat → Nat → Nat) : ∀ C, C < 16 → pc 4 = pc C → ∀ k, k < 4 → kk (k + 1) * dtp A (pc 4 - 1 + 1) 4 C (k + 1) = dsm A (pc 4 - 1) 4 C 4 k := by
  intro C hC h
  match C, hC, h with
  | 0, _, h => exact absurd h (by decide)
  | 1, _, _ => exact k4 (P := fun k => kk (k + 1) * dtp A 1 4 1 (k + 1) = dsm A 0 4 1 4 k) (dr_4_1_0 A) (dr_4_1_1 A) (dr_4_1_2 A) (dr_4_1_3 A)
  | 2, _, _ => exact k4 (P := fun k => kk (k + 1) * dtp A 1 4 2 (k + 1) = dsm A 0 4 2 4 k) (dr_4_2_0 A) (dr_4_2_1 A) (dr_4_2_2 A) (dr_4_2_3 A)
  | 3, _, h => exact absurd h (by decide)
  | 4, _, _ => exact k4 (P := fun k => kk (k + 1) * dtp A 1 4 4 (k + 1) = dsm A 0 4 4 4 k) (dr_4_4_0 A) (dr_4_4_1 A) (dr_4_4_2 A) (dr_4_4_3 A)
  | 5, _, h => exact absurd h (by decide)
  | 6, _, h => exact absurd h (by decide)
  | 7, _, h => exact absurd h (by decide)
  | 8, _, _ => exact k4 (P := fun k => kk (k + 1) * dtp A 1 4 8 (k + 1) = dsm A 0 4 8 4 k) (dr_4_8_0 A) (dr_4_8_1 A) (dr_4_8_2 A) (dr_4_8_3 A)
  | 9, _, h => exact absurd h (by decide)
  | 10, _, h => exact absurd h (by decide)
  | 11, _, h => exact absurd h (by decide)
  | 12, _, h => exact absurd h (by decide)
  | 13, _, h => exact absurd h (by decide)
  | 14, _, h => exact absurd h (by decide)
  | 15, _, h => exact absurd h (by decide)
  | (n + 16), hC, _ => exact absurd hC (by omega)
theorem drr_5 (A : Nat → Nat → Nat) : ∀ C, C < 16 → pc 5 = pc C → ∀ k, k < 4 → kk (k + 1) * dtp A (pc 5 - 1 + 1) 5 C (k + 1) = dsm A (pc 5 - 1) 5 C 4 k := by
  intro C hC h
  match C, hC, h with
  | 0, _, h => exact absurd h (by decide)
  | 1, _, h => exact absurd h (by decide)
  | 2, _, h => exact absurd h (by decide)
  | 3, _, _ => exact k4 (P := fun k => kk (k + 1) * dtp A 2 5 3 (k + 1) = dsm A 1 5 3 4 k) (dr_5_3_0 A) (dr_5_3_1 A) (dr_5_3_2 A) (dr_5_3_3 A)
  | 4, _, h => exact absurd h (by decide)
  | 5, _, _ => exact k4 (P := fun k => kk (k + 1) * dtp A 2 5 5 (k + 1) = dsm A 1 5 5 4 k) (dr_5_5_0 A) (dr_5_5_1 A) (dr_5_5_2 A) (dr_5_5_3 A)
  | 6, _, _ => exact k4 (P := fun k => kk (k + 1) * dtp A 2 5 6 (k + 1) = dsm A 1 5 6 4 k) (dr_5_6_0 A) (dr_5_6_1 A) (dr_5_6_2 A) (dr_5_6_3 A)
  | 7, _, h => exact absurd h (by decide)
  | 8, _, h => exact absurd h (by decide)
  | 9, _, _ => exact k4 (P := fun k => kk (k + 1) * dtp A 2 5 9 (k + 1) = dsm A 1 5 9 4 k) (dr_5_9_0 A) (dr_5_9_1 A) (dr_5_9_2 A) (dr_5_9_3 A)
  | 10, _, _ => exact k4 (P := fun k => kk (k + 1) * dtp A 2 5 10 (k + 1) = dsm A 1 5 10 4 k) (dr_5_10_0 A) (dr_5_10_1 A) (dr_5_10_2 A) (dr_5_10_3 A)
  | 11, _, h => exact absurd h (by decide)
  | 12, _, _ => exact k4 (P := fun k => kk (k + 1) * dtp A 2 5 12 (k + 1) = dsm A 1 5 12 4 k) (dr_5_12_0 A) (dr_5_12_1 A) (dr_5_12_2 A) (dr_5_12_3 A)
  | 13, _, h => exact absurd h (by decide)
  | 14, _, h => exact absurd h (by decide)
  | 15, _, h => exact absurd h (by decide)
  | (n + 16), hC, _ => exact absurd hC (by omega)
theorem drr_6 (A : Nat → Nat → Nat) : ∀ C, C < 16 → pc 6 = pc C → ∀ k, k < 4 → kk (k + 1) * dtp A (pc 6 - 1 + 1) 6 C (k + 1) = dsm A (pc 6 - 1) 6 C 4 k := by
  intro C hC h
  match C, hC, h with
  | 0, _, h => exact absurd h (by decide)
  | 1, _, h => exact absurd h (by decide)
  | 2, _, h => exact absurd h (by decide)
  | 3, _, _ => exact k4 (P := fun k => kk (k + 1) * dtp A 2 6 3 (k + 1) = dsm A 1 6 3 4 k) (dr_6_3_0 A) (dr_6_3_1 A) (dr_6_3_2 A) (dr_6_3_3 A)
  | 4, _, h => exact absurd h (by decide)
  | 5, _, _ => exact k4 (P := fun k => kk (k + 1) * dtp A 2 6 5 (k + 1) = dsm A 1 6 5 4 k) (dr_6_5_0 A) (dr_6_5_1 A) (dr_6_5_2 A) (dr_6_5_3 A)
  | 6, _, _ => exact k4 (P := fun k => kk (k + 1) * dtp A 2 6 6 (k + 1) = dsm A 1 6 6 4 k) (dr_6_6_0 A) (dr_6_6_1 A) (dr_6_6_2 A) (dr_6_6_3 A)
  | 7, _, h => exact absurd h (by decide)
  | 8, _, h => exact absurd h (by decide)
  | 9, _, _ => exact k4 (P := fun k => kk (k + 1) * dtp A 2 6 9 (k + 1) = dsm A 1 6 9 4 k) (dr_6_9_0 A) (dr_6_9_1 A) (dr_6_9_2 A) (dr_6_9_3 A)
  | 10, _, _ => exact k4 (P := fun k => kk (k + 1) * dtp A 2 6 10 (k + 1) = dsm A 1 6 10 4 k) (dr_6_10_0 A) (dr_6_10_1 A) (dr_6_10_2 A) (dr_6_10_3 A)
  | 11, _, h => exact absurd h (by decide)
  | 12, _, _ => exact k4 (P := fun k => kk (k + 1) * dtp A 2 6 12 (k + 1) = dsm A 1 6 12 4 k) (dr_6_12_0 A) (dr_6_12_1 A) (dr_6_12_2 A) (dr_6_12_3 A)
  | 13, _, h => exact absurd h (by decide)
  | 14, _, h => exact absurd h (by decide)
  | 15, _, h => exact absurd h (by decide)
  | (n + 16), hC, _ => exact absurd hC (by omega)
theorem drr_7 (A : Nat → Nat → Nat) : ∀ C, C < 16 → pc 7 = pc C → ∀ k, k < 4 → kk (k + 1) * dtp A (pc 7 - 1 + 1) 7 C (k + 1) = dsm A (pc 7 - 1) 7 C 4 k := by
  intro C hC h
  match C, hC, h with
  | 0, _, h => exact absurd h (by decide)
  | 1, _, h => exact absurd h (by decide)
  | 2, _, h => exact absurd h (by decide)
  | 3, _, h => exact absurd h (by decide)
  | 4, _, h => exact absurd h (by decide)
  | 5, _, h => exact absurd h (by decide)
  | 6, _, h => exact absurd h (by decide)
  | 7, _, _ => exact k4 (P := fun k => kk (k + 1) * dtp A 3 7 7 (k + 1) = dsm A 2 7 7 4 k) (dr_7_7_0 A) (dr_7_7_1 A) (dr_7_7_2 A) (dr_7_7_3 A)
  | 8, _, h => exact absurd h (by decide)
  | 9, _, h => exact absurd h (by decide)
  | 10, _, h => exact absurd h (by decide)
  | 11, _, _ => exact k4 (P := fun k => kk (k + 1) * dtp A 3 7 11 (k + 1) = dsm A 2 7 11 4 k) (dr_7_11_0 A) (dr_7_11_1 A) (dr_7_11_2 A) (dr_7_11_3 A)
  | 12, _, h => exact absurd h (by decide)
  | 13, _, _ => exact k4 (P := fun k => kk (k + 1) * dtp A 3 7 13 (k + 1) = dsm A 2 7 13 4 k) (dr_7_13_0 A) (dr_7_13_1 A) (dr_7_13_2 A) (dr_7_13_3 A)
  | 14, _, _ => exact k4 (P := fun k => kk (k + 1) * dtp A 3 7 14 (k + 1) = dsm A 2 7 14 4 k) (dr_7_14_0 A) (dr_7_14_1 A) (dr_7_14_2 A) (dr_7_14_3 A)
  | 15, _, h => exact absurd h (by decide)
  | (n + 16), hC, _ => exact absurd hC (by omega)
theorem drr_8 (A : Nat → Nat → Nat) : ∀ C, C < 16 → pc 8 = pc C → ∀ k, k < 4 → kk (k + 1) * dtp A (pc 8 - 1 + 1) 8 C (k + 1) = dsm A (pc 8 - 1) 8 C 4 k := by
  intro C hC h
  match C, hC, h with
  | 0, _, h => exact absurd h (by decide)
  | 1, _, _ => exact k4 (P := fun k => kk (k + 1) * dtp A 1 8 1 (k + 1) = dsm A 0 8 1 4 k) (dr_8_1_0 A) (dr_8_1_1 A) (dr_8_1_2 A) (dr_8_1_3 A)
  | 2, _, _ => exact k4 (P := fun k => kk (k + 1) * dtp A 1 8 2 (k + 1) = dsm A 0 8 2 4 k) (dr_8_2_0 A) (dr_8_2_1 A) (dr_8_2_2 A) (dr_8_2_3 A)
  | 3, _, h => exact absurd h (by decide)
  | 4, _, _ => exact k4 (P := fun k => kk (k + 1) * dtp A 1 8 4 (k + 1) = dsm A 0 8 4 4 k) (dr_8_4_0 A) (dr_8_4_1 A) (dr_8_4_2 A) (dr_8_4_3 A)
  | 5, _, h => exact absurd h (by decide)
  | 6, _, h => exact absurd h (by decide)
  | 7, _, h => exact absurd h (by decide)
  | 8, _, _ => exact k4 (P := fun k => kk (k + 1) * dtp A 1 8 8 (k + 1) = dsm A 0 8 8 4 k) (dr_8_8_0 A) (dr_8_8_1 A) (dr_8_8_2 A) (dr_8_8_3 A)
  | 9, _, h => exact absurd h (by decide)
  | 10, _, h => exact absurd h (by decide)
  | 11, _, h => exact absurd h (by decide)
  | 12, _, h => exact absurd h (by decide)
  | 13, _, h => exact absurd h (by decide)
  | 14, _, h => exact absurd h (by decide)
  | 15, _, h => exact absurd h (by decide)
  | (n + 16), hC, _ => exact absurd hC (by omega)
theorem drr_9 (A : Nat → Nat → Nat) : ∀ C, C < 16 → pc 9 = pc C → ∀ k, k < 4 → kk (k + 1) * dtp A (pc 9 - 1 + 1) 9 C (k + 1) = dsm A (pc 9 - 1) 9 C 4 k := by
  intro C hC h
  match C, hC, h with
  | 0, _, h => exact absurd h (by decide)
  | 1, _, h => exact absurd h (by decide)
  | 2, _, h => exact absurd h (by decide)
  | 3, _, _ => exact k4 (P := fun k => kk (k + 1) * dtp A 2 9 3 (k + 1) = dsm A 1 9 3 4 k) (dr_9_3_0 A) (dr_9_3_1 A) (dr_9_3_2 A) (dr_9_3_3 A)
  | 4, _, h => exact absurd h (by decide)
  | 5, _, _ => exact k4 (P := fun k => kk (k + 1) * dtp A 2 9 5 (k + 1) = dsm A 1 9 5 4 k) (dr_9_5_0 A) (dr_9_5_1 A) (dr_9_5_2 A) (dr_9_5_3 A)
  | 6, _, _ => exact k4 (P := fun k => kk (k + 1) * dtp A 2 9 6 (k + 1) = dsm A 1 9 6 4 k) (dr_9_6_0 A) (dr_9_6_1 A) (dr_9_6_2 A) (dr_9_6_3 A)
  | 7, _, h => exact absurd h (by decide)
  | 8, _, h => exact absurd h (by decide)
  | 9, _, _ => exact k4 (P := fun k => kk (k + 1) * dtp A 2 9 9 (k + 1) = dsm A 1 9 9 4 k) (dr_9_9_0 A) (dr_9_9_1 A) (dr_9_9_2 A) (dr_9_9_3 A)
  | 10, _, _ => exact k4 (P := fun k => kk (k + 1) * dtp A 2 9 10 (k + 1) = dsm A 1 9 10 4 k) (dr_9_10_0 A) (dr_9_10_1 A) (dr_9_10_2 A) (dr_9_10_3 A)
  | 11, _, h => exact absurd h (by decide)
  | 12, _, _ => exact k4 (P := fun k => kk (k + 1) * dtp A 2 9 12 (k + 1) = dsm A 1 9 12 4 k) (dr_9_12_0 A) (dr_9_12_1 A) (dr_9_12_2 A) (dr_9_12_3 A)
  | 13, _, h => exact absurd h (by decide)
  | 14, _, h => exact absurd h (by decide)
  | 15, _, h => exact absurd h (by decide)
  | (n + 16), hC, _ => exact absurd hC (by omega)
theorem drr_10 (A : Nat → Nat → Nat) : ∀ C, C < 16 → pc 10 = pc C → ∀ k, k < 4 → kk (k + 1) * dtp A (pc 10 - 1 + 1) 10 C (k + 1) = dsm A (pc 10 - 1) 10 C 4 k := by
  intro C hC h
  match C, hC, h with
  | 0, _, h => exact absurd h (by decide)
  | 1, _, h => exact absurd h (by decide)
  | 2, _, h => exact absurd h (by decide)
  | 3, _, _ => exact k4 (P := fun k => kk (k + 1) * dtp A 2 10 3 (k + 1) = dsm A 1 10 3 4 k) (dr_10_3_0 A) (dr_10_3_1 A) (dr_10_3_2 A) (dr_10_3_3 A)
  | 4, _, h => exact absurd h (by decide)
  | 5, _, _ => exact k4 (P := fun k => kk (k + 1) * dtp A 2 10 5 (k + 1) = dsm A 1 10 5 4 k) (dr_10_5_0 A) (dr_10_5_1 A) (dr_10_5_2 A) (dr_10_5_3 A)
  | 6, _, _ => exact k4 (P := fun k => kk (k + 1) * dtp A 2 10 6 (k + 1) = dsm A 1 10 6 4 k) (dr_10_6_0 A) (dr_10_6_1 A) (dr_10_6_2 A) (dr_10_6_3 A)
  | 7, _, h => exact absurd h (by decide)
  | 8, _, h => exact absurd h (by decide)
  | 9, _, _ => exact k4 (P := fun k => kk (k + 1) * dtp A 2 10 9 (k + 1) = dsm A 1 10 9 4 k) (dr_10_9_0 A) (dr_10_9_1 A) (dr_10_9_2 A) (dr_10_9_3 A)
  | 10, _, _ => exact k4 (P := fun k => kk (k + 1) * dtp A 2 10 10 (k + 1) = dsm A 1 10 10 4 k) (dr_10_10_0 A) (dr_10_10_1 A) (dr_10_10_2 A) (dr_10_10_3 A)
  | 11, _, h => exact absurd h (by decide)
  | 12, _, _ => exact k4 (P := fun k => kk (k + 1) * dtp A 2 10 12 (k + 1) = dsm A 1 10 12 4 k) (dr_10_12_0 A) (dr_10_12_1 A) (dr_10_12_2 A) (dr_10_12_3 A)
  | 13, _, h => exact absurd h (by decide)
  | 14, _, h => exact absurd h (by decide)
  | 15, _, h => exact absurd h (by decide)
  | (n + 16), hC, _ => exact absurd hC (by omega)
theorem drr_11 (A : Nat → Nat → Nat) : ∀ C, C < 16 → pc 11 = pc C → ∀ k, k < 4 → kk (k + 1) * dtp A (pc 11 - 1 + 1) 11 C (k + 1) = dsm A (pc 11 - 1) 11 C 4 k := by
  intro C hC h
  match C, hC, h with
  | 0, _, h => exact absurd h (by decide)
  | 1, _, h => exact absurd h (by decide)
  | 2, _, h => exact absurd h (by decide)
  | 3, _, h => exact absurd h (by decide)
  | 4, _, h => exact absurd h (by decide)
  | 5, _, h => exact absurd h (by decide)
  | 6, _, h => exact absurd h (by decide)
  | 7, _, _ => exact k4 (P := fun k => kk (k + 1) * dtp A 3 11 7 (k + 1) = dsm A 2 11 7 4 k) (dr_11_7_0 A) (dr_11_7_1 A) (dr_11_7_2 A) (dr_11_7_3 A)
  | 8, _, h => exact absurd h (by decide)
  | 9, _, h => exact absurd h (by decide)
  | 10, _, h => exact absurd h (by decide)
  | 11, _, _ => exact k4 (P := fun k => kk (k + 1) * dtp A 3 11 11 (k + 1) = dsm A 2 11 11 4 k) (dr_11_11_0 A) (dr_11_11_1 A) (dr_11_11_2 A) (dr_11_11_3 A)
  | 12, _, h => exact absurd h (by decide)
  | 13, _, _ => exact k4 (P := fun k => kk (k + 1) * dtp A 3 11 13 (k + 1) = dsm A 2 11 13 4 k) (dr_11_13_0 A) (dr_11_13_1 A) (dr_11_13_2 A) (dr_11_13_3 A)
  | 14, _, _ => exact k4 (P := fun k => kk (k + 1) * dtp A 3 11 14 (k + 1) = dsm A 2 11 14 4 k) (dr_11_14_0 A) (dr_11_14_1 A) (dr_11_14_2 A) (dr_11_14_3 A)
  | 15, _, h => exact absurd h (by decide)
  | (n + 16), hC, _ => exact absurd hC (by omega)
theorem drr_12 (A : Nat → Nat → Nat) : ∀ C, C < 16 → pc 12 = pc C → ∀ k, k < 4 → kk (k + 1) * dtp A (pc 12 - 1 + 1) 12 C (k + 1) = dsm A (pc 12 - 1) 12 C 4 k := by
  intro C hC h
  match C, hC, h with
  | 0, _, h => exact absurd h (by decide)
  | 1, _, h => exact absurd h (by decide)
  | 2, _, h => exact absurd h (by decide)
  | 3, _, _ => exact k4 (P := fun k => kk (k + 1) * dtp A 2 12 3 (k + 1) = dsm A 1 12 3 4 k) (dr_12_3_0 A) (dr_12_3_1 A) (dr_12_3_2 A) (dr_12_3_3 A)
  | 4, _, h => exact absurd h (by decide)
  | 5, _, _ => exact k4 (P := fun k => kk (k + 1) * dtp A 2 12 5 (k + 1) = dsm A 1 12 5 4 k) (dr_12_5_0 A) (dr_12_5_1 A) (dr_12_5_2 A) (dr_12_5_3 A)
  | 6, _, _ => exact k4 (P := fun k => kk (k + 1) * dtp A 2 12 6 (k + 1) = dsm A 1 12 6 4 k) (dr_12_6_0 A) (dr_12_6_1 A) (dr_12_6_2 A) (dr_12_6_3 A)
  | 7, _, h => exact absurd h (by decide)
  | 8, _, h => exact absurd h (by decide)
  | 9, _, _ => exact k4 (P := fun k => kk (k + 1) * dtp A 2 12 9 (k + 1) = dsm A 1 12 9 4 k) (dr_12_9_0 A) (dr_12_9_1 A) (dr_12_9_2 A) (dr_12_9_3 A)
  | 10, _, _ => exact k4 (P := fun k => kk (k + 1) * dtp A 2 12 10 (k + 1) = dsm A 1 12 10 4 k) (dr_12_10_0 A) (dr_12_10_1 A) (dr_12_10_2 A) (dr_12_10_3 A)
  | 11, _, h => exact absurd h (by decide)
  | 12, _, _ => exact k4 (P := fun k => kk (k + 1) * dtp A 2 12 12 (k + 1) = dsm A 1 12 12 4 k) (dr_12_12_0 A) (dr_12_12_1 A) (dr_12_12_2 A) (dr_12_12_3 A)
  | 13, _, h => exact absurd h (by decide)
  | 14, _, h => exact absurd h (by decide)
  | 15, _, h => exact absurd h (by decide)
  | (n + 16), hC, _ => exact absurd hC (by omega)
theorem drr_13 (A : Nat → Nat → Nat) : ∀ C, C < 16 → pc 13 = pc C → ∀ k, k < 4 → kk (k + 1) * dtp A (pc 13 - 1 + 1) 13 C (k + 1) = dsm A (pc 13 - 1) 13 C 4 k := by
  intro C hC h
  match C, hC, h with
  | 0, _, h => exact absurd h (by decide)
  | 1, _, h => exact absurd h (by decide)
  | 2, _, h => exact absurd h (by decide)
  | 3, _, h => exact absurd h (by decide)
  | 4, _, h => exact absurd h (by decide)
  | 5, _, h => exact absurd h (by decide)
  | 6, _, h => exact absurd h (by decide)
  | 7, _, _ => exact k4 (P := fun k => kk (k + 1) * dtp A 3 13 7 (k + 1) = dsm A 2 13 7 4 k) (dr_13_7_0 A) (dr_13_7_1 A) (dr_13_7_2 A) (dr_13_7_3 A)
  | 8, _, h => exact absurd h (by decide)
  | 9, _, h => exact absurd h (by decide)
  | 10, _, h => exact absurd h (by decide)
  | 11, _, _ => exact k4 (P := fun k => kk (k + 1) * dtp A 3 13 11 (k + 1) = dsm A 2 13 11 4 k) (dr_13_11_0 A) (dr_13_11_1 A) (dr_13_11_2 A) (dr_13_11_3 A)
  | 12, _, h => exact absurd h (by decide)
  | 13, _, _ => exact k4 (P := fun k => kk (k + 1) * dtp A 3 13 13 (k + 1) = dsm A 2 13 13 4 k) (dr_13_13_0 A) (dr_13_13_1 A) (dr_13_13_2 A) (dr_13_13_3 A)
  | 14, _, _ => exact k4 (P := fun k => kk (k + 1) * dtp A 3 13 14 (k + 1) = dsm A 2 13 14 4 k) (dr_13_14_0 A) (dr_13_14_1 A) (dr_13_14_2 A) (dr_13_14_3 A)
  | 15, _, h => exact absurd h (by decide)
  | (n + 16), hC, _ => exact absurd hC (by omega)
theorem drr_14 (A : Nat → Nat → Nat) : ∀ C, C < 16 → pc 14 = pc C → ∀ k, k < 4 → kk (k + 1) * dtp A (pc 14 - 1 + 1) 14 C (k + 1) = dsm A (pc 14 - 1) 14 C 4 k := by
  intro C hC h
  match C, hC, h with
  | 0, _, h => exact absurd h (by decide)
  | 1, _, h => exact absurd h (by decide)
  | 2, _, h => exact absurd h (by decide)
  | 3, _, h => exact absurd h (by decide)
  | 4, _, h => exact absurd h (by decide)
  | 5, _, h => exact absurd h (by decide)
  | 6, _, h => exact absurd h (by decide)
  | 7, _, _ => exact k4 (P := fun k => kk (k + 1) * dtp A 3 14 7 (k + 1) = dsm A 2 14 7 4 k) (dr_14_7_0 A) (dr_14_7_1 A) (dr_14_7_2 A) (dr_14_7_3 A)
  | 8, _, h => exact absurd h (by decide)
  | 9, _, h => exact absurd h (by decide)
  | 10, _, h => exact absurd h (by decide)
  | 11, _, _ => exact k4 (P := fun k => kk (k + 1) * dtp A 3 14 11 (k + 1) = dsm A 2 14 11 4 k) (dr_14_11_0 A) (dr_14_11_1 A) (dr_14_11_2 A) (dr_14_11_3 A)
  | 12, _, h => exact absurd h (by decide)
  | 13, _, _ => exact k4 (P := fun k => kk (k + 1) * dtp A 3 14 13 (k + 1) = dsm A 2 14 13 4 k) (dr_14_13_0 A) (dr_14_13_1 A) (dr_14_13_2 A) (dr_14_13_3 A)
  | 14, _, _ => exact k4 (P := fun k => kk (k + 1) * dtp A 3 14 14 (k + 1) = dsm A 2 14 14 4 k) (dr_14_14_0 A) (dr_14_14_1 A) (dr_14_14_2 A) (dr_14_14_3 A)
  | 15, _, h => exact absurd h (by decide)
  | (n + 16), hC, _ => exact absurd hC (by omega)
theorem drr_15 (A : Nat → Nat → Nat) : ∀ C, C < 16 → pc 15 = pc C → ∀ k, k < 4 → kk (k + 1) * dtp A (pc 15 - 1 + 1) 15 C (k + 1) = dsm A (pc 15 - 1) 15 C 4 k := by
  intro C hC h
  match C, hC, h with
  | 0, _, h => exact absurd h (by decide)
  | 1, _, h => exact absurd h (by decide)
  | 2, _, h => exact absurd h (by decide)
  | 3, _, h => exact absurd h (by decide)
  | 4, _, h => exact absurd h (by decide)
  | 5, _, h => exact absurd h (by decide)
  | 6, _, h => exact absurd h (by decide)
  | 7, _, h => exact absurd h (by decide)
  | 8, _, h => exact absurd h (by decide)
  | 9, _, h => exact absurd h (by decide)
  | 10, _, h => exact absurd h (by decide)
  | 11, _, h => exact absurd h (by decide)
  | 12, _, h => exact absurd h (by decide)
  | 13, _, h => exact absurd h (by decide)
  | 14, _, h => exact absurd h (by decide)
  | 15, _, _ => exact k4 (P := fun k => kk (k + 1) * dtp A 4 15 15 (k + 1) = dsm A 3 15 15 4 k) (dr_15_15_0 A) (dr_15_15_1 A) (dr_15_15_2 A) (dr_15_15_3 A)
  | (n + 16), hC, _ => exact absurd hC (by omega)
theorem dr_all (A : Nat → Nat → Nat) : ∀ R, R < 16 → 0 < R → ∀ C, C < 16 → pc R = pc C → ∀ k, k < 4 → kk (k + 1) * dtp A (pc R - 1 + 1) R C (k + 1) = dsm A (pc R - 1) R C 4 k := by
  intro R hR h0
  match R, hR, h0 with
  | 0, _, h0 => exact absurd h0 (by decide)
  | 1, _, _ => exact drr_1 A
  | 2, _, _ => exact drr_2 A
  | 3, _, _ => exact drr_3 A
  | 4, _, _ => exact drr_4 A
  | 5, _, _ => exact drr_5 A
  | 6, _, _ => exact drr_6 A
  | 7, _, _ => exact drr_7 A
  | 8, _, _ => exact drr_8 A
  | 9, _, _ => exact drr_9 A
  | 10, _, _ => exact drr_10 A
  | 11, _, _ => exact drr_11 A
  | 12, _, _ => exact drr_12 A
  | 13, _, _ => exact drr_13 A
  | 14, _, _ => exact drr_14 A
  | 15, _, _ => exact drr_15 A
  | (n + 16), hR, _ => exact absurd hR (by omega)
