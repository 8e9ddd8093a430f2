/-! the normal forms, reckoned -/
theorem ck_F0 : ∀ l, l < 5 → chk4 (qF0 l) = true := by decide +kernel
theorem ck_F1_0_0 : ∀ r, r < 5 → ∀ s, s < 5 → chk4 (qF1 0 0 r s) = true := by decide +kernel
theorem ck_F1_0_1 : ∀ r, r < 5 → ∀ s, s < 5 → chk4 (qF1 0 1 r s) = true := by decide +kernel
theorem ck_F1_0_2 : ∀ r, r < 5 → ∀ s, s < 5 → chk4 (qF1 0 2 r s) = true := by decide +kernel
theorem ck_F1_0_3 : ∀ r, r < 5 → ∀ s, s < 5 → chk4 (qF1 0 3 r s) = true := by decide +kernel
theorem ck_F1_0_4 : ∀ r, r < 5 → ∀ s, s < 5 → chk4 (qF1 0 4 r s) = true := by decide +kernel
theorem ck_F1_1_0 : ∀ r, r < 5 → ∀ s, s < 5 → chk4 (qF1 1 0 r s) = true := by decide +kernel
theorem ck_F1_1_1 : ∀ r, r < 5 → ∀ s, s < 5 → chk4 (qF1 1 1 r s) = true := by decide +kernel
theorem ck_F1_1_2 : ∀ r, r < 5 → ∀ s, s < 5 → chk4 (qF1 1 2 r s) = true := by decide +kernel
theorem ck_F1_1_3 : ∀ r, r < 5 → ∀ s, s < 5 → chk4 (qF1 1 3 r s) = true := by decide +kernel
theorem ck_F1_1_4 : ∀ r, r < 5 → ∀ s, s < 5 → chk4 (qF1 1 4 r s) = true := by decide +kernel
theorem ck_F1_2_0 : ∀ r, r < 5 → ∀ s, s < 5 → chk4 (qF1 2 0 r s) = true := by decide +kernel
theorem ck_F1_2_1 : ∀ r, r < 5 → ∀ s, s < 5 → chk4 (qF1 2 1 r s) = true := by decide +kernel
theorem ck_F1_2_2 : ∀ r, r < 5 → ∀ s, s < 5 → chk4 (qF1 2 2 r s) = true := by decide +kernel
theorem ck_F1_2_3 : ∀ r, r < 5 → ∀ s, s < 5 → chk4 (qF1 2 3 r s) = true := by decide +kernel
theorem ck_F1_2_4 : ∀ r, r < 5 → ∀ s, s < 5 → chk4 (qF1 2 4 r s) = true := by decide +kernel
theorem ck_F1_3_0 : ∀ r, r < 5 → ∀ s, s < 5 → chk4 (qF1 3 0 r s) = true := by decide +kernel
theorem ck_F1_3_1 : ∀ r, r < 5 → ∀ s, s < 5 → chk4 (qF1 3 1 r s) = true := by decide +kernel
theorem ck_F1_3_2 : ∀ r, r < 5 → ∀ s, s < 5 → chk4 (qF1 3 2 r s) = true := by decide +kernel
theorem ck_F1_3_3 : ∀ r, r < 5 → ∀ s, s < 5 → chk4 (qF1 3 3 r s) = true := by decide +kernel
theorem ck_F1_3_4 : ∀ r, r < 5 → ∀ s, s < 5 → chk4 (qF1 3 4 r s) = true := by decide +kernel
theorem ck_F1_4_0 : ∀ r, r < 5 → ∀ s, s < 5 → chk4 (qF1 4 0 r s) = true := by decide +kernel
theorem ck_F1_4_1 : ∀ r, r < 5 → ∀ s, s < 5 → chk4 (qF1 4 1 r s) = true := by decide +kernel
theorem ck_F1_4_2 : ∀ r, r < 5 → ∀ s, s < 5 → chk4 (qF1 4 2 r s) = true := by decide +kernel
theorem ck_F1_4_3 : ∀ r, r < 5 → ∀ s, s < 5 → chk4 (qF1 4 3 r s) = true := by decide +kernel
theorem ck_F1_4_4 : ∀ r, r < 5 → ∀ s, s < 5 → chk4 (qF1 4 4 r s) = true := by decide +kernel
theorem ck_F2_0_0 : ∀ l, l < 5 → chk4 (qF2 0 0 l) = true := by decide +kernel
theorem ck_F2_0_1 : ∀ l, l < 5 → chk4 (qF2 0 1 l) = true := by decide +kernel
theorem ck_F2_0_2 : ∀ l, l < 5 → chk4 (qF2 0 2 l) = true := by decide +kernel
theorem ck_F2_0_3 : ∀ l, l < 5 → chk4 (qF2 0 3 l) = true := by decide +kernel
theorem ck_F2_0_4 : ∀ l, l < 5 → chk4 (qF2 0 4 l) = true := by decide +kernel
theorem ck_F2_1_0 : ∀ l, l < 5 → chk4 (qF2 1 0 l) = true := by decide +kernel
theorem ck_F2_1_1 : ∀ l, l < 5 → chk4 (qF2 1 1 l) = true := by decide +kernel
theorem ck_F2_1_2 : ∀ l, l < 5 → chk4 (qF2 1 2 l) = true := by decide +kernel
theorem ck_F2_1_3 : ∀ l, l < 5 → chk4 (qF2 1 3 l) = true := by decide +kernel
theorem ck_F2_1_4 : ∀ l, l < 5 → chk4 (qF2 1 4 l) = true := by decide +kernel
theorem ck_F2_2_0 : ∀ l, l < 5 → chk4 (qF2 2 0 l) = true := by decide +kernel
theorem ck_F2_2_1 : ∀ l, l < 5 → chk4 (qF2 2 1 l) = true := by decide +kernel
theorem ck_F2_2_2 : ∀ l, l < 5 → chk4 (qF2 2 2 l) = true := by decide +kernel
theorem ck_F2_2_3 : ∀ l, l < 5 → chk4 (qF2 2 3 l) = true := by decide +kernel
theorem ck_F2_2_4 : ∀ l, l < 5 → chk4 (qF2 2 4 l) = true := by decide +kernel
theorem ck_F2_3_0 : ∀ l, l < 5 → chk4 (qF2 3 0 l) = true := by decide +kernel
theorem ck_F2_3_1 : ∀ l, l < 5 → chk4 (qF2 3 1 l) = true := by decide +kernel
theorem ck_F2_3_2 : ∀ l, l < 5 → chk4 (qF2 3 2 l) = true := by decide +kernel
theorem ck_F2_3_3 : ∀ l, l < 5 → chk4 (qF2 3 3 l) = true := by decide +kernel
theorem ck_F2_3_4 : ∀ l, l < 5 → chk4 (qF2 3 4 l) = true := by decide +kernel
theorem ck_F2_4_0 : ∀ l, l < 5 → chk4 (qF2 4 0 l) = true := by decide +kernel
theorem ck_F2_4_1 : ∀ l, l < 5 → chk4 (qF2 4 1 l) = true := by decide +kernel
theorem ck_F2_4_2 : ∀ l, l < 5 → chk4 (qF2 4 2 l) = true := by decide +kernel
theorem ck_F2_4_3 : ∀ l, l < 5 → chk4 (qF2 4 3 l) = true := by decide +kernel
theorem ck_F2_4_4 : ∀ l, l < 5 → chk4 (qF2 4 4 l) = true := by decide +kernel
theorem ck_F3_0 : ∀ c, c < 5 → chk4 (qF3 0 c) = true := by decide +kernel
theorem ck_F4_0 : ∀ l, l < 5 → chk4 (qF4 0 l) = true := by decide +kernel
theorem ck_F3_1 : ∀ c, c < 5 → chk4 (qF3 1 c) = true := by decide +kernel
theorem ck_F4_1 : ∀ l, l < 5 → chk4 (qF4 1 l) = true := by decide +kernel
theorem ck_F3_2 : ∀ c, c < 5 → chk4 (qF3 2 c) = true := by decide +kernel
theorem ck_F4_2 : ∀ l, l < 5 → chk4 (qF4 2 l) = true := by decide +kernel
theorem ck_F3_3 : ∀ c, c < 5 → chk4 (qF3 3 c) = true := by decide +kernel
theorem ck_F4_3 : ∀ l, l < 5 → chk4 (qF4 3 l) = true := by decide +kernel
theorem ck_F3_4 : ∀ c, c < 5 → chk4 (qF3 4 c) = true := by decide +kernel
theorem ck_F4_4 : ∀ l, l < 5 → chk4 (qF4 4 l) = true := by decide +kernel
theorem ck_G0 : ∀ l, l < 5 → chk3 (qG0 l) = true := by decide +kernel
theorem ck_G1_0 : ∀ q, q < 5 → ∀ r, r < 5 → chk3 (qG1 0 q r) = true := by decide +kernel
theorem ck_G2_0 : ∀ l, l < 5 → chk3 (qG2 0 l) = true := by decide +kernel
theorem ck_G1_1 : ∀ q, q < 5 → ∀ r, r < 5 → chk3 (qG1 1 q r) = true := by decide +kernel
theorem ck_G2_1 : ∀ l, l < 5 → chk3 (qG2 1 l) = true := by decide +kernel
theorem ck_G1_2 : ∀ q, q < 5 → ∀ r, r < 5 → chk3 (qG1 2 q r) = true := by decide +kernel
theorem ck_G2_2 : ∀ l, l < 5 → chk3 (qG2 2 l) = true := by decide +kernel
theorem ck_G1_3 : ∀ q, q < 5 → ∀ r, r < 5 → chk3 (qG1 3 q r) = true := by decide +kernel
theorem ck_G2_3 : ∀ l, l < 5 → chk3 (qG2 3 l) = true := by decide +kernel
theorem ck_G1_4 : ∀ q, q < 5 → ∀ r, r < 5 → chk3 (qG1 4 q r) = true := by decide +kernel
theorem ck_G2_4 : ∀ l, l < 5 → chk3 (qG2 4 l) = true := by decide +kernel
theorem ck_H0 : ∀ l, l < 5 → chk2 (qH0 l) = true := by decide +kernel
theorem ck_H1 : ∀ p, p < 5 → ∀ q, q < 5 → chk2 (qH1 p q) = true := by decide +kernel
theorem ck_F1 : ∀ p, p < 5 → ∀ q, q < 5 → ∀ r, r < 5 → ∀ s, s < 5 → chk4 (qF1 p q r s) = true := by
  intro p hp q hq
  match p, hp, q, hq with
  | 0, _, 0, _ => exact ck_F1_0_0
  | 0, _, 1, _ => exact ck_F1_0_1
  | 0, _, 2, _ => exact ck_F1_0_2
  | 0, _, 3, _ => exact ck_F1_0_3
  | 0, _, 4, _ => exact ck_F1_0_4
  | 1, _, 0, _ => exact ck_F1_1_0
  | 1, _, 1, _ => exact ck_F1_1_1
  | 1, _, 2, _ => exact ck_F1_1_2
  | 1, _, 3, _ => exact ck_F1_1_3
  | 1, _, 4, _ => exact ck_F1_1_4
  | 2, _, 0, _ => exact ck_F1_2_0
  | 2, _, 1, _ => exact ck_F1_2_1
  | 2, _, 2, _ => exact ck_F1_2_2
  | 2, _, 3, _ => exact ck_F1_2_3
  | 2, _, 4, _ => exact ck_F1_2_4
  | 3, _, 0, _ => exact ck_F1_3_0
  | 3, _, 1, _ => exact ck_F1_3_1
  | 3, _, 2, _ => exact ck_F1_3_2
  | 3, _, 3, _ => exact ck_F1_3_3
  | 3, _, 4, _ => exact ck_F1_3_4
  | 4, _, 0, _ => exact ck_F1_4_0
  | 4, _, 1, _ => exact ck_F1_4_1
  | 4, _, 2, _ => exact ck_F1_4_2
  | 4, _, 3, _ => exact ck_F1_4_3
  | 4, _, 4, _ => exact ck_F1_4_4
  | (m + 5), h, _, _ => exact absurd h (by omega)
  | _, _, (m + 5), h => exact absurd h (by omega)
theorem ck_F2 : ∀ p, p < 5 → ∀ q, q < 5 → ∀ l, l < 5 → chk4 (qF2 p q l) = true := by
  intro p hp q hq
  match p, hp, q, hq with
  | 0, _, 0, _ => exact ck_F2_0_0
  | 0, _, 1, _ => exact ck_F2_0_1
  | 0, _, 2, _ => exact ck_F2_0_2
  | 0, _, 3, _ => exact ck_F2_0_3
  | 0, _, 4, _ => exact ck_F2_0_4
  | 1, _, 0, _ => exact ck_F2_1_0
  | 1, _, 1, _ => exact ck_F2_1_1
  | 1, _, 2, _ => exact ck_F2_1_2
  | 1, _, 3, _ => exact ck_F2_1_3
  | 1, _, 4, _ => exact ck_F2_1_4
  | 2, _, 0, _ => exact ck_F2_2_0
  | 2, _, 1, _ => exact ck_F2_2_1
  | 2, _, 2, _ => exact ck_F2_2_2
  | 2, _, 3, _ => exact ck_F2_2_3
  | 2, _, 4, _ => exact ck_F2_2_4
  | 3, _, 0, _ => exact ck_F2_3_0
  | 3, _, 1, _ => exact ck_F2_3_1
  | 3, _, 2, _ => exact ck_F2_3_2
  | 3, _, 3, _ => exact ck_F2_3_3
  | 3, _, 4, _ => exact ck_F2_3_4
  | 4, _, 0, _ => exact ck_F2_4_0
  | 4, _, 1, _ => exact ck_F2_4_1
  | 4, _, 2, _ => exact ck_F2_4_2
  | 4, _, 3, _ => exact ck_F2_4_3
  | 4, _, 4, _ => exact ck_F2_4_4
  | (m + 5), h, _, _ => exact absurd h (by omega)
  | _, _, (m + 5), h => exact absurd h (by omega)
theorem ck_F3 : ∀ p, p < 5 → ∀ c, c < 5 → chk4 (qF3 p c) = true := by
  intro p hp
  match p, hp with
  | 0, _ => exact ck_F3_0
  | 1, _ => exact ck_F3_1
  | 2, _ => exact ck_F3_2
  | 3, _ => exact ck_F3_3
  | 4, _ => exact ck_F3_4
  | (m + 5), h => exact absurd h (by omega)
theorem ck_F4 : ∀ p, p < 5 → ∀ l, l < 5 → chk4 (qF4 p l) = true := by
  intro p hp
  match p, hp with
  | 0, _ => exact ck_F4_0
  | 1, _ => exact ck_F4_1
  | 2, _ => exact ck_F4_2
  | 3, _ => exact ck_F4_3
  | 4, _ => exact ck_F4_4
  | (m + 5), h => exact absurd h (by omega)
theorem ck_G1 : ∀ p, p < 5 → ∀ q, q < 5 → ∀ r, r < 5 → chk3 (qG1 p q r) = true := by
  intro p hp
  match p, hp with
  | 0, _ => exact ck_G1_0
  | 1, _ => exact ck_G1_1
  | 2, _ => exact ck_G1_2
  | 3, _ => exact ck_G1_3
  | 4, _ => exact ck_G1_4
  | (m + 5), h => exact absurd h (by omega)
theorem ck_G2 : ∀ p, p < 5 → ∀ l, l < 5 → chk3 (qG2 p l) = true := by
  intro p hp
  match p, hp with
  | 0, _ => exact ck_G2_0
  | 1, _ => exact ck_G2_1
  | 2, _ => exact ck_G2_2
  | 3, _ => exact ck_G2_3
  | 4, _ => exact ck_G2_4
  | (m + 5), h => exact absurd h (by omega)
