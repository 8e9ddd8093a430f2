/-! small determinants by rows -/
def d2 (u v : Nat → Fin 5) (c1 c2 : Nat) : Fin 5 := u c1 * v c2 - u c2 * v c1
def d3 (u v z : Nat → Fin 5) (c1 c2 c3 : Nat) : Fin 5 := u c1 * (v c2 * z c3 - v c3 * z c2) - u c2 * (v c1 * z c3 - v c3 * z c1) + u c3 * (v c1 * z c2 - v c2 * z c1)
theorem de_1_1 (M : Nat → Nat → Fin 5) : dtm M 1 1 1 = M 0 0 := by
  simp [dtm, lapM, lo, rs, d2, d3] <;> grind
theorem de_1_2 (M : Nat → Nat → Fin 5) : dtm M 1 1 2 = M 0 1 := by
  simp [dtm, lapM, lo, rs, d2, d3] <;> grind
theorem de_1_4 (M : Nat → Nat → Fin 5) : dtm M 1 1 4 = M 0 2 := by
  simp [dtm, lapM, lo, rs, d2, d3] <;> grind
theorem de_1_8 (M : Nat → Nat → Fin 5) : dtm M 1 1 8 = M 0 3 := by
  simp [dtm, lapM, lo, rs, d2, d3] <;> grind
theorem de_2_1 (M : Nat → Nat → Fin 5) : dtm M 1 2 1 = M 1 0 := by
  simp [dtm, lapM, lo, rs, d2, d3] <;> grind
theorem de_2_2 (M : Nat → Nat → Fin 5) : dtm M 1 2 2 = M 1 1 := by
  simp [dtm, lapM, lo, rs, d2, d3] <;> grind
theorem de_2_4 (M : Nat → Nat → Fin 5) : dtm M 1 2 4 = M 1 2 := by
  simp [dtm, lapM, lo, rs, d2, d3] <;> grind
theorem de_2_8 (M : Nat → Nat → Fin 5) : dtm M 1 2 8 = M 1 3 := by
  simp [dtm, lapM, lo, rs, d2, d3] <;> grind
theorem de_4_1 (M : Nat → Nat → Fin 5) : dtm M 1 4 1 = M 2 0 := by
  simp [dtm, lapM, lo, rs, d2, d3] <;> grind
theorem de_4_2 (M : Nat → Nat → Fin 5) : dtm M 1 4 2 = M 2 1 := by
  simp [dtm, lapM, lo, rs, d2, d3] <;> grind
theorem de_4_4 (M : Nat → Nat → Fin 5) : dtm M 1 4 4 = M 2 2 := by
  simp [dtm, lapM, lo, rs, d2, d3] <;> grind
theorem de_4_8 (M : Nat → Nat → Fin 5) : dtm M 1 4 8 = M 2 3 := by
  simp [dtm, lapM, lo, rs, d2, d3] <;> grind
theorem de_8_1 (M : Nat → Nat → Fin 5) : dtm M 1 8 1 = M 3 0 := by
  simp [dtm, lapM, lo, rs, d2, d3] <;> grind
theorem de_8_2 (M : Nat → Nat → Fin 5) : dtm M 1 8 2 = M 3 1 := by
  simp [dtm, lapM, lo, rs, d2, d3] <;> grind
theorem de_8_4 (M : Nat → Nat → Fin 5) : dtm M 1 8 4 = M 3 2 := by
  simp [dtm, lapM, lo, rs, d2, d3] <;> grind
theorem de_8_8 (M : Nat → Nat → Fin 5) : dtm M 1 8 8 = M 3 3 := by
  simp [dtm, lapM, lo, rs, d2, d3] <;> grind
theorem der1_1 (M : Nat → Nat → Fin 5) : ∀ C, C < 16 → pc C = 1 → (fun R => dtm M 1 R C = M (lo R) (lo C)) 1 := by
  intro C hC h
  match C, hC, h with
  | 0, _, h => exact absurd h (by decide)
  | 1, _, _ => exact de_1_1 M
  | 2, _, _ => exact de_1_2 M
  | 3, _, h => exact absurd h (by decide)
  | 4, _, _ => exact de_1_4 M
  | 5, _, h => exact absurd h (by decide)
  | 6, _, h => exact absurd h (by decide)
  | 7, _, h => exact absurd h (by decide)
  | 8, _, _ => exact de_1_8 M
  | 9, _, h => exact absurd h (by decide)
  | 10, _, h => exact absurd h (by decide)
  | 11, _, h => exact absurd h (by decide)
  | 12, _, h => exact absurd h (by decide)
  | 13, _, h => exact absurd h (by decide)
  | 14, _, h => exact absurd h (by decide)
  | 15, _, h => exact absurd h (by decide)
  | (n + 16), hC, _ => exact absurd hC (by omega)
theorem der1_2 (M : Nat → Nat → Fin 5) : ∀ C, C < 16 → pc C = 1 → (fun R => dtm M 1 R C = M (lo R) (lo C)) 2 := by
  intro C hC h
  match C, hC, h with
  | 0, _, h => exact absurd h (by decide)
  | 1, _, _ => exact de_2_1 M
  | 2, _, _ => exact de_2_2 M
  | 3, _, h => exact absurd h (by decide)
  | 4, _, _ => exact de_2_4 M
  | 5, _, h => exact absurd h (by decide)
  | 6, _, h => exact absurd h (by decide)
  | 7, _, h => exact absurd h (by decide)
  | 8, _, _ => exact de_2_8 M
  | 9, _, h => exact absurd h (by decide)
  | 10, _, h => exact absurd h (by decide)
  | 11, _, h => exact absurd h (by decide)
  | 12, _, h => exact absurd h (by decide)
  | 13, _, h => exact absurd h (by decide)
  | 14, _, h => exact absurd h (by decide)
  | 15, _, h => exact absurd h (by decide)
  | (n + 16), hC, _ => exact absurd hC (by omega)
theorem der1_4 (M : Nat → Nat → Fin 5) : ∀ C, C < 16 → pc C = 1 → (fun R => dtm M 1 R C = M (lo R) (lo C)) 4 := by
  intro C hC h
  match C, hC, h with
  | 0, _, h => exact absurd h (by decide)
  | 1, _, _ => exact de_4_1 M
  | 2, _, _ => exact de_4_2 M
  | 3, _, h => exact absurd h (by decide)
  | 4, _, _ => exact de_4_4 M
  | 5, _, h => exact absurd h (by decide)
  | 6, _, h => exact absurd h (by decide)
  | 7, _, h => exact absurd h (by decide)
  | 8, _, _ => exact de_4_8 M
  | 9, _, h => exact absurd h (by decide)
  | 10, _, h => exact absurd h (by decide)
  | 11, _, h => exact absurd h (by decide)
  | 12, _, h => exact absurd h (by decide)
  | 13, _, h => exact absurd h (by decide)
  | 14, _, h => exact absurd h (by decide)
  | 15, _, h => exact absurd h (by decide)
  | (n + 16), hC, _ => exact absurd hC (by omega)
theorem der1_8 (M : Nat → Nat → Fin 5) : ∀ C, C < 16 → pc C = 1 → (fun R => dtm M 1 R C = M (lo R) (lo C)) 8 := by
  intro C hC h
  match C, hC, h with
  | 0, _, h => exact absurd h (by decide)
  | 1, _, _ => exact de_8_1 M
  | 2, _, _ => exact de_8_2 M
  | 3, _, h => exact absurd h (by decide)
  | 4, _, _ => exact de_8_4 M
  | 5, _, h => exact absurd h (by decide)
  | 6, _, h => exact absurd h (by decide)
  | 7, _, h => exact absurd h (by decide)
  | 8, _, _ => exact de_8_8 M
  | 9, _, h => exact absurd h (by decide)
  | 10, _, h => exact absurd h (by decide)
  | 11, _, h => exact absurd h (by decide)
  | 12, _, h => exact absurd h (by decide)
  | 13, _, h => exact absurd h (by decide)
  | 14, _, h => exact absurd h (by decide)
  | 15, _, h => exact absurd h (by decide)
  | (n + 16), hC, _ => exact absurd hC (by omega)
theorem dt_1 (M : Nat → Nat → Fin 5) : ∀ R, R < 16 → pc R = 1 → ∀ C, C < 16 → pc C = 1 → dtm M 1 R C = M (lo R) (lo C) := by
  intro R hR h
  match R, hR, h with
  | 0, _, h => exact absurd h (by decide)
  | 1, _, _ => exact der1_1 M
  | 2, _, _ => exact der1_2 M
  | 3, _, h => exact absurd h (by decide)
  | 4, _, _ => exact der1_4 M
  | 5, _, h => exact absurd h (by decide)
  | 6, _, h => exact absurd h (by decide)
  | 7, _, h => exact absurd h (by decide)
  | 8, _, _ => exact der1_8 M
  | 9, _, h => exact absurd h (by decide)
  | 10, _, h => exact absurd h (by decide)
  | 11, _, h => exact absurd h (by decide)
  | 12, _, h => exact absurd h (by decide)
  | 13, _, h => exact absurd h (by decide)
  | 14, _, h => exact absurd h (by decide)
  | 15, _, h => exact absurd h (by decide)
  | (n + 16), hR, _ => exact absurd hR (by omega)
theorem de_3_3 (M : Nat → Nat → Fin 5) : dtm M 2 3 3 = d2 (M 0) (M 1) 0 1 := by
  simp [dtm, lapM, lo, rs, d2, d3] <;> grind
theorem de_3_5 (M : Nat → Nat → Fin 5) : dtm M 2 3 5 = d2 (M 0) (M 1) 0 2 := by
  simp [dtm, lapM, lo, rs, d2, d3] <;> grind
theorem de_3_6 (M : Nat → Nat → Fin 5) : dtm M 2 3 6 = d2 (M 0) (M 1) 1 2 := by
  simp [dtm, lapM, lo, rs, d2, d3] <;> grind
theorem de_3_9 (M : Nat → Nat → Fin 5) : dtm M 2 3 9 = d2 (M 0) (M 1) 0 3 := by
  simp [dtm, lapM, lo, rs, d2, d3] <;> grind
theorem de_3_10 (M : Nat → Nat → Fin 5) : dtm M 2 3 10 = d2 (M 0) (M 1) 1 3 := by
  simp [dtm, lapM, lo, rs, d2, d3] <;> grind
theorem de_3_12 (M : Nat → Nat → Fin 5) : dtm M 2 3 12 = d2 (M 0) (M 1) 2 3 := by
  simp [dtm, lapM, lo, rs, d2, d3] <;> grind
theorem de_5_3 (M : Nat → Nat → Fin 5) : dtm M 2 5 3 = d2 (M 0) (M 2) 0 1 := by
  simp [dtm, lapM, lo, rs, d2, d3] <;> grind
theorem de_5_5 (M : Nat → Nat → Fin 5) : dtm M 2 5 5 = d2 (M 0) (M 2) 0 2 := by
  simp [dtm, lapM, lo, rs, d2, d3] <;> grind
theorem de_5_6 (M : Nat → Nat → Fin 5) : dtm M 2 5 6 = d2 (M 0) (M 2) 1 2 := by
  simp [dtm, lapM, lo, rs, d2, d3] <;> grind
theorem de_5_9 (M : Nat → Nat → Fin 5) : dtm M 2 5 9 = d2 (M 0) (M 2) 0 3 := by
  simp [dtm, lapM, lo, rs, d2, d3] <;> grind
theorem de_5_10 (M : Nat → Nat → Fin 5) : dtm M 2 5 10 = d2 (M 0) (M 2) 1 3 := by
  simp [dtm, lapM, lo, rs, d2, d3] <;> grind
theorem de_5_12 (M : Nat → Nat → Fin 5) : dtm M 2 5 12 = d2 (M 0) (M 2) 2 3 := by
  simp [dtm, lapM, lo, rs, d2, d3] <;> grind
theorem de_6_3 (M : Nat → Nat → Fin 5) : dtm M 2 6 3 = d2 (M 1) (M 2) 0 1 := by
  simp [dtm, lapM, lo, rs, d2, d3] <;> grind
theorem de_6_5 (M : Nat → Nat → Fin 5) : dtm M 2 6 5 = d2 (M 1) (M 2) 0 2 := by
  simp [dtm, lapM, lo, rs, d2, d3] <;> grind
theorem de_6_6 (M : Nat → Nat → Fin 5) : dtm M 2 6 6 = d2 (M 1) (M 2) 1 2 := by
  simp [dtm, lapM, lo, rs, d2, d3] <;> grind
theorem de_6_9 (M : Nat → Nat → Fin 5) : dtm M 2 6 9 = d2 (M 1) (M 2) 0 3 := by
  simp [dtm, lapM, lo, rs, d2, d3] <;> grind
theorem de_6_10 (M : Nat → Nat → Fin 5) : dtm M 2 6 10 = d2 (M 1) (M 2) 1 3 := by
  simp [dtm, lapM, lo, rs, d2, d3] <;> grind
theorem de_6_12 (M : Nat → Nat → Fin 5) : dtm M 2 6 12 = d2 (M 1) (M 2) 2 3 := by
  simp [dtm, lapM, lo, rs, d2, d3] <;> grind
theorem de_9_3 (M : Nat → Nat → Fin 5) : dtm M 2 9 3 = d2 (M 0) (M 3) 0 1 := by
  simp [dtm, lapM, lo, rs, d2, d3] <;> grind
theorem de_9_5 (M : Nat → Nat → Fin 5) : dtm M 2 9 5 = d2 (M 0) (M 3) 0 2 := by
  simp [dtm, lapM, lo, rs, d2, d3] <;> grind
theorem de_9_6 (M : Nat → Nat → Fin 5) : dtm M 2 9 6 = d2 (M 0) (M 3) 1 2 := by
  simp [dtm, lapM, lo, rs, d2, d3] <;> grind
theorem de_9_9 (M : Nat → Nat → Fin 5) : dtm M 2 9 9 = d2 (M 0) (M 3) 0 3 := by
  simp [dtm, lapM, lo, rs, d2, d3] <;> grind
theorem de_9_10 (M : Nat → Nat → Fin 5) : dtm M 2 9 10 = d2 (M 0) (M 3) 1 3 := by
  simp [dtm, lapM, lo, rs, d2, d3] <;> grind
theorem de_9_12 (M : Nat → Nat → Fin 5) : dtm M 2 9 12 = d2 (M 0) (M 3) 2 3 := by
  simp [dtm, lapM, lo, rs, d2, d3] <;> grind
theorem de_10_3 (M : Nat → Nat → Fin 5) : dtm M 2 10 3 = d2 (M 1) (M 3) 0 1 := by
  simp [dtm, lapM, lo, rs, d2, d3] <;> grind
theorem de_10_5 (M : Nat → Nat → Fin 5) : dtm M 2 10 5 = d2 (M 1) (M 3) 0 2 := by
  simp [dtm, lapM, lo, rs, d2, d3] <;> grind
theorem de_10_6 (M : Nat → Nat → Fin 5) : dtm M 2 10 6 = d2 (M 1) (M 3) 1 2 := by
  simp [dtm, lapM, lo, rs, d2, d3] <;> grind
theorem de_10_9 (M : Nat → Nat → Fin 5) : dtm M 2 10 9 = d2 (M 1) (M 3) 0 3 := by
  simp [dtm, lapM, lo, rs, d2, d3] <;> grind
theorem de_10_10 (M : Nat → Nat → Fin 5) : dtm M 2 10 10 = d2 (M 1) (M 3) 1 3 := by
  simp [dtm, lapM, lo, rs, d2, d3] <;> grind
theorem de_10_12 (M : Nat → Nat → Fin 5) : dtm M 2 10 12 = d2 (M 1) (M 3) 2 3 := by
  simp [dtm, lapM, lo, rs, d2, d3] <;> grind
theorem de_12_3 (M : Nat → Nat → Fin 5) : dtm M 2 12 3 = d2 (M 2) (M 3) 0 1 := by
  simp [dtm, lapM, lo, rs, d2, d3] <;> grind
theorem de_12_5 (M : Nat → Nat → Fin 5) : dtm M 2 12 5 = d2 (M 2) (M 3) 0 2 := by
  simp [dtm, lapM, lo, rs, d2, d3] <;> grind
theorem de_12_6 (M : Nat → Nat → Fin 5) : dtm M 2 12 6 = d2 (M 2) (M 3) 1 2 := by
  simp [dtm, lapM, lo, rs, d2, d3] <;> grind
theorem de_12_9 (M : Nat → Nat → Fin 5) : dtm M 2 12 9 = d2 (M 2) (M 3) 0 3 := by
  simp [dtm, lapM, lo, rs, d2, d3] <;> grind
theorem de_12_10 (M : Nat → Nat → Fin 5) : dtm M 2 12 10 = d2 (M 2) (M 3) 1 3 := by
  simp [dtm, lapM, lo, rs, d2, d3] <;> grind
theorem de_12_12 (M : Nat → Nat → Fin 5) : dtm M 2 12 12 = d2 (M 2) (M 3) 2 3 := by
  simp [dtm, lapM, lo, rs, d2, d3] <;> grind
theorem der2_3 (M : Nat → Nat → Fin 5) : ∀ C, C < 16 → pc C = 2 → (fun R => dtm M 2 R C = d2 (M (lo R)) (M (lo (rs R))) (lo C) (lo (rs C))) 3 := by
  intro C hC h
  match C, hC, h with
  | 0, _, h => exact absurd h (by decide)
  | 1, _, h => exact absurd h (by decide)
  | 2, _, h => exact absurd h (by decide)
  | 3, _, _ => exact de_3_3 M
  | 4, _, h => exact absurd h (by decide)
  | 5, _, _ => exact de_3_5 M
  | 6, _, _ => exact de_3_6 M
  | 7, _, h => exact absurd h (by decide)
  | 8, _, h => exact absurd h (by decide)
  | 9, _, _ => exact de_3_9 M
  | 10, _, _ => exact de_3_10 M
  | 11, _, h => exact absurd h (by decide)
  | 12, _, _ => exact de_3_12 M
  | 13, _, h => exact absurd h (by decide)
  | 14, _, h => exact absurd h (by decide)
  | 15, _, h => exact absurd h (by decide)
  | (n + 16), hC, _ => exact absurd hC (by omega)
theorem der2_5 (M : Nat → Nat → Fin 5) : ∀ C, C < 16 → pc C = 2 → (fun R => dtm M 2 R C = d2 (M (lo R)) (M (lo (rs R))) (lo C) (lo (rs C))) 5 := by
  intro C hC h
  match C, hC, h with
  | 0, _, h => exact absurd h (by decide)
  | 1, _, h => exact absurd h (by decide)
  | 2, _, h => exact absurd h (by decide)
  | 3, _, _ => exact de_5_3 M
  | 4, _, h => exact absurd h (by decide)
  | 5, _, _ => exact de_5_5 M
  | 6, _, _ => exact de_5_6 M
  | 7, _, h => exact absurd h (by decide)
  | 8, _, h => exact absurd h (by decide)
  | 9, _, _ => exact de_5_9 M
  | 10, _, _ => exact de_5_10 M
  | 11, _, h => exact absurd h (by decide)
  | 12, _, _ => exact de_5_12 M
  | 13, _, h => exact absurd h (by decide)
  | 14, _, h => exact absurd h (by decide)
  | 15, _, h => exact absurd h (by decide)
  | (n + 16), hC, _ => exact absurd hC (by omega)
theorem der2_6 (M : Nat → Nat → Fin 5) : ∀ C, C < 16 → pc C = 2 → (fun R => dtm M 2 R C = d2 (M (lo R)) (M (lo (rs R))) (lo C) (lo (rs C))) 6 := by
  intro C hC h
  match C, hC, h with
  | 0, _, h => exact absurd h (by decide)
  | 1, _, h => exact absurd h (by decide)
  | 2, _, h => exact absurd h (by decide)
  | 3, _, _ => exact de_6_3 M
  | 4, _, h => exact absurd h (by decide)
  | 5, _, _ => exact de_6_5 M
  | 6, _, _ => exact de_6_6 M
  | 7, _, h => exact absurd h (by decide)
  | 8, _, h => exact absurd h (by decide)
  | 9, _, _ => exact de_6_9 M
  | 10, _, _ => exact de_6_10 M
  | 11, _, h => exact absurd h (by decide)
  | 12, _, _ => exact de_6_12 M
  | 13, _, h => exact absurd h (by decide)
  | 14, _, h => exact absurd h (by decide)
  | 15, _, h => exact absurd h (by decide)
  | (n + 16), hC, _ => exact absurd hC (by omega)
theorem der2_9 (M : Nat → Nat → Fin 5) : ∀ C, C < 16 → pc C = 2 → (fun R => dtm M 2 R C = d2 (M (lo R)) (M (lo (rs R))) (lo C) (lo (rs C))) 9 := by
  intro C hC h
  match C, hC, h with
  | 0, _, h => exact absurd h (by decide)
  | 1, _, h => exact absurd h (by decide)
  | 2, _, h => exact absurd h (by decide)
  | 3, _, _ => exact de_9_3 M
  | 4, _, h => exact absurd h (by decide)
  | 5, _, _ => exact de_9_5 M
  | 6, _, _ => exact de_9_6 M
  | 7, _, h => exact absurd h (by decide)
  | 8, _, h => exact absurd h (by decide)
  | 9, _, _ => exact de_9_9 M
  | 10, _, _ => exact de_9_10 M
  | 11, _, h => exact absurd h (by decide)
  | 12, _, _ => exact de_9_12 M
  | 13, _, h => exact absurd h (by decide)
  | 14, _, h => exact absurd h (by decide)
  | 15, _, h => exact absurd h (by decide)
  | (n + 16), hC, _ => exact absurd hC (by omega)
theorem der2_10 (M : Nat → Nat → Fin 5) : ∀ C, C < 16 → pc C = 2 → (fun R => dtm M 2 R C = d2 (M (lo R)) (M (lo (rs R))) (lo C) (lo (rs C))) 10 := by
  intro C hC h
  match C, hC, h with
  | 0, _, h => exact absurd h (by decide)
  | 1, _, h => exact absurd h (by decide)
  | 2, _, h => exact absurd h (by decide)
  | 3, _, _ => exact de_10_3 M
  | 4, _, h => exact absurd h (by decide)
  | 5, _, _ => exact de_10_5 M
  | 6, _, _ => exact de_10_6 M
  | 7, _, h => exact absurd h (by decide)
  | 8, _, h => exact absurd h (by decide)
  | 9, _, _ => exact de_10_9 M
  | 10, _, _ => exact de_10_10 M
  | 11, _, h => exact absurd h (by decide)
  | 12, _, _ => exact de_10_12 M
  | 13, _, h => exact absurd h (by decide)
  | 14, _, h => exact absurd h (by decide)
  | 15, _, h => exact absurd h (by decide)
  | (n + 16), hC, _ => exact absurd hC (by omega)
theorem der2_12 (M : Nat → Nat → Fin 5) : ∀ C, C < 16 → pc C = 2 → (fun R => dtm M 2 R C = d2 (M (lo R)) (M (lo (rs R))) (lo C) (lo (rs C))) 12 := by
  intro C hC h
  match C, hC, h with
  | 0, _, h => exact absurd h (by decide)
  | 1, _, h => exact absurd h (by decide)
  | 2, _, h => exact absurd h (by decide)
  | 3, _, _ => exact de_12_3 M
  | 4, _, h => exact absurd h (by decide)
  | 5, _, _ => exact de_12_5 M
  | 6, _, _ => exact de_12_6 M
  | 7, _, h => exact absurd h (by decide)
  | 8, _, h => exact absurd h (by decide)
  | 9, _, _ => exact de_12_9 M
  | 10, _, _ => exact de_12_10 M
  | 11, _, h => exact absurd h (by decide)
  | 12, _, _ => exact de_12_12 M
  | 13, _, h => exact absurd h (by decide)
  | 14, _, h => exact absurd h (by decide)
  | 15, _, h => exact absurd h (by decide)
  | (n + 16), hC, _ => exact absurd hC (by omega)
theorem dt_2 (M : Nat → Nat → Fin 5) : ∀ R, R < 16 → pc R = 2 → ∀ C, C < 16 → pc C = 2 → dtm M 2 R C = d2 (M (lo R)) (M (lo (rs R))) (lo C) (lo (rs C)) := by
  intro R hR h
  match R, hR, h with
  | 0, _, h => exact absurd h (by decide)
  | 1, _, h => exact absurd h (by decide)
  | 2, _, h => exact absurd h (by decide)
  | 3, _, _ => exact der2_3 M
  | 4, _, h => exact absurd h (by decide)
  | 5, _, _ => exact der2_5 M
  | 6, _, _ => exact der2_6 M
  | 7, _, h => exact absurd h (by decide)
  | 8, _, h => exact absurd h (by decide)
  | 9, _, _ => exact der2_9 M
  | 10, _, _ => exact der2_10 M
  | 11, _, h => exact absurd h (by decide)
  | 12, _, _ => exact der2_12 M
  | 13, _, h => exact absurd h (by decide)
  | 14, _, h => exact absurd h (by decide)
  | 15, _, h => exact absurd h (by decide)
  | (n + 16), hR, _ => exact absurd hR (by omega)
theorem de_7_7 (M : Nat → Nat → Fin 5) : dtm M 3 7 7 = d3 (M 0) (M 1) (M 2) 0 1 2 := by
  simp [dtm, lapM, lo, rs, d2, d3] <;> grind
theorem de_7_11 (M : Nat → Nat → Fin 5) : dtm M 3 7 11 = d3 (M 0) (M 1) (M 2) 0 1 3 := by
  simp [dtm, lapM, lo, rs, d2, d3] <;> grind
theorem de_7_13 (M : Nat → Nat → Fin 5) : dtm M 3 7 13 = d3 (M 0) (M 1) (M 2) 0 2 3 := by
  simp [dtm, lapM, lo, rs, d2, d3] <;> grind
theorem de_7_14 (M : Nat → Nat → Fin 5) : dtm M 3 7 14 = d3 (M 0) (M 1) (M 2) 1 2 3 := by
  simp [dtm, lapM, lo, rs, d2, d3] <;> grind
theorem de_11_7 (M : Nat → Nat → Fin 5) : dtm M 3 11 7 = d3 (M 0) (M 1) (M 3) 0 1 2 := by
  simp [dtm, lapM, lo, rs, d2, d3] <;> grind
theorem de_11_11 (M : Nat → Nat → Fin 5) : dtm M 3 11 11 = d3 (M 0) (M 1) (M 3) 0 1 3 := by
  simp [dtm, lapM, lo, rs, d2, d3] <;> grind
theorem de_11_13 (M : Nat → Nat → Fin 5) : dtm M 3 11 13 = d3 (M 0) (M 1) (M 3) 0 2 3 := by
  simp [dtm, lapM, lo, rs, d2, d3] <;> grind
theorem de_11_14 (M : Nat → Nat → Fin 5) : dtm M 3 11 14 = d3 (M 0) (M 1) (M 3) 1 2 3 := by
  simp [dtm, lapM, lo, rs, d2, d3] <;> grind
theorem de_13_7 (M : Nat → Nat → Fin 5) : dtm M 3 13 7 = d3 (M 0) (M 2) (M 3) 0 1 2 := by
  simp [dtm, lapM, lo, rs, d2, d3] <;> grind
theorem de_13_11 (M : Nat → Nat → Fin 5) : dtm M 3 13 11 = d3 (M 0) (M 2) (M 3) 0 1 3 := by
  simp [dtm, lapM, lo, rs, d2, d3] <;> grind
theorem de_13_13 (M : Nat → Nat → Fin 5) : dtm M 3 13 13 = d3 (M 0) (M 2) (M 3) 0 2 3 := by
  simp [dtm, lapM, lo, rs, d2, d3] <;> grind
theorem de_13_14 (M : Nat → Nat → Fin 5) : dtm M 3 13 14 = d3 (M 0) (M 2) (M 3) 1 2 3 := by
  simp [dtm, lapM, lo, rs, d2, d3] <;> grind
theorem de_14_7 (M : Nat → Nat → Fin 5) : dtm M 3 14 7 = d3 (M 1) (M 2) (M 3) 0 1 2 := by
  simp [dtm, lapM, lo, rs, d2, d3] <;> grind
theorem de_14_11 (M : Nat → Nat → Fin 5) : dtm M 3 14 11 = d3 (M 1) (M 2) (M 3) 0 1 3 := by
  simp [dtm, lapM, lo, rs, d2, d3] <;> grind
theorem de_14_13 (M : Nat → Nat → Fin 5) : dtm M 3 14 13 = d3 (M 1) (M 2) (M 3) 0 2 3 := by
  simp [dtm, lapM, lo, rs, d2, d3] <;> grind
theorem de_14_14 (M : Nat → Nat → Fin 5) : dtm M 3 14 14 = d3 (M 1) (M 2) (M 3) 1 2 3 := by
  simp [dtm, lapM, lo, rs, d2, d3] <;> grind
theorem der3_7 (M : Nat → Nat → Fin 5) : ∀ C, C < 16 → pc C = 3 → (fun R => dtm M 3 R C = d3 (M (lo R)) (M (lo (rs R))) (M (lo (rs (rs R)))) (lo C) (lo (rs C)) (lo (rs (rs C)))) 7 := by
  intro C hC h
  match C, hC, h with
  | 0, _, h => exact absurd h (by decide)
  | 1, _, h => exact absurd h (by decide)
  | 2, _, h => exact absurd h (by decide)
  | 3, _, h => exact absurd h (by decide)
  | 4, _, h => exact absurd h (by decide)
  | 5, _, h => exact absurd h (by decide)
  | 6, _, h => exact absurd h (by decide)
  | 7, _, _ => exact de_7_7 M
  | 8, _, h => exact absurd h (by decide)
  | 9, _, h => exact absurd h (by decide)
  | 10, _, h => exact absurd h (by decide)
  | 11, _, _ => exact de_7_11 M
  | 12, _, h => exact absurd h (by decide)
  | 13, _, _ => exact de_7_13 M
  | 14, _, _ => exact de_7_14 M
  | 15, _, h => exact absurd h (by decide)
  | (n + 16), hC, _ => exact absurd hC (by omega)
theorem der3_11 (M : Nat → Nat → Fin 5) : ∀ C, C < 16 → pc C = 3 → (fun R => dtm M 3 R C = d3 (M (lo R)) (M (lo (rs R))) (M (lo (rs (rs R)))) (lo C) (lo (rs C)) (lo (rs (rs C)))) 11 := by
  intro C hC h
  match C, hC, h with
  | 0, _, h => exact absurd h (by decide)
  | 1, _, h => exact absurd h (by decide)
  | 2, _, h => exact absurd h (by decide)
  | 3, _, h => exact absurd h (by decide)
  | 4, _, h => exact absurd h (by decide)
  | 5, _, h => exact absurd h (by decide)
  | 6, _, h => exact absurd h (by decide)
  | 7, _, _ => exact de_11_7 M
  | 8, _, h => exact absurd h (by decide)
  | 9, _, h => exact absurd h (by decide)
  | 10, _, h => exact absurd h (by decide)
  | 11, _, _ => exact de_11_11 M
  | 12, _, h => exact absurd h (by decide)
  | 13, _, _ => exact de_11_13 M
  | 14, _, _ => exact de_11_14 M
  | 15, _, h => exact absurd h (by decide)
  | (n + 16), hC, _ => exact absurd hC (by omega)
theorem der3_13 (M : Nat → Nat → Fin 5) : ∀ C, C < 16 → pc C = 3 → (fun R => dtm M 3 R C = d3 (M (lo R)) (M (lo (rs R))) (M (lo (rs (rs R)))) (lo C) (lo (rs C)) (lo (rs (rs C)))) 13 := by
  intro C hC h
  match C, hC, h with
  | 0, _, h => exact absurd h (by decide)
  | 1, _, h => exact absurd h (by decide)
  | 2, _, h => exact absurd h (by decide)
  | 3, _, h => exact absurd h (by decide)
  | 4, _, h => exact absurd h (by decide)
  | 5, _, h => exact absurd h (by decide)
  | 6, _, h => exact absurd h (by decide)
  | 7, _, _ => exact de_13_7 M
  | 8, _, h => exact absurd h (by decide)
  | 9, _, h => exact absurd h (by decide)
  | 10, _, h => exact absurd h (by decide)
  | 11, _, _ => exact de_13_11 M
  | 12, _, h => exact absurd h (by decide)
  | 13, _, _ => exact de_13_13 M
  | 14, _, _ => exact de_13_14 M
  | 15, _, h => exact absurd h (by decide)
  | (n + 16), hC, _ => exact absurd hC (by omega)
theorem der3_14 (M : Nat → Nat → Fin 5) : ∀ C, C < 16 → pc C = 3 → (fun R => dtm M 3 R C = d3 (M (lo R)) (M (lo (rs R))) (M (lo (rs (rs R)))) (lo C) (lo (rs C)) (lo (rs (rs C)))) 14 := by
  intro C hC h
  match C, hC, h with
  | 0, _, h => exact absurd h (by decide)
  | 1, _, h => exact absurd h (by decide)
  | 2, _, h => exact absurd h (by decide)
  | 3, _, h => exact absurd h (by decide)
  | 4, _, h => exact absurd h (by decide)
  | 5, _, h => exact absurd h (by decide)
  | 6, _, h => exact absurd h (by decide)
  | 7, _, _ => exact de_14_7 M
  | 8, _, h => exact absurd h (by decide)
  | 9, _, h => exact absurd h (by decide)
  | 10, _, h => exact absurd h (by decide)
  | 11, _, _ => exact de_14_11 M
  | 12, _, h => exact absurd h (by decide)
  | 13, _, _ => exact de_14_13 M
  | 14, _, _ => exact de_14_14 M
  | 15, _, h => exact absurd h (by decide)
  | (n + 16), hC, _ => exact absurd hC (by omega)
theorem dt_3 (M : Nat → Nat → Fin 5) : ∀ R, R < 16 → pc R = 3 → ∀ C, C < 16 → pc C = 3 → dtm M 3 R C = d3 (M (lo R)) (M (lo (rs R))) (M (lo (rs (rs R)))) (lo C) (lo (rs C)) (lo (rs (rs C))) := by
  intro R hR h
  match R, hR, h with
  | 0, _, h => exact absurd h (by decide)
  | 1, _, h => exact absurd h (by decide)
  | 2, _, h => exact absurd h (by decide)
  | 3, _, h => exact absurd h (by decide)
  | 4, _, h => exact absurd h (by decide)
  | 5, _, h => exact absurd h (by decide)
  | 6, _, h => exact absurd h (by decide)
  | 7, _, _ => exact der3_7 M
  | 8, _, h => exact absurd h (by decide)
  | 9, _, h => exact absurd h (by decide)
  | 10, _, h => exact absurd h (by decide)
  | 11, _, _ => exact der3_11 M
  | 12, _, h => exact absurd h (by decide)
  | 13, _, _ => exact der3_13 M
  | 14, _, _ => exact der3_14 M
  | 15, _, h => exact absurd h (by decide)
  | (n + 16), hR, _ => exact absurd hR (by omega)
