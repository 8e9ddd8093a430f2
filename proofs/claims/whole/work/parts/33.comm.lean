/-! the equations say that the matrices commute -/
def mx (N : Nat) (x : Nat → Fin 5) : Nat → Nat → Fin 5 := fun i j => x (N * i + j)
def comm (N : Nat) (a : Nat → Nat → Fin 5) (x : Nat → Fin 5) : Prop := fEq N (fM N a (mx N x)) (fM N (mx N x) a)
theorem kc1_0_0 (a : Nat → Nat → Nat) (h5 : ∀ i j, kk (5 - a i j) = - kk (a i j)) (x : Nat → Fin 5) : fs (fun k => kk (adc 1 a 0 k) * x k) 1 = fM 1 (fun i j => kk (a i j)) (mx 1 x) 0 0 - fM 1 (mx 1 x) (fun i j => kk (a i j)) 0 0 := by
  simp [fs, adc, fM, mx, kk_mod, kk_add, h5, kk_0]
  grind
theorem kc2_0_0 (a : Nat → Nat → Nat) (h5 : ∀ i j, kk (5 - a i j) = - kk (a i j)) (x : Nat → Fin 5) : fs (fun k => kk (adc 2 a 0 k) * x k) 4 = fM 2 (fun i j => kk (a i j)) (mx 2 x) 0 0 - fM 2 (mx 2 x) (fun i j => kk (a i j)) 0 0 := by
  simp [fs, adc, fM, mx, kk_mod, kk_add, h5, kk_0]
  grind
theorem kc2_0_1 (a : Nat → Nat → Nat) (h5 : ∀ i j, kk (5 - a i j) = - kk (a i j)) (x : Nat → Fin 5) : fs (fun k => kk (adc 2 a 1 k) * x k) 4 = fM 2 (fun i j => kk (a i j)) (mx 2 x) 0 1 - fM 2 (mx 2 x) (fun i j => kk (a i j)) 0 1 := by
  simp [fs, adc, fM, mx, kk_mod, kk_add, h5, kk_0]
  grind
theorem kc2_1_0 (a : Nat → Nat → Nat) (h5 : ∀ i j, kk (5 - a i j) = - kk (a i j)) (x : Nat → Fin 5) : fs (fun k => kk (adc 2 a 2 k) * x k) 4 = fM 2 (fun i j => kk (a i j)) (mx 2 x) 1 0 - fM 2 (mx 2 x) (fun i j => kk (a i j)) 1 0 := by
  simp [fs, adc, fM, mx, kk_mod, kk_add, h5, kk_0]
  grind
theorem kc2_1_1 (a : Nat → Nat → Nat) (h5 : ∀ i j, kk (5 - a i j) = - kk (a i j)) (x : Nat → Fin 5) : fs (fun k => kk (adc 2 a 3 k) * x k) 4 = fM 2 (fun i j => kk (a i j)) (mx 2 x) 1 1 - fM 2 (mx 2 x) (fun i j => kk (a i j)) 1 1 := by
  simp [fs, adc, fM, mx, kk_mod, kk_add, h5, kk_0]
  grind
theorem kc3_0_0 (a : Nat → Nat → Nat) (h5 : ∀ i j, kk (5 - a i j) = - kk (a i j)) (x : Nat → Fin 5) : fs (fun k => kk (adc 3 a 0 k) * x k) 9 = fM 3 (fun i j => kk (a i j)) (mx 3 x) 0 0 - fM 3 (mx 3 x) (fun i j => kk (a i j)) 0 0 := by
  simp [fs, adc, fM, mx, kk_mod, kk_add, h5, kk_0]
  grind
theorem kc3_0_1 (a : Nat → Nat → Nat) (h5 : ∀ i j, kk (5 - a i j) = - kk (a i j)) (x : Nat → Fin 5) : fs (fun k => kk (adc 3 a 1 k) * x k) 9 = fM 3 (fun i j => kk (a i j)) (mx 3 x) 0 1 - fM 3 (mx 3 x) (fun i j => kk (a i j)) 0 1 := by
  simp [fs, adc, fM, mx, kk_mod, kk_add, h5, kk_0]
  grind
theorem kc3_0_2 (a : Nat → Nat → Nat) (h5 : ∀ i j, kk (5 - a i j) = - kk (a i j)) (x : Nat → Fin 5) : fs (fun k => kk (adc 3 a 2 k) * x k) 9 = fM 3 (fun i j => kk (a i j)) (mx 3 x) 0 2 - fM 3 (mx 3 x) (fun i j => kk (a i j)) 0 2 := by
  simp [fs, adc, fM, mx, kk_mod, kk_add, h5, kk_0]
  grind
theorem kc3_1_0 (a : Nat → Nat → Nat) (h5 : ∀ i j, kk (5 - a i j) = - kk (a i j)) (x : Nat → Fin 5) : fs (fun k => kk (adc 3 a 3 k) * x k) 9 = fM 3 (fun i j => kk (a i j)) (mx 3 x) 1 0 - fM 3 (mx 3 x) (fun i j => kk (a i j)) 1 0 := by
  simp [fs, adc, fM, mx, kk_mod, kk_add, h5, kk_0]
  grind
theorem kc3_1_1 (a : Nat → Nat → Nat) (h5 : ∀ i j, kk (5 - a i j) = - kk (a i j)) (x : Nat → Fin 5) : fs (fun k => kk (adc 3 a 4 k) * x k) 9 = fM 3 (fun i j => kk (a i j)) (mx 3 x) 1 1 - fM 3 (mx 3 x) (fun i j => kk (a i j)) 1 1 := by
  simp [fs, adc, fM, mx, kk_mod, kk_add, h5, kk_0]
  grind
theorem kc3_1_2 (a : Nat → Nat → Nat) (h5 : ∀ i j, kk (5 - a i j) = - kk (a i j)) (x : Nat → Fin 5) : fs (fun k => kk (adc 3 a 5 k) * x k) 9 = fM 3 (fun i j => kk (a i j)) (mx 3 x) 1 2 - fM 3 (mx 3 x) (fun i j => kk (a i j)) 1 2 := by
  simp [fs, adc, fM, mx, kk_mod, kk_add, h5, kk_0]
  grind
theorem kc3_2_0 (a : Nat → Nat → Nat) (h5 : ∀ i j, kk (5 - a i j) = - kk (a i j)) (x : Nat → Fin 5) : fs (fun k => kk (adc 3 a 6 k) * x k) 9 = fM 3 (fun i j => kk (a i j)) (mx 3 x) 2 0 - fM 3 (mx 3 x) (fun i j => kk (a i j)) 2 0 := by
  simp [fs, adc, fM, mx, kk_mod, kk_add, h5, kk_0]
  grind
theorem kc3_2_1 (a : Nat → Nat → Nat) (h5 : ∀ i j, kk (5 - a i j) = - kk (a i j)) (x : Nat → Fin 5) : fs (fun k => kk (adc 3 a 7 k) * x k) 9 = fM 3 (fun i j => kk (a i j)) (mx 3 x) 2 1 - fM 3 (mx 3 x) (fun i j => kk (a i j)) 2 1 := by
  simp [fs, adc, fM, mx, kk_mod, kk_add, h5, kk_0]
  grind
theorem kc3_2_2 (a : Nat → Nat → Nat) (h5 : ∀ i j, kk (5 - a i j) = - kk (a i j)) (x : Nat → Fin 5) : fs (fun k => kk (adc 3 a 8 k) * x k) 9 = fM 3 (fun i j => kk (a i j)) (mx 3 x) 2 2 - fM 3 (mx 3 x) (fun i j => kk (a i j)) 2 2 := by
  simp [fs, adc, fM, mx, kk_mod, kk_add, h5, kk_0]
  grind
theorem kc4_0_0 (a : Nat → Nat → Nat) (h5 : ∀ i j, kk (5 - a i j) = - kk (a i j)) (x : Nat → Fin 5) : fs (fun k => kk (adc 4 a 0 k) * x k) 16 = fM 4 (fun i j => kk (a i j)) (mx 4 x) 0 0 - fM 4 (mx 4 x) (fun i j => kk (a i j)) 0 0 := by
  simp [fs, adc, fM, mx, kk_mod, kk_add, h5, kk_0]
  grind
theorem kc4_0_1 (a : Nat → Nat → Nat) (h5 : ∀ i j, kk (5 - a i j) = - kk (a i j)) (x : Nat → Fin 5) : fs (fun k => kk (adc 4 a 1 k) * x k) 16 = fM 4 (fun i j => kk (a i j)) (mx 4 x) 0 1 - fM 4 (mx 4 x) (fun i j => kk (a i j)) 0 1 := by
  simp [fs, adc, fM, mx, kk_mod, kk_add, h5, kk_0]
  grind
theorem kc4_0_2 (a : Nat → Nat → Nat) (h5 : ∀ i j, kk (5 - a i j) = - kk (a i j)) (x : Nat → Fin 5) : fs (fun k => kk (adc 4 a 2 k) * x k) 16 = fM 4 (fun i j => kk (a i j)) (mx 4 x) 0 2 - fM 4 (mx 4 x) (fun i j => kk (a i j)) 0 2 := by
  simp [fs, adc, fM, mx, kk_mod, kk_add, h5, kk_0]
  grind
theorem kc4_0_3 (a : Nat → Nat → Nat) (h5 : ∀ i j, kk (5 - a i j) = - kk (a i j)) (x : Nat → Fin 5) : fs (fun k => kk (adc 4 a 3 k) * x k) 16 = fM 4 (fun i j => kk (a i j)) (mx 4 x) 0 3 - fM 4 (mx 4 x) (fun i j => kk (a i j)) 0 3 := by
  simp [fs, adc, fM, mx, kk_mod, kk_add, h5, kk_0]
  grind
theorem kc4_1_0 (a : Nat → Nat → Nat) (h5 : ∀ i j, kk (5 - a i j) = - kk (a i j)) (x : Nat → Fin 5) : fs (fun k => kk (adc 4 a 4 k) * x k) 16 = fM 4 (fun i j => kk (a i j)) (mx 4 x) 1 0 - fM 4 (mx 4 x) (fun i j => kk (a i j)) 1 0 := by
  simp [fs, adc, fM, mx, kk_mod, kk_add, h5, kk_0]
  grind
theorem kc4_1_1 (a : Nat → Nat → Nat) (h5 : ∀ i j, kk (5 - a i j) = - kk (a i j)) (x : Nat → Fin 5) : fs (fun k => kk (adc 4 a 5 k) * x k) 16 = fM 4 (fun i j => kk (a i j)) (mx 4 x) 1 1 - fM 4 (mx 4 x) (fun i j => kk (a i j)) 1 1 := by
  simp [fs, adc, fM, mx, kk_mod, kk_add, h5, kk_0]
  grind
theorem kc4_1_2 (a : Nat → Nat → Nat) (h5 : ∀ i j, kk (5 - a i j) = - kk (a i j)) (x : Nat → Fin 5) : fs (fun k => kk (adc 4 a 6 k) * x k) 16 = fM 4 (fun i j => kk (a i j)) (mx 4 x) 1 2 - fM 4 (mx 4 x) (fun i j => kk (a i j)) 1 2 := by
  simp [fs, adc, fM, mx, kk_mod, kk_add, h5, kk_0]
  grind
theorem kc4_1_3 (a : Nat → Nat → Nat) (h5 : ∀ i j, kk (5 - a i j) = - kk (a i j)) (x : Nat → Fin 5) : fs (fun k => kk (adc 4 a 7 k) * x k) 16 = fM 4 (fun i j => kk (a i j)) (mx 4 x) 1 3 - fM 4 (mx 4 x) (fun i j => kk (a i j)) 1 3 := by
  simp [fs, adc, fM, mx, kk_mod, kk_add, h5, kk_0]
  grind
theorem kc4_2_0 (a : Nat → Nat → Nat) (h5 : ∀ i j, kk (5 - a i j) = - kk (a i j)) (x : Nat → Fin 5) : fs (fun k => kk (adc 4 a 8 k) * x k) 16 = fM 4 (fun i j => kk (a i j)) (mx 4 x) 2 0 - fM 4 (mx 4 x) (fun i j => kk (a i j)) 2 0 := by
  simp [fs, adc, fM, mx, kk_mod, kk_add, h5, kk_0]
  grind
theorem kc4_2_1 (a : Nat → Nat → Nat) (h5 : ∀ i j, kk (5 - a i j) = - kk (a i j)) (x : Nat → Fin 5) : fs (fun k => kk (adc 4 a 9 k) * x k) 16 = fM 4 (fun i j => kk (a i j)) (mx 4 x) 2 1 - fM 4 (mx 4 x) (fun i j => kk (a i j)) 2 1 := by
  simp [fs, adc, fM, mx, kk_mod, kk_add, h5, kk_0]
  grind
theorem kc4_2_2 (a : Nat → Nat → Nat) (h5 : ∀ i j, kk (5 - a i j) = - kk (a i j)) (x : Nat → Fin 5) : fs (fun k => kk (adc 4 a 10 k) * x k) 16 = fM 4 (fun i j => kk (a i j)) (mx 4 x) 2 2 - fM 4 (mx 4 x) (fun i j => kk (a i j)) 2 2 := by
  simp [fs, adc, fM, mx, kk_mod, kk_add, h5, kk_0]
  grind
theorem kc4_2_3 (a : Nat → Nat → Nat) (h5 : ∀ i j, kk (5 - a i j) = - kk (a i j)) (x : Nat → Fin 5) : fs (fun k => kk (adc 4 a 11 k) * x k) 16 = fM 4 (fun i j => kk (a i j)) (mx 4 x) 2 3 - fM 4 (mx 4 x) (fun i j => kk (a i j)) 2 3 := by
  simp [fs, adc, fM, mx, kk_mod, kk_add, h5, kk_0]
  grind
theorem kc4_3_0 (a : Nat → Nat → Nat) (h5 : ∀ i j, kk (5 - a i j) = - kk (a i j)) (x : Nat → Fin 5) : fs (fun k => kk (adc 4 a 12 k) * x k) 16 = fM 4 (fun i j => kk (a i j)) (mx 4 x) 3 0 - fM 4 (mx 4 x) (fun i j => kk (a i j)) 3 0 := by
  simp [fs, adc, fM, mx, kk_mod, kk_add, h5, kk_0]
  grind
theorem kc4_3_1 (a : Nat → Nat → Nat) (h5 : ∀ i j, kk (5 - a i j) = - kk (a i j)) (x : Nat → Fin 5) : fs (fun k => kk (adc 4 a 13 k) * x k) 16 = fM 4 (fun i j => kk (a i j)) (mx 4 x) 3 1 - fM 4 (mx 4 x) (fun i j => kk (a i j)) 3 1 := by
  simp [fs, adc, fM, mx, kk_mod, kk_add, h5, kk_0]
  grind
theorem kc4_3_2 (a : Nat → Nat → Nat) (h5 : ∀ i j, kk (5 - a i j) = - kk (a i j)) (x : Nat → Fin 5) : fs (fun k => kk (adc 4 a 14 k) * x k) 16 = fM 4 (fun i j => kk (a i j)) (mx 4 x) 3 2 - fM 4 (mx 4 x) (fun i j => kk (a i j)) 3 2 := by
  simp [fs, adc, fM, mx, kk_mod, kk_add, h5, kk_0]
  grind
theorem kc4_3_3 (a : Nat → Nat → Nat) (h5 : ∀ i j, kk (5 - a i j) = - kk (a i j)) (x : Nat → Fin 5) : fs (fun k => kk (adc 4 a 15 k) * x k) 16 = fM 4 (fun i j => kk (a i j)) (mx 4 x) 3 3 - fM 4 (mx 4 x) (fun i j => kk (a i j)) 3 3 := by
  simp [fs, adc, fM, mx, kk_mod, kk_add, h5, kk_0]
  grind
theorem kc_all (a : Nat → Nat → Nat) (h5 : ∀ i j, kk (5 - a i j) = - kk (a i j)) (x : Nat → Fin 5) {N : Nat} (h1 : 1 ≤ N) (h4 : N ≤ 4) {i j : Nat} (hi : i < N) (hj : j < N) : fs (fun k => kk (adc N a (N * i + j) k) * x k) (N * N) = fM N (fun i j => kk (a i j)) (mx N x) i j - fM N (mx N x) (fun i j => kk (a i j)) i j := by
  match N, h1, h4 with
  | 1, _, _ =>
    match i, hi, j, hj with
    | 0, _, 0, _ => exact kc1_0_0 a h5 x
  | 2, _, _ =>
    match i, hi, j, hj with
    | 0, _, 0, _ => exact kc2_0_0 a h5 x
    | 0, _, 1, _ => exact kc2_0_1 a h5 x
    | 1, _, 0, _ => exact kc2_1_0 a h5 x
    | 1, _, 1, _ => exact kc2_1_1 a h5 x
  | 3, _, _ =>
    match i, hi, j, hj with
    | 0, _, 0, _ => exact kc3_0_0 a h5 x
    | 0, _, 1, _ => exact kc3_0_1 a h5 x
    | 0, _, 2, _ => exact kc3_0_2 a h5 x
    | 1, _, 0, _ => exact kc3_1_0 a h5 x
    | 1, _, 1, _ => exact kc3_1_1 a h5 x
    | 1, _, 2, _ => exact kc3_1_2 a h5 x
    | 2, _, 0, _ => exact kc3_2_0 a h5 x
    | 2, _, 1, _ => exact kc3_2_1 a h5 x
    | 2, _, 2, _ => exact kc3_2_2 a h5 x
  | 4, _, _ =>
    match i, hi, j, hj with
    | 0, _, 0, _ => exact kc4_0_0 a h5 x
    | 0, _, 1, _ => exact kc4_0_1 a h5 x
    | 0, _, 2, _ => exact kc4_0_2 a h5 x
    | 0, _, 3, _ => exact kc4_0_3 a h5 x
    | 1, _, 0, _ => exact kc4_1_0 a h5 x
    | 1, _, 1, _ => exact kc4_1_1 a h5 x
    | 1, _, 2, _ => exact kc4_1_2 a h5 x
    | 1, _, 3, _ => exact kc4_1_3 a h5 x
    | 2, _, 0, _ => exact kc4_2_0 a h5 x
    | 2, _, 1, _ => exact kc4_2_1 a h5 x
    | 2, _, 2, _ => exact kc4_2_2 a h5 x
    | 2, _, 3, _ => exact kc4_2_3 a h5 x
    | 3, _, 0, _ => exact kc4_3_0 a h5 x
    | 3, _, 1, _ => exact kc4_3_1 a h5 x
    | 3, _, 2, _ => exact kc4_3_2 a h5 x
    | 3, _, 3, _ => exact kc4_3_3 a h5 x
theorem kc {N : Nat} (h1 : 1 ≤ N) (h4 : N ≤ 4) {a : Nat → Nat → Nat} (ha : ∀ i j, a i j < 5) (x : Nat → Fin 5) : kerl (adL N a) x ↔ comm N (fun i j => kk (a i j)) x := by
  have h5 : ∀ i j, kk (5 - a i j) = - kk (a i j) := fun i j => kk_5s (by have := ha i j; omega)
  refine ⟨fun h i j hi hj => ?_, fun h r hr => ?_⟩
  · have := h _ (List.mem_map.mpr ⟨N * i + j, List.mem_range.mpr (zi_lt hi hj), rfl⟩)
    rw [dotl_range, kc_all a h5 x h1 h4 hi hj] at this
    grind
  · obtain ⟨t, ht, rfl⟩ := List.mem_map.mp hr
    obtain ⟨i, j, hi, hj, rfl⟩ := zij (List.mem_range.mp ht)
    rw [dotl_range, kc_all a h5 x h1 h4 hi hj, h i j hi hj]
    grind
