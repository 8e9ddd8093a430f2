theorem L4s {a : Nat → Nat → Fin 5} (ha : sp 4 a) {x y s t l : Fin 5} (h0 : col a 0 0 1 0 0) (h1 : col a 1 x y 0 0) (h2 : col a 2 s 0 l 0) (h3 : col a 3 t 0 0 l) : NF4 a := by
  have H0 := h0; have H1 := h1; have H2 := h2; have H3 := h3
  obtain ⟨a00, a10, a20, a30⟩ := h0
  obtain ⟨a01, a11, a21, a31⟩ := h1
  obtain ⟨a02, a12, a22, a32⟩ := h2
  obtain ⟨a03, a13, a23, a33⟩ := h3
  by_cases hs : s = 0
  · by_cases ht : t = 0
    · by_cases hp : l * l - y * l - x = 0
      · refine Or.inr (Or.inr (Or.inr (Or.inr ⟨y.val, l.val, Fin.isLt _, Fin.isLt _, ?_⟩)))
        refine fin4 ha (sp4 (Nat.le_refl _) (Nat.le_refl _) (Nat.le_refl _) (Nat.le_refl _)) H0 H1 H2 H3 ⟨rfl, rfl, rfl, rfl⟩ ⟨?_, kk_fin _, rfl, rfl⟩ ⟨by rw [hs]; rfl, rfl, kk_fin _, rfl⟩ ⟨by rw [ht]; rfl, rfl, rfl, kk_fin _⟩
        show kk ((l.val * l.val + (5 - y.val) * l.val) % 5) = x
        rw [kk_mod, kk_add, kk_mul, kk_mul, kk_5s (by have := y.isLt; omega), kk_fin, kk_fin]
        grind
      · obtain ⟨b, b1, b2, k0, k1, k2, k3⟩ := st4 ha 1 0 1 0 0 1 l 0 x y (l * l) 0 0 0 0 1 (by
          have e : dtm (mtF [[1, 0, 1, 0], [0, 1, l, 0], [x, y, l * l, 0], [0, 0, 0, 1]]) 4 15 15 = l * l - y * l - x := by
            simp [dtm, lapM, lo, rs, mtF] <;> grind
          rw [e]
          have nz := hp
          grind)
        refine NF4_tr b1 (L3 b2 (k0 0 1 0 0 ?_) (k1 0 0 1 0 ?_))
        all_goals (refine k4 ?_ ?_ ?_ ?_ <;> simp [cl, a00, a10, a20, a30, a01, a11, a21, a31, a02, a12, a22, a32, a03, a13, a23, a33, hs, ht] <;> grind)
    · obtain ⟨b, b1, b2, k0, k1, k2, k3⟩ := st4 ha 0 0 0 1 t 0 0 l (l * t) t 0 (l * l) 0 0 1 0 (by
        have e : dtm (mtF [[0, 0, 0, 1], [t, 0, 0, l], [l * t, t, 0, l * l], [0, 0, 1, 0]]) 4 15 15 = - (t * t) := by
          simp [dtm, lapM, lo, rs, mtF] <;> grind
        rw [e]
        have nz := f5_nz _ _ ht ht
        grind)
      refine NF4_tr b1 (L3 b2 (k0 0 1 0 0 ?_) (k1 0 0 1 0 ?_))
      all_goals (refine k4 ?_ ?_ ?_ ?_ <;> simp [cl, a00, a10, a20, a30, a01, a11, a21, a31, a02, a12, a22, a32, a03, a13, a23, a33] <;> grind)
  · obtain ⟨b, b1, b2, k0, k1, k2, k3⟩ := st4 ha 0 0 1 0 s 0 l 0 (l * s) s (l * l) 0 0 0 0 1 (by
      have e : dtm (mtF [[0, 0, 1, 0], [s, 0, l, 0], [l * s, s, l * l, 0], [0, 0, 0, 1]]) 4 15 15 = s * s := by
        simp [dtm, lapM, lo, rs, mtF] <;> grind
      rw [e]
      have nz := f5_nz _ _ hs hs
      grind)
    refine NF4_tr b1 (L3 b2 (k0 0 1 0 0 ?_) (k1 0 0 1 0 ?_))
    all_goals (refine k4 ?_ ?_ ?_ ?_ <;> simp [cl, a00, a10, a20, a30, a01, a11, a21, a31, a02, a12, a22, a32, a03, a13, a23, a33] <;> grind)
theorem L5 {a : Nat → Nat → Fin 5} (ha : sp 4 a) {x y p q r s : Fin 5} (h0 : col a 0 0 1 0 0) (h1 : col a 1 x y 0 0) (h2 : col a 2 0 0 0 1) (h3 : col a 3 p q r s) : NF4 a := by
  have H0 := h0; have H1 := h1; have H2 := h2; have H3 := h3
  obtain ⟨a00, a10, a20, a30⟩ := h0
  obtain ⟨a01, a11, a21, a31⟩ := h1
  obtain ⟨a02, a12, a22, a32⟩ := h2
  obtain ⟨a03, a13, a23, a33⟩ := h3
  by_cases hq : q = 0
  · by_cases hp : p = 0
    · by_cases hy : y = s
      · by_cases hx : x = r
        · refine Or.inr (Or.inr (Or.inr (Or.inl ⟨x.val, y.val, Fin.isLt _, Fin.isLt _, ?_⟩)))
          exact fin4 ha (sp4 (Nat.le_refl _) (Nat.le_refl _) (Nat.le_refl _) (Nat.le_refl _)) H0 H1 H2 H3 ⟨rfl, rfl, rfl, rfl⟩ ⟨kk_fin _, kk_fin _, rfl, rfl⟩ ⟨rfl, rfl, rfl, rfl⟩ ⟨by rw [hp]; rfl, by rw [hq]; rfl, by rw [← hx]; exact kk_fin _, by rw [← hy]; exact kk_fin _⟩
        · obtain ⟨b, b1, b2, k0, k1, k2, k3⟩ := st4 ha 1 0 1 0 0 1 0 1 x y r s 0 1 0 0 (by
            have e : dtm (mtF [[1, 0, 1, 0], [0, 1, 0, 1], [x, y, r, s], [0, 1, 0, 0]]) 4 15 15 = x - r := by
              simp [dtm, lapM, lo, rs, mtF] <;> grind
            rw [e]
            have nz := hx
            grind)
          refine NF4_tr b1 (L3 b2 (k0 0 1 0 0 ?_) (k1 0 0 1 0 ?_))
          all_goals (refine k4 ?_ ?_ ?_ ?_ <;> simp [cl, a00, a10, a20, a30, a01, a11, a21, a31, a02, a12, a22, a32, a03, a13, a23, a33, hp, hq] <;> grind)
      · obtain ⟨b, b1, b2, k0, k1, k2, k3⟩ := st4 ha 1 0 1 0 0 1 0 1 x y r s 1 0 0 0 (by
          have e : dtm (mtF [[1, 0, 1, 0], [0, 1, 0, 1], [x, y, r, s], [1, 0, 0, 0]]) 4 15 15 = s - y := by
            simp [dtm, lapM, lo, rs, mtF] <;> grind
          rw [e]
          have nz := hy
          grind)
        refine NF4_tr b1 (L3 b2 (k0 0 1 0 0 ?_) (k1 0 0 1 0 ?_))
        all_goals (refine k4 ?_ ?_ ?_ ?_ <;> simp [cl, a00, a10, a20, a30, a01, a11, a21, a31, a02, a12, a22, a32, a03, a13, a23, a33, hp, hq] <;> grind)
    · obtain ⟨b, b1, b2, k0, k1, k2, k3⟩ := st4 ha 0 0 1 0 0 0 0 1 p q r s 0 1 0 0 (by
        have e : dtm (mtF [[0, 0, 1, 0], [0, 0, 0, 1], [p, q, r, s], [0, 1, 0, 0]]) 4 15 15 = p := by
          simp [dtm, lapM, lo, rs, mtF] <;> grind
        rw [e]
        have nz := hp
        grind)
      refine NF4_tr b1 (L3 b2 (k0 0 1 0 0 ?_) (k1 0 0 1 0 ?_))
      all_goals (refine k4 ?_ ?_ ?_ ?_ <;> simp [cl, a00, a10, a20, a30, a01, a11, a21, a31, a02, a12, a22, a32, a03, a13, a23, a33] <;> grind)
  · obtain ⟨b, b1, b2, k0, k1, k2, k3⟩ := st4 ha 0 0 1 0 0 0 0 1 p q r s 1 0 0 0 (by
      have e : dtm (mtF [[0, 0, 1, 0], [0, 0, 0, 1], [p, q, r, s], [1, 0, 0, 0]]) 4 15 15 = - (q) := by
        simp [dtm, lapM, lo, rs, mtF] <;> grind
      rw [e]
      have nz := hq
      grind)
    refine NF4_tr b1 (L3 b2 (k0 0 1 0 0 ?_) (k1 0 0 1 0 ?_))
    all_goals (refine k4 ?_ ?_ ?_ ?_ <;> simp [cl, a00, a10, a20, a30, a01, a11, a21, a31, a02, a12, a22, a32, a03, a13, a23, a33] <;> grind)
theorem L2b {a : Nat → Nat → Fin 5} (ha : sp 4 a) {x y : Fin 5} (h0 : col a 0 0 1 0 0) (h1 : col a 1 x y 0 0) : NF4 a := by
  obtain ⟨a00, a10, a20, a30⟩ := h0
  obtain ⟨a01, a11, a21, a31⟩ := h1
  by_cases h32 : a 3 2 = 0
  · by_cases h23 : a 2 3 = 0
    · by_cases hd : a 2 2 = a 3 3
      · obtain ⟨b, b1, b2, k0, k1, k2, k3⟩ := st4 ha 1 0 0 0 0 1 0 0 (- a 1 2) 0 1 0 (- a 1 3) 0 0 1 (by
          have e : dtm (mtF [[1, 0, 0, 0], [0, 1, 0, 0], [- a 1 2, 0, 1, 0], [- a 1 3, 0, 0, 1]]) 4 15 15 = 1 := by
            simp [dtm, lapM, lo, rs, mtF] <;> grind
          rw [e]
          have nz := hd
          grind)
        refine NF4_tr b1 (L4s b2 (x := x) (y := y) (s := a 0 2 + a 2 2 * a 1 2) (t := a 0 3 + a 2 2 * a 1 3) (l := a 2 2) (k0 0 1 0 0 ?_) (k1 x y 0 0 ?_) (k2 _ _ _ _ ?_) (k3 _ _ _ _ ?_))
        all_goals (refine k4 ?_ ?_ ?_ ?_ <;> simp [cl, a00, a10, a20, a30, a01, a11, a21, a31, h32, h23, hd] <;> grind)
      · obtain ⟨b, b1, b2, k0, k1, k2, k3⟩ := st4 ha 1 0 0 0 0 1 0 0 0 0 1 1 (a 0 2 + a 0 3) (a 1 2 + a 1 3) (a 2 2) (a 3 3) (by
          have e : dtm (mtF [[1, 0, 0, 0], [0, 1, 0, 0], [0, 0, 1, 1], [a 0 2 + a 0 3, a 1 2 + a 1 3, a 2 2, a 3 3]]) 4 15 15 = a 3 3 - a 2 2 := by
            simp [dtm, lapM, lo, rs, mtF] <;> grind
          rw [e]
          have nz := hd
          grind)
        refine NF4_tr b1 (L5 b2 (x := x) (y := y) (p := _) (q := _) (r := _) (s := _) (k0 0 1 0 0 ?_) (k1 x y 0 0 ?_) (k2 0 0 0 1 ?_) ⟨rfl, rfl, rfl, rfl⟩)
        all_goals (refine k4 ?_ ?_ ?_ ?_ <;> simp [cl, a00, a10, a20, a30, a01, a11, a21, a31, h32, h23] <;> grind)
    · obtain ⟨b, b1, b2, k0, k1, k2, k3⟩ := st4 ha 1 0 0 0 0 1 0 0 0 0 0 1 (a 0 3) (a 1 3) (a 2 3) (a 3 3) (by
        have e : dtm (mtF [[1, 0, 0, 0], [0, 1, 0, 0], [0, 0, 0, 1], [a 0 3, a 1 3, a 2 3, a 3 3]]) 4 15 15 = - (a 2 3) := by
          simp [dtm, lapM, lo, rs, mtF] <;> grind
        rw [e]
        have nz := h23
        grind)
      refine NF4_tr b1 (L5 b2 (x := x) (y := y) (p := _) (q := _) (r := _) (s := _) (k0 0 1 0 0 ?_) (k1 x y 0 0 ?_) (k2 0 0 0 1 ?_) ⟨rfl, rfl, rfl, rfl⟩)
      all_goals (refine k4 ?_ ?_ ?_ ?_ <;> simp [cl, a00, a10, a20, a30, a01, a11, a21, a31] <;> grind)
  · obtain ⟨b, b1, b2, k0, k1, k2, k3⟩ := st4 ha 1 0 0 0 0 1 0 0 0 0 1 0 (a 0 2) (a 1 2) (a 2 2) (a 3 2) (by
      have e : dtm (mtF [[1, 0, 0, 0], [0, 1, 0, 0], [0, 0, 1, 0], [a 0 2, a 1 2, a 2 2, a 3 2]]) 4 15 15 = a 3 2 := by
        simp [dtm, lapM, lo, rs, mtF] <;> grind
      rw [e]
      have nz := h32
      grind)
    refine NF4_tr b1 (L5 b2 (x := x) (y := y) (p := _) (q := _) (r := _) (s := _) (k0 0 1 0 0 ?_) (k1 x y 0 0 ?_) (k2 0 0 0 1 ?_) ⟨rfl, rfl, rfl, rfl⟩)
    all_goals (refine k4 ?_ ?_ ?_ ?_ <;> simp [cl, a00, a10, a20, a30, a01, a11, a21, a31] <;> grind)
theorem L2 {a : Nat → Nat → Fin 5} (ha : sp 4 a) (h0 : col a 0 0 1 0 0) : NF4 a := by
  have H0 := h0
  obtain ⟨a00, a10, a20, a30⟩ := h0
  by_cases h21 : a 2 1 = 0
  · by_cases h31 : a 3 1 = 0
    · exact L2b ha H0 (x := a 0 1) (y := a 1 1) ⟨rfl, rfl, h21, h31⟩
    · obtain ⟨b, b1, b2, k0, k1, k2, k3⟩ := st4 ha 1 0 0 0 0 1 0 0 (a 0 1) (a 1 1) (a 2 1) (a 3 1) 0 0 1 0 (by
        have e : dtm (mtF [[1, 0, 0, 0], [0, 1, 0, 0], [a 0 1, a 1 1, a 2 1, a 3 1], [0, 0, 1, 0]]) 4 15 15 = - (a 3 1) := by
          simp [dtm, lapM, lo, rs, mtF] <;> grind
        rw [e]
        have nz := h31
        grind)
      refine NF4_tr b1 (L3 b2 (k0 0 1 0 0 ?_) (k1 0 0 1 0 ?_))
      all_goals (refine k4 ?_ ?_ ?_ ?_ <;> simp [cl, a00, a10, a20, a30] <;> grind)
  · obtain ⟨b, b1, b2, k0, k1, k2, k3⟩ := st4 ha 1 0 0 0 0 1 0 0 (a 0 1) (a 1 1) (a 2 1) (a 3 1) 0 0 0 1 (by
      have e : dtm (mtF [[1, 0, 0, 0], [0, 1, 0, 0], [a 0 1, a 1 1, a 2 1, a 3 1], [0, 0, 0, 1]]) 4 15 15 = a 2 1 := by
        simp [dtm, lapM, lo, rs, mtF] <;> grind
      rw [e]
      have nz := h21
      grind)
    refine NF4_tr b1 (L3 b2 (k0 0 1 0 0 ?_) (k1 0 0 1 0 ?_))
    all_goals (refine k4 ?_ ?_ ?_ ?_ <;> simp [cl, a00, a10, a20, a30] <;> grind)
theorem L1_4_0_1 {a : Nat → Nat → Fin 5} (ha : sp 4 a) (h : a 0 1 ≠ 0) : NF4 a := by
  obtain ⟨b, b1, b2, k0, k1, k2, k3⟩ := st4 ha 0 1 0 0 (a 0 1) (a 1 1) (a 2 1) (a 3 1) 0 0 1 0 0 0 0 1 (by
    have e : dtm (mtF [[0, 1, 0, 0], [a 0 1, a 1 1, a 2 1, a 3 1], [0, 0, 1, 0], [0, 0, 0, 1]]) 4 15 15 = - (a 0 1) := by
      simp [dtm, lapM, lo, rs, mtF] <;> grind
    rw [e]
    have nz := h
    grind)
  refine NF4_tr b1 (L2 b2 (k0 0 1 0 0 ?_))
  all_goals (refine k4 ?_ ?_ ?_ ?_ <;> simp [cl] <;> grind)
theorem L1_4_0_2 {a : Nat → Nat → Fin 5} (ha : sp 4 a) (h : a 0 2 ≠ 0) : NF4 a := by
  obtain ⟨b, b1, b2, k0, k1, k2, k3⟩ := st4 ha 0 0 1 0 (a 0 2) (a 1 2) (a 2 2) (a 3 2) 0 1 0 0 0 0 0 1 (by
    have e : dtm (mtF [[0, 0, 1, 0], [a 0 2, a 1 2, a 2 2, a 3 2], [0, 1, 0, 0], [0, 0, 0, 1]]) 4 15 15 = a 0 2 := by
      simp [dtm, lapM, lo, rs, mtF] <;> grind
    rw [e]
    have nz := h
    grind)
  refine NF4_tr b1 (L2 b2 (k0 0 1 0 0 ?_))
  all_goals (refine k4 ?_ ?_ ?_ ?_ <;> simp [cl] <;> grind)
theorem L1_4_0_3 {a : Nat → Nat → Fin 5} (ha : sp 4 a) (h : a 0 3 ≠ 0) : NF4 a := by
  obtain ⟨b, b1, b2, k0, k1, k2, k3⟩ := st4 ha 0 0 0 1 (a 0 3) (a 1 3) (a 2 3) (a 3 3) 0 1 0 0 0 0 1 0 (by
    have e : dtm (mtF [[0, 0, 0, 1], [a 0 3, a 1 3, a 2 3, a 3 3], [0, 1, 0, 0], [0, 0, 1, 0]]) 4 15 15 = - (a 0 3) := by
      simp [dtm, lapM, lo, rs, mtF] <;> grind
    rw [e]
    have nz := h
    grind)
  refine NF4_tr b1 (L2 b2 (k0 0 1 0 0 ?_))
  all_goals (refine k4 ?_ ?_ ?_ ?_ <;> simp [cl] <;> grind)
theorem L1_4_1_0 {a : Nat → Nat → Fin 5} (ha : sp 4 a) (h : a 1 0 ≠ 0) : NF4 a := by
  obtain ⟨b, b1, b2, k0, k1, k2, k3⟩ := st4 ha 1 0 0 0 (a 0 0) (a 1 0) (a 2 0) (a 3 0) 0 0 1 0 0 0 0 1 (by
    have e : dtm (mtF [[1, 0, 0, 0], [a 0 0, a 1 0, a 2 0, a 3 0], [0, 0, 1, 0], [0, 0, 0, 1]]) 4 15 15 = a 1 0 := by
      simp [dtm, lapM, lo, rs, mtF] <;> grind
    rw [e]
    have nz := h
    grind)
  refine NF4_tr b1 (L2 b2 (k0 0 1 0 0 ?_))
  all_goals (refine k4 ?_ ?_ ?_ ?_ <;> simp [cl] <;> grind)
theorem L1_4_1_2 {a : Nat → Nat → Fin 5} (ha : sp 4 a) (h : a 1 2 ≠ 0) : NF4 a := by
  obtain ⟨b, b1, b2, k0, k1, k2, k3⟩ := st4 ha 0 0 1 0 (a 0 2) (a 1 2) (a 2 2) (a 3 2) 1 0 0 0 0 0 0 1 (by
    have e : dtm (mtF [[0, 0, 1, 0], [a 0 2, a 1 2, a 2 2, a 3 2], [1, 0, 0, 0], [0, 0, 0, 1]]) 4 15 15 = - (a 1 2) := by
      simp [dtm, lapM, lo, rs, mtF] <;> grind
    rw [e]
    have nz := h
    grind)
  refine NF4_tr b1 (L2 b2 (k0 0 1 0 0 ?_))
  all_goals (refine k4 ?_ ?_ ?_ ?_ <;> simp [cl] <;> grind)
theorem L1_4_1_3 {a : Nat → Nat → Fin 5} (ha : sp 4 a) (h : a 1 3 ≠ 0) : NF4 a := by
  obtain ⟨b, b1, b2, k0, k1, k2, k3⟩ := st4 ha 0 0 0 1 (a 0 3) (a 1 3) (a 2 3) (a 3 3) 1 0 0 0 0 0 1 0 (by
    have e : dtm (mtF [[0, 0, 0, 1], [a 0 3, a 1 3, a 2 3, a 3 3], [1, 0, 0, 0], [0, 0, 1, 0]]) 4 15 15 = a 1 3 := by
      simp [dtm, lapM, lo, rs, mtF] <;> grind
    rw [e]
    have nz := h
    grind)
  refine NF4_tr b1 (L2 b2 (k0 0 1 0 0 ?_))
  all_goals (refine k4 ?_ ?_ ?_ ?_ <;> simp [cl] <;> grind)
theorem L1_4_2_0 {a : Nat → Nat → Fin 5} (ha : sp 4 a) (h : a 2 0 ≠ 0) : NF4 a := by
  obtain ⟨b, b1, b2, k0, k1, k2, k3⟩ := st4 ha 1 0 0 0 (a 0 0) (a 1 0) (a 2 0) (a 3 0) 0 1 0 0 0 0 0 1 (by
    have e : dtm (mtF [[1, 0, 0, 0], [a 0 0, a 1 0, a 2 0, a 3 0], [0, 1, 0, 0], [0, 0, 0, 1]]) 4 15 15 = - (a 2 0) := by
      simp [dtm, lapM, lo, rs, mtF] <;> grind
    rw [e]
    have nz := h
    grind)
  refine NF4_tr b1 (L2 b2 (k0 0 1 0 0 ?_))
  all_goals (refine k4 ?_ ?_ ?_ ?_ <;> simp [cl] <;> grind)
theorem L1_4_2_1 {a : Nat → Nat → Fin 5} (ha : sp 4 a) (h : a 2 1 ≠ 0) : NF4 a := by
  obtain ⟨b, b1, b2, k0, k1, k2, k3⟩ := st4 ha 0 1 0 0 (a 0 1) (a 1 1) (a 2 1) (a 3 1) 1 0 0 0 0 0 0 1 (by
    have e : dtm (mtF [[0, 1, 0, 0], [a 0 1, a 1 1, a 2 1, a 3 1], [1, 0, 0, 0], [0, 0, 0, 1]]) 4 15 15 = a 2 1 := by
      simp [dtm, lapM, lo, rs, mtF] <;> grind
    rw [e]
    have nz := h
    grind)
  refine NF4_tr b1 (L2 b2 (k0 0 1 0 0 ?_))
  all_goals (refine k4 ?_ ?_ ?_ ?_ <;> simp [cl] <;> grind)
theorem L1_4_2_3 {a : Nat → Nat → Fin 5} (ha : sp 4 a) (h : a 2 3 ≠ 0) : NF4 a := by
  obtain ⟨b, b1, b2, k0, k1, k2, k3⟩ := st4 ha 0 0 0 1 (a 0 3) (a 1 3) (a 2 3) (a 3 3) 1 0 0 0 0 1 0 0 (by
    have e : dtm (mtF [[0, 0, 0, 1], [a 0 3, a 1 3, a 2 3, a 3 3], [1, 0, 0, 0], [0, 1, 0, 0]]) 4 15 15 = - (a 2 3) := by
      simp [dtm, lapM, lo, rs, mtF] <;> grind
    rw [e]
    have nz := h
    grind)
  refine NF4_tr b1 (L2 b2 (k0 0 1 0 0 ?_))
  all_goals (refine k4 ?_ ?_ ?_ ?_ <;> simp [cl] <;> grind)
theorem L1_4_3_0 {a : Nat → Nat → Fin 5} (ha : sp 4 a) (h : a 3 0 ≠ 0) : NF4 a := by
  obtain ⟨b, b1, b2, k0, k1, k2, k3⟩ := st4 ha 1 0 0 0 (a 0 0) (a 1 0) (a 2 0) (a 3 0) 0 1 0 0 0 0 1 0 (by
    have e : dtm (mtF [[1, 0, 0, 0], [a 0 0, a 1 0, a 2 0, a 3 0], [0, 1, 0, 0], [0, 0, 1, 0]]) 4 15 15 = a 3 0 := by
      simp [dtm, lapM, lo, rs, mtF] <;> grind
    rw [e]
    have nz := h
    grind)
  refine NF4_tr b1 (L2 b2 (k0 0 1 0 0 ?_))
  all_goals (refine k4 ?_ ?_ ?_ ?_ <;> simp [cl] <;> grind)
theorem L1_4_3_1 {a : Nat → Nat → Fin 5} (ha : sp 4 a) (h : a 3 1 ≠ 0) : NF4 a := by
  obtain ⟨b, b1, b2, k0, k1, k2, k3⟩ := st4 ha 0 1 0 0 (a 0 1) (a 1 1) (a 2 1) (a 3 1) 1 0 0 0 0 0 1 0 (by
    have e : dtm (mtF [[0, 1, 0, 0], [a 0 1, a 1 1, a 2 1, a 3 1], [1, 0, 0, 0], [0, 0, 1, 0]]) 4 15 15 = - (a 3 1) := by
      simp [dtm, lapM, lo, rs, mtF] <;> grind
    rw [e]
    have nz := h
    grind)
  refine NF4_tr b1 (L2 b2 (k0 0 1 0 0 ?_))
  all_goals (refine k4 ?_ ?_ ?_ ?_ <;> simp [cl] <;> grind)
theorem L1_4_3_2 {a : Nat → Nat → Fin 5} (ha : sp 4 a) (h : a 3 2 ≠ 0) : NF4 a := by
  obtain ⟨b, b1, b2, k0, k1, k2, k3⟩ := st4 ha 0 0 1 0 (a 0 2) (a 1 2) (a 2 2) (a 3 2) 1 0 0 0 0 1 0 0 (by
    have e : dtm (mtF [[0, 0, 1, 0], [a 0 2, a 1 2, a 2 2, a 3 2], [1, 0, 0, 0], [0, 1, 0, 0]]) 4 15 15 = a 3 2 := by
      simp [dtm, lapM, lo, rs, mtF] <;> grind
    rw [e]
    have nz := h
    grind)
  refine NF4_tr b1 (L2 b2 (k0 0 1 0 0 ?_))
  all_goals (refine k4 ?_ ?_ ?_ ?_ <;> simp [cl] <;> grind)
theorem L1d_4_1 {a : Nat → Nat → Fin 5} (ha : sp 4 a) (o01 : a 0 1 = 0) (o02 : a 0 2 = 0) (o03 : a 0 3 = 0) (o10 : a 1 0 = 0) (o12 : a 1 2 = 0) (o13 : a 1 3 = 0) (o20 : a 2 0 = 0) (o21 : a 2 1 = 0) (o23 : a 2 3 = 0) (o30 : a 3 0 = 0) (o31 : a 3 1 = 0) (o32 : a 3 2 = 0) (h : a 0 0 ≠ a 1 1) : NF4 a := by
  obtain ⟨b, b1, b2, k0, k1, k2, k3⟩ := st4 ha 1 1 0 0 (a 0 0) (a 1 1) 0 0 0 0 1 0 0 0 0 1 (by
    have e : dtm (mtF [[1, 1, 0, 0], [a 0 0, a 1 1, 0, 0], [0, 0, 1, 0], [0, 0, 0, 1]]) 4 15 15 = a 1 1 - a 0 0 := by
      simp [dtm, lapM, lo, rs, mtF] <;> grind
    rw [e]
    have nz := h
    grind)
  refine NF4_tr b1 (L2 b2 (k0 0 1 0 0 ?_))
  all_goals (refine k4 ?_ ?_ ?_ ?_ <;> simp [cl, o01, o02, o03, o10, o12, o13, o20, o21, o23, o30, o31, o32] <;> grind)
theorem L1d_4_2 {a : Nat → Nat → Fin 5} (ha : sp 4 a) (o01 : a 0 1 = 0) (o02 : a 0 2 = 0) (o03 : a 0 3 = 0) (o10 : a 1 0 = 0) (o12 : a 1 2 = 0) (o13 : a 1 3 = 0) (o20 : a 2 0 = 0) (o21 : a 2 1 = 0) (o23 : a 2 3 = 0) (o30 : a 3 0 = 0) (o31 : a 3 1 = 0) (o32 : a 3 2 = 0) (h : a 0 0 ≠ a 2 2) : NF4 a := by
  obtain ⟨b, b1, b2, k0, k1, k2, k3⟩ := st4 ha 1 0 1 0 (a 0 0) 0 (a 2 2) 0 0 1 0 0 0 0 0 1 (by
    have e : dtm (mtF [[1, 0, 1, 0], [a 0 0, 0, a 2 2, 0], [0, 1, 0, 0], [0, 0, 0, 1]]) 4 15 15 = - (a 2 2 - a 0 0) := by
      simp [dtm, lapM, lo, rs, mtF] <;> grind
    rw [e]
    have nz := h
    grind)
  refine NF4_tr b1 (L2 b2 (k0 0 1 0 0 ?_))
  all_goals (refine k4 ?_ ?_ ?_ ?_ <;> simp [cl, o01, o02, o03, o10, o12, o13, o20, o21, o23, o30, o31, o32] <;> grind)
theorem L1d_4_3 {a : Nat → Nat → Fin 5} (ha : sp 4 a) (o01 : a 0 1 = 0) (o02 : a 0 2 = 0) (o03 : a 0 3 = 0) (o10 : a 1 0 = 0) (o12 : a 1 2 = 0) (o13 : a 1 3 = 0) (o20 : a 2 0 = 0) (o21 : a 2 1 = 0) (o23 : a 2 3 = 0) (o30 : a 3 0 = 0) (o31 : a 3 1 = 0) (o32 : a 3 2 = 0) (h : a 0 0 ≠ a 3 3) : NF4 a := by
  obtain ⟨b, b1, b2, k0, k1, k2, k3⟩ := st4 ha 1 0 0 1 (a 0 0) 0 0 (a 3 3) 0 1 0 0 0 0 1 0 (by
    have e : dtm (mtF [[1, 0, 0, 1], [a 0 0, 0, 0, a 3 3], [0, 1, 0, 0], [0, 0, 1, 0]]) 4 15 15 = a 3 3 - a 0 0 := by
      simp [dtm, lapM, lo, rs, mtF] <;> grind
    rw [e]
    have nz := h
    grind)
  refine NF4_tr b1 (L2 b2 (k0 0 1 0 0 ?_))
  all_goals (refine k4 ?_ ?_ ?_ ?_ <;> simp [cl, o01, o02, o03, o10, o12, o13, o20, o21, o23, o30, o31, o32] <;> grind)
theorem nf4 {a : Nat → Nat → Fin 5} (ha : sp 4 a) : NF4 a := by
  by_cases o01 : a 0 1 = 0
  case neg => exact L1_4_0_1 ha o01
  by_cases o02 : a 0 2 = 0
  case neg => exact L1_4_0_2 ha o02
  by_cases o03 : a 0 3 = 0
  case neg => exact L1_4_0_3 ha o03
  by_cases o10 : a 1 0 = 0
  case neg => exact L1_4_1_0 ha o10
  by_cases o12 : a 1 2 = 0
  case neg => exact L1_4_1_2 ha o12
  by_cases o13 : a 1 3 = 0
  case neg => exact L1_4_1_3 ha o13
  by_cases o20 : a 2 0 = 0
  case neg => exact L1_4_2_0 ha o20
  by_cases o21 : a 2 1 = 0
  case neg => exact L1_4_2_1 ha o21
  by_cases o23 : a 2 3 = 0
  case neg => exact L1_4_2_3 ha o23
  by_cases o30 : a 3 0 = 0
  case neg => exact L1_4_3_0 ha o30
  by_cases o31 : a 3 1 = 0
  case neg => exact L1_4_3_1 ha o31
  by_cases o32 : a 3 2 = 0
  case neg => exact L1_4_3_2 ha o32
  by_cases d1 : a 0 0 = a 1 1
  case neg => exact L1d_4_1 ha o01 o02 o03 o10 o12 o13 o20 o21 o23 o30 o31 o32 d1
  by_cases d2 : a 0 0 = a 2 2
  case neg => exact L1d_4_2 ha o01 o02 o03 o10 o12 o13 o20 o21 o23 o30 o31 o32 d2
  by_cases d3 : a 0 0 = a 3 3
  case neg => exact L1d_4_3 ha o01 o02 o03 o10 o12 o13 o20 o21 o23 o30 o31 o32 d3
  refine Or.inl ⟨(a 0 0).val, Fin.isLt _, ?_⟩
  exact fin4 ha (sp4 (Nat.le_refl _) (Nat.le_refl _) (Nat.le_refl _) (Nat.le_refl _)) (x0 := a 0 0) (x1 := 0) (x2 := 0) (x3 := 0) (y0 := 0) (y1 := a 0 0) (y2 := 0) (y3 := 0) (z0 := 0) (z1 := 0) (z2 := a 0 0) (z3 := 0) (t0 := 0) (t1 := 0) (t2 := 0) (t3 := a 0 0) ⟨rfl, o10, o20, o30⟩ ⟨o01, d1.symm, o21, o31⟩ ⟨o02, o12, d2.symm, o32⟩ ⟨o03, o13, o23, d3.symm⟩ ⟨kk_fin _, rfl, rfl, rfl⟩ ⟨rfl, kk_fin _, rfl, rfl⟩ ⟨rfl, rfl, kk_fin _, rfl⟩ ⟨rfl, rfl, rfl, kk_fin _⟩
theorem k3 {P : Nat → Prop} (h0 : P 0) (h1 : P 1) (h2 : P 2) : ∀ k, k < 3 → P k := by
  intro k hk
  match k, hk with
  | 0, _ => exact h0
  | 1, _ => exact h1
  | 2, _ => exact h2
theorem k2 {P : Nat → Prop} (h0 : P 0) (h1 : P 1) : ∀ k, k < 2 → P k := by
  intro k hk
  match k, hk with
  | 0, _ => exact h0
  | 1, _ => exact h1
def cl3 (x y z : Fin 5) : Nat → Fin 5 := fun i => [x, y, z].getD i 0
def col3 (a : Nat → Nat → Fin 5) (j : Nat) (x y z : Fin 5) : Prop := a 0 j = x ∧ a 1 j = y ∧ a 2 j = z
def cl2 (x y : Fin 5) : Nat → Fin 5 := fun i => [x, y].getD i 0
def col2 (a : Nat → Nat → Fin 5) (j : Nat) (x y : Fin 5) : Prop := a 0 j = x ∧ a 1 j = y
def qG0 (l : Nat) : Nat → Nat → Nat := mt [[l, 0, 0], [0, l, 0], [0, 0, l]]
def qG1 (p q r : Nat) : Nat → Nat → Nat := mt [[0, 1, 0], [0, 0, 1], [p, q, r]]
def qG2 (b l : Nat) : Nat → Nat → Nat := mt [[0, 1, 0], [(l * l + (5 - b) * l) % 5, b, 0], [0, 0, l]]
def qH0 (l : Nat) : Nat → Nat → Nat := mt [[l, 0], [0, l]]
def qH1 (p q : Nat) : Nat → Nat → Nat := mt [[0, 1], [p, q]]
def NF3 (a : Nat → Nat → Fin 5) : Prop := (∃ l, l < 5 ∧ Sim 3 a (kM (qG0 l))) ∨ (∃ p q r, p < 5 ∧ q < 5 ∧ r < 5 ∧ Sim 3 a (kM (qG1 p q r))) ∨ (∃ b l, b < 5 ∧ l < 5 ∧ Sim 3 a (kM (qG2 b l)))
def NF2 (a : Nat → Nat → Fin 5) : Prop := (∃ l, l < 5 ∧ Sim 2 a (kM (qH0 l))) ∨ (∃ p q, p < 5 ∧ q < 5 ∧ Sim 2 a (kM (qH1 p q)))
theorem NF3_tr {a b : Nat → Nat → Fin 5} (h : Sim 3 a b) (hb : NF3 b) : NF3 a := by
  rcases hb with ⟨l, h1, hs⟩ | ⟨p, q, r, h1, h2, h3, hs⟩ | ⟨b, l, h1, h2, hs⟩
  · exact Or.inl ⟨l, h1, Sim_tr (by decide) h hs⟩
  · exact Or.inr (Or.inl ⟨p, q, r, h1, h2, h3, Sim_tr (by decide) h hs⟩)
  · exact Or.inr (Or.inr ⟨b, l, h1, h2, Sim_tr (by decide) h hs⟩)
theorem NF2_tr {a b : Nat → Nat → Fin 5} (h : Sim 2 a b) (hb : NF2 b) : NF2 a := by
  rcases hb with ⟨l, h1, hs⟩ | ⟨p, q, h1, h2, hs⟩
  · exact Or.inl ⟨l, h1, Sim_tr (by decide) h hs⟩
  · exact Or.inr ⟨p, q, h1, h2, Sim_tr (by decide) h hs⟩
theorem st3 {a : Nat → Nat → Fin 5} (ha : sp 3 a) (x0 x1 x2 y0 y1 y2 z0 z1 z2 : Fin 5) (hd : dtm (mtF [[x0, x1, x2], [y0, y1, y2], [z0, z1, z2]]) 3 7 7 ≠ 0) :
    ∃ b, Sim 3 a b ∧ sp 3 b ∧ (∀ e0 e1 e2, (∀ i, i < 3 → a i 0 * x0 + a i 1 * x1 + a i 2 * x2 = cl3 x0 x1 x2 i * e0 + cl3 y0 y1 y2 i * e1 + cl3 z0 z1 z2 i * e2) → col3 b 0 e0 e1 e2) ∧ (∀ e0 e1 e2, (∀ i, i < 3 → a i 0 * y0 + a i 1 * y1 + a i 2 * y2 = cl3 x0 x1 x2 i * e0 + cl3 y0 y1 y2 i * e1 + cl3 z0 z1 z2 i * e2) → col3 b 1 e0 e1 e2) ∧ (∀ e0 e1 e2, (∀ i, i < 3 → a i 0 * z0 + a i 1 * z1 + a i 2 * z2 = cl3 x0 x1 x2 i * e0 + cl3 y0 y1 y2 i * e1 + cl3 z0 z1 z2 i * e2) → col3 b 2 e0 e1 e2) := by
  obtain ⟨b, b1, b2, b3⟩ := st (N := 3) (by decide) (by decide) ha [[x0, x1, x2], [y0, y1, y2], [z0, z1, z2]] (Nat.le_refl _) (fun c hc => len3 (Nat.le_refl _) (Nat.le_refl _) (Nat.le_refl _) hc) hd
  have gen : ∀ (j : Nat) (w0 w1 w2 : Fin 5), (∀ t, t < 3 → mtF [[x0, x1, x2], [y0, y1, y2], [z0, z1, z2]] t j = cl3 w0 w1 w2 t) → ∀ e0 e1 e2, (∀ i, i < 3 → a i 0 * w0 + a i 1 * w1 + a i 2 * w2 = cl3 x0 x1 x2 i * e0 + cl3 y0 y1 y2 i * e1 + cl3 z0 z1 z2 i * e2) → col3 b j e0 e1 e2 := by
    intro j w0 w1 w2 hw e0 e1 e2 he
    have := b3 j (cl3 e0 e1 e2) (fun i hi => by
      show 0 + a i 0 * mtF [[x0, x1, x2], [y0, y1, y2], [z0, z1, z2]] 0 j + a i 1 * mtF [[x0, x1, x2], [y0, y1, y2], [z0, z1, z2]] 1 j + a i 2 * mtF [[x0, x1, x2], [y0, y1, y2], [z0, z1, z2]] 2 j = 0 + cl3 x0 x1 x2 i * e0 + cl3 y0 y1 y2 i * e1 + cl3 z0 z1 z2 i * e2
      rw [hw 0 (by decide), hw 1 (by decide), hw 2 (by decide)]
      have := he i hi
      show 0 + a i 0 * w0 + a i 1 * w1 + a i 2 * w2 = _
      grind)
    exact ⟨this 0 (by decide), this 1 (by decide), this 2 (by decide)⟩
  exact ⟨b, b1, b2, gen 0 x0 x1 x2 (fun _ _ => rfl), gen 1 y0 y1 y2 (fun _ _ => rfl), gen 2 z0 z1 z2 (fun _ _ => rfl)⟩
theorem fin3 {a : Nat → Nat → Fin 5} (ha : sp 3 a) {R : Nat → Nat → Nat} (hR : sp 3 (kM R)) {x0 x1 x2 y0 y1 y2 z0 z1 z2 : Fin 5} (h0 : col3 a 0 x0 x1 x2) (h1 : col3 a 1 y0 y1 y2) (h2 : col3 a 2 z0 z1 z2) (g0 : col3 (kM R) 0 x0 x1 x2) (g1 : col3 (kM R) 1 y0 y1 y2) (g2 : col3 (kM R) 2 z0 z1 z2) : Sim 3 a (kM R) := by
  have : a = kM R := by
    have ee : ∀ j x y z, col3 a j x y z → col3 (kM R) j x y z → ∀ i, i < 3 → a i j = kM R i j := by
      intro j x y z c1 c2
      refine k3 ?_ ?_ ?_
      · rw [c1.1, c2.1]
      · rw [c1.2.1, c2.2.1]
      · rw [c1.2.2, c2.2.2]
    refine sp_ext ha hR (fun i j hi hj => ?_)
    match j, hj with
    | 0, _ => exact ee 0 _ _ _ h0 g0 i hi
    | 1, _ => exact ee 1 _ _ _ h1 g1 i hi
    | 2, _ => exact ee 2 _ _ _ h2 g2 i hi
  rw [← this]
  exact Sim_rf (by decide) ha
theorem sp3 {c0 c1 c2 : List Nat} (h0 : c0.length ≤ 3) (h1 : c1.length ≤ 3) (h2 : c2.length ≤ 3) : sp 3 (kM (mt [c0, c1, c2])) :=
  sp_mt (Nat.le_refl _) (fun c hc => len3 h0 h1 h2 hc)
theorem st2 {a : Nat → Nat → Fin 5} (ha : sp 2 a) (x0 x1 y0 y1 : Fin 5) (hd : dtm (mtF [[x0, x1], [y0, y1]]) 2 3 3 ≠ 0) :
    ∃ b, Sim 2 a b ∧ sp 2 b ∧ (∀ e0 e1, (∀ i, i < 2 → a i 0 * x0 + a i 1 * x1 = cl2 x0 x1 i * e0 + cl2 y0 y1 i * e1) → col2 b 0 e0 e1) ∧ (∀ e0 e1, (∀ i, i < 2 → a i 0 * y0 + a i 1 * y1 = cl2 x0 x1 i * e0 + cl2 y0 y1 i * e1) → col2 b 1 e0 e1) := by
  obtain ⟨b, b1, b2, b3⟩ := st (N := 2) (by decide) (by decide) ha [[x0, x1], [y0, y1]] (Nat.le_refl _) (fun c hc => len2 (Nat.le_refl _) (Nat.le_refl _) hc) hd
  have gen : ∀ (j : Nat) (w0 w1 : Fin 5), (∀ t, t < 2 → mtF [[x0, x1], [y0, y1]] t j = cl2 w0 w1 t) → ∀ e0 e1, (∀ i, i < 2 → a i 0 * w0 + a i 1 * w1 = cl2 x0 x1 i * e0 + cl2 y0 y1 i * e1) → col2 b j e0 e1 := by
    intro j w0 w1 hw e0 e1 he
    have := b3 j (cl2 e0 e1) (fun i hi => by
      show 0 + a i 0 * mtF [[x0, x1], [y0, y1]] 0 j + a i 1 * mtF [[x0, x1], [y0, y1]] 1 j = 0 + cl2 x0 x1 i * e0 + cl2 y0 y1 i * e1
      rw [hw 0 (by decide), hw 1 (by decide)]
      have := he i hi
      show 0 + a i 0 * w0 + a i 1 * w1 = _
      grind)
    exact ⟨this 0 (by decide), this 1 (by decide)⟩
  exact ⟨b, b1, b2, gen 0 x0 x1 (fun _ _ => rfl), gen 1 y0 y1 (fun _ _ => rfl)⟩
theorem fin2 {a : Nat → Nat → Fin 5} (ha : sp 2 a) {R : Nat → Nat → Nat} (hR : sp 2 (kM R)) {x0 x1 y0 y1 : Fin 5} (h0 : col2 a 0 x0 x1) (h1 : col2 a 1 y0 y1) (g0 : col2 (kM R) 0 x0 x1) (g1 : col2 (kM R) 1 y0 y1) : Sim 2 a (kM R) := by
  have : a = kM R := by
    have ee : ∀ j x y, col2 a j x y → col2 (kM R) j x y → ∀ i, i < 2 → a i j = kM R i j := by
      intro j x y c1 c2
      refine k2 ?_ ?_
      · rw [c1.1, c2.1]
      · rw [c1.2, c2.2]
    refine sp_ext ha hR (fun i j hi hj => ?_)
    match j, hj with
    | 0, _ => exact ee 0 _ _ h0 g0 i hi
    | 1, _ => exact ee 1 _ _ h1 g1 i hi
  rw [← this]
  exact Sim_rf (by decide) ha
theorem sp2 {c0 c1 : List Nat} (h0 : c0.length ≤ 2) (h1 : c1.length ≤ 2) : sp 2 (kM (mt [c0, c1])) :=
  sp_mt (Nat.le_refl _) (fun c hc => len2 h0 h1 hc)
theorem nf_G1 {a : Nat → Nat → Fin 5} (ha : sp 3 a) (h0 : col3 a 0 0 1 0) (h1 : col3 a 1 0 0 1) : NF3 a := by
  refine Or.inr (Or.inl ⟨(a 0 2).val, (a 1 2).val, (a 2 2).val, Fin.isLt _, Fin.isLt _, Fin.isLt _, ?_⟩)
  exact fin3 ha (sp3 (Nat.le_refl _) (Nat.le_refl _) (Nat.le_refl _)) h0 h1 (h2 := (⟨rfl, rfl, rfl⟩ : col3 a 2 (a 0 2) (a 1 2) (a 2 2))) ⟨rfl, rfl, rfl⟩ ⟨rfl, rfl, rfl⟩ ⟨kk_fin _, kk_fin _, kk_fin _⟩
theorem M3s {a : Nat → Nat → Fin 5} (ha : sp 3 a) {x y s l : Fin 5} (h0 : col3 a 0 0 1 0) (h1 : col3 a 1 x y 0) (h2 : col3 a 2 s 0 l) : NF3 a := by
  have H0 := h0; have H1 := h1; have H2 := h2
  obtain ⟨a00, a10, a20⟩ := h0
  obtain ⟨a01, a11, a21⟩ := h1
  obtain ⟨a02, a12, a22⟩ := h2
  by_cases hs : s = 0
  · by_cases hp : l * l - y * l - x = 0
    · refine Or.inr (Or.inr ⟨y.val, l.val, Fin.isLt _, Fin.isLt _, ?_⟩)
      refine fin3 ha (sp3 (Nat.le_refl _) (Nat.le_refl _) (Nat.le_refl _)) H0 H1 H2 ⟨rfl, rfl, rfl⟩ ⟨?_, kk_fin _, rfl⟩ ⟨by rw [hs]; rfl, rfl, kk_fin _⟩
      show kk ((l.val * l.val + (5 - y.val) * l.val) % 5) = x
      rw [kk_mod, kk_add, kk_mul, kk_mul, kk_5s (by have := y.isLt; omega), kk_fin, kk_fin]
      grind
    · obtain ⟨b, b1, b2, k0, k1, k2⟩ := st3 ha 1 0 1 0 1 l x y (l * l) (by
        have e : dtm (mtF [[1, 0, 1], [0, 1, l], [x, y, l * l]]) 3 7 7 = l * l - y * l - x := by
          simp [dtm, lapM, lo, rs, mtF] <;> grind
        rw [e]
        have nz := hp
        grind)
      refine NF3_tr b1 (nf_G1 b2 (k0 0 1 0 ?_) (k1 0 0 1 ?_))
      all_goals (refine k3 ?_ ?_ ?_ <;> simp [cl3, a00, a10, a20, a01, a11, a21, a02, a12, a22, hs] <;> grind)
  · obtain ⟨b, b1, b2, k0, k1, k2⟩ := st3 ha 0 0 1 s 0 l (l * s) s (l * l) (by
      have e : dtm (mtF [[0, 0, 1], [s, 0, l], [l * s, s, l * l]]) 3 7 7 = s * s := by
        simp [dtm, lapM, lo, rs, mtF] <;> grind
      rw [e]
      have nz := f5_nz _ _ hs hs
      grind)
    refine NF3_tr b1 (nf_G1 b2 (k0 0 1 0 ?_) (k1 0 0 1 ?_))
    all_goals (refine k3 ?_ ?_ ?_ <;> simp [cl3, a00, a10, a20, a01, a11, a21, a02, a12, a22] <;> grind)
theorem M2 {a : Nat → Nat → Fin 5} (ha : sp 3 a) (h0 : col3 a 0 0 1 0) : NF3 a := by
  obtain ⟨a00, a10, a20⟩ := h0
  by_cases h21 : a 2 1 = 0
  · obtain ⟨b, b1, b2, k0, k1, k2⟩ := st3 ha 1 0 0 0 1 0 (- a 1 2) 0 1 (by
      have e : dtm (mtF [[1, 0, 0], [0, 1, 0], [- a 1 2, 0, 1]]) 3 7 7 = 1 := by
        simp [dtm, lapM, lo, rs, mtF] <;> grind
      rw [e]
      have nz := h21
      grind)
    refine NF3_tr b1 (M3s b2 (x := a 0 1) (y := a 1 1) (s := a 0 2 + a 2 2 * a 1 2) (l := a 2 2) (k0 0 1 0 ?_) (k1 _ _ _ ?_) (k2 _ _ _ ?_))
    all_goals (refine k3 ?_ ?_ ?_ <;> simp [cl3, a00, a10, a20, h21] <;> grind)
  · obtain ⟨b, b1, b2, k0, k1, k2⟩ := st3 ha 1 0 0 0 1 0 (a 0 1) (a 1 1) (a 2 1) (by
      have e : dtm (mtF [[1, 0, 0], [0, 1, 0], [a 0 1, a 1 1, a 2 1]]) 3 7 7 = a 2 1 := by
        simp [dtm, lapM, lo, rs, mtF] <;> grind
      rw [e]
      have nz := h21
      grind)
    refine NF3_tr b1 (nf_G1 b2 (k0 0 1 0 ?_) (k1 0 0 1 ?_))
    all_goals (refine k3 ?_ ?_ ?_ <;> simp [cl3, a00, a10, a20] <;> grind)
theorem L1_3_0_1 {a : Nat → Nat → Fin 5} (ha : sp 3 a) (h : a 0 1 ≠ 0) : NF3 a := by
  obtain ⟨b, b1, b2, k0, k1, k2⟩ := st3 ha 0 1 0 (a 0 1) (a 1 1) (a 2 1) 0 0 1 (by
    have e : dtm (mtF [[0, 1, 0], [a 0 1, a 1 1, a 2 1], [0, 0, 1]]) 3 7 7 = - (a 0 1) := by
      simp [dtm, lapM, lo, rs, mtF] <;> grind
    rw [e]
    have nz := h
    grind)
  refine NF3_tr b1 (M2 b2 (k0 0 1 0 ?_))
  all_goals (refine k3 ?_ ?_ ?_ <;> simp [cl3] <;> grind)
theorem L1_3_0_2 {a : Nat → Nat → Fin 5} (ha : sp 3 a) (h : a 0 2 ≠ 0) : NF3 a := by
  obtain ⟨b, b1, b2, k0, k1, k2⟩ := st3 ha 0 0 1 (a 0 2) (a 1 2) (a 2 2) 0 1 0 (by
    have e : dtm (mtF [[0, 0, 1], [a 0 2, a 1 2, a 2 2], [0, 1, 0]]) 3 7 7 = a 0 2 := by
      simp [dtm, lapM, lo, rs, mtF] <;> grind
    rw [e]
    have nz := h
    grind)
  refine NF3_tr b1 (M2 b2 (k0 0 1 0 ?_))
  all_goals (refine k3 ?_ ?_ ?_ <;> simp [cl3] <;> grind)
theorem L1_3_1_0 {a : Nat → Nat → Fin 5} (ha : sp 3 a) (h : a 1 0 ≠ 0) : NF3 a := by
  obtain ⟨b, b1, b2, k0, k1, k2⟩ := st3 ha 1 0 0 (a 0 0) (a 1 0) (a 2 0) 0 0 1 (by
    have e : dtm (mtF [[1, 0, 0], [a 0 0, a 1 0, a 2 0], [0, 0, 1]]) 3 7 7 = a 1 0 := by
      simp [dtm, lapM, lo, rs, mtF] <;> grind
    rw [e]
    have nz := h
    grind)
  refine NF3_tr b1 (M2 b2 (k0 0 1 0 ?_))
  all_goals (refine k3 ?_ ?_ ?_ <;> simp [cl3] <;> grind)
theorem L1_3_1_2 {a : Nat → Nat → Fin 5} (ha : sp 3 a) (h : a 1 2 ≠ 0) : NF3 a := by
  obtain ⟨b, b1, b2, k0, k1, k2⟩ := st3 ha 0 0 1 (a 0 2) (a 1 2) (a 2 2) 1 0 0 (by
    have e : dtm (mtF [[0, 0, 1], [a 0 2, a 1 2, a 2 2], [1, 0, 0]]) 3 7 7 = - (a 1 2) := by
      simp [dtm, lapM, lo, rs, mtF] <;> grind
    rw [e]
    have nz := h
    grind)
  refine NF3_tr b1 (M2 b2 (k0 0 1 0 ?_))
  all_goals (refine k3 ?_ ?_ ?_ <;> simp [cl3] <;> grind)
theorem L1_3_2_0 {a : Nat → Nat → Fin 5} (ha : sp 3 a) (h : a 2 0 ≠ 0) : NF3 a := by
  obtain ⟨b, b1, b2, k0, k1, k2⟩ := st3 ha 1 0 0 (a 0 0) (a 1 0) (a 2 0) 0 1 0 (by
    have e : dtm (mtF [[1, 0, 0], [a 0 0, a 1 0, a 2 0], [0, 1, 0]]) 3 7 7 = - (a 2 0) := by
      simp [dtm, lapM, lo, rs, mtF] <;> grind
    rw [e]
    have nz := h
    grind)
  refine NF3_tr b1 (M2 b2 (k0 0 1 0 ?_))
  all_goals (refine k3 ?_ ?_ ?_ <;> simp [cl3] <;> grind)
theorem L1_3_2_1 {a : Nat → Nat → Fin 5} (ha : sp 3 a) (h : a 2 1 ≠ 0) : NF3 a := by
  obtain ⟨b, b1, b2, k0, k1, k2⟩ := st3 ha 0 1 0 (a 0 1) (a 1 1) (a 2 1) 1 0 0 (by
    have e : dtm (mtF [[0, 1, 0], [a 0 1, a 1 1, a 2 1], [1, 0, 0]]) 3 7 7 = a 2 1 := by
      simp [dtm, lapM, lo, rs, mtF] <;> grind
    rw [e]
    have nz := h
    grind)
  refine NF3_tr b1 (M2 b2 (k0 0 1 0 ?_))
  all_goals (refine k3 ?_ ?_ ?_ <;> simp [cl3] <;> grind)
theorem L1d_3_1 {a : Nat → Nat → Fin 5} (ha : sp 3 a) (o01 : a 0 1 = 0) (o02 : a 0 2 = 0) (o10 : a 1 0 = 0) (o12 : a 1 2 = 0) (o20 : a 2 0 = 0) (o21 : a 2 1 = 0) (h : a 0 0 ≠ a 1 1) : NF3 a := by
  obtain ⟨b, b1, b2, k0, k1, k2⟩ := st3 ha 1 1 0 (a 0 0) (a 1 1) 0 0 0 1 (by
    have e : dtm (mtF [[1, 1, 0], [a 0 0, a 1 1, 0], [0, 0, 1]]) 3 7 7 = a 1 1 - a 0 0 := by
      simp [dtm, lapM, lo, rs, mtF] <;> grind
    rw [e]
    have nz := h
    grind)
  refine NF3_tr b1 (M2 b2 (k0 0 1 0 ?_))
  all_goals (refine k3 ?_ ?_ ?_ <;> simp [cl3, o01, o02, o10, o12, o20, o21] <;> grind)
theorem L1d_3_2 {a : Nat → Nat → Fin 5} (ha : sp 3 a) (o01 : a 0 1 = 0) (o02 : a 0 2 = 0) (o10 : a 1 0 = 0) (o12 : a 1 2 = 0) (o20 : a 2 0 = 0) (o21 : a 2 1 = 0) (h : a 0 0 ≠ a 2 2) : NF3 a := by
  obtain ⟨b, b1, b2, k0, k1, k2⟩ := st3 ha 1 0 1 (a 0 0) 0 (a 2 2) 0 1 0 (by
    have e : dtm (mtF [[1, 0, 1], [a 0 0, 0, a 2 2], [0, 1, 0]]) 3 7 7 = - (a 2 2 - a 0 0) := by
      simp [dtm, lapM, lo, rs, mtF] <;> grind
    rw [e]
    have nz := h
    grind)
  refine NF3_tr b1 (M2 b2 (k0 0 1 0 ?_))
  all_goals (refine k3 ?_ ?_ ?_ <;> simp [cl3, o01, o02, o10, o12, o20, o21] <;> grind)
theorem nf3 {a : Nat → Nat → Fin 5} (ha : sp 3 a) : NF3 a := by
  by_cases o01 : a 0 1 = 0
  case neg => exact L1_3_0_1 ha o01
  by_cases o02 : a 0 2 = 0
  case neg => exact L1_3_0_2 ha o02
  by_cases o10 : a 1 0 = 0
  case neg => exact L1_3_1_0 ha o10
  by_cases o12 : a 1 2 = 0
  case neg => exact L1_3_1_2 ha o12
  by_cases o20 : a 2 0 = 0
  case neg => exact L1_3_2_0 ha o20
  by_cases o21 : a 2 1 = 0
  case neg => exact L1_3_2_1 ha o21
  by_cases d1 : a 0 0 = a 1 1
  case neg => exact L1d_3_1 ha o01 o02 o10 o12 o20 o21 d1
  by_cases d2 : a 0 0 = a 2 2
  case neg => exact L1d_3_2 ha o01 o02 o10 o12 o20 o21 d2
  refine Or.inl ⟨(a 0 0).val, Fin.isLt _, ?_⟩
  exact fin3 ha (sp3 (Nat.le_refl _) (Nat.le_refl _) (Nat.le_refl _)) (x0 := a 0 0) (x1 := 0) (x2 := 0) (y0 := 0) (y1 := a 0 0) (y2 := 0) (z0 := 0) (z1 := 0) (z2 := a 0 0) ⟨rfl, o10, o20⟩ ⟨o01, d1.symm, o21⟩ ⟨o02, o12, d2.symm⟩ ⟨kk_fin _, rfl, rfl⟩ ⟨rfl, kk_fin _, rfl⟩ ⟨rfl, rfl, kk_fin _⟩
theorem P2 {a : Nat → Nat → Fin 5} (ha : sp 2 a) (h0 : col2 a 0 0 1) : NF2 a := by
  refine Or.inr ⟨(a 0 1).val, (a 1 1).val, Fin.isLt _, Fin.isLt _, ?_⟩
  exact fin2 ha (sp2 (Nat.le_refl _) (Nat.le_refl _)) h0 (h1 := (⟨rfl, rfl⟩ : col2 a 1 (a 0 1) (a 1 1))) ⟨rfl, rfl⟩ ⟨kk_fin _, kk_fin _⟩
theorem L1_2_0_1 {a : Nat → Nat → Fin 5} (ha : sp 2 a) (h : a 0 1 ≠ 0) : NF2 a := by
  obtain ⟨b, b1, b2, k0, k1⟩ := st2 ha 0 1 (a 0 1) (a 1 1) (by
    have e : dtm (mtF [[0, 1], [a 0 1, a 1 1]]) 2 3 3 = - (a 0 1) := by
      simp [dtm, lapM, lo, rs, mtF] <;> grind
    rw [e]
    have nz := h
    grind)
  refine NF2_tr b1 (P2 b2 (k0 0 1 ?_))
  all_goals (refine k2 ?_ ?_ <;> simp [cl2] <;> grind)
theorem L1_2_1_0 {a : Nat → Nat → Fin 5} (ha : sp 2 a) (h : a 1 0 ≠ 0) : NF2 a := by
  obtain ⟨b, b1, b2, k0, k1⟩ := st2 ha 1 0 (a 0 0) (a 1 0) (by
    have e : dtm (mtF [[1, 0], [a 0 0, a 1 0]]) 2 3 3 = a 1 0 := by
      simp [dtm, lapM, lo, rs, mtF] <;> grind
    rw [e]
    have nz := h
    grind)
  refine NF2_tr b1 (P2 b2 (k0 0 1 ?_))
  all_goals (refine k2 ?_ ?_ <;> simp [cl2] <;> grind)
theorem L1d_2_1 {a : Nat → Nat → Fin 5} (ha : sp 2 a) (o01 : a 0 1 = 0) (o10 : a 1 0 = 0) (h : a 0 0 ≠ a 1 1) : NF2 a := by
  obtain ⟨b, b1, b2, k0, k1⟩ := st2 ha 1 1 (a 0 0) (a 1 1) (by
    have e : dtm (mtF [[1, 1], [a 0 0, a 1 1]]) 2 3 3 = a 1 1 - a 0 0 := by
      simp [dtm, lapM, lo, rs, mtF] <;> grind
    rw [e]
    have nz := h
    grind)
  refine NF2_tr b1 (P2 b2 (k0 0 1 ?_))
  all_goals (refine k2 ?_ ?_ <;> simp [cl2, o01, o10] <;> grind)
theorem nf2 {a : Nat → Nat → Fin 5} (ha : sp 2 a) : NF2 a := by
  by_cases o01 : a 0 1 = 0
  case neg => exact L1_2_0_1 ha o01
  by_cases o10 : a 1 0 = 0
  case neg => exact L1_2_1_0 ha o10
  by_cases d1 : a 0 0 = a 1 1
  case neg => exact L1d_2_1 ha o01 o10 d1
  refine Or.inl ⟨(a 0 0).val, Fin.isLt _, ?_⟩
  exact fin2 ha (sp2 (Nat.le_refl _) (Nat.le_refl _)) (x0 := a 0 0) (x1 := 0) (y0 := 0) (y1 := a 0 0) ⟨rfl, o10⟩ ⟨o01, d1.symm⟩ ⟨kk_fin _, rfl⟩ ⟨rfl, kk_fin _⟩
