/-! the component's matrix methods over slots -/
theorem zi_sq {N : Nat} (hN : N ≤ 4) : N * N ≤ 16 := Nat.mul_le_mul hN hN
theorem zi_lt {N i j : Nat} (hi : i < N) (hj : j < N) : N * i + j < N * N := by
  have h : N * (i + 1) ≤ N * N := Nat.mul_le_mul_left N hi
  rw [Nat.mul_succ] at h
  omega
theorem zi_inj {N i j i' j' : Nat} (hj : j < N) (hj' : j' < N) (h : N * i + j = N * i' + j') : i = i' ∧ j = j' := by
  have h1 : (N * i + j) / N = i := by
    rw [Nat.mul_add_div (by omega), Nat.div_eq_of_lt hj, Nat.add_zero]
  have h2 : (N * i' + j') / N = i' := by
    rw [Nat.mul_add_div (by omega), Nat.div_eq_of_lt hj', Nat.add_zero]
  have h3 : i = i' := by rw [← h1, ← h2, h]
  subst h3
  exact ⟨rfl, by omega⟩
/-- sums of products -/
def zs (f : Nat → Nat) : Nat → Nat
  | 0 => 0
  | n + 1 => zs f n + f n
theorem zs_le {f : Nat → Nat} {B : Nat} (h : ∀ t, f t ≤ B) (n : Nat) : zs f n ≤ n * B := by
  induction n with
  | zero => exact Nat.zero_le _
  | succ n ih =>
    have := h n
    show zs f n + f n ≤ (n + 1) * B
    rw [Nat.succ_mul]
    omega
theorem xs_copy {post : SX → Prop} {N d a : Nat} {c m f : Nat → Nat} (hN : N ≤ 4) (hd : d < 7) (ha : a < 7) (hda : d ≠ a)
    (H : ∀ c' : Nat → Nat, (∀ j, (j < 16 * d ∨ 16 * d + N * N ≤ j) → c' j = c j) → (∀ t, t < N * N → c' (16 * d + t) = c (16 * a + t)) → post (zX N c' m f)) :
    wpX_copy post (zX N c m f) (nI d) (nI a) := by
  have hsq := zi_sq hN
  show ∃ n2, wX_copy_2 post (nI d) (nI a) (nI N) n2 0 (zA c) (zA m) (zA f)
  refine loop_0 (fun n i (s : Nat → Nat) => wX_copy_2 post (nI d) (nI a) (nI N) n (nI i) (zA s) (zA m) (zA f))
    (fun i s => (∀ j, (j < 16 * d ∨ 16 * d + i ≤ j) → s j = c j) ∧ ∀ t, t < i → s (16 * d + t) = c (16 * a + t)) (N * N) c ⟨fun _ _ => rfl, fun t h => absurd h (by omega)⟩ ?_ ?_
  · intro n s hI
    exact br_t (by rw [pk_mul]; exact nI_le (Nat.le_refl _) (by omega)) (H s hI.1 hI.2)
  · intro n i s hi hI ih
    refine br_f (by rw [pk_mul]; exact nI_ge hi (by omega)) ⟨?_, ?_, nm_r (e' := zA (zu s (16 * d + i) (s (16 * a + i)))) ?_ (nm_r (nI_1 i) (ih _ ⟨?_, ?_⟩))⟩
    · rw [z16m, nI_add]; exact vp_in_nI (by omega) (by decide)
    · rw [z16m, nI_add]; exact vp_in_nI (by omega) (by decide)
    · rw [z16m, z16m, nI_add, nI_add, nI_clamp (by omega), nI_clamp (by omega), zA_at, zA_upd]
    · intro j hj
      rw [zu_n (by omega)]
      exact hI.1 j (by omega)
    · intro t ht
      by_cases e : t = i
      · subst e
        rw [zu_s]
        exact hI.1 _ (by omega)
      · rw [zu_n (by omega)]
        exact hI.2 t (by omega)
theorem xs_clear {post : SX → Prop} {N d : Nat} {c m f : Nat → Nat} (hN : N ≤ 4) (hd : d < 7)
    (H : ∀ c' : Nat → Nat, (∀ j, (j < 16 * d ∨ 16 * d + N * N ≤ j) → c' j = c j) → (∀ t, t < N * N → c' (16 * d + t) = 0) → post (zX N c' m f)) :
    wpX_clear post (zX N c m f) (nI d) := by
  have hsq := zi_sq hN
  show ∃ n2, wX_clear_2 post (nI d) (nI N) n2 0 (zA c) (zA m) (zA f)
  refine loop_0 (fun n i (s : Nat → Nat) => wX_clear_2 post (nI d) (nI N) n (nI i) (zA s) (zA m) (zA f))
    (fun i s => (∀ j, (j < 16 * d ∨ 16 * d + i ≤ j) → s j = c j) ∧ ∀ t, t < i → s (16 * d + t) = 0) (N * N) c ⟨fun _ _ => rfl, fun t h => absurd h (by omega)⟩ ?_ ?_
  · intro n s hI
    exact br_t (by rw [pk_mul]; exact nI_le (Nat.le_refl _) (by omega)) (H s hI.1 hI.2)
  · intro n i s hi hI ih
    refine br_f (by rw [pk_mul]; exact nI_ge hi (by omega)) ⟨?_, nm_r (e' := zA (zu s (16 * d + i) 0)) ?_ (nm_r (nI_1 i) (ih _ ⟨?_, ?_⟩))⟩
    · rw [z16m, nI_add]; exact vp_in_nI (by omega) (by decide)
    · rw [z16m, nI_add, nI_clamp (by omega), ← zA_upd]; rfl
    · intro j hj
      rw [zu_n (by omega)]
      exact hI.1 j (by omega)
    · intro t ht
      by_cases e : t = i
      · subst e
        exact zu_s _ _ _
      · rw [zu_n (by omega)]
        exact hI.2 t (by omega)
theorem xs_addDiag {post : SX → Prop} {N d v : Nat} {c m f : Nat → Nat} (hN : N ≤ 4) (hd : d < 7) (hv : v < 5) (hc : ∀ j, c j < 5)
    (H : ∀ c' : Nat → Nat, (∀ j, (j < 16 * d ∨ 16 * d + N * N ≤ j) → c' j = c j) → (∀ j, c' j < 5) →
      (∀ i j, i < N → j < N → c' (16 * d + (N * i + j)) = if i = j then (c (16 * d + (N * i + j)) + v) % 5 else c (16 * d + (N * i + j))) → post (zX N c' m f)) :
    wpX_addToDiagonal post (zX N c m f) (nI d) (nI v) := by
  have hsq := zi_sq hN
  show ∃ n2, wX_addToDiagonal_2 post (nI d) (nI v) (nI N) n2 0 (zA c) (zA m) (zA f)
  refine loop_0 (fun n i (s : Nat → Nat) => wX_addToDiagonal_2 post (nI d) (nI v) (nI N) n (nI i) (zA s) (zA m) (zA f))
    (fun k s => (∀ j, (j < 16 * d ∨ 16 * d + N * N ≤ j) → s j = c j) ∧ (∀ j, s j < 5) ∧ ∀ i j, i < N → j < N → s (16 * d + (N * i + j)) = if i = j ∧ i < k then (c (16 * d + (N * i + j)) + v) % 5 else c (16 * d + (N * i + j))) N c ⟨fun _ _ => rfl, hc, fun i j _ _ => (if_neg (by omega)).symm⟩ ?_ ?_
  · intro n s hI
    refine br_t (nI_le (Nat.le_refl _) (by omega)) (H s hI.1 hI.2.1 ?_)
    intro i j hi hj
    rw [hI.2.2 i j hi hj]
    by_cases e : i = j
    · rw [if_pos ⟨e, hi⟩, if_pos e]
    · rw [if_neg (by omega), if_neg e]
  · intro n i s hi hI ih
    have hlt := zi_lt hi hi
    have hs := hI.2.1 (16 * d + (N * i + i))
    have e0 : ((16 : Int32) * nI d + nI N * nI i) + nI i = nI (16 * d + (N * i + i)) := by
      rw [z16m, pk_mul, nI_add, nI_add, Nat.add_assoc]
    refine br_f (nI_ge hi (by omega)) (nm_r e0 ⟨vp_in_nI (by omega) (by decide), zf5, vp_in_nI (by omega) (by decide), nm_r (e' := zA (zu s (16 * d + (N * i + i)) ((s (16 * d + (N * i + i)) + v) % 5))) ?_ (nm_r (nI_1 i) (ih _ ⟨?_, ?_, ?_⟩))⟩)
    · rw [nI_clamp (by omega), zA_at, nI_add, z5r (by omega), zA_upd]
    · intro j hj
      rw [zu_n (by omega)]
      exact hI.1 j hj
    · exact zu_lt hI.2.1 (by omega)
    · intro i' j' hi' hj'
      by_cases e : 16 * d + (N * i' + j') = 16 * d + (N * i + i)
      · obtain ⟨rfl, rfl⟩ := zi_inj hj' hi (Nat.add_left_cancel e)
        rw [zu_s, if_pos ⟨rfl, by omega⟩, hI.2.2 _ _ hi hi, if_neg (by omega)]
      · rw [zu_n e, hI.2.2 i' j' hi' hj']
        by_cases e2 : i' = j' ∧ i' < i
        · rw [if_pos e2, if_pos ⟨e2.1, by omega⟩]
        · have e3 : ¬ (i' = j' ∧ i' < i + 1) := by
            intro z
            obtain ⟨z1, z2⟩ := z
            subst z1
            have : i' = i := by
              by_cases z3 : i' = i
              · exact z3
              · exact absurd ⟨rfl, by omega⟩ e2
            subst this
            exact e rfl
          rw [if_neg e2, if_neg e3]
theorem xs_addMul {post : SX → Prop} {N d a v b : Nat} {c m f : Nat → Nat} (hN : N ≤ 4) (hd : d < 7) (ha : a < 7) (hb : b < 7) (hv : v < 5) (hc : ∀ j, c j < 5)
    (H : ∀ c' : Nat → Nat, (∀ j, (j < 16 * d ∨ 16 * d + N * N ≤ j) → c' j = c j) → (∀ j, c' j < 5) →
      (∀ t, t < N * N → c' (16 * d + t) = (c (16 * a + t) + v * c (16 * b + t)) % 5) → post (zX N c' m f)) :
    wpX_addMultiple post (zX N c m f) (nI d) (nI a) (nI v) (nI b) := by
  have hsq := zi_sq hN
  show ∃ n2, wX_addMultiple_3 post (nI d) (nI a) (nI v) (nI b) (nI N) n2 0 (zA c) (zA m) (zA f)
  refine loop_0 (fun n i (s : Nat → Nat) => wX_addMultiple_3 post (nI d) (nI a) (nI v) (nI b) (nI N) n (nI i) (zA s) (zA m) (zA f))
    (fun i s => (∀ j, (j < 16 * d ∨ 16 * d + i ≤ j) → s j = c j) ∧ (∀ j, s j < 5) ∧ (∀ t, t < i → s (16 * d + t) = (c (16 * a + t) + v * c (16 * b + t)) % 5)) (N * N) c ⟨fun _ _ => rfl, hc, fun t h => absurd h (by omega)⟩ ?_ ?_
  · intro n s hI
    exact br_t (by rw [pk_mul]; exact nI_le (Nat.le_refl _) (by omega)) (H s hI.1 hI.2.1 hI.2.2)
  · intro n i s hi hI ih
    have h1 := hI.2.1 (16 * a + i)
    have h2 := hI.2.1 (16 * b + i)
    have h3 : v * s (16 * b + i) ≤ 4 * 4 := Nat.mul_le_mul (by omega) (by omega)
    refine br_f (by rw [pk_mul]; exact nI_ge hi (by omega)) ⟨?_, ?_, nm_r (e' := nI (s (16 * a + i) + v * s (16 * b + i))) ?_ ⟨zf5, ?_, nm_r (e' := zA (zu s (16 * d + i) ((s (16 * a + i) + v * s (16 * b + i)) % 5))) ?_ (nm_r (nI_1 i) (ih _ ⟨?_, ?_, ?_⟩))⟩⟩
    · rw [z16m, nI_add]; exact vp_in_nI (by omega) (by decide)
    · rw [z16m, nI_add]; exact vp_in_nI (by omega) (by decide)
    · rw [z16m, z16m, nI_add, nI_add, nI_clamp (by omega), nI_clamp (by omega), zA_at, zA_at, pk_mul, nI_add]
    · rw [z16m, nI_add]; exact vp_in_nI (by omega) (by decide)
    · rw [z16m, nI_add, nI_clamp (by omega), z5r (by omega), zA_upd]
    · intro j hj
      rw [zu_n (by omega)]
      exact hI.1 j (by omega)
    · exact zu_lt hI.2.1 (by omega)
    · intro t ht
      by_cases e : t = i
      · subst e
        have q1 : s (16 * a + t) = c (16 * a + t) := hI.1 _ (by omega)
        have q2 : s (16 * b + t) = c (16 * b + t) := hI.1 _ (by omega)
        rw [zu_s, q1, q2]
      · rw [zu_n (by omega)]
        exact hI.2.2 t (by omega)
