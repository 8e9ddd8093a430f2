/-! the component's product of slots -/
/-- entry of the product of slots a and b of c -/
def zP (c : Nat → Nat) (N a b i k : Nat) : Nat := zs (fun t => c (16 * a + (N * i + t)) * c (16 * b + (N * t + k))) N % 5
theorem zP_lt (c : Nat → Nat) (N a b i k : Nat) : zP c N a b i k < 5 := Nat.mod_lt _ (by decide)
theorem zs_cong {f g : Nat → Nat} : ∀ n : Nat, (∀ t, t < n → f t = g t) → zs f n = zs g n := by
  intro n
  induction n with
  | zero => intro _; rfl
  | succ n ih =>
    intro h
    show zs f n + f n = zs g n + g n
    rw [ih (fun t ht => h t (by omega)), h n (by omega)]
theorem zP_cong {c c' : Nat → Nat} {N a b a' b' i k : Nat} (hi : i < N) (hk : k < N) (h1 : ∀ t, t < N * N → c (16 * a + t) = c' (16 * a' + t)) (h2 : ∀ t, t < N * N → c (16 * b + t) = c' (16 * b' + t)) :
    zP c N a b i k = zP c' N a' b' i k := by
  refine congrArg (· % 5) (zs_cong N ?_)
  intro t ht
  rw [h1 _ (zi_lt hi ht), h2 _ (zi_lt ht hk)]
theorem xm_30 {post : SX → Prop} {J3 J15 : Int32 → (Nat → Int32) → (Nat → Int32) → (Nat → Int32) → Prop} {x1 : Int32} {N a b i k : Nat} {s m f : Nat → Nat} (hN : N ≤ 4) (ha : a < 6) (hb : b < 6) (hi : i < N) (hk : k < N) (hs : ∀ j, s j < 5)
    (H : J15 (nI (k + 1)) (zA (zu s (96 + (N * i + k)) (zP s N a b i k))) (zA m) (zA f)) :
    ∃ n, wX_multiply_30 post J3 J15 x1 (nI a) (nI b) (nI i) (nI k) (nI N) (zA s) (zA m) (zA f) n 0 0 := by
  have hsq := zi_sq hN
  have hik := zi_lt hi hk
  have hz := fun n => zs_le (f := fun t => s (16 * a + (N * i + t)) * s (16 * b + (N * t + k))) (B := 16) (fun t => Nat.mul_le_mul (Nat.le_of_lt_succ (hs _)) (Nat.le_of_lt_succ (hs _))) n
  refine loop_0 (fun n t (q : Nat) => wX_multiply_30 post J3 J15 x1 (nI a) (nI b) (nI i) (nI k) (nI N) (zA s) (zA m) (zA f) n (nI q) (nI t))
    (fun t q => q = zs (fun t => s (16 * a + (N * i + t)) * s (16 * b + (N * t + k))) t) N 0 rfl ?_ ?_
  · intro n q hq
    have := hz N
    refine br_t (nI_le (Nat.le_refl _) (by omega)) ⟨zf5, ?_, nm_r (e' := zA (zu s (96 + (N * i + k)) (zP s N a b i k))) ?_ (nm_r (nI_1 k) H)⟩
    · rw [pk_mul, z96a, nI_add]; exact vp_in_nI (by omega) (by decide)
    · rw [pk_mul, z96a, nI_add, nI_clamp (by omega), hq, z5r (by omega), zA_upd, Nat.add_assoc]; rfl
  · intro n t q ht hq ih
    have h1 := zi_lt hi ht
    have h2 := zi_lt ht hk
    refine br_f (nI_ge ht (by omega)) ⟨?_, nm_r (e' := nI (s (16 * a + (N * i + t)))) ?_ ⟨?_, nm_r (e' := nI (q + s (16 * a + (N * i + t)) * s (16 * b + (N * t + k)))) ?_ (nm_r (nI_1 t) (ih _ ?_))⟩⟩
    · rw [z16m, pk_mul, nI_add, nI_add]; exact vp_in_nI (by omega) (by decide)
    · rw [z16m, pk_mul, nI_add, nI_add, nI_clamp (by omega), zA_at, Nat.add_assoc]
    · rw [z16m, pk_mul, nI_add, nI_add]; exact vp_in_nI (by omega) (by decide)
    · rw [z16m, pk_mul, nI_add, nI_add, nI_clamp (by omega), zA_at, pk_mul, nI_add, Nat.add_assoc]
    · rw [hq]; rfl
theorem xs_mul {post : SX → Prop} {N d a b : Nat} {c m f : Nat → Nat} (hN : N ≤ 4) (hd : d < 6) (ha : a < 6) (hb : b < 6) (hc : ∀ j, c j < 5)
    (H : ∀ c' : Nat → Nat, (∀ j, j < 96 → (j < 16 * d ∨ 16 * d + N * N ≤ j) → c' j = c j) → (∀ j, c' j < 5) →
      (∀ i k, i < N → k < N → c' (16 * d + (N * i + k)) = zP c N a b i k) → post (zX N c' m f)) :
    wpX_multiply post (zX N c m f) (nI d) (nI a) (nI b) := by
  have hsq := zi_sq hN
  show ∃ n3, wX_multiply_3 post (nI d) (nI a) (nI b) (nI N) n3 0 (zA c) (zA m) (zA f)
  refine loop_0 (fun n i (s : Nat → Nat) => wX_multiply_3 post (nI d) (nI a) (nI b) (nI N) n (nI i) (zA s) (zA m) (zA f))
    (fun i s => (∀ j, j < 96 → s j = c j) ∧ (∀ j, s j < 5) ∧ ∀ i' k', i' < i → i' < N → k' < N → s (96 + (N * i' + k')) = zP c N a b i' k') N c ⟨fun _ _ => rfl, hc, fun i' k' h => absurd h (by omega)⟩ ?_ ?_
  · intro n s hI
    refine br_t (nI_le (Nat.le_refl _) (by omega)) ?_
    refine xs_copy (a := 6) hN (by omega) (by omega) (by omega) ?_
    intro c' h1 h2
    have hb5 : ∀ j, c' j < 5 := by
      intro j
      by_cases e : j < 16 * d ∨ 16 * d + N * N ≤ j
      · rw [h1 j e]; exact hI.2.1 j
      · have := h2 (j - 16 * d) (by omega)
        rw [show 16 * d + (j - 16 * d) = j by omega] at this
        rw [this]; exact hI.2.1 _
    refine H c' ?_ hb5 ?_
    · intro j hj e
      rw [h1 j e]; exact hI.1 j hj
    · intro i k hi hk
      rw [h2 _ (zi_lt hi hk)]
      exact hI.2.2 i k hi hi hk
  · intro n i s hi hI ih
    refine br_f (nI_ge hi (by omega)) ?_
    refine loop_0 (fun n' k (s' : Nat → Nat) => wX_multiply_15 post (wX_multiply_3 post (nI d) (nI a) (nI b) (nI N) n) (nI d) (nI a) (nI b) (nI i) (nI N) n' (nI k) (zA s') (zA m) (zA f))
      (fun k s' => (∀ j, j < 96 → s' j = c j) ∧ (∀ j, s' j < 5) ∧ ∀ i' k', (i' < i ∨ (i' = i ∧ k' < k)) → i' < N → k' < N → s' (96 + (N * i' + k')) = zP c N a b i' k') N s ⟨hI.1, hI.2.1, ?_⟩ ?_ ?_
    · intro i' k' h hi' hk'
      exact hI.2.2 i' k' (by omega) hi' hk'
    · intro n' s' hJ
      refine br_t (nI_le (Nat.le_refl _) (by omega)) (nm_r (nI_1 i) (ih s' ⟨hJ.1, hJ.2.1, ?_⟩))
      intro i' k' h hi' hk'
      exact hJ.2.2 i' k' (by omega) hi' hk'
    · intro n' k s' hk hJ ih'
      refine br_f (nI_ge hk (by omega)) ?_
      refine xm_30 hN ha hb hi hk hJ.2.1 (ih' _ ⟨?_, ?_, ?_⟩)
      · intro j hj
        rw [zu_n (by omega)]; exact hJ.1 j hj
      · exact zu_lt hJ.2.1 (zP_lt _ _ _ _ _ _)
      · intro i' k' h hi' hk'
        have hcg : zP s' N a b i k = zP c N a b i k := zP_cong hi hk (fun t ht => hJ.1 _ (by omega)) (fun t ht => hJ.1 _ (by omega))
        by_cases e : 96 + (N * i' + k') = 96 + (N * i + k)
        · obtain ⟨rfl, rfl⟩ := zi_inj hk' hk (Nat.add_left_cancel e)
          rw [zu_s, hcg]
        · rw [zu_n e]
          refine hJ.2.2 i' k' ?_ hi' hk'
          rcases h with h | ⟨h, h'⟩
          · exact Or.inl h
          · refine Or.inr ⟨h, ?_⟩
            subst h
            by_cases e2 : k' = k
            · subst e2; exact absurd rfl e
            · omega
theorem xs_isId {post : Int32 → Prop} {N s : Nat} {c m f : Nat → Nat} (hN : N ≤ 4) (hs : s < 7) (hc : ∀ j, c j < 5)
    (H1 : (∀ i k, i < N → k < N → c (16 * s + (N * i + k)) = if i = k then 1 else 0) → post 1)
    (H0 : (¬ ∀ i k, i < N → k < N → c (16 * s + (N * i + k)) = if i = k then 1 else 0) → post 0) :
    wpX_isIdentity post (zX N c m f) (nI s) := by
  have hsq := zi_sq hN
  show ∃ n2, wX_isIdentity_2 post (nI s) (nI N) (zA c) (zA m) (zA f) n2 0
  refine loop_0 (fun n i (_ : Unit) => wX_isIdentity_2 post (nI s) (nI N) (zA c) (zA m) (zA f) n (nI i))
    (fun i _ => ∀ i' k', i' < i → k' < N → c (16 * s + (N * i' + k')) = if i' = k' then 1 else 0) N () (fun i' k' h => absurd h (by omega)) ?_ ?_
  · intro n _ hI
    exact br_t (nI_le (Nat.le_refl _) (by omega)) (H1 hI)
  · intro n i _ hi hI ih
    refine br_f (nI_ge hi (by omega)) ?_
    refine loop_0 (fun n' k (_ : Unit) => wX_isIdentity_12 post (wX_isIdentity_2 post (nI s) (nI N) (zA c) (zA m) (zA f) n) (nI s) (nI i) (nI N) (zA c) (zA m) (zA f) n' (nI k))
      (fun k _ => ∀ k', k' < k → c (16 * s + (N * i + k')) = if i = k' then 1 else 0) N () (fun k' h => absurd h (by omega)) ?_ ?_
    · intro n' _ hJ
      refine br_t (nI_le (Nat.le_refl _) (by omega)) (nm_r (nI_1 i) (ih () ?_))
      intro i' k' h hk'
      by_cases e : i' = i
      · subst e; exact hJ k' hk'
      · exact hI i' k' (by omega) hk'
    · intro n' k _ hk hJ ih'
      have hik := zi_lt hi hk
      have hcl := hc (16 * s + (N * i + k))
      have key : ∀ z : Nat, z = (if i = k then 1 else 0) → wX_isIdentity_30 post (wX_isIdentity_2 post (nI s) (nI N) (zA c) (zA m) (zA f) n) (wX_isIdentity_12 post (wX_isIdentity_2 post (nI s) (nI N) (zA c) (zA m) (zA f) n) (nI s) (nI i) (nI N) (zA c) (zA m) (zA f) n') (nI s) (nI i) (nI k) (nI z) (nI N) (zA c) (zA m) (zA f) := by
        intro z hz
        have hz2 : z < 5 := by rw [hz]; split <;> decide
        have e0 : ((16 : Int32) * nI s + nI N * nI i) + nI k = nI (16 * s + (N * i + k)) := by
          rw [z16m, pk_mul, nI_add, nI_add, Nat.add_assoc]
        unfold wX_isIdentity_30
        rw [e0, nI_clamp (by omega), zA_at]
        refine ⟨vp_in_nI (by omega) (by decide), pk_eq (c (16 * s + (N * i + k))) z ?_ ?_⟩
        · intro e
          refine nm_r (nI_1 k) (ih' () ?_)
          intro k' hk'
          by_cases e2 : k' = k
          · subst e2; rw [e, hz]
          · exact hJ k' (by omega)
        · intro e
          refine H0 ?_
          intro z'
          exact e (by rw [z' i k hi hk, hz])
      refine br_f (nI_ge hk (by omega)) (pk_eq i k ?_ ?_)
      · intro e
        exact key 1 (by rw [if_pos e])
      · intro e
        exact key 0 (by rw [if_neg e])
