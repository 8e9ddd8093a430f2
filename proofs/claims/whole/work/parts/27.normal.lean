/-! normal -/
/-- a slot's content after i rows of a companion with its corner at co -/
def wr (N co s : Nat) (h : Nat → Nat) : Nat → (Nat → Nat)
  | 0 => h
  | i + 1 => zu (if 0 < i then zu (wr N co s h i) (N * (co + i) + (co + i - 1)) 1 else wr N co s h i) (N * (co + i) + (co + dg s - 1)) ((5 - s / 5 ^ i % 5) % 5)
theorem wr_z {N co s : Nat} {h : Nat → Nat} (hc : co + dg s ≤ N) (hz : ∀ t, N * co ≤ t → h t = 0) : ∀ i, i ≤ dg s → ∀ t, N * (co + i) ≤ t → wr N co s h i t = 0 := by
  intro i
  induction i with
  | zero => intro _ t ht; exact hz t ht
  | succ i ih =>
    intro hi t ht
    have e : N * (co + (i + 1)) = N * (co + i) + N := by rw [← Nat.add_assoc, Nat.mul_succ]
    rw [e] at ht
    show zu (if 0 < i then zu (wr N co s h i) (N * (co + i) + (co + i - 1)) 1 else wr N co s h i) (N * (co + i) + (co + dg s - 1)) ((5 - s / 5 ^ i % 5) % 5) t = 0
    rw [zu_n (by omega)]
    split
    · rw [zu_n (by omega)]; exact ih (by omega) t (by omega)
    · exact ih (by omega) t (by omega)
/-- slot content and next corner after k companions -/
def nmS (N : Nat) (s : Nat → Nat) : Nat → (Nat → Nat) × Nat
  | 0 => (fun _ => 0, 0)
  | k + 1 => (wr N (nmS N s k).2 (s k) (nmS N s k).1 (dg (s k)), (nmS N s k).2 + dg (s k))
theorem fac_dg {A : Nat → Nat → Nat} {N : Nat} {d s : Nat → Nat} (hN : N ≤ 4) (h : fac A N d s) : ∀ k, k ≤ N → (nmS N s k).2 = dg (d k) := by
  intro k
  induction k with
  | zero =>
    intro _
    have : d 0 = 1 := gD_uniq (h.1 0 (Nat.zero_le _)) (gD_0 A hN)
    rw [this]; rfl
  | succ k ih =>
    intro hk
    show (nmS N s k).2 + dg (s k) = _
    rw [ih (by omega), (fac_s hN h k (by omega)).2.2.1]
theorem fac_dgN {A : Nat → Nat → Nat} {N : Nat} {d s : Nat → Nat} (hN : N ≤ 4) (h : fac A N d s) : ∀ k, k ≤ N → dg (d k) ≤ N := by
  have main : ∀ t, t ≤ N → dg (d (N - t)) ≤ N := by
    intro t
    induction t with
    | zero => intro _; rw [Nat.sub_zero, (gD_N hN (h.1 N (Nat.le_refl _))).2]; exact Nat.le_refl _
    | succ t ih =>
      intro ht
      have := (fac_s hN h (N - (t + 1)) (by omega)).2.2.1
      rw [show N - (t + 1) + 1 = N - t by omega] at this
      have := ih (by omega)
      omega
  intro k hk
  have := main (N - k) (by omega)
  rwa [show N - (N - k) = k by omega] at this
theorem nmS_z {N : Nat} {s : Nat → Nat} {n : Nat} (hb : ∀ k, k ≤ n → (nmS N s k).2 ≤ N) : ∀ k, k ≤ n → ∀ t, N * (nmS N s k).2 ≤ t → (nmS N s k).1 t = 0 := by
  intro k
  induction k with
  | zero => intro _ t _; rfl
  | succ k ih =>
    intro hk t ht
    have h1 := hb (k + 1) hk
    exact wr_z h1 (ih (by omega)) (dg (s k)) (Nat.le_refl _) t ht
theorem xs_comp {post : SX → Prop} {N d co s : Nat} {c m f h : Nat → Nat} (hN : N ≤ 4) (hd : d < 4) (hs : s < 3125) (hco : co + dg s ≤ N) (hc : ∀ j, c j < 5) (hh : ∀ t, t < N * N → c (16 * d + t) = h t)
    (H : ∀ c' : Nat → Nat, (∀ j, (j < 16 * d ∨ 16 * d + N * N ≤ j) → c' j = c j) → (∀ j, c' j < 5) → (∀ t, t < N * N → c' (16 * d + t) = wr N co s h (dg s) t) → post (zX N c' m f)) :
    wpX_writeCompanion post (zX N c m f) (nI d) (nI co) (nI s) := by
  have hsq := zi_sq hN
  have h4 := dg_4 s
  unfold wpX_writeCompanion; dsimp only
  refine xs_degree hs ?_
  generalize hm : dg s = mm at *
  rw [show nI s = nI (s / 5 ^ 0) by rw [Nat.pow_zero, Nat.div_one]]
  refine loop_0 (fun n i (q : Nat → Nat) => wX_writeCompanion_12 post (nI d) (nI co) (nI mm) (nI N) n (nI (s / 5 ^ i)) (nI i) (zA q) (zA m) (zA f))
    (fun i q => (∀ j, (j < 16 * d ∨ 16 * d + N * N ≤ j) → q j = c j) ∧ (∀ j, q j < 5) ∧ ∀ t, t < N * N → q (16 * d + t) = wr N co s h i t) mm c ⟨fun _ _ => rfl, hc, hh⟩ ?_ ?_
  · intro n q hI
    exact br_t (nI_le (Nat.le_refl _) (by omega)) (H q hI.1 hI.2.1 hI.2.2)
  · intro n i q hi hI ih
    have l1 := zi_lt (N := N) (i := co + i) (j := co + mm - 1) (by omega) (by omega)
    have sdv : s / 5 ^ i ≤ s := Nat.div_le_self _ _
    have e5 : s / 5 ^ i / 5 = s / 5 ^ (i + 1) := by rw [Nat.div_div_eq_div_mul, Nat.pow_succ]
    have e0 : ((16 : Int32) * nI d + nI N * (nI co + nI i)) + nI co = nI (16 * d + (N * (co + i) + co)) := by
      rw [z16m, nI_add, pk_mul, nI_add, nI_add, Nat.add_assoc]
    have step : ∀ q1 : Nat → Nat, (∀ j, (j < 16 * d ∨ 16 * d + N * N ≤ j) → q1 j = c j) → (∀ j, q1 j < 5) → (∀ t, t < N * N → q1 (16 * d + t) = (if 0 < i then zu (wr N co s h i) (N * (co + i) + (co + i - 1)) 1 else wr N co s h i) t) →
        wX_writeCompanion_55 post (wX_writeCompanion_12 post (nI d) (nI co) (nI mm) (nI N) n) (nI d) (nI co) (nI mm) (nI (s / 5 ^ i)) (nI i) (nI (16 * d + (N * (co + i) + co))) (nI N) (zA q1) (zA m) (zA f) := by
      intro q1 p1 p2 p3
      have e1 : nI (16 * d + (N * (co + i) + co)) + nI mm - 1 = nI (16 * d + (N * (co + i) + (co + mm - 1))) := by
        rw [nI_add, zs1 (by omega)]
        exact congrArg nI (by omega)
      unfold wX_writeCompanion_55
      rw [e1, nI_clamp (by omega), z5r (by omega), z5s (by have := Nat.mod_lt (s / 5 ^ i) (show 5 > 0 by decide); omega), z5r (by omega), z5d (by omega), e5]
      refine ⟨zf5, zf5, vp_in_nI (by omega) (by decide), nm_r (zA_upd _ _ _) ⟨zf5, nm_e (nm_r (nI_1 i) (ih _ ⟨?_, ?_, ?_⟩))⟩⟩
      · intro j hj
        rw [zu_n (by omega)]; exact p1 j hj
      · exact zu_lt p2 (Nat.mod_lt _ (by decide))
      · intro t ht
        show _ = zu (if 0 < i then zu (wr N co s h i) (N * (co + i) + (co + i - 1)) 1 else wr N co s h i) (N * (co + i) + (co + dg s - 1)) ((5 - s / 5 ^ i % 5) % 5) t
        rw [hm]
        by_cases e : t = N * (co + i) + (co + mm - 1)
        · rw [e, zu_s, zu_s]
        · rw [zu_n (by omega), zu_n e]; exact p3 t ht
    refine br_f (nI_ge hi (by omega)) (nm_r e0 (pk_le i 0 ?_ ?_))
    · intro z
      refine step q hI.1 hI.2.1 ?_
      rw [if_neg (by omega)]; exact hI.2.2
    · intro z
      have l2 := zi_lt (N := N) (i := co + i) (j := co + i - 1) (by omega) (by omega)
      have e1 : nI (16 * d + (N * (co + i) + co)) + nI i - 1 = nI (16 * d + (N * (co + i) + (co + i - 1))) := by
        rw [nI_add, zs1 (by omega)]
        exact congrArg nI (by omega)
      rw [e1, nI_clamp (by omega)]
      refine ⟨vp_in_nI (by omega) (by decide), nm_r (e' := zA (zu q (16 * d + (N * (co + i) + (co + i - 1))) 1)) (zA_upd _ _ _) (step _ ?_ ?_ ?_)⟩
      · intro j hj
        rw [zu_n (by omega)]; exact hI.1 j hj
      · exact zu_lt hI.2.1 (by decide)
      · rw [if_pos z]
        intro t ht
        by_cases e : t = N * (co + i) + (co + i - 1)
        · rw [e, zu_s, zu_s]
        · rw [zu_n (by omega), zu_n e]; exact hI.2.2 t ht
theorem xs_normal {post : Int32 → SX → Prop} {N d : Nat} {c m f s : Nat → Nat} (hN : N ≤ 4) (hd : d < 4) (hc : ∀ j, c j < 5) (h0 : ∀ t, t < N * N → c (16 * d + t) = 0) (hf : ∀ k, k < N → f k = s k) (hs : ∀ k, k < N → s k < 3125) (hb : ∀ k, k ≤ N → (nmS N s k).2 ≤ N)
    (H : ∀ c' : Nat → Nat, (∀ j, (j < 16 * d ∨ 16 * d + N * N ≤ j) → c' j = c j) → (∀ j, c' j < 5) → (∀ t, t < N * N → c' (16 * d + t) = (nmS N s N).1 t) → post 1 (zX N c' m f)) :
    ∃ n32, wX_normal_32 post (nI d) n32 0 0 (nI N) (zA c) (zA m) (zA f) := by
  have hsq := zi_sq hN
  refine loop_0 (fun n k (q : Nat → Nat) => wX_normal_32 post (nI d) n (nI (nmS N s k).2) (nI k) (nI N) (zA q) (zA m) (zA f))
    (fun k q => (∀ j, (j < 16 * d ∨ 16 * d + N * N ≤ j) → q j = c j) ∧ (∀ j, q j < 5) ∧ ∀ t, t < N * N → q (16 * d + t) = (nmS N s k).1 t) N c ⟨fun _ _ => rfl, hc, h0⟩ ?_ ?_
  · intro n q hI
    exact br_t (nI_le (Nat.le_refl _) (by omega)) (H q hI.1 hI.2.1 hI.2.2)
  · intro n k q hk hI ih
    have b1 := hb k (by omega)
    have b2 : (nmS N s k).2 + dg (s k) ≤ N := hb (k + 1) hk
    have b3 := hs k hk
    refine br_f (nI_ge hk (by omega)) ⟨vp_in_nI (by omega) (by decide), nm_r (e' := nI (s k)) (by rw [nI_clamp (by omega), zA_at, hf k hk]) ?_⟩
    refine xs_degree b3 ?_
    rw [nI_add]
    refine br_f (nI_nlt b2 (by omega)) ?_
    refine xs_comp hN hd b3 b2 hI.2.1 hI.2.2 ?_
    intro q' p1 p2 p3
    refine nm_e (nm_r (nI_1 k) (ih q' ⟨?_, p2, p3⟩))
    intro j hj
    rw [p1 j hj]; exact hI.1 j hj
theorem ys_comp {post : Int32 → SY → Prop} {J : Int32 → Int32 → (Nat → Int32) → (Nat → Int32) → (Nat → Int32) → (Nat → Int32) → (Nat → Int32) → (Nat → Int32) → (Nat → Int32) → (Nat → Int32) → Prop} {N d co k s : Nat} {g h : Nat → Nat} {mn te dv ot fc kp rw : Nat → Nat} (hN : N ≤ 4) (hd : d < 4) (hk : k < 4) (hs : s < 3125) (hco : co + dg s ≤ N) (hg : ∀ j, g j < 5) (hh : ∀ t, t < N * N → g (16 * d + t) = h t) (hz : ∀ t, N * co ≤ t → h t = 0) (hf : ∀ j, j < 5 → fc (5 * k + j) = s / 5 ^ j % 5)
    (H : ∀ g' : Nat → Nat, (∀ j, (j < 16 * d ∨ 16 * d + N * N ≤ j) → g' j = g j) → (∀ j, g' j < 5) → (∀ t, t < N * N → g' (16 * d + t) = wr N co s h (dg s) t) → J (nI (co + dg s)) (nI (k + 1)) (zA g') (zA mn) (zA te) (zA dv) (zA ot) (zA fc) (zA kp) (zA rw)) :
    ∃ n74, wY_normal_74 post J (nI d) (nI co) (nI k) (nI (dg s)) (nI N) n74 0 (zA g) (zA mn) (zA te) (zA dv) (zA ot) (zA fc) (zA kp) (zA rw) := by
  have hsq := zi_sq hN
  have h4 := dg_4 s
  generalize hm : dg s = mm at *
  refine loop_0 (fun n i (q : Nat → Nat) => wY_normal_74 post J (nI d) (nI co) (nI k) (nI mm) (nI N) n (nI i) (zA q) (zA mn) (zA te) (zA dv) (zA ot) (zA fc) (zA kp) (zA rw))
    (fun i q => (∀ j, (j < 16 * d ∨ 16 * d + N * N ≤ j) → q j = g j) ∧ (∀ j, q j < 5) ∧ ∀ t, t < N * N → q (16 * d + t) = wr N co s h i t) mm g ⟨fun _ _ => rfl, hg, hh⟩ ?_ ?_
  · intro n q hI
    exact br_t (nI_le (Nat.le_refl _) (by omega)) (nm_r (nI_add co mm) (nm_r (nI_1 k) (H q hI.1 hI.2.1 hI.2.2)))
  · intro n i q hi hI ih
    have l1 := zi_lt (N := N) (i := co + i) (j := co + mm - 1) (by omega) (by omega)
    have e0 : (16 : Int32) * nI d + nI N * (nI co + nI i) = nI (16 * d + N * (co + i)) := by
      rw [z16m, nI_add, pk_mul, nI_add]
    have step : ∀ q1 : Nat → Nat, (∀ j, (j < 16 * d ∨ 16 * d + N * N ≤ j) → q1 j = g j) → (∀ j, q1 j < 5) → (∀ t, t < N * N → q1 (16 * d + t) = (if 0 < i then zu (wr N co s h i) (N * (co + i) + (co + i - 1)) 1 else wr N co s h i) t) →
        wY_normal_117 post J (wY_normal_74 post J (nI d) (nI co) (nI k) (nI mm) (nI N) n) (nI d) (nI co) (nI k) (nI mm) (nI i) (nI (16 * d + N * (co + i))) (nI N) (zA q1) (zA mn) (zA te) (zA dv) (zA ot) (zA fc) (zA kp) (zA rw) := by
      intro q1 p1 p2 p3
      have e1 : nI (16 * d + N * (co + i)) + nI co + nI mm - 1 = nI (16 * d + (N * (co + i) + (co + mm - 1))) := by
        rw [nI_add, nI_add, zs1 (by omega)]
        exact congrArg nI (by omega)
      have e2 : (5 : Int32) * nI k + nI i = nI (5 * k + i) := by rw [z5m, nI_add]
      have hold : q1 (16 * d + (N * (co + i) + (co + mm - 1))) = 0 := by
        rw [p3 _ l1]
        have wz := wr_z (h := h) (show co + dg s ≤ N by rw [hm]; exact hco) hz i (by omega) (N * (co + i) + (co + mm - 1)) (by omega)
        split
        · rw [zu_n (by omega)]; exact wz
        · exact wz
      have hfi := hf i (by omega)
      have hm5 : s / 5 ^ i % 5 < 5 := Nat.mod_lt _ (by decide)
      unfold wY_normal_117
      rw [e1, e2, nI_clamp (by omega), nI_clamp (by omega), zA_at, zA_at, hold, hfi, za5, Nat.zero_add, pk_sub (by omega), z5r (by omega)]
      refine ⟨vp_in_nI (by omega) (by decide), vp_in_nI (by omega) (by decide), zf5, vp_in_nI (by omega) (by decide), nm_r (zA_upd _ _ _) (nm_r (nI_1 i) (ih _ ⟨?_, ?_, ?_⟩))⟩
      · intro j hj
        rw [zu_n (by omega)]; exact p1 j hj
      · exact zu_lt p2 (Nat.mod_lt _ (by decide))
      · intro t ht
        show _ = zu (if 0 < i then zu (wr N co s h i) (N * (co + i) + (co + i - 1)) 1 else wr N co s h i) (N * (co + i) + (co + dg s - 1)) ((5 - s / 5 ^ i % 5) % 5) t
        rw [hm]
        by_cases e : t = N * (co + i) + (co + mm - 1)
        · rw [e, zu_s, zu_s]
        · rw [zu_n (by omega), zu_n e]; exact p3 t ht
    refine br_f (nI_ge hi (by omega)) (nm_r e0 (pk_le i 0 ?_ ?_))
    · intro z
      refine step q hI.1 hI.2.1 ?_
      rw [if_neg (by omega)]; exact hI.2.2
    · intro z
      have l2 := zi_lt (N := N) (i := co + i) (j := co + i - 1) (by omega) (by omega)
      have e1 : nI (16 * d + N * (co + i)) + nI co + nI i - 1 = nI (16 * d + (N * (co + i) + (co + i - 1))) := by
        rw [nI_add, nI_add, zs1 (by omega)]
        exact congrArg nI (by omega)
      rw [e1, nI_clamp (by omega)]
      refine ⟨vp_in_nI (by omega) (by decide), nm_r (e' := zA (zu q (16 * d + (N * (co + i) + (co + i - 1))) 1)) (zA_upd _ _ _) (step _ ?_ ?_ ?_)⟩
      · intro j hj
        rw [zu_n (by omega)]; exact hI.1 j hj
      · exact zu_lt hI.2.1 (by decide)
      · rw [if_pos z]
        intro t ht
        by_cases e : t = N * (co + i) + (co + i - 1)
        · rw [e, zu_s, zu_s]
        · rw [zu_n (by omega), zu_n e]; exact hI.2.2 t ht
theorem ys_normal {post : Int32 → SY → Prop} {N d : Nat} {g s : Nat → Nat} {mn te dv ot fc kp rw : Nat → Nat} (hN : N ≤ 4) (hd : d < 4) (hg : ∀ j, g j < 5) (h0 : ∀ t, t < N * N → g (16 * d + t) = 0) (hf : ∀ k j, k < N → j < 5 → fc (5 * k + j) = s k / 5 ^ j % 5) (hs : ∀ k, k < N → s k < 3125 ∧ s k ≠ 0) (hb : ∀ k, k ≤ N → (nmS N s k).2 ≤ N)
    (H : ∀ g' : Nat → Nat, (∀ j, (j < 16 * d ∨ 16 * d + N * N ≤ j) → g' j = g j) → (∀ j, g' j < 5) → (∀ t, t < N * N → g' (16 * d + t) = (nmS N s N).1 t) → post 1 (zY N g' mn te dv ot fc kp rw)) :
    ∃ n54, wY_normal_54 post (nI d) (nI N) n54 0 0 (zA g) (zA mn) (zA te) (zA dv) (zA ot) (zA fc) (zA kp) (zA rw) := by
  have hsq := zi_sq hN
  refine loop_0 (fun n k (q : Nat → Nat) => wY_normal_54 post (nI d) (nI N) n (nI (nmS N s k).2) (nI k) (zA q) (zA mn) (zA te) (zA dv) (zA ot) (zA fc) (zA kp) (zA rw))
    (fun k q => (∀ j, (j < 16 * d ∨ 16 * d + N * N ≤ j) → q j = g j) ∧ (∀ j, q j < 5) ∧ ∀ t, t < N * N → q (16 * d + t) = (nmS N s k).1 t) N g ⟨fun _ _ => rfl, hg, h0⟩ ?_ ?_
  · intro n q hI
    exact br_t (nI_le (Nat.le_refl _) (by omega)) (H q hI.1 hI.2.1 hI.2.2)
  · intro n k q hk hI ih
    have b1 := hb k (by omega)
    have b2 : (nmS N s k).2 + dg (s k) ≤ N := hb (k + 1) hk
    obtain ⟨b3, b4⟩ := hs k hk
    refine br_f (nI_ge hk (by omega)) (ys_degF (by omega) b3 b4 (fun j hj => hf k j hk hj) ?_)
    refine ys_comp hN hd (by omega) b3 b2 hI.2.1 hI.2.2 (nmS_z (n := N) hb k (by omega)) (fun j hj => hf k j hk hj) ?_
    intro q' p1 p2 p3
    refine ih q' ⟨?_, p2, p3⟩
    intro j hj
    rw [p1 j hj]; exact hI.1 j hj
theorem ys_nz {post : Int32 → SY → Prop} {N d : Nat} {g : Nat → Nat} {mn te dv ot fc kp rw : Nat → Nat} (hd : d < 4) (hg : ∀ j, g j < 5)
    (H : ∀ g' : Nat → Nat, (∀ j, (j < 16 * d ∨ 16 * d + 16 ≤ j) → g' j = g j) → (∀ j, g' j < 5) → (∀ t, t < 16 → g' (16 * d + t) = 0) → ∃ n54, wY_normal_54 post (nI d) (nI N) n54 0 0 (zA g') (zA mn) (zA te) (zA dv) (zA ot) (zA fc) (zA kp) (zA rw)) :
    ∃ n25, wY_normal_25 post (nI d) (nI N) n25 0 (zA g) (zA mn) (zA te) (zA dv) (zA ot) (zA fc) (zA kp) (zA rw) := by
  refine loop_0 (fun n i (s : Nat → Nat) => wY_normal_25 post (nI d) (nI N) n (nI i) (zA s) (zA mn) (zA te) (zA dv) (zA ot) (zA fc) (zA kp) (zA rw))
    (fun i s => (∀ j, (j < 16 * d ∨ 16 * d + i ≤ j) → s j = g j) ∧ (∀ j, s j < 5) ∧ ∀ t, t < i → s (16 * d + t) = 0) 16 g ⟨fun _ _ => rfl, hg, fun t h => absurd h (by omega)⟩ ?_ ?_
  · intro n s hI
    exact br_t (nI_le (a := 16) (Nat.le_refl _) (by omega)) (H s hI.1 hI.2.1 hI.2.2)
  · intro n i s hi hI ih
    refine br_f (nI_ge (b := 16) hi (by omega)) ⟨?_, nm_r (e' := zA (zu s (16 * d + i) 0)) ?_ (nm_r (nI_1 i) (ih _ ⟨?_, ?_, ?_⟩))⟩
    · rw [z16m, nI_add]; exact vp_in_nI (by omega) (by decide)
    · rw [z16m, nI_add, nI_clamp (by omega), ← zA_upd]; rfl
    · intro j hj
      rw [zu_n (by omega)]
      exact hI.1 j (by omega)
    · exact zu_lt hI.2.1 (by decide)
    · intro t ht
      by_cases e : t = i
      · subst e
        exact zu_s _ _ _
      · rw [zu_n (by omega)]
        exact hI.2.2 t (by omega)
theorem nmS_c {N : Nat} {s s' : Nat → Nat} : ∀ n, (∀ k, k < n → s k = s' k) → nmS N s n = nmS N s' n := by
  intro n
  induction n with
  | zero => intro _; rfl
  | succ n ih =>
    intro h
    show (wr N (nmS N s n).2 (s n) (nmS N s n).1 (dg (s n)), (nmS N s n).2 + dg (s n)) = (wr N (nmS N s' n).2 (s' n) (nmS N s' n).1 (dg (s' n)), (nmS N s' n).2 + dg (s' n))
    rw [ih (fun k hk => h k (by omega)), h n (by omega)]
theorem i_vc_normal {k : Nat} {u : SX} {v : SY} (I : i_Rel k u v) (hk : k + 5 ≤ 2561) (v1 : Int32) (v2 : Int32) : wpX_normal (fun r u' => wpY_normal (fun r' v' => r' = r ∧ i_Rel (k + 5) u' v') v v1 v2) u v1 v2 := by
  obtain ⟨N, c, m, f, g, mn, te, dv, ot, fc, kp, rw, rfl, rfl, h1, h4, hc, hg, h⟩ := I
  have hsq := zi_sq h4
  unfold wpX_normal wpY_normal; dsimp only
  rcases zout v1 (n := 4) (by decide) with ⟨d, hd, rfl⟩ | o1
  · refine xr_ok hd (br_f zf1 ?_)
    rcases zout v2 (n := 4) (by decide) with ⟨a, ha, rfl⟩ | o2
    · refine xr_ok ha (br_f zf1 (xs_findFactors (st := 0) h1 h4 (by omega) (by omega) hc ?_))
      intro m' f' dd s hF hf _
      rw [zrel h ha] at hF
      have hf0 : ∀ i, i < N → f' i = s i := fun i hi => by have := hf i hi; rwa [Nat.zero_add] at this
      have hb : ∀ k, k ≤ N → (nmS N s k).2 ≤ N := fun k hk => by rw [fac_dg h4 hF k hk]; exact fac_dgN h4 hF k hk
      refine xs_clear h4 (by omega) ?_
      intro c1 q1 q2
      refine xs_normal h4 hd (xcl5 hc q1 q2) q2 hf0 (fun i hi => (fac_s h4 hF i hi).2.1) hb ?_
      intro c' r1 r2 r3
      refine yr_ok hd (br_f zf1 (yr_ok ha (br_f zf1 (ys_findFactors h1 h4 (by omega) hg ?_))))
      intro mn' te' dv' ot' fc' d' s' hF' hf'
      have u := (fac_u h4 hF hF').2
      have hb' : ∀ k, k ≤ N → (nmS N s' k).2 ≤ N := fun k hk => by rw [fac_dg h4 hF' k hk]; exact fac_dgN h4 hF' k hk
      refine ys_nz hd hg ?_
      intro g1 p1 p2 p3
      refine ys_normal h4 hd p2 (fun t ht => p3 t (by omega)) hf' (fun i hi => ⟨(fac_s h4 hF' i hi).2.1, (fac_s h4 hF' i hi).1⟩) hb' ?_
      intro g' s1 s2 s3
      refine ⟨rfl, zR h1 h4 r2 s2 (zSub (d := d) h hsq ?_ ?_ ?_)⟩
      · intro j _ e
        rw [r1 j e, q1 j e]
      · intro j _ e
        rw [s1 j (by omega), p1 j e]
      · intro t ht
        rw [r3 t ht, s3 t ht, nmS_c N u]
    · exact xr_no o2 (br_t rfl (yr_ok hd (br_f zf1 (yr_no o2 (br_t rfl ⟨rfl, zR h1 h4 hc hg h⟩)))))
  · exact xr_no o1 (br_t rfl (yr_no o1 (br_t rfl ⟨rfl, zR h1 h4 hc hg h⟩)))
