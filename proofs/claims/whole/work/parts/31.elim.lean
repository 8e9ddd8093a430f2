/-! the reference's elimination -/
def rowl (n : Nat) (R : Nat → Nat) (i : Nat) (x : Nat → Fin 5) : Fin 5 := fs (fun k => kk (R (16 * i + k)) * x k) n
def kerR (n : Nat) (R : Nat → Nat) (x : Nat → Fin 5) : Prop := ∀ i, i < n → rowl n R i x = 0
def bR (n : Nat) (R : Nat → Nat) : Prop := ∀ i k, i < n → k < n → R (16 * i + k) < 5
theorem fs_s (f : Nat → Fin 5) (s : Fin 5) (n : Nat) : fs (fun t => s * f t) n = s * fs f n := by
  induction n with
  | zero => show (0 : Fin 5) = s * 0; grind
  | succ n ih => show fs (fun t => s * f t) n + s * f n = s * (fs f n + f n); rw [ih]; grind
theorem rowl_lin {n : Nat} {R R' R'' : Nat → Nat} {i j l : Nat} {s : Fin 5} (h : ∀ k, k < n → kk (R (16 * i + k)) = kk (R' (16 * j + k)) + s * kk (R'' (16 * l + k))) (x : Nat → Fin 5) : rowl n R i x = rowl n R' j x + s * rowl n R'' l x := by
  unfold rowl
  rw [← fs_lin]
  refine fs_cong n (fun t ht => ?_)
  rw [h t ht]; grind
theorem rowl_sc {n : Nat} {R R' : Nat → Nat} {i j : Nat} {s : Fin 5} (h : ∀ k, k < n → kk (R (16 * i + k)) = s * kk (R' (16 * j + k))) (x : Nat → Fin 5) : rowl n R i x = s * rowl n R' j x := by
  unfold rowl
  rw [← fs_s]
  refine fs_cong n (fun t ht => ?_)
  rw [h t ht]; grind
theorem rowl_eq {n : Nat} {R R' : Nat → Nat} {i j : Nat} (h : ∀ k, k < n → kk (R (16 * i + k)) = kk (R' (16 * j + k))) (x : Nat → Fin 5) : rowl n R i x = rowl n R' j x := by
  unfold rowl
  refine fs_cong n (fun t ht => ?_)
  rw [h t ht]
theorem ys_bring {post : Int32 → SY → Prop} {N c p : Nat} {g : Nat → Nat} {mn te dv ot fc kp rw : Nat → Nat} (h1 : 1 ≤ N) (hN : N ≤ 4) (hc : c < N * N) (hp : p < N * N) (hR : bR (N * N) rw)
    (H0 : (∀ i, p ≤ i → i < N * N → rw (16 * i + c) = 0) → post 0 (zY N g mn te dv ot fc kp rw))
    (H1 : ∀ i0, p ≤ i0 → i0 < N * N → rw (16 * i0 + c) ≠ 0 → ∀ rw' : Nat → Nat, bR (N * N) rw' → (∀ i k, i < N * N → k < N * N → kk (rw' (16 * i + k)) = if i = p then kk (rw (16 * i0 + c) * rw (16 * i0 + c) * rw (16 * i0 + c) % 5) * kk (rw (16 * i0 + k)) else if i = i0 then kk (rw (16 * p + k)) else kk (rw (16 * i + k))) → post 1 (zY N g mn te dv ot fc kp rw')) :
    wpY_bring post (zY N g mn te dv ot fc kp rw) (nI c) (nI p) := by
  have hsq := zi_sq hN
  have hq := zsqs h1
  generalize hn : N * N = n at *
  have sw : ∀ i0, p ≤ i0 → i0 < n → rw (16 * i0 + c) ≠ 0 → vp_in ((16 * nI i0) + nI c) 256 ∧ (wpY_inverse (fun r_5 => (∃ n71 : Nat, wY_bring_71 post (nI p) (nI i0) r_5 (nI N) n71 0 (zA g) (zA mn) (zA te) (zA dv) (zA ot) (zA fc) (zA kp) (zA rw))) (zY N g mn te dv ot fc kp rw) (zA rw ((16 * nI i0) + nI c).toNatClampNeg)) := by
    intro i0 hi0 hi0n hne
    have b0 := hR i0 c hi0n hc
    have l1 : rw (16 * i0 + c) * rw (16 * i0 + c) ≤ 4 * 4 := Nat.mul_le_mul (by omega) (by omega)
    have l2 : rw (16 * i0 + c) * rw (16 * i0 + c) * rw (16 * i0 + c) ≤ 16 * 4 := Nat.mul_le_mul l1 (by omega)
    rw [z16m, nI_add, nI_clamp (by omega), zA_at]
    refine ⟨vp_in_nI (by omega) (by decide), ?_⟩
    unfold wpY_inverse
    refine ⟨zf5, ?_⟩
    rw [pk_mul, pk_mul, z5r (by omega)]
    have h1' := H1 i0 hi0 hi0n hne
    generalize hby : rw (16 * i0 + c) * rw (16 * i0 + c) * rw (16 * i0 + c) % 5 = b at *
    have hb5 : b < 5 := by rw [← hby]; exact Nat.mod_lt _ (by decide)
    refine loop_0 (fun m k (s : Nat → Nat) => wY_bring_71 post (nI p) (nI i0) (nI b) (nI N) m (nI k) (zA g) (zA mn) (zA te) (zA dv) (zA ot) (zA fc) (zA kp) (zA s))
      (fun k s => bR n s ∧ ∀ i k', i < n → k' < n → kk (s (16 * i + k')) = if k' < k then (if i = p then kk b * kk (rw (16 * i0 + k')) else if i = i0 then kk (rw (16 * p + k')) else kk (rw (16 * i + k'))) else kk (rw (16 * i + k'))) n rw ⟨hR, fun i k' hi hk' => by rw [if_neg (by omega)]⟩ ?_ ?_
    · intro m s hI
      refine br_t (by rw [pk_mul, hn]; exact nI_le (Nat.le_refl _) (by omega)) (h1' s hI.1 (fun i k hi hk => ?_))
      rw [hI.2 i k hi hk, if_pos hk]
    · intro m k s hk hI ih
      have a1 := hI.1 i0 k hi0n hk
      have a2 := hI.1 p k hp hk
      have e1 := hI.2 i0 k hi0n hk
      have e2 := hI.2 p k hp hk
      rw [if_neg (by omega)] at e1 e2
      have l3 : s (16 * i0 + k) * b ≤ 4 * 4 := Nat.mul_le_mul (by omega) (by omega)
      refine br_f (by rw [pk_mul, hn]; exact nI_ge hk (by omega)) ?_
      rw [z16m, z16m, nI_add, nI_add, nI_clamp (by omega), nI_clamp (by omega), zA_at, zA_at, pk_mul, z5r (by omega)]
      refine ⟨vp_in_nI (by omega) (by decide), zf5, nm_e ⟨vp_in_nI (by omega) (by decide), vp_in_nI (by omega) (by decide), nm_r (zA_upd _ _ _) ⟨vp_in_nI (by omega) (by decide), nm_r (zA_upd _ _ _) (nm_r (nI_1 k) (ih _ ⟨?_, ?_⟩))⟩⟩⟩
      · intro i k' hi hk'
        by_cases z1 : 16 * i + k' = 16 * p + k
        · rw [z1, zu_s]; exact Nat.mod_lt _ (by decide)
        · rw [zu_n z1]
          by_cases z2 : 16 * i + k' = 16 * i0 + k
          · rw [z2, zu_s]; exact a2
          · rw [zu_n z2]; exact hI.1 i k' hi hk'
      · intro i k' hi hk'
        by_cases z1 : 16 * i + k' = 16 * p + k
        · have ei : i = p := by omega
          have ek : k' = k := by omega
          subst ei; subst ek
          rw [zu_s, if_pos (by omega), if_pos rfl, kk_mod, kk_mul, e1]; grind
        · rw [zu_n z1]
          by_cases z2 : 16 * i + k' = 16 * i0 + k
          · have ei : i = i0 := by omega
            have ek : k' = k := by omega
            subst ei; subst ek
            rw [zu_s, if_pos (by omega), if_neg (by omega), if_pos rfl, e2]
          · rw [zu_n z2, hI.2 i k' hi hk']
            by_cases z3 : k' < k
            · rw [if_pos z3, if_pos (show k' < k + 1 by omega)]
            · rw [if_neg z3]
              by_cases z4 : k' < k + 1
              · rw [if_pos z4, if_neg (by omega), if_neg (by omega)]
              · rw [if_neg z4]
  unfold wpY_bring; dsimp only
  refine nm_r (e' := nI (n - 1)) (by rw [pk_mul, hn, zs1 (by omega)]) ?_
  have main : ∀ d (f : Int32), p + d ≤ n → (∀ i, p + d ≤ i → i < n → f = -1 → rw (16 * i + c) = 0) → (f = -1 ∨ ∃ i0, p ≤ i0 ∧ i0 < n ∧ f = nI i0 ∧ rw (16 * i0 + c) ≠ 0) →
      wY_bring_15 post (nI c) (nI p) (nI N) (zA g) (zA mn) (zA te) (zA dv) (zA ot) (zA fc) (zA kp) (zA rw) (d + 1) f (nI (p + d) - 1) := by
    intro d
    induction d with
    | zero =>
      intro f hd hz hf
      have hx : nI (p + 0) - 1 < nI p := by
        rw [Nat.add_zero]
        by_cases z : p = 0
        · subst z; decide
        · rw [zs1 (by omega)]; exact nI_lt (by omega) (by omega)
      refine br_t hx ?_
      rcases hf with hf | ⟨i0, q1, q2, q3, q4⟩
      · rw [hf]
        exact br_f (by decide) (H0 (fun i hi hi' => hz i hi hi' hf))
      · rw [q3]
        exact br_t (nI_pos' (by omega)) (sw i0 q1 q2 q4)
    | succ d ih =>
      intro f hd hz hf
      have e1 : nI (p + (d + 1)) - 1 = nI (p + d) := by rw [← Nat.add_assoc, nI_pred]
      have b0 := hR (p + d) c (by omega) hc
      rw [e1]
      refine br_f (nI_nlt (by omega) (by omega)) ?_
      rw [z16m, nI_add, nI_clamp (by omega), zA_at]
      have em : nI (p + d) + (-1) = nI (p + d) - 1 := (Int32.sub_eq_add_neg _ _).symm
      refine ⟨vp_in_nI (by omega) (by decide), pk_eq (rw (16 * (p + d) + c)) 0 ?_ ?_⟩
      · intro e
        refine nm_r em (ih f (by omega) (fun i hi hi' hf' => ?_) hf)
        by_cases z : i = p + d
        · rw [z]; exact e
        · exact hz i (by omega) hi' hf'
      · intro e
        refine nm_r em (ih (nI (p + d)) (by omega) (fun i hi hi' hf' => ?_) (Or.inr ⟨p + d, by omega, by omega, rfl, e⟩))
        exfalso
        have h0 := nI_pos' (n := p + d) (by omega)
        rw [hf'] at h0
        exact absurd h0 (by decide)
  have := main (n - p) (-1) (by omega) (fun i hi hi' _ => by omega) (Or.inl rfl)
  rw [show p + (n - p) = n by omega, zs1 (by omega)] at this
  exact ⟨_, this⟩
theorem ys_clearR {post : SY → Prop} {N c p : Nat} {g : Nat → Nat} {mn te dv ot fc kp rw : Nat → Nat} (h1 : 1 ≤ N) (hN : N ≤ 4) (hc : c < N * N) (hp : p < N * N) (hR : bR (N * N) rw)
    (H : ∀ rw' : Nat → Nat, bR (N * N) rw' → (∀ i k, i < N * N → k < N * N → kk (rw' (16 * i + k)) = if p < i then kk (rw (16 * i + k)) + (- kk (rw (16 * i + c))) * kk (rw (16 * p + k)) else kk (rw (16 * i + k))) → post (zY N g mn te dv ot fc kp rw')) :
    wpY_clear post (zY N g mn te dv ot fc kp rw) (nI c) (nI p) := by
  have hsq := zi_sq hN
  generalize hn : N * N = n at *
  unfold wpY_clear; dsimp only
  refine nm_r (nI_1 p) ?_
  refine pk_loop (fun m i (s : Nat → Nat) => wY_clear_4 post (nI c) (nI p) (nI N) m (nI i) (zA g) (zA mn) (zA te) (zA dv) (zA ot) (zA fc) (zA kp) (zA s))
    (fun i s => p + 1 ≤ i ∧ bR n s ∧ ∀ i' k, i' < n → k < n → kk (s (16 * i' + k)) = if p < i' ∧ i' < i then kk (rw (16 * i' + k)) + (- kk (rw (16 * i' + c))) * kk (rw (16 * p + k)) else kk (rw (16 * i' + k))) n (p + 1) rw (by omega) ⟨Nat.le_refl _, hR, fun i' k _ _ => by rw [if_neg (by omega)]⟩ ?_ ?_
  · intro m s hI
    refine br_t (by rw [pk_mul, hn]; exact nI_le (Nat.le_refl _) (by omega)) (H s hI.2.1 (fun i k hi hk => ?_))
    rw [hI.2.2 i k hi hk]
    by_cases e : p < i
    · rw [if_pos ⟨e, hi⟩, if_pos e]
    · rw [if_neg (fun z => e z.1), if_neg e]
  · intro m i s hi hI ih
    obtain ⟨hpi, hb, hv⟩ := hI
    have b0 := hb i c hi hc
    have e0 := hv i c hi hc
    rw [if_neg (by omega)] at e0
    refine br_f (by rw [pk_mul, hn]; exact nI_ge hi (by omega)) ?_
    rw [z16m, nI_add, nI_clamp (by omega), zA_at]
    refine ⟨vp_in_nI (by omega) (by decide), nm_r (z5s (by omega)) ?_⟩
    have kcc : kk (5 - s (16 * i + c)) = - kk (rw (16 * i + c)) := by rw [kk_5s (by omega), e0]
    generalize hcc : 5 - s (16 * i + c) = cc at *
    have hcc5 : cc ≤ 5 := by omega
    refine loop_0 (fun m' k (s' : Nat → Nat) => wY_clear_35 post (wY_clear_4 post (nI c) (nI p) (nI N) m) (nI c) (nI p) (nI i) (nI cc) (nI N) m' (nI k) (zA g) (zA mn) (zA te) (zA dv) (zA ot) (zA fc) (zA kp) (zA s'))
      (fun k s' => bR n s' ∧ ∀ i' k', i' < n → k' < n → kk (s' (16 * i' + k')) = if i' = i ∧ k' < k then kk (rw (16 * i' + k')) + (- kk (rw (16 * i + c))) * kk (rw (16 * p + k')) else kk (s (16 * i' + k'))) n s ⟨hb, fun i' k' _ _ => by rw [if_neg (by omega)]⟩ ?_ ?_
    · intro m' s' hJ
      refine br_t (by rw [pk_mul, hn]; exact nI_le (Nat.le_refl _) (by omega)) (nm_r (nI_1 i) (ih s' ⟨by omega, hJ.1, fun i' k hi' hk => ?_⟩))
      rw [hJ.2 i' k hi' hk]
      by_cases e : i' = i
      · subst e
        rw [if_pos ⟨rfl, hk⟩, if_pos ⟨by omega, by omega⟩]
      · rw [if_neg (fun z => e z.1), hv i' k hi' hk]
        by_cases e2 : p < i' ∧ i' < i
        · rw [if_pos e2, if_pos ⟨e2.1, by omega⟩]
        · rw [if_neg e2, if_neg (by omega)]
    · intro m' k s' hk hJ ih'
      have a1 := hJ.1 i k hi hk
      have a2 := hJ.1 p k hp hk
      have e1 := hJ.2 i k hi hk
      have e2 := hJ.2 p k hp hk
      rw [if_neg (by omega), hv i k hi hk, if_neg (by omega)] at e1
      rw [if_neg (by omega), hv p k hp hk, if_neg (by omega)] at e2
      have l3 : cc * s' (16 * p + k) ≤ 5 * 4 := Nat.mul_le_mul hcc5 (by omega)
      refine br_f (by rw [pk_mul, hn]; exact nI_ge hk (by omega)) ?_
      rw [z16m, z16m, nI_add, nI_add, nI_clamp (by omega), nI_clamp (by omega), zA_at, zA_at, pk_mul, nI_add, z5r (by omega)]
      refine ⟨vp_in_nI (by omega) (by decide), vp_in_nI (by omega) (by decide), zf5, vp_in_nI (by omega) (by decide), nm_r (zA_upd _ _ _) (nm_r (nI_1 k) (ih' _ ⟨?_, ?_⟩))⟩
      · intro i' k' hi' hk'
        by_cases z1 : 16 * i' + k' = 16 * i + k
        · rw [z1, zu_s]; exact Nat.mod_lt _ (by decide)
        · rw [zu_n z1]; exact hJ.1 i' k' hi' hk'
      · intro i' k' hi' hk'
        by_cases z1 : 16 * i' + k' = 16 * i + k
        · have ei : i' = i := by omega
          have ek : k' = k := by omega
          subst ei; subst ek
          rw [zu_s, if_pos ⟨rfl, by omega⟩, kk_mod, kk_add, kk_mul, e1, e2, kcc]
        · rw [zu_n z1, hJ.2 i' k' hi' hk']
          by_cases z2 : i' = i ∧ k' < k
          · rw [if_pos z2, if_pos ⟨z2.1, by omega⟩]
          · rw [if_neg z2, if_neg (by omega)]
/-- echelon form with p pivots in the columns below c, kernel as at the start -/
def Inv (n : Nat) (R0 : Nat → Nat) (c p : Nat) (R : Nat → Nat) : Prop := bR n R ∧ p ≤ c ∧ (∀ x, kerR n R x ↔ kerR n R0 x) ∧
  (∃ q : Nat → Nat, (∀ i, i < p → q i < c ∧ kk (R (16 * i + q i)) = 1 ∧ ∀ k, k < q i → kk (R (16 * i + k)) = 0) ∧ ∀ i j, i < j → j < p → q i < q j) ∧
  ∀ i, p ≤ i → i < n → ∀ k, k < c → kk (R (16 * i + k)) = 0
theorem Inv_skip {n c p : Nat} {R0 R : Nat → Nat} (h : Inv n R0 c p R) (hz : ∀ i, p ≤ i → i < n → R (16 * i + c) = 0) : Inv n R0 (c + 1) p R := by
  obtain ⟨a1, a2, a3, ⟨q, q1, q2⟩, a5⟩ := h
  refine ⟨a1, by omega, a3, ⟨q, fun i hi => ⟨by have := (q1 i hi).1; omega, (q1 i hi).2⟩, q2⟩, ?_⟩
  intro i h1 h2 k hk
  by_cases e : k = c
  · subst e; rw [hz i h1 h2]; rfl
  · exact a5 i h1 h2 k (by omega)
theorem Inv_step {n c p i0 : Nat} {R0 R R1 R2 : Nat → Nat} (hp : p < n) (hc : c < n) (h : Inv n R0 c p R) (hi0 : p ≤ i0) (hi0n : i0 < n) (hne : R (16 * i0 + c) ≠ 0) (b2 : bR n R2)
    (e1 : ∀ i k, i < n → k < n → kk (R1 (16 * i + k)) = if i = p then kk (R (16 * i0 + c) * R (16 * i0 + c) * R (16 * i0 + c) % 5) * kk (R (16 * i0 + k)) else if i = i0 then kk (R (16 * p + k)) else kk (R (16 * i + k)))
    (e2 : ∀ i k, i < n → k < n → kk (R2 (16 * i + k)) = if p < i then kk (R1 (16 * i + k)) + (- kk (R1 (16 * i + c))) * kk (R1 (16 * p + k)) else kk (R1 (16 * i + k))) : Inv n R0 (c + 1) (p + 1) R2 := by
  obtain ⟨a1, a2, a3, ⟨q, q1, q2⟩, a5⟩ := h
  have hb0 := a1 i0 c hi0n hc
  have kn : kk (R (16 * i0 + c)) ≠ 0 := fun z => hne (kk_inj hb0 (by decide) z)
  have kinv := inv_k kn
  generalize hby : kk (R (16 * i0 + c) * R (16 * i0 + c) * R (16 * i0 + c) % 5) = b at *
  have low : ∀ i, i < p → ∀ k, k < n → kk (R2 (16 * i + k)) = kk (R (16 * i + k)) := by
    intro i hi k hk
    rw [e2 i k (by omega) hk, if_neg (by omega), e1 i k (by omega) hk, if_neg (by omega), if_neg (by omega)]
  have piv : ∀ k, k < n → kk (R2 (16 * p + k)) = b * kk (R (16 * i0 + k)) := by
    intro k hk
    rw [e2 p k hp hk, if_neg (by omega), e1 p k hp hk, if_pos rfl]
  have piv1 : ∀ k, k < n → kk (R1 (16 * p + k)) = b * kk (R (16 * i0 + k)) := by
    intro k hk
    rw [e1 p k hp hk, if_pos rfl]
  refine ⟨b2, by omega, ?_, ⟨zu q p c, ?_, ?_⟩, ?_⟩
  · intro x
    rw [← a3 x]
    have k1 : kerR n R1 x ↔ kerR n R x := by
      have rp : rowl n R1 p x = b * rowl n R i0 x := rowl_sc piv1 x
      refine ⟨fun h => ?_, fun h => ?_⟩
      · have h0 : rowl n R i0 x = 0 := by
          have := h p hp
          rw [rp] at this
          have bn : b ≠ 0 := by intro z; rw [z] at kinv; exact absurd kinv (by grind)
          refine Classical.byContradiction (fun z => f5_nz _ _ bn z this)
        intro i hi
        by_cases z1 : i = i0
        · rw [z1]; exact h0
        · by_cases z2 : i = p
          · by_cases z3 : i0 = p
            · rw [z2, ← z3]; exact h0
            · have := h i0 hi0n
              rw [rowl_eq (R' := R) (j := p) (fun k hk => by rw [e1 i0 k hi0n hk, if_neg z3, if_pos rfl])] at this
              rw [z2]; exact this
          · have := h i hi
            rw [rowl_eq (R' := R) (j := i) (fun k hk => by rw [e1 i k hi hk, if_neg z2, if_neg z1])] at this
            exact this
      · intro i hi
        by_cases z2 : i = p
        · rw [z2, rp, h i0 hi0n]; grind
        · by_cases z1 : i = i0
          · rw [z1, rowl_eq (R' := R) (j := p) (fun k hk => by rw [e1 i0 k hi0n hk, if_neg (by omega), if_pos rfl])]
            exact h p hp
          · rw [rowl_eq (R' := R) (j := i) (fun k hk => by rw [e1 i k hi hk, if_neg z2, if_neg z1])]
            exact h i hi
    rw [← k1]
    have rp : rowl n R2 p x = rowl n R1 p x := rowl_eq (fun k hk => by rw [e2 p k hp hk, if_neg (by omega)]) x
    have ri : ∀ i, i < n → p < i → rowl n R2 i x = rowl n R1 i x + (- kk (R1 (16 * i + c))) * rowl n R1 p x := fun i hi hpi => rowl_lin (fun k hk => by rw [e2 i k hi hk, if_pos hpi]) x
    have rl : ∀ i, i < n → ¬ p < i → rowl n R2 i x = rowl n R1 i x := fun i hi hpi => rowl_eq (fun k hk => by rw [e2 i k hi hk, if_neg hpi]) x
    refine ⟨fun h => ?_, fun h => ?_⟩
    · have h0 : rowl n R1 p x = 0 := by rw [← rp]; exact h p hp
      intro i hi
      by_cases z : p < i
      · have := h i hi
        rw [ri i hi z, h0] at this
        grind
      · rw [← rl i hi z]; exact h i hi
    · intro i hi
      by_cases z : p < i
      · rw [ri i hi z, h i hi, h p hp]; grind
      · rw [rl i hi z]; exact h i hi
  · intro i hi
    by_cases z : i = p
    · subst z
      rw [zu_s]
      refine ⟨by omega, ?_, ?_⟩
      · rw [piv c hc]; exact kinv
      · intro k hk
        rw [piv k (by omega), a5 i0 hi0 hi0n k hk]; grind
    · rw [zu_n z]
      obtain ⟨t1, t2, t3⟩ := q1 i (by omega)
      refine ⟨by omega, ?_, ?_⟩
      · rw [low i (by omega) _ (by omega)]; exact t2
      · intro k hk
        rw [low i (by omega) k (by omega)]; exact t3 k hk
  · intro i j hij hj
    rw [zu_n (by omega)]
    by_cases z : j = p
    · rw [z, zu_s]; exact (q1 i (by omega)).1
    · rw [zu_n z]; exact q2 i j hij (by omega)
  · intro i h1 h2 k hk
    have z1 : ∀ k, k < c → kk (R1 (16 * i + k)) = 0 := by
      intro k hk
      rw [e1 i k h2 (by omega), if_neg (by omega)]
      split
      · exact a5 p (Nat.le_refl _) hp k hk
      · exact a5 i (by omega) h2 k hk
    rw [e2 i k h2 (by omega), if_pos (by omega), piv1 k (by omega)]
    by_cases z : k = c
    · subst z
      grind
    · rw [z1 k (by omega), a5 i0 hi0 hi0n k (by omega)]; grind
theorem fs_vad (M x : Nat → Fin 5) (q : Nat) (c : Fin 5) : ∀ n, fs (fun k => M k * vad x q c k) n = fs (fun k => M k * x k) n + (if q < n then M q * c else 0) := by
  intro n
  induction n with
  | zero => rw [if_neg (by omega)]; show (0 : Fin 5) = 0 + 0; rfl
  | succ n ih =>
    show fs (fun k => M k * vad x q c k) n + M n * vad x q c n = fs (fun k => M k * x k) n + M n * x n + _
    rw [ih]
    show _ + M n * (if n = q then x n + c else x n) = _
    by_cases e : n = q
    · subst e
      rw [if_pos rfl, if_neg (by omega), if_pos (by omega)]; grind
    · rw [if_neg e]
      by_cases e2 : q < n
      · rw [if_pos e2, if_pos (by omega)]; grind
      · rw [if_neg e2, if_neg (by omega)]; grind
theorem Inv_dim {n p m : Nat} {R0 R : Nat → Nat} (h : Inv n R0 n p R) (hd : Dim n (kerR n R0) m) : m + p = n := by
  obtain ⟨a1, a2, a3, ⟨q, q1, q2⟩, a5⟩ := h
  have hV0 : Dim n (fun x => ∀ j, 0 ≤ j → j < p → rowl n R j x = 0) m := by
    refine Dim_iff (fun x => ?_) hd
    rw [← a3 x]
    refine ⟨fun h i hi => ?_, fun h j _ hj => h j (by omega)⟩
    by_cases z : i < p
    · exact h i (Nat.zero_le _) z
    · have : rowl n R i x = 0 * rowl n R i x := rowl_sc (fun k hk => by rw [a5 i (by omega) hi k hk]; grind) x
      rw [this]; grind
  have main : ∀ i, i ≤ p → Dim n (fun x => ∀ j, i ≤ j → j < p → rowl n R j x = 0) (m + i) := by
    intro i
    induction i with
    | zero => intro _; exact hV0
    | succ i ih =>
      intro hi
      obtain ⟨t1, t2, t3⟩ := q1 i (by omega)
      have vi : ∀ x c, rowl n R i (vad x (q i) c) = rowl n R i x + c := by
        intro x c
        unfold rowl
        rw [fs_vad (fun k => kk (R (16 * i + k))), if_pos t1, t2]; grind
      have vj : ∀ j, i < j → j < p → ∀ x c, rowl n R j (vad x (q i) c) = rowl n R j x := by
        intro j hij hj x c
        obtain ⟨s1, s2, s3⟩ := q1 j hj
        unfold rowl
        rw [fs_vad (fun k => kk (R (16 * j + k))), if_pos t1, s3 (q i) (q2 i j hij hj)]; grind
      refine Dim_up (p := q i) (fun x => rowl n R i x) (fun x y hxy => ?_) (fun x c hx j hj hjp => ?_) (fun x hx j hj hjp => ?_) (fun x c hx => ?_) (ih (by omega))
      · exact fs_cong n (fun t ht => by rw [hxy t ht])
      · rw [vj j (by omega) hjp]; exact hx j (by omega) hjp
      · by_cases z : j = i
        · rw [z, vi]; grind
        · rw [vj j (by omega) hjp]; exact hx j (by omega) hjp
      · rw [vi, hx i (Nat.le_refl _) (by omega)]; grind
  have hp := Dim_iff (S' := fun _ => True) (fun x => ⟨fun _ j h1 h2 => absurd h1 (by omega), fun _ => trivial⟩) (main p (Nat.le_refl _))
  exact Dim_u hp (Dim_all n)
