/-! the reference's matrix methods over slots -/
theorem ys_in {post : Int32 → Prop} {u : SY} {n a b : Nat} (h1 : a ≤ n) (h2 : n ≤ b) (hb : b < 2 ^ 31) (H : post 1) : wpY_in post u (nI n) (nI a) (nI b) := by
  obtain ⟨u1, u2, u3, u4, u5, u6, u7, u8, u9⟩ := u
  exact br_f (nI_nlt h1 (by omega)) (br_f (nI_nlt h2 hb) H)
theorem ys_inL {post : Int32 → Prop} {u : SY} {x y z : Int32} (h : x < y) (H : post 0) : wpY_in post u x y z := by
  obtain ⟨u1, u2, u3, u4, u5, u6, u7, u8, u9⟩ := u
  exact br_t h H
theorem ys_inH {post : Int32 → Prop} {u : SY} {x y z : Int32} (h : z < x) (H : post 0) : wpY_in post u x y z := by
  obtain ⟨u1, u2, u3, u4, u5, u6, u7, u8, u9⟩ := u
  exact br_c (fun _ => H) (fun _ => br_t h H)
/-- x is not one of 0 .. n - 1 -/
def zOut (x : Int32) (n : Nat) : Prop := x < 0 ∨ (¬ x < 0 ∧ nI n ≤ x)
theorem zout (x : Int32) {n : Nat} (hn : n < 2 ^ 31) : (∃ j : Nat, j < n ∧ x = nI j) ∨ zOut x n := by
  by_cases h : x < 0
  · exact Or.inr (Or.inl h)
  · rcases pk_ix x hn with h1 | h1 | h1
    · exact absurd h1 h
    · exact Or.inr (Or.inr ⟨h, h1⟩)
    · exact Or.inl h1
theorem zout_gt {x : Int32} {n : Nat} (h0 : ¬ x < 0) (hn : n + 1 < 2 ^ 31) (h : nI (n + 1) ≤ x) : nI n < x := by
  obtain ⟨j, hj, rfl⟩ := nI_of h0
  rw [nI_leI hn hj] at h
  exact nI_lt (by omega) hj
theorem ys_inO {post : Int32 → Prop} {u : SY} {x : Int32} {n : Nat} (hn : n + 1 < 2 ^ 31) (h : zOut x (n + 1)) (H : post 0) : wpY_in post u x 0 (nI n) := by
  rcases h with h | ⟨h0, h⟩
  · exact ys_inL h H
  · exact ys_inH (zout_gt h0 hn h) H
theorem yr_ok {post : Int32 → Prop} {u : SY} {n : Nat} (h : n < 4) (H : post 1) : wpY_isRegister post u (nI n) := by
  obtain ⟨u1, u2, u3, u4, u5, u6, u7, u8, u9⟩ := u
  unfold wpY_isRegister; dsimp only
  refine ys_in (n := n) (a := 0) (b := 3) (Nat.zero_le _) (by omega) (by decide) ?_
  exact ⟨rfl, H⟩
theorem yr_no {post : Int32 → Prop} {u : SY} {x : Int32} (h : zOut x 4) (H : post 0) : wpY_isRegister post u x := by
  obtain ⟨u1, u2, u3, u4, u5, u6, u7, u8, u9⟩ := u
  unfold wpY_isRegister; dsimp only
  refine ys_inO (n := 3) (by decide) h ?_
  exact ⟨rfl, H⟩
theorem xr_ok {post : Int32 → Prop} {n : Nat} (h : n < 4) (H : post 1) : wpX_isRegister post (nI n) :=
  br_f (nI_pos (by omega)) (br_f (nI_ge (b := 4) h (by decide)) H)
theorem xr_no {post : Int32 → Prop} {x : Int32} (h : zOut x 4) (H : post 0) : wpX_isRegister post x := by
  rcases h with h | ⟨h0, h⟩
  · exact br_t h H
  · exact br_f h0 (br_t h H)
theorem xr_num {post : Int32 → Prop} {n : Nat} (h : n < 5) (H : post 1) : wpX_isNumber post (nI n) :=
  br_f (nI_pos (by omega)) (br_f (nI_ge (b := 5) h (by decide)) H)
theorem xr_nnum {post : Int32 → Prop} {x : Int32} (h : zOut x 5) (H : post 0) : wpX_isNumber post x := by
  rcases h with h | ⟨h0, h⟩
  · exact br_t h H
  · exact br_f h0 (br_t h H)
theorem ys_entry {post : Int32 → Prop} {N r i j : Nat} {g : Nat → Nat} {mn te dv ot fc kp rw : Nat → Nat} (hN : N ≤ 4) (hr : r < 5) (hi : i < N) (hj : j < N)
    (H : post (nI (g (16 * r + (N * i + j))))) : wpY_entry post (zY N g mn te dv ot fc kp rw) (nI r) (nI i) (nI j) := by
  have hsq := zi_sq hN
  have hij := zi_lt hi hj
  show vp_in ((16 * nI r + nI N * nI i) + nI j) 96 ∧ post (zA g ((16 * nI r + nI N * nI i) + nI j).toNatClampNeg)
  rw [z16m, pk_mul, nI_add, nI_add, nI_clamp (by omega), zA_at, Nat.add_assoc]
  exact ⟨vp_in_nI (by omega) (by decide), H⟩
theorem ys_copy {post : SY → Prop} {N d a : Nat} {g : Nat → Nat} {mn te dv ot fc kp rw : Nat → Nat} (hd : d < 6) (ha : a < 6) (hda : d ≠ a)
    (H : ∀ g' : Nat → Nat, (∀ j, (j < 16 * d ∨ 16 * d + 16 ≤ j) → g' j = g j) → (∀ t, t < 16 → g' (16 * d + t) = g (16 * a + t)) → post (zY N g' mn te dv ot fc kp rw)) :
    wpY_copy post (zY N g mn te dv ot fc kp rw) (nI d) (nI a) := by
  show ∃ n2, wY_copy_2 post (nI d) (nI a) (nI N) n2 0 (zA g) (zA mn) (zA te) (zA dv) (zA ot) (zA fc) (zA kp) (zA rw)
  refine loop_0 (fun n i (s : Nat → Nat) => wY_copy_2 post (nI d) (nI a) (nI N) n (nI i) (zA s) (zA mn) (zA te) (zA dv) (zA ot) (zA fc) (zA kp) (zA rw))
    (fun i s => (∀ j, (j < 16 * d ∨ 16 * d + i ≤ j) → s j = g j) ∧ ∀ t, t < i → s (16 * d + t) = g (16 * a + t)) 16 g ⟨fun _ _ => rfl, fun t h => absurd h (by omega)⟩ ?_ ?_
  · intro n s hI
    exact br_t (nI_le (a := 16) (Nat.le_refl _) (by omega)) (H s hI.1 hI.2)
  · intro n i s hi hI ih
    refine br_f (nI_ge (b := 16) hi (by omega)) ⟨?_, ?_, nm_r (e' := zA (zu s (16 * d + i) (s (16 * a + i)))) ?_ (nm_r (nI_1 i) (ih _ ⟨?_, ?_⟩))⟩
    · rw [z16m, nI_add]; exact vp_in_nI (by omega) (by decide)
    · rw [z16m, nI_add]; exact vp_in_nI (by omega) (by decide)
    · rw [z16m, z16m, nI_add, nI_add, nI_clamp (by omega), nI_clamp (by omega), zA_at, zA_upd]
    · intro j hj
      rw [zu_n (by omega)]
      exact hI.1 j (by omega)
    · intro t ht
      by_cases e : t = i
      · subst e
        rw [zu_s]
        exact hI.1 _ (by omega)
      · rw [zu_n (by omega)]
        exact hI.2 t (by omega)
theorem zdiag : ∀ N, N ≤ 4 → ∀ i, i < N → ∀ k, k < N → ((N * i + k) % (N + 1) = 0 ↔ i = k) := by decide
theorem ys_id {post : SY → Prop} {N d : Nat} {g : Nat → Nat} {mn te dv ot fc kp rw : Nat → Nat} (hN : N ≤ 4) (hd : d < 6) (hg : ∀ j, g j < 5)
    (H : ∀ g' : Nat → Nat, (∀ j, (j < 16 * d ∨ 16 * d + 16 ≤ j) → g' j = g j) → (∀ j, g' j < 5) → (∀ i k, i < N → k < N → g' (16 * d + (N * i + k)) = if i = k then 1 else 0) → post (zY N g' mn te dv ot fc kp rw)) :
    wpY_makeIdentity post (zY N g mn te dv ot fc kp rw) (nI d) := by
  have hsq := zi_sq hN
  show ∃ n2, wY_makeIdentity_2 post (nI d) (nI N) n2 0 (zA g) (zA mn) (zA te) (zA dv) (zA ot) (zA fc) (zA kp) (zA rw)
  refine loop_0 (fun n i (s : Nat → Nat) => wY_makeIdentity_2 post (nI d) (nI N) n (nI i) (zA s) (zA mn) (zA te) (zA dv) (zA ot) (zA fc) (zA kp) (zA rw))
    (fun i s => (∀ j, (j < 16 * d ∨ 16 * d + i ≤ j) → s j = g j) ∧ (∀ j, s j < 5) ∧ ∀ t, t < i → s (16 * d + t) = if t < N * N ∧ t % (N + 1) = 0 then 1 else 0) 16 g ⟨fun _ _ => rfl, hg, fun t h => absurd h (by omega)⟩ ?_ ?_
  · intro n s hI
    refine br_t (nI_le (a := 16) (Nat.le_refl _) (by omega)) (H s hI.1 hI.2.1 ?_)
    intro i k hi hk
    have hik := zi_lt hi hk
    rw [hI.2.2 _ (by omega)]
    have := zdiag N hN i hi k hk
    by_cases e : i = k
    · rw [if_pos e, if_pos ⟨hik, this.mpr e⟩]
    · rw [if_neg e, if_neg (fun z => e (this.mp z.2))]
  · intro n i s hi hI ih
    have key : ∀ z : Nat, z = (if i < N * N ∧ i % (N + 1) = 0 then 1 else 0) → ∀ {q : Int32}, q = nI z →
        vp_in ((16 * nI d) + nI i) 96 ∧ ∀ a_regs_4 : Nat → Int32, a_regs_4 = upd (zA s) ((16 * nI d) + nI i).toNatClampNeg q → ∀ x2_5 : Int32, x2_5 = nI i + 1 → wY_makeIdentity_2 post (nI d) (nI N) n x2_5 a_regs_4 (zA mn) (zA te) (zA dv) (zA ot) (zA fc) (zA kp) (zA rw) := by
      intro z hz q hq
      subst hq
      have hz2 : z < 5 := by rw [hz]; split <;> decide
      refine ⟨?_, nm_r (e' := zA (zu s (16 * d + i) z)) ?_ (nm_r (nI_1 i) (ih _ ⟨?_, ?_, ?_⟩))⟩
      · rw [z16m, nI_add]; exact vp_in_nI (by omega) (by decide)
      · rw [z16m, nI_add, nI_clamp (by omega), zA_upd]
      · intro j hj
        rw [zu_n (by omega)]
        exact hI.1 j (by omega)
      · exact zu_lt hI.2.1 hz2
      · intro t ht
        by_cases e : t = i
        · subst e
          rw [zu_s]; exact hz
        · rw [zu_n (by omega)]
          exact hI.2.2 t (by omega)
    refine br_f (nI_ge (b := 16) hi (by omega)) (pk_le (N * N) i ?_ ?_ (pk_mul N N))
    · intro h
      exact key 0 (by rw [if_neg (by omega)]) rfl
    · intro h
      refine ⟨by rw [nI_1]; exact nI_ne0 (by omega) (by omega), ?_⟩
      rw [nI_1, pk_rem (by omega) (by omega) (by omega)]
      refine pk_eq (i % (N + 1)) 0 ?_ ?_ (ha := Nat.lt_of_le_of_lt (Nat.mod_le _ _) (by omega))
      · intro e
        exact key 1 (by rw [if_pos ⟨h, e⟩]) rfl
      · intro e
        exact key 0 (by rw [if_neg (fun z => e z.2)]) rfl
theorem ys_dot {post : Int32 → Prop} {N a b i k : Nat} {g : Nat → Nat} {mn te dv ot fc kp rw : Nat → Nat} (hN : N ≤ 4) (ha : a < 5) (hb : b < 5) (hi : i < N) (hk : k < N) (hg : ∀ j, g j < 5)
    (H : post (nI (zP g N a b i k))) : wpY_dot post (zY N g mn te dv ot fc kp rw) (nI a) (nI b) (nI i) (nI k) := by
  have hz := fun n => zs_le (f := fun t => g (16 * a + (N * i + t)) * g (16 * b + (N * t + k))) (B := 16) (fun t => Nat.mul_le_mul (Nat.le_of_lt_succ (hg _)) (Nat.le_of_lt_succ (hg _))) n
  show ∃ n6, wY_dot_6 post (nI a) (nI b) (nI i) (nI k) (nI N) (zA g) (zA mn) (zA te) (zA dv) (zA ot) (zA fc) (zA kp) (zA rw) n6 0 0
  refine loop_0 (fun n t (q : Nat) => wY_dot_6 post (nI a) (nI b) (nI i) (nI k) (nI N) (zA g) (zA mn) (zA te) (zA dv) (zA ot) (zA fc) (zA kp) (zA rw) n (nI q) (nI t))
    (fun t q => q = zs (fun t => g (16 * a + (N * i + t)) * g (16 * b + (N * t + k))) t) N 0 rfl ?_ ?_
  · intro n q hq
    have := hz N
    refine br_t (nI_le (Nat.le_refl _) (by omega)) ⟨zf5, ?_⟩
    rw [hq, z5r (by omega)]
    exact H
  · intro n t q ht hq ih
    refine br_f (nI_ge ht (by omega)) (ys_entry hN ha hi ht (ys_entry hN hb ht hk ?_))
    refine nm_r (e' := nI (q + g (16 * a + (N * i + t)) * g (16 * b + (N * t + k)))) ?_ (nm_r (nI_1 t) (ih _ ?_))
    · rw [pk_mul, nI_add]
    · rw [hq]; rfl
theorem ys_mul {post : SY → Prop} {N a b : Nat} {g : Nat → Nat} {mn te dv ot fc kp rw : Nat → Nat} (hN : N ≤ 4) (ha : a < 5) (hb : b < 5) (hg : ∀ j, g j < 5)
    (H : ∀ g' : Nat → Nat, (∀ j, j < 80 → g' j = g j) → (∀ j, g' j < 5) → (∀ i k, i < N → k < N → g' (80 + (N * i + k)) = zP g N a b i k) → post (zY N g' mn te dv ot fc kp rw)) :
    wpY_multiply post (zY N g mn te dv ot fc kp rw) (nI a) (nI b) := by
  have hsq := zi_sq hN
  show ∃ n2, wY_multiply_2 post (nI a) (nI b) (nI N) n2 0 (zA g) (zA mn) (zA te) (zA dv) (zA ot) (zA fc) (zA kp) (zA rw)
  refine loop_0 (fun n i (s : Nat → Nat) => wY_multiply_2 post (nI a) (nI b) (nI N) n (nI i) (zA s) (zA mn) (zA te) (zA dv) (zA ot) (zA fc) (zA kp) (zA rw))
    (fun i s => (∀ j, j < 80 → s j = g j) ∧ (∀ j, s j < 5) ∧ ∀ i' k', i' < i → i' < N → k' < N → s (80 + (N * i' + k')) = zP g N a b i' k') N g ⟨fun _ _ => rfl, hg, fun i' k' h => absurd h (by omega)⟩ ?_ ?_
  · intro n s hI
    exact br_t (nI_le (Nat.le_refl _) (by omega)) (H s hI.1 hI.2.1 (fun i k hi hk => hI.2.2 i k hi hi hk))
  · intro n i s hi hI ih
    refine br_f (nI_ge hi (by omega)) ?_
    refine loop_0 (fun n' k (s' : Nat → Nat) => wY_multiply_13 post (wY_multiply_2 post (nI a) (nI b) (nI N) n) (nI a) (nI b) (nI i) (nI N) n' (nI k) (zA s') (zA mn) (zA te) (zA dv) (zA ot) (zA fc) (zA kp) (zA rw))
      (fun k s' => (∀ j, j < 80 → s' j = g j) ∧ (∀ j, s' j < 5) ∧ ∀ i' k', (i' < i ∨ (i' = i ∧ k' < k)) → i' < N → k' < N → s' (80 + (N * i' + k')) = zP g N a b i' k') N s ⟨hI.1, hI.2.1, ?_⟩ ?_ ?_
    · intro i' k' h hi' hk'
      exact hI.2.2 i' k' (by omega) hi' hk'
    · intro n' s' hJ
      refine br_t (nI_le (Nat.le_refl _) (by omega)) (nm_r (nI_1 i) (ih s' ⟨hJ.1, hJ.2.1, ?_⟩))
      intro i' k' h hi' hk'
      exact hJ.2.2 i' k' (by omega) hi' hk'
    · intro n' k s' hk hJ ih'
      have hik := zi_lt hi hk
      have hcg : zP s' N a b i k = zP g N a b i k := zP_cong hi hk (fun t ht => hJ.1 _ (by omega)) (fun t ht => hJ.1 _ (by omega))
      refine br_f (nI_ge hk (by omega)) (ys_dot hN ha hb hi hk hJ.2.1 ?_)
      refine ⟨?_, nm_r (e' := zA (zu s' (80 + (N * i + k)) (zP s' N a b i k))) ?_ (nm_r (nI_1 k) (ih' _ ⟨?_, ?_, ?_⟩))⟩
      · rw [pk_mul, z80a, nI_add]; exact vp_in_nI (by omega) (by decide)
      · rw [pk_mul, z80a, nI_add, nI_clamp (by omega), zA_upd, Nat.add_assoc]
      · intro j hj
        rw [zu_n (by omega)]; exact hJ.1 j hj
      · exact zu_lt hJ.2.1 (zP_lt _ _ _ _ _ _)
      · intro i' k' h hi' hk'
        by_cases e : 80 + (N * i' + k') = 80 + (N * i + k)
        · obtain ⟨rfl, rfl⟩ := zi_inj hk' hk (Nat.add_left_cancel e)
          rw [zu_s, hcg]
        · rw [zu_n e]
          refine hJ.2.2 i' k' ?_ hi' hk'
          rcases h with h | ⟨h, h'⟩
          · exact Or.inl h
          · refine Or.inr ⟨h, ?_⟩
            subst h
            by_cases e2 : k' = k
            · subst e2; exact absurd rfl e
            · omega
