/-! apply -/
theorem ys_app {post : Int32 → SY → Prop} {N o d a b : Nat} {g : Nat → Nat} {mn te dv ot fc kp rw : Nat → Nat} (hN : N ≤ 4) (ho : o < 3) (hd : d < 4) (ha : a < 4) (hb : b < 4) (hg : ∀ j, g j < 5)
    (H : ∀ g' : Nat → Nat, (∀ j, (j < 16 * d ∨ 16 * d + N * N ≤ j) → g' j = g j) → (∀ j, g' j < 5) →
      (∀ t, t < N * N → g' (16 * d + t) = if o = 0 then (g (16 * a + t) + g (16 * b + t)) % 5 else if o = 1 then (g (16 * a + t) + 5 - g (16 * b + t)) % 5 else g (80 + t)) → post 1 (zY N g' mn te dv ot fc kp rw)) :
    ∃ n47, wY_apply_47 post (nI o) (nI d) (nI a) (nI b) (nI N) n47 0 (zA g) (zA mn) (zA te) (zA dv) (zA ot) (zA fc) (zA kp) (zA rw) := by
  have hsq := zi_sq hN
  refine loop_0 (fun n i (s : Nat → Nat) => wY_apply_47 post (nI o) (nI d) (nI a) (nI b) (nI N) n (nI i) (zA s) (zA mn) (zA te) (zA dv) (zA ot) (zA fc) (zA kp) (zA rw))
    (fun i s => (∀ j, (j < 16 * d ∨ 16 * d + i ≤ j) → s j = g j) ∧ (∀ j, s j < 5) ∧ ∀ t, t < i → s (16 * d + t) = if o = 0 then (g (16 * a + t) + g (16 * b + t)) % 5 else if o = 1 then (g (16 * a + t) + 5 - g (16 * b + t)) % 5 else g (80 + t)) (N * N) g ⟨fun _ _ => rfl, hg, fun t h => absurd h (by omega)⟩ ?_ ?_
  · intro n s hI
    exact br_t (by rw [pk_mul]; exact nI_le (Nat.le_refl _) (by omega)) (H s hI.1 hI.2.1 hI.2.2)
  · intro n i s hi hI ih
    have qa : s (16 * a + i) = g (16 * a + i) := hI.1 _ (by omega)
    have qb : s (16 * b + i) = g (16 * b + i) := hI.1 _ (by omega)
    have qc : s (80 + i) = g (80 + i) := hI.1 _ (by omega)
    have ba := hg (16 * a + i)
    have bb := hg (16 * b + i)
    have bc := hg (80 + i)
    have key : ∀ z : Nat, z < 5 → (z = if o = 0 then (g (16 * a + i) + g (16 * b + i)) % 5 else if o = 1 then (g (16 * a + i) + 5 - g (16 * b + i)) % 5 else g (80 + i)) → ∀ {q : Int32}, q = nI z →
        vp_in ((16 * nI d) + nI i) 96 ∧ ∀ a_regs_4 : Nat → Int32, a_regs_4 = upd (zA s) ((16 * nI d) + nI i).toNatClampNeg q → ∀ x2_5 : Int32, x2_5 = nI i + 1 → wY_apply_47 post (nI o) (nI d) (nI a) (nI b) (nI N) n x2_5 a_regs_4 (zA mn) (zA te) (zA dv) (zA ot) (zA fc) (zA kp) (zA rw) := by
      intro z hz2 hz q hq
      subst hq
      refine ⟨?_, nm_r (e' := zA (zu s (16 * d + i) z)) ?_ (nm_r (nI_1 i) (ih _ ⟨?_, ?_, ?_⟩))⟩
      · rw [z16m, nI_add]; exact vp_in_nI (by omega) (by decide)
      · rw [z16m, nI_add, nI_clamp (by omega), zA_upd]
      · intro j hj
        rw [zu_n (by omega)]
        exact hI.1 j (by omega)
      · exact zu_lt hI.2.1 hz2
      · intro t ht
        by_cases e : t = i
        · subst e
          rw [zu_s]; exact hz
        · rw [zu_n (by omega)]
          exact hI.2.2 t (by omega)
    refine br_f (by rw [pk_mul]; exact nI_ge hi (by omega)) ⟨?_, nm_r (e' := nI (g (16 * a + i))) ?_ ⟨?_, nm_r (e' := nI (g (16 * b + i))) ?_ (pk_eq o 0 ?_ ?_)⟩⟩
    · rw [z16m, nI_add]; exact vp_in_nI (by omega) (by decide)
    · rw [z16m, nI_add, nI_clamp (by omega), zA_at, qa]
    · rw [z16m, nI_add]; exact vp_in_nI (by omega) (by decide)
    · rw [z16m, nI_add, nI_clamp (by omega), zA_at, qb]
    · intro e
      exact ⟨zf5, key ((g (16 * a + i) + g (16 * b + i)) % 5) (by omega) (by rw [if_pos e]) (by rw [nI_add, z5r (by omega)])⟩
    · intro e
      refine pk_eq o 1 ?_ ?_
      · intro e1
        exact ⟨zf5, key ((g (16 * a + i) + 5 - g (16 * b + i)) % 5) (by omega) (by rw [if_neg e, if_pos e1]) (by rw [za5, pk_sub (by omega), z5r (by omega)])⟩
      · intro e1
        refine ⟨?_, key (g (80 + i)) bc (by rw [if_neg e, if_neg e1]) (by rw [z80a, nI_clamp (by omega), zA_at, qc])⟩
        rw [z80a]; exact vp_in_nI (by omega) (by decide)
theorem zSub {N d : Nat} {c c' g g' : Nat → Nat} (h : ∀ r t, r < 4 → t < N * N → c (16 * r + t) = g (16 * r + t)) (hsq : N * N ≤ 16)
    (h1 : ∀ j, j < 64 → (j < 16 * d ∨ 16 * d + N * N ≤ j) → c' j = c j) (h2 : ∀ j, j < 64 → (j < 16 * d ∨ 16 * d + 16 ≤ j) → g' j = g j)
    (h3 : ∀ t, t < N * N → c' (16 * d + t) = g' (16 * d + t)) : ∀ r t, r < 4 → t < N * N → c' (16 * r + t) = g' (16 * r + t) := by
  intro r t hr ht
  by_cases e : r = d
  · subst e; exact h3 t ht
  · rw [h1 _ (by omega) (by omega), h2 _ (by omega) (by omega)]
    exact h r t hr ht
theorem zij {N t : Nat} (h : t < N * N) : ∃ i k, i < N ∧ k < N ∧ t = N * i + k := by
  have hN : 0 < N := by
    cases N with
    | zero => omega
    | succ n => omega
  refine ⟨t / N, t % N, ?_, Nat.mod_lt _ hN, (Nat.div_add_mod t N).symm⟩
  exact (Nat.div_lt_iff_lt_mul hN).mpr h
theorem i_vc_apply {k : Nat} {u : SX} {v : SY} (I : i_Rel k u v) (hk : k + 5 ≤ 2561) (v1 : Int32) (v2 : Int32) (v3 : Int32) (v4 : Int32) : wpX_apply (fun r u' => wpY_apply (fun r' v' => r' = r ∧ i_Rel (k + 5) u' v') v v1 v2 v3 v4) u v1 v2 v3 v4 := by
  obtain ⟨N, c, m, f, g, mn, te, dv, ot, fc, kp, rw, rfl, rfl, h1, h4, hc, hg, h⟩ := I
  have hsq := zi_sq h4
  have J : i_Rel (k + 5) (zX N c m f) (zY N g mn te dv ot fc kp rw) := zR h1 h4 hc hg h
  unfold wpX_apply wpY_apply; dsimp only
  rcases zout v1 (n := 3) (by decide) with ⟨o, ho, rfl⟩ | o1
  · refine br_f (nI_pos (by omega)) (br_f (nI_nlt (b := o) (a := 2) (by omega) (by decide)) ?_)
    rcases zout v2 (n := 4) (by decide) with ⟨d, hd, rfl⟩ | o2
    · refine xr_ok hd (br_f zf1 ?_)
      rcases zout v3 (n := 4) (by decide) with ⟨a, ha, rfl⟩ | o3
      · refine xr_ok ha (br_f zf1 ?_)
        rcases zout v4 (n := 4) (by decide) with ⟨b, hb, rfl⟩ | o4
        · refine xr_ok hb (br_f zf1 ?_)
          have fin : ∀ c' : Nat → Nat, (∀ j, j < 64 → (j < 16 * d ∨ 16 * d + N * N ≤ j) → c' j = c j) → (∀ j, c' j < 5) →
              (∀ g1 : Nat → Nat, (∀ j, j < 80 → g1 j = g j) → (∀ i k, i < N → k < N → g1 (80 + (N * i + k)) = zP g N a b i k) → ∀ t, t < N * N → c' (16 * d + t) = if o = 0 then (g1 (16 * a + t) + g1 (16 * b + t)) % 5 else if o = 1 then (g1 (16 * a + t) + 5 - g1 (16 * b + t)) % 5 else g1 (80 + t)) →
              wpY_apply (fun r' v' => r' = 1 ∧ i_Rel (k + 5) (zX N c' m f) v') (zY N g mn te dv ot fc kp rw) (nI o) (nI d) (nI a) (nI b) := by
            intro c' q1 q2 q3
            unfold wpY_apply; dsimp only
            refine ys_in (n := o) (a := 0) (b := 2) (Nat.zero_le _) (by omega) (by decide) (br_f zf1 ?_)
            refine yr_ok hd (br_f zf1 ?_)
            refine yr_ok ha (br_f zf1 ?_)
            refine yr_ok hb (br_f zf1 ?_)
            refine ys_mul h4 (by omega) (by omega) hg ?_
            intro g1 p1 p2 p3
            refine ys_app h4 ho hd ha hb p2 ?_
            intro g' r1 r2 r3
            refine ⟨rfl, zR h1 h4 q2 r2 (zSub (d := d) h hsq q1 ?_ ?_)⟩
            · intro j hj e
              rw [r1 j (by omega), p1 j (by omega)]
            · intro t ht
              rw [q3 g1 p1 p3 t ht, r3 t ht]
          refine pk_eq o 2 ?_ ?_
          · intro e
            refine xs_mul h4 (by omega) (by omega) (by omega) hc ?_
            intro c' q1 q2 q3
            refine fin c' (fun j hj z => q1 j (by omega) z) q2 ?_
            intro g1 p1 p3 t ht
            obtain ⟨i, k', hi, hk', rfl⟩ := zij ht
            rw [q3 i k' hi hk', if_neg (by omega), if_neg (by omega), p3 i k' hi hk']
            exact zP_cong hi hk' (fun t ht => h a t ha ht) (fun t ht => h b t hb ht)
          · intro e
            have main : ∀ s : Nat, s < 5 → (s = if o = 0 then 1 else 4) → wX_apply_61 (fun r u' => wpY_apply (fun r' v' => r' = r ∧ i_Rel (k + 5) u' v') (zY N g mn te dv ot fc kp rw) (nI o) (nI d) (nI a) (nI b)) (nI b) (nI s) (nI a) (nI d) (nI N) (zA c) (zA m) (zA f) := by
              intro s hs es
              unfold wX_apply_61
              refine xs_addMul h4 (by omega) (by omega) (by omega) hs hc ?_
              intro c' q1 q2 q3
              refine fin c' (fun j hj z => q1 j z) q2 ?_
              intro g1 p1 p3 t ht
              have ba := hg (16 * a + t)
              have bb := hg (16 * b + t)
              rw [q3 t ht, h a t ha ht, h b t hb ht, p1 _ (by omega), p1 _ (by omega)]
              by_cases e0 : o = 0
              · rw [if_pos e0] at es ⊢
                rw [es, Nat.one_mul]
              · rw [if_neg e0] at es ⊢
                rw [if_pos (by omega), es]
                omega
            refine pk_eq o 0 ?_ ?_
            · intro e0
              exact main 1 (by decide) (by rw [if_pos e0])
            · intro e0
              exact main 4 (by decide) (by rw [if_neg e0])
        · refine xr_no o4 (br_t rfl ?_)
          refine ys_in (n := o) (a := 0) (b := 2) (Nat.zero_le _) (by omega) (by decide) (br_f zf1 ?_)
          exact yr_ok hd (br_f zf1 (yr_ok ha (br_f zf1 (yr_no o4 (br_t rfl ⟨rfl, J⟩)))))
      · refine xr_no o3 (br_t rfl ?_)
        refine ys_in (n := o) (a := 0) (b := 2) (Nat.zero_le _) (by omega) (by decide) (br_f zf1 ?_)
        exact yr_ok hd (br_f zf1 (yr_no o3 (br_t rfl ⟨rfl, J⟩)))
    · refine xr_no o2 (br_t rfl ?_)
      refine ys_in (n := o) (a := 0) (b := 2) (Nat.zero_le _) (by omega) (by decide) (br_f zf1 ?_)
      exact yr_no o2 (br_t rfl ⟨rfl, J⟩)
  · have hy := fun (P : Int32 → Prop) (H : P 0) => ys_inO (post := P) (u := zY N g mn te dv ot fc kp rw) (n := 2) (by decide) o1 H
    rcases o1 with o | ⟨o, o'⟩
    · exact br_t o (hy _ (br_t rfl ⟨rfl, J⟩))
    · exact br_f o (br_t (zout_gt (n := 2) o (by decide) o') (hy _ (br_t rfl ⟨rfl, J⟩)))
