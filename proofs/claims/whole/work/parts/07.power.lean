/-! power, valueAt -/
def zM (N : Nat) (A B : Nat → Nat → Nat) : Nat → Nat → Nat := fun i k => zs (fun t => A i t * B t k) N % 5
theorem zM_lt (N : Nat) (A B : Nat → Nat → Nat) (i k : Nat) : zM N A B i k < 5 := Nat.mod_lt _ (by decide)
theorem zM_cong {N i k : Nat} {A B A' B' : Nat → Nat → Nat} (h1 : ∀ t, t < N → A i t = A' i t) (h2 : ∀ t, t < N → B t k = B' t k) : zM N A B i k = zM N A' B' i k := by
  refine congrArg (· % 5) (zs_cong N ?_)
  intro t ht
  rw [h1 t ht, h2 t ht]
/-- slot s of c holds the matrix A -/
def zHas (c : Nat → Nat) (N s : Nat) (A : Nat → Nat → Nat) : Prop := ∀ i k, i < N → k < N → c (16 * s + (N * i + k)) = A i k
theorem zP_M {c : Nat → Nat} {N a b i k : Nat} {A B : Nat → Nat → Nat} (hA : zHas c N a A) (hB : zHas c N b B) (hi : i < N) (hk : k < N) : zP c N a b i k = zM N A B i k := by
  refine congrArg (· % 5) (zs_cong N ?_)
  intro t ht
  rw [hA i t hi ht, hB t k ht hk]
theorem zHas_of {c c' : Nat → Nat} {N s s' : Nat} {A : Nat → Nat → Nat} (h : zHas c N s A) (e : ∀ t, t < N * N → c' (16 * s' + t) = c (16 * s + t)) : zHas c' N s' A := by
  intro i k hi hk
  rw [e _ (zi_lt hi hk)]
  exact h i k hi hk
theorem zHas_eq {c c' : Nat → Nat} {N s s' : Nat} {A : Nat → Nat → Nat} (h : zHas c N s A) (h' : zHas c' N s' A) : ∀ t, t < N * N → c (16 * s + t) = c' (16 * s' + t) := by
  intro t ht
  obtain ⟨i, k, hi, hk, rfl⟩ := zij ht
  rw [h i k hi hk, h' i k hi hk]
/-- what a slot holds -/
def zSl (c : Nat → Nat) (N s : Nat) : Nat → Nat → Nat := fun i k => if i < N ∧ k < N then c (16 * s + (N * i + k)) else 0
theorem zSl_at {c : Nat → Nat} {N s i k : Nat} (hi : i < N) (hk : k < N) : zSl c N s i k = c (16 * s + (N * i + k)) := if_pos ⟨hi, hk⟩
theorem zHas_sl (c : Nat → Nat) (N s : Nat) : zHas c N s (zSl c N s) := fun _ _ hi hk => (zSl_at hi hk).symm
theorem zSl_lt {c : Nat → Nat} (h : ∀ j, c j < 5) (N s i k : Nat) : zSl c N s i k < 5 := by
  unfold zSl; split
  · exact h _
  · decide
theorem zSl_eq {c g : Nat → Nat} {N a b : Nat} (h : ∀ t, t < N * N → c (16 * a + t) = g (16 * b + t)) : zSl c N a = zSl g N b := by
  funext i k
  show (if i < N ∧ k < N then c (16 * a + (N * i + k)) else 0) = (if i < N ∧ k < N then g (16 * b + (N * i + k)) else 0)
  by_cases e : i < N ∧ k < N
  · rw [if_pos e, if_pos e, h _ (zi_lt e.1 e.2)]
  · rw [if_neg e, if_neg e]
/-- accumulator and base of a power after some bits -/
def zPw (N K : Nat) (A : Nat → Nat → Nat) : Nat → (Nat → Nat → Nat) × (Nat → Nat → Nat)
  | 0 => (fun i k => if i = k then 1 else 0, A)
  | s + 1 => (if K / 2 ^ s % 2 = 1 then zM N (zPw N K A s).1 (zPw N K A s).2 else (zPw N K A s).1, zM N (zPw N K A s).2 (zPw N K A s).2)
theorem xs_power {post : Int32 → SX → Prop} {N K d : Nat} {c m f : Nat → Nat} {A : Nat → Nat → Nat} (hN : N ≤ 4) (hK : K < 2 ^ 31) (hd : d < 4) (hc : ∀ j, c j < 5)
    (h4 : zHas c N 4 (fun i k => if i = k then 1 else 0)) (h5 : zHas c N 5 A)
    (H : ∀ c' : Nat → Nat, (∀ j, j < 64 → (j < 16 * d ∨ 16 * d + N * N ≤ j) → c' j = c j) → (∀ j, c' j < 5) → zHas c' N d (zPw N K A 30).1 → post 1 (zX N c' m f)) :
    ∃ n46, wX_power_46 post (nI d) (nI K) n46 0 (nI N) (zA c) (zA m) (zA f) := by
  have hsq := zi_sq hN
  refine loop_0 (fun n i (s : Nat → Nat) => wX_power_46 post (nI d) (nI K) n (nI i) (nI N) (zA s) (zA m) (zA f))
    (fun i s => (∀ j, j < 64 → s j = c j) ∧ (∀ j, s j < 5) ∧ zHas s N 4 (zPw N K A i).1 ∧ zHas s N 5 (zPw N K A i).2) 30 c ⟨fun _ _ => rfl, hc, h4, h5⟩ ?_ ?_
  · intro n s hI
    refine br_t (nI_le (a := 30) (Nat.le_refl _) (by omega)) ?_
    refine xs_copy (a := 4) hN (by omega) (by omega) (by omega) ?_
    intro c' q1 q2
    refine H c' ?_ ?_ (zHas_of hI.2.2.1 q2)
    · intro j hj e
      rw [q1 j e]; exact hI.1 j hj
    · intro j
      by_cases e : j < 16 * d ∨ 16 * d + N * N ≤ j
      · rw [q1 j e]; exact hI.2.1 j
      · have := q2 (j - 16 * d) (by omega)
        rw [show 16 * d + (j - 16 * d) = j by omega] at this
        rw [this]; exact hI.2.1 _
  · intro n i s hi hI ih
    refine br_f (nI_ge (b := 30) hi (by omega)) ?_
    have key : ∀ s' : Nat → Nat, (∀ j, j < 64 → s' j = c j) → (∀ j, s' j < 5) → zHas s' N 4 (zPw N K A (i + 1)).1 → zHas s' N 5 (zPw N K A i).2 →
        wX_power_70 post (wX_power_46 post (nI d) (nI K) n) (nI d) (nI K) (nI i) (nI N) (zA s') (zA m) (zA f) := by
      intro s' p1 p2 p3 p4
      unfold wX_power_70
      refine xs_mul (d := 5) (a := 5) (b := 5) hN (by omega) (by omega) (by omega) p2 ?_
      intro c' q1 q2 q3
      refine nm_r (nI_1 i) (ih c' ⟨?_, q2, ?_, ?_⟩)
      · intro j hj
        rw [q1 j (by omega) (by omega)]; exact p1 j hj
      · exact zHas_of p3 (fun t ht => q1 _ (by omega) (by omega))
      · intro i' k' hi' hk'
        rw [q3 i' k' hi' hk']
        exact zP_M p4 p4 hi' hk'
    rw [zbit hK (by omega)]
    refine pk_eq (K / 2 ^ i % 2) 1 ?_ ?_
    · intro e
      refine xs_mul (d := 4) (a := 4) (b := 5) hN (by omega) (by omega) (by omega) hI.2.1 ?_
      intro c' q1 q2 q3
      refine key c' ?_ q2 ?_ ?_
      · intro j hj
        rw [q1 j (by omega) (by omega)]; exact hI.1 j hj
      · intro i' k' hi' hk'
        rw [q3 i' k' hi' hk']
        show _ = (if K / 2 ^ i % 2 = 1 then zM N (zPw N K A i).1 (zPw N K A i).2 else (zPw N K A i).1) i' k'
        rw [if_pos e]
        exact zP_M hI.2.2.1 hI.2.2.2 hi' hk'
      · exact zHas_of hI.2.2.2 (fun t ht => q1 _ (by omega) (by omega))
    · intro e
      refine key s hI.1 hI.2.1 ?_ hI.2.2.2
      show zHas s N 4 (if K / 2 ^ i % 2 = 1 then zM N (zPw N K A i).1 (zPw N K A i).2 else (zPw N K A i).1)
      rw [if_neg e]
      exact hI.2.2.1
theorem ys_power {post : Int32 → SY → Prop} {N K d : Nat} {g : Nat → Nat} {mn te dv ot fc kp rw : Nat → Nat} {A : Nat → Nat → Nat} (hN : N ≤ 4) (hK : K < 2 ^ 31) (hd : d < 4) (hg : ∀ j, g j < 5)
    (h4 : zHas g N d (fun i k => if i = k then 1 else 0)) (h5 : zHas g N 4 A)
    (H : ∀ g' : Nat → Nat, (∀ j, j < 64 → (j < 16 * d ∨ 16 * d + 16 ≤ j) → g' j = g j) → (∀ j, g' j < 5) → zHas g' N d (zPw N K A 30).1 → post 1 (zY N g' mn te dv ot fc kp rw)) :
    ∃ n43, wY_power_43 post (nI d) (nI K) n43 0 (nI N) (zA g) (zA mn) (zA te) (zA dv) (zA ot) (zA fc) (zA kp) (zA rw) := by
  have hsq := zi_sq hN
  refine loop_0 (fun n i (s : Nat → Nat) => wY_power_43 post (nI d) (nI K) n (nI i) (nI N) (zA s) (zA mn) (zA te) (zA dv) (zA ot) (zA fc) (zA kp) (zA rw))
    (fun i s => (∀ j, j < 64 → (j < 16 * d ∨ 16 * d + 16 ≤ j) → s j = g j) ∧ (∀ j, s j < 5) ∧ zHas s N d (zPw N K A i).1 ∧ zHas s N 4 (zPw N K A i).2) 30 g ⟨fun _ _ _ => rfl, hg, h4, h5⟩ ?_ ?_
  · intro n s hI
    exact br_t (nI_le (a := 30) (Nat.le_refl _) (by omega)) (H s hI.1 hI.2.1 hI.2.2.1)
  · intro n i s hi hI ih
    refine br_f (nI_ge (b := 30) hi (by omega)) ?_
    have cpb : ∀ (e : Nat) (s1 s2 : Nat → Nat), e < 5 → (∀ j, s1 j < 5) → (∀ j, (j < 16 * e ∨ 16 * e + 16 ≤ j) → s2 j = s1 j) → (∀ t, t < 16 → s2 (16 * e + t) = s1 (16 * 5 + t)) → ∀ j, s2 j < 5 := by
      intro e s1 s2 he b1 q1 q2 j
      by_cases e' : j < 16 * e ∨ 16 * e + 16 ≤ j
      · rw [q1 j e']; exact b1 j
      · have := q2 (j - 16 * e) (by omega)
        rw [show 16 * e + (j - 16 * e) = j by omega] at this
        rw [this]; exact b1 _
    have key : ∀ s' : Nat → Nat, (∀ j, j < 64 → (j < 16 * d ∨ 16 * d + 16 ≤ j) → s' j = g j) → (∀ j, s' j < 5) → zHas s' N d (zPw N K A (i + 1)).1 → zHas s' N 4 (zPw N K A i).2 →
        wY_power_72 post (wY_power_43 post (nI d) (nI K) n) (nI d) (nI K) (nI i) (nI N) (zA s') (zA mn) (zA te) (zA dv) (zA ot) (zA fc) (zA kp) (zA rw) := by
      intro s' p1 p2 p3 p4
      unfold wY_power_72
      refine ys_mul (a := 4) (b := 4) hN (by omega) (by omega) p2 ?_
      intro s1 q1 q2 q3
      refine ys_copy (d := 4) (a := 5) (by omega) (by omega) (by omega) ?_
      intro s2 t1 t2
      refine nm_r (nI_1 i) (ih s2 ⟨?_, cpb 4 s1 s2 (by omega) q2 t1 t2, ?_, ?_⟩)
      · intro j hj e
        rw [t1 j (by omega), q1 j (by omega)]; exact p1 j hj e
      · refine zHas_of p3 (fun t ht => ?_)
        rw [t1 _ (by omega), q1 _ (by omega)]
      · intro i' k' hi' hk'
        have := zi_lt hi' hk'
        rw [t2 _ (by omega)]
        show s1 (80 + (N * i' + k')) = _
        rw [q3 i' k' hi' hk']
        exact zP_M p4 p4 hi' hk'
    rw [zbit hK (by omega)]
    refine pk_eq (K / 2 ^ i % 2) 1 ?_ ?_
    · intro e
      refine ys_mul (a := d) (b := 4) hN (by omega) (by omega) hI.2.1 ?_
      intro s1 q1 q2 q3
      refine ys_copy (d := d) (a := 5) (by omega) (by omega) (by omega) ?_
      intro s2 t1 t2
      refine key s2 ?_ (cpb d s1 s2 (by omega) q2 t1 t2) ?_ ?_
      · intro j hj e'
        rw [t1 j (by omega), q1 j (by omega)]; exact hI.1 j hj e'
      · intro i' k' hi' hk'
        have := zi_lt hi' hk'
        rw [t2 _ (by omega)]
        show s1 (80 + (N * i' + k')) = (if K / 2 ^ i % 2 = 1 then zM N (zPw N K A i).1 (zPw N K A i).2 else (zPw N K A i).1) i' k'
        rw [if_pos e, q3 i' k' hi' hk']
        exact zP_M hI.2.2.1 hI.2.2.2 hi' hk'
      · refine zHas_of hI.2.2.2 (fun t ht => ?_)
        rw [t1 _ (by omega), q1 _ (by omega)]
    · intro e
      refine key s hI.1 hI.2.1 ?_ hI.2.2.2
      show zHas s N d (if K / 2 ^ i % 2 = 1 then zM N (zPw N K A i).1 (zPw N K A i).2 else (zPw N K A i).1)
      rw [if_neg e]
      exact hI.2.2.1
theorem xcp5 {N d e : Nat} {s1 s2 : Nat → Nat} (b1 : ∀ j, s1 j < 5) (q1 : ∀ j, (j < 16 * d ∨ 16 * d + N * N ≤ j) → s2 j = s1 j) (q2 : ∀ t, t < N * N → s2 (16 * d + t) = s1 (16 * e + t)) : ∀ j, s2 j < 5 := by
  intro j
  by_cases e' : j < 16 * d ∨ 16 * d + N * N ≤ j
  · rw [q1 j e']; exact b1 j
  · have := q2 (j - 16 * d) (by omega)
    rw [show 16 * d + (j - 16 * d) = j by omega] at this
    rw [this]; exact b1 _
theorem xcl5 {N d : Nat} {s1 s2 : Nat → Nat} (b1 : ∀ j, s1 j < 5) (q1 : ∀ j, (j < 16 * d ∨ 16 * d + N * N ≤ j) → s2 j = s1 j) (q2 : ∀ t, t < N * N → s2 (16 * d + t) = 0) : ∀ j, s2 j < 5 := by
  intro j
  by_cases e' : j < 16 * d ∨ 16 * d + N * N ≤ j
  · rw [q1 j e']; exact b1 j
  · have := q2 (j - 16 * d) (by omega)
    rw [show 16 * d + (j - 16 * d) = j by omega] at this
    rw [this]; decide
theorem ycp5 {d e : Nat} {s1 s2 : Nat → Nat} (b1 : ∀ j, s1 j < 5) (q1 : ∀ j, (j < 16 * d ∨ 16 * d + 16 ≤ j) → s2 j = s1 j) (q2 : ∀ t, t < 16 → s2 (16 * d + t) = s1 (16 * e + t)) : ∀ j, s2 j < 5 := by
  intro j
  by_cases e' : j < 16 * d ∨ 16 * d + 16 ≤ j
  · rw [q1 j e']; exact b1 j
  · have := q2 (j - 16 * d) (by omega)
    rw [show 16 * d + (j - 16 * d) = j by omega] at this
    rw [this]; exact b1 _
theorem zOutL {x : Int32} {n : Nat} (hn : n + 1 < 2 ^ 31) (h : zOut x (n + 1)) {A B : Prop} (a : A) (b : ¬ x < 0 → ¬ x ≤ nI n → B) : (x < 0 → A) ∧ (¬ x < 0 → B) := by
  rcases h with h | ⟨h0, h⟩
  · exact br_t h a
  · refine br_f h0 (b h0 ?_)
    obtain ⟨j, hj, rfl⟩ := nI_of h0
    rw [nI_leI hn hj] at h
    rw [nI_leI hj (by omega)]
    omega
theorem i_vc_power {k : Nat} {u : SX} {v : SY} (I : i_Rel k u v) (hk : k + 5 ≤ 2561) (v1 : Int32) (v2 : Int32) (v3 : Int32) : wpX_power (fun r u' => wpY_power (fun r' v' => r' = r ∧ i_Rel (k + 5) u' v') v v1 v2 v3) u v1 v2 v3 := by
  obtain ⟨N, c, m, f, g, mn, te, dv, ot, fc, kp, rw, rfl, rfl, h1, h4, hc, hg, h⟩ := I
  have hsq := zi_sq h4
  have J : i_Rel (k + 5) (zX N c m f) (zY N g mn te dv ot fc kp rw) := zR h1 h4 hc hg h
  unfold wpX_power wpY_power; dsimp only
  rcases zout v1 (n := 4) (by decide) with ⟨d, hd, rfl⟩ | o1
  · refine xr_ok hd (br_f zf1 ?_)
    rcases zout v2 (n := 4) (by decide) with ⟨a, ha, rfl⟩ | o2
    · refine xr_ok ha (br_f zf1 ?_)
      rcases zout v3 (n := 1000000001) (by decide) with ⟨K, hK, rfl⟩ | o3
      · refine br_f (nI_pos (by omega)) (br_t (nI_le (b := 1000000000) (by omega) (by decide)) ?_)
        refine xs_copy (d := 5) h4 (by omega) (by omega) (by omega) ?_
        intro c1 q1 q2
        refine xs_clear (d := 4) h4 (by omega) ?_
        intro c2 q3 q4
        refine xs_addDiag (d := 4) (v := 1) h4 (by omega) (by decide) (xcl5 (xcp5 hc q1 q2) q3 q4) ?_
        intro c3 q5 q6 q7
        have hid : zHas c3 N 4 (fun i k => if i = k then 1 else 0) := by
          intro i k hi hk
          rw [q7 i k hi hk, q4 _ (zi_lt hi hk)]
        have hba : zHas c3 N 5 (zSl c N a) := by
          refine zHas_of (zHas_sl c N a) (fun t ht => ?_)
          rw [q5 _ (by omega), q3 _ (by omega), q2 t ht]
        refine xs_power h4 (by omega) hd q6 hid hba ?_
        intro c' r1 r2 r3
        refine yr_ok hd (br_f zf1 ?_)
        refine yr_ok ha (br_f zf1 ?_)
        refine ys_in (n := K) (a := 0) (b := 1000000000) (Nat.zero_le _) (by omega) (by decide) (br_f zf1 ?_)
        refine ys_copy (d := 4) (by omega) (by omega) (by omega) ?_
        intro g1 p1 p2
        refine ys_id h4 (by omega) (ycp5 hg p1 p2) ?_
        intro g2 p3 p4 p5
        have hba2 : zHas g2 N 4 (zSl c N a) := by
          refine zHas_of (zHas_sl c N a) (fun t ht => ?_)
          rw [p3 _ (by omega), p2 t (by omega), h a t ha ht]
        refine ys_power h4 (by omega) hd p4 p5 hba2 ?_
        intro g' s1 s2 s3
        refine ⟨rfl, zR h1 h4 r2 s2 (zSub (d := d) h hsq ?_ ?_ (zHas_eq r3 s3))⟩
        · intro j hj e
          rw [r1 j hj e, q5 j (by omega), q3 j (by omega), q1 j (by omega)]
        · intro j hj e
          rw [s1 j hj e, p3 j e, p1 j (by omega)]
      · have hy := fun (P : Int32 → Prop) (H : P 0) => ys_inO (post := P) (u := zY N g mn te dv ot fc kp rw) (n := 1000000000) (by decide) o3 H
        refine zOutL (n := 1000000000) (by decide) o3 ?_ (fun _ q => br_f q ?_)
        · exact yr_ok hd (br_f zf1 (yr_ok ha (br_f zf1 (hy _ (br_t rfl ⟨rfl, J⟩)))))
        · exact yr_ok hd (br_f zf1 (yr_ok ha (br_f zf1 (hy _ (br_t rfl ⟨rfl, J⟩)))))
    · exact xr_no o2 (br_t rfl (yr_ok hd (br_f zf1 (yr_no o2 (br_t rfl ⟨rfl, J⟩)))))
  · exact xr_no o1 (br_t rfl (yr_no o1 (br_t rfl ⟨rfl, J⟩)))
