/-! the reference's common divisor -/
def nu (a : Nat → Nat) : Nat := hrn a 5 0
def b5 (a : Nat → Nat) : Prop := ∀ k, k < 5 → a k < 5
theorem nu_lt {a : Nat → Nat} (h : b5 a) : nu a < 3125 := (hrn_pd h).1
theorem nu_pd {a : Nat → Nat} (h : b5 a) : ∀ k, k < 5 → pd (nu a) k = kk (a k) := (hrn_pd h).2
theorem nu_of {a : Nat → Nat} (h : b5 a) {p : Nat} (hp : p < 3125) (e : ∀ k, k < 5 → kk (a k) = pd p k) : nu a = p :=
  pd_inj (nu_lt h) hp (fun k hk => by rw [nu_pd h k hk, e k hk])
theorem nu_dig {a : Nat → Nat} (h : b5 a) {k : Nat} (hk : k < 5) : a k = nu a / 5 ^ k % 5 := by
  have := congrArg Fin.val (nu_pd h k hk)
  rw [pd_v, kk_v, Nat.mod_eq_of_lt (h k hk)] at this
  exact this.symm
def ndA (a : Nat → Nat) : Nat → Nat
  | 0 => 0
  | i + 1 => if a i = 0 then ndA a i else i + 1
theorem ndA_le (a : Nat → Nat) (i : Nat) : ndA a i ≤ i := by
  induction i with
  | zero => exact Nat.le_refl _
  | succ i ih =>
    show (if a i = 0 then ndA a i else i + 1) ≤ i + 1
    split <;> omega
theorem ndA_nd {a : Nat → Nat} (h : b5 a) : ndA a 5 = nd (nu a) := by
  have h0 := h 0 (by decide); have h1 := h 1 (by decide); have h2 := h 2 (by decide); have h3 := h 3 (by decide); have h4 := h 4 (by decide)
  unfold nu
  rw [hrn5]
  show (if a 4 = 0 then (if a 3 = 0 then (if a 2 = 0 then (if a 1 = 0 then (if a 0 = 0 then 0 else 0 + 1) else 1 + 1) else 2 + 1) else 3 + 1) else 4 + 1) = _
  generalize a 0 = x0 at *
  generalize a 1 = x1 at *
  generalize a 2 = x2 at *
  generalize a 3 = x3 at *
  generalize a 4 = x4 at *
  unfold nd dg
  by_cases c4 : x4 = 0
  · rw [if_pos c4]
    by_cases c3 : x3 = 0
    · rw [if_pos c3]
      by_cases c2 : x2 = 0
      · rw [if_pos c2]
        by_cases c1 : x1 = 0
        · rw [if_pos c1]
          by_cases c0 : x0 = 0
          · rw [if_pos c0, if_pos (by omega)]
          · rw [if_neg c0, if_neg (by omega), if_pos (by omega)]
        · rw [if_neg c1, if_neg (by omega), if_neg (by omega), if_pos (by omega)]
      · rw [if_neg c2, if_neg (by omega), if_neg (by omega), if_neg (by omega), if_pos (by omega)]
    · rw [if_neg c3, if_neg (by omega), if_neg (by omega), if_neg (by omega), if_neg (by omega), if_pos (by omega)]
  · rw [if_neg c4, if_neg (by omega), if_neg (by omega), if_neg (by omega), if_neg (by omega), if_neg (by omega)]
theorem ys_degM {post : Int32 → Prop} {N : Nat} {g : Nat → Nat} {mn te dv ot fc kp rw : Nat → Nat} (h : b5 mn) (H : post (nI (nd (nu mn)) - 1)) : wpY_degreeOfMinor post (zY N g mn te dv ot fc kp rw) := by
  show ∃ n4, wY_degreeOfMinor_4 post (nI N) (zA g) (zA mn) (zA te) (zA dv) (zA ot) (zA fc) (zA kp) (zA rw) n4 (-1) 0
  refine loop_0 (fun n i (e : Nat) => wY_degreeOfMinor_4 post (nI N) (zA g) (zA mn) (zA te) (zA dv) (zA ot) (zA fc) (zA kp) (zA rw) n (nI e - 1) (nI i))
    (fun i e => e = ndA mn i) 5 0 rfl ?_ ?_
  · intro n e he
    refine br_t (nI_le (a := 5) (Nat.le_refl _) (by omega)) ?_
    rw [he, ndA_nd h]; exact H
  · intro n i e hi he ih
    have hb := h i hi
    refine br_f (nI_ge (b := 5) hi (by omega)) ⟨vp_in_nI (by omega) (by decide), ?_⟩
    rw [nI_clamp (by omega), zA_at]
    refine pk_eq (mn i) 0 ?_ ?_
    · intro e0
      refine nm_r (nI_1 i) (ih e ?_)
      rw [he]
      show _ = (if mn i = 0 then ndA mn i else i + 1)
      rw [if_pos e0]
    · intro e0
      refine nm_r (nI_1 i) ?_
      rw [← nI_pred i]
      refine ih (i + 1) ?_
      show _ = (if mn i = 0 then ndA mn i else i + 1)
      rw [if_neg e0]
theorem ys_degD {post : Int32 → Prop} {N : Nat} {g : Nat → Nat} {mn te dv ot fc kp rw : Nat → Nat} (h : b5 dv) (H : post (nI (nd (nu dv)) - 1)) : wpY_degreeOfDivisor post (zY N g mn te dv ot fc kp rw) := by
  show ∃ n4, wY_degreeOfDivisor_4 post (nI N) (zA g) (zA mn) (zA te) (zA dv) (zA ot) (zA fc) (zA kp) (zA rw) n4 (-1) 0
  refine loop_0 (fun n i (e : Nat) => wY_degreeOfDivisor_4 post (nI N) (zA g) (zA mn) (zA te) (zA dv) (zA ot) (zA fc) (zA kp) (zA rw) n (nI e - 1) (nI i))
    (fun i e => e = ndA dv i) 5 0 rfl ?_ ?_
  · intro n e he
    refine br_t (nI_le (a := 5) (Nat.le_refl _) (by omega)) ?_
    rw [he, ndA_nd h]; exact H
  · intro n i e hi he ih
    have hb := h i hi
    refine br_f (nI_ge (b := 5) hi (by omega)) ⟨vp_in_nI (by omega) (by decide), ?_⟩
    rw [nI_clamp (by omega), zA_at]
    refine pk_eq (dv i) 0 ?_ ?_
    · intro e0
      refine nm_r (nI_1 i) (ih e ?_)
      rw [he]
      show _ = (if dv i = 0 then ndA dv i else i + 1)
      rw [if_pos e0]
    · intro e0
      refine nm_r (nI_1 i) ?_
      rw [← nI_pred i]
      refine ih (i + 1) ?_
      show _ = (if dv i = 0 then ndA dv i else i + 1)
      rw [if_neg e0]
theorem ys_red {post : SY → Prop} {N : Nat} {g : Nat → Nat} {mn te dv ot fc kp rw : Nat → Nat} (hm : b5 mn) (hd : b5 dv) (ha0 : nu mn ≠ 0) (hb0 : nu dv ≠ 0) (hle : dg (nu dv) ≤ dg (nu mn))
    (H : ∀ mn' : Nat → Nat, b5 mn' → nu mn' = stp (nu mn) (nu dv) → post (zY N g mn' te dv ot fc kp rw)) :
    wpY_reduceMinor post (zY N g mn te dv ot fc kp rw) (nI (dg (nu mn))) (nI (dg (nu dv))) := by
  have a4 := dg_4 (nu mn)
  have b4 := dg_4 (nu dv)
  have amn := nu_lt hm
  have adv := nu_lt hd
  have em : mn (dg (nu mn)) = ld (nu mn) := by
    rw [nu_dig hm (by omega)]
    exact Nat.mod_eq_of_lt (ld_lt amn)
  have ed : dv (dg (nu dv)) = ld (nu dv) := by
    rw [nu_dig hd (by omega)]
    exact Nat.mod_eq_of_lt (ld_lt adv)
  have lm := ld_lt amn
  have ldv := ld_lt adv
  unfold wpY_reduceMinor; dsimp only
  refine ⟨vp_in_nI (by omega) (by decide), vp_in_nI (by omega) (by decide), ?_⟩
  unfold wpY_inverse
  rw [nI_clamp (by omega), nI_clamp (by omega), zA_at, zA_at, em, ed]
  have l1 : ld (nu dv) * ld (nu dv) ≤ 4 * 4 := Nat.mul_le_mul (by omega) (by omega)
  have l2 : ld (nu dv) * ld (nu dv) * ld (nu dv) ≤ 16 * 4 := Nat.mul_le_mul l1 (by omega)
  have l3 : ld (nu dv) * ld (nu dv) * ld (nu dv) % 5 < 5 := Nat.mod_lt _ (by decide)
  have l4 : ld (nu mn) * (ld (nu dv) * ld (nu dv) * ld (nu dv) % 5) ≤ 4 * 4 := Nat.mul_le_mul (by omega) (by omega)
  have l5 : ld (nu mn) * (ld (nu dv) * ld (nu dv) * ld (nu dv) % 5) % 5 < 5 := Nat.mod_lt _ (by decide)
  refine ⟨zf5, ?_⟩
  rw [pk_mul, pk_mul, z5r (by omega)]
  dsimp only
  rw [pk_mul]
  refine ⟨zf5, nm_r (z5r (by omega)) ?_⟩
  generalize hc : ld (nu mn) * (ld (nu dv) * ld (nu dv) * ld (nu dv) % 5) % 5 = cc at *
  have ksc : kk (5 - cc) = kk ((5 - ld (nu mn)) * (ld (nu dv) * ld (nu dv) * ld (nu dv) % 5) % 5) := by
    rw [kk_5s (by omega), ← hc, kk_mod, kk_mul, kk_mod ((5 - ld (nu mn)) * _), kk_mul, kk_5s (by omega)]
    grind
  generalize hta : dg (nu mn) = ta at *
  generalize htb : dg (nu dv) = tb at *
  refine loop_0 (fun n k (s : Nat → Nat) => wY_reduceMinor_23 post (nI ta) (nI tb) (nI cc) (nI N) n (nI k) (zA g) (zA s) (zA te) (zA dv) (zA ot) (zA fc) (zA kp) (zA rw))
    (fun k s => b5 s ∧ ∀ j, j < 5 → kk (s j) = kk (mn j) + (if ta - tb ≤ j ∧ j < ta - tb + k then kk (5 - cc) * kk (dv (j - (ta - tb))) else 0)) (tb + 1) mn ⟨hm, fun j hj => ?_⟩ ?_ ?_
  · rw [if_neg (by omega)]; grind
  · intro n s hI
    refine br_t (nI_lt (by omega) (by omega)) (H s hI.1 ?_)
    refine nu_of hI.1 (pm_lt _ _ _) (fun j hj => ?_)
    rw [hI.2 j hj]
    unfold stp
    rw [pd_pm _ _ _ _ hj, ← ksc, nu_pd hm j hj, pd_sh, hta, htb]
    by_cases e1 : j < ta - tb
    · rw [if_neg (by omega), if_pos e1]; grind
    · rw [if_neg e1]
      by_cases e2 : j < ta - tb + (tb + 1)
      · rw [if_pos ⟨by omega, e2⟩, nu_pd hd _ (by omega)]
      · rw [if_neg (by omega), pd_gt adv (by omega)]; grind
  · intro n k s hk hI ih
    have e0 : nI ta - nI tb + nI k = nI (ta - tb + k) := by rw [pk_sub hle, nI_add]
    have b1 := hI.1 (ta - tb + k) (by omega)
    have b2 := hd k (by omega)
    have b3 : (5 - cc) * dv k ≤ 5 * 4 := Nat.mul_le_mul (by omega) (by omega)
    refine br_f (nI_nlt (by omega) (by omega)) ?_
    rw [e0, nI_clamp (by omega), nI_clamp (by omega), zA_at, zA_at, z5s (by omega), pk_mul, nI_add, z5r (by omega)]
    refine ⟨vp_in_nI (by omega) (by decide), vp_in_nI (by omega) (by decide), zf5, vp_in_nI (by omega) (by decide), nm_r (zA_upd _ _ _) (nm_r (nI_1 k) (ih _ ⟨?_, ?_⟩))⟩
    · intro j hj
      by_cases e : j = ta - tb + k
      · rw [e, zu_s]; exact Nat.mod_lt _ (by decide)
      · rw [zu_n e]; exact hI.1 j hj
    · intro j hj
      by_cases e : j = ta - tb + k
      · rw [e, zu_s, kk_mod, kk_add, kk_mul, hI.2 _ (by omega), if_neg (by omega), if_pos ⟨by omega, by omega⟩, show ta - tb + k - (ta - tb) = k by omega]
        grind
      · rw [zu_n e, hI.2 j hj]
        by_cases e2 : ta - tb ≤ j ∧ j < ta - tb + k
        · rw [if_pos e2, if_pos ⟨e2.1, by omega⟩]
        · rw [if_neg e2, if_neg (by omega)]
theorem nu_cong {a b : Nat → Nat} (h : ∀ k, k < 5 → a k = b k) : nu a = nu b := by
  unfold nu
  rw [hrn5, hrn5, h 0 (by decide), h 1 (by decide), h 2 (by decide), h 3 (by decide), h 4 (by decide)]
theorem ys_swap {post : SY → Prop} {J : Int32 → Int32 → (Nat → Int32) → (Nat → Int32) → (Nat → Int32) → (Nat → Int32) → (Nat → Int32) → (Nat → Int32) → (Nat → Int32) → (Nat → Int32) → Prop} {N i : Nat} {g : Nat → Nat} {mn te dv ot fc kp rw : Nat → Nat}
    (H : ∀ mn' dv' : Nat → Nat, (∀ k, k < 5 → mn' k = dv k) → (∀ k, k < 5 → dv' k = mn k) → J (nI (i + 1)) (nI N) (zA g) (zA mn') (zA te) (zA dv') (zA ot) (zA fc) (zA kp) (zA rw)) :
    ∃ n47, wY_share_47 post J (nI i) (nI N) n47 0 (zA g) (zA mn) (zA te) (zA dv) (zA ot) (zA fc) (zA kp) (zA rw) := by
  refine loop_0 (fun n k (s : (Nat → Nat) × (Nat → Nat)) => wY_share_47 post J (nI i) (nI N) n (nI k) (zA g) (zA s.1) (zA te) (zA s.2) (zA ot) (zA fc) (zA kp) (zA rw))
    (fun k s => (∀ j, j < k → s.1 j = dv j ∧ s.2 j = mn j) ∧ ∀ j, k ≤ j → s.1 j = mn j ∧ s.2 j = dv j) 5 (mn, dv) ⟨fun j h => absurd h (by omega), fun _ _ => ⟨rfl, rfl⟩⟩ ?_ ?_
  · intro n s hI
    exact br_t (nI_le (a := 5) (Nat.le_refl _) (by omega)) (nm_r (nI_1 i) (H s.1 s.2 (fun k hk => (hI.1 k hk).1) (fun k hk => (hI.1 k hk).2)))
  · intro n k s hk hI ih
    have vk : vp_in (nI k) 5 := vp_in_nI (by omega) (by decide)
    obtain ⟨e1, e2⟩ := hI.2 k (Nat.le_refl _)
    refine br_f (nI_ge (b := 5) hk (by omega)) ?_
    rw [nI_clamp (by omega), zA_at, zA_at]
    refine ⟨vk, nm_r (e' := nI (dv k)) (by rw [e2]) ⟨vk, vk, nm_r (e' := zA (zu s.2 k (mn k))) (by rw [e1, zA_upd]) ⟨vk, nm_r (e' := zA (zu s.1 k (dv k))) (zA_upd _ _ _) (nm_r (nI_1 k) (ih (zu s.1 k (dv k), zu s.2 k (mn k)) ⟨?_, ?_⟩))⟩⟩⟩
    · intro j hj
      show zu s.1 k (dv k) j = dv j ∧ zu s.2 k (mn k) j = mn j
      by_cases e : j = k
      · rw [e, zu_s, zu_s]; exact ⟨rfl, rfl⟩
      · rw [zu_n e, zu_n e]; exact hI.1 j (by omega)
    · intro j hj
      show zu s.1 k (dv k) j = mn j ∧ zu s.2 k (mn k) j = dv j
      rw [zu_n (by omega), zu_n (by omega)]; exact hI.2 j (by omega)
def muS (a b : Nat) : Nat := 2 * (nd a + nd b) + (if nd a < nd b ∨ nd b = 0 then 1 else 0)
theorem nd_pos {p : Nat} (h : p ≠ 0) : nd p = dg p + 1 := if_neg h
theorem nd_zero {p : Nat} (h : nd p = 0) : p = 0 := by
  by_cases e : p = 0
  · exact e
  · rw [nd_pos e] at h; omega
theorem ys_share {post : SY → Prop} {N : Nat} {g : Nat → Nat} {mn te dv ot fc kp rw : Nat → Nat} (hm : b5 mn) (hd : b5 dv)
    (H : ∀ mn' dv' : Nat → Nat, b5 mn' → b5 dv' → (∀ P, Idl P → (P (nu dv') ↔ P (nu mn) ∧ P (nu dv))) → post (zY N g mn' te dv' ot fc kp rw)) :
    wpY_share post (zY N g mn te dv ot fc kp rw) := by
  show ∃ n2, wY_share_2 post n2 0 (nI N) (zA g) (zA mn) (zA te) (zA dv) (zA ot) (zA fc) (zA kp) (zA rw)
  refine loop_0 (fun n i (s : (Nat → Nat) × (Nat → Nat)) => wY_share_2 post n (nI i) (nI N) (zA g) (zA s.1) (zA te) (zA s.2) (zA ot) (zA fc) (zA kp) (zA rw))
    (fun i s => b5 s.1 ∧ b5 s.2 ∧ (∀ P, Idl P → (P (nu s.1) ∧ P (nu s.2) ↔ P (nu mn) ∧ P (nu dv))) ∧ (nu s.1 = 0 ∨ muS (nu s.1) (nu s.2) + i ≤ 30)) 40 (mn, dv) ⟨hm, hd, fun P hP => Iff.rfl, Or.inr ?_⟩ ?_ ?_
  · have n1 := nd_5 (nu mn)
    have n2 := nd_5 (nu dv)
    unfold muS
    dsimp only
    split <;> omega
  · intro n s hI
    obtain ⟨i1, i2, i3, i4⟩ := hI
    have hz : nu s.1 = 0 := by
      rcases i4 with z | z
      · exact z
      · omega
    refine br_t (nI_le (a := 40) (Nat.le_refl _) (by omega)) (H s.1 s.2 i1 i2 (fun P hP => ?_))
    rw [← i3 P hP, hz]
    exact ⟨fun h => ⟨hP.1, h⟩, fun h => h.2⟩
  · intro n i s hi hI ih
    obtain ⟨i1, i2, i3, i4⟩ := hI
    have n1 := nd_5 (nu s.1)
    have n2 := nd_5 (nu s.2)
    have l1 := nu_lt i1
    have l2 := nu_lt i2
    refine br_f (nI_ge (b := 40) hi (by omega)) (ys_degM i1 (ys_degD i2 ?_))
    by_cases x0 : nu s.1 = 0
    · have hx : nI (nd (nu s.1)) - 1 < 0 := by rw [x0]; decide
      refine br_t hx ?_
      unfold wY_share_40
      exact br_t hx (nm_r (nI_1 i) (ih s ⟨i1, i2, i3, Or.inl x0⟩))
    · have hmu : muS (nu s.1) (nu s.2) + i ≤ 30 := by
        rcases i4 with z | z
        · exact absurd z x0
        · exact z
      have e1 : nI (nd (nu s.1)) - 1 = nI (dg (nu s.1)) := by rw [nd_pos x0, nI_pred]
      have a4 := dg_4 (nu s.1)
      have b4 := dg_4 (nu s.2)
      rw [e1]
      have hnn : ¬ nI (dg (nu s.1)) < 0 := nI_pos (by omega)
      have sw : (nd (nu s.1) < nd (nu s.2) ∨ nd (nu s.2) = 0) → wY_share_40 post (wY_share_2 post n) (nI i) (nI (dg (nu s.1))) (nI N) (zA g) (zA s.1) (zA te) (zA s.2) (zA ot) (zA fc) (zA kp) (zA rw) := by
        intro hc
        unfold wY_share_40
        refine br_f hnn (ys_swap ?_)
        intro mn' dv' q1 q2
        have u1 : nu mn' = nu s.2 := nu_cong q1
        have u2 : nu dv' = nu s.1 := nu_cong q2
        refine ih (mn', dv') ⟨fun k hk => by show mn' k < 5; rw [q1 k hk]; exact i2 k hk, fun k hk => by show dv' k < 5; rw [q2 k hk]; exact i1 k hk, fun P hP => ?_, ?_⟩
        · show P (nu mn') ∧ P (nu dv') ↔ _
          rw [u1, u2, ← i3 P hP]; exact And.comm
        · show nu mn' = 0 ∨ muS (nu mn') (nu dv') + (i + 1) ≤ 30
          rw [u1, u2]
          have np : 0 < nd (nu s.1) := by rw [nd_pos x0]; omega
          unfold muS at hmu ⊢
          rw [if_pos hc] at hmu
          rcases hc with hc | hc
          · right
            rw [if_neg (by omega)]; omega
          · left; exact nd_zero hc
      by_cases y0 : nu s.2 = 0
      · have hy : nI (nd (nu s.2)) - 1 = -1 := by rw [y0]; decide
        have hc : nd (nu s.2) = 0 := by rw [y0]; rfl
        rw [hy]
        have hlt : ¬ nI (dg (nu s.1)) < -1 := by
          intro z
          exact hnn (Int32.lt_trans z (by decide))
        exact br_f hnn (br_f hlt (br_t (by decide) (sw (Or.inr hc))))
      · have e2 : nI (nd (nu s.2)) - 1 = nI (dg (nu s.2)) := by rw [nd_pos y0, nI_pred]
        rw [e2]
        refine br_f hnn (pk_lt (dg (nu s.1)) (dg (nu s.2)) ?_ ?_)
        · intro h
          exact sw (Or.inl (by rw [nd_pos x0, nd_pos y0]; omega))
        · intro h
          refine br_f (nI_pos (by omega)) (ys_red i1 i2 x0 y0 h ?_)
          intro mn' m1 m2
          refine nm_r (nI_1 i) (ih (mn', s.2) ⟨m1, i2, fun P hP => ?_, ?_⟩)
          · show P (nu mn') ∧ P (nu s.2) ↔ _
            rw [m2, ← i3 P hP]
            exact ⟨fun h' => ⟨(stp_I hP l1 l2 h h'.2).mp h'.1, h'.2⟩, fun h' => ⟨(stp_I hP l1 l2 h h'.2).mpr h'.1, h'.2⟩⟩
          · right
            show muS (nu mn') (nu s.2) + (i + 1) ≤ 30
            rw [m2]
            have hl := nd_lt (stp_lt l1 l2 y0 h)
            have np := nd_pos x0
            unfold muS at hmu ⊢
            have z1 : (if nd (stp (nu s.1) (nu s.2)) < nd (nu s.2) ∨ nd (nu s.2) = 0 then 1 else 0) ≤ 1 := by split <;> decide
            omega
