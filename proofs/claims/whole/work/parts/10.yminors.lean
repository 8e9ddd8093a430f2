/-! the reference's minors: sums over codes -/
theorem nx_or (a b : Nat) : nI a ||| nI b = nI (a ||| b) := by
  apply Int32.toBitVec_inj.1
  show BitVec.ofNat 32 a ||| BitVec.ofNat 32 b = BitVec.ofNat 32 (a ||| b)
  apply BitVec.eq_of_getLsbD_eq
  intro i hi
  simp [hi]
theorem zshr2 {n i : Nat} (hn : n < 2 ^ 31) (hi : i < 4) : (nI n >>> ((2 * nI i) &&& 31)) &&& (3 : Int32) = nI (n / 2 ^ (2 * i) % 4) := by
  rw [z2m, zshr hn (by omega), zand3 (Nat.lt_of_le_of_lt (Nat.div_le_self _ _) hn)]
/-- the column that a code gives row i -/
def cd (code i : Nat) : Nat := code / 2 ^ (2 * i) % 4
theorem cd_lt (code i : Nat) : cd code i < 4 := Nat.mod_lt _ (by decide)
/-- does the code from row 4 - d on give each row of R a column of C not yet used -/
def wyl (code R C : Nat) : Nat → Nat → Bool
  | 0, _ => true
  | d + 1, used => if R / 2 ^ (3 - d) % 2 = 0 then (if cd code (3 - d) = 0 then wyl code R C d used else false)
      else if C / 2 ^ cd code (3 - d) % 2 = 0 then false else if used / 2 ^ cd code (3 - d) % 2 = 1 then false else wyl code R C d (used ||| 2 ^ cd code (3 - d))
theorem or16 : ∀ u, u < 16 → ∀ c, c < 4 → u ||| 2 ^ c < 16 := by decide +kernel
theorem ys_isWay {post : Int32 → Prop} {N code R C : Nat} {g : Nat → Nat} {mn te dv ot fc kp rw : Nat → Nat} (hcode : code < 256) (hR : R < 16) (hC : C < 16)
    (H : post (if wyl code R C 4 0 then 1 else 0)) : wpY_isWay post (zY N g mn te dv ot fc kp rw) (nI code) (nI R) (nI C) := by
  have main : ∀ d i used, i + d = 4 → used < 16 → post (if wyl code R C d used then 1 else 0) →
      wY_isWay_6 post (nI code) (nI R) (nI C) (nI N) (zA g) (zA mn) (zA te) (zA dv) (zA ot) (zA fc) (zA kp) (zA rw) (d + 1) (nI used) (nI i) := by
    intro d
    induction d with
    | zero =>
      intro i used hi hu H
      have : i = 4 := by omega
      subst this
      exact br_t (nI_le (a := 4) (Nat.le_refl _) (by omega)) H
    | succ d ih =>
      intro i used hi hu H
      have hi3 : i = 3 - d := by omega
      have hc4 := cd_lt code i
      refine br_f (nI_ge (b := 4) (by omega) (by omega)) (nm_r (e' := nI (cd code i)) (zshr2 (by omega) (by omega)) ?_)
      rw [zbit (by omega) (by omega), zbit (by omega) (by omega), zbit (by omega) (by omega)]
      have m1 : R / 2 ^ i % 2 < 2 := Nat.mod_lt _ (by decide)
      have m2 : C / 2 ^ cd code i % 2 < 2 := Nat.mod_lt _ (by decide)
      have m3 : used / 2 ^ cd code i % 2 < 2 := Nat.mod_lt _ (by decide)
      have W : wyl code R C (d + 1) used = (if R / 2 ^ i % 2 = 0 then (if cd code i = 0 then wyl code R C d used else false)
        else if C / 2 ^ cd code i % 2 = 0 then false else if used / 2 ^ cd code i % 2 = 1 then false else wyl code R C d (used ||| 2 ^ cd code i)) := by
        rw [hi3]; rfl
      rw [W] at H
      refine pk_eq (R / 2 ^ i % 2) 0 ?_ ?_
      · intro e
        rw [if_pos e] at H
        refine pk_eq (cd code i) 0 ?_ ?_
        · intro e2
          rw [if_pos e2] at H
          exact nm_r (nI_1 i) (ih (i + 1) used (by omega) hu H)
        · intro e2
          rw [if_neg e2] at H
          exact H
      · intro e
        rw [if_neg e] at H
        refine pk_eq (C / 2 ^ cd code i % 2) 0 ?_ ?_
        · intro e2
          rw [if_pos e2] at H
          exact H
        · intro e2
          rw [if_neg e2] at H
          refine pk_eq (used / 2 ^ cd code i % 2) 1 ?_ ?_
          · intro e3
            rw [if_pos e3] at H
            exact H
          · intro e3
            rw [if_neg e3] at H
            refine nm_r (e' := nI (used ||| 2 ^ cd code i)) (by rw [zshl (by omega), nx_or]) (nm_r (nI_1 i) (ih (i + 1) _ (by omega) (or16 used hu _ hc4) H))
  exact ⟨5, main 4 0 0 rfl (by decide) H⟩
/-- does row i stand behind row j with its column in front of j's -/
def swp (code R i j : Nat) : Nat := if ((R / 2 ^ i) &&& (R / 2 ^ j)) % 2 = 1 ∧ cd code i < cd code j then 1 else 0
def sws (code R : Nat) : Nat := zs (fun i => zs (fun j => swp code R i j) i) 4
theorem swp_le (code R i j : Nat) : swp code R i j ≤ 1 := by
  unfold swp; split <;> decide
theorem zs_le1 {f : Nat → Nat} (h : ∀ t, f t ≤ 1) (n : Nat) : zs f n ≤ n := by
  have := zs_le h n
  omega
theorem and_lt {a b B : Nat} (h : a < B) : a &&& b < B := Nat.lt_of_le_of_lt Nat.and_le_left h
theorem ys_isOdd {post : Int32 → Prop} {N code R : Nat} {g : Nat → Nat} {mn te dv ot fc kp rw : Nat → Nat} (hcode : code < 256) (hR : R < 16)
    (H : post (if sws code R % 2 = 1 then 1 else 0)) : wpY_isOdd post (zY N g mn te dv ot fc kp rw) (nI code) (nI R) := by
  show ∃ n5, wY_isOdd_5 post (nI code) (nI R) (nI N) (zA g) (zA mn) (zA te) (zA dv) (zA ot) (zA fc) (zA kp) (zA rw) n5 0 0
  have hb : ∀ i, i ≤ 4 → zs (fun i => zs (fun j => swp code R i j) i) i ≤ i * 4 := by
    intro i hi
    induction i with
    | zero => exact Nat.zero_le _
    | succ i ih =>
      have h1 := ih (by omega)
      have h2 : zs (fun j => swp code R i j) i ≤ i := zs_le1 (swp_le code R i) i
      show zs (fun i => zs (fun j => swp code R i j) i) i + zs (fun j => swp code R i j) i ≤ (i + 1) * 4
      omega
  refine loop_0 (fun n i (q : Nat) => wY_isOdd_5 post (nI code) (nI R) (nI N) (zA g) (zA mn) (zA te) (zA dv) (zA ot) (zA fc) (zA kp) (zA rw) n (nI q) (nI i))
    (fun i q => q = zs (fun i => zs (fun j => swp code R i j) i) i) 4 0 rfl ?_ ?_
  · intro n q hq
    have h16 := hb 4 (by omega)
    have hq2 : q = sws code R := hq
    have hs16 : sws code R ≤ 16 := h16
    have hm : sws code R % 2 < 2 := Nat.mod_lt _ (by decide)
    refine br_t (nI_le (a := 4) (Nat.le_refl _) (by omega)) ⟨zf2, ?_⟩
    rw [hq2, z2r (by omega)]
    refine pk_eq (sws code R % 2) 1 ?_ ?_
    · intro e
      rw [if_pos e] at H; exact H
    · intro e
      rw [if_neg e] at H; exact H
  · intro n i q hi hq ih
    have hq1 := hb i (by omega)
    refine br_f (nI_ge (b := 4) hi (by omega)) ?_
    refine loop_0 (fun n' j (q' : Nat) => wY_isOdd_14 post (wY_isOdd_5 post (nI code) (nI R) (nI N) (zA g) (zA mn) (zA te) (zA dv) (zA ot) (zA fc) (zA kp) (zA rw) n) (nI code) (nI R) (nI i) (nI N) (zA g) (zA mn) (zA te) (zA dv) (zA ot) (zA fc) (zA kp) (zA rw) n' (nI q') (nI j))
      (fun j q' => q' = q + zs (fun j => swp code R i j) j) i q rfl ?_ ?_
    · intro n' q' hq'
      refine br_t (nI_le (Nat.le_refl _) (by omega)) (nm_r (nI_1 i) (ih q' ?_))
      rw [hq', hq]; rfl
    · intro n' j q' hj hq' ih'
      have c1 := cd_lt code i
      have c2 := cd_lt code j
      have hdi : R / 2 ^ i < 16 := Nat.lt_of_le_of_lt (Nat.div_le_self _ _) hR
      refine br_f (nI_ge hj (by omega)) ?_
      rw [zshr (by omega) (by omega), zshr (by omega) (by omega), nx_and, zand1 (Nat.lt_trans (and_lt hdi) (by decide)), zshr2 (by omega) (by omega), zshr2 (by omega) (by omega)]
      have hm : ((R / 2 ^ i) &&& (R / 2 ^ j)) % 2 < 2 := Nat.mod_lt _ (by decide)
      refine pk_eq (((R / 2 ^ i) &&& (R / 2 ^ j)) % 2) 1 ?_ ?_
      · intro e
        refine pk_le (cd code j) (cd code i) ?_ ?_
        · intro e2
          refine nm_r (nI_1 j) (ih' q' ?_)
          rw [hq']
          show _ = q + (zs (fun j => swp code R i j) j + swp code R i j)
          unfold swp
          rw [if_neg (by omega)]
          rfl
        · intro e2
          refine nm_r (nI_1 q') (nm_r (nI_1 j) (ih' (q' + 1) ?_))
          rw [hq']
          show _ = q + (zs (fun j => swp code R i j) j + swp code R i j)
          rw [show swp code R i j = 1 from if_pos ⟨e, e2⟩]
          rfl
      · intro e
        refine nm_r (nI_1 j) (ih' q' ?_)
        rw [hq']
        show _ = q + (zs (fun j => swp code R i j) j + swp code R i j)
        rw [show swp code R i j = 0 from if_neg (fun z => e z.1)]
        rfl
/-- the term of a code after i rows, as coefficients -/
def tmS (A : Nat → Nat → Nat) (code R : Nat) (x : Bool) : Nat → (Nat → Fin 5)
  | 0 => fun k => if k = 0 then (if sws code R % 2 = 1 then 4 else 1) else 0
  | i + 1 => if R / 2 ^ i % 2 = 1 then fun k => tmS A code R x i k * (if x then - kk (A i (cd code i)) else kk (A i (cd code i))) + (if x = true ∧ i = cd code i then px (tmS A code R x i) k else 0) else tmS A code R x i
theorem ys_term107 {post : SY → Prop} {J : Int32 → (Nat → Int32) → (Nat → Int32) → (Nat → Int32) → (Nat → Int32) → (Nat → Int32) → (Nat → Int32) → (Nat → Int32) → (Nat → Int32) → Prop}
    {x1 x2 x3 : Int32} {N i cc k7 : Nat} {x : Bool} {g : Nat → Nat} {mn te dv ot fc kp rw : Nat → Nat} {q : Nat → Fin 5} (hi : i < 4) (hcc : cc < 4) (hk7 : k7 ≤ 5) (hte : ∀ k, k < 5 → te k < 5) (hq : ∀ k, k < 5 → kk (te k) = q k)
    (H : ∀ te' : Nat → Nat, (∀ k, k < 5 → te' k < 5) → (∀ k, k < 5 → kk (te' k) = q k * kk k7 + (if x = true ∧ i = cc then px q k else 0)) → J (nI (i + 1)) (zA g) (zA mn) (zA te') (zA dv) (zA ot) (zA fc) (zA kp) (zA rw)) :
    ∃ n107, wY_makeTerm_107 post J x1 x2 x3 (if x then 1 else 0) (nI i) (nI cc) (nI k7) (nI N) n107 4 (zA g) (zA mn) (zA te) (zA dv) (zA ot) (zA fc) (zA kp) (zA rw) := by
  have main : ∀ d (te' : Nat → Nat), d ≤ 5 → (∀ k, k < 5 → te' k < 5) → (∀ k, k < d → te' k = te k) → (∀ k, d ≤ k → k < 5 → kk (te' k) = q k * kk k7 + (if x = true ∧ i = cc then px q k else 0)) →
      wY_makeTerm_107 post J x1 x2 x3 (if x then 1 else 0) (nI i) (nI cc) (nI k7) (nI N) (d + 1) (nI d - 1) (zA g) (zA mn) (zA te') (zA dv) (zA ot) (zA fc) (zA kp) (zA rw) := by
    intro d
    induction d with
    | zero =>
      intro te' hd h5 _ hv
      exact br_t (by decide) (nm_r (nI_1 i) (H te' h5 (fun k hk => hv k (Nat.zero_le _) hk)))
    | succ d ih =>
      intro te' hd h5 hk1 hv
      have e1 : nI (d + 1) - 1 = nI d := nI_pred d
      rw [e1]
      have td := h5 d (by omega)
      have tl : te' d * k7 ≤ 4 * 5 := Nat.mul_le_mul (by omega) hk7
      have em : nI d + (-1) = nI d - 1 := (Int32.sub_eq_add_neg _ _).symm
      have step : ∀ z : Nat, z < 5 → kk z = q d * kk k7 + (if x = true ∧ i = cc then px q d else 0) → ∀ {y : Int32}, y = nI z → ¬ (5 : Int32) = 0 ∧ vp_in (nI d) 5 ∧ ∀ b : Nat → Int32, b = upd (zA te') (nI d).toNatClampNeg y → ∀ x8 : Int32, x8 = nI d + (-1) →
          wY_makeTerm_107 post J x1 x2 x3 (if x then 1 else 0) (nI i) (nI cc) (nI k7) (nI N) (d + 1) x8 (zA g) (zA mn) b (zA dv) (zA ot) (zA fc) (zA kp) (zA rw) := by
        intro z hz hzq y hy
        subst hy
        refine ⟨zf5, vp_in_nI (by omega) (by decide), nm_r (e' := zA (zu te' d z)) (by rw [nI_clamp (by omega), zA_upd]) (nm_r em (ih _ (by omega) ?_ ?_ ?_))⟩
        · intro k hk
          by_cases e : k = d
          · subst e; rw [zu_s]; exact hz
          · rw [zu_n e]; exact h5 k hk
        · intro k hk
          rw [zu_n (by omega)]; exact hk1 k (by omega)
        · intro k hk hk5
          by_cases e : k = d
          · subst e; rw [zu_s]; exact hzq
          · rw [zu_n e]; exact hv k (by omega) hk5
      have vd : vp_in (nI d) 5 := vp_in_nI (by omega) (by decide)
      have ed : te' d = te d := hk1 d (by omega)
      have plain : (if x = true ∧ i = cc then px q d else 0) = 0 → ∀ {P : Prop}, True → (¬ (5 : Int32) = 0 ∧ vp_in (nI d) 5 ∧ ∀ b : Nat → Int32, b = upd (zA te') (nI d).toNatClampNeg (((zA te' (nI d).toNatClampNeg * nI k7) + 0) - ((zA te' (nI d).toNatClampNeg * nI k7) + 0) / 5 * 5) → ∀ x8 : Int32, x8 = nI d + (-1) →
          wY_makeTerm_107 post J x1 x2 x3 (if x then 1 else 0) (nI i) (nI cc) (nI k7) (nI N) (d + 1) x8 (zA g) (zA mn) b (zA dv) (zA ot) (zA fc) (zA kp) (zA rw)) := by
        intro e0 P _
        refine step ((te' d * k7) % 5) (Nat.mod_lt _ (by decide)) ?_ ?_
        · rw [kk_mod, kk_mul, ed, hq d (by omega), e0]
          grind
        · rw [nI_clamp (by omega), zA_at, pk_mul, Int32.add_zero, z5r (by omega)]
      refine br_f (nI_pos (by omega)) ⟨vd, ?_⟩
      cases x with
      | false => exact br_t rfl (plain (P := True) (if_neg (fun z => by cases z.1)) trivial)
      | true =>
        refine br_f (by decide) (pk_eq i cc ?_ ?_)
        · intro e
          refine pk_le d 0 ?_ ?_
          · intro e2
            have : d = 0 := by omega
            subst this
            exact plain (P := True) (by rw [if_pos ⟨rfl, e⟩]; rfl) trivial
          · intro e2
            obtain ⟨d', rfl⟩ : ∃ d', d = d' + 1 := ⟨d - 1, by omega⟩
            have td' := h5 d' (by omega)
            refine ⟨by rw [nI_pred]; exact vp_in_nI (by omega) (by decide), ?_⟩
            refine step ((te' (d' + 1) * k7 + te' d') % 5) (Nat.mod_lt _ (by decide)) ?_ ?_
            · rw [kk_mod, kk_add, kk_mul, ed, hk1 d' (by omega), hq _ (by omega), hq _ (by omega), if_pos ⟨rfl, e⟩]
              rfl
            · rw [nI_pred, nI_clamp (by omega), nI_clamp (by omega), zA_at, zA_at, pk_mul, nI_add, z5r (by omega)]
        · intro e
          exact plain (P := True) (if_neg (fun z => e z.2)) trivial
  exact ⟨6, main 5 te (by omega) hte (fun _ _ => rfl) (fun k h1 h2 => absurd h1 (by omega))⟩
theorem wyl_col : ∀ code R C d used i, wyl code R C d used = true → 4 ≤ i + d → i < 4 → R / 2 ^ i % 2 = 1 → C / 2 ^ cd code i % 2 = 1 := by
  intro code R C d
  induction d with
  | zero => intro used i _ h1 h2 _; omega
  | succ d ih =>
    intro used i hw h1 h2 hb
    have W : wyl code R C (d + 1) used = (if R / 2 ^ (3 - d) % 2 = 0 then (if cd code (3 - d) = 0 then wyl code R C d used else false)
        else if C / 2 ^ cd code (3 - d) % 2 = 0 then false else if used / 2 ^ cd code (3 - d) % 2 = 1 then false else wyl code R C d (used ||| 2 ^ cd code (3 - d))) := rfl
    rw [W] at hw
    by_cases e : i = 3 - d
    · subst e
      rw [if_neg (by omega)] at hw
      by_cases e2 : C / 2 ^ cd code (3 - d) % 2 = 0
      · rw [if_pos e2] at hw; cases hw
      · omega
    · by_cases e1 : R / 2 ^ (3 - d) % 2 = 0
      · rw [if_pos e1] at hw
        by_cases e2 : cd code (3 - d) = 0
        · rw [if_pos e2] at hw
          exact ih used i hw (by omega) h2 hb
        · rw [if_neg e2] at hw; cases hw
      · rw [if_neg e1] at hw
        by_cases e2 : C / 2 ^ cd code (3 - d) % 2 = 0
        · rw [if_pos e2] at hw; cases hw
        · rw [if_neg e2] at hw
          by_cases e3 : used / 2 ^ cd code (3 - d) % 2 = 1
          · rw [if_pos e3] at hw; cases hw
          · rw [if_neg e3] at hw
            exact ih _ i hw (by omega) h2 hb
theorem bit_lt : ∀ N, N < 5 → ∀ s, s < 2 ^ N → ∀ i, i < 4 → s / 2 ^ i % 2 = 1 → i < N := by decide +kernel
theorem ys_makeTerm {post : SY → Prop} {N r code R C : Nat} {x : Bool} {g : Nat → Nat} {mn te dv ot fc kp rw : Nat → Nat} (hN : N ≤ 4) (hr : r < 5) (hg : ∀ j, g j < 5) (hcode : code < 256) (hR : R < 2 ^ N) (hC : C < 2 ^ N) (hw : wyl code R C 4 0 = true)
    (H : ∀ te' : Nat → Nat, (∀ k, k < 5 → te' k < 5) → (∀ k, k < 5 → kk (te' k) = tmS (zSl g N r) code R x 4 k) → post (zY N g mn te' dv ot fc kp rw)) :
    wpY_makeTerm post (zY N g mn te dv ot fc kp rw) (nI r) (nI code) (nI R) (if x then 1 else 0) := by
  obtain ⟨w1, w2⟩ := pw2 N (by omega)
  show ∃ n3, wY_makeTerm_3 post (nI r) (nI code) (nI R) (if x then 1 else 0) (nI N) n3 0 (zA g) (zA mn) (zA te) (zA dv) (zA ot) (zA fc) (zA kp) (zA rw)
  refine loop_0 (fun n k (s : Nat → Nat) => wY_makeTerm_3 post (nI r) (nI code) (nI R) (if x then 1 else 0) (nI N) n (nI k) (zA g) (zA mn) (zA s) (zA dv) (zA ot) (zA fc) (zA kp) (zA rw))
    (fun k s => ∀ j, j < k → s j < 5 ∧ kk (s j) = tmS (zSl g N r) code R x 0 j) 5 te (fun j h => absurd h (by omega)) ?_ ?_
  · intro n s hI
    refine br_t (nI_le (a := 5) (Nat.le_refl _) (by omega)) ?_
    refine loop_0 (fun n i (s : Nat → Nat) => wY_makeTerm_48 post (nI r) (nI code) (nI R) (if x then 1 else 0) (nI N) n (nI i) (zA g) (zA mn) (zA s) (zA dv) (zA ot) (zA fc) (zA kp) (zA rw))
      (fun i s => (∀ k, k < 5 → s k < 5) ∧ ∀ k, k < 5 → kk (s k) = tmS (zSl g N r) code R x i k) 4 s ⟨fun k hk => (hI k hk).1, fun k hk => (hI k hk).2⟩ ?_ ?_
    · intro n' s' hJ
      exact br_t (nI_le (a := 4) (Nat.le_refl _) (by omega)) (H s' hJ.1 hJ.2)
    · intro n' i s' hi hJ ih
      have m1 : R / 2 ^ i % 2 < 2 := Nat.mod_lt _ (by decide)
      refine br_f (nI_ge (b := 4) hi (by omega)) ?_
      rw [zbit (by omega) (by omega)]
      have W : tmS (zSl g N r) code R x (i + 1) = (if R / 2 ^ i % 2 = 1 then fun k => tmS (zSl g N r) code R x i k * (if x then - kk (zSl g N r i (cd code i)) else kk (zSl g N r i (cd code i))) + (if x = true ∧ i = cd code i then px (tmS (zSl g N r) code R x i) k else 0) else tmS (zSl g N r) code R x i) := rfl
      refine pk_eq (R / 2 ^ i % 2) 1 ?_ ?_
      · intro e
        have hiN := bit_lt N (by omega) R hR i hi e
        have hcC := wyl_col code R C 4 0 i hw (by omega) hi e
        have hcN := bit_lt N (by omega) C hC (cd code i) (cd_lt _ _) hcC
        have ge := hg (16 * r + (N * i + cd code i))
        rw [if_pos e] at W
        refine nm_r (e' := nI (cd code i)) (zshr2 (by omega) hi) ?_
        cases x with
        | false =>
          refine br_t rfl (ys_entry hN hr hiN hcN ?_)
          refine ys_term107 (x := false) hi (cd_lt _ _) (by omega) hJ.1 hJ.2 ?_
          intro te' t1 t2
          refine ih te' ⟨t1, ?_⟩
          intro k hk
          rw [W, t2 k hk, zSl_at hiN hcN]
          rfl
        | true =>
          refine br_f (by decide) (ys_entry hN hr hiN hcN (nm_r (z5s (by omega)) ?_))
          refine ys_term107 (x := true) hi (cd_lt _ _) (by omega) hJ.1 hJ.2 ?_
          intro te' t1 t2
          refine ih te' ⟨t1, ?_⟩
          intro k hk
          rw [W, t2 k hk, kk_5s (by omega), zSl_at hiN hcN]
          rfl
      · intro e
        rw [if_neg e] at W
        refine nm_r (nI_1 i) (ih s' ?_)
        rw [W]; exact hJ
  · intro n k s hk hI ih
    have step : ∀ z : Nat, z < 5 → kk z = tmS (zSl g N r) code R x 0 k → ∀ {y : Int32}, y = nI z → vp_in (nI k) 5 ∧ ∀ b : Nat → Int32, b = upd (zA s) (nI k).toNatClampNeg y → ∀ x8 : Int32, x8 = nI k + 1 →
        wY_makeTerm_3 post (nI r) (nI code) (nI R) (if x then 1 else 0) (nI N) n x8 (zA g) (zA mn) b (zA dv) (zA ot) (zA fc) (zA kp) (zA rw) := by
      intro z hz hzq y hy
      subst hy
      refine ⟨vp_in_nI (by omega) (by decide), nm_r (e' := zA (zu s k z)) (by rw [nI_clamp (by omega), zA_upd]) (nm_r (nI_1 k) (ih _ ?_))⟩
      intro j hj
      by_cases e : j = k
      · subst e; rw [zu_s]; exact ⟨hz, hzq⟩
      · rw [zu_n e]; exact hI j (by omega)
    refine br_f (nI_ge (b := 5) hk (by omega)) (pk_eq k 0 ?_ ?_)
    · intro e
      subst e
      refine ys_isOdd hcode (by omega) ?_
      by_cases eo : sws code R % 2 = 1
      · rw [if_pos eo]
        refine br_f zf1 (step 4 (by decide) ?_ rfl)
        show kk 4 = (if sws code R % 2 = 1 then 4 else 1)
        rw [if_pos eo]; rfl
      · rw [if_neg eo]
        refine br_t rfl (step 1 (by decide) ?_ rfl)
        show kk 1 = (if sws code R % 2 = 1 then 4 else 1)
        rw [if_neg eo]; rfl
    · intro e
      refine step 0 (by decide) ?_ rfl
      show kk 0 = (if k = 0 then (if sws code R % 2 = 1 then 4 else 1) else 0)
      rw [if_neg e]; rfl
/-- the reference's minor after some codes -/
def mnS (A : Nat → Nat → Nat) (R C : Nat) (x : Bool) : Nat → (Nat → Fin 5)
  | 0 => fun _ => 0
  | code + 1 => if wyl code R C 4 0 = true then fun k => mnS A R C x code k + tmS A code R x 4 k else mnS A R C x code
theorem ys_findMinor {post : SY → Prop} {N r R C : Nat} {x : Bool} {g : Nat → Nat} {mn te dv ot fc kp rw : Nat → Nat} (hN : N ≤ 4) (hr : r < 5) (hg : ∀ j, g j < 5) (hR : R < 2 ^ N) (hC : C < 2 ^ N)
    (H : ∀ mn' te' : Nat → Nat, (∀ k, k < 5 → mn' k < 5) → (∀ k, k < 5 → kk (mn' k) = mnS (zSl g N r) R C x 256 k) → post (zY N g mn' te' dv ot fc kp rw)) :
    wpY_findMinor post (zY N g mn te dv ot fc kp rw) (nI r) (nI R) (nI C) (if x then 1 else 0) := by
  obtain ⟨w1, w2⟩ := pw2 N (by omega)
  show ∃ n3, wY_findMinor_3 post (nI r) (nI R) (nI C) (if x then 1 else 0) (nI N) n3 0 (zA g) (zA mn) (zA te) (zA dv) (zA ot) (zA fc) (zA kp) (zA rw)
  refine loop_0 (fun n k (s : Nat → Nat) => wY_findMinor_3 post (nI r) (nI R) (nI C) (if x then 1 else 0) (nI N) n (nI k) (zA g) (zA s) (zA te) (zA dv) (zA ot) (zA fc) (zA kp) (zA rw))
    (fun k s => ∀ j, j < k → s j = 0) 5 mn (fun j h => absurd h (by omega)) ?_ ?_
  · intro n s hI
    refine br_t (nI_le (a := 5) (Nat.le_refl _) (by omega)) ?_
    refine loop_0 (fun n code (s : (Nat → Nat) × (Nat → Nat)) => wY_findMinor_26 post (nI r) (nI R) (nI C) (if x then 1 else 0) n (nI code) (nI N) (zA g) (zA s.1) (zA s.2) (zA dv) (zA ot) (zA fc) (zA kp) (zA rw))
      (fun code s => (∀ k, k < 5 → s.1 k < 5) ∧ ∀ k, k < 5 → kk (s.1 k) = mnS (zSl g N r) R C x code k) 256 (s, te) ⟨fun k hk => by show s k < 5; rw [hI k hk]; decide, fun k hk => by show kk (s k) = 0; rw [hI k hk]; rfl⟩ ?_ ?_
    · intro n' s' hJ
      exact br_t (nI_le (a := 256) (Nat.le_refl _) (by omega)) (H s'.1 s'.2 hJ.1 hJ.2)
    · intro n' code s' hcode hJ ih
      refine br_f (nI_ge (b := 256) hcode (by omega)) (ys_isWay hcode (by omega) (by omega) ?_)
      by_cases hw : wyl code R C 4 0 = true
      · rw [if_pos hw]
        refine br_f zf1 (ys_makeTerm hN hr hg hcode hR hC hw ?_)
        intro te' t1 t2
        refine loop_0 (fun n2 k (s2 : Nat → Nat) => wY_findMinor_58 post (wY_findMinor_26 post (nI r) (nI R) (nI C) (if x then 1 else 0) n') (nI r) (nI R) (nI C) (if x then 1 else 0) (nI code) (nI N) n2 (nI k) (zA g) (zA s2) (zA te') (zA dv) (zA ot) (zA fc) (zA kp) (zA rw))
          (fun k s2 => (∀ j, j < 5 → s2 j < 5) ∧ (∀ j, j < k → kk (s2 j) = mnS (zSl g N r) R C x code j + tmS (zSl g N r) code R x 4 j) ∧ ∀ j, k ≤ j → j < 5 → s2 j = s'.1 j) 5 s'.1 ⟨hJ.1, fun j h => absurd h (by omega), fun _ _ _ => rfl⟩ ?_ ?_
        · intro n2 s2 hK
          refine br_t (nI_le (a := 5) (Nat.le_refl _) (by omega)) (nm_r (nI_1 code) (ih (s2, te') ⟨hK.1, ?_⟩))
          intro k hk
          show kk (s2 k) = (if wyl code R C 4 0 = true then fun k => mnS (zSl g N r) R C x code k + tmS (zSl g N r) code R x 4 k else mnS (zSl g N r) R C x code) k
          rw [if_pos hw]
          exact hK.2.1 k hk
        · intro n2 k s2 hk hK ih2
          have a1 := hK.1 k hk
          have a2 := t1 k hk
          have vk : vp_in (nI k) 5 := vp_in_nI (by omega) (by decide)
          refine br_f (nI_ge (b := 5) hk (by omega)) ⟨vk, vk, zf5, vk, nm_r (e' := zA (zu s2 k ((s2 k + te' k) % 5))) (by rw [nI_clamp (by omega), zA_at, zA_at, nI_add, z5r (by omega), zA_upd]) (nm_r (nI_1 k) (ih2 _ ⟨?_, ?_, ?_⟩))⟩
          · intro j hj
            by_cases e : j = k
            · subst e; rw [zu_s]; exact Nat.mod_lt _ (by decide)
            · rw [zu_n e]; exact hK.1 j hj
          · intro j hj
            by_cases e : j = k
            · subst e
              rw [zu_s, kk_mod, kk_add, hK.2.2 j (by omega) hk, hJ.2 j hk, t2 j hk]
            · rw [zu_n e]; exact hK.2.1 j (by omega)
          · intro j hj hj5
            rw [zu_n (by omega)]; exact hK.2.2 j (by omega) hj5
      · rw [if_neg hw]
        refine br_t rfl (nm_r (nI_1 code) (ih s' ⟨hJ.1, ?_⟩))
        intro k hk
        show kk (s'.1 k) = (if wyl code R C 4 0 = true then fun k => mnS (zSl g N r) R C x code k + tmS (zSl g N r) code R x 4 k else mnS (zSl g N r) R C x code) k
        rw [if_neg hw]
        exact hJ.2 k hk
  · intro n k s hk hI ih
    refine br_f (nI_ge (b := 5) hk (by omega)) ⟨vp_in_nI (by omega) (by decide), nm_r (e' := zA (zu s k 0)) (by rw [nI_clamp (by omega), ← zA_upd]; rfl) (nm_r (nI_1 k) (ih _ ?_))⟩
    intro j hj
    by_cases e : j = k
    · subst e; rw [zu_s]
    · rw [zu_n e]; exact hI j (by omega)
