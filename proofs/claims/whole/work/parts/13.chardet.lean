/-! characteristic, determinant -/
theorem pc_all : ∀ N, N < 5 → pc (2 ^ N - 1) = N ∧ 2 ^ N - 1 < 2 ^ N := by decide +kernel
theorem zall {N : Nat} (hN : N ≤ 4) : ((1 : Int32) <<< (nI N &&& 31)) - 1 = nI (2 ^ N - 1) := by
  rw [zshl (by omega), zs1 (Nat.two_pow_pos _)]
/-- the characteristic polynomial's coefficients -/
abbrev chp (A : Nat → Nat → Nat) (N : Nat) : Nat → Fin 5 := dtp A N (2 ^ N - 1) (2 ^ N - 1)
theorem xs_char {post : Int32 → SX → Prop} {N s : Nat} {c m f : Nat → Nat} (hN : N ≤ 4) (hs : s < 7) (hc : ∀ j, c j < 5)
    (H : ∀ (m' : Nat → Nat) (p : Nat), p < 5 ^ (N + 1) → (∀ k, k < 5 → pd p k = chp (zSl c N s) N k) → post (nI p) (zX N c m' f)) :
    wpX_characteristicOf post (zX N c m f) (nI s) := by
  obtain ⟨w1, w2⟩ := pw2 N (by omega)
  obtain ⟨a1, a2⟩ := pc_all N (by omega)
  unfold wpX_characteristicOf; dsimp only
  refine xs_findMinors hN hs hc ?_
  intro m' hm
  obtain ⟨o1, o2⟩ := hm (2 ^ N - 1) (2 ^ N - 1) a2 a2 rfl
  rw [a1] at o1 o2
  refine nm_r (zall hN) ⟨?_, ?_⟩
  · rw [z16m, nI_add]; exact vp_in_nI (by omega) (by decide)
  · rw [z16m, nI_add, nI_clamp (by omega)]
    exact H m' _ o1 o2
def hrn (a : Nat → Nat) : Nat → Nat → Nat
  | 0, p => p
  | d + 1, p => hrn a d (5 * p + a d)
theorem hrn5 (a : Nat → Nat) : hrn a 5 0 = a 0 + a 1 * 5 + a 2 * 25 + a 3 * 125 + a 4 * 625 := by
  show 5 * (5 * (5 * (5 * (5 * 0 + a 4) + a 3) + a 2) + a 1) + a 0 = _
  omega
theorem hrn_pd {a : Nat → Nat} (h : ∀ k, k < 5 → a k < 5) : hrn a 5 0 < 3125 ∧ ∀ k, k < 5 → pd (hrn a 5 0) k = kk (a k) := by
  have h0 := h 0 (by decide); have h1 := h 1 (by decide); have h2 := h 2 (by decide); have h3 := h 3 (by decide); have h4 := h 4 (by decide)
  rw [hrn5]
  refine ⟨by omega, ?_⟩
  intro k hk
  unfold pd
  rw [← kk_mod, dig5 h0 h1 h2 h3 h4 k hk]
  match k, hk with
  | 0, _ => rfl
  | 1, _ => rfl
  | 2, _ => rfl
  | 3, _ => rfl
  | 4, _ => rfl
theorem ys_val27 {post : Int32 → SY → Prop} {N : Nat} {g : Nat → Nat} {mn te dv ot fc kp rw : Nat → Nat} (hm : ∀ k, k < 5 → mn k < 5) (H : post (nI (hrn mn 5 0)) (zY N g mn te dv ot fc kp rw)) :
    ∃ n27, wY_value_27 post (nI N) (zA g) (zA mn) (zA te) (zA dv) (zA ot) (zA fc) (zA kp) (zA rw) n27 0 4 := by
  have main : ∀ d p, d ≤ 5 → p < 5 ^ (5 - d) → post (nI (hrn mn d p)) (zY N g mn te dv ot fc kp rw) → wY_value_27 post (nI N) (zA g) (zA mn) (zA te) (zA dv) (zA ot) (zA fc) (zA kp) (zA rw) (d + 1) (nI p) (nI d - 1) := by
    intro d
    induction d with
    | zero =>
      intro p _ _ h
      exact br_t (by decide) h
    | succ d ih =>
      intro p hd hp h
      have md := hm d (by omega)
      have e : 5 - d = (5 - (d + 1)) + 1 := by omega
      have hp5 : 5 * p + mn d < 5 ^ (5 - d) := by
        rw [e, Nat.pow_succ]; omega
      rw [nI_pred]
      refine br_f (nI_pos (by omega)) ⟨vp_in_nI (by omega) (by decide), nm_r (e' := nI (5 * p + mn d)) ?_ (nm_r (e' := nI d - 1) (Int32.sub_eq_add_neg _ _).symm (ih _ (by omega) hp5 h))⟩
      rw [z5m, nI_clamp (by omega), zA_at, nI_add]
  exact ⟨6, main 5 0 (by omega) (by decide) H⟩
theorem ys_value {post : Int32 → SY → Prop} {N s : Nat} {x : Bool} {g : Nat → Nat} {mn te dv ot fc kp rw : Nat → Nat} (hN : N ≤ 4) (hs : s < 5) (hg : ∀ j, g j < 5)
    (H : ∀ (mn' te' : Nat → Nat) (p : Nat), p < 3125 → (∀ k, k < 5 → pd p k = mnS (zSl g N s) (2 ^ N - 1) (2 ^ N - 1) x 256 k) → post (nI p) (zY N g mn' te' dv ot fc kp rw)) :
    wpY_value post (zY N g mn te dv ot fc kp rw) (nI s) (if x then 1 else 0) := by
  obtain ⟨a1, a2⟩ := pc_all N (by omega)
  unfold wpY_value; dsimp only
  rw [zall hN]
  refine ys_findMinor hN hs hg a2 a2 ?_
  intro mn' te' h1 h2
  refine ys_val27 h1 ?_
  obtain ⟨q1, q2⟩ := hrn_pd h1
  refine H mn' te' _ q1 ?_
  intro k hk
  rw [q2 k hk, h2 k hk]
theorem ys_char {post : Int32 → SY → Prop} {N s : Nat} {g : Nat → Nat} {mn te dv ot fc kp rw : Nat → Nat} (hN : N ≤ 4) (hs : s < 5) (hg : ∀ j, g j < 5)
    (H : ∀ (mn' te' : Nat → Nat) (p : Nat), p < 3125 → (∀ k, k < 5 → pd p k = chp (zSl g N s) N k) → post (nI p) (zY N g mn' te' dv ot fc kp rw)) :
    wpY_value post (zY N g mn te dv ot fc kp rw) (nI s) 1 := by
  obtain ⟨a1, a2⟩ := pc_all N (by omega)
  obtain ⟨w1, w2⟩ := pw2 N (by omega)
  refine ys_value (x := true) hN hs hg ?_
  intro mn' te' p h1 h2
  refine H mn' te' p h1 ?_
  intro k hk
  rw [h2 k hk, mn_dt _ (by omega) (by omega) rfl k hk, a1]
/-- the determinant -/
abbrev dtA (A : Nat → Nat → Nat) (N : Nat) : Fin 5 := dtm (fun i j => kk (A i j)) N (2 ^ N - 1) (2 ^ N - 1)
theorem ys_det {post : Int32 → SY → Prop} {N s : Nat} {g : Nat → Nat} {mn te dv ot fc kp rw : Nat → Nat} (hN : N ≤ 4) (hs : s < 5) (hg : ∀ j, g j < 5)
    (H : ∀ (mn' te' : Nat → Nat), post (nI (dtA (zSl g N s) N).val) (zY N g mn' te' dv ot fc kp rw)) :
    wpY_value post (zY N g mn te dv ot fc kp rw) (nI s) 0 := by
  obtain ⟨a1, a2⟩ := pc_all N (by omega)
  obtain ⟨w1, w2⟩ := pw2 N (by omega)
  refine ys_value (x := false) hN hs hg ?_
  intro mn' te' p h1 h2
  have e : p = (dtA (zSl g N s) N).val := by
    have e0 := h2 0 (by decide)
    have ek : ∀ k, 1 ≤ k → k < 5 → pd p k = 0 := fun k k1 k5 => by rw [h2 k k5]; exact (mnS_f _ _ _ 256).2 k k1
    have hp5 : p < 5 ^ 1 := pd_ltp h1 (by decide) ek
    rw [mn_df _ (by omega) (by omega) rfl, a1] at e0
    have := congrArg Fin.val e0
    rw [pd_v, Nat.pow_zero, Nat.div_one] at this
    rw [← this]
    have : (5 : Nat) ^ 1 = 5 := rfl
    omega
  rw [e]; exact H mn' te'
def spw (s : Fin 5) : Nat → Fin 5
  | 0 => 1
  | f + 1 => s * spw s f
theorem lapM_s (h : Nat → Fin 5) (C : Nat) (s : Fin 5) : ∀ i, (lapM (fun i => s * h i) C i).1 = s * (lapM h C i).1 ∧ (lapM (fun i => s * h i) C i).2 = (lapM h C i).2 := by
  intro i
  induction i with
  | zero => exact ⟨by show (0 : Fin 5) = s * 0; grind, rfl⟩
  | succ i ih =>
    obtain ⟨h1, h2⟩ := ih
    show (if C / 2 ^ i % 2 = 1 then ((lapM (fun i => s * h i) C i).1 + (lapM (fun i => s * h i) C i).2 * (s * h i), - (lapM (fun i => s * h i) C i).2) else lapM (fun i => s * h i) C i).1 = s * (if C / 2 ^ i % 2 = 1 then ((lapM h C i).1 + (lapM h C i).2 * h i, - (lapM h C i).2) else lapM h C i).1 ∧ (if C / 2 ^ i % 2 = 1 then ((lapM (fun i => s * h i) C i).1 + (lapM (fun i => s * h i) C i).2 * (s * h i), - (lapM (fun i => s * h i) C i).2) else lapM (fun i => s * h i) C i).2 = (if C / 2 ^ i % 2 = 1 then ((lapM h C i).1 + (lapM h C i).2 * h i, - (lapM h C i).2) else lapM h C i).2
    split
    · refine ⟨?_, ?_⟩
      · show (lapM (fun i => s * h i) C i).1 + (lapM (fun i => s * h i) C i).2 * (s * h i) = s * ((lapM h C i).1 + (lapM h C i).2 * h i)
        rw [h1, h2]; grind
      · show - (lapM (fun i => s * h i) C i).2 = - (lapM h C i).2
        rw [h2]
    · exact ⟨h1, h2⟩
theorem dtm_s (M : Nat → Nat → Fin 5) (s : Fin 5) : ∀ f R C, dtm (fun i j => s * M i j) f R C = spw s f * dtm M f R C := by
  intro f
  induction f with
  | zero => intro R C; show (1 : Fin 5) = 1 * 1; rfl
  | succ f ih =>
    intro R C
    show (lapM (fun i => (s * M (lo R) i) * dtm (fun i j => s * M i j) f (rs R) (C - 2 ^ i)) C 4).1 = (s * spw s f) * (lapM (fun i => M (lo R) i * dtm M f (rs R) (C - 2 ^ i)) C 4).1
    have e : (fun i => (s * M (lo R) i) * dtm (fun i j => s * M i j) f (rs R) (C - 2 ^ i)) = (fun i => (s * spw s f) * (M (lo R) i * dtm M f (rs R) (C - 2 ^ i))) := by
      funext i
      rw [ih]; grind
    rw [e, (lapM_s _ _ _ _).1]
theorem ch_0 (A : Nat → Nat → Nat) {N : Nat} (hN : N ≤ 4) : chp A N 0 = spw 4 N * dtA A N := by
  have h := dtp_ev A 0 N (2 ^ N - 1) (2 ^ N - 1) hN
  have e : ev (chp A N) 0 = chp A N 0 := by unfold ev; grind
  rw [← e, h, ← dtm_s]
  have : Mw A 0 = (fun i j => 4 * kk (A i j)) := by
    funext i j
    show (if i = j then (0 : Fin 5) else 0) - kk (A i j) = 4 * kk (A i j)
    split <;> grind
  rw [this]
theorem det_X {N : Nat} (hN : N ≤ 4) (x d : Fin 5) (h : x = spw 4 N * d) : (if N % 2 = 0 then x.val else (5 - x.val) % 5) = d.val := by
  subst h
  match N, hN with
  | 0, _ => revert d; decide
  | 1, _ => revert d; decide
  | 2, _ => revert d; decide
  | 3, _ => revert d; decide
  | 4, _ => revert d; decide
theorem zrel {N r : Nat} {c g : Nat → Nat} (h : ∀ r t, r < 4 → t < N * N → c (16 * r + t) = g (16 * r + t)) (hr : r < 4) : zSl c N r = zSl g N r := zSl_eq (fun t ht => h r t hr ht)
theorem i_vc_characteristic {k : Nat} {u : SX} {v : SY} (I : i_Rel k u v) (hk : k + 5 ≤ 2561) (v1 : Int32) : wpX_characteristic (fun r u' => wpY_characteristic (fun r' v' => r' = r ∧ i_Rel (k + 5) u' v') v v1) u v1 := by
  obtain ⟨N, c, m, f, g, mn, te, dv, ot, fc, kp, rw, rfl, rfl, h1, h4, hc, hg, h⟩ := I
  unfold wpX_characteristic wpY_characteristic; dsimp only
  rcases zout v1 (n := 4) (by decide) with ⟨r, hr, rfl⟩ | o1
  · refine xr_ok hr (br_f zf1 (xs_char h4 (by omega) hc ?_))
    intro m' p p1 p2
    refine yr_ok hr (br_f zf1 (ys_char h4 (by omega) hg ?_))
    intro mn' te' p' q1 q2
    refine ⟨?_, zR h1 h4 hc hg h⟩
    have : (5 : Nat) ^ (N + 1) ≤ 5 ^ 5 := Nat.pow_le_pow_right (by decide) (by omega)
    have : (5 : Nat) ^ 5 = 3125 := rfl
    rw [pd_inj q1 (show p < 3125 by omega) (fun k hk => by rw [q2 k hk, p2 k hk, zrel h hr])]
  · exact xr_no o1 (br_t rfl (yr_no o1 (br_t rfl ⟨rfl, zR h1 h4 hc hg h⟩)))
theorem i_vc_determinant {k : Nat} {u : SX} {v : SY} (I : i_Rel k u v) (hk : k + 5 ≤ 2561) (v1 : Int32) : wpX_determinant (fun r u' => wpY_determinant (fun r' v' => r' = r ∧ i_Rel (k + 5) u' v') v v1) u v1 := by
  obtain ⟨N, c, m, f, g, mn, te, dv, ot, fc, kp, rw, rfl, rfl, h1, h4, hc, hg, h⟩ := I
  unfold wpX_determinant wpY_determinant; dsimp only
  rcases zout v1 (n := 4) (by decide) with ⟨r, hr, rfl⟩ | o1
  · refine xr_ok hr (br_f zf1 (xs_char h4 (by omega) hc ?_))
    intro m' p p1 p2
    have : (5 : Nat) ^ (N + 1) ≤ 5 ^ 5 := Nat.pow_le_pow_right (by decide) (by omega)
    have h55 : (5 : Nat) ^ 5 = 3125 := rfl
    have e0 := p2 0 (by decide)
    rw [ch_0 _ h4, zrel h hr] at e0
    have ev0 : (pd p 0).val = p % 5 := by rw [pd_v, Nat.pow_zero, Nat.div_one]
    have key := det_X h4 _ _ e0
    rw [ev0] at key
    have fin : ∀ q : Nat, q = (dtA (zSl g N r) N).val → wpY_determinant (fun r' v' => r' = nI q ∧ i_Rel (k + 5) (zX N c m' f) v') (zY N g mn te dv ot fc kp rw) (nI r) := by
      intro q hq
      unfold wpY_determinant; dsimp only
      refine yr_ok hr (br_f zf1 (ys_det h4 (by omega) hg ?_))
      intro mn' te'
      exact ⟨by rw [hq], zR h1 h4 hc hg h⟩
    refine ⟨zf5, nm_r (z5r (by omega)) ⟨zf2, ?_⟩⟩
    rw [z2r (by omega)]
    refine pk_eq (N % 2) 0 ?_ ?_
    · intro e
      rw [if_pos e] at key
      exact fin (p % 5) key
    · intro e
      rw [if_neg e] at key
      refine ⟨zf5, ?_⟩
      rw [z5s (by omega), z5r (by omega)]
      exact fin _ key
  · exact xr_no o1 (br_t rfl (yr_no o1 (br_t rfl ⟨rfl, zR h1 h4 hc hg h⟩)))
