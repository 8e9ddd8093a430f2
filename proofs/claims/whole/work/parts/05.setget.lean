/-! the relation; new objects, set, get -/
def i_Rel (k : Nat) (u : SX) (v : SY) : Prop := ∃ (N : Nat) (c m f g mn te dv ot fc kp rw : Nat → Nat), u = zX N c m f ∧ v = zY N g mn te dv ot fc kp rw ∧ 1 ≤ N ∧ N ≤ 4 ∧ (∀ j, c j < 5) ∧ (∀ j, g j < 5) ∧ ∀ r t, r < 4 → t < N * N → c (16 * r + t) = g (16 * r + t)
theorem i_up {k : Nat} {u : SX} {v : SY} (h : i_Rel k u v) : i_Rel (k + 5) u v := h
theorem zR {k N : Nat} {c m f g : Nat → Nat} {mn te dv ot fc kp rw : Nat → Nat} (h1 : 1 ≤ N) (h4 : N ≤ 4) (hc : ∀ j, c j < 5) (hg : ∀ j, g j < 5) (h : ∀ r t, r < 4 → t < N * N → c (16 * r + t) = g (16 * r + t)) : i_Rel k (zX N c m f) (zY N g mn te dv ot fc kp rw) :=
  ⟨N, c, m, f, g, mn, te, dv, ot, fc, kp, rw, rfl, rfl, h1, h4, hc, hg, h⟩
theorem i_vc0 (k0 : Int32) : wpX_init (fun u => wpY_init (fun v => i_Rel 1 u v) k0) k0 := by
  have key : ∀ N : Nat, 1 ≤ N → N ≤ 4 → i_Rel 1 (nI N, (fun _ => 0), (fun _ => 0), (fun _ => 0)) (nI N, (fun _ => 0), (fun _ => 0), (fun _ => 0), (fun _ => 0), (fun _ => 0), (fun _ => 0), (fun _ => 0), (fun _ => 0)) := by
    intro N h1 h4
    exact zR (c := fun _ => 0) (m := fun _ => 0) (f := fun _ => 0) (g := fun _ => 0) (mn := fun _ => 0) (te := fun _ => 0) (dv := fun _ => 0) (ot := fun _ => 0) (fc := fun _ => 0) (kp := fun _ => 0) (rw := fun _ => 0) h1 h4 (fun _ => by decide) (fun _ => by decide) (fun _ _ _ _ => rfl)
  by_cases h1 : (1 : Int32) ≤ k0
  · by_cases h4 : k0 ≤ 4
    · have h0 : ¬ k0 < 0 := by
        intro z
        have := Int32.lt_of_le_of_lt h1 z
        exact absurd this (by decide)
      obtain ⟨j, hj, rfl⟩ := nI_of h0
      have g1 : 1 ≤ j := (nI_leI (a := 1) (by decide) hj).mp h1
      have g4 : j ≤ 4 := (nI_leI (b := 4) hj (by decide)).mp h4
      exact br_t h1 (br_t h4 (br_t h1 (br_t h4 (key j g1 g4))))
    · exact br_t h1 (br_f h4 (br_t h1 (br_f h4 (key 4 (by decide) (by decide)))))
  · exact br_f h1 (br_f h1 (key 1 (by decide) (by decide)))
theorem xr_place {post : Int32 → Prop} {N n : Nat} {c m f : Nat → Nat} (hN : N ≤ 4) (h : n < N * N) (H : post 1) : wpX_isPlace post (zX N c m f) (nI n) := by
  have hsq := zi_sq hN
  refine br_f (nI_pos (by omega)) (br_f ?_ H)
  rw [pk_mul]; exact nI_ge h (by omega)
theorem xr_nplace {post : Int32 → Prop} {N : Nat} {x : Int32} {c m f : Nat → Nat} (h : zOut x (N * N)) (H : post 0) : wpX_isPlace post (zX N c m f) x := by
  rcases h with h | ⟨h0, h⟩
  · exact br_t h H
  · refine br_f h0 (br_t ?_ H)
    rw [pk_mul]; exact h
theorem zsq1 {N : Nat} (h : 1 ≤ N) : nI N * nI N - 1 = nI (N * N - 1) := by
  have : 1 ≤ N * N := Nat.mul_le_mul h h
  rw [pk_mul, zs1 this]
theorem zsqs {N : Nat} (h : 1 ≤ N) : N * N = (N * N - 1) + 1 := by
  have : 1 ≤ N * N := Nat.mul_le_mul h h
  omega
theorem i_vc_set {k : Nat} {u : SX} {v : SY} (I : i_Rel k u v) (hk : k + 5 ≤ 2561) (v1 : Int32) (v2 : Int32) (v3 : Int32) : wpX_set (fun r u' => wpY_set (fun r' v' => r' = r ∧ i_Rel (k + 5) u' v') v v1 v2 v3) u v1 v2 v3 := by
  obtain ⟨N, c, m, f, g, mn, te, dv, ot, fc, kp, rw, rfl, rfl, h1, h4, hc, hg, h⟩ := I
  have hsq := zi_sq h4
  have J : i_Rel (k + 5) (zX N c m f) (zY N g mn te dv ot fc kp rw) := zR h1 h4 hc hg h
  unfold wpX_set wpY_set; dsimp only
  rcases zout v1 (n := 4) (by decide) with ⟨r, hr, rfl⟩ | o1
  · refine xr_ok hr (br_f zf1 ?_)
    rcases zout v2 (n := N * N) (by omega) with ⟨t, ht, rfl⟩ | o2
    · refine xr_place h4 ht (br_f zf1 ?_)
      rcases zout v3 (n := 5) (by decide) with ⟨w, hw, rfl⟩ | o3
      · refine xr_num hw (br_f zf1 ⟨?_, nm_r (e' := zA (zu c (16 * r + t) w)) ?_ ?_⟩)
        · rw [z16m, nI_add]; exact vp_in_nI (by omega) (by decide)
        · rw [z16m, nI_add, nI_clamp (by omega), zA_upd]
        · refine yr_ok hr (br_f zf1 ?_)
          rw [zsq1 h1]
          refine ys_in (n := t) (a := 0) (Nat.zero_le _) (by omega) (by omega) (br_f zf1 ?_)
          refine ys_in (n := w) (a := 0) (b := 4) (Nat.zero_le _) (by omega) (by decide) (br_f zf1 ⟨?_, nm_r (e' := zA (zu g (16 * r + t) w)) ?_ ⟨rfl, ?_⟩⟩)
          · rw [z16m, nI_add]; exact vp_in_nI (by omega) (by decide)
          · rw [z16m, nI_add, nI_clamp (by omega), zA_upd]
          · refine zR h1 h4 (zu_lt hc hw) (zu_lt hg hw) ?_
            intro r' t' hr' ht'
            by_cases e : 16 * r' + t' = 16 * r + t
            · rw [e, zu_s, zu_s]
            · rw [zu_n e, zu_n e]; exact h r' t' hr' ht'
      · refine xr_nnum o3 (br_t rfl ?_)
        refine yr_ok hr (br_f zf1 ?_)
        rw [zsq1 h1]
        refine ys_in (n := t) (a := 0) (Nat.zero_le _) (by omega) (by omega) (br_f zf1 ?_)
        exact ys_inO (n := 4) (by decide) o3 (br_t rfl ⟨rfl, J⟩)
    · refine xr_nplace o2 (br_t rfl ?_)
      refine yr_ok hr (br_f zf1 ?_)
      rw [zsq1 h1]
      rw [zsqs h1] at o2
      exact ys_inO (by omega) o2 (br_t rfl ⟨rfl, J⟩)
  · exact xr_no o1 (br_t rfl (yr_no o1 (br_t rfl ⟨rfl, J⟩)))
theorem i_vc_get {k : Nat} {u : SX} {v : SY} (I : i_Rel k u v) (hk : k + 5 ≤ 2561) (v1 : Int32) (v2 : Int32) : wpX_get (fun r => wpY_get (fun r' => r' = r ∧ i_Rel (k + 5) u v) v v1 v2) u v1 v2 := by
  obtain ⟨N, c, m, f, g, mn, te, dv, ot, fc, kp, rw, rfl, rfl, h1, h4, hc, hg, h⟩ := I
  have hsq := zi_sq h4
  have J : i_Rel (k + 5) (zX N c m f) (zY N g mn te dv ot fc kp rw) := zR h1 h4 hc hg h
  unfold wpX_get wpY_get; dsimp only
  rcases zout v1 (n := 4) (by decide) with ⟨r, hr, rfl⟩ | o1
  · refine xr_ok hr (br_f zf1 ?_)
    rcases zout v2 (n := N * N) (by omega) with ⟨t, ht, rfl⟩ | o2
    · refine xr_place h4 ht (br_f zf1 ⟨?_, ?_⟩)
      · rw [z16m, nI_add]; exact vp_in_nI (by omega) (by decide)
      · refine yr_ok hr (br_f zf1 ?_)
        rw [zsq1 h1]
        refine ys_in (n := t) (a := 0) (Nat.zero_le _) (by omega) (by omega) (br_f zf1 ⟨?_, ?_, J⟩)
        · rw [z16m, nI_add]; exact vp_in_nI (by omega) (by decide)
        · rw [z16m, nI_add, nI_clamp (by omega), zA_at, zA_at, h r t hr ht]
    · refine xr_nplace o2 (br_t rfl ?_)
      refine yr_ok hr (br_f zf1 ?_)
      rw [zsq1 h1]
      rw [zsqs h1] at o2
      exact ys_inO (by omega) o2 (br_t rfl ⟨rfl, J⟩)
  · exact xr_no o1 (br_t rfl (yr_no o1 (br_t rfl ⟨rfl, J⟩)))
