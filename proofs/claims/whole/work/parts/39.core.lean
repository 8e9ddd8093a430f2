/-! how many matrices commute with one -/
theorem core {A R d s : Nat → Nat → Nat} {f g : Nat → Nat} {N m : Nat} (h1 : 1 ≤ N) (hN : N ≤ 4) (hA5 : ∀ i j, A i j < 5) (hAs : sp N (kM A)) (hR5 : ∀ i j, R i j < 5) (hRs : sp N (kM R)) (hsim : Sim N (kM A) (kM R))
    (hm : m + rankL (N * N) (adL N R) = N * N) : Dim (N * N) (kerl (adL N A)) m := by
  obtain ⟨m', m1, m2⟩ := rankL_D (N * N) (adL N R) (adL_len N R)
  have e : m' = m := by omega
  rw [e] at m2
  have c1 : Dim (N * N) (comm N (kM R)) m := Dim_iff (fun x => (kc h1 hN hR5 x).symm) m2
  have c2 := Dim_sim hN hAs hRs hsim c1
  exact Dim_iff (fun x => kc h1 hN hA5 x) c2
theorem fac_deg {A : Nat → Nat → Nat} {N : Nat} {d s : Nat → Nat} (hN : N ≤ 4) (h : fac A N d s) : dg (d 0) = 0 ∧ dg (d N) = N := by
  refine ⟨?_, (gD_N hN (h.1 N (Nat.le_refl _))).2⟩
  have : d 0 = 1 := gD_uniq (h.1 0 (Nat.zero_le _)) (gD_0 A hN)
  rw [this]; rfl
theorem core4 {A R : Nat → Nat → Nat} {d s : Nat → Nat} (hA5 : ∀ i j, A i j < 5) (hAs : sp 4 (kM A)) (hR5 : ∀ i j, R i j < 5) (hRs : sp 4 (kM R)) (hsim : Sim 4 (kM A) (kM R)) (hck : chk4 R = true) (h : fac A 4 d s) :
    Dim (4 * 4) (kerl (adL 4 A)) (zs (fun i => (2 * (4 - 1 - i) + 1) * dg (s i)) 4) := by
  have e1 := dgK_eq (by decide) (by decide) (gD_sim (by decide) (by decide) (by decide) hRs hsim (h.1 1 (by decide)))
  have e2 := dgK_eq (by decide) (by decide) (gD_sim (by decide) (by decide) (by decide) hRs hsim (h.1 2 (by decide)))
  have e3 := dgK_eq (by decide) (by decide) (gD_sim (by decide) (by decide) (by decide) hRs hsim (h.1 3 (by decide)))
  have hc : rankL 16 (adL 4 R) + 4 + 2 * (dgK 4 R 1 + dgK 4 R 2 + dgK 4 R 3) = 16 := eq_of_beq hck
  rw [← e1, ← e2, ← e3] at hc
  have s0 := (fac_s (by decide) h 0 (by decide)).2.2.1
  have s1 := (fac_s (by decide) h 1 (by decide)).2.2.1
  have s2 := (fac_s (by decide) h 2 (by decide)).2.2.1
  have s3 := (fac_s (by decide) h 3 (by decide)).2.2.1
  obtain ⟨z0, z4⟩ := fac_deg (by decide) h
  have z4' : dg (d (3 + 1)) = 4 := z4
  have hz : zs (fun i => (2 * (4 - 1 - i) + 1) * dg (s i)) 4 = 7 * dg (s 0) + 5 * dg (s 1) + 3 * dg (s 2) + dg (s 3) := by
    show 0 + 7 * dg (s 0) + 5 * dg (s 1) + 3 * dg (s 2) + 1 * dg (s 3) = _
    omega
  rw [hz]
  refine core (d := fun _ _ => 0) (s := fun _ _ => 0) (f := d) (g := s) (by decide) (by decide) hA5 hAs hR5 hRs hsim ?_
  show 7 * dg (s 0) + 5 * dg (s 1) + 3 * dg (s 2) + dg (s 3) + rankL 16 (adL 4 R) = 16
  have t1 : dg (d (0 + 1)) = dg (d 1) := rfl
  have t2 : dg (d (1 + 1)) = dg (d 2) := rfl
  have t3 : dg (d (2 + 1)) = dg (d 3) := rfl
  omega
theorem core3 {A R : Nat → Nat → Nat} {d s : Nat → Nat} (hA5 : ∀ i j, A i j < 5) (hAs : sp 3 (kM A)) (hR5 : ∀ i j, R i j < 5) (hRs : sp 3 (kM R)) (hsim : Sim 3 (kM A) (kM R)) (hck : chk3 R = true) (h : fac A 3 d s) :
    Dim (3 * 3) (kerl (adL 3 A)) (zs (fun i => (2 * (3 - 1 - i) + 1) * dg (s i)) 3) := by
  have e1 := dgK_eq (by decide) (by decide) (gD_sim (by decide) (by decide) (by decide) hRs hsim (h.1 1 (by decide)))
  have e2 := dgK_eq (by decide) (by decide) (gD_sim (by decide) (by decide) (by decide) hRs hsim (h.1 2 (by decide)))
  have hc : rankL 9 (adL 3 R) + 3 + 2 * (dgK 3 R 1 + dgK 3 R 2) = 9 := eq_of_beq hck
  rw [← e1, ← e2] at hc
  have s0 := (fac_s (by decide) h 0 (by decide)).2.2.1
  have s1 := (fac_s (by decide) h 1 (by decide)).2.2.1
  have s2 := (fac_s (by decide) h 2 (by decide)).2.2.1
  obtain ⟨z0, z4⟩ := fac_deg (by decide) h
  have z4' : dg (d (2 + 1)) = 3 := z4
  have hz : zs (fun i => (2 * (3 - 1 - i) + 1) * dg (s i)) 3 = 5 * dg (s 0) + 3 * dg (s 1) + dg (s 2) := by
    show 0 + 5 * dg (s 0) + 3 * dg (s 1) + 1 * dg (s 2) = _
    omega
  rw [hz]
  refine core (d := fun _ _ => 0) (s := fun _ _ => 0) (f := d) (g := s) (by decide) (by decide) hA5 hAs hR5 hRs hsim ?_
  show 5 * dg (s 0) + 3 * dg (s 1) + dg (s 2) + rankL 9 (adL 3 R) = 9
  have t1 : dg (d (0 + 1)) = dg (d 1) := rfl
  have t2 : dg (d (1 + 1)) = dg (d 2) := rfl
  omega
theorem core2 {A R : Nat → Nat → Nat} {d s : Nat → Nat} (hA5 : ∀ i j, A i j < 5) (hAs : sp 2 (kM A)) (hR5 : ∀ i j, R i j < 5) (hRs : sp 2 (kM R)) (hsim : Sim 2 (kM A) (kM R)) (hck : chk2 R = true) (h : fac A 2 d s) :
    Dim (2 * 2) (kerl (adL 2 A)) (zs (fun i => (2 * (2 - 1 - i) + 1) * dg (s i)) 2) := by
  have e1 := dgK_eq (by decide) (by decide) (gD_sim (by decide) (by decide) (by decide) hRs hsim (h.1 1 (by decide)))
  have hc : rankL 4 (adL 2 R) + 2 + 2 * dgK 2 R 1 = 4 := eq_of_beq hck
  rw [← e1] at hc
  have s0 := (fac_s (by decide) h 0 (by decide)).2.2.1
  have s1 := (fac_s (by decide) h 1 (by decide)).2.2.1
  obtain ⟨z0, z4⟩ := fac_deg (by decide) h
  have z4' : dg (d (1 + 1)) = 2 := z4
  have hz : zs (fun i => (2 * (2 - 1 - i) + 1) * dg (s i)) 2 = 3 * dg (s 0) + dg (s 1) := by
    show 0 + 3 * dg (s 0) + 1 * dg (s 1) = _
    omega
  rw [hz]
  refine core (d := fun _ _ => 0) (s := fun _ _ => 0) (f := d) (g := s) (by decide) (by decide) hA5 hAs hR5 hRs hsim ?_
  show 3 * dg (s 0) + dg (s 1) + rankL 4 (adL 2 R) = 4
  have t1 : dg (d (0 + 1)) = dg (d 1) := rfl
  omega
theorem one_row : ∀ a, a < 5 → rankL 1 (adL 1 (mt [[a]])) = 0 := by decide +kernel
theorem core1 {A : Nat → Nat → Nat} {d s : Nat → Nat} (hA5 : ∀ i j, A i j < 5) (hAs : sp 1 (kM A)) (h : fac A 1 d s) : Dim (1 * 1) (kerl (adL 1 A)) (zs (fun i => (2 * (1 - 1 - i) + 1) * dg (s i)) 1) := by
  have s0 := (fac_s (by decide) h 0 (by decide)).2.2.1
  obtain ⟨z0, z4⟩ := fac_deg (by decide) h
  have z4' : dg (d (0 + 1)) = 1 := z4
  have hz : zs (fun i => (2 * (1 - 1 - i) + 1) * dg (s i)) 1 = 1 := by
    show 0 + 1 * dg (s 0) = 1
    omega
  rw [hz]
  have hRs : sp 1 (kM (mt [[A 0 0]])) := sp_mt (Nat.le_refl _) (fun c hc => by simp at hc; subst hc; exact Nat.le_refl _)
  have hR5 : ∀ i j, mt [[A 0 0]] i j < 5 := fun i j => mt_lt (fun c hc x hx => by simp at hc; subst hc; simp at hx; rw [hx]; exact hA5 0 0) i j
  have e : kM A = kM (mt [[A 0 0]]) := by
    refine sp_ext hAs hRs (fun i j hi hj => ?_)
    have ei : i = 0 := by omega
    have ej : j = 0 := by omega
    subst ei; subst ej; rfl
  refine core (d := fun _ _ => 0) (s := fun _ _ => 0) (f := d) (g := s) (R := mt [[A 0 0]]) (by decide) (by decide) hA5 hAs hR5 hRs (by rw [← e]; exact Sim_rf (by decide) hAs) ?_
  have := one_row (A 0 0) (hA5 0 0)
  show 1 + rankL 1 (adL 1 (mt [[A 0 0]])) = 1
  omega
theorem cm_dim {A : Nat → Nat → Nat} {N : Nat} {d s : Nat → Nat} (h1 : 1 ≤ N) (hN : N ≤ 4) (hA : ∀ i j, A i j < 5) (hS : ∀ i j, ¬ (i < N ∧ j < N) → A i j = 0) (h : fac A N d s) : Dim (N * N) (kerl (adL N A)) (zs (fun i => (2 * (N - 1 - i) + 1) * dg (s i)) N) := by
  have hAs : sp N (kM A) := fun i j z => by show kk (A i j) = 0; rw [hS i j z]; rfl
  match N, h1, hN with
  | 4, _, _ =>
    rcases nf4 hAs with ⟨l, q1, hs⟩ | ⟨p, q, r, t, q1, q2, q3, q4, hs⟩ | ⟨q, r, l, q1, q2, q3, hs⟩ | ⟨b, c, q1, q2, hs⟩ | ⟨b, l, q1, q2, hs⟩
    · refine core4 hA hAs (fun i j => mt_lt (fun c hc x hx => ?_) i j) (sp4 (Nat.le_refl _) (Nat.le_refl _) (Nat.le_refl _) (Nat.le_refl _)) hs (ck_F0 l q1) h
      simp at hc
      rcases hc with rfl | rfl | rfl | rfl <;> simp at hx <;> omega
    · refine core4 hA hAs (fun i j => mt_lt (fun c hc x hx => ?_) i j) (sp4 (Nat.le_refl _) (Nat.le_refl _) (Nat.le_refl _) (Nat.le_refl _)) hs (ck_F1 p q1 q q2 r q3 t q4) h
      simp at hc
      rcases hc with rfl | rfl | rfl | rfl <;> simp at hx <;> omega
    · refine core4 hA hAs (fun i j => mt_lt (fun c hc x hx => ?_) i j) (sp4 (Nat.le_refl _) (Nat.le_refl _) (Nat.le_refl _) (Nat.le_refl _)) hs (ck_F2 q q1 r q2 l q3) h
      have hm := Nat.mod_lt (l * l * l + (5 - r) * l * l + (5 - q) * l) (show 5 > 0 by decide)
      generalize (l * l * l + (5 - r) * l * l + (5 - q) * l) % 5 = y at *
      simp at hc
      rcases hc with rfl | rfl | rfl | rfl <;> simp at hx <;> omega
    · refine core4 hA hAs (fun i j => mt_lt (fun c hc x hx => ?_) i j) (sp4 (Nat.le_refl _) (Nat.le_refl _) (Nat.le_refl _) (Nat.le_refl _)) hs (ck_F3 b q1 c q2) h
      simp at hc
      rcases hc with rfl | rfl | rfl | rfl <;> simp at hx <;> omega
    · refine core4 hA hAs (fun i j => mt_lt (fun c hc x hx => ?_) i j) (sp4 (Nat.le_refl _) (Nat.le_refl _) (Nat.le_refl _) (Nat.le_refl _)) hs (ck_F4 b q1 l q2) h
      have hm := Nat.mod_lt (l * l + (5 - b) * l) (show 5 > 0 by decide)
      generalize (l * l + (5 - b) * l) % 5 = y at *
      simp at hc
      rcases hc with rfl | rfl | rfl | rfl <;> simp at hx <;> omega
  | 3, _, _ =>
    rcases nf3 hAs with ⟨l, q1, hs⟩ | ⟨p, q, r, q1, q2, q3, hs⟩ | ⟨b, l, q1, q2, hs⟩
    · refine core3 hA hAs (fun i j => mt_lt (fun c hc x hx => ?_) i j) (sp3 (Nat.le_refl _) (Nat.le_refl _) (Nat.le_refl _)) hs (ck_G0 l q1) h
      simp at hc
      rcases hc with rfl | rfl | rfl <;> simp at hx <;> omega
    · refine core3 hA hAs (fun i j => mt_lt (fun c hc x hx => ?_) i j) (sp3 (Nat.le_refl _) (Nat.le_refl _) (Nat.le_refl _)) hs (ck_G1 p q1 q q2 r q3) h
      simp at hc
      rcases hc with rfl | rfl | rfl <;> simp at hx <;> omega
    · refine core3 hA hAs (fun i j => mt_lt (fun c hc x hx => ?_) i j) (sp3 (Nat.le_refl _) (Nat.le_refl _) (Nat.le_refl _)) hs (ck_G2 b q1 l q2) h
      have hm := Nat.mod_lt (l * l + (5 - b) * l) (show 5 > 0 by decide)
      generalize (l * l + (5 - b) * l) % 5 = y at *
      simp at hc
      rcases hc with rfl | rfl | rfl <;> simp at hx <;> omega
  | 2, _, _ =>
    rcases nf2 hAs with ⟨l, q1, hs⟩ | ⟨p, q, q1, q2, hs⟩
    · refine core2 hA hAs (fun i j => mt_lt (fun c hc x hx => ?_) i j) (sp2 (Nat.le_refl _) (Nat.le_refl _)) hs (ck_H0 l q1) h
      simp at hc
      rcases hc with rfl | rfl <;> simp at hx <;> omega
    · refine core2 hA hAs (fun i j => mt_lt (fun c hc x hx => ?_) i j) (sp2 (Nat.le_refl _) (Nat.le_refl _)) hs (ck_H1 p q1 q q2) h
      simp at hc
      rcases hc with rfl | rfl <;> simp at hx <;> omega
  | 1, _, _ => exact core1 hA hAs h
