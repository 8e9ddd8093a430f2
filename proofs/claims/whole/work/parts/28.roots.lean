/-! Taylor coefficients: where a divisor has a root, its last factor has it -/
def ty (p : Nat → Fin 5) (w : Fin 5) : Nat → Fin 5
  | 0 => p 0 + w * (p 1 + w * (p 2 + w * (p 3 + w * p 4)))
  | 1 => p 1 + w * (2 * p 2 + w * (3 * p 3 + w * (4 * p 4)))
  | 2 => p 2 + w * (3 * p 3 + w * p 4)
  | 3 => p 3 + w * (4 * p 4)
  | 4 => p 4
  | _ + 5 => 0
theorem ty_cong {p q : Nat → Fin 5} (w : Fin 5) (h : ∀ k, k < 5 → p k = q k) : ∀ j, ty p w j = ty q w j := by
  have h0 := h 0 (by decide); have h1 := h 1 (by decide); have h2 := h 2 (by decide); have h3 := h 3 (by decide); have h4 := h 4 (by decide)
  intro j
  match j with
  | 0 => simp only [ty, h0, h1, h2, h3, h4]
  | 1 => simp only [ty, h1, h2, h3, h4]
  | 2 => simp only [ty, h2, h3, h4]
  | 3 => simp only [ty, h3, h4]
  | 4 => simp only [ty, h4]
  | _ + 5 => rfl
theorem ty_nz {p : Nat → Fin 5} (w : Fin 5) (h : ∀ j, j < 5 → ty p w j = 0) : ∀ k, k < 5 → p k = 0 := by
  have h0 := h 0 (by decide); have h1 := h 1 (by decide); have h2 := h 2 (by decide); have h3 := h 3 (by decide); have h4 := h 4 (by decide)
  simp only [ty] at h0 h1 h2 h3 h4
  have e3 : p 3 = 0 := by rw [h4] at h3; grind
  have e2 : p 2 = 0 := by rw [h4, e3] at h2; grind
  have e1 : p 1 = 0 := by rw [h4, e3, e2] at h1; grind
  have e0 : p 0 = 0 := by rw [h4, e3, e2, e1] at h0; grind
  exact k5 e0 e1 e2 e3 h4
theorem ty_cv (f h : Nat → Fin 5) (w : Fin 5) : ∀ a, a < 5 → (∀ i, a < i → i < 5 → f i = 0) → (∀ j, 4 - a < j → j < 5 → h j = 0) →
    ty (cv f h) w 0 = ty f w 0 * ty h w 0 ∧ ty (cv f h) w 1 = ty f w 0 * ty h w 1 + ty f w 1 * ty h w 0 ∧
    ty (cv f h) w 2 = ty f w 0 * ty h w 2 + ty f w 1 * ty h w 1 + ty f w 2 * ty h w 0 ∧
    ty (cv f h) w 3 = ty f w 0 * ty h w 3 + ty f w 1 * ty h w 2 + ty f w 2 * ty h w 1 + ty f w 3 * ty h w 0 ∧
    ty (cv f h) w 4 = ty f w 0 * ty h w 4 + ty f w 1 * ty h w 3 + ty f w 2 * ty h w 2 + ty f w 3 * ty h w 1 + ty f w 4 * ty h w 0 := by
  refine k5 ?_ ?_ ?_ ?_ ?_
  all_goals (intro hf hh; refine ⟨?_, ?_, ?_, ?_, ?_⟩)
  all_goals (simp [ty, cv, hf, hh] <;> grind)
theorem ty_mul {g p u : Nat} (hg : g < 3125) (h : mlt g p u) (w : Fin 5) : ∀ m, m < 5 → (∀ i, i < m → ty (pd g) w i = 0) → ty (pd p) w m = ty (pd g) w m * ty (pd u) w 0 := by
  have h4 := dg_4 g
  obtain ⟨t0, t1, t2, t3, t4⟩ := ty_cv (pd g) (pd u) w (dg g) (by omega) (fun i hi _ => pd_gt hg hi) (fun j hj _ => pd_hi h.1 (by omega))
  have hc := ty_cong w (fun k hk => h.2 k hk)
  refine k5 ?_ ?_ ?_ ?_ ?_
  · intro _; rw [hc, t0]
  · intro z
    have z0 := z 0 (by decide)
    rw [hc, t1, z0]; grind
  · intro z
    have z0 := z 0 (by decide); have z1 := z 1 (by decide)
    rw [hc, t2, z0, z1]; grind
  · intro z
    have z0 := z 0 (by decide); have z1 := z 1 (by decide); have z2 := z 2 (by decide)
    rw [hc, t3, z0, z1, z2]; grind
  · intro z
    have z0 := z 0 (by decide); have z1 := z 1 (by decide); have z2 := z 2 (by decide); have z3 := z 3 (by decide)
    rw [hc, t4, z0, z1, z2, z3]; grind
theorem ty_der {p : Nat} (hp : p < 3125) (w : Fin 5) : ∀ j, j < 4 → ty (pd (der p)) w j = kk (j + 1) * ty (pd p) w (j + 1) := by
  have d0 := der_pd p 0 (by decide); have d1 := der_pd p 1 (by decide); have d2 := der_pd p 2 (by decide); have d3 := der_pd p 3 (by decide); have d4 := der_pd p 4 (by decide)
  have z5 : pd p (4 + 1) = 0 := pd_hi (j := 5) hp (by decide)
  rw [z5] at d4
  have c1 : kk (0 + 1) = 1 := rfl
  have c2 : kk (1 + 1) = 2 := rfl
  have c3 : kk (2 + 1) = 3 := rfl
  have c4 : kk (3 + 1) = 4 := rfl
  rw [c1] at d0; rw [c2] at d1; rw [c3] at d2; rw [c4] at d3
  refine k4 ?_ ?_ ?_ ?_
  · simp only [ty, c1, d0, d1, d2, d3, d4]; grind
  · simp only [ty, c2, d1, d2, d3, d4]; grind
  · simp only [ty, c3, d2, d3, d4]; grind
  · simp only [ty, c4, d3, d4]; grind
theorem ev_mul {g p u : Nat} (hg : g < 3125) (h : mlt g p u) (w : Fin 5) : ev (pd p) w = ev (pd g) w * ev (pd u) w :=
  ty_mul hg h w 0 (by decide) (fun i hi => absurd hi (by omega))
theorem fac_root {A : Nat → Nat → Nat} {N : Nat} {d s : Nat → Nat} (hN : N ≤ 4) (h : fac A N d s) (w : Fin 5) : ∀ k, k < N → (ev (pd (s k)) w = 0 ↔ ev (pd (d (k + 1))) w = 0) := by
  intro k hk
  have g1 := h.1 k (by omega)
  have g2 := h.1 (k + 1) (by omega)
  have hm := h.2 k hk
  have e1 := ev_mul g1.1 hm w
  refine ⟨fun z => by rw [e1, z]; grind, fun z => ?_⟩
  refine Classical.byContradiction (fun hs => ?_)
  obtain ⟨n1, n2⟩ := gD_ne hN (by omega) g1
  have hI := mul_I g1.1 n1
  have hQ := mulQ g1.1 n1
  have p1 := (g1.2.2 _ hI).mp ⟨1, mlt_1 _⟩
  have p2 := mn_step hI A hN p1
  have p3 := dr_P hI A hN p1
  obtain ⟨_, u, hu⟩ := (g2.2.2 _ hQ).mpr (fun R C hR hC e1 e2 => ⟨p2 R C hR hC e1 e2, p3 R C hR hC e1 e2⟩)
  have gz : ev (pd (d k)) w = 0 := by
    refine Classical.byContradiction (fun hg => ?_)
    exact f5_nz _ _ hg hs (by rw [← e1]; exact z)
  have ex : ∃ j, ty (pd (d k)) w j ≠ 0 := by
    refine Classical.byContradiction (fun hn => ?_)
    have hz : ∀ j, ty (pd (d k)) w j = 0 := fun j => Classical.byContradiction (fun q => hn ⟨j, q⟩)
    exact n1 (pd_inj g1.1 (by decide) (fun j hj => by rw [ty_nz w (fun j _ => hz j) j hj, pd_0]))
  obtain ⟨m, hm1, hm2⟩ := pk_least _ ex
  have hm3 : ∀ i, i < m → ty (pd (d k)) w i = 0 := fun i hi => Classical.byContradiction (fun q => hm2 i hi q)
  have m0 : m ≠ 0 := by
    intro q
    subst q
    exact hm1 gz
  have m5 : m < 5 := by
    refine Nat.lt_of_not_le (fun q => hm1 ?_)
    obtain ⟨m', rfl⟩ : ∃ m', m = m' + 5 := ⟨m - 5, by omega⟩
    rfl
  obtain ⟨m', rfl⟩ : ∃ m', m = m' + 1 := ⟨m - 1, by omega⟩
  have t1 := ty_mul g1.1 hm w (m' + 1) m5 hm3
  have t2 := ty_der g2.1 w m' (by omega)
  have t3 := ty_mul g1.1 hu w m' (by omega) (fun i hi => hm3 i (by omega))
  rw [hm3 m' (by omega)] at t3
  rw [t3, t1] at t2
  have n3 : kk (m' + 1) ≠ 0 := by
    match m', (show m' < 4 by omega) with
    | 0, _ => decide
    | 1, _ => decide
    | 2, _ => decide
    | 3, _ => decide
  have t4 : ty (pd (s k)) w 0 ≠ 0 := hs
  exact f5_nz _ _ n3 (f5_nz _ _ hm1 t4) (by rw [← t2]; grind)
theorem I_ev (w : Fin 5) : Idl (fun p => ev (pd p) w = 0) := by
  refine ⟨?_, ?_, ?_⟩
  · show ev (pd 0) w = 0
    rw [ev_cong w (q := fun _ => 0) (fun k _ => pd_0 k)]
    unfold ev; grind
  · intro p q s _ _ _ h1 h2
    show ev (pd (pm p s q)) w = 0
    rw [ev_cong w (q := fun k => pd p k + kk s * pd q k) (fun k hk => pd_pm _ _ _ _ hk), ev_lin, h1, h2]; grind
  · intro p hp h
    show ev (pd (5 * p)) w = 0
    rw [ev_cong w (q := px (pd p)) (fun k _ => pd_5 p k), ev_px _ w (pd_hi (j := 4) (by simpa using hp) (by decide)), h]; grind
/-- how many factors have the root w -/
def cw (s : Nat → Nat) (w : Fin 5) (n : Nat) : Nat := zs (fun k => if ev (pd (s k)) w = 0 then 1 else 0) n
theorem cw_le (s : Nat → Nat) (w : Fin 5) (n : Nat) : cw s w n ≤ n := zs_le1 (fun t => by split <;> decide) n
/-- the largest k with a k-minor that is not 0 at w -/
theorem fac_rank {A : Nat → Nat → Nat} {N : Nat} {d s : Nat → Nat} (hN : N ≤ 4) (h : fac A N d s) (w : Fin 5) (r : Nat) (hr : r ≤ N)
    (h1 : r = 0 ∨ ∃ R C, R < 2 ^ N ∧ C < 2 ^ N ∧ pc R = r ∧ pc C = r ∧ ev (dtp A r R C) w ≠ 0)
    (h2 : ∀ R C, R < 2 ^ N → C < 2 ^ N → pc R = pc C → ev (dtp A (pc R) R C) w ≠ 0 → pc R ≤ r) : cw s w N = N - r := by
  have hev : ∀ R C, ev (pd (mnum A R C)) w = ev (dtp A (pc R) R C) w := fun R C => ev_cong w (fun k hk => mnum_pd A R C k hk)
  have nz : ∀ k, k ≤ N → r < k → ev (pd (d k)) w = 0 := by
    intro k hk hrk
    refine ((h.1 k hk).2.2 _ (I_ev w)).mpr (fun R C hR hC e1 e2 => ?_)
    show ev (pd (mnum A R C)) w = 0
    refine Classical.byContradiction (fun q => ?_)
    rw [hev] at q
    have := h2 R C hR hC (by omega) q
    omega
  have hrn : ev (pd (d r)) w ≠ 0 := by
    rcases h1 with z | ⟨R, C, hR, hC, e1, e2, q⟩
    · subst z
      have : d 0 = 1 := gD_uniq (h.1 0 (Nat.zero_le _)) (gD_0 A hN)
      rw [this, ev_cong w (q := fun k => if k = 0 then 1 else 0) (fun k _ => pd_1 k)]
      unfold ev
      show (1 : Fin 5) + w * (0 + w * (0 + w * (0 + w * 0))) ≠ 0
      have : (1 : Fin 5) + w * (0 + w * (0 + w * (0 + w * 0))) = 1 := by grind
      rw [this]; decide
    · intro z
      have := ((h.1 r hr).2.2 _ (I_ev w)).mp z R C hR hC e1 e2
      have e3 : ev (pd (mnum A R C)) w = 0 := this
      rw [hev, e1] at e3
      exact q e3
  have down : ∀ t, t ≤ r → ev (pd (d (r - t))) w ≠ 0 := by
    intro t
    induction t with
    | zero => intro _; exact hrn
    | succ t ih =>
      intro ht z
      refine ih (by omega) ?_
      have hm := h.2 (r - (t + 1)) (by omega)
      rw [show r - (t + 1) + 1 = r - t by omega] at hm
      rw [ev_mul (h.1 _ (by omega)).1 hm w, z]; grind
  have nn : ∀ k, k ≤ r → ev (pd (d k)) w ≠ 0 := by
    intro k hk
    have := down (r - k) (by omega)
    rwa [show r - (r - k) = k by omega] at this
  have main : ∀ n, n ≤ N → cw s w n = n - r := by
    intro n
    induction n with
    | zero => intro _; show 0 = 0 - r; omega
    | succ n ih =>
      intro hn
      show cw s w n + (if ev (pd (s n)) w = 0 then 1 else 0) = n + 1 - r
      rw [ih (by omega)]
      have hro := fac_root hN h w n (by omega)
      by_cases e : n < r
      · rw [if_neg (fun z => nn (n + 1) (by omega) (hro.mp z))]; omega
      · rw [if_pos (hro.mpr (nz (n + 1) (by omega) (by omega)))]; omega
  exact main N (Nat.le_refl _)
theorem lapM_c {h h' : Nat → Fin 5} {C : Nat} : ∀ n, (∀ i, i < n → C / 2 ^ i % 2 = 1 → h i = h' i) → lapM h C n = lapM h' C n := by
  intro n
  induction n with
  | zero => intro _; rfl
  | succ n ih =>
    intro e
    show (if C / 2 ^ n % 2 = 1 then ((lapM h C n).1 + (lapM h C n).2 * h n, - (lapM h C n).2) else lapM h C n) = (if C / 2 ^ n % 2 = 1 then ((lapM h' C n).1 + (lapM h' C n).2 * h' n, - (lapM h' C n).2) else lapM h' C n)
    rw [ih (fun i hi => e i (by omega))]
    by_cases z : C / 2 ^ n % 2 = 1
    · rw [if_pos z, if_pos z, e n (by omega) z]
    · rw [if_neg z, if_neg z]
theorem dtm_c {N : Nat} (hN : N ≤ 4) {M M' : Nat → Nat → Fin 5} (h : ∀ i j, i < N → j < N → M i j = M' i j) : ∀ f R C, R < 2 ^ N → C < 2 ^ N → pc R = f → pc C = f → dtm M f R C = dtm M' f R C := by
  intro f
  induction f with
  | zero => intro R C _ _ _ _; rfl
  | succ f ih =>
    intro R C hR hC e1 e2
    obtain ⟨w1, w2⟩ := pw2 N (by omega)
    have hR0 : 0 < R := by
      refine Nat.pos_of_ne_zero (fun z => ?_)
      subst z
      have : pc 0 = 0 := rfl
      omega
    obtain ⟨f1, f2, f3, f4, f5, f6⟩ := set_facts R (by omega) hR0
    have hlo := set_lo N (by omega) R hR hR0
    show (lapM _ C 4).1 = (lapM _ C 4).1
    rw [lapM_c 4 (fun i hi hb => ?_)]
    have hiN := bit_lt N (by omega) C hC i hi hb
    obtain ⟨g1, _⟩ := (set_bit C (by omega) i hi).1 hb
    rw [h _ _ hlo hiN, ih (rs R) (C - 2 ^ i) (set_rs2 N (by omega) R hR) (set_bit2 N (by omega) C hC i hi hb) (by omega) (by omega)]
/-- the reference's minors of A - w -/
theorem shift_dt {N : Nat} (hN : N ≤ 4) {A B : Nat → Nat → Nat} {w : Nat} (hB : ∀ i j, i < N → j < N → kk (B i j) = kk (A i j) - (if i = j then kk w else 0)) {R C : Nat} (hR : R < 2 ^ N) (hC : C < 2 ^ N) (e : pc R = pc C) :
    (dtm (fun i j => kk (B i j)) (pc R) R C = 0 ↔ ev (dtp A (pc R) R C) (kk w) = 0) := by
  obtain ⟨w1, w2⟩ := pw2 N (by omega)
  have h4 := pc4 R (by omega)
  rw [dtp_ev A (kk w) (pc R) R C h4]
  have : dtm (fun i j => kk (B i j)) (pc R) R C = dtm (fun i j => 4 * Mw A (kk w) i j) (pc R) R C := by
    refine dtm_c hN (fun i j hi hj => ?_) (pc R) R C hR hC rfl e.symm
    rw [hB i j hi hj]
    show _ = 4 * ((if i = j then kk w else 0) - kk (A i j))
    split <;> grind
  rw [this, dtm_s]
  exact spw_z h4 _
