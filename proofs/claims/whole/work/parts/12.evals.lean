/-! evaluation of both sides' minors; polynomials of degree 4 by their five values -/
def Mw (A : Nat → Nat → Nat) (w : Fin 5) : Nat → Nat → Fin 5 := fun i j => (if i = j then w else 0) - kk (A i j)
theorem ev_lin (p q : Nat → Fin 5) (s w : Fin 5) : ev (fun k => p k + s * q k) w = ev p w + s * ev q w := by
  unfold ev; grind
theorem ev_px (p : Nat → Fin 5) (w : Fin 5) (h : p 4 = 0) : ev (px p) w = w * ev p w := by
  unfold ev
  show 0 + w * (p 0 + w * (p 1 + w * (p 2 + w * p 3))) = _
  rw [h]; grind
theorem ev_cong {p q : Nat → Fin 5} (w : Fin 5) (h : ∀ k, k < 5 → p k = q k) : ev p w = ev q w := by
  unfold ev
  rw [h 0 (by decide), h 1 (by decide), h 2 (by decide), h 3 (by decide), h 4 (by decide)]
theorem lapP_z (q : Nat → Nat → Fin 5) (C k : Nat) (h : ∀ i, q i k = 0) : ∀ i, (lapP q C i).1 k = 0 := by
  intro i
  induction i with
  | zero => rfl
  | succ i ih =>
    show (if C / 2 ^ i % 2 = 1 then (fun k => (lapP q C i).1 k + (lapP q C i).2 * q i k, - (lapP q C i).2) else lapP q C i).1 k = 0
    split
    · show (lapP q C i).1 k + (lapP q C i).2 * q i k = 0
      rw [ih, h i]; grind
    · exact ih
theorem dtp_hi (A : Nat → Nat → Nat) : ∀ f R C k, f < k → dtp A f R C k = 0 := by
  intro f
  induction f with
  | zero =>
    intro R C k hk
    show (if k = 0 then 1 else 0 : Fin 5) = 0
    rw [if_neg (by omega)]
  | succ f ih =>
    intro R C k hk
    refine lapP_z _ C k ?_ 4
    intro i
    show (if lo R = i then px (dtp A f (rs R) (C - 2 ^ i)) k else 0) - kk (A (lo R) i) * dtp A f (rs R) (C - 2 ^ i) k = 0
    rw [ih _ _ k (by omega)]
    obtain ⟨k', rfl⟩ : ∃ k', k = k' + 1 := ⟨k - 1, by omega⟩
    rw [show px (dtp A f (rs R) (C - 2 ^ i)) (k' + 1) = dtp A f (rs R) (C - 2 ^ i) k' from rfl, ih _ _ k' (by omega)]
    split <;> grind
theorem lap_ev (q : Nat → Nat → Fin 5) (C : Nat) (w : Fin 5) : ∀ i, ev (lapP q C i).1 w = (lapM (fun i => ev (q i) w) C i).1 ∧ (lapP q C i).2 = (lapM (fun i => ev (q i) w) C i).2 := by
  intro i
  induction i with
  | zero => exact ⟨by unfold ev; show (0 : Fin 5) + w * (0 + w * (0 + w * (0 + w * 0))) = 0; grind, rfl⟩
  | succ i ih =>
    obtain ⟨h1, h2⟩ := ih
    show ev (if C / 2 ^ i % 2 = 1 then (fun k => (lapP q C i).1 k + (lapP q C i).2 * q i k, - (lapP q C i).2) else lapP q C i).1 w = (if C / 2 ^ i % 2 = 1 then ((lapM (fun i => ev (q i) w) C i).1 + (lapM (fun i => ev (q i) w) C i).2 * ev (q i) w, - (lapM (fun i => ev (q i) w) C i).2) else lapM (fun i => ev (q i) w) C i).1 ∧ (if C / 2 ^ i % 2 = 1 then (fun k => (lapP q C i).1 k + (lapP q C i).2 * q i k, - (lapP q C i).2) else lapP q C i).2 = (if C / 2 ^ i % 2 = 1 then ((lapM (fun i => ev (q i) w) C i).1 + (lapM (fun i => ev (q i) w) C i).2 * ev (q i) w, - (lapM (fun i => ev (q i) w) C i).2) else lapM (fun i => ev (q i) w) C i).2
    split
    · refine ⟨?_, ?_⟩
      · show ev (fun k => (lapP q C i).1 k + (lapP q C i).2 * q i k) w = (lapM (fun i => ev (q i) w) C i).1 + (lapM (fun i => ev (q i) w) C i).2 * ev (q i) w
        rw [ev_lin, h1, h2]
      · show - (lapP q C i).2 = - (lapM (fun i => ev (q i) w) C i).2
        rw [h2]
    · exact ⟨h1, h2⟩
theorem dtp_ev (A : Nat → Nat → Nat) (w : Fin 5) : ∀ f R C, f ≤ 4 → ev (dtp A f R C) w = dtm (Mw A w) f R C := by
  intro f
  induction f with
  | zero =>
    intro R C _
    show ev (fun k => if k = 0 then 1 else 0) w = 1
    unfold ev
    show (1 : Fin 5) + w * (0 + w * (0 + w * (0 + w * 0))) = 1
    grind
  | succ f ih =>
    intro R C hf
    show ev (lapP _ C 4).1 w = (lapM _ C 4).1
    rw [(lap_ev _ C w 4).1]
    have : (fun i => ev ((fun i k => (if lo R = i then px (dtp A f (rs R) (C - 2 ^ i)) k else 0) - kk (A (lo R) i) * dtp A f (rs R) (C - 2 ^ i) k) i) w) = (fun i => Mw A w (lo R) i * dtm (Mw A w) f (rs R) (C - 2 ^ i)) := by
      funext i
      show ev (fun k => (if lo R = i then px (dtp A f (rs R) (C - 2 ^ i)) k else 0) - kk (A (lo R) i) * dtp A f (rs R) (C - 2 ^ i) k) w = ((if lo R = i then w else 0) - kk (A (lo R) i)) * dtm (Mw A w) f (rs R) (C - 2 ^ i)
      rw [← ih (rs R) (C - 2 ^ i) (by omega)]
      have h4 := dtp_hi A f (rs R) (C - 2 ^ i) 4 (by omega)
      generalize dtp A f (rs R) (C - 2 ^ i) = d at *
      split
      · have e1 : ev (fun k => px d k - kk (A (lo R) i) * d k) w = ev (px d) w + (- kk (A (lo R) i)) * ev d w := by
          rw [← ev_lin]
          refine ev_cong w (fun k _ => ?_)
          grind
        rw [e1, ev_px d w h4]
        grind
      · have e1 : ev (fun k => 0 - kk (A (lo R) i) * d k) w = ev (fun _ => 0) w + (- kk (A (lo R) i)) * ev d w := by
          rw [← ev_lin]
          refine ev_cong w (fun k _ => ?_)
          grind
        have e2 : ev (fun _ => 0) w = 0 := by
          unfold ev; grind
        rw [e1, e2]
        grind
    rw [this]
theorem tmS_hi (A : Nat → Nat → Nat) (code R : Nat) : ∀ i k, i < k → tmS A code R true i k = 0 := by
  intro i
  induction i with
  | zero =>
    intro k hk
    show (if k = 0 then _ else 0) = (0 : Fin 5)
    rw [if_neg (by omega)]
  | succ i ih =>
    intro k hk
    show (if R / 2 ^ i % 2 = 1 then fun k => tmS A code R true i k * (if true = true then - kk (A i (cd code i)) else kk (A i (cd code i))) + (if true = true ∧ i = cd code i then px (tmS A code R true i) k else 0) else tmS A code R true i) k = 0
    obtain ⟨k', rfl⟩ : ∃ k', k = k' + 1 := ⟨k - 1, by omega⟩
    split
    · show tmS A code R true i (k' + 1) * _ + (if true = true ∧ i = cd code i then tmS A code R true i k' else 0) = 0
      rw [ih _ (by omega), ih k' (by omega)]
      split <;> grind
    · exact ih _ (by omega)
theorem tmS_ev (A : Nat → Nat → Nat) (code R : Nat) (w : Fin 5) : ∀ i, i ≤ 4 → ev (tmS A code R true i) w = prd (Mw A w) code R i := by
  intro i
  induction i with
  | zero =>
    intro _
    show ev (fun k => if k = 0 then (if sws code R % 2 = 1 then 4 else 1) else 0) w = (if sws code R % 2 = 1 then 4 else 1)
    unfold ev
    show (if sws code R % 2 = 1 then 4 else 1 : Fin 5) + w * (0 + w * (0 + w * (0 + w * 0))) = _
    grind
  | succ i ih =>
    intro hi
    have h4 := tmS_hi A code R i 4 (by omega)
    have hh := ih (by omega)
    show ev (if R / 2 ^ i % 2 = 1 then fun k => tmS A code R true i k * (if true = true then - kk (A i (cd code i)) else kk (A i (cd code i))) + (if true = true ∧ i = cd code i then px (tmS A code R true i) k else 0) else tmS A code R true i) w = (if R / 2 ^ i % 2 = 1 then prd (Mw A w) code R i * ((if i = cd code i then w else 0) - kk (A i (cd code i))) else prd (Mw A w) code R i)
    rw [← hh]
    generalize tmS A code R true i = d at *
    split
    · by_cases e : i = cd code i
      · have e1 : ev (fun k => d k * (if true = true then - kk (A i (cd code i)) else kk (A i (cd code i))) + (if true = true ∧ i = cd code i then px d k else 0)) w = ev (px d) w + (- kk (A i (cd code i))) * ev d w := by
          rw [← ev_lin]
          refine ev_cong w (fun k _ => ?_)
          rw [if_pos rfl, if_pos ⟨rfl, e⟩]
          grind
        rw [e1, ev_px d w h4, if_pos e]
        grind
      · have e1 : ev (fun k => d k * (if true = true then - kk (A i (cd code i)) else kk (A i (cd code i))) + (if true = true ∧ i = cd code i then px d k else 0)) w = ev (fun _ => 0) w + (- kk (A i (cd code i))) * ev d w := by
          rw [← ev_lin]
          refine ev_cong w (fun k _ => ?_)
          rw [if_pos rfl, if_neg (fun z => e z.2)]
          grind
        have e2 : ev (fun _ => 0) w = 0 := by
          unfold ev; grind
        rw [e1, e2, if_neg e]
        grind
    · rfl
theorem tmS_f (A : Nat → Nat → Nat) (code R : Nat) : ∀ i, tmS A code R false i 0 = prd (fun i j => kk (A i j)) code R i ∧ ∀ k, 0 < k → tmS A code R false i k = 0 := by
  intro i
  induction i with
  | zero =>
    refine ⟨rfl, ?_⟩
    intro k hk
    show (if k = 0 then _ else 0) = (0 : Fin 5)
    rw [if_neg (by omega)]
  | succ i ih =>
    obtain ⟨h1, h2⟩ := ih
    have nf : ¬ (false = true ∧ i = cd code i) := fun z => by cases z.1
    refine ⟨?_, ?_⟩
    · show (if R / 2 ^ i % 2 = 1 then fun k => tmS A code R false i k * (if false = true then - kk (A i (cd code i)) else kk (A i (cd code i))) + (if false = true ∧ i = cd code i then px (tmS A code R false i) k else 0) else tmS A code R false i) 0 = (if R / 2 ^ i % 2 = 1 then prd (fun i j => kk (A i j)) code R i * kk (A i (cd code i)) else prd (fun i j => kk (A i j)) code R i)
      split
      · show tmS A code R false i 0 * (if false = true then - kk (A i (cd code i)) else kk (A i (cd code i))) + (if false = true ∧ i = cd code i then px (tmS A code R false i) 0 else 0) = _
        rw [if_neg (show ¬ false = true by decide), if_neg nf, h1]
        grind
      · exact h1
    · intro k hk
      show (if R / 2 ^ i % 2 = 1 then fun k => tmS A code R false i k * (if false = true then - kk (A i (cd code i)) else kk (A i (cd code i))) + (if false = true ∧ i = cd code i then px (tmS A code R false i) k else 0) else tmS A code R false i) k = 0
      split
      · show tmS A code R false i k * (if false = true then - kk (A i (cd code i)) else kk (A i (cd code i))) + (if false = true ∧ i = cd code i then px (tmS A code R false i) k else 0) = _
        rw [if_neg (show ¬ false = true by decide), if_neg nf, h2 k hk]
        grind
      · exact h2 k hk
theorem mnS_ev (A : Nat → Nat → Nat) (R C : Nat) (w : Fin 5) : ∀ n, ev (mnS A R C true n) w = lbs (Mw A w) R C n := by
  intro n
  induction n with
  | zero => unfold ev; show (0 : Fin 5) + w * (0 + w * (0 + w * (0 + w * 0))) = 0; grind
  | succ n ih =>
    show ev (if wyl n R C 4 0 = true then fun k => mnS A R C true n k + tmS A n R true 4 k else mnS A R C true n) w = (if wyl n R C 4 0 = true then lbs (Mw A w) R C n + prd (Mw A w) n R 4 else lbs (Mw A w) R C n)
    split
    · rw [← ih, ← tmS_ev A n R w 4 (by omega)]
      have := ev_lin (mnS A R C true n) (tmS A n R true 4) 1 w
      rw [← (show ev (fun k => mnS A R C true n k + 1 * tmS A n R true 4 k) w = ev (fun k => mnS A R C true n k + tmS A n R true 4 k) w from ev_cong w (fun k _ => by grind)), this]
      grind
    · exact ih
theorem mnS_f (A : Nat → Nat → Nat) (R C : Nat) : ∀ n, mnS A R C false n 0 = lbs (fun i j => kk (A i j)) R C n ∧ ∀ k, 0 < k → mnS A R C false n k = 0 := by
  intro n
  induction n with
  | zero => exact ⟨rfl, fun _ _ => rfl⟩
  | succ n ih =>
    obtain ⟨h1, h2⟩ := ih
    refine ⟨?_, ?_⟩
    · show (if wyl n R C 4 0 = true then fun k => mnS A R C false n k + tmS A n R false 4 k else mnS A R C false n) 0 = (if wyl n R C 4 0 = true then lbs (fun i j => kk (A i j)) R C n + prd (fun i j => kk (A i j)) n R 4 else lbs (fun i j => kk (A i j)) R C n)
      split
      · rw [← h1, ← (tmS_f A n R 4).1]
      · exact h1
    · intro k hk
      show (if wyl n R C 4 0 = true then fun k => mnS A R C false n k + tmS A n R false 4 k else mnS A R C false n) k = 0
      split
      · show mnS A R C false n k + tmS A n R false 4 k = 0
        rw [h2 k hk, (tmS_f A n R 4).2 k hk]; rfl
      · exact h2 k hk
theorem ip5 : ∀ p : Fin 5, ∀ q : Fin 5, ∀ r : Fin 5, ∀ s : Fin 5, ∀ t : Fin 5, (∀ w : Fin 5, p + w * (q + w * (r + w * (s + w * t))) = 0) → p = 0 ∧ q = 0 ∧ r = 0 ∧ s = 0 ∧ t = 0 := by decide +kernel
theorem ev_inj {p q : Nat → Fin 5} (h : ∀ w, ev p w = ev q w) : ∀ k, k < 5 → p k = q k := by
  have := ip5 (p 0 - q 0) (p 1 - q 1) (p 2 - q 2) (p 3 - q 3) (p 4 - q 4) (fun w => by
    have := h w
    unfold ev at this
    grind)
  obtain ⟨h0, h1, h2, h3, h4⟩ := this
  intro k hk
  match k, hk with
  | 0, _ => grind
  | 1, _ => grind
  | 2, _ => grind
  | 3, _ => grind
  | 4, _ => grind
theorem mn_dt (A : Nat → Nat → Nat) {R C : Nat} (hR : R < 16) (hC : C < 16) (h : pc R = pc C) : ∀ k, k < 5 → mnS A R C true 256 k = dtp A (pc R) R C k := by
  refine ev_inj (fun w => ?_)
  rw [mnS_ev, dtp_ev _ _ _ _ _ (pc4 R hR)]
  exact lb_all _ R hR C hC h
theorem mn_df (A : Nat → Nat → Nat) {R C : Nat} (hR : R < 16) (hC : C < 16) (h : pc R = pc C) : mnS A R C false 256 0 = dtm (fun i j => kk (A i j)) (pc R) R C := by
  rw [(mnS_f A R C 256).1]
  exact lb_all _ R hR C hC h
