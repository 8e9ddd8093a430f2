/-! powers repeat within 624 -/
theorem pig : ∀ (n : Nat) (f : Nat → Nat), (∀ i, i ≤ n → f i < n) → ∃ i j, i < j ∧ j ≤ n ∧ f i = f j := by
  intro n
  induction n with
  | zero => intro f h; exact absurd (h 0 (Nat.le_refl _)) (by omega)
  | succ n ih =>
    intro f h
    by_cases e : ∃ i, i < n + 1 ∧ f i = f (n + 1)
    · obtain ⟨i, hi, e⟩ := e
      exact ⟨i, n + 1, hi, Nat.le_refl _, e⟩
    · have ne : ∀ i, i < n + 1 → f i ≠ f (n + 1) := fun i hi z => e ⟨i, hi, z⟩
      obtain ⟨i, j, hij, hj, q⟩ := ih (fun i => if f i = n then f (n + 1) else f i) (fun i hi => by
        show (if f i = n then f (n + 1) else f i) < n
        have b1 := h i (by omega)
        have b2 := h (n + 1) (Nat.le_refl _)
        have b3 := ne i (by omega)
        split <;> omega)
      refine ⟨i, j, hij, by omega, ?_⟩
      have q' : (if f i = n then f (n + 1) else f i) = (if f j = n then f (n + 1) else f j) := q
      have b3 := ne i (by omega)
      have b4 := ne j (by omega)
      by_cases e1 : f i = n
      · by_cases e2 : f j = n
        · omega
        · rw [if_pos e1, if_neg e2] at q'; omega
      · by_cases e2 : f j = n
        · rw [if_neg e1, if_pos e2] at q'; omega
        · rw [if_neg e1, if_neg e2] at q'; exact q'
def fP (N : Nat) (a : Nat → Nat → Fin 5) : Nat → (Nat → Nat → Fin 5)
  | 0 => fun i k => if i = k then 1 else 0
  | j + 1 => fM N (fP N a j) a
/-- equal on the first N rows and columns -/
def fEq (N : Nat) (X Y : Nat → Nat → Fin 5) : Prop := ∀ i k, i < N → k < N → X i k = Y i k
theorem fs_lin (f h : Nat → Fin 5) (s : Fin 5) (n : Nat) : fs (fun t => f t + s * h t) n = fs f n + s * fs h n := by
  induction n with
  | zero => show (0 : Fin 5) = 0 + s * 0; grind
  | succ n ih => show fs (fun t => f t + s * h t) n + (f n + s * h n) = fs f n + f n + s * (fs h n + h n); rw [ih]; grind
theorem fs_cong {f h : Nat → Fin 5} : ∀ n : Nat, (∀ t, t < n → f t = h t) → fs f n = fs h n := by
  intro n
  induction n with
  | zero => intro _; rfl
  | succ n ih =>
    intro e
    show fs f n + f n = fs h n + h n
    rw [ih (fun t ht => e t (by omega)), e n (by omega)]
theorem fM_lin (N : Nat) (X Y B : Nat → Nat → Fin 5) (s : Fin 5) (i k : Nat) : fM N (fun i k => X i k + s * Y i k) B i k = fM N X B i k + s * fM N Y B i k := by
  unfold fM
  rw [← fs_lin]
  refine fs_cong N (fun t _ => ?_)
  grind
theorem fM_eqL {N : Nat} {X Y : Nat → Nat → Fin 5} (B : Nat → Nat → Fin 5) (h : fEq N X Y) {i k : Nat} (hi : i < N) : fM N X B i k = fM N Y B i k := by
  unfold fM
  refine fs_cong N (fun t ht => ?_)
  rw [h i t hi ht]
theorem fM_eqR {N : Nat} {X Y : Nat → Nat → Fin 5} (B : Nat → Nat → Fin 5) (h : fEq N X Y) {i k : Nat} (hk : k < N) : fM N B X i k = fM N B Y i k := by
  unfold fM
  refine fs_cong N (fun t ht => ?_)
  rw [h t k ht hk]
theorem fM_assoc {N : Nat} (hN : N ≤ 4) (X Y Z : Nat → Nat → Fin 5) (i k : Nat) : fM N (fM N X Y) Z i k = fM N X (fM N Y Z) i k := by
  match N, hN with
  | 0, _ => rfl
  | 1, _ => simp only [fM, fs]; grind
  | 2, _ => simp only [fM, fs]; grind
  | 3, _ => simp only [fM, fs]; grind
  | 4, _ => simp only [fM, fs]; grind
theorem fM_id {N : Nat} (hN : N ≤ 4) (X : Nat → Nat → Fin 5) (s : Fin 5) : fEq N (fM N X (fun i k => if i = k then s else 0)) (fun i k => s * X i k) := by
  intro i k hi hk
  match N, hN, k, hk with
  | 1, _, 0, _ => simp [fM, fs]; grind
  | 2, _, 0, _ => simp [fM, fs]; grind
  | 2, _, 1, _ => simp [fM, fs]; grind
  | 3, _, 0, _ => simp [fM, fs]; grind
  | 3, _, 1, _ => simp [fM, fs]; grind
  | 3, _, 2, _ => simp [fM, fs]; grind
  | 4, _, 0, _ => simp [fM, fs]; grind
  | 4, _, 1, _ => simp [fM, fs]; grind
  | 4, _, 2, _ => simp [fM, fs]; grind
  | 4, _, 3, _ => simp [fM, fs]; grind
theorem fE_1 (N : Nat) (q : Nat → Fin 5) (a : Nat → Nat → Fin 5) : fE N q a 1 = fun i k => q 4 * fP N a 0 i k := by
  funext i k
  have hz : fM N (fE N q a 0) a i k = 0 := by
    show fs (fun t => (0 : Fin 5) * a t k) N = 0
    have : ∀ n, fs (fun t => (0 : Fin 5) * a t k) n = 0 := by
      intro n
      induction n with
      | zero => rfl
      | succ n ih => show fs (fun t => (0 : Fin 5) * a t k) n + 0 * a n k = 0; rw [ih]; grind
    exact this N
  show (if i = k then fM N (fE N q a 0) a i k + q 4 else fM N (fE N q a 0) a i k) = q 4 * (if i = k then 1 else 0)
  rw [hz]
  split <;> grind
theorem fE_st (N : Nat) (q : Nat → Fin 5) (a : Nat → Nat → Fin 5) (s : Nat) : fE N q a (s + 1) = fun i k => fM N (fE N q a s) a i k + q (4 - s) * fP N a 0 i k := by
  funext i k
  show (if i = k then fM N (fE N q a s) a i k + q (4 - s) else fM N (fE N q a s) a i k) = fM N (fE N q a s) a i k + q (4 - s) * (if i = k then 1 else 0)
  split <;> grind
theorem fE_5 (N : Nat) (q : Nat → Fin 5) (a : Nat → Nat → Fin 5) (i k : Nat) : fE N q a 5 i k = q 0 * fP N a 0 i k + q 1 * fP N a 1 i k + q 2 * fP N a 2 i k + q 3 * fP N a 3 i k + q 4 * fP N a 4 i k := by
  have s2 : fE N q a 2 = fun i k => q 4 * fP N a 1 i k + q 3 * fP N a 0 i k := by
    rw [fE_st, fE_1]
    funext i k
    rw [fM_s]; rfl
  have s3 : fE N q a 3 = fun i k => q 4 * fP N a 2 i k + q 3 * fP N a 1 i k + q 2 * fP N a 0 i k := by
    rw [fE_st, s2]
    funext i k
    rw [fM_lin N (fun i k => q 4 * fP N a 1 i k) (fP N a 0) a (q 3), fM_s]; rfl
  have s4 : fE N q a 4 = fun i k => q 4 * fP N a 3 i k + q 3 * fP N a 2 i k + q 2 * fP N a 1 i k + q 1 * fP N a 0 i k := by
    rw [fE_st, s3]
    funext i k
    rw [fM_lin N (fun i k => q 4 * fP N a 2 i k + q 3 * fP N a 1 i k) (fP N a 0) a (q 2), fM_lin N (fun i k => q 4 * fP N a 2 i k) (fP N a 1) a (q 3), fM_s]; rfl
  rw [fE_st, s4]
  dsimp only
  rw [fM_lin N (fun i k => q 4 * fP N a 3 i k + q 3 * fP N a 2 i k + q 2 * fP N a 1 i k) (fP N a 0) a (q 1), fM_lin N (fun i k => q 4 * fP N a 3 i k + q 3 * fP N a 2 i k) (fP N a 1) a (q 2), fM_lin N (fun i k => q 4 * fP N a 3 i k) (fP N a 2) a (q 3), fM_s]
  show q 4 * fP N a 4 i k + q 3 * fP N a 3 i k + q 2 * fP N a 2 i k + q 1 * fP N a 1 i k + q 0 * fP N a 0 i k = _
  grind
/-- Cayley and Hamilton, up to four rows -/
theorem cay (A : Nat → Nat → Nat) {N : Nat} (h1 : 1 ≤ N) (h4 : N ≤ 4) {i k : Nat} (hi : i < N) (hk : k < N) :
    chp A N 0 * fP N (fun i j => kk (A i j)) 0 i k + chp A N 1 * fP N (fun i j => kk (A i j)) 1 i k + chp A N 2 * fP N (fun i j => kk (A i j)) 2 i k + chp A N 3 * fP N (fun i j => kk (A i j)) 3 i k + chp A N 4 * fP N (fun i j => kk (A i j)) 4 i k = 0 := by
  let q : Nat → Fin 5 := fun k => if k < 4 then chp A N (k + 1) else 0
  have hq : ∀ k, k < 4 → q k = chp A N (k + 1) := fun k hk => if_pos hk
  have hq4 : q 4 = 0 := if_neg (by decide)
  have e1 : fM N (fE N q (fun i j => kk (A i j)) 5) (fun i j => kk (A i j)) i k = spw 4 (N - 1) * (if i = k then dtA A N else 0) := by
    rw [fM_eqL _ (Y := fun i j => spw 4 (N - 1) * adj (fun i j => kk (A i j)) N i j) (fun i j hi hj => aj_all A q h1 h4 hq hq4 hi hj) hi, fM_s, am_all _ h1 h4 hi hk]
  have e2 : fE N q (fun i j => kk (A i j)) 5 = fun i k => q 0 * fP N (fun i j => kk (A i j)) 0 i k + q 1 * fP N (fun i j => kk (A i j)) 1 i k + q 2 * fP N (fun i j => kk (A i j)) 2 i k + q 3 * fP N (fun i j => kk (A i j)) 3 i k + q 4 * fP N (fun i j => kk (A i j)) 4 i k := by
    funext i k; exact fE_5 N q _ i k
  generalize ha : (fun i j => kk (A i j)) = a at *
  rw [e2, fM_lin N (fun i k => q 0 * fP N a 0 i k + q 1 * fP N a 1 i k + q 2 * fP N a 2 i k + q 3 * fP N a 3 i k) (fP N a 4) a (q 4), fM_lin N (fun i k => q 0 * fP N a 0 i k + q 1 * fP N a 1 i k + q 2 * fP N a 2 i k) (fP N a 3) a (q 3), fM_lin N (fun i k => q 0 * fP N a 0 i k + q 1 * fP N a 1 i k) (fP N a 2) a (q 2), fM_lin N (fun i k => q 0 * fP N a 0 i k) (fP N a 1) a (q 1), fM_s, hq4, hq 0 (by decide), hq 1 (by decide), hq 2 (by decide), hq 3 (by decide)] at e1
  have e3 : fM N (fP N a 0) a i k = fP N a 1 i k := rfl
  have e4 : fM N (fP N a 1) a i k = fP N a 2 i k := rfl
  have e5 : fM N (fP N a 2) a i k = fP N a 3 i k := rfl
  have e6 : fM N (fP N a 3) a i k = fP N a 4 i k := rfl
  rw [e3, e4, e5, e6] at e1
  have e7 : chp A N 0 * fP N a 0 i k = - (spw 4 (N - 1) * (if i = k then dtA A N else 0)) := by
    rw [ch_0 A h4]
    have hs : spw 4 N = - spw 4 (N - 1) := by
      match N, h1, h4 with
      | 1, _, _ => decide
      | 2, _, _ => decide
      | 3, _, _ => decide
      | 4, _, _ => decide
    rw [hs]
    show - spw 4 (N - 1) * dtA A N * (if i = k then 1 else 0) = _
    split <;> grind
  rw [e7]
  grind
theorem cay4 (A : Nat → Nat → Nat) {N : Nat} (h1 : 1 ≤ N) (h4 : N ≤ 4) : ∃ e0 e1 e2 e3 : Fin 5, ∀ i k, i < N → k < N →
    fP N (fun i j => kk (A i j)) 4 i k = e0 * fP N (fun i j => kk (A i j)) 0 i k + e1 * fP N (fun i j => kk (A i j)) 1 i k + e2 * fP N (fun i j => kk (A i j)) 2 i k + e3 * fP N (fun i j => kk (A i j)) 3 i k := by
  have hc := fun i k hi hk => cay A h1 h4 (i := i) (k := k) hi hk
  have hz : ∀ k, N < k → chp A N k = 0 := fun k hk => dtp_hi A N _ _ k hk
  have hM : ∀ (j : Nat) (X : Nat → Nat → Fin 5), fEq N (fP N (fun i j => kk (A i j)) j) X → fEq N (fP N (fun i j => kk (A i j)) (j + 1)) (fM N X (fun i j => kk (A i j))) := fun j X hX i k hi hk => fM_eqL _ hX hi
  generalize ha : (fun i j => kk (A i j)) = a at *
  have st : ∀ (j : Nat) (s0 s1 s2 s3 : Fin 5), fEq N (fP N a j) (fun i k => s0 * fP N a 0 i k + s1 * fP N a 1 i k + s2 * fP N a 2 i k + s3 * fP N a 3 i k) →
      fEq N (fP N a (j + 1)) (fun i k => s0 * fP N a 1 i k + s1 * fP N a 2 i k + s2 * fP N a 3 i k + s3 * fP N a 4 i k) := by
    intro j s0 s1 s2 s3 hX i k hi hk
    rw [hM j _ hX i k hi hk, fM_lin N (fun i k => s0 * fP N a 0 i k + s1 * fP N a 1 i k + s2 * fP N a 2 i k) (fP N a 3) a s3, fM_lin N (fun i k => s0 * fP N a 0 i k + s1 * fP N a 1 i k) (fP N a 2) a s2, fM_lin N (fun i k => s0 * fP N a 0 i k) (fP N a 1) a s1, fM_s]
    rfl
  match N, h1, h4 with
  | 4, _, _ =>
    refine ⟨- chp A 4 0, - chp A 4 1, - chp A 4 2, - chp A 4 3, ?_⟩
    intro i k hi hk
    have := hc i k hi hk
    rw [(ch4 A).1] at this
    grind
  | 3, _, _ =>
    have b3 : fEq 3 (fP 3 a 3) (fun i k => (- chp A 3 0) * fP 3 a 0 i k + (- chp A 3 1) * fP 3 a 1 i k + (- chp A 3 2) * fP 3 a 2 i k + 0 * fP 3 a 3 i k) := by
      intro i k hi hk
      have := hc i k hi hk
      rw [(ch3 A).1, hz 4 (by decide)] at this
      grind
    refine ⟨0, - chp A 3 0, - chp A 3 1, - chp A 3 2, ?_⟩
    intro i k hi hk
    have := st 3 _ _ _ _ b3 i k hi hk
    dsimp only at this
    rw [this]; grind
  | 2, _, _ =>
    have b2 : fEq 2 (fP 2 a 2) (fun i k => (- chp A 2 0) * fP 2 a 0 i k + (- chp A 2 1) * fP 2 a 1 i k + 0 * fP 2 a 2 i k + 0 * fP 2 a 3 i k) := by
      intro i k hi hk
      have := hc i k hi hk
      rw [(ch2 A).1, hz 3 (by decide), hz 4 (by decide)] at this
      grind
    have b3 : fEq 2 (fP 2 a 3) (fun i k => 0 * fP 2 a 0 i k + (- chp A 2 0) * fP 2 a 1 i k + (- chp A 2 1) * fP 2 a 2 i k + 0 * fP 2 a 3 i k) := by
      intro i k hi hk
      have := st 2 _ _ _ _ b2 i k hi hk
      dsimp only at this
      rw [this]; grind
    refine ⟨0, 0, - chp A 2 0, - chp A 2 1, ?_⟩
    intro i k hi hk
    have := st 3 _ _ _ _ b3 i k hi hk
    dsimp only at this
    rw [this]; grind
  | 1, _, _ =>
    have b1 : fEq 1 (fP 1 a 1) (fun i k => (- chp A 1 0) * fP 1 a 0 i k + 0 * fP 1 a 1 i k + 0 * fP 1 a 2 i k + 0 * fP 1 a 3 i k) := by
      intro i k hi hk
      have := hc i k hi hk
      rw [ch1 A, hz 2 (by decide), hz 3 (by decide), hz 4 (by decide)] at this
      grind
    have b2 : fEq 1 (fP 1 a 2) (fun i k => 0 * fP 1 a 0 i k + (- chp A 1 0) * fP 1 a 1 i k + 0 * fP 1 a 2 i k + 0 * fP 1 a 3 i k) := by
      intro i k hi hk
      have := st 1 _ _ _ _ b1 i k hi hk
      dsimp only at this
      rw [this]; grind
    have b3 : fEq 1 (fP 1 a 3) (fun i k => 0 * fP 1 a 0 i k + 0 * fP 1 a 1 i k + (- chp A 1 0) * fP 1 a 2 i k + 0 * fP 1 a 3 i k) := by
      intro i k hi hk
      have := st 2 _ _ _ _ b2 i k hi hk
      dsimp only at this
      rw [this]; grind
    refine ⟨0, 0, 0, - chp A 1 0, ?_⟩
    intro i k hi hk
    have := st 3 _ _ _ _ b3 i k hi hk
    dsimp only at this
    rw [this]; grind
def ordV (e0 e1 e2 e3 : Fin 5) : Nat → Fin 5 × Fin 5 × Fin 5 × Fin 5
  | 0 => (1, 0, 0, 0)
  | j + 1 => ((ordV e0 e1 e2 e3 j).2.2.2 * e0, (ordV e0 e1 e2 e3 j).1 + (ordV e0 e1 e2 e3 j).2.2.2 * e1, (ordV e0 e1 e2 e3 j).2.1 + (ordV e0 e1 e2 e3 j).2.2.2 * e2, (ordV e0 e1 e2 e3 j).2.2.1 + (ordV e0 e1 e2 e3 j).2.2.2 * e3)
theorem ord_v {N : Nat} {a : Nat → Nat → Fin 5} {e0 e1 e2 e3 : Fin 5} (h : fEq N (fP N a 4) (fun i k => e0 * fP N a 0 i k + e1 * fP N a 1 i k + e2 * fP N a 2 i k + e3 * fP N a 3 i k)) :
    ∀ j, fEq N (fP N a j) (fun i k => (ordV e0 e1 e2 e3 j).1 * fP N a 0 i k + (ordV e0 e1 e2 e3 j).2.1 * fP N a 1 i k + (ordV e0 e1 e2 e3 j).2.2.1 * fP N a 2 i k + (ordV e0 e1 e2 e3 j).2.2.2 * fP N a 3 i k) := by
  intro j
  induction j with
  | zero =>
    intro i k hi hk
    show fP N a 0 i k = 1 * fP N a 0 i k + 0 * fP N a 1 i k + 0 * fP N a 2 i k + 0 * fP N a 3 i k
    grind
  | succ j ih =>
    intro i k hi hk
    show fM N (fP N a j) a i k = ((ordV e0 e1 e2 e3 j).2.2.2 * e0) * fP N a 0 i k + ((ordV e0 e1 e2 e3 j).1 + (ordV e0 e1 e2 e3 j).2.2.2 * e1) * fP N a 1 i k + ((ordV e0 e1 e2 e3 j).2.1 + (ordV e0 e1 e2 e3 j).2.2.2 * e2) * fP N a 2 i k + ((ordV e0 e1 e2 e3 j).2.2.1 + (ordV e0 e1 e2 e3 j).2.2.2 * e3) * fP N a 3 i k
    rw [fM_eqL a ih hi]
    generalize ordV e0 e1 e2 e3 j = v
    rw [fM_lin N (fun i k => v.1 * fP N a 0 i k + v.2.1 * fP N a 1 i k + v.2.2.1 * fP N a 2 i k) (fP N a 3) a v.2.2.2, fM_lin N (fun i k => v.1 * fP N a 0 i k + v.2.1 * fP N a 1 i k) (fP N a 2) a v.2.2.1, fM_lin N (fun i k => v.1 * fP N a 0 i k) (fP N a 1) a v.2.1, fM_s]
    have e3' : fM N (fP N a 0) a i k = fP N a 1 i k := rfl
    have e4' : fM N (fP N a 1) a i k = fP N a 2 i k := rfl
    have e5' : fM N (fP N a 2) a i k = fP N a 3 i k := rfl
    have e6' : fM N (fP N a 3) a i k = e0 * fP N a 0 i k + e1 * fP N a 1 i k + e2 * fP N a 2 i k + e3 * fP N a 3 i k := h i k hi hk
    rw [e3', e4', e5', e6']
    grind
theorem fM_can {N : Nat} (h1 : 1 ≤ N) (h4 : N ≤ 4) {a X Y : Nat → Nat → Fin 5} (hd : dtm a N (2 ^ N - 1) (2 ^ N - 1) ≠ 0) (h : fEq N (fM N X a) (fM N Y a)) : fEq N X Y := by
  generalize hD : dtm a N (2 ^ N - 1) (2 ^ N - 1) = D at *
  have hadj : fEq N (fM N a (adj a N)) (fun i k => if i = k then D else 0) := by
    intro i k hi hk
    rw [ma_all a h1 h4 hi hk, hD]
  have mul : ∀ Z : Nat → Nat → Fin 5, ∀ i k, i < N → k < N → fM N (fM N Z a) (adj a N) i k = D * Z i k := by
    intro Z i k hi hk
    rw [fM_assoc h4, fM_eqR Z hadj hk]
    exact fM_id h4 Z D i k hi hk
  intro i k hi hk
  have e : D * X i k = D * Y i k := by
    rw [← mul X i k hi hk, ← mul Y i k hi hk]
    exact fM_eqL _ h hi
  have i1 := kt_inv D hd
  have : (D * (D * D * D)) * X i k = (D * (D * D * D)) * Y i k := by grind
  rw [i1] at this
  grind
/-- some power within 624 is the identity -/
theorem ord_ex (A : Nat → Nat → Nat) {N : Nat} (h1 : 1 ≤ N) (h4 : N ≤ 4) (hd : dtA A N ≠ 0) : ∃ d, d < 624 ∧ fEq N (fP N (fun i j => kk (A i j)) (d + 1)) (fun i k => if i = k then 1 else 0) := by
  obtain ⟨e0, e1, e2, e3, he⟩ := cay4 A h1 h4
  have hv := ord_v (N := N) (a := fun i j => kk (A i j)) he
  have can := fun X Y => fM_can (X := X) (Y := Y) h1 h4 hd
  generalize ha : (fun i j => kk (A i j)) = a at *
  have nz : ∀ j, ¬ fEq N (fP N a j) (fun _ _ => 0) := by
    intro j
    induction j with
    | zero =>
      intro z
      have : (1 : Fin 5) = 0 := z 0 0 (by omega) (by omega)
      exact absurd this (by decide)
    | succ j ih =>
      intro z
      refine ih (can _ _ ?_)
      intro i k hi hk
      rw [show fM N (fP N a j) a i k = 0 from z i k hi hk]
      have := fM_s N (fun _ _ => 0) a 0 i k
      have e : fM N (fun _ _ => (0 : Fin 5)) a i k = 0 * fM N (fun _ _ => 0) a i k := by
        rw [← this]
        refine fM_eqL a (fun i j _ _ => ?_) hi
        grind
      rw [e]; grind
  let code : Nat → Nat := fun j => (ordV e0 e1 e2 e3 j).1.val + (ordV e0 e1 e2 e3 j).2.1.val * 5 + (ordV e0 e1 e2 e3 j).2.2.1.val * 25 + (ordV e0 e1 e2 e3 j).2.2.2.val * 125
  have hcode : ∀ j, 0 < code j ∧ code j < 625 := by
    intro j
    have l0 := (ordV e0 e1 e2 e3 j).1.isLt
    have l1 := (ordV e0 e1 e2 e3 j).2.1.isLt
    have l2 := (ordV e0 e1 e2 e3 j).2.2.1.isLt
    have l3 := (ordV e0 e1 e2 e3 j).2.2.2.isLt
    refine ⟨?_, ?_⟩
    · refine Nat.pos_of_ne_zero (fun z => ?_)
      have z' : (ordV e0 e1 e2 e3 j).1.val + (ordV e0 e1 e2 e3 j).2.1.val * 5 + (ordV e0 e1 e2 e3 j).2.2.1.val * 25 + (ordV e0 e1 e2 e3 j).2.2.2.val * 125 = 0 := z
      have z0 : (ordV e0 e1 e2 e3 j).1 = 0 := Fin.ext (by show _ = 0; omega)
      have z1 : (ordV e0 e1 e2 e3 j).2.1 = 0 := Fin.ext (by show _ = 0; omega)
      have z2 : (ordV e0 e1 e2 e3 j).2.2.1 = 0 := Fin.ext (by show _ = 0; omega)
      have z3 : (ordV e0 e1 e2 e3 j).2.2.2 = 0 := Fin.ext (by show _ = 0; omega)
      refine nz j (fun i k hi hk => ?_)
      rw [hv j i k hi hk, z0, z1, z2, z3]
      grind
    · show (ordV e0 e1 e2 e3 j).1.val + (ordV e0 e1 e2 e3 j).2.1.val * 5 + (ordV e0 e1 e2 e3 j).2.2.1.val * 25 + (ordV e0 e1 e2 e3 j).2.2.2.val * 125 < 625
      omega
  obtain ⟨i, j, hij, hj, q⟩ := pig 624 (fun j => code j - 1) (fun i _ => by
    have := hcode i
    show code i - 1 < 624
    omega)
  have q2 : code i = code j := by
    have := hcode i
    have := hcode j
    have q' : code i - 1 = code j - 1 := q
    omega
  have heq : fEq N (fP N a i) (fP N a j) := by
    have l0 := (ordV e0 e1 e2 e3 i).1.isLt
    have l1 := (ordV e0 e1 e2 e3 i).2.1.isLt
    have l2 := (ordV e0 e1 e2 e3 i).2.2.1.isLt
    have l3 := (ordV e0 e1 e2 e3 i).2.2.2.isLt
    have k0 := (ordV e0 e1 e2 e3 j).1.isLt
    have k1 := (ordV e0 e1 e2 e3 j).2.1.isLt
    have k2 := (ordV e0 e1 e2 e3 j).2.2.1.isLt
    have k3 := (ordV e0 e1 e2 e3 j).2.2.2.isLt
    have q' : (ordV e0 e1 e2 e3 i).1.val + (ordV e0 e1 e2 e3 i).2.1.val * 5 + (ordV e0 e1 e2 e3 i).2.2.1.val * 25 + (ordV e0 e1 e2 e3 i).2.2.2.val * 125 = (ordV e0 e1 e2 e3 j).1.val + (ordV e0 e1 e2 e3 j).2.1.val * 5 + (ordV e0 e1 e2 e3 j).2.2.1.val * 25 + (ordV e0 e1 e2 e3 j).2.2.2.val * 125 := q2
    have z0 : (ordV e0 e1 e2 e3 i).1 = (ordV e0 e1 e2 e3 j).1 := Fin.ext (by omega)
    have z1 : (ordV e0 e1 e2 e3 i).2.1 = (ordV e0 e1 e2 e3 j).2.1 := Fin.ext (by omega)
    have z2 : (ordV e0 e1 e2 e3 i).2.2.1 = (ordV e0 e1 e2 e3 j).2.2.1 := Fin.ext (by omega)
    have z3 : (ordV e0 e1 e2 e3 i).2.2.2 = (ordV e0 e1 e2 e3 j).2.2.2 := Fin.ext (by omega)
    intro r k hr hk
    rw [hv i r k hr hk, hv j r k hr hk, z0, z1, z2, z3]
  have down : ∀ i d, fEq N (fP N a i) (fP N a (i + d)) → fEq N (fP N a 0) (fP N a d) := by
    intro i
    induction i with
    | zero => intro d h; rw [Nat.zero_add] at h; exact h
    | succ i ih =>
      intro d h
      refine ih d (can _ _ ?_)
      have : fP N a (i + 1 + d) = fM N (fP N a (i + d)) a := by
        rw [show i + 1 + d = (i + d) + 1 by omega]; rfl
      rw [this] at h
      exact h
  refine ⟨j - i - 1, by omega, ?_⟩
  have h0 := down i (j - i) (by rw [show i + (j - i) = j by omega]; exact heq)
  rw [show j - i - 1 + 1 = j - i by omega]
  intro r k hr hk
  exact (h0 r k hr hk).symm
