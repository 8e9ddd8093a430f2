/-! each matrix is similar to a normal form -/
def mtF (l : List (List (Fin 5))) : Nat → Nat → Fin 5 := fun i j => (l.getD j []).getD i 0
theorem gd_def {α : Type} (d : α) : ∀ (l : List α) (j : Nat), l.length ≤ j → l.getD j d = d := by
  intro l
  induction l with
  | nil => intro j _; rfl
  | cons a l ih =>
    intro j h
    cases j with
    | zero => exact absurd h (by simp)
    | succ j => exact ih j (by simpa using h)
theorem gd_mem {α : Type} (d : α) : ∀ (l : List α) (j : Nat), l.getD j d ∈ l ∨ l.getD j d = d := by
  intro l
  induction l with
  | nil => intro j; exact Or.inr rfl
  | cons a l ih =>
    intro j
    cases j with
    | zero => exact Or.inl List.mem_cons_self
    | succ j =>
      rcases ih j with h | h
      · exact Or.inl (List.mem_cons_of_mem _ h)
      · exact Or.inr h
theorem gd_sp {α : Type} (d : α) {N : Nat} {l : List (List α)} (h1 : l.length ≤ N) (h2 : ∀ c, c ∈ l → c.length ≤ N) {i j : Nat} (h : ¬ (i < N ∧ j < N)) : (l.getD j []).getD i d = d := by
  by_cases e : j < N
  · have hc : (l.getD j []).length ≤ N := by
      rcases gd_mem [] l j with z | z
      · exact h2 _ z
      · rw [z]; exact Nat.zero_le _
    exact gd_def d _ i (by omega)
  · rw [gd_def [] l j (by omega)]; rfl
theorem sp_mtF {N : Nat} {l : List (List (Fin 5))} (h1 : l.length ≤ N) (h2 : ∀ c, c ∈ l → c.length ≤ N) : sp N (mtF l) :=
  fun _ _ h => gd_sp 0 h1 h2 h
theorem st {N : Nat} (h1 : 1 ≤ N) (hN : N ≤ 4) {a : Nat → Nat → Fin 5} (ha : sp N a) (l : List (List (Fin 5))) (l1 : l.length ≤ N) (l2 : ∀ c, c ∈ l → c.length ≤ N) (hd : dtm (mtF l) N (2 ^ N - 1) (2 ^ N - 1) ≠ 0) :
    ∃ b, Sim N a b ∧ sp N b ∧ ∀ (j : Nat) (e : Nat → Fin 5), (∀ i, i < N → fM N a (mtF l) i j = fs (fun u => mtF l i u * e u) N) → ∀ i, i < N → b i j = e i := by
  have hS := sp_mtF l1 l2
  obtain ⟨T, hT⟩ := inv_ex h1 hN hS hd
  exact ⟨_, Sim_cj hN ha hT, sp_M (sp_M hT.2.1 ha) hS, fun j e he => cj_col hN hT e he⟩
def kM (R : Nat → Nat → Nat) : Nat → Nat → Fin 5 := fun i j => kk (R i j)
def mt (l : List (List Nat)) : Nat → Nat → Nat := fun i j => (l.getD j []).getD i 0
theorem sp_mt {N : Nat} {l : List (List Nat)} (h1 : l.length ≤ N) (h2 : ∀ c, c ∈ l → c.length ≤ N) : sp N (kM (mt l)) := by
  intro i j h
  show kk ((l.getD j []).getD i 0) = 0
  rw [gd_sp 0 h1 h2 h]; rfl
theorem len4 {α : Type} {a b c d x : List α} {n : Nat} (ha : a.length ≤ n) (hb : b.length ≤ n) (hc : c.length ≤ n) (hd : d.length ≤ n) (h : x ∈ [a, b, c, d]) : x.length ≤ n := by
  simp at h
  rcases h with h | h | h | h <;> subst h <;> assumption
theorem len3 {α : Type} {a b c x : List α} {n : Nat} (ha : a.length ≤ n) (hb : b.length ≤ n) (hc : c.length ≤ n) (h : x ∈ [a, b, c]) : x.length ≤ n := by
  simp at h
  rcases h with h | h | h <;> subst h <;> assumption
theorem len2 {α : Type} {a b x : List α} {n : Nat} (ha : a.length ≤ n) (hb : b.length ≤ n) (h : x ∈ [a, b]) : x.length ≤ n := by
  simp at h
  rcases h with h | h <;> subst h <;> assumption
def qF0 (l : Nat) : Nat → Nat → Nat := mt [[l, 0, 0, 0], [0, l, 0, 0], [0, 0, l, 0], [0, 0, 0, l]]
def qF1 (p q r s : Nat) : Nat → Nat → Nat := mt [[0, 1, 0, 0], [0, 0, 1, 0], [0, 0, 0, 1], [p, q, r, s]]
def qF2 (q r l : Nat) : Nat → Nat → Nat := mt [[0, 1, 0, 0], [0, 0, 1, 0], [(l * l * l + (5 - r) * l * l + (5 - q) * l) % 5, q, r, 0], [0, 0, 0, l]]
def qF3 (a b : Nat) : Nat → Nat → Nat := mt [[0, 1, 0, 0], [a, b, 0, 0], [0, 0, 0, 1], [0, 0, a, b]]
def qF4 (b l : Nat) : Nat → Nat → Nat := mt [[0, 1, 0, 0], [(l * l + (5 - b) * l) % 5, b, 0, 0], [0, 0, l, 0], [0, 0, 0, l]]
def NF4 (a : Nat → Nat → Fin 5) : Prop := (∃ l, l < 5 ∧ Sim 4 a (kM (qF0 l))) ∨ (∃ p q r s, p < 5 ∧ q < 5 ∧ r < 5 ∧ s < 5 ∧ Sim 4 a (kM (qF1 p q r s))) ∨ (∃ q r l, q < 5 ∧ r < 5 ∧ l < 5 ∧ Sim 4 a (kM (qF2 q r l))) ∨ (∃ b c, b < 5 ∧ c < 5 ∧ Sim 4 a (kM (qF3 b c))) ∨ (∃ b l, b < 5 ∧ l < 5 ∧ Sim 4 a (kM (qF4 b l)))
theorem NF4_tr {a b : Nat → Nat → Fin 5} (h : Sim 4 a b) (hb : NF4 b) : NF4 a := by
  rcases hb with ⟨l, h1, hs⟩ | ⟨p, q, r, s, h1, h2, h3, h4, hs⟩ | ⟨q, r, l, h1, h2, h3, hs⟩ | ⟨b, c, h1, h2, hs⟩ | ⟨b, l, h1, h2, hs⟩
  · exact Or.inl ⟨l, h1, Sim_tr (by decide) h hs⟩
  · exact Or.inr (Or.inl ⟨p, q, r, s, h1, h2, h3, h4, Sim_tr (by decide) h hs⟩)
  · exact Or.inr (Or.inr (Or.inl ⟨q, r, l, h1, h2, h3, Sim_tr (by decide) h hs⟩))
  · exact Or.inr (Or.inr (Or.inr (Or.inl ⟨b, c, h1, h2, Sim_tr (by decide) h hs⟩)))
  · exact Or.inr (Or.inr (Or.inr (Or.inr ⟨b, l, h1, h2, Sim_tr (by decide) h hs⟩)))
/-- equal by sixteen entries -/
theorem ext4 {a b : Nat → Nat → Fin 5} (ha : sp 4 a) (hb : sp 4 b) (h0 : ∀ i, i < 4 → a i 0 = b i 0) (h1 : ∀ i, i < 4 → a i 1 = b i 1) (h2 : ∀ i, i < 4 → a i 2 = b i 2) (h3 : ∀ i, i < 4 → a i 3 = b i 3) : a = b := by
  refine sp_ext ha hb (fun i j hi hj => ?_)
  match j, hj with
  | 0, _ => exact h0 i hi
  | 1, _ => exact h1 i hi
  | 2, _ => exact h2 i hi
  | 3, _ => exact h3 i hi
/-- column u of the identity, and a column in general -/
def cl (x y z t : Fin 5) : Nat → Fin 5 := fun i => [x, y, z, t].getD i 0
def col (a : Nat → Nat → Fin 5) (j : Nat) (x y z t : Fin 5) : Prop := a 0 j = x ∧ a 1 j = y ∧ a 2 j = z ∧ a 3 j = t
theorem st4 {a : Nat → Nat → Fin 5} (ha : sp 4 a) (x0 x1 x2 x3 y0 y1 y2 y3 z0 z1 z2 z3 t0 t1 t2 t3 : Fin 5)
    (hd : dtm (mtF [[x0, x1, x2, x3], [y0, y1, y2, y3], [z0, z1, z2, z3], [t0, t1, t2, t3]]) 4 15 15 ≠ 0) :
    ∃ b, Sim 4 a b ∧ sp 4 b ∧
      (∀ e0 e1 e2 e3, (∀ i, i < 4 → a i 0 * x0 + a i 1 * x1 + a i 2 * x2 + a i 3 * x3 = cl x0 x1 x2 x3 i * e0 + cl y0 y1 y2 y3 i * e1 + cl z0 z1 z2 z3 i * e2 + cl t0 t1 t2 t3 i * e3) → col b 0 e0 e1 e2 e3) ∧
      (∀ e0 e1 e2 e3, (∀ i, i < 4 → a i 0 * y0 + a i 1 * y1 + a i 2 * y2 + a i 3 * y3 = cl x0 x1 x2 x3 i * e0 + cl y0 y1 y2 y3 i * e1 + cl z0 z1 z2 z3 i * e2 + cl t0 t1 t2 t3 i * e3) → col b 1 e0 e1 e2 e3) ∧
      (∀ e0 e1 e2 e3, (∀ i, i < 4 → a i 0 * z0 + a i 1 * z1 + a i 2 * z2 + a i 3 * z3 = cl x0 x1 x2 x3 i * e0 + cl y0 y1 y2 y3 i * e1 + cl z0 z1 z2 z3 i * e2 + cl t0 t1 t2 t3 i * e3) → col b 2 e0 e1 e2 e3) ∧
      (∀ e0 e1 e2 e3, (∀ i, i < 4 → a i 0 * t0 + a i 1 * t1 + a i 2 * t2 + a i 3 * t3 = cl x0 x1 x2 x3 i * e0 + cl y0 y1 y2 y3 i * e1 + cl z0 z1 z2 z3 i * e2 + cl t0 t1 t2 t3 i * e3) → col b 3 e0 e1 e2 e3) := by
  obtain ⟨b, b1, b2, b3⟩ := st (N := 4) (by decide) (by decide) ha [[x0, x1, x2, x3], [y0, y1, y2, y3], [z0, z1, z2, z3], [t0, t1, t2, t3]] (Nat.le_refl _) (fun c hc => len4 (Nat.le_refl _) (Nat.le_refl _) (Nat.le_refl _) (Nat.le_refl _) hc) hd
  have gen : ∀ (j : Nat) (w0 w1 w2 w3 : Fin 5), (∀ t, t < 4 → mtF [[x0, x1, x2, x3], [y0, y1, y2, y3], [z0, z1, z2, z3], [t0, t1, t2, t3]] t j = cl w0 w1 w2 w3 t) → ∀ e0 e1 e2 e3, (∀ i, i < 4 → a i 0 * w0 + a i 1 * w1 + a i 2 * w2 + a i 3 * w3 = cl x0 x1 x2 x3 i * e0 + cl y0 y1 y2 y3 i * e1 + cl z0 z1 z2 z3 i * e2 + cl t0 t1 t2 t3 i * e3) → col b j e0 e1 e2 e3 := by
    intro j w0 w1 w2 w3 hw e0 e1 e2 e3 he
    have := b3 j (cl e0 e1 e2 e3) (fun i hi => by
      show 0 + a i 0 * mtF [[x0, x1, x2, x3], [y0, y1, y2, y3], [z0, z1, z2, z3], [t0, t1, t2, t3]] 0 j + a i 1 * mtF [[x0, x1, x2, x3], [y0, y1, y2, y3], [z0, z1, z2, z3], [t0, t1, t2, t3]] 1 j + a i 2 * mtF [[x0, x1, x2, x3], [y0, y1, y2, y3], [z0, z1, z2, z3], [t0, t1, t2, t3]] 2 j + a i 3 * mtF [[x0, x1, x2, x3], [y0, y1, y2, y3], [z0, z1, z2, z3], [t0, t1, t2, t3]] 3 j = 0 + cl x0 x1 x2 x3 i * e0 + cl y0 y1 y2 y3 i * e1 + cl z0 z1 z2 z3 i * e2 + cl t0 t1 t2 t3 i * e3
      rw [hw 0 (by decide), hw 1 (by decide), hw 2 (by decide), hw 3 (by decide)]
      have := he i hi
      show 0 + a i 0 * w0 + a i 1 * w1 + a i 2 * w2 + a i 3 * w3 = _
      grind)
    exact ⟨this 0 (by decide), this 1 (by decide), this 2 (by decide), this 3 (by decide)⟩
  exact ⟨b, b1, b2, gen 0 x0 x1 x2 x3 (fun _ _ => rfl), gen 1 y0 y1 y2 y3 (fun _ _ => rfl), gen 2 z0 z1 z2 z3 (fun _ _ => rfl), gen 3 t0 t1 t2 t3 (fun _ _ => rfl)⟩
theorem fin4 {a : Nat → Nat → Fin 5} (ha : sp 4 a) {R : Nat → Nat → Nat} (hR : sp 4 (kM R)) {x0 x1 x2 x3 y0 y1 y2 y3 z0 z1 z2 z3 t0 t1 t2 t3 : Fin 5} (h0 : col a 0 x0 x1 x2 x3) (h1 : col a 1 y0 y1 y2 y3) (h2 : col a 2 z0 z1 z2 z3) (h3 : col a 3 t0 t1 t2 t3)
    (g0 : col (kM R) 0 x0 x1 x2 x3) (g1 : col (kM R) 1 y0 y1 y2 y3) (g2 : col (kM R) 2 z0 z1 z2 z3) (g3 : col (kM R) 3 t0 t1 t2 t3) : Sim 4 a (kM R) := by
  have : a = kM R := by
    have ee : ∀ j x y z t, col a j x y z t → col (kM R) j x y z t → ∀ i, i < 4 → a i j = kM R i j := by
      intro j x y z t c1 c2
      refine k4 ?_ ?_ ?_ ?_
      · rw [c1.1, c2.1]
      · rw [c1.2.1, c2.2.1]
      · rw [c1.2.2.1, c2.2.2.1]
      · rw [c1.2.2.2, c2.2.2.2]
    exact ext4 ha hR (ee 0 _ _ _ _ h0 g0) (ee 1 _ _ _ _ h1 g1) (ee 2 _ _ _ _ h2 g2) (ee 3 _ _ _ _ h3 g3)
  rw [← this]
  exact Sim_rf (by decide) ha
theorem sp4 {c0 c1 c2 c3 : List Nat} (h0 : c0.length ≤ 4) (h1 : c1.length ≤ 4) (h2 : c2.length ≤ 4) (h3 : c3.length ≤ 4) : sp 4 (kM (mt [c0, c1, c2, c3])) :=
  sp_mt (Nat.le_refl _) (fun c hc => len4 h0 h1 h2 h3 hc)
/-- a companion -/
theorem nf_F1 {a : Nat → Nat → Fin 5} (ha : sp 4 a) (h0 : col a 0 0 1 0 0) (h1 : col a 1 0 0 1 0) (h2 : col a 2 0 0 0 1) : NF4 a := by
  refine Or.inr (Or.inl ⟨(a 0 3).val, (a 1 3).val, (a 2 3).val, (a 3 3).val, Fin.isLt _, Fin.isLt _, Fin.isLt _, Fin.isLt _, ?_⟩)
  exact fin4 ha (sp4 (Nat.le_refl _) (Nat.le_refl _) (Nat.le_refl _) (Nat.le_refl _)) h0 h1 h2 (h3 := (⟨rfl, rfl, rfl, rfl⟩ : col a 3 (a 0 3) (a 1 3) (a 2 3) (a 3 3))) ⟨rfl, rfl, rfl, rfl⟩ ⟨rfl, rfl, rfl, rfl⟩ ⟨rfl, rfl, rfl, rfl⟩ ⟨kk_fin _, kk_fin _, kk_fin _, kk_fin _⟩
theorem L3s {a : Nat → Nat → Fin 5} (ha : sp 4 a) {p q r l s : Fin 5} (h0 : col a 0 0 1 0 0) (h1 : col a 1 0 0 1 0) (h2 : col a 2 p q r 0) (h3 : col a 3 s 0 0 l) : NF4 a := by
  have H0 := h0; have H1 := h1; have H2 := h2; have H3 := h3
  obtain ⟨a00, a10, a20, a30⟩ := h0
  obtain ⟨a01, a11, a21, a31⟩ := h1
  obtain ⟨a02, a12, a22, a32⟩ := h2
  obtain ⟨a03, a13, a23, a33⟩ := h3
  by_cases hs : s = 0
  · by_cases hp : l * l * l - r * l * l - q * l - p = 0
    · refine Or.inr (Or.inr (Or.inl ⟨q.val, r.val, l.val, Fin.isLt _, Fin.isLt _, Fin.isLt _, ?_⟩))
      refine fin4 ha (sp4 (Nat.le_refl _) (Nat.le_refl _) (Nat.le_refl _) (Nat.le_refl _)) H0 H1 H2 H3 ⟨rfl, rfl, rfl, rfl⟩ ⟨rfl, rfl, rfl, rfl⟩ ⟨?_, kk_fin _, kk_fin _, rfl⟩ ⟨by rw [hs]; rfl, rfl, rfl, kk_fin _⟩
      show kk ((l.val * l.val * l.val + (5 - r.val) * l.val * l.val + (5 - q.val) * l.val) % 5) = p
      rw [kk_mod, kk_add, kk_add, kk_mul, kk_mul, kk_mul, kk_mul, kk_mul, kk_5s (by have := r.isLt; omega), kk_5s (by have := q.isLt; omega), kk_fin, kk_fin, kk_fin]
      grind
    · obtain ⟨b, b1, b2, k0, k1, k2, _⟩ := st4 ha 1 0 0 1 0 1 0 l 0 0 1 (l * l) p q r (l * l * l) (by
        have e : dtm (mtF [[1, 0, 0, 1], [0, 1, 0, l], [0, 0, 1, l * l], [p, q, r, l * l * l]]) 4 15 15 = l * l * l - r * l * l - q * l - p := by
          simp [dtm, lapM, lo, rs, mtF] <;> grind
        rw [e]; exact hp)
      refine NF4_tr b1 (nf_F1 b2 (k0 0 1 0 0 ?_) (k1 0 0 1 0 ?_) (k2 0 0 0 1 ?_))
      all_goals (refine k4 ?_ ?_ ?_ ?_ <;> simp [cl, a00, a10, a20, a30, a01, a11, a21, a31, a02, a12, a22, a32, a03, a13, a23, a33, hs] <;> grind)
  · obtain ⟨b, b1, b2, k0, k1, k2, _⟩ := st4 ha 0 0 0 1 s 0 0 l (s * l) s 0 (l * l) (s * l * l) (s * l) s (l * l * l) (by
      have e : dtm (mtF [[0, 0, 0, 1], [s, 0, 0, l], [s * l, s, 0, l * l], [s * l * l, s * l, s, l * l * l]]) 4 15 15 = - (s * s * s) := by
        simp [dtm, lapM, lo, rs, mtF] <;> grind
      rw [e]
      have := f5_nz _ _ (f5_nz _ _ hs hs) hs
      grind)
    refine NF4_tr b1 (nf_F1 b2 (k0 0 1 0 0 ?_) (k1 0 0 1 0 ?_) (k2 0 0 0 1 ?_))
    all_goals (refine k4 ?_ ?_ ?_ ?_ <;> simp [cl, a00, a10, a20, a30, a01, a11, a21, a31, a02, a12, a22, a32, a03, a13, a23, a33] <;> grind)
theorem L3 {a : Nat → Nat → Fin 5} (ha : sp 4 a) (h0 : col a 0 0 1 0 0) (h1 : col a 1 0 0 1 0) : NF4 a := by
  obtain ⟨a00, a10, a20, a30⟩ := h0
  obtain ⟨a01, a11, a21, a31⟩ := h1
  by_cases hd : a 3 2 = 0
  · obtain ⟨b, b1, b2, k0, k1, k2, k3⟩ := st4 ha 1 0 0 0 0 1 0 0 0 0 1 0 (- a 1 3 - a 3 3 * a 2 3) (- a 2 3) 0 1 (by
      have e : dtm (mtF [[1, 0, 0, 0], [0, 1, 0, 0], [0, 0, 1, 0], [- a 1 3 - a 3 3 * a 2 3, - a 2 3, 0, 1]]) 4 15 15 = 1 := by
        simp [dtm, lapM, lo, rs, mtF] <;> grind
      rw [e]; decide)
    refine NF4_tr b1 (L3s b2 (p := a 0 2) (q := a 1 2) (r := a 2 2) (l := a 3 3) (s := a 0 3 - a 3 3 * (- a 1 3 - a 3 3 * a 2 3)) (k0 0 1 0 0 ?_) (k1 0 0 1 0 ?_) (k2 _ _ _ _ ?_) (k3 _ _ _ _ ?_))
    all_goals (refine k4 ?_ ?_ ?_ ?_ <;> simp [cl, a00, a10, a20, a30, a01, a11, a21, a31, hd] <;> grind)
  · obtain ⟨b, b1, b2, k0, k1, k2, k3⟩ := st4 ha 1 0 0 0 0 1 0 0 0 0 1 0 (a 0 2) (a 1 2) (a 2 2) (a 3 2) (by
      have e : dtm (mtF [[1, 0, 0, 0], [0, 1, 0, 0], [0, 0, 1, 0], [a 0 2, a 1 2, a 2 2, a 3 2]]) 4 15 15 = a 3 2 := by
        simp [dtm, lapM, lo, rs, mtF] <;> grind
      rw [e]; exact hd)
    refine NF4_tr b1 (nf_F1 b2 (k0 0 1 0 0 ?_) (k1 0 0 1 0 ?_) (k2 0 0 0 1 ?_))
    all_goals (refine k4 ?_ ?_ ?_ ?_ <;> simp [cl, a00, a10, a20, a30, a01, a11, a21, a31] <;> grind)
