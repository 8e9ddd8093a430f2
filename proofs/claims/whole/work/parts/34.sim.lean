/-! similar matrices -/
def sp (N : Nat) (a : Nat → Nat → Fin 5) : Prop := ∀ i j, ¬ (i < N ∧ j < N) → a i j = 0
def idn (N : Nat) : Nat → Nat → Fin 5 := fun i j => if i = j ∧ i < N then 1 else 0
theorem sp_ext {N : Nat} {a b : Nat → Nat → Fin 5} (ha : sp N a) (hb : sp N b) (h : fEq N a b) : a = b := by
  funext i j
  by_cases e : i < N ∧ j < N
  · exact h i j e.1 e.2
  · rw [ha i j e, hb i j e]
theorem fs_0 {f : Nat → Fin 5} : ∀ n, (∀ t, t < n → f t = 0) → fs f n = 0 := by
  intro n
  induction n with
  | zero => intro _; rfl
  | succ n ih =>
    intro h
    show fs f n + f n = 0
    rw [ih (fun t ht => h t (by omega)), h n (by omega)]; rfl
theorem sp_M {N : Nat} {a b : Nat → Nat → Fin 5} (ha : sp N a) (hb : sp N b) : sp N (fM N a b) := by
  intro i j h
  refine fs_0 N (fun t ht => ?_)
  by_cases e : i < N
  · rw [hb t j (fun z => h ⟨e, z.2⟩)]; grind
  · rw [ha i t (fun z => e z.1)]; grind
theorem sp_id (N : Nat) : sp N (idn N) := by
  intro i j h
  show (if i = j ∧ i < N then 1 else 0) = (0 : Fin 5)
  by_cases e : i = j ∧ i < N
  · exact absurd ⟨e.2, by rw [← e.1]; exact e.2⟩ h
  · exact if_neg e
theorem idn_eq (N : Nat) : fEq N (idn N) (fun i j => if i = j then 1 else 0) := by
  intro i j hi hj
  show (if i = j ∧ i < N then 1 else 0) = (if i = j then (1 : Fin 5) else 0)
  by_cases e : i = j
  · rw [if_pos ⟨e, hi⟩, if_pos e]
  · rw [if_neg (fun z => e z.1), if_neg e]
theorem M_idR {N : Nat} (hN : N ≤ 4) {a : Nat → Nat → Fin 5} (ha : sp N a) : fM N a (idn N) = a := by
  refine sp_ext (sp_M ha (sp_id N)) ha (fun i j hi hj => ?_)
  rw [fM_eqR a (idn_eq N) hj]
  have := fM_id hN a 1 i j hi hj
  dsimp only at this
  rw [this]; grind
theorem M_idL {N : Nat} (hN : N ≤ 4) {a : Nat → Nat → Fin 5} (ha : sp N a) : fM N (idn N) a = a := by
  refine sp_ext (sp_M (sp_id N) ha) ha (fun i j hi hj => ?_)
  rw [fM_eqL a (idn_eq N) hi]
  exact fM_idL hN a hi
theorem M_as {N : Nat} (hN : N ≤ 4) (a b c : Nat → Nat → Fin 5) : fM N (fM N a b) c = fM N a (fM N b c) := by
  funext i k; exact fM_assoc hN a b c i k
def Inver (N : Nat) (S T : Nat → Nat → Fin 5) : Prop := sp N S ∧ sp N T ∧ fM N S T = idn N ∧ fM N T S = idn N
def Sim (N : Nat) (a b : Nat → Nat → Fin 5) : Prop := ∃ S T, Inver N S T ∧ a = fM N (fM N S b) T
theorem inv_ex {N : Nat} (h1 : 1 ≤ N) (hN : N ≤ 4) {S : Nat → Nat → Fin 5} (hS : sp N S) (hd : dtm S N (2 ^ N - 1) (2 ^ N - 1) ≠ 0) : ∃ T, Inver N S T := by
  generalize hD : dtm S N (2 ^ N - 1) (2 ^ N - 1) = D at *
  have kinv := kt_inv D hd
  let T : Nat → Nat → Fin 5 := fun i j => if i < N ∧ j < N then (D * D * D) * adj S N i j else 0
  have hT : sp N T := fun i j h => if_neg h
  have eT : fEq N T (fun i j => (D * D * D) * adj S N i j) := fun i j hi hj => if_pos ⟨hi, hj⟩
  refine ⟨T, hS, hT, sp_ext (sp_M hS hT) (sp_id N) (fun i j hi hj => ?_), sp_ext (sp_M hT hS) (sp_id N) (fun i j hi hj => ?_)⟩
  · rw [fM_eqR S eT hj, idn_eq N i j hi hj]
    have : fM N S (fun i j => (D * D * D) * adj S N i j) i j = (D * D * D) * fM N S (adj S N) i j := by
      unfold fM
      rw [← fs_s]
      exact fs_cong N (fun t _ => by grind)
    rw [this, ma_all S h1 hN hi hj, hD]
    dsimp only
    split <;> grind
  · rw [fM_eqL S eT hi, fM_s, am_all S h1 hN hi hj, hD, idn_eq N i j hi hj]
    dsimp only
    split <;> grind
theorem Sim_tr {N : Nat} (hN : N ≤ 4) {a b c : Nat → Nat → Fin 5} (h : Sim N a b) (h' : Sim N b c) : Sim N a c := by
  obtain ⟨S, T, ⟨s1, t1, e1, e2⟩, ha⟩ := h
  obtain ⟨S', T', ⟨s2, t2, e3, e4⟩, hb⟩ := h'
  refine ⟨fM N S S', fM N T' T, ⟨sp_M s1 s2, sp_M t2 t1, ?_, ?_⟩, ?_⟩
  · rw [M_as hN, ← M_as hN S', e3, M_idL hN t1, e1]
  · rw [M_as hN, ← M_as hN T, e2, M_idL hN s2, e4]
  · rw [ha, hb]
    simp only [M_as hN]
theorem Sim_sy {N : Nat} (hN : N ≤ 4) {a b : Nat → Nat → Fin 5} (hb : sp N b) (h : Sim N a b) : Sim N b a := by
  obtain ⟨S, T, ⟨s1, t1, e1, e2⟩, ha⟩ := h
  refine ⟨T, S, ⟨t1, s1, e2, e1⟩, ?_⟩
  rw [ha, ← M_as hN T, ← M_as hN T, e2, M_idL hN hb, M_as hN b, e2, M_idR hN hb]
theorem Sim_rf {N : Nat} (hN : N ≤ 4) {a : Nat → Nat → Fin 5} (ha : sp N a) : Sim N a a :=
  ⟨idn N, idn N, ⟨sp_id N, sp_id N, M_idL hN (sp_id N), M_idL hN (sp_id N)⟩, by rw [M_idL hN ha, M_idR hN ha]⟩
theorem Sim_cj {N : Nat} (hN : N ≤ 4) {a S T : Nat → Nat → Fin 5} (ha : sp N a) (h : Inver N S T) : Sim N a (fM N (fM N T a) S) := by
  obtain ⟨s1, t1, e1, e2⟩ := h
  refine ⟨S, T, ⟨s1, t1, e1, e2⟩, ?_⟩
  rw [← M_as hN S, ← M_as hN S, e1, M_idL hN ha, M_as hN a, e1, M_idR hN ha]
/-- a column of the conjugate -/
theorem cj_col {N : Nat} (hN : N ≤ 4) {a S T : Nat → Nat → Fin 5} (h : Inver N S T) {j : Nat} (b : Nat → Fin 5) (e : ∀ i, i < N → fM N a S i j = fs (fun u => S i u * b u) N) : ∀ i, i < N → fM N (fM N T a) S i j = b i := by
  obtain ⟨s1, t1, e1, e2⟩ := h
  intro i hi
  rw [fM_assoc hN]
  have : fM N T (fM N a S) i j = fM N T (fM N S (fun u _ => b u)) i j := by
    refine fs_cong N (fun t ht => ?_)
    rw [e t ht]; rfl
  rw [this, ← fM_assoc hN, e2, fM_eqL _ (idn_eq N) hi]
  exact fM_idL hN _ hi
theorem mx_lin (N : Nat) (x : Nat → Fin 5) : fEq N (mx N x) (mx N x) := fun _ _ _ _ => rfl
def vec (N : Nat) (X : Nat → Nat → Fin 5) : Nat → Fin 5 := fun t => X (t / N) (t % N)
theorem mx_vec {N : Nat} (X : Nat → Nat → Fin 5) : fEq N (mx N (vec N X)) X := by
  intro i j hi hj
  show X ((N * i + j) / N) ((N * i + j) % N) = X i j
  rw [Nat.mul_add_div (by omega), Nat.div_eq_of_lt hj, Nat.mul_add_mod, Nat.mod_eq_of_lt hj, Nat.add_zero]
def res (N : Nat) (X : Nat → Nat → Fin 5) : Nat → Nat → Fin 5 := fun i j => if i < N ∧ j < N then X i j else 0
theorem sp_res (N : Nat) (X : Nat → Nat → Fin 5) : sp N (res N X) := fun _ _ h => if_neg h
theorem res_eq (N : Nat) (X : Nat → Nat → Fin 5) : fEq N (res N X) X := fun _ _ hi hj => if_pos ⟨hi, hj⟩
theorem comm_res {N : Nat} {a : Nat → Nat → Fin 5} (ha : sp N a) (x : Nat → Fin 5) : comm N a x ↔ fM N a (res N (mx N x)) = fM N (res N (mx N x)) a := by
  refine ⟨fun h => sp_ext (sp_M ha (sp_res _ _)) (sp_M (sp_res _ _) ha) (fun i j hi hj => ?_), fun h i j hi hj => ?_⟩
  · rw [fM_eqR a (res_eq N _) hj, fM_eqL a (res_eq N _) hi]; exact h i j hi hj
  · rw [← fM_eqR a (res_eq N (mx N x)) hj, ← fM_eqL a (res_eq N (mx N x)) hi, h]
theorem Dim_sim {N m : Nat} (hN : N ≤ 4) {a b : Nat → Nat → Fin 5} (ha : sp N a) (hb : sp N b) (h : Sim N a b) (hd : Dim (N * N) (comm N b) m) : Dim (N * N) (comm N a) m := by
  obtain ⟨S, T, ⟨s1, t1, e1, e2⟩, eab⟩ := h
  have eba : b = fM N (fM N T a) S := by
    rw [eab, ← M_as hN T, ← M_as hN T, e2, M_idL hN hb, M_as hN b, e2, M_idR hN hb]
  have conj : ∀ (U V c c' : Nat → Nat → Fin 5), sp N U → sp N V → sp N c → sp N c' → fM N U V = idn N → fM N V U = idn N → c' = fM N (fM N U c) V → ∀ x, comm N c x → comm N c' (vec N (fM N (fM N U (res N (mx N x))) V)) := by
    intro U V c c' hU hV hc hc' f1 f2 hcc x hx
    rw [comm_res hc] at hx
    rw [comm_res hc']
    have er : res N (mx N (vec N (fM N (fM N U (res N (mx N x))) V))) = fM N (fM N U (res N (mx N x))) V := by
      refine sp_ext (sp_res _ _) (sp_M (sp_M hU (sp_res _ _)) hV) (fun i j hi hj => ?_)
      rw [res_eq N _ i j hi hj]; exact mx_vec _ i j hi hj
    rw [er, hcc]
    generalize hY : res N (mx N x) = Y at *
    have hYs : sp N Y := by rw [← hY]; exact sp_res _ _
    have l1 : fM N (fM N (fM N U c) V) (fM N (fM N U Y) V) = fM N (fM N U (fM N c Y)) V := by
      rw [M_as hN (fM N U c), ← M_as hN V, ← M_as hN V, f2, M_idL hN hYs, M_as hN U c, ← M_as hN c, ← M_as hN U]
    have l2 : fM N (fM N (fM N U Y) V) (fM N (fM N U c) V) = fM N (fM N U (fM N Y c)) V := by
      rw [M_as hN (fM N U Y), ← M_as hN V, ← M_as hN V, f2, M_idL hN hc, M_as hN U Y, ← M_as hN Y, ← M_as hN U]
    rw [l1, l2, hx]
  have inj : ∀ (U V : Nat → Nat → Fin 5), sp N U → sp N V → fM N U V = idn N → fM N V U = idn N → ∀ x y, eqn (N * N) (vec N (fM N (fM N U (res N (mx N x))) V)) (vec N (fM N (fM N U (res N (mx N y))) V)) → eqn (N * N) x y := by
    intro U V hU hV f1 f2 x y hxy
    have hX := sp_res N (mx N x)
    have hY := sp_res N (mx N y)
    have e3 : fM N (fM N U (res N (mx N x))) V = fM N (fM N U (res N (mx N y))) V := by
      refine sp_ext (sp_M (sp_M hU hX) hV) (sp_M (sp_M hU hY) hV) (fun i j hi hj => ?_)
      rw [← mx_vec (fM N (fM N U (res N (mx N x))) V) i j hi hj, ← mx_vec (fM N (fM N U (res N (mx N y))) V) i j hi hj]
      exact hxy _ (zi_lt hi hj)
    have back : ∀ Z, sp N Z → fM N (fM N V (fM N (fM N U Z) V)) U = Z := by
      intro Z hZ
      rw [← M_as hN V, ← M_as hN V, f2, M_idL hN hZ, M_as hN Z, f2, M_idR hN hZ]
    have e4 : res N (mx N x) = res N (mx N y) := by
      rw [← back _ hX, ← back _ hY, e3]
    intro t ht
    obtain ⟨i, j, hi, hj, rfl⟩ := zij ht
    have := congrFun (congrFun e4 i) j
    rw [res_eq N _ i j hi hj, res_eq N _ i j hi hj] at this
    exact this
  obtain ⟨⟨f, f1, f2⟩, ⟨q, q1, q2⟩⟩ := hd
  refine ⟨⟨fun t => vec N (fM N (fM N S (res N (mx N (f t)))) T), fun t ht => conj S T b a s1 t1 hb ha e1 e2 eab _ (f1 t ht), fun t t' ht ht' z => f2 t t' ht ht' (inj S T s1 t1 e1 e2 _ _ z)⟩,
    ⟨fun x => q (vec N (fM N (fM N T (res N (mx N x))) S)), fun x hx => q1 _ (conj T S a b t1 s1 ha hb e2 e1 eba x hx), fun x y hx hy z => inj T S t1 s1 e2 e1 _ _ (q2 _ _ (conj T S a b t1 s1 ha hb e2 e1 eba x hx) (conj T S a b t1 s1 ha hb e2 e1 eba y hy) z)⟩⟩
