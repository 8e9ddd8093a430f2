/-! sets of vectors with 5^m elements; the rank of a list of rows -/
def eqn (n : Nat) (x y : Nat → Fin 5) : Prop := ∀ i, i < n → x i = y i
def Dim (n : Nat) (S : (Nat → Fin 5) → Prop) (m : Nat) : Prop :=
  (∃ f : Nat → (Nat → Fin 5), (∀ a, a < 5 ^ m → S (f a)) ∧ ∀ a b, a < 5 ^ m → b < 5 ^ m → eqn n (f a) (f b) → a = b) ∧
  (∃ h : (Nat → Fin 5) → Nat, (∀ x, S x → h x < 5 ^ m) ∧ ∀ x y, S x → S y → h x = h y → eqn n x y)
theorem Dim_le {n : Nat} {S : (Nat → Fin 5) → Prop} {m m' : Nat} (h : Dim n S m) (h' : Dim n S m') : m ≤ m' := by
  refine Nat.le_of_not_lt (fun z => ?_)
  obtain ⟨⟨f, f1, f2⟩, _⟩ := h
  obtain ⟨_, ⟨q, q1, q2⟩⟩ := h'
  have hp : 5 ^ m' < 5 ^ m := Nat.pow_lt_pow_right (by decide) z
  obtain ⟨i, j, hij, hj, e⟩ := pig (5 ^ m') (fun i => q (f i)) (fun i hi => q1 _ (f1 i (by omega)))
  have := f2 i j (by omega) (by omega) (q2 _ _ (f1 i (by omega)) (f1 j (by omega)) e)
  omega
theorem Dim_u {n : Nat} {S : (Nat → Fin 5) → Prop} {m m' : Nat} (h : Dim n S m) (h' : Dim n S m') : m = m' :=
  Nat.le_antisymm (Dim_le h h') (Dim_le h' h)
def vsh (x : Nat → Fin 5) : Nat → Fin 5 := fun i => x (i + 1)
def vco (v : Fin 5) (x : Nat → Fin 5) : Nat → Fin 5
  | 0 => v
  | i + 1 => x i
theorem vsh_co (v : Fin 5) (x : Nat → Fin 5) : vsh (vco v x) = x := rfl
theorem val_ad {a b : Fin 5} {p q : Nat} (h : a.val + 5 * p = b.val + 5 * q) : a = b ∧ p = q := by
  have := a.isLt
  have := b.isLt
  exact ⟨Fin.ext (by omega), by omega⟩
theorem p5s {a m : Nat} (h : a < 5 ^ (m + 1)) : a / 5 < 5 ^ m := by
  rw [Nat.pow_succ] at h
  omega
theorem kk_mod_inj {a b : Nat} (h : kk (a % 5) = kk (b % 5)) : a % 5 = b % 5 := kk_inj (Nat.mod_lt _ (by decide)) (Nat.mod_lt _ (by decide)) h
theorem Dim_free {c m : Nat} {S S' : (Nat → Fin 5) → Prop} (e : ∀ x, S' x ↔ S (vsh x)) (h : Dim c S m) : Dim (c + 1) S' (m + 1) := by
  obtain ⟨⟨f, f1, f2⟩, ⟨q, q1, q2⟩⟩ := h
  refine ⟨⟨fun a => vco (kk (a % 5)) (f (a / 5)), fun a ha => (e _).mpr (f1 _ (p5s ha)), fun a b ha hb z => ?_⟩, ⟨fun x => (x 0).val + 5 * q (vsh x), fun x hx => ?_, fun x y hx hy z => ?_⟩⟩
  · have z0 : a % 5 = b % 5 := kk_mod_inj (z 0 (by omega))
    have z1 := f2 _ _ (p5s ha) (p5s hb) (fun i hi => z (i + 1) (by omega))
    omega
  · have := q1 _ ((e x).mp hx)
    have := (x 0).isLt
    show (x 0).val + 5 * q (vsh x) < 5 ^ (m + 1)
    rw [Nat.pow_succ]; omega
  · obtain ⟨z0, z1⟩ := val_ad z
    have z2 := q2 _ _ ((e x).mp hx) ((e y).mp hy) z1
    intro i hi
    cases i with
    | zero => exact z0
    | succ i => exact z2 i (by omega)
theorem Dim_det {c m : Nat} {S S' : (Nat → Fin 5) → Prop} (l : (Nat → Fin 5) → Fin 5) (hl : ∀ x y, eqn c x y → l x = l y) (e : ∀ x, S' x ↔ x 0 = l (vsh x) ∧ S (vsh x)) (h : Dim c S m) : Dim (c + 1) S' m := by
  obtain ⟨⟨f, f1, f2⟩, ⟨q, q1, q2⟩⟩ := h
  refine ⟨⟨fun a => vco (l (f a)) (f a), fun a ha => (e _).mpr ⟨rfl, f1 a ha⟩, fun a b ha hb z => ?_⟩, ⟨fun x => q (vsh x), fun x hx => q1 _ ((e x).mp hx).2, fun x y hx hy z => ?_⟩⟩
  · exact f2 _ _ ha hb (fun i hi => z (i + 1) (by omega))
  · have z2 := q2 _ _ ((e x).mp hx).2 ((e y).mp hy).2 z
    intro i hi
    cases i with
    | zero => rw [((e x).mp hx).1, ((e y).mp hy).1, hl _ _ z2]
    | succ i => exact z2 i (by omega)
theorem Dim_iff {n m : Nat} {S S' : (Nat → Fin 5) → Prop} (e : ∀ x, S' x ↔ S x) (h : Dim n S m) : Dim n S' m := by
  obtain ⟨⟨f, f1, f2⟩, ⟨q, q1, q2⟩⟩ := h
  exact ⟨⟨f, fun a ha => (e _).mpr (f1 a ha), f2⟩, ⟨q, fun x hx => q1 x ((e x).mp hx), fun x y hx hy z => q2 x y ((e x).mp hx) ((e y).mp hy) z⟩⟩
theorem Dim_all : ∀ n, Dim n (fun _ => True) n := by
  intro n
  induction n with
  | zero => exact ⟨⟨fun _ => fun _ => 0, fun _ _ => trivial, fun a b ha hb _ => by rw [Nat.pow_zero] at ha hb; omega⟩, ⟨fun _ => 0, fun _ _ => Nat.pow_pos (by decide), fun x y _ _ _ i hi => absurd hi (by omega)⟩⟩
  | succ n ih => exact Dim_free (fun _ => Iff.rfl) ih
/-- one coordinate changed -/
def vad (x : Nat → Fin 5) (p : Nat) (c : Fin 5) : Nat → Fin 5 := fun i => if i = p then x i + c else x i
theorem Dim_up {n m p : Nat} {S S' : (Nat → Fin 5) → Prop} (l : (Nat → Fin 5) → Fin 5) (hl : ∀ x y, eqn n x y → l x = l y) (u1 : ∀ x c, S x → S' (vad x p c)) (u2 : ∀ x, S' x → S (vad x p (- l x))) (u3 : ∀ x c, S x → l (vad x p c) = c) (h : Dim n S m) : Dim n S' (m + 1) := by
  obtain ⟨⟨f, f1, f2⟩, ⟨q, q1, q2⟩⟩ := h
  refine ⟨⟨fun a => vad (f (a / 5)) p (kk (a % 5)), fun a ha => u1 _ _ (f1 _ (p5s ha)), fun a b ha hb z => ?_⟩, ⟨fun x => (l x).val + 5 * q (vad x p (- l x)), fun x hx => ?_, fun x y hx hy z => ?_⟩⟩
  · have s1 := f1 _ (p5s ha)
    have s2 := f1 _ (p5s hb)
    have z0 : kk (a % 5) = kk (b % 5) := by
      have := hl _ _ z
      rwa [u3 _ _ s1, u3 _ _ s2] at this
    have z1 : a % 5 = b % 5 := kk_mod_inj z0
    have z2 := f2 _ _ (p5s ha) (p5s hb) (fun i hi => by
      have := z i hi
      dsimp only [vad] at this
      rw [z0] at this
      by_cases e : i = p
      · rw [if_pos e, if_pos e] at this; grind
      · rw [if_neg e, if_neg e] at this; exact this)
    omega
  · have := q1 _ (u2 x hx)
    have := (l x).isLt
    show (l x).val + 5 * q (vad x p (- l x)) < 5 ^ (m + 1)
    rw [Nat.pow_succ]; omega
  · obtain ⟨z0, z1⟩ := val_ad z
    have z2 := q2 _ _ (u2 x hx) (u2 y hy) z1
    intro i hi
    have := z2 i hi
    dsimp only [vad] at this
    rw [z0] at this
    by_cases e : i = p
    · rw [if_pos e, if_pos e] at this; grind
    · rw [if_neg e, if_neg e] at this; exact this
/-- a row times a vector -/
def dotl : List Nat → (Nat → Fin 5) → Fin 5
  | [], _ => 0
  | a :: t, x => kk a * x 0 + dotl t (vsh x)
theorem dotl_eq : ∀ (r : List Nat) (x y : Nat → Fin 5), eqn r.length x y → dotl r x = dotl r y := by
  intro r
  induction r with
  | nil => intro x y _; rfl
  | cons a t ih =>
    intro x y h
    show kk a * x 0 + dotl t (vsh x) = kk a * y 0 + dotl t (vsh y)
    rw [h 0 (by show 0 < t.length + 1; omega), ih (vsh x) (vsh y) (fun i hi => h (i + 1) (by show i + 1 < t.length + 1; omega))]
def tl (r : List Nat) : List Nat := match r with
  | [] => []
  | _ :: t => t
def hd (r : List Nat) : Nat := match r with
  | [] => 0
  | a :: _ => a
def addl (c : Nat) : List Nat → List Nat → List Nat
  | a :: s, b :: t => (a + c * b) % 5 :: addl c s t
  | _, _ => []
theorem addl_len (c : Nat) : ∀ (s t : List Nat), s.length = t.length → (addl c s t).length = s.length := by
  intro s
  induction s with
  | nil => intro t _; rfl
  | cons a s ih =>
    intro t h
    cases t with
    | nil => cases h
    | cons b t =>
      show (addl c s t).length + 1 = s.length + 1
      rw [ih t (by simpa using h)]
theorem addl_dot (c : Nat) : ∀ (s t : List Nat) (x : Nat → Fin 5), s.length = t.length → dotl (addl c s t) x = dotl s x + kk c * dotl t x := by
  intro s
  induction s with
  | nil =>
    intro t x h
    cases t with
    | nil => show (0 : Fin 5) = 0 + kk c * 0; grind
    | cons b t => cases h
  | cons a s ih =>
    intro t x h
    cases t with
    | nil => cases h
    | cons b t =>
      show kk ((a + c * b) % 5) * x 0 + dotl (addl c s t) (vsh x) = kk a * x 0 + dotl s (vsh x) + kk c * (kk b * x 0 + dotl t (vsh x))
      rw [ih t (vsh x) (by simpa using h), kk_mod, kk_add, kk_mul]; grind
def pick : List (List Nat) → Option (List Nat)
  | [] => none
  | r :: l => if hd r % 5 = 0 then pick l else some r
def elm (p : List Nat) (r : List Nat) : List Nat := if hd r % 5 = 0 then tl r else addl ((5 - hd r % 5) * (hd p * hd p * hd p % 5)) (tl r) (tl p)
def rankL : Nat → List (List Nat) → Nat
  | 0, _ => 0
  | c + 1, l => match pick l with
    | none => rankL c (l.map tl)
    | some p => rankL c (l.map (elm p)) + 1
theorem pick_n : ∀ l, pick l = none → ∀ r, r ∈ l → hd r % 5 = 0 := by
  intro l
  induction l with
  | nil => intro _ r hr; cases hr
  | cons a l ih =>
    intro h r hr
    have W : pick (a :: l) = if hd a % 5 = 0 then pick l else some a := rfl
    rw [W] at h
    by_cases e : hd a % 5 = 0
    · rw [if_pos e] at h
      cases hr with
      | head => exact e
      | tail _ hr => exact ih h r hr
    · rw [if_neg e] at h; cases h
theorem pick_s : ∀ l p, pick l = some p → p ∈ l ∧ hd p % 5 ≠ 0 := by
  intro l
  induction l with
  | nil => intro p h; cases h
  | cons a l ih =>
    intro p h
    have W : pick (a :: l) = if hd a % 5 = 0 then pick l else some a := rfl
    rw [W] at h
    by_cases e : hd a % 5 = 0
    · rw [if_pos e] at h
      obtain ⟨h1, h2⟩ := ih p h
      exact ⟨List.mem_cons_of_mem _ h1, h2⟩
    · rw [if_neg e] at h
      cases h
      exact ⟨List.mem_cons_self, e⟩
def kerl (l : List (List Nat)) (x : Nat → Fin 5) : Prop := ∀ r, r ∈ l → dotl r x = 0
theorem dot_hd {c : Nat} {r : List Nat} (h : r.length = c + 1) (x : Nat → Fin 5) : dotl r x = kk (hd r) * x 0 + dotl (tl r) (vsh x) ∧ (tl r).length = c := by
  cases r with
  | nil => cases h
  | cons a t => exact ⟨rfl, by simpa [tl] using h⟩
theorem rankL_D : ∀ c l, (∀ r, r ∈ l → r.length = c) → ∃ m, m + rankL c l = c ∧ Dim c (kerl l) m := by
  intro c
  induction c with
  | zero =>
    intro l hl
    refine ⟨0, rfl, Dim_iff (S := fun _ => True) (fun x => ⟨fun _ => trivial, fun _ r hr => ?_⟩) (Dim_all 0)⟩
    have := hl r hr
    cases r with
    | nil => rfl
    | cons a t => cases this
  | succ c ih =>
    intro l hl
    have W : rankL (c + 1) l = (match pick l with
      | none => rankL c (l.map tl)
      | some p => rankL c (l.map (elm p)) + 1) := rfl
    cases hp : pick l with
    | none =>
      rw [hp] at W
      have hz := pick_n l hp
      obtain ⟨m, m1, m2⟩ := ih (l.map tl) (fun r hr => by
        obtain ⟨r', h1, rfl⟩ := List.mem_map.mp hr
        exact (dot_hd (hl r' h1) (fun _ => 0)).2)
      refine ⟨m + 1, by rw [W]; show m + 1 + rankL c (l.map tl) = c + 1; omega, Dim_free (fun x => ?_) m2⟩
      have key : ∀ r, r ∈ l → dotl r x = dotl (tl r) (vsh x) := by
        intro r hr
        rw [(dot_hd (hl r hr) x).1, ← kk_mod (hd r), hz r hr, kk_0]; grind
      refine ⟨fun h r hr => ?_, fun h r hr => ?_⟩
      · obtain ⟨r', h1, rfl⟩ := List.mem_map.mp hr
        rw [← key r' h1]; exact h r' h1
      · rw [key r hr]; exact h _ (List.mem_map.mpr ⟨r, hr, rfl⟩)
    | some p =>
      rw [hp] at W
      obtain ⟨p1, p2⟩ := pick_s l p hp
      have pl := hl p p1
      have pt := (dot_hd pl (fun _ => 0)).2
      have kn : kk (hd p) ≠ 0 := by
        intro z
        rw [← kk_mod] at z
        exact p2 (kk_inj (Nat.mod_lt _ (by decide)) (by decide) z)
      have kinv := inv_k kn
      obtain ⟨m, m1, m2⟩ := ih (l.map (elm p)) (fun r hr => by
        obtain ⟨r', h1, rfl⟩ := List.mem_map.mp hr
        have ht := (dot_hd (hl r' h1) (fun _ => 0)).2
        unfold elm
        split
        · exact ht
        · rw [addl_len _ _ _ (by rw [ht, pt]), ht])
      refine ⟨m, by rw [W]; show m + (rankL c (l.map (elm p)) + 1) = c + 1; omega, ?_⟩
      refine Dim_det (fun y => - (kk (hd p * hd p * hd p % 5) * dotl (tl p) y)) (fun x y h => ?_) (fun x => ?_) m2
      · rw [dotl_eq (tl p) x y (by rw [pt]; exact h)]
      · have hx0 : dotl p x = 0 ↔ x 0 = - (kk (hd p * hd p * hd p % 5) * dotl (tl p) (vsh x)) := by
          rw [(dot_hd pl x).1]
          refine ⟨fun h => ?_, fun h => ?_⟩
          · have : kk (hd p * hd p * hd p % 5) * (kk (hd p) * x 0 + dotl (tl p) (vsh x)) = 0 := by rw [h]; grind
            grind
          · rw [h]; grind
        have key : ∀ r, r ∈ l → dotl p x = 0 → (dotl r x = 0 ↔ dotl (elm p r) (vsh x) = 0) := by
          intro r hr hp0
          have hx := hx0.mp hp0
          obtain ⟨d1, d2⟩ := dot_hd (hl r hr) x
          unfold elm
          by_cases e : hd r % 5 = 0
          · rw [if_pos e, d1, ← kk_mod (hd r), e, kk_0]
            refine ⟨fun h => by grind, fun h => by grind⟩
          · rw [if_neg e, d1, addl_dot _ _ _ _ (by rw [d2, pt]), kk_mul, kk_5s (by have := Nat.mod_lt (hd r) (show 5 > 0 by decide); omega), kk_mod (hd r), hx]
            refine ⟨fun h => by grind, fun h => by grind⟩
        refine ⟨fun h => ⟨hx0.mp (h p p1), fun r hr => ?_⟩, fun h r hr => ?_⟩
        · obtain ⟨r', h1, rfl⟩ := List.mem_map.mp hr
          exact (key r' h1 (h p p1)).mp (h r' h1)
        · exact (key r hr (hx0.mpr h.1)).mpr (h.2 _ (List.mem_map.mpr ⟨r, hr, rfl⟩))
