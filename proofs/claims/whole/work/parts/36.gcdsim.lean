/-! the minors' common divisors of similar matrices -/
def lin (Q : (Fin 5 → Fin 5) → Prop) : Prop := Q (fun _ => 0) ∧ ∀ q r c, Q q → Q r → Q (fun w => q w + c * r w)
theorem lin_neg {Q : (Fin 5 → Fin 5) → Prop} (h : lin Q) {q : Fin 5 → Fin 5} (hq : Q q) : Q (fun w => - q w) := by
  have := h.2 _ q 4 h.1 hq
  have e : (fun w => (0 : Fin 5) + 4 * q w) = (fun w => - q w) := by funext w; grind
  rwa [e] at this
theorem lin_fs {Q : (Fin 5 → Fin 5) → Prop} (h : lin Q) (s : Nat → Fin 5) (q : Nat → Fin 5 → Fin 5) : ∀ n, (∀ t, t < n → Q (q t)) → Q (fun w => fs (fun t => s t * q t w) n) := by
  intro n
  induction n with
  | zero => intro _; exact h.1
  | succ n ih =>
    intro hq
    exact h.2 _ (q n) (s n) (ih (fun t ht => hq t (by omega))) (hq n (by omega))
theorem d3_s1 (s : Nat → Fin 5) (U : Nat → Nat → Fin 5) (v z : Nat → Fin 5) (c1 c2 c3 : Nat) : ∀ n, d3 (fun c => fs (fun t => s t * U t c) n) v z c1 c2 c3 = fs (fun t => s t * d3 (U t) v z c1 c2 c3) n := by
  intro n
  induction n with
  | zero => show d3 (fun _ => 0) v z c1 c2 c3 = 0; simp only [d3]; grind
  | succ n ih =>
    show d3 (fun c => fs (fun t => s t * U t c) n + s n * U n c) v z c1 c2 c3 = fs (fun t => s t * d3 (U t) v z c1 c2 c3) n + s n * d3 (U n) v z c1 c2 c3
    rw [← ih]; simp only [d3]; grind
theorem d3_12 (u v z : Nat → Fin 5) (c1 c2 c3 : Nat) : d3 v u z c1 c2 c3 = - d3 u v z c1 c2 c3 := by simp only [d3]; grind
theorem d3_23 (u v z : Nat → Fin 5) (c1 c2 c3 : Nat) : d3 u z v c1 c2 c3 = - d3 u v z c1 c2 c3 := by simp only [d3]; grind
theorem d3_e12 (u z : Nat → Fin 5) (c1 c2 c3 : Nat) : d3 u u z c1 c2 c3 = 0 := by simp only [d3]; grind
theorem d3_e23 (u v : Nat → Fin 5) (c1 c2 c3 : Nat) : d3 u v v c1 c2 c3 = 0 := by simp only [d3]; grind
theorem d3_t (M : Nat → Nat → Fin 5) (r1 r2 r3 c1 c2 c3 : Nat) : d3 (fun c => M c r1) (fun c => M c r2) (fun c => M c r3) c1 c2 c3 = d3 (M c1) (M c2) (M c3) r1 r2 r3 := by simp only [d3]; grind
theorem d2_s1 (s : Nat → Fin 5) (U : Nat → Nat → Fin 5) (v : Nat → Fin 5) (c1 c2 : Nat) : ∀ n, d2 (fun c => fs (fun t => s t * U t c) n) v c1 c2 = fs (fun t => s t * d2 (U t) v c1 c2) n := by
  intro n
  induction n with
  | zero => show d2 (fun _ => 0) v c1 c2 = 0; simp only [d2]; grind
  | succ n ih =>
    show d2 (fun c => fs (fun t => s t * U t c) n + s n * U n c) v c1 c2 = fs (fun t => s t * d2 (U t) v c1 c2) n + s n * d2 (U n) v c1 c2
    rw [← ih]; simp only [d2]; grind
theorem d2_12 (u v : Nat → Fin 5) (c1 c2 : Nat) : d2 v u c1 c2 = - d2 u v c1 c2 := by simp only [d2]; grind
theorem d2_e (u : Nat → Fin 5) (c1 c2 : Nat) : d2 u u c1 c2 = 0 := by simp only [d2]; grind
theorem d2_t (M : Nat → Nat → Fin 5) (r1 r2 c1 c2 : Nat) : d2 (fun c => M c r1) (fun c => M c r2) c1 c2 = d2 (M c1) (M c2) r1 r2 := by simp only [d2]; grind
def AT1 (Q : (Fin 5 → Fin 5) → Prop) (N : Nat) (M : Fin 5 → Nat → Nat → Fin 5) : Prop := ∀ r c, r < N → c < N → Q (fun w => M w r c)
def AT2 (Q : (Fin 5 → Fin 5) → Prop) (N : Nat) (M : Fin 5 → Nat → Nat → Fin 5) : Prop := ∀ r1 r2, r1 < N → r2 < N → ∀ c1 c2, c1 < N → c2 < N → Q (fun w => d2 (M w r1) (M w r2) c1 c2)
def AT3 (Q : (Fin 5 → Fin 5) → Prop) (N : Nat) (M : Fin 5 → Nat → Nat → Fin 5) : Prop := ∀ r1 r2 r3, r1 < N → r2 < N → r3 < N → ∀ c1 c2 c3, c1 < N → c2 < N → c3 < N → Q (fun w => d3 (M w r1) (M w r2) (M w r3) c1 c2 c3)
theorem at1_row {Q : (Fin 5 → Fin 5) → Prop} (hQ : lin Q) {N : Nat} {M : Fin 5 → Nat → Nat → Fin 5} (S : Nat → Nat → Fin 5) (h : AT1 Q N M) : AT1 Q N (fun w => fM N S (M w)) :=
  fun r c _ hc => lin_fs hQ (S r) (fun t w => M w t c) N (fun t ht => h t c ht hc)
theorem at2_row {Q : (Fin 5 → Fin 5) → Prop} (hQ : lin Q) {N : Nat} {M : Fin 5 → Nat → Nat → Fin 5} (S : Nat → Nat → Fin 5) (h : AT2 Q N M) : AT2 Q N (fun w => fM N S (M w)) := by
  have s1 : ∀ r1 r2, r2 < N → ∀ c1 c2, c1 < N → c2 < N → Q (fun w => d2 (fM N S (M w) r1) (M w r2) c1 c2) := by
    intro r1 r2 h2 c1 c2 hc1 hc2
    have e : (fun w => d2 (fM N S (M w) r1) (M w r2) c1 c2) = (fun w => fs (fun t => S r1 t * d2 (M w t) (M w r2) c1 c2) N) := by
      funext w; exact d2_s1 (S r1) (M w) (M w r2) c1 c2 N
    rw [e]
    exact lin_fs hQ (S r1) (fun t w => d2 (M w t) (M w r2) c1 c2) N (fun t ht => h t r2 ht h2 c1 c2 hc1 hc2)
  intro r1 r2 _ _ c1 c2 hc1 hc2
  have e : (fun w => d2 (fM N S (M w) r1) (fM N S (M w) r2) c1 c2) = (fun w => - fs (fun t => S r2 t * d2 (M w t) (fM N S (M w) r1) c1 c2) N) := by
    funext w
    rw [d2_12, ← d2_s1 (S r2) (M w) (fM N S (M w) r1) c1 c2 N]; rfl
  rw [e]
  refine lin_neg hQ (lin_fs hQ (S r2) (fun t w => d2 (M w t) (fM N S (M w) r1) c1 c2) N (fun t ht => ?_))
  have e2 : (fun w => d2 (M w t) (fM N S (M w) r1) c1 c2) = (fun w => - d2 (fM N S (M w) r1) (M w t) c1 c2) := by
    funext w; exact d2_12 _ _ _ _
  rw [e2]
  exact lin_neg hQ (s1 r1 t ht c1 c2 hc1 hc2)
theorem at3_row {Q : (Fin 5 → Fin 5) → Prop} (hQ : lin Q) {N : Nat} {M : Fin 5 → Nat → Nat → Fin 5} (S : Nat → Nat → Fin 5) (h : AT3 Q N M) : AT3 Q N (fun w => fM N S (M w)) := by
  have s1 : ∀ r1 r2 r3, r2 < N → r3 < N → ∀ c1 c2 c3, c1 < N → c2 < N → c3 < N → Q (fun w => d3 (fM N S (M w) r1) (M w r2) (M w r3) c1 c2 c3) := by
    intro r1 r2 r3 h2 h3 c1 c2 c3 hc1 hc2 hc3
    have e : (fun w => d3 (fM N S (M w) r1) (M w r2) (M w r3) c1 c2 c3) = (fun w => fs (fun t => S r1 t * d3 (M w t) (M w r2) (M w r3) c1 c2 c3) N) := by
      funext w; exact d3_s1 (S r1) (M w) (M w r2) (M w r3) c1 c2 c3 N
    rw [e]
    exact lin_fs hQ (S r1) (fun t w => d3 (M w t) (M w r2) (M w r3) c1 c2 c3) N (fun t ht => h t r2 r3 ht h2 h3 c1 c2 c3 hc1 hc2 hc3)
  have s2 : ∀ r1 r2 r3, r3 < N → ∀ c1 c2 c3, c1 < N → c2 < N → c3 < N → Q (fun w => d3 (fM N S (M w) r1) (fM N S (M w) r2) (M w r3) c1 c2 c3) := by
    intro r1 r2 r3 h3 c1 c2 c3 hc1 hc2 hc3
    have e : (fun w => d3 (fM N S (M w) r1) (fM N S (M w) r2) (M w r3) c1 c2 c3) = (fun w => - fs (fun t => S r2 t * d3 (M w t) (fM N S (M w) r1) (M w r3) c1 c2 c3) N) := by
      funext w
      rw [d3_12, ← d3_s1 (S r2) (M w) (fM N S (M w) r1) (M w r3) c1 c2 c3 N]; rfl
    rw [e]
    refine lin_neg hQ (lin_fs hQ (S r2) (fun t w => d3 (M w t) (fM N S (M w) r1) (M w r3) c1 c2 c3) N (fun t ht => ?_))
    have e2 : (fun w => d3 (M w t) (fM N S (M w) r1) (M w r3) c1 c2 c3) = (fun w => - d3 (fM N S (M w) r1) (M w t) (M w r3) c1 c2 c3) := by
      funext w; exact d3_12 _ _ _ _ _ _
    rw [e2]
    exact lin_neg hQ (s1 r1 t r3 ht h3 c1 c2 c3 hc1 hc2 hc3)
  intro r1 r2 r3 _ _ _ c1 c2 c3 hc1 hc2 hc3
  have e : (fun w => d3 (fM N S (M w) r1) (fM N S (M w) r2) (fM N S (M w) r3) c1 c2 c3) = (fun w => fs (fun t => S r3 t * d3 (M w t) (fM N S (M w) r1) (fM N S (M w) r2) c1 c2 c3) N) := by
    funext w
    rw [← d3_s1 (S r3) (M w) (fM N S (M w) r1) (fM N S (M w) r2) c1 c2 c3 N]
    show d3 (fM N S (M w) r1) (fM N S (M w) r2) (fM N S (M w) r3) c1 c2 c3 = d3 (fM N S (M w) r3) (fM N S (M w) r1) (fM N S (M w) r2) c1 c2 c3
    simp only [d3]; grind
  rw [e]
  refine lin_fs hQ (S r3) (fun t w => d3 (M w t) (fM N S (M w) r1) (fM N S (M w) r2) c1 c2 c3) N (fun t ht => ?_)
  have e2 : (fun w => d3 (M w t) (fM N S (M w) r1) (fM N S (M w) r2) c1 c2 c3) = (fun w => d3 (fM N S (M w) r1) (fM N S (M w) r2) (M w t) c1 c2 c3) := by
    funext w; simp only [d3]; grind
  rw [e2]
  exact s2 r1 r2 t ht c1 c2 c3 hc1 hc2 hc3
theorem fM_t (N : Nat) (X T : Nat → Nat → Fin 5) (i j : Nat) : fM N X T j i = fM N (fun i j => T j i) (fun i j => X j i) i j := by
  unfold fM
  exact fs_cong N (fun t _ => by grind)
theorem at1_col {Q : (Fin 5 → Fin 5) → Prop} (hQ : lin Q) {N : Nat} {M : Fin 5 → Nat → Nat → Fin 5} (T : Nat → Nat → Fin 5) (h : AT1 Q N M) : AT1 Q N (fun w => fM N (M w) T) := by
  intro r c hr hc
  have := at1_row hQ (M := fun w i j => M w j i) (fun i j => T j i) (fun r c hr hc => h c r hc hr) c r hc hr
  have e : (fun w => fM N (M w) T r c) = (fun w => fM N (fun i j => T j i) (fun i j => M w j i) c r) := by
    funext w; exact fM_t N (M w) T c r
  rw [e]; exact this
theorem at2_col {Q : (Fin 5 → Fin 5) → Prop} (hQ : lin Q) {N : Nat} {M : Fin 5 → Nat → Nat → Fin 5} (T : Nat → Nat → Fin 5) (h : AT2 Q N M) : AT2 Q N (fun w => fM N (M w) T) := by
  have h' : AT2 Q N (fun w i j => M w j i) := by
    intro r1 r2 hr1 hr2 c1 c2 hc1 hc2
    have e : (fun w => d2 (fun c => M w c r1) (fun c => M w c r2) c1 c2) = (fun w => d2 (M w c1) (M w c2) r1 r2) := by
      funext w; exact d2_t (M w) r1 r2 c1 c2
    show Q (fun w => d2 (fun c => M w c r1) (fun c => M w c r2) c1 c2)
    rw [e]; exact h c1 c2 hc1 hc2 r1 r2 hr1 hr2
  intro r1 r2 hr1 hr2 c1 c2 hc1 hc2
  have := at2_row hQ (fun i j => T j i) h' c1 c2 hc1 hc2 r1 r2 hr1 hr2
  have e : (fun w => d2 (fM N (M w) T r1) (fM N (M w) T r2) c1 c2) = (fun w => d2 (fM N (fun i j => T j i) (fun i j => M w j i) c1) (fM N (fun i j => T j i) (fun i j => M w j i) c2) r1 r2) := by
    funext w
    have e2 : fM N (fun i j => T j i) (fun i j => M w j i) = fun i j => fM N (M w) T j i := by
      funext i j; exact (fM_t N (M w) T i j).symm
    rw [e2]
    exact (d2_t (fM N (M w) T) c1 c2 r1 r2).symm
  rw [e]; exact this
theorem at3_col {Q : (Fin 5 → Fin 5) → Prop} (hQ : lin Q) {N : Nat} {M : Fin 5 → Nat → Nat → Fin 5} (T : Nat → Nat → Fin 5) (h : AT3 Q N M) : AT3 Q N (fun w => fM N (M w) T) := by
  have h' : AT3 Q N (fun w i j => M w j i) := by
    intro r1 r2 r3 hr1 hr2 hr3 c1 c2 c3 hc1 hc2 hc3
    have e : (fun w => d3 (fun c => M w c r1) (fun c => M w c r2) (fun c => M w c r3) c1 c2 c3) = (fun w => d3 (M w c1) (M w c2) (M w c3) r1 r2 r3) := by
      funext w; exact d3_t (M w) r1 r2 r3 c1 c2 c3
    show Q (fun w => d3 (fun c => M w c r1) (fun c => M w c r2) (fun c => M w c r3) c1 c2 c3)
    rw [e]; exact h c1 c2 c3 hc1 hc2 hc3 r1 r2 r3 hr1 hr2 hr3
  intro r1 r2 r3 hr1 hr2 hr3 c1 c2 c3 hc1 hc2 hc3
  have := at3_row hQ (fun i j => T j i) h' c1 c2 c3 hc1 hc2 hc3 r1 r2 r3 hr1 hr2 hr3
  have e : (fun w => d3 (fM N (M w) T r1) (fM N (M w) T r2) (fM N (M w) T r3) c1 c2 c3) = (fun w => d3 (fM N (fun i j => T j i) (fun i j => M w j i) c1) (fM N (fun i j => T j i) (fun i j => M w j i) c2) (fM N (fun i j => T j i) (fun i j => M w j i) c3) r1 r2 r3) := by
    funext w
    have e2 : fM N (fun i j => T j i) (fun i j => M w j i) = fun i j => fM N (M w) T j i := by
      funext i j; exact (fM_t N (M w) T i j).symm
    rw [e2]
    exact (d3_t (fM N (M w) T) c1 c2 c3 r1 r2 r3).symm
  rw [e]; exact this
theorem sort2 {N : Nat} {F : Nat → Nat → Prop} (hs : ∀ a b, a < b → b < N → F a b) (hw : ∀ a b, F a b → F b a) (he : ∀ a, F a a) : ∀ a b, a < N → b < N → F a b := by
  intro a b ha hb
  by_cases e : a = b
  · subst e; exact he a
  · by_cases l : a < b
    · exact hs a b l hb
    · exact hw b a (hs b a (by omega) ha)
theorem sort3 {N : Nat} {F : Nat → Nat → Nat → Prop} (hs : ∀ a b c, a < b → b < c → c < N → F a b c) (h12 : ∀ a b c, F a b c → F b a c) (h23 : ∀ a b c, F a b c → F a c b) (e12 : ∀ a c, F a a c) (e23 : ∀ a b, F a b b) : ∀ a b c, a < N → b < N → c < N → F a b c := by
  have first : ∀ a b c, a < b → b < N → c < N → F a b c := by
    intro a b c hab hb hc
    by_cases k1 : b < c
    · exact hs a b c hab k1 hc
    · by_cases k2 : c = b
      · subst k2; exact e23 a c
      · by_cases k3 : a < c
        · exact h23 a c b (hs a c b k3 (by omega) hb)
        · by_cases k4 : c = a
          · subst k4; exact h23 c c b (e12 c b)
          · exact h23 a c b (h12 c a b (hs c a b (by omega) hab hb))
  intro a b c ha hb hc
  by_cases e : a = b
  · subst e; exact e12 a c
  · by_cases l : a < b
    · exact first a b c l hb hc
    · exact h12 b a c (first b a c (by omega) ha hc)
theorem ms1 : ∀ N, N < 5 → ∀ a, a < N → 2 ^ a < 2 ^ N ∧ pc (2 ^ a) = 1 ∧ lo (2 ^ a) = a := by decide +kernel
theorem ms2 : ∀ N, N < 5 → ∀ b, b < N → ∀ a, a < b → 2 ^ a + 2 ^ b < 2 ^ N ∧ pc (2 ^ a + 2 ^ b) = 2 ∧ lo (2 ^ a + 2 ^ b) = a ∧ lo (rs (2 ^ a + 2 ^ b)) = b := by decide +kernel
theorem ms3a : ∀ N, N < 5 → ∀ c, c < N → ∀ b, b < c → ∀ a, a < b → 2 ^ a + 2 ^ b + 2 ^ c < 2 ^ N ∧ pc (2 ^ a + 2 ^ b + 2 ^ c) = 3 := by decide +kernel
theorem ms3b : ∀ c, c < 4 → ∀ b, b < c → ∀ a, a < b → lo (2 ^ a + 2 ^ b + 2 ^ c) = a ∧ lo (rs (2 ^ a + 2 ^ b + 2 ^ c)) = b ∧ lo (rs (rs (2 ^ a + 2 ^ b + 2 ^ c))) = c := by decide +kernel
theorem ms3 (N : Nat) (hN : N < 5) (c : Nat) (hc : c < N) (b : Nat) (hb : b < c) (a : Nat) (ha : a < b) : 2 ^ a + 2 ^ b + 2 ^ c < 2 ^ N ∧ pc (2 ^ a + 2 ^ b + 2 ^ c) = 3 ∧ lo (2 ^ a + 2 ^ b + 2 ^ c) = a ∧ lo (rs (2 ^ a + 2 ^ b + 2 ^ c)) = b ∧ lo (rs (rs (2 ^ a + 2 ^ b + 2 ^ c))) = c :=
  ⟨(ms3a N hN c hc b hb a ha).1, (ms3a N hN c hc b hb a ha).2, ms3b c (by omega) b hb a ha⟩
theorem lo1 : ∀ N, N < 5 → ∀ s, s < 2 ^ N → pc s = 1 → lo s < N := by decide +kernel
theorem lo2 : ∀ N, N < 5 → ∀ s, s < 2 ^ N → pc s = 2 → lo s < N ∧ lo (rs s) < N := by decide +kernel
theorem lo3 : ∀ N, N < 5 → ∀ s, s < 2 ^ N → pc s = 3 → lo s < N ∧ lo (rs s) < N ∧ lo (rs (rs s)) < N := by decide +kernel
/-- minors of M and of S M T -/
theorem cb {Q : (Fin 5 → Fin 5) → Prop} (hQ : lin Q) {N k : Nat} (hN : N ≤ 4) (hk1 : 1 ≤ k) (hk3 : k ≤ 3) {M : Fin 5 → Nat → Nat → Fin 5} (S T : Nat → Nat → Fin 5)
    (h : ∀ R C, R < 2 ^ N → C < 2 ^ N → pc R = k → pc C = k → Q (fun w => dtm (M w) k R C)) :
    ∀ R C, R < 2 ^ N → C < 2 ^ N → pc R = k → pc C = k → Q (fun w => dtm (fM N (fM N S (M w)) T) k R C) := by
  obtain ⟨w1, w2⟩ := pw2 N (by omega)
  match k, hk1, hk3 with
  | 1, _, _ =>
    have a1 : AT1 Q N M := by
      intro r c hr hc
      obtain ⟨m1, m2, m3⟩ := ms1 N (by omega) r hr
      obtain ⟨n1, n2, n3⟩ := ms1 N (by omega) c hc
      have := h (2 ^ r) (2 ^ c) m1 n1 m2 n2
      have e : (fun w => dtm (M w) 1 (2 ^ r) (2 ^ c)) = (fun w => M w r c) := by
        funext w; rw [dt_1 (M w) _ (by omega) m2 _ (by omega) n2, m3, n3]
      rwa [e] at this
    have a2 := at1_col hQ T (at1_row hQ S a1)
    intro R C hR hC e1 e2
    have e : (fun w => dtm (fM N (fM N S (M w)) T) 1 R C) = (fun w => fM N (fM N S (M w)) T (lo R) (lo C)) := by
      funext w; exact dt_1 _ R (by omega) e1 C (by omega) e2
    rw [e]
    exact a2 _ _ (lo1 N (by omega) R hR e1) (lo1 N (by omega) C hC e2)
  | 2, _, _ =>
    have a1 : AT2 Q N M := by
      refine sort2 (F := fun r1 r2 => ∀ c1 c2, c1 < N → c2 < N → Q (fun w => d2 (M w r1) (M w r2) c1 c2)) ?_ ?_ ?_
      · intro r1 r2 hr hr2
        obtain ⟨m1, m2, m3, m4⟩ := ms2 N (by omega) r2 hr2 r1 hr
        refine sort2 (F := fun c1 c2 => Q (fun w => d2 (M w r1) (M w r2) c1 c2)) ?_ ?_ ?_
        · intro c1 c2 hc hc2
          obtain ⟨n1, n2, n3, n4⟩ := ms2 N (by omega) c2 hc2 c1 hc
          have := h _ _ m1 n1 m2 n2
          have e : (fun w => dtm (M w) 2 (2 ^ r1 + 2 ^ r2) (2 ^ c1 + 2 ^ c2)) = (fun w => d2 (M w r1) (M w r2) c1 c2) := by
            funext w; rw [dt_2 (M w) _ (by omega) m2 _ (by omega) n2, m3, m4, n3, n4]
          rwa [e] at this
        · intro c1 c2 hq
          have e : (fun w => d2 (M w r1) (M w r2) c2 c1) = (fun w => - d2 (M w r1) (M w r2) c1 c2) := by
            funext w; simp only [d2]; grind
          rw [e]; exact lin_neg hQ hq
        · intro c1
          have e : (fun w => d2 (M w r1) (M w r2) c1 c1) = (fun _ => 0) := by
            funext w; simp only [d2]; grind
          rw [e]; exact hQ.1
      · intro r1 r2 hq c1 c2 hc1 hc2
        have e : (fun w => d2 (M w r2) (M w r1) c1 c2) = (fun w => - d2 (M w r1) (M w r2) c1 c2) := by
          funext w; exact d2_12 _ _ _ _
        rw [e]; exact lin_neg hQ (hq c1 c2 hc1 hc2)
      · intro r1 c1 c2 _ _
        have e : (fun w => d2 (M w r1) (M w r1) c1 c2) = (fun _ => 0) := by
          funext w; exact d2_e _ _ _
        rw [e]; exact hQ.1
    have a2 := at2_col hQ T (at2_row hQ S a1)
    intro R C hR hC e1 e2
    have e : (fun w => dtm (fM N (fM N S (M w)) T) 2 R C) = (fun w => d2 (fM N (fM N S (M w)) T (lo R)) (fM N (fM N S (M w)) T (lo (rs R))) (lo C) (lo (rs C))) := by
      funext w; exact dt_2 _ R (by omega) e1 C (by omega) e2
    rw [e]
    obtain ⟨l1, l2⟩ := lo2 N (by omega) R hR e1
    obtain ⟨l3, l4⟩ := lo2 N (by omega) C hC e2
    exact a2 _ _ l1 l2 _ _ l3 l4
  | 3, _, _ =>
    have a1 : AT3 Q N M := by
      refine sort3 (F := fun r1 r2 r3 => ∀ c1 c2 c3, c1 < N → c2 < N → c3 < N → Q (fun w => d3 (M w r1) (M w r2) (M w r3) c1 c2 c3)) ?_ ?_ ?_ ?_ ?_
      · intro r1 r2 r3 hr hr2 hr3
        obtain ⟨m1, m2, m3, m4, m5⟩ := ms3 N (by omega) r3 hr3 r2 hr2 r1 hr
        refine sort3 (F := fun c1 c2 c3 => Q (fun w => d3 (M w r1) (M w r2) (M w r3) c1 c2 c3)) ?_ ?_ ?_ ?_ ?_
        · intro c1 c2 c3 hc hc2 hc3
          obtain ⟨n1, n2, n3, n4, n5⟩ := ms3 N (by omega) c3 hc3 c2 hc2 c1 hc
          have := h _ _ m1 n1 m2 n2
          have e : (fun w => dtm (M w) 3 (2 ^ r1 + 2 ^ r2 + 2 ^ r3) (2 ^ c1 + 2 ^ c2 + 2 ^ c3)) = (fun w => d3 (M w r1) (M w r2) (M w r3) c1 c2 c3) := by
            funext w; rw [dt_3 (M w) _ (by omega) m2 _ (by omega) n2, m3, m4, m5, n3, n4, n5]
          rwa [e] at this
        · intro c1 c2 c3 hq
          have e : (fun w => d3 (M w r1) (M w r2) (M w r3) c2 c1 c3) = (fun w => - d3 (M w r1) (M w r2) (M w r3) c1 c2 c3) := by
            funext w; simp only [d3]; grind
          rw [e]; exact lin_neg hQ hq
        · intro c1 c2 c3 hq
          have e : (fun w => d3 (M w r1) (M w r2) (M w r3) c1 c3 c2) = (fun w => - d3 (M w r1) (M w r2) (M w r3) c1 c2 c3) := by
            funext w; simp only [d3]; grind
          rw [e]; exact lin_neg hQ hq
        · intro c1 c3
          have e : (fun w => d3 (M w r1) (M w r2) (M w r3) c1 c1 c3) = (fun _ => 0) := by
            funext w; simp only [d3]; grind
          rw [e]; exact hQ.1
        · intro c1 c2
          have e : (fun w => d3 (M w r1) (M w r2) (M w r3) c1 c2 c2) = (fun _ => 0) := by
            funext w; simp only [d3]; grind
          rw [e]; exact hQ.1
      · intro r1 r2 r3 hq c1 c2 c3 hc1 hc2 hc3
        have e : (fun w => d3 (M w r2) (M w r1) (M w r3) c1 c2 c3) = (fun w => - d3 (M w r1) (M w r2) (M w r3) c1 c2 c3) := by
          funext w; exact d3_12 _ _ _ _ _ _
        rw [e]; exact lin_neg hQ (hq c1 c2 c3 hc1 hc2 hc3)
      · intro r1 r2 r3 hq c1 c2 c3 hc1 hc2 hc3
        have e : (fun w => d3 (M w r1) (M w r3) (M w r2) c1 c2 c3) = (fun w => - d3 (M w r1) (M w r2) (M w r3) c1 c2 c3) := by
          funext w; exact d3_23 _ _ _ _ _ _
        rw [e]; exact lin_neg hQ (hq c1 c2 c3 hc1 hc2 hc3)
      · intro r1 r3 c1 c2 c3 _ _ _
        have e : (fun w => d3 (M w r1) (M w r1) (M w r3) c1 c2 c3) = (fun _ => 0) := by
          funext w; exact d3_e12 _ _ _ _ _
        rw [e]; exact hQ.1
      · intro r1 r2 c1 c2 c3 _ _ _
        have e : (fun w => d3 (M w r1) (M w r2) (M w r2) c1 c2 c3) = (fun _ => 0) := by
          funext w; exact d3_e23 _ _ _ _ _
        rw [e]; exact hQ.1
    have a2 := at3_col hQ T (at3_row hQ S a1)
    intro R C hR hC e1 e2
    have e : (fun w => dtm (fM N (fM N S (M w)) T) 3 R C) = (fun w => d3 (fM N (fM N S (M w)) T (lo R)) (fM N (fM N S (M w)) T (lo (rs R))) (fM N (fM N S (M w)) T (lo (rs (rs R)))) (lo C) (lo (rs C)) (lo (rs (rs C)))) := by
      funext w; exact dt_3 _ R (by omega) e1 C (by omega) e2
    rw [e]
    obtain ⟨l1, l2, l3⟩ := lo3 N (by omega) R hR e1
    obtain ⟨l4, l5, l6⟩ := lo3 N (by omega) C hC e2
    exact a2 _ _ _ l1 l2 l3 _ _ _ l4 l5 l6
/-- the polynomial with given values -/
def ipc (q : Fin 5 → Fin 5) : Nat → Fin 5
  | 0 => q 0
  | 1 => - (q 1 + 3 * q 2 + 2 * q 3 + 4 * q 4)
  | 2 => - (q 1 + 4 * q 2 + 4 * q 3 + q 4)
  | 3 => - (q 1 + 2 * q 2 + 3 * q 3 + 4 * q 4)
  | 4 => - (q 0 + q 1 + q 2 + q 3 + q 4)
  | _ + 5 => 0
theorem ipc_ev (q : Fin 5 → Fin 5) : ∀ w, ev (ipc q) w = q w := by
  have h0 : ev (ipc q) 0 = q 0 := by simp only [ev, ipc]; grind
  have h1 : ev (ipc q) 1 = q 1 := by simp only [ev, ipc]; grind
  have h2 : ev (ipc q) 2 = q 2 := by simp only [ev, ipc]; grind
  have h3 : ev (ipc q) 3 = q 3 := by simp only [ev, ipc]; grind
  have h4 : ev (ipc q) 4 = q 4 := by simp only [ev, ipc]; grind
  intro w
  obtain ⟨v, hv⟩ := w
  match v, hv with
  | 0, _ => exact h0
  | 1, _ => exact h1
  | 2, _ => exact h2
  | 3, _ => exact h3
  | 4, _ => exact h4
def ipN (q : Fin 5 → Fin 5) : Nat := hrn (fun k => (ipc q k).val) 5 0
theorem ipN_lt (q : Fin 5 → Fin 5) : ipN q < 3125 := (hrn_pd (fun k _ => (ipc q k).isLt)).1
theorem ipN_ev (q : Fin 5 → Fin 5) (w : Fin 5) : ev (pd (ipN q)) w = q w := by
  rw [← ipc_ev q w]
  refine ev_cong w (fun k hk => ?_)
  rw [show pd (ipN q) k = kk (ipc q k).val from (hrn_pd (fun k _ => (ipc q k).isLt)).2 k hk, kk_fin]
theorem ev_u {p p' : Nat} (hp : p < 3125) (hp' : p' < 3125) (h : ∀ w, ev (pd p) w = ev (pd p') w) : p = p' := pd_inj hp hp' (ev_inj h)
def PV (P : Nat → Prop) (q : Fin 5 → Fin 5) : Prop := ∀ p, p < 3125 → (∀ w, ev (pd p) w = q w) → P p
theorem PV_of {P : Nat → Prop} {p : Nat} {q : Fin 5 → Fin 5} (hp : p < 3125) (h : P p) (e : ∀ w, ev (pd p) w = q w) : PV P q := by
  intro p' hp' e'
  rw [ev_u hp' hp (fun w => by rw [e w, e' w])]; exact h
theorem PV_lin {P : Nat → Prop} (hP : Idl P) : lin (PV P) := by
  refine ⟨PV_of (by decide) hP.1 (fun w => (I_ev w).1), fun q r c hq hr => ?_⟩
  have p1 := hq (ipN q) (ipN_lt q) (ipN_ev q)
  have p2 := hr (ipN r) (ipN_lt r) (ipN_ev r)
  refine PV_of (pm_lt _ _ _) (hP.2.1 _ _ c.val (ipN_lt q) (ipN_lt r) (by have := c.isLt; omega) p1 p2) (fun w => ?_)
  rw [ev_cong w (q := fun k => pd (ipN q) k + kk c.val * pd (ipN r) k) (fun k hk => pd_pm _ _ _ _ hk), ev_lin, kk_fin, ipN_ev, ipN_ev]
theorem fM_linR (N : Nat) (B X Y : Nat → Nat → Fin 5) (s : Fin 5) (i k : Nat) : fM N B (fun i k => X i k + s * Y i k) i k = fM N B X i k + s * fM N B Y i k := by
  unfold fM
  rw [← fs_lin]
  refine fs_cong N (fun t _ => ?_)
  grind
theorem sim_dir {P : Nat → Prop} (hP : Idl P) {N k : Nat} (hN : N ≤ 4) (hk1 : 1 ≤ k) (hk3 : k ≤ 3) {A B : Nat → Nat → Nat} (h : Sim N (fun i j => kk (A i j)) (fun i j => kk (B i j)))
    (hB : ∀ R C, R < 2 ^ N → C < 2 ^ N → pc R = k → pc C = k → P (mnum B R C)) : ∀ R C, R < 2 ^ N → C < 2 ^ N → pc R = k → pc C = k → P (mnum A R C) := by
  obtain ⟨S, T, ⟨s1, t1, e1, e2⟩, eab⟩ := h
  have hQ := PV_lin hP
  have evd : ∀ (X : Nat → Nat → Nat) R C (w : Fin 5), pc R = k → ev (pd (mnum X R C)) w = dtm (Mw X w) k R C := by
    intro X R C w e
    rw [ev_cong w (fun j hj => mnum_pd X R C j hj), e, dtp_ev X w k R C (by omega)]
  have hm := cb hQ (M := fun w => Mw B w) hN hk1 hk3 S T (fun R C hR hC r1 r2 => PV_of (mnum_lt _ _ _) (hB R C hR hC r1 r2) (fun w => evd B R C w r1))
  have ent : ∀ w i j, i < N → j < N → fM N (fM N S (Mw B w)) T i j = Mw A w i j := by
    intro w i j hi hj
    have f1 : fEq N (fM N S (Mw B w)) (fun i t => (fun i t => w * S i t) i t + 4 * fM N S (fun i j => kk (B i j)) i t) := by
      intro i t hi ht
      have g1 : Mw B w = fun i j => (fun i j => if i = j then w else 0) i j + 4 * (fun i j => kk (B i j)) i j := by
        funext i j
        show (if i = j then w else 0) - kk (B i j) = (if i = j then w else 0) + 4 * kk (B i j)
        grind
      rw [g1, fM_linR, fM_id hN S w i t hi ht]
    rw [fM_eqL T f1 hi, fM_lin N (fun i t => w * S i t) (fM N S (fun i j => kk (B i j))) T 4, fM_s, e1, ← eab, idn_eq N i j hi hj]
    show w * (if i = j then 1 else 0) + 4 * kk (A i j) = (if i = j then w else 0) - kk (A i j)
    split <;> grind
  intro R C hR hC r1 r2
  refine hm R C hR hC r1 r2 (mnum A R C) (mnum_lt _ _ _) (fun w => ?_)
  rw [evd A R C w r1]
  exact (dtm_c hN (ent w) k R C hR hC r1 r2).symm
theorem gD_sim {N k D : Nat} (hN : N ≤ 4) (hk1 : 1 ≤ k) (hk3 : k ≤ 3) {A B : Nat → Nat → Nat} (sb : sp N (fun i j => kk (B i j))) (h : Sim N (fun i j => kk (A i j)) (fun i j => kk (B i j))) (hD : gD A N k D) : gD B N k D := by
  refine ⟨hD.1, hD.2.1, fun P hP => (hD.2.2 P hP).trans ⟨fun z => ?_, fun z => ?_⟩⟩
  · exact sim_dir hP hN hk1 hk3 (Sim_sy hN sb h) z
  · exact sim_dir hP hN hk1 hk3 h z
