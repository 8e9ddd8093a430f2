section
theorem pk_us {f : Nat → Int32} {k : Nat} {x : Int32} : upd f k x k = x := if_pos rfl
theorem pk_un {f : Nat → Int32} {k j : Nat} {x : Int32} (h : j ≠ k) : upd f k x j = f j := if_neg h
theorem pk_sub {a b : Nat} (h : b ≤ a) : nI a - nI b = nI (a - b) := by
  obtain ⟨c, rfl⟩ : ∃ c, a = c + b := ⟨a - b, by omega⟩
  rw [← nI_add, Int32.add_sub_cancel, Nat.add_sub_cancel]
theorem pk_m1 (n : Nat) : nI (n + 1) + (-1) = nI n := by
  rw [← nI_1, Int32.add_assoc, show (1 : Int32) + (-1) = 0 from rfl, Int32.add_zero]
theorem pk_mul (a b : Nat) : nI a * nI b = nI (a * b) := (Int32.ofNat_mul a b).symm
theorem pk_div {a d : Nat} (ha : a < 2 ^ 31) (h0 : 0 < d) (hd : d < 2 ^ 31) : nI a / nI d = nI (a / d) := by
  apply Int32.toInt_inj.mp
  rw [lg_idiv_nonneg (by rw [nI_toInt ha]; omega) (by rw [nI_toInt hd]; omega), nI_toInt ha, nI_toInt hd, nI_toInt (Nat.lt_of_le_of_lt (Nat.div_le_self a d) ha)]
  first | rfl | exact (Int.natCast_ediv _ _).symm
theorem pk_rem {a d : Nat} (ha : a < 2 ^ 31) (h0 : 0 < d) (hd : d < 2 ^ 31) : nI a - nI a / nI d * nI d = nI (a % d) := by
  rw [pk_div ha h0 hd, pk_mul, pk_sub (Nat.div_mul_le_self a d)]
  exact congrArg nI (by have := Nat.div_add_mod' a d; omega)
theorem pk_sub_toInt {a b : Nat} (ha : a < 2 ^ 30) (hb : b < 2 ^ 30) : (nI a - nI b).toInt = (a : Int) - b := by
  rw [Int32.toInt_sub, nI_toInt (by omega), nI_toInt (by omega)]
  exact Int.bmod_eq_of_le (by omega) (by omega)
theorem pk_sneg {a b : Nat} (hb : b < 2 ^ 30) (h : a < b) : nI a - nI b < 0 := by
  rw [Int32.lt_iff_toInt_lt, pk_sub_toInt (by omega) hb, show (0 : Int32).toInt = 0 from by decide]
  omega
theorem pk_ix (x : Int32) {n : Nat} (hn : n < 2 ^ 31) : x < 0 ∨ nI n ≤ x ∨ ∃ j : Nat, j < n ∧ x = nI j := by
  by_cases h : x < 0
  · exact Or.inl h
  · obtain ⟨j, hj, rfl⟩ := nI_of h
    by_cases h2 : j < n
    · exact Or.inr (Or.inr ⟨j, h2, rfl⟩)
    · exact Or.inr (Or.inl (nI_le (by omega) hj))
theorem pk_le {x y : Int32} {A B : Prop} (a b : Nat) (f : a ≤ b → A) (g : b < a → B) (hx : x = nI a := by rfl) (hy : y = nI b := by rfl) (ha : a < 2 ^ 31 := by omega) (hb : b < 2 ^ 31 := by omega) : (x ≤ y → A) ∧ (¬ x ≤ y → B) := by
  subst hx hy
  rw [nI_leI ha hb]
  exact ⟨f, fun z => g (by omega)⟩
theorem pk_lt {x y : Int32} {A B : Prop} (a b : Nat) (f : a < b → A) (g : b ≤ a → B) (hx : x = nI a := by rfl) (hy : y = nI b := by rfl) (ha : a < 2 ^ 31 := by omega) (hb : b < 2 ^ 31 := by omega) : (x < y → A) ∧ (¬ x < y → B) := by
  subst hx hy
  rw [nI_ltI ha hb]
  exact ⟨f, fun z => g (by omega)⟩
theorem pk_eq {x y : Int32} {A B : Prop} (a b : Nat) (f : a = b → A) (g : a ≠ b → B) (hx : x = nI a := by rfl) (hy : y = nI b := by rfl) (ha : a < 2 ^ 31 := by omega) (hb : b < 2 ^ 31 := by omega) : (x = y → A) ∧ (¬ x = y → B) := by
  subst hx hy
  rw [nI_eq ha hb]
  exact ⟨f, g⟩
theorem pk_in {x : Int32} (n N : Nat) (h : n < N) (hx : x = nI n := by rfl) (hN : N < 2 ^ 31 := by omega) : vp_in x N := by
  subst hx
  exact vp_in_nI h hN
theorem pk_cl {x : Int32} (n : Nat) (hx : x = nI n := by rfl) (h : n < 2 ^ 31 := by omega) : x.toNatClampNeg = n := by
  subst hx
  exact nI_clamp h
theorem pk_tn {n : Nat} (h : n < 2 ^ 32) : (nI n).toBitVec.toNat = n := Nat.mod_eq_of_lt h
theorem pk_and (x : Int32) {m : Int32} (k : Nat) (hm : m.toBitVec.toNat = 2 ^ k - 1) : x &&& m = nI (x.toBitVec.toNat % 2 ^ k) := by
  apply Int32.toBitVec_inj.mp
  apply BitVec.eq_of_toNat_eq
  rw [Int32.toBitVec_and, BitVec.toNat_and, hm, Nat.and_two_pow_sub_one_eq_mod]
  show _ = (BitVec.ofNat 32 _).toNat
  rw [BitVec.toNat_ofNat]
  exact (Nat.mod_eq_of_lt (Nat.lt_of_le_of_lt (Nat.mod_le _ _) x.toBitVec.isLt)).symm
theorem pk_andN {n : Nat} (h : n < 2 ^ 32) {m : Int32} (k : Nat) (hm : m.toBitVec.toNat = 2 ^ k - 1) : nI n &&& m = nI (n % 2 ^ k) := by
  rw [pk_and _ k hm, pk_tn h]
theorem pk_shl (a s : Int32) (k : Nat) (hs : (s.toBitVec.smod 32).toNat = k) : (a <<< s).toBitVec.toNat = a.toBitVec.toNat * 2 ^ k % 2 ^ 32 := by
  show (a.toBitVec <<< (s.toBitVec.smod 32).toNat).toNat = _
  rw [hs, BitVec.toNat_shiftLeft, Nat.shiftLeft_eq]
theorem pk_shlN {n : Nat} (s : Int32) (k : Nat) (hs : (s.toBitVec.smod 32).toNat = k) (h : n * 2 ^ k < 2 ^ 32) : nI n <<< s = nI (n * 2 ^ k) := by
  apply Int32.toBitVec_inj.mp
  apply BitVec.eq_of_toNat_eq
  have hn : n < 2 ^ 32 := Nat.lt_of_le_of_lt (Nat.le_mul_of_pos_right n (Nat.two_pow_pos k)) h
  rw [pk_shl _ _ k hs, pk_tn hn, pk_tn h, Nat.mod_eq_of_lt h]
theorem pk_shr (a s : Int32) (k : Nat) (hs : (s.toBitVec.smod 32).toNat = k) : (a >>> s).toInt = a.toInt >>> k := by
  show (a.toBitVec.sshiftRight (s.toBitVec.smod 32).toNat).toInt = _
  rw [hs, BitVec.toInt_sshiftRight]
  rfl
theorem pk_shrN {n : Nat} (h : n < 2 ^ 31) (s : Int32) (k : Nat) (hs : (s.toBitVec.smod 32).toNat = k) : nI n >>> s = nI (n / 2 ^ k) := by
  apply Int32.toInt_inj.mp
  have h2 : n / 2 ^ k ≤ n := Nat.div_le_self _ _
  rw [pk_shr _ _ k hs, nI_toInt h, nI_toInt (by omega), Int.shiftRight_eq_div_pow]
  rfl
theorem pk_loop {σ : Type} (W : Nat → Nat → σ → Prop) (I : Nat → σ → Prop) (e i0 : Nat) (s : σ) (hi : i0 ≤ e) (h0 : I i0 s) (hx : ∀ n s, I e s → W (n + 1) e s)
    (hs : ∀ n i s, i < e → I i s → (∀ s', I (i + 1) s' → W n (i + 1) s') → W (n + 1) i s) : ∃ n, W n i0 s :=
  ⟨e + 1, loop_i W I e hx hs (e + 1) i0 s hi (by omega) h0⟩
theorem pk_loopD {σ : Type} (W : Nat → Nat → σ → Prop) (I : Nat → σ → Prop) (hx : ∀ n s, I 0 s → W (n + 1) 0 s)
    (hs : ∀ n i s, I (i + 1) s → (∀ s', I i s' → W n i s') → W (n + 1) (i + 1) s) : ∀ (e : Nat) (s : σ), I e s → W (e + 1) e s := by
  intro e
  induction e with
  | zero => exact fun s h => hx 0 s h
  | succ e ih => exact fun s h => hs (e + 1) e s h (fun s' h' => ih s' h')
theorem pk_least (P : Nat → Prop) (h : ∃ k, P k) : ∃ k, P k ∧ ∀ j, j < k → ¬ P j := by
  obtain ⟨k, hk⟩ := h
  induction k using Nat.strongRecOn with
  | ind k ih =>
    by_cases e : ∃ j, j < k ∧ P j
    · obtain ⟨j, hj, pj⟩ := e
      exact ih j hj pj
    · exact ⟨k, hk, fun j hj pj => e ⟨j, hj, pj⟩⟩
theorem s_l : ∀ n, n < 32 → ((nI n &&& 31).toBitVec.smod 32).toNat = n := by decide +kernel
theorem nx_and (a b : Nat) : nI a &&& nI b = nI (a &&& b) := by
  apply Int32.toBitVec_inj.1
  show BitVec.ofNat 32 a &&& BitVec.ofNat 32 b = BitVec.ofNat 32 (a &&& b)
  apply BitVec.eq_of_getLsbD_eq
  intro i hi
  simp [hi]
theorem nx_xor (a b : Nat) : nI a ^^^ nI b = nI (a ^^^ b) := by
  apply Int32.toBitVec_inj.1
  show BitVec.ofNat 32 a ^^^ BitVec.ofNat 32 b = BitVec.ofNat 32 (a ^^^ b)
  apply BitVec.eq_of_getLsbD_eq
  intro i hi
  simp [hi]
theorem sb_m1 {p : Nat} (h : 0 < p) : nI p + (-1) = nI (p - 1) := by
  obtain ⟨q, rfl⟩ : ∃ q, p = q + 1 := ⟨p - 1, by omega⟩
  exact pk_m1 q
end
section
/-! base: arrays of naturals in Int32, literals, the field of five numbers -/
def zA (c : Nat → Nat) : Nat → Int32 := fun j => nI (c j)
def zu (c : Nat → Nat) (i v : Nat) : Nat → Nat := fun j => if j = i then v else c j
theorem zA_at (c : Nat → Nat) (j : Nat) : zA c j = nI (c j) := rfl
theorem zA_upd (c : Nat → Nat) (i v : Nat) : upd (zA c) i (nI v) = zA (zu c i v) := by
  funext j
  show (if j = i then nI v else nI (c j)) = nI (if j = i then v else c j)
  split <;> rfl
theorem zu_s (c : Nat → Nat) (i v : Nat) : zu c i v i = v := if_pos rfl
theorem zu_n {c : Nat → Nat} {i v j : Nat} (h : j ≠ i) : zu c i v j = c j := if_neg h
theorem zu_lt {c : Nat → Nat} {i v B : Nat} (h : ∀ j, c j < B) (hv : v < B) : ∀ j, zu c i v j < B := by
  intro j
  show (if j = i then v else c j) < B
  split
  · exact hv
  · exact h j
theorem zA_0 : (fun _ => 0 : Nat → Int32) = zA (fun _ => 0) := rfl
abbrev zX (N : Nat) (c m f : Nat → Nat) : SX := (nI N, zA c, zA m, zA f)
abbrev zY (N : Nat) (g mn te dv ot fc kp rw : Nat → Nat) : SY := (nI N, zA g, zA mn, zA te, zA dv, zA ot, zA fc, zA kp, zA rw)
theorem z16m (a : Nat) : (16 : Int32) * nI a = nI (16 * a) := pk_mul 16 a
theorem z5m (a : Nat) : (5 : Int32) * nI a = nI (5 * a) := pk_mul 5 a
theorem zm5 (a : Nat) : nI a * (5 : Int32) = nI (a * 5) := pk_mul a 5
theorem z2m (a : Nat) : (2 : Int32) * nI a = nI (2 * a) := pk_mul 2 a
theorem z64a (a : Nat) : (64 : Int32) + nI a = nI (64 + a) := nI_add 64 a
theorem z80a (a : Nat) : (80 : Int32) + nI a = nI (80 + a) := nI_add 80 a
theorem z96a (a : Nat) : (96 : Int32) + nI a = nI (96 + a) := nI_add 96 a
theorem z4a (a : Nat) : (4 : Int32) + nI a = nI (4 + a) := nI_add 4 a
theorem za5 (a : Nat) : nI a + (5 : Int32) = nI (a + 5) := nI_add a 5
theorem z5s {a : Nat} (h : a ≤ 5) : (5 : Int32) - nI a = nI (5 - a) := pk_sub (a := 5) h
theorem zs1 {a : Nat} (h : 1 ≤ a) : nI a - (1 : Int32) = nI (a - 1) := pk_sub (b := 1) h
theorem z5d {a : Nat} (h : a < 2 ^ 31) : nI a / (5 : Int32) = nI (a / 5) := pk_div (d := 5) h (by decide) (by decide)
theorem z16d {a : Nat} (h : a < 2 ^ 31) : nI a / (16 : Int32) = nI (a / 16) := pk_div (d := 16) h (by decide) (by decide)
theorem z5r {a : Nat} (h : a < 2 ^ 31) : nI a - nI a / (5 : Int32) * 5 = nI (a % 5) := pk_rem (d := 5) h (by decide) (by decide)
theorem z2r {a : Nat} (h : a < 2 ^ 31) : nI a - nI a / (2 : Int32) * 2 = nI (a % 2) := pk_rem (d := 2) h (by decide) (by decide)
theorem z16r {a : Nat} (h : a < 2 ^ 31) : nI a - nI a / (16 : Int32) * 16 = nI (a % 16) := pk_rem (d := 16) h (by decide) (by decide)
theorem zf5 : ¬ (5 : Int32) = 0 := by decide
theorem zf2 : ¬ (2 : Int32) = 0 := by decide
theorem zf16 : ¬ (16 : Int32) = 0 := by decide
theorem zf1 : ¬ (1 : Int32) = 0 := by decide
theorem zshr {n k : Nat} (hn : n < 2 ^ 31) (hk : k < 32) : nI n >>> (nI k &&& 31) = nI (n / 2 ^ k) := pk_shrN hn _ k (s_l k hk)
theorem zand1 {n : Nat} (hn : n < 2 ^ 31) : nI n &&& (1 : Int32) = nI (n % 2) := by
  have := pk_andN (n := n) (by omega) (m := 1) 1 (by decide)
  simpa using this
theorem zand3 {n : Nat} (hn : n < 2 ^ 31) : nI n &&& (3 : Int32) = nI (n % 4) := by
  have := pk_andN (n := n) (by omega) (m := 3) 2 (by decide)
  simpa using this
theorem zbit {n k : Nat} (hn : n < 2 ^ 31) (hk : k < 32) : (nI n >>> (nI k &&& 31)) &&& (1 : Int32) = nI (n / 2 ^ k % 2) := by
  rw [zshr hn hk, zand1 (Nat.lt_of_le_of_lt (Nat.div_le_self _ _) hn)]
theorem zshl {k : Nat} (hk : k < 31) : (1 : Int32) <<< (nI k &&& 31) = nI (2 ^ k) := by
  have h := pk_shlN (n := 1) (nI k &&& 31) k (s_l k (by omega)) (by
    have : 2 ^ k ≤ 2 ^ 31 := Nat.pow_le_pow_right (by decide) (by omega)
    omega)
  rw [Nat.one_mul] at h
  exact h
/-- the field -/
def kk (n : Nat) : Fin 5 := Fin.ofNat 5 n
theorem kk_v (n : Nat) : (kk n).val = n % 5 := rfl
theorem kk_add (a b : Nat) : kk (a + b) = kk a + kk b := by
  apply Fin.ext
  show (a + b) % 5 = (a % 5 + b % 5) % 5
  omega
theorem kk_mul (a b : Nat) : kk (a * b) = kk a * kk b := by
  apply Fin.ext
  show (a * b) % 5 = (a % 5 * (b % 5)) % 5
  exact Nat.mul_mod a b 5
theorem kk_mod (a : Nat) : kk (a % 5) = kk a := by
  apply Fin.ext
  show a % 5 % 5 = a % 5
  omega
theorem kk_inj {a b : Nat} (ha : a < 5) (hb : b < 5) (h : kk a = kk b) : a = b := by
  have := congrArg Fin.val h
  rw [kk_v, kk_v] at this
  omega
theorem kk_5s {a : Nat} (h : a ≤ 5) : kk (5 - a) = - kk a := by
  apply Fin.ext
  show (5 - a) % 5 = ((5 - a % 5) % 5)
  omega
theorem kk_0 : kk 0 = 0 := rfl
theorem kk_1 : kk 1 = 1 := rfl
theorem kk_fin (a : Fin 5) : kk a.val = a := by
  apply Fin.ext
  show a.val % 5 = a.val
  omega
theorem kt_ring (a b c d : Fin 5) : (a + b) * (c - d) = a * c + b * c - a * d - d * b := by grind
theorem kt_ring5 (a b : Fin 5) : (a + b) * 5 = a * 10 := by grind
theorem kt_inv (a : Fin 5) (h : a ≠ 0) : a * (a * a * a) = 1 := by
  revert a; decide
end
section
/-! the component's matrix methods over slots -/
theorem zi_sq {N : Nat} (hN : N ≤ 4) : N * N ≤ 16 := Nat.mul_le_mul hN hN
theorem zi_lt {N i j : Nat} (hi : i < N) (hj : j < N) : N * i + j < N * N := by
  have h : N * (i + 1) ≤ N * N := Nat.mul_le_mul_left N hi
  rw [Nat.mul_succ] at h
  omega
theorem zi_inj {N i j i' j' : Nat} (hj : j < N) (hj' : j' < N) (h : N * i + j = N * i' + j') : i = i' ∧ j = j' := by
  have h1 : (N * i + j) / N = i := by
    rw [Nat.mul_add_div (by omega), Nat.div_eq_of_lt hj, Nat.add_zero]
  have h2 : (N * i' + j') / N = i' := by
    rw [Nat.mul_add_div (by omega), Nat.div_eq_of_lt hj', Nat.add_zero]
  have h3 : i = i' := by rw [← h1, ← h2, h]
  subst h3
  exact ⟨rfl, by omega⟩
/-- sums of products -/
def zs (f : Nat → Nat) : Nat → Nat
  | 0 => 0
  | n + 1 => zs f n + f n
theorem zs_le {f : Nat → Nat} {B : Nat} (h : ∀ t, f t ≤ B) (n : Nat) : zs f n ≤ n * B := by
  induction n with
  | zero => exact Nat.zero_le _
  | succ n ih =>
    have := h n
    show zs f n + f n ≤ (n + 1) * B
    rw [Nat.succ_mul]
    omega
theorem xs_copy {post : SX → Prop} {N d a : Nat} {c m f : Nat → Nat} (hN : N ≤ 4) (hd : d < 7) (ha : a < 7) (hda : d ≠ a)
    (H : ∀ c' : Nat → Nat, (∀ j, (j < 16 * d ∨ 16 * d + N * N ≤ j) → c' j = c j) → (∀ t, t < N * N → c' (16 * d + t) = c (16 * a + t)) → post (zX N c' m f)) :
    wpX_copy post (zX N c m f) (nI d) (nI a) := by
  have hsq := zi_sq hN
  show ∃ n2, wX_copy_2 post (nI d) (nI a) (nI N) n2 0 (zA c) (zA m) (zA f)
  refine loop_0 (fun n i (s : Nat → Nat) => wX_copy_2 post (nI d) (nI a) (nI N) n (nI i) (zA s) (zA m) (zA f))
    (fun i s => (∀ j, (j < 16 * d ∨ 16 * d + i ≤ j) → s j = c j) ∧ ∀ t, t < i → s (16 * d + t) = c (16 * a + t)) (N * N) c ⟨fun _ _ => rfl, fun t h => absurd h (by omega)⟩ ?_ ?_
  · intro n s hI
    exact br_t (by rw [pk_mul]; exact nI_le (Nat.le_refl _) (by omega)) (H s hI.1 hI.2)
  · intro n i s hi hI ih
    refine br_f (by rw [pk_mul]; exact nI_ge hi (by omega)) ⟨?_, ?_, nm_r (e' := zA (zu s (16 * d + i) (s (16 * a + i)))) ?_ (nm_r (nI_1 i) (ih _ ⟨?_, ?_⟩))⟩
    · rw [z16m, nI_add]; exact vp_in_nI (by omega) (by decide)
    · rw [z16m, nI_add]; exact vp_in_nI (by omega) (by decide)
    · rw [z16m, z16m, nI_add, nI_add, nI_clamp (by omega), nI_clamp (by omega), zA_at, zA_upd]
    · intro j hj
      rw [zu_n (by omega)]
      exact hI.1 j (by omega)
    · intro t ht
      by_cases e : t = i
      · subst e
        rw [zu_s]
        exact hI.1 _ (by omega)
      · rw [zu_n (by omega)]
        exact hI.2 t (by omega)
theorem xs_clear {post : SX → Prop} {N d : Nat} {c m f : Nat → Nat} (hN : N ≤ 4) (hd : d < 7)
    (H : ∀ c' : Nat → Nat, (∀ j, (j < 16 * d ∨ 16 * d + N * N ≤ j) → c' j = c j) → (∀ t, t < N * N → c' (16 * d + t) = 0) → post (zX N c' m f)) :
    wpX_clear post (zX N c m f) (nI d) := by
  have hsq := zi_sq hN
  show ∃ n2, wX_clear_2 post (nI d) (nI N) n2 0 (zA c) (zA m) (zA f)
  refine loop_0 (fun n i (s : Nat → Nat) => wX_clear_2 post (nI d) (nI N) n (nI i) (zA s) (zA m) (zA f))
    (fun i s => (∀ j, (j < 16 * d ∨ 16 * d + i ≤ j) → s j = c j) ∧ ∀ t, t < i → s (16 * d + t) = 0) (N * N) c ⟨fun _ _ => rfl, fun t h => absurd h (by omega)⟩ ?_ ?_
  · intro n s hI
    exact br_t (by rw [pk_mul]; exact nI_le (Nat.le_refl _) (by omega)) (H s hI.1 hI.2)
  · intro n i s hi hI ih
    refine br_f (by rw [pk_mul]; exact nI_ge hi (by omega)) ⟨?_, nm_r (e' := zA (zu s (16 * d + i) 0)) ?_ (nm_r (nI_1 i) (ih _ ⟨?_, ?_⟩))⟩
    · rw [z16m, nI_add]; exact vp_in_nI (by omega) (by decide)
    · rw [z16m, nI_add, nI_clamp (by omega), ← zA_upd]; rfl
    · intro j hj
      rw [zu_n (by omega)]
      exact hI.1 j (by omega)
    · intro t ht
      by_cases e : t = i
      · subst e
        exact zu_s _ _ _
      · rw [zu_n (by omega)]
        exact hI.2 t (by omega)
theorem xs_addDiag {post : SX → Prop} {N d v : Nat} {c m f : Nat → Nat} (hN : N ≤ 4) (hd : d < 7) (hv : v < 5) (hc : ∀ j, c j < 5)
    (H : ∀ c' : Nat → Nat, (∀ j, (j < 16 * d ∨ 16 * d + N * N ≤ j) → c' j = c j) → (∀ j, c' j < 5) →
      (∀ i j, i < N → j < N → c' (16 * d + (N * i + j)) = if i = j then (c (16 * d + (N * i + j)) + v) % 5 else c (16 * d + (N * i + j))) → post (zX N c' m f)) :
    wpX_addToDiagonal post (zX N c m f) (nI d) (nI v) := by
  have hsq := zi_sq hN
  show ∃ n2, wX_addToDiagonal_2 post (nI d) (nI v) (nI N) n2 0 (zA c) (zA m) (zA f)
  refine loop_0 (fun n i (s : Nat → Nat) => wX_addToDiagonal_2 post (nI d) (nI v) (nI N) n (nI i) (zA s) (zA m) (zA f))
    (fun k s => (∀ j, (j < 16 * d ∨ 16 * d + N * N ≤ j) → s j = c j) ∧ (∀ j, s j < 5) ∧ ∀ i j, i < N → j < N → s (16 * d + (N * i + j)) = if i = j ∧ i < k then (c (16 * d + (N * i + j)) + v) % 5 else c (16 * d + (N * i + j))) N c ⟨fun _ _ => rfl, hc, fun i j _ _ => (if_neg (by omega)).symm⟩ ?_ ?_
  · intro n s hI
    refine br_t (nI_le (Nat.le_refl _) (by omega)) (H s hI.1 hI.2.1 ?_)
    intro i j hi hj
    rw [hI.2.2 i j hi hj]
    by_cases e : i = j
    · rw [if_pos ⟨e, hi⟩, if_pos e]
    · rw [if_neg (by omega), if_neg e]
  · intro n i s hi hI ih
    have hlt := zi_lt hi hi
    have hs := hI.2.1 (16 * d + (N * i + i))
    have e0 : ((16 : Int32) * nI d + nI N * nI i) + nI i = nI (16 * d + (N * i + i)) := by
      rw [z16m, pk_mul, nI_add, nI_add, Nat.add_assoc]
    refine br_f (nI_ge hi (by omega)) (nm_r e0 ⟨vp_in_nI (by omega) (by decide), zf5, vp_in_nI (by omega) (by decide), nm_r (e' := zA (zu s (16 * d + (N * i + i)) ((s (16 * d + (N * i + i)) + v) % 5))) ?_ (nm_r (nI_1 i) (ih _ ⟨?_, ?_, ?_⟩))⟩)
    · rw [nI_clamp (by omega), zA_at, nI_add, z5r (by omega), zA_upd]
    · intro j hj
      rw [zu_n (by omega)]
      exact hI.1 j hj
    · exact zu_lt hI.2.1 (by omega)
    · intro i' j' hi' hj'
      by_cases e : 16 * d + (N * i' + j') = 16 * d + (N * i + i)
      · obtain ⟨rfl, rfl⟩ := zi_inj hj' hi (Nat.add_left_cancel e)
        rw [zu_s, if_pos ⟨rfl, by omega⟩, hI.2.2 _ _ hi hi, if_neg (by omega)]
      · rw [zu_n e, hI.2.2 i' j' hi' hj']
        by_cases e2 : i' = j' ∧ i' < i
        · rw [if_pos e2, if_pos ⟨e2.1, by omega⟩]
        · have e3 : ¬ (i' = j' ∧ i' < i + 1) := by
            intro z
            obtain ⟨z1, z2⟩ := z
            subst z1
            have : i' = i := by
              by_cases z3 : i' = i
              · exact z3
              · exact absurd ⟨rfl, by omega⟩ e2
            subst this
            exact e rfl
          rw [if_neg e2, if_neg e3]
theorem xs_addMul {post : SX → Prop} {N d a v b : Nat} {c m f : Nat → Nat} (hN : N ≤ 4) (hd : d < 7) (ha : a < 7) (hb : b < 7) (hv : v < 5) (hc : ∀ j, c j < 5)
    (H : ∀ c' : Nat → Nat, (∀ j, (j < 16 * d ∨ 16 * d + N * N ≤ j) → c' j = c j) → (∀ j, c' j < 5) →
      (∀ t, t < N * N → c' (16 * d + t) = (c (16 * a + t) + v * c (16 * b + t)) % 5) → post (zX N c' m f)) :
    wpX_addMultiple post (zX N c m f) (nI d) (nI a) (nI v) (nI b) := by
  have hsq := zi_sq hN
  show ∃ n2, wX_addMultiple_3 post (nI d) (nI a) (nI v) (nI b) (nI N) n2 0 (zA c) (zA m) (zA f)
  refine loop_0 (fun n i (s : Nat → Nat) => wX_addMultiple_3 post (nI d) (nI a) (nI v) (nI b) (nI N) n (nI i) (zA s) (zA m) (zA f))
    (fun i s => (∀ j, (j < 16 * d ∨ 16 * d + i ≤ j) → s j = c j) ∧ (∀ j, s j < 5) ∧ (∀ t, t < i → s (16 * d + t) = (c (16 * a + t) + v * c (16 * b + t)) % 5)) (N * N) c ⟨fun _ _ => rfl, hc, fun t h => absurd h (by omega)⟩ ?_ ?_
  · intro n s hI
    exact br_t (by rw [pk_mul]; exact nI_le (Nat.le_refl _) (by omega)) (H s hI.1 hI.2.1 hI.2.2)
  · intro n i s hi hI ih
    have h1 := hI.2.1 (16 * a + i)
    have h2 := hI.2.1 (16 * b + i)
    have h3 : v * s (16 * b + i) ≤ 4 * 4 := Nat.mul_le_mul (by omega) (by omega)
    refine br_f (by rw [pk_mul]; exact nI_ge hi (by omega)) ⟨?_, ?_, nm_r (e' := nI (s (16 * a + i) + v * s (16 * b + i))) ?_ ⟨zf5, ?_, nm_r (e' := zA (zu s (16 * d + i) ((s (16 * a + i) + v * s (16 * b + i)) % 5))) ?_ (nm_r (nI_1 i) (ih _ ⟨?_, ?_, ?_⟩))⟩⟩
    · rw [z16m, nI_add]; exact vp_in_nI (by omega) (by decide)
    · rw [z16m, nI_add]; exact vp_in_nI (by omega) (by decide)
    · rw [z16m, z16m, nI_add, nI_add, nI_clamp (by omega), nI_clamp (by omega), zA_at, zA_at, pk_mul, nI_add]
    · rw [z16m, nI_add]; exact vp_in_nI (by omega) (by decide)
    · rw [z16m, nI_add, nI_clamp (by omega), z5r (by omega), zA_upd]
    · intro j hj
      rw [zu_n (by omega)]
      exact hI.1 j (by omega)
    · exact zu_lt hI.2.1 (by omega)
    · intro t ht
      by_cases e : t = i
      · subst e
        have q1 : s (16 * a + t) = c (16 * a + t) := hI.1 _ (by omega)
        have q2 : s (16 * b + t) = c (16 * b + t) := hI.1 _ (by omega)
        rw [zu_s, q1, q2]
      · rw [zu_n (by omega)]
        exact hI.2.2 t (by omega)
end
section
/-! the component's product of slots -/
/-- entry of the product of slots a and b of c -/
def zP (c : Nat → Nat) (N a b i k : Nat) : Nat := zs (fun t => c (16 * a + (N * i + t)) * c (16 * b + (N * t + k))) N % 5
theorem zP_lt (c : Nat → Nat) (N a b i k : Nat) : zP c N a b i k < 5 := Nat.mod_lt _ (by decide)
theorem zs_cong {f g : Nat → Nat} : ∀ n : Nat, (∀ t, t < n → f t = g t) → zs f n = zs g n := by
  intro n
  induction n with
  | zero => intro _; rfl
  | succ n ih =>
    intro h
    show zs f n + f n = zs g n + g n
    rw [ih (fun t ht => h t (by omega)), h n (by omega)]
theorem zP_cong {c c' : Nat → Nat} {N a b a' b' i k : Nat} (hi : i < N) (hk : k < N) (h1 : ∀ t, t < N * N → c (16 * a + t) = c' (16 * a' + t)) (h2 : ∀ t, t < N * N → c (16 * b + t) = c' (16 * b' + t)) :
    zP c N a b i k = zP c' N a' b' i k := by
  refine congrArg (· % 5) (zs_cong N ?_)
  intro t ht
  rw [h1 _ (zi_lt hi ht), h2 _ (zi_lt ht hk)]
theorem xm_30 {post : SX → Prop} {J3 J15 : Int32 → (Nat → Int32) → (Nat → Int32) → (Nat → Int32) → Prop} {x1 : Int32} {N a b i k : Nat} {s m f : Nat → Nat} (hN : N ≤ 4) (ha : a < 6) (hb : b < 6) (hi : i < N) (hk : k < N) (hs : ∀ j, s j < 5)
    (H : J15 (nI (k + 1)) (zA (zu s (96 + (N * i + k)) (zP s N a b i k))) (zA m) (zA f)) :
    ∃ n, wX_multiply_30 post J3 J15 x1 (nI a) (nI b) (nI i) (nI k) (nI N) (zA s) (zA m) (zA f) n 0 0 := by
  have hsq := zi_sq hN
  have hik := zi_lt hi hk
  have hz := fun n => zs_le (f := fun t => s (16 * a + (N * i + t)) * s (16 * b + (N * t + k))) (B := 16) (fun t => Nat.mul_le_mul (Nat.le_of_lt_succ (hs _)) (Nat.le_of_lt_succ (hs _))) n
  refine loop_0 (fun n t (q : Nat) => wX_multiply_30 post J3 J15 x1 (nI a) (nI b) (nI i) (nI k) (nI N) (zA s) (zA m) (zA f) n (nI q) (nI t))
    (fun t q => q = zs (fun t => s (16 * a + (N * i + t)) * s (16 * b + (N * t + k))) t) N 0 rfl ?_ ?_
  · intro n q hq
    have := hz N
    refine br_t (nI_le (Nat.le_refl _) (by omega)) ⟨zf5, ?_, nm_r (e' := zA (zu s (96 + (N * i + k)) (zP s N a b i k))) ?_ (nm_r (nI_1 k) H)⟩
    · rw [pk_mul, z96a, nI_add]; exact vp_in_nI (by omega) (by decide)
    · rw [pk_mul, z96a, nI_add, nI_clamp (by omega), hq, z5r (by omega), zA_upd, Nat.add_assoc]; rfl
  · intro n t q ht hq ih
    have h1 := zi_lt hi ht
    have h2 := zi_lt ht hk
    refine br_f (nI_ge ht (by omega)) ⟨?_, nm_r (e' := nI (s (16 * a + (N * i + t)))) ?_ ⟨?_, nm_r (e' := nI (q + s (16 * a + (N * i + t)) * s (16 * b + (N * t + k)))) ?_ (nm_r (nI_1 t) (ih _ ?_))⟩⟩
    · rw [z16m, pk_mul, nI_add, nI_add]; exact vp_in_nI (by omega) (by decide)
    · rw [z16m, pk_mul, nI_add, nI_add, nI_clamp (by omega), zA_at, Nat.add_assoc]
    · rw [z16m, pk_mul, nI_add, nI_add]; exact vp_in_nI (by omega) (by decide)
    · rw [z16m, pk_mul, nI_add, nI_add, nI_clamp (by omega), zA_at, pk_mul, nI_add, Nat.add_assoc]
    · rw [hq]; rfl
theorem xs_mul {post : SX → Prop} {N d a b : Nat} {c m f : Nat → Nat} (hN : N ≤ 4) (hd : d < 6) (ha : a < 6) (hb : b < 6) (hc : ∀ j, c j < 5)
    (H : ∀ c' : Nat → Nat, (∀ j, j < 96 → (j < 16 * d ∨ 16 * d + N * N ≤ j) → c' j = c j) → (∀ j, c' j < 5) →
      (∀ i k, i < N → k < N → c' (16 * d + (N * i + k)) = zP c N a b i k) → post (zX N c' m f)) :
    wpX_multiply post (zX N c m f) (nI d) (nI a) (nI b) := by
  have hsq := zi_sq hN
  show ∃ n3, wX_multiply_3 post (nI d) (nI a) (nI b) (nI N) n3 0 (zA c) (zA m) (zA f)
  refine loop_0 (fun n i (s : Nat → Nat) => wX_multiply_3 post (nI d) (nI a) (nI b) (nI N) n (nI i) (zA s) (zA m) (zA f))
    (fun i s => (∀ j, j < 96 → s j = c j) ∧ (∀ j, s j < 5) ∧ ∀ i' k', i' < i → i' < N → k' < N → s (96 + (N * i' + k')) = zP c N a b i' k') N c ⟨fun _ _ => rfl, hc, fun i' k' h => absurd h (by omega)⟩ ?_ ?_
  · intro n s hI
    refine br_t (nI_le (Nat.le_refl _) (by omega)) ?_
    refine xs_copy (a := 6) hN (by omega) (by omega) (by omega) ?_
    intro c' h1 h2
    have hb5 : ∀ j, c' j < 5 := by
      intro j
      by_cases e : j < 16 * d ∨ 16 * d + N * N ≤ j
      · rw [h1 j e]; exact hI.2.1 j
      · have := h2 (j - 16 * d) (by omega)
        rw [show 16 * d + (j - 16 * d) = j by omega] at this
        rw [this]; exact hI.2.1 _
    refine H c' ?_ hb5 ?_
    · intro j hj e
      rw [h1 j e]; exact hI.1 j hj
    · intro i k hi hk
      rw [h2 _ (zi_lt hi hk)]
      exact hI.2.2 i k hi hi hk
  · intro n i s hi hI ih
    refine br_f (nI_ge hi (by omega)) ?_
    refine loop_0 (fun n' k (s' : Nat → Nat) => wX_multiply_15 post (wX_multiply_3 post (nI d) (nI a) (nI b) (nI N) n) (nI d) (nI a) (nI b) (nI i) (nI N) n' (nI k) (zA s') (zA m) (zA f))
      (fun k s' => (∀ j, j < 96 → s' j = c j) ∧ (∀ j, s' j < 5) ∧ ∀ i' k', (i' < i ∨ (i' = i ∧ k' < k)) → i' < N → k' < N → s' (96 + (N * i' + k')) = zP c N a b i' k') N s ⟨hI.1, hI.2.1, ?_⟩ ?_ ?_
    · intro i' k' h hi' hk'
      exact hI.2.2 i' k' (by omega) hi' hk'
    · intro n' s' hJ
      refine br_t (nI_le (Nat.le_refl _) (by omega)) (nm_r (nI_1 i) (ih s' ⟨hJ.1, hJ.2.1, ?_⟩))
      intro i' k' h hi' hk'
      exact hJ.2.2 i' k' (by omega) hi' hk'
    · intro n' k s' hk hJ ih'
      refine br_f (nI_ge hk (by omega)) ?_
      refine xm_30 hN ha hb hi hk hJ.2.1 (ih' _ ⟨?_, ?_, ?_⟩)
      · intro j hj
        rw [zu_n (by omega)]; exact hJ.1 j hj
      · exact zu_lt hJ.2.1 (zP_lt _ _ _ _ _ _)
      · intro i' k' h hi' hk'
        have hcg : zP s' N a b i k = zP c N a b i k := zP_cong hi hk (fun t ht => hJ.1 _ (by omega)) (fun t ht => hJ.1 _ (by omega))
        by_cases e : 96 + (N * i' + k') = 96 + (N * i + k)
        · obtain ⟨rfl, rfl⟩ := zi_inj hk' hk (Nat.add_left_cancel e)
          rw [zu_s, hcg]
        · rw [zu_n e]
          refine hJ.2.2 i' k' ?_ hi' hk'
          rcases h with h | ⟨h, h'⟩
          · exact Or.inl h
          · refine Or.inr ⟨h, ?_⟩
            subst h
            by_cases e2 : k' = k
            · subst e2; exact absurd rfl e
            · omega
theorem xs_isId {post : Int32 → Prop} {N s : Nat} {c m f : Nat → Nat} (hN : N ≤ 4) (hs : s < 7) (hc : ∀ j, c j < 5)
    (H1 : (∀ i k, i < N → k < N → c (16 * s + (N * i + k)) = if i = k then 1 else 0) → post 1)
    (H0 : (¬ ∀ i k, i < N → k < N → c (16 * s + (N * i + k)) = if i = k then 1 else 0) → post 0) :
    wpX_isIdentity post (zX N c m f) (nI s) := by
  have hsq := zi_sq hN
  show ∃ n2, wX_isIdentity_2 post (nI s) (nI N) (zA c) (zA m) (zA f) n2 0
  refine loop_0 (fun n i (_ : Unit) => wX_isIdentity_2 post (nI s) (nI N) (zA c) (zA m) (zA f) n (nI i))
    (fun i _ => ∀ i' k', i' < i → k' < N → c (16 * s + (N * i' + k')) = if i' = k' then 1 else 0) N () (fun i' k' h => absurd h (by omega)) ?_ ?_
  · intro n _ hI
    exact br_t (nI_le (Nat.le_refl _) (by omega)) (H1 hI)
  · intro n i _ hi hI ih
    refine br_f (nI_ge hi (by omega)) ?_
    refine loop_0 (fun n' k (_ : Unit) => wX_isIdentity_12 post (wX_isIdentity_2 post (nI s) (nI N) (zA c) (zA m) (zA f) n) (nI s) (nI i) (nI N) (zA c) (zA m) (zA f) n' (nI k))
      (fun k _ => ∀ k', k' < k → c (16 * s + (N * i + k')) = if i = k' then 1 else 0) N () (fun k' h => absurd h (by omega)) ?_ ?_
    · intro n' _ hJ
      refine br_t (nI_le (Nat.le_refl _) (by omega)) (nm_r (nI_1 i) (ih () ?_))
      intro i' k' h hk'
      by_cases e : i' = i
      · subst e; exact hJ k' hk'
      · exact hI i' k' (by omega) hk'
    · intro n' k _ hk hJ ih'
      have hik := zi_lt hi hk
      have hcl := hc (16 * s + (N * i + k))
      have key : ∀ z : Nat, z = (if i = k then 1 else 0) → wX_isIdentity_30 post (wX_isIdentity_2 post (nI s) (nI N) (zA c) (zA m) (zA f) n) (wX_isIdentity_12 post (wX_isIdentity_2 post (nI s) (nI N) (zA c) (zA m) (zA f) n) (nI s) (nI i) (nI N) (zA c) (zA m) (zA f) n') (nI s) (nI i) (nI k) (nI z) (nI N) (zA c) (zA m) (zA f) := by
        intro z hz
        have hz2 : z < 5 := by rw [hz]; split <;> decide
        have e0 : ((16 : Int32) * nI s + nI N * nI i) + nI k = nI (16 * s + (N * i + k)) := by
          rw [z16m, pk_mul, nI_add, nI_add, Nat.add_assoc]
        unfold wX_isIdentity_30
        rw [e0, nI_clamp (by omega), zA_at]
        refine ⟨vp_in_nI (by omega) (by decide), pk_eq (c (16 * s + (N * i + k))) z ?_ ?_⟩
        · intro e
          refine nm_r (nI_1 k) (ih' () ?_)
          intro k' hk'
          by_cases e2 : k' = k
          · subst e2; rw [e, hz]
          · exact hJ k' (by omega)
        · intro e
          refine H0 ?_
          intro z'
          exact e (by rw [z' i k hi hk, hz])
      refine br_f (nI_ge hk (by omega)) (pk_eq i k ?_ ?_)
      · intro e
        exact key 1 (by rw [if_pos e])
      · intro e
        exact key 0 (by rw [if_neg e])
end
section
/-! the reference's matrix methods over slots -/
theorem ys_in {post : Int32 → Prop} {u : SY} {n a b : Nat} (h1 : a ≤ n) (h2 : n ≤ b) (hb : b < 2 ^ 31) (H : post 1) : wpY_in post u (nI n) (nI a) (nI b) := by
  obtain ⟨u1, u2, u3, u4, u5, u6, u7, u8, u9⟩ := u
  exact br_f (nI_nlt h1 (by omega)) (br_f (nI_nlt h2 hb) H)
theorem ys_inL {post : Int32 → Prop} {u : SY} {x y z : Int32} (h : x < y) (H : post 0) : wpY_in post u x y z := by
  obtain ⟨u1, u2, u3, u4, u5, u6, u7, u8, u9⟩ := u
  exact br_t h H
theorem ys_inH {post : Int32 → Prop} {u : SY} {x y z : Int32} (h : z < x) (H : post 0) : wpY_in post u x y z := by
  obtain ⟨u1, u2, u3, u4, u5, u6, u7, u8, u9⟩ := u
  exact br_c (fun _ => H) (fun _ => br_t h H)
/-- x is not one of 0 .. n - 1 -/
def zOut (x : Int32) (n : Nat) : Prop := x < 0 ∨ (¬ x < 0 ∧ nI n ≤ x)
theorem zout (x : Int32) {n : Nat} (hn : n < 2 ^ 31) : (∃ j : Nat, j < n ∧ x = nI j) ∨ zOut x n := by
  by_cases h : x < 0
  · exact Or.inr (Or.inl h)
  · rcases pk_ix x hn with h1 | h1 | h1
    · exact absurd h1 h
    · exact Or.inr (Or.inr ⟨h, h1⟩)
    · exact Or.inl h1
theorem zout_gt {x : Int32} {n : Nat} (h0 : ¬ x < 0) (hn : n + 1 < 2 ^ 31) (h : nI (n + 1) ≤ x) : nI n < x := by
  obtain ⟨j, hj, rfl⟩ := nI_of h0
  rw [nI_leI hn hj] at h
  exact nI_lt (by omega) hj
theorem ys_inO {post : Int32 → Prop} {u : SY} {x : Int32} {n : Nat} (hn : n + 1 < 2 ^ 31) (h : zOut x (n + 1)) (H : post 0) : wpY_in post u x 0 (nI n) := by
  rcases h with h | ⟨h0, h⟩
  · exact ys_inL h H
  · exact ys_inH (zout_gt h0 hn h) H
theorem yr_ok {post : Int32 → Prop} {u : SY} {n : Nat} (h : n < 4) (H : post 1) : wpY_isRegister post u (nI n) := by
  obtain ⟨u1, u2, u3, u4, u5, u6, u7, u8, u9⟩ := u
  unfold wpY_isRegister; dsimp only
  refine ys_in (n := n) (a := 0) (b := 3) (Nat.zero_le _) (by omega) (by decide) ?_
  exact ⟨rfl, H⟩
theorem yr_no {post : Int32 → Prop} {u : SY} {x : Int32} (h : zOut x 4) (H : post 0) : wpY_isRegister post u x := by
  obtain ⟨u1, u2, u3, u4, u5, u6, u7, u8, u9⟩ := u
  unfold wpY_isRegister; dsimp only
  refine ys_inO (n := 3) (by decide) h ?_
  exact ⟨rfl, H⟩
theorem xr_ok {post : Int32 → Prop} {n : Nat} (h : n < 4) (H : post 1) : wpX_isRegister post (nI n) :=
  br_f (nI_pos (by omega)) (br_f (nI_ge (b := 4) h (by decide)) H)
theorem xr_no {post : Int32 → Prop} {x : Int32} (h : zOut x 4) (H : post 0) : wpX_isRegister post x := by
  rcases h with h | ⟨h0, h⟩
  · exact br_t h H
  · exact br_f h0 (br_t h H)
theorem xr_num {post : Int32 → Prop} {n : Nat} (h : n < 5) (H : post 1) : wpX_isNumber post (nI n) :=
  br_f (nI_pos (by omega)) (br_f (nI_ge (b := 5) h (by decide)) H)
theorem xr_nnum {post : Int32 → Prop} {x : Int32} (h : zOut x 5) (H : post 0) : wpX_isNumber post x := by
  rcases h with h | ⟨h0, h⟩
  · exact br_t h H
  · exact br_f h0 (br_t h H)
theorem ys_entry {post : Int32 → Prop} {N r i j : Nat} {g : Nat → Nat} {mn te dv ot fc kp rw : Nat → Nat} (hN : N ≤ 4) (hr : r < 5) (hi : i < N) (hj : j < N)
    (H : post (nI (g (16 * r + (N * i + j))))) : wpY_entry post (zY N g mn te dv ot fc kp rw) (nI r) (nI i) (nI j) := by
  have hsq := zi_sq hN
  have hij := zi_lt hi hj
  show vp_in ((16 * nI r + nI N * nI i) + nI j) 96 ∧ post (zA g ((16 * nI r + nI N * nI i) + nI j).toNatClampNeg)
  rw [z16m, pk_mul, nI_add, nI_add, nI_clamp (by omega), zA_at, Nat.add_assoc]
  exact ⟨vp_in_nI (by omega) (by decide), H⟩
theorem ys_copy {post : SY → Prop} {N d a : Nat} {g : Nat → Nat} {mn te dv ot fc kp rw : Nat → Nat} (hd : d < 6) (ha : a < 6) (hda : d ≠ a)
    (H : ∀ g' : Nat → Nat, (∀ j, (j < 16 * d ∨ 16 * d + 16 ≤ j) → g' j = g j) → (∀ t, t < 16 → g' (16 * d + t) = g (16 * a + t)) → post (zY N g' mn te dv ot fc kp rw)) :
    wpY_copy post (zY N g mn te dv ot fc kp rw) (nI d) (nI a) := by
  show ∃ n2, wY_copy_2 post (nI d) (nI a) (nI N) n2 0 (zA g) (zA mn) (zA te) (zA dv) (zA ot) (zA fc) (zA kp) (zA rw)
  refine loop_0 (fun n i (s : Nat → Nat) => wY_copy_2 post (nI d) (nI a) (nI N) n (nI i) (zA s) (zA mn) (zA te) (zA dv) (zA ot) (zA fc) (zA kp) (zA rw))
    (fun i s => (∀ j, (j < 16 * d ∨ 16 * d + i ≤ j) → s j = g j) ∧ ∀ t, t < i → s (16 * d + t) = g (16 * a + t)) 16 g ⟨fun _ _ => rfl, fun t h => absurd h (by omega)⟩ ?_ ?_
  · intro n s hI
    exact br_t (nI_le (a := 16) (Nat.le_refl _) (by omega)) (H s hI.1 hI.2)
  · intro n i s hi hI ih
    refine br_f (nI_ge (b := 16) hi (by omega)) ⟨?_, ?_, nm_r (e' := zA (zu s (16 * d + i) (s (16 * a + i)))) ?_ (nm_r (nI_1 i) (ih _ ⟨?_, ?_⟩))⟩
    · rw [z16m, nI_add]; exact vp_in_nI (by omega) (by decide)
    · rw [z16m, nI_add]; exact vp_in_nI (by omega) (by decide)
    · rw [z16m, z16m, nI_add, nI_add, nI_clamp (by omega), nI_clamp (by omega), zA_at, zA_upd]
    · intro j hj
      rw [zu_n (by omega)]
      exact hI.1 j (by omega)
    · intro t ht
      by_cases e : t = i
      · subst e
        rw [zu_s]
        exact hI.1 _ (by omega)
      · rw [zu_n (by omega)]
        exact hI.2 t (by omega)
theorem zdiag : ∀ N, N ≤ 4 → ∀ i, i < N → ∀ k, k < N → ((N * i + k) % (N + 1) = 0 ↔ i = k) := by decide
theorem ys_id {post : SY → Prop} {N d : Nat} {g : Nat → Nat} {mn te dv ot fc kp rw : Nat → Nat} (hN : N ≤ 4) (hd : d < 6) (hg : ∀ j, g j < 5)
    (H : ∀ g' : Nat → Nat, (∀ j, (j < 16 * d ∨ 16 * d + 16 ≤ j) → g' j = g j) → (∀ j, g' j < 5) → (∀ i k, i < N → k < N → g' (16 * d + (N * i + k)) = if i = k then 1 else 0) → post (zY N g' mn te dv ot fc kp rw)) :
    wpY_makeIdentity post (zY N g mn te dv ot fc kp rw) (nI d) := by
  have hsq := zi_sq hN
  show ∃ n2, wY_makeIdentity_2 post (nI d) (nI N) n2 0 (zA g) (zA mn) (zA te) (zA dv) (zA ot) (zA fc) (zA kp) (zA rw)
  refine loop_0 (fun n i (s : Nat → Nat) => wY_makeIdentity_2 post (nI d) (nI N) n (nI i) (zA s) (zA mn) (zA te) (zA dv) (zA ot) (zA fc) (zA kp) (zA rw))
    (fun i s => (∀ j, (j < 16 * d ∨ 16 * d + i ≤ j) → s j = g j) ∧ (∀ j, s j < 5) ∧ ∀ t, t < i → s (16 * d + t) = if t < N * N ∧ t % (N + 1) = 0 then 1 else 0) 16 g ⟨fun _ _ => rfl, hg, fun t h => absurd h (by omega)⟩ ?_ ?_
  · intro n s hI
    refine br_t (nI_le (a := 16) (Nat.le_refl _) (by omega)) (H s hI.1 hI.2.1 ?_)
    intro i k hi hk
    have hik := zi_lt hi hk
    rw [hI.2.2 _ (by omega)]
    have := zdiag N hN i hi k hk
    by_cases e : i = k
    · rw [if_pos e, if_pos ⟨hik, this.mpr e⟩]
    · rw [if_neg e, if_neg (fun z => e (this.mp z.2))]
  · intro n i s hi hI ih
    have key : ∀ z : Nat, z = (if i < N * N ∧ i % (N + 1) = 0 then 1 else 0) → ∀ {q : Int32}, q = nI z →
        vp_in ((16 * nI d) + nI i) 96 ∧ ∀ a_regs_4 : Nat → Int32, a_regs_4 = upd (zA s) ((16 * nI d) + nI i).toNatClampNeg q → ∀ x2_5 : Int32, x2_5 = nI i + 1 → wY_makeIdentity_2 post (nI d) (nI N) n x2_5 a_regs_4 (zA mn) (zA te) (zA dv) (zA ot) (zA fc) (zA kp) (zA rw) := by
      intro z hz q hq
      subst hq
      have hz2 : z < 5 := by rw [hz]; split <;> decide
      refine ⟨?_, nm_r (e' := zA (zu s (16 * d + i) z)) ?_ (nm_r (nI_1 i) (ih _ ⟨?_, ?_, ?_⟩))⟩
      · rw [z16m, nI_add]; exact vp_in_nI (by omega) (by decide)
      · rw [z16m, nI_add, nI_clamp (by omega), zA_upd]
      · intro j hj
        rw [zu_n (by omega)]
        exact hI.1 j (by omega)
      · exact zu_lt hI.2.1 hz2
      · intro t ht
        by_cases e : t = i
        · subst e
          rw [zu_s]; exact hz
        · rw [zu_n (by omega)]
          exact hI.2.2 t (by omega)
    refine br_f (nI_ge (b := 16) hi (by omega)) (pk_le (N * N) i ?_ ?_ (pk_mul N N))
    · intro h
      exact key 0 (by rw [if_neg (by omega)]) rfl
    · intro h
      refine ⟨by rw [nI_1]; exact nI_ne0 (by omega) (by omega), ?_⟩
      rw [nI_1, pk_rem (by omega) (by omega) (by omega)]
      refine pk_eq (i % (N + 1)) 0 ?_ ?_ (ha := Nat.lt_of_le_of_lt (Nat.mod_le _ _) (by omega))
      · intro e
        exact key 1 (by rw [if_pos ⟨h, e⟩]) rfl
      · intro e
        exact key 0 (by rw [if_neg (fun z => e z.2)]) rfl
theorem ys_dot {post : Int32 → Prop} {N a b i k : Nat} {g : Nat → Nat} {mn te dv ot fc kp rw : Nat → Nat} (hN : N ≤ 4) (ha : a < 5) (hb : b < 5) (hi : i < N) (hk : k < N) (hg : ∀ j, g j < 5)
    (H : post (nI (zP g N a b i k))) : wpY_dot post (zY N g mn te dv ot fc kp rw) (nI a) (nI b) (nI i) (nI k) := by
  have hz := fun n => zs_le (f := fun t => g (16 * a + (N * i + t)) * g (16 * b + (N * t + k))) (B := 16) (fun t => Nat.mul_le_mul (Nat.le_of_lt_succ (hg _)) (Nat.le_of_lt_succ (hg _))) n
  show ∃ n6, wY_dot_6 post (nI a) (nI b) (nI i) (nI k) (nI N) (zA g) (zA mn) (zA te) (zA dv) (zA ot) (zA fc) (zA kp) (zA rw) n6 0 0
  refine loop_0 (fun n t (q : Nat) => wY_dot_6 post (nI a) (nI b) (nI i) (nI k) (nI N) (zA g) (zA mn) (zA te) (zA dv) (zA ot) (zA fc) (zA kp) (zA rw) n (nI q) (nI t))
    (fun t q => q = zs (fun t => g (16 * a + (N * i + t)) * g (16 * b + (N * t + k))) t) N 0 rfl ?_ ?_
  · intro n q hq
    have := hz N
    refine br_t (nI_le (Nat.le_refl _) (by omega)) ⟨zf5, ?_⟩
    rw [hq, z5r (by omega)]
    exact H
  · intro n t q ht hq ih
    refine br_f (nI_ge ht (by omega)) (ys_entry hN ha hi ht (ys_entry hN hb ht hk ?_))
    refine nm_r (e' := nI (q + g (16 * a + (N * i + t)) * g (16 * b + (N * t + k)))) ?_ (nm_r (nI_1 t) (ih _ ?_))
    · rw [pk_mul, nI_add]
    · rw [hq]; rfl
theorem ys_mul {post : SY → Prop} {N a b : Nat} {g : Nat → Nat} {mn te dv ot fc kp rw : Nat → Nat} (hN : N ≤ 4) (ha : a < 5) (hb : b < 5) (hg : ∀ j, g j < 5)
    (H : ∀ g' : Nat → Nat, (∀ j, j < 80 → g' j = g j) → (∀ j, g' j < 5) → (∀ i k, i < N → k < N → g' (80 + (N * i + k)) = zP g N a b i k) → post (zY N g' mn te dv ot fc kp rw)) :
    wpY_multiply post (zY N g mn te dv ot fc kp rw) (nI a) (nI b) := by
  have hsq := zi_sq hN
  show ∃ n2, wY_multiply_2 post (nI a) (nI b) (nI N) n2 0 (zA g) (zA mn) (zA te) (zA dv) (zA ot) (zA fc) (zA kp) (zA rw)
  refine loop_0 (fun n i (s : Nat → Nat) => wY_multiply_2 post (nI a) (nI b) (nI N) n (nI i) (zA s) (zA mn) (zA te) (zA dv) (zA ot) (zA fc) (zA kp) (zA rw))
    (fun i s => (∀ j, j < 80 → s j = g j) ∧ (∀ j, s j < 5) ∧ ∀ i' k', i' < i → i' < N → k' < N → s (80 + (N * i' + k')) = zP g N a b i' k') N g ⟨fun _ _ => rfl, hg, fun i' k' h => absurd h (by omega)⟩ ?_ ?_
  · intro n s hI
    exact br_t (nI_le (Nat.le_refl _) (by omega)) (H s hI.1 hI.2.1 (fun i k hi hk => hI.2.2 i k hi hi hk))
  · intro n i s hi hI ih
    refine br_f (nI_ge hi (by omega)) ?_
    refine loop_0 (fun n' k (s' : Nat → Nat) => wY_multiply_13 post (wY_multiply_2 post (nI a) (nI b) (nI N) n) (nI a) (nI b) (nI i) (nI N) n' (nI k) (zA s') (zA mn) (zA te) (zA dv) (zA ot) (zA fc) (zA kp) (zA rw))
      (fun k s' => (∀ j, j < 80 → s' j = g j) ∧ (∀ j, s' j < 5) ∧ ∀ i' k', (i' < i ∨ (i' = i ∧ k' < k)) → i' < N → k' < N → s' (80 + (N * i' + k')) = zP g N a b i' k') N s ⟨hI.1, hI.2.1, ?_⟩ ?_ ?_
    · intro i' k' h hi' hk'
      exact hI.2.2 i' k' (by omega) hi' hk'
    · intro n' s' hJ
      refine br_t (nI_le (Nat.le_refl _) (by omega)) (nm_r (nI_1 i) (ih s' ⟨hJ.1, hJ.2.1, ?_⟩))
      intro i' k' h hi' hk'
      exact hJ.2.2 i' k' (by omega) hi' hk'
    · intro n' k s' hk hJ ih'
      have hik := zi_lt hi hk
      have hcg : zP s' N a b i k = zP g N a b i k := zP_cong hi hk (fun t ht => hJ.1 _ (by omega)) (fun t ht => hJ.1 _ (by omega))
      refine br_f (nI_ge hk (by omega)) (ys_dot hN ha hb hi hk hJ.2.1 ?_)
      refine ⟨?_, nm_r (e' := zA (zu s' (80 + (N * i + k)) (zP s' N a b i k))) ?_ (nm_r (nI_1 k) (ih' _ ⟨?_, ?_, ?_⟩))⟩
      · rw [pk_mul, z80a, nI_add]; exact vp_in_nI (by omega) (by decide)
      · rw [pk_mul, z80a, nI_add, nI_clamp (by omega), zA_upd, Nat.add_assoc]
      · intro j hj
        rw [zu_n (by omega)]; exact hJ.1 j hj
      · exact zu_lt hJ.2.1 (zP_lt _ _ _ _ _ _)
      · intro i' k' h hi' hk'
        by_cases e : 80 + (N * i' + k') = 80 + (N * i + k)
        · obtain ⟨rfl, rfl⟩ := zi_inj hk' hk (Nat.add_left_cancel e)
          rw [zu_s, hcg]
        · rw [zu_n e]
          refine hJ.2.2 i' k' ?_ hi' hk'
          rcases h with h | ⟨h, h'⟩
          · exact Or.inl h
          · refine Or.inr ⟨h, ?_⟩
            subst h
            by_cases e2 : k' = k
            · subst e2; exact absurd rfl e
            · omega
end
section
/-! the relation; new objects, set, get -/
def i_Rel (k : Nat) (u : SX) (v : SY) : Prop := ∃ (N : Nat) (c m f g mn te dv ot fc kp rw : Nat → Nat), u = zX N c m f ∧ v = zY N g mn te dv ot fc kp rw ∧ 1 ≤ N ∧ N ≤ 4 ∧ (∀ j, c j < 5) ∧ (∀ j, g j < 5) ∧ ∀ r t, r < 4 → t < N * N → c (16 * r + t) = g (16 * r + t)
theorem i_up {k : Nat} {u : SX} {v : SY} (h : i_Rel k u v) : i_Rel (k + 5) u v := h
theorem zR {k N : Nat} {c m f g : Nat → Nat} {mn te dv ot fc kp rw : Nat → Nat} (h1 : 1 ≤ N) (h4 : N ≤ 4) (hc : ∀ j, c j < 5) (hg : ∀ j, g j < 5) (h : ∀ r t, r < 4 → t < N * N → c (16 * r + t) = g (16 * r + t)) : i_Rel k (zX N c m f) (zY N g mn te dv ot fc kp rw) :=
  ⟨N, c, m, f, g, mn, te, dv, ot, fc, kp, rw, rfl, rfl, h1, h4, hc, hg, h⟩
theorem i_vc0 (k0 : Int32) : wpX_init (fun u => wpY_init (fun v => i_Rel 1 u v) k0) k0 := by
  have key : ∀ N : Nat, 1 ≤ N → N ≤ 4 → i_Rel 1 (nI N, (fun _ => 0), (fun _ => 0), (fun _ => 0)) (nI N, (fun _ => 0), (fun _ => 0), (fun _ => 0), (fun _ => 0), (fun _ => 0), (fun _ => 0), (fun _ => 0), (fun _ => 0)) := by
    intro N h1 h4
    exact zR (c := fun _ => 0) (m := fun _ => 0) (f := fun _ => 0) (g := fun _ => 0) (mn := fun _ => 0) (te := fun _ => 0) (dv := fun _ => 0) (ot := fun _ => 0) (fc := fun _ => 0) (kp := fun _ => 0) (rw := fun _ => 0) h1 h4 (fun _ => by decide) (fun _ => by decide) (fun _ _ _ _ => rfl)
  by_cases h1 : (1 : Int32) ≤ k0
  · by_cases h4 : k0 ≤ 4
    · have h0 : ¬ k0 < 0 := by
        intro z
        have := Int32.lt_of_le_of_lt h1 z
        exact absurd this (by decide)
      obtain ⟨j, hj, rfl⟩ := nI_of h0
      have g1 : 1 ≤ j := (nI_leI (a := 1) (by decide) hj).mp h1
      have g4 : j ≤ 4 := (nI_leI (b := 4) hj (by decide)).mp h4
      exact br_t h1 (br_t h4 (br_t h1 (br_t h4 (key j g1 g4))))
    · exact br_t h1 (br_f h4 (br_t h1 (br_f h4 (key 4 (by decide) (by decide)))))
  · exact br_f h1 (br_f h1 (key 1 (by decide) (by decide)))
theorem xr_place {post : Int32 → Prop} {N n : Nat} {c m f : Nat → Nat} (hN : N ≤ 4) (h : n < N * N) (H : post 1) : wpX_isPlace post (zX N c m f) (nI n) := by
  have hsq := zi_sq hN
  refine br_f (nI_pos (by omega)) (br_f ?_ H)
  rw [pk_mul]; exact nI_ge h (by omega)
theorem xr_nplace {post : Int32 → Prop} {N : Nat} {x : Int32} {c m f : Nat → Nat} (h : zOut x (N * N)) (H : post 0) : wpX_isPlace post (zX N c m f) x := by
  rcases h with h | ⟨h0, h⟩
  · exact br_t h H
  · refine br_f h0 (br_t ?_ H)
    rw [pk_mul]; exact h
theorem zsq1 {N : Nat} (h : 1 ≤ N) : nI N * nI N - 1 = nI (N * N - 1) := by
  have : 1 ≤ N * N := Nat.mul_le_mul h h
  rw [pk_mul, zs1 this]
theorem zsqs {N : Nat} (h : 1 ≤ N) : N * N = (N * N - 1) + 1 := by
  have : 1 ≤ N * N := Nat.mul_le_mul h h
  omega
theorem i_vc_set {k : Nat} {u : SX} {v : SY} (I : i_Rel k u v) (hk : k + 5 ≤ 2561) (v1 : Int32) (v2 : Int32) (v3 : Int32) : wpX_set (fun r u' => wpY_set (fun r' v' => r' = r ∧ i_Rel (k + 5) u' v') v v1 v2 v3) u v1 v2 v3 := by
  obtain ⟨N, c, m, f, g, mn, te, dv, ot, fc, kp, rw, rfl, rfl, h1, h4, hc, hg, h⟩ := I
  have hsq := zi_sq h4
  have J : i_Rel (k + 5) (zX N c m f) (zY N g mn te dv ot fc kp rw) := zR h1 h4 hc hg h
  unfold wpX_set wpY_set; dsimp only
  rcases zout v1 (n := 4) (by decide) with ⟨r, hr, rfl⟩ | o1
  · refine xr_ok hr (br_f zf1 ?_)
    rcases zout v2 (n := N * N) (by omega) with ⟨t, ht, rfl⟩ | o2
    · refine xr_place h4 ht (br_f zf1 ?_)
      rcases zout v3 (n := 5) (by decide) with ⟨w, hw, rfl⟩ | o3
      · refine xr_num hw (br_f zf1 ⟨?_, nm_r (e' := zA (zu c (16 * r + t) w)) ?_ ?_⟩)
        · rw [z16m, nI_add]; exact vp_in_nI (by omega) (by decide)
        · rw [z16m, nI_add, nI_clamp (by omega), zA_upd]
        · refine yr_ok hr (br_f zf1 ?_)
          rw [zsq1 h1]
          refine ys_in (n := t) (a := 0) (Nat.zero_le _) (by omega) (by omega) (br_f zf1 ?_)
          refine ys_in (n := w) (a := 0) (b := 4) (Nat.zero_le _) (by omega) (by decide) (br_f zf1 ⟨?_, nm_r (e' := zA (zu g (16 * r + t) w)) ?_ ⟨rfl, ?_⟩⟩)
          · rw [z16m, nI_add]; exact vp_in_nI (by omega) (by decide)
          · rw [z16m, nI_add, nI_clamp (by omega), zA_upd]
          · refine zR h1 h4 (zu_lt hc hw) (zu_lt hg hw) ?_
            intro r' t' hr' ht'
            by_cases e : 16 * r' + t' = 16 * r + t
            · rw [e, zu_s, zu_s]
            · rw [zu_n e, zu_n e]; exact h r' t' hr' ht'
      · refine xr_nnum o3 (br_t rfl ?_)
        refine yr_ok hr (br_f zf1 ?_)
        rw [zsq1 h1]
        refine ys_in (n := t) (a := 0) (Nat.zero_le _) (by omega) (by omega) (br_f zf1 ?_)
        exact ys_inO (n := 4) (by decide) o3 (br_t rfl ⟨rfl, J⟩)
    · refine xr_nplace o2 (br_t rfl ?_)
      refine yr_ok hr (br_f zf1 ?_)
      rw [zsq1 h1]
      rw [zsqs h1] at o2
      exact ys_inO (by omega) o2 (br_t rfl ⟨rfl, J⟩)
  · exact xr_no o1 (br_t rfl (yr_no o1 (br_t rfl ⟨rfl, J⟩)))
theorem i_vc_get {k : Nat} {u : SX} {v : SY} (I : i_Rel k u v) (hk : k + 5 ≤ 2561) (v1 : Int32) (v2 : Int32) : wpX_get (fun r => wpY_get (fun r' => r' = r ∧ i_Rel (k + 5) u v) v v1 v2) u v1 v2 := by
  obtain ⟨N, c, m, f, g, mn, te, dv, ot, fc, kp, rw, rfl, rfl, h1, h4, hc, hg, h⟩ := I
  have hsq := zi_sq h4
  have J : i_Rel (k + 5) (zX N c m f) (zY N g mn te dv ot fc kp rw) := zR h1 h4 hc hg h
  unfold wpX_get wpY_get; dsimp only
  rcases zout v1 (n := 4) (by decide) with ⟨r, hr, rfl⟩ | o1
  · refine xr_ok hr (br_f zf1 ?_)
    rcases zout v2 (n := N * N) (by omega) with ⟨t, ht, rfl⟩ | o2
    · refine xr_place h4 ht (br_f zf1 ⟨?_, ?_⟩)
      · rw [z16m, nI_add]; exact vp_in_nI (by omega) (by decide)
      · refine yr_ok hr (br_f zf1 ?_)
        rw [zsq1 h1]
        refine ys_in (n := t) (a := 0) (Nat.zero_le _) (by omega) (by omega) (br_f zf1 ⟨?_, ?_, J⟩)
        · rw [z16m, nI_add]; exact vp_in_nI (by omega) (by decide)
        · rw [z16m, nI_add, nI_clamp (by omega), zA_at, zA_at, h r t hr ht]
    · refine xr_nplace o2 (br_t rfl ?_)
      refine yr_ok hr (br_f zf1 ?_)
      rw [zsq1 h1]
      rw [zsqs h1] at o2
      exact ys_inO (by omega) o2 (br_t rfl ⟨rfl, J⟩)
  · exact xr_no o1 (br_t rfl (yr_no o1 (br_t rfl ⟨rfl, J⟩)))
end
section
/-! apply -/
theorem ys_app {post : Int32 → SY → Prop} {N o d a b : Nat} {g : Nat → Nat} {mn te dv ot fc kp rw : Nat → Nat} (hN : N ≤ 4) (ho : o < 3) (hd : d < 4) (ha : a < 4) (hb : b < 4) (hg : ∀ j, g j < 5)
    (H : ∀ g' : Nat → Nat, (∀ j, (j < 16 * d ∨ 16 * d + N * N ≤ j) → g' j = g j) → (∀ j, g' j < 5) →
      (∀ t, t < N * N → g' (16 * d + t) = if o = 0 then (g (16 * a + t) + g (16 * b + t)) % 5 else if o = 1 then (g (16 * a + t) + 5 - g (16 * b + t)) % 5 else g (80 + t)) → post 1 (zY N g' mn te dv ot fc kp rw)) :
    ∃ n47, wY_apply_47 post (nI o) (nI d) (nI a) (nI b) (nI N) n47 0 (zA g) (zA mn) (zA te) (zA dv) (zA ot) (zA fc) (zA kp) (zA rw) := by
  have hsq := zi_sq hN
  refine loop_0 (fun n i (s : Nat → Nat) => wY_apply_47 post (nI o) (nI d) (nI a) (nI b) (nI N) n (nI i) (zA s) (zA mn) (zA te) (zA dv) (zA ot) (zA fc) (zA kp) (zA rw))
    (fun i s => (∀ j, (j < 16 * d ∨ 16 * d + i ≤ j) → s j = g j) ∧ (∀ j, s j < 5) ∧ ∀ t, t < i → s (16 * d + t) = if o = 0 then (g (16 * a + t) + g (16 * b + t)) % 5 else if o = 1 then (g (16 * a + t) + 5 - g (16 * b + t)) % 5 else g (80 + t)) (N * N) g ⟨fun _ _ => rfl, hg, fun t h => absurd h (by omega)⟩ ?_ ?_
  · intro n s hI
    exact br_t (by rw [pk_mul]; exact nI_le (Nat.le_refl _) (by omega)) (H s hI.1 hI.2.1 hI.2.2)
  · intro n i s hi hI ih
    have qa : s (16 * a + i) = g (16 * a + i) := hI.1 _ (by omega)
    have qb : s (16 * b + i) = g (16 * b + i) := hI.1 _ (by omega)
    have qc : s (80 + i) = g (80 + i) := hI.1 _ (by omega)
    have ba := hg (16 * a + i)
    have bb := hg (16 * b + i)
    have bc := hg (80 + i)
    have key : ∀ z : Nat, z < 5 → (z = if o = 0 then (g (16 * a + i) + g (16 * b + i)) % 5 else if o = 1 then (g (16 * a + i) + 5 - g (16 * b + i)) % 5 else g (80 + i)) → ∀ {q : Int32}, q = nI z →
        vp_in ((16 * nI d) + nI i) 96 ∧ ∀ a_regs_4 : Nat → Int32, a_regs_4 = upd (zA s) ((16 * nI d) + nI i).toNatClampNeg q → ∀ x2_5 : Int32, x2_5 = nI i + 1 → wY_apply_47 post (nI o) (nI d) (nI a) (nI b) (nI N) n x2_5 a_regs_4 (zA mn) (zA te) (zA dv) (zA ot) (zA fc) (zA kp) (zA rw) := by
      intro z hz2 hz q hq
      subst hq
      refine ⟨?_, nm_r (e' := zA (zu s (16 * d + i) z)) ?_ (nm_r (nI_1 i) (ih _ ⟨?_, ?_, ?_⟩))⟩
      · rw [z16m, nI_add]; exact vp_in_nI (by omega) (by decide)
      · rw [z16m, nI_add, nI_clamp (by omega), zA_upd]
      · intro j hj
        rw [zu_n (by omega)]
        exact hI.1 j (by omega)
      · exact zu_lt hI.2.1 hz2
      · intro t ht
        by_cases e : t = i
        · subst e
          rw [zu_s]; exact hz
        · rw [zu_n (by omega)]
          exact hI.2.2 t (by omega)
    refine br_f (by rw [pk_mul]; exact nI_ge hi (by omega)) ⟨?_, nm_r (e' := nI (g (16 * a + i))) ?_ ⟨?_, nm_r (e' := nI (g (16 * b + i))) ?_ (pk_eq o 0 ?_ ?_)⟩⟩
    · rw [z16m, nI_add]; exact vp_in_nI (by omega) (by decide)
    · rw [z16m, nI_add, nI_clamp (by omega), zA_at, qa]
    · rw [z16m, nI_add]; exact vp_in_nI (by omega) (by decide)
    · rw [z16m, nI_add, nI_clamp (by omega), zA_at, qb]
    · intro e
      exact ⟨zf5, key ((g (16 * a + i) + g (16 * b + i)) % 5) (by omega) (by rw [if_pos e]) (by rw [nI_add, z5r (by omega)])⟩
    · intro e
      refine pk_eq o 1 ?_ ?_
      · intro e1
        exact ⟨zf5, key ((g (16 * a + i) + 5 - g (16 * b + i)) % 5) (by omega) (by rw [if_neg e, if_pos e1]) (by rw [za5, pk_sub (by omega), z5r (by omega)])⟩
      · intro e1
        refine ⟨?_, key (g (80 + i)) bc (by rw [if_neg e, if_neg e1]) (by rw [z80a, nI_clamp (by omega), zA_at, qc])⟩
        rw [z80a]; exact vp_in_nI (by omega) (by decide)
theorem zSub {N d : Nat} {c c' g g' : Nat → Nat} (h : ∀ r t, r < 4 → t < N * N → c (16 * r + t) = g (16 * r + t)) (hsq : N * N ≤ 16)
    (h1 : ∀ j, j < 64 → (j < 16 * d ∨ 16 * d + N * N ≤ j) → c' j = c j) (h2 : ∀ j, j < 64 → (j < 16 * d ∨ 16 * d + 16 ≤ j) → g' j = g j)
    (h3 : ∀ t, t < N * N → c' (16 * d + t) = g' (16 * d + t)) : ∀ r t, r < 4 → t < N * N → c' (16 * r + t) = g' (16 * r + t) := by
  intro r t hr ht
  by_cases e : r = d
  · subst e; exact h3 t ht
  · rw [h1 _ (by omega) (by omega), h2 _ (by omega) (by omega)]
    exact h r t hr ht
theorem zij {N t : Nat} (h : t < N * N) : ∃ i k, i < N ∧ k < N ∧ t = N * i + k := by
  have hN : 0 < N := by
    cases N with
    | zero => omega
    | succ n => omega
  refine ⟨t / N, t % N, ?_, Nat.mod_lt _ hN, (Nat.div_add_mod t N).symm⟩
  exact (Nat.div_lt_iff_lt_mul hN).mpr h
theorem i_vc_apply {k : Nat} {u : SX} {v : SY} (I : i_Rel k u v) (hk : k + 5 ≤ 2561) (v1 : Int32) (v2 : Int32) (v3 : Int32) (v4 : Int32) : wpX_apply (fun r u' => wpY_apply (fun r' v' => r' = r ∧ i_Rel (k + 5) u' v') v v1 v2 v3 v4) u v1 v2 v3 v4 := by
  obtain ⟨N, c, m, f, g, mn, te, dv, ot, fc, kp, rw, rfl, rfl, h1, h4, hc, hg, h⟩ := I
  have hsq := zi_sq h4
  have J : i_Rel (k + 5) (zX N c m f) (zY N g mn te dv ot fc kp rw) := zR h1 h4 hc hg h
  unfold wpX_apply wpY_apply; dsimp only
  rcases zout v1 (n := 3) (by decide) with ⟨o, ho, rfl⟩ | o1
  · refine br_f (nI_pos (by omega)) (br_f (nI_nlt (b := o) (a := 2) (by omega) (by decide)) ?_)
    rcases zout v2 (n := 4) (by decide) with ⟨d, hd, rfl⟩ | o2
    · refine xr_ok hd (br_f zf1 ?_)
      rcases zout v3 (n := 4) (by decide) with ⟨a, ha, rfl⟩ | o3
      · refine xr_ok ha (br_f zf1 ?_)
        rcases zout v4 (n := 4) (by decide) with ⟨b, hb, rfl⟩ | o4
        · refine xr_ok hb (br_f zf1 ?_)
          have fin : ∀ c' : Nat → Nat, (∀ j, j < 64 → (j < 16 * d ∨ 16 * d + N * N ≤ j) → c' j = c j) → (∀ j, c' j < 5) →
              (∀ g1 : Nat → Nat, (∀ j, j < 80 → g1 j = g j) → (∀ i k, i < N → k < N → g1 (80 + (N * i + k)) = zP g N a b i k) → ∀ t, t < N * N → c' (16 * d + t) = if o = 0 then (g1 (16 * a + t) + g1 (16 * b + t)) % 5 else if o = 1 then (g1 (16 * a + t) + 5 - g1 (16 * b + t)) % 5 else g1 (80 + t)) →
              wpY_apply (fun r' v' => r' = 1 ∧ i_Rel (k + 5) (zX N c' m f) v') (zY N g mn te dv ot fc kp rw) (nI o) (nI d) (nI a) (nI b) := by
            intro c' q1 q2 q3
            unfold wpY_apply; dsimp only
            refine ys_in (n := o) (a := 0) (b := 2) (Nat.zero_le _) (by omega) (by decide) (br_f zf1 ?_)
            refine yr_ok hd (br_f zf1 ?_)
            refine yr_ok ha (br_f zf1 ?_)
            refine yr_ok hb (br_f zf1 ?_)
            refine ys_mul h4 (by omega) (by omega) hg ?_
            intro g1 p1 p2 p3
            refine ys_app h4 ho hd ha hb p2 ?_
            intro g' r1 r2 r3
            refine ⟨rfl, zR h1 h4 q2 r2 (zSub (d := d) h hsq q1 ?_ ?_)⟩
            · intro j hj e
              rw [r1 j (by omega), p1 j (by omega)]
            · intro t ht
              rw [q3 g1 p1 p3 t ht, r3 t ht]
          refine pk_eq o 2 ?_ ?_
          · intro e
            refine xs_mul h4 (by omega) (by omega) (by omega) hc ?_
            intro c' q1 q2 q3
            refine fin c' (fun j hj z => q1 j (by omega) z) q2 ?_
            intro g1 p1 p3 t ht
            obtain ⟨i, k', hi, hk', rfl⟩ := zij ht
            rw [q3 i k' hi hk', if_neg (by omega), if_neg (by omega), p3 i k' hi hk']
            exact zP_cong hi hk' (fun t ht => h a t ha ht) (fun t ht => h b t hb ht)
          · intro e
            have main : ∀ s : Nat, s < 5 → (s = if o = 0 then 1 else 4) → wX_apply_61 (fun r u' => wpY_apply (fun r' v' => r' = r ∧ i_Rel (k + 5) u' v') (zY N g mn te dv ot fc kp rw) (nI o) (nI d) (nI a) (nI b)) (nI b) (nI s) (nI a) (nI d) (nI N) (zA c) (zA m) (zA f) := by
              intro s hs es
              unfold wX_apply_61
              refine xs_addMul h4 (by omega) (by omega) (by omega) hs hc ?_
              intro c' q1 q2 q3
              refine fin c' (fun j hj z => q1 j z) q2 ?_
              intro g1 p1 p3 t ht
              have ba := hg (16 * a + t)
              have bb := hg (16 * b + t)
              rw [q3 t ht, h a t ha ht, h b t hb ht, p1 _ (by omega), p1 _ (by omega)]
              by_cases e0 : o = 0
              · rw [if_pos e0] at es ⊢
                rw [es, Nat.one_mul]
              · rw [if_neg e0] at es ⊢
                rw [if_pos (by omega), es]
                omega
            refine pk_eq o 0 ?_ ?_
            · intro e0
              exact main 1 (by decide) (by rw [if_pos e0])
            · intro e0
              exact main 4 (by decide) (by rw [if_neg e0])
        · refine xr_no o4 (br_t rfl ?_)
          refine ys_in (n := o) (a := 0) (b := 2) (Nat.zero_le _) (by omega) (by decide) (br_f zf1 ?_)
          exact yr_ok hd (br_f zf1 (yr_ok ha (br_f zf1 (yr_no o4 (br_t rfl ⟨rfl, J⟩)))))
      · refine xr_no o3 (br_t rfl ?_)
        refine ys_in (n := o) (a := 0) (b := 2) (Nat.zero_le _) (by omega) (by decide) (br_f zf1 ?_)
        exact yr_ok hd (br_f zf1 (yr_no o3 (br_t rfl ⟨rfl, J⟩)))
    · refine xr_no o2 (br_t rfl ?_)
      refine ys_in (n := o) (a := 0) (b := 2) (Nat.zero_le _) (by omega) (by decide) (br_f zf1 ?_)
      exact yr_no o2 (br_t rfl ⟨rfl, J⟩)
  · have hy := fun (P : Int32 → Prop) (H : P 0) => ys_inO (post := P) (u := zY N g mn te dv ot fc kp rw) (n := 2) (by decide) o1 H
    rcases o1 with o | ⟨o, o'⟩
    · exact br_t o (hy _ (br_t rfl ⟨rfl, J⟩))
    · exact br_f o (br_t (zout_gt (n := 2) o (by decide) o') (hy _ (br_t rfl ⟨rfl, J⟩)))
end
section
/-! power, valueAt -/
def zM (N : Nat) (A B : Nat → Nat → Nat) : Nat → Nat → Nat := fun i k => zs (fun t => A i t * B t k) N % 5
theorem zM_lt (N : Nat) (A B : Nat → Nat → Nat) (i k : Nat) : zM N A B i k < 5 := Nat.mod_lt _ (by decide)
theorem zM_cong {N i k : Nat} {A B A' B' : Nat → Nat → Nat} (h1 : ∀ t, t < N → A i t = A' i t) (h2 : ∀ t, t < N → B t k = B' t k) : zM N A B i k = zM N A' B' i k := by
  refine congrArg (· % 5) (zs_cong N ?_)
  intro t ht
  rw [h1 t ht, h2 t ht]
/-- slot s of c holds the matrix A -/
def zHas (c : Nat → Nat) (N s : Nat) (A : Nat → Nat → Nat) : Prop := ∀ i k, i < N → k < N → c (16 * s + (N * i + k)) = A i k
theorem zP_M {c : Nat → Nat} {N a b i k : Nat} {A B : Nat → Nat → Nat} (hA : zHas c N a A) (hB : zHas c N b B) (hi : i < N) (hk : k < N) : zP c N a b i k = zM N A B i k := by
  refine congrArg (· % 5) (zs_cong N ?_)
  intro t ht
  rw [hA i t hi ht, hB t k ht hk]
theorem zHas_of {c c' : Nat → Nat} {N s s' : Nat} {A : Nat → Nat → Nat} (h : zHas c N s A) (e : ∀ t, t < N * N → c' (16 * s' + t) = c (16 * s + t)) : zHas c' N s' A := by
  intro i k hi hk
  rw [e _ (zi_lt hi hk)]
  exact h i k hi hk
theorem zHas_eq {c c' : Nat → Nat} {N s s' : Nat} {A : Nat → Nat → Nat} (h : zHas c N s A) (h' : zHas c' N s' A) : ∀ t, t < N * N → c (16 * s + t) = c' (16 * s' + t) := by
  intro t ht
  obtain ⟨i, k, hi, hk, rfl⟩ := zij ht
  rw [h i k hi hk, h' i k hi hk]
/-- what a slot holds -/
def zSl (c : Nat → Nat) (N s : Nat) : Nat → Nat → Nat := fun i k => if i < N ∧ k < N then c (16 * s + (N * i + k)) else 0
theorem zSl_at {c : Nat → Nat} {N s i k : Nat} (hi : i < N) (hk : k < N) : zSl c N s i k = c (16 * s + (N * i + k)) := if_pos ⟨hi, hk⟩
theorem zHas_sl (c : Nat → Nat) (N s : Nat) : zHas c N s (zSl c N s) := fun _ _ hi hk => (zSl_at hi hk).symm
theorem zSl_lt {c : Nat → Nat} (h : ∀ j, c j < 5) (N s i k : Nat) : zSl c N s i k < 5 := by
  unfold zSl; split
  · exact h _
  · decide
theorem zSl_eq {c g : Nat → Nat} {N a b : Nat} (h : ∀ t, t < N * N → c (16 * a + t) = g (16 * b + t)) : zSl c N a = zSl g N b := by
  funext i k
  show (if i < N ∧ k < N then c (16 * a + (N * i + k)) else 0) = (if i < N ∧ k < N then g (16 * b + (N * i + k)) else 0)
  by_cases e : i < N ∧ k < N
  · rw [if_pos e, if_pos e, h _ (zi_lt e.1 e.2)]
  · rw [if_neg e, if_neg e]
/-- accumulator and base of a power after some bits -/
def zPw (N K : Nat) (A : Nat → Nat → Nat) : Nat → (Nat → Nat → Nat) × (Nat → Nat → Nat)
  | 0 => (fun i k => if i = k then 1 else 0, A)
  | s + 1 => (if K / 2 ^ s % 2 = 1 then zM N (zPw N K A s).1 (zPw N K A s).2 else (zPw N K A s).1, zM N (zPw N K A s).2 (zPw N K A s).2)
theorem xs_power {post : Int32 → SX → Prop} {N K d : Nat} {c m f : Nat → Nat} {A : Nat → Nat → Nat} (hN : N ≤ 4) (hK : K < 2 ^ 31) (hd : d < 4) (hc : ∀ j, c j < 5)
    (h4 : zHas c N 4 (fun i k => if i = k then 1 else 0)) (h5 : zHas c N 5 A)
    (H : ∀ c' : Nat → Nat, (∀ j, j < 64 → (j < 16 * d ∨ 16 * d + N * N ≤ j) → c' j = c j) → (∀ j, c' j < 5) → zHas c' N d (zPw N K A 30).1 → post 1 (zX N c' m f)) :
    ∃ n46, wX_power_46 post (nI d) (nI K) n46 0 (nI N) (zA c) (zA m) (zA f) := by
  have hsq := zi_sq hN
  refine loop_0 (fun n i (s : Nat → Nat) => wX_power_46 post (nI d) (nI K) n (nI i) (nI N) (zA s) (zA m) (zA f))
    (fun i s => (∀ j, j < 64 → s j = c j) ∧ (∀ j, s j < 5) ∧ zHas s N 4 (zPw N K A i).1 ∧ zHas s N 5 (zPw N K A i).2) 30 c ⟨fun _ _ => rfl, hc, h4, h5⟩ ?_ ?_
  · intro n s hI
    refine br_t (nI_le (a := 30) (Nat.le_refl _) (by omega)) ?_
    refine xs_copy (a := 4) hN (by omega) (by omega) (by omega) ?_
    intro c' q1 q2
    refine H c' ?_ ?_ (zHas_of hI.2.2.1 q2)
    · intro j hj e
      rw [q1 j e]; exact hI.1 j hj
    · intro j
      by_cases e : j < 16 * d ∨ 16 * d + N * N ≤ j
      · rw [q1 j e]; exact hI.2.1 j
      · have := q2 (j - 16 * d) (by omega)
        rw [show 16 * d + (j - 16 * d) = j by omega] at this
        rw [this]; exact hI.2.1 _
  · intro n i s hi hI ih
    refine br_f (nI_ge (b := 30) hi (by omega)) ?_
    have key : ∀ s' : Nat → Nat, (∀ j, j < 64 → s' j = c j) → (∀ j, s' j < 5) → zHas s' N 4 (zPw N K A (i + 1)).1 → zHas s' N 5 (zPw N K A i).2 →
        wX_power_70 post (wX_power_46 post (nI d) (nI K) n) (nI d) (nI K) (nI i) (nI N) (zA s') (zA m) (zA f) := by
      intro s' p1 p2 p3 p4
      unfold wX_power_70
      refine xs_mul (d := 5) (a := 5) (b := 5) hN (by omega) (by omega) (by omega) p2 ?_
      intro c' q1 q2 q3
      refine nm_r (nI_1 i) (ih c' ⟨?_, q2, ?_, ?_⟩)
      · intro j hj
        rw [q1 j (by omega) (by omega)]; exact p1 j hj
      · exact zHas_of p3 (fun t ht => q1 _ (by omega) (by omega))
      · intro i' k' hi' hk'
        rw [q3 i' k' hi' hk']
        exact zP_M p4 p4 hi' hk'
    rw [zbit hK (by omega)]
    refine pk_eq (K / 2 ^ i % 2) 1 ?_ ?_
    · intro e
      refine xs_mul (d := 4) (a := 4) (b := 5) hN (by omega) (by omega) (by omega) hI.2.1 ?_
      intro c' q1 q2 q3
      refine key c' ?_ q2 ?_ ?_
      · intro j hj
        rw [q1 j (by omega) (by omega)]; exact hI.1 j hj
      · intro i' k' hi' hk'
        rw [q3 i' k' hi' hk']
        show _ = (if K / 2 ^ i % 2 = 1 then zM N (zPw N K A i).1 (zPw N K A i).2 else (zPw N K A i).1) i' k'
        rw [if_pos e]
        exact zP_M hI.2.2.1 hI.2.2.2 hi' hk'
      · exact zHas_of hI.2.2.2 (fun t ht => q1 _ (by omega) (by omega))
    · intro e
      refine key s hI.1 hI.2.1 ?_ hI.2.2.2
      show zHas s N 4 (if K / 2 ^ i % 2 = 1 then zM N (zPw N K A i).1 (zPw N K A i).2 else (zPw N K A i).1)
      rw [if_neg e]
      exact hI.2.2.1
theorem ys_power {post : Int32 → SY → Prop} {N K d : Nat} {g : Nat → Nat} {mn te dv ot fc kp rw : Nat → Nat} {A : Nat → Nat → Nat} (hN : N ≤ 4) (hK : K < 2 ^ 31) (hd : d < 4) (hg : ∀ j, g j < 5)
    (h4 : zHas g N d (fun i k => if i = k then 1 else 0)) (h5 : zHas g N 4 A)
    (H : ∀ g' : Nat → Nat, (∀ j, j < 64 → (j < 16 * d ∨ 16 * d + 16 ≤ j) → g' j = g j) → (∀ j, g' j < 5) → zHas g' N d (zPw N K A 30).1 → post 1 (zY N g' mn te dv ot fc kp rw)) :
    ∃ n43, wY_power_43 post (nI d) (nI K) n43 0 (nI N) (zA g) (zA mn) (zA te) (zA dv) (zA ot) (zA fc) (zA kp) (zA rw) := by
  have hsq := zi_sq hN
  refine loop_0 (fun n i (s : Nat → Nat) => wY_power_43 post (nI d) (nI K) n (nI i) (nI N) (zA s) (zA mn) (zA te) (zA dv) (zA ot) (zA fc) (zA kp) (zA rw))
    (fun i s => (∀ j, j < 64 → (j < 16 * d ∨ 16 * d + 16 ≤ j) → s j = g j) ∧ (∀ j, s j < 5) ∧ zHas s N d (zPw N K A i).1 ∧ zHas s N 4 (zPw N K A i).2) 30 g ⟨fun _ _ _ => rfl, hg, h4, h5⟩ ?_ ?_
  · intro n s hI
    exact br_t (nI_le (a := 30) (Nat.le_refl _) (by omega)) (H s hI.1 hI.2.1 hI.2.2.1)
  · intro n i s hi hI ih
    refine br_f (nI_ge (b := 30) hi (by omega)) ?_
    have cpb : ∀ (e : Nat) (s1 s2 : Nat → Nat), e < 5 → (∀ j, s1 j < 5) → (∀ j, (j < 16 * e ∨ 16 * e + 16 ≤ j) → s2 j = s1 j) → (∀ t, t < 16 → s2 (16 * e + t) = s1 (16 * 5 + t)) → ∀ j, s2 j < 5 := by
      intro e s1 s2 he b1 q1 q2 j
      by_cases e' : j < 16 * e ∨ 16 * e + 16 ≤ j
      · rw [q1 j e']; exact b1 j
      · have := q2 (j - 16 * e) (by omega)
        rw [show 16 * e + (j - 16 * e) = j by omega] at this
        rw [this]; exact b1 _
    have key : ∀ s' : Nat → Nat, (∀ j, j < 64 → (j < 16 * d ∨ 16 * d + 16 ≤ j) → s' j = g j) → (∀ j, s' j < 5) → zHas s' N d (zPw N K A (i + 1)).1 → zHas s' N 4 (zPw N K A i).2 →
        wY_power_72 post (wY_power_43 post (nI d) (nI K) n) (nI d) (nI K) (nI i) (nI N) (zA s') (zA mn) (zA te) (zA dv) (zA ot) (zA fc) (zA kp) (zA rw) := by
      intro s' p1 p2 p3 p4
      unfold wY_power_72
      refine ys_mul (a := 4) (b := 4) hN (by omega) (by omega) p2 ?_
      intro s1 q1 q2 q3
      refine ys_copy (d := 4) (a := 5) (by omega) (by omega) (by omega) ?_
      intro s2 t1 t2
      refine nm_r (nI_1 i) (ih s2 ⟨?_, cpb 4 s1 s2 (by omega) q2 t1 t2, ?_, ?_⟩)
      · intro j hj e
        rw [t1 j (by omega), q1 j (by omega)]; exact p1 j hj e
      · refine zHas_of p3 (fun t ht => ?_)
        rw [t1 _ (by omega), q1 _ (by omega)]
      · intro i' k' hi' hk'
        have := zi_lt hi' hk'
        rw [t2 _ (by omega)]
        show s1 (80 + (N * i' + k')) = _
        rw [q3 i' k' hi' hk']
        exact zP_M p4 p4 hi' hk'
    rw [zbit hK (by omega)]
    refine pk_eq (K / 2 ^ i % 2) 1 ?_ ?_
    · intro e
      refine ys_mul (a := d) (b := 4) hN (by omega) (by omega) hI.2.1 ?_
      intro s1 q1 q2 q3
      refine ys_copy (d := d) (a := 5) (by omega) (by omega) (by omega) ?_
      intro s2 t1 t2
      refine key s2 ?_ (cpb d s1 s2 (by omega) q2 t1 t2) ?_ ?_
      · intro j hj e'
        rw [t1 j (by omega), q1 j (by omega)]; exact hI.1 j hj e'
      · intro i' k' hi' hk'
        have := zi_lt hi' hk'
        rw [t2 _ (by omega)]
        show s1 (80 + (N * i' + k')) = (if K / 2 ^ i % 2 = 1 then zM N (zPw N K A i).1 (zPw N K A i).2 else (zPw N K A i).1) i' k'
        rw [if_pos e, q3 i' k' hi' hk']
        exact zP_M hI.2.2.1 hI.2.2.2 hi' hk'
      · refine zHas_of hI.2.2.2 (fun t ht => ?_)
        rw [t1 _ (by omega), q1 _ (by omega)]
    · intro e
      refine key s hI.1 hI.2.1 ?_ hI.2.2.2
      show zHas s N d (if K / 2 ^ i % 2 = 1 then zM N (zPw N K A i).1 (zPw N K A i).2 else (zPw N K A i).1)
      rw [if_neg e]
      exact hI.2.2.1
theorem xcp5 {N d e : Nat} {s1 s2 : Nat → Nat} (b1 : ∀ j, s1 j < 5) (q1 : ∀ j, (j < 16 * d ∨ 16 * d + N * N ≤ j) → s2 j = s1 j) (q2 : ∀ t, t < N * N → s2 (16 * d + t) = s1 (16 * e + t)) : ∀ j, s2 j < 5 := by
  intro j
  by_cases e' : j < 16 * d ∨ 16 * d + N * N ≤ j
  · rw [q1 j e']; exact b1 j
  · have := q2 (j - 16 * d) (by omega)
    rw [show 16 * d + (j - 16 * d) = j by omega] at this
    rw [this]; exact b1 _
theorem xcl5 {N d : Nat} {s1 s2 : Nat → Nat} (b1 : ∀ j, s1 j < 5) (q1 : ∀ j, (j < 16 * d ∨ 16 * d + N * N ≤ j) → s2 j = s1 j) (q2 : ∀ t, t < N * N → s2 (16 * d + t) = 0) : ∀ j, s2 j < 5 := by
  intro j
  by_cases e' : j < 16 * d ∨ 16 * d + N * N ≤ j
  · rw [q1 j e']; exact b1 j
  · have := q2 (j - 16 * d) (by omega)
    rw [show 16 * d + (j - 16 * d) = j by omega] at this
    rw [this]; decide
theorem ycp5 {d e : Nat} {s1 s2 : Nat → Nat} (b1 : ∀ j, s1 j < 5) (q1 : ∀ j, (j < 16 * d ∨ 16 * d + 16 ≤ j) → s2 j = s1 j) (q2 : ∀ t, t < 16 → s2 (16 * d + t) = s1 (16 * e + t)) : ∀ j, s2 j < 5 := by
  intro j
  by_cases e' : j < 16 * d ∨ 16 * d + 16 ≤ j
  · rw [q1 j e']; exact b1 j
  · have := q2 (j - 16 * d) (by omega)
    rw [show 16 * d + (j - 16 * d) = j by omega] at this
    rw [this]; exact b1 _
theorem zOutL {x : Int32} {n : Nat} (hn : n + 1 < 2 ^ 31) (h : zOut x (n + 1)) {A B : Prop} (a : A) (b : ¬ x < 0 → ¬ x ≤ nI n → B) : (x < 0 → A) ∧ (¬ x < 0 → B) := by
  rcases h with h | ⟨h0, h⟩
  · exact br_t h a
  · refine br_f h0 (b h0 ?_)
    obtain ⟨j, hj, rfl⟩ := nI_of h0
    rw [nI_leI hn hj] at h
    rw [nI_leI hj (by omega)]
    omega
theorem i_vc_power {k : Nat} {u : SX} {v : SY} (I : i_Rel k u v) (hk : k + 5 ≤ 2561) (v1 : Int32) (v2 : Int32) (v3 : Int32) : wpX_power (fun r u' => wpY_power (fun r' v' => r' = r ∧ i_Rel (k + 5) u' v') v v1 v2 v3) u v1 v2 v3 := by
  obtain ⟨N, c, m, f, g, mn, te, dv, ot, fc, kp, rw, rfl, rfl, h1, h4, hc, hg, h⟩ := I
  have hsq := zi_sq h4
  have J : i_Rel (k + 5) (zX N c m f) (zY N g mn te dv ot fc kp rw) := zR h1 h4 hc hg h
  unfold wpX_power wpY_power; dsimp only
  rcases zout v1 (n := 4) (by decide) with ⟨d, hd, rfl⟩ | o1
  · refine xr_ok hd (br_f zf1 ?_)
    rcases zout v2 (n := 4) (by decide) with ⟨a, ha, rfl⟩ | o2
    · refine xr_ok ha (br_f zf1 ?_)
      rcases zout v3 (n := 1000000001) (by decide) with ⟨K, hK, rfl⟩ | o3
      · refine br_f (nI_pos (by omega)) (br_t (nI_le (b := 1000000000) (by omega) (by decide)) ?_)
        refine xs_copy (d := 5) h4 (by omega) (by omega) (by omega) ?_
        intro c1 q1 q2
        refine xs_clear (d := 4) h4 (by omega) ?_
        intro c2 q3 q4
        refine xs_addDiag (d := 4) (v := 1) h4 (by omega) (by decide) (xcl5 (xcp5 hc q1 q2) q3 q4) ?_
        intro c3 q5 q6 q7
        have hid : zHas c3 N 4 (fun i k => if i = k then 1 else 0) := by
          intro i k hi hk
          rw [q7 i k hi hk, q4 _ (zi_lt hi hk)]
        have hba : zHas c3 N 5 (zSl c N a) := by
          refine zHas_of (zHas_sl c N a) (fun t ht => ?_)
          rw [q5 _ (by omega), q3 _ (by omega), q2 t ht]
        refine xs_power h4 (by omega) hd q6 hid hba ?_
        intro c' r1 r2 r3
        refine yr_ok hd (br_f zf1 ?_)
        refine yr_ok ha (br_f zf1 ?_)
        refine ys_in (n := K) (a := 0) (b := 1000000000) (Nat.zero_le _) (by omega) (by decide) (br_f zf1 ?_)
        refine ys_copy (d := 4) (by omega) (by omega) (by omega) ?_
        intro g1 p1 p2
        refine ys_id h4 (by omega) (ycp5 hg p1 p2) ?_
        intro g2 p3 p4 p5
        have hba2 : zHas g2 N 4 (zSl c N a) := by
          refine zHas_of (zHas_sl c N a) (fun t ht => ?_)
          rw [p3 _ (by omega), p2 t (by omega), h a t ha ht]
        refine ys_power h4 (by omega) hd p4 p5 hba2 ?_
        intro g' s1 s2 s3
        refine ⟨rfl, zR h1 h4 r2 s2 (zSub (d := d) h hsq ?_ ?_ (zHas_eq r3 s3))⟩
        · intro j hj e
          rw [r1 j hj e, q5 j (by omega), q3 j (by omega), q1 j (by omega)]
        · intro j hj e
          rw [s1 j hj e, p3 j e, p1 j (by omega)]
      · have hy := fun (P : Int32 → Prop) (H : P 0) => ys_inO (post := P) (u := zY N g mn te dv ot fc kp rw) (n := 1000000000) (by decide) o3 H
        refine zOutL (n := 1000000000) (by decide) o3 ?_ (fun _ q => br_f q ?_)
        · exact yr_ok hd (br_f zf1 (yr_ok ha (br_f zf1 (hy _ (br_t rfl ⟨rfl, J⟩)))))
        · exact yr_ok hd (br_f zf1 (yr_ok ha (br_f zf1 (hy _ (br_t rfl ⟨rfl, J⟩)))))
    · exact xr_no o2 (br_t rfl (yr_ok hd (br_f zf1 (yr_no o2 (br_t rfl ⟨rfl, J⟩)))))
  · exact xr_no o1 (br_t rfl (yr_no o1 (br_t rfl ⟨rfl, J⟩)))
end
section
/-! valueAt; the component's evaluate -/
/-- Horner's values: after s places of the polynomial p -/
def zEv (N p : Nat) (A : Nat → Nat → Nat) : Nat → (Nat → Nat → Nat)
  | 0 => fun _ _ => 0
  | s + 1 => fun i k => if i = k then (zM N (zEv N p A s) A i k + p / 5 ^ (4 - s) % 5) % 5 else zM N (zEv N p A s) A i k
theorem z5p : ∀ s, s < 5 → 5 ^ (5 - s) / 5 = 5 ^ (4 - s) ∧ 5 ^ (5 - (s + 1)) = 5 ^ (4 - s) ∧ 5 ^ (4 - s) < 2 ^ 31 ∧ 0 < 5 ^ (4 - s) ∧ 5 ^ (5 - s) < 2 ^ 31 := by decide
theorem xs_eval {post : SX → Prop} {N p d a : Nat} {c m f : Nat → Nat} {A : Nat → Nat → Nat} (hN : N ≤ 4) (hp : p < 3125) (hd : d < 4) (ha : a < 4) (hc : ∀ j, c j < 5) (hA : zHas c N a A)
    (H : ∀ c' : Nat → Nat, (∀ j, j < 64 → (j < 16 * d ∨ 16 * d + N * N ≤ j) → c' j = c j) → (∀ j, c' j < 5) → zHas c' N d (zEv N p A 5) → post (zX N c' m f)) :
    wpX_evaluate post (zX N c m f) (nI d) (nI a) (nI p) := by
  have hsq := zi_sq hN
  unfold wpX_evaluate; dsimp only
  refine xs_clear (d := 4) hN (by omega) ?_
  intro c1 q1 q2
  refine loop_0 (fun n i (s : Nat → Nat) => wX_evaluate_13 post (nI d) (nI a) (nI p) n (nI (5 ^ (5 - i))) (nI i) (nI N) (zA s) (zA m) (zA f))
    (fun i s => (∀ j, j < 64 → s j = c j) ∧ (∀ j, s j < 5) ∧ zHas s N 4 (zEv N p A i)) 5 c1 ⟨fun j hj => q1 j (by omega), xcl5 hc q1 q2, fun i k hi hk => q2 _ (zi_lt hi hk)⟩ ?_ ?_
  · intro n s hI
    refine br_t (nI_le (a := 5) (Nat.le_refl _) (by omega)) ?_
    refine xs_copy (a := 4) hN (by omega) (by omega) (by omega) ?_
    intro c' r1 r2
    refine H c' ?_ (xcp5 hI.2.1 r1 r2) (zHas_of hI.2.2 r2)
    intro j hj e
    rw [r1 j e]; exact hI.1 j hj
  · intro n i s hi hI ih
    obtain ⟨e1, e2, e3, e4, e5⟩ := z5p i hi
    refine br_f (nI_ge (b := 5) hi (by omega)) ⟨zf5, nm_r (e' := nI (5 ^ (4 - i))) (by rw [z5d e5, e1]) ?_⟩
    refine xs_mul (d := 4) (a := 4) (b := a) hN (by omega) (by omega) (by omega) hI.2.1 ?_
    intro s1 t1 t2 t3
    have hdiv : p / 5 ^ (4 - i) < 2 ^ 31 := Nat.lt_of_le_of_lt (Nat.div_le_self _ _) (by omega)
    refine ⟨nI_ne0 e4 e3, zf5, ?_⟩
    rw [pk_div (by omega) e4 e3, z5r hdiv]
    refine xs_addDiag (d := 4) (v := p / 5 ^ (4 - i) % 5) hN (by omega) (Nat.mod_lt _ (by decide)) t2 ?_
    intro s2 w1 w2 w3
    refine nm_r (nI_1 i) ?_
    rw [← e2]
    refine ih s2 ⟨?_, w2, ?_⟩
    · intro j hj
      rw [w1 j (by omega), t1 j (by omega) (by omega)]; exact hI.1 j hj
    · have hA' : zHas s N a A := zHas_of hA (fun t ht => hI.1 _ (by omega))
      intro i' k' hi' hk'
      rw [w3 i' k' hi' hk', t3 i' k' hi' hk', zP_M hI.2.2 hA' hi' hk']
      rfl
theorem ys_vdiag {post : Int32 → SY → Prop} {J : Int32 → Int32 → Int32 → (Nat → Int32) → (Nat → Int32) → (Nat → Int32) → (Nat → Int32) → (Nat → Int32) → (Nat → Int32) → (Nat → Int32) → (Nat → Int32) → Prop} {N d v q s : Nat} {x3 : Int32} {g : Nat → Nat} {mn te dv ot fc kp rw : Nat → Nat} (hN : N ≤ 4) (hd : d < 4) (hv : v < 5) (hq : q < 2 ^ 31) (hg : ∀ j, g j < 5)
    (H : ∀ g' : Nat → Nat, (∀ j, (j < 16 * d ∨ 16 * d + N * N ≤ j) → g' j = g j) → (∀ j, g' j < 5) →
      (∀ i j, i < N → j < N → g' (16 * d + (N * i + j)) = if i = j then (g (16 * d + (N * i + j)) + v) % 5 else g (16 * d + (N * i + j))) → J (nI (q / 5)) (nI (s + 1)) (nI N) (zA g') (zA mn) (zA te) (zA dv) (zA ot) (zA fc) (zA kp) (zA rw)) :
    ∃ n, wY_valueAt_112 post J (nI d) x3 (nI q) (nI s) (nI v) (nI N) n 0 (zA g) (zA mn) (zA te) (zA dv) (zA ot) (zA fc) (zA kp) (zA rw) := by
  have hsq := zi_sq hN
  refine loop_0 (fun n i (s' : Nat → Nat) => wY_valueAt_112 post J (nI d) x3 (nI q) (nI s) (nI v) (nI N) n (nI i) (zA s') (zA mn) (zA te) (zA dv) (zA ot) (zA fc) (zA kp) (zA rw))
    (fun k s => (∀ j, (j < 16 * d ∨ 16 * d + N * N ≤ j) → s j = g j) ∧ (∀ j, s j < 5) ∧ ∀ i j, i < N → j < N → s (16 * d + (N * i + j)) = if i = j ∧ i < k then (g (16 * d + (N * i + j)) + v) % 5 else g (16 * d + (N * i + j))) N g ⟨fun _ _ => rfl, hg, fun i j _ _ => (if_neg (by omega)).symm⟩ ?_ ?_
  · intro n s' hI
    refine br_t (nI_le (Nat.le_refl _) (by omega)) ⟨zf5, nm_r (z5d hq) (nm_r (nI_1 s) (H s' hI.1 hI.2.1 ?_))⟩
    intro i j hi hj
    rw [hI.2.2 i j hi hj]
    by_cases e : i = j
    · rw [if_pos ⟨e, hi⟩, if_pos e]
    · rw [if_neg (by omega), if_neg e]
  · intro n i s' hi hI ih
    have hlt := zi_lt hi hi
    have hs := hI.2.1 (16 * d + (N * i + i))
    have e0 : (16 : Int32) * nI d + nI i * (nI N + 1) = nI (16 * d + (N * i + i)) := by
      rw [z16m, nI_1, pk_mul, nI_add, show i * (N + 1) = N * i + i by rw [Nat.mul_succ, Nat.mul_comm i N]]
    refine br_f (nI_ge hi (by omega)) ⟨?_, zf5, ?_, nm_r (e' := zA (zu s' (16 * d + (N * i + i)) ((s' (16 * d + (N * i + i)) + v) % 5))) ?_ (nm_r (nI_1 i) (ih _ ⟨?_, ?_, ?_⟩))⟩
    · rw [e0]; exact vp_in_nI (by omega) (by decide)
    · rw [e0]; exact vp_in_nI (by omega) (by decide)
    · rw [e0, nI_clamp (by omega), zA_at, nI_add, z5r (by omega), zA_upd]
    · intro j hj
      rw [zu_n (by omega)]
      exact hI.1 j hj
    · exact zu_lt hI.2.1 (by omega)
    · intro i' j' hi' hj'
      by_cases e : 16 * d + (N * i' + j') = 16 * d + (N * i + i)
      · obtain ⟨rfl, rfl⟩ := zi_inj hj' hi (Nat.add_left_cancel e)
        rw [zu_s, if_pos ⟨rfl, by omega⟩, hI.2.2 _ _ hi hi, if_neg (by omega)]
      · rw [zu_n e, hI.2.2 i' j' hi' hj']
        by_cases e2 : i' = j' ∧ i' < i
        · rw [if_pos e2, if_pos ⟨e2.1, by omega⟩]
        · have e3 : ¬ (i' = j' ∧ i' < i + 1) := by
            intro z
            obtain ⟨z1, z2⟩ := z
            subst z1
            have : i' = i := by
              by_cases z3 : i' = i
              · exact z3
              · exact absurd ⟨rfl, by omega⟩ e2
            subst this
            exact e rfl
          rw [if_neg e2, if_neg e3]
theorem ys_val73 {post : Int32 → SY → Prop} {N p d : Nat} {g : Nat → Nat} {mn te dv ot fc kp rw : Nat → Nat} {A : Nat → Nat → Nat} (hN : N ≤ 4) (hp : p < 3125) (hd : d < 4) (hg : ∀ j, g j < 5) (hA : zHas g N 4 A) (h0 : zHas g N d (fun _ _ => 0))
    (H : ∀ g' : Nat → Nat, (∀ j, j < 64 → (j < 16 * d ∨ 16 * d + 16 ≤ j) → g' j = g j) → (∀ j, g' j < 5) → zHas g' N d (zEv N p A 5) → post 1 (zY N g' mn te dv ot fc kp rw)) :
    ∃ n73, wY_valueAt_73 post (nI d) (nI p) n73 (nI 625) 0 (nI N) (zA g) (zA mn) (zA te) (zA dv) (zA ot) (zA fc) (zA kp) (zA rw) := by
  have hsq := zi_sq hN
  refine loop_0 (fun n i (s : Nat → Nat) => wY_valueAt_73 post (nI d) (nI p) n (nI (5 ^ (5 - i) / 5)) (nI i) (nI N) (zA s) (zA mn) (zA te) (zA dv) (zA ot) (zA fc) (zA kp) (zA rw))
    (fun i s => (∀ j, j < 64 → (j < 16 * d ∨ 16 * d + 16 ≤ j) → s j = g j) ∧ (∀ j, s j < 5) ∧ zHas s N d (zEv N p A i) ∧ zHas s N 4 A) 5 g ⟨fun _ _ _ => rfl, hg, h0, hA⟩ ?_ ?_
  · intro n s hI
    exact br_t (nI_le (a := 5) (Nat.le_refl _) (by omega)) (H s hI.1 hI.2.1 hI.2.2.1)
  · intro n i s hi hI ih
    obtain ⟨e1, e2, e3, e4, e5⟩ := z5p i hi
    refine br_f (nI_ge (b := 5) hi (by omega)) ?_
    refine ys_mul (a := d) (b := 4) hN (by omega) (by omega) hI.2.1 ?_
    intro s1 q1 q2 q3
    refine ys_copy (d := d) (a := 5) (by omega) (by omega) (by omega) ?_
    intro s2 t1 t2
    have hdiv : p / 5 ^ (4 - i) < 2 ^ 31 := Nat.lt_of_le_of_lt (Nat.div_le_self _ _) (by omega)
    rw [e1]
    refine br_t (nI_le (a := 1) e4 e3) ⟨nI_ne0 e4 e3, zf5, nm_r (e' := nI (p / 5 ^ (4 - i) % 5)) (by rw [pk_div (by omega) e4 e3, z5r hdiv]) ?_⟩
    refine ys_vdiag hN hd (Nat.mod_lt _ (by decide)) e3 (ycp5 (e := 5) q2 t1 t2) ?_
    intro s3 w1 w2 w3
    rw [← e2]
    refine ih s3 ⟨?_, w2, ?_, ?_⟩
    · intro j hj e
      rw [w1 j (by omega), t1 j (by omega), q1 j (by omega)]; exact hI.1 j hj e
    · intro i' k' hi' hk'
      have := zi_lt hi' hk'
      have e6 : s2 (16 * d + (N * i' + k')) = zM N (zEv N p A i) A i' k' := by
        rw [t2 _ (by omega)]
        show s1 (80 + (N * i' + k')) = _
        rw [q3 i' k' hi' hk']
        exact zP_M hI.2.2.1 hI.2.2.2 hi' hk'
      rw [w3 i' k' hi' hk', e6]
      rfl
    · refine zHas_of hI.2.2.2 (fun t ht => ?_)
      rw [w1 _ (by omega), t1 _ (by omega), q1 _ (by omega)]
theorem ys_val44 {post : Int32 → SY → Prop} {N d : Nat} {x3 x4 : Int32} {g : Nat → Nat} {mn te dv ot fc kp rw : Nat → Nat} (hN : N ≤ 4) (hd : d < 4) (hg : ∀ j, g j < 5)
    (H : ∀ g' : Nat → Nat, (∀ j, (j < 16 * d ∨ 16 * d + 16 ≤ j) → g' j = g j) → (∀ j, g' j < 5) → (∀ t, t < 16 → g' (16 * d + t) = 0) → ∃ n73, wY_valueAt_73 post (nI d) x3 n73 x4 0 (nI N) (zA g') (zA mn) (zA te) (zA dv) (zA ot) (zA fc) (zA kp) (zA rw)) :
    ∃ n44, wY_valueAt_44 post (nI d) x3 x4 (nI N) n44 0 (zA g) (zA mn) (zA te) (zA dv) (zA ot) (zA fc) (zA kp) (zA rw) := by
  refine loop_0 (fun n i (s : Nat → Nat) => wY_valueAt_44 post (nI d) x3 x4 (nI N) n (nI i) (zA s) (zA mn) (zA te) (zA dv) (zA ot) (zA fc) (zA kp) (zA rw))
    (fun i s => (∀ j, (j < 16 * d ∨ 16 * d + i ≤ j) → s j = g j) ∧ (∀ j, s j < 5) ∧ ∀ t, t < i → s (16 * d + t) = 0) 16 g ⟨fun _ _ => rfl, hg, fun t h => absurd h (by omega)⟩ ?_ ?_
  · intro n s hI
    exact br_t (nI_le (a := 16) (Nat.le_refl _) (by omega)) (H s hI.1 hI.2.1 hI.2.2)
  · intro n i s hi hI ih
    refine br_f (nI_ge (b := 16) hi (by omega)) ⟨?_, nm_r (e' := zA (zu s (16 * d + i) 0)) ?_ (nm_r (nI_1 i) (ih _ ⟨?_, ?_, ?_⟩))⟩
    · rw [z16m, nI_add]; exact vp_in_nI (by omega) (by decide)
    · rw [z16m, nI_add, nI_clamp (by omega), ← zA_upd]; rfl
    · intro j hj
      rw [zu_n (by omega)]
      exact hI.1 j (by omega)
    · exact zu_lt hI.2.1 (by decide)
    · intro t ht
      by_cases e : t = i
      · subst e
        exact zu_s _ _ _
      · rw [zu_n (by omega)]
        exact hI.2.2 t (by omega)
theorem i_vc_valueAt {k : Nat} {u : SX} {v : SY} (I : i_Rel k u v) (hk : k + 5 ≤ 2561) (v1 : Int32) (v2 : Int32) (v3 : Int32) : wpX_valueAt (fun r u' => wpY_valueAt (fun r' v' => r' = r ∧ i_Rel (k + 5) u' v') v v1 v2 v3) u v1 v2 v3 := by
  obtain ⟨N, c, m, f, g, mn, te, dv, ot, fc, kp, rw, rfl, rfl, h1, h4, hc, hg, h⟩ := I
  have hsq := zi_sq h4
  have J : i_Rel (k + 5) (zX N c m f) (zY N g mn te dv ot fc kp rw) := zR h1 h4 hc hg h
  unfold wpX_valueAt wpY_valueAt; dsimp only
  rcases zout v1 (n := 4) (by decide) with ⟨d, hd, rfl⟩ | o1
  · refine xr_ok hd (br_f zf1 ?_)
    rcases zout v2 (n := 4) (by decide) with ⟨a, ha, rfl⟩ | o2
    · refine xr_ok ha (br_f zf1 ?_)
      rcases zout v3 (n := 3125) (by decide) with ⟨p, hp, rfl⟩ | o3
      · refine br_f (nI_pos (by omega)) (br_t (nI_lt (b := 3125) hp (by decide)) ?_)
        refine xs_eval h4 hp hd ha hc (zHas_sl c N a) ?_
        intro c' r1 r2 r3
        refine yr_ok hd (br_f zf1 ?_)
        refine yr_ok ha (br_f zf1 ?_)
        refine ys_in (n := p) (a := 0) (b := 3124) (Nat.zero_le _) (by omega) (by decide) (br_f zf1 ?_)
        refine ys_copy (d := 4) (by omega) (by omega) (by omega) ?_
        intro g1 p1 p2
        refine ys_val44 h4 hd (ycp5 hg p1 p2) ?_
        intro g2 p3 p4 p5
        have hA : zHas g2 N 4 (zSl c N a) := by
          refine zHas_of (zHas_sl c N a) (fun t ht => ?_)
          rw [p3 _ (by omega), p2 t (by omega), h a t ha ht]
        have h0 : zHas g2 N d (fun _ _ => 0) := fun i k hi hk => p5 _ (by have := zi_lt hi hk; omega)
        refine ys_val73 h4 hp hd p4 hA h0 ?_
        intro g' s1 s2 s3
        refine ⟨rfl, zR h1 h4 r2 s2 (zSub (d := d) h hsq r1 ?_ (zHas_eq r3 s3))⟩
        intro j hj e
        rw [s1 j hj e, p3 j e, p1 j (by omega)]
      · have hy := fun (P : Int32 → Prop) (H : P 0) => ys_inO (post := P) (u := zY N g mn te dv ot fc kp rw) (n := 3124) (by decide) o3 H
        refine zOutL (n := 3124) (by decide) o3 ?_ (fun q0 q => br_f ?_ ?_)
        · exact yr_ok hd (br_f zf1 (yr_ok ha (br_f zf1 (hy _ (br_t rfl ⟨rfl, J⟩)))))
        · intro z
          obtain ⟨j, hj, rfl⟩ := nI_of q0
          exact q (nI_le (b := 3124) (by have := (nI_ltI (b := 3125) hj (by decide)).mp z; omega) (by decide))
        · exact yr_ok hd (br_f zf1 (yr_ok ha (br_f zf1 (hy _ (br_t rfl ⟨rfl, J⟩)))))
    · exact xr_no o2 (br_t rfl (yr_ok hd (br_f zf1 (yr_no o2 (br_t rfl ⟨rfl, J⟩)))))
  · exact xr_no o1 (br_t rfl (yr_no o1 (br_t rfl ⟨rfl, J⟩)))
end
section
/-! polynomials as digits; the component's minors -/
def pd (p : Nat) : Nat → Fin 5 := fun k => kk (p / 5 ^ k)
def pmt (p s q k : Nat) : Nat := (p / 5 ^ k + s * (q / 5 ^ k)) % 5 * 5 ^ k
def pm (p s q : Nat) : Nat := zs (pmt p s q) 5
theorem pow5 : ∀ k, k < 6 → 0 < 5 ^ k ∧ 5 ^ k ≤ 3125 := by decide
theorem dig5 {a b c d e : Nat} (ha : a < 5) (hb : b < 5) (hc : c < 5) (hd : d < 5) (he : e < 5) :
    ∀ k, k < 5 → (a + b * 5 + c * 25 + d * 125 + e * 625) / 5 ^ k % 5 = (if k = 0 then a else if k = 1 then b else if k = 2 then c else if k = 3 then d else e) := by
  intro k hk
  match k, hk with
  | 0, _ => simp only [Nat.pow_zero, Nat.div_one, if_true]; omega
  | 1, _ => rw [if_neg (by decide), if_pos rfl, show 5 ^ 1 = 5 from rfl]; omega
  | 2, _ => rw [if_neg (by decide), if_neg (by decide), if_pos rfl, show 5 ^ 2 = 25 from rfl]; omega
  | 3, _ => rw [if_neg (by decide), if_neg (by decide), if_neg (by decide), if_pos rfl, show 5 ^ 3 = 125 from rfl]; omega
  | 4, _ => rw [if_neg (by decide), if_neg (by decide), if_neg (by decide), if_neg (by decide), show 5 ^ 4 = 625 from rfl]; omega
theorem pm_eq (p s q : Nat) : pm p s q = (p / 5 ^ 0 + s * (q / 5 ^ 0)) % 5 + (p / 5 ^ 1 + s * (q / 5 ^ 1)) % 5 * 5 + (p / 5 ^ 2 + s * (q / 5 ^ 2)) % 5 * 25 + (p / 5 ^ 3 + s * (q / 5 ^ 3)) % 5 * 125 + (p / 5 ^ 4 + s * (q / 5 ^ 4)) % 5 * 625 := by
  show 0 + pmt p s q 0 + pmt p s q 1 + pmt p s q 2 + pmt p s q 3 + pmt p s q 4 = _
  unfold pmt
  rw [Nat.zero_add, Nat.pow_zero, Nat.mul_one]
theorem pm_dig (p s q : Nat) : ∀ k, k < 5 → pm p s q / 5 ^ k % 5 = (p / 5 ^ k + s * (q / 5 ^ k)) % 5 := by
  intro k hk
  rw [pm_eq, dig5 (Nat.mod_lt _ (by decide)) (Nat.mod_lt _ (by decide)) (Nat.mod_lt _ (by decide)) (Nat.mod_lt _ (by decide)) (Nat.mod_lt _ (by decide)) k hk]
  match k, hk with
  | 0, _ => rfl
  | 1, _ => rfl
  | 2, _ => rfl
  | 3, _ => rfl
  | 4, _ => rfl
theorem pm_lt (p s q : Nat) : pm p s q < 3125 := by
  rw [pm_eq]
  have h0 : (p / 5 ^ 0 + s * (q / 5 ^ 0)) % 5 < 5 := Nat.mod_lt _ (by decide)
  have h1 : (p / 5 ^ 1 + s * (q / 5 ^ 1)) % 5 < 5 := Nat.mod_lt _ (by decide)
  have h2 : (p / 5 ^ 2 + s * (q / 5 ^ 2)) % 5 < 5 := Nat.mod_lt _ (by decide)
  have h3 : (p / 5 ^ 3 + s * (q / 5 ^ 3)) % 5 < 5 := Nat.mod_lt _ (by decide)
  have h4 : (p / 5 ^ 4 + s * (q / 5 ^ 4)) % 5 < 5 := Nat.mod_lt _ (by decide)
  generalize (p / 5 ^ 0 + s * (q / 5 ^ 0)) % 5 = a0 at *
  generalize (p / 5 ^ 1 + s * (q / 5 ^ 1)) % 5 = a1 at *
  generalize (p / 5 ^ 2 + s * (q / 5 ^ 2)) % 5 = a2 at *
  generalize (p / 5 ^ 3 + s * (q / 5 ^ 3)) % 5 = a3 at *
  generalize (p / 5 ^ 4 + s * (q / 5 ^ 4)) % 5 = a4 at *
  omega
theorem pd_pm (p s q k : Nat) (hk : k < 5) : pd (pm p s q) k = pd p k + kk s * pd q k := by
  unfold pd
  rw [← kk_mod, pm_dig p s q k hk, kk_mod, kk_add, kk_mul]
/-- digits tell the number -/
theorem num5 {p : Nat} (h : p < 3125) : p = p / 5 ^ 0 % 5 + p / 5 ^ 1 % 5 * 5 + p / 5 ^ 2 % 5 * 25 + p / 5 ^ 3 % 5 * 125 + p / 5 ^ 4 % 5 * 625 := by
  rw [Nat.pow_zero, Nat.div_one, show 5 ^ 1 = 5 from rfl, show 5 ^ 2 = 25 from rfl, show 5 ^ 3 = 125 from rfl, show 5 ^ 4 = 625 from rfl]
  omega
theorem pd_v (p k : Nat) : (pd p k).val = p / 5 ^ k % 5 := rfl
theorem pd_inj {p q : Nat} (hp : p < 3125) (hq : q < 3125) (h : ∀ k, k < 5 → pd p k = pd q k) : p = q := by
  have e : ∀ k, k < 5 → p / 5 ^ k % 5 = q / 5 ^ k % 5 := fun k hk => congrArg Fin.val (h k hk)
  rw [num5 hp, num5 hq, e 0 (by decide), e 1 (by decide), e 2 (by decide), e 3 (by decide), e 4 (by decide)]
/-- degree below j, by digits -/
theorem pd_ltp {p j : Nat} (hp : p < 3125) (hj : j ≤ 5) (h : ∀ k, j ≤ k → k < 5 → pd p k = 0) : p < 5 ^ j := by
  have e : ∀ k, j ≤ k → k < 5 → p / 5 ^ k % 5 = 0 := fun k h1 h2 => congrArg Fin.val (h k h1 h2)
  have hn := num5 hp
  have l0 : p / 5 ^ 0 % 5 < 5 := Nat.mod_lt _ (by decide)
  have l1 : p / 5 ^ 1 % 5 < 5 := Nat.mod_lt _ (by decide)
  have l2 : p / 5 ^ 2 % 5 < 5 := Nat.mod_lt _ (by decide)
  have l3 : p / 5 ^ 3 % 5 < 5 := Nat.mod_lt _ (by decide)
  match j, hj with
  | 0, _ =>
    have := e 0 (by decide) (by decide); have := e 1 (by decide) (by decide); have := e 2 (by decide) (by decide); have := e 3 (by decide) (by decide); have := e 4 (by decide) (by decide)
    rw [show 5 ^ 0 = 1 from rfl]; omega
  | 1, _ =>
    have := e 1 (by decide) (by decide); have := e 2 (by decide) (by decide); have := e 3 (by decide) (by decide); have := e 4 (by decide) (by decide)
    rw [show 5 ^ 1 = 5 from rfl] at *; omega
  | 2, _ =>
    have := e 2 (by decide) (by decide); have := e 3 (by decide) (by decide); have := e 4 (by decide) (by decide)
    rw [show 5 ^ 2 = 25 from rfl] at *; omega
  | 3, _ =>
    have := e 3 (by decide) (by decide); have := e 4 (by decide) (by decide)
    rw [show 5 ^ 3 = 125 from rfl] at *; omega
  | 4, _ =>
    have := e 4 (by decide) (by decide)
    rw [show 5 ^ 4 = 625 from rfl] at *; omega
  | 5, _ => exact hp
theorem pd_hi {p j k : Nat} (h : p < 5 ^ j) (hk : j ≤ k) : pd p k = 0 := by
  unfold pd
  rw [Nat.div_eq_of_lt (Nat.lt_of_lt_of_le h (Nat.pow_le_pow_right (by decide) hk))]
  rfl
def px (p : Nat → Fin 5) : Nat → Fin 5
  | 0 => 0
  | k + 1 => p k
theorem pd_5 (q k : Nat) : pd (5 * q) k = px (pd q) k := by
  cases k with
  | zero =>
    apply Fin.ext
    show 5 * q / 5 ^ 0 % 5 = 0
    rw [Nat.pow_zero, Nat.div_one]; omega
  | succ k =>
    show kk (5 * q / 5 ^ (k + 1)) = kk (q / 5 ^ k)
    rw [Nat.pow_succ, Nat.mul_comm (5 ^ k) 5, ← Nat.div_div_eq_div_mul, Nat.mul_div_cancel_left _ (by decide)]
theorem xs_pm {post : Int32 → Prop} {p s q : Nat} (hp : p < 3125) (hs : s ≤ 5) (hq : q < 3125) (H : post (nI (pm p s q))) : wpX_plusMultiple post (nI p) (nI s) (nI q) := by
  show ∃ n8, wX_plusMultiple_8 post (nI p) (nI s) (nI q) n8 0 1 0
  have hb : ∀ i, i ≤ 5 → zs (pmt p s q) i ≤ i * 20000 := by
    intro i hi
    induction i with
    | zero => exact Nat.zero_le _
    | succ i ih =>
      have h1 := ih (by omega)
      have h2 : pmt p s q i ≤ 4 * 3125 := Nat.mul_le_mul (by have := Nat.mod_lt (p / 5 ^ i + s * (q / 5 ^ i)) (show 5 > 0 by decide); omega) (pow5 i (by omega)).2
      show zs (pmt p s q) i + pmt p s q i ≤ (i + 1) * 20000
      omega
  refine loop_0 (fun n i (r : Nat) => wX_plusMultiple_8 post (nI p) (nI s) (nI q) n (nI r) (nI (5 ^ i)) (nI i))
    (fun i r => r = zs (pmt p s q) i) 5 0 rfl ?_ ?_
  · intro n r hr
    refine br_t (nI_le (a := 5) (Nat.le_refl _) (by omega)) ?_
    rw [hr]; exact H
  · intro n i r hi hr ih
    obtain ⟨g1, g2⟩ := pow5 i (by omega)
    have d1 : p / 5 ^ i ≤ p := Nat.div_le_self _ _
    have d2 : q / 5 ^ i ≤ q := Nat.div_le_self _ _
    have d3 : s * (q / 5 ^ i) ≤ 5 * 3125 := Nat.mul_le_mul hs (by omega)
    have ne : ¬ nI (5 ^ i) = 0 := nI_ne0 g1 (by omega)
    refine br_f (nI_ge (b := 5) hi (by omega)) ⟨ne, ne, zf5, nm_r (e' := nI ((p / 5 ^ i + s * (q / 5 ^ i)) % 5)) ?_ (nm_r (e' := nI (r + pmt p s q i)) ?_ (nm_r (e' := nI (5 ^ (i + 1))) ?_ (nm_r (nI_1 i) (ih _ ?_))))⟩
    · rw [pk_div (by omega) g1 (by omega), pk_div (by omega) g1 (by omega), pk_mul, nI_add, z5r (by omega)]
    · rw [pk_mul, nI_add]; rfl
    · rw [zm5, Nat.pow_succ]
    · rw [hr]; rfl
def pc (s : Nat) : Nat := zs (fun i => s / 2 ^ i % 2) 4
theorem xs_members {post : Int32 → Prop} {s : Nat} (hs : s < 2 ^ 31) (H : post (nI (pc s))) : wpX_members post (nI s) := by
  show ∃ n4, wX_members_4 post (nI s) n4 0 0
  refine loop_0 (fun n i (r : Nat) => wX_members_4 post (nI s) n (nI r) (nI i))
    (fun i r => r = zs (fun i => s / 2 ^ i % 2) i) 4 0 rfl ?_ ?_
  · intro n r hr
    refine br_t (nI_le (a := 4) (Nat.le_refl _) (by omega)) ?_
    rw [hr]; exact H
  · intro n i r hi hr ih
    refine br_f (nI_ge (b := 4) hi (by omega)) (nm_r (e' := nI (r + s / 2 ^ i % 2)) ?_ (nm_r (nI_1 i) (ih _ ?_)))
    · rw [zbit hs (by omega), nI_add]
    · rw [hr]; rfl
def lo (s : Nat) : Nat := if s % 2 = 1 then 0 else if s / 2 % 2 = 1 then 1 else if s / 4 % 2 = 1 then 2 else 3
def rs (s : Nat) : Nat := s - 2 ^ lo s
theorem set_facts : ∀ s, s < 16 → 0 < s → rs s < s ∧ pc (rs s) + 1 = pc s ∧ lo s < 4 ∧ s &&& (s - 1) = rs s ∧ (s ^^^ rs s) = 2 ^ lo s ∧ pc (2 ^ lo s - 1) = lo s := by decide +kernel
theorem set_lo : ∀ N, N < 5 → ∀ s, s < 2 ^ N → 0 < s → lo s < N := by decide +kernel
theorem set_bit : ∀ s, s < 16 → ∀ i, i < 4 → (s / 2 ^ i % 2 = 1 → pc (s - 2 ^ i) + 1 = pc s ∧ s ^^^ 2 ^ i = s - 2 ^ i ∧ s &&& 2 ^ i = 2 ^ i ∧ 2 ^ i ≤ s) ∧ (s / 2 ^ i % 2 ≠ 1 → s &&& 2 ^ i = 0) := by decide +kernel
theorem pc_0 : ∀ s, s < 16 → pc s = 0 → s = 0 := by decide +kernel
theorem pc_le : ∀ N, N < 5 → ∀ s, s < 2 ^ N → pc s ≤ N := by decide +kernel
theorem pw2 : ∀ N, N < 5 → 2 ^ N ≤ 16 ∧ 1 ≤ 2 ^ N := by decide
/-- expansion along a row: sum and sign after i columns, q i the cofactor's polynomial times the entry -/
def lapP (q : Nat → Nat → Fin 5) (C : Nat) : Nat → (Nat → Fin 5) × Fin 5
  | 0 => (fun _ => 0, 1)
  | i + 1 => if C / 2 ^ i % 2 = 1 then (fun k => (lapP q C i).1 k + (lapP q C i).2 * q i k, - (lapP q C i).2) else lapP q C i
/-- the minor of x I - A with rows R and columns C, as coefficients -/
def dtp (A : Nat → Nat → Nat) : Nat → Nat → Nat → (Nat → Fin 5)
  | 0, _, _ => fun k => if k = 0 then 1 else 0
  | f + 1, R, C => (lapP (fun i k => (if lo R = i then px (dtp A f (rs R) (C - 2 ^ i)) k else 0) - kk (A (lo R) i) * dtp A f (rs R) (C - 2 ^ i) k) C 4).1
theorem lapP_hi (q : Nat → Nat → Fin 5) {C N : Nat} (hN : N ≤ 4) (hC : C < 2 ^ N) : lapP q C 4 = lapP q C N := by
  have : ∀ d, N + d ≤ 4 → lapP q C (N + d) = lapP q C N := by
    intro d
    induction d with
    | zero => intro _; rfl
    | succ d ih =>
      intro h
      rw [← ih (by omega)]
      have hb : ¬ C / 2 ^ (N + d) % 2 = 1 := by
        rw [Nat.div_eq_of_lt (Nat.lt_of_lt_of_le hC (Nat.pow_le_pow_right (by decide) (by omega)))]
        decide
      exact if_neg hb
  have h := this (4 - N) (by omega)
  rwa [show N + (4 - N) = 4 by omega] at h
/-- the table m holds the minor at R, C -/
def mOK (A : Nat → Nat → Nat) (m : Nat → Nat) (R C : Nat) : Prop := m (16 * R + C) < 5 ^ (pc R + 1) ∧ ∀ k, k < 5 → pd (m (16 * R + C)) k = dtp A (pc R) R C k
theorem pc4 : ∀ s, s < 16 → pc s ≤ 4 := by decide +kernel
theorem px_c {p q : Nat → Fin 5} {k : Nat} (h : ∀ j, j < k → p j = q j) : px p k = px q k := by
  cases k with
  | zero => rfl
  | succ k => exact h k (by omega)
theorem xs_expand {post : Int32 → Prop} {N s R C : Nat} {c m f : Nat → Nat} (hN : N ≤ 4) (hs : s < 7) (hc : ∀ j, c j < 5) (hR : R < 2 ^ N) (hR0 : 0 < R) (hC : C < 2 ^ N) (hRC : pc R = pc C)
    (hm : ∀ R' C', R' < R → C' < 2 ^ N → pc R' = pc C' → mOK (zSl c N s) m R' C')
    (H : ∀ p, p < 5 ^ (pc R + 1) → (∀ k, k < 5 → pd p k = dtp (zSl c N s) (pc R) R C k) → post (nI p)) :
    wpX_expandedMinor post (zX N c m f) (nI s) (nI R) (nI C) := by
  have hsq := zi_sq hN
  obtain ⟨w1, w2⟩ := pw2 N (by omega)
  obtain ⟨e1, e2, e3, e4, e5, e6⟩ := set_facts R (by omega) hR0
  have hlo := set_lo N (by omega) R hR hR0
  have hp4 := pc_le N (by omega) R hR
  unfold wpX_expandedMinor; dsimp only
  refine nm_r (e' := nI (rs R)) (by rw [zs1 hR0, nx_and, e4]) ?_
  rw [nx_xor, e5, zs1 (Nat.two_pow_pos _)]
  have hl16 : 2 ^ lo R ≤ 2 ^ 4 := Nat.pow_le_pow_right (by decide) (by omega)
  refine xs_members (by omega) ?_
  rw [e6]
  generalize hA : zSl c N s = A at *
  have hAe : ∀ i, i < N → c (16 * s + (N * lo R + i)) = A (lo R) i := fun i hi => by rw [← hA]; exact (zSl_at hlo hi).symm
  have hA5 : ∀ i, A (lo R) i < 5 := fun i => by rw [← hA]; exact zSl_lt hc _ _ _ _
  let q : Nat → Nat → Fin 5 := fun i k => (if lo R = i then px (dtp A (pc (rs R)) (rs R) (C - 2 ^ i)) k else 0) - kk (A (lo R) i) * dtp A (pc (rs R)) (rs R) (C - 2 ^ i) k
  have hdt : dtp A (pc R) R C = (lapP q C N).1 := by
    rw [← lapP_hi q hN hC, ← e2]; rfl
  refine loop_0 (fun n i (r : Nat × Nat) => wX_expandedMinor_27 post (nI s) (nI C) (nI (rs R)) (nI (lo R)) (nI N) (zA c) (zA m) (zA f) n (nI r.1) (nI r.2) (nI i))
    (fun i r => r.1 < 5 ^ (pc R + 1) ∧ (∀ k, k < 5 → pd r.1 k = (lapP q C i).1 k) ∧ (r.2 = 1 ∨ r.2 = 4) ∧ kk r.2 = (lapP q C i).2) N (0, 1) ⟨Nat.pow_pos (by decide), fun k hk => ?_, Or.inl rfl, rfl⟩ ?_ ?_
  · show pd 0 k = 0
    unfold pd; rw [Nat.zero_div]; rfl
  · intro n r hI
    refine br_t (nI_le (Nat.le_refl _) (by omega)) (H r.1 hI.1 ?_)
    intro k hk
    rw [hdt]; exact hI.2.1 k hk
  · intro n i r hi hI ih
    obtain ⟨b1, b0⟩ := set_bit C (by omega) i (by omega)
    have h5 : (5 : Nat) ^ (pc R + 1) ≤ 3125 := (pow5 _ (by omega)).2
    have hr1 : r.1 < 3125 := by have := hI.1; omega
    have hr2 : r.2 < 5 := by rcases hI.2.2.1 with h | h <;> omega
    refine br_f (nI_ge hi (by omega)) (nm_r (zshl (k := i) (by omega)) ?_)
    by_cases hb : C / 2 ^ i % 2 = 1
    · obtain ⟨g1, g2, g3, g4⟩ := b1 hb
      obtain ⟨o1, o2⟩ := hm (rs R) (C - 2 ^ i) e1 (by omega) (by omega)
      have hil := zi_lt hlo hi
      have hne : ¬ nI C &&& nI (2 ^ i) = 0 := by
        rw [nx_and, g3]
        exact nI_ne0 (Nat.two_pow_pos _) (by omega)
      have hmi : m (16 * rs R + (C - 2 ^ i)) < 625 := by
        have : (5 : Nat) ^ (pc (rs R) + 1) ≤ 5 ^ 4 := Nat.pow_le_pow_right (by decide) (by omega)
        have := (show (5 : Nat) ^ 4 = 625 from rfl)
        omega
      have ea := hA5 i
      have lapS : lapP q C (i + 1) = (fun k => (lapP q C i).1 k + (lapP q C i).2 * q i k, - (lapP q C i).2) := by
        show (if C / 2 ^ i % 2 = 1 then _ else _) = _
        rw [if_pos hb]
      have hsgn : ∀ S, S < 5 ^ (pc R + 1) → (∀ k, k < 5 → pd S k = (lapP q C i).1 k + (lapP q C i).2 * q i k) → ∀ x7 : Int32, x7 = 5 - nI r.2 → ∀ x8 : Int32, x8 = nI i + 1 →
          wX_expandedMinor_27 post (nI s) (nI C) (nI (rs R)) (nI (lo R)) (nI N) (zA c) (zA m) (zA f) n (nI S) x7 x8 := by
        intro S hS hd
        refine nm_r (z5s (by omega)) (nm_r (nI_1 i) (ih (S, 5 - r.2) ⟨hS, ?_, ?_, ?_⟩))
        · intro k hk
          rw [lapS]; exact hd k hk
        · rcases hI.2.2.1 with h | h
          · right; show 5 - r.2 = 4; omega
          · left; show 5 - r.2 = 1; omega
        · rw [lapS]
          show kk (5 - r.2) = _
          rw [kk_5s (by omega), hI.2.2.2]
      refine br_f hne ⟨?_, nm_r (e' := nI (m (16 * rs R + (C - 2 ^ i)))) ?_ ⟨?_, nm_r (e' := nI (A (lo R) i)) ?_ ⟨zf5, nm_r (e' := nI (r.2 * (5 - A (lo R) i) % 5)) ?_ ?_⟩⟩⟩
      · rw [nx_xor, g2, z16m, nI_add]; exact vp_in_nI (by omega) (by decide)
      · rw [nx_xor, g2, z16m, nI_add, nI_clamp (by omega), zA_at]
      · rw [z16m, pk_mul, nI_add, nI_add]; exact vp_in_nI (by omega) (by decide)
      · rw [z16m, pk_mul, nI_add, nI_add, nI_clamp (by omega), zA_at, Nat.add_assoc, hAe i hi]
      · have : r.2 * (5 - A (lo R) i) ≤ 4 * 5 := Nat.mul_le_mul (by omega) (by omega)
        rw [z5s (by omega), pk_mul, z5r (by omega)]
      · have hsc : r.2 * (5 - A (lo R) i) % 5 < 5 := Nat.mod_lt _ (by decide)
        have ksc : kk (r.2 * (5 - A (lo R) i) % 5) = - ((lapP q C i).2 * kk (A (lo R) i)) := by
          rw [kk_mod, kk_mul, kk_5s (by omega), hI.2.2.2]
          grind
        refine xs_pm hr1 (by omega) (by omega) ?_
        have hb2 : ∀ p s' q', p < 5 ^ (pc R + 1) → q' < 5 ^ (pc R + 1) → pm p s' q' < 5 ^ (pc R + 1) := by
          intro p s' q' hp hq'
          refine pd_ltp (pm_lt _ _ _) (by omega) ?_
          intro k k1 k2
          rw [pd_pm _ _ _ _ k2, pd_hi hp k1, pd_hi hq' k1]
          grind
        have hmi2 : m (16 * rs R + (C - 2 ^ i)) < 5 ^ (pc R + 1) := Nat.lt_of_lt_of_le o1 (Nat.pow_le_pow_right (by decide) (by omega))
        have hS1 := hb2 r.1 (r.2 * (5 - A (lo R) i) % 5) _ hI.1 hmi2
        refine pk_eq (lo R) i ?_ ?_
        · intro el
          have hmi5 : 5 * m (16 * rs R + (C - 2 ^ i)) < 5 ^ (pc R + 1) := by
            rw [Nat.pow_succ, ← e2]
            omega
          rw [z5m]
          refine xs_pm (pm_lt _ _ _) (by omega) (by omega) ?_
          refine hsgn _ (hb2 _ _ _ hS1 hmi5) ?_
          intro k hk
          rw [pd_pm _ _ _ _ hk, pd_pm _ _ _ _ hk, hI.2.1 k hk, ksc, hI.2.2.2, pd_5, o2 k hk, px_c (q := dtp A (pc (rs R)) (rs R) (C - 2 ^ i)) (fun j hj => o2 j (by omega))]
          show _ = (lapP q C i).1 k + (lapP q C i).2 * ((if lo R = i then px (dtp A (pc (rs R)) (rs R) (C - 2 ^ i)) k else 0) - kk (A (lo R) i) * dtp A (pc (rs R)) (rs R) (C - 2 ^ i) k)
          rw [if_pos el]
          grind
        · intro el
          refine hsgn _ hS1 ?_
          intro k hk
          rw [pd_pm _ _ _ _ hk, hI.2.1 k hk, ksc, o2 k hk]
          show _ = (lapP q C i).1 k + (lapP q C i).2 * ((if lo R = i then px (dtp A (pc (rs R)) (rs R) (C - 2 ^ i)) k else 0) - kk (A (lo R) i) * dtp A (pc (rs R)) (rs R) (C - 2 ^ i) k)
          rw [if_neg el]
          grind
    · have lapS : lapP q C (i + 1) = lapP q C i := by
        show (if C / 2 ^ i % 2 = 1 then _ else _) = _
        rw [if_neg hb]
      refine br_t (by rw [nx_and, b0 hb]; rfl) (nm_r (nI_1 i) (ih r ?_))
      rw [lapS]; exact hI
theorem xs_findMinors {post : SX → Prop} {N s : Nat} {c m f : Nat → Nat} (hN : N ≤ 4) (hs : s < 7) (hc : ∀ j, c j < 5)
    (H : ∀ m' : Nat → Nat, (∀ R C, R < 2 ^ N → C < 2 ^ N → pc R = pc C → mOK (zSl c N s) m' R C) → post (zX N c m' f)) :
    wpX_findMinors post (zX N c m f) (nI s) := by
  obtain ⟨w1, w2⟩ := pw2 N (by omega)
  unfold wpX_findMinors; dsimp only
  refine nm_r (zshl (k := N) (by omega)) (nm_r (e' := zA (zu m 0 1)) (zA_upd m 0 1) ?_)
  refine pk_loop (fun n R (s' : Nat → Nat) => wX_findMinors_16 post (nI s) (nI (2 ^ N)) (nI N) n (nI R) (zA c) (zA s') (zA f))
    (fun R m' => 1 ≤ R ∧ ∀ R' C', R' < R → R' < 2 ^ N → C' < 2 ^ N → pc R' = pc C' → mOK (zSl c N s) m' R' C') (2 ^ N) 1 _ w2 ?_ ?_ ?_
  · refine ⟨Nat.le_refl _, ?_⟩
    intro R' C' h1 h2 h3 h4
    have hR' : R' = 0 := by omega
    subst hR'
    have hC' : C' = 0 := pc_0 C' (by omega) (by rw [← h4]; rfl)
    subst hC'
    refine ⟨by show zu m 0 1 0 < _; rw [zu_s]; decide, ?_⟩
    intro k hk
    show pd (zu m 0 1 0) k = (if k = 0 then 1 else 0)
    rw [zu_s]
    match k, hk with
    | 0, _ => rfl
    | 1, _ => rfl
    | 2, _ => rfl
    | 3, _ => rfl
    | 4, _ => rfl
  · intro n m' hI
    exact br_t (nI_le (Nat.le_refl _) (by omega)) (H m' (fun R C hR hC e => hI.2 R C hR hR hC e))
  · intro n R m' hR hI ih
    refine br_f (nI_ge hR (by omega)) ?_
    have hR0 : 0 < R := hI.1
    · refine pk_loop (fun n' C (s' : Nat → Nat) => wX_findMinors_24 post (wX_findMinors_16 post (nI s) (nI (2 ^ N)) (nI N) n) (nI s) (nI (2 ^ N)) (nI R) (nI N) n' (nI C) (zA c) (zA s') (zA f))
        (fun C m' => ∀ R' C', (R' < R ∨ (R' = R ∧ C' < C)) → R' < 2 ^ N → C' < 2 ^ N → pc R' = pc C' → mOK (zSl c N s) m' R' C') (2 ^ N) 1 m' w2 ?_ ?_ ?_
      · intro R' C' h h2 h3 h4
        rcases h with h | ⟨h, h'⟩
        · exact hI.2 R' C' h h2 h3 h4
        · exfalso
          have hC0 : C' = 0 := by omega
          subst hC0
          have := pc_0 R' (by omega) (by rw [h4]; rfl)
          omega
      · intro n' m2 hJ
        refine br_t (nI_le (Nat.le_refl _) (by omega)) (nm_r (nI_1 R) (ih m2 ⟨by omega, ?_⟩))
        intro R' C' h h2 h3 h4
        exact hJ R' C' (by omega) h2 h3 h4
      · intro n' C m2 hC hJ ih'
        refine br_f (nI_ge hC (by omega)) ?_
        refine xs_members (by omega) (xs_members (by omega) ?_)
        have hpR := pc4 R (by omega)
        have hpC := pc4 C (by omega)
        refine pk_eq (pc R) (pc C) ?_ ?_
        · intro e
          refine xs_expand hN hs hc hR hR0 hC e (fun R' C' h1 h2 h3 => hJ R' C' (Or.inl h1) (by omega) h2 h3) ?_
          intro p hp1 hp2
          refine ⟨?_, nm_r (e' := zA (zu m2 (16 * R + C) p)) ?_ (nm_r (nI_1 C) (ih' _ ?_))⟩
          · rw [z16m, nI_add]; exact vp_in_nI (by omega) (by decide)
          · rw [z16m, nI_add, nI_clamp (by omega), zA_upd]
          · intro R' C' h h2 h3 h4
            by_cases ee : 16 * R' + C' = 16 * R + C
            · have e1 : R' = R := by omega
              have e2 : C' = C := by omega
              subst e1; subst e2
              refine ⟨by rw [zu_s]; exact hp1, ?_⟩
              intro k hk
              rw [zu_s]; exact hp2 k hk
            · have := hJ R' C' (by omega) h2 h3 h4
              refine ⟨by rw [zu_n ee]; exact this.1, ?_⟩
              intro k hk
              rw [zu_n ee]; exact this.2 k hk
        · intro e
          refine nm_r (nI_1 C) (ih' m2 ?_)
          intro R' C' h h2 h3 h4
          refine hJ R' C' ?_ h2 h3 h4
          rcases h with h | ⟨h, h'⟩
          · exact Or.inl h
          · refine Or.inr ⟨h, ?_⟩
            by_cases ee : C' = C
            · subst ee; subst h; exact absurd h4 e
            · omega
end
section
/-! the reference's minors: sums over codes -/
theorem nx_or (a b : Nat) : nI a ||| nI b = nI (a ||| b) := by
  apply Int32.toBitVec_inj.1
  show BitVec.ofNat 32 a ||| BitVec.ofNat 32 b = BitVec.ofNat 32 (a ||| b)
  apply BitVec.eq_of_getLsbD_eq
  intro i hi
  simp [hi]
theorem zshr2 {n i : Nat} (hn : n < 2 ^ 31) (hi : i < 4) : (nI n >>> ((2 * nI i) &&& 31)) &&& (3 : Int32) = nI (n / 2 ^ (2 * i) % 4) := by
  rw [z2m, zshr hn (by omega), zand3 (Nat.lt_of_le_of_lt (Nat.div_le_self _ _) hn)]
/-- the column that a code gives row i -/
def cd (code i : Nat) : Nat := code / 2 ^ (2 * i) % 4
theorem cd_lt (code i : Nat) : cd code i < 4 := Nat.mod_lt _ (by decide)
/-- does the code from row 4 - d on give each row of R a column of C not yet used -/
def wyl (code R C : Nat) : Nat → Nat → Bool
  | 0, _ => true
  | d + 1, used => if R / 2 ^ (3 - d) % 2 = 0 then (if cd code (3 - d) = 0 then wyl code R C d used else false)
      else if C / 2 ^ cd code (3 - d) % 2 = 0 then false else if used / 2 ^ cd code (3 - d) % 2 = 1 then false else wyl code R C d (used ||| 2 ^ cd code (3 - d))
theorem or16 : ∀ u, u < 16 → ∀ c, c < 4 → u ||| 2 ^ c < 16 := by decide +kernel
theorem ys_isWay {post : Int32 → Prop} {N code R C : Nat} {g : Nat → Nat} {mn te dv ot fc kp rw : Nat → Nat} (hcode : code < 256) (hR : R < 16) (hC : C < 16)
    (H : post (if wyl code R C 4 0 then 1 else 0)) : wpY_isWay post (zY N g mn te dv ot fc kp rw) (nI code) (nI R) (nI C) := by
  have main : ∀ d i used, i + d = 4 → used < 16 → post (if wyl code R C d used then 1 else 0) →
      wY_isWay_6 post (nI code) (nI R) (nI C) (nI N) (zA g) (zA mn) (zA te) (zA dv) (zA ot) (zA fc) (zA kp) (zA rw) (d + 1) (nI used) (nI i) := by
    intro d
    induction d with
    | zero =>
      intro i used hi hu H
      have : i = 4 := by omega
      subst this
      exact br_t (nI_le (a := 4) (Nat.le_refl _) (by omega)) H
    | succ d ih =>
      intro i used hi hu H
      have hi3 : i = 3 - d := by omega
      have hc4 := cd_lt code i
      refine br_f (nI_ge (b := 4) (by omega) (by omega)) (nm_r (e' := nI (cd code i)) (zshr2 (by omega) (by omega)) ?_)
      rw [zbit (by omega) (by omega), zbit (by omega) (by omega), zbit (by omega) (by omega)]
      have m1 : R / 2 ^ i % 2 < 2 := Nat.mod_lt _ (by decide)
      have m2 : C / 2 ^ cd code i % 2 < 2 := Nat.mod_lt _ (by decide)
      have m3 : used / 2 ^ cd code i % 2 < 2 := Nat.mod_lt _ (by decide)
      have W : wyl code R C (d + 1) used = (if R / 2 ^ i % 2 = 0 then (if cd code i = 0 then wyl code R C d used else false)
        else if C / 2 ^ cd code i % 2 = 0 then false else if used / 2 ^ cd code i % 2 = 1 then false else wyl code R C d (used ||| 2 ^ cd code i)) := by
        rw [hi3]; rfl
      rw [W] at H
      refine pk_eq (R / 2 ^ i % 2) 0 ?_ ?_
      · intro e
        rw [if_pos e] at H
        refine pk_eq (cd code i) 0 ?_ ?_
        · intro e2
          rw [if_pos e2] at H
          exact nm_r (nI_1 i) (ih (i + 1) used (by omega) hu H)
        · intro e2
          rw [if_neg e2] at H
          exact H
      · intro e
        rw [if_neg e] at H
        refine pk_eq (C / 2 ^ cd code i % 2) 0 ?_ ?_
        · intro e2
          rw [if_pos e2] at H
          exact H
        · intro e2
          rw [if_neg e2] at H
          refine pk_eq (used / 2 ^ cd code i % 2) 1 ?_ ?_
          · intro e3
            rw [if_pos e3] at H
            exact H
          · intro e3
            rw [if_neg e3] at H
            refine nm_r (e' := nI (used ||| 2 ^ cd code i)) (by rw [zshl (by omega), nx_or]) (nm_r (nI_1 i) (ih (i + 1) _ (by omega) (or16 used hu _ hc4) H))
  exact ⟨5, main 4 0 0 rfl (by decide) H⟩
/-- does row i stand behind row j with its column in front of j's -/
def swp (code R i j : Nat) : Nat := if ((R / 2 ^ i) &&& (R / 2 ^ j)) % 2 = 1 ∧ cd code i < cd code j then 1 else 0
def sws (code R : Nat) : Nat := zs (fun i => zs (fun j => swp code R i j) i) 4
theorem swp_le (code R i j : Nat) : swp code R i j ≤ 1 := by
  unfold swp; split <;> decide
theorem zs_le1 {f : Nat → Nat} (h : ∀ t, f t ≤ 1) (n : Nat) : zs f n ≤ n := by
  have := zs_le h n
  omega
theorem and_lt {a b B : Nat} (h : a < B) : a &&& b < B := Nat.lt_of_le_of_lt Nat.and_le_left h
theorem ys_isOdd {post : Int32 → Prop} {N code R : Nat} {g : Nat → Nat} {mn te dv ot fc kp rw : Nat → Nat} (hcode : code < 256) (hR : R < 16)
    (H : post (if sws code R % 2 = 1 then 1 else 0)) : wpY_isOdd post (zY N g mn te dv ot fc kp rw) (nI code) (nI R) := by
  show ∃ n5, wY_isOdd_5 post (nI code) (nI R) (nI N) (zA g) (zA mn) (zA te) (zA dv) (zA ot) (zA fc) (zA kp) (zA rw) n5 0 0
  have hb : ∀ i, i ≤ 4 → zs (fun i => zs (fun j => swp code R i j) i) i ≤ i * 4 := by
    intro i hi
    induction i with
    | zero => exact Nat.zero_le _
    | succ i ih =>
      have h1 := ih (by omega)
      have h2 : zs (fun j => swp code R i j) i ≤ i := zs_le1 (swp_le code R i) i
      show zs (fun i => zs (fun j => swp code R i j) i) i + zs (fun j => swp code R i j) i ≤ (i + 1) * 4
      omega
  refine loop_0 (fun n i (q : Nat) => wY_isOdd_5 post (nI code) (nI R) (nI N) (zA g) (zA mn) (zA te) (zA dv) (zA ot) (zA fc) (zA kp) (zA rw) n (nI q) (nI i))
    (fun i q => q = zs (fun i => zs (fun j => swp code R i j) i) i) 4 0 rfl ?_ ?_
  · intro n q hq
    have h16 := hb 4 (by omega)
    have hq2 : q = sws code R := hq
    have hs16 : sws code R ≤ 16 := h16
    have hm : sws code R % 2 < 2 := Nat.mod_lt _ (by decide)
    refine br_t (nI_le (a := 4) (Nat.le_refl _) (by omega)) ⟨zf2, ?_⟩
    rw [hq2, z2r (by omega)]
    refine pk_eq (sws code R % 2) 1 ?_ ?_
    · intro e
      rw [if_pos e] at H; exact H
    · intro e
      rw [if_neg e] at H; exact H
  · intro n i q hi hq ih
    have hq1 := hb i (by omega)
    refine br_f (nI_ge (b := 4) hi (by omega)) ?_
    refine loop_0 (fun n' j (q' : Nat) => wY_isOdd_14 post (wY_isOdd_5 post (nI code) (nI R) (nI N) (zA g) (zA mn) (zA te) (zA dv) (zA ot) (zA fc) (zA kp) (zA rw) n) (nI code) (nI R) (nI i) (nI N) (zA g) (zA mn) (zA te) (zA dv) (zA ot) (zA fc) (zA kp) (zA rw) n' (nI q') (nI j))
      (fun j q' => q' = q + zs (fun j => swp code R i j) j) i q rfl ?_ ?_
    · intro n' q' hq'
      refine br_t (nI_le (Nat.le_refl _) (by omega)) (nm_r (nI_1 i) (ih q' ?_))
      rw [hq', hq]; rfl
    · intro n' j q' hj hq' ih'
      have c1 := cd_lt code i
      have c2 := cd_lt code j
      have hdi : R / 2 ^ i < 16 := Nat.lt_of_le_of_lt (Nat.div_le_self _ _) hR
      refine br_f (nI_ge hj (by omega)) ?_
      rw [zshr (by omega) (by omega), zshr (by omega) (by omega), nx_and, zand1 (Nat.lt_trans (and_lt hdi) (by decide)), zshr2 (by omega) (by omega), zshr2 (by omega) (by omega)]
      have hm : ((R / 2 ^ i) &&& (R / 2 ^ j)) % 2 < 2 := Nat.mod_lt _ (by decide)
      refine pk_eq (((R / 2 ^ i) &&& (R / 2 ^ j)) % 2) 1 ?_ ?_
      · intro e
        refine pk_le (cd code j) (cd code i) ?_ ?_
        · intro e2
          refine nm_r (nI_1 j) (ih' q' ?_)
          rw [hq']
          show _ = q + (zs (fun j => swp code R i j) j + swp code R i j)
          unfold swp
          rw [if_neg (by omega)]
          rfl
        · intro e2
          refine nm_r (nI_1 q') (nm_r (nI_1 j) (ih' (q' + 1) ?_))
          rw [hq']
          show _ = q + (zs (fun j => swp code R i j) j + swp code R i j)
          rw [show swp code R i j = 1 from if_pos ⟨e, e2⟩]
          rfl
      · intro e
        refine nm_r (nI_1 j) (ih' q' ?_)
        rw [hq']
        show _ = q + (zs (fun j => swp code R i j) j + swp code R i j)
        rw [show swp code R i j = 0 from if_neg (fun z => e z.1)]
        rfl
/-- the term of a code after i rows, as coefficients -/
def tmS (A : Nat → Nat → Nat) (code R : Nat) (x : Bool) : Nat → (Nat → Fin 5)
  | 0 => fun k => if k = 0 then (if sws code R % 2 = 1 then 4 else 1) else 0
  | i + 1 => if R / 2 ^ i % 2 = 1 then fun k => tmS A code R x i k * (if x then - kk (A i (cd code i)) else kk (A i (cd code i))) + (if x = true ∧ i = cd code i then px (tmS A code R x i) k else 0) else tmS A code R x i
theorem ys_term107 {post : SY → Prop} {J : Int32 → (Nat → Int32) → (Nat → Int32) → (Nat → Int32) → (Nat → Int32) → (Nat → Int32) → (Nat → Int32) → (Nat → Int32) → (Nat → Int32) → Prop}
    {x1 x2 x3 : Int32} {N i cc k7 : Nat} {x : Bool} {g : Nat → Nat} {mn te dv ot fc kp rw : Nat → Nat} {q : Nat → Fin 5} (hi : i < 4) (hcc : cc < 4) (hk7 : k7 ≤ 5) (hte : ∀ k, k < 5 → te k < 5) (hq : ∀ k, k < 5 → kk (te k) = q k)
    (H : ∀ te' : Nat → Nat, (∀ k, k < 5 → te' k < 5) → (∀ k, k < 5 → kk (te' k) = q k * kk k7 + (if x = true ∧ i = cc then px q k else 0)) → J (nI (i + 1)) (zA g) (zA mn) (zA te') (zA dv) (zA ot) (zA fc) (zA kp) (zA rw)) :
    ∃ n107, wY_makeTerm_107 post J x1 x2 x3 (if x then 1 else 0) (nI i) (nI cc) (nI k7) (nI N) n107 4 (zA g) (zA mn) (zA te) (zA dv) (zA ot) (zA fc) (zA kp) (zA rw) := by
  have main : ∀ d (te' : Nat → Nat), d ≤ 5 → (∀ k, k < 5 → te' k < 5) → (∀ k, k < d → te' k = te k) → (∀ k, d ≤ k → k < 5 → kk (te' k) = q k * kk k7 + (if x = true ∧ i = cc then px q k else 0)) →
      wY_makeTerm_107 post J x1 x2 x3 (if x then 1 else 0) (nI i) (nI cc) (nI k7) (nI N) (d + 1) (nI d - 1) (zA g) (zA mn) (zA te') (zA dv) (zA ot) (zA fc) (zA kp) (zA rw) := by
    intro d
    induction d with
    | zero =>
      intro te' hd h5 _ hv
      exact br_t (by decide) (nm_r (nI_1 i) (H te' h5 (fun k hk => hv k (Nat.zero_le _) hk)))
    | succ d ih =>
      intro te' hd h5 hk1 hv
      have e1 : nI (d + 1) - 1 = nI d := nI_pred d
      rw [e1]
      have td := h5 d (by omega)
      have tl : te' d * k7 ≤ 4 * 5 := Nat.mul_le_mul (by omega) hk7
      have em : nI d + (-1) = nI d - 1 := (Int32.sub_eq_add_neg _ _).symm
      have step : ∀ z : Nat, z < 5 → kk z = q d * kk k7 + (if x = true ∧ i = cc then px q d else 0) → ∀ {y : Int32}, y = nI z → ¬ (5 : Int32) = 0 ∧ vp_in (nI d) 5 ∧ ∀ b : Nat → Int32, b = upd (zA te') (nI d).toNatClampNeg y → ∀ x8 : Int32, x8 = nI d + (-1) →
          wY_makeTerm_107 post J x1 x2 x3 (if x then 1 else 0) (nI i) (nI cc) (nI k7) (nI N) (d + 1) x8 (zA g) (zA mn) b (zA dv) (zA ot) (zA fc) (zA kp) (zA rw) := by
        intro z hz hzq y hy
        subst hy
        refine ⟨zf5, vp_in_nI (by omega) (by decide), nm_r (e' := zA (zu te' d z)) (by rw [nI_clamp (by omega), zA_upd]) (nm_r em (ih _ (by omega) ?_ ?_ ?_))⟩
        · intro k hk
          by_cases e : k = d
          · subst e; rw [zu_s]; exact hz
          · rw [zu_n e]; exact h5 k hk
        · intro k hk
          rw [zu_n (by omega)]; exact hk1 k (by omega)
        · intro k hk hk5
          by_cases e : k = d
          · subst e; rw [zu_s]; exact hzq
          · rw [zu_n e]; exact hv k (by omega) hk5
      have vd : vp_in (nI d) 5 := vp_in_nI (by omega) (by decide)
      have ed : te' d = te d := hk1 d (by omega)
      have plain : (if x = true ∧ i = cc then px q d else 0) = 0 → ∀ {P : Prop}, True → (¬ (5 : Int32) = 0 ∧ vp_in (nI d) 5 ∧ ∀ b : Nat → Int32, b = upd (zA te') (nI d).toNatClampNeg (((zA te' (nI d).toNatClampNeg * nI k7) + 0) - ((zA te' (nI d).toNatClampNeg * nI k7) + 0) / 5 * 5) → ∀ x8 : Int32, x8 = nI d + (-1) →
          wY_makeTerm_107 post J x1 x2 x3 (if x then 1 else 0) (nI i) (nI cc) (nI k7) (nI N) (d + 1) x8 (zA g) (zA mn) b (zA dv) (zA ot) (zA fc) (zA kp) (zA rw)) := by
        intro e0 P _
        refine step ((te' d * k7) % 5) (Nat.mod_lt _ (by decide)) ?_ ?_
        · rw [kk_mod, kk_mul, ed, hq d (by omega), e0]
          grind
        · rw [nI_clamp (by omega), zA_at, pk_mul, Int32.add_zero, z5r (by omega)]
      refine br_f (nI_pos (by omega)) ⟨vd, ?_⟩
      cases x with
      | false => exact br_t rfl (plain (P := True) (if_neg (fun z => by cases z.1)) trivial)
      | true =>
        refine br_f (by decide) (pk_eq i cc ?_ ?_)
        · intro e
          refine pk_le d 0 ?_ ?_
          · intro e2
            have : d = 0 := by omega
            subst this
            exact plain (P := True) (by rw [if_pos ⟨rfl, e⟩]; rfl) trivial
          · intro e2
            obtain ⟨d', rfl⟩ : ∃ d', d = d' + 1 := ⟨d - 1, by omega⟩
            have td' := h5 d' (by omega)
            refine ⟨by rw [nI_pred]; exact vp_in_nI (by omega) (by decide), ?_⟩
            refine step ((te' (d' + 1) * k7 + te' d') % 5) (Nat.mod_lt _ (by decide)) ?_ ?_
            · rw [kk_mod, kk_add, kk_mul, ed, hk1 d' (by omega), hq _ (by omega), hq _ (by omega), if_pos ⟨rfl, e⟩]
              rfl
            · rw [nI_pred, nI_clamp (by omega), nI_clamp (by omega), zA_at, zA_at, pk_mul, nI_add, z5r (by omega)]
        · intro e
          exact plain (P := True) (if_neg (fun z => e z.2)) trivial
  exact ⟨6, main 5 te (by omega) hte (fun _ _ => rfl) (fun k h1 h2 => absurd h1 (by omega))⟩
theorem wyl_col : ∀ code R C d used i, wyl code R C d used = true → 4 ≤ i + d → i < 4 → R / 2 ^ i % 2 = 1 → C / 2 ^ cd code i % 2 = 1 := by
  intro code R C d
  induction d with
  | zero => intro used i _ h1 h2 _; omega
  | succ d ih =>
    intro used i hw h1 h2 hb
    have W : wyl code R C (d + 1) used = (if R / 2 ^ (3 - d) % 2 = 0 then (if cd code (3 - d) = 0 then wyl code R C d used else false)
        else if C / 2 ^ cd code (3 - d) % 2 = 0 then false else if used / 2 ^ cd code (3 - d) % 2 = 1 then false else wyl code R C d (used ||| 2 ^ cd code (3 - d))) := rfl
    rw [W] at hw
    by_cases e : i = 3 - d
    · subst e
      rw [if_neg (by omega)] at hw
      by_cases e2 : C / 2 ^ cd code (3 - d) % 2 = 0
      · rw [if_pos e2] at hw; cases hw
      · omega
    · by_cases e1 : R / 2 ^ (3 - d) % 2 = 0
      · rw [if_pos e1] at hw
        by_cases e2 : cd code (3 - d) = 0
        · rw [if_pos e2] at hw
          exact ih used i hw (by omega) h2 hb
        · rw [if_neg e2] at hw; cases hw
      · rw [if_neg e1] at hw
        by_cases e2 : C / 2 ^ cd code (3 - d) % 2 = 0
        · rw [if_pos e2] at hw; cases hw
        · rw [if_neg e2] at hw
          by_cases e3 : used / 2 ^ cd code (3 - d) % 2 = 1
          · rw [if_pos e3] at hw; cases hw
          · rw [if_neg e3] at hw
            exact ih _ i hw (by omega) h2 hb
theorem bit_lt : ∀ N, N < 5 → ∀ s, s < 2 ^ N → ∀ i, i < 4 → s / 2 ^ i % 2 = 1 → i < N := by decide +kernel
theorem ys_makeTerm {post : SY → Prop} {N r code R C : Nat} {x : Bool} {g : Nat → Nat} {mn te dv ot fc kp rw : Nat → Nat} (hN : N ≤ 4) (hr : r < 5) (hg : ∀ j, g j < 5) (hcode : code < 256) (hR : R < 2 ^ N) (hC : C < 2 ^ N) (hw : wyl code R C 4 0 = true)
    (H : ∀ te' : Nat → Nat, (∀ k, k < 5 → te' k < 5) → (∀ k, k < 5 → kk (te' k) = tmS (zSl g N r) code R x 4 k) → post (zY N g mn te' dv ot fc kp rw)) :
    wpY_makeTerm post (zY N g mn te dv ot fc kp rw) (nI r) (nI code) (nI R) (if x then 1 else 0) := by
  obtain ⟨w1, w2⟩ := pw2 N (by omega)
  show ∃ n3, wY_makeTerm_3 post (nI r) (nI code) (nI R) (if x then 1 else 0) (nI N) n3 0 (zA g) (zA mn) (zA te) (zA dv) (zA ot) (zA fc) (zA kp) (zA rw)
  refine loop_0 (fun n k (s : Nat → Nat) => wY_makeTerm_3 post (nI r) (nI code) (nI R) (if x then 1 else 0) (nI N) n (nI k) (zA g) (zA mn) (zA s) (zA dv) (zA ot) (zA fc) (zA kp) (zA rw))
    (fun k s => ∀ j, j < k → s j < 5 ∧ kk (s j) = tmS (zSl g N r) code R x 0 j) 5 te (fun j h => absurd h (by omega)) ?_ ?_
  · intro n s hI
    refine br_t (nI_le (a := 5) (Nat.le_refl _) (by omega)) ?_
    refine loop_0 (fun n i (s : Nat → Nat) => wY_makeTerm_48 post (nI r) (nI code) (nI R) (if x then 1 else 0) (nI N) n (nI i) (zA g) (zA mn) (zA s) (zA dv) (zA ot) (zA fc) (zA kp) (zA rw))
      (fun i s => (∀ k, k < 5 → s k < 5) ∧ ∀ k, k < 5 → kk (s k) = tmS (zSl g N r) code R x i k) 4 s ⟨fun k hk => (hI k hk).1, fun k hk => (hI k hk).2⟩ ?_ ?_
    · intro n' s' hJ
      exact br_t (nI_le (a := 4) (Nat.le_refl _) (by omega)) (H s' hJ.1 hJ.2)
    · intro n' i s' hi hJ ih
      have m1 : R / 2 ^ i % 2 < 2 := Nat.mod_lt _ (by decide)
      refine br_f (nI_ge (b := 4) hi (by omega)) ?_
      rw [zbit (by omega) (by omega)]
      have W : tmS (zSl g N r) code R x (i + 1) = (if R / 2 ^ i % 2 = 1 then fun k => tmS (zSl g N r) code R x i k * (if x then - kk (zSl g N r i (cd code i)) else kk (zSl g N r i (cd code i))) + (if x = true ∧ i = cd code i then px (tmS (zSl g N r) code R x i) k else 0) else tmS (zSl g N r) code R x i) := rfl
      refine pk_eq (R / 2 ^ i % 2) 1 ?_ ?_
      · intro e
        have hiN := bit_lt N (by omega) R hR i hi e
        have hcC := wyl_col code R C 4 0 i hw (by omega) hi e
        have hcN := bit_lt N (by omega) C hC (cd code i) (cd_lt _ _) hcC
        have ge := hg (16 * r + (N * i + cd code i))
        rw [if_pos e] at W
        refine nm_r (e' := nI (cd code i)) (zshr2 (by omega) hi) ?_
        cases x with
        | false =>
          refine br_t rfl (ys_entry hN hr hiN hcN ?_)
          refine ys_term107 (x := false) hi (cd_lt _ _) (by omega) hJ.1 hJ.2 ?_
          intro te' t1 t2
          refine ih te' ⟨t1, ?_⟩
          intro k hk
          rw [W, t2 k hk, zSl_at hiN hcN]
          rfl
        | true =>
          refine br_f (by decide) (ys_entry hN hr hiN hcN (nm_r (z5s (by omega)) ?_))
          refine ys_term107 (x := true) hi (cd_lt _ _) (by omega) hJ.1 hJ.2 ?_
          intro te' t1 t2
          refine ih te' ⟨t1, ?_⟩
          intro k hk
          rw [W, t2 k hk, kk_5s (by omega), zSl_at hiN hcN]
          rfl
      · intro e
        rw [if_neg e] at W
        refine nm_r (nI_1 i) (ih s' ?_)
        rw [W]; exact hJ
  · intro n k s hk hI ih
    have step : ∀ z : Nat, z < 5 → kk z = tmS (zSl g N r) code R x 0 k → ∀ {y : Int32}, y = nI z → vp_in (nI k) 5 ∧ ∀ b : Nat → Int32, b = upd (zA s) (nI k).toNatClampNeg y → ∀ x8 : Int32, x8 = nI k + 1 →
        wY_makeTerm_3 post (nI r) (nI code) (nI R) (if x then 1 else 0) (nI N) n x8 (zA g) (zA mn) b (zA dv) (zA ot) (zA fc) (zA kp) (zA rw) := by
      intro z hz hzq y hy
      subst hy
      refine ⟨vp_in_nI (by omega) (by decide), nm_r (e' := zA (zu s k z)) (by rw [nI_clamp (by omega), zA_upd]) (nm_r (nI_1 k) (ih _ ?_))⟩
      intro j hj
      by_cases e : j = k
      · subst e; rw [zu_s]; exact ⟨hz, hzq⟩
      · rw [zu_n e]; exact hI j (by omega)
    refine br_f (nI_ge (b := 5) hk (by omega)) (pk_eq k 0 ?_ ?_)
    · intro e
      subst e
      refine ys_isOdd hcode (by omega) ?_
      by_cases eo : sws code R % 2 = 1
      · rw [if_pos eo]
        refine br_f zf1 (step 4 (by decide) ?_ rfl)
        show kk 4 = (if sws code R % 2 = 1 then 4 else 1)
        rw [if_pos eo]; rfl
      · rw [if_neg eo]
        refine br_t rfl (step 1 (by decide) ?_ rfl)
        show kk 1 = (if sws code R % 2 = 1 then 4 else 1)
        rw [if_neg eo]; rfl
    · intro e
      refine step 0 (by decide) ?_ rfl
      show kk 0 = (if k = 0 then (if sws code R % 2 = 1 then 4 else 1) else 0)
      rw [if_neg e]; rfl
/-- the reference's minor after some codes -/
def mnS (A : Nat → Nat → Nat) (R C : Nat) (x : Bool) : Nat → (Nat → Fin 5)
  | 0 => fun _ => 0
  | code + 1 => if wyl code R C 4 0 = true then fun k => mnS A R C x code k + tmS A code R x 4 k else mnS A R C x code
theorem ys_findMinor {post : SY → Prop} {N r R C : Nat} {x : Bool} {g : Nat → Nat} {mn te dv ot fc kp rw : Nat → Nat} (hN : N ≤ 4) (hr : r < 5) (hg : ∀ j, g j < 5) (hR : R < 2 ^ N) (hC : C < 2 ^ N)
    (H : ∀ mn' te' : Nat → Nat, (∀ k, k < 5 → mn' k < 5) → (∀ k, k < 5 → kk (mn' k) = mnS (zSl g N r) R C x 256 k) → post (zY N g mn' te' dv ot fc kp rw)) :
    wpY_findMinor post (zY N g mn te dv ot fc kp rw) (nI r) (nI R) (nI C) (if x then 1 else 0) := by
  obtain ⟨w1, w2⟩ := pw2 N (by omega)
  show ∃ n3, wY_findMinor_3 post (nI r) (nI R) (nI C) (if x then 1 else 0) (nI N) n3 0 (zA g) (zA mn) (zA te) (zA dv) (zA ot) (zA fc) (zA kp) (zA rw)
  refine loop_0 (fun n k (s : Nat → Nat) => wY_findMinor_3 post (nI r) (nI R) (nI C) (if x then 1 else 0) (nI N) n (nI k) (zA g) (zA s) (zA te) (zA dv) (zA ot) (zA fc) (zA kp) (zA rw))
    (fun k s => ∀ j, j < k → s j = 0) 5 mn (fun j h => absurd h (by omega)) ?_ ?_
  · intro n s hI
    refine br_t (nI_le (a := 5) (Nat.le_refl _) (by omega)) ?_
    refine loop_0 (fun n code (s : (Nat → Nat) × (Nat → Nat)) => wY_findMinor_26 post (nI r) (nI R) (nI C) (if x then 1 else 0) n (nI code) (nI N) (zA g) (zA s.1) (zA s.2) (zA dv) (zA ot) (zA fc) (zA kp) (zA rw))
      (fun code s => (∀ k, k < 5 → s.1 k < 5) ∧ ∀ k, k < 5 → kk (s.1 k) = mnS (zSl g N r) R C x code k) 256 (s, te) ⟨fun k hk => by show s k < 5; rw [hI k hk]; decide, fun k hk => by show kk (s k) = 0; rw [hI k hk]; rfl⟩ ?_ ?_
    · intro n' s' hJ
      exact br_t (nI_le (a := 256) (Nat.le_refl _) (by omega)) (H s'.1 s'.2 hJ.1 hJ.2)
    · intro n' code s' hcode hJ ih
      refine br_f (nI_ge (b := 256) hcode (by omega)) (ys_isWay hcode (by omega) (by omega) ?_)
      by_cases hw : wyl code R C 4 0 = true
      · rw [if_pos hw]
        refine br_f zf1 (ys_makeTerm hN hr hg hcode hR hC hw ?_)
        intro te' t1 t2
        refine loop_0 (fun n2 k (s2 : Nat → Nat) => wY_findMinor_58 post (wY_findMinor_26 post (nI r) (nI R) (nI C) (if x then 1 else 0) n') (nI r) (nI R) (nI C) (if x then 1 else 0) (nI code) (nI N) n2 (nI k) (zA g) (zA s2) (zA te') (zA dv) (zA ot) (zA fc) (zA kp) (zA rw))
          (fun k s2 => (∀ j, j < 5 → s2 j < 5) ∧ (∀ j, j < k → kk (s2 j) = mnS (zSl g N r) R C x code j + tmS (zSl g N r) code R x 4 j) ∧ ∀ j, k ≤ j → j < 5 → s2 j = s'.1 j) 5 s'.1 ⟨hJ.1, fun j h => absurd h (by omega), fun _ _ _ => rfl⟩ ?_ ?_
        · intro n2 s2 hK
          refine br_t (nI_le (a := 5) (Nat.le_refl _) (by omega)) (nm_r (nI_1 code) (ih (s2, te') ⟨hK.1, ?_⟩))
          intro k hk
          show kk (s2 k) = (if wyl code R C 4 0 = true then fun k => mnS (zSl g N r) R C x code k + tmS (zSl g N r) code R x 4 k else mnS (zSl g N r) R C x code) k
          rw [if_pos hw]
          exact hK.2.1 k hk
        · intro n2 k s2 hk hK ih2
          have a1 := hK.1 k hk
          have a2 := t1 k hk
          have vk : vp_in (nI k) 5 := vp_in_nI (by omega) (by decide)
          refine br_f (nI_ge (b := 5) hk (by omega)) ⟨vk, vk, zf5, vk, nm_r (e' := zA (zu s2 k ((s2 k + te' k) % 5))) (by rw [nI_clamp (by omega), zA_at, zA_at, nI_add, z5r (by omega), zA_upd]) (nm_r (nI_1 k) (ih2 _ ⟨?_, ?_, ?_⟩))⟩
          · intro j hj
            by_cases e : j = k
            · subst e; rw [zu_s]; exact Nat.mod_lt _ (by decide)
            · rw [zu_n e]; exact hK.1 j hj
          · intro j hj
            by_cases e : j = k
            · subst e
              rw [zu_s, kk_mod, kk_add, hK.2.2 j (by omega) hk, hJ.2 j hk, t2 j hk]
            · rw [zu_n e]; exact hK.2.1 j (by omega)
          · intro j hj hj5
            rw [zu_n (by omega)]; exact hK.2.2 j (by omega) hj5
      · rw [if_neg hw]
        refine br_t rfl (nm_r (nI_1 code) (ih s' ⟨hJ.1, ?_⟩))
        intro k hk
        show kk (s'.1 k) = (if wyl code R C 4 0 = true then fun k => mnS (zSl g N r) R C x code k + tmS (zSl g N r) code R x 4 k else mnS (zSl g N r) R C x code) k
        rw [if_neg hw]
        exact hJ.2 k hk
  · intro n k s hk hI ih
    refine br_f (nI_ge (b := 5) hk (by omega)) ⟨vp_in_nI (by omega) (by decide), nm_r (e' := zA (zu s k 0)) (by rw [nI_clamp (by omega), ← zA_upd]; rfl) (nm_r (nI_1 k) (ih _ ?_))⟩
    intro j hj
    by_cases e : j = k
    · subst e; rw [zu_s]
    · rw [zu_n e]; exact hI j (by omega)
end
section
/-! both minors are one determinant -/
def ev (p : Nat → Fin 5) (w : Fin 5) : Fin 5 := p 0 + w * (p 1 + w * (p 2 + w * (p 3 + w * p 4)))
def lapM (h : Nat → Fin 5) (C : Nat) : Nat → Fin 5 × Fin 5
  | 0 => (0, 1)
  | i + 1 => if C / 2 ^ i % 2 = 1 then ((lapM h C i).1 + (lapM h C i).2 * h i, - (lapM h C i).2) else lapM h C i
def dtm (M : Nat → Nat → Fin 5) : Nat → Nat → Nat → Fin 5
  | 0, _, _ => 1
  | f + 1, R, C => (lapM (fun i => M (lo R) i * dtm M f (rs R) (C - 2 ^ i)) C 4).1
def prd (M : Nat → Nat → Fin 5) (code R : Nat) : Nat → Fin 5
  | 0 => if sws code R % 2 = 1 then 4 else 1
  | i + 1 => if R / 2 ^ i % 2 = 1 then prd M code R i * M i (cd code i) else prd M code R i
def lbs (M : Nat → Nat → Fin 5) (R C : Nat) : Nat → Fin 5
  | 0 => 0
  | code + 1 => if wyl code R C 4 0 = true then lbs M R C code + prd M code R 4 else lbs M R C code
def wayl (R C n : Nat) : List (Bool × Nat × Nat × Nat × Nat) := ((List.range n).filter (fun code => wyl code R C 4 0)).map (fun code => (sws code R % 2 == 1, cd code 0, cd code 1, cd code 2, cd code 3))
def prt (M : Nat → Nat → Fin 5) (R : Nat) (t : Bool × Nat × Nat × Nat × Nat) : Fin 5 :=
  (if t.1 then 4 else 1) * (if R / 2 ^ 0 % 2 = 1 then M 0 t.2.1 else 1) * (if R / 2 ^ 1 % 2 = 1 then M 1 t.2.2.1 else 1) * (if R / 2 ^ 2 % 2 = 1 then M 2 t.2.2.2.1 else 1) * (if R / 2 ^ 3 % 2 = 1 then M 3 t.2.2.2.2 else 1)
def sml (h : Bool × Nat × Nat × Nat × Nat → Fin 5) : List (Bool × Nat × Nat × Nat × Nat) → Fin 5
  | [] => 0
  | t :: l => h t + sml h l
theorem sml_app (h : Bool × Nat × Nat × Nat × Nat → Fin 5) (l l' : List (Bool × Nat × Nat × Nat × Nat)) : sml h (l ++ l') = sml h l + sml h l' := by
  induction l with
  | nil => show sml h l' = 0 + sml h l'; grind
  | cons t l ih => show h t + sml h (l ++ l') = h t + sml h l + sml h l'; rw [ih]; grind
theorem prd_t (M : Nat → Nat → Fin 5) (code R : Nat) : prd M code R 4 = prt M R (sws code R % 2 == 1, cd code 0, cd code 1, cd code 2, cd code 3) := by
  unfold prt
  simp only [prd, beq_iff_eq]
  split <;> split <;> split <;> split <;> split <;> grind
theorem lbs_l (M : Nat → Nat → Fin 5) (R C n : Nat) : lbs M R C n = sml (prt M R) (wayl R C n) := by
  induction n with
  | zero => rfl
  | succ n ih =>
    unfold wayl
    rw [List.range_succ, List.filter_append, List.map_append, sml_app]
    show (if wyl n R C 4 0 = true then lbs M R C n + prd M n R 4 else lbs M R C n) = _
    by_cases e : wyl n R C 4 0 = true
    · rw [if_pos e, ih, prd_t]
      have : List.filter (fun code => wyl code R C 4 0) [n] = [n] := by simp [e]
      rw [this]
      show _ = sml (prt M R) (wayl R C n) + (prt M R _ + 0)
      grind
    · rw [if_neg e, ih]
      have : List.filter (fun code => wyl code R C 4 0) [n] = [] := by simp [e]
      rw [this]
      show _ = sml (prt M R) (wayl R C n) + 0
      grind
theorem lb_0_0 (M : Nat → Nat → Fin 5) : lbs M 0 0 256 = dtm M 0 0 0 := by
  have e : wayl 0 0 256 = [(false,0,0,0,0)] := by decide +kernel
  rw [lbs_l, e]
  simp [sml, prt, dtm, lapM, lo, rs]
theorem lb_1_1 (M : Nat → Nat → Fin 5) : lbs M 1 1 256 = dtm M 1 1 1 := by
  have e : wayl 1 1 256 = [(false,0,0,0,0)] := by decide +kernel
  rw [lbs_l, e]
  simp [sml, prt, dtm, lapM, lo, rs]
  grind
theorem lb_1_2 (M : Nat → Nat → Fin 5) : lbs M 1 2 256 = dtm M 1 1 2 := by
  have e : wayl 1 2 256 = [(false,1,0,0,0)] := by decide +kernel
  rw [lbs_l, e]
  simp [sml, prt, dtm, lapM, lo, rs]
  grind
theorem lb_1_4 (M : Nat → Nat → Fin 5) : lbs M 1 4 256 = dtm M 1 1 4 := by
  have e : wayl 1 4 256 = [(false,2,0,0,0)] := by decide +kernel
  rw [lbs_l, e]
  simp [sml, prt, dtm, lapM, lo, rs]
  grind
theorem lb_1_8 (M : Nat → Nat → Fin 5) : lbs M 1 8 256 = dtm M 1 1 8 := by
  have e : wayl 1 8 256 = [(false,3,0,0,0)] := by decide +kernel
  rw [lbs_l, e]
  simp [sml, prt, dtm, lapM, lo, rs]
  grind
theorem lb_2_1 (M : Nat → Nat → Fin 5) : lbs M 2 1 256 = dtm M 1 2 1 := by
  have e : wayl 2 1 256 = [(false,0,0,0,0)] := by decide +kernel
  rw [lbs_l, e]
  simp [sml, prt, dtm, lapM, lo, rs]
  grind
theorem lb_2_2 (M : Nat → Nat → Fin 5) : lbs M 2 2 256 = dtm M 1 2 2 := by
  have e : wayl 2 2 256 = [(false,0,1,0,0)] := by decide +kernel
  rw [lbs_l, e]
  simp [sml, prt, dtm, lapM, lo, rs]
  grind
theorem lb_2_4 (M : Nat → Nat → Fin 5) : lbs M 2 4 256 = dtm M 1 2 4 := by
  have e : wayl 2 4 256 = [(false,0,2,0,0)] := by decide +kernel
  rw [lbs_l, e]
  simp [sml, prt, dtm, lapM, lo, rs]
  grind
theorem lb_2_8 (M : Nat → Nat → Fin 5) : lbs M 2 8 256 = dtm M 1 2 8 := by
  have e : wayl 2 8 256 = [(false,0,3,0,0)] := by decide +kernel
  rw [lbs_l, e]
  simp [sml, prt, dtm, lapM, lo, rs]
  grind
theorem lb_3_3 (M : Nat → Nat → Fin 5) : lbs M 3 3 256 = dtm M 2 3 3 := by
  have e : wayl 3 3 256 = [(true,1,0,0,0),(false,0,1,0,0)] := by decide +kernel
  rw [lbs_l, e]
  simp [sml, prt, dtm, lapM, lo, rs]
  grind
theorem lb_3_5 (M : Nat → Nat → Fin 5) : lbs M 3 5 256 = dtm M 2 3 5 := by
  have e : wayl 3 5 256 = [(true,2,0,0,0),(false,0,2,0,0)] := by decide +kernel
  rw [lbs_l, e]
  simp [sml, prt, dtm, lapM, lo, rs]
  grind
theorem lb_3_6 (M : Nat → Nat → Fin 5) : lbs M 3 6 256 = dtm M 2 3 6 := by
  have e : wayl 3 6 256 = [(true,2,1,0,0),(false,1,2,0,0)] := by decide +kernel
  rw [lbs_l, e]
  simp [sml, prt, dtm, lapM, lo, rs]
  grind
theorem lb_3_9 (M : Nat → Nat → Fin 5) : lbs M 3 9 256 = dtm M 2 3 9 := by
  have e : wayl 3 9 256 = [(true,3,0,0,0),(false,0,3,0,0)] := by decide +kernel
  rw [lbs_l, e]
  simp [sml, prt, dtm, lapM, lo, rs]
  grind
theorem lb_3_10 (M : Nat → Nat → Fin 5) : lbs M 3 10 256 = dtm M 2 3 10 := by
  have e : wayl 3 10 256 = [(true,3,1,0,0),(false,1,3,0,0)] := by decide +kernel
  rw [lbs_l, e]
  simp [sml, prt, dtm, lapM, lo, rs]
  grind
theorem lb_3_12 (M : Nat → Nat → Fin 5) : lbs M 3 12 256 = dtm M 2 3 12 := by
  have e : wayl 3 12 256 = [(true,3,2,0,0),(false,2,3,0,0)] := by decide +kernel
  rw [lbs_l, e]
  simp [sml, prt, dtm, lapM, lo, rs]
  grind
theorem lb_4_1 (M : Nat → Nat → Fin 5) : lbs M 4 1 256 = dtm M 1 4 1 := by
  have e : wayl 4 1 256 = [(false,0,0,0,0)] := by decide +kernel
  rw [lbs_l, e]
  simp [sml, prt, dtm, lapM, lo, rs]
  grind
theorem lb_4_2 (M : Nat → Nat → Fin 5) : lbs M 4 2 256 = dtm M 1 4 2 := by
  have e : wayl 4 2 256 = [(false,0,0,1,0)] := by decide +kernel
  rw [lbs_l, e]
  simp [sml, prt, dtm, lapM, lo, rs]
  grind
theorem lb_4_4 (M : Nat → Nat → Fin 5) : lbs M 4 4 256 = dtm M 1 4 4 := by
  have e : wayl 4 4 256 = [(false,0,0,2,0)] := by decide +kernel
  rw [lbs_l, e]
  simp [sml, prt, dtm, lapM, lo, rs]
  grind
theorem lb_4_8 (M : Nat → Nat → Fin 5) : lbs M 4 8 256 = dtm M 1 4 8 := by
  have e : wayl 4 8 256 = [(false,0,0,3,0)] := by decide +kernel
  rw [lbs_l, e]
  simp [sml, prt, dtm, lapM, lo, rs]
  grind
theorem lb_5_3 (M : Nat → Nat → Fin 5) : lbs M 5 3 256 = dtm M 2 5 3 := by
  have e : wayl 5 3 256 = [(true,1,0,0,0),(false,0,0,1,0)] := by decide +kernel
  rw [lbs_l, e]
  simp [sml, prt, dtm, lapM, lo, rs]
  grind
theorem lb_5_5 (M : Nat → Nat → Fin 5) : lbs M 5 5 256 = dtm M 2 5 5 := by
  have e : wayl 5 5 256 = [(true,2,0,0,0),(false,0,0,2,0)] := by decide +kernel
  rw [lbs_l, e]
  simp [sml, prt, dtm, lapM, lo, rs]
  grind
theorem lb_5_6 (M : Nat → Nat → Fin 5) : lbs M 5 6 256 = dtm M 2 5 6 := by
  have e : wayl 5 6 256 = [(true,2,0,1,0),(false,1,0,2,0)] := by decide +kernel
  rw [lbs_l, e]
  simp [sml, prt, dtm, lapM, lo, rs]
  grind
theorem lb_5_9 (M : Nat → Nat → Fin 5) : lbs M 5 9 256 = dtm M 2 5 9 := by
  have e : wayl 5 9 256 = [(true,3,0,0,0),(false,0,0,3,0)] := by decide +kernel
  rw [lbs_l, e]
  simp [sml, prt, dtm, lapM, lo, rs]
  grind
theorem lb_5_10 (M : Nat → Nat → Fin 5) : lbs M 5 10 256 = dtm M 2 5 10 := by
  have e : wayl 5 10 256 = [(true,3,0,1,0),(false,1,0,3,0)] := by decide +kernel
  rw [lbs_l, e]
  simp [sml, prt, dtm, lapM, lo, rs]
  grind
theorem lb_5_12 (M : Nat → Nat → Fin 5) : lbs M 5 12 256 = dtm M 2 5 12 := by
  have e : wayl 5 12 256 = [(true,3,0,2,0),(false,2,0,3,0)] := by decide +kernel
  rw [lbs_l, e]
  simp [sml, prt, dtm, lapM, lo, rs]
  grind
theorem lb_6_3 (M : Nat → Nat → Fin 5) : lbs M 6 3 256 = dtm M 2 6 3 := by
  have e : wayl 6 3 256 = [(true,0,1,0,0),(false,0,0,1,0)] := by decide +kernel
  rw [lbs_l, e]
  simp [sml, prt, dtm, lapM, lo, rs]
  grind
theorem lb_6_5 (M : Nat → Nat → Fin 5) : lbs M 6 5 256 = dtm M 2 6 5 := by
  have e : wayl 6 5 256 = [(true,0,2,0,0),(false,0,0,2,0)] := by decide +kernel
  rw [lbs_l, e]
  simp [sml, prt, dtm, lapM, lo, rs]
  grind
theorem lb_6_6 (M : Nat → Nat → Fin 5) : lbs M 6 6 256 = dtm M 2 6 6 := by
  have e : wayl 6 6 256 = [(true,0,2,1,0),(false,0,1,2,0)] := by decide +kernel
  rw [lbs_l, e]
  simp [sml, prt, dtm, lapM, lo, rs]
  grind
theorem lb_6_9 (M : Nat → Nat → Fin 5) : lbs M 6 9 256 = dtm M 2 6 9 := by
  have e : wayl 6 9 256 = [(true,0,3,0,0),(false,0,0,3,0)] := by decide +kernel
  rw [lbs_l, e]
  simp [sml, prt, dtm, lapM, lo, rs]
  grind
theorem lb_6_10 (M : Nat → Nat → Fin 5) : lbs M 6 10 256 = dtm M 2 6 10 := by
  have e : wayl 6 10 256 = [(true,0,3,1,0),(false,0,1,3,0)] := by decide +kernel
  rw [lbs_l, e]
  simp [sml, prt, dtm, lapM, lo, rs]
  grind
theorem lb_6_12 (M : Nat → Nat → Fin 5) : lbs M 6 12 256 = dtm M 2 6 12 := by
  have e : wayl 6 12 256 = [(true,0,3,2,0),(false,0,2,3,0)] := by decide +kernel
  rw [lbs_l, e]
  simp [sml, prt, dtm, lapM, lo, rs]
  grind
theorem lb_7_7 (M : Nat → Nat → Fin 5) : lbs M 7 7 256 = dtm M 3 7 7 := by
  have e : wayl 7 7 256 = [(true,2,1,0,0),(false,1,2,0,0),(false,2,0,1,0),(true,0,2,1,0),(true,1,0,2,0),(false,0,1,2,0)] := by decide +kernel
  rw [lbs_l, e]
  simp [sml, prt, dtm, lapM, lo, rs]
  grind
theorem lb_7_11 (M : Nat → Nat → Fin 5) : lbs M 7 11 256 = dtm M 3 7 11 := by
  have e : wayl 7 11 256 = [(true,3,1,0,0),(false,1,3,0,0),(false,3,0,1,0),(true,0,3,1,0),(true,1,0,3,0),(false,0,1,3,0)] := by decide +kernel
  rw [lbs_l, e]
  simp [sml, prt, dtm, lapM, lo, rs]
  grind
theorem lb_7_13 (M : Nat → Nat → Fin 5) : lbs M 7 13 256 = dtm M 3 7 13 := by
  have e : wayl 7 13 256 = [(true,3,2,0,0),(false,2,3,0,0),(false,3,0,2,0),(true,0,3,2,0),(true,2,0,3,0),(false,0,2,3,0)] := by decide +kernel
  rw [lbs_l, e]
  simp [sml, prt, dtm, lapM, lo, rs]
  grind
theorem lb_7_14 (M : Nat → Nat → Fin 5) : lbs M 7 14 256 = dtm M 3 7 14 := by
  have e : wayl 7 14 256 = [(true,3,2,1,0),(false,2,3,1,0),(false,3,1,2,0),(true,1,3,2,0),(true,2,1,3,0),(false,1,2,3,0)] := by decide +kernel
  rw [lbs_l, e]
  simp [sml, prt, dtm, lapM, lo, rs]
  grind
theorem lb_8_1 (M : Nat → Nat → Fin 5) : lbs M 8 1 256 = dtm M 1 8 1 := by
  have e : wayl 8 1 256 = [(false,0,0,0,0)] := by decide +kernel
  rw [lbs_l, e]
  simp [sml, prt, dtm, lapM, lo, rs]
  grind
theorem lb_8_2 (M : Nat → Nat → Fin 5) : lbs M 8 2 256 = dtm M 1 8 2 := by
  have e : wayl 8 2 256 = [(false,0,0,0,1)] := by decide +kernel
  rw [lbs_l, e]
  simp [sml, prt, dtm, lapM, lo, rs]
  grind
theorem lb_8_4 (M : Nat → Nat → Fin 5) : lbs M 8 4 256 = dtm M 1 8 4 := by
  have e : wayl 8 4 256 = [(false,0,0,0,2)] := by decide +kernel
  rw [lbs_l, e]
  simp [sml, prt, dtm, lapM, lo, rs]
  grind
theorem lb_8_8 (M : Nat → Nat → Fin 5) : lbs M 8 8 256 = dtm M 1 8 8 := by
  have e : wayl 8 8 256 = [(false,0,0,0,3)] := by decide +kernel
  rw [lbs_l, e]
  simp [sml, prt, dtm, lapM, lo, rs]
  grind
theorem lb_9_3 (M : Nat → Nat → Fin 5) : lbs M 9 3 256 = dtm M 2 9 3 := by
  have e : wayl 9 3 256 = [(true,1,0,0,0),(false,0,0,0,1)] := by decide +kernel
  rw [lbs_l, e]
  simp [sml, prt, dtm, lapM, lo, rs]
  grind
theorem lb_9_5 (M : Nat → Nat → Fin 5) : lbs M 9 5 256 = dtm M 2 9 5 := by
  have e : wayl 9 5 256 = [(true,2,0,0,0),(false,0,0,0,2)] := by decide +kernel
  rw [lbs_l, e]
  simp [sml, prt, dtm, lapM, lo, rs]
  grind
theorem lb_9_6 (M : Nat → Nat → Fin 5) : lbs M 9 6 256 = dtm M 2 9 6 := by
  have e : wayl 9 6 256 = [(true,2,0,0,1),(false,1,0,0,2)] := by decide +kernel
  rw [lbs_l, e]
  simp [sml, prt, dtm, lapM, lo, rs]
  grind
theorem lb_9_9 (M : Nat → Nat → Fin 5) : lbs M 9 9 256 = dtm M 2 9 9 := by
  have e : wayl 9 9 256 = [(true,3,0,0,0),(false,0,0,0,3)] := by decide +kernel
  rw [lbs_l, e]
  simp [sml, prt, dtm, lapM, lo, rs]
  grind
theorem lb_9_10 (M : Nat → Nat → Fin 5) : lbs M 9 10 256 = dtm M 2 9 10 := by
  have e : wayl 9 10 256 = [(true,3,0,0,1),(false,1,0,0,3)] := by decide +kernel
  rw [lbs_l, e]
  simp [sml, prt, dtm, lapM, lo, rs]
  grind
theorem lb_9_12 (M : Nat → Nat → Fin 5) : lbs M 9 12 256 = dtm M 2 9 12 := by
  have e : wayl 9 12 256 = [(true,3,0,0,2),(false,2,0,0,3)] := by decide +kernel
  rw [lbs_l, e]
  simp [sml, prt, dtm, lapM, lo, rs]
  grind
theorem lb_10_3 (M : Nat → Nat → Fin 5) : lbs M 10 3 256 = dtm M 2 10 3 := by
  have e : wayl 10 3 256 = [(true,0,1,0,0),(false,0,0,0,1)] := by decide +kernel
  rw [lbs_l, e]
  simp [sml, prt, dtm, lapM, lo, rs]
  grind
theorem lb_10_5 (M : Nat → Nat → Fin 5) : lbs M 10 5 256 = dtm M 2 10 5 := by
  have e : wayl 10 5 256 = [(true,0,2,0,0),(false,0,0,0,2)] := by decide +kernel
  rw [lbs_l, e]
  simp [sml, prt, dtm, lapM, lo, rs]
  grind
theorem lb_10_6 (M : Nat → Nat → Fin 5) : lbs M 10 6 256 = dtm M 2 10 6 := by
  have e : wayl 10 6 256 = [(true,0,2,0,1),(false,0,1,0,2)] := by decide +kernel
  rw [lbs_l, e]
  simp [sml, prt, dtm, lapM, lo, rs]
  grind
theorem lb_10_9 (M : Nat → Nat → Fin 5) : lbs M 10 9 256 = dtm M 2 10 9 := by
  have e : wayl 10 9 256 = [(true,0,3,0,0),(false,0,0,0,3)] := by decide +kernel
  rw [lbs_l, e]
  simp [sml, prt, dtm, lapM, lo, rs]
  grind
theorem lb_10_10 (M : Nat → Nat → Fin 5) : lbs M 10 10 256 = dtm M 2 10 10 := by
  have e : wayl 10 10 256 = [(true,0,3,0,1),(false,0,1,0,3)] := by decide +kernel
  rw [lbs_l, e]
  simp [sml, prt, dtm, lapM, lo, rs]
  grind
theorem lb_10_12 (M : Nat → Nat → Fin 5) : lbs M 10 12 256 = dtm M 2 10 12 := by
  have e : wayl 10 12 256 = [(true,0,3,0,2),(false,0,2,0,3)] := by decide +kernel
  rw [lbs_l, e]
  simp [sml, prt, dtm, lapM, lo, rs]
  grind
theorem lb_11_7 (M : Nat → Nat → Fin 5) : lbs M 11 7 256 = dtm M 3 11 7 := by
  have e : wayl 11 7 256 = [(true,2,1,0,0),(false,1,2,0,0),(false,2,0,0,1),(true,0,2,0,1),(true,1,0,0,2),(false,0,1,0,2)] := by decide +kernel
  rw [lbs_l, e]
  simp [sml, prt, dtm, lapM, lo, rs]
  grind
theorem lb_11_11 (M : Nat → Nat → Fin 5) : lbs M 11 11 256 = dtm M 3 11 11 := by
  have e : wayl 11 11 256 = [(true,3,1,0,0),(false,1,3,0,0),(false,3,0,0,1),(true,0,3,0,1),(true,1,0,0,3),(false,0,1,0,3)] := by decide +kernel
  rw [lbs_l, e]
  simp [sml, prt, dtm, lapM, lo, rs]
  grind
theorem lb_11_13 (M : Nat → Nat → Fin 5) : lbs M 11 13 256 = dtm M 3 11 13 := by
  have e : wayl 11 13 256 = [(true,3,2,0,0),(false,2,3,0,0),(false,3,0,0,2),(true,0,3,0,2),(true,2,0,0,3),(false,0,2,0,3)] := by decide +kernel
  rw [lbs_l, e]
  simp [sml, prt, dtm, lapM, lo, rs]
  grind
theorem lb_11_14 (M : Nat → Nat → Fin 5) : lbs M 11 14 256 = dtm M 3 11 14 := by
  have e : wayl 11 14 256 = [(true,3,2,0,1),(false,2,3,0,1),(false,3,1,0,2),(true,1,3,0,2),(true,2,1,0,3),(false,1,2,0,3)] := by decide +kernel
  rw [lbs_l, e]
  simp [sml, prt, dtm, lapM, lo, rs]
  grind
theorem lb_12_3 (M : Nat → Nat → Fin 5) : lbs M 12 3 256 = dtm M 2 12 3 := by
  have e : wayl 12 3 256 = [(true,0,0,1,0),(false,0,0,0,1)] := by decide +kernel
  rw [lbs_l, e]
  simp [sml, prt, dtm, lapM, lo, rs]
  grind
theorem lb_12_5 (M : Nat → Nat → Fin 5) : lbs M 12 5 256 = dtm M 2 12 5 := by
  have e : wayl 12 5 256 = [(true,0,0,2,0),(false,0,0,0,2)] := by decide +kernel
  rw [lbs_l, e]
  simp [sml, prt, dtm, lapM, lo, rs]
  grind
theorem lb_12_6 (M : Nat → Nat → Fin 5) : lbs M 12 6 256 = dtm M 2 12 6 := by
  have e : wayl 12 6 256 = [(true,0,0,2,1),(false,0,0,1,2)] := by decide +kernel
  rw [lbs_l, e]
  simp [sml, prt, dtm, lapM, lo, rs]
  grind
theorem lb_12_9 (M : Nat → Nat → Fin 5) : lbs M 12 9 256 = dtm M 2 12 9 := by
  have e : wayl 12 9 256 = [(true,0,0,3,0),(false,0,0,0,3)] := by decide +kernel
  rw [lbs_l, e]
  simp [sml, prt, dtm, lapM, lo, rs]
  grind
theorem lb_12_10 (M : Nat → Nat → Fin 5) : lbs M 12 10 256 = dtm M 2 12 10 := by
  have e : wayl 12 10 256 = [(true,0,0,3,1),(false,0,0,1,3)] := by decide +kernel
  rw [lbs_l, e]
  simp [sml, prt, dtm, lapM, lo, rs]
  grind
theorem lb_12_12 (M : Nat → Nat → Fin 5) : lbs M 12 12 256 = dtm M 2 12 12 := by
  have e : wayl 12 12 256 = [(true,0,0,3,2),(false,0,0,2,3)] := by decide +kernel
  rw [lbs_l, e]
  simp [sml, prt, dtm, lapM, lo, rs]
  grind
theorem lb_13_7 (M : Nat → Nat → Fin 5) : lbs M 13 7 256 = dtm M 3 13 7 := by
  have e : wayl 13 7 256 = [(true,2,0,1,0),(false,1,0,2,0),(false,2,0,0,1),(true,0,0,2,1),(true,1,0,0,2),(false,0,0,1,2)] := by decide +kernel
  rw [lbs_l, e]
  simp [sml, prt, dtm, lapM, lo, rs]
  grind
theorem lb_13_11 (M : Nat → Nat → Fin 5) : lbs M 13 11 256 = dtm M 3 13 11 := by
  have e : wayl 13 11 256 = [(true,3,0,1,0),(false,1,0,3,0),(false,3,0,0,1),(true,0,0,3,1),(true,1,0,0,3),(false,0,0,1,3)] := by decide +kernel
  rw [lbs_l, e]
  simp [sml, prt, dtm, lapM, lo, rs]
  grind
theorem lb_13_13 (M : Nat → Nat → Fin 5) : lbs M 13 13 256 = dtm M 3 13 13 := by
  have e : wayl 13 13 256 = [(true,3,0,2,0),(false,2,0,3,0),(false,3,0,0,2),(true,0,0,3,2),(true,2,0,0,3),(false,0,0,2,3)] := by decide +kernel
  rw [lbs_l, e]
  simp [sml, prt, dtm, lapM, lo, rs]
  grind
theorem lb_13_14 (M : Nat → Nat → Fin 5) : lbs M 13 14 256 = dtm M 3 13 14 := by
  have e : wayl 13 14 256 = [(true,3,0,2,1),(false,2,0,3,1),(false,3,0,1,2),(true,1,0,3,2),(true,2,0,1,3),(false,1,0,2,3)] := by decide +kernel
  rw [lbs_l, e]
  simp [sml, prt, dtm, lapM, lo, rs]
  grind
theorem lb_14_7 (M : Nat → Nat → Fin 5) : lbs M 14 7 256 = dtm M 3 14 7 := by
  have e : wayl 14 7 256 = [(true,0,2,1,0),(false,0,1,2,0),(false,0,2,0,1),(true,0,0,2,1),(true,0,1,0,2),(false,0,0,1,2)] := by decide +kernel
  rw [lbs_l, e]
  simp [sml, prt, dtm, lapM, lo, rs]
  grind
theorem lb_14_11 (M : Nat → Nat → Fin 5) : lbs M 14 11 256 = dtm M 3 14 11 := by
  have e : wayl 14 11 256 = [(true,0,3,1,0),(false,0,1,3,0),(false,0,3,0,1),(true,0,0,3,1),(true,0,1,0,3),(false,0,0,1,3)] := by decide +kernel
  rw [lbs_l, e]
  simp [sml, prt, dtm, lapM, lo, rs]
  grind
theorem lb_14_13 (M : Nat → Nat → Fin 5) : lbs M 14 13 256 = dtm M 3 14 13 := by
  have e : wayl 14 13 256 = [(true,0,3,2,0),(false,0,2,3,0),(false,0,3,0,2),(true,0,0,3,2),(true,0,2,0,3),(false,0,0,2,3)] := by decide +kernel
  rw [lbs_l, e]
  simp [sml, prt, dtm, lapM, lo, rs]
  grind
theorem lb_14_14 (M : Nat → Nat → Fin 5) : lbs M 14 14 256 = dtm M 3 14 14 := by
  have e : wayl 14 14 256 = [(true,0,3,2,1),(false,0,2,3,1),(false,0,3,1,2),(true,0,1,3,2),(true,0,2,1,3),(false,0,1,2,3)] := by decide +kernel
  rw [lbs_l, e]
  simp [sml, prt, dtm, lapM, lo, rs]
  grind
theorem lb_15_15 (M : Nat → Nat → Fin 5) : lbs M 15 15 256 = dtm M 4 15 15 := by
  have e : wayl 15 15 256 = [(false,3,2,1,0),(true,2,3,1,0),(true,3,1,2,0),(false,1,3,2,0),(false,2,1,3,0),(true,1,2,3,0),(true,3,2,0,1),(false,2,3,0,1),(false,3,0,2,1),(true,0,3,2,1),(true,2,0,3,1),(false,0,2,3,1),(false,3,1,0,2),(true,1,3,0,2),(true,3,0,1,2),(false,0,3,1,2),(false,1,0,3,2),(true,0,1,3,2),(true,2,1,0,3),(false,1,2,0,3),(false,2,0,1,3),(true,0,2,1,3),(true,1,0,2,3),(false,0,1,2,3)] := by decide +kernel
  rw [lbs_l, e]
  simp [sml, prt, dtm, lapM, lo, rs]
  grind
theorem lbr_0 (M : Nat → Nat → Fin 5) : ∀ C, C < 16 → pc 0 = pc C → lbs M 0 C 256 = dtm M (pc 0) 0 C := by
  intro C hC h
  match C, hC, h with
  | 0, _, _ => exact lb_0_0 M
  | 1, _, h => exact absurd h (by decide)
  | 2, _, h => exact absurd h (by decide)
  | 3, _, h => exact absurd h (by decide)
  | 4, _, h => exact absurd h (by decide)
  | 5, _, h => exact absurd h (by decide)
  | 6, _, h => exact absurd h (by decide)
  | 7, _, h => exact absurd h (by decide)
  | 8, _, h => exact absurd h (by decide)
  | 9, _, h => exact absurd h (by decide)
  | 10, _, h => exact absurd h (by decide)
  | 11, _, h => exact absurd h (by decide)
  | 12, _, h => exact absurd h (by decide)
  | 13, _, h => exact absurd h (by decide)
  | 14, _, h => exact absurd h (by decide)
  | 15, _, h => exact absurd h (by decide)
  | (n + 16), hC, _ => exact absurd hC (by omega)
theorem lbr_1 (M : Nat → Nat → Fin 5) : ∀ C, C < 16 → pc 1 = pc C → lbs M 1 C 256 = dtm M (pc 1) 1 C := by
  intro C hC h
  match C, hC, h with
  | 0, _, h => exact absurd h (by decide)
  | 1, _, _ => exact lb_1_1 M
  | 2, _, _ => exact lb_1_2 M
  | 3, _, h => exact absurd h (by decide)
  | 4, _, _ => exact lb_1_4 M
  | 5, _, h => exact absurd h (by decide)
  | 6, _, h => exact absurd h (by decide)
  | 7, _, h => exact absurd h (by decide)
  | 8, _, _ => exact lb_1_8 M
  | 9, _, h => exact absurd h (by decide)
  | 10, _, h => exact absurd h (by decide)
  | 11, _, h => exact absurd h (by decide)
  | 12, _, h => exact absurd h (by decide)
  | 13, _, h => exact absurd h (by decide)
  | 14, _, h => exact absurd h (by decide)
  | 15, _, h => exact absurd h (by decide)
  | (n + 16), hC, _ => exact absurd hC (by omega)
theorem lbr_2 (M : Nat → Nat → Fin 5) : ∀ C, C < 16 → pc 2 = pc C → lbs M 2 C 256 = dtm M (pc 2) 2 C := by
  intro C hC h
  match C, hC, h with
  | 0, _, h => exact absurd h (by decide)
  | 1, _, _ => exact lb_2_1 M
  | 2, _, _ => exact lb_2_2 M
  | 3, _, h => exact absurd h (by decide)
  | 4, _, _ => exact lb_2_4 M
  | 5, _, h => exact absurd h (by decide)
  | 6, _, h => exact absurd h (by decide)
  | 7, _, h => exact absurd h (by decide)
  | 8, _, _ => exact lb_2_8 M
  | 9, _, h => exact absurd h (by decide)
  | 10, _, h => exact absurd h (by decide)
  | 11, _, h => exact absurd h (by decide)
  | 12, _, h => exact absurd h (by decide)
  | 13, _, h => exact absurd h (by decide)
  | 14, _, h => exact absurd h (by decide)
  | 15, _, h => exact absurd h (by decide)
  | (n + 16), hC, _ => exact absurd hC (by omega)
theorem lbr_3 (M : Nat → Nat → Fin 5) : ∀ C, C < 16 → pc 3 = pc C → lbs M 3 C 256 = dtm M (pc 3) 3 C := by
  intro C hC h
  match C, hC, h with
  | 0, _, h => exact absurd h (by decide)
  | 1, _, h => exact absurd h (by decide)
  | 2, _, h => exact absurd h (by decide)
  | 3, _, _ => exact lb_3_3 M
  | 4, _, h => exact absurd h (by decide)
  | 5, _, _ => exact lb_3_5 M
  | 6, _, _ => exact lb_3_6 M
  | 7, _, h => exact absurd h (by decide)
  | 8, _, h => exact absurd h (by decide)
  | 9, _, _ => exact lb_3_9 M
  | 10, _, _ => exact lb_3_10 M
  | 11, _, h => exact absurd h (by decide)
  | 12, _, _ => exact lb_3_12 M
  | 13, _, h => exact absurd h (by decide)
  | 14, _, h => exact absurd h (by decide)
  | 15, _, h => exact absurd h (by decide)
  | (n + 16), hC, _ => exact absurd hC (by omega)
theorem lbr_4 (M : Nat → Nat → Fin 5) : ∀ C, C < 16 → pc 4 = pc C → lbs M 4 C 256 = dtm M (pc 4) 4 C := by
  intro C hC h
  match C, hC, h with
  | 0, _, h => exact absurd h (by decide)
  | 1, _, _ => exact lb_4_1 M
  | 2, _, _ => exact lb_4_2 M
  | 3, _, h => exact absurd h (by decide)
  | 4, _, _ => exact lb_4_4 M
  | 5, _, h => exact absurd h (by decide)
  | 6, _, h => exact absurd h (by decide)
  | 7, _, h => exact absurd h (by decide)
  | 8, _, _ => exact lb_4_8 M
  | 9, _, h => exact absurd h (by decide)
  | 10, _, h => exact absurd h (by decide)
  | 11, _, h => exact absurd h (by decide)
  | 12, _, h => exact absurd h (by decide)
  | 13, _, h => exact absurd h (by decide)
  | 14, _, h => exact absurd h (by decide)
  | 15, _, h => exact absurd h (by decide)
  | (n + 16), hC, _ => exact absurd hC (by omega)
theorem lbr_5 (M : Nat → Nat → Fin 5) : ∀ C, C < 16 → pc 5 = pc C → lbs M 5 C 256 = dtm M (pc 5) 5 C := by
  intro C hC h
  match C, hC, h with
  | 0, _, h => exact absurd h (by decide)
  | 1, _, h => exact absurd h (by decide)
  | 2, _, h => exact absurd h (by decide)
  | 3, _, _ => exact lb_5_3 M
  | 4, _, h => exact absurd h (by decide)
  | 5, _, _ => exact lb_5_5 M
  | 6, _, _ => exact lb_5_6 M
  | 7, _, h => exact absurd h (by decide)
  | 8, _, h => exact absurd h (by decide)
  | 9, _, _ => exact lb_5_9 M
  | 10, _, _ => exact lb_5_10 M
  | 11, _, h => exact absurd h (by decide)
  | 12, _, _ => exact lb_5_12 M
  | 13, _, h => exact absurd h (by decide)
  | 14, _, h => exact absurd h (by decide)
  | 15, _, h => exact absurd h (by decide)
  | (n + 16), hC, _ => exact absurd hC (by omega)
theorem lbr_6 (M : Nat → Nat → Fin 5) : ∀ C, C < 16 → pc 6 = pc C → lbs M 6 C 256 = dtm M (pc 6) 6 C := by
  intro C hC h
  match C, hC, h with
  | 0, _, h => exact absurd h (by decide)
  | 1, _, h => exact absurd h (by decide)
  | 2, _, h => exact absurd h (by decide)
  | 3, _, _ => exact lb_6_3 M
  | 4, _, h => exact absurd h (by decide)
  | 5, _, _ => exact lb_6_5 M
  | 6, _, _ => exact lb_6_6 M
  | 7, _, h => exact absurd h (by decide)
  | 8, _, h => exact absurd h (by decide)
  | 9, _, _ => exact lb_6_9 M
  | 10, _, _ => exact lb_6_10 M
  | 11, _, h => exact absurd h (by decide)
  | 12, _, _ => exact lb_6_12 M
  | 13, _, h => exact absurd h (by decide)
  | 14, _, h => exact absurd h (by decide)
  | 15, _, h => exact absurd h (by decide)
  | (n + 16), hC, _ => exact absurd hC (by omega)
theorem lbr_7 (M : Nat → Nat → Fin 5) : ∀ C, C < 16 → pc 7 = pc C → lbs M 7 C 256 = dtm M (pc 7) 7 C := by
  intro C hC h
  match C, hC, h with
  | 0, _, h => exact absurd h (by decide)
  | 1, _, h => exact absurd h (by decide)
  | 2, _, h => exact absurd h (by decide)
  | 3, _, h => exact absurd h (by decide)
  | 4, _, h => exact absurd h (by decide)
  | 5, _, h => exact absurd h (by decide)
  | 6, _, h => exact absurd h (by decide)
  | 7, _, _ => exact lb_7_7 M
  | 8, _, h => exact absurd h (by decide)
  | 9, _, h => exact absurd h (by decide)
  | 10, _, h => exact absurd h (by decide)
  | 11, _, _ => exact lb_7_11 M
  | 12, _, h => exact absurd h (by decide)
  | 13, _, _ => exact lb_7_13 M
  | 14, _, _ => exact lb_7_14 M
  | 15, _, h => exact absurd h (by decide)
  | (n + 16), hC, _ => exact absurd hC (by omega)
theorem lbr_8 (M : Nat → Nat → Fin 5) : ∀ C, C < 16 → pc 8 = pc C → lbs M 8 C 256 = dtm M (pc 8) 8 C := by
  intro C hC h
  match C, hC, h with
  | 0, _, h => exact absurd h (by decide)
  | 1, _, _ => exact lb_8_1 M
  | 2, _, _ => exact lb_8_2 M
  | 3, _, h => exact absurd h (by decide)
  | 4, _, _ => exact lb_8_4 M
  | 5, _, h => exact absurd h (by decide)
  | 6, _, h => exact absurd h (by decide)
  | 7, _, h => exact absurd h (by decide)
  | 8, _, _ => exact lb_8_8 M
  | 9, _, h => exact absurd h (by decide)
  | 10, _, h => exact absurd h (by decide)
  | 11, _, h => exact absurd h (by decide)
  | 12, _, h => exact absurd h (by decide)
  | 13, _, h => exact absurd h (by decide)
  | 14, _, h => exact absurd h (by decide)
  | 15, _, h => exact absurd h (by decide)
  | (n + 16), hC, _ => exact absurd hC (by omega)
theorem lbr_9 (M : Nat → Nat → Fin 5) : ∀ C, C < 16 → pc 9 = pc C → lbs M 9 C 256 = dtm M (pc 9) 9 C := by
  intro C hC h
  match C, hC, h with
  | 0, _, h => exact absurd h (by decide)
  | 1, _, h => exact absurd h (by decide)
  | 2, _, h => exact absurd h (by decide)
  | 3, _, _ => exact lb_9_3 M
  | 4, _, h => exact absurd h (by decide)
  | 5, _, _ => exact lb_9_5 M
  | 6, _, _ => exact lb_9_6 M
  | 7, _, h => exact absurd h (by decide)
  | 8, _, h => exact absurd h (by decide)
  | 9, _, _ => exact lb_9_9 M
  | 10, _, _ => exact lb_9_10 M
  | 11, _, h => exact absurd h (by decide)
  | 12, _, _ => exact lb_9_12 M
  | 13, _, h => exact absurd h (by decide)
  | 14, _, h => exact absurd h (by decide)
  | 15, _, h => exact absurd h (by decide)
  | (n + 16), hC, _ => exact absurd hC (by omega)
theorem lbr_10 (M : Nat → Nat → Fin 5) : ∀ C, C < 16 → pc 10 = pc C → lbs M 10 C 256 = dtm M (pc 10) 10 C := by
  intro C hC h
  match C, hC, h with
  | 0, _, h => exact absurd h (by decide)
  | 1, _, h => exact absurd h (by decide)
  | 2, _, h => exact absurd h (by decide)
  | 3, _, _ => exact lb_10_3 M
  | 4, _, h => exact absurd h (by decide)
  | 5, _, _ => exact lb_10_5 M
  | 6, _, _ => exact lb_10_6 M
  | 7, _, h => exact absurd h (by decide)
  | 8, _, h => exact absurd h (by decide)
  | 9, _, _ => exact lb_10_9 M
  | 10, _, _ => exact lb_10_10 M
  | 11, _, h => exact absurd h (by decide)
  | 12, _, _ => exact lb_10_12 M
  | 13, _, h => exact absurd h (by decide)
  | 14, _, h => exact absurd h (by decide)
  | 15, _, h => exact absurd h (by decide)
  | (n + 16), hC, _ => exact absurd hC (by omega)
theorem lbr_11 (M : Nat → Nat → Fin 5) : ∀ C, C < 16 → pc 11 = pc C → lbs M 11 C 256 = dtm M (pc 11) 11 C := by
  intro C hC h
  match C, hC, h with
  | 0, _, h => exact absurd h (by decide)
  | 1, _, h => exact absurd h (by decide)
  | 2, _, h => exact absurd h (by decide)
  | 3, _, h => exact absurd h (by decide)
  | 4, _, h => exact absurd h (by decide)
  | 5, _, h => exact absurd h (by decide)
  | 6, _, h => exact absurd h (by decide)
  | 7, _, _ => exact lb_11_7 M
  | 8, _, h => exact absurd h (by decide)
  | 9, _, h => exact absurd h (by decide)
  | 10, _, h => exact absurd h (by decide)
  | 11, _, _ => exact lb_11_11 M
  | 12, _, h => exact absurd h (by decide)
  | 13, _, _ => exact lb_11_13 M
  | 14, _, _ => exact lb_11_14 M
  | 15, _, h => exact absurd h (by decide)
  | (n + 16), hC, _ => exact absurd hC (by omega)
theorem lbr_12 (M : Nat → Nat → Fin 5) : ∀ C, C < 16 → pc 12 = pc C → lbs M 12 C 256 = dtm M (pc 12) 12 C := by
  intro C hC h
  match C, hC, h with
  | 0, _, h => exact absurd h (by decide)
  | 1, _, h => exact absurd h (by decide)
  | 2, _, h => exact absurd h (by decide)
  | 3, _, _ => exact lb_12_3 M
  | 4, _, h => exact absurd h (by decide)
  | 5, _, _ => exact lb_12_5 M
  | 6, _, _ => exact lb_12_6 M
  | 7, _, h => exact absurd h (by decide)
  | 8, _, h => exact absurd h (by decide)
  | 9, _, _ => exact lb_12_9 M
  | 10, _, _ => exact lb_12_10 M
  | 11, _, h => exact absurd h (by decide)
  | 12, _, _ => exact lb_12_12 M
  | 13, _, h => exact absurd h (by decide)
  | 14, _, h => exact absurd h (by decide)
  | 15, _, h => exact absurd h (by decide)
  | (n + 16), hC, _ => exact absurd hC (by omega)
theorem lbr_13 (M : Nat → Nat → Fin 5) : ∀ C, C < 16 → pc 13 = pc C → lbs M 13 C 256 = dtm M (pc 13) 13 C := by
  intro C hC h
  match C, hC, h with
  | 0, _, h => exact absurd h (by decide)
  | 1, _, h => exact absurd h (by decide)
  | 2, _, h => exact absurd h (by decide)
  | 3, _, h => exact absurd h (by decide)
  | 4, _, h => exact absurd h (by decide)
  | 5, _, h => exact absurd h (by decide)
  | 6, _, h => exact absurd h (by decide)
  | 7, _, _ => exact lb_13_7 M
  | 8, _, h => exact absurd h (by decide)
  | 9, _, h => exact absurd h (by decide)
  | 10, _, h => exact absurd h (by decide)
  | 11, _, _ => exact lb_13_11 M
  | 12, _, h => exact absurd h (by decide)
  | 13, _, _ => exact lb_13_13 M
  | 14, _, _ => exact lb_13_14 M
  | 15, _, h => exact absurd h (by decide)
  | (n + 16), hC, _ => exact absurd hC (by omega)
theorem lbr_14 (M : Nat → Nat → Fin 5) : ∀ C, C < 16 → pc 14 = pc C → lbs M 14 C 256 = dtm M (pc 14) 14 C := by
  intro C hC h
  match C, hC, h with
  | 0, _, h => exact absurd h (by decide)
  | 1, _, h => exact absurd h (by decide)
  | 2, _, h => exact absurd h (by decide)
  | 3, _, h => exact absurd h (by decide)
  | 4, _, h => exact absurd h (by decide)
  | 5, _, h => exact absurd h (by decide)
  | 6, _, h => exact absurd h (by decide)
  | 7, _, _ => exact lb_14_7 M
  | 8, _, h => exact absurd h (by decide)
  | 9, _, h => exact absurd h (by decide)
  | 10, _, h => exact absurd h (by decide)
  | 11, _, _ => exact lb_14_11 M
  | 12, _, h => exact absurd h (by decide)
  | 13, _, _ => exact lb_14_13 M
  | 14, _, _ => exact lb_14_14 M
  | 15, _, h => exact absurd h (by decide)
  | (n + 16), hC, _ => exact absurd hC (by omega)
theorem lbr_15 (M : Nat → Nat → Fin 5) : ∀ C, C < 16 → pc 15 = pc C → lbs M 15 C 256 = dtm M (pc 15) 15 C := by
  intro C hC h
  match C, hC, h with
  | 0, _, h => exact absurd h (by decide)
  | 1, _, h => exact absurd h (by decide)
  | 2, _, h => exact absurd h (by decide)
  | 3, _, h => exact absurd h (by decide)
  | 4, _, h => exact absurd h (by decide)
  | 5, _, h => exact absurd h (by decide)
  | 6, _, h => exact absurd h (by decide)
  | 7, _, h => exact absurd h (by decide)
  | 8, _, h => exact absurd h (by decide)
  | 9, _, h => exact absurd h (by decide)
  | 10, _, h => exact absurd h (by decide)
  | 11, _, h => exact absurd h (by decide)
  | 12, _, h => exact absurd h (by decide)
  | 13, _, h => exact absurd h (by decide)
  | 14, _, h => exact absurd h (by decide)
  | 15, _, _ => exact lb_15_15 M
  | (n + 16), hC, _ => exact absurd hC (by omega)
theorem lb_all (M : Nat → Nat → Fin 5) : ∀ R, R < 16 → ∀ C, C < 16 → pc R = pc C → lbs M R C 256 = dtm M (pc R) R C := by
  intro R hR
  match R, hR with
  | 0, _ => exact lbr_0 M
  | 1, _ => exact lbr_1 M
  | 2, _ => exact lbr_2 M
  | 3, _ => exact lbr_3 M
  | 4, _ => exact lbr_4 M
  | 5, _ => exact lbr_5 M
  | 6, _ => exact lbr_6 M
  | 7, _ => exact lbr_7 M
  | 8, _ => exact lbr_8 M
  | 9, _ => exact lbr_9 M
  | 10, _ => exact lbr_10 M
  | 11, _ => exact lbr_11 M
  | 12, _ => exact lbr_12 M
  | 13, _ => exact lbr_13 M
  | 14, _ => exact lbr_14 M
  | 15, _ => exact lbr_15 M
  | (n + 16), hR => exact absurd hR (by omega)
end
section
/-! evaluation of both sides' minors; polynomials of degree 4 by their five values -/
def Mw (A : Nat → Nat → Nat) (w : Fin 5) : Nat → Nat → Fin 5 := fun i j => (if i = j then w else 0) - kk (A i j)
theorem ev_lin (p q : Nat → Fin 5) (s w : Fin 5) : ev (fun k => p k + s * q k) w = ev p w + s * ev q w := by
  unfold ev; grind
theorem ev_px (p : Nat → Fin 5) (w : Fin 5) (h : p 4 = 0) : ev (px p) w = w * ev p w := by
  unfold ev
  show 0 + w * (p 0 + w * (p 1 + w * (p 2 + w * p 3))) = _
  rw [h]; grind
theorem ev_cong {p q : Nat → Fin 5} (w : Fin 5) (h : ∀ k, k < 5 → p k = q k) : ev p w = ev q w := by
  unfold ev
  rw [h 0 (by decide), h 1 (by decide), h 2 (by decide), h 3 (by decide), h 4 (by decide)]
theorem lapP_z (q : Nat → Nat → Fin 5) (C k : Nat) (h : ∀ i, q i k = 0) : ∀ i, (lapP q C i).1 k = 0 := by
  intro i
  induction i with
  | zero => rfl
  | succ i ih =>
    show (if C / 2 ^ i % 2 = 1 then (fun k => (lapP q C i).1 k + (lapP q C i).2 * q i k, - (lapP q C i).2) else lapP q C i).1 k = 0
    split
    · show (lapP q C i).1 k + (lapP q C i).2 * q i k = 0
      rw [ih, h i]; grind
    · exact ih
theorem dtp_hi (A : Nat → Nat → Nat) : ∀ f R C k, f < k → dtp A f R C k = 0 := by
  intro f
  induction f with
  | zero =>
    intro R C k hk
    show (if k = 0 then 1 else 0 : Fin 5) = 0
    rw [if_neg (by omega)]
  | succ f ih =>
    intro R C k hk
    refine lapP_z _ C k ?_ 4
    intro i
    show (if lo R = i then px (dtp A f (rs R) (C - 2 ^ i)) k else 0) - kk (A (lo R) i) * dtp A f (rs R) (C - 2 ^ i) k = 0
    rw [ih _ _ k (by omega)]
    obtain ⟨k', rfl⟩ : ∃ k', k = k' + 1 := ⟨k - 1, by omega⟩
    rw [show px (dtp A f (rs R) (C - 2 ^ i)) (k' + 1) = dtp A f (rs R) (C - 2 ^ i) k' from rfl, ih _ _ k' (by omega)]
    split <;> grind
theorem lap_ev (q : Nat → Nat → Fin 5) (C : Nat) (w : Fin 5) : ∀ i, ev (lapP q C i).1 w = (lapM (fun i => ev (q i) w) C i).1 ∧ (lapP q C i).2 = (lapM (fun i => ev (q i) w) C i).2 := by
  intro i
  induction i with
  | zero => exact ⟨by unfold ev; show (0 : Fin 5) + w * (0 + w * (0 + w * (0 + w * 0))) = 0; grind, rfl⟩
  | succ i ih =>
    obtain ⟨h1, h2⟩ := ih
    show ev (if C / 2 ^ i % 2 = 1 then (fun k => (lapP q C i).1 k + (lapP q C i).2 * q i k, - (lapP q C i).2) else lapP q C i).1 w = (if C / 2 ^ i % 2 = 1 then ((lapM (fun i => ev (q i) w) C i).1 + (lapM (fun i => ev (q i) w) C i).2 * ev (q i) w, - (lapM (fun i => ev (q i) w) C i).2) else lapM (fun i => ev (q i) w) C i).1 ∧ (if C / 2 ^ i % 2 = 1 then (fun k => (lapP q C i).1 k + (lapP q C i).2 * q i k, - (lapP q C i).2) else lapP q C i).2 = (if C / 2 ^ i % 2 = 1 then ((lapM (fun i => ev (q i) w) C i).1 + (lapM (fun i => ev (q i) w) C i).2 * ev (q i) w, - (lapM (fun i => ev (q i) w) C i).2) else lapM (fun i => ev (q i) w) C i).2
    split
    · refine ⟨?_, ?_⟩
      · show ev (fun k => (lapP q C i).1 k + (lapP q C i).2 * q i k) w = (lapM (fun i => ev (q i) w) C i).1 + (lapM (fun i => ev (q i) w) C i).2 * ev (q i) w
        rw [ev_lin, h1, h2]
      · show - (lapP q C i).2 = - (lapM (fun i => ev (q i) w) C i).2
        rw [h2]
    · exact ⟨h1, h2⟩
theorem dtp_ev (A : Nat → Nat → Nat) (w : Fin 5) : ∀ f R C, f ≤ 4 → ev (dtp A f R C) w = dtm (Mw A w) f R C := by
  intro f
  induction f with
  | zero =>
    intro R C _
    show ev (fun k => if k = 0 then 1 else 0) w = 1
    unfold ev
    show (1 : Fin 5) + w * (0 + w * (0 + w * (0 + w * 0))) = 1
    grind
  | succ f ih =>
    intro R C hf
    show ev (lapP _ C 4).1 w = (lapM _ C 4).1
    rw [(lap_ev _ C w 4).1]
    have : (fun i => ev ((fun i k => (if lo R = i then px (dtp A f (rs R) (C - 2 ^ i)) k else 0) - kk (A (lo R) i) * dtp A f (rs R) (C - 2 ^ i) k) i) w) = (fun i => Mw A w (lo R) i * dtm (Mw A w) f (rs R) (C - 2 ^ i)) := by
      funext i
      show ev (fun k => (if lo R = i then px (dtp A f (rs R) (C - 2 ^ i)) k else 0) - kk (A (lo R) i) * dtp A f (rs R) (C - 2 ^ i) k) w = ((if lo R = i then w else 0) - kk (A (lo R) i)) * dtm (Mw A w) f (rs R) (C - 2 ^ i)
      rw [← ih (rs R) (C - 2 ^ i) (by omega)]
      have h4 := dtp_hi A f (rs R) (C - 2 ^ i) 4 (by omega)
      generalize dtp A f (rs R) (C - 2 ^ i) = d at *
      split
      · have e1 : ev (fun k => px d k - kk (A (lo R) i) * d k) w = ev (px d) w + (- kk (A (lo R) i)) * ev d w := by
          rw [← ev_lin]
          refine ev_cong w (fun k _ => ?_)
          grind
        rw [e1, ev_px d w h4]
        grind
      · have e1 : ev (fun k => 0 - kk (A (lo R) i) * d k) w = ev (fun _ => 0) w + (- kk (A (lo R) i)) * ev d w := by
          rw [← ev_lin]
          refine ev_cong w (fun k _ => ?_)
          grind
        have e2 : ev (fun _ => 0) w = 0 := by
          unfold ev; grind
        rw [e1, e2]
        grind
    rw [this]
theorem tmS_hi (A : Nat → Nat → Nat) (code R : Nat) : ∀ i k, i < k → tmS A code R true i k = 0 := by
  intro i
  induction i with
  | zero =>
    intro k hk
    show (if k = 0 then _ else 0) = (0 : Fin 5)
    rw [if_neg (by omega)]
  | succ i ih =>
    intro k hk
    show (if R / 2 ^ i % 2 = 1 then fun k => tmS A code R true i k * (if true = true then - kk (A i (cd code i)) else kk (A i (cd code i))) + (if true = true ∧ i = cd code i then px (tmS A code R true i) k else 0) else tmS A code R true i) k = 0
    obtain ⟨k', rfl⟩ : ∃ k', k = k' + 1 := ⟨k - 1, by omega⟩
    split
    · show tmS A code R true i (k' + 1) * _ + (if true = true ∧ i = cd code i then tmS A code R true i k' else 0) = 0
      rw [ih _ (by omega), ih k' (by omega)]
      split <;> grind
    · exact ih _ (by omega)
theorem tmS_ev (A : Nat → Nat → Nat) (code R : Nat) (w : Fin 5) : ∀ i, i ≤ 4 → ev (tmS A code R true i) w = prd (Mw A w) code R i := by
  intro i
  induction i with
  | zero =>
    intro _
    show ev (fun k => if k = 0 then (if sws code R % 2 = 1 then 4 else 1) else 0) w = (if sws code R % 2 = 1 then 4 else 1)
    unfold ev
    show (if sws code R % 2 = 1 then 4 else 1 : Fin 5) + w * (0 + w * (0 + w * (0 + w * 0))) = _
    grind
  | succ i ih =>
    intro hi
    have h4 := tmS_hi A code R i 4 (by omega)
    have hh := ih (by omega)
    show ev (if R / 2 ^ i % 2 = 1 then fun k => tmS A code R true i k * (if true = true then - kk (A i (cd code i)) else kk (A i (cd code i))) + (if true = true ∧ i = cd code i then px (tmS A code R true i) k else 0) else tmS A code R true i) w = (if R / 2 ^ i % 2 = 1 then prd (Mw A w) code R i * ((if i = cd code i then w else 0) - kk (A i (cd code i))) else prd (Mw A w) code R i)
    rw [← hh]
    generalize tmS A code R true i = d at *
    split
    · by_cases e : i = cd code i
      · have e1 : ev (fun k => d k * (if true = true then - kk (A i (cd code i)) else kk (A i (cd code i))) + (if true = true ∧ i = cd code i then px d k else 0)) w = ev (px d) w + (- kk (A i (cd code i))) * ev d w := by
          rw [← ev_lin]
          refine ev_cong w (fun k _ => ?_)
          rw [if_pos rfl, if_pos ⟨rfl, e⟩]
          grind
        rw [e1, ev_px d w h4, if_pos e]
        grind
      · have e1 : ev (fun k => d k * (if true = true then - kk (A i (cd code i)) else kk (A i (cd code i))) + (if true = true ∧ i = cd code i then px d k else 0)) w = ev (fun _ => 0) w + (- kk (A i (cd code i))) * ev d w := by
          rw [← ev_lin]
          refine ev_cong w (fun k _ => ?_)
          rw [if_pos rfl, if_neg (fun z => e z.2)]
          grind
        have e2 : ev (fun _ => 0) w = 0 := by
          unfold ev; grind
        rw [e1, e2, if_neg e]
        grind
    · rfl
theorem tmS_f (A : Nat → Nat → Nat) (code R : Nat) : ∀ i, tmS A code R false i 0 = prd (fun i j => kk (A i j)) code R i ∧ ∀ k, 0 < k → tmS A code R false i k = 0 := by
  intro i
  induction i with
  | zero =>
    refine ⟨rfl, ?_⟩
    intro k hk
    show (if k = 0 then _ else 0) = (0 : Fin 5)
    rw [if_neg (by omega)]
  | succ i ih =>
    obtain ⟨h1, h2⟩ := ih
    have nf : ¬ (false = true ∧ i = cd code i) := fun z => by cases z.1
    refine ⟨?_, ?_⟩
    · show (if R / 2 ^ i % 2 = 1 then fun k => tmS A code R false i k * (if false = true then - kk (A i (cd code i)) else kk (A i (cd code i))) + (if false = true ∧ i = cd code i then px (tmS A code R false i) k else 0) else tmS A code R false i) 0 = (if R / 2 ^ i % 2 = 1 then prd (fun i j => kk (A i j)) code R i * kk (A i (cd code i)) else prd (fun i j => kk (A i j)) code R i)
      split
      · show tmS A code R false i 0 * (if false = true then - kk (A i (cd code i)) else kk (A i (cd code i))) + (if false = true ∧ i = cd code i then px (tmS A code R false i) 0 else 0) = _
        rw [if_neg (show ¬ false = true by decide), if_neg nf, h1]
        grind
      · exact h1
    · intro k hk
      show (if R / 2 ^ i % 2 = 1 then fun k => tmS A code R false i k * (if false = true then - kk (A i (cd code i)) else kk (A i (cd code i))) + (if false = true ∧ i = cd code i then px (tmS A code R false i) k else 0) else tmS A code R false i) k = 0
      split
      · show tmS A code R false i k * (if false = true then - kk (A i (cd code i)) else kk (A i (cd code i))) + (if false = true ∧ i = cd code i then px (tmS A code R false i) k else 0) = _
        rw [if_neg (show ¬ false = true by decide), if_neg nf, h2 k hk]
        grind
      · exact h2 k hk
theorem mnS_ev (A : Nat → Nat → Nat) (R C : Nat) (w : Fin 5) : ∀ n, ev (mnS A R C true n) w = lbs (Mw A w) R C n := by
  intro n
  induction n with
  | zero => unfold ev; show (0 : Fin 5) + w * (0 + w * (0 + w * (0 + w * 0))) = 0; grind
  | succ n ih =>
    show ev (if wyl n R C 4 0 = true then fun k => mnS A R C true n k + tmS A n R true 4 k else mnS A R C true n) w = (if wyl n R C 4 0 = true then lbs (Mw A w) R C n + prd (Mw A w) n R 4 else lbs (Mw A w) R C n)
    split
    · rw [← ih, ← tmS_ev A n R w 4 (by omega)]
      have := ev_lin (mnS A R C true n) (tmS A n R true 4) 1 w
      rw [← (show ev (fun k => mnS A R C true n k + 1 * tmS A n R true 4 k) w = ev (fun k => mnS A R C true n k + tmS A n R true 4 k) w from ev_cong w (fun k _ => by grind)), this]
      grind
    · exact ih
theorem mnS_f (A : Nat → Nat → Nat) (R C : Nat) : ∀ n, mnS A R C false n 0 = lbs (fun i j => kk (A i j)) R C n ∧ ∀ k, 0 < k → mnS A R C false n k = 0 := by
  intro n
  induction n with
  | zero => exact ⟨rfl, fun _ _ => rfl⟩
  | succ n ih =>
    obtain ⟨h1, h2⟩ := ih
    refine ⟨?_, ?_⟩
    · show (if wyl n R C 4 0 = true then fun k => mnS A R C false n k + tmS A n R false 4 k else mnS A R C false n) 0 = (if wyl n R C 4 0 = true then lbs (fun i j => kk (A i j)) R C n + prd (fun i j => kk (A i j)) n R 4 else lbs (fun i j => kk (A i j)) R C n)
      split
      · rw [← h1, ← (tmS_f A n R 4).1]
      · exact h1
    · intro k hk
      show (if wyl n R C 4 0 = true then fun k => mnS A R C false n k + tmS A n R false 4 k else mnS A R C false n) k = 0
      split
      · show mnS A R C false n k + tmS A n R false 4 k = 0
        rw [h2 k hk, (tmS_f A n R 4).2 k hk]; rfl
      · exact h2 k hk
theorem ip5 : ∀ p : Fin 5, ∀ q : Fin 5, ∀ r : Fin 5, ∀ s : Fin 5, ∀ t : Fin 5, (∀ w : Fin 5, p + w * (q + w * (r + w * (s + w * t))) = 0) → p = 0 ∧ q = 0 ∧ r = 0 ∧ s = 0 ∧ t = 0 := by decide +kernel
theorem ev_inj {p q : Nat → Fin 5} (h : ∀ w, ev p w = ev q w) : ∀ k, k < 5 → p k = q k := by
  have := ip5 (p 0 - q 0) (p 1 - q 1) (p 2 - q 2) (p 3 - q 3) (p 4 - q 4) (fun w => by
    have := h w
    unfold ev at this
    grind)
  obtain ⟨h0, h1, h2, h3, h4⟩ := this
  intro k hk
  match k, hk with
  | 0, _ => grind
  | 1, _ => grind
  | 2, _ => grind
  | 3, _ => grind
  | 4, _ => grind
theorem mn_dt (A : Nat → Nat → Nat) {R C : Nat} (hR : R < 16) (hC : C < 16) (h : pc R = pc C) : ∀ k, k < 5 → mnS A R C true 256 k = dtp A (pc R) R C k := by
  refine ev_inj (fun w => ?_)
  rw [mnS_ev, dtp_ev _ _ _ _ _ (pc4 R hR)]
  exact lb_all _ R hR C hC h
theorem mn_df (A : Nat → Nat → Nat) {R C : Nat} (hR : R < 16) (hC : C < 16) (h : pc R = pc C) : mnS A R C false 256 0 = dtm (fun i j => kk (A i j)) (pc R) R C := by
  rw [(mnS_f A R C 256).1]
  exact lb_all _ R hR C hC h
end
section
/-! characteristic, determinant -/
theorem pc_all : ∀ N, N < 5 → pc (2 ^ N - 1) = N ∧ 2 ^ N - 1 < 2 ^ N := by decide +kernel
theorem zall {N : Nat} (hN : N ≤ 4) : ((1 : Int32) <<< (nI N &&& 31)) - 1 = nI (2 ^ N - 1) := by
  rw [zshl (by omega), zs1 (Nat.two_pow_pos _)]
/-- the characteristic polynomial's coefficients -/
abbrev chp (A : Nat → Nat → Nat) (N : Nat) : Nat → Fin 5 := dtp A N (2 ^ N - 1) (2 ^ N - 1)
theorem xs_char {post : Int32 → SX → Prop} {N s : Nat} {c m f : Nat → Nat} (hN : N ≤ 4) (hs : s < 7) (hc : ∀ j, c j < 5)
    (H : ∀ (m' : Nat → Nat) (p : Nat), p < 5 ^ (N + 1) → (∀ k, k < 5 → pd p k = chp (zSl c N s) N k) → post (nI p) (zX N c m' f)) :
    wpX_characteristicOf post (zX N c m f) (nI s) := by
  obtain ⟨w1, w2⟩ := pw2 N (by omega)
  obtain ⟨a1, a2⟩ := pc_all N (by omega)
  unfold wpX_characteristicOf; dsimp only
  refine xs_findMinors hN hs hc ?_
  intro m' hm
  obtain ⟨o1, o2⟩ := hm (2 ^ N - 1) (2 ^ N - 1) a2 a2 rfl
  rw [a1] at o1 o2
  refine nm_r (zall hN) ⟨?_, ?_⟩
  · rw [z16m, nI_add]; exact vp_in_nI (by omega) (by decide)
  · rw [z16m, nI_add, nI_clamp (by omega)]
    exact H m' _ o1 o2
def hrn (a : Nat → Nat) : Nat → Nat → Nat
  | 0, p => p
  | d + 1, p => hrn a d (5 * p + a d)
theorem hrn5 (a : Nat → Nat) : hrn a 5 0 = a 0 + a 1 * 5 + a 2 * 25 + a 3 * 125 + a 4 * 625 := by
  show 5 * (5 * (5 * (5 * (5 * 0 + a 4) + a 3) + a 2) + a 1) + a 0 = _
  omega
theorem hrn_pd {a : Nat → Nat} (h : ∀ k, k < 5 → a k < 5) : hrn a 5 0 < 3125 ∧ ∀ k, k < 5 → pd (hrn a 5 0) k = kk (a k) := by
  have h0 := h 0 (by decide); have h1 := h 1 (by decide); have h2 := h 2 (by decide); have h3 := h 3 (by decide); have h4 := h 4 (by decide)
  rw [hrn5]
  refine ⟨by omega, ?_⟩
  intro k hk
  unfold pd
  rw [← kk_mod, dig5 h0 h1 h2 h3 h4 k hk]
  match k, hk with
  | 0, _ => rfl
  | 1, _ => rfl
  | 2, _ => rfl
  | 3, _ => rfl
  | 4, _ => rfl
theorem ys_val27 {post : Int32 → SY → Prop} {N : Nat} {g : Nat → Nat} {mn te dv ot fc kp rw : Nat → Nat} (hm : ∀ k, k < 5 → mn k < 5) (H : post (nI (hrn mn 5 0)) (zY N g mn te dv ot fc kp rw)) :
    ∃ n27, wY_value_27 post (nI N) (zA g) (zA mn) (zA te) (zA dv) (zA ot) (zA fc) (zA kp) (zA rw) n27 0 4 := by
  have main : ∀ d p, d ≤ 5 → p < 5 ^ (5 - d) → post (nI (hrn mn d p)) (zY N g mn te dv ot fc kp rw) → wY_value_27 post (nI N) (zA g) (zA mn) (zA te) (zA dv) (zA ot) (zA fc) (zA kp) (zA rw) (d + 1) (nI p) (nI d - 1) := by
    intro d
    induction d with
    | zero =>
      intro p _ _ h
      exact br_t (by decide) h
    | succ d ih =>
      intro p hd hp h
      have md := hm d (by omega)
      have e : 5 - d = (5 - (d + 1)) + 1 := by omega
      have hp5 : 5 * p + mn d < 5 ^ (5 - d) := by
        rw [e, Nat.pow_succ]; omega
      rw [nI_pred]
      refine br_f (nI_pos (by omega)) ⟨vp_in_nI (by omega) (by decide), nm_r (e' := nI (5 * p + mn d)) ?_ (nm_r (e' := nI d - 1) (Int32.sub_eq_add_neg _ _).symm (ih _ (by omega) hp5 h))⟩
      rw [z5m, nI_clamp (by omega), zA_at, nI_add]
  exact ⟨6, main 5 0 (by omega) (by decide) H⟩
theorem ys_value {post : Int32 → SY → Prop} {N s : Nat} {x : Bool} {g : Nat → Nat} {mn te dv ot fc kp rw : Nat → Nat} (hN : N ≤ 4) (hs : s < 5) (hg : ∀ j, g j < 5)
    (H : ∀ (mn' te' : Nat → Nat) (p : Nat), p < 3125 → (∀ k, k < 5 → pd p k = mnS (zSl g N s) (2 ^ N - 1) (2 ^ N - 1) x 256 k) → post (nI p) (zY N g mn' te' dv ot fc kp rw)) :
    wpY_value post (zY N g mn te dv ot fc kp rw) (nI s) (if x then 1 else 0) := by
  obtain ⟨a1, a2⟩ := pc_all N (by omega)
  unfold wpY_value; dsimp only
  rw [zall hN]
  refine ys_findMinor hN hs hg a2 a2 ?_
  intro mn' te' h1 h2
  refine ys_val27 h1 ?_
  obtain ⟨q1, q2⟩ := hrn_pd h1
  refine H mn' te' _ q1 ?_
  intro k hk
  rw [q2 k hk, h2 k hk]
theorem ys_char {post : Int32 → SY → Prop} {N s : Nat} {g : Nat → Nat} {mn te dv ot fc kp rw : Nat → Nat} (hN : N ≤ 4) (hs : s < 5) (hg : ∀ j, g j < 5)
    (H : ∀ (mn' te' : Nat → Nat) (p : Nat), p < 3125 → (∀ k, k < 5 → pd p k = chp (zSl g N s) N k) → post (nI p) (zY N g mn' te' dv ot fc kp rw)) :
    wpY_value post (zY N g mn te dv ot fc kp rw) (nI s) 1 := by
  obtain ⟨a1, a2⟩ := pc_all N (by omega)
  obtain ⟨w1, w2⟩ := pw2 N (by omega)
  refine ys_value (x := true) hN hs hg ?_
  intro mn' te' p h1 h2
  refine H mn' te' p h1 ?_
  intro k hk
  rw [h2 k hk, mn_dt _ (by omega) (by omega) rfl k hk, a1]
/-- the determinant -/
abbrev dtA (A : Nat → Nat → Nat) (N : Nat) : Fin 5 := dtm (fun i j => kk (A i j)) N (2 ^ N - 1) (2 ^ N - 1)
theorem ys_det {post : Int32 → SY → Prop} {N s : Nat} {g : Nat → Nat} {mn te dv ot fc kp rw : Nat → Nat} (hN : N ≤ 4) (hs : s < 5) (hg : ∀ j, g j < 5)
    (H : ∀ (mn' te' : Nat → Nat), post (nI (dtA (zSl g N s) N).val) (zY N g mn' te' dv ot fc kp rw)) :
    wpY_value post (zY N g mn te dv ot fc kp rw) (nI s) 0 := by
  obtain ⟨a1, a2⟩ := pc_all N (by omega)
  obtain ⟨w1, w2⟩ := pw2 N (by omega)
  refine ys_value (x := false) hN hs hg ?_
  intro mn' te' p h1 h2
  have e : p = (dtA (zSl g N s) N).val := by
    have e0 := h2 0 (by decide)
    have ek : ∀ k, 1 ≤ k → k < 5 → pd p k = 0 := fun k k1 k5 => by rw [h2 k k5]; exact (mnS_f _ _ _ 256).2 k k1
    have hp5 : p < 5 ^ 1 := pd_ltp h1 (by decide) ek
    rw [mn_df _ (by omega) (by omega) rfl, a1] at e0
    have := congrArg Fin.val e0
    rw [pd_v, Nat.pow_zero, Nat.div_one] at this
    rw [← this]
    have : (5 : Nat) ^ 1 = 5 := rfl
    omega
  rw [e]; exact H mn' te'
def spw (s : Fin 5) : Nat → Fin 5
  | 0 => 1
  | f + 1 => s * spw s f
theorem lapM_s (h : Nat → Fin 5) (C : Nat) (s : Fin 5) : ∀ i, (lapM (fun i => s * h i) C i).1 = s * (lapM h C i).1 ∧ (lapM (fun i => s * h i) C i).2 = (lapM h C i).2 := by
  intro i
  induction i with
  | zero => exact ⟨by show (0 : Fin 5) = s * 0; grind, rfl⟩
  | succ i ih =>
    obtain ⟨h1, h2⟩ := ih
    show (if C / 2 ^ i % 2 = 1 then ((lapM (fun i => s * h i) C i).1 + (lapM (fun i => s * h i) C i).2 * (s * h i), - (lapM (fun i => s * h i) C i).2) else lapM (fun i => s * h i) C i).1 = s * (if C / 2 ^ i % 2 = 1 then ((lapM h C i).1 + (lapM h C i).2 * h i, - (lapM h C i).2) else lapM h C i).1 ∧ (if C / 2 ^ i % 2 = 1 then ((lapM (fun i => s * h i) C i).1 + (lapM (fun i => s * h i) C i).2 * (s * h i), - (lapM (fun i => s * h i) C i).2) else lapM (fun i => s * h i) C i).2 = (if C / 2 ^ i % 2 = 1 then ((lapM h C i).1 + (lapM h C i).2 * h i, - (lapM h C i).2) else lapM h C i).2
    split
    · refine ⟨?_, ?_⟩
      · show (lapM (fun i => s * h i) C i).1 + (lapM (fun i => s * h i) C i).2 * (s * h i) = s * ((lapM h C i).1 + (lapM h C i).2 * h i)
        rw [h1, h2]; grind
      · show - (lapM (fun i => s * h i) C i).2 = - (lapM h C i).2
        rw [h2]
    · exact ⟨h1, h2⟩
theorem dtm_s (M : Nat → Nat → Fin 5) (s : Fin 5) : ∀ f R C, dtm (fun i j => s * M i j) f R C = spw s f * dtm M f R C := by
  intro f
  induction f with
  | zero => intro R C; show (1 : Fin 5) = 1 * 1; rfl
  | succ f ih =>
    intro R C
    show (lapM (fun i => (s * M (lo R) i) * dtm (fun i j => s * M i j) f (rs R) (C - 2 ^ i)) C 4).1 = (s * spw s f) * (lapM (fun i => M (lo R) i * dtm M f (rs R) (C - 2 ^ i)) C 4).1
    have e : (fun i => (s * M (lo R) i) * dtm (fun i j => s * M i j) f (rs R) (C - 2 ^ i)) = (fun i => (s * spw s f) * (M (lo R) i * dtm M f (rs R) (C - 2 ^ i))) := by
      funext i
      rw [ih]; grind
    rw [e, (lapM_s _ _ _ _).1]
theorem ch_0 (A : Nat → Nat → Nat) {N : Nat} (hN : N ≤ 4) : chp A N 0 = spw 4 N * dtA A N := by
  have h := dtp_ev A 0 N (2 ^ N - 1) (2 ^ N - 1) hN
  have e : ev (chp A N) 0 = chp A N 0 := by unfold ev; grind
  rw [← e, h, ← dtm_s]
  have : Mw A 0 = (fun i j => 4 * kk (A i j)) := by
    funext i j
    show (if i = j then (0 : Fin 5) else 0) - kk (A i j) = 4 * kk (A i j)
    split <;> grind
  rw [this]
theorem det_X {N : Nat} (hN : N ≤ 4) (x d : Fin 5) (h : x = spw 4 N * d) : (if N % 2 = 0 then x.val else (5 - x.val) % 5) = d.val := by
  subst h
  match N, hN with
  | 0, _ => revert d; decide
  | 1, _ => revert d; decide
  | 2, _ => revert d; decide
  | 3, _ => revert d; decide
  | 4, _ => revert d; decide
theorem zrel {N r : Nat} {c g : Nat → Nat} (h : ∀ r t, r < 4 → t < N * N → c (16 * r + t) = g (16 * r + t)) (hr : r < 4) : zSl c N r = zSl g N r := zSl_eq (fun t ht => h r t hr ht)
theorem i_vc_characteristic {k : Nat} {u : SX} {v : SY} (I : i_Rel k u v) (hk : k + 5 ≤ 2561) (v1 : Int32) : wpX_characteristic (fun r u' => wpY_characteristic (fun r' v' => r' = r ∧ i_Rel (k + 5) u' v') v v1) u v1 := by
  obtain ⟨N, c, m, f, g, mn, te, dv, ot, fc, kp, rw, rfl, rfl, h1, h4, hc, hg, h⟩ := I
  unfold wpX_characteristic wpY_characteristic; dsimp only
  rcases zout v1 (n := 4) (by decide) with ⟨r, hr, rfl⟩ | o1
  · refine xr_ok hr (br_f zf1 (xs_char h4 (by omega) hc ?_))
    intro m' p p1 p2
    refine yr_ok hr (br_f zf1 (ys_char h4 (by omega) hg ?_))
    intro mn' te' p' q1 q2
    refine ⟨?_, zR h1 h4 hc hg h⟩
    have : (5 : Nat) ^ (N + 1) ≤ 5 ^ 5 := Nat.pow_le_pow_right (by decide) (by omega)
    have : (5 : Nat) ^ 5 = 3125 := rfl
    rw [pd_inj q1 (show p < 3125 by omega) (fun k hk => by rw [q2 k hk, p2 k hk, zrel h hr])]
  · exact xr_no o1 (br_t rfl (yr_no o1 (br_t rfl ⟨rfl, zR h1 h4 hc hg h⟩)))
theorem i_vc_determinant {k : Nat} {u : SX} {v : SY} (I : i_Rel k u v) (hk : k + 5 ≤ 2561) (v1 : Int32) : wpX_determinant (fun r u' => wpY_determinant (fun r' v' => r' = r ∧ i_Rel (k + 5) u' v') v v1) u v1 := by
  obtain ⟨N, c, m, f, g, mn, te, dv, ot, fc, kp, rw, rfl, rfl, h1, h4, hc, hg, h⟩ := I
  unfold wpX_determinant wpY_determinant; dsimp only
  rcases zout v1 (n := 4) (by decide) with ⟨r, hr, rfl⟩ | o1
  · refine xr_ok hr (br_f zf1 (xs_char h4 (by omega) hc ?_))
    intro m' p p1 p2
    have : (5 : Nat) ^ (N + 1) ≤ 5 ^ 5 := Nat.pow_le_pow_right (by decide) (by omega)
    have h55 : (5 : Nat) ^ 5 = 3125 := rfl
    have e0 := p2 0 (by decide)
    rw [ch_0 _ h4, zrel h hr] at e0
    have ev0 : (pd p 0).val = p % 5 := by rw [pd_v, Nat.pow_zero, Nat.div_one]
    have key := det_X h4 _ _ e0
    rw [ev0] at key
    have fin : ∀ q : Nat, q = (dtA (zSl g N r) N).val → wpY_determinant (fun r' v' => r' = nI q ∧ i_Rel (k + 5) (zX N c m' f) v') (zY N g mn te dv ot fc kp rw) (nI r) := by
      intro q hq
      unfold wpY_determinant; dsimp only
      refine yr_ok hr (br_f zf1 (ys_det h4 (by omega) hg ?_))
      intro mn' te'
      exact ⟨by rw [hq], zR h1 h4 hc hg h⟩
    refine ⟨zf5, nm_r (z5r (by omega)) ⟨zf2, ?_⟩⟩
    rw [z2r (by omega)]
    refine pk_eq (N % 2) 0 ?_ ?_
    · intro e
      rw [if_pos e] at key
      exact fin (p % 5) key
    · intro e
      rw [if_neg e] at key
      refine ⟨zf5, ?_⟩
      rw [z5s (by omega), z5r (by omega)]
      exact fin _ key
  · exact xr_no o1 (br_t rfl (yr_no o1 (br_t rfl ⟨rfl, zR h1 h4 hc hg h⟩)))
end
section
/-! the adjugate is a polynomial of the matrix -/
theorem ch1 (A : Nat → Nat → Nat) : chp A 1 1 = 1 := by
  simp [chp, dtp, lapP, px, lo, rs]
  grind
theorem ch2 (A : Nat → Nat → Nat) : chp A 2 2 = 1 ∧ chp A 2 1 = - (kk (A 0 0) + kk (A 1 1)) := by
  simp [chp, dtp, lapP, px, lo, rs]
  grind
theorem ch3 (A : Nat → Nat → Nat) : chp A 3 3 = 1 ∧ chp A 3 2 = - (kk (A 0 0) + kk (A 1 1) + kk (A 2 2)) ∧
    chp A 3 1 = kk (A 0 0) * kk (A 1 1) - kk (A 0 1) * kk (A 1 0) + (kk (A 0 0) * kk (A 2 2) - kk (A 0 2) * kk (A 2 0)) + (kk (A 1 1) * kk (A 2 2) - kk (A 1 2) * kk (A 2 1)) := by
  simp [chp, dtp, lapP, px, lo, rs]
  grind
theorem ch4 (A : Nat → Nat → Nat) : chp A 4 4 = 1 ∧ chp A 4 3 = - (kk (A 0 0) + kk (A 1 1) + kk (A 2 2) + kk (A 3 3)) ∧
    chp A 4 2 = kk (A 0 0) * kk (A 1 1) - kk (A 0 1) * kk (A 1 0) + (kk (A 0 0) * kk (A 2 2) - kk (A 0 2) * kk (A 2 0)) + (kk (A 0 0) * kk (A 3 3) - kk (A 0 3) * kk (A 3 0)) + (kk (A 1 1) * kk (A 2 2) - kk (A 1 2) * kk (A 2 1)) + (kk (A 1 1) * kk (A 3 3) - kk (A 1 3) * kk (A 3 1)) + (kk (A 2 2) * kk (A 3 3) - kk (A 2 3) * kk (A 3 2)) ∧
    chp A 4 1 = - (dtm (fun i j => kk (A i j)) 3 7 7 + dtm (fun i j => kk (A i j)) 3 11 11 + dtm (fun i j => kk (A i j)) 3 13 13 + dtm (fun i j => kk (A i j)) 3 14 14) := by
  refine ⟨?_, ?_, ?_, ?_⟩
  · simp [chp, dtp, lapP, px, lo, rs]
    grind
  · simp [chp, dtp, lapP, px, lo, rs]
    grind
  · simp [chp, dtp, lapP, px, lo, rs]
    grind
  · simp [chp, dtp, lapP, px, lo, rs, dtm, lapM]
    grind
def fs (f : Nat → Fin 5) : Nat → Fin 5
  | 0 => 0
  | n + 1 => fs f n + f n
def fM (N : Nat) (A B : Nat → Nat → Fin 5) : Nat → Nat → Fin 5 := fun i k => fs (fun t => A i t * B t k) N
def fE (N : Nat) (c : Nat → Fin 5) (A : Nat → Nat → Fin 5) : Nat → (Nat → Nat → Fin 5)
  | 0 => fun _ _ => 0
  | s + 1 => fun i k => if i = k then fM N (fE N c A s) A i k + c (4 - s) else fM N (fE N c A s) A i k
theorem kk_zs (f : Nat → Nat) (n : Nat) : kk (zs f n) = fs (fun t => kk (f t)) n := by
  induction n with
  | zero => rfl
  | succ n ih =>
    show kk (zs f n + f n) = fs _ n + kk (f n)
    rw [kk_add, ih]
theorem kk_zM (N : Nat) (A B : Nat → Nat → Nat) (i k : Nat) : kk (zM N A B i k) = fM N (fun i j => kk (A i j)) (fun i j => kk (B i j)) i k := by
  unfold zM fM
  rw [kk_mod, kk_zs]
  simp only [kk_mul]
theorem kk_zEv (N p : Nat) (A : Nat → Nat → Nat) : ∀ s i k, kk (zEv N p A s i k) = fE N (pd p) (fun i j => kk (A i j)) s i k := by
  intro s
  induction s with
  | zero => intro i k; rfl
  | succ s ih =>
    intro i k
    show kk (if i = k then (zM N (zEv N p A s) A i k + p / 5 ^ (4 - s) % 5) % 5 else zM N (zEv N p A s) A i k) = (if i = k then fM N (fE N (pd p) (fun i j => kk (A i j)) s) (fun i j => kk (A i j)) i k + pd p (4 - s) else fM N (fE N (pd p) (fun i j => kk (A i j)) s) (fun i j => kk (A i j)) i k)
    have e : kk (zM N (zEv N p A s) A i k) = fM N (fE N (pd p) (fun i j => kk (A i j)) s) (fun i j => kk (A i j)) i k := by
      rw [kk_zM]
      have : (fun i j => kk (zEv N p A s i j)) = fE N (pd p) (fun i j => kk (A i j)) s := by
        funext i j; exact ih i j
      rw [this]
    split
    · rw [kk_mod, kk_add, kk_mod, e]; rfl
    · exact e
/-- the adjugate's entry -/
def adj (M : Nat → Nat → Fin 5) (N i j : Nat) : Fin 5 := (if (i + j) % 2 = 0 then 1 else 4) * dtm M (N - 1) (2 ^ N - 1 - 2 ^ j) (2 ^ N - 1 - 2 ^ i)
end
section
theorem aj1_0_0 (A : Nat → Nat → Nat) (q : Nat → Fin 5) (h0 : q 0 = chp A 1 1) (h1 : q 1 = 0) (h2 : q 2 = 0) (h3 : q 3 = 0) (h4 : q 4 = 0) : fE 1 q (fun i j => kk (A i j)) 5 0 0 = adj (fun i j => kk (A i j)) 1 0 0 := by
  rw [ch1 A] at h0
  simp [fE, fM, fs, adj, dtm, lapM, lo, rs, h0, h1, h2, h3, h4]
  grind
theorem ma1_0_0 (M : Nat → Nat → Fin 5) : fM 1 M (adj M 1) 0 0 = dtm M 1 1 1 := by
  simp [fM, fs, adj, dtm, lapM, lo, rs]
  grind
theorem am1_0_0 (M : Nat → Nat → Fin 5) : fM 1 (adj M 1) M 0 0 = dtm M 1 1 1 := by
  simp [fM, fs, adj, dtm, lapM, lo, rs]
  grind
theorem aj2_0_0 (A : Nat → Nat → Nat) (q : Nat → Fin 5) (h0 : q 0 = chp A 2 1) (h1 : q 1 = chp A 2 2) (h2 : q 2 = 0) (h3 : q 3 = 0) (h4 : q 4 = 0) : fE 2 q (fun i j => kk (A i j)) 5 0 0 = - adj (fun i j => kk (A i j)) 2 0 0 := by
  obtain ⟨c2, c1⟩ := ch2 A
  rw [c1] at h0
  rw [c2] at h1
  simp [fE, fM, fs, adj, dtm, lapM, lo, rs, h0, h1, h2, h3, h4]
  grind
theorem ma2_0_0 (M : Nat → Nat → Fin 5) : fM 2 M (adj M 2) 0 0 = dtm M 2 3 3 := by
  simp [fM, fs, adj, dtm, lapM, lo, rs]
  grind
theorem am2_0_0 (M : Nat → Nat → Fin 5) : fM 2 (adj M 2) M 0 0 = dtm M 2 3 3 := by
  simp [fM, fs, adj, dtm, lapM, lo, rs]
  grind
theorem aj2_0_1 (A : Nat → Nat → Nat) (q : Nat → Fin 5) (h0 : q 0 = chp A 2 1) (h1 : q 1 = chp A 2 2) (h2 : q 2 = 0) (h3 : q 3 = 0) (h4 : q 4 = 0) : fE 2 q (fun i j => kk (A i j)) 5 0 1 = - adj (fun i j => kk (A i j)) 2 0 1 := by
  obtain ⟨c2, c1⟩ := ch2 A
  rw [c1] at h0
  rw [c2] at h1
  simp [fE, fM, fs, adj, dtm, lapM, lo, rs, h0, h1, h2, h3, h4]
  grind
theorem ma2_0_1 (M : Nat → Nat → Fin 5) : fM 2 M (adj M 2) 0 1 = 0 := by
  simp [fM, fs, adj, dtm, lapM, lo, rs]
  grind
theorem am2_0_1 (M : Nat → Nat → Fin 5) : fM 2 (adj M 2) M 0 1 = 0 := by
  simp [fM, fs, adj, dtm, lapM, lo, rs]
  grind
theorem aj2_1_0 (A : Nat → Nat → Nat) (q : Nat → Fin 5) (h0 : q 0 = chp A 2 1) (h1 : q 1 = chp A 2 2) (h2 : q 2 = 0) (h3 : q 3 = 0) (h4 : q 4 = 0) : fE 2 q (fun i j => kk (A i j)) 5 1 0 = - adj (fun i j => kk (A i j)) 2 1 0 := by
  obtain ⟨c2, c1⟩ := ch2 A
  rw [c1] at h0
  rw [c2] at h1
  simp [fE, fM, fs, adj, dtm, lapM, lo, rs, h0, h1, h2, h3, h4]
  grind
theorem ma2_1_0 (M : Nat → Nat → Fin 5) : fM 2 M (adj M 2) 1 0 = 0 := by
  simp [fM, fs, adj, dtm, lapM, lo, rs]
  grind
theorem am2_1_0 (M : Nat → Nat → Fin 5) : fM 2 (adj M 2) M 1 0 = 0 := by
  simp [fM, fs, adj, dtm, lapM, lo, rs]
  grind
theorem aj2_1_1 (A : Nat → Nat → Nat) (q : Nat → Fin 5) (h0 : q 0 = chp A 2 1) (h1 : q 1 = chp A 2 2) (h2 : q 2 = 0) (h3 : q 3 = 0) (h4 : q 4 = 0) : fE 2 q (fun i j => kk (A i j)) 5 1 1 = - adj (fun i j => kk (A i j)) 2 1 1 := by
  obtain ⟨c2, c1⟩ := ch2 A
  rw [c1] at h0
  rw [c2] at h1
  simp [fE, fM, fs, adj, dtm, lapM, lo, rs, h0, h1, h2, h3, h4]
  grind
theorem ma2_1_1 (M : Nat → Nat → Fin 5) : fM 2 M (adj M 2) 1 1 = dtm M 2 3 3 := by
  simp [fM, fs, adj, dtm, lapM, lo, rs]
  grind
theorem am2_1_1 (M : Nat → Nat → Fin 5) : fM 2 (adj M 2) M 1 1 = dtm M 2 3 3 := by
  simp [fM, fs, adj, dtm, lapM, lo, rs]
  grind
theorem aj3_0_0 (A : Nat → Nat → Nat) (q : Nat → Fin 5) (h0 : q 0 = chp A 3 1) (h1 : q 1 = chp A 3 2) (h2 : q 2 = chp A 3 3) (h3 : q 3 = 0) (h4 : q 4 = 0) : fE 3 q (fun i j => kk (A i j)) 5 0 0 = adj (fun i j => kk (A i j)) 3 0 0 := by
  obtain ⟨c3, c2, c1⟩ := ch3 A
  rw [c1] at h0
  rw [c2] at h1
  rw [c3] at h2
  simp [fE, fM, fs, adj, dtm, lapM, lo, rs, h0, h1, h2, h3, h4]
  grind
theorem ma3_0_0 (M : Nat → Nat → Fin 5) : fM 3 M (adj M 3) 0 0 = dtm M 3 7 7 := by
  simp [fM, fs, adj, dtm, lapM, lo, rs]
  grind
theorem am3_0_0 (M : Nat → Nat → Fin 5) : fM 3 (adj M 3) M 0 0 = dtm M 3 7 7 := by
  simp [fM, fs, adj, dtm, lapM, lo, rs]
  grind
theorem aj3_0_1 (A : Nat → Nat → Nat) (q : Nat → Fin 5) (h0 : q 0 = chp A 3 1) (h1 : q 1 = chp A 3 2) (h2 : q 2 = chp A 3 3) (h3 : q 3 = 0) (h4 : q 4 = 0) : fE 3 q (fun i j => kk (A i j)) 5 0 1 = adj (fun i j => kk (A i j)) 3 0 1 := by
  obtain ⟨c3, c2, c1⟩ := ch3 A
  rw [c1] at h0
  rw [c2] at h1
  rw [c3] at h2
  simp [fE, fM, fs, adj, dtm, lapM, lo, rs, h0, h1, h2, h3, h4]
  grind
theorem ma3_0_1 (M : Nat → Nat → Fin 5) : fM 3 M (adj M 3) 0 1 = 0 := by
  simp [fM, fs, adj, dtm, lapM, lo, rs]
  grind
theorem am3_0_1 (M : Nat → Nat → Fin 5) : fM 3 (adj M 3) M 0 1 = 0 := by
  simp [fM, fs, adj, dtm, lapM, lo, rs]
  grind
theorem aj3_0_2 (A : Nat → Nat → Nat) (q : Nat → Fin 5) (h0 : q 0 = chp A 3 1) (h1 : q 1 = chp A 3 2) (h2 : q 2 = chp A 3 3) (h3 : q 3 = 0) (h4 : q 4 = 0) : fE 3 q (fun i j => kk (A i j)) 5 0 2 = adj (fun i j => kk (A i j)) 3 0 2 := by
  obtain ⟨c3, c2, c1⟩ := ch3 A
  rw [c1] at h0
  rw [c2] at h1
  rw [c3] at h2
  simp [fE, fM, fs, adj, dtm, lapM, lo, rs, h0, h1, h2, h3, h4]
  grind
theorem ma3_0_2 (M : Nat → Nat → Fin 5) : fM 3 M (adj M 3) 0 2 = 0 := by
  simp [fM, fs, adj, dtm, lapM, lo, rs]
  grind
theorem am3_0_2 (M : Nat → Nat → Fin 5) : fM 3 (adj M 3) M 0 2 = 0 := by
  simp [fM, fs, adj, dtm, lapM, lo, rs]
  grind
theorem aj3_1_0 (A : Nat → Nat → Nat) (q : Nat → Fin 5) (h0 : q 0 = chp A 3 1) (h1 : q 1 = chp A 3 2) (h2 : q 2 = chp A 3 3) (h3 : q 3 = 0) (h4 : q 4 = 0) : fE 3 q (fun i j => kk (A i j)) 5 1 0 = adj (fun i j => kk (A i j)) 3 1 0 := by
  obtain ⟨c3, c2, c1⟩ := ch3 A
  rw [c1] at h0
  rw [c2] at h1
  rw [c3] at h2
  simp [fE, fM, fs, adj, dtm, lapM, lo, rs, h0, h1, h2, h3, h4]
  grind
theorem ma3_1_0 (M : Nat → Nat → Fin 5) : fM 3 M (adj M 3) 1 0 = 0 := by
  simp [fM, fs, adj, dtm, lapM, lo, rs]
  grind
theorem am3_1_0 (M : Nat → Nat → Fin 5) : fM 3 (adj M 3) M 1 0 = 0 := by
  simp [fM, fs, adj, dtm, lapM, lo, rs]
  grind
theorem aj3_1_1 (A : Nat → Nat → Nat) (q : Nat → Fin 5) (h0 : q 0 = chp A 3 1) (h1 : q 1 = chp A 3 2) (h2 : q 2 = chp A 3 3) (h3 : q 3 = 0) (h4 : q 4 = 0) : fE 3 q (fun i j => kk (A i j)) 5 1 1 = adj (fun i j => kk (A i j)) 3 1 1 := by
  obtain ⟨c3, c2, c1⟩ := ch3 A
  rw [c1] at h0
  rw [c2] at h1
  rw [c3] at h2
  simp [fE, fM, fs, adj, dtm, lapM, lo, rs, h0, h1, h2, h3, h4]
  grind
theorem ma3_1_1 (M : Nat → Nat → Fin 5) : fM 3 M (adj M 3) 1 1 = dtm M 3 7 7 := by
  simp [fM, fs, adj, dtm, lapM, lo, rs]
  grind
theorem am3_1_1 (M : Nat → Nat → Fin 5) : fM 3 (adj M 3) M 1 1 = dtm M 3 7 7 := by
  simp [fM, fs, adj, dtm, lapM, lo, rs]
  grind
theorem aj3_1_2 (A : Nat → Nat → Nat) (q : Nat → Fin 5) (h0 : q 0 = chp A 3 1) (h1 : q 1 = chp A 3 2) (h2 : q 2 = chp A 3 3) (h3 : q 3 = 0) (h4 : q 4 = 0) : fE 3 q (fun i j => kk (A i j)) 5 1 2 = adj (fun i j => kk (A i j)) 3 1 2 := by
  obtain ⟨c3, c2, c1⟩ := ch3 A
  rw [c1] at h0
  rw [c2] at h1
  rw [c3] at h2
  simp [fE, fM, fs, adj, dtm, lapM, lo, rs, h0, h1, h2, h3, h4]
  grind
theorem ma3_1_2 (M : Nat → Nat → Fin 5) : fM 3 M (adj M 3) 1 2 = 0 := by
  simp [fM, fs, adj, dtm, lapM, lo, rs]
  grind
theorem am3_1_2 (M : Nat → Nat → Fin 5) : fM 3 (adj M 3) M 1 2 = 0 := by
  simp [fM, fs, adj, dtm, lapM, lo, rs]
  grind
theorem aj3_2_0 (A : Nat → Nat → Nat) (q : Nat → Fin 5) (h0 : q 0 = chp A 3 1) (h1 : q 1 = chp A 3 2) (h2 : q 2 = chp A 3 3) (h3 : q 3 = 0) (h4 : q 4 = 0) : fE 3 q (fun i j => kk (A i j)) 5 2 0 = adj (fun i j => kk (A i j)) 3 2 0 := by
  obtain ⟨c3, c2, c1⟩ := ch3 A
  rw [c1] at h0
  rw [c2] at h1
  rw [c3] at h2
  simp [fE, fM, fs, adj, dtm, lapM, lo, rs, h0, h1, h2, h3, h4]
  grind
theorem ma3_2_0 (M : Nat → Nat → Fin 5) : fM 3 M (adj M 3) 2 0 = 0 := by
  simp [fM, fs, adj, dtm, lapM, lo, rs]
  grind
theorem am3_2_0 (M : Nat → Nat → Fin 5) : fM 3 (adj M 3) M 2 0 = 0 := by
  simp [fM, fs, adj, dtm, lapM, lo, rs]
  grind
theorem aj3_2_1 (A : Nat → Nat → Nat) (q : Nat → Fin 5) (h0 : q 0 = chp A 3 1) (h1 : q 1 = chp A 3 2) (h2 : q 2 = chp A 3 3) (h3 : q 3 = 0) (h4 : q 4 = 0) : fE 3 q (fun i j => kk (A i j)) 5 2 1 = adj (fun i j => kk (A i j)) 3 2 1 := by
  obtain ⟨c3, c2, c1⟩ := ch3 A
  rw [c1] at h0
  rw [c2] at h1
  rw [c3] at h2
  simp [fE, fM, fs, adj, dtm, lapM, lo, rs, h0, h1, h2, h3, h4]
  grind
theorem ma3_2_1 (M : Nat → Nat → Fin 5) : fM 3 M (adj M 3) 2 1 = 0 := by
  simp [fM, fs, adj, dtm, lapM, lo, rs]
  grind
theorem am3_2_1 (M : Nat → Nat → Fin 5) : fM 3 (adj M 3) M 2 1 = 0 := by
  simp [fM, fs, adj, dtm, lapM, lo, rs]
  grind
theorem aj3_2_2 (A : Nat → Nat → Nat) (q : Nat → Fin 5) (h0 : q 0 = chp A 3 1) (h1 : q 1 = chp A 3 2) (h2 : q 2 = chp A 3 3) (h3 : q 3 = 0) (h4 : q 4 = 0) : fE 3 q (fun i j => kk (A i j)) 5 2 2 = adj (fun i j => kk (A i j)) 3 2 2 := by
  obtain ⟨c3, c2, c1⟩ := ch3 A
  rw [c1] at h0
  rw [c2] at h1
  rw [c3] at h2
  simp [fE, fM, fs, adj, dtm, lapM, lo, rs, h0, h1, h2, h3, h4]
  grind
theorem ma3_2_2 (M : Nat → Nat → Fin 5) : fM 3 M (adj M 3) 2 2 = dtm M 3 7 7 := by
  simp [fM, fs, adj, dtm, lapM, lo, rs]
  grind
theorem am3_2_2 (M : Nat → Nat → Fin 5) : fM 3 (adj M 3) M 2 2 = dtm M 3 7 7 := by
  simp [fM, fs, adj, dtm, lapM, lo, rs]
  grind
theorem aj4_0_0 (A : Nat → Nat → Nat) (q : Nat → Fin 5) (h0 : q 0 = chp A 4 1) (h1 : q 1 = chp A 4 2) (h2 : q 2 = chp A 4 3) (h3 : q 3 = chp A 4 4) (h4 : q 4 = 0) : fE 4 q (fun i j => kk (A i j)) 5 0 0 = - adj (fun i j => kk (A i j)) 4 0 0 := by
  obtain ⟨c4, c3, c2, c1⟩ := ch4 A
  rw [c1] at h0
  rw [c2] at h1
  rw [c3] at h2
  rw [c4] at h3
  simp [fE, fM, fs, adj, dtm, lapM, lo, rs, h0, h1, h2, h3, h4]
  grind
theorem ma4_0_0 (M : Nat → Nat → Fin 5) : fM 4 M (adj M 4) 0 0 = dtm M 4 15 15 := by
  simp [fM, fs, adj, dtm, lapM, lo, rs]
  grind
theorem am4_0_0 (M : Nat → Nat → Fin 5) : fM 4 (adj M 4) M 0 0 = dtm M 4 15 15 := by
  simp [fM, fs, adj, dtm, lapM, lo, rs]
  grind
theorem aj4_0_1 (A : Nat → Nat → Nat) (q : Nat → Fin 5) (h0 : q 0 = chp A 4 1) (h1 : q 1 = chp A 4 2) (h2 : q 2 = chp A 4 3) (h3 : q 3 = chp A 4 4) (h4 : q 4 = 0) : fE 4 q (fun i j => kk (A i j)) 5 0 1 = - adj (fun i j => kk (A i j)) 4 0 1 := by
  obtain ⟨c4, c3, c2, c1⟩ := ch4 A
  rw [c1] at h0
  rw [c2] at h1
  rw [c3] at h2
  rw [c4] at h3
  simp [fE, fM, fs, adj, dtm, lapM, lo, rs, h0, h1, h2, h3, h4]
  grind
theorem ma4_0_1 (M : Nat → Nat → Fin 5) : fM 4 M (adj M 4) 0 1 = 0 := by
  simp [fM, fs, adj, dtm, lapM, lo, rs]
  grind
theorem am4_0_1 (M : Nat → Nat → Fin 5) : fM 4 (adj M 4) M 0 1 = 0 := by
  simp [fM, fs, adj, dtm, lapM, lo, rs]
  grind
theorem aj4_0_2 (A : Nat → Nat → Nat) (q : Nat → Fin 5) (h0 : q 0 = chp A 4 1) (h1 : q 1 = chp A 4 2) (h2 : q 2 = chp A 4 3) (h3 : q 3 = chp A 4 4) (h4 : q 4 = 0) : fE 4 q (fun i j => kk (A i j)) 5 0 2 = - adj (fun i j => kk (A i j)) 4 0 2 := by
  obtain ⟨c4, c3, c2, c1⟩ := ch4 A
  rw [c1] at h0
  rw [c2] at h1
  rw [c3] at h2
  rw [c4] at h3
  simp [fE, fM, fs, adj, dtm, lapM, lo, rs, h0, h1, h2, h3, h4]
  grind
theorem ma4_0_2 (M : Nat → Nat → Fin 5) : fM 4 M (adj M 4) 0 2 = 0 := by
  simp [fM, fs, adj, dtm, lapM, lo, rs]
  grind
theorem am4_0_2 (M : Nat → Nat → Fin 5) : fM 4 (adj M 4) M 0 2 = 0 := by
  simp [fM, fs, adj, dtm, lapM, lo, rs]
  grind
theorem aj4_0_3 (A : Nat → Nat → Nat) (q : Nat → Fin 5) (h0 : q 0 = chp A 4 1) (h1 : q 1 = chp A 4 2) (h2 : q 2 = chp A 4 3) (h3 : q 3 = chp A 4 4) (h4 : q 4 = 0) : fE 4 q (fun i j => kk (A i j)) 5 0 3 = - adj (fun i j => kk (A i j)) 4 0 3 := by
  obtain ⟨c4, c3, c2, c1⟩ := ch4 A
  rw [c1] at h0
  rw [c2] at h1
  rw [c3] at h2
  rw [c4] at h3
  simp [fE, fM, fs, adj, dtm, lapM, lo, rs, h0, h1, h2, h3, h4]
  grind
theorem ma4_0_3 (M : Nat → Nat → Fin 5) : fM 4 M (adj M 4) 0 3 = 0 := by
  simp [fM, fs, adj, dtm, lapM, lo, rs]
  grind
theorem am4_0_3 (M : Nat → Nat → Fin 5) : fM 4 (adj M 4) M 0 3 = 0 := by
  simp [fM, fs, adj, dtm, lapM, lo, rs]
  grind
theorem aj4_1_0 (A : Nat → Nat → Nat) (q : Nat → Fin 5) (h0 : q 0 = chp A 4 1) (h1 : q 1 = chp A 4 2) (h2 : q 2 = chp A 4 3) (h3 : q 3 = chp A 4 4) (h4 : q 4 = 0) : fE 4 q (fun i j => kk (A i j)) 5 1 0 = - adj (fun i j => kk (A i j)) 4 1 0 := by
  obtain ⟨c4, c3, c2, c1⟩ := ch4 A
  rw [c1] at h0
  rw [c2] at h1
  rw [c3] at h2
  rw [c4] at h3
  simp [fE, fM, fs, adj, dtm, lapM, lo, rs, h0, h1, h2, h3, h4]
  grind
theorem ma4_1_0 (M : Nat → Nat → Fin 5) : fM 4 M (adj M 4) 1 0 = 0 := by
  simp [fM, fs, adj, dtm, lapM, lo, rs]
  grind
theorem am4_1_0 (M : Nat → Nat → Fin 5) : fM 4 (adj M 4) M 1 0 = 0 := by
  simp [fM, fs, adj, dtm, lapM, lo, rs]
  grind
theorem aj4_1_1 (A : Nat → Nat → Nat) (q : Nat → Fin 5) (h0 : q 0 = chp A 4 1) (h1 : q 1 = chp A 4 2) (h2 : q 2 = chp A 4 3) (h3 : q 3 = chp A 4 4) (h4 : q 4 = 0) : fE 4 q (fun i j => kk (A i j)) 5 1 1 = - adj (fun i j => kk (A i j)) 4 1 1 := by
  obtain ⟨c4, c3, c2, c1⟩ := ch4 A
  rw [c1] at h0
  rw [c2] at h1
  rw [c3] at h2
  rw [c4] at h3
  simp [fE, fM, fs, adj, dtm, lapM, lo, rs, h0, h1, h2, h3, h4]
  grind
theorem ma4_1_1 (M : Nat → Nat → Fin 5) : fM 4 M (adj M 4) 1 1 = dtm M 4 15 15 := by
  simp [fM, fs, adj, dtm, lapM, lo, rs]
  grind
theorem am4_1_1 (M : Nat → Nat → Fin 5) : fM 4 (adj M 4) M 1 1 = dtm M 4 15 15 := by
  simp [fM, fs, adj, dtm, lapM, lo, rs]
  grind
theorem aj4_1_2 (A : Nat → Nat → Nat) (q : Nat → Fin 5) (h0 : q 0 = chp A 4 1) (h1 : q 1 = chp A 4 2) (h2 : q 2 = chp A 4 3) (h3 : q 3 = chp A 4 4) (h4 : q 4 = 0) : fE 4 q (fun i j => kk (A i j)) 5 1 2 = - adj (fun i j => kk (A i j)) 4 1 2 := by
  obtain ⟨c4, c3, c2, c1⟩ := ch4 A
  rw [c1] at h0
  rw [c2] at h1
  rw [c3] at h2
  rw [c4] at h3
  simp [fE, fM, fs, adj, dtm, lapM, lo, rs, h0, h1, h2, h3, h4]
  grind
theorem ma4_1_2 (M : Nat → Nat → Fin 5) : fM 4 M (adj M 4) 1 2 = 0 := by
  simp [fM, fs, adj, dtm, lapM, lo, rs]
  grind
theorem am4_1_2 (M : Nat → Nat → Fin 5) : fM 4 (adj M 4) M 1 2 = 0 := by
  simp [fM, fs, adj, dtm, lapM, lo, rs]
  grind
theorem aj4_1_3 (A : Nat → Nat → Nat) (q : Nat → Fin 5) (h0 : q 0 = chp A 4 1) (h1 : q 1 = chp A 4 2) (h2 : q 2 = chp A 4 3) (h3 : q 3 = chp A 4 4) (h4 : q 4 = 0) : fE 4 q (fun i j => kk (A i j)) 5 1 3 = - adj (fun i j => kk (A i j)) 4 1 3 := by
  obtain ⟨c4, c3, c2, c1⟩ := ch4 A
  rw [c1] at h0
  rw [c2] at h1
  rw [c3] at h2
  rw [c4] at h3
  simp [fE, fM, fs, adj, dtm, lapM, lo, rs, h0, h1, h2, h3, h4]
  grind
theorem ma4_1_3 (M : Nat → Nat → Fin 5) : fM 4 M (adj M 4) 1 3 = 0 := by
  simp [fM, fs, adj, dtm, lapM, lo, rs]
  grind
theorem am4_1_3 (M : Nat → Nat → Fin 5) : fM 4 (adj M 4) M 1 3 = 0 := by
  simp [fM, fs, adj, dtm, lapM, lo, rs]
  grind
theorem aj4_2_0 (A : Nat → Nat → Nat) (q : Nat → Fin 5) (h0 : q 0 = chp A 4 1) (h1 : q 1 = chp A 4 2) (h2 : q 2 = chp A 4 3) (h3 : q 3 = chp A 4 4) (h4 : q 4 = 0) : fE 4 q (fun i j => kk (A i j)) 5 2 0 = - adj (fun i j => kk (A i j)) 4 2 0 := by
  obtain ⟨c4, c3, c2, c1⟩ := ch4 A
  rw [c1] at h0
  rw [c2] at h1
  rw [c3] at h2
  rw [c4] at h3
  simp [fE, fM, fs, adj, dtm, lapM, lo, rs, h0, h1, h2, h3, h4]
  grind
theorem ma4_2_0 (M : Nat → Nat → Fin 5) : fM 4 M (adj M 4) 2 0 = 0 := by
  simp [fM, fs, adj, dtm, lapM, lo, rs]
  grind
theorem am4_2_0 (M : Nat → Nat → Fin 5) : fM 4 (adj M 4) M 2 0 = 0 := by
  simp [fM, fs, adj, dtm, lapM, lo, rs]
  grind
theorem aj4_2_1 (A : Nat → Nat → Nat) (q : Nat → Fin 5) (h0 : q 0 = chp A 4 1) (h1 : q 1 = chp A 4 2) (h2 : q 2 = chp A 4 3) (h3 : q 3 = chp A 4 4) (h4 : q 4 = 0) : fE 4 q (fun i j => kk (A i j)) 5 2 1 = - adj (fun i j => kk (A i j)) 4 2 1 := by
  obtain ⟨c4, c3, c2, c1⟩ := ch4 A
  rw [c1] at h0
  rw [c2] at h1
  rw [c3] at h2
  rw [c4] at h3
  simp [fE, fM, fs, adj, dtm, lapM, lo, rs, h0, h1, h2, h3, h4]
  grind
theorem ma4_2_1 (M : Nat → Nat → Fin 5) : fM 4 M (adj M 4) 2 1 = 0 := by
  simp [fM, fs, adj, dtm, lapM, lo, rs]
  grind
theorem am4_2_1 (M : Nat → Nat → Fin 5) : fM 4 (adj M 4) M 2 1 = 0 := by
  simp [fM, fs, adj, dtm, lapM, lo, rs]
  grind
theorem aj4_2_2 (A : Nat → Nat → Nat) (q : Nat → Fin 5) (h0 : q 0 = chp A 4 1) (h1 : q 1 = chp A 4 2) (h2 : q 2 = chp A 4 3) (h3 : q 3 = chp A 4 4) (h4 : q 4 = 0) : fE 4 q (fun i j => kk (A i j)) 5 2 2 = - adj (fun i j => kk (A i j)) 4 2 2 := by
  obtain ⟨c4, c3, c2, c1⟩ := ch4 A
  rw [c1] at h0
  rw [c2] at h1
  rw [c3] at h2
  rw [c4] at h3
  simp [fE, fM, fs, adj, dtm, lapM, lo, rs, h0, h1, h2, h3, h4]
  grind
theorem ma4_2_2 (M : Nat → Nat → Fin 5) : fM 4 M (adj M 4) 2 2 = dtm M 4 15 15 := by
  simp [fM, fs, adj, dtm, lapM, lo, rs]
  grind
theorem am4_2_2 (M : Nat → Nat → Fin 5) : fM 4 (adj M 4) M 2 2 = dtm M 4 15 15 := by
  simp [fM, fs, adj, dtm, lapM, lo, rs]
  grind
theorem aj4_2_3 (A : Nat → Nat → Nat) (q : Nat → Fin 5) (h0 : q 0 = chp A 4 1) (h1 : q 1 = chp A 4 2) (h2 : q 2 = chp A 4 3) (h3 : q 3 = chp A 4 4) (h4 : q 4 = 0) : fE 4 q (fun i j => kk (A i j)) 5 2 3 = - adj (fun i j => kk (A i j)) 4 2 3 := by
  obtain ⟨c4, c3, c2, c1⟩ := ch4 A
  rw [c1] at h0
  rw [c2] at h1
  rw [c3] at h2
  rw [c4] at h3
  simp [fE, fM, fs, adj, dtm, lapM, lo, rs, h0, h1, h2, h3, h4]
  grind
theorem ma4_2_3 (M : Nat → Nat → Fin 5) : fM 4 M (adj M 4) 2 3 = 0 := by
  simp [fM, fs, adj, dtm, lapM, lo, rs]
  grind
theorem am4_2_3 (M : Nat → Nat → Fin 5) : fM 4 (adj M 4) M 2 3 = 0 := by
  simp [fM, fs, adj, dtm, lapM, lo, rs]
  grind
theorem aj4_3_0 (A : Nat → Nat → Nat) (q : Nat → Fin 5) (h0 : q 0 = chp A 4 1) (h1 : q 1 = chp A 4 2) (h2 : q 2 = chp A 4 3) (h3 : q 3 = chp A 4 4) (h4 : q 4 = 0) : fE 4 q (fun i j => kk (A i j)) 5 3 0 = - adj (fun i j => kk (A i j)) 4 3 0 := by
  obtain ⟨c4, c3, c2, c1⟩ := ch4 A
  rw [c1] at h0
  rw [c2] at h1
  rw [c3] at h2
  rw [c4] at h3
  simp [fE, fM, fs, adj, dtm, lapM, lo, rs, h0, h1, h2, h3, h4]
  grind
theorem ma4_3_0 (M : Nat → Nat → Fin 5) : fM 4 M (adj M 4) 3 0 = 0 := by
  simp [fM, fs, adj, dtm, lapM, lo, rs]
  grind
theorem am4_3_0 (M : Nat → Nat → Fin 5) : fM 4 (adj M 4) M 3 0 = 0 := by
  simp [fM, fs, adj, dtm, lapM, lo, rs]
  grind
theorem aj4_3_1 (A : Nat → Nat → Nat) (q : Nat → Fin 5) (h0 : q 0 = chp A 4 1) (h1 : q 1 = chp A 4 2) (h2 : q 2 = chp A 4 3) (h3 : q 3 = chp A 4 4) (h4 : q 4 = 0) : fE 4 q (fun i j => kk (A i j)) 5 3 1 = - adj (fun i j => kk (A i j)) 4 3 1 := by
  obtain ⟨c4, c3, c2, c1⟩ := ch4 A
  rw [c1] at h0
  rw [c2] at h1
  rw [c3] at h2
  rw [c4] at h3
  simp [fE, fM, fs, adj, dtm, lapM, lo, rs, h0, h1, h2, h3, h4]
  grind
theorem ma4_3_1 (M : Nat → Nat → Fin 5) : fM 4 M (adj M 4) 3 1 = 0 := by
  simp [fM, fs, adj, dtm, lapM, lo, rs]
  grind
theorem am4_3_1 (M : Nat → Nat → Fin 5) : fM 4 (adj M 4) M 3 1 = 0 := by
  simp [fM, fs, adj, dtm, lapM, lo, rs]
  grind
theorem aj4_3_2 (A : Nat → Nat → Nat) (q : Nat → Fin 5) (h0 : q 0 = chp A 4 1) (h1 : q 1 = chp A 4 2) (h2 : q 2 = chp A 4 3) (h3 : q 3 = chp A 4 4) (h4 : q 4 = 0) : fE 4 q (fun i j => kk (A i j)) 5 3 2 = - adj (fun i j => kk (A i j)) 4 3 2 := by
  obtain ⟨c4, c3, c2, c1⟩ := ch4 A
  rw [c1] at h0
  rw [c2] at h1
  rw [c3] at h2
  rw [c4] at h3
  simp [fE, fM, fs, adj, dtm, lapM, lo, rs, h0, h1, h2, h3, h4]
  grind
theorem ma4_3_2 (M : Nat → Nat → Fin 5) : fM 4 M (adj M 4) 3 2 = 0 := by
  simp [fM, fs, adj, dtm, lapM, lo, rs]
  grind
theorem am4_3_2 (M : Nat → Nat → Fin 5) : fM 4 (adj M 4) M 3 2 = 0 := by
  simp [fM, fs, adj, dtm, lapM, lo, rs]
  grind
theorem aj4_3_3 (A : Nat → Nat → Nat) (q : Nat → Fin 5) (h0 : q 0 = chp A 4 1) (h1 : q 1 = chp A 4 2) (h2 : q 2 = chp A 4 3) (h3 : q 3 = chp A 4 4) (h4 : q 4 = 0) : fE 4 q (fun i j => kk (A i j)) 5 3 3 = - adj (fun i j => kk (A i j)) 4 3 3 := by
  obtain ⟨c4, c3, c2, c1⟩ := ch4 A
  rw [c1] at h0
  rw [c2] at h1
  rw [c3] at h2
  rw [c4] at h3
  simp [fE, fM, fs, adj, dtm, lapM, lo, rs, h0, h1, h2, h3, h4]
  grind
theorem ma4_3_3 (M : Nat → Nat → Fin 5) : fM 4 M (adj M 4) 3 3 = dtm M 4 15 15 := by
  simp [fM, fs, adj, dtm, lapM, lo, rs]
  grind
theorem am4_3_3 (M : Nat → Nat → Fin 5) : fM 4 (adj M 4) M 3 3 = dtm M 4 15 15 := by
  simp [fM, fs, adj, dtm, lapM, lo, rs]
  grind
theorem aj_all (A : Nat → Nat → Nat) (q : Nat → Fin 5) {N : Nat} (h1 : 1 ≤ N) (h4 : N ≤ 4) (hq : ∀ k, k < 4 → q k = chp A N (k + 1)) (hq4 : q 4 = 0) {i j : Nat} (hi : i < N) (hj : j < N) :
    fE N q (fun i j => kk (A i j)) 5 i j = spw 4 (N - 1) * adj (fun i j => kk (A i j)) N i j := by
  have hz : ∀ k, N ≤ k → k < 5 → q k = 0 := fun k e1 e2 => by
    by_cases e : k = 4
    · subst e; exact hq4
    · rw [hq k (by omega)]; exact dtp_hi A N _ _ _ (by omega)
  match N, h1, h4 with
  | 1, _, _ =>
    have es : spw 4 (1 - 1) = (1 : Fin 5) := by decide
    rw [es]
    have main : fE 1 q (fun i j => kk (A i j)) 5 i j = adj (fun i j => kk (A i j)) 1 i j := by
      match i, hi, j, hj with
      | 0, _, 0, _ => exact aj1_0_0 A q (hq 0 (by decide)) (hz 1 (by decide) (by decide)) (hz 2 (by decide) (by decide)) (hz 3 (by decide) (by decide)) (hz 4 (by decide) (by decide))
    rw [main]; grind
  | 2, _, _ =>
    have es : spw 4 (2 - 1) = (4 : Fin 5) := by decide
    rw [es]
    have main : fE 2 q (fun i j => kk (A i j)) 5 i j = - adj (fun i j => kk (A i j)) 2 i j := by
      match i, hi, j, hj with
      | 0, _, 0, _ => exact aj2_0_0 A q (hq 0 (by decide)) (hq 1 (by decide)) (hz 2 (by decide) (by decide)) (hz 3 (by decide) (by decide)) (hz 4 (by decide) (by decide))
      | 0, _, 1, _ => exact aj2_0_1 A q (hq 0 (by decide)) (hq 1 (by decide)) (hz 2 (by decide) (by decide)) (hz 3 (by decide) (by decide)) (hz 4 (by decide) (by decide))
      | 1, _, 0, _ => exact aj2_1_0 A q (hq 0 (by decide)) (hq 1 (by decide)) (hz 2 (by decide) (by decide)) (hz 3 (by decide) (by decide)) (hz 4 (by decide) (by decide))
      | 1, _, 1, _ => exact aj2_1_1 A q (hq 0 (by decide)) (hq 1 (by decide)) (hz 2 (by decide) (by decide)) (hz 3 (by decide) (by decide)) (hz 4 (by decide) (by decide))
    rw [main]; grind
  | 3, _, _ =>
    have es : spw 4 (3 - 1) = (1 : Fin 5) := by decide
    rw [es]
    have main : fE 3 q (fun i j => kk (A i j)) 5 i j = adj (fun i j => kk (A i j)) 3 i j := by
      match i, hi, j, hj with
      | 0, _, 0, _ => exact aj3_0_0 A q (hq 0 (by decide)) (hq 1 (by decide)) (hq 2 (by decide)) (hz 3 (by decide) (by decide)) (hz 4 (by decide) (by decide))
      | 0, _, 1, _ => exact aj3_0_1 A q (hq 0 (by decide)) (hq 1 (by decide)) (hq 2 (by decide)) (hz 3 (by decide) (by decide)) (hz 4 (by decide) (by decide))
      | 0, _, 2, _ => exact aj3_0_2 A q (hq 0 (by decide)) (hq 1 (by decide)) (hq 2 (by decide)) (hz 3 (by decide) (by decide)) (hz 4 (by decide) (by decide))
      | 1, _, 0, _ => exact aj3_1_0 A q (hq 0 (by decide)) (hq 1 (by decide)) (hq 2 (by decide)) (hz 3 (by decide) (by decide)) (hz 4 (by decide) (by decide))
      | 1, _, 1, _ => exact aj3_1_1 A q (hq 0 (by decide)) (hq 1 (by decide)) (hq 2 (by decide)) (hz 3 (by decide) (by decide)) (hz 4 (by decide) (by decide))
      | 1, _, 2, _ => exact aj3_1_2 A q (hq 0 (by decide)) (hq 1 (by decide)) (hq 2 (by decide)) (hz 3 (by decide) (by decide)) (hz 4 (by decide) (by decide))
      | 2, _, 0, _ => exact aj3_2_0 A q (hq 0 (by decide)) (hq 1 (by decide)) (hq 2 (by decide)) (hz 3 (by decide) (by decide)) (hz 4 (by decide) (by decide))
      | 2, _, 1, _ => exact aj3_2_1 A q (hq 0 (by decide)) (hq 1 (by decide)) (hq 2 (by decide)) (hz 3 (by decide) (by decide)) (hz 4 (by decide) (by decide))
      | 2, _, 2, _ => exact aj3_2_2 A q (hq 0 (by decide)) (hq 1 (by decide)) (hq 2 (by decide)) (hz 3 (by decide) (by decide)) (hz 4 (by decide) (by decide))
    rw [main]; grind
  | 4, _, _ =>
    have es : spw 4 (4 - 1) = (4 : Fin 5) := by decide
    rw [es]
    have main : fE 4 q (fun i j => kk (A i j)) 5 i j = - adj (fun i j => kk (A i j)) 4 i j := by
      match i, hi, j, hj with
      | 0, _, 0, _ => exact aj4_0_0 A q (hq 0 (by decide)) (hq 1 (by decide)) (hq 2 (by decide)) (hq 3 (by decide)) (hz 4 (by decide) (by decide))
      | 0, _, 1, _ => exact aj4_0_1 A q (hq 0 (by decide)) (hq 1 (by decide)) (hq 2 (by decide)) (hq 3 (by decide)) (hz 4 (by decide) (by decide))
      | 0, _, 2, _ => exact aj4_0_2 A q (hq 0 (by decide)) (hq 1 (by decide)) (hq 2 (by decide)) (hq 3 (by decide)) (hz 4 (by decide) (by decide))
      | 0, _, 3, _ => exact aj4_0_3 A q (hq 0 (by decide)) (hq 1 (by decide)) (hq 2 (by decide)) (hq 3 (by decide)) (hz 4 (by decide) (by decide))
      | 1, _, 0, _ => exact aj4_1_0 A q (hq 0 (by decide)) (hq 1 (by decide)) (hq 2 (by decide)) (hq 3 (by decide)) (hz 4 (by decide) (by decide))
      | 1, _, 1, _ => exact aj4_1_1 A q (hq 0 (by decide)) (hq 1 (by decide)) (hq 2 (by decide)) (hq 3 (by decide)) (hz 4 (by decide) (by decide))
      | 1, _, 2, _ => exact aj4_1_2 A q (hq 0 (by decide)) (hq 1 (by decide)) (hq 2 (by decide)) (hq 3 (by decide)) (hz 4 (by decide) (by decide))
      | 1, _, 3, _ => exact aj4_1_3 A q (hq 0 (by decide)) (hq 1 (by decide)) (hq 2 (by decide)) (hq 3 (by decide)) (hz 4 (by decide) (by decide))
      | 2, _, 0, _ => exact aj4_2_0 A q (hq 0 (by decide)) (hq 1 (by decide)) (hq 2 (by decide)) (hq 3 (by decide)) (hz 4 (by decide) (by decide))
      | 2, _, 1, _ => exact aj4_2_1 A q (hq 0 (by decide)) (hq 1 (by decide)) (hq 2 (by decide)) (hq 3 (by decide)) (hz 4 (by decide) (by decide))
      | 2, _, 2, _ => exact aj4_2_2 A q (hq 0 (by decide)) (hq 1 (by decide)) (hq 2 (by decide)) (hq 3 (by decide)) (hz 4 (by decide) (by decide))
      | 2, _, 3, _ => exact aj4_2_3 A q (hq 0 (by decide)) (hq 1 (by decide)) (hq 2 (by decide)) (hq 3 (by decide)) (hz 4 (by decide) (by decide))
      | 3, _, 0, _ => exact aj4_3_0 A q (hq 0 (by decide)) (hq 1 (by decide)) (hq 2 (by decide)) (hq 3 (by decide)) (hz 4 (by decide) (by decide))
      | 3, _, 1, _ => exact aj4_3_1 A q (hq 0 (by decide)) (hq 1 (by decide)) (hq 2 (by decide)) (hq 3 (by decide)) (hz 4 (by decide) (by decide))
      | 3, _, 2, _ => exact aj4_3_2 A q (hq 0 (by decide)) (hq 1 (by decide)) (hq 2 (by decide)) (hq 3 (by decide)) (hz 4 (by decide) (by decide))
      | 3, _, 3, _ => exact aj4_3_3 A q (hq 0 (by decide)) (hq 1 (by decide)) (hq 2 (by decide)) (hq 3 (by decide)) (hz 4 (by decide) (by decide))
    rw [main]; grind
theorem ma_all (M : Nat → Nat → Fin 5) {N : Nat} (h1 : 1 ≤ N) (h4 : N ≤ 4) {i j : Nat} (hi : i < N) (hj : j < N) : fM N M (adj M N) i j = if i = j then dtm M N (2 ^ N - 1) (2 ^ N - 1) else 0 := by
  match N, h1, h4 with
  | 1, _, _ =>
    match i, hi, j, hj with
    | 0, _, 0, _ => exact ma1_0_0 M
  | 2, _, _ =>
    match i, hi, j, hj with
    | 0, _, 0, _ => exact ma2_0_0 M
    | 0, _, 1, _ => exact ma2_0_1 M
    | 1, _, 0, _ => exact ma2_1_0 M
    | 1, _, 1, _ => exact ma2_1_1 M
  | 3, _, _ =>
    match i, hi, j, hj with
    | 0, _, 0, _ => exact ma3_0_0 M
    | 0, _, 1, _ => exact ma3_0_1 M
    | 0, _, 2, _ => exact ma3_0_2 M
    | 1, _, 0, _ => exact ma3_1_0 M
    | 1, _, 1, _ => exact ma3_1_1 M
    | 1, _, 2, _ => exact ma3_1_2 M
    | 2, _, 0, _ => exact ma3_2_0 M
    | 2, _, 1, _ => exact ma3_2_1 M
    | 2, _, 2, _ => exact ma3_2_2 M
  | 4, _, _ =>
    match i, hi, j, hj with
    | 0, _, 0, _ => exact ma4_0_0 M
    | 0, _, 1, _ => exact ma4_0_1 M
    | 0, _, 2, _ => exact ma4_0_2 M
    | 0, _, 3, _ => exact ma4_0_3 M
    | 1, _, 0, _ => exact ma4_1_0 M
    | 1, _, 1, _ => exact ma4_1_1 M
    | 1, _, 2, _ => exact ma4_1_2 M
    | 1, _, 3, _ => exact ma4_1_3 M
    | 2, _, 0, _ => exact ma4_2_0 M
    | 2, _, 1, _ => exact ma4_2_1 M
    | 2, _, 2, _ => exact ma4_2_2 M
    | 2, _, 3, _ => exact ma4_2_3 M
    | 3, _, 0, _ => exact ma4_3_0 M
    | 3, _, 1, _ => exact ma4_3_1 M
    | 3, _, 2, _ => exact ma4_3_2 M
    | 3, _, 3, _ => exact ma4_3_3 M
theorem am_all (M : Nat → Nat → Fin 5) {N : Nat} (h1 : 1 ≤ N) (h4 : N ≤ 4) {i j : Nat} (hi : i < N) (hj : j < N) : fM N (adj M N) M i j = if i = j then dtm M N (2 ^ N - 1) (2 ^ N - 1) else 0 := by
  match N, h1, h4 with
  | 1, _, _ =>
    match i, hi, j, hj with
    | 0, _, 0, _ => exact am1_0_0 M
  | 2, _, _ =>
    match i, hi, j, hj with
    | 0, _, 0, _ => exact am2_0_0 M
    | 0, _, 1, _ => exact am2_0_1 M
    | 1, _, 0, _ => exact am2_1_0 M
    | 1, _, 1, _ => exact am2_1_1 M
  | 3, _, _ =>
    match i, hi, j, hj with
    | 0, _, 0, _ => exact am3_0_0 M
    | 0, _, 1, _ => exact am3_0_1 M
    | 0, _, 2, _ => exact am3_0_2 M
    | 1, _, 0, _ => exact am3_1_0 M
    | 1, _, 1, _ => exact am3_1_1 M
    | 1, _, 2, _ => exact am3_1_2 M
    | 2, _, 0, _ => exact am3_2_0 M
    | 2, _, 1, _ => exact am3_2_1 M
    | 2, _, 2, _ => exact am3_2_2 M
  | 4, _, _ =>
    match i, hi, j, hj with
    | 0, _, 0, _ => exact am4_0_0 M
    | 0, _, 1, _ => exact am4_0_1 M
    | 0, _, 2, _ => exact am4_0_2 M
    | 0, _, 3, _ => exact am4_0_3 M
    | 1, _, 0, _ => exact am4_1_0 M
    | 1, _, 1, _ => exact am4_1_1 M
    | 1, _, 2, _ => exact am4_1_2 M
    | 1, _, 3, _ => exact am4_1_3 M
    | 2, _, 0, _ => exact am4_2_0 M
    | 2, _, 1, _ => exact am4_2_1 M
    | 2, _, 2, _ => exact am4_2_2 M
    | 2, _, 3, _ => exact am4_2_3 M
    | 3, _, 0, _ => exact am4_3_0 M
    | 3, _, 1, _ => exact am4_3_1 M
    | 3, _, 2, _ => exact am4_3_2 M
    | 3, _, 3, _ => exact am4_3_3 M
end
section
/-! invert -/
theorem msk : ∀ N, N < 5 → ∀ j, j < N → (nI (2 ^ N - 1) &&& (nI (2 ^ j) ^^^ (-1)) = nI (2 ^ N - 1 - 2 ^ j)) ∧ 2 ^ N - 1 - 2 ^ j < 2 ^ N ∧ pc (2 ^ N - 1 - 2 ^ j) = N - 1 := by decide +kernel
theorem fM_s (N : Nat) (A B : Nat → Nat → Fin 5) (s : Fin 5) (i k : Nat) : fM N (fun i j => s * A i j) B i k = s * fM N A B i k := by
  unfold fM
  have : ∀ n, fs (fun t => s * A i t * B t k) n = s * fs (fun t => A i t * B t k) n := by
    intro n
    induction n with
    | zero => show (0 : Fin 5) = s * 0; grind
    | succ n ih =>
      show fs (fun t => s * A i t * B t k) n + s * A i n * B n k = s * (fs (fun t => A i t * B t k) n + A i n * B n k)
      rw [ih]; grind
  exact this N
theorem fE_s (N : Nat) (c : Nat → Fin 5) (A : Nat → Nat → Fin 5) (s : Fin 5) : ∀ n, fE N (fun k => s * c k) A n = fun i k => s * fE N c A n i k := by
  intro n
  induction n with
  | zero => funext i k; show (0 : Fin 5) = s * 0; grind
  | succ n ih =>
    funext i k
    show (if i = k then fM N (fE N (fun k => s * c k) A n) A i k + s * c (4 - n) else fM N (fE N (fun k => s * c k) A n) A i k) = s * (if i = k then fM N (fE N c A n) A i k + c (4 - n) else fM N (fE N c A n) A i k)
    rw [ih, fM_s]
    split <;> grind
theorem fE_cong (N : Nat) {c c' : Nat → Fin 5} (A : Nat → Nat → Fin 5) (h : ∀ k, k < 5 → c k = c' k) : ∀ n, fE N c A n = fE N c' A n := by
  intro n
  induction n with
  | zero => rfl
  | succ n ih =>
    funext i k
    show (if i = k then fM N (fE N c A n) A i k + c (4 - n) else fM N (fE N c A n) A i k) = (if i = k then fM N (fE N c' A n) A i k + c' (4 - n) else fM N (fE N c' A n) A i k)
    rw [ih, h (4 - n) (by omega)]
theorem inv_u {N : Nat} (h1 : 1 ≤ N) (h4 : N ≤ 4) (d e : Fin 5) : - ((spw 4 N * d) * (spw 4 N * d) * (spw 4 N * d)) * (spw 4 (N - 1) * e) = e * (d * d * d) := by
  match N, h1, h4 with
  | 1, _, _ => simp only [spw, show 1 - 1 = 0 from rfl]; grind
  | 2, _, _ => simp only [spw, show 2 - 1 = 1 from rfl]; grind
  | 3, _, _ => simp only [spw, show 3 - 1 = 2 from rfl]; grind
  | 4, _, _ => simp only [spw, show 4 - 1 = 3 from rfl]; grind
theorem spw_z {N : Nat} (h4 : N ≤ 4) (d : Fin 5) : spw 4 N * d = 0 ↔ d = 0 := by
  match N, h4 with
  | 0, _ => revert d; decide
  | 1, _ => revert d; decide
  | 2, _ => revert d; decide
  | 3, _ => revert d; decide
  | 4, _ => revert d; decide
theorem ys_inv53 {post : Int32 → SY → Prop} {N d a by_ : Nat} {g : Nat → Nat} {mn te dv ot fc kp rw : Nat → Nat} (h1 : 1 ≤ N) (hN : N ≤ 4) (hd : d < 4) (ha : a < 4) (hb : by_ < 5) (hg : ∀ j, g j < 5)
    (H : ∀ (g' mn' te' : Nat → Nat), (∀ j, j < 64 → (j < 16 * d ∨ 16 * d + 16 ≤ j) → g' j = g j) → (∀ j, g' j < 5) →
      (∀ i j, i < N → j < N → kk (g' (16 * d + (N * i + j))) = adj (fun i j => kk (zSl g N a i j)) N i j * kk by_) → post 1 (zY N g' mn' te' dv ot fc kp rw)) :
    ∃ n53, wY_invert_53 post (nI d) (nI a) (nI (2 ^ N - 1)) (nI by_) n53 0 (nI N) (zA g) (zA mn) (zA te) (zA dv) (zA ot) (zA fc) (zA kp) (zA rw) := by
  have hsq := zi_sq hN
  obtain ⟨w1, w2⟩ := pw2 N (by omega)
  refine loop_0 (fun n i (s : (Nat → Nat) × (Nat → Nat) × (Nat → Nat)) => wY_invert_53 post (nI d) (nI a) (nI (2 ^ N - 1)) (nI by_) n (nI i) (nI N) (zA s.1) (zA s.2.1) (zA s.2.2) (zA dv) (zA ot) (zA fc) (zA kp) (zA rw))
    (fun i s => (∀ j, j < 64 → s.1 j = g j) ∧ (∀ j, s.1 j < 5) ∧ ∀ i' j', i' < i → i' < N → j' < N → kk (s.1 (64 + (N * i' + j'))) = adj (fun i j => kk (zSl g N a i j)) N i' j' * kk by_) N (g, mn, te) ⟨fun _ _ => rfl, hg, fun i' j' h => absurd h (by omega)⟩ ?_ ?_
  · intro n s hI
    refine br_t (nI_le (Nat.le_refl _) (by omega)) ?_
    refine ys_copy (d := d) (a := 4) (by omega) (by omega) (by omega) ?_
    intro g' q1 q2
    refine H g' s.2.1 s.2.2 ?_ (ycp5 hI.2.1 q1 q2) ?_
    · intro j hj e
      rw [q1 j e]; exact hI.1 j hj
    · intro i j hi hj
      have := zi_lt hi hj
      rw [q2 _ (by omega)]
      exact hI.2.2 i j hi hi hj
  · intro n i s hi hI ih
    refine br_f (nI_ge hi (by omega)) ?_
    refine loop_0 (fun n' j (s : (Nat → Nat) × (Nat → Nat) × (Nat → Nat)) => wY_invert_65 post (wY_invert_53 post (nI d) (nI a) (nI (2 ^ N - 1)) (nI by_) n) (nI d) (nI a) (nI (2 ^ N - 1)) (nI by_) (nI i) n' (nI j) (nI N) (zA s.1) (zA s.2.1) (zA s.2.2) (zA dv) (zA ot) (zA fc) (zA kp) (zA rw))
      (fun j s => (∀ j, j < 64 → s.1 j = g j) ∧ (∀ j, s.1 j < 5) ∧ ∀ i' j', (i' < i ∨ (i' = i ∧ j' < j)) → i' < N → j' < N → kk (s.1 (64 + (N * i' + j'))) = adj (fun i j => kk (zSl g N a i j)) N i' j' * kk by_) N s ⟨hI.1, hI.2.1, ?_⟩ ?_ ?_
    · intro i' j' h hi' hj'
      exact hI.2.2 i' j' (by omega) hi' hj'
    · intro n' s' hJ
      refine br_t (nI_le (Nat.le_refl _) (by omega)) (nm_r (nI_1 i) (ih s' ⟨hJ.1, hJ.2.1, ?_⟩))
      intro i' j' h hi' hj'
      exact hJ.2.2 i' j' (by omega) hi' hj'
    · intro n' j s' hj hJ ih'
      obtain ⟨mj1, mj2, mj3⟩ := msk N (by omega) j hj
      obtain ⟨mi1, mi2, mi3⟩ := msk N (by omega) i hi
      have hij := zi_lt hi hj
      refine br_f (nI_ge hj (by omega)) ?_
      rw [zshl (by omega), zshl (by omega), mj1, mi1]
      refine ys_findMinor (x := false) hN (by omega) hJ.2.1 mj2 mi2 ?_
      intro mn' te' p1 p2
      have esl : zSl s'.1 N a = zSl g N a := zSl_eq (fun t ht => hJ.1 _ (by omega))
      have hm0 := p1 0 (by decide)
      have hm := p2 0 (by decide)
      rw [mn_df _ (by omega) (by omega) (by rw [mj3, mi3]), mj3, esl] at hm
      have step : ∀ z : Nat, z < 5 → (z = if (i + j) % 2 = 0 then 1 else 4) → wY_invert_111 post (wY_invert_53 post (nI d) (nI a) (nI (2 ^ N - 1)) (nI by_) n) (wY_invert_65 post (wY_invert_53 post (nI d) (nI a) (nI (2 ^ N - 1)) (nI by_) n) (nI d) (nI a) (nI (2 ^ N - 1)) (nI by_) (nI i) n') (nI d) (nI a) (nI (2 ^ N - 1)) (nI by_) (nI i) (nI j) (nI z) (nI N) (zA s'.1) (zA mn') (zA te') (zA dv) (zA ot) (zA fc) (zA kp) (zA rw) := by
        intro z hz ez
        have l1 : mn' 0 * z ≤ 4 * 4 := Nat.mul_le_mul (by omega) (by omega)
        have l2 : mn' 0 * z * by_ ≤ 16 * 4 := Nat.mul_le_mul l1 (by omega)
        unfold wY_invert_111
        refine ⟨zf5, ?_, nm_r (e' := zA (zu s'.1 (64 + (N * i + j)) (mn' 0 * z * by_ % 5))) ?_ (nm_r (nI_1 j) (ih' (zu s'.1 (64 + (N * i + j)) (mn' 0 * z * by_ % 5), mn', te') ⟨?_, ?_, ?_⟩))⟩
        · rw [pk_mul, z64a, nI_add]; exact vp_in_nI (by omega) (by decide)
        · rw [pk_mul, z64a, nI_add, nI_clamp (by omega), zA_at, pk_mul, pk_mul, z5r (by omega), zA_upd, Nat.add_assoc]
        · intro j' hj'
          show zu s'.1 (64 + (N * i + j)) _ j' = g j'
          rw [zu_n (by omega)]; exact hJ.1 j' hj'
        · exact zu_lt hJ.2.1 (Nat.mod_lt _ (by decide))
        · intro i' j' h hi' hj'
          show kk (zu s'.1 (64 + (N * i + j)) _ (64 + (N * i' + j'))) = _
          by_cases e : 64 + (N * i' + j') = 64 + (N * i + j)
          · obtain ⟨rfl, rfl⟩ := zi_inj hj' hj (Nat.add_left_cancel e)
            rw [zu_s, kk_mod, kk_mul, kk_mul, hm, ez]
            unfold adj
            split
            · rw [show kk 1 = 1 from rfl]; grind
            · rw [show kk 4 = 4 from rfl]; grind
          · rw [zu_n e]
            refine hJ.2.2 i' j' ?_ hi' hj'
            rcases h with h | ⟨h, h'⟩
            · exact Or.inl h
            · refine Or.inr ⟨h, ?_⟩
              subst h
              by_cases e2 : j' = j
              · subst e2; exact absurd rfl e
              · omega
      have hm2 : (i + j) % 2 < 2 := Nat.mod_lt _ (by decide)
      refine ⟨zf2, ?_⟩
      rw [nI_add, z2r (by omega)]
      refine pk_eq ((i + j) % 2) 0 ?_ ?_
      · intro e
        exact step 1 (by decide) (by rw [if_pos e])
      · intro e
        exact step 4 (by decide) (by rw [if_neg e])
theorem i_vc_invert {k : Nat} {u : SX} {v : SY} (I : i_Rel k u v) (hk : k + 5 ≤ 2561) (v1 : Int32) (v2 : Int32) : wpX_invert (fun r u' => wpY_invert (fun r' v' => r' = r ∧ i_Rel (k + 5) u' v') v v1 v2) u v1 v2 := by
  obtain ⟨N, c, m, f, g, mn, te, dv, ot, fc, kp, rw, rfl, rfl, h1, h4, hc, hg, h⟩ := I
  have hsq := zi_sq h4
  unfold wpX_invert wpY_invert; dsimp only
  rcases zout v1 (n := 4) (by decide) with ⟨d, hd, rfl⟩ | o1
  · refine xr_ok hd (br_f zf1 ?_)
    rcases zout v2 (n := 4) (by decide) with ⟨a, ha, rfl⟩ | o2
    · refine xr_ok ha (br_f zf1 (xs_char h4 (by omega) hc ?_))
      intro m' p p1 p2
      have hb5 : (5 : Nat) ^ (N + 1) ≤ 5 ^ 5 := Nat.pow_le_pow_right (by decide) (by omega)
      have h55 : (5 : Nat) ^ 5 = 3125 := rfl
      have e0 := p2 0 (by decide)
      rw [ch_0 _ h4, zrel h ha] at e0
      have ev0 : kk (p % 5) = pd p 0 := by
        rw [kk_mod]; unfold pd; rw [Nat.pow_zero, Nat.div_one]
      have hp5 : p % 5 < 5 := Nat.mod_lt _ (by decide)
      refine ⟨zf5, nm_r (z5r (by omega)) (pk_eq (p % 5) 0 ?_ ?_)⟩
      · intro ez
        have hd0 : dtA (zSl g N a) N = 0 := by
          rw [ez, e0] at ev0
          exact (spw_z h4 _).mp ev0.symm
        refine yr_ok hd (br_f zf1 (yr_ok ha (br_f zf1 (nm_r (zall h4) (ys_det h4 (by omega) hg ?_)))))
        intro mn' te'
        rw [hd0]
        exact br_t rfl ⟨rfl, zR h1 h4 hc hg h⟩
      · intro enz
        have hdn : dtA (zSl g N a) N ≠ 0 := by
          intro z
          rw [z] at e0
          have : kk (p % 5) = kk 0 := by rw [ev0, e0, kk_0]; grind
          exact enz (kk_inj hp5 (by decide) this)
        generalize hD : dtA (zSl g N a) N = D at *
        have l1 : p % 5 * (p % 5) ≤ 4 * 4 := Nat.mul_le_mul (by omega) (by omega)
        have l2 : p % 5 * (p % 5) * (p % 5) ≤ 16 * 4 := Nat.mul_le_mul l1 (by omega)
        have l3 : p % 5 * (p % 5) * (p % 5) % 5 < 5 := Nat.mod_lt _ (by decide)
        have hq : p / 5 < 3125 := by omega
        unfold wpX_reciprocal
        refine ⟨zf5, ?_⟩
        rw [pk_mul, pk_mul, z5r (by omega)]
        refine nm_r (z5s (by omega)) ⟨zf5, ?_⟩
        rw [z5d (by omega)]
        refine xs_pm (p := 0) (by decide) (by omega) hq ?_
        have ksc : kk (5 - p % 5 * (p % 5) * (p % 5) % 5) = - ((spw 4 N * D) * (spw 4 N * D) * (spw 4 N * D)) := by
          rw [kk_5s (by omega), kk_mod, kk_mul, kk_mul, ev0, e0]
        generalize hS : 5 - p % 5 * (p % 5) * (p % 5) % 5 = S at *
        have hpd : ∀ k, k < 5 → pd (pm 0 S (p / 5)) k = kk S * pd p (k + 1) := by
          intro k hk
          rw [pd_pm _ _ _ _ hk]
          have z0 : pd 0 k = 0 := by unfold pd; rw [Nat.zero_div]; rfl
          have z1 : pd (p / 5) k = pd p (k + 1) := by
            unfold pd
            rw [Nat.div_div_eq_div_mul, Nat.pow_succ, Nat.mul_comm]
          rw [z0, z1]; grind
        refine xs_eval h4 (pm_lt _ _ _) hd ha hc (zHas_sl c N a) ?_
        intro c' r1 r2 r3
        refine yr_ok hd (br_f zf1 (yr_ok ha (br_f zf1 (nm_r (zall h4) (ys_det h4 (by omega) hg ?_)))))
        intro mn' te'
        rw [hD]
        have Dv : D.val < 5 := D.isLt
        have Dn : D.val ≠ 0 := fun z => hdn (Fin.ext z)
        have m1 : D.val * D.val ≤ 4 * 4 := Nat.mul_le_mul (by omega) (by omega)
        have m2 : D.val * D.val * D.val ≤ 16 * 4 := Nat.mul_le_mul m1 (by omega)
        refine br_f (nI_ne0 (by omega) (by omega)) ?_
        unfold wpY_inverse
        refine ⟨zf5, ?_⟩
        rw [pk_mul, pk_mul, z5r (by omega)]
        refine ys_inv53 h1 h4 hd ha (Nat.mod_lt _ (by decide)) hg ?_
        intro g' mn2 te2 s1 s2 s3
        refine ⟨rfl, zR h1 h4 r2 s2 (zSub (d := d) h hsq r1 s1 ?_)⟩
        intro t ht
        obtain ⟨i, j, hi, hj, rfl⟩ := zij ht
        apply kk_inj (r2 _) (s2 _)
        rw [s3 i j hi hj, r3 i j hi hj, kk_zEv, kk_mod, kk_mul, kk_mul, kk_fin, zrel h ha]
        have q4 : pd p 5 = 0 := pd_hi (j := 5) (by omega) (by omega)
        have ec : fE N (pd (pm 0 S (p / 5))) (fun i j => kk (zSl g N a i j)) 5 i j = kk S * fE N (fun k => if k < 4 then chp (zSl g N a) N (k + 1) else 0) (fun i j => kk (zSl g N a i j)) 5 i j := by
          rw [fE_cong N (c' := fun k => kk S * (fun k => if k < 4 then chp (zSl g N a) N (k + 1) else 0) k) _ ?_ 5, fE_s]
          intro k hk
          show pd (pm 0 S (p / 5)) k = kk S * (if k < 4 then chp (zSl g N a) N (k + 1) else 0)
          rw [hpd k hk]
          by_cases e : k < 4
          · rw [if_pos e, p2 (k + 1) (by omega), zrel h ha]
          · have : k = 4 := by omega
            subst this
            rw [if_neg e, q4]
        rw [ec, aj_all _ _ h1 h4 ?_ ?_ hi hj, ksc]
        · exact inv_u h1 h4 D _
        · intro k hk
          show (if k < 4 then chp (zSl g N a) N (k + 1) else 0) = _
          rw [if_pos hk]
        · show (if 4 < 4 then chp (zSl g N a) N (4 + 1) else 0) = 0
          rw [if_neg (by decide)]
    · exact xr_no o2 (br_t rfl (yr_ok hd (br_f zf1 (yr_no o2 (br_t rfl ⟨rfl, zR h1 h4 hc hg h⟩)))))
  · exact xr_no o1 (br_t rfl (yr_no o1 (br_t rfl ⟨rfl, zR h1 h4 hc hg h⟩)))
end
section
/-! powers repeat within 624 -/
theorem pig : ∀ (n : Nat) (f : Nat → Nat), (∀ i, i ≤ n → f i < n) → ∃ i j, i < j ∧ j ≤ n ∧ f i = f j := by
  intro n
  induction n with
  | zero => intro f h; exact absurd (h 0 (Nat.le_refl _)) (by omega)
  | succ n ih =>
    intro f h
    by_cases e : ∃ i, i < n + 1 ∧ f i = f (n + 1)
    · obtain ⟨i, hi, e⟩ := e
      exact ⟨i, n + 1, hi, Nat.le_refl _, e⟩
    · have ne : ∀ i, i < n + 1 → f i ≠ f (n + 1) := fun i hi z => e ⟨i, hi, z⟩
      obtain ⟨i, j, hij, hj, q⟩ := ih (fun i => if f i = n then f (n + 1) else f i) (fun i hi => by
        show (if f i = n then f (n + 1) else f i) < n
        have b1 := h i (by omega)
        have b2 := h (n + 1) (Nat.le_refl _)
        have b3 := ne i (by omega)
        split <;> omega)
      refine ⟨i, j, hij, by omega, ?_⟩
      have q' : (if f i = n then f (n + 1) else f i) = (if f j = n then f (n + 1) else f j) := q
      have b3 := ne i (by omega)
      have b4 := ne j (by omega)
      by_cases e1 : f i = n
      · by_cases e2 : f j = n
        · omega
        · rw [if_pos e1, if_neg e2] at q'; omega
      · by_cases e2 : f j = n
        · rw [if_neg e1, if_pos e2] at q'; omega
        · rw [if_neg e1, if_neg e2] at q'; exact q'
def fP (N : Nat) (a : Nat → Nat → Fin 5) : Nat → (Nat → Nat → Fin 5)
  | 0 => fun i k => if i = k then 1 else 0
  | j + 1 => fM N (fP N a j) a
/-- equal on the first N rows and columns -/
def fEq (N : Nat) (X Y : Nat → Nat → Fin 5) : Prop := ∀ i k, i < N → k < N → X i k = Y i k
theorem fs_lin (f h : Nat → Fin 5) (s : Fin 5) (n : Nat) : fs (fun t => f t + s * h t) n = fs f n + s * fs h n := by
  induction n with
  | zero => show (0 : Fin 5) = 0 + s * 0; grind
  | succ n ih => show fs (fun t => f t + s * h t) n + (f n + s * h n) = fs f n + f n + s * (fs h n + h n); rw [ih]; grind
theorem fs_cong {f h : Nat → Fin 5} : ∀ n : Nat, (∀ t, t < n → f t = h t) → fs f n = fs h n := by
  intro n
  induction n with
  | zero => intro _; rfl
  | succ n ih =>
    intro e
    show fs f n + f n = fs h n + h n
    rw [ih (fun t ht => e t (by omega)), e n (by omega)]
theorem fM_lin (N : Nat) (X Y B : Nat → Nat → Fin 5) (s : Fin 5) (i k : Nat) : fM N (fun i k => X i k + s * Y i k) B i k = fM N X B i k + s * fM N Y B i k := by
  unfold fM
  rw [← fs_lin]
  refine fs_cong N (fun t _ => ?_)
  grind
theorem fM_eqL {N : Nat} {X Y : Nat → Nat → Fin 5} (B : Nat → Nat → Fin 5) (h : fEq N X Y) {i k : Nat} (hi : i < N) : fM N X B i k = fM N Y B i k := by
  unfold fM
  refine fs_cong N (fun t ht => ?_)
  rw [h i t hi ht]
theorem fM_eqR {N : Nat} {X Y : Nat → Nat → Fin 5} (B : Nat → Nat → Fin 5) (h : fEq N X Y) {i k : Nat} (hk : k < N) : fM N B X i k = fM N B Y i k := by
  unfold fM
  refine fs_cong N (fun t ht => ?_)
  rw [h t k ht hk]
theorem fM_assoc {N : Nat} (hN : N ≤ 4) (X Y Z : Nat → Nat → Fin 5) (i k : Nat) : fM N (fM N X Y) Z i k = fM N X (fM N Y Z) i k := by
  match N, hN with
  | 0, _ => rfl
  | 1, _ => simp only [fM, fs]; grind
  | 2, _ => simp only [fM, fs]; grind
  | 3, _ => simp only [fM, fs]; grind
  | 4, _ => simp only [fM, fs]; grind
theorem fM_id {N : Nat} (hN : N ≤ 4) (X : Nat → Nat → Fin 5) (s : Fin 5) : fEq N (fM N X (fun i k => if i = k then s else 0)) (fun i k => s * X i k) := by
  intro i k hi hk
  match N, hN, k, hk with
  | 1, _, 0, _ => simp [fM, fs]; grind
  | 2, _, 0, _ => simp [fM, fs]; grind
  | 2, _, 1, _ => simp [fM, fs]; grind
  | 3, _, 0, _ => simp [fM, fs]; grind
  | 3, _, 1, _ => simp [fM, fs]; grind
  | 3, _, 2, _ => simp [fM, fs]; grind
  | 4, _, 0, _ => simp [fM, fs]; grind
  | 4, _, 1, _ => simp [fM, fs]; grind
  | 4, _, 2, _ => simp [fM, fs]; grind
  | 4, _, 3, _ => simp [fM, fs]; grind
theorem fE_1 (N : Nat) (q : Nat → Fin 5) (a : Nat → Nat → Fin 5) : fE N q a 1 = fun i k => q 4 * fP N a 0 i k := by
  funext i k
  have hz : fM N (fE N q a 0) a i k = 0 := by
    show fs (fun t => (0 : Fin 5) * a t k) N = 0
    have : ∀ n, fs (fun t => (0 : Fin 5) * a t k) n = 0 := by
      intro n
      induction n with
      | zero => rfl
      | succ n ih => show fs (fun t => (0 : Fin 5) * a t k) n + 0 * a n k = 0; rw [ih]; grind
    exact this N
  show (if i = k then fM N (fE N q a 0) a i k + q 4 else fM N (fE N q a 0) a i k) = q 4 * (if i = k then 1 else 0)
  rw [hz]
  split <;> grind
theorem fE_st (N : Nat) (q : Nat → Fin 5) (a : Nat → Nat → Fin 5) (s : Nat) : fE N q a (s + 1) = fun i k => fM N (fE N q a s) a i k + q (4 - s) * fP N a 0 i k := by
  funext i k
  show (if i = k then fM N (fE N q a s) a i k + q (4 - s) else fM N (fE N q a s) a i k) = fM N (fE N q a s) a i k + q (4 - s) * (if i = k then 1 else 0)
  split <;> grind
theorem fE_5 (N : Nat) (q : Nat → Fin 5) (a : Nat → Nat → Fin 5) (i k : Nat) : fE N q a 5 i k = q 0 * fP N a 0 i k + q 1 * fP N a 1 i k + q 2 * fP N a 2 i k + q 3 * fP N a 3 i k + q 4 * fP N a 4 i k := by
  have s2 : fE N q a 2 = fun i k => q 4 * fP N a 1 i k + q 3 * fP N a 0 i k := by
    rw [fE_st, fE_1]
    funext i k
    rw [fM_s]; rfl
  have s3 : fE N q a 3 = fun i k => q 4 * fP N a 2 i k + q 3 * fP N a 1 i k + q 2 * fP N a 0 i k := by
    rw [fE_st, s2]
    funext i k
    rw [fM_lin N (fun i k => q 4 * fP N a 1 i k) (fP N a 0) a (q 3), fM_s]; rfl
  have s4 : fE N q a 4 = fun i k => q 4 * fP N a 3 i k + q 3 * fP N a 2 i k + q 2 * fP N a 1 i k + q 1 * fP N a 0 i k := by
    rw [fE_st, s3]
    funext i k
    rw [fM_lin N (fun i k => q 4 * fP N a 2 i k + q 3 * fP N a 1 i k) (fP N a 0) a (q 2), fM_lin N (fun i k => q 4 * fP N a 2 i k) (fP N a 1) a (q 3), fM_s]; rfl
  rw [fE_st, s4]
  dsimp only
  rw [fM_lin N (fun i k => q 4 * fP N a 3 i k + q 3 * fP N a 2 i k + q 2 * fP N a 1 i k) (fP N a 0) a (q 1), fM_lin N (fun i k => q 4 * fP N a 3 i k + q 3 * fP N a 2 i k) (fP N a 1) a (q 2), fM_lin N (fun i k => q 4 * fP N a 3 i k) (fP N a 2) a (q 3), fM_s]
  show q 4 * fP N a 4 i k + q 3 * fP N a 3 i k + q 2 * fP N a 2 i k + q 1 * fP N a 1 i k + q 0 * fP N a 0 i k = _
  grind
/-- Cayley and Hamilton, up to four rows -/
theorem cay (A : Nat → Nat → Nat) {N : Nat} (h1 : 1 ≤ N) (h4 : N ≤ 4) {i k : Nat} (hi : i < N) (hk : k < N) :
    chp A N 0 * fP N (fun i j => kk (A i j)) 0 i k + chp A N 1 * fP N (fun i j => kk (A i j)) 1 i k + chp A N 2 * fP N (fun i j => kk (A i j)) 2 i k + chp A N 3 * fP N (fun i j => kk (A i j)) 3 i k + chp A N 4 * fP N (fun i j => kk (A i j)) 4 i k = 0 := by
  let q : Nat → Fin 5 := fun k => if k < 4 then chp A N (k + 1) else 0
  have hq : ∀ k, k < 4 → q k = chp A N (k + 1) := fun k hk => if_pos hk
  have hq4 : q 4 = 0 := if_neg (by decide)
  have e1 : fM N (fE N q (fun i j => kk (A i j)) 5) (fun i j => kk (A i j)) i k = spw 4 (N - 1) * (if i = k then dtA A N else 0) := by
    rw [fM_eqL _ (Y := fun i j => spw 4 (N - 1) * adj (fun i j => kk (A i j)) N i j) (fun i j hi hj => aj_all A q h1 h4 hq hq4 hi hj) hi, fM_s, am_all _ h1 h4 hi hk]
  have e2 : fE N q (fun i j => kk (A i j)) 5 = fun i k => q 0 * fP N (fun i j => kk (A i j)) 0 i k + q 1 * fP N (fun i j => kk (A i j)) 1 i k + q 2 * fP N (fun i j => kk (A i j)) 2 i k + q 3 * fP N (fun i j => kk (A i j)) 3 i k + q 4 * fP N (fun i j => kk (A i j)) 4 i k := by
    funext i k; exact fE_5 N q _ i k
  generalize ha : (fun i j => kk (A i j)) = a at *
  rw [e2, fM_lin N (fun i k => q 0 * fP N a 0 i k + q 1 * fP N a 1 i k + q 2 * fP N a 2 i k + q 3 * fP N a 3 i k) (fP N a 4) a (q 4), fM_lin N (fun i k => q 0 * fP N a 0 i k + q 1 * fP N a 1 i k + q 2 * fP N a 2 i k) (fP N a 3) a (q 3), fM_lin N (fun i k => q 0 * fP N a 0 i k + q 1 * fP N a 1 i k) (fP N a 2) a (q 2), fM_lin N (fun i k => q 0 * fP N a 0 i k) (fP N a 1) a (q 1), fM_s, hq4, hq 0 (by decide), hq 1 (by decide), hq 2 (by decide), hq 3 (by decide)] at e1
  have e3 : fM N (fP N a 0) a i k = fP N a 1 i k := rfl
  have e4 : fM N (fP N a 1) a i k = fP N a 2 i k := rfl
  have e5 : fM N (fP N a 2) a i k = fP N a 3 i k := rfl
  have e6 : fM N (fP N a 3) a i k = fP N a 4 i k := rfl
  rw [e3, e4, e5, e6] at e1
  have e7 : chp A N 0 * fP N a 0 i k = - (spw 4 (N - 1) * (if i = k then dtA A N else 0)) := by
    rw [ch_0 A h4]
    have hs : spw 4 N = - spw 4 (N - 1) := by
      match N, h1, h4 with
      | 1, _, _ => decide
      | 2, _, _ => decide
      | 3, _, _ => decide
      | 4, _, _ => decide
    rw [hs]
    show - spw 4 (N - 1) * dtA A N * (if i = k then 1 else 0) = _
    split <;> grind
  rw [e7]
  grind
theorem cay4 (A : Nat → Nat → Nat) {N : Nat} (h1 : 1 ≤ N) (h4 : N ≤ 4) : ∃ e0 e1 e2 e3 : Fin 5, ∀ i k, i < N → k < N →
    fP N (fun i j => kk (A i j)) 4 i k = e0 * fP N (fun i j => kk (A i j)) 0 i k + e1 * fP N (fun i j => kk (A i j)) 1 i k + e2 * fP N (fun i j => kk (A i j)) 2 i k + e3 * fP N (fun i j => kk (A i j)) 3 i k := by
  have hc := fun i k hi hk => cay A h1 h4 (i := i) (k := k) hi hk
  have hz : ∀ k, N < k → chp A N k = 0 := fun k hk => dtp_hi A N _ _ k hk
  have hM : ∀ (j : Nat) (X : Nat → Nat → Fin 5), fEq N (fP N (fun i j => kk (A i j)) j) X → fEq N (fP N (fun i j => kk (A i j)) (j + 1)) (fM N X (fun i j => kk (A i j))) := fun j X hX i k hi hk => fM_eqL _ hX hi
  generalize ha : (fun i j => kk (A i j)) = a at *
  have st : ∀ (j : Nat) (s0 s1 s2 s3 : Fin 5), fEq N (fP N a j) (fun i k => s0 * fP N a 0 i k + s1 * fP N a 1 i k + s2 * fP N a 2 i k + s3 * fP N a 3 i k) →
      fEq N (fP N a (j + 1)) (fun i k => s0 * fP N a 1 i k + s1 * fP N a 2 i k + s2 * fP N a 3 i k + s3 * fP N a 4 i k) := by
    intro j s0 s1 s2 s3 hX i k hi hk
    rw [hM j _ hX i k hi hk, fM_lin N (fun i k => s0 * fP N a 0 i k + s1 * fP N a 1 i k + s2 * fP N a 2 i k) (fP N a 3) a s3, fM_lin N (fun i k => s0 * fP N a 0 i k + s1 * fP N a 1 i k) (fP N a 2) a s2, fM_lin N (fun i k => s0 * fP N a 0 i k) (fP N a 1) a s1, fM_s]
    rfl
  match N, h1, h4 with
  | 4, _, _ =>
    refine ⟨- chp A 4 0, - chp A 4 1, - chp A 4 2, - chp A 4 3, ?_⟩
    intro i k hi hk
    have := hc i k hi hk
    rw [(ch4 A).1] at this
    grind
  | 3, _, _ =>
    have b3 : fEq 3 (fP 3 a 3) (fun i k => (- chp A 3 0) * fP 3 a 0 i k + (- chp A 3 1) * fP 3 a 1 i k + (- chp A 3 2) * fP 3 a 2 i k + 0 * fP 3 a 3 i k) := by
      intro i k hi hk
      have := hc i k hi hk
      rw [(ch3 A).1, hz 4 (by decide)] at this
      grind
    refine ⟨0, - chp A 3 0, - chp A 3 1, - chp A 3 2, ?_⟩
    intro i k hi hk
    have := st 3 _ _ _ _ b3 i k hi hk
    dsimp only at this
    rw [this]; grind
  | 2, _, _ =>
    have b2 : fEq 2 (fP 2 a 2) (fun i k => (- chp A 2 0) * fP 2 a 0 i k + (- chp A 2 1) * fP 2 a 1 i k + 0 * fP 2 a 2 i k + 0 * fP 2 a 3 i k) := by
      intro i k hi hk
      have := hc i k hi hk
      rw [(ch2 A).1, hz 3 (by decide), hz 4 (by decide)] at this
      grind
    have b3 : fEq 2 (fP 2 a 3) (fun i k => 0 * fP 2 a 0 i k + (- chp A 2 0) * fP 2 a 1 i k + (- chp A 2 1) * fP 2 a 2 i k + 0 * fP 2 a 3 i k) := by
      intro i k hi hk
      have := st 2 _ _ _ _ b2 i k hi hk
      dsimp only at this
      rw [this]; grind
    refine ⟨0, 0, - chp A 2 0, - chp A 2 1, ?_⟩
    intro i k hi hk
    have := st 3 _ _ _ _ b3 i k hi hk
    dsimp only at this
    rw [this]; grind
  | 1, _, _ =>
    have b1 : fEq 1 (fP 1 a 1) (fun i k => (- chp A 1 0) * fP 1 a 0 i k + 0 * fP 1 a 1 i k + 0 * fP 1 a 2 i k + 0 * fP 1 a 3 i k) := by
      intro i k hi hk
      have := hc i k hi hk
      rw [ch1 A, hz 2 (by decide), hz 3 (by decide), hz 4 (by decide)] at this
      grind
    have b2 : fEq 1 (fP 1 a 2) (fun i k => 0 * fP 1 a 0 i k + (- chp A 1 0) * fP 1 a 1 i k + 0 * fP 1 a 2 i k + 0 * fP 1 a 3 i k) := by
      intro i k hi hk
      have := st 1 _ _ _ _ b1 i k hi hk
      dsimp only at this
      rw [this]; grind
    have b3 : fEq 1 (fP 1 a 3) (fun i k => 0 * fP 1 a 0 i k + 0 * fP 1 a 1 i k + (- chp A 1 0) * fP 1 a 2 i k + 0 * fP 1 a 3 i k) := by
      intro i k hi hk
      have := st 2 _ _ _ _ b2 i k hi hk
      dsimp only at this
      rw [this]; grind
    refine ⟨0, 0, 0, - chp A 1 0, ?_⟩
    intro i k hi hk
    have := st 3 _ _ _ _ b3 i k hi hk
    dsimp only at this
    rw [this]; grind
def ordV (e0 e1 e2 e3 : Fin 5) : Nat → Fin 5 × Fin 5 × Fin 5 × Fin 5
  | 0 => (1, 0, 0, 0)
  | j + 1 => ((ordV e0 e1 e2 e3 j).2.2.2 * e0, (ordV e0 e1 e2 e3 j).1 + (ordV e0 e1 e2 e3 j).2.2.2 * e1, (ordV e0 e1 e2 e3 j).2.1 + (ordV e0 e1 e2 e3 j).2.2.2 * e2, (ordV e0 e1 e2 e3 j).2.2.1 + (ordV e0 e1 e2 e3 j).2.2.2 * e3)
theorem ord_v {N : Nat} {a : Nat → Nat → Fin 5} {e0 e1 e2 e3 : Fin 5} (h : fEq N (fP N a 4) (fun i k => e0 * fP N a 0 i k + e1 * fP N a 1 i k + e2 * fP N a 2 i k + e3 * fP N a 3 i k)) :
    ∀ j, fEq N (fP N a j) (fun i k => (ordV e0 e1 e2 e3 j).1 * fP N a 0 i k + (ordV e0 e1 e2 e3 j).2.1 * fP N a 1 i k + (ordV e0 e1 e2 e3 j).2.2.1 * fP N a 2 i k + (ordV e0 e1 e2 e3 j).2.2.2 * fP N a 3 i k) := by
  intro j
  induction j with
  | zero =>
    intro i k hi hk
    show fP N a 0 i k = 1 * fP N a 0 i k + 0 * fP N a 1 i k + 0 * fP N a 2 i k + 0 * fP N a 3 i k
    grind
  | succ j ih =>
    intro i k hi hk
    show fM N (fP N a j) a i k = ((ordV e0 e1 e2 e3 j).2.2.2 * e0) * fP N a 0 i k + ((ordV e0 e1 e2 e3 j).1 + (ordV e0 e1 e2 e3 j).2.2.2 * e1) * fP N a 1 i k + ((ordV e0 e1 e2 e3 j).2.1 + (ordV e0 e1 e2 e3 j).2.2.2 * e2) * fP N a 2 i k + ((ordV e0 e1 e2 e3 j).2.2.1 + (ordV e0 e1 e2 e3 j).2.2.2 * e3) * fP N a 3 i k
    rw [fM_eqL a ih hi]
    generalize ordV e0 e1 e2 e3 j = v
    rw [fM_lin N (fun i k => v.1 * fP N a 0 i k + v.2.1 * fP N a 1 i k + v.2.2.1 * fP N a 2 i k) (fP N a 3) a v.2.2.2, fM_lin N (fun i k => v.1 * fP N a 0 i k + v.2.1 * fP N a 1 i k) (fP N a 2) a v.2.2.1, fM_lin N (fun i k => v.1 * fP N a 0 i k) (fP N a 1) a v.2.1, fM_s]
    have e3' : fM N (fP N a 0) a i k = fP N a 1 i k := rfl
    have e4' : fM N (fP N a 1) a i k = fP N a 2 i k := rfl
    have e5' : fM N (fP N a 2) a i k = fP N a 3 i k := rfl
    have e6' : fM N (fP N a 3) a i k = e0 * fP N a 0 i k + e1 * fP N a 1 i k + e2 * fP N a 2 i k + e3 * fP N a 3 i k := h i k hi hk
    rw [e3', e4', e5', e6']
    grind
theorem fM_can {N : Nat} (h1 : 1 ≤ N) (h4 : N ≤ 4) {a X Y : Nat → Nat → Fin 5} (hd : dtm a N (2 ^ N - 1) (2 ^ N - 1) ≠ 0) (h : fEq N (fM N X a) (fM N Y a)) : fEq N X Y := by
  generalize hD : dtm a N (2 ^ N - 1) (2 ^ N - 1) = D at *
  have hadj : fEq N (fM N a (adj a N)) (fun i k => if i = k then D else 0) := by
    intro i k hi hk
    rw [ma_all a h1 h4 hi hk, hD]
  have mul : ∀ Z : Nat → Nat → Fin 5, ∀ i k, i < N → k < N → fM N (fM N Z a) (adj a N) i k = D * Z i k := by
    intro Z i k hi hk
    rw [fM_assoc h4, fM_eqR Z hadj hk]
    exact fM_id h4 Z D i k hi hk
  intro i k hi hk
  have e : D * X i k = D * Y i k := by
    rw [← mul X i k hi hk, ← mul Y i k hi hk]
    exact fM_eqL _ h hi
  have i1 := kt_inv D hd
  have : (D * (D * D * D)) * X i k = (D * (D * D * D)) * Y i k := by grind
  rw [i1] at this
  grind
/-- some power within 624 is the identity -/
theorem ord_ex (A : Nat → Nat → Nat) {N : Nat} (h1 : 1 ≤ N) (h4 : N ≤ 4) (hd : dtA A N ≠ 0) : ∃ d, d < 624 ∧ fEq N (fP N (fun i j => kk (A i j)) (d + 1)) (fun i k => if i = k then 1 else 0) := by
  obtain ⟨e0, e1, e2, e3, he⟩ := cay4 A h1 h4
  have hv := ord_v (N := N) (a := fun i j => kk (A i j)) he
  have can := fun X Y => fM_can (X := X) (Y := Y) h1 h4 hd
  generalize ha : (fun i j => kk (A i j)) = a at *
  have nz : ∀ j, ¬ fEq N (fP N a j) (fun _ _ => 0) := by
    intro j
    induction j with
    | zero =>
      intro z
      have : (1 : Fin 5) = 0 := z 0 0 (by omega) (by omega)
      exact absurd this (by decide)
    | succ j ih =>
      intro z
      refine ih (can _ _ ?_)
      intro i k hi hk
      rw [show fM N (fP N a j) a i k = 0 from z i k hi hk]
      have := fM_s N (fun _ _ => 0) a 0 i k
      have e : fM N (fun _ _ => (0 : Fin 5)) a i k = 0 * fM N (fun _ _ => 0) a i k := by
        rw [← this]
        refine fM_eqL a (fun i j _ _ => ?_) hi
        grind
      rw [e]; grind
  let code : Nat → Nat := fun j => (ordV e0 e1 e2 e3 j).1.val + (ordV e0 e1 e2 e3 j).2.1.val * 5 + (ordV e0 e1 e2 e3 j).2.2.1.val * 25 + (ordV e0 e1 e2 e3 j).2.2.2.val * 125
  have hcode : ∀ j, 0 < code j ∧ code j < 625 := by
    intro j
    have l0 := (ordV e0 e1 e2 e3 j).1.isLt
    have l1 := (ordV e0 e1 e2 e3 j).2.1.isLt
    have l2 := (ordV e0 e1 e2 e3 j).2.2.1.isLt
    have l3 := (ordV e0 e1 e2 e3 j).2.2.2.isLt
    refine ⟨?_, ?_⟩
    · refine Nat.pos_of_ne_zero (fun z => ?_)
      have z' : (ordV e0 e1 e2 e3 j).1.val + (ordV e0 e1 e2 e3 j).2.1.val * 5 + (ordV e0 e1 e2 e3 j).2.2.1.val * 25 + (ordV e0 e1 e2 e3 j).2.2.2.val * 125 = 0 := z
      have z0 : (ordV e0 e1 e2 e3 j).1 = 0 := Fin.ext (by show _ = 0; omega)
      have z1 : (ordV e0 e1 e2 e3 j).2.1 = 0 := Fin.ext (by show _ = 0; omega)
      have z2 : (ordV e0 e1 e2 e3 j).2.2.1 = 0 := Fin.ext (by show _ = 0; omega)
      have z3 : (ordV e0 e1 e2 e3 j).2.2.2 = 0 := Fin.ext (by show _ = 0; omega)
      refine nz j (fun i k hi hk => ?_)
      rw [hv j i k hi hk, z0, z1, z2, z3]
      grind
    · show (ordV e0 e1 e2 e3 j).1.val + (ordV e0 e1 e2 e3 j).2.1.val * 5 + (ordV e0 e1 e2 e3 j).2.2.1.val * 25 + (ordV e0 e1 e2 e3 j).2.2.2.val * 125 < 625
      omega
  obtain ⟨i, j, hij, hj, q⟩ := pig 624 (fun j => code j - 1) (fun i _ => by
    have := hcode i
    show code i - 1 < 624
    omega)
  have q2 : code i = code j := by
    have := hcode i
    have := hcode j
    have q' : code i - 1 = code j - 1 := q
    omega
  have heq : fEq N (fP N a i) (fP N a j) := by
    have l0 := (ordV e0 e1 e2 e3 i).1.isLt
    have l1 := (ordV e0 e1 e2 e3 i).2.1.isLt
    have l2 := (ordV e0 e1 e2 e3 i).2.2.1.isLt
    have l3 := (ordV e0 e1 e2 e3 i).2.2.2.isLt
    have k0 := (ordV e0 e1 e2 e3 j).1.isLt
    have k1 := (ordV e0 e1 e2 e3 j).2.1.isLt
    have k2 := (ordV e0 e1 e2 e3 j).2.2.1.isLt
    have k3 := (ordV e0 e1 e2 e3 j).2.2.2.isLt
    have q' : (ordV e0 e1 e2 e3 i).1.val + (ordV e0 e1 e2 e3 i).2.1.val * 5 + (ordV e0 e1 e2 e3 i).2.2.1.val * 25 + (ordV e0 e1 e2 e3 i).2.2.2.val * 125 = (ordV e0 e1 e2 e3 j).1.val + (ordV e0 e1 e2 e3 j).2.1.val * 5 + (ordV e0 e1 e2 e3 j).2.2.1.val * 25 + (ordV e0 e1 e2 e3 j).2.2.2.val * 125 := q2
    have z0 : (ordV e0 e1 e2 e3 i).1 = (ordV e0 e1 e2 e3 j).1 := Fin.ext (by omega)
    have z1 : (ordV e0 e1 e2 e3 i).2.1 = (ordV e0 e1 e2 e3 j).2.1 := Fin.ext (by omega)
    have z2 : (ordV e0 e1 e2 e3 i).2.2.1 = (ordV e0 e1 e2 e3 j).2.2.1 := Fin.ext (by omega)
    have z3 : (ordV e0 e1 e2 e3 i).2.2.2 = (ordV e0 e1 e2 e3 j).2.2.2 := Fin.ext (by omega)
    intro r k hr hk
    rw [hv i r k hr hk, hv j r k hr hk, z0, z1, z2, z3]
  have down : ∀ i d, fEq N (fP N a i) (fP N a (i + d)) → fEq N (fP N a 0) (fP N a d) := by
    intro i
    induction i with
    | zero => intro d h; rw [Nat.zero_add] at h; exact h
    | succ i ih =>
      intro d h
      refine ih d (can _ _ ?_)
      have : fP N a (i + 1 + d) = fM N (fP N a (i + d)) a := by
        rw [show i + 1 + d = (i + d) + 1 by omega]; rfl
      rw [this] at h
      exact h
  refine ⟨j - i - 1, by omega, ?_⟩
  have h0 := down i (j - i) (by rw [show i + (j - i) = j by omega]; exact heq)
  rw [show j - i - 1 + 1 = j - i by omega]
  intro r k hr hk
  exact (h0 r k hr hk).symm
end
section
/-! order -/
def oS (N : Nat) (A : Nat → Nat → Nat) : Nat → (Nat → Nat → Nat)
  | 0 => A
  | j + 1 => zM N (oS N A j) A
def isI (N : Nat) (X : Nat → Nat → Nat) : Prop := ∀ i k, i < N → k < N → X i k = if i = k then 1 else 0
theorem fM_idL {N : Nat} (hN : N ≤ 4) (X : Nat → Nat → Fin 5) {i k : Nat} (hi : i < N) : fM N (fun i k => if i = k then 1 else 0) X i k = X i k := by
  match N, hN, i, hi with
  | 1, _, 0, _ => simp [fM, fs]; grind
  | 2, _, 0, _ => simp [fM, fs]; grind
  | 2, _, 1, _ => simp [fM, fs]; grind
  | 3, _, 0, _ => simp [fM, fs]; grind
  | 3, _, 1, _ => simp [fM, fs]; grind
  | 3, _, 2, _ => simp [fM, fs]; grind
  | 4, _, 0, _ => simp [fM, fs]; grind
  | 4, _, 1, _ => simp [fM, fs]; grind
  | 4, _, 2, _ => simp [fM, fs]; grind
  | 4, _, 3, _ => simp [fM, fs]; grind
theorem oS_lt {N : Nat} {A : Nat → Nat → Nat} (hA : ∀ i k, A i k < 5) (j i k : Nat) : oS N A j i k < 5 := by
  cases j with
  | zero => exact hA i k
  | succ j => exact zM_lt _ _ _ _ _
theorem oS_k {N : Nat} (hN : N ≤ 4) (A : Nat → Nat → Nat) : ∀ j, fEq N (fun i k => kk (oS N A j i k)) (fP N (fun i j => kk (A i j)) (j + 1)) := by
  intro j
  induction j with
  | zero =>
    intro i k hi hk
    exact (fM_idL hN (fun i j => kk (A i j)) hi).symm
  | succ j ih =>
    intro i k hi hk
    show kk (zM N (oS N A j) A i k) = fM N (fP N (fun i j => kk (A i j)) (j + 1)) (fun i j => kk (A i j)) i k
    rw [kk_zM]
    exact fM_eqL _ ih hi
theorem oS_ex {N : Nat} (h1 : 1 ≤ N) (h4 : N ≤ 4) {A : Nat → Nat → Nat} (hA : ∀ i k, A i k < 5) (hd : dtA A N ≠ 0) : ∃ j, (j < 624 ∧ isI N (oS N A j)) ∧ ∀ j', j' < j → ¬ isI N (oS N A j') := by
  obtain ⟨d, hd1, hd2⟩ := ord_ex A h1 h4 hd
  have hI : isI N (oS N A d) := by
    intro i k hi hk
    apply kk_inj (oS_lt hA d i k) (by split <;> decide)
    have := oS_k h4 A d i k hi hk
    dsimp only at this
    rw [this, hd2 i k hi hk]
    dsimp only
    split <;> rfl
  obtain ⟨j, hj, hl⟩ := pk_least (fun j => isI N (oS N A j)) ⟨d, hI⟩
  refine ⟨j, ⟨?_, hj⟩, hl⟩
  by_cases e : j < 624
  · exact e
  · exact absurd hI (hl d (by omega))
theorem xs_order {post : Int32 → SX → Prop} {N r j0 : Nat} {c m f : Nat → Nat} {A : Nat → Nat → Nat} (hN : N ≤ 4) (hr : r < 4) (hc : ∀ j, c j < 5) (hA : zHas c N r A) (hW : zHas c N 4 A) (hj : j0 < 624) (hI : isI N (oS N A j0)) (hl : ∀ j', j' < j0 → ¬ isI N (oS N A j'))
    (H : ∀ c' : Nat → Nat, (∀ j, j < 64 → c' j = c j) → (∀ j, c' j < 5) → post (nI (j0 + 1)) (zX N c' m f)) :
    ∃ n31, wX_order_31 post (nI r) n31 1 (nI N) (zA c) (zA m) (zA f) := by
  have hsq := zi_sq hN
  have tr : ∀ (s : Nat → Nat) (X : Nat → Nat → Nat), zHas s N 4 X → ((∀ i k, i < N → k < N → s (16 * 4 + (N * i + k)) = if i = k then 1 else 0) ↔ isI N X) := by
    intro s X hX
    refine ⟨fun h i k hi hk => ?_, fun h i k hi hk => ?_⟩
    · rw [← hX i k hi hk]; exact h i k hi hk
    · rw [hX i k hi hk]; exact h i k hi hk
  refine loop_0 (fun n i (s : Nat → Nat) => wX_order_31 post (nI r) n (nI (i + 1)) (nI N) (zA s) (zA m) (zA f))
    (fun i s => (∀ j, j < 64 → s j = c j) ∧ (∀ j, s j < 5) ∧ zHas s N 4 (oS N A i)) j0 c ⟨fun _ _ => rfl, hc, hW⟩ ?_ ?_
  · intro n s hS
    refine br_f (nI_ge (b := 1000000) (by omega) (by decide)) ?_
    refine xs_isId (s := 4) hN (by omega) hS.2.1 (fun _ => br_f zf1 (H s hS.1 hS.2.1)) (fun z => absurd ((tr s _ hS.2.2).mpr hI) z)
  · intro n i s hi hS ih
    refine br_f (nI_ge (b := 1000000) (by omega) (by decide)) ?_
    refine xs_isId (s := 4) hN (by omega) hS.2.1 (fun z => absurd ((tr s _ hS.2.2).mp z) (hl i hi)) (fun _ => br_t rfl ?_)
    refine xs_mul (d := 4) (a := 4) (b := r) hN (by omega) (by omega) (by omega) hS.2.1 ?_
    intro c' q1 q2 q3
    refine nm_r (nI_1 (i + 1)) (ih c' ⟨?_, q2, ?_⟩)
    · intro j hj
      rw [q1 j (by omega) (by omega)]; exact hS.1 j hj
    · intro i' k' hi' hk'
      rw [q3 i' k' hi' hk']
      exact zP_M hS.2.2 (zHas_of hA (fun t ht => hS.1 _ (by omega))) hi' hk'
theorem ys_o41 {post : Int32 → SY → Prop} {J : Int32 → Int32 → (Nat → Int32) → (Nat → Int32) → (Nat → Int32) → (Nat → Int32) → (Nat → Int32) → (Nat → Int32) → (Nat → Int32) → (Nat → Int32) → Prop} {x2 : Int32} {N r : Nat} {g : Nat → Nat} {mn te dv ot fc kp rw : Nat → Nat} (hN : N ≤ 4) (hg : ∀ j, g j < 5)
    (H1 : (∀ t, t < N * N → g (64 + t) = if t % (N + 1) = 0 then 1 else 0) → post x2 (zY N g mn te dv ot fc kp rw))
    (H0 : (¬ ∀ t, t < N * N → g (64 + t) = if t % (N + 1) = 0 then 1 else 0) → wpY_multiply (fun u => match u with | (f_n_37, a_regs_38, a_minor_39, a_term_40, a_divisor_41, a_other_42, a_factors_43, a_kept_44, a_rows_45) => (wpY_copy (fun u => match u with | (f_n_47, a_regs_48, a_minor_49, a_term_50, a_divisor_51, a_other_52, a_factors_53, a_kept_54, a_rows_55) => (∀ x2_56 : Int32, x2_56 = x2 + 1 → (J x2_56 f_n_47 a_regs_48 a_minor_49 a_term_50 a_divisor_51 a_other_52 a_factors_53 a_kept_54 a_rows_55))) (f_n_37, a_regs_38, a_minor_39, a_term_40, a_divisor_41, a_other_42, a_factors_43, a_kept_44, a_rows_45) 4 5)) (zY N g mn te dv ot fc kp rw) 4 (nI r)) :
    ∃ n41, wY_order_41 post J (nI r) x2 (nI N) (zA g) (zA mn) (zA te) (zA dv) (zA ot) (zA fc) (zA kp) (zA rw) n41 1 0 := by
  have hsq := zi_sq hN
  refine loop_0 (fun n t (q : Nat) => wY_order_41 post J (nI r) x2 (nI N) (zA g) (zA mn) (zA te) (zA dv) (zA ot) (zA fc) (zA kp) (zA rw) n (nI q) (nI t))
    (fun t q => q < 2 ∧ (q = 1 ↔ ∀ t', t' < t → g (64 + t') = if t' % (N + 1) = 0 then 1 else 0)) (N * N) 1 ⟨by decide, fun _ t' h => absurd h (by omega), fun _ => rfl⟩ ?_ ?_
  · intro n q hI
    refine br_t (by rw [pk_mul]; exact nI_le (Nat.le_refl _) (by omega)) (pk_eq q 0 ?_ ?_ (ha := by have := hI.1; omega))
    · intro e
      exact H0 (fun z => absurd (hI.2.mpr z) (by omega))
    · intro e
      exact H1 (hI.2.mp (by have := hI.1; omega))
  · intro n t q ht hI ih
    have gt := hg (64 + t)
    have step : ∀ z : Nat, z < 5 → (z = if t % (N + 1) = 0 then 1 else 0) → wY_order_82 post J (wY_order_41 post J (nI r) x2 (nI N) (zA g) (zA mn) (zA te) (zA dv) (zA ot) (zA fc) (zA kp) (zA rw) n) (nI r) x2 (nI q) (nI t) (nI z) (nI (g (64 + t))) (nI N) (zA g) (zA mn) (zA te) (zA dv) (zA ot) (zA fc) (zA kp) (zA rw) := by
      intro z hz ez
      unfold wY_order_82
      refine pk_eq (g (64 + t)) z ?_ ?_
      · intro e
        refine nm_r (nI_1 t) (ih q ⟨hI.1, ?_⟩)
        rw [hI.2]
        refine ⟨fun h t' ht' => ?_, fun h t' ht' => h t' (by omega)⟩
        by_cases e' : t' = t
        · subst e'; rw [e, ez]
        · exact h t' (by omega)
      · intro e
        refine nm_r (nI_1 t) (ih 0 ⟨by decide, fun z => absurd z (by decide), fun h => ?_⟩)
        exact absurd (by rw [h t (by omega), ez]) e
    refine br_f (by rw [pk_mul]; exact nI_ge ht (by omega)) ?_
    rw [z64a, nI_clamp (by omega), zA_at, nI_1, pk_rem (by omega) (by omega) (by omega)]
    refine ⟨vp_in_nI (by omega) (by decide), nI_ne0 (by omega) (by omega), pk_eq (t % (N + 1)) 0 ?_ ?_ (ha := Nat.lt_of_le_of_lt (Nat.mod_le _ _) (by omega))⟩
    · intro e
      exact step 1 (by decide) (by rw [if_pos e])
    · intro e
      exact step 0 (by decide) (by rw [if_neg e])
theorem ys_order {post : Int32 → SY → Prop} {N r j0 : Nat} {g : Nat → Nat} {mn te dv ot fc kp rw : Nat → Nat} {A : Nat → Nat → Nat} (hN : N ≤ 4) (hr : r < 4) (hg : ∀ j, g j < 5) (hA : zHas g N r A) (hW : zHas g N 4 A) (hj : j0 < 624) (hI : isI N (oS N A j0)) (hl : ∀ j', j' < j0 → ¬ isI N (oS N A j'))
    (H : ∀ g' : Nat → Nat, (∀ j, j < 64 → g' j = g j) → (∀ j, g' j < 5) → post (nI (j0 + 1)) (zY N g' mn te dv ot fc kp rw)) :
    ∃ n29, wY_order_29 post (nI r) n29 1 (nI N) (zA g) (zA mn) (zA te) (zA dv) (zA ot) (zA fc) (zA kp) (zA rw) := by
  have hsq := zi_sq hN
  have tr : ∀ (s : Nat → Nat) (X : Nat → Nat → Nat), zHas s N 4 X → ((∀ t, t < N * N → s (64 + t) = if t % (N + 1) = 0 then 1 else 0) ↔ isI N X) := by
    intro s X hX
    refine ⟨fun h i k hi hk => ?_, fun h t ht => ?_⟩
    · rw [← hX i k hi hk]
      show s (64 + (N * i + k)) = _
      rw [h _ (zi_lt hi hk)]
      have := zdiag N hN i hi k hk
      by_cases e : i = k
      · rw [if_pos e, if_pos (this.mpr e)]
      · rw [if_neg e, if_neg (fun z => e (this.mp z))]
    · obtain ⟨i, k, hi, hk, rfl⟩ := zij ht
      show s (16 * 4 + (N * i + k)) = _
      rw [hX i k hi hk, h i k hi hk]
      have := zdiag N hN i hi k hk
      by_cases e : i = k
      · rw [if_pos e, if_pos (this.mpr e)]
      · rw [if_neg e, if_neg (fun z => e (this.mp z))]
  refine loop_0 (fun n i (s : Nat → Nat) => wY_order_29 post (nI r) n (nI (i + 1)) (nI N) (zA s) (zA mn) (zA te) (zA dv) (zA ot) (zA fc) (zA kp) (zA rw))
    (fun i s => (∀ j, j < 64 → s j = g j) ∧ (∀ j, s j < 5) ∧ zHas s N 4 (oS N A i)) j0 g ⟨fun _ _ => rfl, hg, hW⟩ ?_ ?_
  · intro n s hS
    refine br_f (nI_nlt (a := 624) (by omega) (by decide)) ?_
    exact ys_o41 hN hS.2.1 (fun _ => H s hS.1 hS.2.1) (fun z => absurd ((tr s _ hS.2.2).mpr hI) z)
  · intro n i s hi hS ih
    refine br_f (nI_nlt (a := 624) (by omega) (by decide)) ?_
    refine ys_o41 hN hS.2.1 (fun z => absurd ((tr s _ hS.2.2).mp z) (hl i hi)) (fun _ => ?_)
    refine ys_mul (a := 4) (b := r) hN (by omega) (by omega) hS.2.1 ?_
    intro s1 q1 q2 q3
    refine ys_copy (d := 4) (a := 5) (by omega) (by omega) (by omega) ?_
    intro s2 t1 t2
    refine nm_r (nI_1 (i + 1)) (ih s2 ⟨?_, ycp5 (e := 5) q2 t1 t2, ?_⟩)
    · intro j hj
      rw [t1 j (by omega), q1 j (by omega)]; exact hS.1 j hj
    · intro i' k' hi' hk'
      have := zi_lt hi' hk'
      rw [t2 _ (by omega)]
      show s1 (80 + (N * i' + k')) = _
      rw [q3 i' k' hi' hk']
      exact zP_M hS.2.2 (zHas_of hA (fun t ht => hS.1 _ (by omega))) hi' hk'
theorem i_vc_order {k : Nat} {u : SX} {v : SY} (I : i_Rel k u v) (hk : k + 5 ≤ 2561) (v1 : Int32) : wpX_order (fun r u' => wpY_order (fun r' v' => r' = r ∧ i_Rel (k + 5) u' v') v v1) u v1 := by
  obtain ⟨N, c, m, f, g, mn, te, dv, ot, fc, kp, rw, rfl, rfl, h1, h4, hc, hg, h⟩ := I
  have hsq := zi_sq h4
  unfold wpX_order wpY_order; dsimp only
  rcases zout v1 (n := 4) (by decide) with ⟨r, hr, rfl⟩ | o1
  · refine xr_ok hr (br_f zf1 (xs_char h4 (by omega) hc ?_))
    intro m' p p1 p2
    have hb5 : (5 : Nat) ^ (N + 1) ≤ 5 ^ 5 := Nat.pow_le_pow_right (by decide) (by omega)
    have h55 : (5 : Nat) ^ 5 = 3125 := rfl
    have e0 := p2 0 (by decide)
    rw [ch_0 _ h4, zrel h hr] at e0
    have ev0 : kk (p % 5) = pd p 0 := by
      rw [kk_mod]; unfold pd; rw [Nat.pow_zero, Nat.div_one]
    have hp5 : p % 5 < 5 := Nat.mod_lt _ (by decide)
    refine ⟨zf5, nm_r (z5r (by omega)) (pk_eq (p % 5) 0 ?_ ?_)⟩
    · intro ez
      have hd0 : dtA (zSl g N r) N = 0 := by
        rw [ez, e0] at ev0
        exact (spw_z h4 _).mp ev0.symm
      refine yr_ok hr (br_f zf1 (ys_det h4 (by omega) hg ?_))
      intro mn' te'
      rw [hd0]
      exact br_t rfl ⟨rfl, zR h1 h4 hc hg h⟩
    · intro enz
      have hdn : dtA (zSl g N r) N ≠ 0 := by
        intro z
        rw [z] at e0
        have : kk (p % 5) = kk 0 := by rw [ev0, e0, kk_0]; grind
        exact enz (kk_inj hp5 (by decide) this)
      obtain ⟨j0, ⟨hj, hI⟩, hl⟩ := oS_ex h1 h4 (zSl_lt hg N r) hdn
      refine xs_copy (d := 4) h4 (by omega) (by omega) (by omega) ?_
      intro c1 q1 q2
      have hA1 : zHas c1 N r (zSl g N r) := by
        rw [← zrel h hr]
        exact zHas_of (zHas_sl c N r) (fun t ht => q1 _ (by omega))
      have hW1 : zHas c1 N 4 (zSl g N r) := by
        rw [← zrel h hr]
        exact zHas_of (zHas_sl c N r) (fun t ht => q2 t ht)
      refine xs_order h4 hr (xcp5 hc q1 q2) hA1 hW1 hj hI hl ?_
      intro c' r1 r2
      refine yr_ok hr (br_f zf1 (ys_det h4 (by omega) hg ?_))
      intro mn' te'
      have Dn : (dtA (zSl g N r) N).val ≠ 0 := fun z => hdn (Fin.ext z)
      have Dl := (dtA (zSl g N r) N).isLt
      refine br_f (nI_ne0 (by omega) (by omega)) ?_
      refine ys_copy (d := 4) (by omega) (by omega) (by omega) ?_
      intro g1 p3 p4
      have hA2 : zHas g1 N r (zSl g N r) := zHas_of (zHas_sl g N r) (fun t ht => p3 _ (by omega))
      have hW2 : zHas g1 N 4 (zSl g N r) := zHas_of (zHas_sl g N r) (fun t ht => p4 t (by omega))
      refine ys_order h4 hr (ycp5 hg p3 p4) hA2 hW2 hj hI hl ?_
      intro g' s1 s2
      refine ⟨rfl, zR h1 h4 r2 s2 ?_⟩
      intro r' t hr' ht
      rw [r1 _ (by omega), q1 _ (by omega), s1 _ (by omega), p3 _ (by omega)]
      exact h r' t hr' ht
  · exact xr_no o1 (br_t rfl (yr_no o1 (br_t rfl ⟨rfl, zR h1 h4 hc hg h⟩)))
end
section
/-! polynomials as numbers: degree, ideals, the component's common divisor -/
def dg (p : Nat) : Nat := if p < 5 then 0 else if p < 25 then 1 else if p < 125 then 2 else if p < 625 then 3 else 4
theorem dg_4 (p : Nat) : dg p ≤ 4 := by
  unfold dg; repeat' split
  all_goals omega
theorem dg_lt {p : Nat} (h : p < 3125) : p < 5 ^ (dg p + 1) := by
  unfold dg; repeat' split
  all_goals (simp only [Nat.reduceAdd, Nat.reducePow]; omega)
theorem dg_ge {p : Nat} (h0 : p ≠ 0) : 5 ^ dg p ≤ p := by
  unfold dg; repeat' split
  all_goals (simp only [Nat.reducePow]; omega)
theorem dg_of {p j : Nat} (h4 : j ≤ 4) (h1 : p < 5 ^ (j + 1)) (h2 : j = 0 ∨ 5 ^ j ≤ p) : dg p = j := by
  unfold dg
  match j, h4 with
  | 0, _ => rw [if_pos (by simpa using h1)]
  | 1, _ => simp only [Nat.reduceAdd, Nat.reducePow] at h1 h2; rw [if_neg (by omega), if_pos (by omega)]
  | 2, _ => simp only [Nat.reduceAdd, Nat.reducePow] at h1 h2; rw [if_neg (by omega), if_neg (by omega), if_pos (by omega)]
  | 3, _ => simp only [Nat.reduceAdd, Nat.reducePow] at h1 h2; rw [if_neg (by omega), if_neg (by omega), if_neg (by omega), if_pos (by omega)]
  | 4, _ => simp only [Nat.reduceAdd, Nat.reducePow] at h1 h2; rw [if_neg (by omega), if_neg (by omega), if_neg (by omega), if_neg (by omega)]
theorem dg_mono {p q : Nat} (h : p ≤ q) : dg p ≤ dg q := by
  unfold dg; repeat' split
  all_goals omega
theorem dg_le {p j : Nat} (h : p < 5 ^ (j + 1)) : dg p ≤ j := by
  by_cases e : j ≤ 4
  · have := dg_mono (show p ≤ 5 ^ (j + 1) - 1 by omega)
    match j, e with
    | 0, _ => exact this
    | 1, _ => exact this
    | 2, _ => exact this
    | 3, _ => exact this
    | 4, _ => exact this
  · have := dg_4 p
    omega
theorem xs_top {post : Int32 → Prop} {p : Nat} (hp : p < 3125) (H : post (nI (5 ^ dg p))) : wpX_topPlace post (nI p) := by
  show ∃ n4, wX_topPlace_4 post (nI p) n4 1 1
  refine pk_loop (fun n i (j : Nat) => wX_topPlace_4 post (nI p) n (nI (5 ^ j)) (nI i))
    (fun i j => 1 ≤ i ∧ j ≤ i - 1 ∧ (p < 5 ^ (j + 1) ∨ j = i - 1) ∧ (j = 0 ∨ 5 ^ j ≤ p)) 5 1 0 (by omega) ⟨by omega, by omega, Or.inr rfl, Or.inl rfl⟩ ?_ ?_
  · intro n j hI
    refine br_t (nI_le (a := 5) (Nat.le_refl _) (by omega)) ?_
    have : p < 5 ^ (j + 1) := by
      rcases hI.2.2.1 with h | h
      · exact h
      · rw [h]; exact hp
    rw [← dg_of (by omega) this hI.2.2.2]
    exact H
  · intro n i j hi hI ih
    have h5 : 5 ^ (j + 1) ≤ 3125 := (pow5 (j + 1) (by omega)).2
    refine br_f (nI_ge (b := 5) hi (by omega)) ?_
    rw [zm5, ← Nat.pow_succ]
    refine pk_lt p (5 ^ (j + 1)) ?_ ?_
    · intro e
      exact nm_r (nI_1 i) (ih j ⟨by omega, by omega, Or.inl e, hI.2.2.2⟩)
    · intro e
      refine nm_r (e' := nI (5 ^ (j + 1))) rfl (nm_r (nI_1 i) (ih (j + 1) ⟨by omega, by omega, Or.inr ?_, Or.inr e⟩))
      rcases hI.2.2.1 with h | h <;> omega
theorem dg_cnt : ∀ p, p < 3125 → zs (fun t => if 0 < p / 5 ^ (t + 1) then 1 else 0) 4 = dg p := by
  intro p hp
  show 0 + (if 0 < p / 5 ^ (0 + 1) then 1 else 0) + (if 0 < p / 5 ^ (1 + 1) then 1 else 0) + (if 0 < p / 5 ^ (2 + 1) then 1 else 0) + (if 0 < p / 5 ^ (3 + 1) then 1 else 0) = dg p
  simp only [Nat.reduceAdd, Nat.reducePow]
  unfold dg
  repeat' split
  all_goals omega
theorem xs_degree {post : Int32 → Prop} {p : Nat} (hp : p < 3125) (H : post (nI (dg p))) : wpX_degree post (nI p) := by
  unfold wpX_degree
  refine ⟨zf5, nm_r (z5d (by omega)) ?_⟩
  have hb : ∀ i, zs (fun t => if 0 < p / 5 ^ (t + 1) then 1 else 0) i ≤ i := fun i => zs_le1 (fun t => by split <;> decide) i
  refine pk_loop (fun n i (q : Nat × Nat) => wX_degree_8 post n (nI q.1) (nI q.2) (nI i))
    (fun i q => 1 ≤ i ∧ q.2 = p / 5 ^ i ∧ q.1 = zs (fun t => if 0 < p / 5 ^ (t + 1) then 1 else 0) (i - 1)) 5 1 (0, p / 5) (by omega) ⟨by omega, by rw [Nat.pow_one], rfl⟩ ?_ ?_
  · intro n q hI
    refine br_t (nI_le (a := 5) (Nat.le_refl _) (by omega)) ?_
    rw [hI.2.2, dg_cnt p hp]
    exact H
  · intro n i q hi hI ih
    obtain ⟨i', rfl⟩ : ∃ i', i = i' + 1 := ⟨i - 1, by have := hI.1; omega⟩
    have e1 : q.1 = zs (fun t => if 0 < p / 5 ^ (t + 1) then 1 else 0) i' := hI.2.2
    have e2 : q.2 = p / 5 ^ (i' + 1) := hI.2.1
    have b1 := hb i'
    have b2 : q.2 ≤ p := by rw [e2]; exact Nat.div_le_self _ _
    have e3 : q.2 / 5 = p / 5 ^ (i' + 1 + 1) := by
      rw [e2, Nat.div_div_eq_div_mul, Nat.pow_succ 5 (i' + 1)]
    refine br_f (nI_ge (b := 5) hi (by omega)) (pk_le q.2 0 ?_ ?_)
    · intro e
      refine ⟨zf5, nm_r (z5d (by omega)) (nm_r (nI_1 (i' + 1)) (ih (q.1, q.2 / 5) ⟨by omega, e3, ?_⟩))⟩
      show q.1 = zs (fun t => if 0 < p / 5 ^ (t + 1) then 1 else 0) i' + (if 0 < p / 5 ^ (i' + 1) then 1 else 0)
      rw [if_neg (by omega), e1]; rfl
    · intro e
      refine nm_r (nI_1 q.1) ⟨zf5, nm_r (z5d (by omega)) (nm_r (nI_1 (i' + 1)) (ih (q.1 + 1, q.2 / 5) ⟨by omega, e3, ?_⟩))⟩
      show q.1 + 1 = zs (fun t => if 0 < p / 5 ^ (t + 1) then 1 else 0) i' + (if 0 < p / 5 ^ (i' + 1) then 1 else 0)
      rw [if_pos (by omega), e1]
def Idl (P : Nat → Prop) : Prop := P 0 ∧ (∀ p q s, p < 3125 → q < 3125 → s ≤ 5 → P p → P q → P (pm p s q)) ∧ (∀ p, p < 625 → P p → P (5 * p))
theorem Idl_sh {P : Nat → Prop} (hP : Idl P) {q : Nat} (hq : P q) : ∀ j, q * 5 ^ j < 3125 → P (q * 5 ^ j) := by
  intro j
  induction j with
  | zero => intro _; rw [Nat.pow_zero, Nat.mul_one]; exact hq
  | succ j ih =>
    intro h
    have e : q * 5 ^ (j + 1) = 5 * (q * 5 ^ j) := by rw [Nat.pow_succ, ← Nat.mul_assoc, Nat.mul_comm]
    rw [e] at h ⊢
    exact hP.2.2 _ (by omega) (ih (by omega))
theorem pd_sh (q : Nat) : ∀ j k, pd (q * 5 ^ j) k = if k < j then 0 else pd q (k - j) := by
  intro j
  induction j with
  | zero => intro k; rw [Nat.pow_zero, Nat.mul_one, if_neg (by omega)]; rfl
  | succ j ih =>
    intro k
    have e : q * 5 ^ (j + 1) = 5 * (q * 5 ^ j) := by rw [Nat.pow_succ, ← Nat.mul_assoc, Nat.mul_comm]
    rw [e, pd_5]
    cases k with
    | zero => rw [if_pos (by omega)]; rfl
    | succ k =>
      show pd (q * 5 ^ j) k = _
      rw [ih k]
      by_cases h : k < j
      · rw [if_pos h, if_pos (by omega)]
      · rw [if_neg h, if_neg (by omega), show k + 1 - (j + 1) = k - j by omega]
theorem pm_back {p s q : Nat} (hp : p < 3125) (hs : s ≤ 5) : pm (pm p s q) (5 - s) q = p := by
  refine pd_inj (pm_lt _ _ _) hp (fun k hk => ?_)
  rw [pd_pm _ _ _ _ hk, pd_pm _ _ _ _ hk, kk_5s hs]
  grind
/-- the leading coefficient -/
def ld (p : Nat) : Nat := p / 5 ^ dg p
theorem ld_in {p : Nat} (h : p < 3125) (h0 : p ≠ 0) : 0 < ld p ∧ ld p < 5 := by
  have h1 := dg_lt h
  have h2 := dg_ge h0
  have h3 := (pow5 (dg p) (by have := dg_4 p; omega)).1
  unfold ld
  refine ⟨Nat.div_pos h2 h3, ?_⟩
  rw [Nat.div_lt_iff_lt_mul h3]
  rw [Nat.pow_succ] at h1
  omega
theorem ld_lt {p : Nat} (h : p < 3125) : ld p < 5 := by
  by_cases e : p = 0
  · subst e; decide
  · exact (ld_in h e).2
theorem ld_k {p : Nat} (h : p < 3125) (h0 : p ≠ 0) : kk (ld p) ≠ 0 := by
  obtain ⟨h1, h2⟩ := ld_in h h0
  intro z
  have := kk_inj h2 (by decide : 0 < 5) (by rw [z]; rfl)
  omega
theorem pd_ld (p : Nat) : pd p (dg p) = kk (ld p) := rfl
theorem pd_gt {p k : Nat} (h : p < 3125) (hk : dg p < k) : pd p k = 0 := pd_hi (dg_lt h) hk
theorem inv_k {a : Nat} (h : kk a ≠ 0) : kk (a * a * a % 5) * kk a = 1 := by
  rw [kk_mod, kk_mul, kk_mul]
  have := kt_inv _ h
  grind
/-- one step of the division -/
def stp (a b : Nat) : Nat := pm a ((5 - ld a) * (ld b * ld b * ld b % 5) % 5) (b * 5 ^ (dg a - dg b))
theorem stp_q {a b : Nat} (ha : a < 3125) (hb : b < 3125) (hd : dg b ≤ dg a) : b * 5 ^ (dg a - dg b) < 3125 := by
  have h1 := dg_lt hb
  have h2 := dg_4 a
  have : b * 5 ^ (dg a - dg b) < 5 ^ (dg b + 1) * 5 ^ (dg a - dg b) := Nat.mul_lt_mul_of_pos_right h1 (Nat.pow_pos (by decide))
  rw [← Nat.pow_add] at this
  have h3 : (5 : Nat) ^ (dg b + 1 + (dg a - dg b)) ≤ 5 ^ 5 := Nat.pow_le_pow_right (by decide) (by omega)
  have h4 : (5 : Nat) ^ 5 = 3125 := rfl
  omega
theorem stp_lt {a b : Nat} (ha : a < 3125) (hb : b < 3125) (hb0 : b ≠ 0) (hd : dg b ≤ dg a) : stp a b < 5 ^ dg a := by
  have h4 := dg_4 a
  refine pd_ltp (pm_lt _ _ _) (by omega) ?_
  intro k k1 k5
  unfold stp
  rw [pd_pm _ _ _ _ k5, pd_sh, if_neg (by omega)]
  by_cases e : k = dg a
  · subst e
    rw [show dg a - (dg a - dg b) = dg b by omega, pd_ld, pd_ld, kk_mod, kk_mul, kk_5s (by have := ld_lt ha; omega)]
    have := inv_k (ld_k hb hb0)
    grind
  · rw [pd_gt ha (by omega), pd_gt hb (by omega)]
    grind
theorem stp_I {P : Nat → Prop} (hP : Idl P) {a b : Nat} (ha : a < 3125) (hb : b < 3125) (hd : dg b ≤ dg a) (hPb : P b) : P (stp a b) ↔ P a := by
  have hq := stp_q ha hb hd
  have hPq := Idl_sh hP hPb _ hq
  have hs : (5 - ld a) * (ld b * ld b * ld b % 5) % 5 < 5 := Nat.mod_lt _ (by decide)
  refine ⟨fun h => ?_, fun h => hP.2.1 _ _ _ ha hq (by omega) h hPq⟩
  have := hP.2.1 _ _ _ (pm_lt _ _ _) hq (show 5 - (5 - ld a) * (ld b * ld b * ld b % 5) % 5 ≤ 5 by omega) h hPq
  unfold stp at this
  rwa [pm_back ha (by omega)] at this
/-- number of digits -/
def nd (p : Nat) : Nat := if p = 0 then 0 else dg p + 1
theorem nd_5 (p : Nat) : nd p ≤ 5 := by
  unfold nd; have := dg_4 p; split <;> omega
theorem nd_lt {p j : Nat} (h : p < 5 ^ j) : nd p ≤ j := by
  unfold nd
  split
  · omega
  · rename_i e
    cases j with
    | zero => simp at h; exact absurd h e
    | succ j => have := dg_le h; omega
/-- 0 or with leading coefficient 1 -/
def mon (p : Nat) : Prop := p = 0 ∨ ld p = 1
theorem nrm {a : Nat} (ha : a < 3125) : mon (pm 0 (ld a * ld a * ld a % 5) a) ∧ (∀ P, Idl P → (P (pm 0 (ld a * ld a * ld a % 5) a) ↔ P a)) := by
  have hl : ld a * ld a * ld a % 5 < 5 := Nat.mod_lt _ (by decide)
  by_cases e : a = 0
  · subst e
    have e0 : pm 0 (ld 0 * ld 0 * ld 0 % 5) 0 = 0 := by decide
    rw [e0]
    exact ⟨Or.inl rfl, fun P hP => Iff.rfl⟩
  · have hk := ld_k ha e
    have hi := inv_k hk
    have h4 := dg_4 a
    have hz : ∀ k, pd 0 k = 0 := fun k => by unfold pd; rw [Nat.zero_div]; rfl
    have hd : ∀ k, k < 5 → pd (pm 0 (ld a * ld a * ld a % 5) a) k = kk (ld a * ld a * ld a % 5) * pd a k := by
      intro k hk
      rw [pd_pm _ _ _ _ hk, hz]; grind
    have hlt : pm 0 (ld a * ld a * ld a % 5) a < 5 ^ (dg a + 1) := by
      refine pd_ltp (pm_lt _ _ _) (by omega) (fun k k1 k5 => ?_)
      rw [hd k k5, pd_gt ha (by omega)]; grind
    have hld : pd (pm 0 (ld a * ld a * ld a % 5) a) (dg a) = 1 := by
      rw [hd _ (by omega), pd_ld]; exact hi
    generalize hb : pm 0 (ld a * ld a * ld a % 5) a = b at *
    have hb3 : b < 3125 := by rw [← hb]; exact pm_lt _ _ _
    have hge : 5 ^ dg a ≤ b := by
      refine Nat.le_of_not_lt (fun z => ?_)
      rw [pd_hi z (Nat.le_refl _)] at hld
      exact absurd hld (by decide)
    have hdg : dg b = dg a := dg_of h4 hlt (Or.inr hge)
    refine ⟨Or.inr ?_, fun P hP => ⟨fun h => ?_, fun h => ?_⟩⟩
    · have : kk (ld b) = kk 1 := by rw [← pd_ld, hdg, hld]; rfl
      exact kk_inj (ld_lt hb3) (by decide) this
    · have := hP.2.1 0 b (ld a) (by decide) hb3 (by have := ld_lt ha; omega) hP.1 h
      have e2 : pm 0 (ld a) b = a := by
        refine pd_inj (pm_lt _ _ _) ha (fun k hk => ?_)
        rw [pd_pm _ _ _ _ hk, hz, hd k hk]
        grind
      rwa [e2] at this
    · rw [← hb]
      exact hP.2.1 _ _ _ (by decide) ha (by omega) hP.1 h
theorem xs_recip {post : Int32 → Prop} {a : Nat} (ha : a < 5) (H : post (nI (a * a * a % 5))) : wpX_reciprocal post (nI a) := by
  have l1 : a * a ≤ 4 * 4 := Nat.mul_le_mul (by omega) (by omega)
  have l2 : a * a * a ≤ 16 * 4 := Nat.mul_le_mul l1 (by omega)
  unfold wpX_reciprocal
  refine ⟨zf5, ?_⟩
  rw [pk_mul, pk_mul, z5r (by omega)]
  exact H
theorem xs_gcd85 {post : Int32 → Prop} {a : Nat} (ha : a < 3125) (H : post (nI (pm 0 (ld a * ld a * ld a % 5) a))) : wX_commonDivisor_85 post (nI a) := by
  unfold wX_commonDivisor_85
  have h4 := dg_4 a
  obtain ⟨g1, g2⟩ := pow5 (dg a) (by omega)
  have hl : ld a * ld a * ld a % 5 < 5 := Nat.mod_lt _ (by decide)
  refine xs_top ha ⟨nI_ne0 g1 (by omega), nm_r (e' := nI (ld a)) (pk_div (by omega) g1 (by omega)) ?_⟩
  refine xs_recip (ld_lt ha) ?_
  exact xs_pm (by decide) (by omega) ha H
theorem xs_gcd {post : Int32 → Prop} {p q : Nat} (hp : p < 3125) (hq : q < 3125)
    (H : ∀ g, g < 3125 → mon g → (∀ P, Idl P → (P g ↔ P p ∧ P q)) → post (nI g)) : wpX_commonDivisor post (nI p) (nI q) := by
  show ∃ n7, wX_commonDivisor_7 post n7 (nI p) (nI q) 0
  have fin : ∀ a, a < 3125 → (∀ P, Idl P → (P a ↔ P p ∧ P q)) → wX_commonDivisor_85 post (nI a) := by
    intro a ha hI
    obtain ⟨n1, n2⟩ := nrm ha
    exact xs_gcd85 ha (H _ (pm_lt _ _ _) n1 (fun P hP => (n2 P hP).trans (hI P hP)))
  have body : ∀ n i a b, a < 3125 → b < 3125 → b ≤ a → nd a + nd b + i ≤ 10 → (∀ P, Idl P → (P a ∧ P b ↔ P p ∧ P q)) →
      (∀ a' b', a' < 3125 → b' < 3125 → nd a' + nd b' + (i + 1) ≤ 10 → nd a' + nd b' < nd a + nd b → (∀ P, Idl P → (P a' ∧ P b' ↔ P p ∧ P q)) → wX_commonDivisor_7 post n (nI a') (nI b') (nI (i + 1))) →
      wX_commonDivisor_28 post (wX_commonDivisor_7 post n) (nI a) (nI b) (nI i) := by
    intro n i a b ha hb hba hm hI ih
    unfold wX_commonDivisor_28
    refine pk_eq b 0 ?_ ?_
    · intro e
      refine fin a ha (fun P hP => ?_)
      rw [← hI P hP, e]
      exact ⟨fun h => ⟨h, hP.1⟩, fun h => h.1⟩
    · intro e
      have a0 : a ≠ 0 := by omega
      have ha4 := dg_4 a
      have hb4 := dg_4 b
      have hd := dg_mono hba
      obtain ⟨g1, g2⟩ := pow5 (dg a) (by omega)
      obtain ⟨g3, g4⟩ := pow5 (dg b) (by omega)
      have lb := ld_lt hb
      have la := ld_lt ha
      have hl : ld b * ld b * ld b % 5 < 5 := Nat.mod_lt _ (by decide)
      have hl2 : (5 - ld a) * (ld b * ld b * ld b % 5) ≤ 5 * 4 := Nat.mul_le_mul (by omega) (by omega)
      have hsq := stp_q ha hb hd
      refine xs_top ha (xs_top hb ⟨nI_ne0 g1 (by omega), nI_ne0 g3 (by omega), ?_⟩)
      rw [pk_div (a := b) (by omega) g3 (by omega)]
      refine xs_recip (a := ld b) lb ⟨zf5, nm_r (e' := nI ((5 - ld a) * (ld b * ld b * ld b % 5) % 5)) ?_ ⟨nI_ne0 g3 (by omega), ?_⟩⟩
      · rw [pk_div (a := a) (by omega) g1 (by omega), show a / 5 ^ dg a = ld a from rfl, z5s (by omega), pk_mul, z5r (by omega)]
      · rw [pk_div (by omega) g3 (by omega), Nat.pow_div hd (by decide), pk_mul]
        have hs5 : (5 - ld a) * (ld b * ld b * ld b % 5) % 5 < 5 := Nat.mod_lt _ (by decide)
        refine xs_pm ha (by omega) hsq (nm_r (nI_1 i) ?_)
        have hlt := stp_lt ha hb e hd
        have hnd : nd (stp a b) < nd a := by
          have := nd_lt hlt
          have : nd a = dg a + 1 := if_neg a0
          omega
        refine ih (stp a b) b (pm_lt _ _ _) hb (by omega) (by omega) (fun P hP => ?_)
        rw [← hI P hP]
        exact ⟨fun h => ⟨(stp_I hP ha hb hd h.2).mp h.1, h.2⟩, fun h => ⟨(stp_I hP ha hb hd h.2).mpr h.1, h.2⟩⟩
  have main : ∀ w n i a b, nd a + nd b ≤ w → w < n → a < 3125 → b < 3125 → nd a + nd b + i ≤ 10 → (∀ P, Idl P → (P a ∧ P b ↔ P p ∧ P q)) → wX_commonDivisor_7 post n (nI a) (nI b) (nI i) := by
    intro w
    induction w with
    | zero =>
      intro n i a b hw hn ha hb hm hI
      obtain ⟨n', rfl⟩ : ∃ n', n = n' + 1 := ⟨n - 1, by omega⟩
      refine br_f (nI_ge (b := 1000) (by omega) (by decide)) (pk_le b a ?_ ?_)
      · intro e
        exact body n' i a b ha hb e hm hI (fun a' b' _ _ _ h => by omega)
      · intro e
        exact body n' i b a hb ha (by omega) (by omega) (fun P hP => by rw [← hI P hP]; exact And.comm) (fun a' b' _ _ _ h => by omega)
    | succ w ih =>
      intro n i a b hw hn ha hb hm hI
      obtain ⟨n', rfl⟩ : ∃ n', n = n' + 1 := ⟨n - 1, by omega⟩
      refine br_f (nI_ge (b := 1000) (by omega) (by decide)) (pk_le b a ?_ ?_)
      · intro e
        exact body n' i a b ha hb e hm hI (fun a' b' h1 h2 h3 h4 h5 => ih n' (i + 1) a' b' (by omega) (by omega) h1 h2 h3 h5)
      · intro e
        exact body n' i b a hb ha (by omega) (by omega) (fun P hP => by rw [← hI P hP]; exact And.comm) (fun a' b' h1 h2 h3 h4 h5 => ih n' (i + 1) a' b' (by omega) (by omega) h1 h2 h3 h5)
  have n1 := nd_5 p
  have n2 := nd_5 q
  exact ⟨11, main 10 11 0 p q (by omega) (by omega) hp hq (by omega) (fun P hP => Iff.rfl)⟩
/-- a k-minor's number -/
def mnum (A : Nat → Nat → Nat) (R C : Nat) : Nat := hrn (fun k => (dtp A (pc R) R C k).val) 5 0
theorem mnum_lt (A : Nat → Nat → Nat) (R C : Nat) : mnum A R C < 3125 := (hrn_pd (fun k _ => (dtp A (pc R) R C k).isLt)).1
theorem mnum_pd (A : Nat → Nat → Nat) (R C : Nat) : ∀ k, k < 5 → pd (mnum A R C) k = dtp A (pc R) R C k := by
  intro k hk
  rw [show pd (mnum A R C) k = kk (dtp A (pc R) R C k).val from (hrn_pd (fun k _ => (dtp A (pc R) R C k).isLt)).2 k hk, kk_fin]
theorem mOK_num {A : Nat → Nat → Nat} {m : Nat → Nat} {R C : Nat} (hR : R < 16) (h : mOK A m R C) : m (16 * R + C) = mnum A R C := by
  have h4 := pc4 R hR
  have : (5 : Nat) ^ (pc R + 1) ≤ 5 ^ 5 := Nat.pow_le_pow_right (by decide) (by omega)
  have h5 : (5 : Nat) ^ 5 = 3125 := rfl
  exact pd_inj (by have := h.1; omega) (mnum_lt _ _ _) (fun k hk => by rw [h.2 k hk, mnum_pd _ _ _ k hk])
/-- D is a monic common divisor of the k-minors, with the same ideals -/
def gD (A : Nat → Nat → Nat) (N k D : Nat) : Prop := D < 3125 ∧ mon D ∧ ∀ P, Idl P → (P D ↔ ∀ R C, R < 2 ^ N → C < 2 ^ N → pc R = k → pc C = k → P (mnum A R C))
theorem xs_div {post : Int32 → Prop} {N k : Nat} {A : Nat → Nat → Nat} {c m f : Nat → Nat} (hN : N ≤ 4) (hk : 1 ≤ k) (hk4 : k ≤ 4) (hm : ∀ R C, R < 2 ^ N → C < 2 ^ N → pc R = pc C → mOK A m R C)
    (H : ∀ D, gD A N k D → post (nI D)) : wpX_divisorOfMinors post (zX N c m f) (nI k) := by
  obtain ⟨w1, w2⟩ := pw2 N (by omega)
  unfold wpX_divisorOfMinors; dsimp only
  refine nm_r (zshl (k := N) (by omega)) ?_
  refine pk_loop (fun n R (D : Nat) => wX_divisorOfMinors_12 post (nI k) (nI (2 ^ N)) (nI N) (zA c) (zA m) (zA f) n (nI D) (nI R))
    (fun R D => 1 ≤ R ∧ D < 3125 ∧ mon D ∧ ∀ P, Idl P → (P D ↔ ∀ R' C', R' < R → R' < 2 ^ N → C' < 2 ^ N → pc R' = k → pc C' = k → P (mnum A R' C'))) (2 ^ N) 1 0 w2 ⟨by omega, by decide, Or.inl rfl, fun P hP => ⟨fun _ R' C' h1 h2 h3 h4 h5 => ?_, fun _ => hP.1⟩⟩ ?_ ?_
  · exfalso
    have : R' = 0 := by omega
    subst this
    have : pc 0 = 0 := rfl
    omega
  · intro n D hI
    exact br_t (nI_le (Nat.le_refl _) (by omega)) (H D ⟨hI.2.1, hI.2.2.1, fun P hP => (hI.2.2.2 P hP).trans ⟨fun h R C hR hC e1 e2 => h R C hR hR hC e1 e2, fun h R C _ hR hC e1 e2 => h R C hR hC e1 e2⟩⟩)
  · intro n R D hR hI ih
    refine br_f (nI_ge hR (by omega)) ?_
    refine pk_loop (fun n' C (D : Nat) => wX_divisorOfMinors_21 post (wX_divisorOfMinors_12 post (nI k) (nI (2 ^ N)) (nI N) (zA c) (zA m) (zA f) n) (nI k) (nI (2 ^ N)) (nI R) (nI N) (zA c) (zA m) (zA f) n' (nI D) (nI C))
      (fun C D => 1 ≤ C ∧ D < 3125 ∧ mon D ∧ ∀ P, Idl P → (P D ↔ ∀ R' C', (R' < R ∨ (R' = R ∧ C' < C)) → R' < 2 ^ N → C' < 2 ^ N → pc R' = k → pc C' = k → P (mnum A R' C'))) (2 ^ N) 1 D w2 ⟨by omega, hI.2.1, hI.2.2.1, fun P hP => (hI.2.2.2 P hP).trans ⟨fun h R' C' h1 h2 h3 h4 h5 => ?_, fun h R' C' h1 h2 h3 h4 h5 => h R' C' (Or.inl h1) h2 h3 h4 h5⟩⟩ ?_ ?_
    · rcases h1 with h1 | ⟨h1, h1'⟩
      · exact h R' C' h1 h2 h3 h4 h5
      · exfalso
        have : C' = 0 := by omega
        subst this
        have : pc 0 = 0 := rfl
        omega
    · intro n' D' hJ
      refine br_t (nI_le (Nat.le_refl _) (by omega)) (nm_r (nI_1 R) (ih D' ⟨by omega, hJ.2.1, hJ.2.2.1, fun P hP => (hJ.2.2.2 P hP).trans ⟨fun h R' C' h1 h2 h3 h4 h5 => h R' C' (by omega) h2 h3 h4 h5, fun h R' C' h1 h2 h3 h4 h5 => h R' C' (by omega) h2 h3 h4 h5⟩⟩))
    · intro n' C D' hC hJ ih'
      refine br_f (nI_ge hC (by omega)) ?_
      refine xs_members (by omega) (xs_members (by omega) ?_)
      have hpR := pc4 R (by omega)
      have hpC := pc4 C (by omega)
      have skip : (pc R ≠ k ∨ pc C ≠ k) → ∀ P, Idl P → (P D' ↔ ∀ R' C', (R' < R ∨ (R' = R ∧ C' < C + 1)) → R' < 2 ^ N → C' < 2 ^ N → pc R' = k → pc C' = k → P (mnum A R' C')) := by
        intro hne P hP
        refine (hJ.2.2.2 P hP).trans ⟨fun h R' C' h1 h2 h3 h4 h5 => ?_, fun h R' C' h1 h2 h3 h4 h5 => h R' C' (by omega) h2 h3 h4 h5⟩
        rcases h1 with h1 | ⟨h1, h1'⟩
        · exact h R' C' (Or.inl h1) h2 h3 h4 h5
        · by_cases e : C' = C
          · subst e; subst h1
            rcases hne with z | z
            · exact absurd h4 z
            · exact absurd h5 z
          · exact h R' C' (Or.inr ⟨h1, by omega⟩) h2 h3 h4 h5
      refine pk_eq (pc R) k ?_ ?_
      · intro e1
        refine pk_eq (pc C) k ?_ ?_
        · intro e2
          have hmm : m (16 * R + C) = mnum A R C := mOK_num (by omega) (hm R C hR hC (by omega))
          rw [z16m, nI_add, nI_clamp (by omega), zA_at, hmm]
          refine ⟨vp_in_nI (by omega) (by decide), ?_⟩
          refine xs_gcd hJ.2.1 (mnum_lt _ _ _) ?_
          intro g g1 g2 g3
          refine nm_r (nI_1 C) (ih' g ⟨by omega, g1, g2, fun P hP => (g3 P hP).trans ⟨fun h R' C' h1 h2 h3 h4 h5 => ?_, fun h => ⟨(hJ.2.2.2 P hP).mpr (fun R' C' h1 h2 h3 h4 h5 => h R' C' (by omega) h2 h3 h4 h5), h R C (Or.inr ⟨rfl, by omega⟩) hR hC e1 e2⟩⟩⟩)
          by_cases e : R' = R ∧ C' = C
          · obtain ⟨rfl, rfl⟩ := e
            exact h.2
          · exact (hJ.2.2.2 P hP).mp h.1 R' C' (by omega) h2 h3 h4 h5
        · intro e2
          exact nm_r (nI_1 C) (ih' D' ⟨by omega, hJ.2.1, hJ.2.2.1, skip (Or.inr e2)⟩)
      · intro e1
        exact nm_r (nI_1 C) (ih' D' ⟨by omega, hJ.2.1, hJ.2.2.1, skip (Or.inl e1)⟩)
end
section
/-! multiples; the common divisor is unique; the component's quotient -/
def cv (f h : Nat → Fin 5) : Nat → Fin 5
  | 0 => f 0 * h 0
  | 1 => f 0 * h 1 + f 1 * h 0
  | 2 => f 0 * h 2 + f 1 * h 1 + f 2 * h 0
  | 3 => f 0 * h 3 + f 1 * h 2 + f 2 * h 1 + f 3 * h 0
  | 4 => f 0 * h 4 + f 1 * h 3 + f 2 * h 2 + f 3 * h 1 + f 4 * h 0
  | _ + 5 => 0
theorem k5 {P : Nat → Prop} (h0 : P 0) (h1 : P 1) (h2 : P 2) (h3 : P 3) (h4 : P 4) : ∀ k, k < 5 → P k := by
  intro k hk
  match k, hk with
  | 0, _ => exact h0
  | 1, _ => exact h1
  | 2, _ => exact h2
  | 3, _ => exact h3
  | 4, _ => exact h4
theorem cv_lin (f h h' : Nat → Fin 5) (c : Fin 5) : ∀ k, k < 5 → cv f (fun j => h j + c * h' j) k = cv f h k + c * cv f h' k := by
  refine k5 ?_ ?_ ?_ ?_ ?_ <;> simp only [cv] <;> grind
theorem cv_cong (f : Nat → Fin 5) {h h' : Nat → Fin 5} (e : ∀ j, j < 5 → h j = h' j) : ∀ k, k < 5 → cv f h k = cv f h' k := by
  have e0 := e 0 (by decide); have e1 := e 1 (by decide); have e2 := e 2 (by decide); have e3 := e 3 (by decide); have e4 := e 4 (by decide)
  refine k5 ?_ ?_ ?_ ?_ ?_ <;> simp only [cv, e0, e1, e2, e3, e4]
theorem cv_px (f h : Nat → Fin 5) (h4 : cv f h 4 = 0) : ∀ k, k < 5 → cv f (px h) k = px (cv f h) k := by
  refine k5 ?_ ?_ ?_ ?_ ?_ <;> simp only [cv, px] <;> grind
theorem cv_0 (f : Nat → Fin 5) : ∀ k, k < 5 → cv f (fun _ => 0) k = 0 := by
  refine k5 ?_ ?_ ?_ ?_ ?_ <;> simp only [cv] <;> grind
theorem cv_e (f : Nat → Fin 5) : ∀ b, b < 5 → ∀ k, k < 5 → cv f (fun j => if j = b then 1 else 0) k = if k < b then 0 else f (k - b) := by
  refine k5 ?_ ?_ ?_ ?_ ?_ <;> refine k5 ?_ ?_ ?_ ?_ ?_ <;> simp [cv] <;> grind
theorem cv_top (f h : Nat → Fin 5) : ∀ a, a < 5 → ∀ b, b < 5 → a + b ≤ 4 → (∀ i, a < i → i < 5 → f i = 0) → (∀ j, b < j → j < 5 → h j = 0) → cv f h (a + b) = f a * h b ∧ ∀ k, k < 5 → a + b < k → cv f h k = 0 := by
  refine k5 ?_ ?_ ?_ ?_ ?_ <;> refine k5 ?_ ?_ ?_ ?_ ?_
  all_goals (intro hab hf hh; try (exact absurd hab (by decide)))
  all_goals (refine ⟨?_, ?_⟩)
  all_goals (try refine k5 ?_ ?_ ?_ ?_ ?_)
  all_goals (try (intro hk; exact absurd hk (by decide)))
  all_goals (try (intro _))
  all_goals (simp [cv, hf, hh] <;> grind)
def mlt (g p s : Nat) : Prop := s < 5 ^ (5 - dg g) ∧ ∀ k, k < 5 → pd p k = cv (pd g) (pd s) k
def mul (g p : Nat) : Prop := ∃ s, mlt g p s
theorem p5le {j : Nat} (h : j ≤ 5) : 5 ^ j ≤ 3125 := (pow5 j (by omega)).2
theorem mlt_s {g p s : Nat} (h : mlt g p s) : s < 3125 := by
  have := h.1
  have := p5le (j := 5 - dg g) (by omega)
  omega
theorem mlt_dg {g p s : Nat} (h : mlt g p s) : dg g + dg s ≤ 4 := by
  have := dg_4 g
  have e := h.1
  rw [show 5 - dg g = (4 - dg g) + 1 by omega] at e
  have := dg_le e
  omega
theorem mlt_top {g p s : Nat} (hg : g < 3125) (hp : p < 3125) (hg0 : g ≠ 0) (h : mlt g p s) (hs : s ≠ 0) : dg p = dg g + dg s ∧ kk (ld p) = kk (ld g) * kk (ld s) ∧ p ≠ 0 := by
  have hs3 := mlt_s h
  have hab := mlt_dg h
  obtain ⟨t1, t2⟩ := cv_top (pd g) (pd s) (dg g) (by have := dg_4 g; omega) (dg s) (by have := dg_4 s; omega) hab (fun i hi _ => pd_gt hg hi) (fun j hj _ => pd_gt hs3 hj)
  rw [← h.2 _ (by omega)] at t1
  have hne : pd p (dg g + dg s) ≠ 0 := by
    rw [t1, pd_ld, pd_ld]
    have n1 := ld_k hg hg0
    have n2 := ld_k hs3 hs
    generalize kk (ld g) = x at *
    generalize kk (ld s) = y at *
    revert x y; decide
  have hlt : p < 5 ^ (dg g + dg s + 1) := pd_ltp hp (by omega) (fun k k1 k5 => by rw [h.2 k k5]; exact t2 k k5 (by omega))
  have hge : 5 ^ (dg g + dg s) ≤ p := by
    refine Nat.le_of_not_lt (fun z => ?_)
    exact hne (pd_hi z (Nat.le_refl _))
  have hdg := dg_of (p := p) hab hlt (Or.inr hge)
  refine ⟨hdg, ?_, ?_⟩
  · rw [← pd_ld p, hdg, t1]; rfl
  · intro z
    subst z
    exact hne (by unfold pd; rw [Nat.zero_div]; rfl)
theorem pd_0 (k : Nat) : pd 0 k = 0 := by unfold pd; rw [Nat.zero_div]; rfl
theorem mlt_0 {g p : Nat} (hp : p < 3125) (h : mlt g p 0) : p = 0 := by
  refine pd_inj hp (by decide) (fun k hk => ?_)
  rw [h.2 k hk, cv_cong (pd g) (h' := fun _ => 0) (fun j _ => pd_0 j) k hk, cv_0 _ k hk, pd_0]
theorem mlt_pm {g p s q t c : Nat} (hp : p < 3125) (hs : mlt g p s) (ht : mlt g q t) : mlt g (pm p c q) (pm s c t) := by
  have h4 := dg_4 g
  refine ⟨?_, fun k hk => ?_⟩
  · refine pd_ltp (pm_lt _ _ _) (by omega) (fun k k1 k5 => ?_)
    rw [pd_pm _ _ _ _ k5, pd_hi hs.1 k1, pd_hi ht.1 k1]; grind
  · rw [pd_pm _ _ _ _ hk, hs.2 k hk, ht.2 k hk, cv_cong (pd g) (h' := fun j => pd s j + kk c * pd t j) (fun j hj => pd_pm _ _ _ _ hj) k hk, cv_lin _ _ _ _ k hk]
theorem mul_I {g : Nat} (hg : g < 3125) (hg0 : g ≠ 0) : Idl (mul g) := by
  have h4 := dg_4 g
  refine ⟨⟨0, Nat.pow_pos (by decide), fun k hk => ?_⟩, ?_, ?_⟩
  · rw [cv_cong (pd g) (h' := fun _ => 0) (fun j _ => pd_0 j) k hk, cv_0 _ k hk, pd_0]
  · intro p q c hp hq hc h1 h2
    obtain ⟨s, hs⟩ := h1
    obtain ⟨t, ht⟩ := h2
    exact ⟨pm s c t, mlt_pm hp hs ht⟩
  · intro p hp h
    obtain ⟨s, hs⟩ := h
    have hs3 := mlt_s hs
    refine ⟨5 * s, ?_, fun k hk => ?_⟩
    · by_cases e : s = 0
      · subst e; exact Nat.pow_pos (by decide)
      · obtain ⟨d1, _, p0⟩ := mlt_top hg (by omega) hg0 hs e
        have d2 : dg p ≤ 3 := dg_le (j := 3) (by simpa using hp)
        have d3 := dg_lt hs3
        have d4 : (5 : Nat) ^ (dg s + 1) ≤ 5 ^ (4 - dg g) := Nat.pow_le_pow_right (by decide) (by omega)
        have d5 : (5 : Nat) ^ (5 - dg g) = 5 ^ (4 - dg g) * 5 := by rw [← Nat.pow_succ, show 5 - dg g = (4 - dg g) + 1 by omega]
        omega
    · have hp4 : cv (pd g) (pd s) 4 = 0 := by
        rw [← hs.2 4 (by decide)]
        exact pd_hi (j := 4) (by simpa using hp) (by decide)
      rw [pd_5, cv_cong (pd g) (h' := px (pd s)) (fun j _ => pd_5 s j) k hk, cv_px _ _ hp4 k hk]
      exact px_c (fun j hj => hs.2 j (by omega))
theorem pd_1 (k : Nat) : pd 1 k = if k = 0 then 1 else 0 := by
  cases k with
  | zero => rfl
  | succ k =>
    rw [if_neg (by omega)]
    exact pd_hi (j := 1) (by decide) (by omega)
theorem mlt_1 (g : Nat) : mlt g g 1 := by
  have h4 := dg_4 g
  refine ⟨?_, fun k hk => ?_⟩
  · have : (5 : Nat) ^ 1 ≤ 5 ^ (5 - dg g) := Nat.pow_le_pow_right (by decide) (by omega)
    have h1 : (5 : Nat) ^ 1 = 5 := rfl
    omega
  · rw [cv_cong (pd g) (h' := fun j => if j = 0 then 1 else 0) (fun j _ => pd_1 j) k hk, cv_e _ 0 (by decide) k hk, if_neg (by omega)]
    rfl
theorem I_0 : Idl (fun p => p = 0) := by
  refine ⟨rfl, ?_, ?_⟩
  · intro p q s _ _ _ h1 h2
    show pm p s q = 0
    rw [h1, h2]
    refine pd_inj (pm_lt _ _ _) (by decide) (fun k hk => ?_)
    rw [pd_pm _ _ _ _ hk, pd_0]; grind
  · intro p _ h
    show 5 * p = 0
    rw [h]
theorem mon_uniq {g h : Nat} (hg : g < 3125) (hh : h < 3125) (mg : mon g) (mh : mon h) (e : ∀ P, Idl P → (P g ↔ P h)) : g = h := by
  by_cases g0 : g = 0
  · rw [g0]; exact ((e _ I_0).mp g0).symm
  · have h0 : h ≠ 0 := fun z => g0 ((e _ I_0).mpr z)
    have lg : ld g = 1 := by rcases mg with z | z; exact absurd z g0; exact z
    have lh : ld h = 1 := by rcases mh with z | z; exact absurd z h0; exact z
    obtain ⟨s, hs⟩ := (e _ (mul_I hg g0)).mp ⟨1, mlt_1 g⟩
    obtain ⟨t, ht⟩ := (e _ (mul_I hh h0)).mpr ⟨1, mlt_1 h⟩
    have s0 : s ≠ 0 := fun z => h0 (mlt_0 hh (by rw [← z]; exact hs))
    have t0 : t ≠ 0 := fun z => g0 (mlt_0 hg (by rw [← z]; exact ht))
    obtain ⟨a1, a2, _⟩ := mlt_top hg hh g0 hs s0
    obtain ⟨b1, _, _⟩ := mlt_top hh hg h0 ht t0
    have ds : dg s = 0 := by omega
    have hs3 := mlt_s hs
    have ls : ld s = 1 := by
      rw [lg, lh] at a2
      have : kk (ld s) = kk 1 := by
        have : kk 1 * kk (ld s) = kk (ld s) := by rw [show kk 1 = 1 from rfl]; grind
        rw [← this, ← a2]
      exact kk_inj (ld_lt hs3) (by decide) this
    have s1 : s = 1 := by
      unfold ld at ls
      rw [ds, Nat.pow_zero, Nat.div_one] at ls
      exact ls
    subst s1
    refine pd_inj hg hh (fun k hk => ?_)
    rw [hs.2 k hk, (mlt_1 g).2 k hk]
/-- taking the leading term off -/
theorem mlt_st {q p s : Nat} (hq : q < 3125) (hp : p < 3125) (hs : mlt q p s) (hs0 : s ≠ 0) : mlt q (pm p (5 - ld s) (q * 5 ^ dg s)) (s - ld s * 5 ^ dg s) ∧ s - ld s * 5 ^ dg s < 5 ^ dg s := by
  have hs3 := mlt_s hs
  have hab := mlt_dg hs
  have h4 := dg_4 s
  have hsplit : s = ld s * 5 ^ dg s + s % 5 ^ dg s := by
    unfold ld; rw [Nat.mul_comm]; exact (Nat.div_add_mod s (5 ^ dg s)).symm
  have hpos : 0 < 5 ^ dg s := Nat.pow_pos (by decide)
  have hmod := Nat.mod_lt s hpos
  have e1 : s - ld s * 5 ^ dg s = s % 5 ^ dg s := by omega
  rw [e1]
  refine ⟨⟨?_, fun k hk => ?_⟩, hmod⟩
  · have := hs.1
    have : s % 5 ^ dg s ≤ s := Nat.mod_le _ _
    omega
  · have hd : ∀ j, j < 5 → pd s j = pd (s % 5 ^ dg s) j + kk (ld s) * (if j = dg s then 1 else 0) := by
      intro j hj
      by_cases c1 : j = dg s
      · subst c1
        rw [if_pos rfl, pd_ld, pd_hi hmod (Nat.le_refl _)]; grind
      · rw [if_neg c1]
        by_cases c2 : j < dg s
        · have : pd (s % 5 ^ dg s) j = pd s j := by
            unfold pd
            rw [← kk_mod (s % 5 ^ dg s / 5 ^ j), ← kk_mod (s / 5 ^ j)]
            have e2 : dg s = j + (dg s - j) := by omega
            rw [e2, Nat.pow_add, Nat.mod_mul_right_div_self, show dg s - j = (dg s - j - 1) + 1 by omega, Nat.pow_succ, Nat.mul_comm (5 ^ (dg s - j - 1)) 5, Nat.mod_mul_right_mod]
          rw [this]; grind
        · rw [pd_gt hs3 (by omega), pd_hi hmod (by omega)]; grind
    have hp2 := hs.2 k hk
    rw [cv_cong (pd q) hd k hk, cv_lin _ _ _ _ k hk, cv_e _ (dg s) (by omega) k hk] at hp2
    rw [pd_pm _ _ _ _ hk, pd_sh, kk_5s (by have := ld_lt hs3; omega), hp2]
    generalize (if k < dg s then 0 else pd q (k - dg s)) = y
    grind
theorem xs_quot {post : Int32 → Prop} {p q s : Nat} (hp : p < 3125) (hq : q < 3125) (hq0 : q ≠ 0) (hl : ld q = 1) (hs : mlt q p s) (H : post (nI s)) : wpX_quotient post (nI p) (nI q) := by
  unfold wpX_quotient
  have hs3 := mlt_s hs
  refine xs_top hq ?_
  refine loop_0 (fun n i (r : Nat × Nat) => wX_quotient_13 post (nI q) (nI (5 ^ dg q)) n (nI r.1) (nI r.2) (nI i))
    (fun i r => r.1 < 3125 ∧ ∃ s', mlt q r.1 s' ∧ r.2 + s' = s ∧ nd s' + i ≤ 5) 5 (p, 0) ⟨hp, s, hs, by show 0 + s = s; omega, by have := nd_5 s; omega⟩ ?_ ?_
  · intro n r hI
    obtain ⟨hr, s', h1, h2, h3⟩ := hI
    have : s' = 0 := by
      have h0 : nd s' = 0 := by omega
      unfold nd at h0
      by_cases e : s' = 0
      · exact e
      · rw [if_neg e] at h0; omega
    have e2 : r.2 = s := by omega
    refine br_t (nI_le (a := 5) (Nat.le_refl _) (by omega)) ?_
    rw [e2]; exact H
  · intro n i r hi hI ih
    obtain ⟨hr, s', h1, h2, h3⟩ := hI
    refine br_f (nI_ge (b := 5) hi (by omega)) (xs_top hr (pk_eq r.1 0 ?_ ?_))
    · intro e
      have : s' = 0 := by
        by_cases e' : s' = 0
        · exact e'
        · exact absurd e (mlt_top hq hr hq0 h1 e').2.2
      have e2 : r.2 = s := by omega
      rw [e2]; exact H
    · intro e
      have s0 : s' ≠ 0 := fun z => e (mlt_0 hr (by rw [← z]; exact h1))
      obtain ⟨d1, d2, d3⟩ := mlt_top hq hr hq0 h1 s0
      have hs3' := mlt_s h1
      have hr4 := dg_4 r.1
      obtain ⟨g1, g2⟩ := pow5 (dg r.1) (by omega)
      obtain ⟨g3, g4⟩ := pow5 (dg q) (by omega)
      have hle : 5 ^ dg q ≤ 5 ^ dg r.1 := Nat.pow_le_pow_right (by decide) (by omega)
      have hld : ld r.1 = ld s' := by
        refine kk_inj (ld_lt hr) (ld_lt hs3') ?_
        rw [d2, hl, show kk 1 = 1 from rfl]; grind
      have l1 := ld_lt hs3'
      obtain ⟨g5, g6⟩ := pow5 (dg s') (by omega)
      have hsh : 5 ^ dg r.1 / 5 ^ dg q = 5 ^ dg s' := by
        rw [Nat.pow_div (by omega) (by decide), d1, Nat.add_sub_cancel_left]
      have hq5 : q * 5 ^ dg s' < 3125 := by
        have := dg_lt hq
        have h6 : q * 5 ^ dg s' < 5 ^ (dg q + 1) * 5 ^ dg s' := Nat.mul_lt_mul_of_pos_right this g5
        rw [← Nat.pow_add] at h6
        have := p5le (j := dg q + 1 + dg s') (by omega)
        omega
      obtain ⟨m1, m2⟩ := mlt_st hq hr h1 s0
      have hcut : ld s' * 5 ^ dg s' ≤ s' := by unfold ld; exact Nat.div_mul_le_self _ _
      refine pk_le (5 ^ dg q) (5 ^ dg r.1) ?_ (fun z => absurd z (by omega))
      intro _
      refine ⟨nI_ne0 g1 (by omega), nm_r (e' := nI (ld s')) ?_ ⟨nI_ne0 g3 (by omega), nm_r (e' := nI (5 ^ dg s')) ?_ (nm_r (e' := nI (r.2 + ld s' * 5 ^ dg s')) ?_ ?_)⟩⟩
      · rw [pk_div (by omega) g1 (by omega), show r.1 / 5 ^ dg r.1 = ld r.1 from rfl, hld]
      · rw [pk_div (by omega) g3 (by omega), hsh]
      · rw [pk_mul, nI_add]
      · rw [z5s (by omega), pk_mul]
        refine xs_pm hr (by omega) hq5 (nm_r (nI_1 i) (ih (pm r.1 (5 - ld s') (q * 5 ^ dg s'), r.2 + ld s' * 5 ^ dg s') ⟨pm_lt _ _ _, _, m1, by show r.2 + ld s' * 5 ^ dg s' + (s' - ld s' * 5 ^ dg s') = s; omega, ?_⟩))
        have := nd_lt m2
        have : nd s' = dg s' + 1 := if_neg s0
        omega
end
section
/-! the invariant factors: what both sides hold -/
theorem mnum_deg (A : Nat → Nat → Nat) {R C : Nat} (hR : R < 16) : mnum A R C < 5 ^ (pc R + 1) := by
  have h4 := pc4 R hR
  refine pd_ltp (mnum_lt _ _ _) (by omega) (fun k k1 k5 => ?_)
  rw [mnum_pd _ _ _ k k5]
  exact dtp_hi A _ _ _ k (by omega)
theorem set_bit2 : ∀ N, N < 5 → ∀ s, s < 2 ^ N → ∀ i, i < 4 → s / 2 ^ i % 2 = 1 → s - 2 ^ i < 2 ^ N := by decide +kernel
theorem set_rs2 : ∀ N, N < 5 → ∀ s, s < 2 ^ N → rs s < 2 ^ N := by decide +kernel
/-- a minor lies in each ideal that holds the smaller minors -/
theorem mn_step {P : Nat → Prop} (hP : Idl P) (A : Nat → Nat → Nat) {N k : Nat} (hN : N ≤ 4) (h : ∀ R C, R < 2 ^ N → C < 2 ^ N → pc R = k → pc C = k → P (mnum A R C)) :
    ∀ R C, R < 2 ^ N → C < 2 ^ N → pc R = k + 1 → pc C = k + 1 → P (mnum A R C) := by
  intro R C hR hC e1 e2
  obtain ⟨w1, w2⟩ := pw2 N (by omega)
  have hR0 : 0 < R := by
    refine Nat.pos_of_ne_zero (fun z => ?_)
    subst z
    have : pc 0 = 0 := rfl
    omega
  obtain ⟨f1, f2, f3, f4, f5, f6⟩ := set_facts R (by omega) hR0
  have hr2 := set_rs2 N (by omega) R hR
  have hk4 := pc4 R (by omega)
  have hdt : dtp A (pc R) R C = (lapP (fun i k' => (if lo R = i then px (dtp A k (rs R) (C - 2 ^ i)) k' else 0) - kk (A (lo R) i) * dtp A k (rs R) (C - 2 ^ i) k') C 4).1 := by
    rw [e1]; rfl
  generalize hq : (fun i k' => (if lo R = i then px (dtp A k (rs R) (C - 2 ^ i)) k' else 0) - kk (A (lo R) i) * dtp A k (rs R) (C - 2 ^ i) k') = q at hdt
  have main : ∀ i, i ≤ 4 → ∃ S, S < 3125 ∧ P S ∧ ∀ k', k' < 5 → pd S k' = (lapP q C i).1 k' := by
    intro i
    induction i with
    | zero => intro _; exact ⟨0, by decide, hP.1, fun k' _ => pd_0 k'⟩
    | succ i ih =>
      intro hi
      obtain ⟨S, s1, s2, s3⟩ := ih (by omega)
      by_cases hb : C / 2 ^ i % 2 = 1
      · obtain ⟨g1, g2, g3, g4⟩ := (set_bit C (by omega) i (by omega)).1 hb
        have hc2 := set_bit2 N (by omega) C hC i (by omega) hb
        have hm := h (rs R) (C - 2 ^ i) hr2 hc2 (by omega) (by omega)
        have md := mnum_deg A (R := rs R) (C := C - 2 ^ i) (by omega)
        have mp : ∀ j, j < 5 → pd (mnum A (rs R) (C - 2 ^ i)) j = dtp A k (rs R) (C - 2 ^ i) j := by
          intro j hj
          rw [mnum_pd _ _ _ j hj, show pc (rs R) = k by omega]
        generalize hM : mnum A (rs R) (C - 2 ^ i) = M at *
        have md2 : M < 625 := by
          have : (5 : Nat) ^ (pc (rs R) + 1) ≤ 5 ^ 4 := Nat.pow_le_pow_right (by decide) (by omega)
          have h4 : (5 : Nat) ^ 4 = 625 := rfl
          omega
        have lapS : (lapP q C (i + 1)).1 = fun k' => (lapP q C i).1 k' + (lapP q C i).2 * q i k' := by
          show (if C / 2 ^ i % 2 = 1 then (fun k' => (lapP q C i).1 k' + (lapP q C i).2 * q i k', - (lapP q C i).2) else lapP q C i).1 = _
          rw [if_pos hb]
        have hq2 : ∀ k', q i k' = (if lo R = i then px (dtp A k (rs R) (C - 2 ^ i)) k' else 0) - kk (A (lo R) i) * dtp A k (rs R) (C - 2 ^ i) k' := fun k' => by rw [← hq]
        generalize hsg : (lapP q C i).2 = sg at lapS
        have hS1 := hP.2.1 S M ((sg * (- kk (A (lo R) i))).val) s1 (by omega) (by have := (sg * (- kk (A (lo R) i))).isLt; omega) s2 hm
        by_cases el : lo R = i
        · have h5 := hP.2.2 M md2 hm
          have hS2 := hP.2.1 _ (5 * M) sg.val (pm_lt _ _ _) (by omega) (by have := sg.isLt; omega) hS1 h5
          refine ⟨_, pm_lt _ _ _, hS2, fun k' hk' => ?_⟩
          rw [pd_pm _ _ _ _ hk', pd_pm _ _ _ _ hk', kk_fin, kk_fin, s3 k' hk', lapS, pd_5, px_c (q := dtp A k (rs R) (C - 2 ^ i)) (fun j hj => mp j (by omega)), mp k' hk']
          dsimp only
          rw [hq2, if_pos el]
          grind
        · refine ⟨_, pm_lt _ _ _, hS1, fun k' hk' => ?_⟩
          rw [pd_pm _ _ _ _ hk', kk_fin, s3 k' hk', lapS, mp k' hk']
          dsimp only
          rw [hq2, if_neg el]
          grind
      · have lapS : lapP q C (i + 1) = lapP q C i := by
          show (if C / 2 ^ i % 2 = 1 then _ else _) = _
          rw [if_neg hb]
        rw [lapS]
        exact ⟨S, s1, s2, s3⟩
  obtain ⟨S, s1, s2, s3⟩ := main 4 (by omega)
  have : S = mnum A R C := pd_inj s1 (mnum_lt _ _ _) (fun j hj => by rw [s3 j hj, mnum_pd _ _ _ j hj, hdt])
  rw [← this]; exact s2
theorem gD_0 (A : Nat → Nat → Nat) {N : Nat} (hN : N ≤ 4) : gD A N 0 1 := by
  obtain ⟨w1, w2⟩ := pw2 N (by omega)
  have e1 : mnum A 0 0 = 1 := pd_inj (mnum_lt _ _ _) (by decide) (fun k hk => by rw [mnum_pd _ _ _ k hk, pd_1]; rfl)
  refine ⟨by decide, Or.inr (by decide), fun P hP => ⟨fun h R C hR hC e2 e3 => ?_, fun h => ?_⟩⟩
  · rw [pc_0 R (by omega) e2, pc_0 C (by omega) e3, e1]; exact h
  · have := h 0 0 (by omega) (by omega) rfl rfl
    rwa [e1] at this
theorem chkk (A : Nat → Nat → Nat) : ∀ k, k ≤ 4 → dtp A k (2 ^ k - 1) (2 ^ k - 1) k = 1 := by
  intro k hk
  match k, hk with
  | 0, _ => rfl
  | 1, _ => exact ch1 A
  | 2, _ => exact (ch2 A).1
  | 3, _ => exact (ch3 A).1
  | 4, _ => exact (ch4 A).1
theorem gD_ne {A : Nat → Nat → Nat} {N k D : Nat} (hN : N ≤ 4) (hk : k ≤ N) (h : gD A N k D) : D ≠ 0 ∧ ld D = 1 := by
  have hne : D ≠ 0 := by
    intro z
    obtain ⟨a1, a2⟩ := pc_all k (by omega)
    have hle : 2 ^ k ≤ 2 ^ N := Nat.pow_le_pow_right (by decide) hk
    have := (h.2.2 _ I_0).mp z (2 ^ k - 1) (2 ^ k - 1) (by omega) (by omega) a1 a1
    have e := mnum_pd A (2 ^ k - 1) (2 ^ k - 1) k (by omega)
    rw [this, pd_0, a1, chkk A k (by omega)] at e
    exact absurd e (by decide)
  refine ⟨hne, ?_⟩
  rcases h.2.1 with z | z
  · exact absurd z hne
  · exact z
theorem gD_uniq {A : Nat → Nat → Nat} {N k D D' : Nat} (h : gD A N k D) (h' : gD A N k D') : D = D' :=
  mon_uniq h.1 h'.1 h.2.1 h'.2.1 (fun P hP => (h.2.2 P hP).trans (h'.2.2 P hP).symm)
theorem gD_mul {A : Nat → Nat → Nat} {N k D D' : Nat} (hN : N ≤ 4) (hk : k ≤ N) (h : gD A N k D) (h' : gD A N (k + 1) D') : mul D D' := by
  obtain ⟨n1, n2⟩ := gD_ne hN hk h
  have hI := mul_I h.1 n1
  refine (h'.2.2 _ hI).mpr (mn_step hI A hN ?_)
  exact (h.2.2 _ hI).mp ⟨1, mlt_1 D⟩
theorem pc_N : ∀ N, N < 5 → ∀ s, s < 2 ^ N → pc s = N → s = 2 ^ N - 1 := by decide +kernel
theorem gD_N {A : Nat → Nat → Nat} {N D : Nat} (hN : N ≤ 4) (h : gD A N N D) : D = mnum A (2 ^ N - 1) (2 ^ N - 1) ∧ dg D = N := by
  obtain ⟨a1, a2⟩ := pc_all N (by omega)
  obtain ⟨w1, w2⟩ := pw2 N (by omega)
  have e := mnum_pd A (2 ^ N - 1) (2 ^ N - 1) N (by omega)
  rw [a1, chkk A N hN] at e
  have hd := mnum_deg A (R := 2 ^ N - 1) (C := 2 ^ N - 1) (by omega)
  rw [a1] at hd
  have hlt := mnum_lt A (2 ^ N - 1) (2 ^ N - 1)
  have hP := h.2.2
  have key : ∀ P, Idl P → (P D ↔ P (mnum A (2 ^ N - 1) (2 ^ N - 1))) := fun P hI => (hP P hI).trans ⟨fun z => z _ _ a2 a2 a1 a1, fun z R C hR hC e1 e2 => by rw [pc_N N (by omega) R hR e1, pc_N N (by omega) C hC e2]; exact z⟩
  generalize mnum A (2 ^ N - 1) (2 ^ N - 1) = M at *
  have hge : 5 ^ N ≤ M := by
    refine Nat.le_of_not_lt (fun z => ?_)
    rw [pd_hi z (Nat.le_refl _)] at e
    exact absurd e (by decide)
  have hdg : dg M = N := dg_of hN hd (Or.inr hge)
  have hm : mon M := by
    right
    refine kk_inj (ld_lt hlt) (by decide) ?_
    rw [← pd_ld, hdg, e]; rfl
  have : D = M := mon_uniq h.1 hlt h.2.1 hm key
  exact ⟨this, by rw [this]; exact hdg⟩
theorem mlt_u {g p s t : Nat} (hg : g < 3125) (hg0 : g ≠ 0) (hp : p < 3125) (hs : mlt g p s) (ht : mlt g p t) : s = t := by
  have h := mlt_pm (c := 4) hp hs ht
  have hz : pm p 4 p = 0 := by
    refine pd_inj (pm_lt _ _ _) (by decide) (fun k hk => ?_)
    rw [pd_pm _ _ _ _ hk, pd_0, show kk 4 = 4 from rfl]; grind
  have h0 : pm s 4 t = 0 := by
    by_cases e : pm s 4 t = 0
    · exact e
    · exact absurd hz (mlt_top hg (pm_lt _ _ _) hg0 h e).2.2
  refine pd_inj (mlt_s hs) (mlt_s ht) (fun k hk => ?_)
  have := pd_pm s 4 t k hk
  rw [h0, pd_0, show kk 4 = 4 from rfl] at this
  grind
/-- divisors d and factors s of the matrix A -/
def fac (A : Nat → Nat → Nat) (N : Nat) (d s : Nat → Nat) : Prop := (∀ k, k ≤ N → gD A N k (d k)) ∧ ∀ k, k < N → mlt (d k) (d (k + 1)) (s k)
theorem fac_u {A : Nat → Nat → Nat} {N : Nat} {d s d' s' : Nat → Nat} (hN : N ≤ 4) (h : fac A N d s) (h' : fac A N d' s') : (∀ k, k ≤ N → d k = d' k) ∧ ∀ k, k < N → s k = s' k := by
  have hd : ∀ k, k ≤ N → d k = d' k := fun k hk => gD_uniq (h.1 k hk) (h'.1 k hk)
  refine ⟨hd, fun k hk => ?_⟩
  have h2 := h'.2 k hk
  rw [← hd k (by omega), ← hd (k + 1) (by omega)] at h2
  exact mlt_u (h.1 k (by omega)).1 (gD_ne hN (by omega) (h.1 k (by omega))).1 (h.1 (k + 1) (by omega)).1 (h.2 k hk) h2
theorem fac_s {A : Nat → Nat → Nat} {N : Nat} {d s : Nat → Nat} (hN : N ≤ 4) (h : fac A N d s) : ∀ k, k < N → s k ≠ 0 ∧ s k < 3125 ∧ dg (d (k + 1)) = dg (d k) + dg (s k) ∧ ld (s k) = 1 := by
  intro k hk
  have g1 := h.1 k (by omega)
  have g2 := h.1 (k + 1) (by omega)
  obtain ⟨n1, n2⟩ := gD_ne hN (by omega) g1
  obtain ⟨n3, n4⟩ := gD_ne hN (by omega) g2
  have hm := h.2 k hk
  have s0 : s k ≠ 0 := fun z => n3 (mlt_0 g2.1 (by rw [← z]; exact hm))
  obtain ⟨t1, t2, _⟩ := mlt_top g1.1 g2.1 n1 hm s0
  have hs3 := mlt_s hm
  refine ⟨s0, hs3, t1, ?_⟩
  rw [n2, n4] at t2
  refine kk_inj (ld_lt hs3) (by decide) ?_
  rw [t2, show kk 1 = 1 from rfl]; grind
theorem xs_findFactors {post : SX → Prop} {N r st : Nat} {c m f : Nat → Nat} (h1 : 1 ≤ N) (hN : N ≤ 4) (hr : r < 7) (hst : st ≤ 4) (hc : ∀ j, c j < 5)
    (H : ∀ m' f' d s : Nat → Nat, fac (zSl c N r) N d s → (∀ k, k < N → f' (st + k) = s k) → (∀ j, (j < st ∨ st + N ≤ j) → f' j = f j) → post (zX N c m' f')) :
    wpX_findFactors post (zX N c m f) (nI r) (nI st) := by
  unfold wpX_findFactors; dsimp only
  refine xs_findMinors hN hr hc ?_
  intro m' hm
  generalize hA : zSl c N r = A at *
  refine pk_loop (fun n k (q : Nat × (Nat → Nat)) => wX_findFactors_10 post (nI st) (nI N) n (nI q.1) (nI k) (zA c) (zA m') (zA q.2))
    (fun k q => 1 ≤ k ∧ ∃ d s : Nat → Nat, (∀ i, i < k → gD A N i (d i)) ∧ (∀ i, i + 1 < k → mlt (d i) (d (i + 1)) (s i)) ∧ q.1 = d (k - 1) ∧ (∀ i, i + 1 < k → q.2 (st + i) = s i) ∧ (∀ j, (j < st ∨ st + N ≤ j) → q.2 j = f j)) (N + 1) 1 (1, f) (by omega) ⟨by omega, fun _ => 1, fun _ => 0, ?_, fun i hi => absurd hi (by omega), rfl, fun i hi => absurd hi (by omega), fun _ _ => rfl⟩ ?_ ?_
  · intro i hi
    have : i = 0 := by omega
    subst this
    exact gD_0 A hN
  · intro n q hI
    obtain ⟨_, d, s, i1, i2, i3, i4, i5⟩ := hI
    refine br_t (nI_lt (by omega) (by omega)) (H m' q.2 d s ⟨fun k hk => i1 k (by omega), fun k hk => i2 k (by omega)⟩ (fun k hk => i4 k (by omega)) i5)
  · intro n k q hk hI ih
    obtain ⟨hk1, d, s, i1, i2, i3, i4, i5⟩ := hI
    refine br_f (nI_nlt (by omega) (by omega)) ?_
    refine xs_div hN hk1 (by omega) hm ?_
    intro D hD
    have gb := i1 (k - 1) (by omega)
    obtain ⟨n1, n2⟩ := gD_ne hN (by omega) gb
    obtain ⟨t, ht⟩ := gD_mul hN (by omega) gb (by rw [show k - 1 + 1 = k by omega]; exact hD)
    rw [i3]
    refine xs_quot hD.1 gb.1 n1 n2 ht ?_
    have e0 : nI st + nI k - 1 = nI (st + (k - 1)) := by
      rw [nI_add, zs1 (by omega), Nat.add_sub_assoc hk1]
    rw [e0, nI_clamp (by omega)]
    refine ⟨vp_in_nI (by omega) (by decide), nm_r (e' := zA (zu q.2 (st + (k - 1)) t)) (zA_upd _ _ _) (nm_r (nI_1 k) (ih (D, zu q.2 (st + (k - 1)) t) ⟨by omega, zu d k D, zu s (k - 1) t, ?_, ?_, ?_, ?_, ?_⟩))⟩
    · intro i hi
      by_cases e : i = k
      · subst e; rw [zu_s]; exact hD
      · rw [zu_n e]; exact i1 i (by omega)
    · intro i hi
      by_cases e : i + 1 = k
      · rw [e, zu_s, zu_n (by omega), show i = k - 1 by omega, zu_s]; exact ht
      · rw [zu_n e, zu_n (by omega), zu_n (by omega)]; exact i2 i (by omega)
    · show D = zu d k D (k + 1 - 1)
      rw [Nat.add_sub_cancel, zu_s]
    · intro i hi
      show zu q.2 (st + (k - 1)) t (st + i) = zu s (k - 1) t i
      by_cases e : i = k - 1
      · rw [e, zu_s, zu_s]
      · rw [zu_n (by omega), zu_n e]; exact i4 i (by omega)
    · intro j hj
      show zu q.2 (st + (k - 1)) t j = f j
      rw [zu_n (by omega)]; exact i5 j hj
end
section
/-! the reference's common divisor -/
def nu (a : Nat → Nat) : Nat := hrn a 5 0
def b5 (a : Nat → Nat) : Prop := ∀ k, k < 5 → a k < 5
theorem nu_lt {a : Nat → Nat} (h : b5 a) : nu a < 3125 := (hrn_pd h).1
theorem nu_pd {a : Nat → Nat} (h : b5 a) : ∀ k, k < 5 → pd (nu a) k = kk (a k) := (hrn_pd h).2
theorem nu_of {a : Nat → Nat} (h : b5 a) {p : Nat} (hp : p < 3125) (e : ∀ k, k < 5 → kk (a k) = pd p k) : nu a = p :=
  pd_inj (nu_lt h) hp (fun k hk => by rw [nu_pd h k hk, e k hk])
theorem nu_dig {a : Nat → Nat} (h : b5 a) {k : Nat} (hk : k < 5) : a k = nu a / 5 ^ k % 5 := by
  have := congrArg Fin.val (nu_pd h k hk)
  rw [pd_v, kk_v, Nat.mod_eq_of_lt (h k hk)] at this
  exact this.symm
def ndA (a : Nat → Nat) : Nat → Nat
  | 0 => 0
  | i + 1 => if a i = 0 then ndA a i else i + 1
theorem ndA_le (a : Nat → Nat) (i : Nat) : ndA a i ≤ i := by
  induction i with
  | zero => exact Nat.le_refl _
  | succ i ih =>
    show (if a i = 0 then ndA a i else i + 1) ≤ i + 1
    split <;> omega
theorem ndA_nd {a : Nat → Nat} (h : b5 a) : ndA a 5 = nd (nu a) := by
  have h0 := h 0 (by decide); have h1 := h 1 (by decide); have h2 := h 2 (by decide); have h3 := h 3 (by decide); have h4 := h 4 (by decide)
  unfold nu
  rw [hrn5]
  show (if a 4 = 0 then (if a 3 = 0 then (if a 2 = 0 then (if a 1 = 0 then (if a 0 = 0 then 0 else 0 + 1) else 1 + 1) else 2 + 1) else 3 + 1) else 4 + 1) = _
  generalize a 0 = x0 at *
  generalize a 1 = x1 at *
  generalize a 2 = x2 at *
  generalize a 3 = x3 at *
  generalize a 4 = x4 at *
  unfold nd dg
  by_cases c4 : x4 = 0
  · rw [if_pos c4]
    by_cases c3 : x3 = 0
    · rw [if_pos c3]
      by_cases c2 : x2 = 0
      · rw [if_pos c2]
        by_cases c1 : x1 = 0
        · rw [if_pos c1]
          by_cases c0 : x0 = 0
          · rw [if_pos c0, if_pos (by omega)]
          · rw [if_neg c0, if_neg (by omega), if_pos (by omega)]
        · rw [if_neg c1, if_neg (by omega), if_neg (by omega), if_pos (by omega)]
      · rw [if_neg c2, if_neg (by omega), if_neg (by omega), if_neg (by omega), if_pos (by omega)]
    · rw [if_neg c3, if_neg (by omega), if_neg (by omega), if_neg (by omega), if_neg (by omega), if_pos (by omega)]
  · rw [if_neg c4, if_neg (by omega), if_neg (by omega), if_neg (by omega), if_neg (by omega), if_neg (by omega)]
theorem ys_degM {post : Int32 → Prop} {N : Nat} {g : Nat → Nat} {mn te dv ot fc kp rw : Nat → Nat} (h : b5 mn) (H : post (nI (nd (nu mn)) - 1)) : wpY_degreeOfMinor post (zY N g mn te dv ot fc kp rw) := by
  show ∃ n4, wY_degreeOfMinor_4 post (nI N) (zA g) (zA mn) (zA te) (zA dv) (zA ot) (zA fc) (zA kp) (zA rw) n4 (-1) 0
  refine loop_0 (fun n i (e : Nat) => wY_degreeOfMinor_4 post (nI N) (zA g) (zA mn) (zA te) (zA dv) (zA ot) (zA fc) (zA kp) (zA rw) n (nI e - 1) (nI i))
    (fun i e => e = ndA mn i) 5 0 rfl ?_ ?_
  · intro n e he
    refine br_t (nI_le (a := 5) (Nat.le_refl _) (by omega)) ?_
    rw [he, ndA_nd h]; exact H
  · intro n i e hi he ih
    have hb := h i hi
    refine br_f (nI_ge (b := 5) hi (by omega)) ⟨vp_in_nI (by omega) (by decide), ?_⟩
    rw [nI_clamp (by omega), zA_at]
    refine pk_eq (mn i) 0 ?_ ?_
    · intro e0
      refine nm_r (nI_1 i) (ih e ?_)
      rw [he]
      show _ = (if mn i = 0 then ndA mn i else i + 1)
      rw [if_pos e0]
    · intro e0
      refine nm_r (nI_1 i) ?_
      rw [← nI_pred i]
      refine ih (i + 1) ?_
      show _ = (if mn i = 0 then ndA mn i else i + 1)
      rw [if_neg e0]
theorem ys_degD {post : Int32 → Prop} {N : Nat} {g : Nat → Nat} {mn te dv ot fc kp rw : Nat → Nat} (h : b5 dv) (H : post (nI (nd (nu dv)) - 1)) : wpY_degreeOfDivisor post (zY N g mn te dv ot fc kp rw) := by
  show ∃ n4, wY_degreeOfDivisor_4 post (nI N) (zA g) (zA mn) (zA te) (zA dv) (zA ot) (zA fc) (zA kp) (zA rw) n4 (-1) 0
  refine loop_0 (fun n i (e : Nat) => wY_degreeOfDivisor_4 post (nI N) (zA g) (zA mn) (zA te) (zA dv) (zA ot) (zA fc) (zA kp) (zA rw) n (nI e - 1) (nI i))
    (fun i e => e = ndA dv i) 5 0 rfl ?_ ?_
  · intro n e he
    refine br_t (nI_le (a := 5) (Nat.le_refl _) (by omega)) ?_
    rw [he, ndA_nd h]; exact H
  · intro n i e hi he ih
    have hb := h i hi
    refine br_f (nI_ge (b := 5) hi (by omega)) ⟨vp_in_nI (by omega) (by decide), ?_⟩
    rw [nI_clamp (by omega), zA_at]
    refine pk_eq (dv i) 0 ?_ ?_
    · intro e0
      refine nm_r (nI_1 i) (ih e ?_)
      rw [he]
      show _ = (if dv i = 0 then ndA dv i else i + 1)
      rw [if_pos e0]
    · intro e0
      refine nm_r (nI_1 i) ?_
      rw [← nI_pred i]
      refine ih (i + 1) ?_
      show _ = (if dv i = 0 then ndA dv i else i + 1)
      rw [if_neg e0]
theorem ys_red {post : SY → Prop} {N : Nat} {g : Nat → Nat} {mn te dv ot fc kp rw : Nat → Nat} (hm : b5 mn) (hd : b5 dv) (ha0 : nu mn ≠ 0) (hb0 : nu dv ≠ 0) (hle : dg (nu dv) ≤ dg (nu mn))
    (H : ∀ mn' : Nat → Nat, b5 mn' → nu mn' = stp (nu mn) (nu dv) → post (zY N g mn' te dv ot fc kp rw)) :
    wpY_reduceMinor post (zY N g mn te dv ot fc kp rw) (nI (dg (nu mn))) (nI (dg (nu dv))) := by
  have a4 := dg_4 (nu mn)
  have b4 := dg_4 (nu dv)
  have amn := nu_lt hm
  have adv := nu_lt hd
  have em : mn (dg (nu mn)) = ld (nu mn) := by
    rw [nu_dig hm (by omega)]
    exact Nat.mod_eq_of_lt (ld_lt amn)
  have ed : dv (dg (nu dv)) = ld (nu dv) := by
    rw [nu_dig hd (by omega)]
    exact Nat.mod_eq_of_lt (ld_lt adv)
  have lm := ld_lt amn
  have ldv := ld_lt adv
  unfold wpY_reduceMinor; dsimp only
  refine ⟨vp_in_nI (by omega) (by decide), vp_in_nI (by omega) (by decide), ?_⟩
  unfold wpY_inverse
  rw [nI_clamp (by omega), nI_clamp (by omega), zA_at, zA_at, em, ed]
  have l1 : ld (nu dv) * ld (nu dv) ≤ 4 * 4 := Nat.mul_le_mul (by omega) (by omega)
  have l2 : ld (nu dv) * ld (nu dv) * ld (nu dv) ≤ 16 * 4 := Nat.mul_le_mul l1 (by omega)
  have l3 : ld (nu dv) * ld (nu dv) * ld (nu dv) % 5 < 5 := Nat.mod_lt _ (by decide)
  have l4 : ld (nu mn) * (ld (nu dv) * ld (nu dv) * ld (nu dv) % 5) ≤ 4 * 4 := Nat.mul_le_mul (by omega) (by omega)
  have l5 : ld (nu mn) * (ld (nu dv) * ld (nu dv) * ld (nu dv) % 5) % 5 < 5 := Nat.mod_lt _ (by decide)
  refine ⟨zf5, ?_⟩
  rw [pk_mul, pk_mul, z5r (by omega)]
  dsimp only
  rw [pk_mul]
  refine ⟨zf5, nm_r (z5r (by omega)) ?_⟩
  generalize hc : ld (nu mn) * (ld (nu dv) * ld (nu dv) * ld (nu dv) % 5) % 5 = cc at *
  have ksc : kk (5 - cc) = kk ((5 - ld (nu mn)) * (ld (nu dv) * ld (nu dv) * ld (nu dv) % 5) % 5) := by
    rw [kk_5s (by omega), ← hc, kk_mod, kk_mul, kk_mod ((5 - ld (nu mn)) * _), kk_mul, kk_5s (by omega)]
    grind
  generalize hta : dg (nu mn) = ta at *
  generalize htb : dg (nu dv) = tb at *
  refine loop_0 (fun n k (s : Nat → Nat) => wY_reduceMinor_23 post (nI ta) (nI tb) (nI cc) (nI N) n (nI k) (zA g) (zA s) (zA te) (zA dv) (zA ot) (zA fc) (zA kp) (zA rw))
    (fun k s => b5 s ∧ ∀ j, j < 5 → kk (s j) = kk (mn j) + (if ta - tb ≤ j ∧ j < ta - tb + k then kk (5 - cc) * kk (dv (j - (ta - tb))) else 0)) (tb + 1) mn ⟨hm, fun j hj => ?_⟩ ?_ ?_
  · rw [if_neg (by omega)]; grind
  · intro n s hI
    refine br_t (nI_lt (by omega) (by omega)) (H s hI.1 ?_)
    refine nu_of hI.1 (pm_lt _ _ _) (fun j hj => ?_)
    rw [hI.2 j hj]
    unfold stp
    rw [pd_pm _ _ _ _ hj, ← ksc, nu_pd hm j hj, pd_sh, hta, htb]
    by_cases e1 : j < ta - tb
    · rw [if_neg (by omega), if_pos e1]; grind
    · rw [if_neg e1]
      by_cases e2 : j < ta - tb + (tb + 1)
      · rw [if_pos ⟨by omega, e2⟩, nu_pd hd _ (by omega)]
      · rw [if_neg (by omega), pd_gt adv (by omega)]; grind
  · intro n k s hk hI ih
    have e0 : nI ta - nI tb + nI k = nI (ta - tb + k) := by rw [pk_sub hle, nI_add]
    have b1 := hI.1 (ta - tb + k) (by omega)
    have b2 := hd k (by omega)
    have b3 : (5 - cc) * dv k ≤ 5 * 4 := Nat.mul_le_mul (by omega) (by omega)
    refine br_f (nI_nlt (by omega) (by omega)) ?_
    rw [e0, nI_clamp (by omega), nI_clamp (by omega), zA_at, zA_at, z5s (by omega), pk_mul, nI_add, z5r (by omega)]
    refine ⟨vp_in_nI (by omega) (by decide), vp_in_nI (by omega) (by decide), zf5, vp_in_nI (by omega) (by decide), nm_r (zA_upd _ _ _) (nm_r (nI_1 k) (ih _ ⟨?_, ?_⟩))⟩
    · intro j hj
      by_cases e : j = ta - tb + k
      · rw [e, zu_s]; exact Nat.mod_lt _ (by decide)
      · rw [zu_n e]; exact hI.1 j hj
    · intro j hj
      by_cases e : j = ta - tb + k
      · rw [e, zu_s, kk_mod, kk_add, kk_mul, hI.2 _ (by omega), if_neg (by omega), if_pos ⟨by omega, by omega⟩, show ta - tb + k - (ta - tb) = k by omega]
        grind
      · rw [zu_n e, hI.2 j hj]
        by_cases e2 : ta - tb ≤ j ∧ j < ta - tb + k
        · rw [if_pos e2, if_pos ⟨e2.1, by omega⟩]
        · rw [if_neg e2, if_neg (by omega)]
theorem nu_cong {a b : Nat → Nat} (h : ∀ k, k < 5 → a k = b k) : nu a = nu b := by
  unfold nu
  rw [hrn5, hrn5, h 0 (by decide), h 1 (by decide), h 2 (by decide), h 3 (by decide), h 4 (by decide)]
theorem ys_swap {post : SY → Prop} {J : Int32 → Int32 → (Nat → Int32) → (Nat → Int32) → (Nat → Int32) → (Nat → Int32) → (Nat → Int32) → (Nat → Int32) → (Nat → Int32) → (Nat → Int32) → Prop} {N i : Nat} {g : Nat → Nat} {mn te dv ot fc kp rw : Nat → Nat}
    (H : ∀ mn' dv' : Nat → Nat, (∀ k, k < 5 → mn' k = dv k) → (∀ k, k < 5 → dv' k = mn k) → J (nI (i + 1)) (nI N) (zA g) (zA mn') (zA te) (zA dv') (zA ot) (zA fc) (zA kp) (zA rw)) :
    ∃ n47, wY_share_47 post J (nI i) (nI N) n47 0 (zA g) (zA mn) (zA te) (zA dv) (zA ot) (zA fc) (zA kp) (zA rw) := by
  refine loop_0 (fun n k (s : (Nat → Nat) × (Nat → Nat)) => wY_share_47 post J (nI i) (nI N) n (nI k) (zA g) (zA s.1) (zA te) (zA s.2) (zA ot) (zA fc) (zA kp) (zA rw))
    (fun k s => (∀ j, j < k → s.1 j = dv j ∧ s.2 j = mn j) ∧ ∀ j, k ≤ j → s.1 j = mn j ∧ s.2 j = dv j) 5 (mn, dv) ⟨fun j h => absurd h (by omega), fun _ _ => ⟨rfl, rfl⟩⟩ ?_ ?_
  · intro n s hI
    exact br_t (nI_le (a := 5) (Nat.le_refl _) (by omega)) (nm_r (nI_1 i) (H s.1 s.2 (fun k hk => (hI.1 k hk).1) (fun k hk => (hI.1 k hk).2)))
  · intro n k s hk hI ih
    have vk : vp_in (nI k) 5 := vp_in_nI (by omega) (by decide)
    obtain ⟨e1, e2⟩ := hI.2 k (Nat.le_refl _)
    refine br_f (nI_ge (b := 5) hk (by omega)) ?_
    rw [nI_clamp (by omega), zA_at, zA_at]
    refine ⟨vk, nm_r (e' := nI (dv k)) (by rw [e2]) ⟨vk, vk, nm_r (e' := zA (zu s.2 k (mn k))) (by rw [e1, zA_upd]) ⟨vk, nm_r (e' := zA (zu s.1 k (dv k))) (zA_upd _ _ _) (nm_r (nI_1 k) (ih (zu s.1 k (dv k), zu s.2 k (mn k)) ⟨?_, ?_⟩))⟩⟩⟩
    · intro j hj
      show zu s.1 k (dv k) j = dv j ∧ zu s.2 k (mn k) j = mn j
      by_cases e : j = k
      · rw [e, zu_s, zu_s]; exact ⟨rfl, rfl⟩
      · rw [zu_n e, zu_n e]; exact hI.1 j (by omega)
    · intro j hj
      show zu s.1 k (dv k) j = mn j ∧ zu s.2 k (mn k) j = dv j
      rw [zu_n (by omega), zu_n (by omega)]; exact hI.2 j (by omega)
def muS (a b : Nat) : Nat := 2 * (nd a + nd b) + (if nd a < nd b ∨ nd b = 0 then 1 else 0)
theorem nd_pos {p : Nat} (h : p ≠ 0) : nd p = dg p + 1 := if_neg h
theorem nd_zero {p : Nat} (h : nd p = 0) : p = 0 := by
  by_cases e : p = 0
  · exact e
  · rw [nd_pos e] at h; omega
theorem ys_share {post : SY → Prop} {N : Nat} {g : Nat → Nat} {mn te dv ot fc kp rw : Nat → Nat} (hm : b5 mn) (hd : b5 dv)
    (H : ∀ mn' dv' : Nat → Nat, b5 mn' → b5 dv' → (∀ P, Idl P → (P (nu dv') ↔ P (nu mn) ∧ P (nu dv))) → post (zY N g mn' te dv' ot fc kp rw)) :
    wpY_share post (zY N g mn te dv ot fc kp rw) := by
  show ∃ n2, wY_share_2 post n2 0 (nI N) (zA g) (zA mn) (zA te) (zA dv) (zA ot) (zA fc) (zA kp) (zA rw)
  refine loop_0 (fun n i (s : (Nat → Nat) × (Nat → Nat)) => wY_share_2 post n (nI i) (nI N) (zA g) (zA s.1) (zA te) (zA s.2) (zA ot) (zA fc) (zA kp) (zA rw))
    (fun i s => b5 s.1 ∧ b5 s.2 ∧ (∀ P, Idl P → (P (nu s.1) ∧ P (nu s.2) ↔ P (nu mn) ∧ P (nu dv))) ∧ (nu s.1 = 0 ∨ muS (nu s.1) (nu s.2) + i ≤ 30)) 40 (mn, dv) ⟨hm, hd, fun P hP => Iff.rfl, Or.inr ?_⟩ ?_ ?_
  · have n1 := nd_5 (nu mn)
    have n2 := nd_5 (nu dv)
    unfold muS
    dsimp only
    split <;> omega
  · intro n s hI
    obtain ⟨i1, i2, i3, i4⟩ := hI
    have hz : nu s.1 = 0 := by
      rcases i4 with z | z
      · exact z
      · omega
    refine br_t (nI_le (a := 40) (Nat.le_refl _) (by omega)) (H s.1 s.2 i1 i2 (fun P hP => ?_))
    rw [← i3 P hP, hz]
    exact ⟨fun h => ⟨hP.1, h⟩, fun h => h.2⟩
  · intro n i s hi hI ih
    obtain ⟨i1, i2, i3, i4⟩ := hI
    have n1 := nd_5 (nu s.1)
    have n2 := nd_5 (nu s.2)
    have l1 := nu_lt i1
    have l2 := nu_lt i2
    refine br_f (nI_ge (b := 40) hi (by omega)) (ys_degM i1 (ys_degD i2 ?_))
    by_cases x0 : nu s.1 = 0
    · have hx : nI (nd (nu s.1)) - 1 < 0 := by rw [x0]; decide
      refine br_t hx ?_
      unfold wY_share_40
      exact br_t hx (nm_r (nI_1 i) (ih s ⟨i1, i2, i3, Or.inl x0⟩))
    · have hmu : muS (nu s.1) (nu s.2) + i ≤ 30 := by
        rcases i4 with z | z
        · exact absurd z x0
        · exact z
      have e1 : nI (nd (nu s.1)) - 1 = nI (dg (nu s.1)) := by rw [nd_pos x0, nI_pred]
      have a4 := dg_4 (nu s.1)
      have b4 := dg_4 (nu s.2)
      rw [e1]
      have hnn : ¬ nI (dg (nu s.1)) < 0 := nI_pos (by omega)
      have sw : (nd (nu s.1) < nd (nu s.2) ∨ nd (nu s.2) = 0) → wY_share_40 post (wY_share_2 post n) (nI i) (nI (dg (nu s.1))) (nI N) (zA g) (zA s.1) (zA te) (zA s.2) (zA ot) (zA fc) (zA kp) (zA rw) := by
        intro hc
        unfold wY_share_40
        refine br_f hnn (ys_swap ?_)
        intro mn' dv' q1 q2
        have u1 : nu mn' = nu s.2 := nu_cong q1
        have u2 : nu dv' = nu s.1 := nu_cong q2
        refine ih (mn', dv') ⟨fun k hk => by show mn' k < 5; rw [q1 k hk]; exact i2 k hk, fun k hk => by show dv' k < 5; rw [q2 k hk]; exact i1 k hk, fun P hP => ?_, ?_⟩
        · show P (nu mn') ∧ P (nu dv') ↔ _
          rw [u1, u2, ← i3 P hP]; exact And.comm
        · show nu mn' = 0 ∨ muS (nu mn') (nu dv') + (i + 1) ≤ 30
          rw [u1, u2]
          have np : 0 < nd (nu s.1) := by rw [nd_pos x0]; omega
          unfold muS at hmu ⊢
          rw [if_pos hc] at hmu
          rcases hc with hc | hc
          · right
            rw [if_neg (by omega)]; omega
          · left; exact nd_zero hc
      by_cases y0 : nu s.2 = 0
      · have hy : nI (nd (nu s.2)) - 1 = -1 := by rw [y0]; decide
        have hc : nd (nu s.2) = 0 := by rw [y0]; rfl
        rw [hy]
        have hlt : ¬ nI (dg (nu s.1)) < -1 := by
          intro z
          exact hnn (Int32.lt_trans z (by decide))
        exact br_f hnn (br_f hlt (br_t (by decide) (sw (Or.inr hc))))
      · have e2 : nI (nd (nu s.2)) - 1 = nI (dg (nu s.2)) := by rw [nd_pos y0, nI_pred]
        rw [e2]
        refine br_f hnn (pk_lt (dg (nu s.1)) (dg (nu s.2)) ?_ ?_)
        · intro h
          exact sw (Or.inl (by rw [nd_pos x0, nd_pos y0]; omega))
        · intro h
          refine br_f (nI_pos (by omega)) (ys_red i1 i2 x0 y0 h ?_)
          intro mn' m1 m2
          refine nm_r (nI_1 i) (ih (mn', s.2) ⟨m1, i2, fun P hP => ?_, ?_⟩)
          · show P (nu mn') ∧ P (nu s.2) ↔ _
            rw [m2, ← i3 P hP]
            exact ⟨fun h' => ⟨(stp_I hP l1 l2 h h'.2).mp h'.1, h'.2⟩, fun h' => ⟨(stp_I hP l1 l2 h h'.2).mpr h'.1, h'.2⟩⟩
          · right
            show muS (nu mn') (nu s.2) + (i + 1) ≤ 30
            rw [m2]
            have hl := nd_lt (stp_lt l1 l2 y0 h)
            have np := nd_pos x0
            unfold muS at hmu ⊢
            have z1 : (if nd (stp (nu s.1) (nu s.2)) < nd (nu s.2) ∨ nd (nu s.2) = 0 then 1 else 0) ≤ 1 := by split <;> decide
            omega
end
section
/-! the reference's invariant factors -/
theorem szo : ∀ s, s < 16 → (((nI s &&& 1) + ((nI s >>> ((1 : Int32) &&& 31)) &&& 1)) + ((nI s >>> ((2 : Int32) &&& 31)) &&& 1)) + ((nI s >>> ((3 : Int32) &&& 31)) &&& 1) = nI (pc s) := by decide +kernel
theorem ys_size {post : Int32 → Prop} {N s : Nat} {g : Nat → Nat} {mn te dv ot fc kp rw : Nat → Nat} (hs : s < 16) (H : post (nI (pc s))) : wpY_sizeOf post (zY N g mn te dv ot fc kp rw) (nI s) := by
  unfold wpY_sizeOf; dsimp only
  rw [szo s hs]; exact H
theorem and7 : ∀ d, d < 5 → nI d &&& 7 = nI d := by decide +kernel
theorem ys_norm {post : SY → Prop} {N : Nat} {g : Nat → Nat} {mn te dv ot fc kp rw : Nat → Nat} (hd : b5 dv) (h0 : nu dv ≠ 0)
    (H : ∀ dv' : Nat → Nat, b5 dv' → nu dv' = pm 0 (ld (nu dv) * ld (nu dv) * ld (nu dv) % 5) (nu dv) → post (zY N g mn te dv' ot fc kp rw)) :
    wpY_degreeOfDivisor (fun r_3 => (vp_in (r_3 &&& 7) 5 ∧ (wpY_inverse (fun r_14 => (∃ n126 : Nat, wY_shareAll_126 post r_14 (nI N) n126 0 (zA g) (zA mn) (zA te) (zA dv) (zA ot) (zA fc) (zA kp) (zA rw))) (zY N g mn te dv ot fc kp rw) (zA dv (r_3 &&& 7).toNatClampNeg)))) (zY N g mn te dv ot fc kp rw) := by
  have b4 := dg_4 (nu dv)
  have adv := nu_lt hd
  have ed : dv (dg (nu dv)) = ld (nu dv) := by
    rw [nu_dig hd (by omega)]
    exact Nat.mod_eq_of_lt (ld_lt adv)
  have lv := ld_lt adv
  have l1 : ld (nu dv) * ld (nu dv) ≤ 4 * 4 := Nat.mul_le_mul (by omega) (by omega)
  have l2 : ld (nu dv) * ld (nu dv) * ld (nu dv) ≤ 16 * 4 := Nat.mul_le_mul l1 (by omega)
  have l3 : ld (nu dv) * ld (nu dv) * ld (nu dv) % 5 < 5 := Nat.mod_lt _ (by decide)
  refine ys_degD hd ?_
  rw [nd_pos h0, nI_pred, and7 _ (by omega), nI_clamp (by omega), zA_at, ed]
  refine ⟨vp_in_nI (by omega) (by decide), ?_⟩
  unfold wpY_inverse
  refine ⟨zf5, ?_⟩
  rw [pk_mul, pk_mul, z5r (by omega)]
  generalize hc : ld (nu dv) * ld (nu dv) * ld (nu dv) % 5 = cc at *
  refine loop_0 (fun n k (s : Nat → Nat) => wY_shareAll_126 post (nI cc) (nI N) n (nI k) (zA g) (zA mn) (zA te) (zA s) (zA ot) (zA fc) (zA kp) (zA rw))
    (fun k s => b5 s ∧ ∀ j, j < 5 → kk (s j) = if j < k then kk cc * kk (dv j) else kk (dv j)) 5 dv ⟨hd, fun j hj => by rw [if_neg (by omega)]⟩ ?_ ?_
  · intro n s hI
    refine br_t (nI_le (a := 5) (Nat.le_refl _) (by omega)) (H s hI.1 ?_)
    refine nu_of hI.1 (pm_lt _ _ _) (fun j hj => ?_)
    rw [hI.2 j hj, if_pos hj, pd_pm _ _ _ _ hj, pd_0, nu_pd hd j hj]; grind
  · intro n k s hk hI ih
    have vk : vp_in (nI k) 5 := vp_in_nI (by omega) (by decide)
    have b1 := hI.1 k hk
    have b3 : s k * cc ≤ 4 * 4 := Nat.mul_le_mul (by omega) (by omega)
    refine br_f (nI_ge (b := 5) hk (by omega)) ?_
    rw [nI_clamp (by omega), zA_at, pk_mul, z5r (by omega)]
    refine ⟨vk, zf5, vk, nm_r (zA_upd _ _ _) (nm_r (nI_1 k) (ih _ ⟨?_, ?_⟩))⟩
    · intro j hj
      by_cases e : j = k
      · rw [e, zu_s]; exact Nat.mod_lt _ (by decide)
      · rw [zu_n e]; exact hI.1 j hj
    · intro j hj
      by_cases e : j = k
      · rw [e, zu_s, kk_mod, kk_mul, hI.2 k hk, if_neg (by omega), if_pos (by omega)]; grind
      · rw [zu_n e, hI.2 j hj]
        by_cases e2 : j < k
        · rw [if_pos e2, if_pos (by omega)]
        · rw [if_neg e2, if_neg (by omega)]
theorem ys_shareAll {post : SY → Prop} {N r k : Nat} {g : Nat → Nat} {mn te dv ot fc kp rw : Nat → Nat} (hN : N ≤ 4) (hr : r < 5) (hk1 : 1 ≤ k) (hk : k ≤ N) (hg : ∀ j, g j < 5)
    (H : ∀ mn' te' dv' : Nat → Nat, b5 dv' → gD (zSl g N r) N k (nu dv') → post (zY N g mn' te' dv' ot fc kp rw)) :
    wpY_shareAll post (zY N g mn te dv ot fc kp rw) (nI r) (nI k) := by
  obtain ⟨w1, w2⟩ := pw2 N (by omega)
  generalize hA : zSl g N r = A at *
  show ∃ n2, wY_shareAll_2 post (nI r) (nI k) (nI N) n2 0 (zA g) (zA mn) (zA te) (zA dv) (zA ot) (zA fc) (zA kp) (zA rw)
  refine loop_0 (fun n j (s : Nat → Nat) => wY_shareAll_2 post (nI r) (nI k) (nI N) n (nI j) (zA g) (zA mn) (zA te) (zA s) (zA ot) (zA fc) (zA kp) (zA rw))
    (fun j s => ∀ i, i < j → s i = 0) 5 dv (fun i h => absurd h (by omega)) ?_ ?_
  · intro n s0 hz
    have z5 : b5 s0 := fun i hi => by rw [hz i hi]; decide
    have zn : nu s0 = 0 := nu_of z5 (by decide) (fun i hi => by rw [hz i hi, pd_0]; rfl)
    refine br_t (nI_le (a := 5) (Nat.le_refl _) (by omega)) ?_
    refine loop_0 (fun n j (s : (Nat → Nat) × (Nat → Nat) × (Nat → Nat)) => wY_shareAll_22 post (nI r) (nI k) n (nI j) (nI N) (zA g) (zA s.1) (zA s.2.1) (zA s.2.2) (zA ot) (zA fc) (zA kp) (zA rw))
      (fun j s => b5 s.2.2 ∧ ∀ P, Idl P → (P (nu s.2.2) ↔ ∀ R C, 16 * R + C < j → C < 16 → R < 2 ^ N → C < 2 ^ N → pc R = k → pc C = k → P (mnum A R C))) 256 (mn, te, s0) ⟨z5, fun P hP => ⟨fun _ R C h1 => absurd h1 (by omega), fun _ => by show P (nu s0); rw [zn]; exact hP.1⟩⟩ ?_ ?_
    · intro n' s hI
      have hP2 : ∀ P, Idl P → (P (nu s.2.2) ↔ ∀ R C, R < 2 ^ N → C < 2 ^ N → pc R = k → pc C = k → P (mnum A R C)) := fun P hP => (hI.2 P hP).trans ⟨fun h R C hR hC e1 e2 => h R C (by omega) (by omega) hR hC e1 e2, fun h R C _ _ hR hC e1 e2 => h R C hR hC e1 e2⟩
      have h0 : nu s.2.2 ≠ 0 := by
        intro z
        obtain ⟨a1, a2⟩ := pc_all k (by omega)
        have hle : 2 ^ k ≤ 2 ^ N := Nat.pow_le_pow_right (by decide) hk
        have := (hP2 _ I_0).mp z (2 ^ k - 1) (2 ^ k - 1) (by omega) (by omega) a1 a1
        have e := mnum_pd A (2 ^ k - 1) (2 ^ k - 1) k (by omega)
        rw [this, pd_0, a1, chkk A k (by omega)] at e
        exact absurd e (by decide)
      refine br_t (nI_le (a := 256) (Nat.le_refl _) (by omega)) (ys_norm hI.1 h0 ?_)
      intro dv' d1 d2
      obtain ⟨n1, n2⟩ := nrm (nu_lt hI.1)
      refine H s.1 s.2.1 dv' d1 ⟨nu_lt d1, by rw [d2]; exact n1, fun P hP => ?_⟩
      rw [d2]
      exact (n2 P hP).trans (hP2 P hP)
    · intro n' j s hj hI ih
      have hR16 : j / 16 < 16 := by omega
      have hC16 : j % 16 < 16 := by omega
      have e16 : 16 * (j / 16) + j % 16 = j := Nat.div_add_mod j 16
      have hpR := pc4 (j / 16) hR16
      have hpC := pc4 (j % 16) hC16
      have skip : ¬ (j / 16 < 2 ^ N ∧ j % 16 < 2 ^ N ∧ pc (j / 16) = k ∧ pc (j % 16) = k) → ∀ x : Int32, x = nI j + 1 → wY_shareAll_22 post (nI r) (nI k) n' x (nI N) (zA g) (zA s.1) (zA s.2.1) (zA s.2.2) (zA ot) (zA fc) (zA kp) (zA rw) := by
        intro hne
        refine nm_r (nI_1 j) (ih s ⟨hI.1, fun P hP => (hI.2 P hP).trans ⟨fun h R C h1 h2 h3 h4 h5 h6 => ?_, fun h R C h1 h2 h3 h4 h5 h6 => h R C (by omega) h2 h3 h4 h5 h6⟩⟩)
        by_cases e : 16 * R + C = j
        · exfalso
          have er : R = j / 16 := by omega
          have ec : C = j % 16 := by omega
          rw [er] at h3 h5
          rw [ec] at h4 h6
          exact hne ⟨h3, h4, h5, h6⟩
        · exact h R C (by omega) h2 h3 h4 h5 h6
      refine br_f (nI_ge (b := 256) hj (by omega)) ⟨zf16, nm_r (z16d (by omega)) ⟨zf16, nm_r (z16r (by omega)) ?_⟩⟩
      refine ys_size hR16 (pk_eq (pc (j / 16)) k ?_ (fun z => skip (fun w => z w.2.2.1)))
      intro e1
      refine ys_size hC16 (pk_eq (pc (j % 16)) k ?_ (fun z => skip (fun w => z w.2.2.2)))
      intro e2
      rw [zshl (by omega)]
      refine pk_le (2 ^ N) (j / 16) (fun z => skip (fun w => by have := w.1; omega)) ?_
      intro e3
      refine pk_le (2 ^ N) (j % 16) (fun z => skip (fun w => by have := w.2.1; omega)) ?_
      intro e4
      refine ys_findMinor (x := true) hN hr hg e3 e4 ?_
      intro mn' te' m1 m2
      have hmn : nu mn' = mnum A (j / 16) (j % 16) := by
        refine nu_of m1 (mnum_lt _ _ _) (fun i hi => ?_)
        rw [m2 i hi, hA, mn_dt A hR16 hC16 (by omega) i hi, mnum_pd _ _ _ i hi]
      refine ys_share m1 hI.1 ?_
      intro mn2 dv2 q1 q2 q3
      refine nm_r (nI_1 j) (ih (mn2, te', dv2) ⟨q2, fun P hP => ?_⟩)
      show P (nu dv2) ↔ _
      rw [q3 P hP, hmn, hI.2 P hP]
      refine ⟨fun h R C h1 h2 h3 h4 h5 h6 => ?_, fun h => ⟨?_, fun R C h1 h2 h3 h4 h5 h6 => h R C (by omega) h2 h3 h4 h5 h6⟩⟩
      · by_cases e : 16 * R + C = j
        · have er : R = j / 16 := by omega
          have ec : C = j % 16 := by omega
          rw [er, ec]; exact h.1
        · exact h.2 R C (by omega) h2 h3 h4 h5 h6
      · exact h (j / 16) (j % 16) (by omega) hC16 e3 e4 e1 e2
  · intro n j s hj hz ih
    refine br_f (nI_ge (b := 5) hj (by omega)) ⟨vp_in_nI (by omega) (by decide), nm_r (e' := zA (zu s j 0)) (by rw [nI_clamp (by omega), ← zA_upd]; rfl) (nm_r (nI_1 j) (ih _ ?_))⟩
    intro i hi
    by_cases e : i = j
    · rw [e, zu_s]
    · rw [zu_n e]; exact hz i (by omega)
/-- taking digit b off -/
theorem mlt_cut {q p s b : Nat} (hq : q < 3125) (hs : mlt q p s) (hb : dg q + b ≤ 4) (hsb : s < 5 ^ (b + 1)) : mlt q (pm p (5 - s / 5 ^ b) (q * 5 ^ b)) (s % 5 ^ b) ∧ pd p (dg q + b) = pd q (dg q) * kk (s / 5 ^ b) ∧ s / 5 ^ b < 5 := by
  have hpos : 0 < 5 ^ b := Nat.pow_pos (by decide)
  have hmod := Nat.mod_lt s hpos
  have hs3 := mlt_s hs
  have hdl : s / 5 ^ b < 5 := by
    rw [Nat.div_lt_iff_lt_mul hpos]
    rw [Nat.pow_succ] at hsb
    omega
  have hd : ∀ j, j < 5 → pd s j = pd (s % 5 ^ b) j + kk (s / 5 ^ b) * (if j = b then 1 else 0) := by
    intro j hj
    by_cases c1 : j = b
    · subst c1
      rw [if_pos rfl, pd_hi hmod (Nat.le_refl _)]
      show kk (s / 5 ^ j) = _
      grind
    · rw [if_neg c1]
      by_cases c2 : j < b
      · have : pd (s % 5 ^ b) j = pd s j := by
          unfold pd
          rw [← kk_mod (s % 5 ^ b / 5 ^ j), ← kk_mod (s / 5 ^ j)]
          have e2 : b = j + (b - j) := by omega
          rw [e2, Nat.pow_add, Nat.mod_mul_right_div_self, show b - j = (b - j - 1) + 1 by omega, Nat.pow_succ, Nat.mul_comm (5 ^ (b - j - 1)) 5, Nat.mod_mul_right_mod]
        rw [this]; grind
      · rw [pd_hi hsb (by omega), pd_hi hmod (by omega)]; grind
  refine ⟨⟨?_, fun k hk => ?_⟩, ?_, hdl⟩
  · have := hs.1
    have : s % 5 ^ b ≤ s := Nat.mod_le _ _
    omega
  · have hp2 := hs.2 k hk
    rw [cv_cong (pd q) hd k hk, cv_lin _ _ _ _ k hk, cv_e _ b (by omega) k hk] at hp2
    rw [pd_pm _ _ _ _ hk, pd_sh, kk_5s (by omega), hp2]
    generalize (if k < b then 0 else pd q (k - b)) = y
    grind
  · rw [hs.2 _ (by omega)]
    exact (cv_top (pd q) (pd s) (dg q) (by omega) b (by omega) hb (fun i hi _ => pd_gt hq hi) (fun j hj _ => pd_hi hsb (by omega))).1
theorem ys_div81 {post : SY → Prop} {J : Int32 → (Nat → Int32) → (Nat → Int32) → (Nat → Int32) → (Nat → Int32) → (Nat → Int32) → (Nat → Int32) → (Nat → Int32) → (Nat → Int32) → Prop} {x1 : Int32} {N lw b cc : Nat} {g : Nat → Nat} {mn te dv ot fc kp rw : Nat → Nat} (hm : b5 mn) (ho : b5 ot) (hlw : dg (nu ot) = lw) (hb : lw + b ≤ 4) (hcc : cc < 5)
    (H : ∀ mn' : Nat → Nat, b5 mn' → nu mn' = pm (nu mn) (5 - cc) (nu ot * 5 ^ b) → J (nI (lw + b) + (-1)) (zA g) (zA mn') (zA te) (zA dv) (zA ot) (zA fc) (zA kp) (zA rw)) :
    ∃ n81, wY_divide_81 post J x1 (nI lw) (nI (lw + b)) (nI cc) (nI N) n81 0 (zA g) (zA mn) (zA te) (zA dv) (zA ot) (zA fc) (zA kp) (zA rw) := by
  have aot := nu_lt ho
  refine loop_0 (fun n k (s : Nat → Nat) => wY_divide_81 post J x1 (nI lw) (nI (lw + b)) (nI cc) (nI N) n (nI k) (zA g) (zA s) (zA te) (zA dv) (zA ot) (zA fc) (zA kp) (zA rw))
    (fun k s => b5 s ∧ ∀ j, j < 5 → kk (s j) = kk (mn j) + (if b ≤ j ∧ j < b + k then kk (5 - cc) * kk (ot (j - b)) else 0)) (lw + 1) mn ⟨hm, fun j hj => ?_⟩ ?_ ?_
  · rw [if_neg (by omega)]; grind
  · intro n s hI
    refine br_t (nI_lt (by omega) (by omega)) (nm_e (H s hI.1 ?_))
    refine nu_of hI.1 (pm_lt _ _ _) (fun j hj => ?_)
    rw [hI.2 j hj, pd_pm _ _ _ _ hj, nu_pd hm j hj, pd_sh]
    by_cases e1 : j < b
    · rw [if_neg (by omega), if_pos e1]; grind
    · rw [if_neg e1]
      by_cases e2 : j < b + (lw + 1)
      · rw [if_pos ⟨by omega, e2⟩, nu_pd ho _ (by omega)]
      · rw [if_neg (by omega), pd_gt aot (by omega)]; grind
  · intro n k s hk hI ih
    have e0 : nI (lw + b) - nI lw + nI k = nI (b + k) := by rw [pk_sub (by omega), nI_add, Nat.add_sub_cancel_left]
    have b1 := hI.1 (b + k) (by omega)
    have b2 := ho k (by omega)
    have b3 : (5 - cc) * ot k ≤ 5 * 4 := Nat.mul_le_mul (by omega) (by omega)
    refine br_f (nI_nlt (by omega) (by omega)) ?_
    rw [e0, nI_clamp (by omega), nI_clamp (by omega), zA_at, zA_at, z5s (by omega), pk_mul, nI_add, z5r (by omega)]
    refine ⟨vp_in_nI (by omega) (by decide), vp_in_nI (by omega) (by decide), zf5, vp_in_nI (by omega) (by decide), nm_r (zA_upd _ _ _) (nm_r (nI_1 k) (ih _ ⟨?_, ?_⟩))⟩
    · intro j hj
      by_cases e : j = b + k
      · rw [e, zu_s]; exact Nat.mod_lt _ (by decide)
      · rw [zu_n e]; exact hI.1 j hj
    · intro j hj
      by_cases e : j = b + k
      · rw [e, zu_s, kk_mod, kk_add, kk_mul, hI.2 _ (by omega), if_neg (by omega), if_pos ⟨by omega, by omega⟩, show b + k - b = k by omega]
        grind
      · rw [zu_n e, hI.2 j hj]
        by_cases e2 : b ≤ j ∧ j < b + k
        · rw [if_pos e2, if_pos ⟨e2.1, by omega⟩]
        · rw [if_neg e2, if_neg (by omega)]
theorem dvd_mod_dig {s b : Nat} {i : Nat} (h : i < b) : s % 5 ^ b / 5 ^ i % 5 = s / 5 ^ i % 5 := by
  have e2 : b = i + (b - i) := by omega
  rw [e2, Nat.pow_add, Nat.mod_mul_right_div_self, show b - i = (b - i - 1) + 1 by omega, Nat.pow_succ, Nat.mul_comm (5 ^ (b - i - 1)) 5, Nat.mod_mul_right_mod]
theorem ys_div51 {post : SY → Prop} {N k s : Nat} {g : Nat → Nat} {mn te dv ot fc kp rw : Nat → Nat} (hk : k < 4) (hm : b5 mn) (ho : b5 ot) (h0 : nu ot ≠ 0) (hl : ld (nu ot) = 1) (hs : mlt (nu ot) (nu mn) s) (hf : ∀ j, j < 5 → fc (5 * k + j) = 0)
    (H : ∀ mn' fc' : Nat → Nat, (∀ j, j < 5 → fc' (5 * k + j) = s / 5 ^ j % 5) → (∀ j, (j < 5 * k ∨ 5 * k + 5 ≤ j) → fc' j = fc j) → post (zY N g mn' te dv ot fc' kp rw)) :
    ∃ n51, wY_divide_51 post (nI k) (nI (dg (nu ot))) (nI N) n51 4 (zA g) (zA mn) (zA te) (zA dv) (zA ot) (zA fc) (zA kp) (zA rw) := by
  have b4 := dg_4 (nu ot)
  have aot := nu_lt ho
  generalize hlw : dg (nu ot) = lw at *
  have hs1 := hs.1
  rw [hlw] at hs1
  have main : ∀ e (mn' fc' : Nat → Nat), lw + e ≤ 5 → b5 mn' → mlt (nu ot) (nu mn') (s % 5 ^ e) → (∀ j, e ≤ j → j < 5 → fc' (5 * k + j) = s / 5 ^ j % 5) → (∀ j, j < e → fc' (5 * k + j) = 0) → (∀ j, (j < 5 * k ∨ 5 * k + 5 ≤ j) → fc' j = fc j) →
      wY_divide_51 post (nI k) (nI lw) (nI N) (e + 1) (nI (lw + e) - 1) (zA g) (zA mn') (zA te) (zA dv) (zA ot) (zA fc') (zA kp) (zA rw) := by
    intro e
    induction e with
    | zero =>
      intro mn' fc' he m1 m2 f1 f2 f3
      have hx : nI (lw + 0) - 1 < nI lw := by
        rw [Nat.add_zero]
        by_cases z : lw = 0
        · subst z; decide
        · rw [zs1 (by omega)]; exact nI_lt (by omega) (by omega)
      exact br_t hx (H mn' fc' (fun j hj => f1 j (Nat.zero_le _) hj) f3)
    | succ e ih =>
      intro mn' fc' he m1 m2 f1 f2 f3
      have hpos : 0 < 5 ^ (e + 1) := Nat.pow_pos (by decide)
      obtain ⟨c1, c2, c3⟩ := mlt_cut (b := e) aot m2 (by omega) (Nat.mod_lt _ hpos)
      have e1 : nI (lw + (e + 1)) - 1 = nI (lw + e) := by rw [← Nat.add_assoc, nI_pred]
      rw [e1]
      have hdig : s % 5 ^ (e + 1) / 5 ^ e = s / 5 ^ e % 5 := by
        rw [Nat.pow_succ, Nat.mod_mul_right_div_self]
      have hmod2 : s % 5 ^ (e + 1) % 5 ^ e = s % 5 ^ e := by
        rw [Nat.pow_succ]; exact Nat.mod_mul_right_mod _ _ _
      rw [hmod2, hdig] at c1
      rw [hdig, hlw] at c2
      rw [hdig] at c3
      have hc : mn' (lw + e) = s / 5 ^ e % 5 := by
        refine kk_inj (m1 _ (by omega)) c3 ?_
        rw [← nu_pd m1 _ (by omega), c2]
        have : pd (nu ot) lw = 1 := by rw [← hlw, pd_ld, hl]; rfl
        rw [this]; grind
      have e2 : (5 : Int32) * nI k + nI (lw + e) - nI lw = nI (5 * k + e) := by
        rw [z5m, nI_add, pk_sub (by omega)]
        exact congrArg nI (by omega)
      refine br_f (nI_nlt (by omega) (by omega)) ⟨vp_in_nI (by omega) (by decide), nm_r (e' := nI (s / 5 ^ e % 5)) (by rw [nI_clamp (by omega), zA_at, hc]) ⟨by rw [e2]; exact vp_in_nI (by omega) (by decide), nm_r (e' := zA (zu fc' (5 * k + e) (s / 5 ^ e % 5))) (by rw [e2, nI_clamp (by omega), zA_upd]) ?_⟩⟩
      refine ys_div81 m1 ho hlw (by omega) c3 ?_
      intro mn2 q1 q2
      rw [show nI (lw + e) + (-1) = nI (lw + e) - 1 from (Int32.sub_eq_add_neg _ _).symm]
      refine ih mn2 _ (by omega) q1 (by rw [q2]; exact c1) ?_ ?_ ?_
      · intro j hj hj5
        by_cases z : j = e
        · rw [z, zu_s]
        · rw [zu_n (by omega)]; exact f1 j (by omega) hj5
      · intro j hj
        rw [zu_n (by omega)]; exact f2 j (by omega)
      · intro j hj
        rw [zu_n (by omega)]; exact f3 j hj
  have hfull : s % 5 ^ (5 - lw) = s := Nat.mod_eq_of_lt hs1
  have hst := main (5 - lw) mn fc (by omega) hm (by rw [hfull]; exact hs) (fun j hj hj5 => by
    rw [hf j hj5, Nat.div_eq_of_lt (Nat.lt_of_lt_of_le hs1 (Nat.pow_le_pow_right (by decide) hj))]) (fun j hj => hf j (by omega)) (fun _ _ => rfl)
  rw [show lw + (5 - lw) = 5 by omega] at hst
  exact ⟨_, hst⟩
theorem ndA_dg {a : Nat → Nat} (h : b5 a) (h0 : nu a ≠ 0) : ndA a 5 = dg (nu a) + 1 := by rw [ndA_nd h, nd_pos h0]
theorem ys_divide {post : SY → Prop} {N k s : Nat} {g : Nat → Nat} {mn te dv ot fc kp rw : Nat → Nat} (hk : k < 4) (hd : b5 dv) (ho : b5 ot) (h0 : nu ot ≠ 0) (hl : ld (nu ot) = 1) (hs : mlt (nu ot) (nu dv) s)
    (H : ∀ mn' fc' : Nat → Nat, (∀ j, j < 5 → fc' (5 * k + j) = s / 5 ^ j % 5) → (∀ j, (j < 5 * k ∨ 5 * k + 5 ≤ j) → fc' j = fc j) → post (zY N g mn' te dv ot fc' kp rw)) :
    wpY_divide post (zY N g mn te dv ot fc kp rw) (nI k) := by
  show ∃ n4, wY_divide_4 post (nI k) (nI N) n4 0 0 (zA g) (zA mn) (zA te) (zA dv) (zA ot) (zA fc) (zA kp) (zA rw)
  refine loop_0 (fun n j (q : Nat × (Nat → Nat) × (Nat → Nat)) => wY_divide_4 post (nI k) (nI N) n (nI q.1) (nI j) (zA g) (zA q.2.1) (zA te) (zA dv) (zA ot) (zA q.2.2) (zA kp) (zA rw))
    (fun j q => q.1 = ndA ot j - 1 ∧ (∀ i, i < j → q.2.1 i = dv i) ∧ (∀ i, i < j → q.2.2 (5 * k + i) = 0) ∧ ∀ i, (i < 5 * k ∨ 5 * k + 5 ≤ i) → q.2.2 i = fc i) 5 (0, mn, fc) ⟨rfl, fun i h => absurd h (by omega), fun i h => absurd h (by omega), fun _ _ => rfl⟩ ?_ ?_
  · intro n q hI
    obtain ⟨i1, i2, i3, i4⟩ := hI
    have e1 : q.1 = dg (nu ot) := by rw [i1, ndA_dg ho h0]; rfl
    have m5 : b5 q.2.1 := fun i hi => by rw [i2 i hi]; exact hd i hi
    have en : nu q.2.1 = nu dv := nu_cong i2
    refine br_t (nI_le (a := 5) (Nat.le_refl _) (by omega)) ?_
    rw [e1]
    refine ys_div51 hk m5 ho h0 hl (by rw [en]; exact hs) i3 ?_
    intro mn' fc' f1 f2
    refine H mn' fc' f1 (fun j hj => ?_)
    rw [f2 j hj]; exact i4 j hj
  · intro n j q hj hI ih
    obtain ⟨i1, i2, i3, i4⟩ := hI
    have vj : vp_in (nI j) 5 := vp_in_nI (by omega) (by decide)
    have hoj := ho j hj
    have e0 : (5 : Int32) * nI k + nI j = nI (5 * k + j) := by rw [z5m, nI_add]
    have step : ∀ z : Nat, z = ndA ot (j + 1) - 1 → wY_divide_32 post (wY_divide_4 post (nI k) (nI N) n) (nI k) (nI z) (nI j) (nI N) (zA g) (zA (zu q.2.1 j (dv j))) (zA te) (zA dv) (zA ot) (zA q.2.2) (zA kp) (zA rw) := by
      intro z hz
      unfold wY_divide_32
      rw [e0, nI_clamp (by omega)]
      refine ⟨vp_in_nI (by omega) (by decide), nm_r (e' := zA (zu q.2.2 (5 * k + j) 0)) (by rw [← zA_upd]; rfl) (nm_r (nI_1 j) (ih (z, zu q.2.1 j (dv j), zu q.2.2 (5 * k + j) 0) ⟨hz, ?_, ?_, ?_⟩))⟩
      · intro i hi
        show zu q.2.1 j (dv j) i = dv i
        by_cases e : i = j
        · rw [e, zu_s]
        · rw [zu_n e]; exact i2 i (by omega)
      · intro i hi
        show zu q.2.2 (5 * k + j) 0 (5 * k + i) = 0
        by_cases e : i = j
        · rw [e, zu_s]
        · rw [zu_n (by omega)]; exact i3 i (by omega)
      · intro i hi
        show zu q.2.2 (5 * k + j) 0 i = fc i
        rw [zu_n (by omega)]; exact i4 i hi
    refine br_f (nI_ge (b := 5) hj (by omega)) ?_
    rw [nI_clamp (by omega), zA_at, zA_at]
    refine ⟨vj, vj, nm_r (zA_upd _ _ _) ⟨vj, pk_eq (ot j) 0 ?_ ?_⟩⟩
    · intro e
      refine step q.1 ?_
      rw [i1]
      show _ = (if ot j = 0 then ndA ot j else j + 1) - 1
      rw [if_pos e]
    · intro e
      refine step j ?_
      show _ = (if ot j = 0 then ndA ot j else j + 1) - 1
      rw [if_neg e, Nat.add_sub_cancel]
theorem ys_findFactors {post : SY → Prop} {N r : Nat} {g : Nat → Nat} {mn te dv ot fc kp rw : Nat → Nat} (h1 : 1 ≤ N) (hN : N ≤ 4) (hr : r < 5) (hg : ∀ j, g j < 5)
    (H : ∀ mn' te' dv' ot' fc' d s : Nat → Nat, fac (zSl g N r) N d s → (∀ k j, k < N → j < 5 → fc' (5 * k + j) = s k / 5 ^ j % 5) → post (zY N g mn' te' dv' ot' fc' kp rw)) :
    wpY_findFactors post (zY N g mn te dv ot fc kp rw) (nI r) := by
  generalize hA : zSl g N r = A at *
  show ∃ n2, wY_findFactors_2 post (nI r) (nI N) n2 0 (zA g) (zA mn) (zA te) (zA dv) (zA ot) (zA fc) (zA kp) (zA rw)
  refine loop_0 (fun n j (s : Nat → Nat) => wY_findFactors_2 post (nI r) (nI N) n (nI j) (zA g) (zA mn) (zA te) (zA dv) (zA s) (zA fc) (zA kp) (zA rw))
    (fun j s => ∀ i, i < j → s i = if i = 0 then 1 else 0) 5 ot (fun i h => absurd h (by omega)) ?_ ?_
  · intro n o0 hz
    have z5 : b5 o0 := fun i hi => by rw [hz i hi]; split <;> decide
    have zn : nu o0 = 1 := nu_of z5 (by decide) (fun i hi => by rw [hz i hi, pd_1]; split <;> rfl)
    refine br_t (nI_le (a := 5) (Nat.le_refl _) (by omega)) ?_
    refine loop_0 (fun n k (q : (Nat → Nat) × (Nat → Nat) × (Nat → Nat) × (Nat → Nat) × (Nat → Nat)) => wY_findFactors_30 post (nI r) n (nI k) (nI N) (zA g) (zA q.1) (zA q.2.1) (zA q.2.2.1) (zA q.2.2.2.1) (zA q.2.2.2.2) (zA kp) (zA rw))
      (fun k q => b5 q.2.2.2.1 ∧ ∃ d s : Nat → Nat, (∀ i, i ≤ k → gD A N i (d i)) ∧ (∀ i, i < k → mlt (d i) (d (i + 1)) (s i)) ∧ nu q.2.2.2.1 = d k ∧ ∀ i j, i < k → j < 5 → q.2.2.2.2 (5 * i + j) = s i / 5 ^ j % 5) N (mn, te, dv, o0, fc) ⟨z5, fun _ => 1, fun _ => 0, ?_, fun i hi => absurd hi (by omega), zn, fun i j hi => absurd hi (by omega)⟩ ?_ ?_
    · intro i hi
      have : i = 0 := by omega
      subst this
      exact gD_0 A hN
    · intro n' q hI
      obtain ⟨_, d, s, i1, i2, i3, i4⟩ := hI
      exact br_t (nI_le (Nat.le_refl _) (by omega)) (H _ _ _ _ _ d s ⟨i1, i2⟩ i4)
    · intro n' k q hk hI ih
      obtain ⟨i0, d, s, i1, i2, i3, i4⟩ := hI
      refine br_f (nI_ge hk (by omega)) ?_
      rw [nI_1]
      refine ys_shareAll hN hr (by omega) (by omega) hg ?_
      intro mn' te' dv' d5 hD
      rw [hA] at hD
      have gb := i1 k (Nat.le_refl _)
      obtain ⟨n1, n2⟩ := gD_ne hN (by omega) gb
      obtain ⟨t, ht⟩ := gD_mul hN (by omega) gb hD
      refine ys_divide (s := t) (by omega) d5 i0 (by rw [i3]; exact n1) (by rw [i3]; exact n2) (by rw [i3]; exact ht) ?_
      intro mn2 fc2 f1 f2
      refine loop_0 (fun n2 j (o : Nat → Nat) => wY_findFactors_53 post (wY_findFactors_30 post (nI r) n') (nI r) (nI k) (nI N) n2 (nI j) (zA g) (zA mn2) (zA te') (zA dv') (zA o) (zA fc2) (zA kp) (zA rw))
        (fun j o => ∀ i, i < j → o i = dv' i) 5 q.2.2.2.1 (fun i h => absurd h (by omega)) ?_ ?_
      · intro n2 o ho
        have o5 : b5 o := fun i hi => by rw [ho i hi]; exact d5 i hi
        have on : nu o = nu dv' := nu_cong ho
        refine br_t (nI_le (a := 5) (Nat.le_refl _) (by omega)) (nm_r (nI_1 k) (ih (mn2, te', dv', o, fc2) ⟨o5, zu d (k + 1) (nu dv'), zu s k t, ?_, ?_, ?_, ?_⟩))
        · intro i hi
          by_cases e : i = k + 1
          · rw [e, zu_s]; exact hD
          · rw [zu_n e]; exact i1 i (by omega)
        · intro i hi
          by_cases e : i = k
          · rw [e, zu_s, zu_s, zu_n (by omega)]; exact ht
          · rw [zu_n (by omega), zu_n (by omega), zu_n e]; exact i2 i (by omega)
        · show nu o = zu d (k + 1) (nu dv') (k + 1)
          rw [zu_s, on]
        · intro i j hi hj
          show fc2 (5 * i + j) = zu s k t i / 5 ^ j % 5
          by_cases e : i = k
          · rw [e, zu_s]; exact f1 j hj
          · rw [zu_n e, f2 _ (by omega)]; exact i4 i j (by omega) hj
      · intro n2 j o hj ho ih2
        have vj : vp_in (nI j) 5 := vp_in_nI (by omega) (by decide)
        refine br_f (nI_ge (b := 5) hj (by omega)) ?_
        rw [nI_clamp (by omega), zA_at]
        refine ⟨vj, vj, nm_r (zA_upd _ _ _) (nm_r (nI_1 j) (ih2 _ ?_))⟩
        intro i hi
        by_cases e : i = j
        · rw [e, zu_s]
        · rw [zu_n e]; exact ho i (by omega)
  · intro n j s hj hz ih
    have vj : vp_in (nI j) 5 := vp_in_nI (by omega) (by decide)
    have step : ∀ z : Nat, (z = if j = 0 then 1 else 0) → ∀ {y : Int32}, y = nI z → vp_in (nI j) 5 ∧ ∀ b : Nat → Int32, b = upd (zA s) (nI j).toNatClampNeg y → ∀ x : Int32, x = nI j + 1 →
        wY_findFactors_2 post (nI r) (nI N) n x (zA g) (zA mn) (zA te) (zA dv) b (zA fc) (zA kp) (zA rw) := by
      intro z ez y hy
      subst hy
      refine ⟨vj, nm_r (e' := zA (zu s j z)) (by rw [nI_clamp (by omega), zA_upd]) (nm_r (nI_1 j) (ih _ ?_))⟩
      intro i hi
      by_cases e : i = j
      · rw [e, zu_s, ez]
      · rw [zu_n e]; exact hz i (by omega)
    refine br_f (nI_ge (b := 5) hj (by omega)) (pk_eq j 0 ?_ ?_)
    · intro e
      exact step 1 (by rw [if_pos e]) rfl
    · intro e
      exact step 0 (by rw [if_neg e]) rfl
theorem ys_degF {post : Int32 → Prop} {N k s : Nat} {g : Nat → Nat} {mn te dv ot fc kp rw : Nat → Nat} (hk : k < 4) (hs : s < 3125) (h0 : s ≠ 0) (hf : ∀ j, j < 5 → fc (5 * k + j) = s / 5 ^ j % 5) (H : post (nI (dg s))) : wpY_degreeOfFactor post (zY N g mn te dv ot fc kp rw) (nI k) := by
  have a5 : b5 (fun j => fc (5 * k + j)) := fun j hj => by show fc (5 * k + j) < 5; rw [hf j hj]; exact Nat.mod_lt _ (by decide)
  have an : nu (fun j => fc (5 * k + j)) = s := nu_of a5 hs (fun j hj => by show kk (fc (5 * k + j)) = _; rw [hf j hj, kk_mod]; rfl)
  show ∃ n4, wY_degreeOfFactor_4 post (nI k) (nI N) (zA g) (zA mn) (zA te) (zA dv) (zA ot) (zA fc) (zA kp) (zA rw) n4 0 0
  refine loop_0 (fun n j (e : Nat) => wY_degreeOfFactor_4 post (nI k) (nI N) (zA g) (zA mn) (zA te) (zA dv) (zA ot) (zA fc) (zA kp) (zA rw) n (nI e) (nI j))
    (fun j e => e = ndA (fun j => fc (5 * k + j)) j - 1) 5 0 rfl ?_ ?_
  · intro n e he
    refine br_t (nI_le (a := 5) (Nat.le_refl _) (by omega)) ?_
    rw [he, ndA_dg a5 (by rw [an]; exact h0), an]; exact H
  · intro n j e hj he ih
    have hb := a5 j hj
    have e0 : (5 : Int32) * nI k + nI j = nI (5 * k + j) := by rw [z5m, nI_add]
    refine br_f (nI_ge (b := 5) hj (by omega)) ?_
    rw [e0, nI_clamp (by omega), zA_at]
    refine ⟨vp_in_nI (by omega) (by decide), pk_eq (fc (5 * k + j)) 0 ?_ ?_ (ha := by have : fc (5 * k + j) < 5 := hb; omega)⟩
    · intro z
      refine nm_r (nI_1 j) (ih e ?_)
      rw [he]
      show _ = (if fc (5 * k + j) = 0 then ndA (fun j => fc (5 * k + j)) j else j + 1) - 1
      rw [if_pos z]
    · intro z
      refine nm_r (nI_1 j) (ih j ?_)
      show _ = (if fc (5 * k + j) = 0 then ndA (fun j => fc (5 * k + j)) j else j + 1) - 1
      rw [if_neg z, Nat.add_sub_cancel]
theorem ys_writ {post : Int32 → Prop} {N k s : Nat} {g : Nat → Nat} {mn te dv ot fc kp rw : Nat → Nat} (hk : k < 4) (hs : s < 3125) (hf : ∀ j, j < 5 → fc (5 * k + j) = s / 5 ^ j % 5) (H : post (nI s)) : wpY_written post (zY N g mn te dv ot fc kp rw) (nI k) := by
  have a5 : b5 (fun j => fc (5 * k + j)) := fun j hj => by show fc (5 * k + j) < 5; rw [hf j hj]; exact Nat.mod_lt _ (by decide)
  have an : nu (fun j => fc (5 * k + j)) = s := nu_of a5 hs (fun j hj => by show kk (fc (5 * k + j)) = _; rw [hf j hj, kk_mod]; rfl)
  have main : ∀ d p, d ≤ 5 → p < 5 ^ (5 - d) → post (nI (hrn (fun j => fc (5 * k + j)) d p)) → wY_written_4 post (nI k) (nI N) (zA g) (zA mn) (zA te) (zA dv) (zA ot) (zA fc) (zA kp) (zA rw) (d + 1) (nI p) (nI d - 1) := by
    intro d
    induction d with
    | zero =>
      intro p _ _ h
      exact br_t (by decide) h
    | succ d ih =>
      intro p hd hp h
      have md : fc (5 * k + d) < 5 := a5 d (by omega)
      have e : 5 - d = (5 - (d + 1)) + 1 := by omega
      have hp5 : 5 * p + fc (5 * k + d) < 5 ^ (5 - d) := by
        rw [e, Nat.pow_succ]; omega
      have e0 : (5 : Int32) * nI k + nI d = nI (5 * k + d) := by rw [z5m, nI_add]
      rw [nI_pred]
      refine br_f (nI_pos (by omega)) ?_
      rw [e0, nI_clamp (by omega), zA_at]
      refine ⟨vp_in_nI (by omega) (by decide), nm_r (e' := nI (5 * p + fc (5 * k + d))) (by rw [z5m, nI_add]) (nm_r (e' := nI d - 1) (Int32.sub_eq_add_neg _ _).symm (ih _ (by omega) hp5 h))⟩
  refine ⟨6, main 5 0 (by omega) (by decide) ?_⟩
  have : hrn (fun j => fc (5 * k + j)) 5 0 = s := an
  rw [this]; exact H
end
section
/-! minimal, similar -/
theorem i_vc_minimal {k : Nat} {u : SX} {v : SY} (I : i_Rel k u v) (hk : k + 5 ≤ 2561) (v1 : Int32) : wpX_minimal (fun r u' => wpY_minimal (fun r' v' => r' = r ∧ i_Rel (k + 5) u' v') v v1) u v1 := by
  obtain ⟨N, c, m, f, g, mn, te, dv, ot, fc, kp, rw, rfl, rfl, h1, h4, hc, hg, h⟩ := I
  unfold wpX_minimal wpY_minimal; dsimp only
  rcases zout v1 (n := 4) (by decide) with ⟨r, hr, rfl⟩ | o1
  · refine xr_ok hr (br_f zf1 (xs_findFactors (st := 0) h1 h4 (by omega) (by omega) hc ?_))
    intro m' f' d s hF hf _
    have e1 : f' (N - 1) = s (N - 1) := by have := hf (N - 1) (by omega); rwa [Nat.zero_add] at this
    dsimp only
    rw [zs1 h1, nI_clamp (by omega)]
    refine ⟨vp_in_nI (by omega) (by decide), ?_⟩
    refine yr_ok hr (br_f zf1 (ys_findFactors h1 h4 (by omega) hg ?_))
    intro mn' te' dv' ot' fc' d' s' hF' hf'
    rw [zrel h hr] at hF
    have hu := (fac_u h4 hF hF').2 (N - 1) (by omega)
    have h3 := (fac_s h4 hF' (N - 1) (by omega)).2.1
    dsimp only
    rw [zs1 h1]
    refine ys_writ (s := s' (N - 1)) (by omega) h3 (fun j hj => hf' (N - 1) j (by omega) hj) ⟨?_, zR h1 h4 hc hg h⟩
    rw [zA_at, e1, hu]
  · exact xr_no o1 (br_t rfl (yr_no o1 (br_t rfl ⟨rfl, zR h1 h4 hc hg h⟩)))
theorem xs_cmp {post : Int32 → SX → Prop} {N : Nat} {c m f : Nat → Nat} (hN : N ≤ 4) (hb : ∀ i, i < N → f i < 3125 ∧ f (4 + i) < 3125)
    (H1 : (∀ i, i < N → f i = f (4 + i)) → post 1 (zX N c m f)) (H0 : (¬ ∀ i, i < N → f i = f (4 + i)) → post 0 (zX N c m f)) :
    ∃ n30, wX_similar_30 post (nI N) (zA c) (zA m) (zA f) n30 0 := by
  refine loop_0 (fun n i (_ : Unit) => wX_similar_30 post (nI N) (zA c) (zA m) (zA f) n (nI i)) (fun i _ => ∀ i', i' < i → f i' = f (4 + i')) N () (fun i' h => absurd h (by omega)) ?_ ?_
  · intro n _ hI
    exact br_t (nI_le (Nat.le_refl _) (by omega)) (H1 hI)
  · intro n i _ hi hI ih
    obtain ⟨b1, b2⟩ := hb i hi
    refine br_f (nI_ge hi (by omega)) ?_
    rw [z4a, nI_clamp (by omega), nI_clamp (by omega), zA_at, zA_at]
    refine ⟨vp_in_nI (by omega) (by decide), vp_in_nI (by omega) (by decide), pk_eq (f i) (f (4 + i)) ?_ ?_⟩
    · intro e
      refine nm_r (nI_1 i) (ih () ?_)
      intro i' hi'
      by_cases z : i' = i
      · rw [z]; exact e
      · exact hI i' (by omega)
    · intro e
      exact H0 (fun z => e (z i hi))
theorem ys_cmp {post : Int32 → SY → Prop} {N : Nat} {g : Nat → Nat} {mn te dv ot fc kp rw : Nat → Nat} (hN : N ≤ 4) (hb : ∀ i, i < 5 * N → kp i < 5 ∧ fc i < 5)
    (H1 : (∀ i, i < 5 * N → kp i = fc i) → post 1 (zY N g mn te dv ot fc kp rw)) (H0 : (¬ ∀ i, i < 5 * N → kp i = fc i) → post 0 (zY N g mn te dv ot fc kp rw)) :
    ∃ n56, wY_similar_56 post (nI N) (zA g) (zA mn) (zA te) (zA dv) (zA ot) (zA fc) (zA kp) (zA rw) n56 0 := by
  refine loop_0 (fun n i (_ : Unit) => wY_similar_56 post (nI N) (zA g) (zA mn) (zA te) (zA dv) (zA ot) (zA fc) (zA kp) (zA rw) n (nI i)) (fun i _ => ∀ i', i' < i → kp i' = fc i') (5 * N) () (fun i' h => absurd h (by omega)) ?_ ?_
  · intro n _ hI
    exact br_t (by rw [z5m]; exact nI_le (Nat.le_refl _) (by omega)) (H1 hI)
  · intro n i _ hi hI ih
    obtain ⟨b1, b2⟩ := hb i hi
    refine br_f (by rw [z5m]; exact nI_ge hi (by omega)) ?_
    rw [nI_clamp (by omega), zA_at, zA_at]
    refine ⟨vp_in_nI (by omega) (by decide), vp_in_nI (by omega) (by decide), pk_eq (kp i) (fc i) ?_ ?_⟩
    · intro e
      refine nm_r (nI_1 i) (ih () ?_)
      intro i' hi'
      by_cases z : i' = i
      · rw [z]; exact e
      · exact hI i' (by omega)
    · intro e
      exact H0 (fun z => e (z i hi))
theorem ys_keep {post : Int32 → SY → Prop} {N b : Nat} {g : Nat → Nat} {mn te dv ot fc kp rw : Nat → Nat}
    (H : ∀ kp' : Nat → Nat, (∀ i, i < 20 → kp' i = fc i) → wpY_findFactors (fun u => match u with | (f_n_35, a_regs_36, a_minor_37, a_term_38, a_divisor_39, a_other_40, a_factors_41, a_kept_42, a_rows_43) => (∃ n56 : Nat, wY_similar_56 post f_n_35 a_regs_36 a_minor_37 a_term_38 a_divisor_39 a_other_40 a_factors_41 a_kept_42 a_rows_43 n56 0)) (zY N g mn te dv ot fc kp' rw) (nI b)) :
    ∃ n25, wY_similar_25 post (nI b) (nI N) n25 0 (zA g) (zA mn) (zA te) (zA dv) (zA ot) (zA fc) (zA kp) (zA rw) := by
  refine loop_0 (fun n i (q : Nat → Nat) => wY_similar_25 post (nI b) (nI N) n (nI i) (zA g) (zA mn) (zA te) (zA dv) (zA ot) (zA fc) (zA q) (zA rw)) (fun i q => ∀ i', i' < i → q i' = fc i') 20 kp (fun i' h => absurd h (by omega)) ?_ ?_
  · intro n q hI
    exact br_t (nI_le (a := 20) (Nat.le_refl _) (by omega)) (H q hI)
  · intro n i q hi hI ih
    have vi : vp_in (nI i) 20 := vp_in_nI (by omega) (by decide)
    refine br_f (nI_ge (b := 20) hi (by omega)) ?_
    rw [nI_clamp (by omega), zA_at]
    refine ⟨vi, vi, nm_r (zA_upd _ _ _) (nm_r (nI_1 i) (ih _ ?_))⟩
    intro i' hi'
    by_cases e : i' = i
    · rw [e, zu_s]
    · rw [zu_n e]; exact hI i' (by omega)
theorem i_vc_similar {k : Nat} {u : SX} {v : SY} (I : i_Rel k u v) (hk : k + 5 ≤ 2561) (v1 : Int32) (v2 : Int32) : wpX_similar (fun r u' => wpY_similar (fun r' v' => r' = r ∧ i_Rel (k + 5) u' v') v v1 v2) u v1 v2 := by
  obtain ⟨N, c, m, f, g, mn, te, dv, ot, fc, kp, rw, rfl, rfl, h1, h4, hc, hg, h⟩ := I
  unfold wpX_similar wpY_similar; dsimp only
  rcases zout v1 (n := 4) (by decide) with ⟨a, ha, rfl⟩ | o1
  · refine xr_ok ha (br_f zf1 ?_)
    rcases zout v2 (n := 4) (by decide) with ⟨b, hb, rfl⟩ | o2
    · refine xr_ok hb (br_f zf1 (xs_findFactors (st := 0) h1 h4 (by omega) (by omega) hc ?_))
      intro m1 f1 d1 s1 hF1 hf1 _
      dsimp only
      refine xs_findFactors (st := 4) h1 h4 (by omega) (by omega) hc ?_
      intro m2 f2 d2 s2 hF2 hf2 hf2'
      rw [zrel h ha] at hF1
      rw [zrel h hb] at hF2
      have q1 : ∀ i, i < N → f2 i = s1 i := fun i hi => by
        rw [hf2' i (by omega)]
        have := hf1 i hi
        rwa [Nat.zero_add] at this
      have q2 : ∀ i, i < N → f2 (4 + i) = s2 i := fun i hi => hf2 i hi
      have y : ∀ z : Nat, z < 2 → (z = 1 ↔ ∀ i, i < N → s1 i = s2 i) → wpY_similar (fun r' v' => r' = nI z ∧ i_Rel (k + 5) (zX N c m2 f2) v') (zY N g mn te dv ot fc kp rw) (nI a) (nI b) := by
        intro z hz hzz
        unfold wpY_similar; dsimp only
        refine yr_ok ha (br_f zf1 (yr_ok hb (br_f zf1 (ys_findFactors h1 h4 (by omega) hg ?_))))
        intro mn' te' dv' ot' fc1 d3 s3 hF3 hf3
        dsimp only
        refine ys_keep ?_
        intro kp' hkp
        refine ys_findFactors h1 h4 (by omega) hg ?_
        intro mn2 te2 dv2 ot2 fc2 d4 s4 hF4 hf4
        have u1 := (fac_u h4 hF1 hF3).2
        have u2 := (fac_u h4 hF2 hF4).2
        have dgs : ∀ i, i < 5 * N → kp' i = s3 (i / 5) / 5 ^ (i % 5) % 5 ∧ fc2 i = s4 (i / 5) / 5 ^ (i % 5) % 5 := by
          intro i hi
          have e5 : i = 5 * (i / 5) + i % 5 := (Nat.div_add_mod i 5).symm
          refine ⟨?_, ?_⟩
          · rw [hkp i (by omega)]
            have := hf3 (i / 5) (i % 5) (by omega) (by omega)
            rwa [← e5] at this
          · have := hf4 (i / 5) (i % 5) (by omega) (by omega)
            rwa [← e5] at this
        have same : (∀ i, i < 5 * N → kp' i = fc2 i) ↔ ∀ i, i < N → s1 i = s2 i := by
          refine ⟨fun hh i hi => ?_, fun hh i hi => ?_⟩
          · rw [u1 i hi, u2 i hi]
            refine pd_inj (fac_s h4 hF3 i hi).2.1 (fac_s h4 hF4 i hi).2.1 (fun j hj => ?_)
            have := hh (5 * i + j) (by omega)
            obtain ⟨t1, t2⟩ := dgs (5 * i + j) (by omega)
            rw [t1, t2, show (5 * i + j) / 5 = i by omega, show (5 * i + j) % 5 = j by omega] at this
            exact Fin.ext this
          · obtain ⟨t1, t2⟩ := dgs i hi
            rw [t1, t2, ← u1 _ (by omega), ← u2 _ (by omega), hh _ (by omega)]
        refine ys_cmp h4 (fun i hi => ?_) (fun hh => ⟨?_, zR h1 h4 hc hg h⟩) (fun hh => ⟨?_, zR h1 h4 hc hg h⟩)
        · obtain ⟨t1, t2⟩ := dgs i hi
          rw [t1, t2]
          exact ⟨Nat.mod_lt _ (by decide), Nat.mod_lt _ (by decide)⟩
        · rw [hzz.mpr (same.mp hh)]; rfl
        · have : z ≠ 1 := fun zz => hh (same.mpr (hzz.mp zz))
          have : z = 0 := by omega
          rw [this]; rfl
      refine xs_cmp h4 (fun i hi => ?_) (fun hh => ?_) (fun hh => ?_)
      · rw [q1 i hi, q2 i hi]
        exact ⟨(fac_s h4 hF1 i hi).2.1, (fac_s h4 hF2 i hi).2.1⟩
      · exact y 1 (by decide) ⟨fun _ i hi => by rw [← q1 i hi, ← q2 i hi]; exact hh i hi, fun _ => rfl⟩
      · exact y 0 (by decide) ⟨fun z => absurd z (by decide), fun z => absurd (fun i hi => by rw [q1 i hi, q2 i hi]; exact z i hi) hh⟩
    · exact xr_no o2 (br_t rfl (yr_ok ha (br_f zf1 (yr_no o2 (br_t rfl ⟨rfl, zR h1 h4 hc hg h⟩)))))
  · exact xr_no o1 (br_t rfl (yr_no o1 (br_t rfl ⟨rfl, zR h1 h4 hc hg h⟩)))
end
section
/-! the derivative of a minor -/
def pcb (s i : Nat) : Nat := zs (fun t => s / 2 ^ t % 2) i
def dsm (A : Nat → Nat → Nat) (f R C : Nat) : Nat → (Nat → Fin 5)
  | 0 => fun _ => 0
  | i + 1 => if R / 2 ^ i % 2 = 1 ∧ C / 2 ^ i % 2 = 1 then fun k => dsm A f R C i k + (if (pcb R i + pcb C i) % 2 = 0 then 1 else 4) * dtp A f (R - 2 ^ i) (C - 2 ^ i) k else dsm A f R C i
theorem dr_1_1_0 (A : Nat → Nat → Nat) : 1 * dtp A 1 1 1 1 = dsm A 0 1 1 4 0 := by
  simp [dsm, pcb, zs, dtp, lapP, px, lo, rs] <;> grind
theorem dr_1_1_1 (A : Nat → Nat → Nat) : 2 * dtp A 1 1 1 2 = dsm A 0 1 1 4 1 := by
  simp [dsm, pcb, zs, dtp, lapP, px, lo, rs] <;> grind
theorem dr_1_1_2 (A : Nat → Nat → Nat) : 3 * dtp A 1 1 1 3 = dsm A 0 1 1 4 2 := by
  simp [dsm, pcb, zs, dtp, lapP, px, lo, rs] <;> grind
theorem dr_1_1_3 (A : Nat → Nat → Nat) : 4 * dtp A 1 1 1 4 = dsm A 0 1 1 4 3 := by
  simp [dsm, pcb, zs, dtp, lapP, px, lo, rs] <;> grind
theorem dr_1_2_0 (A : Nat → Nat → Nat) : 1 * dtp A 1 1 2 1 = dsm A 0 1 2 4 0 := by
  simp [dsm, pcb, zs, dtp, lapP, px, lo, rs] <;> grind
theorem dr_1_2_1 (A : Nat → Nat → Nat) : 2 * dtp A 1 1 2 2 = dsm A 0 1 2 4 1 := by
  simp [dsm, pcb, zs, dtp, lapP, px, lo, rs] <;> grind
theorem dr_1_2_2 (A : Nat → Nat → Nat) : 3 * dtp A 1 1 2 3 = dsm A 0 1 2 4 2 := by
  simp [dsm, pcb, zs, dtp, lapP, px, lo, rs] <;> grind
theorem dr_1_2_3 (A : Nat → Nat → Nat) : 4 * dtp A 1 1 2 4 = dsm A 0 1 2 4 3 := by
  simp [dsm, pcb, zs, dtp, lapP, px, lo, rs] <;> grind
theorem dr_1_4_0 (A : Nat → Nat → Nat) : 1 * dtp A 1 1 4 1 = dsm A 0 1 4 4 0 := by
  simp [dsm, pcb, zs, dtp, lapP, px, lo, rs] <;> grind
theorem dr_1_4_1 (A : Nat → Nat → Nat) : 2 * dtp A 1 1 4 2 = dsm A 0 1 4 4 1 := by
  simp [dsm, pcb, zs, dtp, lapP, px, lo, rs] <;> grind
theorem dr_1_4_2 (A : Nat → Nat → Nat) : 3 * dtp A 1 1 4 3 = dsm A 0 1 4 4 2 := by
  simp [dsm, pcb, zs, dtp, lapP, px, lo, rs] <;> grind
theorem dr_1_4_3 (A : Nat → Nat → Nat) : 4 * dtp A 1 1 4 4 = dsm A 0 1 4 4 3 := by
  simp [dsm, pcb, zs, dtp, lapP, px, lo, rs] <;> grind
theorem dr_1_8_0 (A : Nat → Nat → Nat) : 1 * dtp A 1 1 8 1 = dsm A 0 1 8 4 0 := by
  simp [dsm, pcb, zs, dtp, lapP, px, lo, rs] <;> grind
theorem dr_1_8_1 (A : Nat → Nat → Nat) : 2 * dtp A 1 1 8 2 = dsm A 0 1 8 4 1 := by
  simp [dsm, pcb, zs, dtp, lapP, px, lo, rs] <;> grind
theorem dr_1_8_2 (A : Nat → Nat → Nat) : 3 * dtp A 1 1 8 3 = dsm A 0 1 8 4 2 := by
  simp [dsm, pcb, zs, dtp, lapP, px, lo, rs] <;> grind
theorem dr_1_8_3 (A : Nat → Nat → Nat) : 4 * dtp A 1 1 8 4 = dsm A 0 1 8 4 3 := by
  simp [dsm, pcb, zs, dtp, lapP, px, lo, rs] <;> grind
theorem dr_2_1_0 (A : Nat → Nat → Nat) : 1 * dtp A 1 2 1 1 = dsm A 0 2 1 4 0 := by
  simp [dsm, pcb, zs, dtp, lapP, px, lo, rs] <;> grind
theorem dr_2_1_1 (A : Nat → Nat → Nat) : 2 * dtp A 1 2 1 2 = dsm A 0 2 1 4 1 := by
  simp [dsm, pcb, zs, dtp, lapP, px, lo, rs] <;> grind
theorem dr_2_1_2 (A : Nat → Nat → Nat) : 3 * dtp A 1 2 1 3 = dsm A 0 2 1 4 2 := by
  simp [dsm, pcb, zs, dtp, lapP, px, lo, rs] <;> grind
theorem dr_2_1_3 (A : Nat → Nat → Nat) : 4 * dtp A 1 2 1 4 = dsm A 0 2 1 4 3 := by
  simp [dsm, pcb, zs, dtp, lapP, px, lo, rs] <;> grind
theorem dr_2_2_0 (A : Nat → Nat → Nat) : 1 * dtp A 1 2 2 1 = dsm A 0 2 2 4 0 := by
  simp [dsm, pcb, zs, dtp, lapP, px, lo, rs] <;> grind
theorem dr_2_2_1 (A : Nat → Nat → Nat) : 2 * dtp A 1 2 2 2 = dsm A 0 2 2 4 1 := by
  simp [dsm, pcb, zs, dtp, lapP, px, lo, rs] <;> grind
theorem dr_2_2_2 (A : Nat → Nat → Nat) : 3 * dtp A 1 2 2 3 = dsm A 0 2 2 4 2 := by
  simp [dsm, pcb, zs, dtp, lapP, px, lo, rs] <;> grind
theorem dr_2_2_3 (A : Nat → Nat → Nat) : 4 * dtp A 1 2 2 4 = dsm A 0 2 2 4 3 := by
  simp [dsm, pcb, zs, dtp, lapP, px, lo, rs] <;> grind
theorem dr_2_4_0 (A : Nat → Nat → Nat) : 1 * dtp A 1 2 4 1 = dsm A 0 2 4 4 0 := by
  simp [dsm, pcb, zs, dtp, lapP, px, lo, rs] <;> grind
theorem dr_2_4_1 (A : Nat → Nat → Nat) : 2 * dtp A 1 2 4 2 = dsm A 0 2 4 4 1 := by
  simp [dsm, pcb, zs, dtp, lapP, px, lo, rs] <;> grind
theorem dr_2_4_2 (A : Nat → Nat → Nat) : 3 * dtp A 1 2 4 3 = dsm A 0 2 4 4 2 := by
  simp [dsm, pcb, zs, dtp, lapP, px, lo, rs] <;> grind
theorem dr_2_4_3 (A : Nat → Nat → Nat) : 4 * dtp A 1 2 4 4 = dsm A 0 2 4 4 3 := by
  simp [dsm, pcb, zs, dtp, lapP, px, lo, rs] <;> grind
theorem dr_2_8_0 (A : Nat → Nat → Nat) : 1 * dtp A 1 2 8 1 = dsm A 0 2 8 4 0 := by
  simp [dsm, pcb, zs, dtp, lapP, px, lo, rs] <;> grind
theorem dr_2_8_1 (A : Nat → Nat → Nat) : 2 * dtp A 1 2 8 2 = dsm A 0 2 8 4 1 := by
  simp [dsm, pcb, zs, dtp, lapP, px, lo, rs] <;> grind
theorem dr_2_8_2 (A : Nat → Nat → Nat) : 3 * dtp A 1 2 8 3 = dsm A 0 2 8 4 2 := by
  simp [dsm, pcb, zs, dtp, lapP, px, lo, rs] <;> grind
theorem dr_2_8_3 (A : Nat → Nat → Nat) : 4 * dtp A 1 2 8 4 = dsm A 0 2 8 4 3 := by
  simp [dsm, pcb, zs, dtp, lapP, px, lo, rs] <;> grind
theorem dr_3_3_0 (A : Nat → Nat → Nat) : 1 * dtp A 2 3 3 1 = dsm A 1 3 3 4 0 := by
  simp [dsm, pcb, zs, dtp, lapP, px, lo, rs] <;> grind
theorem dr_3_3_1 (A : Nat → Nat → Nat) : 2 * dtp A 2 3 3 2 = dsm A 1 3 3 4 1 := by
  simp [dsm, pcb, zs, dtp, lapP, px, lo, rs] <;> grind
theorem dr_3_3_2 (A : Nat → Nat → Nat) : 3 * dtp A 2 3 3 3 = dsm A 1 3 3 4 2 := by
  simp [dsm, pcb, zs, dtp, lapP, px, lo, rs] <;> grind
theorem dr_3_3_3 (A : Nat → Nat → Nat) : 4 * dtp A 2 3 3 4 = dsm A 1 3 3 4 3 := by
  simp [dsm, pcb, zs, dtp, lapP, px, lo, rs] <;> grind
theorem dr_3_5_0 (A : Nat → Nat → Nat) : 1 * dtp A 2 3 5 1 = dsm A 1 3 5 4 0 := by
  simp [dsm, pcb, zs, dtp, lapP, px, lo, rs] <;> grind
theorem dr_3_5_1 (A : Nat → Nat → Nat) : 2 * dtp A 2 3 5 2 = dsm A 1 3 5 4 1 := by
  simp [dsm, pcb, zs, dtp, lapP, px, lo, rs] <;> grind
theorem dr_3_5_2 (A : Nat → Nat → Nat) : 3 * dtp A 2 3 5 3 = dsm A 1 3 5 4 2 := by
  simp [dsm, pcb, zs, dtp, lapP, px, lo, rs] <;> grind
theorem dr_3_5_3 (A : Nat → Nat → Nat) : 4 * dtp A 2 3 5 4 = dsm A 1 3 5 4 3 := by
  simp [dsm, pcb, zs, dtp, lapP, px, lo, rs] <;> grind
theorem dr_3_6_0 (A : Nat → Nat → Nat) : 1 * dtp A 2 3 6 1 = dsm A 1 3 6 4 0 := by
  simp [dsm, pcb, zs, dtp, lapP, px, lo, rs] <;> grind
theorem dr_3_6_1 (A : Nat → Nat → Nat) : 2 * dtp A 2 3 6 2 = dsm A 1 3 6 4 1 := by
  simp [dsm, pcb, zs, dtp, lapP, px, lo, rs] <;> grind
theorem dr_3_6_2 (A : Nat → Nat → Nat) : 3 * dtp A 2 3 6 3 = dsm A 1 3 6 4 2 := by
  simp [dsm, pcb, zs, dtp, lapP, px, lo, rs] <;> grind
theorem dr_3_6_3 (A : Nat → Nat → Nat) : 4 * dtp A 2 3 6 4 = dsm A 1 3 6 4 3 := by
  simp [dsm, pcb, zs, dtp, lapP, px, lo, rs] <;> grind
theorem dr_3_9_0 (A : Nat → Nat → Nat) : 1 * dtp A 2 3 9 1 = dsm A 1 3 9 4 0 := by
  simp [dsm, pcb, zs, dtp, lapP, px, lo, rs] <;> grind
theorem dr_3_9_1 (A : Nat → Nat → Nat) : 2 * dtp A 2 3 9 2 = dsm A 1 3 9 4 1 := by
  simp [dsm, pcb, zs, dtp, lapP, px, lo, rs] <;> grind
theorem dr_3_9_2 (A : Nat → Nat → Nat) : 3 * dtp A 2 3 9 3 = dsm A 1 3 9 4 2 := by
  simp [dsm, pcb, zs, dtp, lapP, px, lo, rs] <;> grind
theorem dr_3_9_3 (A : Nat → Nat → Nat) : 4 * dtp A 2 3 9 4 = dsm A 1 3 9 4 3 := by
  simp [dsm, pcb, zs, dtp, lapP, px, lo, rs] <;> grind
theorem dr_3_10_0 (A : Nat → Nat → Nat) : 1 * dtp A 2 3 10 1 = dsm A 1 3 10 4 0 := by
  simp [dsm, pcb, zs, dtp, lapP, px, lo, rs] <;> grind
theorem dr_3_10_1 (A : Nat → Nat → Nat) : 2 * dtp A 2 3 10 2 = dsm A 1 3 10 4 1 := by
  simp [dsm, pcb, zs, dtp, lapP, px, lo, rs] <;> grind
theorem dr_3_10_2 (A : Nat → Nat → Nat) : 3 * dtp A 2 3 10 3 = dsm A 1 3 10 4 2 := by
  simp [dsm, pcb, zs, dtp, lapP, px, lo, rs] <;> grind
theorem dr_3_10_3 (A : Nat → Nat → Nat) : 4 * dtp A 2 3 10 4 = dsm A 1 3 10 4 3 := by
  simp [dsm, pcb, zs, dtp, lapP, px, lo, rs] <;> grind
theorem dr_3_12_0 (A : Nat → Nat → Nat) : 1 * dtp A 2 3 12 1 = dsm A 1 3 12 4 0 := by
  simp [dsm, pcb, zs, dtp, lapP, px, lo, rs] <;> grind
theorem dr_3_12_1 (A : Nat → Nat → Nat) : 2 * dtp A 2 3 12 2 = dsm A 1 3 12 4 1 := by
  simp [dsm, pcb, zs, dtp, lapP, px, lo, rs] <;> grind
theorem dr_3_12_2 (A : Nat → Nat → Nat) : 3 * dtp A 2 3 12 3 = dsm A 1 3 12 4 2 := by
  simp [dsm, pcb, zs, dtp, lapP, px, lo, rs] <;> grind
theorem dr_3_12_3 (A : Nat → Nat → Nat) : 4 * dtp A 2 3 12 4 = dsm A 1 3 12 4 3 := by
  simp [dsm, pcb, zs, dtp, lapP, px, lo, rs] <;> grind
theorem dr_4_1_0 (A : Nat → Nat → Nat) : 1 * dtp A 1 4 1 1 = dsm A 0 4 1 4 0 := by
  simp [dsm, pcb, zs, dtp, lapP, px, lo, rs] <;> grind
theorem dr_4_1_1 (A : Nat → Nat → Nat) : 2 * dtp A 1 4 1 2 = dsm A 0 4 1 4 1 := by
  simp [dsm, pcb, zs, dtp, lapP, px, lo, rs] <;> grind
theorem dr_4_1_2 (A : Nat → Nat → Nat) : 3 * dtp A 1 4 1 3 = dsm A 0 4 1 4 2 := by
  simp [dsm, pcb, zs, dtp, lapP, px, lo, rs] <;> grind
theorem dr_4_1_3 (A : Nat → Nat → Nat) : 4 * dtp A 1 4 1 4 = dsm A 0 4 1 4 3 := by
  simp [dsm, pcb, zs, dtp, lapP, px, lo, rs] <;> grind
theorem dr_4_2_0 (A : Nat → Nat → Nat) : 1 * dtp A 1 4 2 1 = dsm A 0 4 2 4 0 := by
  simp [dsm, pcb, zs, dtp, lapP, px, lo, rs] <;> grind
theorem dr_4_2_1 (A : Nat → Nat → Nat) : 2 * dtp A 1 4 2 2 = dsm A 0 4 2 4 1 := by
  simp [dsm, pcb, zs, dtp, lapP, px, lo, rs] <;> grind
theorem dr_4_2_2 (A : Nat → Nat → Nat) : 3 * dtp A 1 4 2 3 = dsm A 0 4 2 4 2 := by
  simp [dsm, pcb, zs, dtp, lapP, px, lo, rs] <;> grind
theorem dr_4_2_3 (A : Nat → Nat → Nat) : 4 * dtp A 1 4 2 4 = dsm A 0 4 2 4 3 := by
  simp [dsm, pcb, zs, dtp, lapP, px, lo, rs] <;> grind
theorem dr_4_4_0 (A : Nat → Nat → Nat) : 1 * dtp A 1 4 4 1 = dsm A 0 4 4 4 0 := by
  simp [dsm, pcb, zs, dtp, lapP, px, lo, rs] <;> grind
theorem dr_4_4_1 (A : Nat → Nat → Nat) : 2 * dtp A 1 4 4 2 = dsm A 0 4 4 4 1 := by
  simp [dsm, pcb, zs, dtp, lapP, px, lo, rs] <;> grind
theorem dr_4_4_2 (A : Nat → Nat → Nat) : 3 * dtp A 1 4 4 3 = dsm A 0 4 4 4 2 := by
  simp [dsm, pcb, zs, dtp, lapP, px, lo, rs] <;> grind
theorem dr_4_4_3 (A : Nat → Nat → Nat) : 4 * dtp A 1 4 4 4 = dsm A 0 4 4 4 3 := by
  simp [dsm, pcb, zs, dtp, lapP, px, lo, rs] <;> grind
theorem dr_4_8_0 (A : Nat → Nat → Nat) : 1 * dtp A 1 4 8 1 = dsm A 0 4 8 4 0 := by
  simp [dsm, pcb, zs, dtp, lapP, px, lo, rs] <;> grind
theorem dr_4_8_1 (A : Nat → Nat → Nat) : 2 * dtp A 1 4 8 2 = dsm A 0 4 8 4 1 := by
  simp [dsm, pcb, zs, dtp, lapP, px, lo, rs] <;> grind
theorem dr_4_8_2 (A : Nat → Nat → Nat) : 3 * dtp A 1 4 8 3 = dsm A 0 4 8 4 2 := by
  simp [dsm, pcb, zs, dtp, lapP, px, lo, rs] <;> grind
theorem dr_4_8_3 (A : Nat → Nat → Nat) : 4 * dtp A 1 4 8 4 = dsm A 0 4 8 4 3 := by
  simp [dsm, pcb, zs, dtp, lapP, px, lo, rs] <;> grind
theorem dr_5_3_0 (A : Nat → Nat → Nat) : 1 * dtp A 2 5 3 1 = dsm A 1 5 3 4 0 := by
  simp [dsm, pcb, zs, dtp, lapP, px, lo, rs] <;> grind
theorem dr_5_3_1 (A : Nat → Nat → Nat) : 2 * dtp A 2 5 3 2 = dsm A 1 5 3 4 1 := by
  simp [dsm, pcb, zs, dtp, lapP, px, lo, rs] <;> grind
theorem dr_5_3_2 (A : Nat → Nat → Nat) : 3 * dtp A 2 5 3 3 = dsm A 1 5 3 4 2 := by
  simp [dsm, pcb, zs, dtp, lapP, px, lo, rs] <;> grind
theorem dr_5_3_3 (A : Nat → Nat → Nat) : 4 * dtp A 2 5 3 4 = dsm A 1 5 3 4 3 := by
  simp [dsm, pcb, zs, dtp, lapP, px, lo, rs] <;> grind
theorem dr_5_5_0 (A : Nat → Nat → Nat) : 1 * dtp A 2 5 5 1 = dsm A 1 5 5 4 0 := by
  simp [dsm, pcb, zs, dtp, lapP, px, lo, rs] <;> grind
theorem dr_5_5_1 (A : Nat → Nat → Nat) : 2 * dtp A 2 5 5 2 = dsm A 1 5 5 4 1 := by
  simp [dsm, pcb, zs, dtp, lapP, px, lo, rs] <;> grind
theorem dr_5_5_2 (A : Nat → Nat → Nat) : 3 * dtp A 2 5 5 3 = dsm A 1 5 5 4 2 := by
  simp [dsm, pcb, zs, dtp, lapP, px, lo, rs] <;> grind
theorem dr_5_5_3 (A : Nat → Nat → Nat) : 4 * dtp A 2 5 5 4 = dsm A 1 5 5 4 3 := by
  simp [dsm, pcb, zs, dtp, lapP, px, lo, rs] <;> grind
theorem dr_5_6_0 (A : Nat → Nat → Nat) : 1 * dtp A 2 5 6 1 = dsm A 1 5 6 4 0 := by
  simp [dsm, pcb, zs, dtp, lapP, px, lo, rs] <;> grind
theorem dr_5_6_1 (A : Nat → Nat → Nat) : 2 * dtp A 2 5 6 2 = dsm A 1 5 6 4 1 := by
  simp [dsm, pcb, zs, dtp, lapP, px, lo, rs] <;> grind
theorem dr_5_6_2 (A : Nat → Nat → Nat) : 3 * dtp A 2 5 6 3 = dsm A 1 5 6 4 2 := by
  simp [dsm, pcb, zs, dtp, lapP, px, lo, rs] <;> grind
theorem dr_5_6_3 (A : Nat → Nat → Nat) : 4 * dtp A 2 5 6 4 = dsm A 1 5 6 4 3 := by
  simp [dsm, pcb, zs, dtp, lapP, px, lo, rs] <;> grind
theorem dr_5_9_0 (A : Nat → Nat → Nat) : 1 * dtp A 2 5 9 1 = dsm A 1 5 9 4 0 := by
  simp [dsm, pcb, zs, dtp, lapP, px, lo, rs] <;> grind
theorem dr_5_9_1 (A : Nat → Nat → Nat) : 2 * dtp A 2 5 9 2 = dsm A 1 5 9 4 1 := by
  simp [dsm, pcb, zs, dtp, lapP, px, lo, rs] <;> grind
theorem dr_5_9_2 (A : Nat → Nat → Nat) : 3 * dtp A 2 5 9 3 = dsm A 1 5 9 4 2 := by
  simp [dsm, pcb, zs, dtp, lapP, px, lo, rs] <;> grind
theorem dr_5_9_3 (A : Nat → Nat → Nat) : 4 * dtp A 2 5 9 4 = dsm A 1 5 9 4 3 := by
  simp [dsm, pcb, zs, dtp, lapP, px, lo, rs] <;> grind
theorem dr_5_10_0 (A : Nat → Nat → Nat) : 1 * dtp A 2 5 10 1 = dsm A 1 5 10 4 0 := by
  simp [dsm, pcb, zs, dtp, lapP, px, lo, rs] <;> grind
theorem dr_5_10_1 (A : Nat → Nat → Nat) : 2 * dtp A 2 5 10 2 = dsm A 1 5 10 4 1 := by
  simp [dsm, pcb, zs, dtp, lapP, px, lo, rs] <;> grind
theorem dr_5_10_2 (A : Nat → Nat → Nat) : 3 * dtp A 2 5 10 3 = dsm A 1 5 10 4 2 := by
  simp [dsm, pcb, zs, dtp, lapP, px, lo, rs] <;> grind
theorem dr_5_10_3 (A : Nat → Nat → Nat) : 4 * dtp A 2 5 10 4 = dsm A 1 5 10 4 3 := by
  simp [dsm, pcb, zs, dtp, lapP, px, lo, rs] <;> grind
theorem dr_5_12_0 (A : Nat → Nat → Nat) : 1 * dtp A 2 5 12 1 = dsm A 1 5 12 4 0 := by
  simp [dsm, pcb, zs, dtp, lapP, px, lo, rs] <;> grind
theorem dr_5_12_1 (A : Nat → Nat → Nat) : 2 * dtp A 2 5 12 2 = dsm A 1 5 12 4 1 := by
  simp [dsm, pcb, zs, dtp, lapP, px, lo, rs] <;> grind
theorem dr_5_12_2 (A : Nat → Nat → Nat) : 3 * dtp A 2 5 12 3 = dsm A 1 5 12 4 2 := by
  simp [dsm, pcb, zs, dtp, lapP, px, lo, rs] <;> grind
theorem dr_5_12_3 (A : Nat → Nat → Nat) : 4 * dtp A 2 5 12 4 = dsm A 1 5 12 4 3 := by
  simp [dsm, pcb, zs, dtp, lapP, px, lo, rs] <;> grind
theorem dr_6_3_0 (A : Nat → Nat → Nat) : 1 * dtp A 2 6 3 1 = dsm A 1 6 3 4 0 := by
  simp [dsm, pcb, zs, dtp, lapP, px, lo, rs] <;> grind
theorem dr_6_3_1 (A : Nat → Nat → Nat) : 2 * dtp A 2 6 3 2 = dsm A 1 6 3 4 1 := by
  simp [dsm, pcb, zs, dtp, lapP, px, lo, rs] <;> grind
theorem dr_6_3_2 (A : Nat → Nat → Nat) : 3 * dtp A 2 6 3 3 = dsm A 1 6 3 4 2 := by
  simp [dsm, pcb, zs, dtp, lapP, px, lo, rs] <;> grind
theorem dr_6_3_3 (A : Nat → Nat → Nat) : 4 * dtp A 2 6 3 4 = dsm A 1 6 3 4 3 := by
  simp [dsm, pcb, zs, dtp, lapP, px, lo, rs] <;> grind
theorem dr_6_5_0 (A : Nat → Nat → Nat) : 1 * dtp A 2 6 5 1 = dsm A 1 6 5 4 0 := by
  simp [dsm, pcb, zs, dtp, lapP, px, lo, rs] <;> grind
theorem dr_6_5_1 (A : Nat → Nat → Nat) : 2 * dtp A 2 6 5 2 = dsm A 1 6 5 4 1 := by
  simp [dsm, pcb, zs, dtp, lapP, px, lo, rs] <;> grind
theorem dr_6_5_2 (A : Nat → Nat → Nat) : 3 * dtp A 2 6 5 3 = dsm A 1 6 5 4 2 := by
  simp [dsm, pcb, zs, dtp, lapP, px, lo, rs] <;> grind
theorem dr_6_5_3 (A : Nat → Nat → Nat) : 4 * dtp A 2 6 5 4 = dsm A 1 6 5 4 3 := by
  simp [dsm, pcb, zs, dtp, lapP, px, lo, rs] <;> grind
theorem dr_6_6_0 (A : Nat → Nat → Nat) : 1 * dtp A 2 6 6 1 = dsm A 1 6 6 4 0 := by
  simp [dsm, pcb, zs, dtp, lapP, px, lo, rs] <;> grind
theorem dr_6_6_1 (A : Nat → Nat → Nat) : 2 * dtp A 2 6 6 2 = dsm A 1 6 6 4 1 := by
  simp [dsm, pcb, zs, dtp, lapP, px, lo, rs] <;> grind
theorem dr_6_6_2 (A : Nat → Nat → Nat) : 3 * dtp A 2 6 6 3 = dsm A 1 6 6 4 2 := by
  simp [dsm, pcb, zs, dtp, lapP, px, lo, rs] <;> grind
theorem dr_6_6_3 (A : Nat → Nat → Nat) : 4 * dtp A 2 6 6 4 = dsm A 1 6 6 4 3 := by
  simp [dsm, pcb, zs, dtp, lapP, px, lo, rs] <;> grind
theorem dr_6_9_0 (A : Nat → Nat → Nat) : 1 * dtp A 2 6 9 1 = dsm A 1 6 9 4 0 := by
  simp [dsm, pcb, zs, dtp, lapP, px, lo, rs] <;> grind
theorem dr_6_9_1 (A : Nat → Nat → Nat) : 2 * dtp A 2 6 9 2 = dsm A 1 6 9 4 1 := by
  simp [dsm, pcb, zs, dtp, lapP, px, lo, rs] <;> grind
theorem dr_6_9_2 (A : Nat → Nat → Nat) : 3 * dtp A 2 6 9 3 = dsm A 1 6 9 4 2 := by
  simp [dsm, pcb, zs, dtp, lapP, px, lo, rs] <;> grind
theorem dr_6_9_3 (A : Nat → Nat → Nat) : 4 * dtp A 2 6 9 4 = dsm A 1 6 9 4 3 := by
  simp [dsm, pcb, zs, dtp, lapP, px, lo, rs] <;> grind
theorem dr_6_10_0 (A : Nat → Nat → Nat) : 1 * dtp A 2 6 10 1 = dsm A 1 6 10 4 0 := by
  simp [dsm, pcb, zs, dtp, lapP, px, lo, rs] <;> grind
theorem dr_6_10_1 (A : Nat → Nat → Nat) : 2 * dtp A 2 6 10 2 = dsm A 1 6 10 4 1 := by
  simp [dsm, pcb, zs, dtp, lapP, px, lo, rs] <;> grind
theorem dr_6_10_2 (A : Nat → Nat → Nat) : 3 * dtp A 2 6 10 3 = dsm A 1 6 10 4 2 := by
  simp [dsm, pcb, zs, dtp, lapP, px, lo, rs] <;> grind
theorem dr_6_10_3 (A : Nat → Nat → Nat) : 4 * dtp A 2 6 10 4 = dsm A 1 6 10 4 3 := by
  simp [dsm, pcb, zs, dtp, lapP, px, lo, rs] <;> grind
theorem dr_6_12_0 (A : Nat → Nat → Nat) : 1 * dtp A 2 6 12 1 = dsm A 1 6 12 4 0 := by
  simp [dsm, pcb, zs, dtp, lapP, px, lo, rs] <;> grind
theorem dr_6_12_1 (A : Nat → Nat → Nat) : 2 * dtp A 2 6 12 2 = dsm A 1 6 12 4 1 := by
  simp [dsm, pcb, zs, dtp, lapP, px, lo, rs] <;> grind
theorem dr_6_12_2 (A : Nat → Nat → Nat) : 3 * dtp A 2 6 12 3 = dsm A 1 6 12 4 2 := by
  simp [dsm, pcb, zs, dtp, lapP, px, lo, rs] <;> grind
theorem dr_6_12_3 (A : Nat → Nat → Nat) : 4 * dtp A 2 6 12 4 = dsm A 1 6 12 4 3 := by
  simp [dsm, pcb, zs, dtp, lapP, px, lo, rs] <;> grind
theorem dr_7_7_0 (A : Nat → Nat → Nat) : 1 * dtp A 3 7 7 1 = dsm A 2 7 7 4 0 := by
  simp [dsm, pcb, zs, dtp, lapP, px, lo, rs] <;> grind
theorem dr_7_7_1 (A : Nat → Nat → Nat) : 2 * dtp A 3 7 7 2 = dsm A 2 7 7 4 1 := by
  simp [dsm, pcb, zs, dtp, lapP, px, lo, rs] <;> grind
theorem dr_7_7_2 (A : Nat → Nat → Nat) : 3 * dtp A 3 7 7 3 = dsm A 2 7 7 4 2 := by
  simp [dsm, pcb, zs, dtp, lapP, px, lo, rs] <;> grind
theorem dr_7_7_3 (A : Nat → Nat → Nat) : 4 * dtp A 3 7 7 4 = dsm A 2 7 7 4 3 := by
  simp [dsm, pcb, zs, dtp, lapP, px, lo, rs] <;> grind
theorem dr_7_11_0 (A : Nat → Nat → Nat) : 1 * dtp A 3 7 11 1 = dsm A 2 7 11 4 0 := by
  simp [dsm, pcb, zs, dtp, lapP, px, lo, rs] <;> grind
theorem dr_7_11_1 (A : Nat → Nat → Nat) : 2 * dtp A 3 7 11 2 = dsm A 2 7 11 4 1 := by
  simp [dsm, pcb, zs, dtp, lapP, px, lo, rs] <;> grind
theorem dr_7_11_2 (A : Nat → Nat → Nat) : 3 * dtp A 3 7 11 3 = dsm A 2 7 11 4 2 := by
  simp [dsm, pcb, zs, dtp, lapP, px, lo, rs] <;> grind
theorem dr_7_11_3 (A : Nat → Nat → Nat) : 4 * dtp A 3 7 11 4 = dsm A 2 7 11 4 3 := by
  simp [dsm, pcb, zs, dtp, lapP, px, lo, rs] <;> grind
theorem dr_7_13_0 (A : Nat → Nat → Nat) : 1 * dtp A 3 7 13 1 = dsm A 2 7 13 4 0 := by
  simp [dsm, pcb, zs, dtp, lapP, px, lo, rs] <;> grind
theorem dr_7_13_1 (A : Nat → Nat → Nat) : 2 * dtp A 3 7 13 2 = dsm A 2 7 13 4 1 := by
  simp [dsm, pcb, zs, dtp, lapP, px, lo, rs] <;> grind
theorem dr_7_13_2 (A : Nat → Nat → Nat) : 3 * dtp A 3 7 13 3 = dsm A 2 7 13 4 2 := by
  simp [dsm, pcb, zs, dtp, lapP, px, lo, rs] <;> grind
theorem dr_7_13_3 (A : Nat → Nat → Nat) : 4 * dtp A 3 7 13 4 = dsm A 2 7 13 4 3 := by
  simp [dsm, pcb, zs, dtp, lapP, px, lo, rs] <;> grind
theorem dr_7_14_0 (A : Nat → Nat → Nat) : 1 * dtp A 3 7 14 1 = dsm A 2 7 14 4 0 := by
  simp [dsm, pcb, zs, dtp, lapP, px, lo, rs] <;> grind
theorem dr_7_14_1 (A : Nat → Nat → Nat) : 2 * dtp A 3 7 14 2 = dsm A 2 7 14 4 1 := by
  simp [dsm, pcb, zs, dtp, lapP, px, lo, rs] <;> grind
theorem dr_7_14_2 (A : Nat → Nat → Nat) : 3 * dtp A 3 7 14 3 = dsm A 2 7 14 4 2 := by
  simp [dsm, pcb, zs, dtp, lapP, px, lo, rs] <;> grind
theorem dr_7_14_3 (A : Nat → Nat → Nat) : 4 * dtp A 3 7 14 4 = dsm A 2 7 14 4 3 := by
  simp [dsm, pcb, zs, dtp, lapP, px, lo, rs] <;> grind
theorem dr_8_1_0 (A : Nat → Nat → Nat) : 1 * dtp A 1 8 1 1 = dsm A 0 8 1 4 0 := by
  simp [dsm, pcb, zs, dtp, lapP, px, lo, rs] <;> grind
theorem dr_8_1_1 (A : Nat → Nat → Nat) : 2 * dtp A 1 8 1 2 = dsm A 0 8 1 4 1 := by
  simp [dsm, pcb, zs, dtp, lapP, px, lo, rs] <;> grind
theorem dr_8_1_2 (A : Nat → Nat → Nat) : 3 * dtp A 1 8 1 3 = dsm A 0 8 1 4 2 := by
  simp [dsm, pcb, zs, dtp, lapP, px, lo, rs] <;> grind
theorem dr_8_1_3 (A : Nat → Nat → Nat) : 4 * dtp A 1 8 1 4 = dsm A 0 8 1 4 3 := by
  simp [dsm, pcb, zs, dtp, lapP, px, lo, rs] <;> grind
theorem dr_8_2_0 (A : Nat → Nat → Nat) : 1 * dtp A 1 8 2 1 = dsm A 0 8 2 4 0 := by
  simp [dsm, pcb, zs, dtp, lapP, px, lo, rs] <;> grind
theorem dr_8_2_1 (A : Nat → Nat → Nat) : 2 * dtp A 1 8 2 2 = dsm A 0 8 2 4 1 := by
  simp [dsm, pcb, zs, dtp, lapP, px, lo, rs] <;> grind
theorem dr_8_2_2 (A : Nat → Nat → Nat) : 3 * dtp A 1 8 2 3 = dsm A 0 8 2 4 2 := by
  simp [dsm, pcb, zs, dtp, lapP, px, lo, rs] <;> grind
theorem dr_8_2_3 (A : Nat → Nat → Nat) : 4 * dtp A 1 8 2 4 = dsm A 0 8 2 4 3 := by
  simp [dsm, pcb, zs, dtp, lapP, px, lo, rs] <;> grind
theorem dr_8_4_0 (A : Nat → Nat → Nat) : 1 * dtp A 1 8 4 1 = dsm A 0 8 4 4 0 := by
  simp [dsm, pcb, zs, dtp, lapP, px, lo, rs] <;> grind
theorem dr_8_4_1 (A : Nat → Nat → Nat) : 2 * dtp A 1 8 4 2 = dsm A 0 8 4 4 1 := by
  simp [dsm, pcb, zs, dtp, lapP, px, lo, rs] <;> grind
theorem dr_8_4_2 (A : Nat → Nat → Nat) : 3 * dtp A 1 8 4 3 = dsm A 0 8 4 4 2 := by
  simp [dsm, pcb, zs, dtp, lapP, px, lo, rs] <;> grind
theorem dr_8_4_3 (A : Nat → Nat → Nat) : 4 * dtp A 1 8 4 4 = dsm A 0 8 4 4 3 := by
  simp [dsm, pcb, zs, dtp, lapP, px, lo, rs] <;> grind
theorem dr_8_8_0 (A : Nat → Nat → Nat) : 1 * dtp A 1 8 8 1 = dsm A 0 8 8 4 0 := by
  simp [dsm, pcb, zs, dtp, lapP, px, lo, rs] <;> grind
theorem dr_8_8_1 (A : Nat → Nat → Nat) : 2 * dtp A 1 8 8 2 = dsm A 0 8 8 4 1 := by
  simp [dsm, pcb, zs, dtp, lapP, px, lo, rs] <;> grind
theorem dr_8_8_2 (A : Nat → Nat → Nat) : 3 * dtp A 1 8 8 3 = dsm A 0 8 8 4 2 := by
  simp [dsm, pcb, zs, dtp, lapP, px, lo, rs] <;> grind
theorem dr_8_8_3 (A : Nat → Nat → Nat) : 4 * dtp A 1 8 8 4 = dsm A 0 8 8 4 3 := by
  simp [dsm, pcb, zs, dtp, lapP, px, lo, rs] <;> grind
theorem dr_9_3_0 (A : Nat → Nat → Nat) : 1 * dtp A 2 9 3 1 = dsm A 1 9 3 4 0 := by
  simp [dsm, pcb, zs, dtp, lapP, px, lo, rs] <;> grind
theorem dr_9_3_1 (A : Nat → Nat → Nat) : 2 * dtp A 2 9 3 2 = dsm A 1 9 3 4 1 := by
  simp [dsm, pcb, zs, dtp, lapP, px, lo, rs] <;> grind
theorem dr_9_3_2 (A : Nat → Nat → Nat) : 3 * dtp A 2 9 3 3 = dsm A 1 9 3 4 2 := by
  simp [dsm, pcb, zs, dtp, lapP, px, lo, rs] <;> grind
theorem dr_9_3_3 (A : Nat → Nat → Nat) : 4 * dtp A 2 9 3 4 = dsm A 1 9 3 4 3 := by
  simp [dsm, pcb, zs, dtp, lapP, px, lo, rs] <;> grind
theorem dr_9_5_0 (A : Nat → Nat → Nat) : 1 * dtp A 2 9 5 1 = dsm A 1 9 5 4 0 := by
  simp [dsm, pcb, zs, dtp, lapP, px, lo, rs] <;> grind
theorem dr_9_5_1 (A : Nat → Nat → Nat) : 2 * dtp A 2 9 5 2 = dsm A 1 9 5 4 1 := by
  simp [dsm, pcb, zs, dtp, lapP, px, lo, rs] <;> grind
theorem dr_9_5_2 (A : Nat → Nat → Nat) : 3 * dtp A 2 9 5 3 = dsm A 1 9 5 4 2 := by
  simp [dsm, pcb, zs, dtp, lapP, px, lo, rs] <;> grind
theorem dr_9_5_3 (A : Nat → Nat → Nat) : 4 * dtp A 2 9 5 4 = dsm A 1 9 5 4 3 := by
  simp [dsm, pcb, zs, dtp, lapP, px, lo, rs] <;> grind
theorem dr_9_6_0 (A : Nat → Nat → Nat) : 1 * dtp A 2 9 6 1 = dsm A 1 9 6 4 0 := by
  simp [dsm, pcb, zs, dtp, lapP, px, lo, rs] <;> grind
theorem dr_9_6_1 (A : Nat → Nat → Nat) : 2 * dtp A 2 9 6 2 = dsm A 1 9 6 4 1 := by
  simp [dsm, pcb, zs, dtp, lapP, px, lo, rs] <;> grind
theorem dr_9_6_2 (A : Nat → Nat → Nat) : 3 * dtp A 2 9 6 3 = dsm A 1 9 6 4 2 := by
  simp [dsm, pcb, zs, dtp, lapP, px, lo, rs] <;> grind
theorem dr_9_6_3 (A : Nat → Nat → Nat) : 4 * dtp A 2 9 6 4 = dsm A 1 9 6 4 3 := by
  simp [dsm, pcb, zs, dtp, lapP, px, lo, rs] <;> grind
theorem dr_9_9_0 (A : Nat → Nat → Nat) : 1 * dtp A 2 9 9 1 = dsm A 1 9 9 4 0 := by
  simp [dsm, pcb, zs, dtp, lapP, px, lo, rs] <;> grind
theorem dr_9_9_1 (A : Nat → Nat → Nat) : 2 * dtp A 2 9 9 2 = dsm A 1 9 9 4 1 := by
  simp [dsm, pcb, zs, dtp, lapP, px, lo, rs] <;> grind
theorem dr_9_9_2 (A : Nat → Nat → Nat) : 3 * dtp A 2 9 9 3 = dsm A 1 9 9 4 2 := by
  simp [dsm, pcb, zs, dtp, lapP, px, lo, rs] <;> grind
theorem dr_9_9_3 (A : Nat → Nat → Nat) : 4 * dtp A 2 9 9 4 = dsm A 1 9 9 4 3 := by
  simp [dsm, pcb, zs, dtp, lapP, px, lo, rs] <;> grind
theorem dr_9_10_0 (A : Nat → Nat → Nat) : 1 * dtp A 2 9 10 1 = dsm A 1 9 10 4 0 := by
  simp [dsm, pcb, zs, dtp, lapP, px, lo, rs] <;> grind
theorem dr_9_10_1 (A : Nat → Nat → Nat) : 2 * dtp A 2 9 10 2 = dsm A 1 9 10 4 1 := by
  simp [dsm, pcb, zs, dtp, lapP, px, lo, rs] <;> grind
theorem dr_9_10_2 (A : Nat → Nat → Nat) : 3 * dtp A 2 9 10 3 = dsm A 1 9 10 4 2 := by
  simp [dsm, pcb, zs, dtp, lapP, px, lo, rs] <;> grind
theorem dr_9_10_3 (A : Nat → Nat → Nat) : 4 * dtp A 2 9 10 4 = dsm A 1 9 10 4 3 := by
  simp [dsm, pcb, zs, dtp, lapP, px, lo, rs] <;> grind
theorem dr_9_12_0 (A : Nat → Nat → Nat) : 1 * dtp A 2 9 12 1 = dsm A 1 9 12 4 0 := by
  simp [dsm, pcb, zs, dtp, lapP, px, lo, rs] <;> grind
theorem dr_9_12_1 (A : Nat → Nat → Nat) : 2 * dtp A 2 9 12 2 = dsm A 1 9 12 4 1 := by
  simp [dsm, pcb, zs, dtp, lapP, px, lo, rs] <;> grind
theorem dr_9_12_2 (A : Nat → Nat → Nat) : 3 * dtp A 2 9 12 3 = dsm A 1 9 12 4 2 := by
  simp [dsm, pcb, zs, dtp, lapP, px, lo, rs] <;> grind
theorem dr_9_12_3 (A : Nat → Nat → Nat) : 4 * dtp A 2 9 12 4 = dsm A 1 9 12 4 3 := by
  simp [dsm, pcb, zs, dtp, lapP, px, lo, rs] <;> grind
theorem dr_10_3_0 (A : Nat → Nat → Nat) : 1 * dtp A 2 10 3 1 = dsm A 1 10 3 4 0 := by
  simp [dsm, pcb, zs, dtp, lapP, px, lo, rs] <;> grind
theorem dr_10_3_1 (A : Nat → Nat → Nat) : 2 * dtp A 2 10 3 2 = dsm A 1 10 3 4 1 := by
  simp [dsm, pcb, zs, dtp, lapP, px, lo, rs] <;> grind
theorem dr_10_3_2 (A : Nat → Nat → Nat) : 3 * dtp A 2 10 3 3 = dsm A 1 10 3 4 2 := by
  simp [dsm, pcb, zs, dtp, lapP, px, lo, rs] <;> grind
theorem dr_10_3_3 (A : Nat → Nat → Nat) : 4 * dtp A 2 10 3 4 = dsm A 1 10 3 4 3 := by
  simp [dsm, pcb, zs, dtp, lapP, px, lo, rs] <;> grind
theorem dr_10_5_0 (A : Nat → Nat → Nat) : 1 * dtp A 2 10 5 1 = dsm A 1 10 5 4 0 := by
  simp [dsm, pcb, zs, dtp, lapP, px, lo, rs] <;> grind
theorem dr_10_5_1 (A : Nat → Nat → Nat) : 2 * dtp A 2 10 5 2 = dsm A 1 10 5 4 1 := by
  simp [dsm, pcb, zs, dtp, lapP, px, lo, rs] <;> grind
theorem dr_10_5_2 (A : Nat → Nat → Nat) : 3 * dtp A 2 10 5 3 = dsm A 1 10 5 4 2 := by
  simp [dsm, pcb, zs, dtp, lapP, px, lo, rs] <;> grind
theorem dr_10_5_3 (A : Nat → Nat → Nat) : 4 * dtp A 2 10 5 4 = dsm A 1 10 5 4 3 := by
  simp [dsm, pcb, zs, dtp, lapP, px, lo, rs] <;> grind
theorem dr_10_6_0 (A : Nat → Nat → Nat) : 1 * dtp A 2 10 6 1 = dsm A 1 10 6 4 0 := by
  simp [dsm, pcb, zs, dtp, lapP, px, lo, rs] <;> grind
theorem dr_10_6_1 (A : Nat → Nat → Nat) : 2 * dtp A 2 10 6 2 = dsm A 1 10 6 4 1 := by
  simp [dsm, pcb, zs, dtp, lapP, px, lo, rs] <;> grind
theorem dr_10_6_2 (A : Nat → Nat → Nat) : 3 * dtp A 2 10 6 3 = dsm A 1 10 6 4 2 := by
  simp [dsm, pcb, zs, dtp, lapP, px, lo, rs] <;> grind
theorem dr_10_6_3 (A : Nat → Nat → Nat) : 4 * dtp A 2 10 6 4 = dsm A 1 10 6 4 3 := by
  simp [dsm, pcb, zs, dtp, lapP, px, lo, rs] <;> grind
theorem dr_10_9_0 (A : Nat → Nat → Nat) : 1 * dtp A 2 10 9 1 = dsm A 1 10 9 4 0 := by
  simp [dsm, pcb, zs, dtp, lapP, px, lo, rs] <;> grind
theorem dr_10_9_1 (A : Nat → Nat → Nat) : 2 * dtp A 2 10 9 2 = dsm A 1 10 9 4 1 := by
  simp [dsm, pcb, zs, dtp, lapP, px, lo, rs] <;> grind
theorem dr_10_9_2 (A : Nat → Nat → Nat) : 3 * dtp A 2 10 9 3 = dsm A 1 10 9 4 2 := by
  simp [dsm, pcb, zs, dtp, lapP, px, lo, rs] <;> grind
theorem dr_10_9_3 (A : Nat → Nat → Nat) : 4 * dtp A 2 10 9 4 = dsm A 1 10 9 4 3 := by
  simp [dsm, pcb, zs, dtp, lapP, px, lo, rs] <;> grind
theorem dr_10_10_0 (A : Nat → Nat → Nat) : 1 * dtp A 2 10 10 1 = dsm A 1 10 10 4 0 := by
  simp [dsm, pcb, zs, dtp, lapP, px, lo, rs] <;> grind
theorem dr_10_10_1 (A : Nat → Nat → Nat) : 2 * dtp A 2 10 10 2 = dsm A 1 10 10 4 1 := by
  simp [dsm, pcb, zs, dtp, lapP, px, lo, rs] <;> grind
theorem dr_10_10_2 (A : Nat → Nat → Nat) : 3 * dtp A 2 10 10 3 = dsm A 1 10 10 4 2 := by
  simp [dsm, pcb, zs, dtp, lapP, px, lo, rs] <;> grind
theorem dr_10_10_3 (A : Nat → Nat → Nat) : 4 * dtp A 2 10 10 4 = dsm A 1 10 10 4 3 := by
  simp [dsm, pcb, zs, dtp, lapP, px, lo, rs] <;> grind
theorem dr_10_12_0 (A : Nat → Nat → Nat) : 1 * dtp A 2 10 12 1 = dsm A 1 10 12 4 0 := by
  simp [dsm, pcb, zs, dtp, lapP, px, lo, rs] <;> grind
theorem dr_10_12_1 (A : Nat → Nat → Nat) : 2 * dtp A 2 10 12 2 = dsm A 1 10 12 4 1 := by
  simp [dsm, pcb, zs, dtp, lapP, px, lo, rs] <;> grind
theorem dr_10_12_2 (A : Nat → Nat → Nat) : 3 * dtp A 2 10 12 3 = dsm A 1 10 12 4 2 := by
  simp [dsm, pcb, zs, dtp, lapP, px, lo, rs] <;> grind
theorem dr_10_12_3 (A : Nat → Nat → Nat) : 4 * dtp A 2 10 12 4 = dsm A 1 10 12 4 3 := by
  simp [dsm, pcb, zs, dtp, lapP, px, lo, rs] <;> grind
theorem dr_11_7_0 (A : Nat → Nat → Nat) : 1 * dtp A 3 11 7 1 = dsm A 2 11 7 4 0 := by
  simp [dsm, pcb, zs, dtp, lapP, px, lo, rs] <;> grind
theorem dr_11_7_1 (A : Nat → Nat → Nat) : 2 * dtp A 3 11 7 2 = dsm A 2 11 7 4 1 := by
  simp [dsm, pcb, zs, dtp, lapP, px, lo, rs] <;> grind
theorem dr_11_7_2 (A : Nat → Nat → Nat) : 3 * dtp A 3 11 7 3 = dsm A 2 11 7 4 2 := by
  simp [dsm, pcb, zs, dtp, lapP, px, lo, rs] <;> grind
theorem dr_11_7_3 (A : Nat → Nat → Nat) : 4 * dtp A 3 11 7 4 = dsm A 2 11 7 4 3 := by
  simp [dsm, pcb, zs, dtp, lapP, px, lo, rs] <;> grind
theorem dr_11_11_0 (A : Nat → Nat → Nat) : 1 * dtp A 3 11 11 1 = dsm A 2 11 11 4 0 := by
  simp [dsm, pcb, zs, dtp, lapP, px, lo, rs] <;> grind
theorem dr_11_11_1 (A : Nat → Nat → Nat) : 2 * dtp A 3 11 11 2 = dsm A 2 11 11 4 1 := by
  simp [dsm, pcb, zs, dtp, lapP, px, lo, rs] <;> grind
theorem dr_11_11_2 (A : Nat → Nat → Nat) : 3 * dtp A 3 11 11 3 = dsm A 2 11 11 4 2 := by
  simp [dsm, pcb, zs, dtp, lapP, px, lo, rs] <;> grind
theorem dr_11_11_3 (A : Nat → Nat → Nat) : 4 * dtp A 3 11 11 4 = dsm A 2 11 11 4 3 := by
  simp [dsm, pcb, zs, dtp, lapP, px, lo, rs] <;> grind
theorem dr_11_13_0 (A : Nat → Nat → Nat) : 1 * dtp A 3 11 13 1 = dsm A 2 11 13 4 0 := by
  simp [dsm, pcb, zs, dtp, lapP, px, lo, rs] <;> grind
theorem dr_11_13_1 (A : Nat → Nat → Nat) : 2 * dtp A 3 11 13 2 = dsm A 2 11 13 4 1 := by
  simp [dsm, pcb, zs, dtp, lapP, px, lo, rs] <;> grind
theorem dr_11_13_2 (A : Nat → Nat → Nat) : 3 * dtp A 3 11 13 3 = dsm A 2 11 13 4 2 := by
  simp [dsm, pcb, zs, dtp, lapP, px, lo, rs] <;> grind
theorem dr_11_13_3 (A : Nat → Nat → Nat) : 4 * dtp A 3 11 13 4 = dsm A 2 11 13 4 3 := by
  simp [dsm, pcb, zs, dtp, lapP, px, lo, rs] <;> grind
theorem dr_11_14_0 (A : Nat → Nat → Nat) : 1 * dtp A 3 11 14 1 = dsm A 2 11 14 4 0 := by
  simp [dsm, pcb, zs, dtp, lapP, px, lo, rs] <;> grind
theorem dr_11_14_1 (A : Nat → Nat → Nat) : 2 * dtp A 3 11 14 2 = dsm A 2 11 14 4 1 := by
  simp [dsm, pcb, zs, dtp, lapP, px, lo, rs] <;> grind
theorem dr_11_14_2 (A : Nat → Nat → Nat) : 3 * dtp A 3 11 14 3 = dsm A 2 11 14 4 2 := by
  simp [dsm, pcb, zs, dtp, lapP, px, lo, rs] <;> grind
theorem dr_11_14_3 (A : Nat → Nat → Nat) : 4 * dtp A 3 11 14 4 = dsm A 2 11 14 4 3 := by
  simp [dsm, pcb, zs, dtp, lapP, px, lo, rs] <;> grind
theorem dr_12_3_0 (A : Nat → Nat → Nat) : 1 * dtp A 2 12 3 1 = dsm A 1 12 3 4 0 := by
  simp [dsm, pcb, zs, dtp, lapP, px, lo, rs] <;> grind
theorem dr_12_3_1 (A : Nat → Nat → Nat) : 2 * dtp A 2 12 3 2 = dsm A 1 12 3 4 1 := by
  simp [dsm, pcb, zs, dtp, lapP, px, lo, rs] <;> grind
theorem dr_12_3_2 (A : Nat → Nat → Nat) : 3 * dtp A 2 12 3 3 = dsm A 1 12 3 4 2 := by
  simp [dsm, pcb, zs, dtp, lapP, px, lo, rs] <;> grind
theorem dr_12_3_3 (A : Nat → Nat → Nat) : 4 * dtp A 2 12 3 4 = dsm A 1 12 3 4 3 := by
  simp [dsm, pcb, zs, dtp, lapP, px, lo, rs] <;> grind
theorem dr_12_5_0 (A : Nat → Nat → Nat) : 1 * dtp A 2 12 5 1 = dsm A 1 12 5 4 0 := by
  simp [dsm, pcb, zs, dtp, lapP, px, lo, rs] <;> grind
theorem dr_12_5_1 (A : Nat → Nat → Nat) : 2 * dtp A 2 12 5 2 = dsm A 1 12 5 4 1 := by
  simp [dsm, pcb, zs, dtp, lapP, px, lo, rs] <;> grind
theorem dr_12_5_2 (A : Nat → Nat → Nat) : 3 * dtp A 2 12 5 3 = dsm A 1 12 5 4 2 := by
  simp [dsm, pcb, zs, dtp, lapP, px, lo, rs] <;> grind
theorem dr_12_5_3 (A : Nat → Nat → Nat) : 4 * dtp A 2 12 5 4 = dsm A 1 12 5 4 3 := by
  simp [dsm, pcb, zs, dtp, lapP, px, lo, rs] <;> grind
theorem dr_12_6_0 (A : Nat → Nat → Nat) : 1 * dtp A 2 12 6 1 = dsm A 1 12 6 4 0 := by
  simp [dsm, pcb, zs, dtp, lapP, px, lo, rs] <;> grind
theorem dr_12_6_1 (A : Nat → Nat → Nat) : 2 * dtp A 2 12 6 2 = dsm A 1 12 6 4 1 := by
  simp [dsm, pcb, zs, dtp, lapP, px, lo, rs] <;> grind
theorem dr_12_6_2 (A : Nat → Nat → Nat) : 3 * dtp A 2 12 6 3 = dsm A 1 12 6 4 2 := by
  simp [dsm, pcb, zs, dtp, lapP, px, lo, rs] <;> grind
theorem dr_12_6_3 (A : Nat → Nat → Nat) : 4 * dtp A 2 12 6 4 = dsm A 1 12 6 4 3 := by
  simp [dsm, pcb, zs, dtp, lapP, px, lo, rs] <;> grind
theorem dr_12_9_0 (A : Nat → Nat → Nat) : 1 * dtp A 2 12 9 1 = dsm A 1 12 9 4 0 := by
  simp [dsm, pcb, zs, dtp, lapP, px, lo, rs] <;> grind
theorem dr_12_9_1 (A : Nat → Nat → Nat) : 2 * dtp A 2 12 9 2 = dsm A 1 12 9 4 1 := by
  simp [dsm, pcb, zs, dtp, lapP, px, lo, rs] <;> grind
theorem dr_12_9_2 (A : Nat → Nat → Nat) : 3 * dtp A 2 12 9 3 = dsm A 1 12 9 4 2 := by
  simp [dsm, pcb, zs, dtp, lapP, px, lo, rs] <;> grind
theorem dr_12_9_3 (A : Nat → Nat → Nat) : 4 * dtp A 2 12 9 4 = dsm A 1 12 9 4 3 := by
  simp [dsm, pcb, zs, dtp, lapP, px, lo, rs] <;> grind
theorem dr_12_10_0 (A : Nat → Nat → Nat) : 1 * dtp A 2 12 10 1 = dsm A 1 12 10 4 0 := by
  simp [dsm, pcb, zs, dtp, lapP, px, lo, rs] <;> grind
theorem dr_12_10_1 (A : Nat → Nat → Nat) : 2 * dtp A 2 12 10 2 = dsm A 1 12 10 4 1 := by
  simp [dsm, pcb, zs, dtp, lapP, px, lo, rs] <;> grind
theorem dr_12_10_2 (A : Nat → Nat → Nat) : 3 * dtp A 2 12 10 3 = dsm A 1 12 10 4 2 := by
  simp [dsm, pcb, zs, dtp, lapP, px, lo, rs] <;> grind
theorem dr_12_10_3 (A : Nat → Nat → Nat) : 4 * dtp A 2 12 10 4 = dsm A 1 12 10 4 3 := by
  simp [dsm, pcb, zs, dtp, lapP, px, lo, rs] <;> grind
theorem dr_12_12_0 (A : Nat → Nat → Nat) : 1 * dtp A 2 12 12 1 = dsm A 1 12 12 4 0 := by
  simp [dsm, pcb, zs, dtp, lapP, px, lo, rs] <;> grind
theorem dr_12_12_1 (A : Nat → Nat → Nat) : 2 * dtp A 2 12 12 2 = dsm A 1 12 12 4 1 := by
  simp [dsm, pcb, zs, dtp, lapP, px, lo, rs] <;> grind
theorem dr_12_12_2 (A : Nat → Nat → Nat) : 3 * dtp A 2 12 12 3 = dsm A 1 12 12 4 2 := by
  simp [dsm, pcb, zs, dtp, lapP, px, lo, rs] <;> grind
theorem dr_12_12_3 (A : Nat → Nat → Nat) : 4 * dtp A 2 12 12 4 = dsm A 1 12 12 4 3 := by
  simp [dsm, pcb, zs, dtp, lapP, px, lo, rs] <;> grind
theorem dr_13_7_0 (A : Nat → Nat → Nat) : 1 * dtp A 3 13 7 1 = dsm A 2 13 7 4 0 := by
  simp [dsm, pcb, zs, dtp, lapP, px, lo, rs] <;> grind
theorem dr_13_7_1 (A : Nat → Nat → Nat) : 2 * dtp A 3 13 7 2 = dsm A 2 13 7 4 1 := by
  simp [dsm, pcb, zs, dtp, lapP, px, lo, rs] <;> grind
theorem dr_13_7_2 (A : Nat → Nat → Nat) : 3 * dtp A 3 13 7 3 = dsm A 2 13 7 4 2 := by
  simp [dsm, pcb, zs, dtp, lapP, px, lo, rs] <;> grind
theorem dr_13_7_3 (A : Nat → Nat → Nat) : 4 * dtp A 3 13 7 4 = dsm A 2 13 7 4 3 := by
  simp [dsm, pcb, zs, dtp, lapP, px, lo, rs] <;> grind
theorem dr_13_11_0 (A : Nat → Nat → Nat) : 1 * dtp A 3 13 11 1 = dsm A 2 13 11 4 0 := by
  simp [dsm, pcb, zs, dtp, lapP, px, lo, rs] <;> grind
theorem dr_13_11_1 (A : Nat → Nat → Nat) : 2 * dtp A 3 13 11 2 = dsm A 2 13 11 4 1 := by
  simp [dsm, pcb, zs, dtp, lapP, px, lo, rs] <;> grind
theorem dr_13_11_2 (A : Nat → Nat → Nat) : 3 * dtp A 3 13 11 3 = dsm A 2 13 11 4 2 := by
  simp [dsm, pcb, zs, dtp, lapP, px, lo, rs] <;> grind
theorem dr_13_11_3 (A : Nat → Nat → Nat) : 4 * dtp A 3 13 11 4 = dsm A 2 13 11 4 3 := by
  simp [dsm, pcb, zs, dtp, lapP, px, lo, rs] <;> grind
theorem dr_13_13_0 (A : Nat → Nat → Nat) : 1 * dtp A 3 13 13 1 = dsm A 2 13 13 4 0 := by
  simp [dsm, pcb, zs, dtp, lapP, px, lo, rs] <;> grind
theorem dr_13_13_1 (A : Nat → Nat → Nat) : 2 * dtp A 3 13 13 2 = dsm A 2 13 13 4 1 := by
  simp [dsm, pcb, zs, dtp, lapP, px, lo, rs] <;> grind
theorem dr_13_13_2 (A : Nat → Nat → Nat) : 3 * dtp A 3 13 13 3 = dsm A 2 13 13 4 2 := by
  simp [dsm, pcb, zs, dtp, lapP, px, lo, rs] <;> grind
theorem dr_13_13_3 (A : Nat → Nat → Nat) : 4 * dtp A 3 13 13 4 = dsm A 2 13 13 4 3 := by
  simp [dsm, pcb, zs, dtp, lapP, px, lo, rs] <;> grind
theorem dr_13_14_0 (A : Nat → Nat → Nat) : 1 * dtp A 3 13 14 1 = dsm A 2 13 14 4 0 := by
  simp [dsm, pcb, zs, dtp, lapP, px, lo, rs] <;> grind
theorem dr_13_14_1 (A : Nat → Nat → Nat) : 2 * dtp A 3 13 14 2 = dsm A 2 13 14 4 1 := by
  simp [dsm, pcb, zs, dtp, lapP, px, lo, rs] <;> grind
theorem dr_13_14_2 (A : Nat → Nat → Nat) : 3 * dtp A 3 13 14 3 = dsm A 2 13 14 4 2 := by
  simp [dsm, pcb, zs, dtp, lapP, px, lo, rs] <;> grind
theorem dr_13_14_3 (A : Nat → Nat → Nat) : 4 * dtp A 3 13 14 4 = dsm A 2 13 14 4 3 := by
  simp [dsm, pcb, zs, dtp, lapP, px, lo, rs] <;> grind
theorem dr_14_7_0 (A : Nat → Nat → Nat) : 1 * dtp A 3 14 7 1 = dsm A 2 14 7 4 0 := by
  simp [dsm, pcb, zs, dtp, lapP, px, lo, rs] <;> grind
theorem dr_14_7_1 (A : Nat → Nat → Nat) : 2 * dtp A 3 14 7 2 = dsm A 2 14 7 4 1 := by
  simp [dsm, pcb, zs, dtp, lapP, px, lo, rs] <;> grind
theorem dr_14_7_2 (A : Nat → Nat → Nat) : 3 * dtp A 3 14 7 3 = dsm A 2 14 7 4 2 := by
  simp [dsm, pcb, zs, dtp, lapP, px, lo, rs] <;> grind
theorem dr_14_7_3 (A : Nat → Nat → Nat) : 4 * dtp A 3 14 7 4 = dsm A 2 14 7 4 3 := by
  simp [dsm, pcb, zs, dtp, lapP, px, lo, rs] <;> grind
theorem dr_14_11_0 (A : Nat → Nat → Nat) : 1 * dtp A 3 14 11 1 = dsm A 2 14 11 4 0 := by
  simp [dsm, pcb, zs, dtp, lapP, px, lo, rs] <;> grind
theorem dr_14_11_1 (A : Nat → Nat → Nat) : 2 * dtp A 3 14 11 2 = dsm A 2 14 11 4 1 := by
  simp [dsm, pcb, zs, dtp, lapP, px, lo, rs] <;> grind
theorem dr_14_11_2 (A : Nat → Nat → Nat) : 3 * dtp A 3 14 11 3 = dsm A 2 14 11 4 2 := by
  simp [dsm, pcb, zs, dtp, lapP, px, lo, rs] <;> grind
theorem dr_14_11_3 (A : Nat → Nat → Nat) : 4 * dtp A 3 14 11 4 = dsm A 2 14 11 4 3 := by
  simp [dsm, pcb, zs, dtp, lapP, px, lo, rs] <;> grind
theorem dr_14_13_0 (A : Nat → Nat → Nat) : 1 * dtp A 3 14 13 1 = dsm A 2 14 13 4 0 := by
  simp [dsm, pcb, zs, dtp, lapP, px, lo, rs] <;> grind
theorem dr_14_13_1 (A : Nat → Nat → Nat) : 2 * dtp A 3 14 13 2 = dsm A 2 14 13 4 1 := by
  simp [dsm, pcb, zs, dtp, lapP, px, lo, rs] <;> grind
theorem dr_14_13_2 (A : Nat → Nat → Nat) : 3 * dtp A 3 14 13 3 = dsm A 2 14 13 4 2 := by
  simp [dsm, pcb, zs, dtp, lapP, px, lo, rs] <;> grind
theorem dr_14_13_3 (A : Nat → Nat → Nat) : 4 * dtp A 3 14 13 4 = dsm A 2 14 13 4 3 := by
  simp [dsm, pcb, zs, dtp, lapP, px, lo, rs] <;> grind
theorem dr_14_14_0 (A : Nat → Nat → Nat) : 1 * dtp A 3 14 14 1 = dsm A 2 14 14 4 0 := by
  simp [dsm, pcb, zs, dtp, lapP, px, lo, rs] <;> grind
theorem dr_14_14_1 (A : Nat → Nat → Nat) : 2 * dtp A 3 14 14 2 = dsm A 2 14 14 4 1 := by
  simp [dsm, pcb, zs, dtp, lapP, px, lo, rs] <;> grind
theorem dr_14_14_2 (A : Nat → Nat → Nat) : 3 * dtp A 3 14 14 3 = dsm A 2 14 14 4 2 := by
  simp [dsm, pcb, zs, dtp, lapP, px, lo, rs] <;> grind
theorem dr_14_14_3 (A : Nat → Nat → Nat) : 4 * dtp A 3 14 14 4 = dsm A 2 14 14 4 3 := by
  simp [dsm, pcb, zs, dtp, lapP, px, lo, rs] <;> grind
theorem dr_15_15_0 (A : Nat → Nat → Nat) : 1 * dtp A 4 15 15 1 = dsm A 3 15 15 4 0 := by
  simp [dsm, pcb, zs, dtp, lapP, px, lo, rs] <;> grind
theorem dr_15_15_1 (A : Nat → Nat → Nat) : 2 * dtp A 4 15 15 2 = dsm A 3 15 15 4 1 := by
  simp [dsm, pcb, zs, dtp, lapP, px, lo, rs] <;> grind
theorem dr_15_15_2 (A : Nat → Nat → Nat) : 3 * dtp A 4 15 15 3 = dsm A 3 15 15 4 2 := by
  simp [dsm, pcb, zs, dtp, lapP, px, lo, rs] <;> grind
theorem dr_15_15_3 (A : Nat → Nat → Nat) : 4 * dtp A 4 15 15 4 = dsm A 3 15 15 4 3 := by
  simp [dsm, pcb, zs, dtp, lapP, px, lo, rs] <;> grind
theorem k4 {P : Nat → Prop} (h0 : P 0) (h1 : P 1) (h2 : P 2) (h3 : P 3) : ∀ k, k < 4 → P k := by
  intro k hk
  match k, hk with
  | 0, _ => exact h0
  | 1, _ => exact h1
  | 2, _ => exact h2
  | 3, _ => exact h3
theorem drr_1 (A : Nat → Nat → Nat) : ∀ C, C < 16 → pc 1 = pc C → ∀ k, k < 4 → kk (k + 1) * dtp A (pc 1 - 1 + 1) 1 C (k + 1) = dsm A (pc 1 - 1) 1 C 4 k := by
  intro C hC h
  match C, hC, h with
  | 0, _, h => exact absurd h (by decide)
  | 1, _, _ => exact k4 (P := fun k => kk (k + 1) * dtp A 1 1 1 (k + 1) = dsm A 0 1 1 4 k) (dr_1_1_0 A) (dr_1_1_1 A) (dr_1_1_2 A) (dr_1_1_3 A)
  | 2, _, _ => exact k4 (P := fun k => kk (k + 1) * dtp A 1 1 2 (k + 1) = dsm A 0 1 2 4 k) (dr_1_2_0 A) (dr_1_2_1 A) (dr_1_2_2 A) (dr_1_2_3 A)
  | 3, _, h => exact absurd h (by decide)
  | 4, _, _ => exact k4 (P := fun k => kk (k + 1) * dtp A 1 1 4 (k + 1) = dsm A 0 1 4 4 k) (dr_1_4_0 A) (dr_1_4_1 A) (dr_1_4_2 A) (dr_1_4_3 A)
  | 5, _, h => exact absurd h (by decide)
  | 6, _, h => exact absurd h (by decide)
  | 7, _, h => exact absurd h (by decide)
  | 8, _, _ => exact k4 (P := fun k => kk (k + 1) * dtp A 1 1 8 (k + 1) = dsm A 0 1 8 4 k) (dr_1_8_0 A) (dr_1_8_1 A) (dr_1_8_2 A) (dr_1_8_3 A)
  | 9, _, h => exact absurd h (by decide)
  | 10, _, h => exact absurd h (by decide)
  | 11, _, h => exact absurd h (by decide)
  | 12, _, h => exact absurd h (by decide)
  | 13, _, h => exact absurd h (by decide)
  | 14, _, h => exact absurd h (by decide)
  | 15, _, h => exact absurd h (by decide)
  | (n + 16), hC, _ => exact absurd hC (by omega)
theorem drr_2 (A : Nat → Nat → Nat) : ∀ C, C < 16 → pc 2 = pc C → ∀ k, k < 4 → kk (k + 1) * dtp A (pc 2 - 1 + 1) 2 C (k + 1) = dsm A (pc 2 - 1) 2 C 4 k := by
  intro C hC h
  match C, hC, h with
  | 0, _, h => exact absurd h (by decide)
  | 1, _, _ => exact k4 (P := fun k => kk (k + 1) * dtp A 1 2 1 (k + 1) = dsm A 0 2 1 4 k) (dr_2_1_0 A) (dr_2_1_1 A) (dr_2_1_2 A) (dr_2_1_3 A)
  | 2, _, _ => exact k4 (P := fun k => kk (k + 1) * dtp A 1 2 2 (k + 1) = dsm A 0 2 2 4 k) (dr_2_2_0 A) (dr_2_2_1 A) (dr_2_2_2 A) (dr_2_2_3 A)
  | 3, _, h => exact absurd h (by decide)
  | 4, _, _ => exact k4 (P := fun k => kk (k + 1) * dtp A 1 2 4 (k + 1) = dsm A 0 2 4 4 k) (dr_2_4_0 A) (dr_2_4_1 A) (dr_2_4_2 A) (dr_2_4_3 A)
  | 5, _, h => exact absurd h (by decide)
  | 6, _, h => exact absurd h (by decide)
  | 7, _, h => exact absurd h (by decide)
  | 8, _, _ => exact k4 (P := fun k => kk (k + 1) * dtp A 1 2 8 (k + 1) = dsm A 0 2 8 4 k) (dr_2_8_0 A) (dr_2_8_1 A) (dr_2_8_2 A) (dr_2_8_3 A)
  | 9, _, h => exact absurd h (by decide)
  | 10, _, h => exact absurd h (by decide)
  | 11, _, h => exact absurd h (by decide)
  | 12, _, h => exact absurd h (by decide)
  | 13, _, h => exact absurd h (by decide)
  | 14, _, h => exact absurd h (by decide)
  | 15, _, h => exact absurd h (by decide)
  | (n + 16), hC, _ => exact absurd hC (by omega)
theorem drr_3 (A : Nat → Nat → Nat) : ∀ C, C < 16 → pc 3 = pc C → ∀ k, k < 4 → kk (k + 1) * dtp A (pc 3 - 1 + 1) 3 C (k + 1) = dsm A (pc 3 - 1) 3 C 4 k := by
  intro C hC h
  match C, hC, h with
  | 0, _, h => exact absurd h (by decide)
  | 1, _, h => exact absurd h (by decide)
  | 2, _, h => exact absurd h (by decide)
  | 3, _, _ => exact k4 (P := fun k => kk (k + 1) * dtp A 2 3 3 (k + 1) = dsm A 1 3 3 4 k) (dr_3_3_0 A) (dr_3_3_1 A) (dr_3_3_2 A) (dr_3_3_3 A)
  | 4, _, h => exact absurd h (by decide)
  | 5, _, _ => exact k4 (P := fun k => kk (k + 1) * dtp A 2 3 5 (k + 1) = dsm A 1 3 5 4 k) (dr_3_5_0 A) (dr_3_5_1 A) (dr_3_5_2 A) (dr_3_5_3 A)
  | 6, _, _ => exact k4 (P := fun k => kk (k + 1) * dtp A 2 3 6 (k + 1) = dsm A 1 3 6 4 k) (dr_3_6_0 A) (dr_3_6_1 A) (dr_3_6_2 A) (dr_3_6_3 A)
  | 7, _, h => exact absurd h (by decide)
  | 8, _, h => exact absurd h (by decide)
  | 9, _, _ => exact k4 (P := fun k => kk (k + 1) * dtp A 2 3 9 (k + 1) = dsm A 1 3 9 4 k) (dr_3_9_0 A) (dr_3_9_1 A) (dr_3_9_2 A) (dr_3_9_3 A)
  | 10, _, _ => exact k4 (P := fun k => kk (k + 1) * dtp A 2 3 10 (k + 1) = dsm A 1 3 10 4 k) (dr_3_10_0 A) (dr_3_10_1 A) (dr_3_10_2 A) (dr_3_10_3 A)
  | 11, _, h => exact absurd h (by decide)
  | 12, _, _ => exact k4 (P := fun k => kk (k + 1) * dtp A 2 3 12 (k + 1) = dsm A 1 3 12 4 k) (dr_3_12_0 A) (dr_3_12_1 A) (dr_3_12_2 A) (dr_3_12_3 A)
  | 13, _, h => exact absurd h (by decide)
  | 14, _, h => exact absurd h (by decide)
  | 15, _, h => exact absurd h (by decide)
  | (n + 16), hC, _ => exact absurd hC (by omega)
theorem drr_4 (A : Nat → Nat → Nat) : ∀ C, C < 16 → pc 4 = pc C → ∀ k, k < 4 → kk (k + 1) * dtp A (pc 4 - 1 + 1) 4 C (k + 1) = dsm A (pc 4 - 1) 4 C 4 k := by
  intro C hC h
  match C, hC, h with
  | 0, _, h => exact absurd h (by decide)
  | 1, _, _ => exact k4 (P := fun k => kk (k + 1) * dtp A 1 4 1 (k + 1) = dsm A 0 4 1 4 k) (dr_4_1_0 A) (dr_4_1_1 A) (dr_4_1_2 A) (dr_4_1_3 A)
  | 2, _, _ => exact k4 (P := fun k => kk (k + 1) * dtp A 1 4 2 (k + 1) = dsm A 0 4 2 4 k) (dr_4_2_0 A) (dr_4_2_1 A) (dr_4_2_2 A) (dr_4_2_3 A)
  | 3, _, h => exact absurd h (by decide)
  | 4, _, _ => exact k4 (P := fun k => kk (k + 1) * dtp A 1 4 4 (k + 1) = dsm A 0 4 4 4 k) (dr_4_4_0 A) (dr_4_4_1 A) (dr_4_4_2 A) (dr_4_4_3 A)
  | 5, _, h => exact absurd h (by decide)
  | 6, _, h => exact absurd h (by decide)
  | 7, _, h => exact absurd h (by decide)
  | 8, _, _ => exact k4 (P := fun k => kk (k + 1) * dtp A 1 4 8 (k + 1) = dsm A 0 4 8 4 k) (dr_4_8_0 A) (dr_4_8_1 A) (dr_4_8_2 A) (dr_4_8_3 A)
  | 9, _, h => exact absurd h (by decide)
  | 10, _, h => exact absurd h (by decide)
  | 11, _, h => exact absurd h (by decide)
  | 12, _, h => exact absurd h (by decide)
  | 13, _, h => exact absurd h (by decide)
  | 14, _, h => exact absurd h (by decide)
  | 15, _, h => exact absurd h (by decide)
  | (n + 16), hC, _ => exact absurd hC (by omega)
theorem drr_5 (A : Nat → Nat → Nat) : ∀ C, C < 16 → pc 5 = pc C → ∀ k, k < 4 → kk (k + 1) * dtp A (pc 5 - 1 + 1) 5 C (k + 1) = dsm A (pc 5 - 1) 5 C 4 k := by
  intro C hC h
  match C, hC, h with
  | 0, _, h => exact absurd h (by decide)
  | 1, _, h => exact absurd h (by decide)
  | 2, _, h => exact absurd h (by decide)
  | 3, _, _ => exact k4 (P := fun k => kk (k + 1) * dtp A 2 5 3 (k + 1) = dsm A 1 5 3 4 k) (dr_5_3_0 A) (dr_5_3_1 A) (dr_5_3_2 A) (dr_5_3_3 A)
  | 4, _, h => exact absurd h (by decide)
  | 5, _, _ => exact k4 (P := fun k => kk (k + 1) * dtp A 2 5 5 (k + 1) = dsm A 1 5 5 4 k) (dr_5_5_0 A) (dr_5_5_1 A) (dr_5_5_2 A) (dr_5_5_3 A)
  | 6, _, _ => exact k4 (P := fun k => kk (k + 1) * dtp A 2 5 6 (k + 1) = dsm A 1 5 6 4 k) (dr_5_6_0 A) (dr_5_6_1 A) (dr_5_6_2 A) (dr_5_6_3 A)
  | 7, _, h => exact absurd h (by decide)
  | 8, _, h => exact absurd h (by decide)
  | 9, _, _ => exact k4 (P := fun k => kk (k + 1) * dtp A 2 5 9 (k + 1) = dsm A 1 5 9 4 k) (dr_5_9_0 A) (dr_5_9_1 A) (dr_5_9_2 A) (dr_5_9_3 A)
  | 10, _, _ => exact k4 (P := fun k => kk (k + 1) * dtp A 2 5 10 (k + 1) = dsm A 1 5 10 4 k) (dr_5_10_0 A) (dr_5_10_1 A) (dr_5_10_2 A) (dr_5_10_3 A)
  | 11, _, h => exact absurd h (by decide)
  | 12, _, _ => exact k4 (P := fun k => kk (k + 1) * dtp A 2 5 12 (k + 1) = dsm A 1 5 12 4 k) (dr_5_12_0 A) (dr_5_12_1 A) (dr_5_12_2 A) (dr_5_12_3 A)
  | 13, _, h => exact absurd h (by decide)
  | 14, _, h => exact absurd h (by decide)
  | 15, _, h => exact absurd h (by decide)
  | (n + 16), hC, _ => exact absurd hC (by omega)
theorem drr_6 (A : Nat → Nat → Nat) : ∀ C, C < 16 → pc 6 = pc C → ∀ k, k < 4 → kk (k + 1) * dtp A (pc 6 - 1 + 1) 6 C (k + 1) = dsm A (pc 6 - 1) 6 C 4 k := by
  intro C hC h
  match C, hC, h with
  | 0, _, h => exact absurd h (by decide)
  | 1, _, h => exact absurd h (by decide)
  | 2, _, h => exact absurd h (by decide)
  | 3, _, _ => exact k4 (P := fun k => kk (k + 1) * dtp A 2 6 3 (k + 1) = dsm A 1 6 3 4 k) (dr_6_3_0 A) (dr_6_3_1 A) (dr_6_3_2 A) (dr_6_3_3 A)
  | 4, _, h => exact absurd h (by decide)
  | 5, _, _ => exact k4 (P := fun k => kk (k + 1) * dtp A 2 6 5 (k + 1) = dsm A 1 6 5 4 k) (dr_6_5_0 A) (dr_6_5_1 A) (dr_6_5_2 A) (dr_6_5_3 A)
  | 6, _, _ => exact k4 (P := fun k => kk (k + 1) * dtp A 2 6 6 (k + 1) = dsm A 1 6 6 4 k) (dr_6_6_0 A) (dr_6_6_1 A) (dr_6_6_2 A) (dr_6_6_3 A)
  | 7, _, h => exact absurd h (by decide)
  | 8, _, h => exact absurd h (by decide)
  | 9, _, _ => exact k4 (P := fun k => kk (k + 1) * dtp A 2 6 9 (k + 1) = dsm A 1 6 9 4 k) (dr_6_9_0 A) (dr_6_9_1 A) (dr_6_9_2 A) (dr_6_9_3 A)
  | 10, _, _ => exact k4 (P := fun k => kk (k + 1) * dtp A 2 6 10 (k + 1) = dsm A 1 6 10 4 k) (dr_6_10_0 A) (dr_6_10_1 A) (dr_6_10_2 A) (dr_6_10_3 A)
  | 11, _, h => exact absurd h (by decide)
  | 12, _, _ => exact k4 (P := fun k => kk (k + 1) * dtp A 2 6 12 (k + 1) = dsm A 1 6 12 4 k) (dr_6_12_0 A) (dr_6_12_1 A) (dr_6_12_2 A) (dr_6_12_3 A)
  | 13, _, h => exact absurd h (by decide)
  | 14, _, h => exact absurd h (by decide)
  | 15, _, h => exact absurd h (by decide)
  | (n + 16), hC, _ => exact absurd hC (by omega)
theorem drr_7 (A : Nat → Nat → Nat) : ∀ C, C < 16 → pc 7 = pc C → ∀ k, k < 4 → kk (k + 1) * dtp A (pc 7 - 1 + 1) 7 C (k + 1) = dsm A (pc 7 - 1) 7 C 4 k := by
  intro C hC h
  match C, hC, h with
  | 0, _, h => exact absurd h (by decide)
  | 1, _, h => exact absurd h (by decide)
  | 2, _, h => exact absurd h (by decide)
  | 3, _, h => exact absurd h (by decide)
  | 4, _, h => exact absurd h (by decide)
  | 5, _, h => exact absurd h (by decide)
  | 6, _, h => exact absurd h (by decide)
  | 7, _, _ => exact k4 (P := fun k => kk (k + 1) * dtp A 3 7 7 (k + 1) = dsm A 2 7 7 4 k) (dr_7_7_0 A) (dr_7_7_1 A) (dr_7_7_2 A) (dr_7_7_3 A)
  | 8, _, h => exact absurd h (by decide)
  | 9, _, h => exact absurd h (by decide)
  | 10, _, h => exact absurd h (by decide)
  | 11, _, _ => exact k4 (P := fun k => kk (k + 1) * dtp A 3 7 11 (k + 1) = dsm A 2 7 11 4 k) (dr_7_11_0 A) (dr_7_11_1 A) (dr_7_11_2 A) (dr_7_11_3 A)
  | 12, _, h => exact absurd h (by decide)
  | 13, _, _ => exact k4 (P := fun k => kk (k + 1) * dtp A 3 7 13 (k + 1) = dsm A 2 7 13 4 k) (dr_7_13_0 A) (dr_7_13_1 A) (dr_7_13_2 A) (dr_7_13_3 A)
  | 14, _, _ => exact k4 (P := fun k => kk (k + 1) * dtp A 3 7 14 (k + 1) = dsm A 2 7 14 4 k) (dr_7_14_0 A) (dr_7_14_1 A) (dr_7_14_2 A) (dr_7_14_3 A)
  | 15, _, h => exact absurd h (by decide)
  | (n + 16), hC, _ => exact absurd hC (by omega)
theorem drr_8 (A : Nat → Nat → Nat) : ∀ C, C < 16 → pc 8 = pc C → ∀ k, k < 4 → kk (k + 1) * dtp A (pc 8 - 1 + 1) 8 C (k + 1) = dsm A (pc 8 - 1) 8 C 4 k := by
  intro C hC h
  match C, hC, h with
  | 0, _, h => exact absurd h (by decide)
  | 1, _, _ => exact k4 (P := fun k => kk (k + 1) * dtp A 1 8 1 (k + 1) = dsm A 0 8 1 4 k) (dr_8_1_0 A) (dr_8_1_1 A) (dr_8_1_2 A) (dr_8_1_3 A)
  | 2, _, _ => exact k4 (P := fun k => kk (k + 1) * dtp A 1 8 2 (k + 1) = dsm A 0 8 2 4 k) (dr_8_2_0 A) (dr_8_2_1 A) (dr_8_2_2 A) (dr_8_2_3 A)
  | 3, _, h => exact absurd h (by decide)
  | 4, _, _ => exact k4 (P := fun k => kk (k + 1) * dtp A 1 8 4 (k + 1) = dsm A 0 8 4 4 k) (dr_8_4_0 A) (dr_8_4_1 A) (dr_8_4_2 A) (dr_8_4_3 A)
  | 5, _, h => exact absurd h (by decide)
  | 6, _, h => exact absurd h (by decide)
  | 7, _, h => exact absurd h (by decide)
  | 8, _, _ => exact k4 (P := fun k => kk (k + 1) * dtp A 1 8 8 (k + 1) = dsm A 0 8 8 4 k) (dr_8_8_0 A) (dr_8_8_1 A) (dr_8_8_2 A) (dr_8_8_3 A)
  | 9, _, h => exact absurd h (by decide)
  | 10, _, h => exact absurd h (by decide)
  | 11, _, h => exact absurd h (by decide)
  | 12, _, h => exact absurd h (by decide)
  | 13, _, h => exact absurd h (by decide)
  | 14, _, h => exact absurd h (by decide)
  | 15, _, h => exact absurd h (by decide)
  | (n + 16), hC, _ => exact absurd hC (by omega)
theorem drr_9 (A : Nat → Nat → Nat) : ∀ C, C < 16 → pc 9 = pc C → ∀ k, k < 4 → kk (k + 1) * dtp A (pc 9 - 1 + 1) 9 C (k + 1) = dsm A (pc 9 - 1) 9 C 4 k := by
  intro C hC h
  match C, hC, h with
  | 0, _, h => exact absurd h (by decide)
  | 1, _, h => exact absurd h (by decide)
  | 2, _, h => exact absurd h (by decide)
  | 3, _, _ => exact k4 (P := fun k => kk (k + 1) * dtp A 2 9 3 (k + 1) = dsm A 1 9 3 4 k) (dr_9_3_0 A) (dr_9_3_1 A) (dr_9_3_2 A) (dr_9_3_3 A)
  | 4, _, h => exact absurd h (by decide)
  | 5, _, _ => exact k4 (P := fun k => kk (k + 1) * dtp A 2 9 5 (k + 1) = dsm A 1 9 5 4 k) (dr_9_5_0 A) (dr_9_5_1 A) (dr_9_5_2 A) (dr_9_5_3 A)
  | 6, _, _ => exact k4 (P := fun k => kk (k + 1) * dtp A 2 9 6 (k + 1) = dsm A 1 9 6 4 k) (dr_9_6_0 A) (dr_9_6_1 A) (dr_9_6_2 A) (dr_9_6_3 A)
  | 7, _, h => exact absurd h (by decide)
  | 8, _, h => exact absurd h (by decide)
  | 9, _, _ => exact k4 (P := fun k => kk (k + 1) * dtp A 2 9 9 (k + 1) = dsm A 1 9 9 4 k) (dr_9_9_0 A) (dr_9_9_1 A) (dr_9_9_2 A) (dr_9_9_3 A)
  | 10, _, _ => exact k4 (P := fun k => kk (k + 1) * dtp A 2 9 10 (k + 1) = dsm A 1 9 10 4 k) (dr_9_10_0 A) (dr_9_10_1 A) (dr_9_10_2 A) (dr_9_10_3 A)
  | 11, _, h => exact absurd h (by decide)
  | 12, _, _ => exact k4 (P := fun k => kk (k + 1) * dtp A 2 9 12 (k + 1) = dsm A 1 9 12 4 k) (dr_9_12_0 A) (dr_9_12_1 A) (dr_9_12_2 A) (dr_9_12_3 A)
  | 13, _, h => exact absurd h (by decide)
  | 14, _, h => exact absurd h (by decide)
  | 15, _, h => exact absurd h (by decide)
  | (n + 16), hC, _ => exact absurd hC (by omega)
theorem drr_10 (A : Nat → Nat → Nat) : ∀ C, C < 16 → pc 10 = pc C → ∀ k, k < 4 → kk (k + 1) * dtp A (pc 10 - 1 + 1) 10 C (k + 1) = dsm A (pc 10 - 1) 10 C 4 k := by
  intro C hC h
  match C, hC, h with
  | 0, _, h => exact absurd h (by decide)
  | 1, _, h => exact absurd h (by decide)
  | 2, _, h => exact absurd h (by decide)
  | 3, _, _ => exact k4 (P := fun k => kk (k + 1) * dtp A 2 10 3 (k + 1) = dsm A 1 10 3 4 k) (dr_10_3_0 A) (dr_10_3_1 A) (dr_10_3_2 A) (dr_10_3_3 A)
  | 4, _, h => exact absurd h (by decide)
  | 5, _, _ => exact k4 (P := fun k => kk (k + 1) * dtp A 2 10 5 (k + 1) = dsm A 1 10 5 4 k) (dr_10_5_0 A) (dr_10_5_1 A) (dr_10_5_2 A) (dr_10_5_3 A)
  | 6, _, _ => exact k4 (P := fun k => kk (k + 1) * dtp A 2 10 6 (k + 1) = dsm A 1 10 6 4 k) (dr_10_6_0 A) (dr_10_6_1 A) (dr_10_6_2 A) (dr_10_6_3 A)
  | 7, _, h => exact absurd h (by decide)
  | 8, _, h => exact absurd h (by decide)
  | 9, _, _ => exact k4 (P := fun k => kk (k + 1) * dtp A 2 10 9 (k + 1) = dsm A 1 10 9 4 k) (dr_10_9_0 A) (dr_10_9_1 A) (dr_10_9_2 A) (dr_10_9_3 A)
  | 10, _, _ => exact k4 (P := fun k => kk (k + 1) * dtp A 2 10 10 (k + 1) = dsm A 1 10 10 4 k) (dr_10_10_0 A) (dr_10_10_1 A) (dr_10_10_2 A) (dr_10_10_3 A)
  | 11, _, h => exact absurd h (by decide)
  | 12, _, _ => exact k4 (P := fun k => kk (k + 1) * dtp A 2 10 12 (k + 1) = dsm A 1 10 12 4 k) (dr_10_12_0 A) (dr_10_12_1 A) (dr_10_12_2 A) (dr_10_12_3 A)
  | 13, _, h => exact absurd h (by decide)
  | 14, _, h => exact absurd h (by decide)
  | 15, _, h => exact absurd h (by decide)
  | (n + 16), hC, _ => exact absurd hC (by omega)
theorem drr_11 (A : Nat → Nat → Nat) : ∀ C, C < 16 → pc 11 = pc C → ∀ k, k < 4 → kk (k + 1) * dtp A (pc 11 - 1 + 1) 11 C (k + 1) = dsm A (pc 11 - 1) 11 C 4 k := by
  intro C hC h
  match C, hC, h with
  | 0, _, h => exact absurd h (by decide)
  | 1, _, h => exact absurd h (by decide)
  | 2, _, h => exact absurd h (by decide)
  | 3, _, h => exact absurd h (by decide)
  | 4, _, h => exact absurd h (by decide)
  | 5, _, h => exact absurd h (by decide)
  | 6, _, h => exact absurd h (by decide)
  | 7, _, _ => exact k4 (P := fun k => kk (k + 1) * dtp A 3 11 7 (k + 1) = dsm A 2 11 7 4 k) (dr_11_7_0 A) (dr_11_7_1 A) (dr_11_7_2 A) (dr_11_7_3 A)
  | 8, _, h => exact absurd h (by decide)
  | 9, _, h => exact absurd h (by decide)
  | 10, _, h => exact absurd h (by decide)
  | 11, _, _ => exact k4 (P := fun k => kk (k + 1) * dtp A 3 11 11 (k + 1) = dsm A 2 11 11 4 k) (dr_11_11_0 A) (dr_11_11_1 A) (dr_11_11_2 A) (dr_11_11_3 A)
  | 12, _, h => exact absurd h (by decide)
  | 13, _, _ => exact k4 (P := fun k => kk (k + 1) * dtp A 3 11 13 (k + 1) = dsm A 2 11 13 4 k) (dr_11_13_0 A) (dr_11_13_1 A) (dr_11_13_2 A) (dr_11_13_3 A)
  | 14, _, _ => exact k4 (P := fun k => kk (k + 1) * dtp A 3 11 14 (k + 1) = dsm A 2 11 14 4 k) (dr_11_14_0 A) (dr_11_14_1 A) (dr_11_14_2 A) (dr_11_14_3 A)
  | 15, _, h => exact absurd h (by decide)
  | (n + 16), hC, _ => exact absurd hC (by omega)
theorem drr_12 (A : Nat → Nat → Nat) : ∀ C, C < 16 → pc 12 = pc C → ∀ k, k < 4 → kk (k + 1) * dtp A (pc 12 - 1 + 1) 12 C (k + 1) = dsm A (pc 12 - 1) 12 C 4 k := by
  intro C hC h
  match C, hC, h with
  | 0, _, h => exact absurd h (by decide)
  | 1, _, h => exact absurd h (by decide)
  | 2, _, h => exact absurd h (by decide)
  | 3, _, _ => exact k4 (P := fun k => kk (k + 1) * dtp A 2 12 3 (k + 1) = dsm A 1 12 3 4 k) (dr_12_3_0 A) (dr_12_3_1 A) (dr_12_3_2 A) (dr_12_3_3 A)
  | 4, _, h => exact absurd h (by decide)
  | 5, _, _ => exact k4 (P := fun k => kk (k + 1) * dtp A 2 12 5 (k + 1) = dsm A 1 12 5 4 k) (dr_12_5_0 A) (dr_12_5_1 A) (dr_12_5_2 A) (dr_12_5_3 A)
  | 6, _, _ => exact k4 (P := fun k => kk (k + 1) * dtp A 2 12 6 (k + 1) = dsm A 1 12 6 4 k) (dr_12_6_0 A) (dr_12_6_1 A) (dr_12_6_2 A) (dr_12_6_3 A)
  | 7, _, h => exact absurd h (by decide)
  | 8, _, h => exact absurd h (by decide)
  | 9, _, _ => exact k4 (P := fun k => kk (k + 1) * dtp A 2 12 9 (k + 1) = dsm A 1 12 9 4 k) (dr_12_9_0 A) (dr_12_9_1 A) (dr_12_9_2 A) (dr_12_9_3 A)
  | 10, _, _ => exact k4 (P := fun k => kk (k + 1) * dtp A 2 12 10 (k + 1) = dsm A 1 12 10 4 k) (dr_12_10_0 A) (dr_12_10_1 A) (dr_12_10_2 A) (dr_12_10_3 A)
  | 11, _, h => exact absurd h (by decide)
  | 12, _, _ => exact k4 (P := fun k => kk (k + 1) * dtp A 2 12 12 (k + 1) = dsm A 1 12 12 4 k) (dr_12_12_0 A) (dr_12_12_1 A) (dr_12_12_2 A) (dr_12_12_3 A)
  | 13, _, h => exact absurd h (by decide)
  | 14, _, h => exact absurd h (by decide)
  | 15, _, h => exact absurd h (by decide)
  | (n + 16), hC, _ => exact absurd hC (by omega)
theorem drr_13 (A : Nat → Nat → Nat) : ∀ C, C < 16 → pc 13 = pc C → ∀ k, k < 4 → kk (k + 1) * dtp A (pc 13 - 1 + 1) 13 C (k + 1) = dsm A (pc 13 - 1) 13 C 4 k := by
  intro C hC h
  match C, hC, h with
  | 0, _, h => exact absurd h (by decide)
  | 1, _, h => exact absurd h (by decide)
  | 2, _, h => exact absurd h (by decide)
  | 3, _, h => exact absurd h (by decide)
  | 4, _, h => exact absurd h (by decide)
  | 5, _, h => exact absurd h (by decide)
  | 6, _, h => exact absurd h (by decide)
  | 7, _, _ => exact k4 (P := fun k => kk (k + 1) * dtp A 3 13 7 (k + 1) = dsm A 2 13 7 4 k) (dr_13_7_0 A) (dr_13_7_1 A) (dr_13_7_2 A) (dr_13_7_3 A)
  | 8, _, h => exact absurd h (by decide)
  | 9, _, h => exact absurd h (by decide)
  | 10, _, h => exact absurd h (by decide)
  | 11, _, _ => exact k4 (P := fun k => kk (k + 1) * dtp A 3 13 11 (k + 1) = dsm A 2 13 11 4 k) (dr_13_11_0 A) (dr_13_11_1 A) (dr_13_11_2 A) (dr_13_11_3 A)
  | 12, _, h => exact absurd h (by decide)
  | 13, _, _ => exact k4 (P := fun k => kk (k + 1) * dtp A 3 13 13 (k + 1) = dsm A 2 13 13 4 k) (dr_13_13_0 A) (dr_13_13_1 A) (dr_13_13_2 A) (dr_13_13_3 A)
  | 14, _, _ => exact k4 (P := fun k => kk (k + 1) * dtp A 3 13 14 (k + 1) = dsm A 2 13 14 4 k) (dr_13_14_0 A) (dr_13_14_1 A) (dr_13_14_2 A) (dr_13_14_3 A)
  | 15, _, h => exact absurd h (by decide)
  | (n + 16), hC, _ => exact absurd hC (by omega)
theorem drr_14 (A : Nat → Nat → Nat) : ∀ C, C < 16 → pc 14 = pc C → ∀ k, k < 4 → kk (k + 1) * dtp A (pc 14 - 1 + 1) 14 C (k + 1) = dsm A (pc 14 - 1) 14 C 4 k := by
  intro C hC h
  match C, hC, h with
  | 0, _, h => exact absurd h (by decide)
  | 1, _, h => exact absurd h (by decide)
  | 2, _, h => exact absurd h (by decide)
  | 3, _, h => exact absurd h (by decide)
  | 4, _, h => exact absurd h (by decide)
  | 5, _, h => exact absurd h (by decide)
  | 6, _, h => exact absurd h (by decide)
  | 7, _, _ => exact k4 (P := fun k => kk (k + 1) * dtp A 3 14 7 (k + 1) = dsm A 2 14 7 4 k) (dr_14_7_0 A) (dr_14_7_1 A) (dr_14_7_2 A) (dr_14_7_3 A)
  | 8, _, h => exact absurd h (by decide)
  | 9, _, h => exact absurd h (by decide)
  | 10, _, h => exact absurd h (by decide)
  | 11, _, _ => exact k4 (P := fun k => kk (k + 1) * dtp A 3 14 11 (k + 1) = dsm A 2 14 11 4 k) (dr_14_11_0 A) (dr_14_11_1 A) (dr_14_11_2 A) (dr_14_11_3 A)
  | 12, _, h => exact absurd h (by decide)
  | 13, _, _ => exact k4 (P := fun k => kk (k + 1) * dtp A 3 14 13 (k + 1) = dsm A 2 14 13 4 k) (dr_14_13_0 A) (dr_14_13_1 A) (dr_14_13_2 A) (dr_14_13_3 A)
  | 14, _, _ => exact k4 (P := fun k => kk (k + 1) * dtp A 3 14 14 (k + 1) = dsm A 2 14 14 4 k) (dr_14_14_0 A) (dr_14_14_1 A) (dr_14_14_2 A) (dr_14_14_3 A)
  | 15, _, h => exact absurd h (by decide)
  | (n + 16), hC, _ => exact absurd hC (by omega)
theorem drr_15 (A : Nat → Nat → Nat) : ∀ C, C < 16 → pc 15 = pc C → ∀ k, k < 4 → kk (k + 1) * dtp A (pc 15 - 1 + 1) 15 C (k + 1) = dsm A (pc 15 - 1) 15 C 4 k := by
  intro C hC h
  match C, hC, h with
  | 0, _, h => exact absurd h (by decide)
  | 1, _, h => exact absurd h (by decide)
  | 2, _, h => exact absurd h (by decide)
  | 3, _, h => exact absurd h (by decide)
  | 4, _, h => exact absurd h (by decide)
  | 5, _, h => exact absurd h (by decide)
  | 6, _, h => exact absurd h (by decide)
  | 7, _, h => exact absurd h (by decide)
  | 8, _, h => exact absurd h (by decide)
  | 9, _, h => exact absurd h (by decide)
  | 10, _, h => exact absurd h (by decide)
  | 11, _, h => exact absurd h (by decide)
  | 12, _, h => exact absurd h (by decide)
  | 13, _, h => exact absurd h (by decide)
  | 14, _, h => exact absurd h (by decide)
  | 15, _, _ => exact k4 (P := fun k => kk (k + 1) * dtp A 4 15 15 (k + 1) = dsm A 3 15 15 4 k) (dr_15_15_0 A) (dr_15_15_1 A) (dr_15_15_2 A) (dr_15_15_3 A)
  | (n + 16), hC, _ => exact absurd hC (by omega)
theorem dr_all (A : Nat → Nat → Nat) : ∀ R, R < 16 → 0 < R → ∀ C, C < 16 → pc R = pc C → ∀ k, k < 4 → kk (k + 1) * dtp A (pc R - 1 + 1) R C (k + 1) = dsm A (pc R - 1) R C 4 k := by
  intro R hR h0
  match R, hR, h0 with
  | 0, _, h0 => exact absurd h0 (by decide)
  | 1, _, _ => exact drr_1 A
  | 2, _, _ => exact drr_2 A
  | 3, _, _ => exact drr_3 A
  | 4, _, _ => exact drr_4 A
  | 5, _, _ => exact drr_5 A
  | 6, _, _ => exact drr_6 A
  | 7, _, _ => exact drr_7 A
  | 8, _, _ => exact drr_8 A
  | 9, _, _ => exact drr_9 A
  | 10, _, _ => exact drr_10 A
  | 11, _, _ => exact drr_11 A
  | 12, _, _ => exact drr_12 A
  | 13, _, _ => exact drr_13 A
  | 14, _, _ => exact drr_14 A
  | 15, _, _ => exact drr_15 A
  | (n + 16), hR, _ => exact absurd hR (by omega)
end
section
/-! factors that are 1 stand in front; invariant -/
def der (p : Nat) : Nat := hrn (fun k => ((k + 1) * (p / 5 ^ (k + 1) % 5)) % 5) 5 0
theorem der_b (p : Nat) : b5 (fun k => ((k + 1) * (p / 5 ^ (k + 1) % 5)) % 5) := fun _ _ => Nat.mod_lt _ (by decide)
theorem der_lt (p : Nat) : der p < 3125 := nu_lt (der_b p)
theorem der_pd (p : Nat) : ∀ k, k < 5 → pd (der p) k = kk (k + 1) * pd p (k + 1) := by
  intro k hk
  rw [show pd (der p) k = kk (((k + 1) * (p / 5 ^ (k + 1) % 5)) % 5) from nu_pd (der_b p) k hk, kk_mod, kk_mul, kk_mod]
  rfl
/-- the derivative of a minor lies in each ideal that holds the smaller minors -/
theorem dr_P {P : Nat → Prop} (hP : Idl P) (A : Nat → Nat → Nat) {N k : Nat} (hN : N ≤ 4) (h : ∀ R C, R < 2 ^ N → C < 2 ^ N → pc R = k → pc C = k → P (mnum A R C)) :
    ∀ R C, R < 2 ^ N → C < 2 ^ N → pc R = k + 1 → pc C = k + 1 → P (der (mnum A R C)) := by
  intro R C hR hC e1 e2
  obtain ⟨w1, w2⟩ := pw2 N (by omega)
  have hR0 : 0 < R := by
    refine Nat.pos_of_ne_zero (fun z => ?_)
    subst z
    have : pc 0 = 0 := rfl
    omega
  have hk4 := pc4 R (by omega)
  have hd := dr_all A R (by omega) hR0 C (by omega) (by omega)
  rw [e1, Nat.add_sub_cancel] at hd
  have main : ∀ i, i ≤ 4 → ∃ S, S < 3125 ∧ P S ∧ ∀ j, j < 5 → pd S j = dsm A k R C i j := by
    intro i
    induction i with
    | zero => intro _; exact ⟨0, by decide, hP.1, fun j _ => pd_0 j⟩
    | succ i ih =>
      intro hi
      obtain ⟨S, s1, s2, s3⟩ := ih (by omega)
      have W : dsm A k R C (i + 1) = (if R / 2 ^ i % 2 = 1 ∧ C / 2 ^ i % 2 = 1 then fun j => dsm A k R C i j + (if (pcb R i + pcb C i) % 2 = 0 then 1 else 4) * dtp A k (R - 2 ^ i) (C - 2 ^ i) j else dsm A k R C i) := rfl
      by_cases hb : R / 2 ^ i % 2 = 1 ∧ C / 2 ^ i % 2 = 1
      · rw [if_pos hb] at W
        obtain ⟨g1, _⟩ := (set_bit R (by omega) i (by omega)).1 hb.1
        obtain ⟨g2, _⟩ := (set_bit C (by omega) i (by omega)).1 hb.2
        have hm := h (R - 2 ^ i) (C - 2 ^ i) (set_bit2 N (by omega) R hR i (by omega) hb.1) (set_bit2 N (by omega) C hC i (by omega) hb.2) (by omega) (by omega)
        have hpr : pc (R - 2 ^ i) = k := by omega
        refine ⟨pm S (if (pcb R i + pcb C i) % 2 = 0 then 1 else 4) (mnum A (R - 2 ^ i) (C - 2 ^ i)), pm_lt _ _ _, hP.2.1 _ _ _ s1 (mnum_lt _ _ _) (by split <;> omega) s2 hm, fun j hj => ?_⟩
        rw [pd_pm _ _ _ _ hj, s3 j hj, mnum_pd _ _ _ j hj, hpr, W]
        dsimp only
        split <;> rfl
      · rw [if_neg hb] at W
        rw [W]
        exact ⟨S, s1, s2, s3⟩
  obtain ⟨S, s1, s2, s3⟩ := main 4 (by omega)
  have hs4 : ∀ i, i ≤ 4 → dsm A k R C i 4 = 0 := by
    intro i
    induction i with
    | zero => intro _; rfl
    | succ i ih =>
      intro hi
      show (if R / 2 ^ i % 2 = 1 ∧ C / 2 ^ i % 2 = 1 then fun j => dsm A k R C i j + (if (pcb R i + pcb C i) % 2 = 0 then 1 else 4) * dtp A k (R - 2 ^ i) (C - 2 ^ i) j else dsm A k R C i) 4 = 0
      split
      · show dsm A k R C i 4 + _ * dtp A k (R - 2 ^ i) (C - 2 ^ i) 4 = 0
        rw [ih (by omega), dtp_hi A k _ _ 4 (by omega)]; grind
      · exact ih (by omega)
  have : S = der (mnum A R C) := by
    refine pd_inj s1 (der_lt _) (fun j hj => ?_)
    rw [s3 j hj, der_pd _ j hj]
    by_cases e : j = 4
    · subst e
      rw [hs4 4 (Nat.le_refl _), show kk (4 + 1) = 0 from rfl]; grind
    · rw [mnum_pd _ _ _ (j + 1) (by omega), e1, hd j (by omega)]
  rw [← this]; exact s2
theorem mulQ {g : Nat} (hg : g < 3125) (hg0 : g ≠ 0) : Idl (fun p => mul g p ∧ mul g (der p)) := by
  have hI := mul_I hg hg0
  refine ⟨⟨hI.1, ?_⟩, ?_, ?_⟩
  · have : der 0 = 0 := by decide
    rw [this]; exact hI.1
  · intro p q s hp hq hs h1 h2
    refine ⟨hI.2.1 p q s hp hq hs h1.1 h2.1, ?_⟩
    have e : der (pm p s q) = pm (der p) s (der q) := by
      refine pd_inj (der_lt _) (pm_lt _ _ _) (fun k hk => ?_)
      rw [der_pd _ k hk, pd_pm _ _ _ _ hk, der_pd _ k hk, der_pd _ k hk]
      by_cases e : k = 4
      · subst e
        rw [show kk (4 + 1) = 0 from rfl]; grind
      · rw [pd_pm _ _ _ _ (by omega)]; grind
    rw [e]
    exact hI.2.1 _ _ _ (der_lt _) (der_lt _) hs h1.2 h2.2
  · intro p hp h
    refine ⟨hI.2.2 p hp h.1, ?_⟩
    have hd : der p < 625 := by
      have := pd_ltp (j := 4) (der_lt p) (by omega) (fun k k1 k5 => by
        rw [der_pd _ k k5, show k = 4 by omega, show kk (4 + 1) = 0 from rfl]; grind)
      simpa using this
    have e : der (5 * p) = pm p 1 (5 * der p) := by
      refine pd_inj (der_lt _) (pm_lt _ _ _) (fun k hk => ?_)
      rw [der_pd _ k hk, pd_pm _ _ _ _ hk, pd_5, pd_5, show kk 1 = 1 from rfl]
      cases k with
      | zero => show kk (0 + 1) * pd p 0 = pd p 0 + 1 * 0; rw [show kk (0 + 1) = 1 from rfl]; grind
      | succ k =>
        show kk (k + 1 + 1) * pd p (k + 1) = pd p (k + 1) + 1 * pd (der p) k
        rw [der_pd _ k (by omega), kk_add (k + 1) 1, show kk 1 = 1 from rfl]; grind
    rw [e]
    exact hI.2.1 _ _ _ (by omega) (by omega) (by omega) h.1 (hI.2.2 _ hd h.2)
theorem f5_nz : ∀ x y : Fin 5, x ≠ 0 → y ≠ 0 → x * y ≠ 0 := by decide
theorem der_no {g : Nat} (hg : g < 3125) (hd : 0 < dg g) (h : mul g (der g)) : False := by
  have h4 := dg_4 g
  have g0 : g ≠ 0 := by
    intro z
    subst z
    exact absurd hd (by decide)
  obtain ⟨j, hj⟩ : ∃ j, dg g = j + 1 := ⟨dg g - 1, by omega⟩
  have e1 : pd (der g) j = kk (j + 1) * kk (ld g) := by
    rw [der_pd _ j (by omega), ← hj, pd_ld]
  have ne : pd (der g) j ≠ 0 := by
    rw [e1]
    have n2 : kk (j + 1) ≠ 0 := by
      match j, (show j < 4 by omega) with
      | 0, _ => decide
      | 1, _ => decide
      | 2, _ => decide
      | 3, _ => decide
    exact f5_nz _ _ n2 (ld_k hg g0)
  have d0 : der g ≠ 0 := by
    intro z
    rw [z, pd_0] at ne
    exact ne rfl
  have lt : der g < 5 ^ (j + 1) := by
    refine pd_ltp (der_lt _) (by omega) (fun k k1 k5 => ?_)
    rw [der_pd _ k k5, pd_gt hg (by omega)]; grind
  have dl := dg_le lt
  obtain ⟨s, hs⟩ := h
  have s0 : s ≠ 0 := fun z => d0 (mlt_0 (der_lt _) (by rw [← z]; exact hs))
  have := (mlt_top hg (der_lt _) g0 hs s0).1
  omega
theorem one_of {s : Nat} (hs : s < 3125) (h1 : ld s = 1) (hd : dg s = 0) : s = 1 := by
  unfold ld at h1
  rw [hd, Nat.pow_zero, Nat.div_one] at h1
  exact h1
theorem fac_ch {A : Nat → Nat → Nat} {N : Nat} {d s : Nat → Nat} (hN : N ≤ 4) (h : fac A N d s) : ∀ k, k + 1 < N → 0 < dg (s k) → 0 < dg (s (k + 1)) := by
  intro k hk hpos
  refine Nat.pos_of_ne_zero (fun z => ?_)
  obtain ⟨a1, a2, a3, a4⟩ := fac_s hN h k (by omega)
  obtain ⟨b1, b2, b3, b4⟩ := fac_s hN h (k + 1) hk
  have s1 := one_of b2 b4 z
  have g1 := h.1 (k + 1) (by omega)
  have g2 := h.1 (k + 1 + 1) (by omega)
  have hm := h.2 (k + 1) hk
  rw [s1] at hm
  have e : d (k + 1 + 1) = d (k + 1) := pd_inj g2.1 g1.1 (fun j hj => by rw [hm.2 j hj, (mlt_1 (d (k + 1))).2 j hj])
  rw [e] at g2
  obtain ⟨n1, n2⟩ := gD_ne hN (by omega) g1
  have hI := mul_I g1.1 n1
  have hQ := mulQ g1.1 n1
  have p1 := (g1.2.2 _ hI).mp ⟨1, mlt_1 _⟩
  have p2 := (g2.2.2 _ hI).mp ⟨1, mlt_1 _⟩
  have p3 := dr_P hI A hN p1
  have := (g2.2.2 _ hQ).mpr (fun R C hR hC e1 e2 => ⟨p2 R C hR hC e1 e2, p3 R C hR hC e1 e2⟩)
  exact der_no g1.1 (by omega) this.2
/-- where the factors that are not 1 begin -/
theorem fac_z {A : Nat → Nat → Nat} {N : Nat} {d s : Nat → Nat} (hN : N ≤ 4) (h : fac A N d s) : ∃ z, z ≤ N ∧ (∀ i, i < z → s i = 1) ∧ ∀ i, z ≤ i → i < N → 0 < dg (s i) ∧ s i ≠ 1 := by
  obtain ⟨z, hz, hl⟩ := pk_least (fun i => N ≤ i ∨ 0 < dg (s i)) ⟨N, Or.inl (Nat.le_refl _)⟩
  have zN : z ≤ N := by
    refine Nat.le_of_not_lt (fun w => ?_)
    exact hl N w (Or.inl (Nat.le_refl _))
  refine ⟨z, zN, ?_, ?_⟩
  · intro i hi
    have := hl i hi
    obtain ⟨a1, a2, a3, a4⟩ := fac_s hN h i (by omega)
    refine one_of a2 a4 ?_
    refine Nat.eq_zero_of_not_pos (fun w => this (Or.inr w))
  · intro i hi hiN
    have hp : ∀ t, z + t < N → 0 < dg (s (z + t)) := by
      intro t
      induction t with
      | zero =>
        intro ht
        rcases hz with w | w
        · omega
        · exact w
      | succ t ih => intro ht; exact fac_ch hN h (z + t) ht (ih (by omega))
    have := hp (i - z) (by omega)
    rw [show z + (i - z) = i by omega] at this
    refine ⟨this, fun w => ?_⟩
    rw [w] at this
    exact absurd this (by decide)
theorem xs_inv20 {post : Int32 → SX → Prop} {N z : Nat} {x2 : Int32} {c m f s : Nat → Nat} (hN : N ≤ 4) (hz : z ≤ N) (hf : ∀ i, i < N → f i = s i) (hs : ∀ i, i < N → s i < 3125) (h1 : ∀ i, i < z → s i = 1) (h2 : ∀ i, z ≤ i → i < N → s i ≠ 1)
    (H : ∀ κ, κ < N - z → x2 = nI κ → post (nI (s (z + κ))) (zX N c m f)) (H0 : zOut x2 (N - z) → post (-2) (zX N c m f)) :
    ∃ n20, wX_invariant_20 post x2 (nI N) (zA c) (zA m) (zA f) n20 0 0 := by
  refine loop_0 (fun n i (q : Nat) => wX_invariant_20 post x2 (nI N) (zA c) (zA m) (zA f) n (nI q) (nI i)) (fun i q => q = if i ≤ z then i else z) N 0 (by rw [if_pos (Nat.zero_le _)]) ?_ ?_
  · intro n q hq
    have hqz : q = z := by
      rw [hq]; split <;> omega
    subst hqz
    refine br_t (nI_le (Nat.le_refl _) (by omega)) ?_
    rw [pk_sub hz]
    rcases zout x2 (n := N - q) (by omega) with ⟨κ, hκ, rfl⟩ | o
    · refine br_f (nI_pos (by omega)) (br_t (nI_lt hκ (by omega)) ?_)
      rw [nI_add, nI_clamp (by omega), zA_at, hf _ (by omega)]
      exact ⟨vp_in_nI (by omega) (by decide), H κ hκ rfl⟩
    · have h0 := H0 o
      rcases o with o | ⟨o, o'⟩
      · exact br_t o h0
      · exact br_f o (br_f (Int32.not_lt.mpr o') h0)
  · intro n i q hi hq ih
    have b := hs i hi
    refine br_f (nI_ge hi (by omega)) ?_
    rw [nI_clamp (by omega), zA_at, hf i hi]
    refine ⟨vp_in_nI (by omega) (by decide), pk_eq (s i) 1 ?_ ?_⟩
    · intro e
      have : i < z := Nat.lt_of_not_le (fun w => h2 i w hi e)
      refine nm_r (nI_1 q) (nm_r (nI_1 i) (ih (q + 1) ?_))
      rw [hq, if_pos (by omega), if_pos (by omega)]
    · intro e
      have : z ≤ i := Nat.le_of_not_lt (fun w => e (h1 i w))
      refine nm_r (nI_1 i) (ih q ?_)
      rw [hq]
      split <;> split <;> omega
theorem ys_inv20 {post : Int32 → SY → Prop} {N z : Nat} {x2 : Int32} {g s : Nat → Nat} {mn te dv ot fc kp rw : Nat → Nat} (hN : N ≤ 4) (hz : z ≤ N) (hf : ∀ k j, k < N → j < 5 → fc (5 * k + j) = s k / 5 ^ j % 5) (hs : ∀ i, i < N → s i < 3125 ∧ s i ≠ 0) (h1 : ∀ i, i < z → s i = 1) (h2 : ∀ i, z ≤ i → i < N → 0 < dg (s i))
    (H : ∀ κ, κ < N - z → x2 = nI κ → post (nI (s (z + κ))) (zY N g mn te dv ot fc kp rw)) (H0 : zOut x2 (N - z) → post (-2) (zY N g mn te dv ot fc kp rw)) :
    ∃ n20, wY_invariant_20 post x2 (nI N) (zA g) (zA mn) (zA te) (zA dv) (zA ot) (zA fc) (zA kp) (zA rw) n20 0 0 := by
  rcases zout x2 (n := N - z) (by omega) with ⟨κ, hκ, hx⟩ | o
  · have h0 := H κ hκ hx
    refine loop_0 (fun n i (q : Nat) => wY_invariant_20 post x2 (nI N) (zA g) (zA mn) (zA te) (zA dv) (zA ot) (zA fc) (zA kp) (zA rw) n (nI q) (nI i)) (fun i q => q = i - z) (z + κ) 0 (by omega) ?_ ?_
    · intro n q hq
      obtain ⟨b1, b2⟩ := hs (z + κ) (by omega)
      have b3 := dg_4 (s (z + κ))
      refine br_f (nI_ge (by omega) (by omega)) (ys_degF (by omega) b1 b2 (fun j hj => hf _ j (by omega) hj) ?_)
      refine br_f (nI_nle (h2 _ (by omega) (by omega)) (by omega)) (br_t (by rw [hx, hq, show z + κ - z = κ by omega]) ?_)
      exact ys_writ (by omega) b1 (fun j hj => hf _ j (by omega) hj) h0
    · intro n i q hi hq ih
      obtain ⟨b1, b2⟩ := hs i (by omega)
      have b3 := dg_4 (s i)
      refine br_f (nI_ge (by omega) (by omega)) (ys_degF (by omega) b1 b2 (fun j hj => hf _ j (by omega) hj) (pk_le (dg (s i)) 0 ?_ ?_))
      · intro e
        have : i < z := Nat.lt_of_not_le (fun w => by have := h2 i w (by omega); omega)
        refine nm_r (nI_1 i) (ih q ?_)
        omega
      · intro e
        have : z ≤ i := Nat.le_of_not_lt (fun w => by rw [h1 i w] at e; exact absurd e (by decide))
        rw [hx]
        refine pk_eq q κ (fun w => by omega) ?_
        intro w
        rw [← hx]
        refine nm_r (nI_1 q) (nm_r (nI_1 i) (ih (q + 1) ?_))
        omega
  · have h0 := H0 o
    refine loop_0 (fun n i (q : Nat) => wY_invariant_20 post x2 (nI N) (zA g) (zA mn) (zA te) (zA dv) (zA ot) (zA fc) (zA kp) (zA rw) n (nI q) (nI i)) (fun i q => q = i - z) N 0 (by omega) ?_ ?_
    · intro n q hq
      exact br_t (nI_le (Nat.le_refl _) (by omega)) h0
    · intro n i q hi hq ih
      obtain ⟨b1, b2⟩ := hs i hi
      have b3 := dg_4 (s i)
      refine br_f (nI_ge (by omega) (by omega)) (ys_degF (by omega) b1 b2 (fun j hj => hf _ j (by omega) hj) (pk_le (dg (s i)) 0 ?_ ?_))
      · intro e
        have : i < z := Nat.lt_of_not_le (fun w => by have := h2 i w (by omega); omega)
        refine nm_r (nI_1 i) (ih q ?_)
        omega
      · intro e
        have : z ≤ i := Nat.le_of_not_lt (fun w => by rw [h1 i w] at e; exact absurd e (by decide))
        have hne : ¬ nI q = x2 := by
          intro w
          rw [← w] at o
          rcases o with o | ⟨o, o'⟩
          · exact nI_pos (by omega) o
          · rw [nI_leI (by omega) (by omega)] at o'
            omega
        refine br_f hne (nm_r (nI_1 q) (nm_r (nI_1 i) (ih (q + 1) ?_)))
        omega
theorem i_vc_invariant {k : Nat} {u : SX} {v : SY} (I : i_Rel k u v) (hk : k + 5 ≤ 2561) (v1 : Int32) (v2 : Int32) : wpX_invariant (fun r u' => wpY_invariant (fun r' v' => r' = r ∧ i_Rel (k + 5) u' v') v v1 v2) u v1 v2 := by
  obtain ⟨N, c, m, f, g, mn, te, dv, ot, fc, kp, rw, rfl, rfl, h1, h4, hc, hg, h⟩ := I
  unfold wpX_invariant wpY_invariant; dsimp only
  rcases zout v1 (n := 4) (by decide) with ⟨r, hr, rfl⟩ | o1
  · refine xr_ok hr (br_f zf1 (xs_findFactors (st := 0) h1 h4 (by omega) (by omega) hc ?_))
    intro m' f' d s hF hf _
    rw [zrel h hr] at hF
    obtain ⟨z, z1, z2, z3⟩ := fac_z h4 hF
    have hf0 : ∀ i, i < N → f' i = s i := fun i hi => by have := hf i hi; rwa [Nat.zero_add] at this
    have y : ∀ ans : Int32, (∀ κ, κ < N - z → v2 = nI κ → ans = nI (s (z + κ))) → (zOut v2 (N - z) → ans = -2) → wpY_invariant (fun r' v' => r' = ans ∧ i_Rel (k + 5) (zX N c m' f') v') (zY N g mn te dv ot fc kp rw) (nI r) v2 := by
      intro ans a1 a2
      unfold wpY_invariant; dsimp only
      refine yr_ok hr (br_f zf1 (ys_findFactors h1 h4 (by omega) hg ?_))
      intro mn' te' dv' ot' fc' d' s' hF' hf'
      have u := (fac_u h4 hF hF').2
      refine ys_inv20 (z := z) (s := s') h4 z1 hf' (fun i hi => ⟨(fac_s h4 hF' i hi).2.1, (fac_s h4 hF' i hi).1⟩) (fun i hi => by rw [← u i (by omega)]; exact z2 i hi) (fun i hi hiN => by rw [← u i hiN]; exact (z3 i hi hiN).1) (fun κ hκ hx => ⟨?_, zR h1 h4 hc hg h⟩) (fun o => ⟨?_, zR h1 h4 hc hg h⟩)
      · rw [a1 κ hκ hx, u _ (by omega)]
      · exact (a2 o).symm
    refine xs_inv20 (z := z) (s := s) h4 z1 hf0 (fun i hi => (fac_s h4 hF i hi).2.1) z2 (fun i hi hiN => (z3 i hi hiN).2) (fun κ hκ hx => ?_) (fun o => ?_)
    · refine y _ (fun κ' hκ' hx' => ?_) (fun o => ?_)
      · rw [hx] at hx'
        rw [(nI_eq (by omega) (by omega)).mp hx']
      · exfalso
        rw [hx] at o
        rcases o with o | ⟨o, o'⟩
        · exact nI_pos (by omega) o
        · rw [nI_leI (by omega) (by omega)] at o'
          omega
    · refine y _ (fun κ' hκ' hx' => ?_) (fun _ => rfl)
      exfalso
      rw [hx'] at o
      rcases o with o | ⟨o, o'⟩
      · exact nI_pos (by omega) o
      · rw [nI_leI (by omega) (by omega)] at o'
        omega
  · exact xr_no o1 (br_t rfl (yr_no o1 (br_t rfl ⟨rfl, zR h1 h4 hc hg h⟩)))
end
section
/-! normal -/
/-- a slot's content after i rows of a companion with its corner at co -/
def wr (N co s : Nat) (h : Nat → Nat) : Nat → (Nat → Nat)
  | 0 => h
  | i + 1 => zu (if 0 < i then zu (wr N co s h i) (N * (co + i) + (co + i - 1)) 1 else wr N co s h i) (N * (co + i) + (co + dg s - 1)) ((5 - s / 5 ^ i % 5) % 5)
theorem wr_z {N co s : Nat} {h : Nat → Nat} (hc : co + dg s ≤ N) (hz : ∀ t, N * co ≤ t → h t = 0) : ∀ i, i ≤ dg s → ∀ t, N * (co + i) ≤ t → wr N co s h i t = 0 := by
  intro i
  induction i with
  | zero => intro _ t ht; exact hz t ht
  | succ i ih =>
    intro hi t ht
    have e : N * (co + (i + 1)) = N * (co + i) + N := by rw [← Nat.add_assoc, Nat.mul_succ]
    rw [e] at ht
    show zu (if 0 < i then zu (wr N co s h i) (N * (co + i) + (co + i - 1)) 1 else wr N co s h i) (N * (co + i) + (co + dg s - 1)) ((5 - s / 5 ^ i % 5) % 5) t = 0
    rw [zu_n (by omega)]
    split
    · rw [zu_n (by omega)]; exact ih (by omega) t (by omega)
    · exact ih (by omega) t (by omega)
/-- slot content and next corner after k companions -/
def nmS (N : Nat) (s : Nat → Nat) : Nat → (Nat → Nat) × Nat
  | 0 => (fun _ => 0, 0)
  | k + 1 => (wr N (nmS N s k).2 (s k) (nmS N s k).1 (dg (s k)), (nmS N s k).2 + dg (s k))
theorem fac_dg {A : Nat → Nat → Nat} {N : Nat} {d s : Nat → Nat} (hN : N ≤ 4) (h : fac A N d s) : ∀ k, k ≤ N → (nmS N s k).2 = dg (d k) := by
  intro k
  induction k with
  | zero =>
    intro _
    have : d 0 = 1 := gD_uniq (h.1 0 (Nat.zero_le _)) (gD_0 A hN)
    rw [this]; rfl
  | succ k ih =>
    intro hk
    show (nmS N s k).2 + dg (s k) = _
    rw [ih (by omega), (fac_s hN h k (by omega)).2.2.1]
theorem fac_dgN {A : Nat → Nat → Nat} {N : Nat} {d s : Nat → Nat} (hN : N ≤ 4) (h : fac A N d s) : ∀ k, k ≤ N → dg (d k) ≤ N := by
  have main : ∀ t, t ≤ N → dg (d (N - t)) ≤ N := by
    intro t
    induction t with
    | zero => intro _; rw [Nat.sub_zero, (gD_N hN (h.1 N (Nat.le_refl _))).2]; exact Nat.le_refl _
    | succ t ih =>
      intro ht
      have := (fac_s hN h (N - (t + 1)) (by omega)).2.2.1
      rw [show N - (t + 1) + 1 = N - t by omega] at this
      have := ih (by omega)
      omega
  intro k hk
  have := main (N - k) (by omega)
  rwa [show N - (N - k) = k by omega] at this
theorem nmS_z {N : Nat} {s : Nat → Nat} {n : Nat} (hb : ∀ k, k ≤ n → (nmS N s k).2 ≤ N) : ∀ k, k ≤ n → ∀ t, N * (nmS N s k).2 ≤ t → (nmS N s k).1 t = 0 := by
  intro k
  induction k with
  | zero => intro _ t _; rfl
  | succ k ih =>
    intro hk t ht
    have h1 := hb (k + 1) hk
    exact wr_z h1 (ih (by omega)) (dg (s k)) (Nat.le_refl _) t ht
theorem xs_comp {post : SX → Prop} {N d co s : Nat} {c m f h : Nat → Nat} (hN : N ≤ 4) (hd : d < 4) (hs : s < 3125) (hco : co + dg s ≤ N) (hc : ∀ j, c j < 5) (hh : ∀ t, t < N * N → c (16 * d + t) = h t)
    (H : ∀ c' : Nat → Nat, (∀ j, (j < 16 * d ∨ 16 * d + N * N ≤ j) → c' j = c j) → (∀ j, c' j < 5) → (∀ t, t < N * N → c' (16 * d + t) = wr N co s h (dg s) t) → post (zX N c' m f)) :
    wpX_writeCompanion post (zX N c m f) (nI d) (nI co) (nI s) := by
  have hsq := zi_sq hN
  have h4 := dg_4 s
  unfold wpX_writeCompanion; dsimp only
  refine xs_degree hs ?_
  generalize hm : dg s = mm at *
  rw [show nI s = nI (s / 5 ^ 0) by rw [Nat.pow_zero, Nat.div_one]]
  refine loop_0 (fun n i (q : Nat → Nat) => wX_writeCompanion_12 post (nI d) (nI co) (nI mm) (nI N) n (nI (s / 5 ^ i)) (nI i) (zA q) (zA m) (zA f))
    (fun i q => (∀ j, (j < 16 * d ∨ 16 * d + N * N ≤ j) → q j = c j) ∧ (∀ j, q j < 5) ∧ ∀ t, t < N * N → q (16 * d + t) = wr N co s h i t) mm c ⟨fun _ _ => rfl, hc, hh⟩ ?_ ?_
  · intro n q hI
    exact br_t (nI_le (Nat.le_refl _) (by omega)) (H q hI.1 hI.2.1 hI.2.2)
  · intro n i q hi hI ih
    have l1 := zi_lt (N := N) (i := co + i) (j := co + mm - 1) (by omega) (by omega)
    have sdv : s / 5 ^ i ≤ s := Nat.div_le_self _ _
    have e5 : s / 5 ^ i / 5 = s / 5 ^ (i + 1) := by rw [Nat.div_div_eq_div_mul, Nat.pow_succ]
    have e0 : ((16 : Int32) * nI d + nI N * (nI co + nI i)) + nI co = nI (16 * d + (N * (co + i) + co)) := by
      rw [z16m, nI_add, pk_mul, nI_add, nI_add, Nat.add_assoc]
    have step : ∀ q1 : Nat → Nat, (∀ j, (j < 16 * d ∨ 16 * d + N * N ≤ j) → q1 j = c j) → (∀ j, q1 j < 5) → (∀ t, t < N * N → q1 (16 * d + t) = (if 0 < i then zu (wr N co s h i) (N * (co + i) + (co + i - 1)) 1 else wr N co s h i) t) →
        wX_writeCompanion_55 post (wX_writeCompanion_12 post (nI d) (nI co) (nI mm) (nI N) n) (nI d) (nI co) (nI mm) (nI (s / 5 ^ i)) (nI i) (nI (16 * d + (N * (co + i) + co))) (nI N) (zA q1) (zA m) (zA f) := by
      intro q1 p1 p2 p3
      have e1 : nI (16 * d + (N * (co + i) + co)) + nI mm - 1 = nI (16 * d + (N * (co + i) + (co + mm - 1))) := by
        rw [nI_add, zs1 (by omega)]
        exact congrArg nI (by omega)
      unfold wX_writeCompanion_55
      rw [e1, nI_clamp (by omega), z5r (by omega), z5s (by have := Nat.mod_lt (s / 5 ^ i) (show 5 > 0 by decide); omega), z5r (by omega), z5d (by omega), e5]
      refine ⟨zf5, zf5, vp_in_nI (by omega) (by decide), nm_r (zA_upd _ _ _) ⟨zf5, nm_e (nm_r (nI_1 i) (ih _ ⟨?_, ?_, ?_⟩))⟩⟩
      · intro j hj
        rw [zu_n (by omega)]; exact p1 j hj
      · exact zu_lt p2 (Nat.mod_lt _ (by decide))
      · intro t ht
        show _ = zu (if 0 < i then zu (wr N co s h i) (N * (co + i) + (co + i - 1)) 1 else wr N co s h i) (N * (co + i) + (co + dg s - 1)) ((5 - s / 5 ^ i % 5) % 5) t
        rw [hm]
        by_cases e : t = N * (co + i) + (co + mm - 1)
        · rw [e, zu_s, zu_s]
        · rw [zu_n (by omega), zu_n e]; exact p3 t ht
    refine br_f (nI_ge hi (by omega)) (nm_r e0 (pk_le i 0 ?_ ?_))
    · intro z
      refine step q hI.1 hI.2.1 ?_
      rw [if_neg (by omega)]; exact hI.2.2
    · intro z
      have l2 := zi_lt (N := N) (i := co + i) (j := co + i - 1) (by omega) (by omega)
      have e1 : nI (16 * d + (N * (co + i) + co)) + nI i - 1 = nI (16 * d + (N * (co + i) + (co + i - 1))) := by
        rw [nI_add, zs1 (by omega)]
        exact congrArg nI (by omega)
      rw [e1, nI_clamp (by omega)]
      refine ⟨vp_in_nI (by omega) (by decide), nm_r (e' := zA (zu q (16 * d + (N * (co + i) + (co + i - 1))) 1)) (zA_upd _ _ _) (step _ ?_ ?_ ?_)⟩
      · intro j hj
        rw [zu_n (by omega)]; exact hI.1 j hj
      · exact zu_lt hI.2.1 (by decide)
      · rw [if_pos z]
        intro t ht
        by_cases e : t = N * (co + i) + (co + i - 1)
        · rw [e, zu_s, zu_s]
        · rw [zu_n (by omega), zu_n e]; exact hI.2.2 t ht
theorem xs_normal {post : Int32 → SX → Prop} {N d : Nat} {c m f s : Nat → Nat} (hN : N ≤ 4) (hd : d < 4) (hc : ∀ j, c j < 5) (h0 : ∀ t, t < N * N → c (16 * d + t) = 0) (hf : ∀ k, k < N → f k = s k) (hs : ∀ k, k < N → s k < 3125) (hb : ∀ k, k ≤ N → (nmS N s k).2 ≤ N)
    (H : ∀ c' : Nat → Nat, (∀ j, (j < 16 * d ∨ 16 * d + N * N ≤ j) → c' j = c j) → (∀ j, c' j < 5) → (∀ t, t < N * N → c' (16 * d + t) = (nmS N s N).1 t) → post 1 (zX N c' m f)) :
    ∃ n32, wX_normal_32 post (nI d) n32 0 0 (nI N) (zA c) (zA m) (zA f) := by
  have hsq := zi_sq hN
  refine loop_0 (fun n k (q : Nat → Nat) => wX_normal_32 post (nI d) n (nI (nmS N s k).2) (nI k) (nI N) (zA q) (zA m) (zA f))
    (fun k q => (∀ j, (j < 16 * d ∨ 16 * d + N * N ≤ j) → q j = c j) ∧ (∀ j, q j < 5) ∧ ∀ t, t < N * N → q (16 * d + t) = (nmS N s k).1 t) N c ⟨fun _ _ => rfl, hc, h0⟩ ?_ ?_
  · intro n q hI
    exact br_t (nI_le (Nat.le_refl _) (by omega)) (H q hI.1 hI.2.1 hI.2.2)
  · intro n k q hk hI ih
    have b1 := hb k (by omega)
    have b2 : (nmS N s k).2 + dg (s k) ≤ N := hb (k + 1) hk
    have b3 := hs k hk
    refine br_f (nI_ge hk (by omega)) ⟨vp_in_nI (by omega) (by decide), nm_r (e' := nI (s k)) (by rw [nI_clamp (by omega), zA_at, hf k hk]) ?_⟩
    refine xs_degree b3 ?_
    rw [nI_add]
    refine br_f (nI_nlt b2 (by omega)) ?_
    refine xs_comp hN hd b3 b2 hI.2.1 hI.2.2 ?_
    intro q' p1 p2 p3
    refine nm_e (nm_r (nI_1 k) (ih q' ⟨?_, p2, p3⟩))
    intro j hj
    rw [p1 j hj]; exact hI.1 j hj
theorem ys_comp {post : Int32 → SY → Prop} {J : Int32 → Int32 → (Nat → Int32) → (Nat → Int32) → (Nat → Int32) → (Nat → Int32) → (Nat → Int32) → (Nat → Int32) → (Nat → Int32) → (Nat → Int32) → Prop} {N d co k s : Nat} {g h : Nat → Nat} {mn te dv ot fc kp rw : Nat → Nat} (hN : N ≤ 4) (hd : d < 4) (hk : k < 4) (hs : s < 3125) (hco : co + dg s ≤ N) (hg : ∀ j, g j < 5) (hh : ∀ t, t < N * N → g (16 * d + t) = h t) (hz : ∀ t, N * co ≤ t → h t = 0) (hf : ∀ j, j < 5 → fc (5 * k + j) = s / 5 ^ j % 5)
    (H : ∀ g' : Nat → Nat, (∀ j, (j < 16 * d ∨ 16 * d + N * N ≤ j) → g' j = g j) → (∀ j, g' j < 5) → (∀ t, t < N * N → g' (16 * d + t) = wr N co s h (dg s) t) → J (nI (co + dg s)) (nI (k + 1)) (zA g') (zA mn) (zA te) (zA dv) (zA ot) (zA fc) (zA kp) (zA rw)) :
    ∃ n74, wY_normal_74 post J (nI d) (nI co) (nI k) (nI (dg s)) (nI N) n74 0 (zA g) (zA mn) (zA te) (zA dv) (zA ot) (zA fc) (zA kp) (zA rw) := by
  have hsq := zi_sq hN
  have h4 := dg_4 s
  generalize hm : dg s = mm at *
  refine loop_0 (fun n i (q : Nat → Nat) => wY_normal_74 post J (nI d) (nI co) (nI k) (nI mm) (nI N) n (nI i) (zA q) (zA mn) (zA te) (zA dv) (zA ot) (zA fc) (zA kp) (zA rw))
    (fun i q => (∀ j, (j < 16 * d ∨ 16 * d + N * N ≤ j) → q j = g j) ∧ (∀ j, q j < 5) ∧ ∀ t, t < N * N → q (16 * d + t) = wr N co s h i t) mm g ⟨fun _ _ => rfl, hg, hh⟩ ?_ ?_
  · intro n q hI
    exact br_t (nI_le (Nat.le_refl _) (by omega)) (nm_r (nI_add co mm) (nm_r (nI_1 k) (H q hI.1 hI.2.1 hI.2.2)))
  · intro n i q hi hI ih
    have l1 := zi_lt (N := N) (i := co + i) (j := co + mm - 1) (by omega) (by omega)
    have e0 : (16 : Int32) * nI d + nI N * (nI co + nI i) = nI (16 * d + N * (co + i)) := by
      rw [z16m, nI_add, pk_mul, nI_add]
    have step : ∀ q1 : Nat → Nat, (∀ j, (j < 16 * d ∨ 16 * d + N * N ≤ j) → q1 j = g j) → (∀ j, q1 j < 5) → (∀ t, t < N * N → q1 (16 * d + t) = (if 0 < i then zu (wr N co s h i) (N * (co + i) + (co + i - 1)) 1 else wr N co s h i) t) →
        wY_normal_117 post J (wY_normal_74 post J (nI d) (nI co) (nI k) (nI mm) (nI N) n) (nI d) (nI co) (nI k) (nI mm) (nI i) (nI (16 * d + N * (co + i))) (nI N) (zA q1) (zA mn) (zA te) (zA dv) (zA ot) (zA fc) (zA kp) (zA rw) := by
      intro q1 p1 p2 p3
      have e1 : nI (16 * d + N * (co + i)) + nI co + nI mm - 1 = nI (16 * d + (N * (co + i) + (co + mm - 1))) := by
        rw [nI_add, nI_add, zs1 (by omega)]
        exact congrArg nI (by omega)
      have e2 : (5 : Int32) * nI k + nI i = nI (5 * k + i) := by rw [z5m, nI_add]
      have hold : q1 (16 * d + (N * (co + i) + (co + mm - 1))) = 0 := by
        rw [p3 _ l1]
        have wz := wr_z (h := h) (show co + dg s ≤ N by rw [hm]; exact hco) hz i (by omega) (N * (co + i) + (co + mm - 1)) (by omega)
        split
        · rw [zu_n (by omega)]; exact wz
        · exact wz
      have hfi := hf i (by omega)
      have hm5 : s / 5 ^ i % 5 < 5 := Nat.mod_lt _ (by decide)
      unfold wY_normal_117
      rw [e1, e2, nI_clamp (by omega), nI_clamp (by omega), zA_at, zA_at, hold, hfi, za5, Nat.zero_add, pk_sub (by omega), z5r (by omega)]
      refine ⟨vp_in_nI (by omega) (by decide), vp_in_nI (by omega) (by decide), zf5, vp_in_nI (by omega) (by decide), nm_r (zA_upd _ _ _) (nm_r (nI_1 i) (ih _ ⟨?_, ?_, ?_⟩))⟩
      · intro j hj
        rw [zu_n (by omega)]; exact p1 j hj
      · exact zu_lt p2 (Nat.mod_lt _ (by decide))
      · intro t ht
        show _ = zu (if 0 < i then zu (wr N co s h i) (N * (co + i) + (co + i - 1)) 1 else wr N co s h i) (N * (co + i) + (co + dg s - 1)) ((5 - s / 5 ^ i % 5) % 5) t
        rw [hm]
        by_cases e : t = N * (co + i) + (co + mm - 1)
        · rw [e, zu_s, zu_s]
        · rw [zu_n (by omega), zu_n e]; exact p3 t ht
    refine br_f (nI_ge hi (by omega)) (nm_r e0 (pk_le i 0 ?_ ?_))
    · intro z
      refine step q hI.1 hI.2.1 ?_
      rw [if_neg (by omega)]; exact hI.2.2
    · intro z
      have l2 := zi_lt (N := N) (i := co + i) (j := co + i - 1) (by omega) (by omega)
      have e1 : nI (16 * d + N * (co + i)) + nI co + nI i - 1 = nI (16 * d + (N * (co + i) + (co + i - 1))) := by
        rw [nI_add, nI_add, zs1 (by omega)]
        exact congrArg nI (by omega)
      rw [e1, nI_clamp (by omega)]
      refine ⟨vp_in_nI (by omega) (by decide), nm_r (e' := zA (zu q (16 * d + (N * (co + i) + (co + i - 1))) 1)) (zA_upd _ _ _) (step _ ?_ ?_ ?_)⟩
      · intro j hj
        rw [zu_n (by omega)]; exact hI.1 j hj
      · exact zu_lt hI.2.1 (by decide)
      · rw [if_pos z]
        intro t ht
        by_cases e : t = N * (co + i) + (co + i - 1)
        · rw [e, zu_s, zu_s]
        · rw [zu_n (by omega), zu_n e]; exact hI.2.2 t ht
theorem ys_normal {post : Int32 → SY → Prop} {N d : Nat} {g s : Nat → Nat} {mn te dv ot fc kp rw : Nat → Nat} (hN : N ≤ 4) (hd : d < 4) (hg : ∀ j, g j < 5) (h0 : ∀ t, t < N * N → g (16 * d + t) = 0) (hf : ∀ k j, k < N → j < 5 → fc (5 * k + j) = s k / 5 ^ j % 5) (hs : ∀ k, k < N → s k < 3125 ∧ s k ≠ 0) (hb : ∀ k, k ≤ N → (nmS N s k).2 ≤ N)
    (H : ∀ g' : Nat → Nat, (∀ j, (j < 16 * d ∨ 16 * d + N * N ≤ j) → g' j = g j) → (∀ j, g' j < 5) → (∀ t, t < N * N → g' (16 * d + t) = (nmS N s N).1 t) → post 1 (zY N g' mn te dv ot fc kp rw)) :
    ∃ n54, wY_normal_54 post (nI d) (nI N) n54 0 0 (zA g) (zA mn) (zA te) (zA dv) (zA ot) (zA fc) (zA kp) (zA rw) := by
  have hsq := zi_sq hN
  refine loop_0 (fun n k (q : Nat → Nat) => wY_normal_54 post (nI d) (nI N) n (nI (nmS N s k).2) (nI k) (zA q) (zA mn) (zA te) (zA dv) (zA ot) (zA fc) (zA kp) (zA rw))
    (fun k q => (∀ j, (j < 16 * d ∨ 16 * d + N * N ≤ j) → q j = g j) ∧ (∀ j, q j < 5) ∧ ∀ t, t < N * N → q (16 * d + t) = (nmS N s k).1 t) N g ⟨fun _ _ => rfl, hg, h0⟩ ?_ ?_
  · intro n q hI
    exact br_t (nI_le (Nat.le_refl _) (by omega)) (H q hI.1 hI.2.1 hI.2.2)
  · intro n k q hk hI ih
    have b1 := hb k (by omega)
    have b2 : (nmS N s k).2 + dg (s k) ≤ N := hb (k + 1) hk
    obtain ⟨b3, b4⟩ := hs k hk
    refine br_f (nI_ge hk (by omega)) (ys_degF (by omega) b3 b4 (fun j hj => hf k j hk hj) ?_)
    refine ys_comp hN hd (by omega) b3 b2 hI.2.1 hI.2.2 (nmS_z (n := N) hb k (by omega)) (fun j hj => hf k j hk hj) ?_
    intro q' p1 p2 p3
    refine ih q' ⟨?_, p2, p3⟩
    intro j hj
    rw [p1 j hj]; exact hI.1 j hj
theorem ys_nz {post : Int32 → SY → Prop} {N d : Nat} {g : Nat → Nat} {mn te dv ot fc kp rw : Nat → Nat} (hd : d < 4) (hg : ∀ j, g j < 5)
    (H : ∀ g' : Nat → Nat, (∀ j, (j < 16 * d ∨ 16 * d + 16 ≤ j) → g' j = g j) → (∀ j, g' j < 5) → (∀ t, t < 16 → g' (16 * d + t) = 0) → ∃ n54, wY_normal_54 post (nI d) (nI N) n54 0 0 (zA g') (zA mn) (zA te) (zA dv) (zA ot) (zA fc) (zA kp) (zA rw)) :
    ∃ n25, wY_normal_25 post (nI d) (nI N) n25 0 (zA g) (zA mn) (zA te) (zA dv) (zA ot) (zA fc) (zA kp) (zA rw) := by
  refine loop_0 (fun n i (s : Nat → Nat) => wY_normal_25 post (nI d) (nI N) n (nI i) (zA s) (zA mn) (zA te) (zA dv) (zA ot) (zA fc) (zA kp) (zA rw))
    (fun i s => (∀ j, (j < 16 * d ∨ 16 * d + i ≤ j) → s j = g j) ∧ (∀ j, s j < 5) ∧ ∀ t, t < i → s (16 * d + t) = 0) 16 g ⟨fun _ _ => rfl, hg, fun t h => absurd h (by omega)⟩ ?_ ?_
  · intro n s hI
    exact br_t (nI_le (a := 16) (Nat.le_refl _) (by omega)) (H s hI.1 hI.2.1 hI.2.2)
  · intro n i s hi hI ih
    refine br_f (nI_ge (b := 16) hi (by omega)) ⟨?_, nm_r (e' := zA (zu s (16 * d + i) 0)) ?_ (nm_r (nI_1 i) (ih _ ⟨?_, ?_, ?_⟩))⟩
    · rw [z16m, nI_add]; exact vp_in_nI (by omega) (by decide)
    · rw [z16m, nI_add, nI_clamp (by omega), ← zA_upd]; rfl
    · intro j hj
      rw [zu_n (by omega)]
      exact hI.1 j (by omega)
    · exact zu_lt hI.2.1 (by decide)
    · intro t ht
      by_cases e : t = i
      · subst e
        exact zu_s _ _ _
      · rw [zu_n (by omega)]
        exact hI.2.2 t (by omega)
theorem nmS_c {N : Nat} {s s' : Nat → Nat} : ∀ n, (∀ k, k < n → s k = s' k) → nmS N s n = nmS N s' n := by
  intro n
  induction n with
  | zero => intro _; rfl
  | succ n ih =>
    intro h
    show (wr N (nmS N s n).2 (s n) (nmS N s n).1 (dg (s n)), (nmS N s n).2 + dg (s n)) = (wr N (nmS N s' n).2 (s' n) (nmS N s' n).1 (dg (s' n)), (nmS N s' n).2 + dg (s' n))
    rw [ih (fun k hk => h k (by omega)), h n (by omega)]
theorem i_vc_normal {k : Nat} {u : SX} {v : SY} (I : i_Rel k u v) (hk : k + 5 ≤ 2561) (v1 : Int32) (v2 : Int32) : wpX_normal (fun r u' => wpY_normal (fun r' v' => r' = r ∧ i_Rel (k + 5) u' v') v v1 v2) u v1 v2 := by
  obtain ⟨N, c, m, f, g, mn, te, dv, ot, fc, kp, rw, rfl, rfl, h1, h4, hc, hg, h⟩ := I
  have hsq := zi_sq h4
  unfold wpX_normal wpY_normal; dsimp only
  rcases zout v1 (n := 4) (by decide) with ⟨d, hd, rfl⟩ | o1
  · refine xr_ok hd (br_f zf1 ?_)
    rcases zout v2 (n := 4) (by decide) with ⟨a, ha, rfl⟩ | o2
    · refine xr_ok ha (br_f zf1 (xs_findFactors (st := 0) h1 h4 (by omega) (by omega) hc ?_))
      intro m' f' dd s hF hf _
      rw [zrel h ha] at hF
      have hf0 : ∀ i, i < N → f' i = s i := fun i hi => by have := hf i hi; rwa [Nat.zero_add] at this
      have hb : ∀ k, k ≤ N → (nmS N s k).2 ≤ N := fun k hk => by rw [fac_dg h4 hF k hk]; exact fac_dgN h4 hF k hk
      refine xs_clear h4 (by omega) ?_
      intro c1 q1 q2
      refine xs_normal h4 hd (xcl5 hc q1 q2) q2 hf0 (fun i hi => (fac_s h4 hF i hi).2.1) hb ?_
      intro c' r1 r2 r3
      refine yr_ok hd (br_f zf1 (yr_ok ha (br_f zf1 (ys_findFactors h1 h4 (by omega) hg ?_))))
      intro mn' te' dv' ot' fc' d' s' hF' hf'
      have u := (fac_u h4 hF hF').2
      have hb' : ∀ k, k ≤ N → (nmS N s' k).2 ≤ N := fun k hk => by rw [fac_dg h4 hF' k hk]; exact fac_dgN h4 hF' k hk
      refine ys_nz hd hg ?_
      intro g1 p1 p2 p3
      refine ys_normal h4 hd p2 (fun t ht => p3 t (by omega)) hf' (fun i hi => ⟨(fac_s h4 hF' i hi).2.1, (fac_s h4 hF' i hi).1⟩) hb' ?_
      intro g' s1 s2 s3
      refine ⟨rfl, zR h1 h4 r2 s2 (zSub (d := d) h hsq ?_ ?_ ?_)⟩
      · intro j _ e
        rw [r1 j e, q1 j e]
      · intro j _ e
        rw [s1 j (by omega), p1 j e]
      · intro t ht
        rw [r3 t ht, s3 t ht, nmS_c N u]
    · exact xr_no o2 (br_t rfl (yr_ok hd (br_f zf1 (yr_no o2 (br_t rfl ⟨rfl, zR h1 h4 hc hg h⟩)))))
  · exact xr_no o1 (br_t rfl (yr_no o1 (br_t rfl ⟨rfl, zR h1 h4 hc hg h⟩)))
end
section
/-! Taylor coefficients: where a divisor has a root, its last factor has it -/
def ty (p : Nat → Fin 5) (w : Fin 5) : Nat → Fin 5
  | 0 => p 0 + w * (p 1 + w * (p 2 + w * (p 3 + w * p 4)))
  | 1 => p 1 + w * (2 * p 2 + w * (3 * p 3 + w * (4 * p 4)))
  | 2 => p 2 + w * (3 * p 3 + w * p 4)
  | 3 => p 3 + w * (4 * p 4)
  | 4 => p 4
  | _ + 5 => 0
theorem ty_cong {p q : Nat → Fin 5} (w : Fin 5) (h : ∀ k, k < 5 → p k = q k) : ∀ j, ty p w j = ty q w j := by
  have h0 := h 0 (by decide); have h1 := h 1 (by decide); have h2 := h 2 (by decide); have h3 := h 3 (by decide); have h4 := h 4 (by decide)
  intro j
  match j with
  | 0 => simp only [ty, h0, h1, h2, h3, h4]
  | 1 => simp only [ty, h1, h2, h3, h4]
  | 2 => simp only [ty, h2, h3, h4]
  | 3 => simp only [ty, h3, h4]
  | 4 => simp only [ty, h4]
  | _ + 5 => rfl
theorem ty_nz {p : Nat → Fin 5} (w : Fin 5) (h : ∀ j, j < 5 → ty p w j = 0) : ∀ k, k < 5 → p k = 0 := by
  have h0 := h 0 (by decide); have h1 := h 1 (by decide); have h2 := h 2 (by decide); have h3 := h 3 (by decide); have h4 := h 4 (by decide)
  simp only [ty] at h0 h1 h2 h3 h4
  have e3 : p 3 = 0 := by rw [h4] at h3; grind
  have e2 : p 2 = 0 := by rw [h4, e3] at h2; grind
  have e1 : p 1 = 0 := by rw [h4, e3, e2] at h1; grind
  have e0 : p 0 = 0 := by rw [h4, e3, e2, e1] at h0; grind
  exact k5 e0 e1 e2 e3 h4
theorem ty_cv (f h : Nat → Fin 5) (w : Fin 5) : ∀ a, a < 5 → (∀ i, a < i → i < 5 → f i = 0) → (∀ j, 4 - a < j → j < 5 → h j = 0) →
    ty (cv f h) w 0 = ty f w 0 * ty h w 0 ∧ ty (cv f h) w 1 = ty f w 0 * ty h w 1 + ty f w 1 * ty h w 0 ∧
    ty (cv f h) w 2 = ty f w 0 * ty h w 2 + ty f w 1 * ty h w 1 + ty f w 2 * ty h w 0 ∧
    ty (cv f h) w 3 = ty f w 0 * ty h w 3 + ty f w 1 * ty h w 2 + ty f w 2 * ty h w 1 + ty f w 3 * ty h w 0 ∧
    ty (cv f h) w 4 = ty f w 0 * ty h w 4 + ty f w 1 * ty h w 3 + ty f w 2 * ty h w 2 + ty f w 3 * ty h w 1 + ty f w 4 * ty h w 0 := by
  refine k5 ?_ ?_ ?_ ?_ ?_
  all_goals (intro hf hh; refine ⟨?_, ?_, ?_, ?_, ?_⟩)
  all_goals (simp [ty, cv, hf, hh] <;> grind)
theorem ty_mul {g p u : Nat} (hg : g < 3125) (h : mlt g p u) (w : Fin 5) : ∀ m, m < 5 → (∀ i, i < m → ty (pd g) w i = 0) → ty (pd p) w m = ty (pd g) w m * ty (pd u) w 0 := by
  have h4 := dg_4 g
  obtain ⟨t0, t1, t2, t3, t4⟩ := ty_cv (pd g) (pd u) w (dg g) (by omega) (fun i hi _ => pd_gt hg hi) (fun j hj _ => pd_hi h.1 (by omega))
  have hc := ty_cong w (fun k hk => h.2 k hk)
  refine k5 ?_ ?_ ?_ ?_ ?_
  · intro _; rw [hc, t0]
  · intro z
    have z0 := z 0 (by decide)
    rw [hc, t1, z0]; grind
  · intro z
    have z0 := z 0 (by decide); have z1 := z 1 (by decide)
    rw [hc, t2, z0, z1]; grind
  · intro z
    have z0 := z 0 (by decide); have z1 := z 1 (by decide); have z2 := z 2 (by decide)
    rw [hc, t3, z0, z1, z2]; grind
  · intro z
    have z0 := z 0 (by decide); have z1 := z 1 (by decide); have z2 := z 2 (by decide); have z3 := z 3 (by decide)
    rw [hc, t4, z0, z1, z2, z3]; grind
theorem ty_der {p : Nat} (hp : p < 3125) (w : Fin 5) : ∀ j, j < 4 → ty (pd (der p)) w j = kk (j + 1) * ty (pd p) w (j + 1) := by
  have d0 := der_pd p 0 (by decide); have d1 := der_pd p 1 (by decide); have d2 := der_pd p 2 (by decide); have d3 := der_pd p 3 (by decide); have d4 := der_pd p 4 (by decide)
  have z5 : pd p (4 + 1) = 0 := pd_hi (j := 5) hp (by decide)
  rw [z5] at d4
  have c1 : kk (0 + 1) = 1 := rfl
  have c2 : kk (1 + 1) = 2 := rfl
  have c3 : kk (2 + 1) = 3 := rfl
  have c4 : kk (3 + 1) = 4 := rfl
  rw [c1] at d0; rw [c2] at d1; rw [c3] at d2; rw [c4] at d3
  refine k4 ?_ ?_ ?_ ?_
  · simp only [ty, c1, d0, d1, d2, d3, d4]; grind
  · simp only [ty, c2, d1, d2, d3, d4]; grind
  · simp only [ty, c3, d2, d3, d4]; grind
  · simp only [ty, c4, d3, d4]; grind
theorem ev_mul {g p u : Nat} (hg : g < 3125) (h : mlt g p u) (w : Fin 5) : ev (pd p) w = ev (pd g) w * ev (pd u) w :=
  ty_mul hg h w 0 (by decide) (fun i hi => absurd hi (by omega))
theorem fac_root {A : Nat → Nat → Nat} {N : Nat} {d s : Nat → Nat} (hN : N ≤ 4) (h : fac A N d s) (w : Fin 5) : ∀ k, k < N → (ev (pd (s k)) w = 0 ↔ ev (pd (d (k + 1))) w = 0) := by
  intro k hk
  have g1 := h.1 k (by omega)
  have g2 := h.1 (k + 1) (by omega)
  have hm := h.2 k hk
  have e1 := ev_mul g1.1 hm w
  refine ⟨fun z => by rw [e1, z]; grind, fun z => ?_⟩
  refine Classical.byContradiction (fun hs => ?_)
  obtain ⟨n1, n2⟩ := gD_ne hN (by omega) g1
  have hI := mul_I g1.1 n1
  have hQ := mulQ g1.1 n1
  have p1 := (g1.2.2 _ hI).mp ⟨1, mlt_1 _⟩
  have p2 := mn_step hI A hN p1
  have p3 := dr_P hI A hN p1
  obtain ⟨_, u, hu⟩ := (g2.2.2 _ hQ).mpr (fun R C hR hC e1 e2 => ⟨p2 R C hR hC e1 e2, p3 R C hR hC e1 e2⟩)
  have gz : ev (pd (d k)) w = 0 := by
    refine Classical.byContradiction (fun hg => ?_)
    exact f5_nz _ _ hg hs (by rw [← e1]; exact z)
  have ex : ∃ j, ty (pd (d k)) w j ≠ 0 := by
    refine Classical.byContradiction (fun hn => ?_)
    have hz : ∀ j, ty (pd (d k)) w j = 0 := fun j => Classical.byContradiction (fun q => hn ⟨j, q⟩)
    exact n1 (pd_inj g1.1 (by decide) (fun j hj => by rw [ty_nz w (fun j _ => hz j) j hj, pd_0]))
  obtain ⟨m, hm1, hm2⟩ := pk_least _ ex
  have hm3 : ∀ i, i < m → ty (pd (d k)) w i = 0 := fun i hi => Classical.byContradiction (fun q => hm2 i hi q)
  have m0 : m ≠ 0 := by
    intro q
    subst q
    exact hm1 gz
  have m5 : m < 5 := by
    refine Nat.lt_of_not_le (fun q => hm1 ?_)
    obtain ⟨m', rfl⟩ : ∃ m', m = m' + 5 := ⟨m - 5, by omega⟩
    rfl
  obtain ⟨m', rfl⟩ : ∃ m', m = m' + 1 := ⟨m - 1, by omega⟩
  have t1 := ty_mul g1.1 hm w (m' + 1) m5 hm3
  have t2 := ty_der g2.1 w m' (by omega)
  have t3 := ty_mul g1.1 hu w m' (by omega) (fun i hi => hm3 i (by omega))
  rw [hm3 m' (by omega)] at t3
  rw [t3, t1] at t2
  have n3 : kk (m' + 1) ≠ 0 := by
    match m', (show m' < 4 by omega) with
    | 0, _ => decide
    | 1, _ => decide
    | 2, _ => decide
    | 3, _ => decide
  have t4 : ty (pd (s k)) w 0 ≠ 0 := hs
  exact f5_nz _ _ n3 (f5_nz _ _ hm1 t4) (by rw [← t2]; grind)
theorem I_ev (w : Fin 5) : Idl (fun p => ev (pd p) w = 0) := by
  refine ⟨?_, ?_, ?_⟩
  · show ev (pd 0) w = 0
    rw [ev_cong w (q := fun _ => 0) (fun k _ => pd_0 k)]
    unfold ev; grind
  · intro p q s _ _ _ h1 h2
    show ev (pd (pm p s q)) w = 0
    rw [ev_cong w (q := fun k => pd p k + kk s * pd q k) (fun k hk => pd_pm _ _ _ _ hk), ev_lin, h1, h2]; grind
  · intro p hp h
    show ev (pd (5 * p)) w = 0
    rw [ev_cong w (q := px (pd p)) (fun k _ => pd_5 p k), ev_px _ w (pd_hi (j := 4) (by simpa using hp) (by decide)), h]; grind
/-- how many factors have the root w -/
def cw (s : Nat → Nat) (w : Fin 5) (n : Nat) : Nat := zs (fun k => if ev (pd (s k)) w = 0 then 1 else 0) n
theorem cw_le (s : Nat → Nat) (w : Fin 5) (n : Nat) : cw s w n ≤ n := zs_le1 (fun t => by split <;> decide) n
/-- the largest k with a k-minor that is not 0 at w -/
theorem fac_rank {A : Nat → Nat → Nat} {N : Nat} {d s : Nat → Nat} (hN : N ≤ 4) (h : fac A N d s) (w : Fin 5) (r : Nat) (hr : r ≤ N)
    (h1 : r = 0 ∨ ∃ R C, R < 2 ^ N ∧ C < 2 ^ N ∧ pc R = r ∧ pc C = r ∧ ev (dtp A r R C) w ≠ 0)
    (h2 : ∀ R C, R < 2 ^ N → C < 2 ^ N → pc R = pc C → ev (dtp A (pc R) R C) w ≠ 0 → pc R ≤ r) : cw s w N = N - r := by
  have hev : ∀ R C, ev (pd (mnum A R C)) w = ev (dtp A (pc R) R C) w := fun R C => ev_cong w (fun k hk => mnum_pd A R C k hk)
  have nz : ∀ k, k ≤ N → r < k → ev (pd (d k)) w = 0 := by
    intro k hk hrk
    refine ((h.1 k hk).2.2 _ (I_ev w)).mpr (fun R C hR hC e1 e2 => ?_)
    show ev (pd (mnum A R C)) w = 0
    refine Classical.byContradiction (fun q => ?_)
    rw [hev] at q
    have := h2 R C hR hC (by omega) q
    omega
  have hrn : ev (pd (d r)) w ≠ 0 := by
    rcases h1 with z | ⟨R, C, hR, hC, e1, e2, q⟩
    · subst z
      have : d 0 = 1 := gD_uniq (h.1 0 (Nat.zero_le _)) (gD_0 A hN)
      rw [this, ev_cong w (q := fun k => if k = 0 then 1 else 0) (fun k _ => pd_1 k)]
      unfold ev
      show (1 : Fin 5) + w * (0 + w * (0 + w * (0 + w * 0))) ≠ 0
      have : (1 : Fin 5) + w * (0 + w * (0 + w * (0 + w * 0))) = 1 := by grind
      rw [this]; decide
    · intro z
      have := ((h.1 r hr).2.2 _ (I_ev w)).mp z R C hR hC e1 e2
      have e3 : ev (pd (mnum A R C)) w = 0 := this
      rw [hev, e1] at e3
      exact q e3
  have down : ∀ t, t ≤ r → ev (pd (d (r - t))) w ≠ 0 := by
    intro t
    induction t with
    | zero => intro _; exact hrn
    | succ t ih =>
      intro ht z
      refine ih (by omega) ?_
      have hm := h.2 (r - (t + 1)) (by omega)
      rw [show r - (t + 1) + 1 = r - t by omega] at hm
      rw [ev_mul (h.1 _ (by omega)).1 hm w, z]; grind
  have nn : ∀ k, k ≤ r → ev (pd (d k)) w ≠ 0 := by
    intro k hk
    have := down (r - k) (by omega)
    rwa [show r - (r - k) = k by omega] at this
  have main : ∀ n, n ≤ N → cw s w n = n - r := by
    intro n
    induction n with
    | zero => intro _; show 0 = 0 - r; omega
    | succ n ih =>
      intro hn
      show cw s w n + (if ev (pd (s n)) w = 0 then 1 else 0) = n + 1 - r
      rw [ih (by omega)]
      have hro := fac_root hN h w n (by omega)
      by_cases e : n < r
      · rw [if_neg (fun z => nn (n + 1) (by omega) (hro.mp z))]; omega
      · rw [if_pos (hro.mpr (nz (n + 1) (by omega) (by omega)))]; omega
  exact main N (Nat.le_refl _)
theorem lapM_c {h h' : Nat → Fin 5} {C : Nat} : ∀ n, (∀ i, i < n → C / 2 ^ i % 2 = 1 → h i = h' i) → lapM h C n = lapM h' C n := by
  intro n
  induction n with
  | zero => intro _; rfl
  | succ n ih =>
    intro e
    show (if C / 2 ^ n % 2 = 1 then ((lapM h C n).1 + (lapM h C n).2 * h n, - (lapM h C n).2) else lapM h C n) = (if C / 2 ^ n % 2 = 1 then ((lapM h' C n).1 + (lapM h' C n).2 * h' n, - (lapM h' C n).2) else lapM h' C n)
    rw [ih (fun i hi => e i (by omega))]
    by_cases z : C / 2 ^ n % 2 = 1
    · rw [if_pos z, if_pos z, e n (by omega) z]
    · rw [if_neg z, if_neg z]
theorem dtm_c {N : Nat} (hN : N ≤ 4) {M M' : Nat → Nat → Fin 5} (h : ∀ i j, i < N → j < N → M i j = M' i j) : ∀ f R C, R < 2 ^ N → C < 2 ^ N → pc R = f → pc C = f → dtm M f R C = dtm M' f R C := by
  intro f
  induction f with
  | zero => intro R C _ _ _ _; rfl
  | succ f ih =>
    intro R C hR hC e1 e2
    obtain ⟨w1, w2⟩ := pw2 N (by omega)
    have hR0 : 0 < R := by
      refine Nat.pos_of_ne_zero (fun z => ?_)
      subst z
      have : pc 0 = 0 := rfl
      omega
    obtain ⟨f1, f2, f3, f4, f5, f6⟩ := set_facts R (by omega) hR0
    have hlo := set_lo N (by omega) R hR hR0
    show (lapM _ C 4).1 = (lapM _ C 4).1
    rw [lapM_c 4 (fun i hi hb => ?_)]
    have hiN := bit_lt N (by omega) C hC i hi hb
    obtain ⟨g1, _⟩ := (set_bit C (by omega) i hi).1 hb
    rw [h _ _ hlo hiN, ih (rs R) (C - 2 ^ i) (set_rs2 N (by omega) R hR) (set_bit2 N (by omega) C hC i hi hb) (by omega) (by omega)]
/-- the reference's minors of A - w -/
theorem shift_dt {N : Nat} (hN : N ≤ 4) {A B : Nat → Nat → Nat} {w : Nat} (hB : ∀ i j, i < N → j < N → kk (B i j) = kk (A i j) - (if i = j then kk w else 0)) {R C : Nat} (hR : R < 2 ^ N) (hC : C < 2 ^ N) (e : pc R = pc C) :
    (dtm (fun i j => kk (B i j)) (pc R) R C = 0 ↔ ev (dtp A (pc R) R C) (kk w) = 0) := by
  obtain ⟨w1, w2⟩ := pw2 N (by omega)
  have h4 := pc4 R (by omega)
  rw [dtp_ev A (kk w) (pc R) R C h4]
  have : dtm (fun i j => kk (B i j)) (pc R) R C = dtm (fun i j => 4 * Mw A (kk w) i j) (pc R) R C := by
    refine dtm_c hN (fun i j hi hj => ?_) (pc R) R C hR hC rfl e.symm
    rw [hB i j hi hj]
    show _ = 4 * ((if i = j then kk w else 0) - kk (A i j))
    split <;> grind
  rw [this, dtm_s]
  exact spw_z h4 _
end
section
/-! eigen, diagonal -/
def evS (p : Nat) (w : Fin 5) : Nat → Fin 5
  | 0 => 0
  | i + 1 => evS p w i * w + pd p (4 - i)
theorem evS_5 (p : Nat) (w : Fin 5) : evS p w 5 = ev (pd p) w := by
  simp only [evS, ev]; grind
theorem xs_van {post : Int32 → Prop} {p w : Nat} (hp : p < 3125) (hw : w < 5) (H : post (nI (ev (pd p) (kk w)).val)) : wpX_valueAtNumber post (nI p) (nI w) := by
  show ∃ n9, wX_valueAtNumber_9 post (nI p) (nI w) n9 0 3125 0
  refine loop_0 (fun n i (q : Nat) => wX_valueAtNumber_9 post (nI p) (nI w) n (nI q) (nI (5 ^ (5 - i))) (nI i)) (fun i q => q < 5 ∧ kk q = evS p (kk w) i) 5 0 ⟨by decide, rfl⟩ ?_ ?_
  · intro n q hI
    refine br_t (nI_le (a := 5) (Nat.le_refl _) (by omega)) ?_
    have : q = (ev (pd p) (kk w)).val := by
      rw [← evS_5, ← hI.2, kk_v, Nat.mod_eq_of_lt hI.1]
    rw [this]; exact H
  · intro n i q hi hI ih
    obtain ⟨e1, e2, e3, e4, e5⟩ := z5p i hi
    have hdiv : p / 5 ^ (4 - i) ≤ p := Nat.div_le_self _ _
    have hq : q * w ≤ 4 * 4 := Nat.mul_le_mul (by have := hI.1; omega) (by omega)
    refine br_f (nI_ge (b := 5) hi (by omega)) ⟨zf5, nm_r (e' := nI (5 ^ (4 - i))) (by rw [z5d e5, e1]) ⟨nI_ne0 e4 e3, zf5, nm_r (e' := nI ((q * w + p / 5 ^ (4 - i)) % 5)) (by rw [pk_div (by omega) e4 e3, pk_mul, nI_add, z5r (by omega)]) (nm_r (nI_1 i) ?_)⟩⟩
    rw [← e2]
    refine ih _ ⟨Nat.mod_lt _ (by decide), ?_⟩
    rw [kk_mod, kk_add, kk_mul, hI.2, e2]; rfl
theorem xs_fwr {post : Int32 → Prop} {N w : Nat} {c m f s : Nat → Nat} (hN : N ≤ 4) (hw : w < 5) (hf : ∀ i, i < N → f i = s i) (hs : ∀ i, i < N → s i < 3125) (H : post (nI (cw s (kk w) N))) : wpX_factorsWithRoot post (zX N c m f) (nI w) := by
  show ∃ n4, wX_factorsWithRoot_4 post (nI w) (nI N) (zA c) (zA m) (zA f) n4 0 0
  refine loop_0 (fun n i (q : Nat) => wX_factorsWithRoot_4 post (nI w) (nI N) (zA c) (zA m) (zA f) n (nI q) (nI i)) (fun i q => q = cw s (kk w) i) N 0 rfl ?_ ?_
  · intro n q hq
    refine br_t (nI_le (Nat.le_refl _) (by omega)) ?_
    rw [hq]; exact H
  · intro n i q hi hq ih
    have hev := (ev (pd (s i)) (kk w)).isLt
    refine br_f (nI_ge hi (by omega)) ⟨vp_in_nI (by omega) (by decide), ?_⟩
    rw [nI_clamp (by omega), zA_at, hf i hi]
    refine xs_van (hs i hi) hw (pk_eq (ev (pd (s i)) (kk w)).val 0 ?_ ?_)
    · intro e
      have e' : ev (pd (s i)) (kk w) = 0 := Fin.ext e
      refine nm_r (nI_1 q) (nm_r (nI_1 i) (ih (q + 1) ?_))
      show _ = cw s (kk w) i + (if ev (pd (s i)) (kk w) = 0 then 1 else 0)
      rw [if_pos e', hq]
    · intro e
      have e' : ev (pd (s i)) (kk w) ≠ 0 := fun z => e (by rw [z]; rfl)
      refine nm_r (nI_1 i) (ih q ?_)
      show _ = cw s (kk w) i + (if ev (pd (s i)) (kk w) = 0 then 1 else 0)
      rw [if_neg e', hq, Nat.add_zero]
theorem ys_rank {post : Int32 → SY → Prop} {N r : Nat} {g : Nat → Nat} {mn te dv ot fc kp rw : Nat → Nat} (hN : N ≤ 4) (hr : r < 5) (hg : ∀ j, g j < 5)
    (H : ∀ (mn' te' : Nat → Nat) (q : Nat), q ≤ N → (q = 0 ∨ ∃ R C, R < 2 ^ N ∧ C < 2 ^ N ∧ pc R = q ∧ pc C = q ∧ dtm (fun i j => kk (zSl g N r i j)) q R C ≠ 0) →
      (∀ R C, R < 2 ^ N → C < 2 ^ N → pc R = pc C → dtm (fun i j => kk (zSl g N r i j)) (pc R) R C ≠ 0 → pc R ≤ q) → post (nI q) (zY N g mn' te' dv ot fc kp rw)) :
    wpY_rankOf post (zY N g mn te dv ot fc kp rw) (nI r) := by
  obtain ⟨w1, w2⟩ := pw2 N (by omega)
  show ∃ n4, wY_rankOf_4 post (nI r) n4 0 0 (nI N) (zA g) (zA mn) (zA te) (zA dv) (zA ot) (zA fc) (zA kp) (zA rw)
  refine loop_0 (fun n j (s : Nat × (Nat → Nat) × (Nat → Nat)) => wY_rankOf_4 post (nI r) n (nI s.1) (nI j) (nI N) (zA g) (zA s.2.1) (zA s.2.2) (zA dv) (zA ot) (zA fc) (zA kp) (zA rw))
    (fun j s => s.1 ≤ N ∧ (s.1 = 0 ∨ ∃ R C, R < 2 ^ N ∧ C < 2 ^ N ∧ pc R = s.1 ∧ pc C = s.1 ∧ dtm (fun i j => kk (zSl g N r i j)) s.1 R C ≠ 0) ∧ ∀ R C, 16 * R + C < j → R < 2 ^ N → C < 2 ^ N → pc R = pc C → dtm (fun i j => kk (zSl g N r i j)) (pc R) R C ≠ 0 → pc R ≤ s.1) 256 (0, mn, te) ⟨Nat.zero_le _, Or.inl rfl, fun R C h => absurd h (by omega)⟩ ?_ ?_
  · intro n s hI
    exact br_t (nI_le (a := 256) (Nat.le_refl _) (by omega)) (H s.2.1 s.2.2 s.1 hI.1 hI.2.1 (fun R C hR hC => hI.2.2 R C (by omega) hR hC))
  · intro n j s hj hI ih
    have hR16 : j / 16 < 16 := by omega
    have hC16 : j % 16 < 16 := by omega
    have hpR := pc4 (j / 16) hR16
    have hpC := pc4 (j % 16) hC16
    have hq := hI.1
    have skip : (∀ R C, 16 * R + C = j → R < 2 ^ N → C < 2 ^ N → pc R = pc C → dtm (fun i j => kk (zSl g N r i j)) (pc R) R C ≠ 0 → pc R ≤ s.1) → ∀ x : Int32, x = nI j + 1 → wY_rankOf_4 post (nI r) n (nI s.1) x (nI N) (zA g) (zA s.2.1) (zA s.2.2) (zA dv) (zA ot) (zA fc) (zA kp) (zA rw) := by
      intro hh
      refine nm_r (nI_1 j) (ih s ⟨hI.1, hI.2.1, fun R C h1 h2 h3 h4 h5 => ?_⟩)
      by_cases e : 16 * R + C = j
      · exact hh R C e h2 h3 h4 h5
      · exact hI.2.2 R C (by omega) h2 h3 h4 h5
    have rc : ∀ R C, 16 * R + C = j → C < 2 ^ N → R = j / 16 ∧ C = j % 16 := fun R C e hC => by omega
    refine br_f (nI_ge (b := 256) hj (by omega)) ⟨zf16, nm_r (z16d (by omega)) ⟨zf16, nm_r (z16r (by omega)) ?_⟩⟩
    refine ys_size hR16 (pk_le (pc (j / 16)) s.1 ?_ ?_)
    · intro e
      refine skip (fun R C h1 h2 h3 h4 h5 => ?_)
      rw [(rc R C h1 h3).1]; exact e
    · intro e
      refine ys_size hC16 (pk_eq (pc (j % 16)) (pc (j / 16)) ?_ ?_)
      · intro e2
        rw [zshl (by omega)]
        refine pk_le (2 ^ N) (j / 16) (fun z => skip (fun R C h1 h2 h3 h4 h5 => by have := (rc R C h1 h3).1; omega)) ?_
        intro e3
        refine pk_le (2 ^ N) (j % 16) (fun z => skip (fun R C h1 h2 h3 h4 h5 => by have := (rc R C h1 h3).2; omega)) ?_
        intro e4
        refine ys_findMinor (x := false) hN hr hg e3 e4 ?_
        intro mn' te' m1 m2
        have hm0 := m1 0 (by decide)
        have hm := m2 0 (by decide)
        rw [mn_df _ hR16 hC16 e2.symm] at hm
        refine pk_eq (mn' 0) 0 ?_ ?_
        · intro z
          refine nm_r (nI_1 j) (ih (s.1, mn', te') ⟨hI.1, hI.2.1, fun R C h1 h2 h3 h4 h5 => ?_⟩)
          by_cases e' : 16 * R + C = j
          · exfalso
            obtain ⟨r1, r2⟩ := rc R C e' h3
            rw [z, ← r1, ← r2] at hm
            exact h5 hm.symm
          · exact hI.2.2 R C (by omega) h2 h3 h4 h5
        · intro z
          have hne : dtm (fun i j => kk (zSl g N r i j)) (pc (j / 16)) (j / 16) (j % 16) ≠ 0 := by
            intro q
            rw [q] at hm
            exact z (kk_inj hm0 (by decide) hm)
          refine nm_r (nI_1 j) (ih (pc (j / 16), mn', te') ⟨pc_le N (by omega) _ e3, Or.inr ⟨j / 16, j % 16, e3, e4, rfl, e2, hne⟩, fun R C h1 h2 h3 h4 h5 => ?_⟩)
          show pc R ≤ pc (j / 16)
          by_cases e' : 16 * R + C = j
          · rw [(rc R C e' h3).1]; exact Nat.le_refl _
          · have := hI.2.2 R C (by omega) h2 h3 h4 h5
            omega
      · intro e2
        refine skip (fun R C h1 h2 h3 h4 h5 => ?_)
        exfalso
        obtain ⟨r1, r2⟩ := rc R C h1 h3
        rw [r1, r2] at h4
        exact e2 h4.symm
theorem ys_e28 {post : Int32 → SY → Prop} {N w : Nat} {g : Nat → Nat} {mn te dv ot fc kp rw : Nat → Nat} (hN : N ≤ 4) (hw : w < 5) (hg : ∀ j, g j < 5)
    (H : ∀ g' : Nat → Nat, (∀ j, j < 64 → g' j = g j) → (∀ j, g' j < 5) →
      (∀ i j, i < N → j < N → g' (64 + (N * i + j)) = if i = j then (g (64 + (N * i + j)) + 5 - w) % 5 else g (64 + (N * i + j))) → wpY_rankOf (fun r_34 u => match u with | (f_n_35, a_regs_36, a_minor_37, a_term_38, a_divisor_39, a_other_40, a_factors_41, a_kept_42, a_rows_43) => (post (nI N - r_34) (f_n_35, a_regs_36, a_minor_37, a_term_38, a_divisor_39, a_other_40, a_factors_41, a_kept_42, a_rows_43))) (zY N g' mn te dv ot fc kp rw) 4) :
    ∃ n, wY_eigen_28 post (nI w) (nI N) n 0 (zA g) (zA mn) (zA te) (zA dv) (zA ot) (zA fc) (zA kp) (zA rw) := by
  have hsq := zi_sq hN
  refine loop_0 (fun n i (s' : Nat → Nat) => wY_eigen_28 post (nI w) (nI N) n (nI i) (zA s') (zA mn) (zA te) (zA dv) (zA ot) (zA fc) (zA kp) (zA rw))
    (fun k s => (∀ j, j < 64 → s j = g j) ∧ (∀ j, s j < 5) ∧ ∀ i j, i < N → j < N → s (64 + (N * i + j)) = if i = j ∧ i < k then (g (64 + (N * i + j)) + 5 - w) % 5 else g (64 + (N * i + j))) N g ⟨fun _ _ => rfl, hg, fun i j _ _ => (if_neg (by omega)).symm⟩ ?_ ?_
  · intro n s' hI
    refine br_t (nI_le (Nat.le_refl _) (by omega)) (H s' hI.1 hI.2.1 ?_)
    intro i j hi hj
    rw [hI.2.2 i j hi hj]
    by_cases e : i = j
    · rw [if_pos ⟨e, hi⟩, if_pos e]
    · rw [if_neg (by omega), if_neg e]
  · intro n i s' hi hI ih
    have hlt := zi_lt hi hi
    have hs := hI.2.1 (64 + (N * i + i))
    have e0 : (64 : Int32) + nI i * (nI N + 1) = nI (64 + (N * i + i)) := by
      rw [nI_1, pk_mul, z64a, show i * (N + 1) = N * i + i by rw [Nat.mul_succ, Nat.mul_comm i N]]
    refine br_f (nI_ge hi (by omega)) ⟨?_, zf5, ?_, nm_r (e' := zA (zu s' (64 + (N * i + i)) ((s' (64 + (N * i + i)) + 5 - w) % 5))) ?_ (nm_r (nI_1 i) (ih _ ⟨?_, ?_, ?_⟩))⟩
    · rw [e0]; exact vp_in_nI (by omega) (by decide)
    · rw [e0]; exact vp_in_nI (by omega) (by decide)
    · rw [e0, nI_clamp (by omega), zA_at, za5, pk_sub (by omega), z5r (by omega), zA_upd]
    · intro j hj
      rw [zu_n (by omega)]
      exact hI.1 j hj
    · exact zu_lt hI.2.1 (by omega)
    · intro i' j' hi' hj'
      by_cases e : 64 + (N * i' + j') = 64 + (N * i + i)
      · obtain ⟨rfl, rfl⟩ := zi_inj hj' hi (Nat.add_left_cancel e)
        rw [zu_s, if_pos ⟨rfl, by omega⟩, hI.2.2 _ _ hi hi, if_neg (by omega)]
      · rw [zu_n e, hI.2.2 i' j' hi' hj']
        by_cases e2 : i' = j' ∧ i' < i
        · rw [if_pos e2, if_pos ⟨e2.1, by omega⟩]
        · have e3 : ¬ (i' = j' ∧ i' < i + 1) := by
            intro z
            obtain ⟨z1, z2⟩ := z
            subst z1
            have : i' = i := by
              by_cases z3 : i' = i
              · exact z3
              · exact absurd ⟨rfl, by omega⟩ e2
            subst this
            exact e rfl
          rw [if_neg e2, if_neg e3]
theorem ys_eigen {post : Int32 → SY → Prop} {N r w : Nat} {g d s : Nat → Nat} {mn te dv ot fc kp rw : Nat → Nat} (hN : N ≤ 4) (hr : r < 4) (hw : w < 5) (hg : ∀ j, g j < 5) (hF : fac (zSl g N r) N d s)
    (H : ∀ (g' mn' te' : Nat → Nat), (∀ j, j < 64 → g' j = g j) → (∀ j, g' j < 5) → post (nI (cw s (kk w) N)) (zY N g' mn' te' dv ot fc kp rw)) :
    wpY_eigen post (zY N g mn te dv ot fc kp rw) (nI r) (nI w) := by
  have hsq := zi_sq hN
  unfold wpY_eigen; dsimp only
  refine yr_ok hr (br_f zf1 ?_)
  refine ys_in (n := w) (a := 0) (b := 4) (Nat.zero_le _) (by omega) (by decide) (br_f zf1 ?_)
  refine ys_copy (d := 4) (by omega) (by omega) (by omega) ?_
  intro g1 p1 p2
  refine ys_e28 hN hw (ycp5 hg p1 p2) ?_
  intro g2 p3 p4 p5
  refine ys_rank (r := 4) hN (by omega) p4 ?_
  intro mn' te' q q1 q2 q3
  have hB : ∀ i j, i < N → j < N → kk (zSl g2 N 4 i j) = kk (zSl g N r i j) - (if i = j then kk w else 0) := by
    intro i j hi hj
    have hij := zi_lt hi hj
    have e1 : g1 (64 + (N * i + j)) = zSl g N r i j := by
      rw [show 64 + (N * i + j) = 16 * 4 + (N * i + j) from rfl, p2 _ (by omega), zSl_at hi hj]
    have b1 := zSl_lt hg N r i j
    rw [zSl_at hi hj]
    show kk (g2 (64 + (N * i + j))) = _
    rw [p5 i j hi hj, e1]
    split
    · rw [kk_mod, Nat.add_sub_assoc (by omega), kk_add, kk_5s (by omega)]; grind
    · grind
  have hc := fac_rank hN hF (kk w) q q1 ?_ ?_
  · rw [hc] at H
    dsimp only
    rw [pk_sub q1]
    refine H g2 mn' te' (fun j hj => ?_) p4
    rw [p3 j hj, p1 j (by omega)]
  · rcases q2 with z | ⟨R, C, hR, hC, e1, e2, z⟩
    · exact Or.inl z
    · refine Or.inr ⟨R, C, hR, hC, e1, e2, fun z' => z ?_⟩
      have := shift_dt hN hB hR hC (by omega)
      rw [e1] at this
      exact this.mpr z'
  · intro R C hR hC e1 z
    exact q3 R C hR hC e1 (fun z' => z ((shift_dt hN hB hR hC e1).mp z'))
theorem i_vc_eigen {k : Nat} {u : SX} {v : SY} (I : i_Rel k u v) (hk : k + 5 ≤ 2561) (v1 : Int32) (v2 : Int32) : wpX_eigen (fun r u' => wpY_eigen (fun r' v' => r' = r ∧ i_Rel (k + 5) u' v') v v1 v2) u v1 v2 := by
  obtain ⟨N, c, m, f, g, mn, te, dv, ot, fc, kp, rw, rfl, rfl, h1, h4, hc, hg, h⟩ := I
  have hsq := zi_sq h4
  have J : ∀ m' f' : Nat → Nat, i_Rel (k + 5) (zX N c m' f') (zY N g mn te dv ot fc kp rw) := fun m' f' => zR h1 h4 hc hg h
  unfold wpX_eigen; dsimp only
  rcases zout v1 (n := 4) (by decide) with ⟨r, hr, rfl⟩ | o1
  · refine xr_ok hr (br_f zf1 ?_)
    rcases zout v2 (n := 5) (by decide) with ⟨w, hw, rfl⟩ | o2
    · refine xr_num hw (br_f zf1 (xs_findFactors (st := 0) h1 h4 (by omega) (by omega) hc ?_))
      intro m' f' d s hF hf _
      rw [zrel h hr] at hF
      have hf0 : ∀ i, i < N → f' i = s i := fun i hi => by have := hf i hi; rwa [Nat.zero_add] at this
      refine xs_fwr h4 hw hf0 (fun i hi => (fac_s h4 hF i hi).2.1) ?_
      refine ys_eigen h4 hr hw hg hF ?_
      intro g' mn' te' r1 r2
      refine ⟨rfl, zR h1 h4 hc r2 ?_⟩
      intro r' t hr' ht
      rw [r1 _ (by omega)]; exact h r' t hr' ht
    · refine xr_nnum o2 (br_t rfl ?_)
      unfold wpY_eigen; dsimp only
      exact yr_ok hr (br_f zf1 (ys_inO (n := 4) (by decide) o2 (br_t rfl ⟨rfl, J m f⟩)))
  · refine xr_no o1 (br_t rfl ?_)
    unfold wpY_eigen; dsimp only
    exact yr_no o1 (br_t rfl ⟨rfl, J m f⟩)
theorem i_vc_diagonal {k : Nat} {u : SX} {v : SY} (I : i_Rel k u v) (hk : k + 5 ≤ 2561) (v1 : Int32) : wpX_diagonal (fun r u' => wpY_diagonal (fun r' v' => r' = r ∧ i_Rel (k + 5) u' v') v v1) u v1 := by
  obtain ⟨N, c, m, f, g, mn, te, dv, ot, fc, kp, rw, rfl, rfl, h1, h4, hc, hg, h⟩ := I
  have hsq := zi_sq h4
  unfold wpX_diagonal; dsimp only
  rcases zout v1 (n := 4) (by decide) with ⟨r, hr, rfl⟩ | o1
  · refine xr_ok hr (br_f zf1 (xs_findFactors (st := 0) h1 h4 (by omega) (by omega) hc ?_))
    intro m' f' d s hF hf _
    rw [zrel h hr] at hF
    have hf0 : ∀ i, i < N → f' i = s i := fun i hi => by have := hf i hi; rwa [Nat.zero_add] at this
    have hb : ∀ w, zs (fun w => cw s (kk w) N) w ≤ w * 4 := fun w => zs_le (fun t => by have := cw_le s (kk t) N; omega) w
    have y : ∀ z : Nat, z < 2 → (z = 1 ↔ zs (fun w => cw s (kk w) N) 5 = N) → wpY_diagonal (fun r' v' => r' = nI z ∧ i_Rel (k + 5) (zX N c m' f') v') (zY N g mn te dv ot fc kp rw) (nI r) := by
      intro z hz hzz
      unfold wpY_diagonal; dsimp only
      refine yr_ok hr (br_f zf1 ?_)
      refine loop_0 (fun n w (q : Nat × (Nat → Nat) × (Nat → Nat) × (Nat → Nat)) => wY_diagonal_14 (fun r' v' => r' = nI z ∧ i_Rel (k + 5) (zX N c m' f') v') (nI r) n (nI q.1) (nI w) (nI N) (zA q.2.1) (zA q.2.2.1) (zA q.2.2.2) (zA dv) (zA ot) (zA fc) (zA kp) (zA rw))
        (fun w q => q.1 = zs (fun w => cw s (kk w) N) w ∧ (∀ j, j < 64 → q.2.1 j = g j) ∧ ∀ j, q.2.1 j < 5) 5 (0, g, mn, te) ⟨rfl, fun _ _ => rfl, hg⟩ ?_ ?_
      · intro n q hI
        have b := hb 5
        refine br_t (nI_le (a := 5) (Nat.le_refl _) (by omega)) ?_
        have R2 : i_Rel (k + 5) (zX N c m' f') (zY N q.2.1 q.2.2.1 q.2.2.2 dv ot fc kp rw) := zR h1 h4 hc hI.2.2 (fun r' t hr' ht => by rw [hI.2.1 _ (by omega)]; exact h r' t hr' ht)
        rw [hI.1]
        refine pk_eq (zs (fun w => cw s (kk w) N) 5) N (fun e => ⟨?_, R2⟩) (fun e => ⟨?_, R2⟩)
        · rw [hzz.mpr e]; rfl
        · have : z ≠ 1 := fun zz => e (hzz.mp zz)
          rw [show z = 0 by omega]; rfl
      · intro n w q hw hI ih
        have hF2 : fac (zSl q.2.1 N r) N d s := by
          rw [zSl_eq (g := g) (b := r) (fun t ht => hI.2.1 _ (by omega))]; exact hF
        refine br_f (nI_ge (b := 5) hw (by omega)) (ys_eigen h4 hr hw hI.2.2 hF2 ?_)
        intro g' mn' te' r1 r2
        refine nm_r (nI_add _ _) (nm_r (nI_1 w) (ih (q.1 + cw s (kk w) N, g', mn', te') ⟨?_, ?_, r2⟩))
        · show q.1 + cw s (kk w) N = _
          rw [hI.1]; rfl
        · intro j hj
          show g' j = g j
          rw [r1 j hj]; exact hI.2.1 j hj
    refine loop_0 (fun n w (q : Nat) => wX_diagonal_19 (fun r u' => wpY_diagonal (fun r' v' => r' = r ∧ i_Rel (k + 5) u' v') (zY N g mn te dv ot fc kp rw) _) (nI N) (zA c) (zA m') (zA f') n (nI q) (nI w)) (fun w q => q = zs (fun w => cw s (kk w) N) w) 5 0 rfl ?_ ?_
    · intro n q hq
      have b := hb 5
      refine br_t (nI_le (a := 5) (Nat.le_refl _) (by omega)) ?_
      rw [hq]
      refine pk_eq (zs (fun w => cw s (kk w) N) 5) N (fun e => ?_) (fun e => ?_)
      · exact y 1 (by decide) ⟨fun _ => e, fun _ => rfl⟩
      · exact y 0 (by decide) ⟨fun z => absurd z (by decide), fun z => absurd z e⟩
    · intro n w q hw hq ih
      refine br_f (nI_ge (b := 5) hw (by omega)) (xs_fwr h4 hw hf0 (fun i hi => (fac_s h4 hF i hi).2.1) ?_)
      refine nm_r (nI_add _ _) (nm_r (nI_1 w) (ih _ ?_))
      rw [hq]; rfl
  · refine xr_no o1 (br_t rfl ?_)
    unfold wpY_diagonal; dsimp only
    exact yr_no o1 (br_t rfl ⟨rfl, zR h1 h4 hc hg h⟩)
end
section
/-! sets of vectors with 5^m elements; the rank of a list of rows -/
def eqn (n : Nat) (x y : Nat → Fin 5) : Prop := ∀ i, i < n → x i = y i
def Dim (n : Nat) (S : (Nat → Fin 5) → Prop) (m : Nat) : Prop :=
  (∃ f : Nat → (Nat → Fin 5), (∀ a, a < 5 ^ m → S (f a)) ∧ ∀ a b, a < 5 ^ m → b < 5 ^ m → eqn n (f a) (f b) → a = b) ∧
  (∃ h : (Nat → Fin 5) → Nat, (∀ x, S x → h x < 5 ^ m) ∧ ∀ x y, S x → S y → h x = h y → eqn n x y)
theorem Dim_le {n : Nat} {S : (Nat → Fin 5) → Prop} {m m' : Nat} (h : Dim n S m) (h' : Dim n S m') : m ≤ m' := by
  refine Nat.le_of_not_lt (fun z => ?_)
  obtain ⟨⟨f, f1, f2⟩, _⟩ := h
  obtain ⟨_, ⟨q, q1, q2⟩⟩ := h'
  have hp : 5 ^ m' < 5 ^ m := Nat.pow_lt_pow_right (by decide) z
  obtain ⟨i, j, hij, hj, e⟩ := pig (5 ^ m') (fun i => q (f i)) (fun i hi => q1 _ (f1 i (by omega)))
  have := f2 i j (by omega) (by omega) (q2 _ _ (f1 i (by omega)) (f1 j (by omega)) e)
  omega
theorem Dim_u {n : Nat} {S : (Nat → Fin 5) → Prop} {m m' : Nat} (h : Dim n S m) (h' : Dim n S m') : m = m' :=
  Nat.le_antisymm (Dim_le h h') (Dim_le h' h)
def vsh (x : Nat → Fin 5) : Nat → Fin 5 := fun i => x (i + 1)
def vco (v : Fin 5) (x : Nat → Fin 5) : Nat → Fin 5
  | 0 => v
  | i + 1 => x i
theorem vsh_co (v : Fin 5) (x : Nat → Fin 5) : vsh (vco v x) = x := rfl
theorem val_ad {a b : Fin 5} {p q : Nat} (h : a.val + 5 * p = b.val + 5 * q) : a = b ∧ p = q := by
  have := a.isLt
  have := b.isLt
  exact ⟨Fin.ext (by omega), by omega⟩
theorem p5s {a m : Nat} (h : a < 5 ^ (m + 1)) : a / 5 < 5 ^ m := by
  rw [Nat.pow_succ] at h
  omega
theorem kk_mod_inj {a b : Nat} (h : kk (a % 5) = kk (b % 5)) : a % 5 = b % 5 := kk_inj (Nat.mod_lt _ (by decide)) (Nat.mod_lt _ (by decide)) h
theorem Dim_free {c m : Nat} {S S' : (Nat → Fin 5) → Prop} (e : ∀ x, S' x ↔ S (vsh x)) (h : Dim c S m) : Dim (c + 1) S' (m + 1) := by
  obtain ⟨⟨f, f1, f2⟩, ⟨q, q1, q2⟩⟩ := h
  refine ⟨⟨fun a => vco (kk (a % 5)) (f (a / 5)), fun a ha => (e _).mpr (f1 _ (p5s ha)), fun a b ha hb z => ?_⟩, ⟨fun x => (x 0).val + 5 * q (vsh x), fun x hx => ?_, fun x y hx hy z => ?_⟩⟩
  · have z0 : a % 5 = b % 5 := kk_mod_inj (z 0 (by omega))
    have z1 := f2 _ _ (p5s ha) (p5s hb) (fun i hi => z (i + 1) (by omega))
    omega
  · have := q1 _ ((e x).mp hx)
    have := (x 0).isLt
    show (x 0).val + 5 * q (vsh x) < 5 ^ (m + 1)
    rw [Nat.pow_succ]; omega
  · obtain ⟨z0, z1⟩ := val_ad z
    have z2 := q2 _ _ ((e x).mp hx) ((e y).mp hy) z1
    intro i hi
    cases i with
    | zero => exact z0
    | succ i => exact z2 i (by omega)
theorem Dim_det {c m : Nat} {S S' : (Nat → Fin 5) → Prop} (l : (Nat → Fin 5) → Fin 5) (hl : ∀ x y, eqn c x y → l x = l y) (e : ∀ x, S' x ↔ x 0 = l (vsh x) ∧ S (vsh x)) (h : Dim c S m) : Dim (c + 1) S' m := by
  obtain ⟨⟨f, f1, f2⟩, ⟨q, q1, q2⟩⟩ := h
  refine ⟨⟨fun a => vco (l (f a)) (f a), fun a ha => (e _).mpr ⟨rfl, f1 a ha⟩, fun a b ha hb z => ?_⟩, ⟨fun x => q (vsh x), fun x hx => q1 _ ((e x).mp hx).2, fun x y hx hy z => ?_⟩⟩
  · exact f2 _ _ ha hb (fun i hi => z (i + 1) (by omega))
  · have z2 := q2 _ _ ((e x).mp hx).2 ((e y).mp hy).2 z
    intro i hi
    cases i with
    | zero => rw [((e x).mp hx).1, ((e y).mp hy).1, hl _ _ z2]
    | succ i => exact z2 i (by omega)
theorem Dim_iff {n m : Nat} {S S' : (Nat → Fin 5) → Prop} (e : ∀ x, S' x ↔ S x) (h : Dim n S m) : Dim n S' m := by
  obtain ⟨⟨f, f1, f2⟩, ⟨q, q1, q2⟩⟩ := h
  exact ⟨⟨f, fun a ha => (e _).mpr (f1 a ha), f2⟩, ⟨q, fun x hx => q1 x ((e x).mp hx), fun x y hx hy z => q2 x y ((e x).mp hx) ((e y).mp hy) z⟩⟩
theorem Dim_all : ∀ n, Dim n (fun _ => True) n := by
  intro n
  induction n with
  | zero => exact ⟨⟨fun _ => fun _ => 0, fun _ _ => trivial, fun a b ha hb _ => by rw [Nat.pow_zero] at ha hb; omega⟩, ⟨fun _ => 0, fun _ _ => Nat.pow_pos (by decide), fun x y _ _ _ i hi => absurd hi (by omega)⟩⟩
  | succ n ih => exact Dim_free (fun _ => Iff.rfl) ih
/-- one coordinate changed -/
def vad (x : Nat → Fin 5) (p : Nat) (c : Fin 5) : Nat → Fin 5 := fun i => if i = p then x i + c else x i
theorem Dim_up {n m p : Nat} {S S' : (Nat → Fin 5) → Prop} (l : (Nat → Fin 5) → Fin 5) (hl : ∀ x y, eqn n x y → l x = l y) (u1 : ∀ x c, S x → S' (vad x p c)) (u2 : ∀ x, S' x → S (vad x p (- l x))) (u3 : ∀ x c, S x → l (vad x p c) = c) (h : Dim n S m) : Dim n S' (m + 1) := by
  obtain ⟨⟨f, f1, f2⟩, ⟨q, q1, q2⟩⟩ := h
  refine ⟨⟨fun a => vad (f (a / 5)) p (kk (a % 5)), fun a ha => u1 _ _ (f1 _ (p5s ha)), fun a b ha hb z => ?_⟩, ⟨fun x => (l x).val + 5 * q (vad x p (- l x)), fun x hx => ?_, fun x y hx hy z => ?_⟩⟩
  · have s1 := f1 _ (p5s ha)
    have s2 := f1 _ (p5s hb)
    have z0 : kk (a % 5) = kk (b % 5) := by
      have := hl _ _ z
      rwa [u3 _ _ s1, u3 _ _ s2] at this
    have z1 : a % 5 = b % 5 := kk_mod_inj z0
    have z2 := f2 _ _ (p5s ha) (p5s hb) (fun i hi => by
      have := z i hi
      dsimp only [vad] at this
      rw [z0] at this
      by_cases e : i = p
      · rw [if_pos e, if_pos e] at this; grind
      · rw [if_neg e, if_neg e] at this; exact this)
    omega
  · have := q1 _ (u2 x hx)
    have := (l x).isLt
    show (l x).val + 5 * q (vad x p (- l x)) < 5 ^ (m + 1)
    rw [Nat.pow_succ]; omega
  · obtain ⟨z0, z1⟩ := val_ad z
    have z2 := q2 _ _ (u2 x hx) (u2 y hy) z1
    intro i hi
    have := z2 i hi
    dsimp only [vad] at this
    rw [z0] at this
    by_cases e : i = p
    · rw [if_pos e, if_pos e] at this; grind
    · rw [if_neg e, if_neg e] at this; exact this
/-- a row times a vector -/
def dotl : List Nat → (Nat → Fin 5) → Fin 5
  | [], _ => 0
  | a :: t, x => kk a * x 0 + dotl t (vsh x)
theorem dotl_eq : ∀ (r : List Nat) (x y : Nat → Fin 5), eqn r.length x y → dotl r x = dotl r y := by
  intro r
  induction r with
  | nil => intro x y _; rfl
  | cons a t ih =>
    intro x y h
    show kk a * x 0 + dotl t (vsh x) = kk a * y 0 + dotl t (vsh y)
    rw [h 0 (by show 0 < t.length + 1; omega), ih (vsh x) (vsh y) (fun i hi => h (i + 1) (by show i + 1 < t.length + 1; omega))]
def tl (r : List Nat) : List Nat := match r with
  | [] => []
  | _ :: t => t
def hd (r : List Nat) : Nat := match r with
  | [] => 0
  | a :: _ => a
def addl (c : Nat) : List Nat → List Nat → List Nat
  | a :: s, b :: t => (a + c * b) % 5 :: addl c s t
  | _, _ => []
theorem addl_len (c : Nat) : ∀ (s t : List Nat), s.length = t.length → (addl c s t).length = s.length := by
  intro s
  induction s with
  | nil => intro t _; rfl
  | cons a s ih =>
    intro t h
    cases t with
    | nil => cases h
    | cons b t =>
      show (addl c s t).length + 1 = s.length + 1
      rw [ih t (by simpa using h)]
theorem addl_dot (c : Nat) : ∀ (s t : List Nat) (x : Nat → Fin 5), s.length = t.length → dotl (addl c s t) x = dotl s x + kk c * dotl t x := by
  intro s
  induction s with
  | nil =>
    intro t x h
    cases t with
    | nil => show (0 : Fin 5) = 0 + kk c * 0; grind
    | cons b t => cases h
  | cons a s ih =>
    intro t x h
    cases t with
    | nil => cases h
    | cons b t =>
      show kk ((a + c * b) % 5) * x 0 + dotl (addl c s t) (vsh x) = kk a * x 0 + dotl s (vsh x) + kk c * (kk b * x 0 + dotl t (vsh x))
      rw [ih t (vsh x) (by simpa using h), kk_mod, kk_add, kk_mul]; grind
def pick : List (List Nat) → Option (List Nat)
  | [] => none
  | r :: l => if hd r % 5 = 0 then pick l else some r
def elm (p : List Nat) (r : List Nat) : List Nat := if hd r % 5 = 0 then tl r else addl ((5 - hd r % 5) * (hd p * hd p * hd p % 5)) (tl r) (tl p)
def rankL : Nat → List (List Nat) → Nat
  | 0, _ => 0
  | c + 1, l => match pick l with
    | none => rankL c (l.map tl)
    | some p => rankL c (l.map (elm p)) + 1
theorem pick_n : ∀ l, pick l = none → ∀ r, r ∈ l → hd r % 5 = 0 := by
  intro l
  induction l with
  | nil => intro _ r hr; cases hr
  | cons a l ih =>
    intro h r hr
    have W : pick (a :: l) = if hd a % 5 = 0 then pick l else some a := rfl
    rw [W] at h
    by_cases e : hd a % 5 = 0
    · rw [if_pos e] at h
      cases hr with
      | head => exact e
      | tail _ hr => exact ih h r hr
    · rw [if_neg e] at h; cases h
theorem pick_s : ∀ l p, pick l = some p → p ∈ l ∧ hd p % 5 ≠ 0 := by
  intro l
  induction l with
  | nil => intro p h; cases h
  | cons a l ih =>
    intro p h
    have W : pick (a :: l) = if hd a % 5 = 0 then pick l else some a := rfl
    rw [W] at h
    by_cases e : hd a % 5 = 0
    · rw [if_pos e] at h
      obtain ⟨h1, h2⟩ := ih p h
      exact ⟨List.mem_cons_of_mem _ h1, h2⟩
    · rw [if_neg e] at h
      cases h
      exact ⟨List.mem_cons_self, e⟩
def kerl (l : List (List Nat)) (x : Nat → Fin 5) : Prop := ∀ r, r ∈ l → dotl r x = 0
theorem dot_hd {c : Nat} {r : List Nat} (h : r.length = c + 1) (x : Nat → Fin 5) : dotl r x = kk (hd r) * x 0 + dotl (tl r) (vsh x) ∧ (tl r).length = c := by
  cases r with
  | nil => cases h
  | cons a t => exact ⟨rfl, by simpa [tl] using h⟩
theorem rankL_D : ∀ c l, (∀ r, r ∈ l → r.length = c) → ∃ m, m + rankL c l = c ∧ Dim c (kerl l) m := by
  intro c
  induction c with
  | zero =>
    intro l hl
    refine ⟨0, rfl, Dim_iff (S := fun _ => True) (fun x => ⟨fun _ => trivial, fun _ r hr => ?_⟩) (Dim_all 0)⟩
    have := hl r hr
    cases r with
    | nil => rfl
    | cons a t => cases this
  | succ c ih =>
    intro l hl
    have W : rankL (c + 1) l = (match pick l with
      | none => rankL c (l.map tl)
      | some p => rankL c (l.map (elm p)) + 1) := rfl
    cases hp : pick l with
    | none =>
      rw [hp] at W
      have hz := pick_n l hp
      obtain ⟨m, m1, m2⟩ := ih (l.map tl) (fun r hr => by
        obtain ⟨r', h1, rfl⟩ := List.mem_map.mp hr
        exact (dot_hd (hl r' h1) (fun _ => 0)).2)
      refine ⟨m + 1, by rw [W]; show m + 1 + rankL c (l.map tl) = c + 1; omega, Dim_free (fun x => ?_) m2⟩
      have key : ∀ r, r ∈ l → dotl r x = dotl (tl r) (vsh x) := by
        intro r hr
        rw [(dot_hd (hl r hr) x).1, ← kk_mod (hd r), hz r hr, kk_0]; grind
      refine ⟨fun h r hr => ?_, fun h r hr => ?_⟩
      · obtain ⟨r', h1, rfl⟩ := List.mem_map.mp hr
        rw [← key r' h1]; exact h r' h1
      · rw [key r hr]; exact h _ (List.mem_map.mpr ⟨r, hr, rfl⟩)
    | some p =>
      rw [hp] at W
      obtain ⟨p1, p2⟩ := pick_s l p hp
      have pl := hl p p1
      have pt := (dot_hd pl (fun _ => 0)).2
      have kn : kk (hd p) ≠ 0 := by
        intro z
        rw [← kk_mod] at z
        exact p2 (kk_inj (Nat.mod_lt _ (by decide)) (by decide) z)
      have kinv := inv_k kn
      obtain ⟨m, m1, m2⟩ := ih (l.map (elm p)) (fun r hr => by
        obtain ⟨r', h1, rfl⟩ := List.mem_map.mp hr
        have ht := (dot_hd (hl r' h1) (fun _ => 0)).2
        unfold elm
        split
        · exact ht
        · rw [addl_len _ _ _ (by rw [ht, pt]), ht])
      refine ⟨m, by rw [W]; show m + (rankL c (l.map (elm p)) + 1) = c + 1; omega, ?_⟩
      refine Dim_det (fun y => - (kk (hd p * hd p * hd p % 5) * dotl (tl p) y)) (fun x y h => ?_) (fun x => ?_) m2
      · rw [dotl_eq (tl p) x y (by rw [pt]; exact h)]
      · have hx0 : dotl p x = 0 ↔ x 0 = - (kk (hd p * hd p * hd p % 5) * dotl (tl p) (vsh x)) := by
          rw [(dot_hd pl x).1]
          refine ⟨fun h => ?_, fun h => ?_⟩
          · have : kk (hd p * hd p * hd p % 5) * (kk (hd p) * x 0 + dotl (tl p) (vsh x)) = 0 := by rw [h]; grind
            grind
          · rw [h]; grind
        have key : ∀ r, r ∈ l → dotl p x = 0 → (dotl r x = 0 ↔ dotl (elm p r) (vsh x) = 0) := by
          intro r hr hp0
          have hx := hx0.mp hp0
          obtain ⟨d1, d2⟩ := dot_hd (hl r hr) x
          unfold elm
          by_cases e : hd r % 5 = 0
          · rw [if_pos e, d1, ← kk_mod (hd r), e, kk_0]
            refine ⟨fun h => by grind, fun h => by grind⟩
          · rw [if_neg e, d1, addl_dot _ _ _ _ (by rw [d2, pt]), kk_mul, kk_5s (by have := Nat.mod_lt (hd r) (show 5 > 0 by decide); omega), kk_mod (hd r), hx]
            refine ⟨fun h => by grind, fun h => by grind⟩
        refine ⟨fun h => ⟨hx0.mp (h p p1), fun r hr => ?_⟩, fun h r hr => ?_⟩
        · obtain ⟨r', h1, rfl⟩ := List.mem_map.mp hr
          exact (key r' h1 (h p p1)).mp (h r' h1)
        · exact (key r hr (hx0.mpr h.1)).mpr (h.2 _ (List.mem_map.mpr ⟨r, hr, rfl⟩))
end
section
/-! the reference's elimination -/
def rowl (n : Nat) (R : Nat → Nat) (i : Nat) (x : Nat → Fin 5) : Fin 5 := fs (fun k => kk (R (16 * i + k)) * x k) n
def kerR (n : Nat) (R : Nat → Nat) (x : Nat → Fin 5) : Prop := ∀ i, i < n → rowl n R i x = 0
def bR (n : Nat) (R : Nat → Nat) : Prop := ∀ i k, i < n → k < n → R (16 * i + k) < 5
theorem fs_s (f : Nat → Fin 5) (s : Fin 5) (n : Nat) : fs (fun t => s * f t) n = s * fs f n := by
  induction n with
  | zero => show (0 : Fin 5) = s * 0; grind
  | succ n ih => show fs (fun t => s * f t) n + s * f n = s * (fs f n + f n); rw [ih]; grind
theorem rowl_lin {n : Nat} {R R' R'' : Nat → Nat} {i j l : Nat} {s : Fin 5} (h : ∀ k, k < n → kk (R (16 * i + k)) = kk (R' (16 * j + k)) + s * kk (R'' (16 * l + k))) (x : Nat → Fin 5) : rowl n R i x = rowl n R' j x + s * rowl n R'' l x := by
  unfold rowl
  rw [← fs_lin]
  refine fs_cong n (fun t ht => ?_)
  rw [h t ht]; grind
theorem rowl_sc {n : Nat} {R R' : Nat → Nat} {i j : Nat} {s : Fin 5} (h : ∀ k, k < n → kk (R (16 * i + k)) = s * kk (R' (16 * j + k))) (x : Nat → Fin 5) : rowl n R i x = s * rowl n R' j x := by
  unfold rowl
  rw [← fs_s]
  refine fs_cong n (fun t ht => ?_)
  rw [h t ht]; grind
theorem rowl_eq {n : Nat} {R R' : Nat → Nat} {i j : Nat} (h : ∀ k, k < n → kk (R (16 * i + k)) = kk (R' (16 * j + k))) (x : Nat → Fin 5) : rowl n R i x = rowl n R' j x := by
  unfold rowl
  refine fs_cong n (fun t ht => ?_)
  rw [h t ht]
theorem ys_bring {post : Int32 → SY → Prop} {N c p : Nat} {g : Nat → Nat} {mn te dv ot fc kp rw : Nat → Nat} (h1 : 1 ≤ N) (hN : N ≤ 4) (hc : c < N * N) (hp : p < N * N) (hR : bR (N * N) rw)
    (H0 : (∀ i, p ≤ i → i < N * N → rw (16 * i + c) = 0) → post 0 (zY N g mn te dv ot fc kp rw))
    (H1 : ∀ i0, p ≤ i0 → i0 < N * N → rw (16 * i0 + c) ≠ 0 → ∀ rw' : Nat → Nat, bR (N * N) rw' → (∀ i k, i < N * N → k < N * N → kk (rw' (16 * i + k)) = if i = p then kk (rw (16 * i0 + c) * rw (16 * i0 + c) * rw (16 * i0 + c) % 5) * kk (rw (16 * i0 + k)) else if i = i0 then kk (rw (16 * p + k)) else kk (rw (16 * i + k))) → post 1 (zY N g mn te dv ot fc kp rw')) :
    wpY_bring post (zY N g mn te dv ot fc kp rw) (nI c) (nI p) := by
  have hsq := zi_sq hN
  have hq := zsqs h1
  generalize hn : N * N = n at *
  have sw : ∀ i0, p ≤ i0 → i0 < n → rw (16 * i0 + c) ≠ 0 → vp_in ((16 * nI i0) + nI c) 256 ∧ (wpY_inverse (fun r_5 => (∃ n71 : Nat, wY_bring_71 post (nI p) (nI i0) r_5 (nI N) n71 0 (zA g) (zA mn) (zA te) (zA dv) (zA ot) (zA fc) (zA kp) (zA rw))) (zY N g mn te dv ot fc kp rw) (zA rw ((16 * nI i0) + nI c).toNatClampNeg)) := by
    intro i0 hi0 hi0n hne
    have b0 := hR i0 c hi0n hc
    have l1 : rw (16 * i0 + c) * rw (16 * i0 + c) ≤ 4 * 4 := Nat.mul_le_mul (by omega) (by omega)
    have l2 : rw (16 * i0 + c) * rw (16 * i0 + c) * rw (16 * i0 + c) ≤ 16 * 4 := Nat.mul_le_mul l1 (by omega)
    rw [z16m, nI_add, nI_clamp (by omega), zA_at]
    refine ⟨vp_in_nI (by omega) (by decide), ?_⟩
    unfold wpY_inverse
    refine ⟨zf5, ?_⟩
    rw [pk_mul, pk_mul, z5r (by omega)]
    have h1' := H1 i0 hi0 hi0n hne
    generalize hby : rw (16 * i0 + c) * rw (16 * i0 + c) * rw (16 * i0 + c) % 5 = b at *
    have hb5 : b < 5 := by rw [← hby]; exact Nat.mod_lt _ (by decide)
    refine loop_0 (fun m k (s : Nat → Nat) => wY_bring_71 post (nI p) (nI i0) (nI b) (nI N) m (nI k) (zA g) (zA mn) (zA te) (zA dv) (zA ot) (zA fc) (zA kp) (zA s))
      (fun k s => bR n s ∧ ∀ i k', i < n → k' < n → kk (s (16 * i + k')) = if k' < k then (if i = p then kk b * kk (rw (16 * i0 + k')) else if i = i0 then kk (rw (16 * p + k')) else kk (rw (16 * i + k'))) else kk (rw (16 * i + k'))) n rw ⟨hR, fun i k' hi hk' => by rw [if_neg (by omega)]⟩ ?_ ?_
    · intro m s hI
      refine br_t (by rw [pk_mul, hn]; exact nI_le (Nat.le_refl _) (by omega)) (h1' s hI.1 (fun i k hi hk => ?_))
      rw [hI.2 i k hi hk, if_pos hk]
    · intro m k s hk hI ih
      have a1 := hI.1 i0 k hi0n hk
      have a2 := hI.1 p k hp hk
      have e1 := hI.2 i0 k hi0n hk
      have e2 := hI.2 p k hp hk
      rw [if_neg (by omega)] at e1 e2
      have l3 : s (16 * i0 + k) * b ≤ 4 * 4 := Nat.mul_le_mul (by omega) (by omega)
      refine br_f (by rw [pk_mul, hn]; exact nI_ge hk (by omega)) ?_
      rw [z16m, z16m, nI_add, nI_add, nI_clamp (by omega), nI_clamp (by omega), zA_at, zA_at, pk_mul, z5r (by omega)]
      refine ⟨vp_in_nI (by omega) (by decide), zf5, nm_e ⟨vp_in_nI (by omega) (by decide), vp_in_nI (by omega) (by decide), nm_r (zA_upd _ _ _) ⟨vp_in_nI (by omega) (by decide), nm_r (zA_upd _ _ _) (nm_r (nI_1 k) (ih _ ⟨?_, ?_⟩))⟩⟩⟩
      · intro i k' hi hk'
        by_cases z1 : 16 * i + k' = 16 * p + k
        · rw [z1, zu_s]; exact Nat.mod_lt _ (by decide)
        · rw [zu_n z1]
          by_cases z2 : 16 * i + k' = 16 * i0 + k
          · rw [z2, zu_s]; exact a2
          · rw [zu_n z2]; exact hI.1 i k' hi hk'
      · intro i k' hi hk'
        by_cases z1 : 16 * i + k' = 16 * p + k
        · have ei : i = p := by omega
          have ek : k' = k := by omega
          subst ei; subst ek
          rw [zu_s, if_pos (by omega), if_pos rfl, kk_mod, kk_mul, e1]; grind
        · rw [zu_n z1]
          by_cases z2 : 16 * i + k' = 16 * i0 + k
          · have ei : i = i0 := by omega
            have ek : k' = k := by omega
            subst ei; subst ek
            rw [zu_s, if_pos (by omega), if_neg (by omega), if_pos rfl, e2]
          · rw [zu_n z2, hI.2 i k' hi hk']
            by_cases z3 : k' < k
            · rw [if_pos z3, if_pos (show k' < k + 1 by omega)]
            · rw [if_neg z3]
              by_cases z4 : k' < k + 1
              · rw [if_pos z4, if_neg (by omega), if_neg (by omega)]
              · rw [if_neg z4]
  unfold wpY_bring; dsimp only
  refine nm_r (e' := nI (n - 1)) (by rw [pk_mul, hn, zs1 (by omega)]) ?_
  have main : ∀ d (f : Int32), p + d ≤ n → (∀ i, p + d ≤ i → i < n → f = -1 → rw (16 * i + c) = 0) → (f = -1 ∨ ∃ i0, p ≤ i0 ∧ i0 < n ∧ f = nI i0 ∧ rw (16 * i0 + c) ≠ 0) →
      wY_bring_15 post (nI c) (nI p) (nI N) (zA g) (zA mn) (zA te) (zA dv) (zA ot) (zA fc) (zA kp) (zA rw) (d + 1) f (nI (p + d) - 1) := by
    intro d
    induction d with
    | zero =>
      intro f hd hz hf
      have hx : nI (p + 0) - 1 < nI p := by
        rw [Nat.add_zero]
        by_cases z : p = 0
        · subst z; decide
        · rw [zs1 (by omega)]; exact nI_lt (by omega) (by omega)
      refine br_t hx ?_
      rcases hf with hf | ⟨i0, q1, q2, q3, q4⟩
      · rw [hf]
        exact br_f (by decide) (H0 (fun i hi hi' => hz i hi hi' hf))
      · rw [q3]
        exact br_t (nI_pos' (by omega)) (sw i0 q1 q2 q4)
    | succ d ih =>
      intro f hd hz hf
      have e1 : nI (p + (d + 1)) - 1 = nI (p + d) := by rw [← Nat.add_assoc, nI_pred]
      have b0 := hR (p + d) c (by omega) hc
      rw [e1]
      refine br_f (nI_nlt (by omega) (by omega)) ?_
      rw [z16m, nI_add, nI_clamp (by omega), zA_at]
      have em : nI (p + d) + (-1) = nI (p + d) - 1 := (Int32.sub_eq_add_neg _ _).symm
      refine ⟨vp_in_nI (by omega) (by decide), pk_eq (rw (16 * (p + d) + c)) 0 ?_ ?_⟩
      · intro e
        refine nm_r em (ih f (by omega) (fun i hi hi' hf' => ?_) hf)
        by_cases z : i = p + d
        · rw [z]; exact e
        · exact hz i (by omega) hi' hf'
      · intro e
        refine nm_r em (ih (nI (p + d)) (by omega) (fun i hi hi' hf' => ?_) (Or.inr ⟨p + d, by omega, by omega, rfl, e⟩))
        exfalso
        have h0 := nI_pos' (n := p + d) (by omega)
        rw [hf'] at h0
        exact absurd h0 (by decide)
  have := main (n - p) (-1) (by omega) (fun i hi hi' _ => by omega) (Or.inl rfl)
  rw [show p + (n - p) = n by omega, zs1 (by omega)] at this
  exact ⟨_, this⟩
theorem ys_clearR {post : SY → Prop} {N c p : Nat} {g : Nat → Nat} {mn te dv ot fc kp rw : Nat → Nat} (h1 : 1 ≤ N) (hN : N ≤ 4) (hc : c < N * N) (hp : p < N * N) (hR : bR (N * N) rw)
    (H : ∀ rw' : Nat → Nat, bR (N * N) rw' → (∀ i k, i < N * N → k < N * N → kk (rw' (16 * i + k)) = if p < i then kk (rw (16 * i + k)) + (- kk (rw (16 * i + c))) * kk (rw (16 * p + k)) else kk (rw (16 * i + k))) → post (zY N g mn te dv ot fc kp rw')) :
    wpY_clear post (zY N g mn te dv ot fc kp rw) (nI c) (nI p) := by
  have hsq := zi_sq hN
  generalize hn : N * N = n at *
  unfold wpY_clear; dsimp only
  refine nm_r (nI_1 p) ?_
  refine pk_loop (fun m i (s : Nat → Nat) => wY_clear_4 post (nI c) (nI p) (nI N) m (nI i) (zA g) (zA mn) (zA te) (zA dv) (zA ot) (zA fc) (zA kp) (zA s))
    (fun i s => p + 1 ≤ i ∧ bR n s ∧ ∀ i' k, i' < n → k < n → kk (s (16 * i' + k)) = if p < i' ∧ i' < i then kk (rw (16 * i' + k)) + (- kk (rw (16 * i' + c))) * kk (rw (16 * p + k)) else kk (rw (16 * i' + k))) n (p + 1) rw (by omega) ⟨Nat.le_refl _, hR, fun i' k _ _ => by rw [if_neg (by omega)]⟩ ?_ ?_
  · intro m s hI
    refine br_t (by rw [pk_mul, hn]; exact nI_le (Nat.le_refl _) (by omega)) (H s hI.2.1 (fun i k hi hk => ?_))
    rw [hI.2.2 i k hi hk]
    by_cases e : p < i
    · rw [if_pos ⟨e, hi⟩, if_pos e]
    · rw [if_neg (fun z => e z.1), if_neg e]
  · intro m i s hi hI ih
    obtain ⟨hpi, hb, hv⟩ := hI
    have b0 := hb i c hi hc
    have e0 := hv i c hi hc
    rw [if_neg (by omega)] at e0
    refine br_f (by rw [pk_mul, hn]; exact nI_ge hi (by omega)) ?_
    rw [z16m, nI_add, nI_clamp (by omega), zA_at]
    refine ⟨vp_in_nI (by omega) (by decide), nm_r (z5s (by omega)) ?_⟩
    have kcc : kk (5 - s (16 * i + c)) = - kk (rw (16 * i + c)) := by rw [kk_5s (by omega), e0]
    generalize hcc : 5 - s (16 * i + c) = cc at *
    have hcc5 : cc ≤ 5 := by omega
    refine loop_0 (fun m' k (s' : Nat → Nat) => wY_clear_35 post (wY_clear_4 post (nI c) (nI p) (nI N) m) (nI c) (nI p) (nI i) (nI cc) (nI N) m' (nI k) (zA g) (zA mn) (zA te) (zA dv) (zA ot) (zA fc) (zA kp) (zA s'))
      (fun k s' => bR n s' ∧ ∀ i' k', i' < n → k' < n → kk (s' (16 * i' + k')) = if i' = i ∧ k' < k then kk (rw (16 * i' + k')) + (- kk (rw (16 * i + c))) * kk (rw (16 * p + k')) else kk (s (16 * i' + k'))) n s ⟨hb, fun i' k' _ _ => by rw [if_neg (by omega)]⟩ ?_ ?_
    · intro m' s' hJ
      refine br_t (by rw [pk_mul, hn]; exact nI_le (Nat.le_refl _) (by omega)) (nm_r (nI_1 i) (ih s' ⟨by omega, hJ.1, fun i' k hi' hk => ?_⟩))
      rw [hJ.2 i' k hi' hk]
      by_cases e : i' = i
      · subst e
        rw [if_pos ⟨rfl, hk⟩, if_pos ⟨by omega, by omega⟩]
      · rw [if_neg (fun z => e z.1), hv i' k hi' hk]
        by_cases e2 : p < i' ∧ i' < i
        · rw [if_pos e2, if_pos ⟨e2.1, by omega⟩]
        · rw [if_neg e2, if_neg (by omega)]
    · intro m' k s' hk hJ ih'
      have a1 := hJ.1 i k hi hk
      have a2 := hJ.1 p k hp hk
      have e1 := hJ.2 i k hi hk
      have e2 := hJ.2 p k hp hk
      rw [if_neg (by omega), hv i k hi hk, if_neg (by omega)] at e1
      rw [if_neg (by omega), hv p k hp hk, if_neg (by omega)] at e2
      have l3 : cc * s' (16 * p + k) ≤ 5 * 4 := Nat.mul_le_mul hcc5 (by omega)
      refine br_f (by rw [pk_mul, hn]; exact nI_ge hk (by omega)) ?_
      rw [z16m, z16m, nI_add, nI_add, nI_clamp (by omega), nI_clamp (by omega), zA_at, zA_at, pk_mul, nI_add, z5r (by omega)]
      refine ⟨vp_in_nI (by omega) (by decide), vp_in_nI (by omega) (by decide), zf5, vp_in_nI (by omega) (by decide), nm_r (zA_upd _ _ _) (nm_r (nI_1 k) (ih' _ ⟨?_, ?_⟩))⟩
      · intro i' k' hi' hk'
        by_cases z1 : 16 * i' + k' = 16 * i + k
        · rw [z1, zu_s]; exact Nat.mod_lt _ (by decide)
        · rw [zu_n z1]; exact hJ.1 i' k' hi' hk'
      · intro i' k' hi' hk'
        by_cases z1 : 16 * i' + k' = 16 * i + k
        · have ei : i' = i := by omega
          have ek : k' = k := by omega
          subst ei; subst ek
          rw [zu_s, if_pos ⟨rfl, by omega⟩, kk_mod, kk_add, kk_mul, e1, e2, kcc]
        · rw [zu_n z1, hJ.2 i' k' hi' hk']
          by_cases z2 : i' = i ∧ k' < k
          · rw [if_pos z2, if_pos ⟨z2.1, by omega⟩]
          · rw [if_neg z2, if_neg (by omega)]
/-- echelon form with p pivots in the columns below c, kernel as at the start -/
def Inv (n : Nat) (R0 : Nat → Nat) (c p : Nat) (R : Nat → Nat) : Prop := bR n R ∧ p ≤ c ∧ (∀ x, kerR n R x ↔ kerR n R0 x) ∧
  (∃ q : Nat → Nat, (∀ i, i < p → q i < c ∧ kk (R (16 * i + q i)) = 1 ∧ ∀ k, k < q i → kk (R (16 * i + k)) = 0) ∧ ∀ i j, i < j → j < p → q i < q j) ∧
  ∀ i, p ≤ i → i < n → ∀ k, k < c → kk (R (16 * i + k)) = 0
theorem Inv_skip {n c p : Nat} {R0 R : Nat → Nat} (h : Inv n R0 c p R) (hz : ∀ i, p ≤ i → i < n → R (16 * i + c) = 0) : Inv n R0 (c + 1) p R := by
  obtain ⟨a1, a2, a3, ⟨q, q1, q2⟩, a5⟩ := h
  refine ⟨a1, by omega, a3, ⟨q, fun i hi => ⟨by have := (q1 i hi).1; omega, (q1 i hi).2⟩, q2⟩, ?_⟩
  intro i h1 h2 k hk
  by_cases e : k = c
  · subst e; rw [hz i h1 h2]; rfl
  · exact a5 i h1 h2 k (by omega)
theorem Inv_step {n c p i0 : Nat} {R0 R R1 R2 : Nat → Nat} (hp : p < n) (hc : c < n) (h : Inv n R0 c p R) (hi0 : p ≤ i0) (hi0n : i0 < n) (hne : R (16 * i0 + c) ≠ 0) (b2 : bR n R2)
    (e1 : ∀ i k, i < n → k < n → kk (R1 (16 * i + k)) = if i = p then kk (R (16 * i0 + c) * R (16 * i0 + c) * R (16 * i0 + c) % 5) * kk (R (16 * i0 + k)) else if i = i0 then kk (R (16 * p + k)) else kk (R (16 * i + k)))
    (e2 : ∀ i k, i < n → k < n → kk (R2 (16 * i + k)) = if p < i then kk (R1 (16 * i + k)) + (- kk (R1 (16 * i + c))) * kk (R1 (16 * p + k)) else kk (R1 (16 * i + k))) : Inv n R0 (c + 1) (p + 1) R2 := by
  obtain ⟨a1, a2, a3, ⟨q, q1, q2⟩, a5⟩ := h
  have hb0 := a1 i0 c hi0n hc
  have kn : kk (R (16 * i0 + c)) ≠ 0 := fun z => hne (kk_inj hb0 (by decide) z)
  have kinv := inv_k kn
  generalize hby : kk (R (16 * i0 + c) * R (16 * i0 + c) * R (16 * i0 + c) % 5) = b at *
  have low : ∀ i, i < p → ∀ k, k < n → kk (R2 (16 * i + k)) = kk (R (16 * i + k)) := by
    intro i hi k hk
    rw [e2 i k (by omega) hk, if_neg (by omega), e1 i k (by omega) hk, if_neg (by omega), if_neg (by omega)]
  have piv : ∀ k, k < n → kk (R2 (16 * p + k)) = b * kk (R (16 * i0 + k)) := by
    intro k hk
    rw [e2 p k hp hk, if_neg (by omega), e1 p k hp hk, if_pos rfl]
  have piv1 : ∀ k, k < n → kk (R1 (16 * p + k)) = b * kk (R (16 * i0 + k)) := by
    intro k hk
    rw [e1 p k hp hk, if_pos rfl]
  refine ⟨b2, by omega, ?_, ⟨zu q p c, ?_, ?_⟩, ?_⟩
  · intro x
    rw [← a3 x]
    have k1 : kerR n R1 x ↔ kerR n R x := by
      have rp : rowl n R1 p x = b * rowl n R i0 x := rowl_sc piv1 x
      refine ⟨fun h => ?_, fun h => ?_⟩
      · have h0 : rowl n R i0 x = 0 := by
          have := h p hp
          rw [rp] at this
          have bn : b ≠ 0 := by intro z; rw [z] at kinv; exact absurd kinv (by grind)
          refine Classical.byContradiction (fun z => f5_nz _ _ bn z this)
        intro i hi
        by_cases z1 : i = i0
        · rw [z1]; exact h0
        · by_cases z2 : i = p
          · by_cases z3 : i0 = p
            · rw [z2, ← z3]; exact h0
            · have := h i0 hi0n
              rw [rowl_eq (R' := R) (j := p) (fun k hk => by rw [e1 i0 k hi0n hk, if_neg z3, if_pos rfl])] at this
              rw [z2]; exact this
          · have := h i hi
            rw [rowl_eq (R' := R) (j := i) (fun k hk => by rw [e1 i k hi hk, if_neg z2, if_neg z1])] at this
            exact this
      · intro i hi
        by_cases z2 : i = p
        · rw [z2, rp, h i0 hi0n]; grind
        · by_cases z1 : i = i0
          · rw [z1, rowl_eq (R' := R) (j := p) (fun k hk => by rw [e1 i0 k hi0n hk, if_neg (by omega), if_pos rfl])]
            exact h p hp
          · rw [rowl_eq (R' := R) (j := i) (fun k hk => by rw [e1 i k hi hk, if_neg z2, if_neg z1])]
            exact h i hi
    rw [← k1]
    have rp : rowl n R2 p x = rowl n R1 p x := rowl_eq (fun k hk => by rw [e2 p k hp hk, if_neg (by omega)]) x
    have ri : ∀ i, i < n → p < i → rowl n R2 i x = rowl n R1 i x + (- kk (R1 (16 * i + c))) * rowl n R1 p x := fun i hi hpi => rowl_lin (fun k hk => by rw [e2 i k hi hk, if_pos hpi]) x
    have rl : ∀ i, i < n → ¬ p < i → rowl n R2 i x = rowl n R1 i x := fun i hi hpi => rowl_eq (fun k hk => by rw [e2 i k hi hk, if_neg hpi]) x
    refine ⟨fun h => ?_, fun h => ?_⟩
    · have h0 : rowl n R1 p x = 0 := by rw [← rp]; exact h p hp
      intro i hi
      by_cases z : p < i
      · have := h i hi
        rw [ri i hi z, h0] at this
        grind
      · rw [← rl i hi z]; exact h i hi
    · intro i hi
      by_cases z : p < i
      · rw [ri i hi z, h i hi, h p hp]; grind
      · rw [rl i hi z]; exact h i hi
  · intro i hi
    by_cases z : i = p
    · subst z
      rw [zu_s]
      refine ⟨by omega, ?_, ?_⟩
      · rw [piv c hc]; exact kinv
      · intro k hk
        rw [piv k (by omega), a5 i0 hi0 hi0n k hk]; grind
    · rw [zu_n z]
      obtain ⟨t1, t2, t3⟩ := q1 i (by omega)
      refine ⟨by omega, ?_, ?_⟩
      · rw [low i (by omega) _ (by omega)]; exact t2
      · intro k hk
        rw [low i (by omega) k (by omega)]; exact t3 k hk
  · intro i j hij hj
    rw [zu_n (by omega)]
    by_cases z : j = p
    · rw [z, zu_s]; exact (q1 i (by omega)).1
    · rw [zu_n z]; exact q2 i j hij (by omega)
  · intro i h1 h2 k hk
    have z1 : ∀ k, k < c → kk (R1 (16 * i + k)) = 0 := by
      intro k hk
      rw [e1 i k h2 (by omega), if_neg (by omega)]
      split
      · exact a5 p (Nat.le_refl _) hp k hk
      · exact a5 i (by omega) h2 k hk
    rw [e2 i k h2 (by omega), if_pos (by omega), piv1 k (by omega)]
    by_cases z : k = c
    · subst z
      grind
    · rw [z1 k (by omega), a5 i0 hi0 hi0n k (by omega)]; grind
theorem fs_vad (M x : Nat → Fin 5) (q : Nat) (c : Fin 5) : ∀ n, fs (fun k => M k * vad x q c k) n = fs (fun k => M k * x k) n + (if q < n then M q * c else 0) := by
  intro n
  induction n with
  | zero => rw [if_neg (by omega)]; show (0 : Fin 5) = 0 + 0; rfl
  | succ n ih =>
    show fs (fun k => M k * vad x q c k) n + M n * vad x q c n = fs (fun k => M k * x k) n + M n * x n + _
    rw [ih]
    show _ + M n * (if n = q then x n + c else x n) = _
    by_cases e : n = q
    · subst e
      rw [if_pos rfl, if_neg (by omega), if_pos (by omega)]; grind
    · rw [if_neg e]
      by_cases e2 : q < n
      · rw [if_pos e2, if_pos (by omega)]; grind
      · rw [if_neg e2, if_neg (by omega)]; grind
theorem Inv_dim {n p m : Nat} {R0 R : Nat → Nat} (h : Inv n R0 n p R) (hd : Dim n (kerR n R0) m) : m + p = n := by
  obtain ⟨a1, a2, a3, ⟨q, q1, q2⟩, a5⟩ := h
  have hV0 : Dim n (fun x => ∀ j, 0 ≤ j → j < p → rowl n R j x = 0) m := by
    refine Dim_iff (fun x => ?_) hd
    rw [← a3 x]
    refine ⟨fun h i hi => ?_, fun h j _ hj => h j (by omega)⟩
    by_cases z : i < p
    · exact h i (Nat.zero_le _) z
    · have : rowl n R i x = 0 * rowl n R i x := rowl_sc (fun k hk => by rw [a5 i (by omega) hi k hk]; grind) x
      rw [this]; grind
  have main : ∀ i, i ≤ p → Dim n (fun x => ∀ j, i ≤ j → j < p → rowl n R j x = 0) (m + i) := by
    intro i
    induction i with
    | zero => intro _; exact hV0
    | succ i ih =>
      intro hi
      obtain ⟨t1, t2, t3⟩ := q1 i (by omega)
      have vi : ∀ x c, rowl n R i (vad x (q i) c) = rowl n R i x + c := by
        intro x c
        unfold rowl
        rw [fs_vad (fun k => kk (R (16 * i + k))), if_pos t1, t2]; grind
      have vj : ∀ j, i < j → j < p → ∀ x c, rowl n R j (vad x (q i) c) = rowl n R j x := by
        intro j hij hj x c
        obtain ⟨s1, s2, s3⟩ := q1 j hj
        unfold rowl
        rw [fs_vad (fun k => kk (R (16 * j + k))), if_pos t1, s3 (q i) (q2 i j hij hj)]; grind
      refine Dim_up (p := q i) (fun x => rowl n R i x) (fun x y hxy => ?_) (fun x c hx j hj hjp => ?_) (fun x hx j hj hjp => ?_) (fun x c hx => ?_) (ih (by omega))
      · exact fs_cong n (fun t ht => by rw [hxy t ht])
      · rw [vj j (by omega) hjp]; exact hx j (by omega) hjp
      · by_cases z : j = i
        · rw [z, vi]; grind
        · rw [vj j (by omega) hjp]; exact hx j (by omega) hjp
      · rw [vi, hx i (Nat.le_refl _) (by omega)]; grind
  have hp := Dim_iff (S' := fun _ => True) (fun x => ⟨fun _ j h1 h2 => absurd h1 (by omega), fun _ => trivial⟩) (main p (Nat.le_refl _))
  exact Dim_u hp (Dim_all n)
end
section
/-! the linear equations of the commuting matrices -/
def adc (N : Nat) (a : Nat → Nat → Nat) (i k : Nat) : Nat := ((if i % N = k % N then a (i / N) (k / N) else 0) + (if i / N = k / N then 5 - a (k % N) (i % N) else 0)) % 5
def adL (N : Nat) (a : Nat → Nat → Nat) : List (List Nat) := (List.range (N * N)).map (fun i => (List.range (N * N)).map (fun k => adc N a i k))
theorem dotl_app : ∀ (l : List Nat) (a : Nat) (x : Nat → Fin 5), dotl (l ++ [a]) x = dotl l x + kk a * x l.length := by
  intro l
  induction l with
  | nil => intro a x; show kk a * x 0 + 0 = 0 + kk a * x 0; grind
  | cons b l ih =>
    intro a x
    show kk b * x 0 + dotl (l ++ [a]) (vsh x) = kk b * x 0 + dotl l (vsh x) + kk a * x (l.length + 1)
    rw [ih]
    show _ + (_ + kk a * x (l.length + 1)) = _
    grind
theorem dotl_range (f : Nat → Nat) (x : Nat → Fin 5) : ∀ n, dotl ((List.range n).map f) x = fs (fun k => kk (f k) * x k) n := by
  intro n
  induction n with
  | zero => rfl
  | succ n ih =>
    rw [List.range_succ, List.map_append, List.map_cons, List.map_nil, dotl_app, ih, List.length_map, List.length_range]
    rfl
theorem ker_ad {N : Nat} {a : Nat → Nat → Nat} {R : Nat → Nat} (h : ∀ i k, i < N * N → k < N * N → R (16 * i + k) = adc N a i k) (x : Nat → Fin 5) : kerR (N * N) R x ↔ kerl (adL N a) x := by
  have key : ∀ i, i < N * N → rowl (N * N) R i x = dotl ((List.range (N * N)).map (fun k => adc N a i k)) x := by
    intro i hi
    rw [dotl_range]
    exact fs_cong _ (fun k hk => by rw [h i k hi hk])
  refine ⟨fun hk r hr => ?_, fun hk i hi => ?_⟩
  · obtain ⟨i, h1, rfl⟩ := List.mem_map.mp hr
    have hi : i < N * N := List.mem_range.mp h1
    rw [← key i hi]; exact hk i hi
  · rw [key i hi]
    exact hk _ (List.mem_map.mpr ⟨i, List.mem_range.mpr hi, rfl⟩)
theorem adL_len (N : Nat) (a : Nat → Nat → Nat) : ∀ r, r ∈ adL N a → r.length = N * N := by
  intro r hr
  obtain ⟨i, h1, rfl⟩ := List.mem_map.mp hr
  rw [List.length_map, List.length_range]
theorem ys_makeRows {post : SY → Prop} {N r : Nat} {g : Nat → Nat} {mn te dv ot fc kp rw : Nat → Nat} (h1 : 1 ≤ N) (hN : N ≤ 4) (hr : r < 5) (hg : ∀ j, g j < 5)
    (H : ∀ rw' : Nat → Nat, (∀ i k, i < N * N → k < N * N → rw' (16 * i + k) = adc N (zSl g N r) i k) → post (zY N g mn te dv ot fc kp rw')) :
    wpY_makeRows post (zY N g mn te dv ot fc kp rw) (nI r) := by
  have hsq := zi_sq hN
  have hA := zSl_lt hg N r
  generalize hn : N * N = n at *
  show ∃ n2, wY_makeRows_2 post (nI r) (nI N) n2 0 (zA g) (zA mn) (zA te) (zA dv) (zA ot) (zA fc) (zA kp) (zA rw)
  refine loop_0 (fun m i (s : Nat → Nat) => wY_makeRows_2 post (nI r) (nI N) m (nI i) (zA g) (zA mn) (zA te) (zA dv) (zA ot) (zA fc) (zA kp) (zA s))
    (fun i s => ∀ i' k, i' < i → i' < n → k < n → s (16 * i' + k) = adc N (zSl g N r) i' k) n rw (fun i' k h => absurd h (by omega)) ?_ ?_
  · intro m s hI
    exact br_t (by rw [pk_mul, hn]; exact nI_le (Nat.le_refl _) (by omega)) (H s (fun i k hi hk => hI i k hi hi hk))
  · intro m i s hi hI ih
    refine br_f (by rw [pk_mul, hn]; exact nI_ge hi (by omega)) ?_
    refine loop_0 (fun m' k (s' : Nat → Nat) => wY_makeRows_17 post (wY_makeRows_2 post (nI r) (nI N) m) (nI r) (nI i) (nI N) m' (nI k) (zA g) (zA mn) (zA te) (zA dv) (zA ot) (zA fc) (zA kp) (zA s'))
      (fun k s' => ∀ i' k', (i' < i ∨ (i' = i ∧ k' < k)) → i' < n → k' < n → s' (16 * i' + k') = adc N (zSl g N r) i' k') n s (fun i' k' h hi' hk' => hI i' k' (by omega) hi' hk') ?_ ?_
    · intro m' s' hJ
      refine br_t (by rw [pk_mul, hn]; exact nI_le (Nat.le_refl _) (by omega)) (nm_r (nI_1 i) (ih s' (fun i' k' h hi' hk' => hJ i' k' (by omega) hi' hk')))
    · intro m' k s' hk hJ ih'
      have nN : ¬ nI N = 0 := nI_ne0 (by omega) (by omega)
      have i1 : i / N < N := (Nat.div_lt_iff_lt_mul (by omega)).mpr (by omega)
      have i2 : i % N < N := Nat.mod_lt _ (by omega)
      have k1 : k / N < N := (Nat.div_lt_iff_lt_mul (by omega)).mpr (by omega)
      have k2 : k % N < N := Nat.mod_lt _ (by omega)
      have last : ∀ z0 z1 : Nat, z0 ≤ 5 → z1 < 5 → (z1 + z0) % 5 = adc N (zSl g N r) i k → wY_makeRows_104 post (wY_makeRows_2 post (nI r) (nI N) m) (wY_makeRows_17 post (wY_makeRows_2 post (nI r) (nI N) m) (nI r) (nI i) (nI N) m') (nI r) (nI i) (nI k) (nI z0) (nI z1) (nI N) (zA g) (zA mn) (zA te) (zA dv) (zA ot) (zA fc) (zA kp) (zA s') := by
        intro z0 z1 hz0 hz1 hz
        unfold wY_makeRows_104
        rw [nI_add, z16m, nI_add, nI_clamp (by omega)]
        refine nm_e ⟨zf5, vp_in_nI (by omega) (by decide), nm_r (e' := zA (zu s' (16 * i + k) ((z1 + z0) % 5))) (by rw [z5r (by omega), zA_upd]) (nm_r (nI_1 k) (ih' _ ?_))⟩
        intro i' k' h hi' hk'
        by_cases e : 16 * i' + k' = 16 * i + k
        · have ei : i' = i := by omega
          have ek : k' = k := by omega
          subst ei; subst ek
          rw [zu_s, hz]
        · rw [zu_n e]; exact hJ i' k' (by omega) hi' hk'
      have mid : ∀ z1 : Nat, z1 < 5 → (z1 = if i % N = k % N then zSl g N r (i / N) (k / N) else 0) → wY_makeRows_82 post (wY_makeRows_2 post (nI r) (nI N) m) (wY_makeRows_17 post (wY_makeRows_2 post (nI r) (nI N) m) (nI r) (nI i) (nI N) m') (nI r) (nI i) (nI k) (nI (i / N)) (nI (i % N)) (nI (k / N)) (nI (k % N)) (nI z1) (nI N) (zA g) (zA mn) (zA te) (zA dv) (zA ot) (zA fc) (zA kp) (zA s') := by
        intro z1 hz1 ez
        unfold wY_makeRows_82
        refine pk_eq (i / N) (k / N) ?_ ?_
        · intro e
          have b1 := hA (k % N) (i % N)
          refine ys_entry hN hr k2 i2 ?_
          rw [← zSl_at (c := g) (s := r) k2 i2, z5s (by omega)]
          refine last _ z1 (by omega) hz1 ?_
          unfold adc
          rw [if_pos e, ← ez]
        · intro e
          refine last 0 z1 (by omega) hz1 ?_
          unfold adc
          rw [if_neg e, ← ez]
      refine br_f (by rw [pk_mul, hn]; exact nI_ge hk (by omega)) ⟨nN, nm_r (pk_div (by omega) (by omega) (by omega)) ⟨nN, nm_r (pk_rem (by omega) (by omega) (by omega)) ⟨nN, nm_r (pk_div (by omega) (by omega) (by omega)) ⟨nN, nm_r (pk_rem (by omega) (by omega) (by omega)) (pk_eq (i % N) (k % N) ?_ ?_)⟩⟩⟩⟩
      · intro e
        refine ys_entry hN hr i1 k1 ?_
        rw [← zSl_at (c := g) (s := r) i1 k1]
        exact mid _ (hA _ _) (by rw [if_pos e])
      · intro e
        exact mid 0 (by decide) (by rw [if_neg e])
theorem ys_commutant {post : Int32 → SY → Prop} {N r m : Nat} {g : Nat → Nat} {mn te dv ot fc kp rw : Nat → Nat} (h1 : 1 ≤ N) (hN : N ≤ 4) (hr : r < 4) (hg : ∀ j, g j < 5) (hm : Dim (N * N) (kerl (adL N (zSl g N r))) m)
    (H : ∀ rw' : Nat → Nat, post (nI m) (zY N g mn te dv ot fc kp rw')) :
    wpY_commutant post (zY N g mn te dv ot fc kp rw) (nI r) := by
  have hsq := zi_sq hN
  have hq := zsqs h1
  unfold wpY_commutant; dsimp only
  refine yr_ok hr (br_f zf1 (ys_makeRows h1 hN (by omega) hg ?_))
  intro rw0 e0
  have hker := ker_ad e0
  have hm0 : Dim (N * N) (kerR (N * N) rw0) m := Dim_iff hker hm
  have hb0 : bR (N * N) rw0 := fun i k hi hk => by rw [e0 i k hi hk]; exact Nat.mod_lt _ (by decide)
  refine loop_0 (fun n c (q : Nat × (Nat → Nat)) => wY_commutant_19 post n (nI q.1) (nI c) (nI N) (zA g) (zA mn) (zA te) (zA dv) (zA ot) (zA fc) (zA kp) (zA q.2))
    (fun c q => Inv (N * N) rw0 c q.1 q.2) (N * N) (0, rw0) ⟨hb0, Nat.le_refl _, fun _ => Iff.rfl, ⟨fun _ => 0, fun i hi => absurd hi (by omega), fun i j _ hj => absurd hj (by omega)⟩, fun i _ _ k hk => absurd hk (by omega)⟩ ?_ ?_
  · intro n q hI
    have hd := Inv_dim hI hm0
    refine br_t (by rw [pk_mul]; exact nI_le (Nat.le_refl _) (by omega)) ?_
    rw [pk_mul, pk_sub (by omega), show N * N - q.1 = m by omega]
    exact H q.2
  · intro n c q hc hI ih
    have hpc := hI.2.1
    refine br_f (by rw [pk_mul]; exact nI_ge hc (by omega)) (ys_bring h1 hN hc (by omega) hI.1 ?_ ?_)
    · intro hz
      exact br_t rfl (nm_r (nI_1 c) (ih q (Inv_skip hI hz)))
    · intro i0 hi0 hi0n hne R1 b1 e1
      refine br_f zf1 (ys_clearR h1 hN hc (by omega) b1 ?_)
      intro R2 b2 e2
      exact nm_r (nI_1 q.1) (nm_r (nI_1 c) (ih (q.1 + 1, R2) (Inv_step (by omega) hc hI hi0 hi0n hne b2 e1 e2)))
theorem xs_commutant {post : Int32 → SX → Prop} {N : Nat} {c m f s : Nat → Nat} (h1 : 1 ≤ N) (hN : N ≤ 4) (hf : ∀ i, i < N → f i = s i) (hs : ∀ i, i < N → s i < 3125)
    (H : post (nI (zs (fun i => (2 * (N - 1 - i) + 1) * dg (s i)) N)) (zX N c m f)) :
    ∃ n19, wX_commutant_19 post (nI N) (zA c) (zA m) (zA f) n19 0 0 := by
  have hb : ∀ i, zs (fun i => (2 * (N - 1 - i) + 1) * dg (s i)) i ≤ i * 64 := fun i => zs_le (fun t => by
    have := dg_4 (s t)
    have : (2 * (N - 1 - t) + 1) * dg (s t) ≤ 16 * 4 := Nat.mul_le_mul (by omega) (by omega)
    omega) i
  refine loop_0 (fun n i (q : Nat) => wX_commutant_19 post (nI N) (zA c) (zA m) (zA f) n (nI q) (nI i)) (fun i q => q = zs (fun i => (2 * (N - 1 - i) + 1) * dg (s i)) i) N 0 rfl ?_ ?_
  · intro n q hq
    refine br_t (nI_le (Nat.le_refl _) (by omega)) ?_
    rw [hq]; exact H
  · intro n i q hi hq ih
    have e0 : (2 : Int32) * (nI N - 1 - nI i) + 1 = nI (2 * (N - 1 - i) + 1) := by
      rw [zs1 h1, pk_sub (by omega), z2m, nI_1]
    refine br_f (nI_ge hi (by omega)) (nm_r e0 ⟨vp_in_nI (by omega) (by decide), ?_⟩)
    rw [nI_clamp (by omega), zA_at, hf i hi]
    refine xs_degree (hs i hi) (nm_r (e' := nI (q + (2 * (N - 1 - i) + 1) * dg (s i))) (by rw [pk_mul, nI_add]) (nm_r (nI_1 i) (ih _ ?_)))
    rw [hq]; rfl
end
section
/-! the equations say that the matrices commute -/
def mx (N : Nat) (x : Nat → Fin 5) : Nat → Nat → Fin 5 := fun i j => x (N * i + j)
def comm (N : Nat) (a : Nat → Nat → Fin 5) (x : Nat → Fin 5) : Prop := fEq N (fM N a (mx N x)) (fM N (mx N x) a)
theorem kc1_0_0 (a : Nat → Nat → Nat) (h5 : ∀ i j, kk (5 - a i j) = - kk (a i j)) (x : Nat → Fin 5) : fs (fun k => kk (adc 1 a 0 k) * x k) 1 = fM 1 (fun i j => kk (a i j)) (mx 1 x) 0 0 - fM 1 (mx 1 x) (fun i j => kk (a i j)) 0 0 := by
  simp [fs, adc, fM, mx, kk_mod, kk_add, h5, kk_0]
  grind
theorem kc2_0_0 (a : Nat → Nat → Nat) (h5 : ∀ i j, kk (5 - a i j) = - kk (a i j)) (x : Nat → Fin 5) : fs (fun k => kk (adc 2 a 0 k) * x k) 4 = fM 2 (fun i j => kk (a i j)) (mx 2 x) 0 0 - fM 2 (mx 2 x) (fun i j => kk (a i j)) 0 0 := by
  simp [fs, adc, fM, mx, kk_mod, kk_add, h5, kk_0]
  grind
theorem kc2_0_1 (a : Nat → Nat → Nat) (h5 : ∀ i j, kk (5 - a i j) = - kk (a i j)) (x : Nat → Fin 5) : fs (fun k => kk (adc 2 a 1 k) * x k) 4 = fM 2 (fun i j => kk (a i j)) (mx 2 x) 0 1 - fM 2 (mx 2 x) (fun i j => kk (a i j)) 0 1 := by
  simp [fs, adc, fM, mx, kk_mod, kk_add, h5, kk_0]
  grind
theorem kc2_1_0 (a : Nat → Nat → Nat) (h5 : ∀ i j, kk (5 - a i j) = - kk (a i j)) (x : Nat → Fin 5) : fs (fun k => kk (adc 2 a 2 k) * x k) 4 = fM 2 (fun i j => kk (a i j)) (mx 2 x) 1 0 - fM 2 (mx 2 x) (fun i j => kk (a i j)) 1 0 := by
  simp [fs, adc, fM, mx, kk_mod, kk_add, h5, kk_0]
  grind
theorem kc2_1_1 (a : Nat → Nat → Nat) (h5 : ∀ i j, kk (5 - a i j) = - kk (a i j)) (x : Nat → Fin 5) : fs (fun k => kk (adc 2 a 3 k) * x k) 4 = fM 2 (fun i j => kk (a i j)) (mx 2 x) 1 1 - fM 2 (mx 2 x) (fun i j => kk (a i j)) 1 1 := by
  simp [fs, adc, fM, mx, kk_mod, kk_add, h5, kk_0]
  grind
theorem kc3_0_0 (a : Nat → Nat → Nat) (h5 : ∀ i j, kk (5 - a i j) = - kk (a i j)) (x : Nat → Fin 5) : fs (fun k => kk (adc 3 a 0 k) * x k) 9 = fM 3 (fun i j => kk (a i j)) (mx 3 x) 0 0 - fM 3 (mx 3 x) (fun i j => kk (a i j)) 0 0 := by
  simp [fs, adc, fM, mx, kk_mod, kk_add, h5, kk_0]
  grind
theorem kc3_0_1 (a : Nat → Nat → Nat) (h5 : ∀ i j, kk (5 - a i j) = - kk (a i j)) (x : Nat → Fin 5) : fs (fun k => kk (adc 3 a 1 k) * x k) 9 = fM 3 (fun i j => kk (a i j)) (mx 3 x) 0 1 - fM 3 (mx 3 x) (fun i j => kk (a i j)) 0 1 := by
  simp [fs, adc, fM, mx, kk_mod, kk_add, h5, kk_0]
  grind
theorem kc3_0_2 (a : Nat → Nat → Nat) (h5 : ∀ i j, kk (5 - a i j) = - kk (a i j)) (x : Nat → Fin 5) : fs (fun k => kk (adc 3 a 2 k) * x k) 9 = fM 3 (fun i j => kk (a i j)) (mx 3 x) 0 2 - fM 3 (mx 3 x) (fun i j => kk (a i j)) 0 2 := by
  simp [fs, adc, fM, mx, kk_mod, kk_add, h5, kk_0]
  grind
theorem kc3_1_0 (a : Nat → Nat → Nat) (h5 : ∀ i j, kk (5 - a i j) = - kk (a i j)) (x : Nat → Fin 5) : fs (fun k => kk (adc 3 a 3 k) * x k) 9 = fM 3 (fun i j => kk (a i j)) (mx 3 x) 1 0 - fM 3 (mx 3 x) (fun i j => kk (a i j)) 1 0 := by
  simp [fs, adc, fM, mx, kk_mod, kk_add, h5, kk_0]
  grind
theorem kc3_1_1 (a : Nat → Nat → Nat) (h5 : ∀ i j, kk (5 - a i j) = - kk (a i j)) (x : Nat → Fin 5) : fs (fun k => kk (adc 3 a 4 k) * x k) 9 = fM 3 (fun i j => kk (a i j)) (mx 3 x) 1 1 - fM 3 (mx 3 x) (fun i j => kk (a i j)) 1 1 := by
  simp [fs, adc, fM, mx, kk_mod, kk_add, h5, kk_0]
  grind
theorem kc3_1_2 (a : Nat → Nat → Nat) (h5 : ∀ i j, kk (5 - a i j) = - kk (a i j)) (x : Nat → Fin 5) : fs (fun k => kk (adc 3 a 5 k) * x k) 9 = fM 3 (fun i j => kk (a i j)) (mx 3 x) 1 2 - fM 3 (mx 3 x) (fun i j => kk (a i j)) 1 2 := by
  simp [fs, adc, fM, mx, kk_mod, kk_add, h5, kk_0]
  grind
theorem kc3_2_0 (a : Nat → Nat → Nat) (h5 : ∀ i j, kk (5 - a i j) = - kk (a i j)) (x : Nat → Fin 5) : fs (fun k => kk (adc 3 a 6 k) * x k) 9 = fM 3 (fun i j => kk (a i j)) (mx 3 x) 2 0 - fM 3 (mx 3 x) (fun i j => kk (a i j)) 2 0 := by
  simp [fs, adc, fM, mx, kk_mod, kk_add, h5, kk_0]
  grind
theorem kc3_2_1 (a : Nat → Nat → Nat) (h5 : ∀ i j, kk (5 - a i j) = - kk (a i j)) (x : Nat → Fin 5) : fs (fun k => kk (adc 3 a 7 k) * x k) 9 = fM 3 (fun i j => kk (a i j)) (mx 3 x) 2 1 - fM 3 (mx 3 x) (fun i j => kk (a i j)) 2 1 := by
  simp [fs, adc, fM, mx, kk_mod, kk_add, h5, kk_0]
  grind
theorem kc3_2_2 (a : Nat → Nat → Nat) (h5 : ∀ i j, kk (5 - a i j) = - kk (a i j)) (x : Nat → Fin 5) : fs (fun k => kk (adc 3 a 8 k) * x k) 9 = fM 3 (fun i j => kk (a i j)) (mx 3 x) 2 2 - fM 3 (mx 3 x) (fun i j => kk (a i j)) 2 2 := by
  simp [fs, adc, fM, mx, kk_mod, kk_add, h5, kk_0]
  grind
theorem kc4_0_0 (a : Nat → Nat → Nat) (h5 : ∀ i j, kk (5 - a i j) = - kk (a i j)) (x : Nat → Fin 5) : fs (fun k => kk (adc 4 a 0 k) * x k) 16 = fM 4 (fun i j => kk (a i j)) (mx 4 x) 0 0 - fM 4 (mx 4 x) (fun i j => kk (a i j)) 0 0 := by
  simp [fs, adc, fM, mx, kk_mod, kk_add, h5, kk_0]
  grind
theorem kc4_0_1 (a : Nat → Nat → Nat) (h5 : ∀ i j, kk (5 - a i j) = - kk (a i j)) (x : Nat → Fin 5) : fs (fun k => kk (adc 4 a 1 k) * x k) 16 = fM 4 (fun i j => kk (a i j)) (mx 4 x) 0 1 - fM 4 (mx 4 x) (fun i j => kk (a i j)) 0 1 := by
  simp [fs, adc, fM, mx, kk_mod, kk_add, h5, kk_0]
  grind
theorem kc4_0_2 (a : Nat → Nat → Nat) (h5 : ∀ i j, kk (5 - a i j) = - kk (a i j)) (x : Nat → Fin 5) : fs (fun k => kk (adc 4 a 2 k) * x k) 16 = fM 4 (fun i j => kk (a i j)) (mx 4 x) 0 2 - fM 4 (mx 4 x) (fun i j => kk (a i j)) 0 2 := by
  simp [fs, adc, fM, mx, kk_mod, kk_add, h5, kk_0]
  grind
theorem kc4_0_3 (a : Nat → Nat → Nat) (h5 : ∀ i j, kk (5 - a i j) = - kk (a i j)) (x : Nat → Fin 5) : fs (fun k => kk (adc 4 a 3 k) * x k) 16 = fM 4 (fun i j => kk (a i j)) (mx 4 x) 0 3 - fM 4 (mx 4 x) (fun i j => kk (a i j)) 0 3 := by
  simp [fs, adc, fM, mx, kk_mod, kk_add, h5, kk_0]
  grind
theorem kc4_1_0 (a : Nat → Nat → Nat) (h5 : ∀ i j, kk (5 - a i j) = - kk (a i j)) (x : Nat → Fin 5) : fs (fun k => kk (adc 4 a 4 k) * x k) 16 = fM 4 (fun i j => kk (a i j)) (mx 4 x) 1 0 - fM 4 (mx 4 x) (fun i j => kk (a i j)) 1 0 := by
  simp [fs, adc, fM, mx, kk_mod, kk_add, h5, kk_0]
  grind
theorem kc4_1_1 (a : Nat → Nat → Nat) (h5 : ∀ i j, kk (5 - a i j) = - kk (a i j)) (x : Nat → Fin 5) : fs (fun k => kk (adc 4 a 5 k) * x k) 16 = fM 4 (fun i j => kk (a i j)) (mx 4 x) 1 1 - fM 4 (mx 4 x) (fun i j => kk (a i j)) 1 1 := by
  simp [fs, adc, fM, mx, kk_mod, kk_add, h5, kk_0]
  grind
theorem kc4_1_2 (a : Nat → Nat → Nat) (h5 : ∀ i j, kk (5 - a i j) = - kk (a i j)) (x : Nat → Fin 5) : fs (fun k => kk (adc 4 a 6 k) * x k) 16 = fM 4 (fun i j => kk (a i j)) (mx 4 x) 1 2 - fM 4 (mx 4 x) (fun i j => kk (a i j)) 1 2 := by
  simp [fs, adc, fM, mx, kk_mod, kk_add, h5, kk_0]
  grind
theorem kc4_1_3 (a : Nat → Nat → Nat) (h5 : ∀ i j, kk (5 - a i j) = - kk (a i j)) (x : Nat → Fin 5) : fs (fun k => kk (adc 4 a 7 k) * x k) 16 = fM 4 (fun i j => kk (a i j)) (mx 4 x) 1 3 - fM 4 (mx 4 x) (fun i j => kk (a i j)) 1 3 := by
  simp [fs, adc, fM, mx, kk_mod, kk_add, h5, kk_0]
  grind
theorem kc4_2_0 (a : Nat → Nat → Nat) (h5 : ∀ i j, kk (5 - a i j) = - kk (a i j)) (x : Nat → Fin 5) : fs (fun k => kk (adc 4 a 8 k) * x k) 16 = fM 4 (fun i j => kk (a i j)) (mx 4 x) 2 0 - fM 4 (mx 4 x) (fun i j => kk (a i j)) 2 0 := by
  simp [fs, adc, fM, mx, kk_mod, kk_add, h5, kk_0]
  grind
theorem kc4_2_1 (a : Nat → Nat → Nat) (h5 : ∀ i j, kk (5 - a i j) = - kk (a i j)) (x : Nat → Fin 5) : fs (fun k => kk (adc 4 a 9 k) * x k) 16 = fM 4 (fun i j => kk (a i j)) (mx 4 x) 2 1 - fM 4 (mx 4 x) (fun i j => kk (a i j)) 2 1 := by
  simp [fs, adc, fM, mx, kk_mod, kk_add, h5, kk_0]
  grind
theorem kc4_2_2 (a : Nat → Nat → Nat) (h5 : ∀ i j, kk (5 - a i j) = - kk (a i j)) (x : Nat → Fin 5) : fs (fun k => kk (adc 4 a 10 k) * x k) 16 = fM 4 (fun i j => kk (a i j)) (mx 4 x) 2 2 - fM 4 (mx 4 x) (fun i j => kk (a i j)) 2 2 := by
  simp [fs, adc, fM, mx, kk_mod, kk_add, h5, kk_0]
  grind
theorem kc4_2_3 (a : Nat → Nat → Nat) (h5 : ∀ i j, kk (5 - a i j) = - kk (a i j)) (x : Nat → Fin 5) : fs (fun k => kk (adc 4 a 11 k) * x k) 16 = fM 4 (fun i j => kk (a i j)) (mx 4 x) 2 3 - fM 4 (mx 4 x) (fun i j => kk (a i j)) 2 3 := by
  simp [fs, adc, fM, mx, kk_mod, kk_add, h5, kk_0]
  grind
theorem kc4_3_0 (a : Nat → Nat → Nat) (h5 : ∀ i j, kk (5 - a i j) = - kk (a i j)) (x : Nat → Fin 5) : fs (fun k => kk (adc 4 a 12 k) * x k) 16 = fM 4 (fun i j => kk (a i j)) (mx 4 x) 3 0 - fM 4 (mx 4 x) (fun i j => kk (a i j)) 3 0 := by
  simp [fs, adc, fM, mx, kk_mod, kk_add, h5, kk_0]
  grind
theorem kc4_3_1 (a : Nat → Nat → Nat) (h5 : ∀ i j, kk (5 - a i j) = - kk (a i j)) (x : Nat → Fin 5) : fs (fun k => kk (adc 4 a 13 k) * x k) 16 = fM 4 (fun i j => kk (a i j)) (mx 4 x) 3 1 - fM 4 (mx 4 x) (fun i j => kk (a i j)) 3 1 := by
  simp [fs, adc, fM, mx, kk_mod, kk_add, h5, kk_0]
  grind
theorem kc4_3_2 (a : Nat → Nat → Nat) (h5 : ∀ i j, kk (5 - a i j) = - kk (a i j)) (x : Nat → Fin 5) : fs (fun k => kk (adc 4 a 14 k) * x k) 16 = fM 4 (fun i j => kk (a i j)) (mx 4 x) 3 2 - fM 4 (mx 4 x) (fun i j => kk (a i j)) 3 2 := by
  simp [fs, adc, fM, mx, kk_mod, kk_add, h5, kk_0]
  grind
theorem kc4_3_3 (a : Nat → Nat → Nat) (h5 : ∀ i j, kk (5 - a i j) = - kk (a i j)) (x : Nat → Fin 5) : fs (fun k => kk (adc 4 a 15 k) * x k) 16 = fM 4 (fun i j => kk (a i j)) (mx 4 x) 3 3 - fM 4 (mx 4 x) (fun i j => kk (a i j)) 3 3 := by
  simp [fs, adc, fM, mx, kk_mod, kk_add, h5, kk_0]
  grind
theorem kc_all (a : Nat → Nat → Nat) (h5 : ∀ i j, kk (5 - a i j) = - kk (a i j)) (x : Nat → Fin 5) {N : Nat} (h1 : 1 ≤ N) (h4 : N ≤ 4) {i j : Nat} (hi : i < N) (hj : j < N) : fs (fun k => kk (adc N a (N * i + j) k) * x k) (N * N) = fM N (fun i j => kk (a i j)) (mx N x) i j - fM N (mx N x) (fun i j => kk (a i j)) i j := by
  match N, h1, h4 with
  | 1, _, _ =>
    match i, hi, j, hj with
    | 0, _, 0, _ => exact kc1_0_0 a h5 x
  | 2, _, _ =>
    match i, hi, j, hj with
    | 0, _, 0, _ => exact kc2_0_0 a h5 x
    | 0, _, 1, _ => exact kc2_0_1 a h5 x
    | 1, _, 0, _ => exact kc2_1_0 a h5 x
    | 1, _, 1, _ => exact kc2_1_1 a h5 x
  | 3, _, _ =>
    match i, hi, j, hj with
    | 0, _, 0, _ => exact kc3_0_0 a h5 x
    | 0, _, 1, _ => exact kc3_0_1 a h5 x
    | 0, _, 2, _ => exact kc3_0_2 a h5 x
    | 1, _, 0, _ => exact kc3_1_0 a h5 x
    | 1, _, 1, _ => exact kc3_1_1 a h5 x
    | 1, _, 2, _ => exact kc3_1_2 a h5 x
    | 2, _, 0, _ => exact kc3_2_0 a h5 x
    | 2, _, 1, _ => exact kc3_2_1 a h5 x
    | 2, _, 2, _ => exact kc3_2_2 a h5 x
  | 4, _, _ =>
    match i, hi, j, hj with
    | 0, _, 0, _ => exact kc4_0_0 a h5 x
    | 0, _, 1, _ => exact kc4_0_1 a h5 x
    | 0, _, 2, _ => exact kc4_0_2 a h5 x
    | 0, _, 3, _ => exact kc4_0_3 a h5 x
    | 1, _, 0, _ => exact kc4_1_0 a h5 x
    | 1, _, 1, _ => exact kc4_1_1 a h5 x
    | 1, _, 2, _ => exact kc4_1_2 a h5 x
    | 1, _, 3, _ => exact kc4_1_3 a h5 x
    | 2, _, 0, _ => exact kc4_2_0 a h5 x
    | 2, _, 1, _ => exact kc4_2_1 a h5 x
    | 2, _, 2, _ => exact kc4_2_2 a h5 x
    | 2, _, 3, _ => exact kc4_2_3 a h5 x
    | 3, _, 0, _ => exact kc4_3_0 a h5 x
    | 3, _, 1, _ => exact kc4_3_1 a h5 x
    | 3, _, 2, _ => exact kc4_3_2 a h5 x
    | 3, _, 3, _ => exact kc4_3_3 a h5 x
theorem kc {N : Nat} (h1 : 1 ≤ N) (h4 : N ≤ 4) {a : Nat → Nat → Nat} (ha : ∀ i j, a i j < 5) (x : Nat → Fin 5) : kerl (adL N a) x ↔ comm N (fun i j => kk (a i j)) x := by
  have h5 : ∀ i j, kk (5 - a i j) = - kk (a i j) := fun i j => kk_5s (by have := ha i j; omega)
  refine ⟨fun h i j hi hj => ?_, fun h r hr => ?_⟩
  · have := h _ (List.mem_map.mpr ⟨N * i + j, List.mem_range.mpr (zi_lt hi hj), rfl⟩)
    rw [dotl_range, kc_all a h5 x h1 h4 hi hj] at this
    grind
  · obtain ⟨t, ht, rfl⟩ := List.mem_map.mp hr
    obtain ⟨i, j, hi, hj, rfl⟩ := zij (List.mem_range.mp ht)
    rw [dotl_range, kc_all a h5 x h1 h4 hi hj, h i j hi hj]
    grind
end
section
/-! similar matrices -/
def sp (N : Nat) (a : Nat → Nat → Fin 5) : Prop := ∀ i j, ¬ (i < N ∧ j < N) → a i j = 0
def idn (N : Nat) : Nat → Nat → Fin 5 := fun i j => if i = j ∧ i < N then 1 else 0
theorem sp_ext {N : Nat} {a b : Nat → Nat → Fin 5} (ha : sp N a) (hb : sp N b) (h : fEq N a b) : a = b := by
  funext i j
  by_cases e : i < N ∧ j < N
  · exact h i j e.1 e.2
  · rw [ha i j e, hb i j e]
theorem fs_0 {f : Nat → Fin 5} : ∀ n, (∀ t, t < n → f t = 0) → fs f n = 0 := by
  intro n
  induction n with
  | zero => intro _; rfl
  | succ n ih =>
    intro h
    show fs f n + f n = 0
    rw [ih (fun t ht => h t (by omega)), h n (by omega)]; rfl
theorem sp_M {N : Nat} {a b : Nat → Nat → Fin 5} (ha : sp N a) (hb : sp N b) : sp N (fM N a b) := by
  intro i j h
  refine fs_0 N (fun t ht => ?_)
  by_cases e : i < N
  · rw [hb t j (fun z => h ⟨e, z.2⟩)]; grind
  · rw [ha i t (fun z => e z.1)]; grind
theorem sp_id (N : Nat) : sp N (idn N) := by
  intro i j h
  show (if i = j ∧ i < N then 1 else 0) = (0 : Fin 5)
  by_cases e : i = j ∧ i < N
  · exact absurd ⟨e.2, by rw [← e.1]; exact e.2⟩ h
  · exact if_neg e
theorem idn_eq (N : Nat) : fEq N (idn N) (fun i j => if i = j then 1 else 0) := by
  intro i j hi hj
  show (if i = j ∧ i < N then 1 else 0) = (if i = j then (1 : Fin 5) else 0)
  by_cases e : i = j
  · rw [if_pos ⟨e, hi⟩, if_pos e]
  · rw [if_neg (fun z => e z.1), if_neg e]
theorem M_idR {N : Nat} (hN : N ≤ 4) {a : Nat → Nat → Fin 5} (ha : sp N a) : fM N a (idn N) = a := by
  refine sp_ext (sp_M ha (sp_id N)) ha (fun i j hi hj => ?_)
  rw [fM_eqR a (idn_eq N) hj]
  have := fM_id hN a 1 i j hi hj
  dsimp only at this
  rw [this]; grind
theorem M_idL {N : Nat} (hN : N ≤ 4) {a : Nat → Nat → Fin 5} (ha : sp N a) : fM N (idn N) a = a := by
  refine sp_ext (sp_M (sp_id N) ha) ha (fun i j hi hj => ?_)
  rw [fM_eqL a (idn_eq N) hi]
  exact fM_idL hN a hi
theorem M_as {N : Nat} (hN : N ≤ 4) (a b c : Nat → Nat → Fin 5) : fM N (fM N a b) c = fM N a (fM N b c) := by
  funext i k; exact fM_assoc hN a b c i k
def Inver (N : Nat) (S T : Nat → Nat → Fin 5) : Prop := sp N S ∧ sp N T ∧ fM N S T = idn N ∧ fM N T S = idn N
def Sim (N : Nat) (a b : Nat → Nat → Fin 5) : Prop := ∃ S T, Inver N S T ∧ a = fM N (fM N S b) T
theorem inv_ex {N : Nat} (h1 : 1 ≤ N) (hN : N ≤ 4) {S : Nat → Nat → Fin 5} (hS : sp N S) (hd : dtm S N (2 ^ N - 1) (2 ^ N - 1) ≠ 0) : ∃ T, Inver N S T := by
  generalize hD : dtm S N (2 ^ N - 1) (2 ^ N - 1) = D at *
  have kinv := kt_inv D hd
  let T : Nat → Nat → Fin 5 := fun i j => if i < N ∧ j < N then (D * D * D) * adj S N i j else 0
  have hT : sp N T := fun i j h => if_neg h
  have eT : fEq N T (fun i j => (D * D * D) * adj S N i j) := fun i j hi hj => if_pos ⟨hi, hj⟩
  refine ⟨T, hS, hT, sp_ext (sp_M hS hT) (sp_id N) (fun i j hi hj => ?_), sp_ext (sp_M hT hS) (sp_id N) (fun i j hi hj => ?_)⟩
  · rw [fM_eqR S eT hj, idn_eq N i j hi hj]
    have : fM N S (fun i j => (D * D * D) * adj S N i j) i j = (D * D * D) * fM N S (adj S N) i j := by
      unfold fM
      rw [← fs_s]
      exact fs_cong N (fun t _ => by grind)
    rw [this, ma_all S h1 hN hi hj, hD]
    dsimp only
    split <;> grind
  · rw [fM_eqL S eT hi, fM_s, am_all S h1 hN hi hj, hD, idn_eq N i j hi hj]
    dsimp only
    split <;> grind
theorem Sim_tr {N : Nat} (hN : N ≤ 4) {a b c : Nat → Nat → Fin 5} (h : Sim N a b) (h' : Sim N b c) : Sim N a c := by
  obtain ⟨S, T, ⟨s1, t1, e1, e2⟩, ha⟩ := h
  obtain ⟨S', T', ⟨s2, t2, e3, e4⟩, hb⟩ := h'
  refine ⟨fM N S S', fM N T' T, ⟨sp_M s1 s2, sp_M t2 t1, ?_, ?_⟩, ?_⟩
  · rw [M_as hN, ← M_as hN S', e3, M_idL hN t1, e1]
  · rw [M_as hN, ← M_as hN T, e2, M_idL hN s2, e4]
  · rw [ha, hb]
    simp only [M_as hN]
theorem Sim_sy {N : Nat} (hN : N ≤ 4) {a b : Nat → Nat → Fin 5} (hb : sp N b) (h : Sim N a b) : Sim N b a := by
  obtain ⟨S, T, ⟨s1, t1, e1, e2⟩, ha⟩ := h
  refine ⟨T, S, ⟨t1, s1, e2, e1⟩, ?_⟩
  rw [ha, ← M_as hN T, ← M_as hN T, e2, M_idL hN hb, M_as hN b, e2, M_idR hN hb]
theorem Sim_rf {N : Nat} (hN : N ≤ 4) {a : Nat → Nat → Fin 5} (ha : sp N a) : Sim N a a :=
  ⟨idn N, idn N, ⟨sp_id N, sp_id N, M_idL hN (sp_id N), M_idL hN (sp_id N)⟩, by rw [M_idL hN ha, M_idR hN ha]⟩
theorem Sim_cj {N : Nat} (hN : N ≤ 4) {a S T : Nat → Nat → Fin 5} (ha : sp N a) (h : Inver N S T) : Sim N a (fM N (fM N T a) S) := by
  obtain ⟨s1, t1, e1, e2⟩ := h
  refine ⟨S, T, ⟨s1, t1, e1, e2⟩, ?_⟩
  rw [← M_as hN S, ← M_as hN S, e1, M_idL hN ha, M_as hN a, e1, M_idR hN ha]
/-- a column of the conjugate -/
theorem cj_col {N : Nat} (hN : N ≤ 4) {a S T : Nat → Nat → Fin 5} (h : Inver N S T) {j : Nat} (b : Nat → Fin 5) (e : ∀ i, i < N → fM N a S i j = fs (fun u => S i u * b u) N) : ∀ i, i < N → fM N (fM N T a) S i j = b i := by
  obtain ⟨s1, t1, e1, e2⟩ := h
  intro i hi
  rw [fM_assoc hN]
  have : fM N T (fM N a S) i j = fM N T (fM N S (fun u _ => b u)) i j := by
    refine fs_cong N (fun t ht => ?_)
    rw [e t ht]; rfl
  rw [this, ← fM_assoc hN, e2, fM_eqL _ (idn_eq N) hi]
  exact fM_idL hN _ hi
theorem mx_lin (N : Nat) (x : Nat → Fin 5) : fEq N (mx N x) (mx N x) := fun _ _ _ _ => rfl
def vec (N : Nat) (X : Nat → Nat → Fin 5) : Nat → Fin 5 := fun t => X (t / N) (t % N)
theorem mx_vec {N : Nat} (X : Nat → Nat → Fin 5) : fEq N (mx N (vec N X)) X := by
  intro i j hi hj
  show X ((N * i + j) / N) ((N * i + j) % N) = X i j
  rw [Nat.mul_add_div (by omega), Nat.div_eq_of_lt hj, Nat.mul_add_mod, Nat.mod_eq_of_lt hj, Nat.add_zero]
def res (N : Nat) (X : Nat → Nat → Fin 5) : Nat → Nat → Fin 5 := fun i j => if i < N ∧ j < N then X i j else 0
theorem sp_res (N : Nat) (X : Nat → Nat → Fin 5) : sp N (res N X) := fun _ _ h => if_neg h
theorem res_eq (N : Nat) (X : Nat → Nat → Fin 5) : fEq N (res N X) X := fun _ _ hi hj => if_pos ⟨hi, hj⟩
theorem comm_res {N : Nat} {a : Nat → Nat → Fin 5} (ha : sp N a) (x : Nat → Fin 5) : comm N a x ↔ fM N a (res N (mx N x)) = fM N (res N (mx N x)) a := by
  refine ⟨fun h => sp_ext (sp_M ha (sp_res _ _)) (sp_M (sp_res _ _) ha) (fun i j hi hj => ?_), fun h i j hi hj => ?_⟩
  · rw [fM_eqR a (res_eq N _) hj, fM_eqL a (res_eq N _) hi]; exact h i j hi hj
  · rw [← fM_eqR a (res_eq N (mx N x)) hj, ← fM_eqL a (res_eq N (mx N x)) hi, h]
theorem Dim_sim {N m : Nat} (hN : N ≤ 4) {a b : Nat → Nat → Fin 5} (ha : sp N a) (hb : sp N b) (h : Sim N a b) (hd : Dim (N * N) (comm N b) m) : Dim (N * N) (comm N a) m := by
  obtain ⟨S, T, ⟨s1, t1, e1, e2⟩, eab⟩ := h
  have eba : b = fM N (fM N T a) S := by
    rw [eab, ← M_as hN T, ← M_as hN T, e2, M_idL hN hb, M_as hN b, e2, M_idR hN hb]
  have conj : ∀ (U V c c' : Nat → Nat → Fin 5), sp N U → sp N V → sp N c → sp N c' → fM N U V = idn N → fM N V U = idn N → c' = fM N (fM N U c) V → ∀ x, comm N c x → comm N c' (vec N (fM N (fM N U (res N (mx N x))) V)) := by
    intro U V c c' hU hV hc hc' f1 f2 hcc x hx
    rw [comm_res hc] at hx
    rw [comm_res hc']
    have er : res N (mx N (vec N (fM N (fM N U (res N (mx N x))) V))) = fM N (fM N U (res N (mx N x))) V := by
      refine sp_ext (sp_res _ _) (sp_M (sp_M hU (sp_res _ _)) hV) (fun i j hi hj => ?_)
      rw [res_eq N _ i j hi hj]; exact mx_vec _ i j hi hj
    rw [er, hcc]
    generalize hY : res N (mx N x) = Y at *
    have hYs : sp N Y := by rw [← hY]; exact sp_res _ _
    have l1 : fM N (fM N (fM N U c) V) (fM N (fM N U Y) V) = fM N (fM N U (fM N c Y)) V := by
      rw [M_as hN (fM N U c), ← M_as hN V, ← M_as hN V, f2, M_idL hN hYs, M_as hN U c, ← M_as hN c, ← M_as hN U]
    have l2 : fM N (fM N (fM N U Y) V) (fM N (fM N U c) V) = fM N (fM N U (fM N Y c)) V := by
      rw [M_as hN (fM N U Y), ← M_as hN V, ← M_as hN V, f2, M_idL hN hc, M_as hN U Y, ← M_as hN Y, ← M_as hN U]
    rw [l1, l2, hx]
  have inj : ∀ (U V : Nat → Nat → Fin 5), sp N U → sp N V → fM N U V = idn N → fM N V U = idn N → ∀ x y, eqn (N * N) (vec N (fM N (fM N U (res N (mx N x))) V)) (vec N (fM N (fM N U (res N (mx N y))) V)) → eqn (N * N) x y := by
    intro U V hU hV f1 f2 x y hxy
    have hX := sp_res N (mx N x)
    have hY := sp_res N (mx N y)
    have e3 : fM N (fM N U (res N (mx N x))) V = fM N (fM N U (res N (mx N y))) V := by
      refine sp_ext (sp_M (sp_M hU hX) hV) (sp_M (sp_M hU hY) hV) (fun i j hi hj => ?_)
      rw [← mx_vec (fM N (fM N U (res N (mx N x))) V) i j hi hj, ← mx_vec (fM N (fM N U (res N (mx N y))) V) i j hi hj]
      exact hxy _ (zi_lt hi hj)
    have back : ∀ Z, sp N Z → fM N (fM N V (fM N (fM N U Z) V)) U = Z := by
      intro Z hZ
      rw [← M_as hN V, ← M_as hN V, f2, M_idL hN hZ, M_as hN Z, f2, M_idR hN hZ]
    have e4 : res N (mx N x) = res N (mx N y) := by
      rw [← back _ hX, ← back _ hY, e3]
    intro t ht
    obtain ⟨i, j, hi, hj, rfl⟩ := zij ht
    have := congrFun (congrFun e4 i) j
    rw [res_eq N _ i j hi hj, res_eq N _ i j hi hj] at this
    exact this
  obtain ⟨⟨f, f1, f2⟩, ⟨q, q1, q2⟩⟩ := hd
  refine ⟨⟨fun t => vec N (fM N (fM N S (res N (mx N (f t)))) T), fun t ht => conj S T b a s1 t1 hb ha e1 e2 eab _ (f1 t ht), fun t t' ht ht' z => f2 t t' ht ht' (inj S T s1 t1 e1 e2 _ _ z)⟩,
    ⟨fun x => q (vec N (fM N (fM N T (res N (mx N x))) S)), fun x hx => q1 _ (conj T S a b t1 s1 ha hb e2 e1 eba x hx), fun x y hx hy z => inj T S t1 s1 e2 e1 _ _ (q2 _ _ (conj T S a b t1 s1 ha hb e2 e1 eba x hx) (conj T S a b t1 s1 ha hb e2 e1 eba y hy) z)⟩⟩
end
section
/-! small determinants by rows -/
def d2 (u v : Nat → Fin 5) (c1 c2 : Nat) : Fin 5 := u c1 * v c2 - u c2 * v c1
def d3 (u v z : Nat → Fin 5) (c1 c2 c3 : Nat) : Fin 5 := u c1 * (v c2 * z c3 - v c3 * z c2) - u c2 * (v c1 * z c3 - v c3 * z c1) + u c3 * (v c1 * z c2 - v c2 * z c1)
theorem de_1_1 (M : Nat → Nat → Fin 5) : dtm M 1 1 1 = M 0 0 := by
  simp [dtm, lapM, lo, rs, d2, d3] <;> grind
theorem de_1_2 (M : Nat → Nat → Fin 5) : dtm M 1 1 2 = M 0 1 := by
  simp [dtm, lapM, lo, rs, d2, d3] <;> grind
theorem de_1_4 (M : Nat → Nat → Fin 5) : dtm M 1 1 4 = M 0 2 := by
  simp [dtm, lapM, lo, rs, d2, d3] <;> grind
theorem de_1_8 (M : Nat → Nat → Fin 5) : dtm M 1 1 8 = M 0 3 := by
  simp [dtm, lapM, lo, rs, d2, d3] <;> grind
theorem de_2_1 (M : Nat → Nat → Fin 5) : dtm M 1 2 1 = M 1 0 := by
  simp [dtm, lapM, lo, rs, d2, d3] <;> grind
theorem de_2_2 (M : Nat → Nat → Fin 5) : dtm M 1 2 2 = M 1 1 := by
  simp [dtm, lapM, lo, rs, d2, d3] <;> grind
theorem de_2_4 (M : Nat → Nat → Fin 5) : dtm M 1 2 4 = M 1 2 := by
  simp [dtm, lapM, lo, rs, d2, d3] <;> grind
theorem de_2_8 (M : Nat → Nat → Fin 5) : dtm M 1 2 8 = M 1 3 := by
  simp [dtm, lapM, lo, rs, d2, d3] <;> grind
theorem de_4_1 (M : Nat → Nat → Fin 5) : dtm M 1 4 1 = M 2 0 := by
  simp [dtm, lapM, lo, rs, d2, d3] <;> grind
theorem de_4_2 (M : Nat → Nat → Fin 5) : dtm M 1 4 2 = M 2 1 := by
  simp [dtm, lapM, lo, rs, d2, d3] <;> grind
theorem de_4_4 (M : Nat → Nat → Fin 5) : dtm M 1 4 4 = M 2 2 := by
  simp [dtm, lapM, lo, rs, d2, d3] <;> grind
theorem de_4_8 (M : Nat → Nat → Fin 5) : dtm M 1 4 8 = M 2 3 := by
  simp [dtm, lapM, lo, rs, d2, d3] <;> grind
theorem de_8_1 (M : Nat → Nat → Fin 5) : dtm M 1 8 1 = M 3 0 := by
  simp [dtm, lapM, lo, rs, d2, d3] <;> grind
theorem de_8_2 (M : Nat → Nat → Fin 5) : dtm M 1 8 2 = M 3 1 := by
  simp [dtm, lapM, lo, rs, d2, d3] <;> grind
theorem de_8_4 (M : Nat → Nat → Fin 5) : dtm M 1 8 4 = M 3 2 := by
  simp [dtm, lapM, lo, rs, d2, d3] <;> grind
theorem de_8_8 (M : Nat → Nat → Fin 5) : dtm M 1 8 8 = M 3 3 := by
  simp [dtm, lapM, lo, rs, d2, d3] <;> grind
theorem der1_1 (M : Nat → Nat → Fin 5) : ∀ C, C < 16 → pc C = 1 → (fun R => dtm M 1 R C = M (lo R) (lo C)) 1 := by
  intro C hC h
  match C, hC, h with
  | 0, _, h => exact absurd h (by decide)
  | 1, _, _ => exact de_1_1 M
  | 2, _, _ => exact de_1_2 M
  | 3, _, h => exact absurd h (by decide)
  | 4, _, _ => exact de_1_4 M
  | 5, _, h => exact absurd h (by decide)
  | 6, _, h => exact absurd h (by decide)
  | 7, _, h => exact absurd h (by decide)
  | 8, _, _ => exact de_1_8 M
  | 9, _, h => exact absurd h (by decide)
  | 10, _, h => exact absurd h (by decide)
  | 11, _, h => exact absurd h (by decide)
  | 12, _, h => exact absurd h (by decide)
  | 13, _, h => exact absurd h (by decide)
  | 14, _, h => exact absurd h (by decide)
  | 15, _, h => exact absurd h (by decide)
  | (n + 16), hC, _ => exact absurd hC (by omega)
theorem der1_2 (M : Nat → Nat → Fin 5) : ∀ C, C < 16 → pc C = 1 → (fun R => dtm M 1 R C = M (lo R) (lo C)) 2 := by
  intro C hC h
  match C, hC, h with
  | 0, _, h => exact absurd h (by decide)
  | 1, _, _ => exact de_2_1 M
  | 2, _, _ => exact de_2_2 M
  | 3, _, h => exact absurd h (by decide)
  | 4, _, _ => exact de_2_4 M
  | 5, _, h => exact absurd h (by decide)
  | 6, _, h => exact absurd h (by decide)
  | 7, _, h => exact absurd h (by decide)
  | 8, _, _ => exact de_2_8 M
  | 9, _, h => exact absurd h (by decide)
  | 10, _, h => exact absurd h (by decide)
  | 11, _, h => exact absurd h (by decide)
  | 12, _, h => exact absurd h (by decide)
  | 13, _, h => exact absurd h (by decide)
  | 14, _, h => exact absurd h (by decide)
  | 15, _, h => exact absurd h (by decide)
  | (n + 16), hC, _ => exact absurd hC (by omega)
theorem der1_4 (M : Nat → Nat → Fin 5) : ∀ C, C < 16 → pc C = 1 → (fun R => dtm M 1 R C = M (lo R) (lo C)) 4 := by
  intro C hC h
  match C, hC, h with
  | 0, _, h => exact absurd h (by decide)
  | 1, _, _ => exact de_4_1 M
  | 2, _, _ => exact de_4_2 M
  | 3, _, h => exact absurd h (by decide)
  | 4, _, _ => exact de_4_4 M
  | 5, _, h => exact absurd h (by decide)
  | 6, _, h => exact absurd h (by decide)
  | 7, _, h => exact absurd h (by decide)
  | 8, _, _ => exact de_4_8 M
  | 9, _, h => exact absurd h (by decide)
  | 10, _, h => exact absurd h (by decide)
  | 11, _, h => exact absurd h (by decide)
  | 12, _, h => exact absurd h (by decide)
  | 13, _, h => exact absurd h (by decide)
  | 14, _, h => exact absurd h (by decide)
  | 15, _, h => exact absurd h (by decide)
  | (n + 16), hC, _ => exact absurd hC (by omega)
theorem der1_8 (M : Nat → Nat → Fin 5) : ∀ C, C < 16 → pc C = 1 → (fun R => dtm M 1 R C = M (lo R) (lo C)) 8 := by
  intro C hC h
  match C, hC, h with
  | 0, _, h => exact absurd h (by decide)
  | 1, _, _ => exact de_8_1 M
  | 2, _, _ => exact de_8_2 M
  | 3, _, h => exact absurd h (by decide)
  | 4, _, _ => exact de_8_4 M
  | 5, _, h => exact absurd h (by decide)
  | 6, _, h => exact absurd h (by decide)
  | 7, _, h => exact absurd h (by decide)
  | 8, _, _ => exact de_8_8 M
  | 9, _, h => exact absurd h (by decide)
  | 10, _, h => exact absurd h (by decide)
  | 11, _, h => exact absurd h (by decide)
  | 12, _, h => exact absurd h (by decide)
  | 13, _, h => exact absurd h (by decide)
  | 14, _, h => exact absurd h (by decide)
  | 15, _, h => exact absurd h (by decide)
  | (n + 16), hC, _ => exact absurd hC (by omega)
theorem dt_1 (M : Nat → Nat → Fin 5) : ∀ R, R < 16 → pc R = 1 → ∀ C, C < 16 → pc C = 1 → dtm M 1 R C = M (lo R) (lo C) := by
  intro R hR h
  match R, hR, h with
  | 0, _, h => exact absurd h (by decide)
  | 1, _, _ => exact der1_1 M
  | 2, _, _ => exact der1_2 M
  | 3, _, h => exact absurd h (by decide)
  | 4, _, _ => exact der1_4 M
  | 5, _, h => exact absurd h (by decide)
  | 6, _, h => exact absurd h (by decide)
  | 7, _, h => exact absurd h (by decide)
  | 8, _, _ => exact der1_8 M
  | 9, _, h => exact absurd h (by decide)
  | 10, _, h => exact absurd h (by decide)
  | 11, _, h => exact absurd h (by decide)
  | 12, _, h => exact absurd h (by decide)
  | 13, _, h => exact absurd h (by decide)
  | 14, _, h => exact absurd h (by decide)
  | 15, _, h => exact absurd h (by decide)
  | (n + 16), hR, _ => exact absurd hR (by omega)
theorem de_3_3 (M : Nat → Nat → Fin 5) : dtm M 2 3 3 = d2 (M 0) (M 1) 0 1 := by
  simp [dtm, lapM, lo, rs, d2, d3] <;> grind
theorem de_3_5 (M : Nat → Nat → Fin 5) : dtm M 2 3 5 = d2 (M 0) (M 1) 0 2 := by
  simp [dtm, lapM, lo, rs, d2, d3] <;> grind
theorem de_3_6 (M : Nat → Nat → Fin 5) : dtm M 2 3 6 = d2 (M 0) (M 1) 1 2 := by
  simp [dtm, lapM, lo, rs, d2, d3] <;> grind
theorem de_3_9 (M : Nat → Nat → Fin 5) : dtm M 2 3 9 = d2 (M 0) (M 1) 0 3 := by
  simp [dtm, lapM, lo, rs, d2, d3] <;> grind
theorem de_3_10 (M : Nat → Nat → Fin 5) : dtm M 2 3 10 = d2 (M 0) (M 1) 1 3 := by
  simp [dtm, lapM, lo, rs, d2, d3] <;> grind
theorem de_3_12 (M : Nat → Nat → Fin 5) : dtm M 2 3 12 = d2 (M 0) (M 1) 2 3 := by
  simp [dtm, lapM, lo, rs, d2, d3] <;> grind
theorem de_5_3 (M : Nat → Nat → Fin 5) : dtm M 2 5 3 = d2 (M 0) (M 2) 0 1 := by
  simp [dtm, lapM, lo, rs, d2, d3] <;> grind
theorem de_5_5 (M : Nat → Nat → Fin 5) : dtm M 2 5 5 = d2 (M 0) (M 2) 0 2 := by
  simp [dtm, lapM, lo, rs, d2, d3] <;> grind
theorem de_5_6 (M : Nat → Nat → Fin 5) : dtm M 2 5 6 = d2 (M 0) (M 2) 1 2 := by
  simp [dtm, lapM, lo, rs, d2, d3] <;> grind
theorem de_5_9 (M : Nat → Nat → Fin 5) : dtm M 2 5 9 = d2 (M 0) (M 2) 0 3 := by
  simp [dtm, lapM, lo, rs, d2, d3] <;> grind
theorem de_5_10 (M : Nat → Nat → Fin 5) : dtm M 2 5 10 = d2 (M 0) (M 2) 1 3 := by
  simp [dtm, lapM, lo, rs, d2, d3] <;> grind
theorem de_5_12 (M : Nat → Nat → Fin 5) : dtm M 2 5 12 = d2 (M 0) (M 2) 2 3 := by
  simp [dtm, lapM, lo, rs, d2, d3] <;> grind
theorem de_6_3 (M : Nat → Nat → Fin 5) : dtm M 2 6 3 = d2 (M 1) (M 2) 0 1 := by
  simp [dtm, lapM, lo, rs, d2, d3] <;> grind
theorem de_6_5 (M : Nat → Nat → Fin 5) : dtm M 2 6 5 = d2 (M 1) (M 2) 0 2 := by
  simp [dtm, lapM, lo, rs, d2, d3] <;> grind
theorem de_6_6 (M : Nat → Nat → Fin 5) : dtm M 2 6 6 = d2 (M 1) (M 2) 1 2 := by
  simp [dtm, lapM, lo, rs, d2, d3] <;> grind
theorem de_6_9 (M : Nat → Nat → Fin 5) : dtm M 2 6 9 = d2 (M 1) (M 2) 0 3 := by
  simp [dtm, lapM, lo, rs, d2, d3] <;> grind
theorem de_6_10 (M : Nat → Nat → Fin 5) : dtm M 2 6 10 = d2 (M 1) (M 2) 1 3 := by
  simp [dtm, lapM, lo, rs, d2, d3] <;> grind
theorem de_6_12 (M : Nat → Nat → Fin 5) : dtm M 2 6 12 = d2 (M 1) (M 2) 2 3 := by
  simp [dtm, lapM, lo, rs, d2, d3] <;> grind
theorem de_9_3 (M : Nat → Nat → Fin 5) : dtm M 2 9 3 = d2 (M 0) (M 3) 0 1 := by
  simp [dtm, lapM, lo, rs, d2, d3] <;> grind
theorem de_9_5 (M : Nat → Nat → Fin 5) : dtm M 2 9 5 = d2 (M 0) (M 3) 0 2 := by
  simp [dtm, lapM, lo, rs, d2, d3] <;> grind
theorem de_9_6 (M : Nat → Nat → Fin 5) : dtm M 2 9 6 = d2 (M 0) (M 3) 1 2 := by
  simp [dtm, lapM, lo, rs, d2, d3] <;> grind
theorem de_9_9 (M : Nat → Nat → Fin 5) : dtm M 2 9 9 = d2 (M 0) (M 3) 0 3 := by
  simp [dtm, lapM, lo, rs, d2, d3] <;> grind
theorem de_9_10 (M : Nat → Nat → Fin 5) : dtm M 2 9 10 = d2 (M 0) (M 3) 1 3 := by
  simp [dtm, lapM, lo, rs, d2, d3] <;> grind
theorem de_9_12 (M : Nat → Nat → Fin 5) : dtm M 2 9 12 = d2 (M 0) (M 3) 2 3 := by
  simp [dtm, lapM, lo, rs, d2, d3] <;> grind
theorem de_10_3 (M : Nat → Nat → Fin 5) : dtm M 2 10 3 = d2 (M 1) (M 3) 0 1 := by
  simp [dtm, lapM, lo, rs, d2, d3] <;> grind
theorem de_10_5 (M : Nat → Nat → Fin 5) : dtm M 2 10 5 = d2 (M 1) (M 3) 0 2 := by
  simp [dtm, lapM, lo, rs, d2, d3] <;> grind
theorem de_10_6 (M : Nat → Nat → Fin 5) : dtm M 2 10 6 = d2 (M 1) (M 3) 1 2 := by
  simp [dtm, lapM, lo, rs, d2, d3] <;> grind
theorem de_10_9 (M : Nat → Nat → Fin 5) : dtm M 2 10 9 = d2 (M 1) (M 3) 0 3 := by
  simp [dtm, lapM, lo, rs, d2, d3] <;> grind
theorem de_10_10 (M : Nat → Nat → Fin 5) : dtm M 2 10 10 = d2 (M 1) (M 3) 1 3 := by
  simp [dtm, lapM, lo, rs, d2, d3] <;> grind
theorem de_10_12 (M : Nat → Nat → Fin 5) : dtm M 2 10 12 = d2 (M 1) (M 3) 2 3 := by
  simp [dtm, lapM, lo, rs, d2, d3] <;> grind
theorem de_12_3 (M : Nat → Nat → Fin 5) : dtm M 2 12 3 = d2 (M 2) (M 3) 0 1 := by
  simp [dtm, lapM, lo, rs, d2, d3] <;> grind
theorem de_12_5 (M : Nat → Nat → Fin 5) : dtm M 2 12 5 = d2 (M 2) (M 3) 0 2 := by
  simp [dtm, lapM, lo, rs, d2, d3] <;> grind
theorem de_12_6 (M : Nat → Nat → Fin 5) : dtm M 2 12 6 = d2 (M 2) (M 3) 1 2 := by
  simp [dtm, lapM, lo, rs, d2, d3] <;> grind
theorem de_12_9 (M : Nat → Nat → Fin 5) : dtm M 2 12 9 = d2 (M 2) (M 3) 0 3 := by
  simp [dtm, lapM, lo, rs, d2, d3] <;> grind
theorem de_12_10 (M : Nat → Nat → Fin 5) : dtm M 2 12 10 = d2 (M 2) (M 3) 1 3 := by
  simp [dtm, lapM, lo, rs, d2, d3] <;> grind
theorem de_12_12 (M : Nat → Nat → Fin 5) : dtm M 2 12 12 = d2 (M 2) (M 3) 2 3 := by
  simp [dtm, lapM, lo, rs, d2, d3] <;> grind
theorem der2_3 (M : Nat → Nat → Fin 5) : ∀ C, C < 16 → pc C = 2 → (fun R => dtm M 2 R C = d2 (M (lo R)) (M (lo (rs R))) (lo C) (lo (rs C))) 3 := by
  intro C hC h
  match C, hC, h with
  | 0, _, h => exact absurd h (by decide)
  | 1, _, h => exact absurd h (by decide)
  | 2, _, h => exact absurd h (by decide)
  | 3, _, _ => exact de_3_3 M
  | 4, _, h => exact absurd h (by decide)
  | 5, _, _ => exact de_3_5 M
  | 6, _, _ => exact de_3_6 M
  | 7, _, h => exact absurd h (by decide)
  | 8, _, h => exact absurd h (by decide)
  | 9, _, _ => exact de_3_9 M
  | 10, _, _ => exact de_3_10 M
  | 11, _, h => exact absurd h (by decide)
  | 12, _, _ => exact de_3_12 M
  | 13, _, h => exact absurd h (by decide)
  | 14, _, h => exact absurd h (by decide)
  | 15, _, h => exact absurd h (by decide)
  | (n + 16), hC, _ => exact absurd hC (by omega)
theorem der2_5 (M : Nat → Nat → Fin 5) : ∀ C, C < 16 → pc C = 2 → (fun R => dtm M 2 R C = d2 (M (lo R)) (M (lo (rs R))) (lo C) (lo (rs C))) 5 := by
  intro C hC h
  match C, hC, h with
  | 0, _, h => exact absurd h (by decide)
  | 1, _, h => exact absurd h (by decide)
  | 2, _, h => exact absurd h (by decide)
  | 3, _, _ => exact de_5_3 M
  | 4, _, h => exact absurd h (by decide)
  | 5, _, _ => exact de_5_5 M
  | 6, _, _ => exact de_5_6 M
  | 7, _, h => exact absurd h (by decide)
  | 8, _, h => exact absurd h (by decide)
  | 9, _, _ => exact de_5_9 M
  | 10, _, _ => exact de_5_10 M
  | 11, _, h => exact absurd h (by decide)
  | 12, _, _ => exact de_5_12 M
  | 13, _, h => exact absurd h (by decide)
  | 14, _, h => exact absurd h (by decide)
  | 15, _, h => exact absurd h (by decide)
  | (n + 16), hC, _ => exact absurd hC (by omega)
theorem der2_6 (M : Nat → Nat → Fin 5) : ∀ C, C < 16 → pc C = 2 → (fun R => dtm M 2 R C = d2 (M (lo R)) (M (lo (rs R))) (lo C) (lo (rs C))) 6 := by
  intro C hC h
  match C, hC, h with
  | 0, _, h => exact absurd h (by decide)
  | 1, _, h => exact absurd h (by decide)
  | 2, _, h => exact absurd h (by decide)
  | 3, _, _ => exact de_6_3 M
  | 4, _, h => exact absurd h (by decide)
  | 5, _, _ => exact de_6_5 M
  | 6, _, _ => exact de_6_6 M
  | 7, _, h => exact absurd h (by decide)
  | 8, _, h => exact absurd h (by decide)
  | 9, _, _ => exact de_6_9 M
  | 10, _, _ => exact de_6_10 M
  | 11, _, h => exact absurd h (by decide)
  | 12, _, _ => exact de_6_12 M
  | 13, _, h => exact absurd h (by decide)
  | 14, _, h => exact absurd h (by decide)
  | 15, _, h => exact absurd h (by decide)
  | (n + 16), hC, _ => exact absurd hC (by omega)
theorem der2_9 (M : Nat → Nat → Fin 5) : ∀ C, C < 16 → pc C = 2 → (fun R => dtm M 2 R C = d2 (M (lo R)) (M (lo (rs R))) (lo C) (lo (rs C))) 9 := by
  intro C hC h
  match C, hC, h with
  | 0, _, h => exact absurd h (by decide)
  | 1, _, h => exact absurd h (by decide)
  | 2, _, h => exact absurd h (by decide)
  | 3, _, _ => exact de_9_3 M
  | 4, _, h => exact absurd h (by decide)
  | 5, _, _ => exact de_9_5 M
  | 6, _, _ => exact de_9_6 M
  | 7, _, h => exact absurd h (by decide)
  | 8, _, h => exact absurd h (by decide)
  | 9, _, _ => exact de_9_9 M
  | 10, _, _ => exact de_9_10 M
  | 11, _, h => exact absurd h (by decide)
  | 12, _, _ => exact de_9_12 M
  | 13, _, h => exact absurd h (by decide)
  | 14, _, h => exact absurd h (by decide)
  | 15, _, h => exact absurd h (by decide)
  | (n + 16), hC, _ => exact absurd hC (by omega)
theorem der2_10 (M : Nat → Nat → Fin 5) : ∀ C, C < 16 → pc C = 2 → (fun R => dtm M 2 R C = d2 (M (lo R)) (M (lo (rs R))) (lo C) (lo (rs C))) 10 := by
  intro C hC h
  match C, hC, h with
  | 0, _, h => exact absurd h (by decide)
  | 1, _, h => exact absurd h (by decide)
  | 2, _, h => exact absurd h (by decide)
  | 3, _, _ => exact de_10_3 M
  | 4, _, h => exact absurd h (by decide)
  | 5, _, _ => exact de_10_5 M
  | 6, _, _ => exact de_10_6 M
  | 7, _, h => exact absurd h (by decide)
  | 8, _, h => exact absurd h (by decide)
  | 9, _, _ => exact de_10_9 M
  | 10, _, _ => exact de_10_10 M
  | 11, _, h => exact absurd h (by decide)
  | 12, _, _ => exact de_10_12 M
  | 13, _, h => exact absurd h (by decide)
  | 14, _, h => exact absurd h (by decide)
  | 15, _, h => exact absurd h (by decide)
  | (n + 16), hC, _ => exact absurd hC (by omega)
theorem der2_12 (M : Nat → Nat → Fin 5) : ∀ C, C < 16 → pc C = 2 → (fun R => dtm M 2 R C = d2 (M (lo R)) (M (lo (rs R))) (lo C) (lo (rs C))) 12 := by
  intro C hC h
  match C, hC, h with
  | 0, _, h => exact absurd h (by decide)
  | 1, _, h => exact absurd h (by decide)
  | 2, _, h => exact absurd h (by decide)
  | 3, _, _ => exact de_12_3 M
  | 4, _, h => exact absurd h (by decide)
  | 5, _, _ => exact de_12_5 M
  | 6, _, _ => exact de_12_6 M
  | 7, _, h => exact absurd h (by decide)
  | 8, _, h => exact absurd h (by decide)
  | 9, _, _ => exact de_12_9 M
  | 10, _, _ => exact de_12_10 M
  | 11, _, h => exact absurd h (by decide)
  | 12, _, _ => exact de_12_12 M
  | 13, _, h => exact absurd h (by decide)
  | 14, _, h => exact absurd h (by decide)
  | 15, _, h => exact absurd h (by decide)
  | (n + 16), hC, _ => exact absurd hC (by omega)
theorem dt_2 (M : Nat → Nat → Fin 5) : ∀ R, R < 16 → pc R = 2 → ∀ C, C < 16 → pc C = 2 → dtm M 2 R C = d2 (M (lo R)) (M (lo (rs R))) (lo C) (lo (rs C)) := by
  intro R hR h
  match R, hR, h with
  | 0, _, h => exact absurd h (by decide)
  | 1, _, h => exact absurd h (by decide)
  | 2, _, h => exact absurd h (by decide)
  | 3, _, _ => exact der2_3 M
  | 4, _, h => exact absurd h (by decide)
  | 5, _, _ => exact der2_5 M
  | 6, _, _ => exact der2_6 M
  | 7, _, h => exact absurd h (by decide)
  | 8, _, h => exact absurd h (by decide)
  | 9, _, _ => exact der2_9 M
  | 10, _, _ => exact der2_10 M
  | 11, _, h => exact absurd h (by decide)
  | 12, _, _ => exact der2_12 M
  | 13, _, h => exact absurd h (by decide)
  | 14, _, h => exact absurd h (by decide)
  | 15, _, h => exact absurd h (by decide)
  | (n + 16), hR, _ => exact absurd hR (by omega)
theorem de_7_7 (M : Nat → Nat → Fin 5) : dtm M 3 7 7 = d3 (M 0) (M 1) (M 2) 0 1 2 := by
  simp [dtm, lapM, lo, rs, d2, d3] <;> grind
theorem de_7_11 (M : Nat → Nat → Fin 5) : dtm M 3 7 11 = d3 (M 0) (M 1) (M 2) 0 1 3 := by
  simp [dtm, lapM, lo, rs, d2, d3] <;> grind
theorem de_7_13 (M : Nat → Nat → Fin 5) : dtm M 3 7 13 = d3 (M 0) (M 1) (M 2) 0 2 3 := by
  simp [dtm, lapM, lo, rs, d2, d3] <;> grind
theorem de_7_14 (M : Nat → Nat → Fin 5) : dtm M 3 7 14 = d3 (M 0) (M 1) (M 2) 1 2 3 := by
  simp [dtm, lapM, lo, rs, d2, d3] <;> grind
theorem de_11_7 (M : Nat → Nat → Fin 5) : dtm M 3 11 7 = d3 (M 0) (M 1) (M 3) 0 1 2 := by
  simp [dtm, lapM, lo, rs, d2, d3] <;> grind
theorem de_11_11 (M : Nat → Nat → Fin 5) : dtm M 3 11 11 = d3 (M 0) (M 1) (M 3) 0 1 3 := by
  simp [dtm, lapM, lo, rs, d2, d3] <;> grind
theorem de_11_13 (M : Nat → Nat → Fin 5) : dtm M 3 11 13 = d3 (M 0) (M 1) (M 3) 0 2 3 := by
  simp [dtm, lapM, lo, rs, d2, d3] <;> grind
theorem de_11_14 (M : Nat → Nat → Fin 5) : dtm M 3 11 14 = d3 (M 0) (M 1) (M 3) 1 2 3 := by
  simp [dtm, lapM, lo, rs, d2, d3] <;> grind
theorem de_13_7 (M : Nat → Nat → Fin 5) : dtm M 3 13 7 = d3 (M 0) (M 2) (M 3) 0 1 2 := by
  simp [dtm, lapM, lo, rs, d2, d3] <;> grind
theorem de_13_11 (M : Nat → Nat → Fin 5) : dtm M 3 13 11 = d3 (M 0) (M 2) (M 3) 0 1 3 := by
  simp [dtm, lapM, lo, rs, d2, d3] <;> grind
theorem de_13_13 (M : Nat → Nat → Fin 5) : dtm M 3 13 13 = d3 (M 0) (M 2) (M 3) 0 2 3 := by
  simp [dtm, lapM, lo, rs, d2, d3] <;> grind
theorem de_13_14 (M : Nat → Nat → Fin 5) : dtm M 3 13 14 = d3 (M 0) (M 2) (M 3) 1 2 3 := by
  simp [dtm, lapM, lo, rs, d2, d3] <;> grind
theorem de_14_7 (M : Nat → Nat → Fin 5) : dtm M 3 14 7 = d3 (M 1) (M 2) (M 3) 0 1 2 := by
  simp [dtm, lapM, lo, rs, d2, d3] <;> grind
theorem de_14_11 (M : Nat → Nat → Fin 5) : dtm M 3 14 11 = d3 (M 1) (M 2) (M 3) 0 1 3 := by
  simp [dtm, lapM, lo, rs, d2, d3] <;> grind
theorem de_14_13 (M : Nat → Nat → Fin 5) : dtm M 3 14 13 = d3 (M 1) (M 2) (M 3) 0 2 3 := by
  simp [dtm, lapM, lo, rs, d2, d3] <;> grind
theorem de_14_14 (M : Nat → Nat → Fin 5) : dtm M 3 14 14 = d3 (M 1) (M 2) (M 3) 1 2 3 := by
  simp [dtm, lapM, lo, rs, d2, d3] <;> grind
theorem der3_7 (M : Nat → Nat → Fin 5) : ∀ C, C < 16 → pc C = 3 → (fun R => dtm M 3 R C = d3 (M (lo R)) (M (lo (rs R))) (M (lo (rs (rs R)))) (lo C) (lo (rs C)) (lo (rs (rs C)))) 7 := by
  intro C hC h
  match C, hC, h with
  | 0, _, h => exact absurd h (by decide)
  | 1, _, h => exact absurd h (by decide)
  | 2, _, h => exact absurd h (by decide)
  | 3, _, h => exact absurd h (by decide)
  | 4, _, h => exact absurd h (by decide)
  | 5, _, h => exact absurd h (by decide)
  | 6, _, h => exact absurd h (by decide)
  | 7, _, _ => exact de_7_7 M
  | 8, _, h => exact absurd h (by decide)
  | 9, _, h => exact absurd h (by decide)
  | 10, _, h => exact absurd h (by decide)
  | 11, _, _ => exact de_7_11 M
  | 12, _, h => exact absurd h (by decide)
  | 13, _, _ => exact de_7_13 M
  | 14, _, _ => exact de_7_14 M
  | 15, _, h => exact absurd h (by decide)
  | (n + 16), hC, _ => exact absurd hC (by omega)
theorem der3_11 (M : Nat → Nat → Fin 5) : ∀ C, C < 16 → pc C = 3 → (fun R => dtm M 3 R C = d3 (M (lo R)) (M (lo (rs R))) (M (lo (rs (rs R)))) (lo C) (lo (rs C)) (lo (rs (rs C)))) 11 := by
  intro C hC h
  match C, hC, h with
  | 0, _, h => exact absurd h (by decide)
  | 1, _, h => exact absurd h (by decide)
  | 2, _, h => exact absurd h (by decide)
  | 3, _, h => exact absurd h (by decide)
  | 4, _, h => exact absurd h (by decide)
  | 5, _, h => exact absurd h (by decide)
  | 6, _, h => exact absurd h (by decide)
  | 7, _, _ => exact de_11_7 M
  | 8, _, h => exact absurd h (by decide)
  | 9, _, h => exact absurd h (by decide)
  | 10, _, h => exact absurd h (by decide)
  | 11, _, _ => exact de_11_11 M
  | 12, _, h => exact absurd h (by decide)
  | 13, _, _ => exact de_11_13 M
  | 14, _, _ => exact de_11_14 M
  | 15, _, h => exact absurd h (by decide)
  | (n + 16), hC, _ => exact absurd hC (by omega)
theorem der3_13 (M : Nat → Nat → Fin 5) : ∀ C, C < 16 → pc C = 3 → (fun R => dtm M 3 R C = d3 (M (lo R)) (M (lo (rs R))) (M (lo (rs (rs R)))) (lo C) (lo (rs C)) (lo (rs (rs C)))) 13 := by
  intro C hC h
  match C, hC, h with
  | 0, _, h => exact absurd h (by decide)
  | 1, _, h => exact absurd h (by decide)
  | 2, _, h => exact absurd h (by decide)
  | 3, _, h => exact absurd h (by decide)
  | 4, _, h => exact absurd h (by decide)
  | 5, _, h => exact absurd h (by decide)
  | 6, _, h => exact absurd h (by decide)
  | 7, _, _ => exact de_13_7 M
  | 8, _, h => exact absurd h (by decide)
  | 9, _, h => exact absurd h (by decide)
  | 10, _, h => exact absurd h (by decide)
  | 11, _, _ => exact de_13_11 M
  | 12, _, h => exact absurd h (by decide)
  | 13, _, _ => exact de_13_13 M
  | 14, _, _ => exact de_13_14 M
  | 15, _, h => exact absurd h (by decide)
  | (n + 16), hC, _ => exact absurd hC (by omega)
theorem der3_14 (M : Nat → Nat → Fin 5) : ∀ C, C < 16 → pc C = 3 → (fun R => dtm M 3 R C = d3 (M (lo R)) (M (lo (rs R))) (M (lo (rs (rs R)))) (lo C) (lo (rs C)) (lo (rs (rs C)))) 14 := by
  intro C hC h
  match C, hC, h with
  | 0, _, h => exact absurd h (by decide)
  | 1, _, h => exact absurd h (by decide)
  | 2, _, h => exact absurd h (by decide)
  | 3, _, h => exact absurd h (by decide)
  | 4, _, h => exact absurd h (by decide)
  | 5, _, h => exact absurd h (by decide)
  | 6, _, h => exact absurd h (by decide)
  | 7, _, _ => exact de_14_7 M
  | 8, _, h => exact absurd h (by decide)
  | 9, _, h => exact absurd h (by decide)
  | 10, _, h => exact absurd h (by decide)
  | 11, _, _ => exact de_14_11 M
  | 12, _, h => exact absurd h (by decide)
  | 13, _, _ => exact de_14_13 M
  | 14, _, _ => exact de_14_14 M
  | 15, _, h => exact absurd h (by decide)
  | (n + 16), hC, _ => exact absurd hC (by omega)
theorem dt_3 (M : Nat → Nat → Fin 5) : ∀ R, R < 16 → pc R = 3 → ∀ C, C < 16 → pc C = 3 → dtm M 3 R C = d3 (M (lo R)) (M (lo (rs R))) (M (lo (rs (rs R)))) (lo C) (lo (rs C)) (lo (rs (rs C))) := by
  intro R hR h
  match R, hR, h with
  | 0, _, h => exact absurd h (by decide)
  | 1, _, h => exact absurd h (by decide)
  | 2, _, h => exact absurd h (by decide)
  | 3, _, h => exact absurd h (by decide)
  | 4, _, h => exact absurd h (by decide)
  | 5, _, h => exact absurd h (by decide)
  | 6, _, h => exact absurd h (by decide)
  | 7, _, _ => exact der3_7 M
  | 8, _, h => exact absurd h (by decide)
  | 9, _, h => exact absurd h (by decide)
  | 10, _, h => exact absurd h (by decide)
  | 11, _, _ => exact der3_11 M
  | 12, _, h => exact absurd h (by decide)
  | 13, _, _ => exact der3_13 M
  | 14, _, _ => exact der3_14 M
  | 15, _, h => exact absurd h (by decide)
  | (n + 16), hR, _ => exact absurd hR (by omega)
end
section
/-! the minors' common divisors of similar matrices -/
def lin (Q : (Fin 5 → Fin 5) → Prop) : Prop := Q (fun _ => 0) ∧ ∀ q r c, Q q → Q r → Q (fun w => q w + c * r w)
theorem lin_neg {Q : (Fin 5 → Fin 5) → Prop} (h : lin Q) {q : Fin 5 → Fin 5} (hq : Q q) : Q (fun w => - q w) := by
  have := h.2 _ q 4 h.1 hq
  have e : (fun w => (0 : Fin 5) + 4 * q w) = (fun w => - q w) := by funext w; grind
  rwa [e] at this
theorem lin_fs {Q : (Fin 5 → Fin 5) → Prop} (h : lin Q) (s : Nat → Fin 5) (q : Nat → Fin 5 → Fin 5) : ∀ n, (∀ t, t < n → Q (q t)) → Q (fun w => fs (fun t => s t * q t w) n) := by
  intro n
  induction n with
  | zero => intro _; exact h.1
  | succ n ih =>
    intro hq
    exact h.2 _ (q n) (s n) (ih (fun t ht => hq t (by omega))) (hq n (by omega))
theorem d3_s1 (s : Nat → Fin 5) (U : Nat → Nat → Fin 5) (v z : Nat → Fin 5) (c1 c2 c3 : Nat) : ∀ n, d3 (fun c => fs (fun t => s t * U t c) n) v z c1 c2 c3 = fs (fun t => s t * d3 (U t) v z c1 c2 c3) n := by
  intro n
  induction n with
  | zero => show d3 (fun _ => 0) v z c1 c2 c3 = 0; simp only [d3]; grind
  | succ n ih =>
    show d3 (fun c => fs (fun t => s t * U t c) n + s n * U n c) v z c1 c2 c3 = fs (fun t => s t * d3 (U t) v z c1 c2 c3) n + s n * d3 (U n) v z c1 c2 c3
    rw [← ih]; simp only [d3]; grind
theorem d3_12 (u v z : Nat → Fin 5) (c1 c2 c3 : Nat) : d3 v u z c1 c2 c3 = - d3 u v z c1 c2 c3 := by simp only [d3]; grind
theorem d3_23 (u v z : Nat → Fin 5) (c1 c2 c3 : Nat) : d3 u z v c1 c2 c3 = - d3 u v z c1 c2 c3 := by simp only [d3]; grind
theorem d3_e12 (u z : Nat → Fin 5) (c1 c2 c3 : Nat) : d3 u u z c1 c2 c3 = 0 := by simp only [d3]; grind
theorem d3_e23 (u v : Nat → Fin 5) (c1 c2 c3 : Nat) : d3 u v v c1 c2 c3 = 0 := by simp only [d3]; grind
theorem d3_t (M : Nat → Nat → Fin 5) (r1 r2 r3 c1 c2 c3 : Nat) : d3 (fun c => M c r1) (fun c => M c r2) (fun c => M c r3) c1 c2 c3 = d3 (M c1) (M c2) (M c3) r1 r2 r3 := by simp only [d3]; grind
theorem d2_s1 (s : Nat → Fin 5) (U : Nat → Nat → Fin 5) (v : Nat → Fin 5) (c1 c2 : Nat) : ∀ n, d2 (fun c => fs (fun t => s t * U t c) n) v c1 c2 = fs (fun t => s t * d2 (U t) v c1 c2) n := by
  intro n
  induction n with
  | zero => show d2 (fun _ => 0) v c1 c2 = 0; simp only [d2]; grind
  | succ n ih =>
    show d2 (fun c => fs (fun t => s t * U t c) n + s n * U n c) v c1 c2 = fs (fun t => s t * d2 (U t) v c1 c2) n + s n * d2 (U n) v c1 c2
    rw [← ih]; simp only [d2]; grind
theorem d2_12 (u v : Nat → Fin 5) (c1 c2 : Nat) : d2 v u c1 c2 = - d2 u v c1 c2 := by simp only [d2]; grind
theorem d2_e (u : Nat → Fin 5) (c1 c2 : Nat) : d2 u u c1 c2 = 0 := by simp only [d2]; grind
theorem d2_t (M : Nat → Nat → Fin 5) (r1 r2 c1 c2 : Nat) : d2 (fun c => M c r1) (fun c => M c r2) c1 c2 = d2 (M c1) (M c2) r1 r2 := by simp only [d2]; grind
def AT1 (Q : (Fin 5 → Fin 5) → Prop) (N : Nat) (M : Fin 5 → Nat → Nat → Fin 5) : Prop := ∀ r c, r < N → c < N → Q (fun w => M w r c)
def AT2 (Q : (Fin 5 → Fin 5) → Prop) (N : Nat) (M : Fin 5 → Nat → Nat → Fin 5) : Prop := ∀ r1 r2, r1 < N → r2 < N → ∀ c1 c2, c1 < N → c2 < N → Q (fun w => d2 (M w r1) (M w r2) c1 c2)
def AT3 (Q : (Fin 5 → Fin 5) → Prop) (N : Nat) (M : Fin 5 → Nat → Nat → Fin 5) : Prop := ∀ r1 r2 r3, r1 < N → r2 < N → r3 < N → ∀ c1 c2 c3, c1 < N → c2 < N → c3 < N → Q (fun w => d3 (M w r1) (M w r2) (M w r3) c1 c2 c3)
theorem at1_row {Q : (Fin 5 → Fin 5) → Prop} (hQ : lin Q) {N : Nat} {M : Fin 5 → Nat → Nat → Fin 5} (S : Nat → Nat → Fin 5) (h : AT1 Q N M) : AT1 Q N (fun w => fM N S (M w)) :=
  fun r c _ hc => lin_fs hQ (S r) (fun t w => M w t c) N (fun t ht => h t c ht hc)
theorem at2_row {Q : (Fin 5 → Fin 5) → Prop} (hQ : lin Q) {N : Nat} {M : Fin 5 → Nat → Nat → Fin 5} (S : Nat → Nat → Fin 5) (h : AT2 Q N M) : AT2 Q N (fun w => fM N S (M w)) := by
  have s1 : ∀ r1 r2, r2 < N → ∀ c1 c2, c1 < N → c2 < N → Q (fun w => d2 (fM N S (M w) r1) (M w r2) c1 c2) := by
    intro r1 r2 h2 c1 c2 hc1 hc2
    have e : (fun w => d2 (fM N S (M w) r1) (M w r2) c1 c2) = (fun w => fs (fun t => S r1 t * d2 (M w t) (M w r2) c1 c2) N) := by
      funext w; exact d2_s1 (S r1) (M w) (M w r2) c1 c2 N
    rw [e]
    exact lin_fs hQ (S r1) (fun t w => d2 (M w t) (M w r2) c1 c2) N (fun t ht => h t r2 ht h2 c1 c2 hc1 hc2)
  intro r1 r2 _ _ c1 c2 hc1 hc2
  have e : (fun w => d2 (fM N S (M w) r1) (fM N S (M w) r2) c1 c2) = (fun w => - fs (fun t => S r2 t * d2 (M w t) (fM N S (M w) r1) c1 c2) N) := by
    funext w
    rw [d2_12, ← d2_s1 (S r2) (M w) (fM N S (M w) r1) c1 c2 N]; rfl
  rw [e]
  refine lin_neg hQ (lin_fs hQ (S r2) (fun t w => d2 (M w t) (fM N S (M w) r1) c1 c2) N (fun t ht => ?_))
  have e2 : (fun w => d2 (M w t) (fM N S (M w) r1) c1 c2) = (fun w => - d2 (fM N S (M w) r1) (M w t) c1 c2) := by
    funext w; exact d2_12 _ _ _ _
  rw [e2]
  exact lin_neg hQ (s1 r1 t ht c1 c2 hc1 hc2)
theorem at3_row {Q : (Fin 5 → Fin 5) → Prop} (hQ : lin Q) {N : Nat} {M : Fin 5 → Nat → Nat → Fin 5} (S : Nat → Nat → Fin 5) (h : AT3 Q N M) : AT3 Q N (fun w => fM N S (M w)) := by
  have s1 : ∀ r1 r2 r3, r2 < N → r3 < N → ∀ c1 c2 c3, c1 < N → c2 < N → c3 < N → Q (fun w => d3 (fM N S (M w) r1) (M w r2) (M w r3) c1 c2 c3) := by
    intro r1 r2 r3 h2 h3 c1 c2 c3 hc1 hc2 hc3
    have e : (fun w => d3 (fM N S (M w) r1) (M w r2) (M w r3) c1 c2 c3) = (fun w => fs (fun t => S r1 t * d3 (M w t) (M w r2) (M w r3) c1 c2 c3) N) := by
      funext w; exact d3_s1 (S r1) (M w) (M w r2) (M w r3) c1 c2 c3 N
    rw [e]
    exact lin_fs hQ (S r1) (fun t w => d3 (M w t) (M w r2) (M w r3) c1 c2 c3) N (fun t ht => h t r2 r3 ht h2 h3 c1 c2 c3 hc1 hc2 hc3)
  have s2 : ∀ r1 r2 r3, r3 < N → ∀ c1 c2 c3, c1 < N → c2 < N → c3 < N → Q (fun w => d3 (fM N S (M w) r1) (fM N S (M w) r2) (M w r3) c1 c2 c3) := by
    intro r1 r2 r3 h3 c1 c2 c3 hc1 hc2 hc3
    have e : (fun w => d3 (fM N S (M w) r1) (fM N S (M w) r2) (M w r3) c1 c2 c3) = (fun w => - fs (fun t => S r2 t * d3 (M w t) (fM N S (M w) r1) (M w r3) c1 c2 c3) N) := by
      funext w
      rw [d3_12, ← d3_s1 (S r2) (M w) (fM N S (M w) r1) (M w r3) c1 c2 c3 N]; rfl
    rw [e]
    refine lin_neg hQ (lin_fs hQ (S r2) (fun t w => d3 (M w t) (fM N S (M w) r1) (M w r3) c1 c2 c3) N (fun t ht => ?_))
    have e2 : (fun w => d3 (M w t) (fM N S (M w) r1) (M w r3) c1 c2 c3) = (fun w => - d3 (fM N S (M w) r1) (M w t) (M w r3) c1 c2 c3) := by
      funext w; exact d3_12 _ _ _ _ _ _
    rw [e2]
    exact lin_neg hQ (s1 r1 t r3 ht h3 c1 c2 c3 hc1 hc2 hc3)
  intro r1 r2 r3 _ _ _ c1 c2 c3 hc1 hc2 hc3
  have e : (fun w => d3 (fM N S (M w) r1) (fM N S (M w) r2) (fM N S (M w) r3) c1 c2 c3) = (fun w => fs (fun t => S r3 t * d3 (M w t) (fM N S (M w) r1) (fM N S (M w) r2) c1 c2 c3) N) := by
    funext w
    rw [← d3_s1 (S r3) (M w) (fM N S (M w) r1) (fM N S (M w) r2) c1 c2 c3 N]
    show d3 (fM N S (M w) r1) (fM N S (M w) r2) (fM N S (M w) r3) c1 c2 c3 = d3 (fM N S (M w) r3) (fM N S (M w) r1) (fM N S (M w) r2) c1 c2 c3
    simp only [d3]; grind
  rw [e]
  refine lin_fs hQ (S r3) (fun t w => d3 (M w t) (fM N S (M w) r1) (fM N S (M w) r2) c1 c2 c3) N (fun t ht => ?_)
  have e2 : (fun w => d3 (M w t) (fM N S (M w) r1) (fM N S (M w) r2) c1 c2 c3) = (fun w => d3 (fM N S (M w) r1) (fM N S (M w) r2) (M w t) c1 c2 c3) := by
    funext w; simp only [d3]; grind
  rw [e2]
  exact s2 r1 r2 t ht c1 c2 c3 hc1 hc2 hc3
theorem fM_t (N : Nat) (X T : Nat → Nat → Fin 5) (i j : Nat) : fM N X T j i = fM N (fun i j => T j i) (fun i j => X j i) i j := by
  unfold fM
  exact fs_cong N (fun t _ => by grind)
theorem at1_col {Q : (Fin 5 → Fin 5) → Prop} (hQ : lin Q) {N : Nat} {M : Fin 5 → Nat → Nat → Fin 5} (T : Nat → Nat → Fin 5) (h : AT1 Q N M) : AT1 Q N (fun w => fM N (M w) T) := by
  intro r c hr hc
  have := at1_row hQ (M := fun w i j => M w j i) (fun i j => T j i) (fun r c hr hc => h c r hc hr) c r hc hr
  have e : (fun w => fM N (M w) T r c) = (fun w => fM N (fun i j => T j i) (fun i j => M w j i) c r) := by
    funext w; exact fM_t N (M w) T c r
  rw [e]; exact this
theorem at2_col {Q : (Fin 5 → Fin 5) → Prop} (hQ : lin Q) {N : Nat} {M : Fin 5 → Nat → Nat → Fin 5} (T : Nat → Nat → Fin 5) (h : AT2 Q N M) : AT2 Q N (fun w => fM N (M w) T) := by
  have h' : AT2 Q N (fun w i j => M w j i) := by
    intro r1 r2 hr1 hr2 c1 c2 hc1 hc2
    have e : (fun w => d2 (fun c => M w c r1) (fun c => M w c r2) c1 c2) = (fun w => d2 (M w c1) (M w c2) r1 r2) := by
      funext w; exact d2_t (M w) r1 r2 c1 c2
    show Q (fun w => d2 (fun c => M w c r1) (fun c => M w c r2) c1 c2)
    rw [e]; exact h c1 c2 hc1 hc2 r1 r2 hr1 hr2
  intro r1 r2 hr1 hr2 c1 c2 hc1 hc2
  have := at2_row hQ (fun i j => T j i) h' c1 c2 hc1 hc2 r1 r2 hr1 hr2
  have e : (fun w => d2 (fM N (M w) T r1) (fM N (M w) T r2) c1 c2) = (fun w => d2 (fM N (fun i j => T j i) (fun i j => M w j i) c1) (fM N (fun i j => T j i) (fun i j => M w j i) c2) r1 r2) := by
    funext w
    have e2 : fM N (fun i j => T j i) (fun i j => M w j i) = fun i j => fM N (M w) T j i := by
      funext i j; exact (fM_t N (M w) T i j).symm
    rw [e2]
    exact (d2_t (fM N (M w) T) c1 c2 r1 r2).symm
  rw [e]; exact this
theorem at3_col {Q : (Fin 5 → Fin 5) → Prop} (hQ : lin Q) {N : Nat} {M : Fin 5 → Nat → Nat → Fin 5} (T : Nat → Nat → Fin 5) (h : AT3 Q N M) : AT3 Q N (fun w => fM N (M w) T) := by
  have h' : AT3 Q N (fun w i j => M w j i) := by
    intro r1 r2 r3 hr1 hr2 hr3 c1 c2 c3 hc1 hc2 hc3
    have e : (fun w => d3 (fun c => M w c r1) (fun c => M w c r2) (fun c => M w c r3) c1 c2 c3) = (fun w => d3 (M w c1) (M w c2) (M w c3) r1 r2 r3) := by
      funext w; exact d3_t (M w) r1 r2 r3 c1 c2 c3
    show Q (fun w => d3 (fun c => M w c r1) (fun c => M w c r2) (fun c => M w c r3) c1 c2 c3)
    rw [e]; exact h c1 c2 c3 hc1 hc2 hc3 r1 r2 r3 hr1 hr2 hr3
  intro r1 r2 r3 hr1 hr2 hr3 c1 c2 c3 hc1 hc2 hc3
  have := at3_row hQ (fun i j => T j i) h' c1 c2 c3 hc1 hc2 hc3 r1 r2 r3 hr1 hr2 hr3
  have e : (fun w => d3 (fM N (M w) T r1) (fM N (M w) T r2) (fM N (M w) T r3) c1 c2 c3) = (fun w => d3 (fM N (fun i j => T j i) (fun i j => M w j i) c1) (fM N (fun i j => T j i) (fun i j => M w j i) c2) (fM N (fun i j => T j i) (fun i j => M w j i) c3) r1 r2 r3) := by
    funext w
    have e2 : fM N (fun i j => T j i) (fun i j => M w j i) = fun i j => fM N (M w) T j i := by
      funext i j; exact (fM_t N (M w) T i j).symm
    rw [e2]
    exact (d3_t (fM N (M w) T) c1 c2 c3 r1 r2 r3).symm
  rw [e]; exact this
theorem sort2 {N : Nat} {F : Nat → Nat → Prop} (hs : ∀ a b, a < b → b < N → F a b) (hw : ∀ a b, F a b → F b a) (he : ∀ a, F a a) : ∀ a b, a < N → b < N → F a b := by
  intro a b ha hb
  by_cases e : a = b
  · subst e; exact he a
  · by_cases l : a < b
    · exact hs a b l hb
    · exact hw b a (hs b a (by omega) ha)
theorem sort3 {N : Nat} {F : Nat → Nat → Nat → Prop} (hs : ∀ a b c, a < b → b < c → c < N → F a b c) (h12 : ∀ a b c, F a b c → F b a c) (h23 : ∀ a b c, F a b c → F a c b) (e12 : ∀ a c, F a a c) (e23 : ∀ a b, F a b b) : ∀ a b c, a < N → b < N → c < N → F a b c := by
  have first : ∀ a b c, a < b → b < N → c < N → F a b c := by
    intro a b c hab hb hc
    by_cases k1 : b < c
    · exact hs a b c hab k1 hc
    · by_cases k2 : c = b
      · subst k2; exact e23 a c
      · by_cases k3 : a < c
        · exact h23 a c b (hs a c b k3 (by omega) hb)
        · by_cases k4 : c = a
          · subst k4; exact h23 c c b (e12 c b)
          · exact h23 a c b (h12 c a b (hs c a b (by omega) hab hb))
  intro a b c ha hb hc
  by_cases e : a = b
  · subst e; exact e12 a c
  · by_cases l : a < b
    · exact first a b c l hb hc
    · exact h12 b a c (first b a c (by omega) ha hc)
theorem ms1 : ∀ N, N < 5 → ∀ a, a < N → 2 ^ a < 2 ^ N ∧ pc (2 ^ a) = 1 ∧ lo (2 ^ a) = a := by decide +kernel
theorem ms2 : ∀ N, N < 5 → ∀ b, b < N → ∀ a, a < b → 2 ^ a + 2 ^ b < 2 ^ N ∧ pc (2 ^ a + 2 ^ b) = 2 ∧ lo (2 ^ a + 2 ^ b) = a ∧ lo (rs (2 ^ a + 2 ^ b)) = b := by decide +kernel
theorem ms3a : ∀ N, N < 5 → ∀ c, c < N → ∀ b, b < c → ∀ a, a < b → 2 ^ a + 2 ^ b + 2 ^ c < 2 ^ N ∧ pc (2 ^ a + 2 ^ b + 2 ^ c) = 3 := by decide +kernel
theorem ms3b : ∀ c, c < 4 → ∀ b, b < c → ∀ a, a < b → lo (2 ^ a + 2 ^ b + 2 ^ c) = a ∧ lo (rs (2 ^ a + 2 ^ b + 2 ^ c)) = b ∧ lo (rs (rs (2 ^ a + 2 ^ b + 2 ^ c))) = c := by decide +kernel
theorem ms3 (N : Nat) (hN : N < 5) (c : Nat) (hc : c < N) (b : Nat) (hb : b < c) (a : Nat) (ha : a < b) : 2 ^ a + 2 ^ b + 2 ^ c < 2 ^ N ∧ pc (2 ^ a + 2 ^ b + 2 ^ c) = 3 ∧ lo (2 ^ a + 2 ^ b + 2 ^ c) = a ∧ lo (rs (2 ^ a + 2 ^ b + 2 ^ c)) = b ∧ lo (rs (rs (2 ^ a + 2 ^ b + 2 ^ c))) = c :=
  ⟨(ms3a N hN c hc b hb a ha).1, (ms3a N hN c hc b hb a ha).2, ms3b c (by omega) b hb a ha⟩
theorem lo1 : ∀ N, N < 5 → ∀ s, s < 2 ^ N → pc s = 1 → lo s < N := by decide +kernel
theorem lo2 : ∀ N, N < 5 → ∀ s, s < 2 ^ N → pc s = 2 → lo s < N ∧ lo (rs s) < N := by decide +kernel
theorem lo3 : ∀ N, N < 5 → ∀ s, s < 2 ^ N → pc s = 3 → lo s < N ∧ lo (rs s) < N ∧ lo (rs (rs s)) < N := by decide +kernel
/-- minors of M and of S M T -/
theorem cb {Q : (Fin 5 → Fin 5) → Prop} (hQ : lin Q) {N k : Nat} (hN : N ≤ 4) (hk1 : 1 ≤ k) (hk3 : k ≤ 3) {M : Fin 5 → Nat → Nat → Fin 5} (S T : Nat → Nat → Fin 5)
    (h : ∀ R C, R < 2 ^ N → C < 2 ^ N → pc R = k → pc C = k → Q (fun w => dtm (M w) k R C)) :
    ∀ R C, R < 2 ^ N → C < 2 ^ N → pc R = k → pc C = k → Q (fun w => dtm (fM N (fM N S (M w)) T) k R C) := by
  obtain ⟨w1, w2⟩ := pw2 N (by omega)
  match k, hk1, hk3 with
  | 1, _, _ =>
    have a1 : AT1 Q N M := by
      intro r c hr hc
      obtain ⟨m1, m2, m3⟩ := ms1 N (by omega) r hr
      obtain ⟨n1, n2, n3⟩ := ms1 N (by omega) c hc
      have := h (2 ^ r) (2 ^ c) m1 n1 m2 n2
      have e : (fun w => dtm (M w) 1 (2 ^ r) (2 ^ c)) = (fun w => M w r c) := by
        funext w; rw [dt_1 (M w) _ (by omega) m2 _ (by omega) n2, m3, n3]
      rwa [e] at this
    have a2 := at1_col hQ T (at1_row hQ S a1)
    intro R C hR hC e1 e2
    have e : (fun w => dtm (fM N (fM N S (M w)) T) 1 R C) = (fun w => fM N (fM N S (M w)) T (lo R) (lo C)) := by
      funext w; exact dt_1 _ R (by omega) e1 C (by omega) e2
    rw [e]
    exact a2 _ _ (lo1 N (by omega) R hR e1) (lo1 N (by omega) C hC e2)
  | 2, _, _ =>
    have a1 : AT2 Q N M := by
      refine sort2 (F := fun r1 r2 => ∀ c1 c2, c1 < N → c2 < N → Q (fun w => d2 (M w r1) (M w r2) c1 c2)) ?_ ?_ ?_
      · intro r1 r2 hr hr2
        obtain ⟨m1, m2, m3, m4⟩ := ms2 N (by omega) r2 hr2 r1 hr
        refine sort2 (F := fun c1 c2 => Q (fun w => d2 (M w r1) (M w r2) c1 c2)) ?_ ?_ ?_
        · intro c1 c2 hc hc2
          obtain ⟨n1, n2, n3, n4⟩ := ms2 N (by omega) c2 hc2 c1 hc
          have := h _ _ m1 n1 m2 n2
          have e : (fun w => dtm (M w) 2 (2 ^ r1 + 2 ^ r2) (2 ^ c1 + 2 ^ c2)) = (fun w => d2 (M w r1) (M w r2) c1 c2) := by
            funext w; rw [dt_2 (M w) _ (by omega) m2 _ (by omega) n2, m3, m4, n3, n4]
          rwa [e] at this
        · intro c1 c2 hq
          have e : (fun w => d2 (M w r1) (M w r2) c2 c1) = (fun w => - d2 (M w r1) (M w r2) c1 c2) := by
            funext w; simp only [d2]; grind
          rw [e]; exact lin_neg hQ hq
        · intro c1
          have e : (fun w => d2 (M w r1) (M w r2) c1 c1) = (fun _ => 0) := by
            funext w; simp only [d2]; grind
          rw [e]; exact hQ.1
      · intro r1 r2 hq c1 c2 hc1 hc2
        have e : (fun w => d2 (M w r2) (M w r1) c1 c2) = (fun w => - d2 (M w r1) (M w r2) c1 c2) := by
          funext w; exact d2_12 _ _ _ _
        rw [e]; exact lin_neg hQ (hq c1 c2 hc1 hc2)
      · intro r1 c1 c2 _ _
        have e : (fun w => d2 (M w r1) (M w r1) c1 c2) = (fun _ => 0) := by
          funext w; exact d2_e _ _ _
        rw [e]; exact hQ.1
    have a2 := at2_col hQ T (at2_row hQ S a1)
    intro R C hR hC e1 e2
    have e : (fun w => dtm (fM N (fM N S (M w)) T) 2 R C) = (fun w => d2 (fM N (fM N S (M w)) T (lo R)) (fM N (fM N S (M w)) T (lo (rs R))) (lo C) (lo (rs C))) := by
      funext w; exact dt_2 _ R (by omega) e1 C (by omega) e2
    rw [e]
    obtain ⟨l1, l2⟩ := lo2 N (by omega) R hR e1
    obtain ⟨l3, l4⟩ := lo2 N (by omega) C hC e2
    exact a2 _ _ l1 l2 _ _ l3 l4
  | 3, _, _ =>
    have a1 : AT3 Q N M := by
      refine sort3 (F := fun r1 r2 r3 => ∀ c1 c2 c3, c1 < N → c2 < N → c3 < N → Q (fun w => d3 (M w r1) (M w r2) (M w r3) c1 c2 c3)) ?_ ?_ ?_ ?_ ?_
      · intro r1 r2 r3 hr hr2 hr3
        obtain ⟨m1, m2, m3, m4, m5⟩ := ms3 N (by omega) r3 hr3 r2 hr2 r1 hr
        refine sort3 (F := fun c1 c2 c3 => Q (fun w => d3 (M w r1) (M w r2) (M w r3) c1 c2 c3)) ?_ ?_ ?_ ?_ ?_
        · intro c1 c2 c3 hc hc2 hc3
          obtain ⟨n1, n2, n3, n4, n5⟩ := ms3 N (by omega) c3 hc3 c2 hc2 c1 hc
          have := h _ _ m1 n1 m2 n2
          have e : (fun w => dtm (M w) 3 (2 ^ r1 + 2 ^ r2 + 2 ^ r3) (2 ^ c1 + 2 ^ c2 + 2 ^ c3)) = (fun w => d3 (M w r1) (M w r2) (M w r3) c1 c2 c3) := by
            funext w; rw [dt_3 (M w) _ (by omega) m2 _ (by omega) n2, m3, m4, m5, n3, n4, n5]
          rwa [e] at this
        · intro c1 c2 c3 hq
          have e : (fun w => d3 (M w r1) (M w r2) (M w r3) c2 c1 c3) = (fun w => - d3 (M w r1) (M w r2) (M w r3) c1 c2 c3) := by
            funext w; simp only [d3]; grind
          rw [e]; exact lin_neg hQ hq
        · intro c1 c2 c3 hq
          have e : (fun w => d3 (M w r1) (M w r2) (M w r3) c1 c3 c2) = (fun w => - d3 (M w r1) (M w r2) (M w r3) c1 c2 c3) := by
            funext w; simp only [d3]; grind
          rw [e]; exact lin_neg hQ hq
        · intro c1 c3
          have e : (fun w => d3 (M w r1) (M w r2) (M w r3) c1 c1 c3) = (fun _ => 0) := by
            funext w; simp only [d3]; grind
          rw [e]; exact hQ.1
        · intro c1 c2
          have e : (fun w => d3 (M w r1) (M w r2) (M w r3) c1 c2 c2) = (fun _ => 0) := by
            funext w; simp only [d3]; grind
          rw [e]; exact hQ.1
      · intro r1 r2 r3 hq c1 c2 c3 hc1 hc2 hc3
        have e : (fun w => d3 (M w r2) (M w r1) (M w r3) c1 c2 c3) = (fun w => - d3 (M w r1) (M w r2) (M w r3) c1 c2 c3) := by
          funext w; exact d3_12 _ _ _ _ _ _
        rw [e]; exact lin_neg hQ (hq c1 c2 c3 hc1 hc2 hc3)
      · intro r1 r2 r3 hq c1 c2 c3 hc1 hc2 hc3
        have e : (fun w => d3 (M w r1) (M w r3) (M w r2) c1 c2 c3) = (fun w => - d3 (M w r1) (M w r2) (M w r3) c1 c2 c3) := by
          funext w; exact d3_23 _ _ _ _ _ _
        rw [e]; exact lin_neg hQ (hq c1 c2 c3 hc1 hc2 hc3)
      · intro r1 r3 c1 c2 c3 _ _ _
        have e : (fun w => d3 (M w r1) (M w r1) (M w r3) c1 c2 c3) = (fun _ => 0) := by
          funext w; exact d3_e12 _ _ _ _ _
        rw [e]; exact hQ.1
      · intro r1 r2 c1 c2 c3 _ _ _
        have e : (fun w => d3 (M w r1) (M w r2) (M w r2) c1 c2 c3) = (fun _ => 0) := by
          funext w; exact d3_e23 _ _ _ _ _
        rw [e]; exact hQ.1
    have a2 := at3_col hQ T (at3_row hQ S a1)
    intro R C hR hC e1 e2
    have e : (fun w => dtm (fM N (fM N S (M w)) T) 3 R C) = (fun w => d3 (fM N (fM N S (M w)) T (lo R)) (fM N (fM N S (M w)) T (lo (rs R))) (fM N (fM N S (M w)) T (lo (rs (rs R)))) (lo C) (lo (rs C)) (lo (rs (rs C)))) := by
      funext w; exact dt_3 _ R (by omega) e1 C (by omega) e2
    rw [e]
    obtain ⟨l1, l2, l3⟩ := lo3 N (by omega) R hR e1
    obtain ⟨l4, l5, l6⟩ := lo3 N (by omega) C hC e2
    exact a2 _ _ _ l1 l2 l3 _ _ _ l4 l5 l6
/-- the polynomial with given values -/
def ipc (q : Fin 5 → Fin 5) : Nat → Fin 5
  | 0 => q 0
  | 1 => - (q 1 + 3 * q 2 + 2 * q 3 + 4 * q 4)
  | 2 => - (q 1 + 4 * q 2 + 4 * q 3 + q 4)
  | 3 => - (q 1 + 2 * q 2 + 3 * q 3 + 4 * q 4)
  | 4 => - (q 0 + q 1 + q 2 + q 3 + q 4)
  | _ + 5 => 0
theorem ipc_ev (q : Fin 5 → Fin 5) : ∀ w, ev (ipc q) w = q w := by
  have h0 : ev (ipc q) 0 = q 0 := by simp only [ev, ipc]; grind
  have h1 : ev (ipc q) 1 = q 1 := by simp only [ev, ipc]; grind
  have h2 : ev (ipc q) 2 = q 2 := by simp only [ev, ipc]; grind
  have h3 : ev (ipc q) 3 = q 3 := by simp only [ev, ipc]; grind
  have h4 : ev (ipc q) 4 = q 4 := by simp only [ev, ipc]; grind
  intro w
  obtain ⟨v, hv⟩ := w
  match v, hv with
  | 0, _ => exact h0
  | 1, _ => exact h1
  | 2, _ => exact h2
  | 3, _ => exact h3
  | 4, _ => exact h4
def ipN (q : Fin 5 → Fin 5) : Nat := hrn (fun k => (ipc q k).val) 5 0
theorem ipN_lt (q : Fin 5 → Fin 5) : ipN q < 3125 := (hrn_pd (fun k _ => (ipc q k).isLt)).1
theorem ipN_ev (q : Fin 5 → Fin 5) (w : Fin 5) : ev (pd (ipN q)) w = q w := by
  rw [← ipc_ev q w]
  refine ev_cong w (fun k hk => ?_)
  rw [show pd (ipN q) k = kk (ipc q k).val from (hrn_pd (fun k _ => (ipc q k).isLt)).2 k hk, kk_fin]
theorem ev_u {p p' : Nat} (hp : p < 3125) (hp' : p' < 3125) (h : ∀ w, ev (pd p) w = ev (pd p') w) : p = p' := pd_inj hp hp' (ev_inj h)
def PV (P : Nat → Prop) (q : Fin 5 → Fin 5) : Prop := ∀ p, p < 3125 → (∀ w, ev (pd p) w = q w) → P p
theorem PV_of {P : Nat → Prop} {p : Nat} {q : Fin 5 → Fin 5} (hp : p < 3125) (h : P p) (e : ∀ w, ev (pd p) w = q w) : PV P q := by
  intro p' hp' e'
  rw [ev_u hp' hp (fun w => by rw [e w, e' w])]; exact h
theorem PV_lin {P : Nat → Prop} (hP : Idl P) : lin (PV P) := by
  refine ⟨PV_of (by decide) hP.1 (fun w => (I_ev w).1), fun q r c hq hr => ?_⟩
  have p1 := hq (ipN q) (ipN_lt q) (ipN_ev q)
  have p2 := hr (ipN r) (ipN_lt r) (ipN_ev r)
  refine PV_of (pm_lt _ _ _) (hP.2.1 _ _ c.val (ipN_lt q) (ipN_lt r) (by have := c.isLt; omega) p1 p2) (fun w => ?_)
  rw [ev_cong w (q := fun k => pd (ipN q) k + kk c.val * pd (ipN r) k) (fun k hk => pd_pm _ _ _ _ hk), ev_lin, kk_fin, ipN_ev, ipN_ev]
theorem fM_linR (N : Nat) (B X Y : Nat → Nat → Fin 5) (s : Fin 5) (i k : Nat) : fM N B (fun i k => X i k + s * Y i k) i k = fM N B X i k + s * fM N B Y i k := by
  unfold fM
  rw [← fs_lin]
  refine fs_cong N (fun t _ => ?_)
  grind
theorem sim_dir {P : Nat → Prop} (hP : Idl P) {N k : Nat} (hN : N ≤ 4) (hk1 : 1 ≤ k) (hk3 : k ≤ 3) {A B : Nat → Nat → Nat} (h : Sim N (fun i j => kk (A i j)) (fun i j => kk (B i j)))
    (hB : ∀ R C, R < 2 ^ N → C < 2 ^ N → pc R = k → pc C = k → P (mnum B R C)) : ∀ R C, R < 2 ^ N → C < 2 ^ N → pc R = k → pc C = k → P (mnum A R C) := by
  obtain ⟨S, T, ⟨s1, t1, e1, e2⟩, eab⟩ := h
  have hQ := PV_lin hP
  have evd : ∀ (X : Nat → Nat → Nat) R C (w : Fin 5), pc R = k → ev (pd (mnum X R C)) w = dtm (Mw X w) k R C := by
    intro X R C w e
    rw [ev_cong w (fun j hj => mnum_pd X R C j hj), e, dtp_ev X w k R C (by omega)]
  have hm := cb hQ (M := fun w => Mw B w) hN hk1 hk3 S T (fun R C hR hC r1 r2 => PV_of (mnum_lt _ _ _) (hB R C hR hC r1 r2) (fun w => evd B R C w r1))
  have ent : ∀ w i j, i < N → j < N → fM N (fM N S (Mw B w)) T i j = Mw A w i j := by
    intro w i j hi hj
    have f1 : fEq N (fM N S (Mw B w)) (fun i t => (fun i t => w * S i t) i t + 4 * fM N S (fun i j => kk (B i j)) i t) := by
      intro i t hi ht
      have g1 : Mw B w = fun i j => (fun i j => if i = j then w else 0) i j + 4 * (fun i j => kk (B i j)) i j := by
        funext i j
        show (if i = j then w else 0) - kk (B i j) = (if i = j then w else 0) + 4 * kk (B i j)
        grind
      rw [g1, fM_linR, fM_id hN S w i t hi ht]
    rw [fM_eqL T f1 hi, fM_lin N (fun i t => w * S i t) (fM N S (fun i j => kk (B i j))) T 4, fM_s, e1, ← eab, idn_eq N i j hi hj]
    show w * (if i = j then 1 else 0) + 4 * kk (A i j) = (if i = j then w else 0) - kk (A i j)
    split <;> grind
  intro R C hR hC r1 r2
  refine hm R C hR hC r1 r2 (mnum A R C) (mnum_lt _ _ _) (fun w => ?_)
  rw [evd A R C w r1]
  exact (dtm_c hN (ent w) k R C hR hC r1 r2).symm
theorem gD_sim {N k D : Nat} (hN : N ≤ 4) (hk1 : 1 ≤ k) (hk3 : k ≤ 3) {A B : Nat → Nat → Nat} (sb : sp N (fun i j => kk (B i j))) (h : Sim N (fun i j => kk (A i j)) (fun i j => kk (B i j))) (hD : gD A N k D) : gD B N k D := by
  refine ⟨hD.1, hD.2.1, fun P hP => (hD.2.2 P hP).trans ⟨fun z => ?_, fun z => ?_⟩⟩
  · exact sim_dir hP hN hk1 hk3 (Sim_sy hN sb h) z
  · exact sim_dir hP hN hk1 hk3 h z
end
section
/-! each matrix is similar to a normal form -/
def mtF (l : List (List (Fin 5))) : Nat → Nat → Fin 5 := fun i j => (l.getD j []).getD i 0
theorem gd_def {α : Type} (d : α) : ∀ (l : List α) (j : Nat), l.length ≤ j → l.getD j d = d := by
  intro l
  induction l with
  | nil => intro j _; rfl
  | cons a l ih =>
    intro j h
    cases j with
    | zero => exact absurd h (by simp)
    | succ j => exact ih j (by simpa using h)
theorem gd_mem {α : Type} (d : α) : ∀ (l : List α) (j : Nat), l.getD j d ∈ l ∨ l.getD j d = d := by
  intro l
  induction l with
  | nil => intro j; exact Or.inr rfl
  | cons a l ih =>
    intro j
    cases j with
    | zero => exact Or.inl List.mem_cons_self
    | succ j =>
      rcases ih j with h | h
      · exact Or.inl (List.mem_cons_of_mem _ h)
      · exact Or.inr h
theorem gd_sp {α : Type} (d : α) {N : Nat} {l : List (List α)} (h1 : l.length ≤ N) (h2 : ∀ c, c ∈ l → c.length ≤ N) {i j : Nat} (h : ¬ (i < N ∧ j < N)) : (l.getD j []).getD i d = d := by
  by_cases e : j < N
  · have hc : (l.getD j []).length ≤ N := by
      rcases gd_mem [] l j with z | z
      · exact h2 _ z
      · rw [z]; exact Nat.zero_le _
    exact gd_def d _ i (by omega)
  · rw [gd_def [] l j (by omega)]; rfl
theorem sp_mtF {N : Nat} {l : List (List (Fin 5))} (h1 : l.length ≤ N) (h2 : ∀ c, c ∈ l → c.length ≤ N) : sp N (mtF l) :=
  fun _ _ h => gd_sp 0 h1 h2 h
theorem st {N : Nat} (h1 : 1 ≤ N) (hN : N ≤ 4) {a : Nat → Nat → Fin 5} (ha : sp N a) (l : List (List (Fin 5))) (l1 : l.length ≤ N) (l2 : ∀ c, c ∈ l → c.length ≤ N) (hd : dtm (mtF l) N (2 ^ N - 1) (2 ^ N - 1) ≠ 0) :
    ∃ b, Sim N a b ∧ sp N b ∧ ∀ (j : Nat) (e : Nat → Fin 5), (∀ i, i < N → fM N a (mtF l) i j = fs (fun u => mtF l i u * e u) N) → ∀ i, i < N → b i j = e i := by
  have hS := sp_mtF l1 l2
  obtain ⟨T, hT⟩ := inv_ex h1 hN hS hd
  exact ⟨_, Sim_cj hN ha hT, sp_M (sp_M hT.2.1 ha) hS, fun j e he => cj_col hN hT e he⟩
def kM (R : Nat → Nat → Nat) : Nat → Nat → Fin 5 := fun i j => kk (R i j)
def mt (l : List (List Nat)) : Nat → Nat → Nat := fun i j => (l.getD j []).getD i 0
theorem sp_mt {N : Nat} {l : List (List Nat)} (h1 : l.length ≤ N) (h2 : ∀ c, c ∈ l → c.length ≤ N) : sp N (kM (mt l)) := by
  intro i j h
  show kk ((l.getD j []).getD i 0) = 0
  rw [gd_sp 0 h1 h2 h]; rfl
theorem len4 {α : Type} {a b c d x : List α} {n : Nat} (ha : a.length ≤ n) (hb : b.length ≤ n) (hc : c.length ≤ n) (hd : d.length ≤ n) (h : x ∈ [a, b, c, d]) : x.length ≤ n := by
  simp at h
  rcases h with h | h | h | h <;> subst h <;> assumption
theorem len3 {α : Type} {a b c x : List α} {n : Nat} (ha : a.length ≤ n) (hb : b.length ≤ n) (hc : c.length ≤ n) (h : x ∈ [a, b, c]) : x.length ≤ n := by
  simp at h
  rcases h with h | h | h <;> subst h <;> assumption
theorem len2 {α : Type} {a b x : List α} {n : Nat} (ha : a.length ≤ n) (hb : b.length ≤ n) (h : x ∈ [a, b]) : x.length ≤ n := by
  simp at h
  rcases h with h | h <;> subst h <;> assumption
def qF0 (l : Nat) : Nat → Nat → Nat := mt [[l, 0, 0, 0], [0, l, 0, 0], [0, 0, l, 0], [0, 0, 0, l]]
def qF1 (p q r s : Nat) : Nat → Nat → Nat := mt [[0, 1, 0, 0], [0, 0, 1, 0], [0, 0, 0, 1], [p, q, r, s]]
def qF2 (q r l : Nat) : Nat → Nat → Nat := mt [[0, 1, 0, 0], [0, 0, 1, 0], [(l * l * l + (5 - r) * l * l + (5 - q) * l) % 5, q, r, 0], [0, 0, 0, l]]
def qF3 (a b : Nat) : Nat → Nat → Nat := mt [[0, 1, 0, 0], [a, b, 0, 0], [0, 0, 0, 1], [0, 0, a, b]]
def qF4 (b l : Nat) : Nat → Nat → Nat := mt [[0, 1, 0, 0], [(l * l + (5 - b) * l) % 5, b, 0, 0], [0, 0, l, 0], [0, 0, 0, l]]
def NF4 (a : Nat → Nat → Fin 5) : Prop := (∃ l, l < 5 ∧ Sim 4 a (kM (qF0 l))) ∨ (∃ p q r s, p < 5 ∧ q < 5 ∧ r < 5 ∧ s < 5 ∧ Sim 4 a (kM (qF1 p q r s))) ∨ (∃ q r l, q < 5 ∧ r < 5 ∧ l < 5 ∧ Sim 4 a (kM (qF2 q r l))) ∨ (∃ b c, b < 5 ∧ c < 5 ∧ Sim 4 a (kM (qF3 b c))) ∨ (∃ b l, b < 5 ∧ l < 5 ∧ Sim 4 a (kM (qF4 b l)))
theorem NF4_tr {a b : Nat → Nat → Fin 5} (h : Sim 4 a b) (hb : NF4 b) : NF4 a := by
  rcases hb with ⟨l, h1, hs⟩ | ⟨p, q, r, s, h1, h2, h3, h4, hs⟩ | ⟨q, r, l, h1, h2, h3, hs⟩ | ⟨b, c, h1, h2, hs⟩ | ⟨b, l, h1, h2, hs⟩
  · exact Or.inl ⟨l, h1, Sim_tr (by decide) h hs⟩
  · exact Or.inr (Or.inl ⟨p, q, r, s, h1, h2, h3, h4, Sim_tr (by decide) h hs⟩)
  · exact Or.inr (Or.inr (Or.inl ⟨q, r, l, h1, h2, h3, Sim_tr (by decide) h hs⟩))
  · exact Or.inr (Or.inr (Or.inr (Or.inl ⟨b, c, h1, h2, Sim_tr (by decide) h hs⟩)))
  · exact Or.inr (Or.inr (Or.inr (Or.inr ⟨b, l, h1, h2, Sim_tr (by decide) h hs⟩)))
/-- equal by sixteen entries -/
theorem ext4 {a b : Nat → Nat → Fin 5} (ha : sp 4 a) (hb : sp 4 b) (h0 : ∀ i, i < 4 → a i 0 = b i 0) (h1 : ∀ i, i < 4 → a i 1 = b i 1) (h2 : ∀ i, i < 4 → a i 2 = b i 2) (h3 : ∀ i, i < 4 → a i 3 = b i 3) : a = b := by
  refine sp_ext ha hb (fun i j hi hj => ?_)
  match j, hj with
  | 0, _ => exact h0 i hi
  | 1, _ => exact h1 i hi
  | 2, _ => exact h2 i hi
  | 3, _ => exact h3 i hi
/-- column u of the identity, and a column in general -/
def cl (x y z t : Fin 5) : Nat → Fin 5 := fun i => [x, y, z, t].getD i 0
def col (a : Nat → Nat → Fin 5) (j : Nat) (x y z t : Fin 5) : Prop := a 0 j = x ∧ a 1 j = y ∧ a 2 j = z ∧ a 3 j = t
theorem st4 {a : Nat → Nat → Fin 5} (ha : sp 4 a) (x0 x1 x2 x3 y0 y1 y2 y3 z0 z1 z2 z3 t0 t1 t2 t3 : Fin 5)
    (hd : dtm (mtF [[x0, x1, x2, x3], [y0, y1, y2, y3], [z0, z1, z2, z3], [t0, t1, t2, t3]]) 4 15 15 ≠ 0) :
    ∃ b, Sim 4 a b ∧ sp 4 b ∧
      (∀ e0 e1 e2 e3, (∀ i, i < 4 → a i 0 * x0 + a i 1 * x1 + a i 2 * x2 + a i 3 * x3 = cl x0 x1 x2 x3 i * e0 + cl y0 y1 y2 y3 i * e1 + cl z0 z1 z2 z3 i * e2 + cl t0 t1 t2 t3 i * e3) → col b 0 e0 e1 e2 e3) ∧
      (∀ e0 e1 e2 e3, (∀ i, i < 4 → a i 0 * y0 + a i 1 * y1 + a i 2 * y2 + a i 3 * y3 = cl x0 x1 x2 x3 i * e0 + cl y0 y1 y2 y3 i * e1 + cl z0 z1 z2 z3 i * e2 + cl t0 t1 t2 t3 i * e3) → col b 1 e0 e1 e2 e3) ∧
      (∀ e0 e1 e2 e3, (∀ i, i < 4 → a i 0 * z0 + a i 1 * z1 + a i 2 * z2 + a i 3 * z3 = cl x0 x1 x2 x3 i * e0 + cl y0 y1 y2 y3 i * e1 + cl z0 z1 z2 z3 i * e2 + cl t0 t1 t2 t3 i * e3) → col b 2 e0 e1 e2 e3) ∧
      (∀ e0 e1 e2 e3, (∀ i, i < 4 → a i 0 * t0 + a i 1 * t1 + a i 2 * t2 + a i 3 * t3 = cl x0 x1 x2 x3 i * e0 + cl y0 y1 y2 y3 i * e1 + cl z0 z1 z2 z3 i * e2 + cl t0 t1 t2 t3 i * e3) → col b 3 e0 e1 e2 e3) := by
  obtain ⟨b, b1, b2, b3⟩ := st (N := 4) (by decide) (by decide) ha [[x0, x1, x2, x3], [y0, y1, y2, y3], [z0, z1, z2, z3], [t0, t1, t2, t3]] (Nat.le_refl _) (fun c hc => len4 (Nat.le_refl _) (Nat.le_refl _) (Nat.le_refl _) (Nat.le_refl _) hc) hd
  have gen : ∀ (j : Nat) (w0 w1 w2 w3 : Fin 5), (∀ t, t < 4 → mtF [[x0, x1, x2, x3], [y0, y1, y2, y3], [z0, z1, z2, z3], [t0, t1, t2, t3]] t j = cl w0 w1 w2 w3 t) → ∀ e0 e1 e2 e3, (∀ i, i < 4 → a i 0 * w0 + a i 1 * w1 + a i 2 * w2 + a i 3 * w3 = cl x0 x1 x2 x3 i * e0 + cl y0 y1 y2 y3 i * e1 + cl z0 z1 z2 z3 i * e2 + cl t0 t1 t2 t3 i * e3) → col b j e0 e1 e2 e3 := by
    intro j w0 w1 w2 w3 hw e0 e1 e2 e3 he
    have := b3 j (cl e0 e1 e2 e3) (fun i hi => by
      show 0 + a i 0 * mtF [[x0, x1, x2, x3], [y0, y1, y2, y3], [z0, z1, z2, z3], [t0, t1, t2, t3]] 0 j + a i 1 * mtF [[x0, x1, x2, x3], [y0, y1, y2, y3], [z0, z1, z2, z3], [t0, t1, t2, t3]] 1 j + a i 2 * mtF [[x0, x1, x2, x3], [y0, y1, y2, y3], [z0, z1, z2, z3], [t0, t1, t2, t3]] 2 j + a i 3 * mtF [[x0, x1, x2, x3], [y0, y1, y2, y3], [z0, z1, z2, z3], [t0, t1, t2, t3]] 3 j = 0 + cl x0 x1 x2 x3 i * e0 + cl y0 y1 y2 y3 i * e1 + cl z0 z1 z2 z3 i * e2 + cl t0 t1 t2 t3 i * e3
      rw [hw 0 (by decide), hw 1 (by decide), hw 2 (by decide), hw 3 (by decide)]
      have := he i hi
      show 0 + a i 0 * w0 + a i 1 * w1 + a i 2 * w2 + a i 3 * w3 = _
      grind)
    exact ⟨this 0 (by decide), this 1 (by decide), this 2 (by decide), this 3 (by decide)⟩
  exact ⟨b, b1, b2, gen 0 x0 x1 x2 x3 (fun _ _ => rfl), gen 1 y0 y1 y2 y3 (fun _ _ => rfl), gen 2 z0 z1 z2 z3 (fun _ _ => rfl), gen 3 t0 t1 t2 t3 (fun _ _ => rfl)⟩
theorem fin4 {a : Nat → Nat → Fin 5} (ha : sp 4 a) {R : Nat → Nat → Nat} (hR : sp 4 (kM R)) {x0 x1 x2 x3 y0 y1 y2 y3 z0 z1 z2 z3 t0 t1 t2 t3 : Fin 5} (h0 : col a 0 x0 x1 x2 x3) (h1 : col a 1 y0 y1 y2 y3) (h2 : col a 2 z0 z1 z2 z3) (h3 : col a 3 t0 t1 t2 t3)
    (g0 : col (kM R) 0 x0 x1 x2 x3) (g1 : col (kM R) 1 y0 y1 y2 y3) (g2 : col (kM R) 2 z0 z1 z2 z3) (g3 : col (kM R) 3 t0 t1 t2 t3) : Sim 4 a (kM R) := by
  have : a = kM R := by
    have ee : ∀ j x y z t, col a j x y z t → col (kM R) j x y z t → ∀ i, i < 4 → a i j = kM R i j := by
      intro j x y z t c1 c2
      refine k4 ?_ ?_ ?_ ?_
      · rw [c1.1, c2.1]
      · rw [c1.2.1, c2.2.1]
      · rw [c1.2.2.1, c2.2.2.1]
      · rw [c1.2.2.2, c2.2.2.2]
    exact ext4 ha hR (ee 0 _ _ _ _ h0 g0) (ee 1 _ _ _ _ h1 g1) (ee 2 _ _ _ _ h2 g2) (ee 3 _ _ _ _ h3 g3)
  rw [← this]
  exact Sim_rf (by decide) ha
theorem sp4 {c0 c1 c2 c3 : List Nat} (h0 : c0.length ≤ 4) (h1 : c1.length ≤ 4) (h2 : c2.length ≤ 4) (h3 : c3.length ≤ 4) : sp 4 (kM (mt [c0, c1, c2, c3])) :=
  sp_mt (Nat.le_refl _) (fun c hc => len4 h0 h1 h2 h3 hc)
/-- a companion -/
theorem nf_F1 {a : Nat → Nat → Fin 5} (ha : sp 4 a) (h0 : col a 0 0 1 0 0) (h1 : col a 1 0 0 1 0) (h2 : col a 2 0 0 0 1) : NF4 a := by
  refine Or.inr (Or.inl ⟨(a 0 3).val, (a 1 3).val, (a 2 3).val, (a 3 3).val, Fin.isLt _, Fin.isLt _, Fin.isLt _, Fin.isLt _, ?_⟩)
  exact fin4 ha (sp4 (Nat.le_refl _) (Nat.le_refl _) (Nat.le_refl _) (Nat.le_refl _)) h0 h1 h2 (h3 := (⟨rfl, rfl, rfl, rfl⟩ : col a 3 (a 0 3) (a 1 3) (a 2 3) (a 3 3))) ⟨rfl, rfl, rfl, rfl⟩ ⟨rfl, rfl, rfl, rfl⟩ ⟨rfl, rfl, rfl, rfl⟩ ⟨kk_fin _, kk_fin _, kk_fin _, kk_fin _⟩
theorem L3s {a : Nat → Nat → Fin 5} (ha : sp 4 a) {p q r l s : Fin 5} (h0 : col a 0 0 1 0 0) (h1 : col a 1 0 0 1 0) (h2 : col a 2 p q r 0) (h3 : col a 3 s 0 0 l) : NF4 a := by
  have H0 := h0; have H1 := h1; have H2 := h2; have H3 := h3
  obtain ⟨a00, a10, a20, a30⟩ := h0
  obtain ⟨a01, a11, a21, a31⟩ := h1
  obtain ⟨a02, a12, a22, a32⟩ := h2
  obtain ⟨a03, a13, a23, a33⟩ := h3
  by_cases hs : s = 0
  · by_cases hp : l * l * l - r * l * l - q * l - p = 0
    · refine Or.inr (Or.inr (Or.inl ⟨q.val, r.val, l.val, Fin.isLt _, Fin.isLt _, Fin.isLt _, ?_⟩))
      refine fin4 ha (sp4 (Nat.le_refl _) (Nat.le_refl _) (Nat.le_refl _) (Nat.le_refl _)) H0 H1 H2 H3 ⟨rfl, rfl, rfl, rfl⟩ ⟨rfl, rfl, rfl, rfl⟩ ⟨?_, kk_fin _, kk_fin _, rfl⟩ ⟨by rw [hs]; rfl, rfl, rfl, kk_fin _⟩
      show kk ((l.val * l.val * l.val + (5 - r.val) * l.val * l.val + (5 - q.val) * l.val) % 5) = p
      rw [kk_mod, kk_add, kk_add, kk_mul, kk_mul, kk_mul, kk_mul, kk_mul, kk_5s (by have := r.isLt; omega), kk_5s (by have := q.isLt; omega), kk_fin, kk_fin, kk_fin]
      grind
    · obtain ⟨b, b1, b2, k0, k1, k2, _⟩ := st4 ha 1 0 0 1 0 1 0 l 0 0 1 (l * l) p q r (l * l * l) (by
        have e : dtm (mtF [[1, 0, 0, 1], [0, 1, 0, l], [0, 0, 1, l * l], [p, q, r, l * l * l]]) 4 15 15 = l * l * l - r * l * l - q * l - p := by
          simp [dtm, lapM, lo, rs, mtF] <;> grind
        rw [e]; exact hp)
      refine NF4_tr b1 (nf_F1 b2 (k0 0 1 0 0 ?_) (k1 0 0 1 0 ?_) (k2 0 0 0 1 ?_))
      all_goals (refine k4 ?_ ?_ ?_ ?_ <;> simp [cl, a00, a10, a20, a30, a01, a11, a21, a31, a02, a12, a22, a32, a03, a13, a23, a33, hs] <;> grind)
  · obtain ⟨b, b1, b2, k0, k1, k2, _⟩ := st4 ha 0 0 0 1 s 0 0 l (s * l) s 0 (l * l) (s * l * l) (s * l) s (l * l * l) (by
      have e : dtm (mtF [[0, 0, 0, 1], [s, 0, 0, l], [s * l, s, 0, l * l], [s * l * l, s * l, s, l * l * l]]) 4 15 15 = - (s * s * s) := by
        simp [dtm, lapM, lo, rs, mtF] <;> grind
      rw [e]
      have := f5_nz _ _ (f5_nz _ _ hs hs) hs
      grind)
    refine NF4_tr b1 (nf_F1 b2 (k0 0 1 0 0 ?_) (k1 0 0 1 0 ?_) (k2 0 0 0 1 ?_))
    all_goals (refine k4 ?_ ?_ ?_ ?_ <;> simp [cl, a00, a10, a20, a30, a01, a11, a21, a31, a02, a12, a22, a32, a03, a13, a23, a33] <;> grind)
theorem L3 {a : Nat → Nat → Fin 5} (ha : sp 4 a) (h0 : col a 0 0 1 0 0) (h1 : col a 1 0 0 1 0) : NF4 a := by
  obtain ⟨a00, a10, a20, a30⟩ := h0
  obtain ⟨a01, a11, a21, a31⟩ := h1
  by_cases hd : a 3 2 = 0
  · obtain ⟨b, b1, b2, k0, k1, k2, k3⟩ := st4 ha 1 0 0 0 0 1 0 0 0 0 1 0 (- a 1 3 - a 3 3 * a 2 3) (- a 2 3) 0 1 (by
      have e : dtm (mtF [[1, 0, 0, 0], [0, 1, 0, 0], [0, 0, 1, 0], [- a 1 3 - a 3 3 * a 2 3, - a 2 3, 0, 1]]) 4 15 15 = 1 := by
        simp [dtm, lapM, lo, rs, mtF] <;> grind
      rw [e]; decide)
    refine NF4_tr b1 (L3s b2 (p := a 0 2) (q := a 1 2) (r := a 2 2) (l := a 3 3) (s := a 0 3 - a 3 3 * (- a 1 3 - a 3 3 * a 2 3)) (k0 0 1 0 0 ?_) (k1 0 0 1 0 ?_) (k2 _ _ _ _ ?_) (k3 _ _ _ _ ?_))
    all_goals (refine k4 ?_ ?_ ?_ ?_ <;> simp [cl, a00, a10, a20, a30, a01, a11, a21, a31, hd] <;> grind)
  · obtain ⟨b, b1, b2, k0, k1, k2, k3⟩ := st4 ha 1 0 0 0 0 1 0 0 0 0 1 0 (a 0 2) (a 1 2) (a 2 2) (a 3 2) (by
      have e : dtm (mtF [[1, 0, 0, 0], [0, 1, 0, 0], [0, 0, 1, 0], [a 0 2, a 1 2, a 2 2, a 3 2]]) 4 15 15 = a 3 2 := by
        simp [dtm, lapM, lo, rs, mtF] <;> grind
      rw [e]; exact hd)
    refine NF4_tr b1 (nf_F1 b2 (k0 0 1 0 0 ?_) (k1 0 0 1 0 ?_) (k2 0 0 0 1 ?_))
    all_goals (refine k4 ?_ ?_ ?_ ?_ <;> simp [cl, a00, a10, a20, a30, a01, a11, a21, a31] <;> grind)
end
section
theorem L4s {a : Nat → Nat → Fin 5} (ha : sp 4 a) {x y s t l : Fin 5} (h0 : col a 0 0 1 0 0) (h1 : col a 1 x y 0 0) (h2 : col a 2 s 0 l 0) (h3 : col a 3 t 0 0 l) : NF4 a := by
  have H0 := h0; have H1 := h1; have H2 := h2; have H3 := h3
  obtain ⟨a00, a10, a20, a30⟩ := h0
  obtain ⟨a01, a11, a21, a31⟩ := h1
  obtain ⟨a02, a12, a22, a32⟩ := h2
  obtain ⟨a03, a13, a23, a33⟩ := h3
  by_cases hs : s = 0
  · by_cases ht : t = 0
    · by_cases hp : l * l - y * l - x = 0
      · refine Or.inr (Or.inr (Or.inr (Or.inr ⟨y.val, l.val, Fin.isLt _, Fin.isLt _, ?_⟩)))
        refine fin4 ha (sp4 (Nat.le_refl _) (Nat.le_refl _) (Nat.le_refl _) (Nat.le_refl _)) H0 H1 H2 H3 ⟨rfl, rfl, rfl, rfl⟩ ⟨?_, kk_fin _, rfl, rfl⟩ ⟨by rw [hs]; rfl, rfl, kk_fin _, rfl⟩ ⟨by rw [ht]; rfl, rfl, rfl, kk_fin _⟩
        show kk ((l.val * l.val + (5 - y.val) * l.val) % 5) = x
        rw [kk_mod, kk_add, kk_mul, kk_mul, kk_5s (by have := y.isLt; omega), kk_fin, kk_fin]
        grind
      · obtain ⟨b, b1, b2, k0, k1, k2, k3⟩ := st4 ha 1 0 1 0 0 1 l 0 x y (l * l) 0 0 0 0 1 (by
          have e : dtm (mtF [[1, 0, 1, 0], [0, 1, l, 0], [x, y, l * l, 0], [0, 0, 0, 1]]) 4 15 15 = l * l - y * l - x := by
            simp [dtm, lapM, lo, rs, mtF] <;> grind
          rw [e]
          have nz := hp
          grind)
        refine NF4_tr b1 (L3 b2 (k0 0 1 0 0 ?_) (k1 0 0 1 0 ?_))
        all_goals (refine k4 ?_ ?_ ?_ ?_ <;> simp [cl, a00, a10, a20, a30, a01, a11, a21, a31, a02, a12, a22, a32, a03, a13, a23, a33, hs, ht] <;> grind)
    · obtain ⟨b, b1, b2, k0, k1, k2, k3⟩ := st4 ha 0 0 0 1 t 0 0 l (l * t) t 0 (l * l) 0 0 1 0 (by
        have e : dtm (mtF [[0, 0, 0, 1], [t, 0, 0, l], [l * t, t, 0, l * l], [0, 0, 1, 0]]) 4 15 15 = - (t * t) := by
          simp [dtm, lapM, lo, rs, mtF] <;> grind
        rw [e]
        have nz := f5_nz _ _ ht ht
        grind)
      refine NF4_tr b1 (L3 b2 (k0 0 1 0 0 ?_) (k1 0 0 1 0 ?_))
      all_goals (refine k4 ?_ ?_ ?_ ?_ <;> simp [cl, a00, a10, a20, a30, a01, a11, a21, a31, a02, a12, a22, a32, a03, a13, a23, a33] <;> grind)
  · obtain ⟨b, b1, b2, k0, k1, k2, k3⟩ := st4 ha 0 0 1 0 s 0 l 0 (l * s) s (l * l) 0 0 0 0 1 (by
      have e : dtm (mtF [[0, 0, 1, 0], [s, 0, l, 0], [l * s, s, l * l, 0], [0, 0, 0, 1]]) 4 15 15 = s * s := by
        simp [dtm, lapM, lo, rs, mtF] <;> grind
      rw [e]
      have nz := f5_nz _ _ hs hs
      grind)
    refine NF4_tr b1 (L3 b2 (k0 0 1 0 0 ?_) (k1 0 0 1 0 ?_))
    all_goals (refine k4 ?_ ?_ ?_ ?_ <;> simp [cl, a00, a10, a20, a30, a01, a11, a21, a31, a02, a12, a22, a32, a03, a13, a23, a33] <;> grind)
theorem L5 {a : Nat → Nat → Fin 5} (ha : sp 4 a) {x y p q r s : Fin 5} (h0 : col a 0 0 1 0 0) (h1 : col a 1 x y 0 0) (h2 : col a 2 0 0 0 1) (h3 : col a 3 p q r s) : NF4 a := by
  have H0 := h0; have H1 := h1; have H2 := h2; have H3 := h3
  obtain ⟨a00, a10, a20, a30⟩ := h0
  obtain ⟨a01, a11, a21, a31⟩ := h1
  obtain ⟨a02, a12, a22, a32⟩ := h2
  obtain ⟨a03, a13, a23, a33⟩ := h3
  by_cases hq : q = 0
  · by_cases hp : p = 0
    · by_cases hy : y = s
      · by_cases hx : x = r
        · refine Or.inr (Or.inr (Or.inr (Or.inl ⟨x.val, y.val, Fin.isLt _, Fin.isLt _, ?_⟩)))
          exact fin4 ha (sp4 (Nat.le_refl _) (Nat.le_refl _) (Nat.le_refl _) (Nat.le_refl _)) H0 H1 H2 H3 ⟨rfl, rfl, rfl, rfl⟩ ⟨kk_fin _, kk_fin _, rfl, rfl⟩ ⟨rfl, rfl, rfl, rfl⟩ ⟨by rw [hp]; rfl, by rw [hq]; rfl, by rw [← hx]; exact kk_fin _, by rw [← hy]; exact kk_fin _⟩
        · obtain ⟨b, b1, b2, k0, k1, k2, k3⟩ := st4 ha 1 0 1 0 0 1 0 1 x y r s 0 1 0 0 (by
            have e : dtm (mtF [[1, 0, 1, 0], [0, 1, 0, 1], [x, y, r, s], [0, 1, 0, 0]]) 4 15 15 = x - r := by
              simp [dtm, lapM, lo, rs, mtF] <;> grind
            rw [e]
            have nz := hx
            grind)
          refine NF4_tr b1 (L3 b2 (k0 0 1 0 0 ?_) (k1 0 0 1 0 ?_))
          all_goals (refine k4 ?_ ?_ ?_ ?_ <;> simp [cl, a00, a10, a20, a30, a01, a11, a21, a31, a02, a12, a22, a32, a03, a13, a23, a33, hp, hq] <;> grind)
      · obtain ⟨b, b1, b2, k0, k1, k2, k3⟩ := st4 ha 1 0 1 0 0 1 0 1 x y r s 1 0 0 0 (by
          have e : dtm (mtF [[1, 0, 1, 0], [0, 1, 0, 1], [x, y, r, s], [1, 0, 0, 0]]) 4 15 15 = s - y := by
            simp [dtm, lapM, lo, rs, mtF] <;> grind
          rw [e]
          have nz := hy
          grind)
        refine NF4_tr b1 (L3 b2 (k0 0 1 0 0 ?_) (k1 0 0 1 0 ?_))
        all_goals (refine k4 ?_ ?_ ?_ ?_ <;> simp [cl, a00, a10, a20, a30, a01, a11, a21, a31, a02, a12, a22, a32, a03, a13, a23, a33, hp, hq] <;> grind)
    · obtain ⟨b, b1, b2, k0, k1, k2, k3⟩ := st4 ha 0 0 1 0 0 0 0 1 p q r s 0 1 0 0 (by
        have e : dtm (mtF [[0, 0, 1, 0], [0, 0, 0, 1], [p, q, r, s], [0, 1, 0, 0]]) 4 15 15 = p := by
          simp [dtm, lapM, lo, rs, mtF] <;> grind
        rw [e]
        have nz := hp
        grind)
      refine NF4_tr b1 (L3 b2 (k0 0 1 0 0 ?_) (k1 0 0 1 0 ?_))
      all_goals (refine k4 ?_ ?_ ?_ ?_ <;> simp [cl, a00, a10, a20, a30, a01, a11, a21, a31, a02, a12, a22, a32, a03, a13, a23, a33] <;> grind)
  · obtain ⟨b, b1, b2, k0, k1, k2, k3⟩ := st4 ha 0 0 1 0 0 0 0 1 p q r s 1 0 0 0 (by
      have e : dtm (mtF [[0, 0, 1, 0], [0, 0, 0, 1], [p, q, r, s], [1, 0, 0, 0]]) 4 15 15 = - (q) := by
        simp [dtm, lapM, lo, rs, mtF] <;> grind
      rw [e]
      have nz := hq
      grind)
    refine NF4_tr b1 (L3 b2 (k0 0 1 0 0 ?_) (k1 0 0 1 0 ?_))
    all_goals (refine k4 ?_ ?_ ?_ ?_ <;> simp [cl, a00, a10, a20, a30, a01, a11, a21, a31, a02, a12, a22, a32, a03, a13, a23, a33] <;> grind)
theorem L2b {a : Nat → Nat → Fin 5} (ha : sp 4 a) {x y : Fin 5} (h0 : col a 0 0 1 0 0) (h1 : col a 1 x y 0 0) : NF4 a := by
  obtain ⟨a00, a10, a20, a30⟩ := h0
  obtain ⟨a01, a11, a21, a31⟩ := h1
  by_cases h32 : a 3 2 = 0
  · by_cases h23 : a 2 3 = 0
    · by_cases hd : a 2 2 = a 3 3
      · obtain ⟨b, b1, b2, k0, k1, k2, k3⟩ := st4 ha 1 0 0 0 0 1 0 0 (- a 1 2) 0 1 0 (- a 1 3) 0 0 1 (by
          have e : dtm (mtF [[1, 0, 0, 0], [0, 1, 0, 0], [- a 1 2, 0, 1, 0], [- a 1 3, 0, 0, 1]]) 4 15 15 = 1 := by
            simp [dtm, lapM, lo, rs, mtF] <;> grind
          rw [e]
          have nz := hd
          grind)
        refine NF4_tr b1 (L4s b2 (x := x) (y := y) (s := a 0 2 + a 2 2 * a 1 2) (t := a 0 3 + a 2 2 * a 1 3) (l := a 2 2) (k0 0 1 0 0 ?_) (k1 x y 0 0 ?_) (k2 _ _ _ _ ?_) (k3 _ _ _ _ ?_))
        all_goals (refine k4 ?_ ?_ ?_ ?_ <;> simp [cl, a00, a10, a20, a30, a01, a11, a21, a31, h32, h23, hd] <;> grind)
      · obtain ⟨b, b1, b2, k0, k1, k2, k3⟩ := st4 ha 1 0 0 0 0 1 0 0 0 0 1 1 (a 0 2 + a 0 3) (a 1 2 + a 1 3) (a 2 2) (a 3 3) (by
          have e : dtm (mtF [[1, 0, 0, 0], [0, 1, 0, 0], [0, 0, 1, 1], [a 0 2 + a 0 3, a 1 2 + a 1 3, a 2 2, a 3 3]]) 4 15 15 = a 3 3 - a 2 2 := by
            simp [dtm, lapM, lo, rs, mtF] <;> grind
          rw [e]
          have nz := hd
          grind)
        refine NF4_tr b1 (L5 b2 (x := x) (y := y) (p := _) (q := _) (r := _) (s := _) (k0 0 1 0 0 ?_) (k1 x y 0 0 ?_) (k2 0 0 0 1 ?_) ⟨rfl, rfl, rfl, rfl⟩)
        all_goals (refine k4 ?_ ?_ ?_ ?_ <;> simp [cl, a00, a10, a20, a30, a01, a11, a21, a31, h32, h23] <;> grind)
    · obtain ⟨b, b1, b2, k0, k1, k2, k3⟩ := st4 ha 1 0 0 0 0 1 0 0 0 0 0 1 (a 0 3) (a 1 3) (a 2 3) (a 3 3) (by
        have e : dtm (mtF [[1, 0, 0, 0], [0, 1, 0, 0], [0, 0, 0, 1], [a 0 3, a 1 3, a 2 3, a 3 3]]) 4 15 15 = - (a 2 3) := by
          simp [dtm, lapM, lo, rs, mtF] <;> grind
        rw [e]
        have nz := h23
        grind)
      refine NF4_tr b1 (L5 b2 (x := x) (y := y) (p := _) (q := _) (r := _) (s := _) (k0 0 1 0 0 ?_) (k1 x y 0 0 ?_) (k2 0 0 0 1 ?_) ⟨rfl, rfl, rfl, rfl⟩)
      all_goals (refine k4 ?_ ?_ ?_ ?_ <;> simp [cl, a00, a10, a20, a30, a01, a11, a21, a31] <;> grind)
  · obtain ⟨b, b1, b2, k0, k1, k2, k3⟩ := st4 ha 1 0 0 0 0 1 0 0 0 0 1 0 (a 0 2) (a 1 2) (a 2 2) (a 3 2) (by
      have e : dtm (mtF [[1, 0, 0, 0], [0, 1, 0, 0], [0, 0, 1, 0], [a 0 2, a 1 2, a 2 2, a 3 2]]) 4 15 15 = a 3 2 := by
        simp [dtm, lapM, lo, rs, mtF] <;> grind
      rw [e]
      have nz := h32
      grind)
    refine NF4_tr b1 (L5 b2 (x := x) (y := y) (p := _) (q := _) (r := _) (s := _) (k0 0 1 0 0 ?_) (k1 x y 0 0 ?_) (k2 0 0 0 1 ?_) ⟨rfl, rfl, rfl, rfl⟩)
    all_goals (refine k4 ?_ ?_ ?_ ?_ <;> simp [cl, a00, a10, a20, a30, a01, a11, a21, a31] <;> grind)
theorem L2 {a : Nat → Nat → Fin 5} (ha : sp 4 a) (h0 : col a 0 0 1 0 0) : NF4 a := by
  have H0 := h0
  obtain ⟨a00, a10, a20, a30⟩ := h0
  by_cases h21 : a 2 1 = 0
  · by_cases h31 : a 3 1 = 0
    · exact L2b ha H0 (x := a 0 1) (y := a 1 1) ⟨rfl, rfl, h21, h31⟩
    · obtain ⟨b, b1, b2, k0, k1, k2, k3⟩ := st4 ha 1 0 0 0 0 1 0 0 (a 0 1) (a 1 1) (a 2 1) (a 3 1) 0 0 1 0 (by
        have e : dtm (mtF [[1, 0, 0, 0], [0, 1, 0, 0], [a 0 1, a 1 1, a 2 1, a 3 1], [0, 0, 1, 0]]) 4 15 15 = - (a 3 1) := by
          simp [dtm, lapM, lo, rs, mtF] <;> grind
        rw [e]
        have nz := h31
        grind)
      refine NF4_tr b1 (L3 b2 (k0 0 1 0 0 ?_) (k1 0 0 1 0 ?_))
      all_goals (refine k4 ?_ ?_ ?_ ?_ <;> simp [cl, a00, a10, a20, a30] <;> grind)
  · obtain ⟨b, b1, b2, k0, k1, k2, k3⟩ := st4 ha 1 0 0 0 0 1 0 0 (a 0 1) (a 1 1) (a 2 1) (a 3 1) 0 0 0 1 (by
      have e : dtm (mtF [[1, 0, 0, 0], [0, 1, 0, 0], [a 0 1, a 1 1, a 2 1, a 3 1], [0, 0, 0, 1]]) 4 15 15 = a 2 1 := by
        simp [dtm, lapM, lo, rs, mtF] <;> grind
      rw [e]
      have nz := h21
      grind)
    refine NF4_tr b1 (L3 b2 (k0 0 1 0 0 ?_) (k1 0 0 1 0 ?_))
    all_goals (refine k4 ?_ ?_ ?_ ?_ <;> simp [cl, a00, a10, a20, a30] <;> grind)
theorem L1_4_0_1 {a : Nat → Nat → Fin 5} (ha : sp 4 a) (h : a 0 1 ≠ 0) : NF4 a := by
  obtain ⟨b, b1, b2, k0, k1, k2, k3⟩ := st4 ha 0 1 0 0 (a 0 1) (a 1 1) (a 2 1) (a 3 1) 0 0 1 0 0 0 0 1 (by
    have e : dtm (mtF [[0, 1, 0, 0], [a 0 1, a 1 1, a 2 1, a 3 1], [0, 0, 1, 0], [0, 0, 0, 1]]) 4 15 15 = - (a 0 1) := by
      simp [dtm, lapM, lo, rs, mtF] <;> grind
    rw [e]
    have nz := h
    grind)
  refine NF4_tr b1 (L2 b2 (k0 0 1 0 0 ?_))
  all_goals (refine k4 ?_ ?_ ?_ ?_ <;> simp [cl] <;> grind)
theorem L1_4_0_2 {a : Nat → Nat → Fin 5} (ha : sp 4 a) (h : a 0 2 ≠ 0) : NF4 a := by
  obtain ⟨b, b1, b2, k0, k1, k2, k3⟩ := st4 ha 0 0 1 0 (a 0 2) (a 1 2) (a 2 2) (a 3 2) 0 1 0 0 0 0 0 1 (by
    have e : dtm (mtF [[0, 0, 1, 0], [a 0 2, a 1 2, a 2 2, a 3 2], [0, 1, 0, 0], [0, 0, 0, 1]]) 4 15 15 = a 0 2 := by
      simp [dtm, lapM, lo, rs, mtF] <;> grind
    rw [e]
    have nz := h
    grind)
  refine NF4_tr b1 (L2 b2 (k0 0 1 0 0 ?_))
  all_goals (refine k4 ?_ ?_ ?_ ?_ <;> simp [cl] <;> grind)
theorem L1_4_0_3 {a : Nat → Nat → Fin 5} (ha : sp 4 a) (h : a 0 3 ≠ 0) : NF4 a := by
  obtain ⟨b, b1, b2, k0, k1, k2, k3⟩ := st4 ha 0 0 0 1 (a 0 3) (a 1 3) (a 2 3) (a 3 3) 0 1 0 0 0 0 1 0 (by
    have e : dtm (mtF [[0, 0, 0, 1], [a 0 3, a 1 3, a 2 3, a 3 3], [0, 1, 0, 0], [0, 0, 1, 0]]) 4 15 15 = - (a 0 3) := by
      simp [dtm, lapM, lo, rs, mtF] <;> grind
    rw [e]
    have nz := h
    grind)
  refine NF4_tr b1 (L2 b2 (k0 0 1 0 0 ?_))
  all_goals (refine k4 ?_ ?_ ?_ ?_ <;> simp [cl] <;> grind)
theorem L1_4_1_0 {a : Nat → Nat → Fin 5} (ha : sp 4 a) (h : a 1 0 ≠ 0) : NF4 a := by
  obtain ⟨b, b1, b2, k0, k1, k2, k3⟩ := st4 ha 1 0 0 0 (a 0 0) (a 1 0) (a 2 0) (a 3 0) 0 0 1 0 0 0 0 1 (by
    have e : dtm (mtF [[1, 0, 0, 0], [a 0 0, a 1 0, a 2 0, a 3 0], [0, 0, 1, 0], [0, 0, 0, 1]]) 4 15 15 = a 1 0 := by
      simp [dtm, lapM, lo, rs, mtF] <;> grind
    rw [e]
    have nz := h
    grind)
  refine NF4_tr b1 (L2 b2 (k0 0 1 0 0 ?_))
  all_goals (refine k4 ?_ ?_ ?_ ?_ <;> simp [cl] <;> grind)
theorem L1_4_1_2 {a : Nat → Nat → Fin 5} (ha : sp 4 a) (h : a 1 2 ≠ 0) : NF4 a := by
  obtain ⟨b, b1, b2, k0, k1, k2, k3⟩ := st4 ha 0 0 1 0 (a 0 2) (a 1 2) (a 2 2) (a 3 2) 1 0 0 0 0 0 0 1 (by
    have e : dtm (mtF [[0, 0, 1, 0], [a 0 2, a 1 2, a 2 2, a 3 2], [1, 0, 0, 0], [0, 0, 0, 1]]) 4 15 15 = - (a 1 2) := by
      simp [dtm, lapM, lo, rs, mtF] <;> grind
    rw [e]
    have nz := h
    grind)
  refine NF4_tr b1 (L2 b2 (k0 0 1 0 0 ?_))
  all_goals (refine k4 ?_ ?_ ?_ ?_ <;> simp [cl] <;> grind)
theorem L1_4_1_3 {a : Nat → Nat → Fin 5} (ha : sp 4 a) (h : a 1 3 ≠ 0) : NF4 a := by
  obtain ⟨b, b1, b2, k0, k1, k2, k3⟩ := st4 ha 0 0 0 1 (a 0 3) (a 1 3) (a 2 3) (a 3 3) 1 0 0 0 0 0 1 0 (by
    have e : dtm (mtF [[0, 0, 0, 1], [a 0 3, a 1 3, a 2 3, a 3 3], [1, 0, 0, 0], [0, 0, 1, 0]]) 4 15 15 = a 1 3 := by
      simp [dtm, lapM, lo, rs, mtF] <;> grind
    rw [e]
    have nz := h
    grind)
  refine NF4_tr b1 (L2 b2 (k0 0 1 0 0 ?_))
  all_goals (refine k4 ?_ ?_ ?_ ?_ <;> simp [cl] <;> grind)
theorem L1_4_2_0 {a : Nat → Nat → Fin 5} (ha : sp 4 a) (h : a 2 0 ≠ 0) : NF4 a := by
  obtain ⟨b, b1, b2, k0, k1, k2, k3⟩ := st4 ha 1 0 0 0 (a 0 0) (a 1 0) (a 2 0) (a 3 0) 0 1 0 0 0 0 0 1 (by
    have e : dtm (mtF [[1, 0, 0, 0], [a 0 0, a 1 0, a 2 0, a 3 0], [0, 1, 0, 0], [0, 0, 0, 1]]) 4 15 15 = - (a 2 0) := by
      simp [dtm, lapM, lo, rs, mtF] <;> grind
    rw [e]
    have nz := h
    grind)
  refine NF4_tr b1 (L2 b2 (k0 0 1 0 0 ?_))
  all_goals (refine k4 ?_ ?_ ?_ ?_ <;> simp [cl] <;> grind)
theorem L1_4_2_1 {a : Nat → Nat → Fin 5} (ha : sp 4 a) (h : a 2 1 ≠ 0) : NF4 a := by
  obtain ⟨b, b1, b2, k0, k1, k2, k3⟩ := st4 ha 0 1 0 0 (a 0 1) (a 1 1) (a 2 1) (a 3 1) 1 0 0 0 0 0 0 1 (by
    have e : dtm (mtF [[0, 1, 0, 0], [a 0 1, a 1 1, a 2 1, a 3 1], [1, 0, 0, 0], [0, 0, 0, 1]]) 4 15 15 = a 2 1 := by
      simp [dtm, lapM, lo, rs, mtF] <;> grind
    rw [e]
    have nz := h
    grind)
  refine NF4_tr b1 (L2 b2 (k0 0 1 0 0 ?_))
  all_goals (refine k4 ?_ ?_ ?_ ?_ <;> simp [cl] <;> grind)
theorem L1_4_2_3 {a : Nat → Nat → Fin 5} (ha : sp 4 a) (h : a 2 3 ≠ 0) : NF4 a := by
  obtain ⟨b, b1, b2, k0, k1, k2, k3⟩ := st4 ha 0 0 0 1 (a 0 3) (a 1 3) (a 2 3) (a 3 3) 1 0 0 0 0 1 0 0 (by
    have e : dtm (mtF [[0, 0, 0, 1], [a 0 3, a 1 3, a 2 3, a 3 3], [1, 0, 0, 0], [0, 1, 0, 0]]) 4 15 15 = - (a 2 3) := by
      simp [dtm, lapM, lo, rs, mtF] <;> grind
    rw [e]
    have nz := h
    grind)
  refine NF4_tr b1 (L2 b2 (k0 0 1 0 0 ?_))
  all_goals (refine k4 ?_ ?_ ?_ ?_ <;> simp [cl] <;> grind)
theorem L1_4_3_0 {a : Nat → Nat → Fin 5} (ha : sp 4 a) (h : a 3 0 ≠ 0) : NF4 a := by
  obtain ⟨b, b1, b2, k0, k1, k2, k3⟩ := st4 ha 1 0 0 0 (a 0 0) (a 1 0) (a 2 0) (a 3 0) 0 1 0 0 0 0 1 0 (by
    have e : dtm (mtF [[1, 0, 0, 0], [a 0 0, a 1 0, a 2 0, a 3 0], [0, 1, 0, 0], [0, 0, 1, 0]]) 4 15 15 = a 3 0 := by
      simp [dtm, lapM, lo, rs, mtF] <;> grind
    rw [e]
    have nz := h
    grind)
  refine NF4_tr b1 (L2 b2 (k0 0 1 0 0 ?_))
  all_goals (refine k4 ?_ ?_ ?_ ?_ <;> simp [cl] <;> grind)
theorem L1_4_3_1 {a : Nat → Nat → Fin 5} (ha : sp 4 a) (h : a 3 1 ≠ 0) : NF4 a := by
  obtain ⟨b, b1, b2, k0, k1, k2, k3⟩ := st4 ha 0 1 0 0 (a 0 1) (a 1 1) (a 2 1) (a 3 1) 1 0 0 0 0 0 1 0 (by
    have e : dtm (mtF [[0, 1, 0, 0], [a 0 1, a 1 1, a 2 1, a 3 1], [1, 0, 0, 0], [0, 0, 1, 0]]) 4 15 15 = - (a 3 1) := by
      simp [dtm, lapM, lo, rs, mtF] <;> grind
    rw [e]
    have nz := h
    grind)
  refine NF4_tr b1 (L2 b2 (k0 0 1 0 0 ?_))
  all_goals (refine k4 ?_ ?_ ?_ ?_ <;> simp [cl] <;> grind)
theorem L1_4_3_2 {a : Nat → Nat → Fin 5} (ha : sp 4 a) (h : a 3 2 ≠ 0) : NF4 a := by
  obtain ⟨b, b1, b2, k0, k1, k2, k3⟩ := st4 ha 0 0 1 0 (a 0 2) (a 1 2) (a 2 2) (a 3 2) 1 0 0 0 0 1 0 0 (by
    have e : dtm (mtF [[0, 0, 1, 0], [a 0 2, a 1 2, a 2 2, a 3 2], [1, 0, 0, 0], [0, 1, 0, 0]]) 4 15 15 = a 3 2 := by
      simp [dtm, lapM, lo, rs, mtF] <;> grind
    rw [e]
    have nz := h
    grind)
  refine NF4_tr b1 (L2 b2 (k0 0 1 0 0 ?_))
  all_goals (refine k4 ?_ ?_ ?_ ?_ <;> simp [cl] <;> grind)
theorem L1d_4_1 {a : Nat → Nat → Fin 5} (ha : sp 4 a) (o01 : a 0 1 = 0) (o02 : a 0 2 = 0) (o03 : a 0 3 = 0) (o10 : a 1 0 = 0) (o12 : a 1 2 = 0) (o13 : a 1 3 = 0) (o20 : a 2 0 = 0) (o21 : a 2 1 = 0) (o23 : a 2 3 = 0) (o30 : a 3 0 = 0) (o31 : a 3 1 = 0) (o32 : a 3 2 = 0) (h : a 0 0 ≠ a 1 1) : NF4 a := by
  obtain ⟨b, b1, b2, k0, k1, k2, k3⟩ := st4 ha 1 1 0 0 (a 0 0) (a 1 1) 0 0 0 0 1 0 0 0 0 1 (by
    have e : dtm (mtF [[1, 1, 0, 0], [a 0 0, a 1 1, 0, 0], [0, 0, 1, 0], [0, 0, 0, 1]]) 4 15 15 = a 1 1 - a 0 0 := by
      simp [dtm, lapM, lo, rs, mtF] <;> grind
    rw [e]
    have nz := h
    grind)
  refine NF4_tr b1 (L2 b2 (k0 0 1 0 0 ?_))
  all_goals (refine k4 ?_ ?_ ?_ ?_ <;> simp [cl, o01, o02, o03, o10, o12, o13, o20, o21, o23, o30, o31, o32] <;> grind)
theorem L1d_4_2 {a : Nat → Nat → Fin 5} (ha : sp 4 a) (o01 : a 0 1 = 0) (o02 : a 0 2 = 0) (o03 : a 0 3 = 0) (o10 : a 1 0 = 0) (o12 : a 1 2 = 0) (o13 : a 1 3 = 0) (o20 : a 2 0 = 0) (o21 : a 2 1 = 0) (o23 : a 2 3 = 0) (o30 : a 3 0 = 0) (o31 : a 3 1 = 0) (o32 : a 3 2 = 0) (h : a 0 0 ≠ a 2 2) : NF4 a := by
  obtain ⟨b, b1, b2, k0, k1, k2, k3⟩ := st4 ha 1 0 1 0 (a 0 0) 0 (a 2 2) 0 0 1 0 0 0 0 0 1 (by
    have e : dtm (mtF [[1, 0, 1, 0], [a 0 0, 0, a 2 2, 0], [0, 1, 0, 0], [0, 0, 0, 1]]) 4 15 15 = - (a 2 2 - a 0 0) := by
      simp [dtm, lapM, lo, rs, mtF] <;> grind
    rw [e]
    have nz := h
    grind)
  refine NF4_tr b1 (L2 b2 (k0 0 1 0 0 ?_))
  all_goals (refine k4 ?_ ?_ ?_ ?_ <;> simp [cl, o01, o02, o03, o10, o12, o13, o20, o21, o23, o30, o31, o32] <;> grind)
theorem L1d_4_3 {a : Nat → Nat → Fin 5} (ha : sp 4 a) (o01 : a 0 1 = 0) (o02 : a 0 2 = 0) (o03 : a 0 3 = 0) (o10 : a 1 0 = 0) (o12 : a 1 2 = 0) (o13 : a 1 3 = 0) (o20 : a 2 0 = 0) (o21 : a 2 1 = 0) (o23 : a 2 3 = 0) (o30 : a 3 0 = 0) (o31 : a 3 1 = 0) (o32 : a 3 2 = 0) (h : a 0 0 ≠ a 3 3) : NF4 a := by
  obtain ⟨b, b1, b2, k0, k1, k2, k3⟩ := st4 ha 1 0 0 1 (a 0 0) 0 0 (a 3 3) 0 1 0 0 0 0 1 0 (by
    have e : dtm (mtF [[1, 0, 0, 1], [a 0 0, 0, 0, a 3 3], [0, 1, 0, 0], [0, 0, 1, 0]]) 4 15 15 = a 3 3 - a 0 0 := by
      simp [dtm, lapM, lo, rs, mtF] <;> grind
    rw [e]
    have nz := h
    grind)
  refine NF4_tr b1 (L2 b2 (k0 0 1 0 0 ?_))
  all_goals (refine k4 ?_ ?_ ?_ ?_ <;> simp [cl, o01, o02, o03, o10, o12, o13, o20, o21, o23, o30, o31, o32] <;> grind)
theorem nf4 {a : Nat → Nat → Fin 5} (ha : sp 4 a) : NF4 a := by
  by_cases o01 : a 0 1 = 0
  case neg => exact L1_4_0_1 ha o01
  by_cases o02 : a 0 2 = 0
  case neg => exact L1_4_0_2 ha o02
  by_cases o03 : a 0 3 = 0
  case neg => exact L1_4_0_3 ha o03
  by_cases o10 : a 1 0 = 0
  case neg => exact L1_4_1_0 ha o10
  by_cases o12 : a 1 2 = 0
  case neg => exact L1_4_1_2 ha o12
  by_cases o13 : a 1 3 = 0
  case neg => exact L1_4_1_3 ha o13
  by_cases o20 : a 2 0 = 0
  case neg => exact L1_4_2_0 ha o20
  by_cases o21 : a 2 1 = 0
  case neg => exact L1_4_2_1 ha o21
  by_cases o23 : a 2 3 = 0
  case neg => exact L1_4_2_3 ha o23
  by_cases o30 : a 3 0 = 0
  case neg => exact L1_4_3_0 ha o30
  by_cases o31 : a 3 1 = 0
  case neg => exact L1_4_3_1 ha o31
  by_cases o32 : a 3 2 = 0
  case neg => exact L1_4_3_2 ha o32
  by_cases d1 : a 0 0 = a 1 1
  case neg => exact L1d_4_1 ha o01 o02 o03 o10 o12 o13 o20 o21 o23 o30 o31 o32 d1
  by_cases d2 : a 0 0 = a 2 2
  case neg => exact L1d_4_2 ha o01 o02 o03 o10 o12 o13 o20 o21 o23 o30 o31 o32 d2
  by_cases d3 : a 0 0 = a 3 3
  case neg => exact L1d_4_3 ha o01 o02 o03 o10 o12 o13 o20 o21 o23 o30 o31 o32 d3
  refine Or.inl ⟨(a 0 0).val, Fin.isLt _, ?_⟩
  exact fin4 ha (sp4 (Nat.le_refl _) (Nat.le_refl _) (Nat.le_refl _) (Nat.le_refl _)) (x0 := a 0 0) (x1 := 0) (x2 := 0) (x3 := 0) (y0 := 0) (y1 := a 0 0) (y2 := 0) (y3 := 0) (z0 := 0) (z1 := 0) (z2 := a 0 0) (z3 := 0) (t0 := 0) (t1 := 0) (t2 := 0) (t3 := a 0 0) ⟨rfl, o10, o20, o30⟩ ⟨o01, d1.symm, o21, o31⟩ ⟨o02, o12, d2.symm, o32⟩ ⟨o03, o13, o23, d3.symm⟩ ⟨kk_fin _, rfl, rfl, rfl⟩ ⟨rfl, kk_fin _, rfl, rfl⟩ ⟨rfl, rfl, kk_fin _, rfl⟩ ⟨rfl, rfl, rfl, kk_fin _⟩
theorem k3 {P : Nat → Prop} (h0 : P 0) (h1 : P 1) (h2 : P 2) : ∀ k, k < 3 → P k := by
  intro k hk
  match k, hk with
  | 0, _ => exact h0
  | 1, _ => exact h1
  | 2, _ => exact h2
theorem k2 {P : Nat → Prop} (h0 : P 0) (h1 : P 1) : ∀ k, k < 2 → P k := by
  intro k hk
  match k, hk with
  | 0, _ => exact h0
  | 1, _ => exact h1
def cl3 (x y z : Fin 5) : Nat → Fin 5 := fun i => [x, y, z].getD i 0
def col3 (a : Nat → Nat → Fin 5) (j : Nat) (x y z : Fin 5) : Prop := a 0 j = x ∧ a 1 j = y ∧ a 2 j = z
def cl2 (x y : Fin 5) : Nat → Fin 5 := fun i => [x, y].getD i 0
def col2 (a : Nat → Nat → Fin 5) (j : Nat) (x y : Fin 5) : Prop := a 0 j = x ∧ a 1 j = y
def qG0 (l : Nat) : Nat → Nat → Nat := mt [[l, 0, 0], [0, l, 0], [0, 0, l]]
def qG1 (p q r : Nat) : Nat → Nat → Nat := mt [[0, 1, 0], [0, 0, 1], [p, q, r]]
def qG2 (b l : Nat) : Nat → Nat → Nat := mt [[0, 1, 0], [(l * l + (5 - b) * l) % 5, b, 0], [0, 0, l]]
def qH0 (l : Nat) : Nat → Nat → Nat := mt [[l, 0], [0, l]]
def qH1 (p q : Nat) : Nat → Nat → Nat := mt [[0, 1], [p, q]]
def NF3 (a : Nat → Nat → Fin 5) : Prop := (∃ l, l < 5 ∧ Sim 3 a (kM (qG0 l))) ∨ (∃ p q r, p < 5 ∧ q < 5 ∧ r < 5 ∧ Sim 3 a (kM (qG1 p q r))) ∨ (∃ b l, b < 5 ∧ l < 5 ∧ Sim 3 a (kM (qG2 b l)))
def NF2 (a : Nat → Nat → Fin 5) : Prop := (∃ l, l < 5 ∧ Sim 2 a (kM (qH0 l))) ∨ (∃ p q, p < 5 ∧ q < 5 ∧ Sim 2 a (kM (qH1 p q)))
theorem NF3_tr {a b : Nat → Nat → Fin 5} (h : Sim 3 a b) (hb : NF3 b) : NF3 a := by
  rcases hb with ⟨l, h1, hs⟩ | ⟨p, q, r, h1, h2, h3, hs⟩ | ⟨b, l, h1, h2, hs⟩
  · exact Or.inl ⟨l, h1, Sim_tr (by decide) h hs⟩
  · exact Or.inr (Or.inl ⟨p, q, r, h1, h2, h3, Sim_tr (by decide) h hs⟩)
  · exact Or.inr (Or.inr ⟨b, l, h1, h2, Sim_tr (by decide) h hs⟩)
theorem NF2_tr {a b : Nat → Nat → Fin 5} (h : Sim 2 a b) (hb : NF2 b) : NF2 a := by
  rcases hb with ⟨l, h1, hs⟩ | ⟨p, q, h1, h2, hs⟩
  · exact Or.inl ⟨l, h1, Sim_tr (by decide) h hs⟩
  · exact Or.inr ⟨p, q, h1, h2, Sim_tr (by decide) h hs⟩
theorem st3 {a : Nat → Nat → Fin 5} (ha : sp 3 a) (x0 x1 x2 y0 y1 y2 z0 z1 z2 : Fin 5) (hd : dtm (mtF [[x0, x1, x2], [y0, y1, y2], [z0, z1, z2]]) 3 7 7 ≠ 0) :
    ∃ b, Sim 3 a b ∧ sp 3 b ∧ (∀ e0 e1 e2, (∀ i, i < 3 → a i 0 * x0 + a i 1 * x1 + a i 2 * x2 = cl3 x0 x1 x2 i * e0 + cl3 y0 y1 y2 i * e1 + cl3 z0 z1 z2 i * e2) → col3 b 0 e0 e1 e2) ∧ (∀ e0 e1 e2, (∀ i, i < 3 → a i 0 * y0 + a i 1 * y1 + a i 2 * y2 = cl3 x0 x1 x2 i * e0 + cl3 y0 y1 y2 i * e1 + cl3 z0 z1 z2 i * e2) → col3 b 1 e0 e1 e2) ∧ (∀ e0 e1 e2, (∀ i, i < 3 → a i 0 * z0 + a i 1 * z1 + a i 2 * z2 = cl3 x0 x1 x2 i * e0 + cl3 y0 y1 y2 i * e1 + cl3 z0 z1 z2 i * e2) → col3 b 2 e0 e1 e2) := by
  obtain ⟨b, b1, b2, b3⟩ := st (N := 3) (by decide) (by decide) ha [[x0, x1, x2], [y0, y1, y2], [z0, z1, z2]] (Nat.le_refl _) (fun c hc => len3 (Nat.le_refl _) (Nat.le_refl _) (Nat.le_refl _) hc) hd
  have gen : ∀ (j : Nat) (w0 w1 w2 : Fin 5), (∀ t, t < 3 → mtF [[x0, x1, x2], [y0, y1, y2], [z0, z1, z2]] t j = cl3 w0 w1 w2 t) → ∀ e0 e1 e2, (∀ i, i < 3 → a i 0 * w0 + a i 1 * w1 + a i 2 * w2 = cl3 x0 x1 x2 i * e0 + cl3 y0 y1 y2 i * e1 + cl3 z0 z1 z2 i * e2) → col3 b j e0 e1 e2 := by
    intro j w0 w1 w2 hw e0 e1 e2 he
    have := b3 j (cl3 e0 e1 e2) (fun i hi => by
      show 0 + a i 0 * mtF [[x0, x1, x2], [y0, y1, y2], [z0, z1, z2]] 0 j + a i 1 * mtF [[x0, x1, x2], [y0, y1, y2], [z0, z1, z2]] 1 j + a i 2 * mtF [[x0, x1, x2], [y0, y1, y2], [z0, z1, z2]] 2 j = 0 + cl3 x0 x1 x2 i * e0 + cl3 y0 y1 y2 i * e1 + cl3 z0 z1 z2 i * e2
      rw [hw 0 (by decide), hw 1 (by decide), hw 2 (by decide)]
      have := he i hi
      show 0 + a i 0 * w0 + a i 1 * w1 + a i 2 * w2 = _
      grind)
    exact ⟨this 0 (by decide), this 1 (by decide), this 2 (by decide)⟩
  exact ⟨b, b1, b2, gen 0 x0 x1 x2 (fun _ _ => rfl), gen 1 y0 y1 y2 (fun _ _ => rfl), gen 2 z0 z1 z2 (fun _ _ => rfl)⟩
theorem fin3 {a : Nat → Nat → Fin 5} (ha : sp 3 a) {R : Nat → Nat → Nat} (hR : sp 3 (kM R)) {x0 x1 x2 y0 y1 y2 z0 z1 z2 : Fin 5} (h0 : col3 a 0 x0 x1 x2) (h1 : col3 a 1 y0 y1 y2) (h2 : col3 a 2 z0 z1 z2) (g0 : col3 (kM R) 0 x0 x1 x2) (g1 : col3 (kM R) 1 y0 y1 y2) (g2 : col3 (kM R) 2 z0 z1 z2) : Sim 3 a (kM R) := by
  have : a = kM R := by
    have ee : ∀ j x y z, col3 a j x y z → col3 (kM R) j x y z → ∀ i, i < 3 → a i j = kM R i j := by
      intro j x y z c1 c2
      refine k3 ?_ ?_ ?_
      · rw [c1.1, c2.1]
      · rw [c1.2.1, c2.2.1]
      · rw [c1.2.2, c2.2.2]
    refine sp_ext ha hR (fun i j hi hj => ?_)
    match j, hj with
    | 0, _ => exact ee 0 _ _ _ h0 g0 i hi
    | 1, _ => exact ee 1 _ _ _ h1 g1 i hi
    | 2, _ => exact ee 2 _ _ _ h2 g2 i hi
  rw [← this]
  exact Sim_rf (by decide) ha
theorem sp3 {c0 c1 c2 : List Nat} (h0 : c0.length ≤ 3) (h1 : c1.length ≤ 3) (h2 : c2.length ≤ 3) : sp 3 (kM (mt [c0, c1, c2])) :=
  sp_mt (Nat.le_refl _) (fun c hc => len3 h0 h1 h2 hc)
theorem st2 {a : Nat → Nat → Fin 5} (ha : sp 2 a) (x0 x1 y0 y1 : Fin 5) (hd : dtm (mtF [[x0, x1], [y0, y1]]) 2 3 3 ≠ 0) :
    ∃ b, Sim 2 a b ∧ sp 2 b ∧ (∀ e0 e1, (∀ i, i < 2 → a i 0 * x0 + a i 1 * x1 = cl2 x0 x1 i * e0 + cl2 y0 y1 i * e1) → col2 b 0 e0 e1) ∧ (∀ e0 e1, (∀ i, i < 2 → a i 0 * y0 + a i 1 * y1 = cl2 x0 x1 i * e0 + cl2 y0 y1 i * e1) → col2 b 1 e0 e1) := by
  obtain ⟨b, b1, b2, b3⟩ := st (N := 2) (by decide) (by decide) ha [[x0, x1], [y0, y1]] (Nat.le_refl _) (fun c hc => len2 (Nat.le_refl _) (Nat.le_refl _) hc) hd
  have gen : ∀ (j : Nat) (w0 w1 : Fin 5), (∀ t, t < 2 → mtF [[x0, x1], [y0, y1]] t j = cl2 w0 w1 t) → ∀ e0 e1, (∀ i, i < 2 → a i 0 * w0 + a i 1 * w1 = cl2 x0 x1 i * e0 + cl2 y0 y1 i * e1) → col2 b j e0 e1 := by
    intro j w0 w1 hw e0 e1 he
    have := b3 j (cl2 e0 e1) (fun i hi => by
      show 0 + a i 0 * mtF [[x0, x1], [y0, y1]] 0 j + a i 1 * mtF [[x0, x1], [y0, y1]] 1 j = 0 + cl2 x0 x1 i * e0 + cl2 y0 y1 i * e1
      rw [hw 0 (by decide), hw 1 (by decide)]
      have := he i hi
      show 0 + a i 0 * w0 + a i 1 * w1 = _
      grind)
    exact ⟨this 0 (by decide), this 1 (by decide)⟩
  exact ⟨b, b1, b2, gen 0 x0 x1 (fun _ _ => rfl), gen 1 y0 y1 (fun _ _ => rfl)⟩
theorem fin2 {a : Nat → Nat → Fin 5} (ha : sp 2 a) {R : Nat → Nat → Nat} (hR : sp 2 (kM R)) {x0 x1 y0 y1 : Fin 5} (h0 : col2 a 0 x0 x1) (h1 : col2 a 1 y0 y1) (g0 : col2 (kM R) 0 x0 x1) (g1 : col2 (kM R) 1 y0 y1) : Sim 2 a (kM R) := by
  have : a = kM R := by
    have ee : ∀ j x y, col2 a j x y → col2 (kM R) j x y → ∀ i, i < 2 → a i j = kM R i j := by
      intro j x y c1 c2
      refine k2 ?_ ?_
      · rw [c1.1, c2.1]
      · rw [c1.2, c2.2]
    refine sp_ext ha hR (fun i j hi hj => ?_)
    match j, hj with
    | 0, _ => exact ee 0 _ _ h0 g0 i hi
    | 1, _ => exact ee 1 _ _ h1 g1 i hi
  rw [← this]
  exact Sim_rf (by decide) ha
theorem sp2 {c0 c1 : List Nat} (h0 : c0.length ≤ 2) (h1 : c1.length ≤ 2) : sp 2 (kM (mt [c0, c1])) :=
  sp_mt (Nat.le_refl _) (fun c hc => len2 h0 h1 hc)
theorem nf_G1 {a : Nat → Nat → Fin 5} (ha : sp 3 a) (h0 : col3 a 0 0 1 0) (h1 : col3 a 1 0 0 1) : NF3 a := by
  refine Or.inr (Or.inl ⟨(a 0 2).val, (a 1 2).val, (a 2 2).val, Fin.isLt _, Fin.isLt _, Fin.isLt _, ?_⟩)
  exact fin3 ha (sp3 (Nat.le_refl _) (Nat.le_refl _) (Nat.le_refl _)) h0 h1 (h2 := (⟨rfl, rfl, rfl⟩ : col3 a 2 (a 0 2) (a 1 2) (a 2 2))) ⟨rfl, rfl, rfl⟩ ⟨rfl, rfl, rfl⟩ ⟨kk_fin _, kk_fin _, kk_fin _⟩
theorem M3s {a : Nat → Nat → Fin 5} (ha : sp 3 a) {x y s l : Fin 5} (h0 : col3 a 0 0 1 0) (h1 : col3 a 1 x y 0) (h2 : col3 a 2 s 0 l) : NF3 a := by
  have H0 := h0; have H1 := h1; have H2 := h2
  obtain ⟨a00, a10, a20⟩ := h0
  obtain ⟨a01, a11, a21⟩ := h1
  obtain ⟨a02, a12, a22⟩ := h2
  by_cases hs : s = 0
  · by_cases hp : l * l - y * l - x = 0
    · refine Or.inr (Or.inr ⟨y.val, l.val, Fin.isLt _, Fin.isLt _, ?_⟩)
      refine fin3 ha (sp3 (Nat.le_refl _) (Nat.le_refl _) (Nat.le_refl _)) H0 H1 H2 ⟨rfl, rfl, rfl⟩ ⟨?_, kk_fin _, rfl⟩ ⟨by rw [hs]; rfl, rfl, kk_fin _⟩
      show kk ((l.val * l.val + (5 - y.val) * l.val) % 5) = x
      rw [kk_mod, kk_add, kk_mul, kk_mul, kk_5s (by have := y.isLt; omega), kk_fin, kk_fin]
      grind
    · obtain ⟨b, b1, b2, k0, k1, k2⟩ := st3 ha 1 0 1 0 1 l x y (l * l) (by
        have e : dtm (mtF [[1, 0, 1], [0, 1, l], [x, y, l * l]]) 3 7 7 = l * l - y * l - x := by
          simp [dtm, lapM, lo, rs, mtF] <;> grind
        rw [e]
        have nz := hp
        grind)
      refine NF3_tr b1 (nf_G1 b2 (k0 0 1 0 ?_) (k1 0 0 1 ?_))
      all_goals (refine k3 ?_ ?_ ?_ <;> simp [cl3, a00, a10, a20, a01, a11, a21, a02, a12, a22, hs] <;> grind)
  · obtain ⟨b, b1, b2, k0, k1, k2⟩ := st3 ha 0 0 1 s 0 l (l * s) s (l * l) (by
      have e : dtm (mtF [[0, 0, 1], [s, 0, l], [l * s, s, l * l]]) 3 7 7 = s * s := by
        simp [dtm, lapM, lo, rs, mtF] <;> grind
      rw [e]
      have nz := f5_nz _ _ hs hs
      grind)
    refine NF3_tr b1 (nf_G1 b2 (k0 0 1 0 ?_) (k1 0 0 1 ?_))
    all_goals (refine k3 ?_ ?_ ?_ <;> simp [cl3, a00, a10, a20, a01, a11, a21, a02, a12, a22] <;> grind)
theorem M2 {a : Nat → Nat → Fin 5} (ha : sp 3 a) (h0 : col3 a 0 0 1 0) : NF3 a := by
  obtain ⟨a00, a10, a20⟩ := h0
  by_cases h21 : a 2 1 = 0
  · obtain ⟨b, b1, b2, k0, k1, k2⟩ := st3 ha 1 0 0 0 1 0 (- a 1 2) 0 1 (by
      have e : dtm (mtF [[1, 0, 0], [0, 1, 0], [- a 1 2, 0, 1]]) 3 7 7 = 1 := by
        simp [dtm, lapM, lo, rs, mtF] <;> grind
      rw [e]
      have nz := h21
      grind)
    refine NF3_tr b1 (M3s b2 (x := a 0 1) (y := a 1 1) (s := a 0 2 + a 2 2 * a 1 2) (l := a 2 2) (k0 0 1 0 ?_) (k1 _ _ _ ?_) (k2 _ _ _ ?_))
    all_goals (refine k3 ?_ ?_ ?_ <;> simp [cl3, a00, a10, a20, h21] <;> grind)
  · obtain ⟨b, b1, b2, k0, k1, k2⟩ := st3 ha 1 0 0 0 1 0 (a 0 1) (a 1 1) (a 2 1) (by
      have e : dtm (mtF [[1, 0, 0], [0, 1, 0], [a 0 1, a 1 1, a 2 1]]) 3 7 7 = a 2 1 := by
        simp [dtm, lapM, lo, rs, mtF] <;> grind
      rw [e]
      have nz := h21
      grind)
    refine NF3_tr b1 (nf_G1 b2 (k0 0 1 0 ?_) (k1 0 0 1 ?_))
    all_goals (refine k3 ?_ ?_ ?_ <;> simp [cl3, a00, a10, a20] <;> grind)
theorem L1_3_0_1 {a : Nat → Nat → Fin 5} (ha : sp 3 a) (h : a 0 1 ≠ 0) : NF3 a := by
  obtain ⟨b, b1, b2, k0, k1, k2⟩ := st3 ha 0 1 0 (a 0 1) (a 1 1) (a 2 1) 0 0 1 (by
    have e : dtm (mtF [[0, 1, 0], [a 0 1, a 1 1, a 2 1], [0, 0, 1]]) 3 7 7 = - (a 0 1) := by
      simp [dtm, lapM, lo, rs, mtF] <;> grind
    rw [e]
    have nz := h
    grind)
  refine NF3_tr b1 (M2 b2 (k0 0 1 0 ?_))
  all_goals (refine k3 ?_ ?_ ?_ <;> simp [cl3] <;> grind)
theorem L1_3_0_2 {a : Nat → Nat → Fin 5} (ha : sp 3 a) (h : a 0 2 ≠ 0) : NF3 a := by
  obtain ⟨b, b1, b2, k0, k1, k2⟩ := st3 ha 0 0 1 (a 0 2) (a 1 2) (a 2 2) 0 1 0 (by
    have e : dtm (mtF [[0, 0, 1], [a 0 2, a 1 2, a 2 2], [0, 1, 0]]) 3 7 7 = a 0 2 := by
      simp [dtm, lapM, lo, rs, mtF] <;> grind
    rw [e]
    have nz := h
    grind)
  refine NF3_tr b1 (M2 b2 (k0 0 1 0 ?_))
  all_goals (refine k3 ?_ ?_ ?_ <;> simp [cl3] <;> grind)
theorem L1_3_1_0 {a : Nat → Nat → Fin 5} (ha : sp 3 a) (h : a 1 0 ≠ 0) : NF3 a := by
  obtain ⟨b, b1, b2, k0, k1, k2⟩ := st3 ha 1 0 0 (a 0 0) (a 1 0) (a 2 0) 0 0 1 (by
    have e : dtm (mtF [[1, 0, 0], [a 0 0, a 1 0, a 2 0], [0, 0, 1]]) 3 7 7 = a 1 0 := by
      simp [dtm, lapM, lo, rs, mtF] <;> grind
    rw [e]
    have nz := h
    grind)
  refine NF3_tr b1 (M2 b2 (k0 0 1 0 ?_))
  all_goals (refine k3 ?_ ?_ ?_ <;> simp [cl3] <;> grind)
theorem L1_3_1_2 {a : Nat → Nat → Fin 5} (ha : sp 3 a) (h : a 1 2 ≠ 0) : NF3 a := by
  obtain ⟨b, b1, b2, k0, k1, k2⟩ := st3 ha 0 0 1 (a 0 2) (a 1 2) (a 2 2) 1 0 0 (by
    have e : dtm (mtF [[0, 0, 1], [a 0 2, a 1 2, a 2 2], [1, 0, 0]]) 3 7 7 = - (a 1 2) := by
      simp [dtm, lapM, lo, rs, mtF] <;> grind
    rw [e]
    have nz := h
    grind)
  refine NF3_tr b1 (M2 b2 (k0 0 1 0 ?_))
  all_goals (refine k3 ?_ ?_ ?_ <;> simp [cl3] <;> grind)
theorem L1_3_2_0 {a : Nat → Nat → Fin 5} (ha : sp 3 a) (h : a 2 0 ≠ 0) : NF3 a := by
  obtain ⟨b, b1, b2, k0, k1, k2⟩ := st3 ha 1 0 0 (a 0 0) (a 1 0) (a 2 0) 0 1 0 (by
    have e : dtm (mtF [[1, 0, 0], [a 0 0, a 1 0, a 2 0], [0, 1, 0]]) 3 7 7 = - (a 2 0) := by
      simp [dtm, lapM, lo, rs, mtF] <;> grind
    rw [e]
    have nz := h
    grind)
  refine NF3_tr b1 (M2 b2 (k0 0 1 0 ?_))
  all_goals (refine k3 ?_ ?_ ?_ <;> simp [cl3] <;> grind)
theorem L1_3_2_1 {a : Nat → Nat → Fin 5} (ha : sp 3 a) (h : a 2 1 ≠ 0) : NF3 a := by
  obtain ⟨b, b1, b2, k0, k1, k2⟩ := st3 ha 0 1 0 (a 0 1) (a 1 1) (a 2 1) 1 0 0 (by
    have e : dtm (mtF [[0, 1, 0], [a 0 1, a 1 1, a 2 1], [1, 0, 0]]) 3 7 7 = a 2 1 := by
      simp [dtm, lapM, lo, rs, mtF] <;> grind
    rw [e]
    have nz := h
    grind)
  refine NF3_tr b1 (M2 b2 (k0 0 1 0 ?_))
  all_goals (refine k3 ?_ ?_ ?_ <;> simp [cl3] <;> grind)
theorem L1d_3_1 {a : Nat → Nat → Fin 5} (ha : sp 3 a) (o01 : a 0 1 = 0) (o02 : a 0 2 = 0) (o10 : a 1 0 = 0) (o12 : a 1 2 = 0) (o20 : a 2 0 = 0) (o21 : a 2 1 = 0) (h : a 0 0 ≠ a 1 1) : NF3 a := by
  obtain ⟨b, b1, b2, k0, k1, k2⟩ := st3 ha 1 1 0 (a 0 0) (a 1 1) 0 0 0 1 (by
    have e : dtm (mtF [[1, 1, 0], [a 0 0, a 1 1, 0], [0, 0, 1]]) 3 7 7 = a 1 1 - a 0 0 := by
      simp [dtm, lapM, lo, rs, mtF] <;> grind
    rw [e]
    have nz := h
    grind)
  refine NF3_tr b1 (M2 b2 (k0 0 1 0 ?_))
  all_goals (refine k3 ?_ ?_ ?_ <;> simp [cl3, o01, o02, o10, o12, o20, o21] <;> grind)
theorem L1d_3_2 {a : Nat → Nat → Fin 5} (ha : sp 3 a) (o01 : a 0 1 = 0) (o02 : a 0 2 = 0) (o10 : a 1 0 = 0) (o12 : a 1 2 = 0) (o20 : a 2 0 = 0) (o21 : a 2 1 = 0) (h : a 0 0 ≠ a 2 2) : NF3 a := by
  obtain ⟨b, b1, b2, k0, k1, k2⟩ := st3 ha 1 0 1 (a 0 0) 0 (a 2 2) 0 1 0 (by
    have e : dtm (mtF [[1, 0, 1], [a 0 0, 0, a 2 2], [0, 1, 0]]) 3 7 7 = - (a 2 2 - a 0 0) := by
      simp [dtm, lapM, lo, rs, mtF] <;> grind
    rw [e]
    have nz := h
    grind)
  refine NF3_tr b1 (M2 b2 (k0 0 1 0 ?_))
  all_goals (refine k3 ?_ ?_ ?_ <;> simp [cl3, o01, o02, o10, o12, o20, o21] <;> grind)
theorem nf3 {a : Nat → Nat → Fin 5} (ha : sp 3 a) : NF3 a := by
  by_cases o01 : a 0 1 = 0
  case neg => exact L1_3_0_1 ha o01
  by_cases o02 : a 0 2 = 0
  case neg => exact L1_3_0_2 ha o02
  by_cases o10 : a 1 0 = 0
  case neg => exact L1_3_1_0 ha o10
  by_cases o12 : a 1 2 = 0
  case neg => exact L1_3_1_2 ha o12
  by_cases o20 : a 2 0 = 0
  case neg => exact L1_3_2_0 ha o20
  by_cases o21 : a 2 1 = 0
  case neg => exact L1_3_2_1 ha o21
  by_cases d1 : a 0 0 = a 1 1
  case neg => exact L1d_3_1 ha o01 o02 o10 o12 o20 o21 d1
  by_cases d2 : a 0 0 = a 2 2
  case neg => exact L1d_3_2 ha o01 o02 o10 o12 o20 o21 d2
  refine Or.inl ⟨(a 0 0).val, Fin.isLt _, ?_⟩
  exact fin3 ha (sp3 (Nat.le_refl _) (Nat.le_refl _) (Nat.le_refl _)) (x0 := a 0 0) (x1 := 0) (x2 := 0) (y0 := 0) (y1 := a 0 0) (y2 := 0) (z0 := 0) (z1 := 0) (z2 := a 0 0) ⟨rfl, o10, o20⟩ ⟨o01, d1.symm, o21⟩ ⟨o02, o12, d2.symm⟩ ⟨kk_fin _, rfl, rfl⟩ ⟨rfl, kk_fin _, rfl⟩ ⟨rfl, rfl, kk_fin _⟩
theorem P2 {a : Nat → Nat → Fin 5} (ha : sp 2 a) (h0 : col2 a 0 0 1) : NF2 a := by
  refine Or.inr ⟨(a 0 1).val, (a 1 1).val, Fin.isLt _, Fin.isLt _, ?_⟩
  exact fin2 ha (sp2 (Nat.le_refl _) (Nat.le_refl _)) h0 (h1 := (⟨rfl, rfl⟩ : col2 a 1 (a 0 1) (a 1 1))) ⟨rfl, rfl⟩ ⟨kk_fin _, kk_fin _⟩
theorem L1_2_0_1 {a : Nat → Nat → Fin 5} (ha : sp 2 a) (h : a 0 1 ≠ 0) : NF2 a := by
  obtain ⟨b, b1, b2, k0, k1⟩ := st2 ha 0 1 (a 0 1) (a 1 1) (by
    have e : dtm (mtF [[0, 1], [a 0 1, a 1 1]]) 2 3 3 = - (a 0 1) := by
      simp [dtm, lapM, lo, rs, mtF] <;> grind
    rw [e]
    have nz := h
    grind)
  refine NF2_tr b1 (P2 b2 (k0 0 1 ?_))
  all_goals (refine k2 ?_ ?_ <;> simp [cl2] <;> grind)
theorem L1_2_1_0 {a : Nat → Nat → Fin 5} (ha : sp 2 a) (h : a 1 0 ≠ 0) : NF2 a := by
  obtain ⟨b, b1, b2, k0, k1⟩ := st2 ha 1 0 (a 0 0) (a 1 0) (by
    have e : dtm (mtF [[1, 0], [a 0 0, a 1 0]]) 2 3 3 = a 1 0 := by
      simp [dtm, lapM, lo, rs, mtF] <;> grind
    rw [e]
    have nz := h
    grind)
  refine NF2_tr b1 (P2 b2 (k0 0 1 ?_))
  all_goals (refine k2 ?_ ?_ <;> simp [cl2] <;> grind)
theorem L1d_2_1 {a : Nat → Nat → Fin 5} (ha : sp 2 a) (o01 : a 0 1 = 0) (o10 : a 1 0 = 0) (h : a 0 0 ≠ a 1 1) : NF2 a := by
  obtain ⟨b, b1, b2, k0, k1⟩ := st2 ha 1 1 (a 0 0) (a 1 1) (by
    have e : dtm (mtF [[1, 1], [a 0 0, a 1 1]]) 2 3 3 = a 1 1 - a 0 0 := by
      simp [dtm, lapM, lo, rs, mtF] <;> grind
    rw [e]
    have nz := h
    grind)
  refine NF2_tr b1 (P2 b2 (k0 0 1 ?_))
  all_goals (refine k2 ?_ ?_ <;> simp [cl2, o01, o10] <;> grind)
theorem nf2 {a : Nat → Nat → Fin 5} (ha : sp 2 a) : NF2 a := by
  by_cases o01 : a 0 1 = 0
  case neg => exact L1_2_0_1 ha o01
  by_cases o10 : a 1 0 = 0
  case neg => exact L1_2_1_0 ha o10
  by_cases d1 : a 0 0 = a 1 1
  case neg => exact L1d_2_1 ha o01 o10 d1
  refine Or.inl ⟨(a 0 0).val, Fin.isLt _, ?_⟩
  exact fin2 ha (sp2 (Nat.le_refl _) (Nat.le_refl _)) (x0 := a 0 0) (x1 := 0) (y0 := 0) (y1 := a 0 0) ⟨rfl, o10⟩ ⟨o01, d1.symm⟩ ⟨kk_fin _, rfl⟩ ⟨rfl, kk_fin _⟩
end
section
/-! normal forms: what the kernel reckons -/
def cgd : Nat → Nat → Nat → Nat
  | 0, a, _ => a
  | f + 1, a, b => if b = 0 then a else if a < b then cgd f b a else cgd f (stp a b) b
theorem cgd_I : ∀ f a b, a < 3125 → b < 3125 → 2 * (nd a + nd b) + (if a < b then 1 else 0) < f → cgd f a b < 3125 ∧ ∀ P, Idl P → (P (cgd f a b) ↔ P a ∧ P b) := by
  intro f
  induction f with
  | zero => intro a b _ _ h; omega
  | succ f ih =>
    intro a b ha hb h
    show (if b = 0 then a else if a < b then cgd f b a else cgd f (stp a b) b) < 3125 ∧ ∀ P, Idl P → (P (if b = 0 then a else if a < b then cgd f b a else cgd f (stp a b) b) ↔ P a ∧ P b)
    by_cases e0 : b = 0
    · rw [if_pos e0]
      refine ⟨ha, fun P hP => ⟨fun z => ⟨z, by rw [e0]; exact hP.1⟩, fun z => z.1⟩⟩
    · rw [if_neg e0]
      by_cases e1 : a < b
      · rw [if_pos e1] at h ⊢
        obtain ⟨i1, i2⟩ := ih b a hb ha (by rw [if_neg (by omega)]; omega)
        exact ⟨i1, fun P hP => (i2 P hP).trans And.comm⟩
      · rw [if_neg e1] at h ⊢
        have a0 : a ≠ 0 := by omega
        have hd := dg_mono (show b ≤ a by omega)
        have hl := nd_lt (stp_lt ha hb e0 hd)
        have np := nd_pos a0
        have z1 : (if stp a b < b then 1 else 0) ≤ 1 := by split <;> decide
        obtain ⟨i1, i2⟩ := ih (stp a b) b (pm_lt _ _ _) hb (by omega)
        refine ⟨i1, fun P hP => (i2 P hP).trans ⟨fun z => ⟨(stp_I hP ha hb hd z.2).mp z.1, z.2⟩, fun z => ⟨(stp_I hP ha hb hd z.2).mpr z.1, z.2⟩⟩⟩
def gE (A : Nat → Nat → Nat) : List (Nat × Nat) → Nat → Nat
  | [], acc => acc
  | t :: l, acc => if 0 < acc ∧ acc < 5 then acc else gE A l (cgd 30 (mnum A t.1 t.2) acc)
def prs (N k : Nat) : List (Nat × Nat) := ((List.range (2 ^ N)).reverse.filter (fun R => pc R == k)).flatMap (fun R => ((List.range (2 ^ N)).filter (fun C => pc C == k)).map (fun C => (R, C)))
def dgK (N : Nat) (A : Nat → Nat → Nat) (k : Nat) : Nat := dg (gE A (prs N k) 0)
def chk4 (A : Nat → Nat → Nat) : Bool := rankL 16 (adL 4 A) + 4 + 2 * (dgK 4 A 1 + dgK 4 A 2 + dgK 4 A 3) == 16
def chk3 (A : Nat → Nat → Nat) : Bool := rankL 9 (adL 3 A) + 3 + 2 * (dgK 3 A 1 + dgK 3 A 2) == 9
def chk2 (A : Nat → Nat → Nat) : Bool := rankL 4 (adL 2 A) + 2 + 2 * dgK 2 A 1 == 4
theorem prs_m {N k R C : Nat} : (R, C) ∈ prs N k ↔ R < 2 ^ N ∧ C < 2 ^ N ∧ pc R = k ∧ pc C = k := by
  unfold prs
  rw [List.mem_flatMap]
  refine ⟨fun h => ?_, fun h => ?_⟩
  · obtain ⟨R', h1, h2⟩ := h
    obtain ⟨C', h3, h4⟩ := List.mem_map.mp h2
    cases h4
    rw [List.mem_filter, List.mem_reverse, List.mem_range] at h1
    rw [List.mem_filter, List.mem_range] at h3
    exact ⟨h1.1, h3.1, by simpa using h1.2, by simpa using h3.2⟩
  · refine ⟨R, ?_, List.mem_map.mpr ⟨C, ?_, rfl⟩⟩
    · rw [List.mem_filter, List.mem_reverse, List.mem_range]
      exact ⟨h.1, by simpa using h.2.2.1⟩
    · rw [List.mem_filter, List.mem_range]
      exact ⟨h.2.1, by simpa using h.2.2.2⟩
theorem unit_P {P : Nat → Prop} (hP : Idl P) {a : Nat} (h0 : 0 < a) (h5 : a < 5) (ha : P a) {p : Nat} (hp : p < 3125) : P p := by
  have hk : kk a ≠ 0 := fun z => by
    have := kk_inj h5 (by decide : 0 < 5) z
    omega
  have hi := inv_k hk
  have h1 : P 1 := by
    have := hP.2.1 0 a (a * a * a % 5) (by decide) (by omega) (by have := Nat.mod_lt (a * a * a) (show 5 > 0 by decide); omega) hP.1 ha
    have e : pm 0 (a * a * a % 5) a = 1 := by
      refine pd_inj (pm_lt _ _ _) (by decide) (fun k hk' => ?_)
      rw [pd_pm _ _ _ _ hk', pd_0, pd_1]
      by_cases z : k = 0
      · subst z
        rw [if_pos rfl, show pd a 0 = kk a by unfold pd; rw [Nat.pow_zero, Nat.div_one], hi]; rfl
      · rw [if_neg z, pd_hi (j := 1) (by simpa using h5) (by omega)]; grind
    rwa [e] at this
  have sh : ∀ j, j < 5 → P (1 * 5 ^ j) := fun j hj => Idl_sh hP h1 j (by have := (pow5 j (by omega)).2; have : 5 ^ j ≤ 5 ^ 4 := Nat.pow_le_pow_right (by decide) (by omega); have : (5 : Nat) ^ 4 = 625 := rfl; omega)
  have lt : ∀ j, j < 5 → 1 * 5 ^ j < 3125 := fun j hj => by have : 5 ^ j ≤ 5 ^ 4 := Nat.pow_le_pow_right (by decide) (by omega); have : (5 : Nat) ^ 4 = 625 := rfl; omega
  have dl : ∀ j, p / 5 ^ j % 5 ≤ 5 := fun j => by have := Nat.mod_lt (p / 5 ^ j) (show 5 > 0 by decide); omega
  have main : ∀ n, n ≤ 5 → ∃ S, S < 3125 ∧ P S ∧ ∀ k, k < 5 → pd S k = if k < n then pd p k else 0 := by
    intro n
    induction n with
    | zero => intro _; exact ⟨0, by decide, hP.1, fun k _ => by rw [pd_0, if_neg (by omega)]⟩
    | succ n ih =>
      intro hn
      obtain ⟨S, s1, s2, s3⟩ := ih (by omega)
      refine ⟨pm S (p / 5 ^ n % 5) (1 * 5 ^ n), pm_lt _ _ _, hP.2.1 _ _ _ s1 (lt n (by omega)) (dl n) s2 (sh n (by omega)), fun k hk' => ?_⟩
      rw [pd_pm _ _ _ _ hk', s3 k hk', pd_sh, kk_mod]
      by_cases z : k = n
      · subst z
        rw [if_neg (by omega), if_neg (by omega), if_pos (by omega), Nat.sub_self]
        show 0 + kk (p / 5 ^ k) * 1 = kk (p / 5 ^ k)
        grind
      · by_cases z2 : k < n
        · rw [if_pos z2, if_pos z2, if_pos (by omega)]; grind
        · rw [if_neg z2, if_neg z2, if_neg (by omega), pd_1, if_neg (by omega)]; grind
  obtain ⟨S, s1, s2, s3⟩ := main 5 (by omega)
  have : S = p := pd_inj s1 hp (fun k hk' => by rw [s3 k hk', if_pos hk'])
  rw [← this]; exact s2
theorem gE_I (A : Nat → Nat → Nat) : ∀ l acc, acc < 3125 → gE A l acc < 3125 ∧ ∀ P, Idl P → (P (gE A l acc) ↔ P acc ∧ ∀ t, t ∈ l → P (mnum A t.1 t.2)) := by
  intro l
  induction l with
  | nil => intro acc h; exact ⟨h, fun P hP => ⟨fun z => ⟨z, fun t ht => by cases ht⟩, fun z => z.1⟩⟩
  | cons t l ih =>
    intro acc h
    show (if 0 < acc ∧ acc < 5 then acc else gE A l (cgd 30 (mnum A t.1 t.2) acc)) < 3125 ∧ ∀ P, Idl P → (P (if 0 < acc ∧ acc < 5 then acc else gE A l (cgd 30 (mnum A t.1 t.2) acc)) ↔ _)
    by_cases e : 0 < acc ∧ acc < 5
    · rw [if_pos e]
      exact ⟨h, fun P hP => ⟨fun z => ⟨z, fun t _ => unit_P hP e.1 e.2 z (mnum_lt _ _ _)⟩, fun z => z.1⟩⟩
    · rw [if_neg e]
      have n1 := nd_5 (mnum A t.1 t.2)
      have n2 := nd_5 acc
      obtain ⟨c1, c2⟩ := cgd_I 30 (mnum A t.1 t.2) acc (mnum_lt _ _ _) h (by split <;> omega)
      obtain ⟨i1, i2⟩ := ih _ c1
      refine ⟨i1, fun P hP => (i2 P hP).trans ?_⟩
      rw [c2 P hP]
      refine ⟨fun z => ⟨z.1.2, fun t' ht' => ?_⟩, fun z => ⟨⟨z.2 t List.mem_cons_self, z.1⟩, fun t' ht' => z.2 t' (List.mem_cons_of_mem _ ht')⟩⟩
      cases ht' with
      | head => exact z.1.1
      | tail _ h' => exact z.2 t' h'
theorem dgK_eq {A : Nat → Nat → Nat} {N k D : Nat} (hN : N ≤ 4) (hk : k ≤ N) (h : gD A N k D) : dg D = dgK N A k := by
  obtain ⟨g1, g2⟩ := gE_I A (prs N k) 0 (by decide)
  unfold dgK
  generalize gE A (prs N k) 0 = G at *
  obtain ⟨n1, _⟩ := gD_ne hN hk h
  have e : ∀ P, Idl P → (P D ↔ P G) := by
    intro P hP
    rw [h.2.2 P hP, g2 P hP]
    refine ⟨fun z => ⟨hP.1, fun t ht => ?_⟩, fun z R C hR hC e1 e2 => z.2 (R, C) (prs_m.mpr ⟨hR, hC, e1, e2⟩)⟩
    obtain ⟨q1, q2, q3, q4⟩ := prs_m.mp (show (t.1, t.2) ∈ prs N k from ht)
    exact z _ _ q1 q2 q3 q4
  have G0 : G ≠ 0 := fun z => n1 ((e _ I_0).mpr z)
  obtain ⟨s, hs⟩ := (e _ (mul_I h.1 n1)).mp ⟨1, mlt_1 D⟩
  obtain ⟨t, ht⟩ := (e _ (mul_I g1 G0)).mpr ⟨1, mlt_1 G⟩
  have s0 : s ≠ 0 := fun z => G0 (mlt_0 g1 (by rw [← z]; exact hs))
  have t0 : t ≠ 0 := fun z => n1 (mlt_0 h.1 (by rw [← z]; exact ht))
  have a1 := (mlt_top h.1 g1 n1 hs s0).1
  have a2 := (mlt_top g1 h.1 G0 ht t0).1
  omega
theorem mt_lt {l : List (List Nat)} (h : ∀ c, c ∈ l → ∀ x, x ∈ c → x < 5) (i j : Nat) : mt l i j < 5 := by
  show (l.getD j []).getD i 0 < 5
  rcases gd_mem 0 (l.getD j []) i with z | z
  · rcases gd_mem [] l j with w | w
    · exact h _ w _ z
    · rw [w] at z; cases z
  · rw [z]; decide
end
section
/-! the normal forms, reckoned -/
theorem ck_F0 : ∀ l, l < 5 → chk4 (qF0 l) = true := by decide +kernel
theorem ck_F1_0_0 : ∀ r, r < 5 → ∀ s, s < 5 → chk4 (qF1 0 0 r s) = true := by decide +kernel
theorem ck_F1_0_1 : ∀ r, r < 5 → ∀ s, s < 5 → chk4 (qF1 0 1 r s) = true := by decide +kernel
theorem ck_F1_0_2 : ∀ r, r < 5 → ∀ s, s < 5 → chk4 (qF1 0 2 r s) = true := by decide +kernel
theorem ck_F1_0_3 : ∀ r, r < 5 → ∀ s, s < 5 → chk4 (qF1 0 3 r s) = true := by decide +kernel
theorem ck_F1_0_4 : ∀ r, r < 5 → ∀ s, s < 5 → chk4 (qF1 0 4 r s) = true := by decide +kernel
theorem ck_F1_1_0 : ∀ r, r < 5 → ∀ s, s < 5 → chk4 (qF1 1 0 r s) = true := by decide +kernel
theorem ck_F1_1_1 : ∀ r, r < 5 → ∀ s, s < 5 → chk4 (qF1 1 1 r s) = true := by decide +kernel
theorem ck_F1_1_2 : ∀ r, r < 5 → ∀ s, s < 5 → chk4 (qF1 1 2 r s) = true := by decide +kernel
theorem ck_F1_1_3 : ∀ r, r < 5 → ∀ s, s < 5 → chk4 (qF1 1 3 r s) = true := by decide +kernel
theorem ck_F1_1_4 : ∀ r, r < 5 → ∀ s, s < 5 → chk4 (qF1 1 4 r s) = true := by decide +kernel
theorem ck_F1_2_0 : ∀ r, r < 5 → ∀ s, s < 5 → chk4 (qF1 2 0 r s) = true := by decide +kernel
theorem ck_F1_2_1 : ∀ r, r < 5 → ∀ s, s < 5 → chk4 (qF1 2 1 r s) = true := by decide +kernel
theorem ck_F1_2_2 : ∀ r, r < 5 → ∀ s, s < 5 → chk4 (qF1 2 2 r s) = true := by decide +kernel
theorem ck_F1_2_3 : ∀ r, r < 5 → ∀ s, s < 5 → chk4 (qF1 2 3 r s) = true := by decide +kernel
theorem ck_F1_2_4 : ∀ r, r < 5 → ∀ s, s < 5 → chk4 (qF1 2 4 r s) = true := by decide +kernel
theorem ck_F1_3_0 : ∀ r, r < 5 → ∀ s, s < 5 → chk4 (qF1 3 0 r s) = true := by decide +kernel
theorem ck_F1_3_1 : ∀ r, r < 5 → ∀ s, s < 5 → chk4 (qF1 3 1 r s) = true := by decide +kernel
theorem ck_F1_3_2 : ∀ r, r < 5 → ∀ s, s < 5 → chk4 (qF1 3 2 r s) = true := by decide +kernel
theorem ck_F1_3_3 : ∀ r, r < 5 → ∀ s, s < 5 → chk4 (qF1 3 3 r s) = true := by decide +kernel
theorem ck_F1_3_4 : ∀ r, r < 5 → ∀ s, s < 5 → chk4 (qF1 3 4 r s) = true := by decide +kernel
theorem ck_F1_4_0 : ∀ r, r < 5 → ∀ s, s < 5 → chk4 (qF1 4 0 r s) = true := by decide +kernel
theorem ck_F1_4_1 : ∀ r, r < 5 → ∀ s, s < 5 → chk4 (qF1 4 1 r s) = true := by decide +kernel
theorem ck_F1_4_2 : ∀ r, r < 5 → ∀ s, s < 5 → chk4 (qF1 4 2 r s) = true := by decide +kernel
theorem ck_F1_4_3 : ∀ r, r < 5 → ∀ s, s < 5 → chk4 (qF1 4 3 r s) = true := by decide +kernel
theorem ck_F1_4_4 : ∀ r, r < 5 → ∀ s, s < 5 → chk4 (qF1 4 4 r s) = true := by decide +kernel
theorem ck_F2_0_0 : ∀ l, l < 5 → chk4 (qF2 0 0 l) = true := by decide +kernel
theorem ck_F2_0_1 : ∀ l, l < 5 → chk4 (qF2 0 1 l) = true := by decide +kernel
theorem ck_F2_0_2 : ∀ l, l < 5 → chk4 (qF2 0 2 l) = true := by decide +kernel
theorem ck_F2_0_3 : ∀ l, l < 5 → chk4 (qF2 0 3 l) = true := by decide +kernel
theorem ck_F2_0_4 : ∀ l, l < 5 → chk4 (qF2 0 4 l) = true := by decide +kernel
theorem ck_F2_1_0 : ∀ l, l < 5 → chk4 (qF2 1 0 l) = true := by decide +kernel
theorem ck_F2_1_1 : ∀ l, l < 5 → chk4 (qF2 1 1 l) = true := by decide +kernel
theorem ck_F2_1_2 : ∀ l, l < 5 → chk4 (qF2 1 2 l) = true := by decide +kernel
theorem ck_F2_1_3 : ∀ l, l < 5 → chk4 (qF2 1 3 l) = true := by decide +kernel
theorem ck_F2_1_4 : ∀ l, l < 5 → chk4 (qF2 1 4 l) = true := by decide +kernel
theorem ck_F2_2_0 : ∀ l, l < 5 → chk4 (qF2 2 0 l) = true := by decide +kernel
theorem ck_F2_2_1 : ∀ l, l < 5 → chk4 (qF2 2 1 l) = true := by decide +kernel
theorem ck_F2_2_2 : ∀ l, l < 5 → chk4 (qF2 2 2 l) = true := by decide +kernel
theorem ck_F2_2_3 : ∀ l, l < 5 → chk4 (qF2 2 3 l) = true := by decide +kernel
theorem ck_F2_2_4 : ∀ l, l < 5 → chk4 (qF2 2 4 l) = true := by decide +kernel
theorem ck_F2_3_0 : ∀ l, l < 5 → chk4 (qF2 3 0 l) = true := by decide +kernel
theorem ck_F2_3_1 : ∀ l, l < 5 → chk4 (qF2 3 1 l) = true := by decide +kernel
theorem ck_F2_3_2 : ∀ l, l < 5 → chk4 (qF2 3 2 l) = true := by decide +kernel
theorem ck_F2_3_3 : ∀ l, l < 5 → chk4 (qF2 3 3 l) = true := by decide +kernel
theorem ck_F2_3_4 : ∀ l, l < 5 → chk4 (qF2 3 4 l) = true := by decide +kernel
theorem ck_F2_4_0 : ∀ l, l < 5 → chk4 (qF2 4 0 l) = true := by decide +kernel
theorem ck_F2_4_1 : ∀ l, l < 5 → chk4 (qF2 4 1 l) = true := by decide +kernel
theorem ck_F2_4_2 : ∀ l, l < 5 → chk4 (qF2 4 2 l) = true := by decide +kernel
theorem ck_F2_4_3 : ∀ l, l < 5 → chk4 (qF2 4 3 l) = true := by decide +kernel
theorem ck_F2_4_4 : ∀ l, l < 5 → chk4 (qF2 4 4 l) = true := by decide +kernel
theorem ck_F3_0 : ∀ c, c < 5 → chk4 (qF3 0 c) = true := by decide +kernel
theorem ck_F4_0 : ∀ l, l < 5 → chk4 (qF4 0 l) = true := by decide +kernel
theorem ck_F3_1 : ∀ c, c < 5 → chk4 (qF3 1 c) = true := by decide +kernel
theorem ck_F4_1 : ∀ l, l < 5 → chk4 (qF4 1 l) = true := by decide +kernel
theorem ck_F3_2 : ∀ c, c < 5 → chk4 (qF3 2 c) = true := by decide +kernel
theorem ck_F4_2 : ∀ l, l < 5 → chk4 (qF4 2 l) = true := by decide +kernel
theorem ck_F3_3 : ∀ c, c < 5 → chk4 (qF3 3 c) = true := by decide +kernel
theorem ck_F4_3 : ∀ l, l < 5 → chk4 (qF4 3 l) = true := by decide +kernel
theorem ck_F3_4 : ∀ c, c < 5 → chk4 (qF3 4 c) = true := by decide +kernel
theorem ck_F4_4 : ∀ l, l < 5 → chk4 (qF4 4 l) = true := by decide +kernel
theorem ck_G0 : ∀ l, l < 5 → chk3 (qG0 l) = true := by decide +kernel
theorem ck_G1_0 : ∀ q, q < 5 → ∀ r, r < 5 → chk3 (qG1 0 q r) = true := by decide +kernel
theorem ck_G2_0 : ∀ l, l < 5 → chk3 (qG2 0 l) = true := by decide +kernel
theorem ck_G1_1 : ∀ q, q < 5 → ∀ r, r < 5 → chk3 (qG1 1 q r) = true := by decide +kernel
theorem ck_G2_1 : ∀ l, l < 5 → chk3 (qG2 1 l) = true := by decide +kernel
theorem ck_G1_2 : ∀ q, q < 5 → ∀ r, r < 5 → chk3 (qG1 2 q r) = true := by decide +kernel
theorem ck_G2_2 : ∀ l, l < 5 → chk3 (qG2 2 l) = true := by decide +kernel
theorem ck_G1_3 : ∀ q, q < 5 → ∀ r, r < 5 → chk3 (qG1 3 q r) = true := by decide +kernel
theorem ck_G2_3 : ∀ l, l < 5 → chk3 (qG2 3 l) = true := by decide +kernel
theorem ck_G1_4 : ∀ q, q < 5 → ∀ r, r < 5 → chk3 (qG1 4 q r) = true := by decide +kernel
theorem ck_G2_4 : ∀ l, l < 5 → chk3 (qG2 4 l) = true := by decide +kernel
theorem ck_H0 : ∀ l, l < 5 → chk2 (qH0 l) = true := by decide +kernel
theorem ck_H1 : ∀ p, p < 5 → ∀ q, q < 5 → chk2 (qH1 p q) = true := by decide +kernel
theorem ck_F1 : ∀ p, p < 5 → ∀ q, q < 5 → ∀ r, r < 5 → ∀ s, s < 5 → chk4 (qF1 p q r s) = true := by
  intro p hp q hq
  match p, hp, q, hq with
  | 0, _, 0, _ => exact ck_F1_0_0
  | 0, _, 1, _ => exact ck_F1_0_1
  | 0, _, 2, _ => exact ck_F1_0_2
  | 0, _, 3, _ => exact ck_F1_0_3
  | 0, _, 4, _ => exact ck_F1_0_4
  | 1, _, 0, _ => exact ck_F1_1_0
  | 1, _, 1, _ => exact ck_F1_1_1
  | 1, _, 2, _ => exact ck_F1_1_2
  | 1, _, 3, _ => exact ck_F1_1_3
  | 1, _, 4, _ => exact ck_F1_1_4
  | 2, _, 0, _ => exact ck_F1_2_0
  | 2, _, 1, _ => exact ck_F1_2_1
  | 2, _, 2, _ => exact ck_F1_2_2
  | 2, _, 3, _ => exact ck_F1_2_3
  | 2, _, 4, _ => exact ck_F1_2_4
  | 3, _, 0, _ => exact ck_F1_3_0
  | 3, _, 1, _ => exact ck_F1_3_1
  | 3, _, 2, _ => exact ck_F1_3_2
  | 3, _, 3, _ => exact ck_F1_3_3
  | 3, _, 4, _ => exact ck_F1_3_4
  | 4, _, 0, _ => exact ck_F1_4_0
  | 4, _, 1, _ => exact ck_F1_4_1
  | 4, _, 2, _ => exact ck_F1_4_2
  | 4, _, 3, _ => exact ck_F1_4_3
  | 4, _, 4, _ => exact ck_F1_4_4
  | (m + 5), h, _, _ => exact absurd h (by omega)
  | _, _, (m + 5), h => exact absurd h (by omega)
theorem ck_F2 : ∀ p, p < 5 → ∀ q, q < 5 → ∀ l, l < 5 → chk4 (qF2 p q l) = true := by
  intro p hp q hq
  match p, hp, q, hq with
  | 0, _, 0, _ => exact ck_F2_0_0
  | 0, _, 1, _ => exact ck_F2_0_1
  | 0, _, 2, _ => exact ck_F2_0_2
  | 0, _, 3, _ => exact ck_F2_0_3
  | 0, _, 4, _ => exact ck_F2_0_4
  | 1, _, 0, _ => exact ck_F2_1_0
  | 1, _, 1, _ => exact ck_F2_1_1
  | 1, _, 2, _ => exact ck_F2_1_2
  | 1, _, 3, _ => exact ck_F2_1_3
  | 1, _, 4, _ => exact ck_F2_1_4
  | 2, _, 0, _ => exact ck_F2_2_0
  | 2, _, 1, _ => exact ck_F2_2_1
  | 2, _, 2, _ => exact ck_F2_2_2
  | 2, _, 3, _ => exact ck_F2_2_3
  | 2, _, 4, _ => exact ck_F2_2_4
  | 3, _, 0, _ => exact ck_F2_3_0
  | 3, _, 1, _ => exact ck_F2_3_1
  | 3, _, 2, _ => exact ck_F2_3_2
  | 3, _, 3, _ => exact ck_F2_3_3
  | 3, _, 4, _ => exact ck_F2_3_4
  | 4, _, 0, _ => exact ck_F2_4_0
  | 4, _, 1, _ => exact ck_F2_4_1
  | 4, _, 2, _ => exact ck_F2_4_2
  | 4, _, 3, _ => exact ck_F2_4_3
  | 4, _, 4, _ => exact ck_F2_4_4
  | (m + 5), h, _, _ => exact absurd h (by omega)
  | _, _, (m + 5), h => exact absurd h (by omega)
theorem ck_F3 : ∀ p, p < 5 → ∀ c, c < 5 → chk4 (qF3 p c) = true := by
  intro p hp
  match p, hp with
  | 0, _ => exact ck_F3_0
  | 1, _ => exact ck_F3_1
  | 2, _ => exact ck_F3_2
  | 3, _ => exact ck_F3_3
  | 4, _ => exact ck_F3_4
  | (m + 5), h => exact absurd h (by omega)
theorem ck_F4 : ∀ p, p < 5 → ∀ l, l < 5 → chk4 (qF4 p l) = true := by
  intro p hp
  match p, hp with
  | 0, _ => exact ck_F4_0
  | 1, _ => exact ck_F4_1
  | 2, _ => exact ck_F4_2
  | 3, _ => exact ck_F4_3
  | 4, _ => exact ck_F4_4
  | (m + 5), h => exact absurd h (by omega)
theorem ck_G1 : ∀ p, p < 5 → ∀ q, q < 5 → ∀ r, r < 5 → chk3 (qG1 p q r) = true := by
  intro p hp
  match p, hp with
  | 0, _ => exact ck_G1_0
  | 1, _ => exact ck_G1_1
  | 2, _ => exact ck_G1_2
  | 3, _ => exact ck_G1_3
  | 4, _ => exact ck_G1_4
  | (m + 5), h => exact absurd h (by omega)
theorem ck_G2 : ∀ p, p < 5 → ∀ l, l < 5 → chk3 (qG2 p l) = true := by
  intro p hp
  match p, hp with
  | 0, _ => exact ck_G2_0
  | 1, _ => exact ck_G2_1
  | 2, _ => exact ck_G2_2
  | 3, _ => exact ck_G2_3
  | 4, _ => exact ck_G2_4
  | (m + 5), h => exact absurd h (by omega)
end
section
/-! how many matrices commute with one -/
theorem core {A R d s : Nat → Nat → Nat} {f g : Nat → Nat} {N m : Nat} (h1 : 1 ≤ N) (hN : N ≤ 4) (hA5 : ∀ i j, A i j < 5) (hAs : sp N (kM A)) (hR5 : ∀ i j, R i j < 5) (hRs : sp N (kM R)) (hsim : Sim N (kM A) (kM R))
    (hm : m + rankL (N * N) (adL N R) = N * N) : Dim (N * N) (kerl (adL N A)) m := by
  obtain ⟨m', m1, m2⟩ := rankL_D (N * N) (adL N R) (adL_len N R)
  have e : m' = m := by omega
  rw [e] at m2
  have c1 : Dim (N * N) (comm N (kM R)) m := Dim_iff (fun x => (kc h1 hN hR5 x).symm) m2
  have c2 := Dim_sim hN hAs hRs hsim c1
  exact Dim_iff (fun x => kc h1 hN hA5 x) c2
theorem fac_deg {A : Nat → Nat → Nat} {N : Nat} {d s : Nat → Nat} (hN : N ≤ 4) (h : fac A N d s) : dg (d 0) = 0 ∧ dg (d N) = N := by
  refine ⟨?_, (gD_N hN (h.1 N (Nat.le_refl _))).2⟩
  have : d 0 = 1 := gD_uniq (h.1 0 (Nat.zero_le _)) (gD_0 A hN)
  rw [this]; rfl
theorem core4 {A R : Nat → Nat → Nat} {d s : Nat → Nat} (hA5 : ∀ i j, A i j < 5) (hAs : sp 4 (kM A)) (hR5 : ∀ i j, R i j < 5) (hRs : sp 4 (kM R)) (hsim : Sim 4 (kM A) (kM R)) (hck : chk4 R = true) (h : fac A 4 d s) :
    Dim (4 * 4) (kerl (adL 4 A)) (zs (fun i => (2 * (4 - 1 - i) + 1) * dg (s i)) 4) := by
  have e1 := dgK_eq (by decide) (by decide) (gD_sim (by decide) (by decide) (by decide) hRs hsim (h.1 1 (by decide)))
  have e2 := dgK_eq (by decide) (by decide) (gD_sim (by decide) (by decide) (by decide) hRs hsim (h.1 2 (by decide)))
  have e3 := dgK_eq (by decide) (by decide) (gD_sim (by decide) (by decide) (by decide) hRs hsim (h.1 3 (by decide)))
  have hc : rankL 16 (adL 4 R) + 4 + 2 * (dgK 4 R 1 + dgK 4 R 2 + dgK 4 R 3) = 16 := eq_of_beq hck
  rw [← e1, ← e2, ← e3] at hc
  have s0 := (fac_s (by decide) h 0 (by decide)).2.2.1
  have s1 := (fac_s (by decide) h 1 (by decide)).2.2.1
  have s2 := (fac_s (by decide) h 2 (by decide)).2.2.1
  have s3 := (fac_s (by decide) h 3 (by decide)).2.2.1
  obtain ⟨z0, z4⟩ := fac_deg (by decide) h
  have z4' : dg (d (3 + 1)) = 4 := z4
  have hz : zs (fun i => (2 * (4 - 1 - i) + 1) * dg (s i)) 4 = 7 * dg (s 0) + 5 * dg (s 1) + 3 * dg (s 2) + dg (s 3) := by
    show 0 + 7 * dg (s 0) + 5 * dg (s 1) + 3 * dg (s 2) + 1 * dg (s 3) = _
    omega
  rw [hz]
  refine core (d := fun _ _ => 0) (s := fun _ _ => 0) (f := d) (g := s) (by decide) (by decide) hA5 hAs hR5 hRs hsim ?_
  show 7 * dg (s 0) + 5 * dg (s 1) + 3 * dg (s 2) + dg (s 3) + rankL 16 (adL 4 R) = 16
  have t1 : dg (d (0 + 1)) = dg (d 1) := rfl
  have t2 : dg (d (1 + 1)) = dg (d 2) := rfl
  have t3 : dg (d (2 + 1)) = dg (d 3) := rfl
  omega
theorem core3 {A R : Nat → Nat → Nat} {d s : Nat → Nat} (hA5 : ∀ i j, A i j < 5) (hAs : sp 3 (kM A)) (hR5 : ∀ i j, R i j < 5) (hRs : sp 3 (kM R)) (hsim : Sim 3 (kM A) (kM R)) (hck : chk3 R = true) (h : fac A 3 d s) :
    Dim (3 * 3) (kerl (adL 3 A)) (zs (fun i => (2 * (3 - 1 - i) + 1) * dg (s i)) 3) := by
  have e1 := dgK_eq (by decide) (by decide) (gD_sim (by decide) (by decide) (by decide) hRs hsim (h.1 1 (by decide)))
  have e2 := dgK_eq (by decide) (by decide) (gD_sim (by decide) (by decide) (by decide) hRs hsim (h.1 2 (by decide)))
  have hc : rankL 9 (adL 3 R) + 3 + 2 * (dgK 3 R 1 + dgK 3 R 2) = 9 := eq_of_beq hck
  rw [← e1, ← e2] at hc
  have s0 := (fac_s (by decide) h 0 (by decide)).2.2.1
  have s1 := (fac_s (by decide) h 1 (by decide)).2.2.1
  have s2 := (fac_s (by decide) h 2 (by decide)).2.2.1
  obtain ⟨z0, z4⟩ := fac_deg (by decide) h
  have z4' : dg (d (2 + 1)) = 3 := z4
  have hz : zs (fun i => (2 * (3 - 1 - i) + 1) * dg (s i)) 3 = 5 * dg (s 0) + 3 * dg (s 1) + dg (s 2) := by
    show 0 + 5 * dg (s 0) + 3 * dg (s 1) + 1 * dg (s 2) = _
    omega
  rw [hz]
  refine core (d := fun _ _ => 0) (s := fun _ _ => 0) (f := d) (g := s) (by decide) (by decide) hA5 hAs hR5 hRs hsim ?_
  show 5 * dg (s 0) + 3 * dg (s 1) + dg (s 2) + rankL 9 (adL 3 R) = 9
  have t1 : dg (d (0 + 1)) = dg (d 1) := rfl
  have t2 : dg (d (1 + 1)) = dg (d 2) := rfl
  omega
theorem core2 {A R : Nat → Nat → Nat} {d s : Nat → Nat} (hA5 : ∀ i j, A i j < 5) (hAs : sp 2 (kM A)) (hR5 : ∀ i j, R i j < 5) (hRs : sp 2 (kM R)) (hsim : Sim 2 (kM A) (kM R)) (hck : chk2 R = true) (h : fac A 2 d s) :
    Dim (2 * 2) (kerl (adL 2 A)) (zs (fun i => (2 * (2 - 1 - i) + 1) * dg (s i)) 2) := by
  have e1 := dgK_eq (by decide) (by decide) (gD_sim (by decide) (by decide) (by decide) hRs hsim (h.1 1 (by decide)))
  have hc : rankL 4 (adL 2 R) + 2 + 2 * dgK 2 R 1 = 4 := eq_of_beq hck
  rw [← e1] at hc
  have s0 := (fac_s (by decide) h 0 (by decide)).2.2.1
  have s1 := (fac_s (by decide) h 1 (by decide)).2.2.1
  obtain ⟨z0, z4⟩ := fac_deg (by decide) h
  have z4' : dg (d (1 + 1)) = 2 := z4
  have hz : zs (fun i => (2 * (2 - 1 - i) + 1) * dg (s i)) 2 = 3 * dg (s 0) + dg (s 1) := by
    show 0 + 3 * dg (s 0) + 1 * dg (s 1) = _
    omega
  rw [hz]
  refine core (d := fun _ _ => 0) (s := fun _ _ => 0) (f := d) (g := s) (by decide) (by decide) hA5 hAs hR5 hRs hsim ?_
  show 3 * dg (s 0) + dg (s 1) + rankL 4 (adL 2 R) = 4
  have t1 : dg (d (0 + 1)) = dg (d 1) := rfl
  omega
theorem one_row : ∀ a, a < 5 → rankL 1 (adL 1 (mt [[a]])) = 0 := by decide +kernel
theorem core1 {A : Nat → Nat → Nat} {d s : Nat → Nat} (hA5 : ∀ i j, A i j < 5) (hAs : sp 1 (kM A)) (h : fac A 1 d s) : Dim (1 * 1) (kerl (adL 1 A)) (zs (fun i => (2 * (1 - 1 - i) + 1) * dg (s i)) 1) := by
  have s0 := (fac_s (by decide) h 0 (by decide)).2.2.1
  obtain ⟨z0, z4⟩ := fac_deg (by decide) h
  have z4' : dg (d (0 + 1)) = 1 := z4
  have hz : zs (fun i => (2 * (1 - 1 - i) + 1) * dg (s i)) 1 = 1 := by
    show 0 + 1 * dg (s 0) = 1
    omega
  rw [hz]
  have hRs : sp 1 (kM (mt [[A 0 0]])) := sp_mt (Nat.le_refl _) (fun c hc => by simp at hc; subst hc; exact Nat.le_refl _)
  have hR5 : ∀ i j, mt [[A 0 0]] i j < 5 := fun i j => mt_lt (fun c hc x hx => by simp at hc; subst hc; simp at hx; rw [hx]; exact hA5 0 0) i j
  have e : kM A = kM (mt [[A 0 0]]) := by
    refine sp_ext hAs hRs (fun i j hi hj => ?_)
    have ei : i = 0 := by omega
    have ej : j = 0 := by omega
    subst ei; subst ej; rfl
  refine core (d := fun _ _ => 0) (s := fun _ _ => 0) (f := d) (g := s) (R := mt [[A 0 0]]) (by decide) (by decide) hA5 hAs hR5 hRs (by rw [← e]; exact Sim_rf (by decide) hAs) ?_
  have := one_row (A 0 0) (hA5 0 0)
  show 1 + rankL 1 (adL 1 (mt [[A 0 0]])) = 1
  omega
theorem cm_dim {A : Nat → Nat → Nat} {N : Nat} {d s : Nat → Nat} (h1 : 1 ≤ N) (hN : N ≤ 4) (hA : ∀ i j, A i j < 5) (hS : ∀ i j, ¬ (i < N ∧ j < N) → A i j = 0) (h : fac A N d s) : Dim (N * N) (kerl (adL N A)) (zs (fun i => (2 * (N - 1 - i) + 1) * dg (s i)) N) := by
  have hAs : sp N (kM A) := fun i j z => by show kk (A i j) = 0; rw [hS i j z]; rfl
  match N, h1, hN with
  | 4, _, _ =>
    rcases nf4 hAs with ⟨l, q1, hs⟩ | ⟨p, q, r, t, q1, q2, q3, q4, hs⟩ | ⟨q, r, l, q1, q2, q3, hs⟩ | ⟨b, c, q1, q2, hs⟩ | ⟨b, l, q1, q2, hs⟩
    · refine core4 hA hAs (fun i j => mt_lt (fun c hc x hx => ?_) i j) (sp4 (Nat.le_refl _) (Nat.le_refl _) (Nat.le_refl _) (Nat.le_refl _)) hs (ck_F0 l q1) h
      simp at hc
      rcases hc with rfl | rfl | rfl | rfl <;> simp at hx <;> omega
    · refine core4 hA hAs (fun i j => mt_lt (fun c hc x hx => ?_) i j) (sp4 (Nat.le_refl _) (Nat.le_refl _) (Nat.le_refl _) (Nat.le_refl _)) hs (ck_F1 p q1 q q2 r q3 t q4) h
      simp at hc
      rcases hc with rfl | rfl | rfl | rfl <;> simp at hx <;> omega
    · refine core4 hA hAs (fun i j => mt_lt (fun c hc x hx => ?_) i j) (sp4 (Nat.le_refl _) (Nat.le_refl _) (Nat.le_refl _) (Nat.le_refl _)) hs (ck_F2 q q1 r q2 l q3) h
      have hm := Nat.mod_lt (l * l * l + (5 - r) * l * l + (5 - q) * l) (show 5 > 0 by decide)
      generalize (l * l * l + (5 - r) * l * l + (5 - q) * l) % 5 = y at *
      simp at hc
      rcases hc with rfl | rfl | rfl | rfl <;> simp at hx <;> omega
    · refine core4 hA hAs (fun i j => mt_lt (fun c hc x hx => ?_) i j) (sp4 (Nat.le_refl _) (Nat.le_refl _) (Nat.le_refl _) (Nat.le_refl _)) hs (ck_F3 b q1 c q2) h
      simp at hc
      rcases hc with rfl | rfl | rfl | rfl <;> simp at hx <;> omega
    · refine core4 hA hAs (fun i j => mt_lt (fun c hc x hx => ?_) i j) (sp4 (Nat.le_refl _) (Nat.le_refl _) (Nat.le_refl _) (Nat.le_refl _)) hs (ck_F4 b q1 l q2) h
      have hm := Nat.mod_lt (l * l + (5 - b) * l) (show 5 > 0 by decide)
      generalize (l * l + (5 - b) * l) % 5 = y at *
      simp at hc
      rcases hc with rfl | rfl | rfl | rfl <;> simp at hx <;> omega
  | 3, _, _ =>
    rcases nf3 hAs with ⟨l, q1, hs⟩ | ⟨p, q, r, q1, q2, q3, hs⟩ | ⟨b, l, q1, q2, hs⟩
    · refine core3 hA hAs (fun i j => mt_lt (fun c hc x hx => ?_) i j) (sp3 (Nat.le_refl _) (Nat.le_refl _) (Nat.le_refl _)) hs (ck_G0 l q1) h
      simp at hc
      rcases hc with rfl | rfl | rfl <;> simp at hx <;> omega
    · refine core3 hA hAs (fun i j => mt_lt (fun c hc x hx => ?_) i j) (sp3 (Nat.le_refl _) (Nat.le_refl _) (Nat.le_refl _)) hs (ck_G1 p q1 q q2 r q3) h
      simp at hc
      rcases hc with rfl | rfl | rfl <;> simp at hx <;> omega
    · refine core3 hA hAs (fun i j => mt_lt (fun c hc x hx => ?_) i j) (sp3 (Nat.le_refl _) (Nat.le_refl _) (Nat.le_refl _)) hs (ck_G2 b q1 l q2) h
      have hm := Nat.mod_lt (l * l + (5 - b) * l) (show 5 > 0 by decide)
      generalize (l * l + (5 - b) * l) % 5 = y at *
      simp at hc
      rcases hc with rfl | rfl | rfl <;> simp at hx <;> omega
  | 2, _, _ =>
    rcases nf2 hAs with ⟨l, q1, hs⟩ | ⟨p, q, q1, q2, hs⟩
    · refine core2 hA hAs (fun i j => mt_lt (fun c hc x hx => ?_) i j) (sp2 (Nat.le_refl _) (Nat.le_refl _)) hs (ck_H0 l q1) h
      simp at hc
      rcases hc with rfl | rfl <;> simp at hx <;> omega
    · refine core2 hA hAs (fun i j => mt_lt (fun c hc x hx => ?_) i j) (sp2 (Nat.le_refl _) (Nat.le_refl _)) hs (ck_H1 p q1 q q2) h
      simp at hc
      rcases hc with rfl | rfl <;> simp at hx <;> omega
  | 1, _, _ => exact core1 hA hAs h
end
section
/-! commutant -/
theorem i_vc_commutant {k : Nat} {u : SX} {v : SY} (I : i_Rel k u v) (hk : k + 5 ≤ 2561) (v1 : Int32) : wpX_commutant (fun r u' => wpY_commutant (fun r' v' => r' = r ∧ i_Rel (k + 5) u' v') v v1) u v1 := by
  obtain ⟨N, c, m, f, g, mn, te, dv, ot, fc, kp, rw, rfl, rfl, h1, h4, hc, hg, h⟩ := I
  unfold wpX_commutant; dsimp only
  rcases zout v1 (n := 4) (by decide) with ⟨r, hr, rfl⟩ | o1
  · refine xr_ok hr (br_f zf1 (xs_findFactors (st := 0) h1 h4 (by omega) (by omega) hc ?_))
    intro m' f' d s hF hf _
    rw [zrel h hr] at hF
    have hf0 : ∀ i, i < N → f' i = s i := fun i hi => by have := hf i hi; rwa [Nat.zero_add] at this
    refine xs_commutant h1 h4 hf0 (fun i hi => (fac_s h4 hF i hi).2.1) ?_
    refine ys_commutant h1 h4 hr hg (cm_dim h1 h4 (zSl_lt hg N r) (fun i j z => if_neg z) hF) ?_
    intro rw'
    exact ⟨rfl, zR h1 h4 hc hg h⟩
  · refine xr_no o1 (br_t rfl ?_)
    unfold wpY_commutant; dsimp only
    exact yr_no o1 (br_t rfl ⟨rfl, zR h1 h4 hc hg h⟩)
end
