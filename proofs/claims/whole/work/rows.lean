section
theorem pk_us {f : Nat → Int32} {k : Nat} {x : Int32} : upd f k x k = x := if_pos rfl
theorem pk_un {f : Nat → Int32} {k j : Nat} {x : Int32} (h : j ≠ k) : upd f k x j = f j := if_neg h
theorem pk_sub {a b : Nat} (h : b ≤ a) : nI a - nI b = nI (a - b) := by
  obtain ⟨c, rfl⟩ : ∃ c, a = c + b := ⟨a - b, by omega⟩
  rw [← nI_add, Int32.add_sub_cancel, Nat.add_sub_cancel]
theorem pk_m1 (n : Nat) : nI (n + 1) + (-1) = nI n := by
  rw [← nI_1, Int32.add_assoc, show (1 : Int32) + (-1) = 0 from rfl, Int32.add_zero]
theorem pk_mul (a b : Nat) : nI a * nI b = nI (a * b) := (Int32.ofNat_mul a b).symm
theorem pk_div {a d : Nat} (ha : a < 2 ^ 31) (h0 : 0 < d) (hd : d < 2 ^ 31) : nI a / nI d = nI (a / d) := by
  apply Int32.toInt_inj.mp
  rw [lg_idiv_nonneg (by rw [nI_toInt ha]; omega) (by rw [nI_toInt hd]; omega), nI_toInt ha, nI_toInt hd, nI_toInt (Nat.lt_of_le_of_lt (Nat.div_le_self a d) ha)]
  first | rfl | exact (Int.natCast_ediv _ _).symm
theorem pk_rem {a d : Nat} (ha : a < 2 ^ 31) (h0 : 0 < d) (hd : d < 2 ^ 31) : nI a - nI a / nI d * nI d = nI (a % d) := by
  rw [pk_div ha h0 hd, pk_mul, pk_sub (Nat.div_mul_le_self a d)]
  exact congrArg nI (by have := Nat.div_add_mod' a d; omega)
theorem pk_sub_toInt {a b : Nat} (ha : a < 2 ^ 30) (hb : b < 2 ^ 30) : (nI a - nI b).toInt = (a : Int) - b := by
  rw [Int32.toInt_sub, nI_toInt (by omega), nI_toInt (by omega)]
  exact Int.bmod_eq_of_le (by omega) (by omega)
theorem pk_sneg {a b : Nat} (hb : b < 2 ^ 30) (h : a < b) : nI a - nI b < 0 := by
  rw [Int32.lt_iff_toInt_lt, pk_sub_toInt (by omega) hb, show (0 : Int32).toInt = 0 from by decide]
  omega
theorem pk_ix (x : Int32) {n : Nat} (hn : n < 2 ^ 31) : x < 0 ∨ nI n ≤ x ∨ ∃ j : Nat, j < n ∧ x = nI j := by
  by_cases h : x < 0
  · exact Or.inl h
  · obtain ⟨j, hj, rfl⟩ := nI_of h
    by_cases h2 : j < n
    · exact Or.inr (Or.inr ⟨j, h2, rfl⟩)
    · exact Or.inr (Or.inl (nI_le (by omega) hj))
theorem pk_le {x y : Int32} {A B : Prop} (a b : Nat) (f : a ≤ b → A) (g : b < a → B) (hx : x = nI a := by rfl) (hy : y = nI b := by rfl) (ha : a < 2 ^ 31 := by omega) (hb : b < 2 ^ 31 := by omega) : (x ≤ y → A) ∧ (¬ x ≤ y → B) := by
  subst hx hy
  rw [nI_leI ha hb]
  exact ⟨f, fun z => g (by omega)⟩
theorem pk_lt {x y : Int32} {A B : Prop} (a b : Nat) (f : a < b → A) (g : b ≤ a → B) (hx : x = nI a := by rfl) (hy : y = nI b := by rfl) (ha : a < 2 ^ 31 := by omega) (hb : b < 2 ^ 31 := by omega) : (x < y → A) ∧ (¬ x < y → B) := by
  subst hx hy
  rw [nI_ltI ha hb]
  exact ⟨f, fun z => g (by omega)⟩
theorem pk_eq {x y : Int32} {A B : Prop} (a b : Nat) (f : a = b → A) (g : a ≠ b → B) (hx : x = nI a := by rfl) (hy : y = nI b := by rfl) (ha : a < 2 ^ 31 := by omega) (hb : b < 2 ^ 31 := by omega) : (x = y → A) ∧ (¬ x = y → B) := by
  subst hx hy
  rw [nI_eq ha hb]
  exact ⟨f, g⟩
theorem pk_in {x : Int32} (n N : Nat) (h : n < N) (hx : x = nI n := by rfl) (hN : N < 2 ^ 31 := by omega) : vp_in x N := by
  subst hx
  exact vp_in_nI h hN
theorem pk_cl {x : Int32} (n : Nat) (hx : x = nI n := by rfl) (h : n < 2 ^ 31 := by omega) : x.toNatClampNeg = n := by
  subst hx
  exact nI_clamp h
theorem pk_tn {n : Nat} (h : n < 2 ^ 32) : (nI n).toBitVec.toNat = n := Nat.mod_eq_of_lt h
theorem pk_and (x : Int32) {m : Int32} (k : Nat) (hm : m.toBitVec.toNat = 2 ^ k - 1) : x &&& m = nI (x.toBitVec.toNat % 2 ^ k) := by
  apply Int32.toBitVec_inj.mp
  apply BitVec.eq_of_toNat_eq
  rw [Int32.toBitVec_and, BitVec.toNat_and, hm, Nat.and_two_pow_sub_one_eq_mod]
  show _ = (BitVec.ofNat 32 _).toNat
  rw [BitVec.toNat_ofNat]
  exact (Nat.mod_eq_of_lt (Nat.lt_of_le_of_lt (Nat.mod_le _ _) x.toBitVec.isLt)).symm
theorem pk_andN {n : Nat} (h : n < 2 ^ 32) {m : Int32} (k : Nat) (hm : m.toBitVec.toNat = 2 ^ k - 1) : nI n &&& m = nI (n % 2 ^ k) := by
  rw [pk_and _ k hm, pk_tn h]
theorem pk_shl (a s : Int32) (k : Nat) (hs : (s.toBitVec.smod 32).toNat = k) : (a <<< s).toBitVec.toNat = a.toBitVec.toNat * 2 ^ k % 2 ^ 32 := by
  show (a.toBitVec <<< (s.toBitVec.smod 32).toNat).toNat = _
  rw [hs, BitVec.toNat_shiftLeft, Nat.shiftLeft_eq]
theorem pk_shlN {n : Nat} (s : Int32) (k : Nat) (hs : (s.toBitVec.smod 32).toNat = k) (h : n * 2 ^ k < 2 ^ 32) : nI n <<< s = nI (n * 2 ^ k) := by
  apply Int32.toBitVec_inj.mp
  apply BitVec.eq_of_toNat_eq
  have hn : n < 2 ^ 32 := Nat.lt_of_le_of_lt (Nat.le_mul_of_pos_right n (Nat.two_pow_pos k)) h
  rw [pk_shl _ _ k hs, pk_tn hn, pk_tn h, Nat.mod_eq_of_lt h]
theorem pk_shr (a s : Int32) (k : Nat) (hs : (s.toBitVec.smod 32).toNat = k) : (a >>> s).toInt = a.toInt >>> k := by
  show (a.toBitVec.sshiftRight (s.toBitVec.smod 32).toNat).toInt = _
  rw [hs, BitVec.toInt_sshiftRight]
  rfl
theorem pk_shrN {n : Nat} (h : n < 2 ^ 31) (s : Int32) (k : Nat) (hs : (s.toBitVec.smod 32).toNat = k) : nI n >>> s = nI (n / 2 ^ k) := by
  apply Int32.toInt_inj.mp
  have h2 : n / 2 ^ k ≤ n := Nat.div_le_self _ _
  rw [pk_shr _ _ k hs, nI_toInt h, nI_toInt (by omega), Int.shiftRight_eq_div_pow]
  rfl
theorem pk_loop {σ : Type} (W : Nat → Nat → σ → Prop) (I : Nat → σ → Prop) (e i0 : Nat) (s : σ) (hi : i0 ≤ e) (h0 : I i0 s) (hx : ∀ n s, I e s → W (n + 1) e s)
    (hs : ∀ n i s, i < e → I i s → (∀ s', I (i + 1) s' → W n (i + 1) s') → W (n + 1) i s) : ∃ n, W n i0 s :=
  ⟨e + 1, loop_i W I e hx hs (e + 1) i0 s hi (by omega) h0⟩
theorem pk_loopD {σ : Type} (W : Nat → Nat → σ → Prop) (I : Nat → σ → Prop) (hx : ∀ n s, I 0 s → W (n + 1) 0 s)
    (hs : ∀ n i s, I (i + 1) s → (∀ s', I i s' → W n i s') → W (n + 1) (i + 1) s) : ∀ (e : Nat) (s : σ), I e s → W (e + 1) e s := by
  intro e
  induction e with
  | zero => exact fun s h => hx 0 s h
  | succ e ih => exact fun s h => hs (e + 1) e s h (fun s' h' => ih s' h')
theorem pk_least (P : Nat → Prop) (h : ∃ k, P k) : ∃ k, P k ∧ ∀ j, j < k → ¬ P j := by
  obtain ⟨k, hk⟩ := h
  induction k using Nat.strongRecOn with
  | ind k ih =>
    by_cases e : ∃ j, j < k ∧ P j
    · obtain ⟨j, hj, pj⟩ := e
      exact ih j hj pj
    · exact ⟨k, hk, fun j hj pj => e ⟨j, hj, pj⟩⟩
theorem s_l : ∀ n, n < 32 → ((nI n &&& 31).toBitVec.smod 32).toNat = n := by decide +kernel
theorem nx_and (a b : Nat) : nI a &&& nI b = nI (a &&& b) := by
  apply Int32.toBitVec_inj.1
  show BitVec.ofNat 32 a &&& BitVec.ofNat 32 b = BitVec.ofNat 32 (a &&& b)
  apply BitVec.eq_of_getLsbD_eq
  intro i hi
  simp [hi]
theorem nx_xor (a b : Nat) : nI a ^^^ nI b = nI (a ^^^ b) := by
  apply Int32.toBitVec_inj.1
  show BitVec.ofNat 32 a ^^^ BitVec.ofNat 32 b = BitVec.ofNat 32 (a ^^^ b)
  apply BitVec.eq_of_getLsbD_eq
  intro i hi
  simp [hi]
theorem sb_m1 {p : Nat} (h : 0 < p) : nI p + (-1) = nI (p - 1) := by
  obtain ⟨q, rfl⟩ : ∃ q, p = q + 1 := ⟨p - 1, by omega⟩
  exact pk_m1 q
end
section
/-! base: arrays of naturals in Int32, literals, the field of five numbers -/
def zA (c : Nat → Nat) : Nat → Int32 := fun j => nI (c j)
def zu (c : Nat → Nat) (i v : Nat) : Nat → Nat := fun j => if j = i then v else c j
theorem zA_at (c : Nat → Nat) (j : Nat) : zA c j = nI (c j) := rfl
theorem zA_upd (c : Nat → Nat) (i v : Nat) : upd (zA c) i (nI v) = zA (zu c i v) := by
  funext j
  show (if j = i then nI v else nI (c j)) = nI (if j = i then v else c j)
  split <;> rfl
theorem zu_s (c : Nat → Nat) (i v : Nat) : zu c i v i = v := if_pos rfl
theorem zu_n {c : Nat → Nat} {i v j : Nat} (h : j ≠ i) : zu c i v j = c j := if_neg h
theorem zu_lt {c : Nat → Nat} {i v B : Nat} (h : ∀ j, c j < B) (hv : v < B) : ∀ j, zu c i v j < B := by
  intro j
  show (if j = i then v else c j) < B
  split
  · exact hv
  · exact h j
theorem zA_0 : (fun _ => 0 : Nat → Int32) = zA (fun _ => 0) := rfl
abbrev zX (N : Nat) (c m f : Nat → Nat) : SX := (nI N, zA c, zA m, zA f)
abbrev zY (N : Nat) (g mn te dv ot fc kp rw : Nat → Nat) : SY := (nI N, zA g, zA mn, zA te, zA dv, zA ot, zA fc, zA kp, zA rw)
theorem z16m (a : Nat) : (16 : Int32) * nI a = nI (16 * a) := pk_mul 16 a
theorem z5m (a : Nat) : (5 : Int32) * nI a = nI (5 * a) := pk_mul 5 a
theorem zm5 (a : Nat) : nI a * (5 : Int32) = nI (a * 5) := pk_mul a 5
theorem z2m (a : Nat) : (2 : Int32) * nI a = nI (2 * a) := pk_mul 2 a
theorem z64a (a : Nat) : (64 : Int32) + nI a = nI (64 + a) := nI_add 64 a
theorem z80a (a : Nat) : (80 : Int32) + nI a = nI (80 + a) := nI_add 80 a
theorem z96a (a : Nat) : (96 : Int32) + nI a = nI (96 + a) := nI_add 96 a
theorem z4a (a : Nat) : (4 : Int32) + nI a = nI (4 + a) := nI_add 4 a
theorem za5 (a : Nat) : nI a + (5 : Int32) = nI (a + 5) := nI_add a 5
theorem z5s {a : Nat} (h : a ≤ 5) : (5 : Int32) - nI a = nI (5 - a) := pk_sub (a := 5) h
theorem zs1 {a : Nat} (h : 1 ≤ a) : nI a - (1 : Int32) = nI (a - 1) := pk_sub (b := 1) h
theorem z5d {a : Nat} (h : a < 2 ^ 31) : nI a / (5 : Int32) = nI (a / 5) := pk_div (d := 5) h (by decide) (by decide)
theorem z16d {a : Nat} (h : a < 2 ^ 31) : nI a / (16 : Int32) = nI (a / 16) := pk_div (d := 16) h (by decide) (by decide)
theorem z5r {a : Nat} (h : a < 2 ^ 31) : nI a - nI a / (5 : Int32) * 5 = nI (a % 5) := pk_rem (d := 5) h (by decide) (by decide)
theorem z2r {a : Nat} (h : a < 2 ^ 31) : nI a - nI a / (2 : Int32) * 2 = nI (a % 2) := pk_rem (d := 2) h (by decide) (by decide)
theorem z16r {a : Nat} (h : a < 2 ^ 31) : nI a - nI a / (16 : Int32) * 16 = nI (a % 16) := pk_rem (d := 16) h (by decide) (by decide)
theorem zf5 : ¬ (5 : Int32) = 0 := by decide
theorem zf2 : ¬ (2 : Int32) = 0 := by decide
theorem zf16 : ¬ (16 : Int32) = 0 := by decide
theorem zf1 : ¬ (1 : Int32) = 0 := by decide
theorem zshr {n k : Nat} (hn : n < 2 ^ 31) (hk : k < 32) : nI n >>> (nI k &&& 31) = nI (n / 2 ^ k) := pk_shrN hn _ k (s_l k hk)
theorem zand1 {n : Nat} (hn : n < 2 ^ 31) : nI n &&& (1 : Int32) = nI (n % 2) := by
  have := pk_andN (n := n) (by omega) (m := 1) 1 (by decide)
  simpa using this
theorem zand3 {n : Nat} (hn : n < 2 ^ 31) : nI n &&& (3 : Int32) = nI (n % 4) := by
  have := pk_andN (n := n) (by omega) (m := 3) 2 (by decide)
  simpa using this
theorem zbit {n k : Nat} (hn : n < 2 ^ 31) (hk : k < 32) : (nI n >>> (nI k &&& 31)) &&& (1 : Int32) = nI (n / 2 ^ k % 2) := by
  rw [zshr hn hk, zand1 (Nat.lt_of_le_of_lt (Nat.div_le_self _ _) hn)]
theorem zshl {k : Nat} (hk : k < 31) : (1 : Int32) <<< (nI k &&& 31) = nI (2 ^ k) := by
  have h := pk_shlN (n := 1) (nI k &&& 31) k (s_l k (by omega)) (by
    have : 2 ^ k ≤ 2 ^ 31 := Nat.pow_le_pow_right (by decide) (by omega)
    omega)
  rw [Nat.one_mul] at h
  exact h
/-- the field -/
def kk (n : Nat) : Fin 5 := Fin.ofNat 5 n
theorem kk_v (n : Nat) : (kk n).val = n % 5 := rfl
theorem kk_add (a b : Nat) : kk (a + b) = kk a + kk b := by
  apply Fin.ext
  show (a + b) % 5 = (a % 5 + b % 5) % 5
  omega
theorem kk_mul (a b : Nat) : kk (a * b) = kk a * kk b := by
  apply Fin.ext
  show (a * b) % 5 = (a % 5 * (b % 5)) % 5
  exact Nat.mul_mod a b 5
theorem kk_mod (a : Nat) : kk (a % 5) = kk a := by
  apply Fin.ext
  show a % 5 % 5 = a % 5
  omega
theorem kk_inj {a b : Nat} (ha : a < 5) (hb : b < 5) (h : kk a = kk b) : a = b := by
  have := congrArg Fin.val h
  rw [kk_v, kk_v] at this
  omega
theorem kk_5s {a : Nat} (h : a ≤ 5) : kk (5 - a) = - kk a := by
  apply Fin.ext
  show (5 - a) % 5 = ((5 - a % 5) % 5)
  omega
theorem kk_0 : kk 0 = 0 := rfl
theorem kk_1 : kk 1 = 1 := rfl
theorem kk_fin (a : Fin 5) : kk a.val = a := by
  apply Fin.ext
  show a.val % 5 = a.val
  omega
theorem kt_ring (a b c d : Fin 5) : (a + b) * (c - d) = a * c + b * c - a * d - d * b := by grind
theorem kt_ring5 (a b : Fin 5) : (a + b) * 5 = a * 10 := by grind
theorem kt_inv (a : Fin 5) (h : a ≠ 0) : a * (a * a * a) = 1 := by
  revert a; decide
end
