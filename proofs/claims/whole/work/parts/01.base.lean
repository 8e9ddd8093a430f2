/-! base: arrays of naturals in Int32, literals, the field of five numbers -/
def zA (c : Nat → Nat) : Nat → Int32 := fun j => nI (c j)
def zu (c : Nat → Nat) (i v : Nat) : Nat → Nat := fun j => if j = i then v else c j
theorem zA_at (c : Nat → Nat) (j : Nat) : zA c j = nI (c j) := rfl
theorem zA_upd (c : Nat → Nat) (i v : Nat) : upd (zA c) i (nI v) = zA (zu c i v) := by
  funext j
  show (if j = i then nI v else nI (c j)) = nI (if j = i then v else c j)
  split <;> rfl
theorem zu_s (c : Nat → Nat) (i v : Nat) : zu c i v i = v := if_pos rfl
theorem zu_n {c : Nat → Nat} {i v j : Nat} (h : j ≠ i) : zu c i v j = c j := if_neg h
theorem zu_lt {c : Nat → Nat} {i v B : Nat} (h : ∀ j, c j < B) (hv : v < B) : ∀ j, zu c i v j < B := by
  intro j
  show (if j = i then v else c j) < B
  split
  · exact hv
  · exact h j
theorem zA_0 : (fun _ => 0 : Nat → Int32) = zA (fun _ => 0) := rfl
abbrev zX (N : Nat) (c m f : Nat → Nat) : SX := (nI N, zA c, zA m, zA f)
abbrev zY (N : Nat) (g mn te dv ot fc kp rw : Nat → Nat) : SY := (nI N, zA g, zA mn, zA te, zA dv, zA ot, zA fc, zA kp, zA rw)
theorem z16m (a : Nat) : (16 : Int32) * nI a = nI (16 * a) := pk_mul 16 a
theorem z5m (a : Nat) : (5 : Int32) * nI a = nI (5 * a) := pk_mul 5 a
theorem zm5 (a : Nat) : nI a * (5 : Int32) = nI (a * 5) := pk_mul a 5
theorem z2m (a : Nat) : (2 : Int32) * nI a = nI (2 * a) := pk_mul 2 a
theorem z64a (a : Nat) : (64 : Int32) + nI a = nI (64 + a) := nI_add 64 a
theorem z80a (a : Nat) : (80 : Int32) + nI a = nI (80 + a) := nI_add 80 a
theorem z96a (a : Nat) : (96 : Int32) + nI a = nI (96 + a) := nI_add 96 a
theorem z4a (a : Nat) : (4 : Int32) + nI a = nI (4 + a) := nI_add 4 a
theorem za5 (a : Nat) : nI a + (5 : Int32) = nI (a + 5) := nI_add a 5
theorem z5s {a : Nat} (h : a ≤ 5) : (5 : Int32) - nI a = nI (5 - a) := pk_sub (a := 5) h
theorem zs1 {a : Nat} (h : 1 ≤ a) : nI a - (1 : Int32) = nI (a - 1) := pk_sub (b := 1) h
theorem z5d {a : Nat} (h : a < 2 ^ 31) : nI a / (5 : Int32) = nI (a / 5) := pk_div (d := 5) h (by decide) (by decide)
theorem z16d {a : Nat} (h : a < 2 ^ 31) : nI a / (16 : Int32) = nI (a / 16) := pk_div (d := 16) h (by decide) (by decide)
theorem z5r {a : Nat} (h : a < 2 ^ 31) : nI a - nI a / (5 : Int32) * 5 = nI (a % 5) := pk_rem (d := 5) h (by decide) (by decide)
theorem z2r {a : Nat} (h : a < 2 ^ 31) : nI a - nI a / (2 : Int32) * 2 = nI (a % 2) := pk_rem (d := 2) h (by decide) (by decide)
theorem z16r {a : Nat} (h : a < 2 ^ 31) : nI a - nI a / (16 : Int32) * 16 = nI (a % 16) := pk_rem (d := 16) h (by decide) (by decide)
theorem zf5 : ¬ (5 : Int32) = 0 := by decide
theorem zf2 : ¬ (2 : Int32) = 0 := by decide
theorem zf16 : ¬ (16 : Int32) = 0 := by decide
theorem zf1 : ¬ (1 : Int32) = 0 := by decide
theorem zshr {n k : Nat} (hn : n < 2 ^ 31) (hk : k < 32) : nI n >>> (nI k &&& 31) = nI (n / 2 ^ k) := pk_shrN hn _ k (s_l k hk)
theorem zand1 {n : Nat} (hn : n < 2 ^ 31) : nI n &&& (1 : Int32) = nI (n % 2) := by
  have := pk_andN (n := n) (by omega) (m := 1) 1 (by decide)
  simpa using this
theorem zand3 {n : Nat} (hn : n < 2 ^ 31) : nI n &&& (3 : Int32) = nI (n % 4) := by
  have := pk_andN (n := n) (by omega) (m := 3) 2 (by decide)
  simpa using this
theorem zbit {n k : Nat} (hn : n < 2 ^ 31) (hk : k < 32) : (nI n >>> (nI k &&& 31)) &&& (1 : Int32) = nI (n / 2 ^ k % 2) := by
  rw [zshr hn hk, zand1 (Nat.lt_of_le_of_lt (Nat.div_le_self _ _) hn)]
theorem zshl {k : Nat} (hk : k < 31) : (1 : Int32) <<< (nI k &&& 31) = nI (2 ^ k) := by
  have h := pk_shlN (n := 1) (nI k &&& 31) k (s_l k (by omega)) (by
    have : 2 ^ k ≤ 2 ^ 31 := Nat.pow_le_pow_right (by decide) (by omega)
    omega)
  rw [Nat.one_mul] at h
  exact h
/-- the field -/
def kk (n : Nat) : Fin 5 := Fin.ofNat 5 n
theorem kk_v (n : Nat) : (kk n).val = n % 5 := rfl
theorem kk_add (a b : Nat) : kk (a + b) = kk a + kk b := by
  apply Fin.ext
  show (a + b) % 5 = (a % 5 + b % 5) % 5
  omega
theorem kk_mul (a b : Nat) : kk (a * b) = kk a * kk b := by
  apply Fin.ext
  show (a * b) % 5 = (a % 5 * (b % 5)) % 5
  exact Nat.mul_mod a b 5
theorem kk_mod (a : Nat) : kk (a % 5) = kk a := by
  apply Fin.ext
  show a % 5 % 5 = a % 5
  omega
theorem kk_inj {a b : Nat} (ha : a < 5) (hb : b < 5) (h : kk a = kk b) : a = b := by
  have := congrArg Fin.val h
  rw [kk_v, kk_v] at this
  omega
theorem kk_5s {a : Nat} (h : a ≤ 5) : kk (5 - a) = - kk a := by
  apply Fin.ext
  show (5 - a) % 5 = ((5 - a % 5) % 5)
  omega
theorem kk_0 : kk 0 = 0 := rfl
theorem kk_1 : kk 1 = 1 := rfl
theorem kk_fin (a : Fin 5) : kk a.val = a := by
  apply Fin.ext
  show a.val % 5 = a.val
  omega
theorem kt_ring (a b c d : Fin 5) : (a + b) * (c - d) = a * c + b * c - a * d - d * b := by grind
theorem kt_ring5 (a b : Fin 5) : (a + b) * 5 = a * 10 := by grind
theorem kt_inv (a : Fin 5) (h : a ≠ 0) : a * (a * a * a) = 1 := by
  revert a; decide
