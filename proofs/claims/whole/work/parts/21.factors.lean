/-! the invariant factors: what both sides hold -/
theorem mnum_deg (A : Nat → Nat → Nat) {R C : Nat} (hR : R < 16) : mnum A R C < 5 ^ (pc R + 1) := by
  have h4 := pc4 R hR
  refine pd_ltp (mnum_lt _ _ _) (by omega) (fun k k1 k5 => ?_)
  rw [mnum_pd _ _ _ k k5]
  exact dtp_hi A _ _ _ k (by omega)
theorem set_bit2 : ∀ N, N < 5 → ∀ s, s < 2 ^ N → ∀ i, i < 4 → s / 2 ^ i % 2 = 1 → s - 2 ^ i < 2 ^ N := by decide +kernel
theorem set_rs2 : ∀ N, N < 5 → ∀ s, s < 2 ^ N → rs s < 2 ^ N := by decide +kernel
/-- a minor lies in each ideal that holds the smaller minors -/
theorem mn_step {P : Nat → Prop} (hP : Idl P) (A : Nat → Nat → Nat) {N k : Nat} (hN : N ≤ 4) (h : ∀ R C, R < 2 ^ N → C < 2 ^ N → pc R = k → pc C = k → P (mnum A R C)) :
    ∀ R C, R < 2 ^ N → C < 2 ^ N → pc R = k + 1 → pc C = k + 1 → P (mnum A R C) := by
  intro R C hR hC e1 e2
  obtain ⟨w1, w2⟩ := pw2 N (by omega)
  have hR0 : 0 < R := by
    refine Nat.pos_of_ne_zero (fun z => ?_)
    subst z
    have : pc 0 = 0 := rfl
    omega
  obtain ⟨f1, f2, f3, f4, f5, f6⟩ := set_facts R (by omega) hR0
  have hr2 := set_rs2 N (by omega) R hR
  have hk4 := pc4 R (by omega)
  have hdt : dtp A (pc R) R C = (lapP (fun i k' => (if lo R = i then px (dtp A k (rs R) (C - 2 ^ i)) k' else 0) - kk (A (lo R) i) * dtp A k (rs R) (C - 2 ^ i) k') C 4).1 := by
    rw [e1]; rfl
  generalize hq : (fun i k' => (if lo R = i then px (dtp A k (rs R) (C - 2 ^ i)) k' else 0) - kk (A (lo R) i) * dtp A k (rs R) (C - 2 ^ i) k') = q at hdt
  have main : ∀ i, i ≤ 4 → ∃ S, S < 3125 ∧ P S ∧ ∀ k', k' < 5 → pd S k' = (lapP q C i).1 k' := by
    intro i
    induction i with
    | zero => intro _; exact ⟨0, by decide, hP.1, fun k' _ => pd_0 k'⟩
    | succ i ih =>
      intro hi
      obtain ⟨S, s1, s2, s3⟩ := ih (by omega)
      by_cases hb : C / 2 ^ i % 2 = 1
      · obtain ⟨g1, g2, g3, g4⟩ := (set_bit C (by omega) i (by omega)).1 hb
        have hc2 := set_bit2 N (by omega) C hC i (by omega) hb
        have hm := h (rs R) (C - 2 ^ i) hr2 hc2 (by omega) (by omega)
        have md := mnum_deg A (R := rs R) (C := C - 2 ^ i) (by omega)
        have mp : ∀ j, j < 5 → pd (mnum A (rs R) (C - 2 ^ i)) j = dtp A k (rs R) (C - 2 ^ i) j := by
          intro j hj
          rw [mnum_pd _ _ _ j hj, show pc (rs R) = k by omega]
        generalize hM : mnum A (rs R) (C - 2 ^ i) = M at *
        have md2 : M < 625 := by
          have : (5 : Nat) ^ (pc (rs R) + 1) ≤ 5 ^ 4 := Nat.pow_le_pow_right (by decide) (by omega)
          have h4 : (5 : Nat) ^ 4 = 625 := rfl
          omega
        have lapS : (lapP q C (i + 1)).1 = fun k' => (lapP q C i).1 k' + (lapP q C i).2 * q i k' := by
          show (if C / 2 ^ i % 2 = 1 then (fun k' => (lapP q C i).1 k' + (lapP q C i).2 * q i k', - (lapP q C i).2) else lapP q C i).1 = _
          rw [if_pos hb]
        have hq2 : ∀ k', q i k' = (if lo R = i then px (dtp A k (rs R) (C - 2 ^ i)) k' else 0) - kk (A (lo R) i) * dtp A k (rs R) (C - 2 ^ i) k' := fun k' => by rw [← hq]
        generalize hsg : (lapP q C i).2 = sg at lapS
        have hS1 := hP.2.1 S M ((sg * (- kk (A (lo R) i))).val) s1 (by omega) (by have := (sg * (- kk (A (lo R) i))).isLt; omega) s2 hm
        by_cases el : lo R = i
        · have h5 := hP.2.2 M md2 hm
          have hS2 := hP.2.1 _ (5 * M) sg.val (pm_lt _ _ _) (by omega) (by have := sg.isLt; omega) hS1 h5
          refine ⟨_, pm_lt _ _ _, hS2, fun k' hk' => ?_⟩
          rw [pd_pm _ _ _ _ hk', pd_pm _ _ _ _ hk', kk_fin, kk_fin, s3 k' hk', lapS, pd_5, px_c (q := dtp A k (rs R) (C - 2 ^ i)) (fun j hj => mp j (by omega)), mp k' hk']
          dsimp only
          rw [hq2, if_pos el]
          grind
        · refine ⟨_, pm_lt _ _ _, hS1, fun k' hk' => ?_⟩
          rw [pd_pm _ _ _ _ hk', kk_fin, s3 k' hk', lapS, mp k' hk']
          dsimp only
          rw [hq2, if_neg el]
          grind
      · have lapS : lapP q C (i + 1) = lapP q C i := by
          show (if C / 2 ^ i % 2 = 1 then _ else _) = _
          rw [if_neg hb]
        rw [lapS]
        exact ⟨S, s1, s2, s3⟩
  obtain ⟨S, s1, s2, s3⟩ := main 4 (by omega)
  have : S = mnum A R C := pd_inj s1 (mnum_lt _ _ _) (fun j hj => by rw [s3 j hj, mnum_pd _ _ _ j hj, hdt])
  rw [← this]; exact s2
theorem gD_0 (A : Nat → Nat → Nat) {N : Nat} (hN : N ≤ 4) : gD A N 0 1 := by
  obtain ⟨w1, w2⟩ := pw2 N (by omega)
  have e1 : mnum A 0 0 = 1 := pd_inj (mnum_lt _ _ _) (by decide) (fun k hk => by rw [mnum_pd _ _ _ k hk, pd_1]; rfl)
  refine ⟨by decide, Or.inr (by decide), fun P hP => ⟨fun h R C hR hC e2 e3 => ?_, fun h => ?_⟩⟩
  · rw [pc_0 R (by omega) e2, pc_0 C (by omega) e3, e1]; exact h
  · have := h 0 0 (by omega) (by omega) rfl rfl
    rwa [e1] at this
theorem chkk (A : Nat → Nat → Nat) : ∀ k, k ≤ 4 → dtp A k (2 ^ k - 1) (2 ^ k - 1) k = 1 := by
  intro k hk
  match k, hk with
  | 0, _ => rfl
  | 1, _ => exact ch1 A
  | 2, _ => exact (ch2 A).1
  | 3, _ => exact (ch3 A).1
  | 4, _ => exact (ch4 A).1
theorem gD_ne {A : Nat → Nat → Nat} {N k D : Nat} (hN : N ≤ 4) (hk : k ≤ N) (h : gD A N k D) : D ≠ 0 ∧ ld D = 1 := by
  have hne : D ≠ 0 := by
    intro z
    obtain ⟨a1, a2⟩ := pc_all k (by omega)
    have hle : 2 ^ k ≤ 2 ^ N := Nat.pow_le_pow_right (by decide) hk
    have := (h.2.2 _ I_0).mp z (2 ^ k - 1) (2 ^ k - 1) (by omega) (by omega) a1 a1
    have e := mnum_pd A (2 ^ k - 1) (2 ^ k - 1) k (by omega)
    rw [this, pd_0, a1, chkk A k (by omega)] at e
    exact absurd e (by decide)
  refine ⟨hne, ?_⟩
  rcases h.2.1 with z | z
  · exact absurd z hne
  · exact z
theorem gD_uniq {A : Nat → Nat → Nat} {N k D D' : Nat} (h : gD A N k D) (h' : gD A N k D') : D = D' :=
  mon_uniq h.1 h'.1 h.2.1 h'.2.1 (fun P hP => (h.2.2 P hP).trans (h'.2.2 P hP).symm)
theorem gD_mul {A : Nat → Nat → Nat} {N k D D' : Nat} (hN : N ≤ 4) (hk : k ≤ N) (h : gD A N k D) (h' : gD A N (k + 1) D') : mul D D' := by
  obtain ⟨n1, n2⟩ := gD_ne hN hk h
  have hI := mul_I h.1 n1
  refine (h'.2.2 _ hI).mpr (mn_step hI A hN ?_)
  exact (h.2.2 _ hI).mp ⟨1, mlt_1 D⟩
theorem pc_N : ∀ N, N < 5 → ∀ s, s < 2 ^ N → pc s = N → s = 2 ^ N - 1 := by decide +kernel
theorem gD_N {A : Nat → Nat → Nat} {N D : Nat} (hN : N ≤ 4) (h : gD A N N D) : D = mnum A (2 ^ N - 1) (2 ^ N - 1) ∧ dg D = N := by
  obtain ⟨a1, a2⟩ := pc_all N (by omega)
  obtain ⟨w1, w2⟩ := pw2 N (by omega)
  have e := mnum_pd A (2 ^ N - 1) (2 ^ N - 1) N (by omega)
  rw [a1, chkk A N hN] at e
  have hd := mnum_deg A (R := 2 ^ N - 1) (C := 2 ^ N - 1) (by omega)
  rw [a1] at hd
  have hlt := mnum_lt A (2 ^ N - 1) (2 ^ N - 1)
  have hP := h.2.2
  have key : ∀ P, Idl P → (P D ↔ P (mnum A (2 ^ N - 1) (2 ^ N - 1))) := fun P hI => (hP P hI).trans ⟨fun z => z _ _ a2 a2 a1 a1, fun z R C hR hC e1 e2 => by rw [pc_N N (by omega) R hR e1, pc_N N (by omega) C hC e2]; exact z⟩
  generalize mnum A (2 ^ N - 1) (2 ^ N - 1) = M at *
  have hge : 5 ^ N ≤ M := by
    refine Nat.le_of_not_lt (fun z => ?_)
    rw [pd_hi z (Nat.le_refl _)] at e
    exact absurd e (by decide)
  have hdg : dg M = N := dg_of hN hd (Or.inr hge)
  have hm : mon M := by
    right
    refine kk_inj (ld_lt hlt) (by decide) ?_
    rw [← pd_ld, hdg, e]; rfl
  have : D = M := mon_uniq h.1 hlt h.2.1 hm key
  exact ⟨this, by rw [this]; exact hdg⟩
theorem mlt_u {g p s t : Nat} (hg : g < 3125) (hg0 : g ≠ 0) (hp : p < 3125) (hs : mlt g p s) (ht : mlt g p t) : s = t := by
  have h := mlt_pm (c := 4) hp hs ht
  have hz : pm p 4 p = 0 := by
    refine pd_inj (pm_lt _ _ _) (by decide) (fun k hk => ?_)
    rw [pd_pm _ _ _ _ hk, pd_0, show kk 4 = 4 from rfl]; grind
  have h0 : pm s 4 t = 0 := by
    by_cases e : pm s 4 t = 0
    · exact e
    · exact absurd hz (mlt_top hg (pm_lt _ _ _) hg0 h e).2.2
  refine pd_inj (mlt_s hs) (mlt_s ht) (fun k hk => ?_)
  have := pd_pm s 4 t k hk
  rw [h0, pd_0, show kk 4 = 4 from rfl] at this
  grind
/-- divisors d and factors s of the matrix A -/
def fac (A : Nat → Nat → Nat) (N : Nat) (d s : Nat → Nat) : Prop := (∀ k, k ≤ N → gD A N k (d k)) ∧ ∀ k, k < N → mlt (d k) (d (k + 1)) (s k)
theorem fac_u {A : Nat → Nat → Nat} {N : Nat} {d s d' s' : Nat → Nat} (hN : N ≤ 4) (h : fac A N d s) (h' : fac A N d' s') : (∀ k, k ≤ N → d k = d' k) ∧ ∀ k, k < N → s k = s' k := by
  have hd : ∀ k, k ≤ N → d k = d' k := fun k hk => gD_uniq (h.1 k hk) (h'.1 k hk)
  refine ⟨hd, fun k hk => ?_⟩
  have h2 := h'.2 k hk
  rw [← hd k (by omega), ← hd (k + 1) (by omega)] at h2
  exact mlt_u (h.1 k (by omega)).1 (gD_ne hN (by omega) (h.1 k (by omega))).1 (h.1 (k + 1) (by omega)).1 (h.2 k hk) h2
theorem fac_s {A : Nat → Nat → Nat} {N : Nat} {d s : Nat → Nat} (hN : N ≤ 4) (h : fac A N d s) : ∀ k, k < N → s k ≠ 0 ∧ s k < 3125 ∧ dg (d (k + 1)) = dg (d k) + dg (s k) ∧ ld (s k) = 1 := by
  intro k hk
  have g1 := h.1 k (by omega)
  have g2 := h.1 (k + 1) (by omega)
  obtain ⟨n1, n2⟩ := gD_ne hN (by omega) g1
  obtain ⟨n3, n4⟩ := gD_ne hN (by omega) g2
  have hm := h.2 k hk
  have s0 : s k ≠ 0 := fun z => n3 (mlt_0 g2.1 (by rw [← z]; exact hm))
  obtain ⟨t1, t2, _⟩ := mlt_top g1.1 g2.1 n1 hm s0
  have hs3 := mlt_s hm
  refine ⟨s0, hs3, t1, ?_⟩
  rw [n2, n4] at t2
  refine kk_inj (ld_lt hs3) (by decide) ?_
  rw [t2, show kk 1 = 1 from rfl]; grind
theorem xs_findFactors {post : SX → Prop} {N r st : Nat} {c m f : Nat → Nat} (h1 : 1 ≤ N) (hN : N ≤ 4) (hr : r < 7) (hst : st ≤ 4) (hc : ∀ j, c j < 5)
    (H : ∀ m' f' d s : Nat → Nat, fac (zSl c N r) N d s → (∀ k, k < N → f' (st + k) = s k) → (∀ j, (j < st ∨ st + N ≤ j) → f' j = f j) → post (zX N c m' f')) :
    wpX_findFactors post (zX N c m f) (nI r) (nI st) := by
  unfold wpX_findFactors; dsimp only
  refine xs_findMinors hN hr hc ?_
  intro m' hm
  generalize hA : zSl c N r = A at *
  refine pk_loop (fun n k (q : Nat × (Nat → Nat)) => wX_findFactors_10 post (nI st) (nI N) n (nI q.1) (nI k) (zA c) (zA m') (zA q.2))
    (fun k q => 1 ≤ k ∧ ∃ d s : Nat → Nat, (∀ i, i < k → gD A N i (d i)) ∧ (∀ i, i + 1 < k → mlt (d i) (d (i + 1)) (s i)) ∧ q.1 = d (k - 1) ∧ (∀ i, i + 1 < k → q.2 (st + i) = s i) ∧ (∀ j, (j < st ∨ st + N ≤ j) → q.2 j = f j)) (N + 1) 1 (1, f) (by omega) ⟨by omega, fun _ => 1, fun _ => 0, ?_, fun i hi => absurd hi (by omega), rfl, fun i hi => absurd hi (by omega), fun _ _ => rfl⟩ ?_ ?_
  · intro i hi
    have : i = 0 := by omega
    subst this
    exact gD_0 A hN
  · intro n q hI
    obtain ⟨_, d, s, i1, i2, i3, i4, i5⟩ := hI
    refine br_t (nI_lt (by omega) (by omega)) (H m' q.2 d s ⟨fun k hk => i1 k (by omega), fun k hk => i2 k (by omega)⟩ (fun k hk => i4 k (by omega)) i5)
  · intro n k q hk hI ih
    obtain ⟨hk1, d, s, i1, i2, i3, i4, i5⟩ := hI
    refine br_f (nI_nlt (by omega) (by omega)) ?_
    refine xs_div hN hk1 (by omega) hm ?_
    intro D hD
    have gb := i1 (k - 1) (by omega)
    obtain ⟨n1, n2⟩ := gD_ne hN (by omega) gb
    obtain ⟨t, ht⟩ := gD_mul hN (by omega) gb (by rw [show k - 1 + 1 = k by omega]; exact hD)
    rw [i3]
    refine xs_quot hD.1 gb.1 n1 n2 ht ?_
    have e0 : nI st + nI k - 1 = nI (st + (k - 1)) := by
      rw [nI_add, zs1 (by omega), Nat.add_sub_assoc hk1]
    rw [e0, nI_clamp (by omega)]
    refine ⟨vp_in_nI (by omega) (by decide), nm_r (e' := zA (zu q.2 (st + (k - 1)) t)) (zA_upd _ _ _) (nm_r (nI_1 k) (ih (D, zu q.2 (st + (k - 1)) t) ⟨by omega, zu d k D, zu s (k - 1) t, ?_, ?_, ?_, ?_, ?_⟩))⟩
    · intro i hi
      by_cases e : i = k
      · subst e; rw [zu_s]; exact hD
      · rw [zu_n e]; exact i1 i (by omega)
    · intro i hi
      by_cases e : i + 1 = k
      · rw [e, zu_s, zu_n (by omega), show i = k - 1 by omega, zu_s]; exact ht
      · rw [zu_n e, zu_n (by omega), zu_n (by omega)]; exact i2 i (by omega)
    · show D = zu d k D (k + 1 - 1)
      rw [Nat.add_sub_cancel, zu_s]
    · intro i hi
      show zu q.2 (st + (k - 1)) t (st + i) = zu s (k - 1) t i
      by_cases e : i = k - 1
      · rw [e, zu_s, zu_s]
      · rw [zu_n (by omega), zu_n e]; exact i4 i (by omega)
    · intro j hj
      show zu q.2 (st + (k - 1)) t j = f j
      rw [zu_n (by omega)]; exact i5 j hj
