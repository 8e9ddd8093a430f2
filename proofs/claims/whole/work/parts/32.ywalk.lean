/-! the linear equations of the commuting matrices -/
def adc (N : Nat) (a : Nat → Nat → Nat) (i k : Nat) : Nat := ((if i % N = k % N then a (i / N) (k / N) else 0) + (if i / N = k / N then 5 - a (k % N) (i % N) else 0)) % 5
def adL (N : Nat) (a : Nat → Nat → Nat) : List (List Nat) := (List.range (N * N)).map (fun i => (List.range (N * N)).map (fun k => adc N a i k))
theorem dotl_app : ∀ (l : List Nat) (a : Nat) (x : Nat → Fin 5), dotl (l ++ [a]) x = dotl l x + kk a * x l.length := by
  intro l
  induction l with
  | nil => intro a x; show kk a * x 0 + 0 = 0 + kk a * x 0; grind
  | cons b l ih =>
    intro a x
    show kk b * x 0 + dotl (l ++ [a]) (vsh x) = kk b * x 0 + dotl l (vsh x) + kk a * x (l.length + 1)
    rw [ih]
    show _ + (_ + kk a * x (l.length + 1)) = _
    grind
theorem dotl_range (f : Nat → Nat) (x : Nat → Fin 5) : ∀ n, dotl ((List.range n).map f) x = fs (fun k => kk (f k) * x k) n := by
  intro n
  induction n with
  | zero => rfl
  | succ n ih =>
    rw [List.range_succ, List.map_append, List.map_cons, List.map_nil, dotl_app, ih, List.length_map, List.length_range]
    rfl
theorem ker_ad {N : Nat} {a : Nat → Nat → Nat} {R : Nat → Nat} (h : ∀ i k, i < N * N → k < N * N → R (16 * i + k) = adc N a i k) (x : Nat → Fin 5) : kerR (N * N) R x ↔ kerl (adL N a) x := by
  have key : ∀ i, i < N * N → rowl (N * N) R i x = dotl ((List.range (N * N)).map (fun k => adc N a i k)) x := by
    intro i hi
    rw [dotl_range]
    exact fs_cong _ (fun k hk => by rw [h i k hi hk])
  refine ⟨fun hk r hr => ?_, fun hk i hi => ?_⟩
  · obtain ⟨i, h1, rfl⟩ := List.mem_map.mp hr
    have hi : i < N * N := List.mem_range.mp h1
    rw [← key i hi]; exact hk i hi
  · rw [key i hi]
    exact hk _ (List.mem_map.mpr ⟨i, List.mem_range.mpr hi, rfl⟩)
theorem adL_len (N : Nat) (a : Nat → Nat → Nat) : ∀ r, r ∈ adL N a → r.length = N * N := by
  intro r hr
  obtain ⟨i, h1, rfl⟩ := List.mem_map.mp hr
  rw [List.length_map, List.length_range]
theorem ys_makeRows {post : SY → Prop} {N r : Nat} {g : Nat → Nat} {mn te dv ot fc kp rw : Nat → Nat} (h1 : 1 ≤ N) (hN : N ≤ 4) (hr : r < 5) (hg : ∀ j, g j < 5)
    (H : ∀ rw' : Nat → Nat, (∀ i k, i < N * N → k < N * N → rw' (16 * i + k) = adc N (zSl g N r) i k) → post (zY N g mn te dv ot fc kp rw')) :
    wpY_makeRows post (zY N g mn te dv ot fc kp rw) (nI r) := by
  have hsq := zi_sq hN
  have hA := zSl_lt hg N r
  generalize hn : N * N = n at *
  show ∃ n2, wY_makeRows_2 post (nI r) (nI N) n2 0 (zA g) (zA mn) (zA te) (zA dv) (zA ot) (zA fc) (zA kp) (zA rw)
  refine loop_0 (fun m i (s : Nat → Nat) => wY_makeRows_2 post (nI r) (nI N) m (nI i) (zA g) (zA mn) (zA te) (zA dv) (zA ot) (zA fc) (zA kp) (zA s))
    (fun i s => ∀ i' k, i' < i → i' < n → k < n → s (16 * i' + k) = adc N (zSl g N r) i' k) n rw (fun i' k h => absurd h (by omega)) ?_ ?_
  · intro m s hI
    exact br_t (by rw [pk_mul, hn]; exact nI_le (Nat.le_refl _) (by omega)) (H s (fun i k hi hk => hI i k hi hi hk))
  · intro m i s hi hI ih
    refine br_f (by rw [pk_mul, hn]; exact nI_ge hi (by omega)) ?_
    refine loop_0 (fun m' k (s' : Nat → Nat) => wY_makeRows_17 post (wY_makeRows_2 post (nI r) (nI N) m) (nI r) (nI i) (nI N) m' (nI k) (zA g) (zA mn) (zA te) (zA dv) (zA ot) (zA fc) (zA kp) (zA s'))
      (fun k s' => ∀ i' k', (i' < i ∨ (i' = i ∧ k' < k)) → i' < n → k' < n → s' (16 * i' + k') = adc N (zSl g N r) i' k') n s (fun i' k' h hi' hk' => hI i' k' (by omega) hi' hk') ?_ ?_
    · intro m' s' hJ
      refine br_t (by rw [pk_mul, hn]; exact nI_le (Nat.le_refl _) (by omega)) (nm_r (nI_1 i) (ih s' (fun i' k' h hi' hk' => hJ i' k' (by omega) hi' hk')))
    · intro m' k s' hk hJ ih'
      have nN : ¬ nI N = 0 := nI_ne0 (by omega) (by omega)
      have i1 : i / N < N := (Nat.div_lt_iff_lt_mul (by omega)).mpr (by omega)
      have i2 : i % N < N := Nat.mod_lt _ (by omega)
      have k1 : k / N < N := (Nat.div_lt_iff_lt_mul (by omega)).mpr (by omega)
      have k2 : k % N < N := Nat.mod_lt _ (by omega)
      have last : ∀ z0 z1 : Nat, z0 ≤ 5 → z1 < 5 → (z1 + z0) % 5 = adc N (zSl g N r) i k → wY_makeRows_104 post (wY_makeRows_2 post (nI r) (nI N) m) (wY_makeRows_17 post (wY_makeRows_2 post (nI r) (nI N) m) (nI r) (nI i) (nI N) m') (nI r) (nI i) (nI k) (nI z0) (nI z1) (nI N) (zA g) (zA mn) (zA te) (zA dv) (zA ot) (zA fc) (zA kp) (zA s') := by
        intro z0 z1 hz0 hz1 hz
        unfold wY_makeRows_104
        rw [nI_add, z16m, nI_add, nI_clamp (by omega)]
        refine nm_e ⟨zf5, vp_in_nI (by omega) (by decide), nm_r (e' := zA (zu s' (16 * i + k) ((z1 + z0) % 5))) (by rw [z5r (by omega), zA_upd]) (nm_r (nI_1 k) (ih' _ ?_))⟩
        intro i' k' h hi' hk'
        by_cases e : 16 * i' + k' = 16 * i + k
        · have ei : i' = i := by omega
          have ek : k' = k := by omega
          subst ei; subst ek
          rw [zu_s, hz]
        · rw [zu_n e]; exact hJ i' k' (by omega) hi' hk'
      have mid : ∀ z1 : Nat, z1 < 5 → (z1 = if i % N = k % N then zSl g N r (i / N) (k / N) else 0) → wY_makeRows_82 post (wY_makeRows_2 post (nI r) (nI N) m) (wY_makeRows_17 post (wY_makeRows_2 post (nI r) (nI N) m) (nI r) (nI i) (nI N) m') (nI r) (nI i) (nI k) (nI (i / N)) (nI (i % N)) (nI (k / N)) (nI (k % N)) (nI z1) (nI N) (zA g) (zA mn) (zA te) (zA dv) (zA ot) (zA fc) (zA kp) (zA s') := by
        intro z1 hz1 ez
        unfold wY_makeRows_82
        refine pk_eq (i / N) (k / N) ?_ ?_
        · intro e
          have b1 := hA (k % N) (i % N)
          refine ys_entry hN hr k2 i2 ?_
          rw [← zSl_at (c := g) (s := r) k2 i2, z5s (by omega)]
          refine last _ z1 (by omega) hz1 ?_
          unfold adc
          rw [if_pos e, ← ez]
        · intro e
          refine last 0 z1 (by omega) hz1 ?_
          unfold adc
          rw [if_neg e, ← ez]
      refine br_f (by rw [pk_mul, hn]; exact nI_ge hk (by omega)) ⟨nN, nm_r (pk_div (by omega) (by omega) (by omega)) ⟨nN, nm_r (pk_rem (by omega) (by omega) (by omega)) ⟨nN, nm_r (pk_div (by omega) (by omega) (by omega)) ⟨nN, nm_r (pk_rem (by omega) (by omega) (by omega)) (pk_eq (i % N) (k % N) ?_ ?_)⟩⟩⟩⟩
      · intro e
        refine ys_entry hN hr i1 k1 ?_
        rw [← zSl_at (c := g) (s := r) i1 k1]
        exact mid _ (hA _ _) (by rw [if_pos e])
      · intro e
        exact mid 0 (by decide) (by rw [if_neg e])
theorem ys_commutant {post : Int32 → SY → Prop} {N r m : Nat} {g : Nat → Nat} {mn te dv ot fc kp rw : Nat → Nat} (h1 : 1 ≤ N) (hN : N ≤ 4) (hr : r < 4) (hg : ∀ j, g j < 5) (hm : Dim (N * N) (kerl (adL N (zSl g N r))) m)
    (H : ∀ rw' : Nat → Nat, post (nI m) (zY N g mn te dv ot fc kp rw')) :
    wpY_commutant post (zY N g mn te dv ot fc kp rw) (nI r) := by
  have hsq := zi_sq hN
  have hq := zsqs h1
  unfold wpY_commutant; dsimp only
  refine yr_ok hr (br_f zf1 (ys_makeRows h1 hN (by omega) hg ?_))
  intro rw0 e0
  have hker := ker_ad e0
  have hm0 : Dim (N * N) (kerR (N * N) rw0) m := Dim_iff hker hm
  have hb0 : bR (N * N) rw0 := fun i k hi hk => by rw [e0 i k hi hk]; exact Nat.mod_lt _ (by decide)
  refine loop_0 (fun n c (q : Nat × (Nat → Nat)) => wY_commutant_19 post n (nI q.1) (nI c) (nI N) (zA g) (zA mn) (zA te) (zA dv) (zA ot) (zA fc) (zA kp) (zA q.2))
    (fun c q => Inv (N * N) rw0 c q.1 q.2) (N * N) (0, rw0) ⟨hb0, Nat.le_refl _, fun _ => Iff.rfl, ⟨fun _ => 0, fun i hi => absurd hi (by omega), fun i j _ hj => absurd hj (by omega)⟩, fun i _ _ k hk => absurd hk (by omega)⟩ ?_ ?_
  · intro n q hI
    have hd := Inv_dim hI hm0
    refine br_t (by rw [pk_mul]; exact nI_le (Nat.le_refl _) (by omega)) ?_
    rw [pk_mul, pk_sub (by omega), show N * N - q.1 = m by omega]
    exact H q.2
  · intro n c q hc hI ih
    have hpc := hI.2.1
    refine br_f (by rw [pk_mul]; exact nI_ge hc (by omega)) (ys_bring h1 hN hc (by omega) hI.1 ?_ ?_)
    · intro hz
      exact br_t rfl (nm_r (nI_1 c) (ih q (Inv_skip hI hz)))
    · intro i0 hi0 hi0n hne R1 b1 e1
      refine br_f zf1 (ys_clearR h1 hN hc (by omega) b1 ?_)
      intro R2 b2 e2
      exact nm_r (nI_1 q.1) (nm_r (nI_1 c) (ih (q.1 + 1, R2) (Inv_step (by omega) hc hI hi0 hi0n hne b2 e1 e2)))
theorem xs_commutant {post : Int32 → SX → Prop} {N : Nat} {c m f s : Nat → Nat} (h1 : 1 ≤ N) (hN : N ≤ 4) (hf : ∀ i, i < N → f i = s i) (hs : ∀ i, i < N → s i < 3125)
    (H : post (nI (zs (fun i => (2 * (N - 1 - i) + 1) * dg (s i)) N)) (zX N c m f)) :
    ∃ n19, wX_commutant_19 post (nI N) (zA c) (zA m) (zA f) n19 0 0 := by
  have hb : ∀ i, zs (fun i => (2 * (N - 1 - i) + 1) * dg (s i)) i ≤ i * 64 := fun i => zs_le (fun t => by
    have := dg_4 (s t)
    have : (2 * (N - 1 - t) + 1) * dg (s t) ≤ 16 * 4 := Nat.mul_le_mul (by omega) (by omega)
    omega) i
  refine loop_0 (fun n i (q : Nat) => wX_commutant_19 post (nI N) (zA c) (zA m) (zA f) n (nI q) (nI i)) (fun i q => q = zs (fun i => (2 * (N - 1 - i) + 1) * dg (s i)) i) N 0 rfl ?_ ?_
  · intro n q hq
    refine br_t (nI_le (Nat.le_refl _) (by omega)) ?_
    rw [hq]; exact H
  · intro n i q hi hq ih
    have e0 : (2 : Int32) * (nI N - 1 - nI i) + 1 = nI (2 * (N - 1 - i) + 1) := by
      rw [zs1 h1, pk_sub (by omega), z2m, nI_1]
    refine br_f (nI_ge hi (by omega)) (nm_r e0 ⟨vp_in_nI (by omega) (by decide), ?_⟩)
    rw [nI_clamp (by omega), zA_at, hf i hi]
    refine xs_degree (hs i hi) (nm_r (e' := nI (q + (2 * (N - 1 - i) + 1) * dg (s i))) (by rw [pk_mul, nI_add]) (nm_r (nI_1 i) (ih _ ?_)))
    rw [hq]; rfl
