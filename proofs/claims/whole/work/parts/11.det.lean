/-! both minors are one determinant -/
def ev (p : Nat → Fin 5) (w : Fin 5) : Fin 5 := p 0 + w * (p 1 + w * (p 2 + w * (p 3 + w * p 4)))
def lapM (h : Nat → Fin 5) (C : Nat) : Nat → Fin 5 × Fin 5
  | 0 => (0, 1)
  | i + 1 => if C / 2 ^ i % 2 = 1 then ((lapM h C i).1 + (lapM h C i).2 * h i, - (lapM h C i).2) else lapM h C i
def dtm (M : Nat → Nat → Fin 5) : Nat → Nat → Nat → Fin 5
  | 0, _, _ => 1
  | f + 1, R, C => (lapM (fun i => M (lo R) i * dtm M f (rs R) (C - 2 ^ i)) C 4).1
def prd (M : Nat → Nat → Fin 5) (code R : Nat) : Nat → Fin 5
  | 0 => if sws code R % 2 = 1 then 4 else 1
  | i + 1 => if R / 2 ^ i % 2 = 1 then prd M code R i * M i (cd code i) else prd M code R i
def lbs (M : Nat → Nat → Fin 5) (R C : Nat) : Nat → Fin 5
  | 0 => 0
  | code + 1 => if wyl code R C 4 0 = true then lbs M R C code + prd M code R 4 else lbs M R C code
def wayl (R C n : Nat) : List (Bool × Nat × Nat × Nat × Nat) := ((List.range n).filter (fun code => wyl code R C 4 0)).map (fun code => (sws code R % 2 == 1, cd code 0, cd code 1, cd code 2, cd code 3))
def prt (M : Nat → Nat → Fin 5) (R : Nat) (t : Bool × Nat × Nat × Nat × Nat) : Fin 5 :=
  (if t.1 then 4 else 1) * (if R / 2 ^ 0 % 2 = 1 then M 0 t.2.1 else 1) * (if R / 2 ^ 1 % 2 = 1 then M 1 t.2.2.1 else 1) * (if R / 2 ^ 2 % 2 = 1 then M 2 t.2.2.2.1 else 1) * (if R / 2 ^ 3 % 2 = 1 then M 3 t.2.2.2.2 else 1)
def sml (h : Bool × Nat × Nat × Nat × Nat → Fin 5) : List (Bool × Nat × Nat × Nat × Nat) → Fin 5
  | [] => 0
  | t :: l => h t + sml h l
theorem sml_app (h : Bool × Nat × Nat × Nat × Nat → Fin 5) (l l' : List (Bool × Nat × Nat × Nat × Nat)) : sml h (l ++ l') = sml h l + sml h l' := by
  induction l with
  | nil => show sml h l' = 0 + sml h l'; grind
  | cons t l ih => show h t + sml h (l ++ l') = h t + sml h l + sml h l'; rw [ih]; grind
theorem prd_t (M : Nat → Nat → Fin 5) (code R : Nat) : prd M code R 4 = prt M R (sws code R % 2 == 1, cd code 0, cd code 1, cd code 2, cd code 3) := by
  unfold prt
  simp only [prd, beq_iff_eq]
  split <;> split <;> split <;> split <;> split <;> grind
theorem lbs_l (M : Nat → Nat → Fin 5) (R C n : Nat) : lbs M R C n = sml (prt M R) (wayl R C n) := by
  induction n with
  | zero => rfl
  | succ n ih =>
    unfold wayl
    rw [List.range_succ, List.filter_append, List.map_append, sml_app]
    show (if wyl n R C 4 0 = true then lbs M R C n + prd M n R 4 else lbs M R C n) = _
    by_cases e : wyl n R C 4 0 = true
    · rw [if_pos e, ih, prd_t]
      have : List.filter (fun code => wyl code R C 4 0) [n] = [n] := by simp [e]
      rw [this]
      show _ = sml (prt M R) (wayl R C n) + (prt M R _ + 0)
      grind
    · rw [if_neg e, ih]
      have : List.filter (fun code => wyl code R C 4 0) [n] = [] := by simp [e]
      rw [this]
      show _ = sml (prt M R) (wayl R C n) + 0
      grind
theorem lb_0_0 (M : Nat → Nat → Fin 5) : lbs M 0 0 256 = dtm M 0 0 0 := by
  have e : wayl 0 0 256 = [(false,0,0,0,0)] := by decide +kernel
  rw [lbs_l, e]
  simp [sml, prt, dtm, lapM, lo, rs]
theorem lb_1_1 (M : Nat → Nat → Fin 5) : lbs M 1 1 256 = dtm M 1 1 1 := by
  have e : wayl 1 1 256 = [(false,0,0,0,0)] := by decide +kernel
  rw [lbs_l, e]
  simp [sml, prt, dtm, lapM, lo, rs]
  grind
theorem lb_1_2 (M : Nat → Nat → Fin 5) : lbs M 1 2 256 = dtm M 1 1 2 := by
  have e : wayl 1 2 256 = [(false,1,0,0,0)] := by decide +kernel
  rw [lbs_l, e]
  simp [sml, prt, dtm, lapM, lo, rs]
  grind
theorem lb_1_4 (M : Nat → Nat → Fin 5) : lbs M 1 4 256 = dtm M 1 1 4 := by
  have e : wayl 1 4 256 = [(false,2,0,0,0)] := by decide +kernel
  rw [lbs_l, e]
  simp [sml, prt, dtm, lapM, lo, rs]
  grind
theorem lb_1_8 (M : Nat → Nat → Fin 5) : lbs M 1 8 256 = dtm M 1 1 8 := by
  have e : wayl 1 8 256 = [(false,3,0,0,0)] := by decide +kernel
  rw [lbs_l, e]
  simp [sml, prt, dtm, lapM, lo, rs]
  grind
theorem lb_2_1 (M : Nat → Nat → Fin 5) : lbs M 2 1 256 = dtm M 1 2 1 := by
  have e : wayl 2 1 256 = [(false,0,0,0,0)] := by decide +kernel
  rw [lbs_l, e]
  simp [sml, prt, dtm, lapM, lo, rs]
  grind
theorem lb_2_2 (M : Nat → Nat → Fin 5) : lbs M 2 2 256 = dtm M 1 2 2 := by
  have e : wayl 2 2 256 = [(false,0,1,0,0)] := by decide +kernel
  rw [lbs_l, e]
  simp [sml, prt, dtm, lapM, lo, rs]
  grind
theorem lb_2_4 (M : Nat → Nat → Fin 5) : lbs M 2 4 256 = dtm M 1 2 4 := by
  have e : wayl 2 4 256 = [(false,0,2,0,0)] := by decide +kernel
  rw [lbs_l, e]
  simp [sml, prt, dtm, lapM, lo, rs]
  grind
theorem lb_2_8 (M : Nat → Nat → Fin 5) : lbs M 2 8 256 = dtm M 1 2 8 := by
  have e : wayl 2 8 256 = [(false,0,3,0,0)] := by decide +kernel
  rw [lbs_l, e]
  simp [sml, prt, dtm, lapM, lo, rs]
  grind
theorem lb_3_3 (M : Nat → Nat → Fin 5) : lbs M 3 3 256 = dtm M 2 3 3 := by
  have e : wayl 3 3 256 = [(true,1,0,0,0),(false,0,1,0,0)] := by decide +kernel
  rw [lbs_l, e]
  simp [sml, prt, dtm, lapM, lo, rs]
  grind
theorem lb_3_5 (M : Nat → Nat → Fin 5) : lbs M 3 5 256 = dtm M 2 3 5 := by
  have e : wayl 3 5 256 = [(true,2,0,0,0),(false,0,2,0,0)] := by decide +kernel
  rw [lbs_l, e]
  simp [sml, prt, dtm, lapM, lo, rs]
  grind
theorem lb_3_6 (M : Nat → Nat → Fin 5) : lbs M 3 6 256 = dtm M 2 3 6 := by
  have e : wayl 3 6 256 = [(true,2,1,0,0),(false,1,2,0,0)] := by decide +kernel
  rw [lbs_l, e]
  simp [sml, prt, dtm, lapM, lo, rs]
  grind
theorem lb_3_9 (M : Nat → Nat → Fin 5) : lbs M 3 9 256 = dtm M 2 3 9 := by
  have e : wayl 3 9 256 = [(true,3,0,0,0),(false,0,3,0,0)] := by decide +kernel
  rw [lbs_l, e]
  simp [sml, prt, dtm, lapM, lo, rs]
  grind
theorem lb_3_10 (M : Nat → Nat → Fin 5) : lbs M 3 10 256 = dtm M 2 3 10 := by
  have e : wayl 3 10 256 = [(true,3,1,0,0),(false,1,3,0,0)] := by decide +kernel
  rw [lbs_l, e]
  simp [sml, prt, dtm, lapM, lo, rs]
  grind
theorem lb_3_12 (M : Nat → Nat → Fin 5) : lbs M 3 12 256 = dtm M 2 3 12 := by
  have e : wayl 3 12 256 = [(true,3,2,0,0),(false,2,3,0,0)] := by decide +kernel
  rw [lbs_l, e]
  simp [sml, prt, dtm, lapM, lo, rs]
  grind
theorem lb_4_1 (M : Nat → Nat → Fin 5) : lbs M 4 1 256 = dtm M 1 4 1 := by
  have e : wayl 4 1 256 = [(false,0,0,0,0)] := by decide +kernel
  rw [lbs_l, e]
  simp [sml, prt, dtm, lapM, lo, rs]
  grind
theorem lb_4_2 (M : Nat → Nat → Fin 5) : lbs M 4 2 256 = dtm M 1 4 2 := by
  have e : wayl 4 2 256 = [(false,0,0,1,0)] := by decide +kernel
  rw [lbs_l, e]
  simp [sml, prt, dtm, lapM, lo, rs]
  grind
theorem lb_4_4 (M : Nat → Nat → Fin 5) : lbs M 4 4 256 = dtm M 1 4 4 := by
  have e : wayl 4 4 256 = [(false,0,0,2,0)] := by decide +kernel
  rw [lbs_l, e]
  simp [sml, prt, dtm, lapM, lo, rs]
  grind
theorem lb_4_8 (M : Nat → Nat → Fin 5) : lbs M 4 8 256 = dtm M 1 4 8 := by
  have e : wayl 4 8 256 = [(false,0,0,3,0)] := by decide +kernel
  rw [lbs_l, e]
  simp [sml, prt, dtm, lapM, lo, rs]
  grind
theorem lb_5_3 (M : Nat → Nat → Fin 5) : lbs M 5 3 256 = dtm M 2 5 3 := by
  have e : wayl 5 3 256 = [(true,1,0,0,0),(false,0,0,1,0)] := by decide +kernel
  rw [lbs_l, e]
  simp [sml, prt, dtm, lapM, lo, rs]
  grind
theorem lb_5_5 (M : Nat → Nat → Fin 5) : lbs M 5 5 256 = dtm M 2 5 5 := by
  have e : wayl 5 5 256 = [(true,2,0,0,0),(false,0,0,2,0)] := by decide +kernel
  rw [lbs_l, e]
  simp [sml, prt, dtm, lapM, lo, rs]
  grind
theorem lb_5_6 (M : Nat → Nat → Fin 5) : lbs M 5 6 256 = dtm M 2 5 6 := by
  have e : wayl 5 6 256 = [(true,2,0,1,0),(false,1,0,2,0)] := by decide +kernel
  rw [lbs_l, e]
  simp [sml, prt, dtm, lapM, lo, rs]
  grind
theorem lb_5_9 (M : Nat → Nat → Fin 5) : lbs M 5 9 256 = dtm M 2 5 9 := by
  have e : wayl 5 9 256 = [(true,3,0,0,0),(false,0,0,3,0)] := by decide +kernel
  rw [lbs_l, e]
  simp [sml, prt, dtm, lapM, lo, rs]
  grind
theorem lb_5_10 (M : Nat → Nat → Fin 5) : lbs M 5 10 256 = dtm M 2 5 10 := by
  have e : wayl 5 10 256 = [(true,3,0,1,0),(false,1,0,3,0)] := by decide +kernel
  rw [lbs_l, e]
  simp [sml, prt, dtm, lapM, lo, rs]
  grind
theorem lb_5_12 (M : Nat → Nat → Fin 5) : lbs M 5 12 256 = dtm M 2 5 12 := by
  have e : wayl 5 12 256 = [(true,3,0,2,0),(false,2,0,3,0)] := by decide +kernel
  rw [lbs_l, e]
  simp [sml, prt, dtm, lapM, lo, rs]
  grind
theorem lb_6_3 (M : Nat → Nat → Fin 5) : lbs M 6 3 256 = dtm M 2 6 3 := by
  have e : wayl 6 3 256 = [(true,0,1,0,0),(false,0,0,1,0)] := by decide +kernel
  rw [lbs_l, e]
  simp [sml, prt, dtm, lapM, lo, rs]
  grind
theorem lb_6_5 (M : Nat → Nat → Fin 5) : lbs M 6 5 256 = dtm M 2 6 5 := by
  have e : wayl 6 5 256 = [(true,0,2,0,0),(false,0,0,2,0)] := by decide +kernel
  rw [lbs_l, e]
  simp [sml, prt, dtm, lapM, lo, rs]
  grind
theorem lb_6_6 (M : Nat → Nat → Fin 5) : lbs M 6 6 256 = dtm M 2 6 6 := by
  have e : wayl 6 6 256 = [(true,0,2,1,0),(false,0,1,2,0)] := by decide +kernel
  rw [lbs_l, e]
  simp [sml, prt, dtm, lapM, lo, rs]
  grind
theorem lb_6_9 (M : Nat → Nat → Fin 5) : lbs M 6 9 256 = dtm M 2 6 9 := by
  have e : wayl 6 9 256 = [(true,0,3,0,0),(false,0,0,3,0)] := by decide +kernel
  rw [lbs_l, e]
  simp [sml, prt, dtm, lapM, lo, rs]
  grind
theorem lb_6_10 (M : Nat → Nat → Fin 5) : lbs M 6 10 256 = dtm M 2 6 10 := by
  have e : wayl 6 10 256 = [(true,0,3,1,0),(false,0,1,3,0)] := by decide +kernel
  rw [lbs_l, e]
  simp [sml, prt, dtm, lapM, lo, rs]
  grind
theorem lb_6_12 (M : Nat → Nat → Fin 5) : lbs M 6 12 256 = dtm M 2 6 12 := by
  have e : wayl 6 12 256 = [(true,0,3,2,0),(false,0,2,3,0)] := by decide +kernel
  rw [lbs_l, e]
  simp [sml, prt, dtm, lapM, lo, rs]
  grind
theorem lb_7_7 (M : Nat → Nat → Fin 5) : lbs M 7 7 256 = dtm M 3 7 7 := by
  have e : wayl 7 7 256 = [(true,2,1,0,0),(false,1,2,0,0),(false,2,0,1,0),(true,0,2,1,0),(true,1,0,2,0),(false,0,1,2,0)] := by decide +kernel
  rw [lbs_l, e]
  simp [sml, prt, dtm, lapM, lo, rs]
  grind
theorem lb_7_11 (M : Nat → Nat → Fin 5) : lbs M 7 11 256 = dtm M 3 7 11 := by
  have e : wayl 7 11 256 = [(true,3,1,0,0),(false,1,3,0,0),(false,3,0,1,0),(true,0,3,1,0),(true,1,0,3,0),(false,0,1,3,0)] := by decide +kernel
  rw [lbs_l, e]
  simp [sml, prt, dtm, lapM, lo, rs]
  grind
theorem lb_7_13 (M : Nat → Nat → Fin 5) : lbs M 7 13 256 = dtm M 3 7 13 := by
  have e : wayl 7 13 256 = [(true,3,2,0,0),(false,2,3,0,0),(false,3,0,2,0),(true,0,3,2,0),(true,2,0,3,0),(false,0,2,3,0)] := by decide +kernel
  rw [lbs_l, e]
  simp [sml, prt, dtm, lapM, lo, rs]
  grind
theorem lb_7_14 (M : Nat → Nat → Fin 5) : lbs M 7 14 256 = dtm M 3 7 14 := by
  have e : wayl 7 14 256 = [(true,3,2,1,0),(false,2,3,1,0),(false,3,1,2,0),(true,1,3,2,0),(true,2,1,3,0),(false,1,2,3,0)] := by decide +kernel
  rw [lbs_l, e]
  simp [sml, prt, dtm, lapM, lo, rs]
  grind
theorem lb_8_1 (M : Nat → Nat → Fin 5) : lbs M 8 1 256 = dtm M 1 8 1 := by
  have e : wayl 8 1 256 = [(false,0,0,0,0)] := by decide +kernel
  rw [lbs_l, e]
  simp [sml, prt, dtm, lapM, lo, rs]
  grind
theorem lb_8_2 (M : Nat → Nat → Fin 5) : lbs M 8 2 256 = dtm M 1 8 2 := by
  have e : wayl 8 2 256 = [(false,0,0,0,1)] := by decide +kernel
  rw [lbs_l, e]
  simp [sml, prt, dtm, lapM, lo, rs]
  grind
theorem lb_8_4 (M : Nat → Nat → Fin 5) : lbs M 8 4 256 = dtm M 1 8 4 := by
  have e : wayl 8 4 256 = [(false,0,0,0,2)] := by decide +kernel
  rw [lbs_l, e]
  simp [sml, prt, dtm, lapM, lo, rs]
  grind
theorem lb_8_8 (M : Nat → Nat → Fin 5) : lbs M 8 8 256 = dtm M 1 8 8 := by
  have e : wayl 8 8 256 = [(false,0,0,0,3)] := by decide +kernel
  rw [lbs_l, e]
  simp [sml, prt, dtm, lapM, lo, rs]
  grind
theorem lb_9_3 (M : Nat → Nat → Fin 5) : lbs M 9 3 256 = dtm M 2 9 3 := by
  have e : wayl 9 3 256 = [(true,1,0,0,0),(false,0,0,0,1)] := by decide +kernel
  rw [lbs_l, e]
  simp [sml, prt, dtm, lapM, lo, rs]
  grind
theorem lb_9_5 (M : Nat → Nat → Fin 5) : lbs M 9 5 256 = dtm M 2 9 5 := by
  have e : wayl 9 5 256 = [(true,2,0,0,0),(false,0,0,0,2)] := by decide +kernel
  rw [lbs_l, e]
  simp [sml, prt, dtm, lapM, lo, rs]
  grind
theorem lb_9_6 (M : Nat → Nat → Fin 5) : lbs M 9 6 256 = dtm M 2 9 6 := by
  have e : wayl 9 6 256 = [(true,2,0,0,1),(false,1,0,0,2)] := by decide +kernel
  rw [lbs_l, e]
  simp [sml, prt, dtm, lapM, lo, rs]
  grind
theorem lb_9_9 (M : Nat → Nat → Fin 5) : lbs M 9 9 256 = dtm M 2 9 9 := by
  have e : wayl 9 9 256 = [(true,3,0,0,0),(false,0,0,0,3)] := by decide +kernel
  rw [lbs_l, e]
  simp [sml, prt, dtm, lapM, lo, rs]
  grind
theorem lb_9_10 (M : Nat → Nat → Fin 5) : lbs M 9 10 256 = dtm M 2 9 10 := by
  have e : wayl 9 10 256 = [(true,3,0,0,1),(false,1,0,0,3)] := by decide +kernel
  rw [lbs_l, e]
  simp [sml, prt, dtm, lapM, lo, rs]
  grind
theorem lb_9_12 (M : Nat → Nat → Fin 5) : lbs M 9 12 256 = dtm M 2 9 12 := by
  have e : wayl 9 12 256 = [(true,3,0,0,2),(false,2,0,0,3)] := by decide +kernel
  rw [lbs_l, e]
  simp [sml, prt, dtm, lapM, lo, rs]
  grind
theorem lb_10_3 (M : Nat → Nat → Fin 5) : lbs M 10 3 256 = dtm M 2 10 3 := by
  have e : wayl 10 3 256 = [(true,0,1,0,0),(false,0,0,0,1)] := by decide +kernel
  rw [lbs_l, e]
  simp [sml, prt, dtm, lapM, lo, rs]
  grind
theorem lb_10_5 (M : Nat → Nat → Fin 5) : lbs M 10 5 256 = dtm M 2 10 5 := by
  have e : wayl 10 5 256 = [(true,0,2,0,0),(false,0,0,0,2)] := by decide +kernel
  rw [lbs_l, e]
  simp [sml, prt, dtm, lapM, lo, rs]
  grind
theorem lb_10_6 (M : Nat → Nat → Fin 5) : lbs M 10 6 256 = dtm M 2 10 6 := by
  have e : wayl 10 6 256 = [(true,0,2,0,1),(false,0,1,0,2)] := by decide +kernel
  rw [lbs_l, e]
  simp [sml, prt, dtm, lapM, lo, rs]
  grind
theorem lb_10_9 (M : Nat → Nat → Fin 5) : lbs M 10 9 256 = dtm M 2 10 9 := by
  have e : wayl 10 9 256 = [(true,0,3,0,0),(false,0,0,0,3)] := by decide +kernel
  rw [lbs_l, e]
  simp [sml, prt, dtm, lapM, lo, rs]
  grind
theorem lb_10_10 (M : Nat → Nat → Fin 5) : lbs M 10 10 256 = dtm M 2 10 10 := by
  have e : wayl 10 10 256 = [(true,0,3,0,1),(false,0,1,0,3)] := by decide +kernel
  rw [lbs_l, e]
  simp [sml, prt, dtm, lapM, lo, rs]
  grind
theorem lb_10_12 (M : Nat → Nat → Fin 5) : lbs M 10 12 256 = dtm M 2 10 12 := by
  have e : wayl 10 12 256 = [(true,0,3,0,2),(false,0,2,0,3)] := by decide +kernel
  rw [lbs_l, e]
  simp [sml, prt, dtm, lapM, lo, rs]
  grind
theorem lb_11_7 (M : Nat → Nat → Fin 5) : lbs M 11 7 256 = dtm M 3 11 7 := by
  have e : wayl 11 7 256 = [(true,2,1,0,0),(false,1,2,0,0),(false,2,0,0,1),(true,0,2,0,1),(true,1,0,0,2),(false,0,1,0,2)] := by decide +kernel
  rw [lbs_l, e]
  simp [sml, prt, dtm, lapM, lo, rs]
  grind
theorem lb_11_11 (M : Nat → Nat → Fin 5) : lbs M 11 11 256 = dtm M 3 11 11 := by
  have e : wayl 11 11 256 = [(true,3,1,0,0),(false,1,3,0,0),(false,3,0,0,1),(true,0,3,0,1),(true,1,0,0,3),(false,0,1,0,3)] := by decide +kernel
  rw [lbs_l, e]
  simp [sml, prt, dtm, lapM, lo, rs]
  grind
theorem lb_11_13 (M : Nat → Nat → Fin 5) : lbs M 11 13 256 = dtm M 3 11 13 := by
  have e : wayl 11 13 256 = [(true,3,2,0,0),(false,2,3,0,0),(false,3,0,0,2),(true,0,3,0,2),(true,2,0,0,3),(false,0,2,0,3)] := by decide +kernel
  rw [lbs_l, e]
  simp [sml, prt, dtm, lapM, lo, rs]
  grind
theorem lb_11_14 (M : Nat → Nat → Fin 5) : lbs M 11 14 256 = dtm M 3 11 14 := by
  have e : wayl 11 14 256 = [(true,3,2,0,1),(false,2,3,0,1),(false,3,1,0,2),(true,1,3,0,2),(true,2,1,0,3),(false,1,2,0,3)] := by decide +kernel
  rw [lbs_l, e]
  simp [sml, prt, dtm, lapM, lo, rs]
  grind
theorem lb_12_3 (M : Nat → Nat → Fin 5) : lbs M 12 3 256 = dtm M 2 12 3 := by
  have e : wayl 12 3 256 = [(true,0,0,1,0),(false,0,0,0,1)] := by decide +kernel
  rw [lbs_l, e]
  simp [sml, prt, dtm, lapM, lo, rs]
  grind
theorem lb_12_5 (M : Nat → Nat → Fin 5) : lbs M 12 5 256 = dtm M 2 12 5 := by
  have e : wayl 12 5 256 = [(true,0,0,2,0),(false,0,0,0,2)] := by decide +kernel
  rw [lbs_l, e]
  simp [sml, prt, dtm, lapM, lo, rs]
  grind
theorem lb_12_6 (M : Nat → Nat → Fin 5) : lbs M 12 6 256 = dtm M 2 12 6 := by
  have e : wayl 12 6 256 = [(true,0,0,2,1),(false,0,0,1,2)] := by decide +kernel
  rw [lbs_l, e]
  simp [sml, prt, dtm, lapM, lo, rs]
  grind
theorem lb_12_9 (M : Nat → Nat → Fin 5) : lbs M 12 9 256 = dtm M 2 12 9 := by
  have e : wayl 12 9 256 = [(true,0,0,3,0),(false,0,0,0,3)] := by decide +kernel
  rw [lbs_l, e]
  simp [sml, prt, dtm, lapM, lo, rs]
  grind
theorem lb_12_10 (M : Nat → Nat → Fin 5) : lbs M 12 10 256 = dtm M 2 12 10 := by
  have e : wayl 12 10 256 = [(true,0,0,3,1),(false,0,0,1,3)] := by decide +kernel
  rw [lbs_l, e]
  simp [sml, prt, dtm, lapM, lo, rs]
  grind
theorem lb_12_12 (M : Nat → Nat → Fin 5) : lbs M 12 12 256 = dtm M 2 12 12 := by
  have e : wayl 12 12 256 = [(true,0,0,3,2),(false,0,0,2,3)] := by decide +kernel
  rw [lbs_l, e]
  simp [sml, prt, dtm, lapM, lo, rs]
  grind
theorem lb_13_7 (M : Nat → Nat → Fin 5) : lbs M 13 7 256 = dtm M 3 13 7 := by
  have e : wayl 13 7 256 = [(true,2,0,1,0),(false,1,0,2,0),(false,2,0,0,1),(true,0,0,2,1),(true,1,0,0,2),(false,0,0,1,2)] := by decide +kernel
  rw [lbs_l, e]
  simp [sml, prt, dtm, lapM, lo, rs]
  grind
theorem lb_13_11 (M : Nat → Nat → Fin 5) : lbs M 13 11 256 = dtm M 3 13 11 := by
  have e : wayl 13 11 256 = [(true,3,0,1,0),(false,1,0,3,0),(false,3,0,0,1),(true,0,0,3,1),(true,1,0,0,3),(false,0,0,1,3)] := by decide +kernel
  rw [lbs_l, e]
  simp [sml, prt, dtm, lapM, lo, rs]
  grind
theorem lb_13_13 (M : Nat → Nat → Fin 5) : lbs M 13 13 256 = dtm M 3 13 13 := by
  have e : wayl 13 13 256 = [(true,3,0,2,0),(false,2,0,3,0),(false,3,0,0,2),(true,0,0,3,2),(true,2,0,0,3),(false,0,0,2,3)] := by decide +kernel
  rw [lbs_l, e]
  simp [sml, prt, dtm, lapM, lo, rs]
  grind
theorem lb_13_14 (M : Nat → Nat → Fin 5) : lbs M 13 14 256 = dtm M 3 13 14 := by
  have e : wayl 13 14 256 = [(true,3,0,2,1),(false,2,0,3,1),(false,3,0,1,2),(true,1,0,3,2),(true,2,0,1,3),(false,1,0,2,3)] := by decide +kernel
  rw [lbs_l, e]
  simp [sml, prt, dtm, lapM, lo, rs]
  grind
theorem lb_14_7 (M : Nat → Nat → Fin 5) : lbs M 14 7 256 = dtm M 3 14 7 := by
  have e : wayl 14 7 256 = [(true,0,2,1,0),(false,0,1,2,0),(false,0,2,0,1),(true,0,0,2,1),(true,0,1,0,2),(false,0,0,1,2)] := by decide +kernel
  rw [lbs_l, e]
  simp [sml, prt, dtm, lapM, lo, rs]
  grind
theorem lb_14_11 (M : Nat → Nat → Fin 5) : lbs M 14 11 256 = dtm M 3 14 11 := by
  have e : wayl 14 11 256 = [(true,0,3,1,0),(false,0,1,3,0),(false,0,3,0,1),(true,0,0,3,1),(true,0,1,0,3),(false,0,0,1,3)] := by decide +kernel
  rw [lbs_l, e]
  simp [sml, prt, dtm, lapM, lo, rs]
  grind
theorem lb_14_13 (M : Nat → Nat → Fin 5) : lbs M 14 13 256 = dtm M 3 14 13 := by
  have e : wayl 14 13 256 = [(true,0,3,2,0),(false,0,2,3,0),(false,0,3,0,2),(true,0,0,3,2),(true,0,2,0,3),(false,0,0,2,3)] := by decide +kernel
  rw [lbs_l, e]
  simp [sml, prt, dtm, lapM, lo, rs]
  grind
theorem lb_14_14 (M : Nat → Nat → Fin 5) : lbs M 14 14 256 = dtm M 3 14 14 := by
  have e : wayl 14 14 256 = [(true,0,3,2,1),(false,0,2,3,1),(false,0,3,1,2),(true,0,1,3,2),(true,0,2,1,3),(false,0,1,2,3)] := by decide +kernel
  rw [lbs_l, e]
  simp [sml, prt, dtm, lapM, lo, rs]
  grind
theorem lb_15_15 (M : Nat → Nat → Fin 5) : lbs M 15 15 256 = dtm M 4 15 15 := by
  have e : wayl 15 15 256 = [(false,3,2,1,0),(true,2,3,1,0),(true,3,1,2,0),(false,1,3,2,0),(false,2,1,3,0),(true,1,2,3,0),(true,3,2,0,1),(false,2,3,0,1),(false,3,0,2,1),(true,0,3,2,1),(true,2,0,3,1),(false,0,2,3,1),(false,3,1,0,2),(true,1,3,0,2),(true,3,0,1,2),(false,0,3,1,2),(false,1,0,3,2),(true,0,1,3,2),(true,2,1,0,3),(false,1,2,0,3),(false,2,0,1,3),(true,0,2,1,3),(true,1,0,2,3),(false,0,1,2,3)] := by decide +kernel
  rw [lbs_l, e]
  simp [sml, prt, dtm, lapM, lo, rs]
  grind
theorem lbr_0 (M : Nat → Nat → Fin 5) : ∀ C, C < 16 → pc 0 = pc C → lbs M 0 C 256 = dtm M (pc 0) 0 C := by
  intro C hC h
  match C, hC, h with
  | 0, _, _ => exact lb_0_0 M
  | 1, _, h => exact absurd h (by decide)
  | 2, _, h => exact absurd h (by decide)
  | 3, _, h => exact absurd h (by decide)
  | 4, _, h => exact absurd h (by decide)
  | 5, _, h => exact absurd h (by decide)
  | 6, _, h => exact absurd h (by decide)
  | 7, _, h => exact absurd h (by decide)
  | 8, _, h => exact absurd h (by decide)
  | 9, _, h => exact absurd h (by decide)
  | 10, _, h => exact absurd h (by decide)
  | 11, _, h => exact absurd h (by decide)
  | 12, _, h => exact absurd h (by decide)
  | 13, _, h => exact absurd h (by decide)
  | 14, _, h => exact absurd h (by decide)
  | 15, _, h => exact absurd h (by decide)
  | (n + 16), hC, _ => exact absurd hC (by omega)
theorem lbr_1 (M : Nat → Nat → Fin 5) : ∀ C, C < 16 → pc 1 = pc C → lbs M 1 C 256 = dtm M (pc 1) 1 C := by
  intro C hC h
  match C, hC, h with
  | 0, _, h => exact absurd h (by decide)
  | 1, _, _ => exact lb_1_1 M
  | 2, _, _ => exact lb_1_2 M
  | 3, _, h => exact absurd h (by decide)
  | 4, _, _ => exact lb_1_4 M
  | 5, _, h => exact absurd h (by decide)
  | 6, _, h => exact absurd h (by decide)
  | 7, _, h => exact absurd h (by decide)
  | 8, _, _ => exact lb_1_8 M
  | 9, _, h => exact absurd h (by decide)
  | 10, _, h => exact absurd h (by decide)
  | 11, _, h => exact absurd h (by decide)
  | 12, _, h => exact absurd h (by decide)
  | 13, _, h => exact absurd h (by decide)
  | 14, _, h => exact absurd h (by decide)
  | 15, _, h => exact absurd h (by decide)
  | (n + 16), hC, _ => exact absurd hC (by omega)
theorem lbr_2 (M : Nat → Nat → Fin 5) : ∀ C, C < 16 → pc 2 = pc C → lbs M 2 C 256 = dtm M (pc 2) 2 C := by
  intro C hC h
  match C, hC, h with
  | 0, _, h => exact absurd h (by decide)
  | 1, _, _ => exact lb_2_1 M
  | 2, _, _ => exact lb_2_2 M
  | 3, _, h => exact absurd h (by decide)
  | 4, _, _ => exact lb_2_4 M
  | 5, _, h => exact absurd h (by decide)
  | 6, _, h => exact absurd h (by decide)
  | 7, _, h => exact absurd h (by decide)
  | 8, _, _ => exact lb_2_8 M
  | 9, _, h => exact absurd h (by decide)
  | 10, _, h => exact absurd h (by decide)
  | 11, _, h => exact absurd h (by decide)
  | 12, _, h => exact absurd h (by decide)
  | 13, _, h => exact absurd h (by decide)
  | 14, _, h => exact absurd h (by decide)
  | 15, _, h => exact absurd h (by decide)
  | (n + 16), hC, _ => exact absurd hC (by omega)
theorem lbr_3 (M : Nat → Nat → Fin 5) : ∀ C, C < 16 → pc 3 = pc C → lbs M 3 C 256 = dtm M (pc 3) 3 C := by
  intro C hC h
  match C, hC, h with
  | 0, _, h => exact absurd h (by decide)
  | 1, _, h => exact absurd h (by decide)
  | 2, _, h => exact absurd h (by decide)
  | 3, _, _ => exact lb_3_3 M
  | 4, _, h => exact absurd h (by decide)
  | 5, _, _ => exact lb_3_5 M
  | 6, _, _ => exact lb_3_6 M
  | 7, _, h => exact absurd h (by decide)
  | 8, _, h => exact absurd h (by decide)
  | 9, _, _ => exact lb_3_9 M
  | 10, _, _ => exact lb_3_10 M
  | 11, _, h => exact absurd h (by decide)
  | 12, _, _ => exact lb_3_12 M
  | 13, _, h => exact absurd h (by decide)
  | 14, _, h => exact absurd h (by decide)
  | 15, _, h => exact absurd h (by decide)
  | (n + 16), hC, _ => exact absurd hC (by omega)
theorem lbr_4 (M : Nat → Nat → Fin 5) : ∀ C, C < 16 → pc 4 = pc C → lbs M 4 C 256 = dtm M (pc 4) 4 C := by
  intro C hC h
  match C, hC, h with
  | 0, _, h => exact absurd h (by decide)
  | 1, _, _ => exact lb_4_1 M
  | 2, _, _ => exact lb_4_2 M
  | 3, _, h => exact absurd h (by decide)
  | 4, _, _ => exact lb_4_4 M
  | 5, _, h => exact absurd h (by decide)
  | 6, _, h => exact absurd h (by decide)
  | 7, _, h => exact absurd h (by decide)
  | 8, _, _ => exact lb_4_8 M
  | 9, _, h => exact absurd h (by decide)
  | 10, _, h => exact absurd h (by decide)
  | 11, _, h => exact absurd h (by decide)
  | 12, _, h => exact absurd h (by decide)
  | 13, _, h => exact absurd h (by decide)
  | 14, _, h => exact absurd h (by decide)
  | 15, _, h => exact absurd h (by decide)
  | (n + 16), hC, _ => exact absurd hC (by omega)
theorem lbr_5 (M : Nat → Nat → Fin 5) : ∀ C, C < 16 → pc 5 = pc C → lbs M 5 C 256 = dtm M (pc 5) 5 C := by
  intro C hC h
  match C, hC, h with
  | 0, _, h => exact absurd h (by decide)
  | 1, _, h => exact absurd h (by decide)
  | 2, _, h => exact absurd h (by decide)
  | 3, _, _ => exact lb_5_3 M
  | 4, _, h => exact absurd h (by decide)
  | 5, _, _ => exact lb_5_5 M
  | 6, _, _ => exact lb_5_6 M
  | 7, _, h => exact absurd h (by decide)
  | 8, _, h => exact absurd h (by decide)
  | 9, _, _ => exact lb_5_9 M
  | 10, _, _ => exact lb_5_10 M
  | 11, _, h => exact absurd h (by decide)
  | 12, _, _ => exact lb_5_12 M
  | 13, _, h => exact absurd h (by decide)
  | 14, _, h => exact absurd h (by decide)
  | 15, _, h => exact absurd h (by decide)
  | (n + 16), hC, _ => exact absurd hC (by omega)
theorem lbr_6 (M : Nat → Nat → Fin 5) : ∀ C, C < 16 → pc 6 = pc C → lbs M 6 C 256 = dtm M (pc 6) 6 C := by
  intro C hC h
  match C, hC, h with
  | 0, _, h => exact absurd h (by decide)
  | 1, _, h => exact absurd h (by decide)
  | 2, _, h => exact absurd h (by decide)
  | 3, _, _ => exact lb_6_3 M
  | 4, _, h => exact absurd h (by decide)
  | 5, _, _ => exact lb_6_5 M
  | 6, _, _ => exact lb_6_6 M
  | 7, _, h => exact absurd h (by decide)
  | 8, _, h => exact absurd h (by decide)
  | 9, _, _ => exact lb_6_9 M
  | 10, _, _ => exact lb_6_10 M
  | 11, _, h => exact absurd h (by decide)
  | 12, _, _ => exact lb_6_12 M
  | 13, _, h => exact absurd h (by decide)
  | 14, _, h => exact absurd h (by decide)
  | 15, _, h => exact absurd h (by decide)
  | (n + 16), hC, _ => exact absurd hC (by omega)
theorem lbr_7 (M : Nat → Nat → Fin 5) : ∀ C, C < 16 → pc 7 = pc C → lbs M 7 C 256 = dtm M (pc 7) 7 C := by
  intro C hC h
  match C, hC, h with
  | 0, _, h => exact absurd h (by decide)
  | 1, _, h => exact absurd h (by decide)
  | 2, _, h => exact absurd h (by decide)
  | 3, _, h => exact absurd h (by decide)
  | 4, _, h => exact absurd h (by decide)
  | 5, _, h => exact absurd h (by decide)
  | 6, _, h => exact absurd h (by decide)
  | 7, _, _ => exact lb_7_7 M
  | 8, _, h => exact absurd h (by decide)
  | 9, _, h => exact absurd h (by decide)
  | 10, _, h => exact absurd h (by decide)
  | 11, _, _ => exact lb_7_11 M
  | 12, _, h => exact absurd h (by decide)
  | 13, _, _ => exact lb_7_13 M
  | 14, _, _ => exact lb_7_14 M
  | 15, _, h => exact absurd h (by decide)
  | (n + 16), hC, _ => exact absurd hC (by omega)
theorem lbr_8 (M : Nat → Nat → Fin 5) : ∀ C, C < 16 → pc 8 = pc C → lbs M 8 C 256 = dtm M (pc 8) 8 C := by
  intro C hC h
  match C, hC, h with
  | 0, _, h => exact absurd h (by decide)
  | 1, _, _ => exact lb_8_1 M
  | 2, _, _ => exact lb_8_2 M
  | 3, _, h => exact absurd h (by decide)
  | 4, _, _ => exact lb_8_4 M
  | 5, _, h => exact absurd h (by decide)
  | 6, _, h => exact absurd h (by decide)
  | 7, _, h => exact absurd h (by decide)
  | 8, _, _ => exact lb_8_8 M
  | 9, _, h => exact absurd h (by decide)
  | 10, _, h => exact absurd h (by decide)
  | 11, _, h => exact absurd h (by decide)
  | 12, _, h => exact absurd h (by decide)
  | 13, _, h => exact absurd h (by decide)
  | 14, _, h => exact absurd h (by decide)
  | 15, _, h => exact absurd h (by decide)
  | (n + 16), hC, _ => exact absurd hC (by omega)
theorem lbr_9 (M : Nat → Nat → Fin 5) : ∀ C, C < 16 → pc 9 = pc C → lbs M 9 C 256 = dtm M (pc 9) 9 C := by
  intro C hC h
  match C, hC, h with
  | 0, _, h => exact absurd h (by decide)
  | 1, _, h => exact absurd h (by decide)
  | 2, _, h => exact absurd h (by decide)
  | 3, _, _ => exact lb_9_3 M
  | 4, _, h => exact absurd h (by decide)
  | 5, _, _ => exact lb_9_5 M
  | 6, _, _ => exact lb_9_6 M
  | 7, _, h => exact absurd h (by decide)
  | 8, _, h => exact absurd h (by decide)
  | 9, _, _ => exact lb_9_9 M
  | 10, _, _ => exact lb_9_10 M
  | 11, _, h => exact absurd h (by decide)
  | 12, _, _ => exact lb_9_12 M
  | 13, _, h => exact absurd h (by decide)
  | 14, _, h => exact absurd h (by decide)
  | 15, _, h => exact absurd h (by decide)
  | (n + 16), hC, _ => exact absurd hC (by omega)
theorem lbr_10 (M : Nat → Nat → Fin 5) : ∀ C, C < 16 → pc 10 = pc C → lbs M 10 C 256 = dtm M (pc 10) 10 C := by
  intro C hC h
  match C, hC, h with
  | 0, _, h => exact absurd h (by decide)
  | 1, _, h => exact absurd h (by decide)
  | 2, _, h => exact absurd h (by decide)
  | 3, _, _ => exact lb_10_3 M
  | 4, _, h => exact absurd h (by decide)
  | 5, _, _ => exact lb_10_5 M
  | 6, _, _ => exact lb_10_6 M
  | 7, _, h => exact absurd h (by decide)
  | 8, _, h => exact absurd h (by decide)
  | 9, _, _ => exact lb_10_9 M
  | 10, _, _ => exact lb_10_10 M
  | 11, _, h => exact absurd h (by decide)
  | 12, _, _ => exact lb_10_12 M
  | 13, _, h => exact absurd h (by decide)
  | 14, _, h => exact absurd h (by decide)
  | 15, _, h => exact absurd h (by decide)
  | (n + 16), hC, _ => exact absurd hC (by omega)
theorem lbr_11 (M : Nat → Nat → Fin 5) : ∀ C, C < 16 → pc 11 = pc C → lbs M 11 C 256 = dtm M (pc 11) 11 C := by
  intro C hC h
  match C, hC, h with
  | 0, _, h => exact absurd h (by decide)
  | 1, _, h => exact absurd h (by decide)
  | 2, _, h => exact absurd h (by decide)
  | 3, _, h => exact absurd h (by decide)
  | 4, _, h => exact absurd h (by decide)
  | 5, _, h => exact absurd h (by decide)
  | 6, _, h => exact absurd h (by decide)
  | 7, _, _ => exact lb_11_7 M
  | 8, _, h => exact absurd h (by decide)
  | 9, _, h => exact absurd h (by decide)
  | 10, _, h => exact absurd h (by decide)
  | 11, _, _ => exact lb_11_11 M
  | 12, _, h => exact absurd h (by decide)
  | 13, _, _ => exact lb_11_13 M
  | 14, _, _ => exact lb_11_14 M
  | 15, _, h => exact absurd h (by decide)
  | (n + 16), hC, _ => exact absurd hC (by omega)
theorem lbr_12 (M : Nat → Nat → Fin 5) : ∀ C, C < 16 → pc 12 = pc C → lbs M 12 C 256 = dtm M (pc 12) 12 C := by
  intro C hC h
  match C, hC, h with
  | 0, _, h => exact absurd h (by decide)
  | 1, _, h => exact absurd h (by decide)
  | 2, _, h => exact absurd h (by decide)
  | 3, _, _ => exact lb_12_3 M
  | 4, _, h => exact absurd h (by decide)
  | 5, _, _ => exact lb_12_5 M
  | 6, _, _ => exact lb_12_6 M
  | 7, _, h => exact absurd h (by decide)
  | 8, _, h => exact absurd h (by decide)
  | 9, _, _ => exact lb_12_9 M
  | 10, _, _ => exact lb_12_10 M
  | 11, _, h => exact absurd h (by decide)
  | 12, _, _ => exact lb_12_12 M
  | 13, _, h => exact absurd h (by decide)
  | 14, _, h => exact absurd h (by decide)
  | 15, _, h => exact absurd h (by decide)
  | (n + 16), hC, _ => exact absurd hC (by omega)
theorem lbr_13 (M : Nat → Nat → Fin 5) : ∀ C, C < 16 → pc 13 = pc C → lbs M 13 C 256 = dtm M (pc 13) 13 C := by
  intro C hC h
  match C, hC, h with
  | 0, _, h => exact absurd h (by decide)
  | 1, _, h => exact absurd h (by decide)
  | 2, _, h => exact absurd h (by decide)
  | 3, _, h => exact absurd h (by decide)
  | 4, _, h => exact absurd h (by decide)
  | 5, _, h => exact absurd h (by decide)
  | 6, _, h => exact absurd h (by decide)
  | 7, _, _ => exact lb_13_7 M
  | 8, _, h => exact absurd h (by decide)
  | 9, _, h => exact absurd h (by decide)
  | 10, _, h => exact absurd h (by decide)
  | 11, _, _ => exact lb_13_11 M
  | 12, _, h => exact absurd h (by decide)
  | 13, _, _ => exact lb_13_13 M
  | 14, _, _ => exact lb_13_14 M
  | 15, _, h => exact absurd h (by decide)
  | (n + 16), hC, _ => exact absurd hC (by omega)
theorem lbr_14 (M : Nat → Nat → Fin 5) : ∀ C, C < 16 → pc 14 = pc C → lbs M 14 C 256 = dtm M (pc 14) 14 C := by
  intro C hC h
  match C, hC, h with
  | 0, _, h => exact absurd h (by decide)
  | 1, _, h => exact absurd h (by decide)
  | 2, _, h => exact absurd h (by decide)
  | 3, _, h => exact absurd h (by decide)
  | 4, _, h => exact absurd h (by decide)
  | 5, _, h => exact absurd h (by decide)
  | 6, _, h => exact absurd h (by decide)
  | 7, _, _ => exact lb_14_7 M
  | 8, _, h => exact absurd h (by decide)
  | 9, _, h => exact absurd h (by decide)
  | 10, _, h => exact absurd h (by decide)
  | 11, _, _ => exact lb_14_11 M
  | 12, _, h => exact absurd h (by decide)
  | 13, _, _ => exact lb_14_13 M
  | 14, _, _ => exact lb_14_14 M
  | 15, _, h => exact absurd h (by decide)
  | (n + 16), hC, _ => exact absurd hC (by omega)
theorem lbr_15 (M : Nat → Nat → Fin 5) : ∀ C, C < 16 → pc 15 = pc C → lbs M 15 C 256 = dtm M (pc 15) 15 C := by
  intro C hC h
  match C, hC, h with
  | 0, _, h => exact absurd h (by decide)
  | 1, _, h => exact absurd h (by decide)
  | 2, _, h => exact absurd h (by decide)
  | 3, _, h => exact absurd h (by decide)
  | 4, _, h => exact absurd h (by decide)
  | 5, _, h => exact absurd h (by decide)
  | 6, _, h => exact absurd h (by decide)
  | 7, _, h => exact absurd h (by decide)
  | 8, _, h => exact absurd h (by decide)
  | 9, _, h => exact absurd h (by decide)
  | 10, _, h => exact absurd h (by decide)
  | 11, _, h => exact absurd h (by decide)
  | 12, _, h => exact absurd h (by decide)
  | 13, _, h => exact absurd h (by decide)
  | 14, _, h => exact absurd h (by decide)
  | 15, _, _ => exact lb_15_15 M
  | (n + 16), hC, _ => exact absurd hC (by omega)
theorem lb_all (M : Nat → Nat → Fin 5) : ∀ R, R < 16 → ∀ C, C < 16 → pc R = pc C → lbs M R C 256 = dtm M (pc R) R C := by
  intro R hR
  match R, hR with
  | 0, _ => exact lbr_0 M
  | 1, _ => exact lbr_1 M
  | 2, _ => exact lbr_2 M
  | 3, _ => exact lbr_3 M
  | 4, _ => exact lbr_4 M
  | 5, _ => exact lbr_5 M
  | 6, _ => exact lbr_6 M
  | 7, _ => exact lbr_7 M
  | 8, _ => exact lbr_8 M
  | 9, _ => exact lbr_9 M
  | 10, _ => exact lbr_10 M
  | 11, _ => exact lbr_11 M
  | 12, _ => exact lbr_12 M
  | 13, _ => exact lbr_13 M
  | 14, _ => exact lbr_14 M
  | 15, _ => exact lbr_15 M
  | (n + 16), hR => exact absurd hR (by omega)
