theorem aj1_0_0 (A : Nat → Nat → Nat) (q : Nat → Fin 5) (h0 : q 0 = chp A 1 1) (h1 : q 1 = 0) (h2 : q 2 = 0) (h3 : q 3 = 0) (h4 : q 4 = 0) : fE 1 q (fun i j => kk (A i j)) 5 0 0 = adj (fun i j => kk (A i j)) 1 0 0 := by
  rw [ch1 A] at h0
  simp [fE, fM, fs, adj, dtm, lapM, lo, rs, h0, h1, h2, h3, h4]
  grind
theorem ma1_0_0 (M : Nat → Nat → Fin 5) : fM 1 M (adj M 1) 0 0 = dtm M 1 1 1 := by
  simp [fM, fs, adj, dtm, lapM, lo, rs]
  grind
theorem am1_0_0 (M : Nat → Nat → Fin 5) : fM 1 (adj M 1) M 0 0 = dtm M 1 1 1 := by
  simp [fM, fs, adj, dtm, lapM, lo, rs]
  grind
theorem aj2_0_0 (A : Nat → Nat → Nat) (q : Nat → Fin 5) (h0 : q 0 = chp A 2 1) (h1 : q 1 = chp A 2 2) (h2 : q 2 = 0) (h3 : q 3 = 0) (h4 : q 4 = 0) : fE 2 q (fun i j => kk (A i j)) 5 0 0 = - adj (fun i j => kk (A i j)) 2 0 0 := by
  obtain ⟨c2, c1⟩ := ch2 A
  rw [c1] at h0
  rw [c2] at h1
  simp [fE, fM, fs, adj, dtm, lapM, lo, rs, h0, h1, h2, h3, h4]
  grind
theorem ma2_0_0 (M : Nat → Nat → Fin 5) : fM 2 M (adj M 2) 0 0 = dtm M 2 3 3 := by
  simp [fM, fs, adj, dtm, lapM, lo, rs]
  grind
theorem am2_0_0 (M : Nat → Nat → Fin 5) : fM 2 (adj M 2) M 0 0 = dtm M 2 3 3 := by
  simp [fM, fs, adj, dtm, lapM, lo, rs]
  grind
theorem aj2_0_1 (A : Nat → Nat → Nat) (q : Nat → Fin 5) (h0 : q 0 = chp A 2 1) (h1 : q 1 = chp A 2 2) (h2 : q 2 = 0) (h3 : q 3 = 0) (h4 : q 4 = 0) : fE 2 q (fun i j => kk (A i j)) 5 0 1 = - adj (fun i j => kk (A i j)) 2 0 1 := by
  obtain ⟨c2, c1⟩ := ch2 A
  rw [c1] at h0
  rw [c2] at h1
  simp [fE, fM, fs, adj, dtm, lapM, lo, rs, h0, h1, h2, h3, h4]
  grind
theorem ma2_0_1 (M : Nat → Nat → Fin 5) : fM 2 M (adj M 2) 0 1 = 0 := by
  simp [fM, fs, adj, dtm, lapM, lo, rs]
  grind
theorem am2_0_1 (M : Nat → Nat → Fin 5) : fM 2 (adj M 2) M 0 1 = 0 := by
  simp [fM, fs, adj, dtm, lapM, lo, rs]
  grind
theorem aj2_1_0 (A : Nat → Nat → Nat) (q : Nat → Fin 5) (h0 : q 0 = chp A 2 1) (h1 : q 1 = chp A 2 2) (h2 : q 2 = 0) (h3 : q 3 = 0) (h4 : q 4 = 0) : fE 2 q (fun i j => kk (A i j)) 5 1 0 = - adj (fun i j => kk (A i j)) 2 1 0 := by
  obtain ⟨c2, c1⟩ := ch2 A
  rw [c1] at h0
  rw [c2] at h1
  simp [fE, fM, fs, adj, dtm, lapM, lo, rs, h0, h1, h2, h3, h4]
  grind
theorem ma2_1_0 (M : Nat → Nat → Fin 5) : fM 2 M (adj M 2) 1 0 = 0 := by
  simp [fM, fs, adj, dtm, lapM, lo, rs]
  grind
theorem am2_1_0 (M : Nat → Nat → Fin 5) : fM 2 (adj M 2) M 1 0 = 0 := by
  simp [fM, fs, adj, dtm, lapM, lo, rs]
  grind
theorem aj2_1_1 (A : Nat → Nat → Nat) (q : Nat → Fin 5) (h0 : q 0 = chp A 2 1) (h1 : q 1 = chp A 2 2) (h2 : q 2 = 0) (h3 : q 3 = 0) (h4 : q 4 = 0) : fE 2 q (fun i j => kk (A i j)) 5 1 1 = - adj (fun i j => kk (A i j)) 2 1 1 := by
  obtain ⟨c2, c1⟩ := ch2 A
  rw [c1] at h0
  rw [c2] at h1
  simp [fE, fM, fs, adj, dtm, lapM, lo, rs, h0, h1, h2, h3, h4]
  grind
theorem ma2_1_1 (M : Nat → Nat → Fin 5) : fM 2 M (adj M 2) 1 1 = dtm M 2 3 3 := by
  simp [fM, fs, adj, dtm, lapM, lo, rs]
  grind
theorem am2_1_1 (M : Nat → Nat → Fin 5) : fM 2 (adj M 2) M 1 1 = dtm M 2 3 3 := by
  simp [fM, fs, adj, dtm, lapM, lo, rs]
  grind
theorem aj3_0_0 (A : Nat → Nat → Nat) (q : Nat → Fin 5) (h0 : q 0 = chp A 3 1) (h1 : q 1 = chp A 3 2) (h2 : q 2 = chp A 3 3) (h3 : q 3 = 0) (h4 : q 4 = 0) : fE 3 q (fun i j => kk (A i j)) 5 0 0 = adj (fun i j => kk (A i j)) 3 0 0 := by
  obtain ⟨c3, c2, c1⟩ := ch3 A
  rw [c1] at h0
  rw [c2] at h1
  rw [c3] at h2
  simp [fE, fM, fs, adj, dtm, lapM, lo, rs, h0, h1, h2, h3, h4]
  grind
theorem ma3_0_0 (M : Nat → Nat → Fin 5) : fM 3 M (adj M 3) 0 0 = dtm M 3 7 7 := by
  simp [fM, fs, adj, dtm, lapM, lo, rs]
  grind
theorem am3_0_0 (M : Nat → Nat → Fin 5) : fM 3 (adj M 3) M 0 0 = dtm M 3 7 7 := by
  simp [fM, fs, adj, dtm, lapM, lo, rs]
  grind
theorem aj3_0_1 (A : Nat → Nat → Nat) (q : Nat → Fin 5) (h0 : q 0 = chp A 3 1) (h1 : q 1 = chp A 3 2) (h2 : q 2 = chp A 3 3) (h3 : q 3 = 0) (h4 : q 4 = 0) : fE 3 q (fun i j => kk (A i j)) 5 0 1 = adj (fun i j => kk (A i j)) 3 0 1 := by
  obtain ⟨c3, c2, c1⟩ := ch3 A
  rw [c1] at h0
  rw [c2] at h1
  rw [c3] at h2
  simp [fE, fM, fs, adj, dtm, lapM, lo, rs, h0, h1, h2, h3, h4]
  grind
theorem ma3_0_1 (M : Nat → Nat → Fin 5) : fM 3 M (adj M 3) 0 1 = 0 := by
  simp [fM, fs, adj, dtm, lapM, lo, rs]
  grind
theorem am3_0_1 (M : Nat → Nat → Fin 5) : fM 3 (adj M 3) M 0 1 = 0 := by
  simp [fM, fs, adj, dtm, lapM, lo, rs]
  grind
theorem aj3_0_2 (A : Nat → Nat → Nat) (q : Nat → Fin 5) (h0 : q 0 = chp A 3 1) (h1 : q 1 = chp A 3 2) (h2 : q 2 = chp A 3 3) (h3 : q 3 = 0) (h4 : q 4 = 0) : fE 3 q (fun i j => kk (A i j)) 5 0 2 = adj (fun i j => kk (A i j)) 3 0 2 := by
  obtain ⟨c3, c2, c1⟩ := ch3 A
  rw [c1] at h0
  rw [c2] at h1
  rw [c3] at h2
  simp [fE, fM, fs, adj, dtm, lapM, lo, rs, h0, h1, h2, h3, h4]
  grind
theorem ma3_0_2 (M : Nat → Nat → Fin 5) : fM 3 M (adj M 3) 0 2 = 0 := by
  simp [fM, fs, adj, dtm, lapM, lo, rs]
  grind
theorem am3_0_2 (M : Nat → Nat → Fin 5) : fM 3 (adj M 3) M 0 2 = 0 := by
  simp [fM, fs, adj, dtm, lapM, lo, rs]
  grind
theorem aj3_1_0 (A : Nat → Nat → Nat) (q : Nat → Fin 5) (h0 : q 0 = chp A 3 1) (h1 : q 1 = chp A 3 2) (h2 : q 2 = chp A 3 3) (h3 : q 3 = 0) (h4 : q 4 = 0) : fE 3 q (fun i j => kk (A i j)) 5 1 0 = adj (fun i j => kk (A i j)) 3 1 0 := by
  obtain ⟨c3, c2, c1⟩ := ch3 A
  rw [c1] at h0
  rw [c2] at h1
  rw [c3] at h2
  simp [fE, fM, fs, adj, dtm, lapM, lo, rs, h0, h1, h2, h3, h4]
  grind
theorem ma3_1_0 (M : Nat → Nat → Fin 5) : fM 3 M (adj M 3) 1 0 = 0 := by
  simp [fM, fs, adj, dtm, lapM, lo, rs]
  grind
theorem am3_1_0 (M : Nat → Nat → Fin 5) : fM 3 (adj M 3) M 1 0 = 0 := by
  simp [fM, fs, adj, dtm, lapM, lo, rs]
  grind
theorem aj3_1_1 (A : Nat → Nat → Nat) (q : Nat → Fin 5) (h0 : q 0 = chp A 3 1) (h1 : q 1 = chp A 3 2) (h2 : q 2 = chp A 3 3) (h3 : q 3 = 0) (h4 : q 4 = 0) : fE 3 q (fun i j => kk (A i j)) 5 1 1 = adj (fun i j => kk (A i j)) 3 1 1 := by
  obtain ⟨c3, c2, c1⟩ := ch3 A
  rw [c1] at h0
  rw [c2] at h1
  rw [c3] at h2
  simp [fE, fM, fs, adj, dtm, lapM, lo, rs, h0, h1, h2, h3, h4]
  grind
theorem ma3_1_1 (M : Nat → Nat → Fin 5) : fM 3 M (adj M 3) 1 1 = dtm M 3 7 7 := by
  simp [fM, fs, adj, dtm, lapM, lo, rs]
  grind
theorem am3_1_1 (M : Nat → Nat → Fin 5) : fM 3 (adj M 3) M 1 1 = dtm M 3 7 7 := by
  simp [fM, fs, adj, dtm, lapM, lo, rs]
  grind
theorem aj3_1_2 (A : Nat → Nat → Nat) (q : Nat → Fin 5) (h0 : q 0 = chp A 3 1) (h1 : q 1 = chp A 3 2) (h2 : q 2 = chp A 3 3) (h3 : q 3 = 0) (h4 : q 4 = 0) : fE 3 q (fun i j => kk (A i j)) 5 1 2 = adj (fun i j => kk (A i j)) 3 1 2 := by
  obtain ⟨c3, c2, c1⟩ := ch3 A
  rw [c1] at h0
  rw [c2] at h1
  rw [c3] at h2
  simp [fE, fM, fs, adj, dtm, lapM, lo, rs, h0, h1, h2, h3, h4]
  grind
theorem ma3_1_2 (M : Nat → Nat → Fin 5) : fM 3 M (adj M 3) 1 2 = 0 := by
  simp [fM, fs, adj, dtm, lapM, lo, rs]
  grind
theorem am3_1_2 (M : Nat → Nat → Fin 5) : fM 3 (adj M 3) M 1 2 = 0 := by
  simp [fM, fs, adj, dtm, lapM, lo, rs]
  grind
theorem aj3_2_0 (A : Nat → Nat → Nat) (q : Nat → Fin 5) (h0 : q 0 = chp A 3 1) (h1 : q 1 = chp A 3 2) (h2 : q 2 = chp A 3 3) (h3 : q 3 = 0) (h4 : q 4 = 0) : fE 3 q (fun i j => kk (A i j)) 5 2 0 = adj (fun i j => kk (A i j)) 3 2 0 := by
  obtain ⟨c3, c2, c1⟩ := ch3 A
  rw [c1] at h0
  rw [c2] at h1
  rw [c3] at h2
  simp [fE, fM, fs, adj, dtm, lapM, lo, rs, h0, h1, h2, h3, h4]
  grind
theorem ma3_2_0 (M : Nat → Nat → Fin 5) : fM 3 M (adj M 3) 2 0 = 0 := by
  simp [fM, fs, adj, dtm, lapM, lo, rs]
  grind
theorem am3_2_0 (M : Nat → Nat → Fin 5) : fM 3 (adj M 3) M 2 0 = 0 := by
  simp [fM, fs, adj, dtm, lapM, lo, rs]
  grind
theorem aj3_2_1 (A : Nat → Nat → Nat) (q : Nat → Fin 5) (h0 : q 0 = chp A 3 1) (h1 : q 1 = chp A 3 2) (h2 : q 2 = chp A 3 3) (h3 : q 3 = 0) (h4 : q 4 = 0) : fE 3 q (fun i j => kk (A i j)) 5 2 1 = adj (fun i j => kk (A i j)) 3 2 1 := by
  obtain ⟨c3, c2, c1⟩ := ch3 A
  rw [c1] at h0
  rw [c2] at h1
  rw [c3] at h2
  simp [fE, fM, fs, adj, dtm, lapM, lo, rs, h0, h1, h2, h3, h4]
  grind
theorem ma3_2_1 (M : Nat → Nat → Fin 5) : fM 3 M (adj M 3) 2 1 = 0 := by
  simp [fM, fs, adj, dtm, lapM, lo, rs]
  grind
theorem am3_2_1 (M : Nat → Nat → Fin 5) : fM 3 (adj M 3) M 2 1 = 0 := by
  simp [fM, fs, adj, dtm, lapM, lo, rs]
  grind
theorem aj3_2_2 (A : Nat → Nat → Nat) (q : Nat → Fin 5) (h0 : q 0 = chp A 3 1) (h1 : q 1 = chp A 3 2) (h2 : q 2 = chp A 3 3) (h3 : q 3 = 0) (h4 : q 4 = 0) : fE 3 q (fun i j => kk (A i j)) 5 2 2 = adj (fun i j => kk (A i j)) 3 2 2 := by
  obtain ⟨c3, c2, c1⟩ := ch3 A
  rw [c1] at h0
  rw [c2] at h1
  rw [c3] at h2
  simp [fE, fM, fs, adj, dtm, lapM, lo, rs, h0, h1, h2, h3, h4]
  grind
theorem ma3_2_2 (M : Nat → Nat → Fin 5) : fM 3 M (adj M 3) 2 2 = dtm M 3 7 7 := by
  simp [fM, fs, adj, dtm, lapM, lo, rs]
  grind
theorem am3_2_2 (M : Nat → Nat → Fin 5) : fM 3 (adj M 3) M 2 2 = dtm M 3 7 7 := by
  simp [fM, fs, adj, dtm, lapM, lo, rs]
  grind
theorem aj4_0_0 (A : Nat → Nat → Nat) (q : Nat → Fin 5) (h0 : q 0 = chp A 4 1) (h1 : q 1 = chp A 4 2) (h2 : q 2 = chp A 4 3) (h3 : q 3 = chp A 4 4) (h4 : q 4 = 0) : fE 4 q (fun i j => kk (A i j)) 5 0 0 = - adj (fun i j => kk (A i j)) 4 0 0 := by
  obtain ⟨c4, c3, c2, c1⟩ := ch4 A
  rw [c1] at h0
  rw [c2] at h1
  rw [c3] at h2
  rw [c4] at h3
  simp [fE, fM, fs, adj, dtm, lapM, lo, rs, h0, h1, h2, h3, h4]
  grind
theorem ma4_0_0 (M : Nat → Nat → Fin 5) : fM 4 M (adj M 4) 0 0 = dtm M 4 15 15 := by
  simp [fM, fs, adj, dtm, lapM, lo, rs]
  grind
theorem am4_0_0 (M : Nat → Nat → Fin 5) : fM 4 (adj M 4) M 0 0 = dtm M 4 15 15 := by
  simp [fM, fs, adj, dtm, lapM, lo, rs]
  grind
theorem aj4_0_1 (A : Nat → Nat → Nat) (q : Nat → Fin 5) (h0 : q 0 = chp A 4 1) (h1 : q 1 = chp A 4 2) (h2 : q 2 = chp A 4 3) (h3 : q 3 = chp A 4 4) (h4 : q 4 = 0) : fE 4 q (fun i j => kk (A i j)) 5 0 1 = - adj (fun i j => kk (A i j)) 4 0 1 := by
  obtain ⟨c4, c3, c2, c1⟩ := ch4 A
  rw [c1] at h0
  rw [c2] at h1
  rw [c3] at h2
  rw [c4] at h3
  simp [fE, fM, fs, adj, dtm, lapM, lo, rs, h0, h1, h2, h3, h4]
  grind
theorem ma4_0_1 (M : Nat → Nat → Fin 5) : fM 4 M (adj M 4) 0 1 = 0 := by
  simp [fM, fs, adj, dtm, lapM, lo, rs]
  grind
theorem am4_0_1 (M : Nat → Nat → Fin 5) : fM 4 (adj M 4) M 0 1 = 0 := by
  simp [fM, fs, adj, dtm, lapM, lo, rs]
  grind
theorem aj4_0_2 (A : Nat → Nat → Nat) (q : Nat → Fin 5) (h0 : q 0 = chp A 4 1) (h1 : q 1 = chp A 4 2) (h2 : q 2 = chp A 4 3) (h3 : q 3 = chp A 4 4) (h4 : q 4 = 0) : fE 4 q (fun i j => kk (A i j)) 5 0 2 = - adj (fun i j => kk (A i j)) 4 0 2 := by
  obtain ⟨c4, c3, c2, c1⟩ := ch4 A
  rw [c1] at h0
  rw [c2] at h1
  rw [c3] at h2
  rw [c4] at h3
  simp [fE, fM, fs, adj, dtm, lapM, lo, rs, h0, h1, h2, h3, h4]
  grind
theorem ma4_0_2 (M : Nat → Nat → Fin 5) : fM 4 M (adj M 4) 0 2 = 0 := by
  simp [fM, fs, adj, dtm, lapM, lo, rs]
  grind
theorem am4_0_2 (M : Nat → Nat → Fin 5) : fM 4 (adj M 4) M 0 2 = 0 := by
  simp [fM, fs, adj, dtm, lapM, lo, rs]
  grind
theorem aj4_0_3 (A : Nat → Nat → Nat) (q : Nat → Fin 5) (h0 : q 0 = chp A 4 1) (h1 : q 1 = chp A 4 2) (h2 : q 2 = chp A 4 3) (h3 : q 3 = chp A 4 4) (h4 : q 4 = 0) : fE 4 q (fun i j => kk (A i j)) 5 0 3 = - adj (fun i j => kk (A i j)) 4 0 3 := by
  obtain ⟨c4, c3, c2, c1⟩ := ch4 A
  rw [c1] at h0
  rw [c2] at h1
  rw [c3] at h2
  rw [c4] at h3
  simp [fE, fM, fs, adj, dtm, lapM, lo, rs, h0, h1, h2, h3, h4]
  grind
theorem ma4_0_3 (M : Nat → Nat → Fin 5) : fM 4 M (adj M 4) 0 3 = 0 := by
  simp [fM, fs, adj, dtm, lapM, lo, rs]
  grind
theorem am4_0_3 (M : Nat → Nat → Fin 5) : fM 4 (adj M 4) M 0 3 = 0 := by
  simp [fM, fs, adj, dtm, lapM, lo, rs]
  grind
theorem aj4_1_0 (A : Nat → Nat → Nat) (q : Nat → Fin 5) (h0 : q 0 = chp A 4 1) (h1 : q 1 = chp A 4 2) (h2 : q 2 = chp A 4 3) (h3 : q 3 = chp A 4 4) (h4 : q 4 = 0) : fE 4 q (fun i j => kk (A i j)) 5 1 0 = - adj (fun i j => kk (A i j)) 4 1 0 := by
  obtain ⟨c4, c3, c2, c1⟩ := ch4 A
  rw [c1] at h0
  rw [c2] at h1
  rw [c3] at h2
  rw [c4] at h3
  simp [fE, fM, fs, adj, dtm, lapM, lo, rs, h0, h1, h2, h3, h4]
  grind
theorem ma4_1_0 (M : Nat → Nat → Fin 5) : fM 4 M (adj M 4) 1 0 = 0 := by
  simp [fM, fs, adj, dtm, lapM, lo, rs]
  grind
theorem am4_1_0 (M : Nat → Nat → Fin 5) : fM 4 (adj M 4) M 1 0 = 0 := by
  simp [fM, fs, adj, dtm, lapM, lo, rs]
  grind
theorem aj4_1_1 (A : Nat → Nat → Nat) (q : Nat → Fin 5) (h0 : q 0 = chp A 4 1) (h1 : q 1 = chp A 4 2) (h2 : q 2 = chp A 4 3) (h3 : q 3 = chp A 4 4) (h4 : q 4 = 0) : fE 4 q (fun i j => kk (A i j)) 5 1 1 = - adj (fun i j => kk (A i j)) 4 1 1 := by
  obtain ⟨c4, c3, c2, c1⟩ := ch4 A
  rw [c1] at h0
  rw [c2] at h1
  rw [c3] at h2
  rw [c4] at h3
  simp [fE, fM, fs, adj, dtm, lapM, lo, rs, h0, h1, h2, h3, h4]
  grind
theorem ma4_1_1 (M : Nat → Nat → Fin 5) : fM 4 M (adj M 4) 1 1 = dtm M 4 15 15 := by
  simp [fM, fs, adj, dtm, lapM, lo, rs]
  grind
theorem am4_1_1 (M : Nat → Nat → Fin 5) : fM 4 (adj M 4) M 1 1 = dtm M 4 15 15 := by
  simp [fM, fs, adj, dtm, lapM, lo, rs]
  grind
theorem aj4_1_2 (A : Nat → Nat → Nat) (q : Nat → Fin 5) (h0 : q 0 = chp A 4 1) (h1 : q 1 = chp A 4 2) (h2 : q 2 = chp A 4 3) (h3 : q 3 = chp A 4 4) (h4 : q 4 = 0) : fE 4 q (fun i j => kk (A i j)) 5 1 2 = - adj (fun i j => kk (A i j)) 4 1 2 := by
  obtain ⟨c4, c3, c2, c1⟩ := ch4 A
  rw [c1] at h0
  rw [c2] at h1
  rw [c3] at h2
  rw [c4] at h3
  simp [fE, fM, fs, adj, dtm, lapM, lo, rs, h0, h1, h2, h3, h4]
  grind
theorem ma4_1_2 (M : Nat → Nat → Fin 5) : fM 4 M (adj M 4) 1 2 = 0 := by
  simp [fM, fs, adj, dtm, lapM, lo, rs]
  grind
theorem am4_1_2 (M : Nat → Nat → Fin 5) : fM 4 (adj M 4) M 1 2 = 0 := by
  simp [fM, fs, adj, dtm, lapM, lo, rs]
  grind
theorem aj4_1_3 (A : Nat → Nat → Nat) (q : Nat → Fin 5) (h0 : q 0 = chp A 4 1) (h1 : q 1 = chp A 4 2) (h2 : q 2 = chp A 4 3) (h3 : q 3 = chp A 4 4) (h4 : q 4 = 0) : fE 4 q (fun i j => kk (A i j)) 5 1 3 = - adj (fun i j => kk (A i j)) 4 1 3 := by
  obtain ⟨c4, c3, c2, c1⟩ := ch4 A
  rw [c1] at h0
  rw [c2] at h1
  rw [c3] at h2
  rw [c4] at h3
  simp [fE, fM, fs, adj, dtm, lapM, lo, rs, h0, h1, h2, h3, h4]
  grind
theorem ma4_1_3 (M : Nat → Nat → Fin 5) : fM 4 M (adj M 4) 1 3 = 0 := by
  simp [fM, fs, adj, dtm, lapM, lo, rs]
  grind
theorem am4_1_3 (M : Nat → Nat → Fin 5) : fM 4 (adj M 4) M 1 3 = 0 := by
  simp [fM, fs, adj, dtm, lapM, lo, rs]
  grind
theorem aj4_2_0 (A : Nat → Nat → Nat) (q : Nat → Fin 5) (h0 : q 0 = chp A 4 1) (h1 : q 1 = chp A 4 2) (h2 : q 2 = chp A 4 3) (h3 : q 3 = chp A 4 4) (h4 : q 4 = 0) : fE 4 q (fun i j => kk (A i j)) 5 2 0 = - adj (fun i j => kk (A i j)) 4 2 0 := by
  obtain ⟨c4, c3, c2, c1⟩ := ch4 A
  rw [c1] at h0
  rw [c2] at h1
  rw [c3] at h2
  rw [c4] at h3
  simp [fE, fM, fs, adj, dtm, lapM, lo, rs, h0, h1, h2, h3, h4]
  grind
theorem ma4_2_0 (M : Nat → Nat → Fin 5) : fM 4 M (adj M 4) 2 0 = 0 := by
  simp [fM, fs, adj, dtm, lapM, lo, rs]
  grind
theorem am4_2_0 (M : Nat → Nat → Fin 5) : fM 4 (adj M 4) M 2 0 = 0 := by
  simp [fM, fs, adj, dtm, lapM, lo, rs]
  grind
theorem aj4_2_1 (A : Nat → Nat → Nat) (q : Nat → Fin 5) (h0 : q 0 = chp A 4 1) (h1 : q 1 = chp A 4 2) (h2 : q 2 = chp A 4 3) (h3 : q 3 = chp A 4 4) (h4 : q 4 = 0) : fE 4 q (fun i j => kk (A i j)) 5 2 1 = - adj (fun i j => kk (A i j)) 4 2 1 := by
  obtain ⟨c4, c3, c2, c1⟩ := ch4 A
  rw [c1] at h0
  rw [c2] at h1
  rw [c3] at h2
  rw [c4] at h3
  simp [fE, fM, fs, adj, dtm, lapM, lo, rs, h0, h1, h2, h3, h4]
  grind
theorem ma4_2_1 (M : Nat → Nat → Fin 5) : fM 4 M (adj M 4) 2 1 = 0 := by
  simp [fM, fs, adj, dtm, lapM, lo, rs]
  grind
theorem am4_2_1 (M : Nat → Nat → Fin 5) : fM 4 (adj M 4) M 2 1 = 0 := by
  simp [fM, fs, adj, dtm, lapM, lo, rs]
  grind
theorem aj4_2_2 (A : Nat → Nat → Nat) (q : Nat → Fin 5) (h0 : q 0 = chp A 4 1) (h1 : q 1 = chp A 4 2) (h2 : q 2 = chp A 4 3) (h3 : q 3 = chp A 4 4) (h4 : q 4 = 0) : fE 4 q (fun i j => kk (A i j)) 5 2 2 = - adj (fun i j => kk (A i j)) 4 2 2 := by
  obtain ⟨c4, c3, c2, c1⟩ := ch4 A
  rw [c1] at h0
  rw [c2] at h1
  rw [c3] at h2
  rw [c4] at h3
  simp [fE, fM, fs, adj, dtm, lapM, lo, rs, h0, h1, h2, h3, h4]
  grind
theorem ma4_2_2 (M : Nat → Nat → Fin 5) : fM 4 M (adj M 4) 2 2 = dtm M 4 15 15 := by
  simp [fM, fs, adj, dtm, lapM, lo, rs]
  grind
theorem am4_2_2 (M : Nat → Nat → Fin 5) : fM 4 (adj M 4) M 2 2 = dtm M 4 15 15 := by
  simp [fM, fs, adj, dtm, lapM, lo, rs]
  grind
theorem aj4_2_3 (A : Nat → Nat → Nat) (q : Nat → Fin 5) (h0 : q 0 = chp A 4 1) (h1 : q 1 = chp A 4 2) (h2 : q 2 = chp A 4 3) (h3 : q 3 = chp A 4 4) (h4 : q 4 = 0) : fE 4 q (fun i j => kk (A i j)) 5 2 3 = - adj (fun i j => kk (A i j)) 4 2 3 := by
  obtain ⟨c4, c3, c2, c1⟩ := ch4 A
  rw [c1] at h0
  rw [c2] at h1
  rw [c3] at h2
  rw [c4] at h3
  simp [fE, fM, fs, adj, dtm, lapM, lo, rs, h0, h1, h2, h3, h4]
  grind
theorem ma4_2_3 (M : Nat → Nat → Fin 5) : fM 4 M (adj M 4) 2 3 = 0 := by
  simp [fM, fs, adj, dtm, lapM, lo, rs]
  grind
theorem am4_2_3 (M : Nat → Nat → Fin 5) : fM 4 (adj M 4) M 2 3 = 0 := by
  simp [fM, fs, adj, dtm, lapM, lo, rs]
  grind
theorem aj4_3_0 (A : Nat → Nat → Nat) (q : Nat → Fin 5) (h0 : q 0 = chp A 4 1) (h1 : q 1 = chp A 4 2) (h2 : q 2 = chp A 4 3) (h3 : q 3 = chp A 4 4) (h4 : q 4 = 0) : fE 4 q (fun i j => kk (A i j)) 5 3 0 = - adj (fun i j => kk (A i j)) 4 3 0 := by
  obtain ⟨c4, c3, c2, c1⟩ := ch4 A
  rw [c1] at h0
  rw [c2] at h1
  rw [c3] at h2
  rw [c4] at h3
  simp [fE, fM, fs, adj, dtm, lapM, lo, rs, h0, h1, h2, h3, h4]
  grind
theorem ma4_3_0 (M : Nat → Nat → Fin 5) : fM 4 M (adj M 4) 3 0 = 0 := by
  simp [fM, fs, adj, dtm, lapM, lo, rs]
  grind
theorem am4_3_0 (M : Nat → Nat → Fin 5) : fM 4 (adj M 4) M 3 0 = 0 := by
  simp [fM, fs, adj, dtm, lapM, lo, rs]
  grind
theorem aj4_3_1 (A : Nat → Nat → Nat) (q : Nat → Fin 5) (h0 : q 0 = chp A 4 1) (h1 : q 1 = chp A 4 2) (h2 : q 2 = chp A 4 3) (h3 : q 3 = chp A 4 4) (h4 : q 4 = 0) : fE 4 q (fun i j => kk (A i j)) 5 3 1 = - adj (fun i j => kk (A i j)) 4 3 1 := by
  obtain ⟨c4, c3, c2, c1⟩ := ch4 A
  rw [c1] at h0
  rw [c2] at h1
  rw [c3] at h2
  rw [c4] at h3
  simp [fE, fM, fs, adj, dtm, lapM, lo, rs, h0, h1, h2, h3, h4]
  grind
theorem ma4_3_1 (M : Nat → Nat → Fin 5) : fM 4 M (adj M 4) 3 1 = 0 := by
  simp [fM, fs, adj, dtm, lapM, lo, rs]
  grind
theorem am4_3_1 (M : Nat → Nat → Fin 5) : fM 4 (adj M 4) M 3 1 = 0 := by
  simp [fM, fs, adj, dtm, lapM, lo, rs]
  grind
theorem aj4_3_2 (A : Nat → Nat → Nat) (q : Nat → Fin 5) (h0 : q 0 = chp A 4 1) (h1 : q 1 = chp A 4 2) (h2 : q 2 = chp A 4 3) (h3 : q 3 = chp A 4 4) (h4 : q 4 = 0) : fE 4 q (fun i j => kk (A i j)) 5 3 2 = - adj (fun i j => kk (A i j)) 4 3 2 := by
  obtain ⟨c4, c3, c2, c1⟩ := ch4 A
  rw [c1] at h0
  rw [c2] at h1
  rw [c3] at h2
  rw [c4] at h3
  simp [fE, fM, fs, adj, dtm, lapM, lo, rs, h0, h1, h2, h3, h4]
  grind
theorem ma4_3_2 (M : Nat → Nat → Fin 5) : fM 4 M (adj M 4) 3 2 = 0 := by
  simp [fM, fs, adj, dtm, lapM, lo, rs]
  grind
theorem am4_3_2 (M : Nat → Nat → Fin 5) : fM 4 (adj M 4) M 3 2 = 0 := by
  simp [fM, fs, adj, dtm, lapM, lo, rs]
  grind
theorem aj4_3_3 (A : Nat → Nat → Nat) (q : Nat → Fin 5) (h0 : q 0 = chp A 4 1) (h1 : q 1 = chp A 4 2) (h2 : q 2 = chp A 4 3) (h3 : q 3 = chp A 4 4) (h4 : q 4 = 0) : fE 4 q (fun i j => kk (A i j)) 5 3 3 = - adj (fun i j => kk (A i j)) 4 3 3 := by
  obtain ⟨c4, c3, c2, c1⟩ := ch4 A
  rw [c1] at h0
  rw [c2] at h1
  rw [c3] at h2
  rw [c4] at h3
  simp [fE, fM, fs, adj, dtm, lapM, lo, rs, h0, h1, h2, h3, h4]
  grind
theorem ma4_3_3 (M : Nat → Nat → Fin 5) : fM 4 M (adj M 4) 3 3 = dtm M 4 15 15 := by
  simp [fM, fs, adj, dtm, lapM, lo, rs]
  grind
theorem am4_3_3 (M : Nat → Nat → Fin 5) : fM 4 (adj M 4) M 3 3 = dtm M 4 15 15 := by
  simp [fM, fs, adj, dtm, lapM, lo, rs]
  grind
theorem aj_all (A : Nat → Nat → Nat) (q : Nat → Fin 5) {N : Nat} (h1 : 1 ≤ N) (h4 : N ≤ 4) (hq : ∀ k, k < 4 → q k = chp A N (k + 1)) (hq4 : q 4 = 0) {i j : Nat} (hi : i < N) (hj : j < N) :
    fE N q (fun i j => kk (A i j)) 5 i j = spw 4 (N - 1) * adj (fun i j => kk (A i j)) N i j := by
  have hz : ∀ k, N ≤ k → k < 5 → q k = 0 := fun k e1 e2 => by
    by_cases e : k = 4
    · subst e; exact hq4
    · rw [hq k (by omega)]; exact dtp_hi A N _ _ _ (by omega)
  match N, h1, h4 with
  | 1, _, _ =>
    have es : spw 4 (1 - 1) = (1 : Fin 5) := by decide
    rw [es]
    have main : fE 1 q (fun i j => kk (A i j)) 5 i j = adj (fun i j => kk (A i j)) 1 i j := by
      match i, hi, j, hj with
      | 0, _, 0, _ => exact aj1_0_0 A q (hq 0 (by decide)) (hz 1 (by decide) (by decide)) (hz 2 (by decide) (by decide)) (hz 3 (by decide) (by decide)) (hz 4 (by decide) (by decide))
    rw [main]; grind
  | 2, _, _ =>
    have es : spw 4 (2 - 1) = (4 : Fin 5) := by decide
    rw [es]
    have main : fE 2 q (fun i j => kk (A i j)) 5 i j = - adj (fun i j => kk (A i j)) 2 i j := by
      match i, hi, j, hj with
      | 0, _, 0, _ => exact aj2_0_0 A q (hq 0 (by decide)) (hq 1 (by decide)) (hz 2 (by decide) (by decide)) (hz 3 (by decide) (by decide)) (hz 4 (by decide) (by decide))
      | 0, _, 1, _ => exact aj2_0_1 A q (hq 0 (by decide)) (hq 1 (by decide)) (hz 2 (by decide) (by decide)) (hz 3 (by decide) (by decide)) (hz 4 (by decide) (by decide))
      | 1, _, 0, _ => exact aj2_1_0 A q (hq 0 (by decide)) (hq 1 (by decide)) (hz 2 (by decide) (by decide)) (hz 3 (by decide) (by decide)) (hz 4 (by decide) (by decide))
      | 1, _, 1, _ => exact aj2_1_1 A q (hq 0 (by decide)) (hq 1 (by decide)) (hz 2 (by decide) (by decide)) (hz 3 (by decide) (by decide)) (hz 4 (by decide) (by decide))
    rw [main]; grind
  | 3, _, _ =>
    have es : spw 4 (3 - 1) = (1 : Fin 5) := by decide
    rw [es]
    have main : fE 3 q (fun i j => kk (A i j)) 5 i j = adj (fun i j => kk (A i j)) 3 i j := by
      match i, hi, j, hj with
      | 0, _, 0, _ => exact aj3_0_0 A q (hq 0 (by decide)) (hq 1 (by decide)) (hq 2 (by decide)) (hz 3 (by decide) (by decide)) (hz 4 (by decide) (by decide))
      | 0, _, 1, _ => exact aj3_0_1 A q (hq 0 (by decide)) (hq 1 (by decide)) (hq 2 (by decide)) (hz 3 (by decide) (by decide)) (hz 4 (by decide) (by decide))
      | 0, _, 2, _ => exact aj3_0_2 A q (hq 0 (by decide)) (hq 1 (by decide)) (hq 2 (by decide)) (hz 3 (by decide) (by decide)) (hz 4 (by decide) (by decide))
      | 1, _, 0, _ => exact aj3_1_0 A q (hq 0 (by decide)) (hq 1 (by decide)) (hq 2 (by decide)) (hz 3 (by decide) (by decide)) (hz 4 (by decide) (by decide))
      | 1, _, 1, _ => exact aj3_1_1 A q (hq 0 (by decide)) (hq 1 (by decide)) (hq 2 (by decide)) (hz 3 (by decide) (by decide)) (hz 4 (by decide) (by decide))
      | 1, _, 2, _ => exact aj3_1_2 A q (hq 0 (by decide)) (hq 1 (by decide)) (hq 2 (by decide)) (hz 3 (by decide) (by decide)) (hz 4 (by decide) (by decide))
      | 2, _, 0, _ => exact aj3_2_0 A q (hq 0 (by decide)) (hq 1 (by decide)) (hq 2 (by decide)) (hz 3 (by decide) (by decide)) (hz 4 (by decide) (by decide))
      | 2, _, 1, _ => exact aj3_2_1 A q (hq 0 (by decide)) (hq 1 (by decide)) (hq 2 (by decide)) (hz 3 (by decide) (by decide)) (hz 4 (by decide) (by decide))
      | 2, _, 2, _ => exact aj3_2_2 A q (hq 0 (by decide)) (hq 1 (by decide)) (hq 2 (by decide)) (hz 3 (by decide) (by decide)) (hz 4 (by decide) (by decide))
    rw [main]; grind
  | 4, _, _ =>
    have es : spw 4 (4 - 1) = (4 : Fin 5) := by decide
    rw [es]
    have main : fE 4 q (fun i j => kk (A i j)) 5 i j = - adj (fun i j => kk (A i j)) 4 i j := by
      match i, hi, j, hj with
      | 0, _, 0, _ => exact aj4_0_0 A q (hq 0 (by decide)) (hq 1 (by decide)) (hq 2 (by decide)) (hq 3 (by decide)) (hz 4 (by decide) (by decide))
      | 0, _, 1, _ => exact aj4_0_1 A q (hq 0 (by decide)) (hq 1 (by decide)) (hq 2 (by decide)) (hq 3 (by decide)) (hz 4 (by decide) (by decide))
      | 0, _, 2, _ => exact aj4_0_2 A q (hq 0 (by decide)) (hq 1 (by decide)) (hq 2 (by decide)) (hq 3 (by decide)) (hz 4 (by decide) (by decide))
      | 0, _, 3, _ => exact aj4_0_3 A q (hq 0 (by decide)) (hq 1 (by decide)) (hq 2 (by decide)) (hq 3 (by decide)) (hz 4 (by decide) (by decide))
      | 1, _, 0, _ => exact aj4_1_0 A q (hq 0 (by decide)) (hq 1 (by decide)) (hq 2 (by decide)) (hq 3 (by decide)) (hz 4 (by decide) (by decide))
      | 1, _, 1, _ => exact aj4_1_1 A q (hq 0 (by decide)) (hq 1 (by decide)) (hq 2 (by decide)) (hq 3 (by decide)) (hz 4 (by decide) (by decide))
      | 1, _, 2, _ => exact aj4_1_2 A q (hq 0 (by decide)) (hq 1 (by decide)) (hq 2 (by decide)) (hq 3 (by decide)) (hz 4 (by decide) (by decide))
      | 1, _, 3, _ => exact aj4_1_3 A q (hq 0 (by decide)) (hq 1 (by decide)) (hq 2 (by decide)) (hq 3 (by decide)) (hz 4 (by decide) (by decide))
      | 2, _, 0, _ => exact aj4_2_0 A q (hq 0 (by decide)) (hq 1 (by decide)) (hq 2 (by decide)) (hq 3 (by decide)) (hz 4 (by decide) (by decide))
      | 2, _, 1, _ => exact aj4_2_1 A q (hq 0 (by decide)) (hq 1 (by decide)) (hq 2 (by decide)) (hq 3 (by decide)) (hz 4 (by decide) (by decide))
      | 2, _, 2, _ => exact aj4_2_2 A q (hq 0 (by decide)) (hq 1 (by decide)) (hq 2 (by decide)) (hq 3 (by decide)) (hz 4 (by decide) (by decide))
      | 2, _, 3, _ => exact aj4_2_3 A q (hq 0 (by decide)) (hq 1 (by decide)) (hq 2 (by decide)) (hq 3 (by decide)) (hz 4 (by decide) (by decide))
      | 3, _, 0, _ => exact aj4_3_0 A q (hq 0 (by decide)) (hq 1 (by decide)) (hq 2 (by decide)) (hq 3 (by decide)) (hz 4 (by decide) (by decide))
      | 3, _, 1, _ => exact aj4_3_1 A q (hq 0 (by decide)) (hq 1 (by decide)) (hq 2 (by decide)) (hq 3 (by decide)) (hz 4 (by decide) (by decide))
      | 3, _, 2, _ => exact aj4_3_2 A q (hq 0 (by decide)) (hq 1 (by decide)) (hq 2 (by decide)) (hq 3 (by decide)) (hz 4 (by decide) (by decide))
      | 3, _, 3, _ => exact aj4_3_3 A q (hq 0 (by decide)) (hq 1 (by decide)) (hq 2 (by decide)) (hq 3 (by decide)) (hz 4 (by decide) (by decide))
    rw [main]; grind
theorem ma_all (M : Nat → Nat → Fin 5) {N : Nat} (h1 : 1 ≤ N) (h4 : N ≤ 4) {i j : Nat} (hi : i < N) (hj : j < N) : fM N M (adj M N) i j = if i = j then dtm M N (2 ^ N - 1) (2 ^ N - 1) else 0 := by
  match N, h1, h4 with
  | 1, _, _ =>
    match i, hi, j, hj with
    | 0, _, 0, _ => exact ma1_0_0 M
  | 2, _, _ =>
    match i, hi, j, hj with
    | 0, _, 0, _ => exact ma2_0_0 M
    | 0, _, 1, _ => exact ma2_0_1 M
    | 1, _, 0, _ => exact ma2_1_0 M
    | 1, _, 1, _ => exact ma2_1_1 M
  | 3, _, _ =>
    match i, hi, j, hj with
    | 0, _, 0, _ => exact ma3_0_0 M
    | 0, _, 1, _ => exact ma3_0_1 M
    | 0, _, 2, _ => exact ma3_0_2 M
    | 1, _, 0, _ => exact ma3_1_0 M
    | 1, _, 1, _ => exact ma3_1_1 M
    | 1, _, 2, _ => exact ma3_1_2 M
    | 2, _, 0, _ => exact ma3_2_0 M
    | 2, _, 1, _ => exact ma3_2_1 M
    | 2, _, 2, _ => exact ma3_2_2 M
  | 4, _, _ =>
    match i, hi, j, hj with
    | 0, _, 0, _ => exact ma4_0_0 M
    | 0, _, 1, _ => exact ma4_0_1 M
    | 0, _, 2, _ => exact ma4_0_2 M
    | 0, _, 3, _ => exact ma4_0_3 M
    | 1, _, 0, _ => exact ma4_1_0 M
    | 1, _, 1, _ => exact ma4_1_1 M
    | 1, _, 2, _ => exact ma4_1_2 M
    | 1, _, 3, _ => exact ma4_1_3 M
    | 2, _, 0, _ => exact ma4_2_0 M
    | 2, _, 1, _ => exact ma4_2_1 M
    | 2, _, 2, _ => exact ma4_2_2 M
    | 2, _, 3, _ => exact ma4_2_3 M
    | 3, _, 0, _ => exact ma4_3_0 M
    | 3, _, 1, _ => exact ma4_3_1 M
    | 3, _, 2, _ => exact ma4_3_2 M
    | 3, _, 3, _ => exact ma4_3_3 M
theorem am_all (M : Nat → Nat → Fin 5) {N : Nat} (h1 : 1 ≤ N) (h4 : N ≤ 4) {i j : Nat} (hi : i < N) (hj : j < N) : fM N (adj M N) M i j = if i = j then dtm M N (2 ^ N - 1) (2 ^ N - 1) else 0 := by
  match N, h1, h4 with
  | 1, _, _ =>
    match i, hi, j, hj with
    | 0, _, 0, _ => exact am1_0_0 M
  | 2, _, _ =>
    match i, hi, j, hj with
    | 0, _, 0, _ => exact am2_0_0 M
    | 0, _, 1, _ => exact am2_0_1 M
    | 1, _, 0, _ => exact am2_1_0 M
    | 1, _, 1, _ => exact am2_1_1 M
  | 3, _, _ =>
    match i, hi, j, hj with
    | 0, _, 0, _ => exact am3_0_0 M
    | 0, _, 1, _ => exact am3_0_1 M
    | 0, _, 2, _ => exact am3_0_2 M
    | 1, _, 0, _ => exact am3_1_0 M
    | 1, _, 1, _ => exact am3_1_1 M
    | 1, _, 2, _ => exact am3_1_2 M
    | 2, _, 0, _ => exact am3_2_0 M
    | 2, _, 1, _ => exact am3_2_1 M
    | 2, _, 2, _ => exact am3_2_2 M
  | 4, _, _ =>
    match i, hi, j, hj with
    | 0, _, 0, _ => exact am4_0_0 M
    | 0, _, 1, _ => exact am4_0_1 M
    | 0, _, 2, _ => exact am4_0_2 M
    | 0, _, 3, _ => exact am4_0_3 M
    | 1, _, 0, _ => exact am4_1_0 M
    | 1, _, 1, _ => exact am4_1_1 M
    | 1, _, 2, _ => exact am4_1_2 M
    | 1, _, 3, _ => exact am4_1_3 M
    | 2, _, 0, _ => exact am4_2_0 M
    | 2, _, 1, _ => exact am4_2_1 M
    | 2, _, 2, _ => exact am4_2_2 M
    | 2, _, 3, _ => exact am4_2_3 M
    | 3, _, 0, _ => exact am4_3_0 M
    | 3, _, 1, _ => exact am4_3_1 M
    | 3, _, 2, _ => exact am4_3_2 M
    | 3, _, 3, _ => exact am4_3_3 M
