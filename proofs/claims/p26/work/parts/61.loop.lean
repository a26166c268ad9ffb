/-! The law's loop: call by call. -/
theorem law_stop {N Ln : Nat} {xs : Nat → Int32} (hL : Ln ≤ 256) (f j : Nat) (M : Mem) (hj : 4 * j ≤ 1000) (h : Ln < 4 * j + 4) : bS (f_L_law_L18 N Ln xs (f + 1) (nI (4 * j)) M) (fun _ => some 1) = some (1 : Int32) := by
  have h1 : Int32.ofNat Ln - (4 : Int32) < nI (4 * j) := by
    show nI Ln - nI 4 < nI (4 * j)
    rw [Int32.lt_iff_toInt_lt, pk_sub_toInt (by omega) (by decide), nI_toInt (by omega)]
    omega
  rw [f_L_law_L18, if_pos h1]
  rfl
theorem law_step {N Ln : Nat} (hN : 200000000 ≤ N) {xs : Nat → Int32} (hL : Ln ≤ 256) {A : Ab} {nx : Nat} (f j : Nat) (M : Mem) (hj : 4 * j ≤ 1000) (h : 4 * j + 4 ≤ Ln) (hB : RB j A) (hC : RC A nx M) (hM : RM A M) (ih : ∀ M', Good (j + 1) M' → bS (f_L_law_L18 N Ln xs f (nI (4 * (j + 1))) M') (fun _ => some 1) = some (1 : Int32)) : bS (f_L_law_L18 N Ln xs (f + 1) (nI (4 * j)) M) (fun _ => some 1) = some (1 : Int32) := by
  have h1 : ¬ Int32.ofNat Ln - (4 : Int32) < nI (4 * j) := by
    show ¬ nI Ln - nI 4 < nI (4 * j)
    rw [n_sub (by omega), n_lt (by omega) (by omega)]
    omega
  have e1 : nI (4 * j) + 1 = nI (4 * j + 1) := nI_1 _
  have e2 : nI (4 * j) + 2 = nI (4 * j + 2) := nI_add (4 * j) 2
  have e3 : nI (4 * j) + 3 = nI (4 * j + 3) := nI_add (4 * j) 3
  have e4 : nI (4 * j) + 4 = nI (4 * (j + 1)) := nI_add (4 * j) 4
  have b0 : inb (nI (4 * j)) Ln = true := by rw [inb_nI (by omega)]; simp; omega
  have b1 : inb (nI (4 * j + 1)) Ln = true := by rw [inb_nI (by omega)]; simp; omega
  have b2 : inb (nI (4 * j + 2)) Ln = true := by rw [inb_nI (by omega)]; simp; omega
  have b3 : inb (nI (4 * j + 3)) Ln = true := by rw [inb_nI (by omega)]; simp; omega
  have hG : Good (j + 1) M := ⟨A, nx, hB.mono (by omega), hC, hM⟩
  rw [f_L_law_L18, if_neg h1, if_pos b0]
  obtain ⟨op, hop⟩ : ∃ op, op = (xs (nI (4 * j)).toNatClampNeg) &&& (31 : Int32) := ⟨_, rfl⟩
  rw [← hop]
  clear hop
  simp only [e1, e2, e3, e4, if_pos b1, if_pos b2, if_pos b3]
  obtain ⟨y1, hy1⟩ : ∃ y, y = xs (nI (4 * j + 1)).toNatClampNeg := ⟨_, rfl⟩
  obtain ⟨y2, hy2⟩ : ∃ y, y = xs (nI (4 * j + 2)).toNatClampNeg := ⟨_, rfl⟩
  obtain ⟨y3, hy3⟩ : ∃ y, y = xs (nI (4 * j + 3)).toNatClampNeg := ⟨_, rfl⟩
  rw [← hy1, ← hy2, ← hy3]
  clear hy1 hy2 hy3
  by_cases o0 : op = 0
  · rw [if_pos o0]
    obtain ⟨r, r1, r', r2, r3, r4⟩ := k_write (N := N) hB hC hM y1
    rw [r1]
    simp only [Option.bind_some]
    rw [r2]
    simp only [Option.bind_some]
    exact ih r'.2 (r4.mono (by omega))
  rw [if_neg o0]
  by_cases o1 : op = 1
  · rw [if_pos o1]
    obtain ⟨r, r1, r', r2, r3, r4⟩ := k_erase (N := N) hB hC hM 
    rw [r1]
    simp only [Option.bind_some]
    rw [r2]
    simp only [Option.bind_some]
    exact ih r'.2 (r4.mono (by omega))
  rw [if_neg o1]
  by_cases o2 : op = 2
  · rw [if_pos o2]
    obtain ⟨r, r1, r', r2, r3, r4⟩ := k_fault (N := N) (by omega) hB hC hM 
    rw [r1]
    simp only [Option.bind_some]
    rw [r2]
    simp only [Option.bind_some]
    exact ih r'.2 (r4.mono (by omega))
  rw [if_neg o2]
  by_cases o3 : op = 3
  · rw [if_pos o3]
    obtain ⟨r, r1, r', r2, r3, r4⟩ := k_hall (N := N) (by omega) hB hC hM 
    rw [r1]
    simp only [Option.bind_some]
    rw [r2]
    simp only [Option.bind_some]
    exact ih r'.2 (r4.mono (by omega))
  rw [if_neg o3]
  by_cases o4 : op = 4
  · rw [if_pos o4]
    obtain ⟨r, r1, r2⟩ := q_clapper (N := N) hB hC hM y1 y2
    rw [r1]
    simp only [Option.bind_some]
    rw [r2]
    simp only [Option.bind_some]
    exact ih M hG
  rw [if_neg o4]
  by_cases o5 : op = 5
  · rw [if_pos o5]
    obtain ⟨r, r1, r2⟩ := q_encore (N := N) hB hC hM y1 y2
    rw [r1]
    simp only [Option.bind_some]
    rw [r2]
    simp only [Option.bind_some]
    exact ih M hG
  rw [if_neg o5]
  by_cases o6 : op = 6
  · rw [if_pos o6]
    obtain ⟨r, r1, r2⟩ := q_as (N := N) (by omega) hB hC hM y1 y2
    rw [r1]
    simp only [Option.bind_some]
    rw [r2]
    simp only [Option.bind_some]
    exact ih M hG
  rw [if_neg o6]
  by_cases o7 : op = 7
  · rw [if_pos o7]
    obtain ⟨r, r1, r2⟩ := q_encoreAs (N := N) (by omega) hB hC hM y1 y2
    rw [r1]
    simp only [Option.bind_some]
    rw [r2]
    simp only [Option.bind_some]
    exact ih M hG
  rw [if_neg o7]
  by_cases o8 : op = 8
  · rw [if_pos o8]
    obtain ⟨r, r1, r2⟩ := q_can (N := N) (by omega) hB hC hM y1
    rw [r1]
    simp only [Option.bind_some]
    rw [r2]
    simp only [Option.bind_some]
    exact ih M hG
  rw [if_neg o8]
  by_cases o9 : op = 9
  · rw [if_pos o9]
    obtain ⟨r, r1, r', r2, r3, r4⟩ := k_does (N := N) (by omega) (by omega) hB hC hM y1
    rw [r1]
    simp only [Option.bind_some]
    rw [r2]
    simp only [Option.bind_some]
    exact ih r'.2 r4
  rw [if_neg o9]
  by_cases o10 : op = 10
  · rw [if_pos o10]
    obtain ⟨r, r1, r', r2, r3, r4⟩ := k_undo (N := N) (by omega) hB hC hM 
    rw [r1]
    simp only [Option.bind_some]
    rw [r2]
    simp only [Option.bind_some]
    exact ih r'.2 (r4.mono (by omega))
  rw [if_neg o10]
  by_cases o11 : op = 11
  · rw [if_pos o11]
    obtain ⟨r, r1, r', r2, r3, r4⟩ := k_keep (N := N) (by omega) hB hC hM y1
    rw [r1]
    simp only [Option.bind_some]
    rw [r2]
    simp only [Option.bind_some]
    exact ih r'.2 (r4.mono (by omega))
  rw [if_neg o11]
  by_cases o12 : op = 12
  · rw [if_pos o12]
    obtain ⟨r, r1, r', r2, r3, r4⟩ := k_back (N := N) (by omega) hB hC hM y1
    rw [r1]
    simp only [Option.bind_some]
    rw [r2]
    simp only [Option.bind_some]
    exact ih r'.2 (r4.mono (by omega))
  rw [if_neg o12]
  by_cases o13 : op = 13
  · rw [if_pos o13]
    obtain ⟨r, r1, r', r2, r3, r4⟩ := k_till (N := N) (by omega) (by omega) hB hC hM 
    rw [r1]
    simp only [Option.bind_some]
    rw [r2]
    simp only [Option.bind_some]
    exact ih r'.2 (r4.mono (by omega))
  rw [if_neg o13]
  by_cases o14 : op = 14
  · rw [if_pos o14]
    obtain ⟨r, r1, r', r2, r3, r4⟩ := k_there (N := N) (by omega) (by omega) hB hC hM y1
    rw [r1]
    simp only [Option.bind_some]
    rw [r2]
    simp only [Option.bind_some]
    exact ih r'.2 (r4.mono (by omega))
  rw [if_neg o14]
  by_cases o15 : op = 15
  · rw [if_pos o15]
    obtain ⟨r, r1, r', r2, r3, r4⟩ := k_sound (N := N) (by omega) (by omega) hB hC hM y1
    rw [r1]
    simp only [Option.bind_some]
    rw [r2]
    simp only [Option.bind_some]
    exact ih r'.2 (r4.mono (by omega))
  rw [if_neg o15]
  by_cases o16 : op = 16
  · rw [if_pos o16]
    obtain ⟨r, r1, r', r2, r3, r4⟩ := k_best (N := N) (by omega) (by omega) hB hC hM y1
    rw [r1]
    simp only [Option.bind_some]
    rw [r2]
    simp only [Option.bind_some]
    exact ih r'.2 (r4.mono (by omega))
  rw [if_neg o16]
  by_cases o17 : op = 17
  · rw [if_pos o17]
    obtain ⟨r, r1, r', r2, r3, r4⟩ := k_row (N := N) (by omega) hB hC hM y1
    rw [r1]
    simp only [Option.bind_some]
    rw [r2]
    simp only [Option.bind_some]
    exact ih r'.2 (r4.mono (by omega))
  rw [if_neg o17]
  by_cases o18 : op = 18
  · rw [if_pos o18]
    obtain ⟨r, r1, r', r2, r3, r4⟩ := k_tear (N := N) hB hC hM 
    rw [r1]
    simp only [Option.bind_some]
    rw [r2]
    simp only [Option.bind_some]
    exact ih r'.2 (r4.mono (by omega))
  rw [if_neg o18]
  by_cases o19 : op = 19
  · rw [if_pos o19]
    obtain ⟨r, r1, r', r2, r3, r4⟩ := k_judge (N := N) (by omega) (by omega) hB hC hM y1
    rw [r1]
    simp only [Option.bind_some]
    rw [r2]
    simp only [Option.bind_some]
    exact ih r'.2 (r4.mono (by omega))
  rw [if_neg o19]
  by_cases o20 : op = 20
  · rw [if_pos o20]
    obtain ⟨r, r1, r2⟩ := q_stay (N := N) hN hB hC hM y1 y2 y3
    rw [r1]
    simp only [Option.bind_some]
    rw [r2]
    simp only [Option.bind_some]
    exact ih M hG
  rw [if_neg o20]
  by_cases o21 : op = 21
  · rw [if_pos o21]
    obtain ⟨r, r1, r2⟩ := q_gone (N := N) (by omega) hB hC hM y1 y2
    rw [r1]
    simp only [Option.bind_some]
    rw [r2]
    simp only [Option.bind_some]
    exact ih M hG
  rw [if_neg o21]
  by_cases o22 : op = 22
  · rw [if_pos o22]
    obtain ⟨r, r1, r2⟩ := q_prepared (N := N) (by omega) hB hC hM y1
    rw [r1]
    simp only [Option.bind_some]
    rw [r2]
    simp only [Option.bind_some]
    exact ih M hG
  rw [if_neg o22]
  by_cases o23 : op = 23
  · rw [if_pos o23]
    obtain ⟨r, r1, r', r2, r3, r4⟩ := k_other (N := N) (by omega) (by omega) hB hC hM y1
    rw [r1]
    simp only [Option.bind_some]
    rw [r2]
    simp only [Option.bind_some]
    exact ih r'.2 (r4.mono (by omega))
  rw [if_neg o23]
  by_cases o24 : op = 24
  · rw [if_pos o24]
    obtain ⟨r, r1, r2⟩ := q_count (N := N) (by omega) hB hC hM y1
    rw [r1]
    simp only [Option.bind_some]
    rw [r2]
    simp only [Option.bind_some]
    simp only [if_true]
    exact ih M hG
  rw [if_neg o24]
  exact ih M hG
theorem law_loop {N Ln : Nat} (hN : 200000000 ≤ N) {xs : Nat → Int32} (hL : Ln ≤ 256) : ∀ (c f j : Nat) (M : Mem), Ln < 4 * j + 4 * c + 4 → c < f → 4 * j ≤ Ln + 4 → Good j M → bS (f_L_law_L18 N Ln xs f (nI (4 * j)) M) (fun _ => some 1) = some (1 : Int32) := by
  intro c
  induction c with
  | zero =>
    intro f j M h1 h2 h3 h4
    obtain ⟨f, rfl⟩ : ∃ g, f = g + 1 := ⟨f - 1, by omega⟩
    exact law_stop hL f j M (by omega) (by omega)
  | succ c ih =>
    intro f j M h1 h2 h3 h4
    obtain ⟨f, rfl⟩ : ∃ g, f = g + 1 := ⟨f - 1, by omega⟩
    by_cases h : Ln < 4 * j + 4
    · exact law_stop hL f j M (by omega) h
    · obtain ⟨A, nx, hB, hC, hM⟩ := h4
      exact law_step hN hL f j M (by omega) (by omega) hB hC hM (fun M' hG => ih f (j + 1) M' (by omega) (by omega) (by omega) hG)
theorem law_fine {N Ln : Nat} (hN : 200000000 ≤ N) {xs : Nat → Int32} (hL : Ln ≤ 256) {M : Mem} (hB : RB 0 A0) (hC : RC A0 0 M) (hM : RM A0 M) : f_L_law N Ln xs M = some 1 := by
  unfold f_L_law
  exact law_loop hN hL 1000 N 0 M (by omega) (by omega) (by omega) ⟨A0, 0, hB, hC, hM⟩
