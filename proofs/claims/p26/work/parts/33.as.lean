/-! as, encoreAs, prepared. -/
theorem isU0 {N : Nat} (hN : 1000 ≤ N) {M : Mem} {k x : Nat} (hk : k ≤ 3) (hx : x ≤ 4) : f_X6_isUnder N M 0 (nI (k + 1)) (nI x) = some (if (x = 0 ∨ (if k = 2 then x = 3 else (x = 1 ∨ (x = 2 ∧ k ≠ 0) ∨ (x = 4 ∧ k = 3)))) then 1 else 0) := by
  obtain ⟨n, rfl⟩ : ∃ n, N = n + 6 := ⟨N - 6, by omega⟩
  unfold f_X6_isUnder
  rcases (show k = 0 ∨ k = 1 ∨ k = 2 ∨ k = 3 by omega) with rfl | rfl | rfl | rfl <;> rcases (show x = 0 ∨ x = 1 ∨ x = 2 ∨ x = 3 ∨ x = 4 by omega) with rfl | rfl | rfl | rfl | rfl <;> rfl
theorem isU1 {N : Nat} (hN : 1000 ≤ N) {M : Mem} {k x : Nat} (hk : k ≤ 3) (hx : x ≤ 4) : f_X6_isUnder N M 1 (nI (k + 1)) (nI x) = some (if (x = 0 ∨ (if k = 1 then x = 2 else (x = 1 ∨ (x = 3 ∧ k ≠ 0) ∨ (x = 4 ∧ k = 3)))) then 1 else 0) := by
  obtain ⟨n, rfl⟩ : ∃ n, N = n + 6 := ⟨N - 6, by omega⟩
  unfold f_X6_isUnder
  rcases (show k = 0 ∨ k = 1 ∨ k = 2 ∨ k = 3 by omega) with rfl | rfl | rfl | rfl <;> rcases (show x = 0 ∨ x = 1 ∨ x = 2 ∨ x = 3 ∨ x = 4 by omega) with rfl | rfl | rfl | rfl | rfl <;> rfl
theorem q_as {N n nx : Nat} (hN : 1000 ≤ N) {M : Mem} {A : Ab} (hB : RB n A) (hC : RC A nx M) (hM : RM A M) (x y : Int32) : Same (f_X6_as N M x y) (f_X7_as N M x y) := by
  obtain ⟨hT, hE, -⟩ := hC
  obtain ⟨hT', hS, -⟩ := hM
  have ht := hB.1
  have hs := hB.2.1
  have h0 := ht.1
  unfold f_X6_as f_X7_as
  rcases ix3 x (n := aT A 0) (by omega) with h | ⟨c, hc, rfl⟩
  · rw [c_hasClapperO hT.1 h, m_isClapperO ht hT' h]
    exact ⟨_, rfl, rfl⟩
  · rw [c_hasClapper ht hT.1 hc, m_isClapper ht hT' (by omega), if_pos hc]
    rcases ix3 y (n := 5) (by omega) with h | ⟨d, hd, rfl⟩
    · have e : f_X7_in N M y 0 4 = some 0 := in_out (b := 4) h (by omega)
      rw [e]
      by_cases hy : y < 0
      · simp only [Option.bind_some, if_pos hy]
        exact ⟨_, rfl, rfl⟩
      · have h4 : ¬ y ≤ (4 : Int32) := nlt_of_lt (out_le (j := 4) h hy (by omega) (by omega))
        simp only [Option.bind_some, if_neg hy, if_neg h4]
        exact ⟨_, rfl, rfl⟩
    · have e : f_X7_in N M (nI d) 0 4 = some 1 := in_in (b := 4) (by omega) (by omega)
      have b1 : inb (nI c) 8 = true := by rw [inb_nI (by omega)]; simp; omega
      have b2 : (nI c).toNatClampNeg = c := n_cl (by omega)
      have b3 : inb (nI (5 + c)) 45 = true := by rw [inb_nI (by omega)]; simp; omega
      have b4 : (nI (5 + c)).toNatClampNeg = 5 + c := n_cl (by omega)
      have c1 : M 2 c = nI (aT A (5 + c)) := hT.2.2.2.2.2.1 c hc
      have d1 := hT' (5 + c) (by omega)
      have h3 := (ht.2.2.2.2.2.1 c hc).1
      have hl := c_lessByWait (N := N) ht hs hT hE.2.2.2.2.2.2.2.1 hc (hE.2.2.2.2.2.2.2.2 c hc)
      have u0 := isU0 (M := M) hN h3 (show d ≤ 4 by omega)
      have u : M 2 (nI c).toNatClampNeg + 1 = nI (aT A (5 + c) + 1) := by rw [b2, c1, nI_1]
      have v : M 72 ((5 : Int32) + nI c).toNatClampNeg = nI (aT A (5 + c)) := by show M 72 (nI 5 + nI c).toNatClampNeg = _; rw [nI_add, b4, d1]
      have b5 : inb ((5 : Int32) + nI c) 45 = true := by show inb (nI 5 + nI c) 45 = true; rw [nI_add]; exact b3
      rw [e, c_whoClaps hN ht hs hT hE, m_loses hN ht hs (by omega) hT' hS hc, u, u0, v, b1, b5]
      simp only [Option.bind_some]
      rw [hl]
      clear e u u0 v hl d1 c1
      rcases (show aT A (5 + c) = 0 ∨ aT A (5 + c) = 1 ∨ aT A (5 + c) = 2 ∨ aT A (5 + c) = 3 by omega) with hk | hk | hk | hk <;> rw [hk] <;> rcases (show d = 0 ∨ d = 1 ∨ d = 2 ∨ d = 3 ∨ d = 4 by omega) with rfl | rfl | rfl | rfl | rfl <;> exact ⟨_, rfl, rfl⟩
theorem q_encoreAs {N n nx : Nat} (hN : 1000 ≤ N) {M : Mem} {A : Ab} (hB : RB n A) (hC : RC A nx M) (hM : RM A M) (x y : Int32) : Same (f_X6_encoreAs N M x y) (f_X7_encoreAs N M x y) := by
  obtain ⟨hT, hE, -⟩ := hC
  obtain ⟨hT', hS, -⟩ := hM
  have ht := hB.1
  have hs := hB.2.1
  have h1 := ht.2.1
  unfold f_X6_encoreAs f_X7_encoreAs
  rcases ix3 x (n := aT A 1) (by omega) with h | ⟨c, hc, rfl⟩
  · rw [c_hasEncoreO hT.2.1 h, m_isEncoreO ht hT' h]
    exact ⟨_, rfl, rfl⟩
  · rw [c_hasEncore ht hT.2.1 (by omega), m_isEncore ht hT' (by omega), if_pos hc]
    rcases ix3 y (n := 5) (by omega) with h | ⟨d, hd, rfl⟩
    · have e : f_X7_in N M y 0 4 = some 0 := in_out (b := 4) h (by omega)
      rw [e]
      by_cases hy : y < 0
      · simp only [Option.bind_some, if_pos hy]
        exact ⟨_, rfl, rfl⟩
      · have h4 : ¬ y ≤ (4 : Int32) := nlt_of_lt (out_le (j := 4) h hy (by omega) (by omega))
        simp only [Option.bind_some, if_neg hy, if_neg h4]
        exact ⟨_, rfl, rfl⟩
    · have e : f_X7_in N M (nI d) 0 4 = some 1 := in_in (b := 4) (by omega) (by omega)
      have b1 : inb (nI c) 4 = true := by rw [inb_nI (by omega)]; simp; omega
      have b2 : (nI c).toNatClampNeg = c := n_cl (by omega)
      have b3 : inb (nI (29 + c)) 45 = true := by rw [inb_nI (by omega)]; simp; omega
      have b4 : (nI (29 + c)).toNatClampNeg = 29 + c := n_cl (by omega)
      have c1 : M 5 c = nI (aT A (29 + c)) := hT.2.2.2.2.2.2.2.2.1 c hc
      have d1 := hT' (29 + c) (by omega)
      have h3 := (ht.2.2.2.2.2.2 c hc).1
      have z1 := c_zealBehind (N := N) (M := M) (h := 7) (c := 9) h3 (by omega) (by omega)
      have z2 := m_behind (N := N) (M := M) (h := 7) (c := 9) h3 (by omega) (by omega)
      have u0 := isU1 (M := M) hN h3 (show d ≤ 4 by omega)
      have u : M 5 (nI c).toNatClampNeg = nI (aT A (29 + c)) := by rw [b2, c1]
      have v : M 72 ((29 : Int32) + nI c).toNatClampNeg = nI (aT A (29 + c)) := by show M 72 (nI 29 + nI c).toNatClampNeg = _; rw [nI_add, b4, d1]
      have b5 : inb ((29 : Int32) + nI c) 45 = true := by show inb (nI 29 + nI c) 45 = true; rw [nI_add]; exact b3
      have z3 : f_X6_zealBehind N M (nI (aT A (29 + c))) 7 9 = some (nI (beh (aT A (29 + c)) 7 9)) := z1
      have z4 : f_X7_behind N M (nI (aT A (29 + c))) 7 9 = some (nI (beh (aT A (29 + c)) 7 9)) := z2
      rw [e, u, nI_1, u0, v, b1, b5, z3, z4]
      clear e u u0 v z1 z2 z3 z4 d1 c1
      rcases (show aT A (29 + c) = 0 ∨ aT A (29 + c) = 1 ∨ aT A (29 + c) = 2 ∨ aT A (29 + c) = 3 by omega) with hk | hk | hk | hk <;> rw [hk] <;> rcases (show d = 0 ∨ d = 1 ∨ d = 2 ∨ d = 3 ∨ d = 4 by omega) with rfl | rfl | rfl | rfl | rfl <;> exact ⟨_, rfl, rfl⟩
