/-! Calls that only read: both answer the same. -/
def Same {α : Type} (x y : Option α) : Prop := ∃ r, x = some r ∧ y = some r
theorem ex_ite {α : Type} {c : Prop} [Decidable c] {a b : Option α} (ha : ∃ r, a = some r) (hb : ∃ r, b = some r) : ∃ r, (if c then a else b) = some r := by
  split
  · exact ha
  · exact hb
theorem out_ne {x : Int32} {n j : Nat} (h : x < 0 ∨ nI n ≤ x) (hj : j < n) (hn : n < 2147483648) : x ≠ nI j := by
  intro q
  subst q
  rcases h with h | h
  · exact nI_pos (by omega) h
  · rw [n_le hn (by omega)] at h; omega
theorem out_le {x : Int32} {n j : Nat} (h : x < 0 ∨ nI n ≤ x) (h0 : ¬ x < 0) (hj : j < n) (hn : n < 2147483648) : nI j < x := by
  rcases h with h | h
  · exact absurd h h0
  · rw [Int32.lt_iff_toInt_lt]
    have h3 := Int32.le_iff_toInt_le.mp h
    rw [nI_toInt hn] at h3
    rw [nI_toInt (by omega)]
    omega
theorem nlt_of_lt {x y : Int32} (h : x < y) : ¬ y ≤ x := by
  rw [Int32.lt_iff_toInt_lt] at h
  rw [Int32.le_iff_toInt_le]
  omega
theorem in_out {N : Nat} {M : Mem} {x : Int32} {b : Nat} (h : x < 0 ∨ nI (b + 1) ≤ x) (hb : b + 1 < 2147483648) : f_X7_in N M x 0 (nI b) = some 0 := by
  unfold f_X7_in
  by_cases h0 : x < 0
  · rw [if_pos h0]
  · rw [if_neg h0, if_pos (out_le h h0 (by omega) hb)]
theorem in_in {N : Nat} {M : Mem} {j b : Nat} (h : j ≤ b) (hb : b < 2147483648) : f_X7_in N M (nI j) 0 (nI b) = some 1 := by
  unfold f_X7_in
  rw [if_neg (nI_pos (by omega)), if_neg (by rw [n_lt hb (by omega)]; omega)]
theorem m_isClapperO {N : Nat} {M : Mem} {t : Nat → Nat} {x : Int32} (ht : WT t) (hT : MT t M) (hx : x < 0 ∨ nI (t 0) ≤ x) : f_X7_isClapper N M x = some 0 := by
  have h0 := ht.1
  unfold f_X7_isClapper f_X7_in
  by_cases h : x < 0
  · rw [if_pos h]; rfl
  · have h1 : M 72 0 - 1 < x := by
      rw [hT 0 (by omega)]
      show nI (t 0) - nI 1 < x
      rw [Int32.lt_iff_toInt_lt, pk_sub_toInt (by omega) (by decide)]
      rcases hx with q | q
      · exact absurd q h
      · have h3 := Int32.le_iff_toInt_le.mp q
        rw [nI_toInt (by omega)] at h3
        omega
    rw [if_neg h, if_pos h1]; rfl
theorem m_isEncoreO {N : Nat} {M : Mem} {t : Nat → Nat} {x : Int32} (ht : WT t) (hT : MT t M) (hx : x < 0 ∨ nI (t 1) ≤ x) : f_X7_isEncore N M x = some 0 := by
  have h0 := ht.2.1
  unfold f_X7_isEncore f_X7_in
  by_cases h : x < 0
  · rw [if_pos h]; rfl
  · have h1 : M 72 1 - 1 < x := by
      rw [hT 1 (by omega)]
      show nI (t 1) - nI 1 < x
      rw [Int32.lt_iff_toInt_lt, pk_sub_toInt (by omega) (by decide)]
      rcases hx with q | q
      · exact absurd q h
      · have h3 := Int32.le_iff_toInt_le.mp q
        rw [nI_toInt (by omega)] at h3
        omega
    rw [if_neg h, if_pos h1]; rfl
theorem c_hasClapper {N : Nat} {M : Mem} {t : Nat → Nat} {c : Nat} (ht : WT t) (h7 : M 1 7 = nI (t 0)) (hc : c < t 0) : f_X5_hasClapper N M 1 (nI c) = some 1 := by
  have h0 := ht.1
  unfold f_X5_hasClapper
  rw [if_neg (nI_pos (by omega)), h7, if_neg (by rw [n_le (by omega) (by omega)]; omega)]
theorem c_hasClapperO {N : Nat} {M : Mem} {t : Nat → Nat} {x : Int32} (h7 : M 1 7 = nI (t 0)) (hx : x < 0 ∨ nI (t 0) ≤ x) : f_X5_hasClapper N M 1 x = some 0 := by
  unfold f_X5_hasClapper
  by_cases h : x < 0
  · rw [if_pos h]
  · rw [if_neg h, h7, if_pos (by rcases hx with q | q; exact absurd q h; exact q)]
theorem c_hasEncoreO {N : Nat} {M : Mem} {t : Nat → Nat} {x : Int32} (h7 : M 1 8 = nI (t 1)) (hx : x < 0 ∨ nI (t 1) ≤ x) : f_X5_hasEncore N M 1 x = some 0 := by
  unfold f_X5_hasEncore
  by_cases h : x < 0
  · rw [if_pos h]
  · rw [if_neg h, h7, if_pos (by rcases hx with q | q; exact absurd q h; exact q)]
theorem c_isThere {N : Nat} {M : Mem} {t s : Nat → Nat} {k c : Nat} (ht : WT t) (hE : EC t s M k) (hc : c < 32) : f_X1_isThere N M k (nI c) = some (if isT t s c = true then nI 1 else nI 0) := by
  have hb := thB_lt (s := s) ht
  unfold f_X1_isThere
  simp (disch := omega) only [hE.1, i0, i1, i31, bt0, tb_th]
  cases isT t s c <;> rfl
theorem ix3 (x : Int32) {n : Nat} (hn : n < 2147483648) : (x < 0 ∨ nI n ≤ x) ∨ ∃ j, j < n ∧ x = nI j := by
  rcases pk_ix x hn with h | h | h
  · exact Or.inl (Or.inl h)
  · exact Or.inl (Or.inr h)
  · exact Or.inr h
theorem q_clapper {N n nx : Nat} {M : Mem} {A : Ab} (hB : RB n A) (hC : RC A nx M) (hM : RM A M) (x y : Int32) : Same (f_X6_clapper N M x y) (f_X7_clapper N M x y) := by
  obtain ⟨hT, hE, -⟩ := hC
  obtain ⟨hT', hS, -⟩ := hM
  have ht := hB.1
  have hs := hB.2.1
  have h0 := ht.1
  unfold f_X6_clapper f_X7_clapper
  rcases ix3 x (n := aT A 0) (by omega) with h | ⟨c, hc, rfl⟩
  · rw [c_hasClapperO hT.1 h, m_isClapperO ht hT' h]
    exact ⟨_, rfl, rfl⟩
  · rw [c_hasClapper ht hT.1 hc, m_isClapper ht hT' (by omega), if_pos hc, c_isThere ht hE (by omega), c_isClapping ht hs hE hc, m_isThere ht hs (by omega) hT' hS (by omega), m_claps ht hs (by omega) hT' hS (by omega)]
    have b1 : inb (nI c) 8 = true := by rw [inb_nI (by omega)]; simp; omega
    have b2 : (nI c).toNatClampNeg = c := n_cl (by omega)
    have b3 : ∀ k, k ≤ 30 → inb (nI k + nI c) 45 = true := fun k hk => by rw [nI_add, inb_nI (by omega)]; simp; omega
    have b4 : ∀ k, k ≤ 30 → (nI k + nI c).toNatClampNeg = k + c := fun k hk => by rw [nI_add, n_cl (by omega)]
    have b5 : inb (nI 6 + nI c) 14 = true := by rw [nI_add, inb_nI (by omega)]; simp; omega
    simp (disch := omega) only [Option.bind_some, i0, i1, i2, i3, i4, i5, i6, i13, i21, b1, b2, b3, b4, b5, if_true, n_eq, if_neg (show ¬ (1 : Nat) = 0 by decide)]
    have c1 : M 2 c = M 72 (5 + c) := by rw [hT' _ (by omega)]; exact hT.2.2.2.2.2.1 c hc
    have c2 : M 22 c = M 74 (6 + c) := by rw [hS _ (by omega)]; exact hE.2.2.2.2.2.2.2.2 c hc
    have c3 : M 4 c = M 72 (21 + c) := by rw [hT' _ (by omega)]; exact hT.2.2.2.2.2.2.2.1 c hc
    have c4 : M 3 c = M 72 (13 + c) := by rw [hT' _ (by omega)]; exact hT.2.2.2.2.2.2.1 c hc
    rw [c1, c2, c3, c4]
    repeat' split
    all_goals exact ⟨_, rfl, rfl⟩
theorem q_encore {N n nx : Nat} {M : Mem} {A : Ab} (hB : RB n A) (hC : RC A nx M) (hM : RM A M) (x y : Int32) : Same (f_X6_encore N M x y) (f_X7_encore N M x y) := by
  obtain ⟨hT, hE, -⟩ := hC
  obtain ⟨hT', hS, -⟩ := hM
  have ht := hB.1
  have hs := hB.2.1
  have h1 := ht.2.1
  have h5 := hs.2.2.2.1
  unfold f_X6_encore f_X7_encore
  rcases ix3 x (n := aT A 1) (by omega) with h | ⟨c, hc, rfl⟩
  · rw [c_hasEncoreO hT.2.1 h, m_isEncoreO ht hT' h]
    exact ⟨_, rfl, rfl⟩
  · rw [c_hasEncore ht hT.2.1 (by omega), m_isEncore ht hT' (by omega), if_pos hc]
    rcases ix3 y (n := 5) (by omega) with h | ⟨d, hd, rfl⟩
    · have e : f_X7_in N M y 0 4 = some 0 := in_out (b := 4) h (by omega)
      rw [e]
      have n10 : ¬ (nI 1 : Int32) = 0 := by decide
      simp only [Option.bind_some, if_neg n10, if_true]
      rw [if_neg (show ¬ y = (0 : Int32) from out_ne (j := 0) h (by omega) (by omega)), if_neg (show ¬ y = (1 : Int32) from out_ne (j := 1) h (by omega) (by omega)), if_neg (show ¬ y = (2 : Int32) from out_ne (j := 2) h (by omega) (by omega)), if_neg (show ¬ y = (3 : Int32) from out_ne (j := 3) h (by omega) (by omega)), if_neg (show ¬ y = (4 : Int32) from out_ne (j := 4) h (by omega) (by omega))]
      exact ⟨_, rfl, rfl⟩
    · have e : f_X7_in N M (nI d) 0 4 = some 1 := in_in (b := 4) (by omega) (by omega)
      rw [e]
      have b1 : inb (nI c) 4 = true := by rw [inb_nI (by omega)]; simp; omega
      have b2 : (nI c).toNatClampNeg = c := n_cl (by omega)
      have b3 : inb (nI (29 + 4 * d + c)) 45 = decide (29 + 4 * d + c < 45) := inb_nI (by omega)
      have c1 : M 5 c = nI (aT A (29 + c)) := hT.2.2.2.2.2.2.2.2.1 c hc
      have c2 : M 6 c = nI (aT A (33 + c)) := hT.2.2.2.2.2.2.2.2.2.1 c hc
      have c3 : M 7 c = nI (aT A (37 + c)) := hT.2.2.2.2.2.2.2.2.2.2.1 c hc
      have c4 : M 8 c = nI (aT A (41 + c)) := hT.2.2.2.2.2.2.2.2.2.2.2 c hc
      have d1 := hT' (29 + c) (by omega)
      have d2 := hT' (33 + c) (by omega)
      have d3 := hT' (37 + c) (by omega)
      have d4 := hT' (41 + c) (by omega)
      have e4 : M 21 4 = nI (aS A 5) := hE.2.2.2.1
      have e5 := hS 5 (by omega)
      unfold f_X1_wasPlayed
      simp (disch := omega) only [Option.bind_some, i0, i1, i2, i3, i4, i29, i31, b1, b2, b3, pk_mul, nI_add, if_true, n_eq, n_le, n_cl, if_neg (show ¬ (1 : Nat) = 0 by decide), e4, e5, bt0, btv]
      rcases (show d = 0 ∨ d = 1 ∨ d = 2 ∨ d = 3 ∨ d = 4 by omega) with rfl | rfl | rfl | rfl | rfl
      · simp [c1, d1, show 29 + c < 45 by omega]; exact ⟨_, rfl, rfl⟩
      · simp [c2, d2, show 33 + c < 45 by omega]; exact ⟨_, rfl, rfl⟩
      · simp [c3, d3, show 37 + c < 45 by omega]; exact ⟨_, rfl, rfl⟩
      · simp [c4, d4, show 41 + c < 45 by omega]; exact ⟨_, rfl, rfl⟩
      · cases (aS A 5).testBit c
        · simp; exact ⟨_, rfl, rfl⟩
        · simp [n_eq]; exact ⟨_, rfl, rfl⟩
theorem q_can {N n nx : Nat} (hN : 1000 ≤ N) {M : Mem} {A : Ab} (hB : RB n A) (hC : RC A nx M) (hM : RM A M) (x : Int32) : Same (f_X6_can N M x) (f_X7_can N M x) := by
  obtain ⟨hT, hE, -⟩ := hC
  obtain ⟨hT', hS, -⟩ := hM
  have ht := hB.1
  have hs := hB.2.1
  unfold f_X6_can f_X7_can
  rcases ix3 x (n := 6) (by omega) with h | ⟨c, hc, rfl⟩
  · rw [c_refusalO h, m_lacksO h]
    exact ⟨_, rfl, rfl⟩
  · rw [c_refusal ht hT (by omega), m_lacks hN ht hs (by omega) hT' hS (by omega), c_isPossible hN ht hs hT hE (by omega)]
    cases isStep (aT A) c
    · exact ⟨_, rfl, rfl⟩
    · cases canS (aT A) (aS A) c <;> exact ⟨_, rfl, rfl⟩
theorem q_count {N n nx : Nat} (hN : 1000 ≤ N) {M : Mem} {A : Ab} (hB : RB n A) (hC : RC A nx M) (hM : RM A M) (x : Int32) : Same (f_X6_count N M x) (f_X7_count N M x) := by
  obtain ⟨hT, hE, ⟨hL, -⟩, ⟨hr, -⟩, ⟨hz, -⟩, -⟩ := hC
  obtain ⟨hT', hS, ⟨hL', -⟩, ⟨hr', -⟩, ⟨hz', -⟩, -⟩ := hM
  have ht := hB.1
  have hs := hB.2.1
  unfold f_X6_count f_X7_count
  rw [c_noise hN ht hT hE, m_noise hN ht hs (by omega) hT' hS, m_thereNow hN ht hs (by omega) hT' hS, hT.1, hT.2.1, hE.1, hE.2.1, hE.2.2.1, hE.2.2.2.1, hE.2.2.2.2.1, hE.2.2.2.2.2.1, hE.2.2.2.2.2.2.1, hL, hr, hz, hL', hr', hz', hT' 0 (by omega), hT' 1 (by omega), hS 0 (by omega), hS 1 (by omega), hS 2 (by omega), hS 3 (by omega), hS 4 (by omega), hS 5 (by omega)]
  have h : ∃ r, (if x = 0 then some (nI (aT A 0)) else if x = 1 then some (nI (aT A 1)) else if x = 2 then some (nI (aS A 0)) else if x = 3 then some (nI (nois (aT A) (aS A))) else if x = 4 then some (nI (aS A 1)) else if x = 5 then some (nI (aS A 2)) else if x = 6 then some (nI (aS A 3)) else if x = 7 then some (nI (aS A 4)) else if x = 8 then some (nI (thB (aT A) (aS A))) else if x = 9 then some (nI (aS A 5)) else if x = 10 then some (nI (aM A)) else if x = 11 then some (nI (aZ A)) else if x = 12 then some (nI (aL A)) else some (-3)) = some r := by
    repeat' apply ex_ite
    all_goals exact ⟨_, rfl⟩
  obtain ⟨r, hr⟩ := h
  exact ⟨r, hr, hr⟩
