/-! A step, what lacks; bounds kept. -/
theorem beh_le {k h c : Nat} (h3 : h ≤ 40) (h4 : c ≤ 40) : beh k h c ≤ 40 := by
  unfold beh
  split
  · omega
  · split
    · split <;> omega
    · split
      · split <;> omega
      · split
        · omega
        · split <;> omega
theorem WS.mono {t s : Nat → Nat} {m n m' n' : Nat} (h : WS t s m n) (hm : m ≤ m') (hn : n ≤ n') : WS t s m' n' := ⟨Nat.le_trans h.1 hm, h.2.1, Nat.le_trans h.2.2.1 hn, h.2.2.2.1, h.2.2.2.2⟩
theorem WS.wait {t s : Nat → Nat} {m n : Nat} (hs : WS t s m n) : WS t (waitS t s) (m + 1) n := by
  refine ⟨?_, hs.2.1, hs.2.2.1, hs.2.2.2.1, fun c hc => ?_⟩
  · show s 0 + 1 ≤ _; have := hs.1; omega
  · unfold waitS minS
    rw [if_neg (by omega), if_neg (by omega)]
    unfold losS
    rw [if_pos (by omega)]
    have := hs.2.2.2.2 c hc
    omega
theorem WS.bow {t s : Nat → Nat} {m n : Nat} (hs : WS t s m n) : WS t (bowS t s) m (n + 1) := by
  refine ⟨hs.1, hs.2.1, ?_, hs.2.2.2.1, fun c hc => ?_⟩
  · show s 2 + 1 ≤ _; have := hs.2.2.1; omega
  · unfold bowS
    rw [if_neg (by omega), if_pos (by omega)]
    have := hs.2.2.2.2 c hc
    split
    · split <;> omega
    · omega
theorem playS_0 (t s : Nat → Nat) (e : Nat) : playS t s e 0 = s 0 + t (33 + e) := itr_min0 t _ s
theorem playS_2 (t s : Nat → Nat) (e : Nat) : playS t s e 2 = s 2 := itr_minO t (by decide) (by decide) _ s
theorem playS_5 (t s : Nat → Nat) (e : Nat) : playS t s e 5 = s 5 ||| 2 ^ e := by
  show itr (minS t) (t (33 + e)) s 5 ||| 2 ^ e = _
  rw [itr_minO t (by decide) (by decide)]
theorem playS_1 (t s : Nat → Nat) (e : Nat) : playS t s e 1 = s 1 - t (37 + e) := by
  show itr (minS t) (t (33 + e)) s 1 - t (37 + e) = _
  rw [itr_minO t (by decide) (by decide)]
theorem WS.play {t s : Nat → Nat} {m n e : Nat} (ht : WT t) (hs : WS t s m n) (he : e < t 1) : WS t (playS t s e) (m + 9) n := by
  have h1 := ht.2.1
  have w := ht.2.2.2.2.2.2 e he
  refine ⟨?_, ?_, ?_, ?_, fun c hc => ?_⟩
  · rw [playS_0]; have := hs.1; omega
  · rw [playS_1]; have := hs.2.1; omega
  · rw [playS_2]; exact hs.2.2.1
  · rw [playS_5]
    exact Nat.or_lt_two_pow (n := 4) hs.2.2.2.1 (Nat.pow_lt_pow_right (by decide) (by omega))
  · unfold playS play3
    rw [if_neg (by omega)]
    unfold play2
    rw [if_pos (by omega)]
    have h2 : play1 t (itr (minS t) (t (33 + e)) s) e (6 + c) = s (6 + c) := by
      unfold play1
      rw [if_neg (by omega), if_neg (by omega), itr_minO t (by omega) (by omega)]
    rw [h2]
    have h3 := hs.2.2.2.2 c hc
    have h4 := (ht.2.2.2.2.2.1 c hc).2.1
    split
    · exact beh_le h3 (by rw [show 7 + (6 + c) = 13 + c by omega]; omega)
    · exact h3
theorem can_enc {t s : Nat → Nat} {x : Nat} (h : canS t s x = true) (h2 : 2 ≤ x) : x - 2 < t 1 ∧ t (37 + (x - 2)) ≤ s 1 := by
  unfold canS at h
  rw [if_neg (by omega), if_neg (by omega), Bool.and_eq_true] at h
  have hr := h.1
  unfold rdy at hr
  simp only [Bool.and_eq_true, decide_eq_true_iff] at hr
  exact ⟨hr.1, hr.2.2⟩
theorem WS.step {t s : Nat → Nat} {m n x : Nat} (ht : WT t) (hs : WS t s m n) (hx : canS t s x = true) : WS t (stepS t s x) (m + 9) (n + 1) := by
  unfold stepS
  split
  · exact hs.wait.mono (by omega) (by omega)
  · split
    · exact hs.bow.mono (by omega) (by omega)
    · exact (WS.play ht hs (can_enc hx (by omega)).1).mono (by omega) (by omega)
theorem m_steps {N : Nat} (hN : 1000 ≤ N) {M : Mem} {t s : Nat → Nat} {x m n : Nat} (ht : WT t) (hs : WS t s m n) (hm : m < 1000000) (hn : n < 1000000) (hT : MT t M) (hS : MS s M) (hx : canS t s x = true) (hx6 : x < 1000) :
    Ok (f_X7_steps N M (nI x)) (fun M' => MS (stepS t s x) M' ∧ ∀ a b, a ≠ 74 → M' a b = M a b) := by
  unfold f_X7_steps stepS
  simp (disch := omega) only [i0, i1, i2, n_eq]
  by_cases h0 : x = 0
  · rw [if_pos h0, if_pos h0]
    exact Ok.bind (m_waitsOne hN ht hs (by omega) hT hS) (fun a h => Ok.ret h)
  · rw [if_neg h0, if_neg h0]
    by_cases h1 : x = 1
    · rw [if_pos h1, if_pos h1]
      exact Ok.bind (m_bows hN ht hs (by omega) hn hT hS) (fun a h => Ok.ret h)
    · rw [if_neg h1, if_neg h1, n_sub (by omega)]
      have hr := can_enc hx (by omega)
      exact Ok.bind (m_plays hN ht hs hm hT hS hr.1 hr.2) (fun a h => Ok.ret h)
/-- a step that there is -/
def isStep (t : Nat → Nat) (x : Nat) : Bool := decide (x < 2) || decide (x - 2 < t 1)
theorem m_lacks {N : Nat} (hN : 1000 ≤ N) {M : Mem} {t s : Nat → Nat} {x m n : Nat} (ht : WT t) (hs : WS t s m n) (hm : m < 1000000) (hT : MT t M) (hS : MS s M) (hx : x ≤ 5) :
    f_X7_lacks N M (nI x) = some (if isStep t x = true then (if canS t s x = true then 0 else -4) else -2) := by
  have hn := nois_le ht hs
  have h1 := hs.2.1
  have h5 := hs.2.2.2.1
  unfold f_X7_lacks f_X7_in
  rw [m_noise hN ht hs (by omega) hT hS]
  by_cases h2 : x < 2
  · rcases (show x = 0 ∨ x = 1 by omega) with rfl | rfl
    · rfl
    · simp (disch := omega) only [i0, i1, i2, i5, n_lt, n_le, n_eq, Option.bind_some]
      unfold isStep canS
      by_cases h3 : nois t s = 0
      · have : ¬ 0 < nois t s := by omega
        simp [h3, n_eq]
      · have : 0 < nois t s := by omega
        simp [h3, this, n_eq]
  · have g5 := hS 5 (by omega)
    have g1 := hS 1 (by omega)
    have g7 := hT (37 + (x - 2)) (by omega)
    have h45 : 37 + (x - 2) < 45 := by omega
    have hxs : nI x - nI 2 = nI (x - 2) := n_sub (by omega)
    unfold isStep canS rdy
    by_cases h3 : x - 2 < t 1
    · have w := ht.2.2.2.2.2.2 (x - 2) h3
      simp (disch := omega) only [i0, i1, i2, i5, i31, i37, n_lt, n_le, n_eq, Option.bind_some, hxs, m_isEncore ht hT, g5, g1, bt1, nI_add, inb_nI, n_cl, g7]
      have q1 : ¬ x < 0 := by omega
      have q2 : ¬ 5 < x := by omega
      have q3 : 2 ≤ x := by omega
      have q4 : ¬ x = 0 := by omega
      have q5 : ¬ x = 1 := by omega
      cases hb : (s 5).testBit (x - 2) with
      | true => simp [q1, q2, q3, q4, q5, h2, h3, n_eq]
      | false =>
        by_cases h6 : nois t s = 0
        · simp [q1, q2, q3, q4, q5, h2, h3, h6, n_eq]
        · have : 0 < nois t s := by omega
          by_cases h7 : t (37 + (x - 2)) ≤ s 1
          · simp [q1, q2, q3, q4, q5, h2, h3, h6, h7, h45, this, n_eq]
          · simp [q1, q2, q3, q4, q5, h2, h3, h6, h7, h45, n_eq]
    · simp (disch := omega) only [i0, i1, i2, i5, n_lt, n_le, Option.bind_some, hxs, m_isEncore ht hT]
      have q1 : ¬ x < 0 := by omega
      have q2 : ¬ 5 < x := by omega
      have q3 : 2 ≤ x := by omega
      simp [q1, q2, q3, h2, h3, n_eq]
theorem m_lacksO {N : Nat} {M : Mem} {x : Int32} (hx : x < 0 ∨ nI 6 ≤ x) : f_X7_lacks N M x = some (-3) := by
  unfold f_X7_lacks f_X7_in
  rcases hx with h | h
  · rw [if_pos h]; rfl
  · have h1 : ¬ x < 0 := fun q => by
      have h2 := Int32.lt_iff_toInt_lt.mp q
      have h3 := Int32.le_iff_toInt_le.mp h
      rw [nI_toInt (by decide)] at h3
      have : (0 : Int32).toInt = 0 := rfl
      omega
    have h4 : (5 : Int32) < x := by
      rw [Int32.lt_iff_toInt_lt]
      have h3 := Int32.le_iff_toInt_le.mp h
      rw [nI_toInt (by decide)] at h3
      have : (5 : Int32).toInt = 5 := rfl
      omega
    rw [if_neg h1, if_pos h4]; rfl
theorem c_refusal {N : Nat} {M : Mem} {t : Nat → Nat} {x : Nat} (ht : WT t) (hT : TC t M 1) (hx : x ≤ 5) : f_X6_refusalOf N M (nI x) = some (if isStep t x = true then 0 else -2) := by
  unfold f_X6_refusalOf isStep
  by_cases h2 : x < 2
  · simp (disch := omega) only [i0, i1, i2, i5, n_lt, n_le]
    have q1 : ¬ x < 0 := by omega
    have q2 : x ≤ 5 := by omega
    simp [q1, q2, h2]
  · have hxs : nI x - nI 2 = nI (x - 2) := n_sub (by omega)
    simp (disch := omega) only [i0, i1, i2, i5, n_lt, n_le, hxs, c_hasEncore ht hT.2.1]
    have q1 : ¬ x < 0 := by omega
    by_cases h3 : x - 2 < t 1
    · simp [q1, hx, h2, h3, n_eq]
    · simp [q1, hx, h2, h3, n_eq]
theorem c_refusalO {N : Nat} {M : Mem} {x : Int32} (hx : x < 0 ∨ nI 6 ≤ x) : f_X6_refusalOf N M x = some (-3) := by
  unfold f_X6_refusalOf
  rcases hx with h | h
  · rw [if_pos h]
  · have h1 : ¬ x < 0 := fun q => by
      have h2 := Int32.lt_iff_toInt_lt.mp q
      have h3 := Int32.le_iff_toInt_le.mp h
      rw [nI_toInt (by decide)] at h3
      have : (0 : Int32).toInt = 0 := rfl
      omega
    have h4 : ¬ x ≤ (5 : Int32) := fun q => by
      have h2 := Int32.le_iff_toInt_le.mp q
      have h3 := Int32.le_iff_toInt_le.mp h
      rw [nI_toInt (by decide)] at h3
      have : (5 : Int32).toInt = 5 := rfl
      omega
    rw [if_neg h1, if_neg h4]
