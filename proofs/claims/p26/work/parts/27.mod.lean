/-! The model's evening, method by method. -/
def MT (t : Nat → Nat) (M : Mem) : Prop := ∀ j, j < 45 → M 72 j = nI (t j)
def MS (s : Nat → Nat) (M : Mem) : Prop := ∀ j, j < 14 → M 74 j = nI (s j)
theorem m_isClapper {N : Nat} {M : Mem} {t : Nat → Nat} {c : Nat} (ht : WT t) (hT : MT t M) (hc : c < 1000) : f_X7_isClapper N M (nI c) = some (if c < t 0 then nI 1 else nI 0) := by
  have h0 := ht.1
  have g0 := hT 0 (by omega)
  unfold f_X7_isClapper f_X7_in
  rw [g0]
  by_cases hz : t 0 = 0
  · rw [hz]
    have h1 : (nI 0 - 1 : Int32) < nI c := by
      show nI 0 - nI 1 < nI c
      have := nI_toInt (n := c) (by omega)
      have h2 := pk_sub_toInt (a := 0) (b := 1) (by decide) (by decide)
      rw [Int32.lt_iff_toInt_lt, this, h2]
      omega
    rw [if_pos h1, if_neg (by show ¬ nI c < nI 0; rw [n_lt (by omega) (by omega)]; omega), if_neg (by omega)]
    rfl
  · simp (disch := omega) only [i0, i1, n_sub, n_lt]
    rw [if_neg (by omega)]
    by_cases h : c < t 0
    · rw [if_neg (by omega), if_pos h]; rfl
    · rw [if_pos (by omega), if_neg h]; rfl
theorem m1lt : (nI 0 - nI 1 : Int32) < 0 := by decide
theorem m_isClapperN {N : Nat} {M : Mem} : f_X7_isClapper N M (nI 0 - nI 1) = some (nI 0) := by
  unfold f_X7_isClapper f_X7_in
  rw [if_pos m1lt]; rfl
theorem m_isEncore {N : Nat} {M : Mem} {t : Nat → Nat} {c : Nat} (ht : WT t) (hT : MT t M) (hc : c < 1000) : f_X7_isEncore N M (nI c) = some (if c < t 1 then nI 1 else nI 0) := by
  have h0 := ht.2.1
  have g0 := hT 1 (by omega)
  unfold f_X7_isEncore f_X7_in
  rw [g0]
  by_cases hz : t 1 = 0
  · rw [hz]
    have h1 : (nI 0 - 1 : Int32) < nI c := by
      show nI 0 - nI 1 < nI c
      have := nI_toInt (n := c) (by omega)
      have h2 := pk_sub_toInt (a := 0) (b := 1) (by decide) (by decide)
      rw [Int32.lt_iff_toInt_lt, this, h2]
      omega
    rw [if_pos h1, if_neg (by show ¬ nI c < nI 0; rw [n_lt (by omega) (by omega)]; omega), if_neg (by omega)]
    rfl
  · simp (disch := omega) only [i0, i1, n_sub, n_lt]
    rw [if_neg (by omega)]
    by_cases h : c < t 1
    · rw [if_neg (by omega), if_pos h]; rfl
    · rw [if_pos (by omega), if_neg h]; rfl
theorem m_isThere {N : Nat} {M : Mem} {t s : Nat → Nat} {c m n : Nat} (ht : WT t) (hs : WS t s m n) (hm : m < 1000000000) (hT : MT t M) (hS : MS s M) (hc : c < 1000) : f_X7_isThere N M (nI c) = some (if isT t s c = true then nI 1 else nI 0) := by
  have h0 := ht.1
  have hs0 := hs.1
  unfold f_X7_isThere isT
  rw [m_isClapper ht hT hc]
  by_cases h : c < t 0
  · have h9 := (ht.2.2.2.2.2.1 c h).2.2.2
    have g1 := hT (21 + c) (by omega)
    have g2 := hS 0 (by omega)
    have h45 : 21 + c < 45 := by omega
    simp (disch := omega) only [if_pos h, Option.bind_some, i0, i1, i21, nI_add, n_eq, inb_nI, n_cl, g1, g2, n_le]
    by_cases h3 : s 0 < t (21 + c)
    · have : ¬ t (21 + c) ≤ s 0 := by omega
      simp [h, h3, h45, this]
    · have : t (21 + c) ≤ s 0 := by omega
      simp [h, h3, h45, this]
  · simp [h, i0]
theorem m_isThereN {N : Nat} {M : Mem} : f_X7_isThere N M (nI 0 - nI 1) = some (nI 0) := by
  unfold f_X7_isThere
  rw [m_isClapperN]; rfl
theorem m_claps {N : Nat} {M : Mem} {t s : Nat → Nat} {c m n : Nat} (ht : WT t) (hs : WS t s m n) (hm : m < 1000000000) (hT : MT t M) (hS : MS s M) (hc : c < 1000) : f_X7_claps N M (nI c) = some (if clp t s c = true then nI 1 else nI 0) := by
  have h0 := ht.1
  unfold f_X7_claps clp
  rw [m_isThere ht hs hm hT hS hc]
  cases hq : isT t s c with
  | false => simp [i0]
  | true =>
    have h : c < t 0 := by unfold isT at hq; simp at hq; exact hq.1
    have g1 := hS (6 + c) (by omega)
    have h40 := hs.2.2.2.2 c h
    have h14 : 6 + c < 14 := by omega
    simp (disch := omega) only [Option.bind_some, i0, i1, i6, nI_add, inb_nI, n_cl, g1, n_le]
    by_cases h3 : 0 < s (6 + c)
    · have : ¬ s (6 + c) ≤ 0 := by omega
      simp [h3, h14, this, n_eq]
    · have : s (6 + c) ≤ 0 := by omega
      simp [h3, h14, this, n_eq]
theorem m_clapsN {N : Nat} {M : Mem} : f_X7_claps N M (nI 0 - nI 1) = some (nI 0) := by
  unfold f_X7_claps
  rw [m_isThereN]; rfl
theorem m_noise {N : Nat} (hN : 1000 ≤ N) {M : Mem} {t s : Nat → Nat} {m n : Nat} (ht : WT t) (hs : WS t s m n) (hm : m < 1000000000) (hT : MT t M) (hS : MS s M) : f_X7_noise N M = some (nI (nois t s)) := by
  have h0 := ht.1
  have g0 := hT 0 (by omega)
  unfold f_X7_noise
  refine Ok.eq (Ok.bind (lpE (fun n i a => f_X7_noise_L4 N M n a i) (t 0) (fun j a => a = nI (sumN (fun c => if isT t s c = true then s (6 + c) else 0) j)) (fun r => r.1 = nI (nois t s)) ?_ ?_ N 0 0 (by omega) rfl (by omega)) (fun a ha => Ok.ret ha))
  · intro f j a hj ha
    left
    refine ⟨_, rfl, ?_⟩
    show f_X7_noise_L4 N M (f + 1) a (nI j) = _
    have g1 := hS (6 + j) (by omega)
    have h14 : 6 + j < 14 := by omega
    rw [f_X7_noise_L4, ha, m_claps ht hs hm hT hS (by omega)]
    simp (disch := omega) only [g0, i0, i1, i6, n_le, nI_add, inb_nI, n_cl, g1, Option.bind_some]
    rw [if_neg (by omega), sumN]
    unfold clp
    cases hq : isT t s j with
    | false => simp
    | true =>
      by_cases h3 : 0 < s (6 + j)
      · simp [h3, h14, n_eq]
      · have : s (6 + j) = 0 := by omega
        simp [this]
  · intro f a ha
    show Ok (f_X7_noise_L4 N M (f + 1) a (nI (t 0))) _
    rw [f_X7_noise_L4, g0, if_pos (by rw [n_le (by omega) (by omega)]; omega)]
    exact Ok.ret ha
theorem m_thereNow {N : Nat} (hN : 1000 ≤ N) {M : Mem} {t s : Nat → Nat} {m n : Nat} (ht : WT t) (hs : WS t s m n) (hm : m < 1000000000) (hT : MT t M) (hS : MS s M) : f_X7_thereNow N M = some (nI (thB t s)) := by
  have h0 := ht.1
  have g0 := hT 0 (by omega)
  unfold f_X7_thereNow
  refine Ok.eq (Ok.bind (lpE (fun n i a => f_X7_thereNow_L4 N M n a i) (t 0) (fun j a => a = nI (orB (isT t s) j)) (fun r => r.1 = nI (thB t s)) ?_ ?_ N 0 0 (by omega) rfl (by omega)) (fun a ha => Ok.ret ha))
  · intro f j a hj ha
    left
    refine ⟨_, rfl, ?_⟩
    show f_X7_thereNow_L4 N M (f + 1) a (nI j) = _
    rw [f_X7_thereNow_L4, ha, m_isThere ht hs hm hT hS (by omega)]
    simp (disch := omega) only [g0, i0, i1, i31, n_le, nI_add, x_pow, x_or, orB_or, Option.bind_some, Nat.or_zero]
    rw [if_neg (by omega), orB]
    cases hb : isT t s j with
    | false => simp
    | true => simp [n_eq]
  · intro f a ha
    show Ok (f_X7_thereNow_L4 N M (f + 1) a (nI (t 0))) _
    rw [f_X7_thereNow_L4, g0, if_pos (by rw [n_le (by omega) (by omega)]; omega)]
    exact Ok.ret ha
theorem m_ones {N : Nat} (hN : 1000 ≤ N) {M : Mem} {b : Nat} (hb : b < 256) : f_X7_ones N M (nI b) = some (nI (sumN (fun i => if b.testBit i = true then 1 else 0) 8)) := by
  unfold f_X7_ones
  refine Ok.eq (Ok.bind (lpE (fun n i a => f_X7_ones_L4 N M (nI b) n a i) 8 (fun j a => a = nI (sumN (fun i => if b.testBit i = true then 1 else 0) j)) (fun r => r.1 = nI (sumN (fun i => if b.testBit i = true then 1 else 0) 8)) ?_ ?_ N 0 0 (by omega) rfl (by omega)) (fun a ha => Ok.ret ha))
  · intro f j a hj ha
    left
    refine ⟨_, rfl, ?_⟩
    show f_X7_ones_L4 N M (nI b) (f + 1) a (nI j) = _
    rw [f_X7_ones_L4, ha]
    simp (disch := omega) only [i1, i8, i31, n_le, btv, nI_add]
    rw [if_neg (by omega), sumN]
  · intro f a ha
    show Ok (f_X7_ones_L4 N M (nI b) (f + 1) a (nI 8)) _
    rw [f_X7_ones_L4, if_pos (by show nI 8 ≤ nI 8; rw [n_le (by omega) (by omega)]; omega)]
    exact Ok.ret ha
theorem m_wasKnown {N : Nat} (hN : 1000 ≤ N) {M : Mem} {t s : Nat → Nat} {m n : Nat} (ht : WT t) (hs : WS t s m n) (hT : MT t M) (hS : MS s M) : f_X7_wasKnown N M = some (nI (if knw t s = true then 1 else 0)) := by
  have h0 := ht.2.1
  have g0 := hT 1 (by omega)
  have g5 := hS 5 (by omega)
  have h5 := hs.2.2.2.1
  unfold f_X7_wasKnown
  refine Ok.eq (Ok.bind (lpE (fun n i a => f_X7_wasKnown_L4 N M n a i) (t 1) (fun j a => a = nI (if anyN (fun e => decide (t (29 + e) = 3) && (s 5).testBit e) j = true then 1 else 0)) (fun r => r.1 = nI (if knw t s = true then 1 else 0)) ?_ ?_ N 0 0 (by omega) rfl (by omega)) ?_)
  · intro f j a hj ha
    left
    refine ⟨_, rfl, ?_⟩
    show f_X7_wasKnown_L4 N M (f + 1) a (nI j) = _
    have g1 := hT (29 + j) (by omega)
    have h3 := (ht.2.2.2.2.2.2 j hj).1
    have h45 : 29 + j < 45 := by omega
    rw [f_X7_wasKnown_L4, ha]
    cases hq : anyN (fun e => decide (t (29 + e) = 3) && (s 5).testBit e) j with
    | true =>
      simp (disch := omega) only [g0, i0, i1, n_le, nI_add, n_eq, if_true]
      rw [if_neg (by omega), anyN, hq]
      simp
    | false =>
      simp (disch := omega) only [g0, i0, i1, i3, i29, i31, n_le, nI_add, n_eq, g5, bt1, inb_nI, n_cl, g1]
      rw [if_neg (by omega), anyN, hq]
      by_cases h4 : t (29 + j) = 3
      · cases hb : (s 5).testBit j <;> simp [h4, h45]
      · simp [h4, h45]
  · intro f a ha
    show Ok (f_X7_wasKnown_L4 N M (f + 1) a (nI (t 1))) _
    rw [f_X7_wasKnown_L4, g0, if_pos (by rw [n_le (by omega) (by omega)]; omega)]
    exact Ok.ret ha
  · intro a ha
    rw [ha]
    cases knw t s <;> exact Ok.ret rfl
theorem m_loses {N : Nat} (hN : 1000 ≤ N) {M : Mem} {t s : Nat → Nat} {c m n : Nat} (ht : WT t) (hs : WS t s m n) (hm : m < 1000000000) (hT : MT t M) (hS : MS s M) (hc : c < t 0) : f_X7_loses N M (nI c) = some (nI (los t s c)) := by
  have h0 := ht.1
  have g1 := hT (5 + c) (by omega)
  have g2 := hS (6 + c) (by omega)
  have h3 := (ht.2.2.2.2.2.1 c hc).1
  have h40 := hs.2.2.2.2 c hc
  have h45 : 5 + c < 45 := by omega
  have h14 : 6 + c < 14 := by omega
  have hp1 : f_X7_isClapper N M (nI c - nI 1) = some (nI (if 0 < c then 1 else 0)) := by
    by_cases h : 0 < c
    · rw [n_sub (by omega), m_isClapper ht hT (by omega), if_pos (by omega), if_pos h]
    · have : c = 0 := by omega
      subst this
      rw [m_isClapperN]; rfl
  have hp2 : f_X7_claps N M (nI c - nI 1) = some (nI (if (decide (0 < c) && clp t s (c - 1)) = true then 1 else 0)) := by
    by_cases h : 0 < c
    · rw [n_sub (by omega), m_claps ht hs hm hT hS (by omega)]
      cases clp t s (c - 1) <;> simp [h]
    · have : c = 0 := by omega
      subst this
      rw [m_clapsN]; rfl
  have hp3 : f_X7_isClapper N M (nI (c + 1)) = some (nI (if c + 1 < t 0 then 1 else 0)) := by
    rw [m_isClapper ht hT (by omega)]; split <;> rfl
  have hp4 : f_X7_claps N M (nI (c + 1)) = some (nI (if clp t s (c + 1) = true then 1 else 0)) := by
    rw [m_claps ht hs hm hT hS (by omega)]; split <;> rfl
  unfold f_X7_loses los
  rw [m_claps ht hs hm hT hS (by omega)]
  cases hcp : clp t s c with
  | false => simp [i0]
  | true =>
    simp (disch := omega) only [Option.bind_some, i0, i1, i2, i5, i6, nI_add, hp1, hp2, hp3, hp4, m_wasKnown hN ht hs hT hS, inb_nI, n_cl, g1, g2, n_eq, n_le]
    have hclT : ∀ d, clp t s d = true → d < t 0 := fun d hd => by unfold clp isT at hd; simp at hd; exact hd.1.1
    by_cases k2 : t (5 + c) = 2
    · simp only [k2, h45, h14, if_pos, decide_true, if_neg (show ¬ (2 : Nat) = 1 by decide)]
      by_cases h5 : 2 ≤ s (6 + c)
      · have : ¬ s (6 + c) < 2 := by omega
        simp [h5, this, n_eq]
      · have : s (6 + c) < 2 := by omega
        simp [h5, this, n_eq]
    · by_cases k0 : t (5 + c) = 0
      · simp only [k0, h45, if_pos, decide_true]
        unfold gstB
        cases hA : clp t s (c - 1) <;> cases hB : clp t s (c + 1) <;> by_cases h5 : 0 < c <;> by_cases h6 : c + 1 < t 0 <;> first | (exact absurd (hclT _ hB) h6) | (simp [h5, h6, n_eq, n_le, nI_add])
      · by_cases k1 : t (5 + c) = 1
        · simp only [k1, h45, if_pos, decide_true]
          unfold fanB
          cases hA : clp t s (c - 1) <;> cases hB : clp t s (c + 1) <;> by_cases h5 : 0 < c <;> simp [h5, n_eq, n_le, nI_add]
        · have k3 : t (5 + c) = 3 := by omega
          simp only [k3, h45, if_pos, decide_true]
          cases knw t s <;> simp [n_eq]
