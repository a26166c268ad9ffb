/-! The class's evening: an encore; a step. -/
theorem c_zealBehind {N : Nat} {M : Mem} {kd h c : Nat} (hk : kd ≤ 3) (hh : h ≤ 40) (hc : c ≤ 40) : f_X6_zealBehind N M (nI kd) (nI h) (nI c) = some (nI (beh kd h c)) := by
  unfold f_X6_zealBehind beh
  simp (disch := omega) only [i0, i1, i2, i3, i5, i40, n_eq, pk_div, nI_add, n_lt, n_le]
  by_cases k1 : kd = 1
  · simp [k1]
  · by_cases k2 : kd = 2
    · simp only [k2, if_pos, if_neg (show ¬ (2 : Nat) = 1 by decide)]
      split <;> rfl
    · by_cases k3 : kd = 3
      · simp only [k3, if_pos, if_neg (show ¬ (3 : Nat) = 1 by decide), if_neg (show ¬ (3 : Nat) = 2 by decide)]
        split <;> rfl
      · simp only [if_neg k1, if_neg k2, if_neg k3]
        by_cases h0 : h ≤ 0
        · have : h = 0 := by omega
          simp [this]
        · have : ¬ h = 0 := by omega
          simp only [if_neg h0, if_neg this]
          split <;> rfl
theorem c_bitCount {N : Nat} {M : Mem} : ∀ b, b < 256 → f_J6_bitCount_0f7a4 N M (nI b) = some (nI (sumN (fun i => if b.testBit i = true then 1 else 0) 8)) := by
  simp only [f_J6_bitCount_0f7a4, Option.some.injEq]
  decide +kernel
theorem sumN_ext {f : Nat → Nat} {n : Nat} : ∀ {m : Nat}, n ≤ m → (∀ i, n ≤ i → i < m → f i = 0) → sumN f m = sumN f n
  | 0, h, _ => by have : n = 0 := by omega
                  rw [this]
  | m + 1, h, h2 => by
    by_cases hn : n = m + 1
    · rw [hn]
    · rw [sumN, h2 m (by omega) (by omega), Nat.add_zero, sumN_ext (by omega) (fun i h3 h4 => h2 i h3 (by omega))]
theorem ones_th {t s : Nat → Nat} (ht : WT t) : sumN (fun i => if (thB t s).testBit i = true then 1 else 0) 8 = onesT t s := by
  unfold onesT
  rw [sumN_ext (n := t 0) ht.1]
  · apply sumN_congr
    intro i hi
    rw [tb_th]
  · intro i h1 h2
    rw [tb_th]
    unfold isT
    have : ¬ i < t 0 := by omega
    simp [this]
theorem knw_play {t s s' : Nat → Nat} {e : Nat} (he : e < t 1) (h : s' 5 = s 5 ||| 2 ^ e) : knw t s' = (knw t s || decide (t (29 + e) = 3)) := by
  rw [Bool.eq_iff_iff]
  unfold knw
  rw [anyN_iff, Bool.or_eq_true, anyN_iff]
  constructor
  · rintro ⟨i, h1, h2⟩
    rw [h, Nat.testBit_or, Nat.testBit_two_pow] at h2
    simp only [Bool.and_eq_true, Bool.or_eq_true, decide_eq_true_iff] at h2
    rcases h2.2 with h3 | h3
    · exact Or.inl ⟨i, h1, by simp [h2.1, h3]⟩
    · subst h3; exact Or.inr (by simp [h2.1])
  · rintro (⟨i, h1, h2⟩ | h1)
    · refine ⟨i, h1, ?_⟩
      rw [h, Nat.testBit_or]
      simp only [Bool.and_eq_true] at h2
      simp [h2.1, h2.2]
    · refine ⟨e, he, ?_⟩
      rw [h, Nat.testBit_or, Nat.testBit_two_pow]
      simpa using h1
theorem c_play {N : Nat} (hN : 1000 ≤ N) {M : Mem} {t s : Nat → Nat} {k e m n : Nat} (ht : WT t) (hs : WS t s m n) (hm : m < 1000000) (hT : TC t M 1) (hE : EC t s M k) (hk : 21 ≤ k) (he : e < t 1) (ha : t (37 + e) ≤ s 1) :
    Ok (f_X1_play N M k (nI e)) (fun M' => EC t (playS t s e) M' k ∧ ∀ a b, a ≠ k → a ≠ k + 1 → M' a b = M a b) := by
  have h0 := ht.1
  have h1 := ht.2.1
  obtain ⟨w1, w2, w3, w4, w5, w6⟩ := ht.2.2.2.2.2.2 e he
  have g5 : M 5 e = nI (t (29 + e)) := hT.2.2.2.2.2.2.2.2.1 e he
  have g6 : M 6 e = nI (t (33 + e)) := hT.2.2.2.2.2.2.2.2.2.1 e he
  have he4 : inb (nI e) 4 = true := by rw [inb_nI (by omega)]; simp; omega
  have hcl : (nI e).toNatClampNeg = e := n_cl (by omega)
  unfold f_X1_play
  rw [if_pos he4, if_pos he4, hcl, g5, g6]
  refine Ok.bind (c_letPass hN ht hs hm hT hE hk (by omega)) ?_
  rintro M1 ⟨hE1, hF1⟩
  rw [if_pos he4]
  obtain ⟨s1, hs1⟩ : ∃ q, q = itr (minS t) (t (33 + e)) s := ⟨_, rfl⟩
  rw [← hs1] at hE1
  have hs1' : WS t s1 (m + 9) n := by
    rw [hs1]
    refine ⟨?_, ?_, ?_, ?_, ?_⟩
    · rw [itr_min0]; have := hs.1; omega
    · rw [itr_minO t (by decide) (by decide)]; exact hs.2.1
    · rw [itr_minO t (by decide) (by decide)]; exact hs.2.2.1
    · rw [itr_minO t (by decide) (by decide)]; exact hs.2.2.2.1
    · intro c hc; rw [itr_minO t (by omega) (by omega)]; exact hs.2.2.2.2 c hc
  have ha1 : t (37 + e) ≤ s1 1 := by rw [hs1, itr_minO t (by decide) (by decide)]; exact ha
  obtain ⟨e1, e2, e3, e4, e5, e6, e7, e8, e9⟩ := hE1
  have hT1 : TC t M1 1 := hT.of (fun a b h3 h4 => hF1 a b (by omega))
  have g7 : M1 7 e = nI (t (37 + e)) := hT1.2.2.2.2.2.2.2.2.2.2.1 e he
  have g8 : M1 8 e = nI (t (41 + e)) := hT1.2.2.2.2.2.2.2.2.2.2.2 e he
  have hv3 : M1 k 3 - M1 7 e = nI (s1 1 - t (37 + e)) := by rw [e3, g7, n_sub ha1]
  rw [hv3]
  have hv4 : up2 M1 k 3 (nI (s1 1 - t (37 + e))) k 4 ||| (1 : Int32) <<< (nI e &&& 31) = nI (s1 5 ||| 2 ^ e) := by
    rw [up2_j (by decide), e4]
    show nI (s1 5) ||| nI 1 <<< (nI e &&& nI 31) = _
    rw [x_pow (by omega), x_or]
  rw [hv4]
  have hv8 : up2 (up2 M1 k 3 (nI (s1 1 - t (37 + e)))) k 4 (nI (s1 5 ||| 2 ^ e)) k 8 = nI (if knw t s1 = true then 1 else 0) := by
    rw [up2_j (by decide), up2_j (by decide), e8]
  rw [hv8]
  have hkn : (if nI (if knw t s1 = true then 1 else 0) = 0 then (if nI (t (29 + e)) = 3 then (1 : Int32) else 0) else 1) = nI (if knw t (play1 t s1 e) = true then 1 else 0) := by
    rw [knw_play (s := s1) he (show play1 t s1 e 5 = s1 5 ||| 2 ^ e from rfl)]
    cases hq : knw t s1 with
    | true => rfl
    | false =>
      rw [if_pos (show nI (if false = true then 1 else 0) = 0 from rfl)]
      by_cases h3 : t (29 + e) = 3
      · rw [h3]; rfl
      · rw [if_neg (by show ¬ nI (t (29 + e)) = nI 3; rw [n_eq (by omega) (by omega)]; exact h3)]
        simp [h3]; rfl
  rw [hkn]
  have hzk : zok (nI (if knw t (play1 t s1 e) = true then 1 else 0)) = true := by cases knw t (play1 t s1 e) <;> rfl
  rw [if_pos hzk]
  obtain ⟨M2, hM2⟩ : ∃ q, q = up2 (up2 (up2 M1 k 3 (nI (s1 1 - t (37 + e)))) k 4 (nI (s1 5 ||| 2 ^ e))) k 8 (nI (if knw t (play1 t s1 e) = true then 1 else 0)) := ⟨_, rfl⟩
  rw [← hM2]
  have hF2 : ∀ a b, a ≠ k → M2 a b = M1 a b := fun a b h => by rw [hM2, up2_k h, up2_k h, up2_k h]
  have hO2 : ∀ b, b ≠ 3 → b ≠ 4 → b ≠ 8 → M2 k b = M1 k b := fun b h3 h4 h5 => by rw [hM2, up2_j h5, up2_j h4, up2_j h3]
  have hT2 : TC t M2 1 := hT1.of (fun a b h3 h4 => hF2 a b (by omega))
  have hE2 : EC t (play1 t s1 e) M2 k := by
    refine EC.mk ?_ ⟨?_, ?_, ?_, ?_, ?_, ?_, ?_, ?_⟩
    · rw [hO2 _ (by decide) (by decide) (by decide), e1, thB_congr (s := s1) (s' := play1 t s1 e) rfl]
    · rw [hO2 _ (by decide) (by decide) (by decide), e2]; rfl
    · rw [hM2, up2_j (by decide), up2_j (by decide), up2_same]; rfl
    · rw [hM2, up2_j (by decide), up2_same]; rfl
    · rw [hO2 _ (by decide) (by decide) (by decide), e5]; rfl
    · rw [hO2 _ (by decide) (by decide) (by decide), e6]; rfl
    · rw [hO2 _ (by decide) (by decide) (by decide), e7]; rfl
    · rw [hM2, up2_same]
    · intro c hc
      rw [hF2 _ _ (by omega), e9 c hc]
      unfold play1
      rw [if_neg (by omega), if_neg (by omega)]
  obtain ⟨s2, hs2⟩ : ∃ q, q = play1 t s1 e := ⟨_, rfl⟩
  have hs2' : ∀ c, c < t 0 → s2 (6 + c) ≤ 40 := by
    intro c hc
    rw [hs2]
    unfold play1
    rw [if_neg (by omega), if_neg (by omega)]
    exact hs1'.2.2.2.2 c hc
  have hs20 : s2 0 = s1 0 := by rw [hs2]; rfl
  rw [← hs2] at hE2
  clear hkn hzk hv8 hv4 hv3
  obtain ⟨d1, d2, d3, d4, d5, d6, d7, d8, d9⟩ := hE2
  have hpl : ∀ c, c < t 0 → play2 t s2 e (6 + c) = if isT t s2 c = true then beh (t (29 + e)) (s2 (6 + c)) (t (13 + c)) else s2 (6 + c) := by
    intro c hc
    unfold play2
    rw [if_pos (by omega), Nat.add_sub_cancel_left, show 7 + (6 + c) = 13 + c by omega]
  refine Ok.bind (lpE (fun n i a => f_X1_play_L76 N k (nI e) (nI (t (29 + e))) n i a) (t 0) (fun j M' => (∀ c, c < t 0 → M' (k + 1) c = nI (if c < j then play2 t s2 e (6 + c) else s2 (6 + c))) ∧ ∀ a b, a ≠ k + 1 → M' a b = M2 a b) (fun r => (∀ c, c < t 0 → r.2 (k + 1) c = nI (play2 t s2 e (6 + c))) ∧ ∀ a b, a ≠ k + 1 → r.2 a b = M2 a b) ?_ ?_ N 0 M2 (by omega) ⟨fun c hc => by rw [if_neg (by omega)]; exact d9 c hc, fun _ _ _ => rfl⟩ (by omega)) ?_
  · intro f j M' hj ⟨hz, hF⟩
    left
    have q7 : M' 1 7 = nI (t 0) := by rw [hF _ _ (by omega)]; exact hT2.1
    have q1 : M' k 1 = nI (thB t s2) := by rw [hF _ _ (by omega)]; exact d1
    have q3 : M' 3 j = nI (t (13 + j)) := by rw [hF _ _ (by omega)]; exact hT2.2.2.2.2.2.2.1 j hj
    have hzj : M' (k + 1) j = nI (s2 (6 + j)) := by rw [hz j hj, if_neg (by omega)]
    have hth := thB_lt (s := s2) ht
    have h40 := hs2' j hj
    have h20 := (ht.2.2.2.2.2.1 j hj).2.1
    have hj8 : j < 8 := by omega
    have hb := hpl j hj
    have hzb := c_zealBehind (N := N) (M := M') w1 h40 (show t (13 + j) ≤ 40 by omega)
    cases hc : isT t s2 j with
    | false =>
      rw [hc] at hb
      refine ⟨M', ⟨?_, hF⟩, ?_⟩
      · intro c hcc
        rw [hz c hcc]
        by_cases hcj : c = j
        · subst hcj; rw [if_neg (by omega), if_pos (by omega), hb]; rfl
        · by_cases h1 : c < j
          · rw [if_pos h1, if_pos (by omega)]
          · rw [if_neg h1, if_neg (by omega)]
      · show f_X1_play_L76 N k (nI e) (nI (t (29 + e))) (f + 1) (nI j) M' = _
        rw [f_X1_play_L76]
        unfold f_X1_isThere
        simp (disch := omega) only [q7, q1, n_le, i0, i1, i31, nI_add, bt0, tb_th, hc]
        rw [if_neg (by omega)]
        simp
    | true =>
      rw [hc, if_pos rfl] at hb
      refine ⟨up2 M' (k + 1) j (nI (play2 t s2 e (6 + j))), ⟨?_, ?_⟩, ?_⟩
      · intro c hcc
        by_cases hcj : c = j
        · subst hcj; rw [up2_same, if_pos (by omega)]
        · rw [up2_j hcj, hz c hcc]
          by_cases h1 : c < j
          · rw [if_pos h1, if_pos (by omega)]
          · rw [if_neg h1, if_neg (by omega)]
      · intro a b ha; rw [up2_k ha]; exact hF a b ha
      · show f_X1_play_L76 N k (nI e) (nI (t (29 + e))) (f + 1) (nI j) M' = _
        rw [f_X1_play_L76, hb]
        unfold f_X1_isThere
        simp (disch := omega) only [q7, q1, n_le, i0, i1, i31, nI_add, bt0, tb_th, hc, inb_nI, n_cl, hzj, q3, hzb]
        rw [if_neg (by omega)]
        simp [n_eq, hj8]
  · intro f M' ⟨hz, hF⟩
    show Ok (f_X1_play_L76 N k (nI e) (nI (t (29 + e))) (f + 1) (nI (t 0)) M') _
    have q7 : M' 1 7 = nI (t 0) := by rw [hF _ _ (by omega)]; exact hT2.1
    rw [f_X1_play_L76, q7, if_pos (by rw [n_le (by omega) (by omega)]; omega)]
    exact Ok.ret ⟨fun c hc => by show M' (k + 1) c = _; rw [hz c hc, if_pos hc], hF⟩
  rintro ⟨i3, M3⟩ ⟨hz, hF⟩
  dsimp only at hz hF ⊢
  rw [if_pos he4]
  have q1 : M3 k 1 = nI (thB t s2) := by rw [hF _ _ (by omega)]; exact d1
  have q8 : M3 8 e = nI (t (41 + e)) := by rw [hF _ _ (by omega)]; exact hT2.2.2.2.2.2.2.2.2.2.2.2 e he
  have q7 : M3 k 7 = nI (s2 4) := by rw [hF _ _ (by omega)]; exact d7
  rw [q1]
  refine Ok.bindE (c_bitCount _ (thB_lt ht)) ?_
  rw [ones_th ht, q8, q7, pk_mul, nI_add]
  have hne : k + 1 ≠ k := by omega
  have hS : playS t s e = play3 t (play2 t s2 e) e := by unfold playS; rw [hs2, hs1]
  rw [hS]
  have ho : onesT t (play2 t s2 e) = onesT t s2 := onesT_congr rfl
  refine Ok.ret ⟨EC.mk ?_ ⟨?_, ?_, ?_, ?_, ?_, ?_, ?_, ?_⟩, ?_⟩
  · rw [up2_j (by decide), q1, thB_congr (s := s2) (s' := play3 t (play2 t s2 e) e) rfl]
  · rw [up2_j (by decide), hF _ _ (by omega), d2]; rfl
  · rw [up2_j (by decide), hF _ _ (by omega), d3]; rfl
  · rw [up2_j (by decide), hF _ _ (by omega), d4]; rfl
  · rw [up2_j (by decide), hF _ _ (by omega), d5]; rfl
  · rw [up2_j (by decide), hF _ _ (by omega), d6]; rfl
  · rw [up2_same, show play3 t (play2 t s2 e) e 4 = s2 4 + t (41 + e) * onesT t (play2 t s2 e) from rfl, ho]
  · rw [up2_j (by decide), hF _ _ (by omega), d8, knw_congr (s := s2) (s' := play3 t (play2 t s2 e) e) rfl]
  · intro c hc
    rw [up2_k hne, hz c hc]
    unfold play3
    rw [if_neg (by omega)]
  · intro a b ha hb
    rw [up2_k ha, hF a b hb, hF2 a b ha, hF1 a b ha]
theorem c_take {N : Nat} (hN : 1000 ≤ N) {M : Mem} {t s : Nat → Nat} {k x m n : Nat} (ht : WT t) (hs : WS t s m n) (hm : m < 1000000) (hn : n < 1000000) (hT : TC t M 1) (hE : EC t s M k) (hk : 21 ≤ k) (hx : canS t s x = true) (hx6 : x < 1000) :
    Ok (f_X1_take N M k (nI x)) (fun M' => EC t (stepS t s x) M' k ∧ ∀ a b, a ≠ k → a ≠ k + 1 → M' a b = M a b) := by
  unfold f_X1_take stepS
  simp (disch := omega) only [i0, i1, i2, n_eq]
  by_cases h0 : x = 0
  · rw [if_pos h0, if_pos h0]
    exact Ok.bind (c_waitOne hN ht hs hm hT hE hk) (fun a h => Ok.ret h)
  · rw [if_neg h0, if_neg h0]
    by_cases h1 : x = 1
    · rw [if_pos h1, if_pos h1]
      exact Ok.bind (c_bowOnce hN ht hs hn hT hE hk) (fun a h => Ok.ret h)
    · rw [if_neg h1, if_neg h1, n_sub (by omega)]
      unfold canS at hx
      rw [if_neg h0, if_neg h1, Bool.and_eq_true] at hx
      have hr := hx.1
      unfold rdy at hr
      simp only [Bool.and_eq_true, decide_eq_true_iff] at hr
      refine Ok.bindE (c_hasEncore ht hT.2.1 (by omega)) ?_
      rw [if_pos hr.1]
      simp (disch := omega) only [n_eq, if_neg (show ¬ (1 : Nat) = 0 by decide)]
      exact Ok.bind (c_play hN ht hs hm hT hE hk hr.1 hr.2.2) (fun a h => Ok.ret h)
