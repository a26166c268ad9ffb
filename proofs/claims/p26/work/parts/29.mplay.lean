/-! The model's evening: an encore; a step; what lacks. -/
theorem m_behind {N : Nat} {M : Mem} {kd h c : Nat} (hk : kd ≤ 3) (hh : h ≤ 40) (hc : c ≤ 40) : f_X7_behind N M (nI kd) (nI h) (nI c) = some (nI (beh kd h c)) := by
  unfold f_X7_behind beh
  simp (disch := omega) only [i0, i1, i2, i5, i40, n_eq, pk_div, nI_add, n_le]
  by_cases k0 : kd = 0
  · subst k0
    by_cases h0 : h ≤ 0
    · have : h = 0 := by omega
      subst this; rfl
    · have : ¬ h = 0 := by omega
      simp (disch := omega) only [if_true, if_neg h0, if_neg this, n_le, if_neg (show ¬ (0 : Nat) = 1 by decide), if_neg (show ¬ (0 : Nat) = 2 by decide), if_neg (show ¬ (0 : Nat) = 3 by decide)]
      by_cases h5 : h + 2 < 40
      · rw [if_pos (by omega), if_pos h5]
      · rw [if_neg h5]
        by_cases h6 : h + 2 ≤ 40
        · rw [if_pos h6, show h + 2 = 40 by omega]
        · rw [if_neg h6]
  · by_cases k1 : kd = 1
    · subst k1
      simp (disch := omega) only [if_true, n_le, if_neg (show ¬ (1 : Nat) = 0 by decide)]
      rw [if_pos (by omega)]
    · by_cases k2 : kd = 2
      · subst k2
        simp (disch := omega) only [if_true, n_le, if_neg (show ¬ (2 : Nat) = 0 by decide), if_neg (show ¬ (2 : Nat) = 1 by decide)]
        by_cases h5 : h + 5 < 40
        · rw [if_pos (by omega), if_pos h5]
        · rw [if_neg h5]
          by_cases h6 : h + 5 ≤ 40
          · rw [if_pos h6, show h + 5 = 40 by omega]
          · rw [if_neg h6]
      · have k3 : kd = 3 := by omega
        subst k3
        simp (disch := omega) only [n_le, if_true, if_neg (show ¬ (3 : Nat) = 0 by decide), if_neg (show ¬ (3 : Nat) = 1 by decide), if_neg (show ¬ (3 : Nat) = 2 by decide)]
        rw [if_pos hc]
        by_cases h5 : c < 40
        · rw [if_pos h5]
        · rw [if_neg h5, show c = 40 by omega]
theorem m_plays {N : Nat} (hN : 1000 ≤ N) {M : Mem} {t s : Nat → Nat} {e m n : Nat} (ht : WT t) (hs : WS t s m n) (hm : m < 1000000) (hT : MT t M) (hS : MS s M) (he : e < t 1) (ha : t (37 + e) ≤ s 1) : Ok (f_X7_plays N M (nI e)) (fun M' => MS (playS t s e) M' ∧ ∀ a b, a ≠ 74 → M' a b = M a b) := by
  have h0 := ht.1
  have h1 := ht.2.1
  obtain ⟨w1, w2, w3, w4, w5, w6⟩ := ht.2.2.2.2.2.2 e he
  have g33 := hT (33 + e) (by omega)
  have g37 := hT (37 + e) (by omega)
  have g0 := hT 0 (by omega)
  have h33 : 33 + e < 45 := by omega
  have h37 : 37 + e < 45 := by omega
  have h41 : 41 + e < 45 := by omega
  have h29 : 29 + e < 45 := by omega
  unfold f_X7_plays
  refine Ok.bind (lpE (fun n i a => f_X7_plays_L2 N (nI e) n i a) (t (33 + e)) (fun j M' => MS (itr (minS t) j s) M' ∧ ∀ a b, a ≠ 74 → M' a b = M a b) (fun r => MS (itr (minS t) (t (33 + e)) s) r.2 ∧ ∀ a b, a ≠ 74 → r.2 a b = M a b) ?_ ?_ N 0 M (by omega) ⟨hS, fun _ _ _ => rfl⟩ (by omega)) ?_
  · intro f j M' hj ⟨hS', hF⟩
    left
    have hT' : MT t M' := hT.of (fun b => hF _ _ (by omega))
    have hw : WS t (itr (minS t) j s) (m + j) n := by
      refine ⟨?_, ?_, ?_, ?_, ?_⟩
      · rw [itr_min0]; have := hs.1; omega
      · rw [itr_minO t (by decide) (by decide)]; exact hs.2.1
      · rw [itr_minO t (by decide) (by decide)]; exact hs.2.2.1
      · rw [itr_minO t (by decide) (by decide)]; exact hs.2.2.2.1
      · intro c hc; rw [itr_minO t (by omega) (by omega)]; exact hs.2.2.2.2 c hc
    obtain ⟨M2, hM2, hq, hF2⟩ := m_minute (N := N) ht hw (by omega) hT' hS'
    refine ⟨M2, ⟨hq, fun a b ha => by rw [hF2 a b ha, hF a b ha]⟩, ?_⟩
    show f_X7_plays_L2 N (nI e) (f + 1) (nI j) M' = _
    rw [f_X7_plays_L2, hM2]
    simp (disch := omega) only [i1, i33, nI_add, inb_nI, n_cl, hF 72, g33, n_le, Option.bind_some]
    rw [if_pos (by simpa using h33), if_neg (by omega)]
  · intro f M' ⟨hS', hF⟩
    show Ok (f_X7_plays_L2 N (nI e) (f + 1) (nI (t (33 + e))) M') _
    rw [f_X7_plays_L2]
    simp (disch := omega) only [i33, nI_add, inb_nI, n_cl, hF 72, g33, n_le]
    rw [if_pos (by simpa using h33), if_pos (by omega)]
    exact Ok.ret ⟨hS', hF⟩
  rintro ⟨i1', M1⟩ ⟨hS1, hF1⟩
  dsimp only at hS1 hF1 ⊢
  have hin37 : inb (37 + nI e) 45 = true := by
    show inb (nI 37 + nI e) 45 = true
    rw [nI_add, inb_nI (by omega)]; simpa using h37
  have hcl37 : (37 + nI e : Int32).toNatClampNeg = 37 + e := by
    show (nI 37 + nI e : Int32).toNatClampNeg = 37 + e
    rw [nI_add, n_cl (by omega)]
  have hin41 : inb (41 + nI e) 45 = true := by
    show inb (nI 41 + nI e) 45 = true
    rw [nI_add, inb_nI (by omega)]; simpa using h41
  have hcl41 : (41 + nI e : Int32).toNatClampNeg = 41 + e := by
    show (nI 41 + nI e : Int32).toNatClampNeg = 41 + e
    rw [nI_add, n_cl (by omega)]
  rw [if_pos hin37, hcl37]
  obtain ⟨s1, hs1⟩ : ∃ q, q = itr (minS t) (t (33 + e)) s := ⟨_, rfl⟩
  rw [← hs1] at hS1
  have hs1' : WS t s1 (m + 9) n := by
    rw [hs1]
    refine ⟨?_, ?_, ?_, ?_, ?_⟩
    · rw [itr_min0]; have := hs.1; omega
    · rw [itr_minO t (by decide) (by decide)]; exact hs.2.1
    · rw [itr_minO t (by decide) (by decide)]; exact hs.2.2.1
    · rw [itr_minO t (by decide) (by decide)]; exact hs.2.2.2.1
    · intro c hc; rw [itr_minO t (by omega) (by omega)]; exact hs.2.2.2.2 c hc
  have ha1 : t (37 + e) ≤ s1 1 := by rw [hs1, itr_minO t (by decide) (by decide)]; exact ha
  have hT1 : MT t M1 := hT.of (fun b => hF1 _ _ (by omega))
  have hv1 : M1 74 1 - M1 72 (37 + e) = nI (s1 1 - t (37 + e)) := by rw [hS1 1 (by omega), hT1 _ (by omega), n_sub ha1]
  rw [hv1]
  have hv5 : up2 M1 74 1 (nI (s1 1 - t (37 + e))) 74 5 ||| (1 : Int32) <<< (nI e &&& 31) = nI (s1 5 ||| 2 ^ e) := by
    rw [up2_j (by decide), hS1 5 (by omega)]
    show nI (s1 5) ||| nI 1 <<< (nI e &&& nI 31) = _
    rw [x_pow (by omega), x_or]
  rw [hv5]
  obtain ⟨M2, hM2⟩ : ∃ q, q = up2 (up2 M1 74 1 (nI (s1 1 - t (37 + e)))) 74 5 (nI (s1 5 ||| 2 ^ e)) := ⟨_, rfl⟩
  rw [← hM2]
  obtain ⟨s2, hs2⟩ : ∃ q, q = play1 t s1 e := ⟨_, rfl⟩
  have hF2 : ∀ a b, a ≠ 74 → M2 a b = M1 a b := fun a b h => by rw [hM2, up2_k h, up2_k h]
  have hT2 : MT t M2 := hT1.of (fun b => hF2 _ _ (by omega))
  have hS2 : MS s2 M2 := by
    intro j hj
    rw [hM2, hs2]
    unfold play1
    by_cases j5 : j = 5
    · subst j5; rw [up2_same]; rfl
    · rw [up2_j j5]
      by_cases j1 : j = 1
      · subst j1; rw [up2_same]; rfl
      · rw [up2_j j1, hS1 j hj, if_neg j1, if_neg j5]
  have hs20 : s2 0 = s1 0 := by rw [hs2]; rfl
  have hs2' : ∀ c, c < t 0 → s2 (6 + c) ≤ 40 := by
    intro c hc
    rw [hs2]
    unfold play1
    rw [if_neg (by omega), if_neg (by omega)]
    exact hs1'.2.2.2.2 c hc
  have hpl : ∀ c, c < t 0 → play2 t s2 e (6 + c) = if isT t s2 c = true then beh (t (29 + e)) (s2 (6 + c)) (t (13 + c)) else s2 (6 + c) := by
    intro c hc
    unfold play2
    rw [if_pos (by omega), Nat.add_sub_cancel_left, show 7 + (6 + c) = 13 + c by omega]
  have hbeh : ∀ k h c, h ≤ 40 → c ≤ 40 → beh k h c ≤ 40 := by
    intro k h c h3 h4
    unfold beh
    split
    · omega
    · split
      · split <;> omega
      · split
        · split <;> omega
        · split
          · omega
          · split <;> omega
  have hp40 : ∀ c, c < t 0 → play2 t s2 e (6 + c) ≤ 40 := by
    intro c hc
    rw [hpl c hc]
    have := (ht.2.2.2.2.2.1 c hc).2.1
    split
    · exact hbeh _ _ _ (hs2' c hc) (by omega)
    · exact hs2' c hc
  clear hv1 hv5
  have hws : ∀ j, WS t (fun c => if 6 ≤ c ∧ c < 6 + j then play2 t s2 e c else s2 c) (m + 9) n := by
    intro j
    refine ⟨?_, ?_, ?_, ?_, ?_⟩
    · show s2 0 ≤ _; rw [hs20]; exact hs1'.1
    · show s2 1 ≤ _; rw [hs2]; show s1 1 - _ ≤ _; have := hs1'.2.1; omega
    · show s2 2 ≤ _; rw [hs2]; exact hs1'.2.2.1
    · show s2 5 < _
      rw [hs2]
      show s1 5 ||| 2 ^ e < 2 ^ 4
      exact Nat.or_lt_two_pow hs1'.2.2.2.1 (Nat.pow_lt_pow_right (by decide) (by omega))
    · intro c hc
      dsimp only
      split
      · exact hp40 c hc
      · exact hs2' c hc
  refine Ok.bind (lpE (fun n i a => f_X7_plays_L57 N (nI e) n i a) (t 0) (fun j M' => (∀ c, c < 14 → M' 74 c = nI (if 6 ≤ c ∧ c < 6 + j then play2 t s2 e c else s2 c)) ∧ ∀ a b, a ≠ 74 → M' a b = M2 a b) (fun r => (∀ c, c < 14 → r.2 74 c = nI (if 6 ≤ c ∧ c < 6 + t 0 then play2 t s2 e c else s2 c)) ∧ ∀ a b, a ≠ 74 → r.2 a b = M2 a b) ?_ ?_ N 0 M2 (by omega) ⟨fun c hc => by rw [if_neg (by omega)]; exact hS2 c hc, fun _ _ _ => rfl⟩ (by omega)) ?_
  · intro f j M' hj ⟨hz, hF⟩
    left
    have hT' : MT t M' := hT2.of (fun b => hF _ _ (by omega))
    have q7 := hT' 0 (by omega)
    have q13 := hT' (13 + j) (by omega)
    have q29 := hT' (29 + e) (by omega)
    have hzj : M' 74 (6 + j) = nI (s2 (6 + j)) := by rw [hz _ (by omega), if_neg (by omega)]
    have h40 := hs2' j hj
    have h20 := (ht.2.2.2.2.2.1 j hj).2.1
    have h14 : 6 + j < 14 := by omega
    have h13 : 13 + j < 45 := by omega
    have hb := hpl j hj
    have hth : f_X7_isThere N M' (nI j) = some (if isT t s2 j = true then nI 1 else nI 0) := by
      rw [m_isThere (N := N) ht (hws j) (by omega) hT' hz (show j < 1000 by omega)]
      rw [isT_congr (s := s2) (s' := fun c => if 6 ≤ c ∧ c < 6 + j then play2 t s2 e c else s2 c) rfl]
    have hzb := m_behind (N := N) (M := M') w1 h40 (show t (13 + j) ≤ 40 by omega)
    refine ⟨up2 M' 74 (6 + j) (nI (play2 t s2 e (6 + j))), ⟨?_, ?_⟩, ?_⟩
    · intro c hcc
      by_cases hcj : c = 6 + j
      · subst hcj; rw [up2_same, if_pos (by omega)]
      · rw [up2_j hcj, hz c hcc]
        by_cases h1 : 6 ≤ c ∧ c < 6 + j
        · rw [if_pos h1, if_pos (by omega)]
        · rw [if_neg h1, if_neg (by omega)]
    · intro a b ha; rw [up2_k ha]; exact hF a b ha
    · show f_X7_plays_L57 N (nI e) (f + 1) (nI j) M' = _
      rw [f_X7_plays_L57, hth, hb]
      simp (disch := omega) only [q7, n_le, Option.bind_some, i0, i1, i6, i13, i29, nI_add, inb_nI, n_cl, hzj, q13, q29, hzb]
      rw [if_neg (by omega)]
      cases isT t s2 j <;> simp [n_eq, h14, h13, h29]
  · intro f M' ⟨hz, hF⟩
    show Ok (f_X7_plays_L57 N (nI e) (f + 1) (nI (t 0)) M') _
    have q7 : M' 72 0 = nI (t 0) := by rw [hF _ _ (by omega)]; exact hT2 0 (by omega)
    rw [f_X7_plays_L57, q7, if_pos (by rw [n_le (by omega) (by omega)]; omega)]
    exact Ok.ret ⟨hz, hF⟩
  rintro ⟨i3, M3⟩ ⟨hz, hF⟩
  dsimp only at hz hF ⊢
  rw [if_pos hin41, hcl41]
  have hT3 : MT t M3 := hT2.of (fun b => hF _ _ (by omega))
  refine Ok.bindE (m_thereNow hN ht (hws (t 0)) (by omega) hT3 hz) ?_
  refine Ok.bindE (m_ones hN (thB_lt ht)) ?_
  rw [ones_th ht, onesT_congr (s := s2) (s' := fun c => if 6 ≤ c ∧ c < 6 + t 0 then play2 t s2 e c else s2 c) rfl, hT3 _ (by omega), hz 4 (by omega), if_neg (by omega), pk_mul, nI_add]
  have hS : playS t s e = play3 t (play2 t s2 e) e := by unfold playS; rw [hs2, hs1]
  rw [hS]
  have ho : onesT t (play2 t s2 e) = onesT t s2 := onesT_congr rfl
  refine Ok.ret ⟨?_, fun a b ha => by rw [up2_k ha, hF a b ha, hF2 a b ha, hF1 a b ha]⟩
  intro j hj
  by_cases j4 : j = 4
  · subst j4
    rw [up2_same, show play3 t (play2 t s2 e) e 4 = s2 4 + t (41 + e) * onesT t (play2 t s2 e) from rfl, ho]
  · rw [up2_j j4, hz j hj]
    unfold play3
    rw [if_neg j4]
    congr 1
    by_cases h3 : 6 ≤ j ∧ j < 6 + t 0
    · rw [if_pos h3]
    · rw [if_neg h3]
      unfold play2
      rw [if_neg h3]
