/-! The class's evening: the steps. -/
theorem c_waitOne {N : Nat} (hN : 1000 ≤ N) {M : Mem} {t s : Nat → Nat} {k m n : Nat} (ht : WT t) (hs : WS t s m n) (hm : m < 1000000) (hT : TC t M 1) (hE : EC t s M k) (hk : 21 ≤ k) :
    Ok (f_X1_waitOne N M k) (fun M' => EC t (waitS t s) M' k ∧ ∀ a b, a ≠ k → a ≠ k + 1 → M' a b = M a b) := by
  have h0 := ht.1
  unfold f_X1_waitOne
  refine Ok.bindE (c_whoClaps hN ht hs hT hE) ?_
  obtain ⟨e1, e2, e3, e4, e5, e6, e7, e8, e9⟩ := hE
  refine Ok.bind (lpE (fun n i a => f_X1_waitOne_L7 N k (nI (clB t s)) n i a) (t 0) (fun j M' => (∀ c, c < t 0 → M' (k + 1) c = nI (if c < j then s (6 + c) - los t s c else s (6 + c))) ∧ ∀ a b, a ≠ k + 1 → M' a b = M a b) (fun r => (∀ c, c < t 0 → r.2 (k + 1) c = nI (s (6 + c) - los t s c)) ∧ ∀ a b, a ≠ k + 1 → r.2 a b = M a b) ?_ ?_ N 0 M (by omega) ⟨fun c hc => by rw [if_neg (by omega)]; exact e9 c hc, fun _ _ _ => rfl⟩ (by omega)) ?_
  · intro f j M' hj ⟨hz, hF⟩
    left
    have hT' : TC t M' 1 := hT.of (fun a b h1 h2 => hF a b (by omega))
    have hzj : M' (k + 1) j = nI (s (6 + j)) := by rw [hz j hj, if_neg (by omega)]
    have hless := c_lessByWait (N := N) (k := k) ht hs hT' (by rw [hF _ _ (by omega)]; exact e8) hj hzj
    refine ⟨up2 M' (k + 1) j (nI (s (6 + j) - los t s j)), ⟨?_, ?_⟩, ?_⟩
    · intro c hc
      by_cases hcj : c = j
      · subst hcj; rw [up2_same, if_pos (by omega)]
      · rw [up2_j hcj, hz c hc]
        by_cases h1 : c < j
        · rw [if_pos h1, if_pos (by omega)]
        · rw [if_neg h1, if_neg (by omega)]
    · intro a b ha; rw [up2_k ha]; exact hF a b ha
    · show f_X1_waitOne_L7 N k (nI (clB t s)) (f + 1) (nI j) M' = _
      rw [f_X1_waitOne_L7, hless]
      simp (disch := omega) only [hT'.1, n_le, inb_nI, n_cl, Option.bind_some, hzj, i1, nI_add, n_sub los_le]
      rw [if_neg (by omega)]
      have : j < 8 := by omega
      simp [this]
  · intro f M' ⟨hz, hF⟩
    show Ok (f_X1_waitOne_L7 N k (nI (clB t s)) (f + 1) (nI (t 0)) M') _
    have g7 : M' 1 7 = nI (t 0) := by rw [hF _ _ (by omega)]; exact hT.1
    rw [f_X1_waitOne_L7, g7, if_pos (by rw [n_le (by omega) (by omega)]; omega)]
    exact Ok.ret ⟨fun c hc => by show M' (k + 1) c = _; rw [hz c hc, if_pos hc], hF⟩
  rintro ⟨i2, M2⟩ ⟨hz, hF⟩
  dsimp only at hz hF ⊢
  have hT2 : TC t M2 1 := hT.of (fun a b h1 h2 => hF a b (by omega))
  have hE2 : EC t (losS t s) M2 k := by
    refine EC.mk ?_ ⟨?_, ?_, ?_, ?_, ?_, ?_, ?_, ?_⟩
    · rw [hF _ _ (by omega), e1, thB_congr (s := s) (s' := losS t s) rfl]
    · rw [hF _ _ (by omega), e2]; rfl
    · rw [hF _ _ (by omega), e3]; rfl
    · rw [hF _ _ (by omega), e4]; rfl
    · rw [hF _ _ (by omega), e5]; rfl
    · rw [hF _ _ (by omega), e6]; rfl
    · rw [hF _ _ (by omega), e7]; rfl
    · rw [hF _ _ (by omega), e8, knw_congr (s := s) (s' := losS t s) rfl]
    · intro c hc
      rw [hz c hc]
      unfold losS
      rw [if_pos (by omega), Nat.add_sub_cancel_left]
  have hs2 : WS t (losS t s) m n := by
    refine ⟨hs.1, hs.2.1, hs.2.2.1, hs.2.2.2.1, fun c hc => ?_⟩
    unfold losS
    rw [if_pos (by omega)]
    have := hs.2.2.2.2 c hc
    omega
  refine Ok.bind (c_letPass hN (x := 1) ht hs2 hm hT2 hE2 hk (by omega)) ?_
  rintro M3 ⟨h3, h4⟩
  exact Ok.ret ⟨h3, fun a b ha hb => by rw [h4 a b ha, hF a b hb]⟩
theorem c_bowOnce {N : Nat} (hN : 1000 ≤ N) {M : Mem} {t s : Nat → Nat} {k m n : Nat} (ht : WT t) (hs : WS t s m n) (hn : n < 1000000) (hT : TC t M 1) (hE : EC t s M k) (hk : 21 ≤ k) :
    Ok (f_X1_bowOnce N M k) (fun M' => EC t (bowS t s) M' k ∧ ∀ a b, a ≠ k → a ≠ k + 1 → M' a b = M a b) := by
  have h0 := ht.1
  have hmor : morS t s ≤ 4 := by unfold morS; split <;> omega
  unfold f_X1_bowOnce
  refine Ok.bindE (c_moreByBow hs hn hE) ?_
  obtain ⟨e1, e2, e3, e4, e5, e6, e7, e8, e9⟩ := hE
  have hbow : ∀ c, c < t 0 → bowS t s (6 + c) = if clp t s c = true then (if s (6 + c) + morS t s < 40 then s (6 + c) + morS t s else 40) else s (6 + c) := by
    intro c hc
    unfold bowS
    rw [if_neg (by omega), if_pos (by omega), Nat.add_sub_cancel_left]
  refine Ok.bind (lpE (fun n i a => f_X1_bowOnce_L7 N k (nI (morS t s)) n i a) (t 0) (fun j M' => (∀ c, c < t 0 → M' (k + 1) c = nI (if c < j then bowS t s (6 + c) else s (6 + c))) ∧ ∀ a b, a ≠ k + 1 → M' a b = M a b) (fun r => (∀ c, c < t 0 → r.2 (k + 1) c = nI (bowS t s (6 + c))) ∧ ∀ a b, a ≠ k + 1 → r.2 a b = M a b) ?_ ?_ N 0 M (by omega) ⟨fun c hc => by rw [if_neg (by omega)]; exact e9 c hc, fun _ _ _ => rfl⟩ (by omega)) ?_
  · intro f j M' hj ⟨hz, hF⟩
    left
    have g7 : M' 1 7 = nI (t 0) := by rw [hF _ _ (by omega)]; exact hT.1
    have hzj : M' (k + 1) j = nI (s (6 + j)) := by rw [hz j hj, if_neg (by omega)]
    have hcl := c_isClapping' (N := N) (k := k) ht hs (by rw [hF _ _ (by omega)]; exact e1) hzj hj
    have h40 := hs.2.2.2.2 j hj
    have hj8 : j < 8 := by omega
    have hb := hbow j hj
    cases hc : clp t s j with
    | false =>
      rw [hc] at hb
      refine ⟨M', ⟨?_, hF⟩, ?_⟩
      · intro c hcc
        rw [hz c hcc]
        by_cases hcj : c = j
        · subst hcj; rw [if_neg (by omega), if_pos (by omega), hb]; rfl
        · by_cases h1 : c < j
          · rw [if_pos h1, if_pos (by omega)]
          · rw [if_neg h1, if_neg (by omega)]
      · show f_X1_bowOnce_L7 N k (nI (morS t s)) (f + 1) (nI j) M' = _
        rw [f_X1_bowOnce_L7, hcl, hc]
        simp (disch := omega) only [g7, n_le, Option.bind_some, i0, i1, nI_add]
        rw [if_neg (by omega)]
        simp
    | true =>
      rw [hc, if_pos rfl] at hb
      refine ⟨up2 M' (k + 1) j (nI (bowS t s (6 + j))), ⟨?_, ?_⟩, ?_⟩
      · intro c hcc
        by_cases hcj : c = j
        · subst hcj; rw [up2_same, if_pos (by omega)]
        · rw [up2_j hcj, hz c hcc]
          by_cases h1 : c < j
          · rw [if_pos h1, if_pos (by omega)]
          · rw [if_neg h1, if_neg (by omega)]
      · intro a b ha; rw [up2_k ha]; exact hF a b ha
      · show f_X1_bowOnce_L7 N k (nI (morS t s)) (f + 1) (nI j) M' = _
        rw [f_X1_bowOnce_L7, hcl, hc, hb]
        simp (disch := omega) only [g7, n_le, Option.bind_some, i0, i1, i40, nI_add, inb_nI, n_cl, hzj, n_lt]
        rw [if_neg (by omega)]
        by_cases h5 : s (6 + j) + morS t s < 40 <;> simp [n_eq, hj8, h5]
  · intro f M' ⟨hz, hF⟩
    show Ok (f_X1_bowOnce_L7 N k (nI (morS t s)) (f + 1) (nI (t 0)) M') _
    have g7 : M' 1 7 = nI (t 0) := by rw [hF _ _ (by omega)]; exact hT.1
    rw [f_X1_bowOnce_L7, g7, if_pos (by rw [n_le (by omega) (by omega)]; omega)]
    exact Ok.ret ⟨fun c hc => by show M' (k + 1) c = _; rw [hz c hc, if_pos hc], hF⟩
  rintro ⟨i2, M2⟩ ⟨hz, hF⟩
  dsimp only at hz hF ⊢
  have hne : k + 1 ≠ k := by omega
  have hf5 : M2 k 5 = nI (s 2) := by rw [hF _ _ (by omega)]; exact e5
  refine Ok.ret ⟨EC.mk ?_ ⟨?_, ?_, ?_, ?_, ?_, ?_, ?_, ?_⟩, ?_⟩
  · rw [up2_j (by decide), hF _ _ (by omega), e1, thB_congr (s := s) (s' := bowS t s) rfl]
  · rw [up2_j (by decide), hF _ _ (by omega), e2]; rfl
  · rw [up2_j (by decide), hF _ _ (by omega), e3]; rfl
  · rw [up2_j (by decide), hF _ _ (by omega), e4]; rfl
  · rw [up2_same, hf5]; exact nI_1 _
  · rw [up2_j (by decide), hF _ _ (by omega), e6]; rfl
  · rw [up2_j (by decide), hF _ _ (by omega), e7]; rfl
  · rw [up2_j (by decide), hF _ _ (by omega), e8, knw_congr (s := s) (s' := bowS t s) rfl]
  · intro c hc
    rw [up2_k hne, hz c hc]
  · intro a b ha hb
    rw [up2_k ha, hF a b hb]
