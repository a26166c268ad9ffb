/-! The model's evening: the steps. -/
def packs (f : Nat → Nat) : Nat → Nat
  | 0 => 0
  | n + 1 => packs f n + f n * 2 ^ (2 * n)
theorem packs_lt {f : Nat → Nat} (hf : ∀ i, f i < 4) : ∀ n, packs f n < 2 ^ (2 * n)
  | 0 => by simp [packs]
  | n + 1 => by
    have h := packs_lt hf n
    have h2 := hf n
    rw [packs, show 2 * (n + 1) = 2 * n + 2 by omega, Nat.pow_add]
    have : f n * 2 ^ (2 * n) ≤ 3 * 2 ^ (2 * n) := Nat.mul_le_mul_right _ (by omega)
    omega
theorem packs_or {f : Nat → Nat} (hf : ∀ i, f i < 4) (n : Nat) : packs f n ||| f n * 2 ^ (2 * n) = packs f (n + 1) := by
  rw [packs, Nat.or_comm, Nat.add_comm, Nat.mul_comm]
  exact (Nat.two_pow_add_eq_or_of_lt (packs_lt hf n) (f n)).symm
theorem packs_at {f : Nat → Nat} (hf : ∀ i, f i < 4) {i : Nat} : ∀ {n : Nat}, i < n → packs f n / 2 ^ (2 * i) % 4 = f i
  | 0, h => by omega
  | n + 1, h => by
    by_cases hi : i = n
    · subst hi
      rw [packs, Nat.add_mul_div_right _ _ (Nat.two_pow_pos _), Nat.div_eq_of_lt (packs_lt hf i), Nat.zero_add, Nat.mod_eq_of_lt (hf i)]
    · have ih := packs_at hf (i := i) (n := n) (by omega)
      rw [packs, show 2 * n = 2 * i + 2 + 2 * (n - i - 1) by omega, Nat.pow_add, Nat.pow_add, ← Nat.mul_assoc, ← Nat.mul_assoc, Nat.mul_comm (f n), Nat.mul_assoc, Nat.mul_assoc, Nat.add_mul_div_left _ _ (Nat.two_pow_pos _), show (2 : Nat) ^ 2 = 4 from rfl, Nat.mul_left_comm, Nat.add_mul_mod_self_left]
      exact ih
theorem x_3 (b : Nat) : nI b &&& nI 3 = nI (b % 4) := by
  rw [x_and]; exact congrArg nI (Nat.and_two_pow_sub_one_eq_mod b 2)
theorem los_lt (t s : Nat → Nat) (c : Nat) : los t s c < 4 := by
  unfold los
  split
  · split
    · split <;> omega
    · split
      · split <;> omega
      · split
        · split <;> omega
        · split <;> omega
  · omega
theorem m_minute {N : Nat} {M : Mem} {t s : Nat → Nat} {m n : Nat} (ht : WT t) (hs : WS t s m n) (hm : m < 1000000000) (hT : MT t M) (hS : MS s M) : Ok (f_X7_minute N M) (fun M' => MS (minS t s) M' ∧ ∀ a b, a ≠ 74 → M' a b = M a b) := by
  have h3 := ht.2.2.2.1
  have h0 := hs.1
  unfold f_X7_minute
  refine Ok.ret ⟨?_, ?_⟩
  · intro j hj
    have g0 := hS 0 (by omega)
    have g3 := hS 3 (by omega)
    have t3 := hT 3 (by omega)
    have t4 := hT 4 (by omega)
    by_cases j0 : j = 0
    · subst j0
      rw [up2_same, up2_j (by decide), g0, minS_0]
      exact nI_1 _
    · rw [up2_j j0]
      by_cases j3 : j = 3
      · subst j3
        rw [up2_same, minS_3]
        simp (disch := omega) only [g0, g3, t3, t4, i2, pk_mul, n_lt]
        by_cases h : s 0 < t 3 <;> simp [h, nI_add]
      · rw [up2_j j3, hS j hj]
        unfold minS
        rw [if_neg j0, if_neg j3]
  · intro a b ha
    rw [up2_k ha, up2_k ha]
theorem MT.of {t : Nat → Nat} {M M' : Mem} (h : MT t M) (e : ∀ b, M' 72 b = M 72 b) : MT t M' := fun j hj => by rw [e]; exact h j hj
theorem MS.of {s : Nat → Nat} {M M' : Mem} (h : MS s M) (e : ∀ b, M' 74 b = M 74 b) : MS s M' := fun j hj => by rw [e]; exact h j hj
theorem m_waitsOne {N : Nat} (hN : 1000 ≤ N) {M : Mem} {t s : Nat → Nat} {m n : Nat} (ht : WT t) (hs : WS t s m n) (hm : m < 1000000000) (hT : MT t M) (hS : MS s M) : Ok (f_X7_waitsOne N M) (fun M' => MS (waitS t s) M' ∧ ∀ a b, a ≠ 74 → M' a b = M a b) := by
  have h0 := ht.1
  have g0 := hT 0 (by omega)
  have hl4 := los_lt t s
  unfold f_X7_waitsOne
  refine Ok.bind (lpE (fun n i a => f_X7_waitsOne_L4 N M n a i) (t 0) (fun j a => a = nI (packs (los t s) j)) (fun r => r.1 = nI (packs (los t s) (t 0))) ?_ ?_ N 0 0 (by omega) rfl (by omega)) ?_
  · intro f j a hj ha
    left
    refine ⟨_, rfl, ?_⟩
    show f_X7_waitsOne_L4 N M (f + 1) a (nI j) = _
    have hlj := hl4 j
    have hpw : 2 ^ (2 * j) ≤ 2 ^ 14 := Nat.pow_le_pow_right (by decide) (by omega)
    have hmul : los t s j * 2 ^ (2 * j) ≤ 3 * 2 ^ 14 := Nat.mul_le_mul (by omega) hpw
    rw [f_X7_waitsOne_L4, ha, m_loses hN ht hs hm hT hS hj]
    simp (disch := omega) only [g0, i1, i2, i31, n_le, nI_add, pk_mul, x_shl, x_or, Option.bind_some]
    rw [if_neg (by omega), packs_or hl4]
  · intro f a ha
    show Ok (f_X7_waitsOne_L4 N M (f + 1) a (nI (t 0))) _
    rw [f_X7_waitsOne_L4, g0, if_pos (by rw [n_le (by omega) (by omega)]; omega)]
    exact Ok.ret ha
  rintro ⟨l, i⟩ hl
  dsimp only at hl ⊢
  rw [hl]
  have hpk : packs (los t s) (t 0) < 2147483648 := by
    have := packs_lt hl4 (t 0)
    have : 2 ^ (2 * t 0) ≤ 2 ^ 16 := Nat.pow_le_pow_right (by decide) (by omega)
    omega
  refine Ok.bind (lpE (fun n i a => f_X7_waitsOne_L34 N (nI (packs (los t s) (t 0))) n i a) (t 0) (fun j M' => (∀ c, c < 14 → M' 74 c = nI (if 6 ≤ c ∧ c < 6 + j then s c - los t s (c - 6) else s c)) ∧ ∀ a b, a ≠ 74 → M' a b = M a b) (fun r => MS (losS t s) r.2 ∧ ∀ a b, a ≠ 74 → r.2 a b = M a b) ?_ ?_ N 0 M (by omega) ⟨fun c hc => by rw [if_neg (by omega)]; exact hS c hc, fun _ _ _ => rfl⟩ (by omega)) ?_
  · intro f j M' hj ⟨hz, hF⟩
    left
    have g7 : M' 72 0 = nI (t 0) := by rw [hF _ _ (by omega)]; exact g0
    have hzj : M' 74 (6 + j) = nI (s (6 + j)) := by rw [hz _ (by omega), if_neg (by omega)]
    have h14 : 6 + j < 14 := by omega
    have hat := packs_at hl4 hj
    have hle := los_le (t := t) (s := s) (c := j)
    refine ⟨up2 M' 74 (6 + j) (nI (s (6 + j) - los t s j)), ⟨?_, ?_⟩, ?_⟩
    · intro c hc
      by_cases hcj : c = 6 + j
      · subst hcj; rw [up2_same, if_pos (by omega), Nat.add_sub_cancel_left]
      · rw [up2_j hcj, hz c hc]
        by_cases h1 : 6 ≤ c ∧ c < 6 + j
        · rw [if_pos h1, if_pos (by omega)]
        · rw [if_neg h1, if_neg (by omega)]
    · intro a b ha; rw [up2_k ha]; exact hF a b ha
    · show f_X7_waitsOne_L34 N (nI (packs (los t s) (t 0))) (f + 1) (nI j) M' = _
      rw [f_X7_waitsOne_L34]
      simp (disch := omega) only [g7, n_le, inb_nI, n_cl, hzj, i1, i2, i3, i6, i31, nI_add, pk_mul, x_shr, x_3, hat, n_sub]
      rw [if_neg (by omega)]
      simp [h14]
  · intro f M' ⟨hz, hF⟩
    show Ok (f_X7_waitsOne_L34 N (nI (packs (los t s) (t 0))) (f + 1) (nI (t 0)) M') _
    have g7 : M' 72 0 = nI (t 0) := by rw [hF _ _ (by omega)]; exact g0
    rw [f_X7_waitsOne_L34, g7, if_pos (by rw [n_le (by omega) (by omega)]; omega)]
    exact Ok.ret ⟨hz, hF⟩
  rintro ⟨i2, M2⟩ ⟨hz, hF⟩
  dsimp only at hz hF ⊢
  have hs2 : WS t (losS t s) m n := by
    refine ⟨hs.1, hs.2.1, hs.2.2.1, hs.2.2.2.1, fun c hc => ?_⟩
    unfold losS
    rw [if_pos (by omega)]
    have := hs.2.2.2.2 c hc
    omega
  refine Ok.bind (m_minute ht hs2 hm (hT.of (fun b => hF _ _ (by omega))) hz) ?_
  rintro M3 ⟨h3, h4⟩
  exact Ok.ret ⟨h3, fun a b ha => by rw [h4 a b ha, hF a b ha]⟩
theorem m_bows {N : Nat} (hN : 1000 ≤ N) {M : Mem} {t s : Nat → Nat} {m n : Nat} (ht : WT t) (hs : WS t s m n) (hm : m < 1000000000) (hn : n < 1000000) (hT : MT t M) (hS : MS s M) : Ok (f_X7_bows N M) (fun M' => MS (bowS t s) M' ∧ ∀ a b, a ≠ 74 → M' a b = M a b) := by
  have h0 := ht.1
  have g0 := hT 0 (by omega)
  have hmor : morS t s ≤ 4 := by unfold morS; split <;> omega
  have h2 := hs.2.2.1
  unfold f_X7_bows
  refine Ok.bindE (m_wasKnown hN ht hs hT hS) ?_
  have hmo : (if nI (if knw t s = true then 1 else 0) = 0 then (if M 74 2 ≤ 4 then (4 - M 74 2) else 0) else 0) = nI (morS t s) := by
    unfold morS
    cases knw t s with
    | true => rfl
    | false =>
      rw [if_pos (show nI (if false = true then 1 else 0) = 0 from rfl), hS 2 (by omega)]
      by_cases h : s 2 ≤ 4
      · rw [if_pos (by show nI (s 2) ≤ nI 4; rw [n_le (by omega) (by omega)]; exact h)]
        exact n_sub (a := 4) h
      · rw [if_neg (by show ¬ nI (s 2) ≤ nI 4; rw [n_le (by omega) (by omega)]; exact h)]
        have : 4 - s 2 = 0 := by omega
        simp [this]; rfl
  rw [hmo]
  have hbow : ∀ c, c < t 0 → bowS t s (6 + c) = if clp t s c = true then (if s (6 + c) + morS t s < 40 then s (6 + c) + morS t s else 40) else s (6 + c) := by
    intro c hc
    unfold bowS
    rw [if_neg (by omega), if_pos (by omega), Nat.add_sub_cancel_left]
  refine Ok.bind (lpE (fun n i a => f_X7_bows_L32 N (nI (morS t s)) n i a) (t 0) (fun j M' => (∀ c, c < 14 → M' 74 c = nI (if 6 ≤ c ∧ c < 6 + j then bowS t s c else s c)) ∧ ∀ a b, a ≠ 74 → M' a b = M a b) (fun r => (∀ c, c < 14 → r.2 74 c = nI (if 6 ≤ c ∧ c < 6 + t 0 then bowS t s c else s c)) ∧ ∀ a b, a ≠ 74 → r.2 a b = M a b) ?_ ?_ N 0 M (by omega) ⟨fun c hc => by rw [if_neg (by omega)]; exact hS c hc, fun _ _ _ => rfl⟩ (by omega)) ?_
  · intro f j M' hj ⟨hz, hF⟩
    left
    have hT' : MT t M' := hT.of (fun b => hF _ _ (by omega))
    have g7 : M' 72 0 = nI (t 0) := hT' 0 (by omega)
    have hzj : M' 74 (6 + j) = nI (s (6 + j)) := by rw [hz _ (by omega), if_neg (by omega)]
    have h40 := hs.2.2.2.2 j hj
    have h14 : 6 + j < 14 := by omega
    have hb := hbow j hj
    have hth : f_X7_claps N M' (nI j) = some (if clp t s j = true then nI 1 else nI 0) := by
      obtain ⟨s', hs'⟩ : ∃ s' : Nat → Nat, s' = (fun c => if 6 ≤ c ∧ c < 6 + j then bowS t s c else s c) := ⟨_, rfl⟩
      have hw : WS t s' m n := by
        rw [hs']
        refine ⟨hs.1, hs.2.1, hs.2.2.1, hs.2.2.2.1, fun c hc => ?_⟩
        dsimp only
        split
        · rw [hbow c hc]
          have := hs.2.2.2.2 c hc
          split
          · split <;> omega
          · omega
        · exact hs.2.2.2.2 c hc
      have := m_claps (N := N) ht hw hm hT' (fun c hc => by rw [hs']; exact hz c hc) (show j < 1000 by omega)
      rw [this]
      have e1 : clp t s' j = clp t s j := by
        unfold clp
        have e0 : s' (6 + j) = s (6 + j) := by rw [hs']; exact if_neg (by omega)
        rw [isT_congr (s := s) (s' := s') (by rw [hs']; rfl), e0]
      rw [e1]
    refine ⟨up2 M' 74 (6 + j) (nI (bowS t s (6 + j))), ⟨?_, ?_⟩, ?_⟩
    · intro c hcc
      by_cases hcj : c = 6 + j
      · subst hcj; rw [up2_same, if_pos (by omega)]
      · rw [up2_j hcj, hz c hcc]
        by_cases h1 : 6 ≤ c ∧ c < 6 + j
        · rw [if_pos h1, if_pos (by omega)]
        · rw [if_neg h1, if_neg (by omega)]
    · intro a b ha; rw [up2_k ha]; exact hF a b ha
    · show f_X7_bows_L32 N (nI (morS t s)) (f + 1) (nI j) M' = _
      rw [f_X7_bows_L32, hth, hb]
      simp (disch := omega) only [g7, n_le, Option.bind_some, i0, i1, i6, i40, nI_add, inb_nI, n_cl, hzj]
      rw [if_neg (by omega)]
      cases clp t s j with
      | false =>
        simp (disch := omega) only [n_eq, n_le, h14, decide_true, if_true, Option.bind_some, if_pos h40]
        simp (disch := omega) [n_le, h40]
      | true =>
        simp (disch := omega) [n_eq, h14, n_le]
        by_cases h5 : s (6 + j) + morS t s < 40
        · have : s (6 + j) + morS t s ≤ 40 := by omega
          simp [h5, this]
        · by_cases h6 : s (6 + j) + morS t s ≤ 40
          · have : s (6 + j) + morS t s = 40 := by omega
            simp [this]
          · simp [h5, h6]
  · intro f M' ⟨hz, hF⟩
    show Ok (f_X7_bows_L32 N (nI (morS t s)) (f + 1) (nI (t 0)) M') _
    have g7 : M' 72 0 = nI (t 0) := by rw [hF _ _ (by omega)]; exact g0
    rw [f_X7_bows_L32, g7, if_pos (by rw [n_le (by omega) (by omega)]; omega)]
    exact Ok.ret ⟨hz, hF⟩
  rintro ⟨i2, M2⟩ ⟨hz, hF⟩
  dsimp only at hz hF ⊢
  refine Ok.ret ⟨?_, fun a b ha => by rw [up2_k ha, hF a b ha]⟩
  intro j hj
  by_cases h2 : j = 2
  · subst h2
    rw [up2_same, hz 2 (by omega), if_neg (by omega)]
    exact nI_1 _
  · rw [up2_j h2, hz j hj]
    congr 1
    by_cases h3 : 6 ≤ j ∧ j < 6 + t 0
    · rw [if_pos h3]
    · rw [if_neg h3]
      unfold bowS
      rw [if_neg h2, if_neg h3]
