/-! The class's evening: what can be, minutes. -/
def ER (t s : Nat → Nat) (M : Mem) (k : Nat) : Prop := M k 2 = nI (s 0) ∧ M k 3 = nI (s 1) ∧ M k 4 = nI (s 5) ∧ M k 5 = nI (s 2) ∧ M k 6 = nI (s 3) ∧ M k 7 = nI (s 4) ∧ M k 8 = nI (if knw t s = true then 1 else 0) ∧ ∀ c, c < t 0 → M (k + 1) c = nI (s (6 + c))
theorem EC.mk {t s : Nat → Nat} {M : Mem} {k : Nat} (h : M k 1 = nI (thB t s)) (h2 : ER t s M k) : EC t s M k := ⟨h, h2⟩
theorem c_hasEncore {N : Nat} {M : Mem} {t : Nat → Nat} {k e : Nat} (ht : WT t) (h8 : M k 8 = nI (t 1)) (he : e < 1000) : f_X5_hasEncore N M k (nI e) = some (if e < t 1 then nI 1 else nI 0) := by
  have h1 := ht.2.1
  unfold f_X5_hasEncore
  simp (disch := omega) only [h8, i0, i1, n_lt, n_le]
  rw [if_neg (by omega)]
  by_cases h : e < t 1
  · rw [if_neg (by omega), if_pos h]
  · rw [if_pos (by omega), if_neg h]
theorem c_isReady {N : Nat} {M : Mem} {t s : Nat → Nat} {k e m n : Nat} (ht : WT t) (hs : WS t s m n) (hT : TC t M 1) (hE : EC t s M k) (he : e < 1000) : f_X1_isReady N M k (nI e) = some (if rdy t s e = true then nI 1 else nI 0) := by
  obtain ⟨e1, e2, e3, e4, e5, e6, e7, e8, e9⟩ := hE
  have h1 := ht.2.1
  have h3 := hs.2.1
  have h4 := hs.2.2.2.1
  unfold f_X1_isReady rdy
  rw [c_hasEncore ht hT.2.1 he]
  by_cases h : e < t 1
  · have ga : M 7 e = nI (t (37 + e)) := hT.2.2.2.2.2.2.2.2.2.2.1 e h
    have h7 := ht.2.2.2.2.2.2 e h
    unfold f_X1_wasPlayed
    simp (disch := omega) only [if_pos h, Option.bind_some, i0, i1, i31, n_eq, e4, e3, bt0, inb_nI, n_cl, ga, n_lt]
    have h5 : e < 4 := by omega
    cases hb : (s 5).testBit e with
    | true => simp [n_eq]
    | false =>
      by_cases h6 : t (37 + e) ≤ s 1
      · have : ¬ s 1 < t (37 + e) := by omega
        simp [h, h5, h6, this]
      · have : s 1 < t (37 + e) := by omega
        simp [h, h5, h6, this]
  · simp [h, i0]
theorem c_isPossible {N : Nat} (hN : 1000 ≤ N) {M : Mem} {t s : Nat → Nat} {k x m n : Nat} (ht : WT t) (hs : WS t s m n) (hT : TC t M 1) (hE : EC t s M k) (hx : x < 1000) : f_X1_isPossible N M k (nI x) = some (if canS t s x = true then nI 1 else nI 0) := by
  have hn := nois_le ht hs
  have hq : (nI (nois t s) ≤ nI 0) = (nois t s ≤ 0) := n_le (by omega) (by omega)
  unfold f_X1_isPossible canS
  rw [c_noise hN ht hT hE]
  simp (disch := omega) only [i0, i1, i2, n_eq, Option.bind_some, hq]
  by_cases h0 : x = 0
  · simp [h0]
  · rw [if_neg h0, if_neg h0]
    by_cases h1 : x = 1
    · rw [if_pos h1, if_pos h1]
      by_cases h2 : nois t s ≤ 0
      · have : ¬ 0 < nois t s := by omega
        simp [h2, this]
      · have : 0 < nois t s := by omega
        simp [h2, this]
    · rw [if_neg h1, if_neg h1, n_sub (by omega), c_isReady ht hs hT hE (by omega)]
      cases hr : rdy t s (x - 2) with
      | false => simp
      | true =>
        by_cases h2 : nois t s ≤ 0
        · have : ¬ 0 < nois t s := by omega
          simp [h2, this, n_eq]
        · have : 0 < nois t s := by omega
          simp [h2, this, n_eq]
theorem c_moreByBow {N : Nat} {M : Mem} {t s : Nat → Nat} {k m n : Nat} (hs : WS t s m n) (hn : n < 1000000) (hE : EC t s M k) : f_X1_moreByBow N M k = some (nI (morS t s)) := by
  obtain ⟨e1, e2, e3, e4, e5, e6, e7, e8, e9⟩ := hE
  have h2 := hs.2.2.1
  unfold f_X1_moreByBow morS
  rw [e8, e5]
  cases knw t s with
  | true => rfl
  | false =>
    rw [if_pos (show nI (if false = true then 1 else 0) = 0 from rfl)]
    by_cases h : s 2 < 4
    · have h7 : (4 : Int32) - nI (s 2) = nI (4 - s 2) := n_sub (a := 4) (by omega)
      have h8 : (0 : Int32) < 4 - nI (s 2) := by rw [h7]; exact nI_lt (a := 0) (by omega) (by omega)
      rw [if_pos h8, h7]; rfl
    · have h4 : (nI 4 - nI (s 2)).toInt = 4 - (s 2 : Int) := pk_sub_toInt (by omega) (by omega)
      have h5 : ¬ (0 : Int32) < 4 - nI (s 2) := by
        show ¬ nI 0 < nI 4 - nI (s 2)
        rw [Int32.lt_iff_toInt_lt, h4, nI_toInt (by decide)]
        omega
      have h6 : 4 - s 2 = 0 := by omega
      rw [if_neg h5, h6]; rfl
/-- the bits, when the trains of the first j were looked at -/
def thM (t s s' : Nat → Nat) (j : Nat) : Nat := orB (fun i => if i < j then isT t s' i else isT t s i) (t 0)
theorem c_letPass {N : Nat} (hN : 1000 ≤ N) {M : Mem} {t s : Nat → Nat} {k x m n : Nat} (ht : WT t) (hs : WS t s m n) (hm : m < 1000000) (hT : TC t M 1) (hE : EC t s M k) (hk : 21 ≤ k) (hx : x < 100) :
    Ok (f_X1_letPass N M k (nI x)) (fun M' => EC t (itr (minS t) x s) M' k ∧ ∀ a b, a ≠ k → M' a b = M a b) := by
  obtain ⟨e1, e2, e3, e4, e5, e6, e7, e8, e9⟩ := hE
  have h0 := ht.1
  have hc3 := ht.2.2.2.1
  have hsm := hs.1
  unfold f_X1_letPass
  refine Ok.bind (lpE (fun n i a => f_X1_letPass_L2 N k (nI x) n i a) x (fun j M' => ER t (itr (minS t) j s) M' k ∧ M' k 1 = M k 1 ∧ ∀ a b, a ≠ k → M' a b = M a b) (fun r => ER t (itr (minS t) x s) r.2 k ∧ r.2 k 1 = M k 1 ∧ ∀ a b, a ≠ k → r.2 a b = M a b) ?_ ?_ N 0 M (by omega) ⟨⟨e2, e3, e4, e5, e6, e7, e8, e9⟩, rfl, fun _ _ _ => rfl⟩ (by omega)) ?_
  · intro f j M' hj ⟨hR, hb, hF⟩
    obtain ⟨r2, r3, r4, r5, r6, r7, r8, r9⟩ := hR
    left
    refine ⟨_, ?_, by show f_X1_letPass_L2 N k (nI x) (f + 1) (nI j) M' = _; rw [f_X1_letPass_L2, if_neg (by rw [n_le (by omega) (by omega)]; omega), i1, nI_add]⟩
    have q10 : M' 1 10 = nI (t 3) := by rw [hF _ _ (by omega)]; exact hT.2.2.2.1
    have q11 : M' 1 11 = nI (t 4) := by rw [hF _ _ (by omega)]; exact hT.2.2.2.2.1
    have qm : itr (minS t) j s 0 = s 0 + j := itr_min0 t j s
    have hne : k + 1 ≠ k := by omega
    refine ⟨⟨?_, ?_, ?_, ?_, ?_, ?_, ?_, ?_⟩, ?_, ?_⟩
    · simp only [up2, and_self, if_true, if_neg (show ¬ (2 : Nat) = 6 by decide), and_false, if_false, r2]
      exact nI_1 _
    · simp only [up2, and_self, if_true, r3]; simp; rfl
    · simp only [up2, and_self, if_true, r4]; simp; rfl
    · simp only [up2, and_self, if_true, r5]; simp; rfl
    · rw [itr_s, minS_3, qm]
      simp (disch := omega) only [up2, and_self, if_true, r2, r6, q10, q11, i2, pk_mul, n_lt, qm]
      by_cases h3 : s 0 + j < t 3 <;> simp [h3, nI_add]
    · simp only [up2, and_self, if_true, r7]; simp; rfl
    · rw [knw_congr (s' := itr (minS t) (j + 1) s) (s := itr (minS t) j s) (by rw [itr_minO t (by decide) (by decide), itr_minO t (by decide) (by decide)])]
      simp only [up2, and_self, if_true, r8]; simp
    · intro c hc
      simp only [up2, hne, false_and, if_false, r9 c hc]
      rw [itr_minO t (by omega) (by omega), itr_minO t (by omega) (by omega)]
    · simp only [up2, and_self, if_true, hb]; simp
    · intro a b ha
      simp only [up2, ha, false_and, if_false, hF a b ha]
  · intro f M' hI
    show Ok (f_X1_letPass_L2 N k (nI x) (f + 1) (nI x) M') _
    rw [f_X1_letPass_L2, if_pos (by rw [n_le (by omega) (by omega)]; omega)]
    exact Ok.ret hI
  rintro ⟨i2, M2⟩ ⟨hR, hb, hF⟩
  dsimp only at hR hb hF ⊢
  have qm : itr (minS t) x s 0 = s 0 + x := itr_min0 t x s
  obtain ⟨r2, r3, r4, r5, r6, r7, r8, r9⟩ := hR
  have q7 : M2 1 7 = nI (t 0) := by rw [hF _ _ (by omega)]; exact hT.1
  refine Ok.bind (lpE (fun n i a => f_X1_letPass_L67 N k n i a) (t 0) (fun j M' => M' k 1 = nI (thM t s (itr (minS t) x s) j) ∧ ∀ a b, (a ≠ k ∨ b ≠ 1) → M' a b = M2 a b) (fun r => r.2 k 1 = nI (thM t s (itr (minS t) x s) (t 0)) ∧ ∀ a b, (a ≠ k ∨ b ≠ 1) → r.2 a b = M2 a b) ?_ ?_ N 0 M2 (by omega) ⟨by rw [hb, e1]; rfl, fun _ _ _ => rfl⟩ (by omega)) ?_
  · intro f j M' hj ⟨hB, hG⟩
    left
    have g7 : M' 1 7 = nI (t 0) := by rw [hG _ _ (Or.inl (by omega))]; exact q7
    have g2 : M' k 2 = nI (s 0 + x) := by rw [hG _ _ (Or.inr (by omega)), r2, qm]
    have g4 : M' 4 j = nI (t (21 + j)) := by rw [hG _ _ (Or.inl (by omega)), hF _ _ (by omega)]; exact hT.2.2.2.2.2.2.2.1 j hj
    have htr := (ht.2.2.2.2.2.1 j hj).2.2.2
    have hlt : thM t s (itr (minS t) x s) j < 256 := orB_lt8 _ h0
    have hstep : f_X1_letPass_L67 N k (f + 1) (nI j) M' = f_X1_letPass_L67 N k f (nI (j + 1)) (if s 0 + x < t (21 + j) then M' else up2 M' k 1 (nI (ann (thM t s (itr (minS t) x s) j) (2 ^ j)))) := by
      rw [f_X1_letPass_L67]
      simp (disch := omega) only [g7, g2, hB, g4, i1, i31, n_le, inb_nI, n_cl, n_lt, nI_add, x_pow, im1, x_ann]
      rw [if_neg (by omega), if_pos (by simp; omega)]
      split <;> rfl
    refine ⟨_, ?_, hstep⟩
    have hmono : isT t (itr (minS t) x s) j = true → isT t s j = true := by
      unfold isT
      rw [qm]
      simp only [Bool.and_eq_true, decide_eq_true_iff]
      omega
    by_cases hlt2 : s 0 + x < t (21 + j)
    · rw [if_pos hlt2]
      refine ⟨?_, hG⟩
      rw [hB]
      congr 1
      apply Nat.eq_of_testBit_eq
      intro i
      unfold thM
      rw [tb_orB, tb_orB]
      have hTj : isT t (itr (minS t) x s) j = true := by
        unfold isT; rw [qm]; simp [hj, hlt2]
      by_cases hij : i = j
      · subst hij
        simp [hTj, hmono hTj]
      · by_cases h3 : i < j
        · simp [h3, show i < j + 1 by omega]
        · simp [h3, show ¬ i < j + 1 by omega]
    · rw [if_neg hlt2]
      refine ⟨?_, ?_⟩
      · rw [up2_same]
        congr 1
        apply Nat.eq_of_testBit_eq
        intro i
        rw [tb_ann (by omega), Nat.testBit_two_pow]
        unfold thM
        rw [tb_orB, tb_orB]
        have hTj : isT t (itr (minS t) x s) j = false := by
          unfold isT; rw [qm]; simp [hlt2]
        by_cases hij : i = j
        · subst hij
          simp [hTj]
        · have : ¬ j = i := fun q => hij q.symm
          by_cases h3 : i < j
          · simp [h3, show i < j + 1 by omega, this]
          · simp [h3, show ¬ i < j + 1 by omega, this]
      · intro a b hab
        rcases hab with h | h
        · rw [up2_k h]; exact hG a b (Or.inl h)
        · rw [up2_j h]; exact hG a b (Or.inr h)
  · intro f M' hI
    show Ok (f_X1_letPass_L67 N k (f + 1) (nI (t 0)) M') _
    have g7 : M' 1 7 = nI (t 0) := by rw [hI.2 _ _ (Or.inl (by omega))]; exact q7
    rw [f_X1_letPass_L67, g7, if_pos (by rw [n_le (by omega) (by omega)]; omega)]
    exact Ok.ret hI
  rintro ⟨i3, M3⟩ ⟨hB, hG⟩
  dsimp only at hB hG ⊢
  refine Ok.ret ⟨EC.mk ?_ ⟨?_, ?_, ?_, ?_, ?_, ?_, ?_, ?_⟩, ?_⟩
  · rw [hB]
    congr 1
    unfold thM thB
    apply Nat.eq_of_testBit_eq
    intro i
    rw [tb_orB, tb_orB]
    by_cases h : i < t 0 <;> simp [h]
  · rw [hG _ _ (Or.inr (by omega))]; exact r2
  · rw [hG _ _ (Or.inr (by omega))]; exact r3
  · rw [hG _ _ (Or.inr (by omega))]; exact r4
  · rw [hG _ _ (Or.inr (by omega))]; exact r5
  · rw [hG _ _ (Or.inr (by omega))]; exact r6
  · rw [hG _ _ (Or.inr (by omega))]; exact r7
  · rw [hG _ _ (Or.inr (by omega))]; exact r8
  · intro c hc; rw [hG _ _ (Or.inl (by omega))]; exact r9 c hc
  · intro a b ha; rw [hG _ _ (Or.inl ha)]; exact hF a b ha
