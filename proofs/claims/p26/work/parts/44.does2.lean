/-! does. -/
theorem m_push {N : Nat} (hN : 1000 ≤ N) {M : Mem} {A : Ab} (h8 : aZ A ≤ 8) (hM : RM A M) {x : Int32} :
    Ok ((if M 70 6 = 8 then (f_X7_does_L70 N x N 0 M).bind fun o70 => some (up2 o70.2 70 6 ((o70.2 70 6) - 1)) else some M).bind fun o110 => f_X7_does_L113 N x N 0 o110) (fun q => mPs (psz (aZ A)) (psh (aH A) (aZ A) (aS A)) (up2 q.2 70 6 (q.2 70 6 + 1)) ∧ ∀ a b, a ≠ 75 → ¬ (a = 70 ∧ b = 6) → q.2 a b = M a b) := by
  obtain ⟨c1, c2, c3, c4, c5, c6⟩ := hM.ps
  obtain ⟨p1, p2⟩ := c5
  obtain ⟨z0, hz0⟩ : ∃ q, q = (if aZ A = 8 then 7 else aZ A) := ⟨_, rfl⟩
  obtain ⟨h0, hh0⟩ : ∃ q : Nat → Nat → Nat, q = (fun i => if aZ A = 8 then aH A (i + 1) else aH A i) := ⟨_, rfl⟩
  have hz7 : z0 ≤ 7 := by rw [hz0]; split <;> omega
  refine Ok.bind (P := fun M' => M' 70 6 = nI z0 ∧ (∀ i, i < z0 → ∀ j, j < 14 → M' 75 (14 * i + j) = nI (h0 i j)) ∧ ∀ a b, a ≠ 75 → ¬ (a = 70 ∧ b = 6) → M' a b = M a b) ?_ ?_
  · by_cases q8 : aZ A = 8
    · rw [p1, if_pos (by rw [q8]; rfl)]
      refine Ok.bind (lpE (fun n i a => f_X7_does_L70 N x n i a) 98 (fun j M' => (∀ i, i < j → M' 75 i = M 75 (i + 14)) ∧ (∀ i, j ≤ i → M' 75 i = M 75 i) ∧ ∀ a b, a ≠ 75 → M' a b = M a b) (fun r => (∀ i, i < 98 → r.2 75 i = M 75 (i + 14)) ∧ ∀ a b, a ≠ 75 → r.2 a b = M a b) ?_ ?_ N 0 M (by omega) ⟨fun i hi => by omega, fun _ _ => rfl, fun _ _ _ => rfl⟩ (by omega)) ?_
      · intro f j M' hj ⟨h1, h2, h3⟩
        left
        refine ⟨up2 M' 75 j (M 75 (j + 14)), ⟨fun i hi => ?_, fun i hi => by rw [up2_j (by omega)]; exact h2 i (by omega), fun a b ha => by rw [up2_k ha]; exact h3 a b ha⟩, ?_⟩
        · by_cases q : i = j
          · subst q; rw [up2_same]
          · rw [up2_j (by omega)]; exact h1 i (by omega)
        · show f_X7_does_L70 N x (f + 1) (nI j) M' = _
          have g := h2 (j + 14) (by omega)
          have r1 : j < 112 := by omega
          have r2 : j + 14 < 112 := by omega
          rw [f_X7_does_L70]
          simp (disch := omega) only [i1, i14, i98, n_le, inb_nI, n_cl, nI_add, g]
          rw [if_neg (by omega)]
          simp [r1, r2]
      · intro f M' h
        show Ok (f_X7_does_L70 N x (f + 1) (nI 98) M') _
        rw [f_X7_does_L70, if_pos (by show nI 98 ≤ nI 98; rw [n_le (by omega) (by omega)]; omega)]
        exact Ok.ret ⟨h.1, h.2.2⟩
      rintro ⟨r, M2⟩ ⟨h1, h3⟩
      dsimp only at h1 h3 ⊢
      have g6 : M2 70 6 = nI 8 := by rw [h3 _ _ (by omega), p1, q8]
      have hs1 : nI 8 - 1 = nI 7 := by decide
      rw [g6, hs1]
      refine Ok.ret ⟨by rw [up2_same, hz0, if_pos q8], fun i hi j hj => ?_, fun a b q1 q2 => ?_⟩
      · have hi7 : i < 7 := by rw [hz0, if_pos q8] at hi; exact hi
        rw [up2_k (by decide), h1 _ (by omega), show 14 * i + j + 14 = 14 * (i + 1) + j by omega, p2 (i + 1) (by omega) j hj, hh0]
        dsimp only
        rw [if_pos q8]
      · have : up2 M2 70 6 (nI 7) a b = M2 a b := by unfold up2; rw [if_neg q2]
        rw [this, h3 a b q1]
    · rw [if_neg (by rw [p1]; show ¬ nI (aZ A) = nI 8; rw [n_eq (by omega) (by omega)]; exact q8)]
      refine Ok.ret ⟨by rw [hz0, if_neg q8]; exact p1, fun i hi j hj => ?_, fun _ _ _ _ => rfl⟩
      rw [hz0, if_neg q8] at hi
      rw [p2 i hi j hj, hh0]
      dsimp only
      rw [if_neg q8]
  rintro M1 ⟨g6, hh, hF⟩
  refine lpE (fun n i a => f_X7_does_L113 N x n i a) 14 (fun j M' => (∀ i, i < j → M' 75 (14 * z0 + i) = nI (aS A i)) ∧ (∀ i, i < 14 * z0 → M' 75 i = M1 75 i) ∧ ∀ a b, a ≠ 75 → M' a b = M1 a b) _ ?_ ?_ N 0 M1 (by omega) ⟨fun i hi => by omega, fun _ _ => rfl, fun _ _ _ => rfl⟩ (by omega)
  · intro f j M' hj ⟨h1, h2, h3⟩
    left
    refine ⟨up2 M' 75 (14 * z0 + j) (nI (aS A j)), ⟨fun i hi => ?_, fun i hi => by rw [up2_j (by omega)]; exact h2 i hi, fun a b ha => by rw [up2_k ha]; exact h3 a b ha⟩, ?_⟩
    · by_cases q : i = j
      · subst q; rw [up2_same]
      · rw [up2_j (by omega)]; exact h1 i (by omega)
    · show f_X7_does_L113 N x (f + 1) (nI j) M' = _
      have g : M' 74 j = nI (aS A j) := by rw [h3 _ _ (by omega), hF _ _ (by omega) (by omega)]; exact c2 j hj
      have g7 : M' 70 6 = nI z0 := by rw [h3 _ _ (by omega)]; exact g6
      have r1 : 14 * z0 + j < 112 := by omega
      rw [f_X7_does_L113]
      simp (disch := omega) only [g7, i1, i14, n_le, inb_nI, n_cl, nI_add, pk_mul, g]
      rw [if_neg (by omega)]
      simp [hj, r1]
  · intro f M' ⟨h1, h2, h3⟩
    show Ok (f_X7_does_L113 N x (f + 1) (nI 14) M') _
    rw [f_X7_does_L113, if_pos (by show nI 14 ≤ nI 14; rw [n_le (by omega) (by omega)]; omega)]
    refine Ok.ret ⟨⟨?_, ?_⟩, fun a b q1 q2 => ?_⟩
    · show up2 M' 70 6 (M' 70 6 + 1) 70 6 = _
      rw [up2_same, h3 _ _ (by omega), g6, nI_1]
      congr 1
      rw [hz0]; unfold psz
      by_cases q8 : aZ A = 8
      · rw [if_pos q8, if_pos q8]
      · rw [if_neg q8, if_neg q8]
    · intro i hi j hj
      show up2 M' 70 6 (M' 70 6 + 1) 75 (14 * i + j) = nI (psh (aH A) (aZ A) (aS A) i j)
      rw [up2_k (by decide)]
      unfold psz at hi
      unfold psh
      by_cases q8 : aZ A = 8
      · rw [if_pos q8] at hi hz0
        rw [if_pos q8]
        by_cases q7 : i = 7
        · rw [if_pos q7, q7, ← hz0]; exact h1 j hj
        · rw [if_neg q7, h2 _ (by omega), hh i (by omega) j hj, hh0]
          dsimp only
          rw [if_pos q8]
      · rw [if_neg q8] at hi hz0
        rw [if_neg q8]
        by_cases q7 : i = aZ A
        · rw [if_pos q7, q7, ← hz0]; exact h1 j hj
        · rw [if_neg q7, h2 _ (by omega), hh i (by omega) j hj, hh0]
          dsimp only
          rw [if_neg q8]
    · show M' a b = M a b
      rw [h3 a b q1, hF a b q1 q2]
theorem psh_all {P : (Nat → Nat) → Prop} {h : Nat → Nat → Nat} {z : Nat} {s : Nat → Nat} (h8 : z ≤ 8) (hs : P s) (hh : ∀ i, i < z → P (h i)) : ∀ i, i < psz z → P (psh h z s i) := by
  intro i hi
  unfold psz at hi
  unfold psh
  by_cases q8 : z = 8
  · rw [if_pos q8] at hi
    rw [if_pos q8]
    split
    · exact hs
    · exact hh (i + 1) (by omega)
  · rw [if_neg q8] at hi
    rw [if_neg q8]
    split
    · exact hs
    · exact hh i (by omega)
def minO (t : Nat → Nat) (x : Nat) : Nat := if x = 0 then 1 else if x = 1 then 0 else t (33 + (x - 2))
theorem stepS_0 {t s : Nat → Nat} {x : Nat} : stepS t s x 0 = s 0 + minO t x := by
  unfold stepS minO
  by_cases h0 : x = 0
  · rw [if_pos h0, if_pos h0]; rfl
  · rw [if_neg h0, if_neg h0]
    by_cases h1 : x = 1
    · rw [if_pos h1, if_pos h1]; rfl
    · rw [if_neg h1, if_neg h1]; exact playS_0 t s _
theorem k_does {N n nx : Nat} (hN : 1000 ≤ N) (hn : n < 1000) {M : Mem} {A : Ab} (hB : RB n A) (hC : RC A nx M) (hM : RM A M) (x : Int32) : Ok (f_X6_does N M x) (fun q => Ok (f_X7_does N q.2 x) (fun q' => q.1 = q'.1 ∧ Good (n + 1) q'.2)) := by
  have ht := hB.1
  have hs := hB.2.1
  have h8 := hB.2.2.2.2.2.2.1
  have hB1 : RB (n + 1) A := hB.mono (by omega)
  rcases ix3 x (n := 6) (by omega) with h | ⟨c, hc, rfl⟩
  · refine k_comb (y := fun M1 => f_X7_does N M1 x) (A' := A) (nx' := nx) (ans := -3) hB1 ?_ ?_ hM
    · unfold f_X6_does
      rw [c_refusalO h]
      exact Ok.ret ⟨rfl, hC, fun _ _ _ => rfl⟩
    · intro M1 hM1
      unfold f_X7_does
      rw [m_lacksO h]
      exact Ok.ret ⟨rfl, hM1, fun _ _ _ => rfl⟩
  cases hst : isStep (aT A) c with
  | false =>
    refine k_comb (y := fun M1 => f_X7_does N M1 (nI c)) (A' := A) (nx' := nx) (ans := -2) hB1 ?_ ?_ hM
    · unfold f_X6_does
      rw [c_refusal ht hC.1 (by omega), hst]
      exact Ok.ret ⟨rfl, hC, fun _ _ _ => rfl⟩
    · intro M1 hM1
      unfold f_X7_does
      rw [m_lacks hN ht hs (by omega) hM1.1 hM1.2.1 (by omega), hst]
      exact Ok.ret ⟨rfl, hM1, fun _ _ _ => rfl⟩
  | true =>
  cases hcn : canS (aT A) (aS A) c with
  | false =>
    refine k_comb (y := fun M1 => f_X7_does N M1 (nI c)) (A' := A) (nx' := nx) (ans := -4) hB1 ?_ ?_ hM
    · unfold f_X6_does
      rw [c_refusal ht hC.1 (by omega), hst, c_isPossible hN ht hs hC.1 hC.2.1 (by omega), hcn]
      exact Ok.ret ⟨rfl, hC, fun _ _ _ => rfl⟩
    · intro M1 hM1
      unfold f_X7_does
      rw [m_lacks hN ht hs (by omega) hM1.1 hM1.2.1 (by omega), hst, hcn]
      exact Ok.ret ⟨rfl, hM1, fun _ _ _ => rfl⟩
  | true =>
  have hmo : minO (aT A) c ≤ 9 := by
    unfold minO
    split
    · omega
    · split
      · omega
      · exact (ht.2.2.2.2.2.2 (c - 2) (can_enc hcn (by omega)).1).2.2.1
  have hs0 := hs.1
  have hcls : f_X6_does N M (nI c) = if aS A 0 + minO (aT A) c ≤ 999 then (f_X2_remember N M 21).bind fun q59 => (f_X1_take N q59 21 (nI c)).bind fun q67 => (f_X1_noise N q67 21).bind fun q74 => some (q74, q67) else some (-5, M) := by
    unfold f_X6_does
    rw [c_refusal ht hC.1 (by omega), hst, c_isPossible hN ht hs hC.1 hC.2.1 (by omega), hcn]
    have hm : f_X5_minutesOf N M 1 (nI c) = some (nI (minO (aT A) c)) := by
      unfold f_X5_minutesOf minO
      by_cases q0 : c = 0
      · subst q0; rfl
      · rw [if_neg (by show ¬ nI c = nI 0; rw [n_eq (by omega) (by omega)]; exact q0), if_neg q0]
        by_cases q1 : c = 1
        · subst q1
          unfold f_X5_hasEncore
          rfl
        · have he := (can_enc hcn (by omega)).1
          have e1 : nI c - 2 = nI (c - 2) := n_sub (b := 2) (by omega)
          have h4 : c - 2 < 4 := by omega
          rw [if_neg q1, e1, c_hasEncore ht hC.1.2.1 (by omega), if_pos he, inb_nI (by omega), decide_eq_true h4, n_cl (by omega)]
          have g : M (1 + 5) (c - 2) = nI (aT A (33 + (c - 2))) := hC.1.2.2.2.2.2.2.2.2.2.1 (c - 2) he
          rw [g]
          rfl
    rw [hm, hC.2.1.2.1]
    simp only [Option.bind_some, nI_add]
    by_cases q : aS A 0 + minO (aT A) c ≤ 999
    · rw [if_pos q, if_pos (show nI (aS A 0 + minO (aT A) c) ≤ (999 : Int32) by show _ ≤ nI 999; rw [n_le (by omega) (by omega)]; exact q)]; rfl
    · rw [if_neg q, if_neg (show ¬ nI (aS A 0 + minO (aT A) c) ≤ (999 : Int32) by show ¬ _ ≤ nI 999; rw [n_le (by omega) (by omega)]; exact q)]; rfl
  have hmod : ∀ M1, RM A M1 → f_X7_does N M1 (nI c) = if aS A 0 + minO (aT A) c ≤ 999 then ((if (M1 70 6) = 8 then (f_X7_does_L70 N (nI c) N 0 M1).bind fun o70 => some (up2 o70.2 70 6 ((o70.2 70 6) - 1)) else some M1).bind fun o110 => (f_X7_does_L113 N (nI c) N 0 o110).bind fun o113 => (f_X7_steps N (up2 o113.2 70 6 ((o113.2 70 6) + 1)) (nI c)).bind fun q160 => (f_X7_noise N q160).bind fun q164 => some (q164, q160)) else some (-5, M1) := by
    intro M1 hM1
    unfold f_X7_does
    rw [m_lacks hN ht hs (by omega) hM1.1 hM1.2.1 (by omega), hst, hcn]
    have hm : (if nI c = 0 then some (1 : Int32) else (if nI c = 1 then some 0 else if inb ((33 + nI c) - 2) 45 = true then some (M1 72 ((33 + nI c) - 2).toNatClampNeg) else none)) = some (nI (minO (aT A) c)) := by
      unfold minO
      by_cases q0 : c = 0
      · subst q0; rfl
      · rw [if_neg (by show ¬ nI c = nI 0; rw [n_eq (by omega) (by omega)]; exact q0), if_neg q0]
        by_cases q1 : c = 1
        · subst q1; rfl
        · have e1 : (33 : Int32) + nI c - 2 = nI (33 + (c - 2)) := by
            show nI 33 + nI c - nI 2 = _
            rw [nI_add, n_sub (by omega)]
            congr 1
            omega
          have h45 : 33 + (c - 2) < 45 := by omega
          rw [if_neg (by show ¬ nI c = nI 1; rw [n_eq (by omega) (by omega)]; exact q1), if_neg q1, e1, inb_nI (by omega), decide_eq_true h45, n_cl (by omega), if_pos rfl, hM1.1 _ h45]
    simp only [Option.bind_some, if_true]
    rw [hm, hM1.2.1 0 (by omega)]
    simp only [Option.bind_some, nI_add]
    by_cases q : aS A 0 + minO (aT A) c ≤ 999
    · rw [if_pos q, if_pos (show nI (aS A 0 + minO (aT A) c) ≤ (999 : Int32) by show _ ≤ nI 999; rw [n_le (by omega) (by omega)]; exact q)]
    · rw [if_neg q, if_neg (show ¬ nI (aS A 0 + minO (aT A) c) ≤ (999 : Int32) by show ¬ _ ≤ nI 999; rw [n_le (by omega) (by omega)]; exact q)]
  by_cases q999 : aS A 0 + minO (aT A) c ≤ 999
  · have hws : WS (aT A) (stepS (aT A) (aS A) c) 999 (n + 1) := by
      have := WS.step ht hs hcn
      exact ⟨by rw [stepS_0]; exact q999, this.2⟩
    refine k_comb (y := fun M1 => f_X7_does N M1 (nI c)) (A' := (A.1, stepS (aT A) (aS A) c, aW A, aL A, aR A, aM A, psh (aH A) (aZ A) (aS A), psz (aZ A), A.2.2.2.2.2.2.2.2)) (nx' := (nx + 1) % 8) (ans := nI (nois (aT A) (stepS (aT A) (aS A) c))) ?_ ?_ ?_ hM
    · obtain ⟨h1, h2, h3, h4, h5, h6, h7, h8, h9⟩ := hB1
      exact ⟨h1, hws, h3, h4, h5, h6, by show psz (aZ A) ≤ 8; unfold psz; split <;> omega, psh_all (P := fun s => WS (aT A) s 999 (n + 1)) h7 h2 h8, h9⟩
    · rw [hcls, if_pos q999]
      obtain ⟨c1, c2, c3, c4, c5, c6⟩ := hC.ps
      refine Ok.bind (c_remember ht h8 hC) ?_
      rintro M1 ⟨hP1, hF1⟩
      have hT1 : TC (aT A) M1 1 := c1.of (fun a b q1 q2 => hF1 a b (by omega))
      have hE1 : EC (aT A) (aS A) M1 21 := c2.of (fun a b q1 q2 => hF1 a b (by omega))
      refine Ok.bind (c_take hN ht hs (by omega) (by omega) hT1 hE1 (by omega) hcn (by omega)) ?_
      rintro M2 ⟨hE2, hF2⟩
      have hT2 : TC (aT A) M2 1 := hT1.of (fun a b q1 q2 => hF2 a b (by omega) (by omega))
      refine Ok.bindE (c_noise hN ht hT2 hE2) ?_
      have hz : ∀ a b, (a < 43 ∨ 60 < a) → a ≠ 21 → a ≠ 22 → M2 a b = M a b := fun a b q1 q2 q3 => by rw [hF2 a b q2 q3, hF1 a b q1]
      exact Ok.ret ⟨rfl, RC.mk hT2 hE2 (c3.of (hz _ _ (by omega) (by omega) (by omega)) (fun b => hz _ _ (by omega) (by omega) (by omega))) (c4.of (hz _ _ (by omega) (by omega) (by omega)) (fun b => hz _ _ (by omega) (by omega) (by omega))) (hP1.of (fun a b q1 q2 => hF2 a b (by omega) (by omega))) (c6.of (fun a b q1 q2 q3 => hz a b (by omega) (by omega) (by omega))), fun a b q => hz a b (by omega) (by omega) (by omega)⟩
    · intro M1 hM1
      rw [hmod M1 hM1, if_pos q999]
      obtain ⟨c1, c2, c3, c4, c5, c6⟩ := hM1.ps
      refine Ok.bind2 (m_push hN h8 hM1) ?_
      rintro ⟨r, M2⟩ ⟨hP2, hF2⟩
      dsimp only at hP2 hF2 ⊢
      obtain ⟨M3, hM3⟩ : ∃ q, q = up2 M2 70 6 (M2 70 6 + 1) := ⟨_, rfl⟩
      rw [← hM3] at hP2 ⊢
      have hF3 : ∀ a b, a ≠ 75 → ¬ (a = 70 ∧ b = 6) → M3 a b = M1 a b := fun a b q1 q2 => by
        have : up2 M2 70 6 (M2 70 6 + 1) a b = M2 a b := by unfold up2; rw [if_neg q2]
        rw [hM3, this, hF2 a b q1 q2]
      have hT3 : MT (aT A) M3 := c1.of (fun b => hF3 _ _ (by omega) (by omega))
      have hS3 : MS (aS A) M3 := c2.of (fun b => hF3 _ _ (by omega) (by omega))
      refine Ok.bind (m_steps hN ht hs (by omega) (by omega) hT3 hS3 hcn (by omega)) ?_
      rintro M4 ⟨hS4, hF4⟩
      have hT4 : MT (aT A) M4 := hT3.of (fun b => hF4 _ _ (by omega))
      refine Ok.bindE (m_noise hN ht hws (by omega) hT4 hS4) ?_
      have hz : ∀ a b, a ≠ 74 → a ≠ 75 → ¬ (a = 70 ∧ b = 6) → M4 a b = M1 a b := fun a b q1 q2 q3 => by rw [hF4 a b q1, hF3 a b q2 q3]
      exact Ok.ret ⟨rfl, RM.mk hT4 hS4 (c3.of (hz _ _ (by omega) (by omega) (by omega)) (fun b => hz _ _ (by omega) (by omega) (by omega))) (c4.of (hz _ _ (by omega) (by omega) (by omega)) (fun b => hz _ _ (by omega) (by omega) (by omega))) (hP2.of (hF4 _ _ (by omega)) (fun b => hF4 _ _ (by omega))) (c6.of (fun b => hz _ _ (by omega) (by omega) (by omega)) (fun b => hz _ _ (by omega) (by omega) (by omega))), fun a b q => hz a b (by omega) (by omega) (by omega)⟩
  · refine k_comb (y := fun M1 => f_X7_does N M1 (nI c)) (A' := A) (nx' := nx) (ans := -5) hB1 ?_ ?_ hM
    · rw [hcls, if_neg q999]
      exact Ok.ret ⟨rfl, hC, fun _ _ _ => rfl⟩
    · intro M1 hM1
      rw [hmod M1 hM1, if_neg q999]
      exact Ok.ret ⟨rfl, hM1, fun _ _ _ => rfl⟩
