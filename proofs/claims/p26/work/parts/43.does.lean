/-! undo and does. -/
theorem k_undo {N n nx : Nat} (hN : 1000 ≤ N) {M : Mem} {A : Ab} (hB : RB n A) (hC : RC A nx M) (hM : RM A M) : Ok (f_X6_undo N M) (fun q => Ok (f_X7_undo N q.2) (fun q' => q.1 = q'.1 ∧ Good n q'.2)) := by
  have h8 := hB.2.2.2.2.2.2.1
  by_cases hz0 : aZ A = 0
  · refine k_comb (y := fun M1 => f_X7_undo N M1) (A' := A) (nx' := nx) (ans := -4) hB ?_ ?_ hM
    · unfold f_X6_undo f_X2_recall
      rw [hC.ps.2.2.2.2.1.1, if_pos (by rw [hz0]; rfl)]
      exact Ok.ret ⟨rfl, hC, fun _ _ _ => rfl⟩
    · intro M1 hM1
      unfold f_X7_undo
      rw [hM1.ps.2.2.2.2.1.1, if_pos (by rw [hz0]; rfl)]
      exact Ok.ret ⟨rfl, hM1, fun _ _ _ => rfl⟩
  · refine k_comb (y := fun M1 => f_X7_undo N M1) (A' := (A.1, aH A (aZ A - 1), aW A, aL A, aR A, aM A, aH A, aZ A - 1, A.2.2.2.2.2.2.2.2)) (nx' := (nx + 7) % 8) (ans := nI (aZ A - 1)) ?_ ?_ ?_ hM
    · obtain ⟨h1, h2, h3, h4, h5, h6, h7, h8, h9⟩ := hB
      exact ⟨h1, h8 (aZ A - 1) (by omega), h3, h4, h5, h6, by show aZ A - 1 ≤ 8; omega, fun i hi => h8 i (by have : i < aZ A - 1 := hi; omega), h9⟩
    · obtain ⟨c1, c2, c3, c4, c5, c6⟩ := hC.ps
      obtain ⟨p1, p2, p3, p4⟩ := c5
      unfold f_X6_undo f_X2_recall
      have hne : ¬ M 43 0 = 0 := by rw [p1]; show ¬ nI (aZ A) = nI 0; rw [n_eq (by omega) (by omega)]; exact hz0
      have hv : M 43 1 + 8 - 1 - (M 43 1 + 8 - 1) / 8 * 8 = nI ((nx + 7) % 8) := by
        rw [p2]
        show nI nx + nI 8 - nI 1 - (nI nx + nI 8 - nI 1) / nI 8 * nI 8 = _
        rw [nI_add, n_sub (by omega), pk_rem (by omega) (by omega) (by omega)]
        congr 1
      rw [if_neg hne, hv, up2_j (show (0 : Nat) ≠ 1 by decide), p1]
      have hs1 : nI (aZ A) - 1 = nI (aZ A - 1) := n_sub (b := 1) (by omega)
      rw [hs1, up2_j (show (1 : Nat) ≠ 0 by decide), up2_same]
      have b1 : inb (nI ((nx + 7) % 8)) 8 = true := by rw [inb_nI (by omega)]; simp; omega
      rw [if_pos b1, n_cl (by omega)]
      obtain ⟨M5, hM5⟩ : ∃ q, q = up2 (up2 M 43 1 (nI ((nx + 7) % 8))) 43 0 (nI (aZ A - 1)) := ⟨_, rfl⟩
      rw [← hM5]
      have hz5 : ∀ a b, a ≠ 43 → M5 a b = M a b := fun a b q => by rw [hM5, up2_k q, up2_k q]
      have hE5 : EC (aT A) (aH A (aZ A - 1)) M5 (45 + 2 * ((nx + 7) % 8)) := by
        have h := p4 (aZ A - 1) (by omega)
        have e : rg nx (aZ A) (aZ A - 1) = 45 + 2 * ((nx + 7) % 8) := by unfold rg; omega
        rw [e] at h
        exact h.of (fun a b q1 q2 => hz5 a b (by omega))
      refine Ok.bind (P := fun q => q.1 = 1 ∧ EC (aT A) (aH A (aZ A - 1)) q.2 21 ∧ ∀ a b, a ≠ 21 → a ≠ 22 → q.2 a b = M5 a b) ?_ ?_
      · refine Ok.bind (c_copy hB.1 hE5 (Or.inr (by omega))) ?_
        rintro M6 ⟨h1, h2⟩
        exact Ok.ret ⟨rfl, h1, h2⟩
      rintro ⟨r, M6⟩ ⟨h0, h1, h2⟩
      dsimp only at h0 h1 h2 ⊢
      rw [h0, if_neg (by decide)]
      have hz : ∀ a b, a ≠ 43 → a ≠ 21 → a ≠ 22 → M6 a b = M a b := fun a b q1 q2 q3 => by rw [h2 a b q2 q3, hz5 a b q1]
      have g0 : M6 43 0 = nI (aZ A - 1) := by rw [h2 _ _ (by omega) (by omega), hM5, up2_same]
      have g1 : M6 43 1 = nI ((nx + 7) % 8) := by rw [h2 _ _ (by omega) (by omega), hM5, up2_j (by decide), up2_same]
      refine Ok.ret ⟨g0, RC.mk (c1.of (fun a b q1 q2 => hz a b (by omega) (by omega) (by omega))) h1 (c3.of (hz _ _ (by omega) (by omega) (by omega)) (fun b => hz _ _ (by omega) (by omega) (by omega))) (c4.of (hz _ _ (by omega) (by omega) (by omega)) (fun b => hz _ _ (by omega) (by omega) (by omega))) ⟨g0, g1, Nat.mod_lt _ (by decide), fun i hi => ?_⟩ (c6.of (fun a b q1 q2 q3 => hz a b (by omega) (by omega) (by omega))), fun a b q => hz a b (by omega) (by omega) (by omega)⟩
      have hi2 : i < aZ A - 1 := hi
      have e : rg ((nx + 7) % 8) (aZ A - 1) i = rg nx (aZ A) i := by unfold rg; omega
      show EC (aT A) (aH A i) M6 (rg ((nx + 7) % 8) (aZ A - 1) i)
      rw [e]
      have hb := rg_b (nx := nx) (z := aZ A) (i := i)
      exact (p4 i (by omega)).of (fun a b q1 q2 => hz a b (by omega) (by omega) (by omega))
    · intro M1 hM1
      obtain ⟨c1, c2, c3, c4, c5, c6⟩ := hM1.ps
      obtain ⟨p1, p2⟩ := c5
      unfold f_X7_undo
      have hne : ¬ M1 70 6 = 0 := by rw [p1]; show ¬ nI (aZ A) = nI 0; rw [n_eq (by omega) (by omega)]; exact hz0
      have hs1 : nI (aZ A) - 1 = nI (aZ A - 1) := n_sub (b := 1) (by omega)
      rw [if_neg hne, p1, hs1]
      obtain ⟨M5, hM5⟩ : ∃ q, q = up2 M1 70 6 (nI (aZ A - 1)) := ⟨_, rfl⟩
      rw [← hM5]
      have hz5 : ∀ a b, a ≠ 70 → M5 a b = M1 a b := fun a b q => by rw [hM5, up2_k q]
      have hy5 : ∀ b, b ≠ 6 → M5 70 b = M1 70 b := fun b q => by rw [hM5, up2_j q]
      have g6 : M5 70 6 = nI (aZ A - 1) := by rw [hM5, up2_same]
      refine Ok.bind (lpE (fun n i a => f_X7_undo_L22 N n i a) 14 (fun j M' => (∀ i, i < j → M' 74 i = nI (aH A (aZ A - 1) i)) ∧ ∀ a b, a ≠ 74 → M' a b = M5 a b) (fun r => (∀ i, i < 14 → r.2 74 i = nI (aH A (aZ A - 1) i)) ∧ ∀ a b, a ≠ 74 → r.2 a b = M5 a b) ?_ ?_ N 0 M5 (by omega) ⟨fun i hi => by omega, fun _ _ _ => rfl⟩ (by omega)) ?_
      · intro f j M' hj ⟨h1, h3⟩
        left
        refine ⟨up2 M' 74 j (nI (aH A (aZ A - 1) j)), ⟨fun i hi => ?_, fun a b ha => by rw [up2_k ha]; exact h3 a b ha⟩, ?_⟩
        · by_cases q : i = j
          · subst q; rw [up2_same]
          · rw [up2_j (by omega)]; exact h1 i (by omega)
        · show f_X7_undo_L22 N (f + 1) (nI j) M' = _
          have g : M' 75 (14 * (aZ A - 1) + j) = nI (aH A (aZ A - 1) j) := by rw [h3 _ _ (by omega), hz5 _ _ (by omega)]; exact p2 _ (by omega) j hj
          have g7 : M' 70 6 = nI (aZ A - 1) := by rw [h3 _ _ (by omega)]; exact g6
          have h112 : 14 * (aZ A - 1) + j < 112 := by omega
          rw [f_X7_undo_L22]
          simp (disch := omega) only [g7, i1, i14, n_le, inb_nI, n_cl, nI_add, pk_mul, g]
          rw [if_neg (by omega)]
          simp [hj, h112]
      · intro f M' h
        show Ok (f_X7_undo_L22 N (f + 1) (nI 14) M') _
        rw [f_X7_undo_L22, if_pos (by show nI 14 ≤ nI 14; rw [n_le (by omega) (by omega)]; omega)]
        exact Ok.ret h
      rintro ⟨r, M2⟩ ⟨h1, h3⟩
      dsimp only at h1 h3 ⊢
      have hz : ∀ a b, a ≠ 70 → a ≠ 74 → M2 a b = M1 a b := fun a b q1 q2 => by rw [h3 a b q2, hz5 a b q1]
      have hy : ∀ b, b ≠ 6 → M2 70 b = M1 70 b := fun b q1 => by rw [h3 _ _ (by omega), hy5 b q1]
      have g7 : M2 70 6 = nI (aZ A - 1) := by rw [h3 _ _ (by omega)]; exact g6
      refine Ok.ret ⟨g7, RM.mk (c1.of (fun b => hz _ b (by omega) (by omega))) h1 (c3.of (hy _ (by omega)) (fun b => hz _ _ (by omega) (by omega))) (c4.of (hy _ (by omega)) (fun b => hz _ _ (by omega) (by omega))) ⟨g7, fun i hi j hj => ?_⟩ (c6.of (fun b => hz _ _ (by omega) (by omega)) (fun b => hz _ _ (by omega) (by omega))), fun a b q => hz a b (by omega) (by omega)⟩
      have hi2 : i < aZ A - 1 := hi
      show M2 75 (14 * i + j) = nI (aH A i j)
      rw [hz _ _ (by omega) (by omega)]
      exact p2 i (by omega) j hj
/-- what was, with one more -/
def psh (h : Nat → Nat → Nat) (z : Nat) (s : Nat → Nat) : Nat → Nat → Nat := fun i => if z = 8 then (if i = 7 then s else h (i + 1)) else (if i = z then s else h i)
def psz (z : Nat) : Nat := if z = 8 then 8 else z + 1
theorem c_remember {N nx : Nat} {M : Mem} {A : Ab} (ht : WT (aT A)) (h8 : aZ A ≤ 8) (hC : RC A nx M) : Ok (f_X2_remember N M 21) (fun M' => cPs (aT A) (psz (aZ A)) (psh (aH A) (aZ A) (aS A)) ((nx + 1) % 8) M' ∧ ∀ a b, (a < 43 ∨ 60 < a) → M' a b = M a b) := by
  obtain ⟨c1, c2, c3, c4, c5, c6⟩ := hC.ps
  obtain ⟨p1, p2, p3, p4⟩ := c5
  unfold f_X2_remember
  have b1 : inb (nI nx) 8 = true := by rw [inb_nI (by omega)]; simp; omega
  rw [p2, if_pos b1, n_cl (by omega)]
  refine Ok.bind (c_copy ht c2 (Or.inl (by omega))) ?_
  rintro M1 ⟨hE1, hF1⟩
  have g0 : M1 43 0 = nI (aZ A) := by rw [hF1 _ _ (by omega) (by omega)]; exact p1
  have g1 : M1 43 1 = nI nx := by rw [hF1 _ _ (by omega) (by omega)]; exact p2
  have hv : nI nx + 1 - (nI nx + 1) / 8 * 8 = nI ((nx + 1) % 8) := by
    rw [nI_1]
    exact pk_rem (d := 8) (by omega) (by omega) (by omega)
  have hw : (if nI (aZ A) + 1 < 8 then nI (aZ A) + 1 else (8 : Int32)) = nI (psz (aZ A)) := by
    rw [nI_1]
    unfold psz
    by_cases q : aZ A + 1 < 8
    · rw [if_pos (by show nI (aZ A + 1) < nI 8; rw [n_lt (by omega) (by omega)]; exact q), if_neg (by omega)]
    · rw [if_neg (by show ¬ nI (aZ A + 1) < nI 8; rw [n_lt (by omega) (by omega)]; exact q)]
      by_cases q2 : aZ A = 8
      · rw [if_pos q2]; rfl
      · rw [if_neg q2, show aZ A + 1 = 8 by omega]; rfl
  simp only [g1, hv, up2_j (show (0 : Nat) ≠ 1 by decide), g0, hw]
  obtain ⟨M9, hM9⟩ : ∃ q, q = up2 (up2 M1 43 1 (nI ((nx + 1) % 8))) 43 0 (nI (psz (aZ A))) := ⟨_, rfl⟩
  rw [← hM9]
  have hz9 : ∀ a b, a ≠ 43 → M9 a b = M1 a b := fun a b q => by rw [hM9, up2_k q, up2_k q]
  refine Ok.ret ⟨⟨by rw [hM9, up2_same], by rw [hM9, up2_j (by decide), up2_same], Nat.mod_lt _ (by decide), fun i hi => ?_⟩, fun a b q => by rw [hz9 _ _ (by omega), hF1 _ _ (by omega) (by omega)]⟩
  unfold psz at hi
  unfold psh psz
  by_cases q8 : aZ A = 8
  · rw [if_pos q8] at hi
    rw [if_pos q8, if_pos q8]
    by_cases q7 : i = 7
    · rw [if_pos q7]
      have e : rg ((nx + 1) % 8) 8 i = 45 + 2 * nx := by unfold rg; omega
      rw [e]
      exact hE1.of (fun a b q1 q2 => hz9 a b (by omega))
    · rw [if_neg q7]
      have e : rg ((nx + 1) % 8) 8 i = rg nx (aZ A) (i + 1) := by unfold rg; omega
      have hb := rg_b (nx := nx) (z := aZ A) (i := i + 1)
      have hne : rg nx (aZ A) (i + 1) ≠ 45 + 2 * nx := by unfold rg; omega
      have hpar : ∃ d, rg nx (aZ A) (i + 1) = 45 + 2 * d := ⟨_, rfl⟩
      obtain ⟨d, hd⟩ := hpar
      rw [e]
      exact (p4 (i + 1) (by omega)).of (fun a b q1 q2 => by rw [hz9 a b (by omega), hF1 a b (by omega) (by omega)])
  · rw [if_neg q8] at hi
    rw [if_neg q8, if_neg q8]
    by_cases q7 : i = aZ A
    · rw [if_pos q7]
      have e : rg ((nx + 1) % 8) (aZ A + 1) i = 45 + 2 * nx := by unfold rg; omega
      rw [e]
      exact hE1.of (fun a b q1 q2 => hz9 a b (by omega))
    · rw [if_neg q7]
      have e : rg ((nx + 1) % 8) (aZ A + 1) i = rg nx (aZ A) i := by unfold rg; omega
      have hb := rg_b (nx := nx) (z := aZ A) (i := i)
      have hne : rg nx (aZ A) i ≠ 45 + 2 * nx := by unfold rg; omega
      have hpar : ∃ d, rg nx (aZ A) i = 45 + 2 * d := ⟨_, rfl⟩
      obtain ⟨d, hd⟩ := hpar
      rw [e]
      exact (p4 i (by omega)).of (fun a b q1 q2 => by rw [hz9 a b (by omega), hF1 a b (by omega) (by omega)])
