/-! keep, back, undo, does. -/
theorem vpb1 : vp_nar .boolean 1 = nI 1 := by decide
theorem vpb0 : vp_nar .boolean 0 = nI 0 := by decide
theorem k_keep {N n nx : Nat} (hN : 1000 ≤ N) {M : Mem} {A : Ab} (hB : RB n A) (hC : RC A nx M) (hM : RM A M) (x : Int32) : Ok (f_X6_keep N M x) (fun q => Ok (f_X7_keep N q.2 x) (fun q' => q.1 = q'.1 ∧ Good n q'.2)) := by
  rcases ix3 x (n := 2) (by omega) with h | ⟨c, hc, rfl⟩
  · refine k_comb (y := fun M1 => f_X7_keep N M1 x) (A' := A) (nx' := nx) (ans := -2) hB ?_ ?_ hM
    · unfold f_X6_keep
      by_cases hy : x < 0
      · rw [if_pos hy]; exact Ok.ret ⟨rfl, hC, fun _ _ _ => rfl⟩
      · have h2 : ¬ x < (2 : Int32) := fun q => by
          have h3 := out_le (j := 1) h hy (by omega) (by omega)
          rw [Int32.lt_iff_toInt_lt] at q h3
          have e2 : (2 : Int32).toInt = 2 := rfl
          rw [nI_toInt (by omega)] at h3
          omega
        rw [if_neg hy, if_neg h2]; exact Ok.ret ⟨rfl, hC, fun _ _ _ => rfl⟩
    · intro M1 hM1
      unfold f_X7_keep
      rw [show f_X7_in N M1 x 0 1 = some 0 from in_out (b := 1) h (by omega)]
      exact Ok.ret ⟨rfl, hM1, fun _ _ _ => rfl⟩
  · refine k_comb (y := fun M1 => f_X7_keep N M1 (nI c)) (A' := (A.1, A.2.1, aW A, aL A, aR A, aM A, aH A, aZ A, (fun i => if i = c then true else aK A i), (fun i => if i = c then aS A else aI A i))) (nx' := nx) (ans := nI (aS A 0)) ?_ ?_ ?_ hM
    · obtain ⟨h1, h2, h3, h4, h5, h6, h7, h8, h9⟩ := hB
      refine ⟨h1, h2, h3, h4, h5, h6, h7, h8, fun k hk q => ?_⟩
      show WS (aT A) (if k = c then aS A else aI A k) 999 n
      by_cases e : k = c
      · rw [if_pos e]; exact h2
      · rw [if_neg e]
        refine h9 k hk ?_
        have q2 : (if k = c then true else aK A k) = true := q
        rwa [if_neg e] at q2
    · obtain ⟨c1, c2, c3, c4, c5, c6⟩ := hC.ps
      have b1 : inb (nI c) 2 = true := by rw [inb_nI (by omega)]; simp; omega
      unfold f_X6_keep
      rw [if_neg (nI_pos (by omega)), if_pos (by show nI c < nI 2; rw [n_lt (by omega) (by omega)]; omega), if_pos b1, n_cl (by omega)]
      refine Ok.bind (c_copy hB.1 c2 (Or.inl (by omega))) ?_
      rintro M1 ⟨hE1, hF1⟩
      rw [if_pos b1, up2_k (by decide), vpb1]
      obtain ⟨M9, hM9⟩ : ∃ q, q = up2 M1 62 c (nI 1) := ⟨_, rfl⟩
      rw [← hM9]
      have hz : ∀ a b, a ≠ 62 → a ≠ 64 + 2 * c → a ≠ 64 + 2 * c + 1 → M9 a b = M a b := fun a b q1 q2 q3 => by rw [hM9, up2_k q1, hF1 a b q2 q3]
      refine Ok.ret ⟨by show M1 21 2 = _; rw [hF1 _ _ (by omega) (by omega)]; exact c2.2.1, RC.mk (c1.of (fun a b q1 q2 => hz a b (by omega) (by omega) (by omega))) (c2.of (fun a b q1 q2 => hz a b (by omega) (by omega) (by omega))) (c3.of (hz _ _ (by omega) (by omega) (by omega)) (fun b => hz _ _ (by omega) (by omega) (by omega))) (c4.of (hz _ _ (by omega) (by omega) (by omega)) (fun b => hz _ _ (by omega) (by omega) (by omega))) (c5.of (fun a b q1 q2 => hz a b (by omega) (by omega) (by omega))) ?_, fun a b q => hz a b (by omega) (by omega) (by omega)⟩
      intro k hk
      show M9 62 k = nI (if (if k = c then true else aK A k) = true then 1 else 0) ∧ ((if k = c then true else aK A k) = true → EC (aT A) (if k = c then aS A else aI A k) M9 (64 + 2 * k))
      by_cases e : k = c
      · subst e
        simp only [if_true]
        refine ⟨by rw [hM9, up2_same], fun _ => ?_⟩
        exact EC.of (M' := M9) hE1 (fun a b q1 q2 => by rw [hM9, up2_k (by omega)])
      · rw [if_neg e, if_neg e]
        refine ⟨by rw [hM9, up2_j e, hF1 _ _ (by omega) (by omega)]; exact (c6 k hk).1, fun q => ?_⟩
        exact ((c6 k hk).2 q).of (fun a b q1 q2 => hz a b (by omega) (by omega) (by omega))
    · intro M1 hM1
      obtain ⟨c1, c2, c3, c4, c5, c6⟩ := hM1.ps
      have b1 : inb (nI c) 2 = true := by rw [inb_nI (by omega)]; simp; omega
      unfold f_X7_keep
      rw [show f_X7_in N M1 (nI c) 0 1 = some 1 from in_in (b := 1) (by omega) (by omega)]
      simp only [Option.bind_some]
      rw [if_neg (by decide)]
      refine Ok.bind (lpE (fun n i a => f_X7_keep_L14 N (nI c) n i a) 14 (fun j M' => (∀ i, i < j → M' 76 (14 * c + i) = nI (aS A i)) ∧ (∀ i, (i < 14 * c ∨ 14 * c + 14 ≤ i) → M' 76 i = M1 76 i) ∧ ∀ a b, a ≠ 76 → M' a b = M1 a b) (fun r => (∀ i, i < 14 → r.2 76 (14 * c + i) = nI (aS A i)) ∧ (∀ i, (i < 14 * c ∨ 14 * c + 14 ≤ i) → r.2 76 i = M1 76 i) ∧ ∀ a b, a ≠ 76 → r.2 a b = M1 a b) ?_ ?_ N 0 M1 (by omega) ⟨fun i hi => by omega, fun _ _ => rfl, fun _ _ _ => rfl⟩ (by omega)) ?_
      · intro f j M' hj ⟨h1, h2, h3⟩
        left
        refine ⟨up2 M' 76 (14 * c + j) (nI (aS A j)), ⟨fun i hi => ?_, fun i hi => by rw [up2_j (by omega)]; exact h2 i hi, fun a b ha => by rw [up2_k ha]; exact h3 a b ha⟩, ?_⟩
        · by_cases q : i = j
          · subst q; rw [up2_same]
          · rw [up2_j (by omega)]; exact h1 i (by omega)
        · show f_X7_keep_L14 N (nI c) (f + 1) (nI j) M' = _
          have g : M' 74 j = nI (aS A j) := by rw [h3 _ _ (by omega)]; exact c2 j hj
          have h28 : 14 * c + j < 28 := by omega
          rw [f_X7_keep_L14]
          simp (disch := omega) only [i1, i14, n_le, inb_nI, n_cl, nI_add, pk_mul, g]
          rw [if_neg (by omega)]
          simp [hj, h28]
      · intro f M' h
        show Ok (f_X7_keep_L14 N (nI c) (f + 1) (nI 14) M') _
        rw [f_X7_keep_L14, if_pos (by show nI 14 ≤ nI 14; rw [n_le (by omega) (by omega)]; omega)]
        exact Ok.ret h
      rintro ⟨r, M2⟩ ⟨h1, h2, h3⟩
      dsimp only at h1 h2 h3 ⊢
      rw [if_pos b1, n_cl (by omega), up2_k (by decide), vpb1]
      obtain ⟨M9, hM9⟩ : ∃ q, q = up2 M2 77 c (nI 1) := ⟨_, rfl⟩
      rw [← hM9]
      have hz : ∀ a b, a ≠ 76 → a ≠ 77 → M9 a b = M1 a b := fun a b q1 q2 => by rw [hM9, up2_k q2, h3 a b q1]
      refine Ok.ret ⟨by show M2 74 0 = _; rw [h3 _ _ (by omega)]; exact c2 0 (by omega), RM.mk (c1.of (fun b => hz _ b (by omega) (by omega))) (c2.of (fun b => hz _ b (by omega) (by omega))) (c3.of (hz _ _ (by omega) (by omega)) (fun b => hz _ _ (by omega) (by omega))) (c4.of (hz _ _ (by omega) (by omega)) (fun b => hz _ _ (by omega) (by omega))) (c5.of (hz _ _ (by omega) (by omega)) (fun b => hz _ _ (by omega) (by omega))) ?_, fun a b q => hz a b (by omega) (by omega)⟩
      intro k hk
      show M9 77 k = nI (if (if k = c then true else aK A k) = true then 1 else 0) ∧ ((if k = c then true else aK A k) = true → ∀ j, j < 14 → M9 76 (14 * k + j) = nI ((if k = c then aS A else aI A k) j))
      by_cases e : k = c
      · subst e
        simp only [if_true]
        exact ⟨by rw [hM9, up2_same], fun _ j hj => by rw [hM9, up2_k (by decide)]; exact h1 j hj⟩
      · rw [if_neg e, if_neg e]
        refine ⟨by rw [hM9, up2_j e, h3 _ _ (by omega)]; exact (c6 k hk).1, fun q j hj => ?_⟩
        rw [hM9, up2_k (by decide), h2 _ (by omega)]
        exact (c6 k hk).2 q j hj
theorem k_back {N n nx : Nat} (hN : 1000 ≤ N) {M : Mem} {A : Ab} (hB : RB n A) (hC : RC A nx M) (hM : RM A M) (x : Int32) : Ok (f_X6_back N M x) (fun q => Ok (f_X7_back N q.2 x) (fun q' => q.1 = q'.1 ∧ Good n q'.2)) := by
  rcases ix3 x (n := 2) (by omega) with h | ⟨c, hc, rfl⟩
  · refine k_comb (y := fun M1 => f_X7_back N M1 x) (A' := A) (nx' := nx) (ans := -2) hB ?_ ?_ hM
    · unfold f_X6_back
      by_cases hy : x < 0
      · rw [if_pos hy]; exact Ok.ret ⟨rfl, hC, fun _ _ _ => rfl⟩
      · have h2 : ¬ x < (2 : Int32) := fun q => by
          have h3 := out_le (j := 1) h hy (by omega) (by omega)
          rw [Int32.lt_iff_toInt_lt] at q h3
          have e2 : (2 : Int32).toInt = 2 := rfl
          rw [nI_toInt (by omega)] at h3
          omega
        rw [if_neg hy, if_neg h2]; exact Ok.ret ⟨rfl, hC, fun _ _ _ => rfl⟩
    · intro M1 hM1
      unfold f_X7_back
      rw [show f_X7_in N M1 x 0 1 = some 0 from in_out (b := 1) h (by omega)]
      exact Ok.ret ⟨rfl, hM1, fun _ _ _ => rfl⟩
  · have b1 : inb (nI c) 2 = true := by rw [inb_nI (by omega)]; simp; omega
    cases hk : aK A c with
    | false =>
      refine k_comb (y := fun M1 => f_X7_back N M1 (nI c)) (A' := A) (nx' := nx) (ans := -4) hB ?_ ?_ hM
      · unfold f_X6_back
        have g : M 62 c = 0 := by rw [(hC.ps.2.2.2.2.2 c hc).1, hk]; rfl
        rw [if_neg (nI_pos (by omega)), if_pos (by show nI c < nI 2; rw [n_lt (by omega) (by omega)]; omega), if_pos b1, n_cl (by omega), if_pos g]
        exact Ok.ret ⟨rfl, hC, fun _ _ _ => rfl⟩
      · intro M1 hM1
        unfold f_X7_back
        have g : M1 77 c = 0 := by rw [(hM1.ps.2.2.2.2.2 c hc).1, hk]; rfl
        rw [show f_X7_in N M1 (nI c) 0 1 = some 1 from in_in (b := 1) (by omega) (by omega)]
        simp only [Option.bind_some]
        rw [if_neg (by decide), if_pos b1, n_cl (by omega), if_pos g]
        exact Ok.ret ⟨rfl, hM1, fun _ _ _ => rfl⟩
    | true =>
      refine k_comb (y := fun M1 => f_X7_back N M1 (nI c)) (A' := (A.1, aI A c, aW A, aL A, aR A, aM A, aH A, 0, A.2.2.2.2.2.2.2.2)) (nx' := nx) (ans := nI (aI A c 0)) ?_ ?_ ?_ hM
      · obtain ⟨h1, h2, h3, h4, h5, h6, h7, h8, h9⟩ := hB
        exact ⟨h1, h9 c hc hk, h3, h4, h5, h6, Nat.zero_le _, fun i hi => absurd hi (Nat.not_lt_zero i), h9⟩
      · obtain ⟨c1, c2, c3, c4, c5, c6⟩ := hC.ps
        unfold f_X6_back
        have g : ¬ M 62 c = 0 := by rw [(c6 c hc).1, hk]; decide
        rw [if_neg (nI_pos (by omega)), if_pos (by show nI c < nI 2; rw [n_lt (by omega) (by omega)]; omega), if_pos b1, n_cl (by omega), if_neg g, if_pos b1]
        refine Ok.bind (c_copy hB.1 ((c6 c hc).2 hk) (Or.inr (by omega))) ?_
        rintro M1 ⟨hE1, hF1⟩
        rw [up2_k (by decide)]
        obtain ⟨M9, hM9⟩ : ∃ q, q = up2 M1 43 0 0 := ⟨_, rfl⟩
        rw [← hM9]
        have hz : ∀ a b, a ≠ 43 → a ≠ 21 → a ≠ 22 → M9 a b = M a b := fun a b q1 q2 q3 => by rw [hM9, up2_k q1, hF1 a b q2 q3]
        refine Ok.ret ⟨hE1.2.1, RC.mk (c1.of (fun a b q1 q2 => hz a b (by omega) (by omega) (by omega))) (EC.of (M' := M9) hE1 (fun a b q1 q2 => by rw [hM9, up2_k (by omega)])) (c3.of (hz _ _ (by omega) (by omega) (by omega)) (fun b => hz _ _ (by omega) (by omega) (by omega))) (c4.of (hz _ _ (by omega) (by omega) (by omega)) (fun b => hz _ _ (by omega) (by omega) (by omega))) ⟨by show M9 43 0 = nI 0; rw [hM9]; exact up2_same _ _ _ _, by show M9 43 1 = _; rw [hM9, up2_j (by decide), hF1 _ _ (by omega) (by omega)]; exact c5.2.1, c5.2.2.1, fun i hi => absurd hi (Nat.not_lt_zero i)⟩ (c6.of (fun a b q1 q2 q3 => hz a b (by omega) (by omega) (by omega))), fun a b q => hz a b (by omega) (by omega) (by omega)⟩
      · intro M1 hM1
        obtain ⟨c1, c2, c3, c4, c5, c6⟩ := hM1.ps
        have g : ¬ M1 77 c = 0 := by rw [(c6 c hc).1, hk]; decide
        unfold f_X7_back
        rw [show f_X7_in N M1 (nI c) 0 1 = some 1 from in_in (b := 1) (by omega) (by omega)]
        simp only [Option.bind_some]
        rw [if_neg (by decide), if_pos b1, n_cl (by omega), if_neg g]
        refine Ok.bind (lpE (fun n i a => f_X7_back_L26 N (nI c) n i a) 14 (fun j M' => (∀ i, i < j → M' 74 i = nI (aI A c i)) ∧ ∀ a b, a ≠ 74 → M' a b = M1 a b) (fun r => (∀ i, i < 14 → r.2 74 i = nI (aI A c i)) ∧ ∀ a b, a ≠ 74 → r.2 a b = M1 a b) ?_ ?_ N 0 M1 (by omega) ⟨fun i hi => by omega, fun _ _ _ => rfl⟩ (by omega)) ?_
        · intro f j M' hj ⟨h1, h3⟩
          left
          refine ⟨up2 M' 74 j (nI (aI A c j)), ⟨fun i hi => ?_, fun a b ha => by rw [up2_k ha]; exact h3 a b ha⟩, ?_⟩
          · by_cases q : i = j
            · subst q; rw [up2_same]
            · rw [up2_j (by omega)]; exact h1 i (by omega)
          · show f_X7_back_L26 N (nI c) (f + 1) (nI j) M' = _
            have g : M' 76 (14 * c + j) = nI (aI A c j) := by rw [h3 _ _ (by omega)]; exact (c6 c hc).2 hk j hj
            have h28 : 14 * c + j < 28 := by omega
            rw [f_X7_back_L26]
            simp (disch := omega) only [i1, i14, n_le, inb_nI, n_cl, nI_add, pk_mul, g]
            rw [if_neg (by omega)]
            simp [hj, h28]
        · intro f M' h
          show Ok (f_X7_back_L26 N (nI c) (f + 1) (nI 14) M') _
          rw [f_X7_back_L26, if_pos (by show nI 14 ≤ nI 14; rw [n_le (by omega) (by omega)]; omega)]
          exact Ok.ret h
        rintro ⟨r, M2⟩ ⟨h1, h3⟩
        dsimp only at h1 h3 ⊢
        rw [up2_k (by decide)]
        obtain ⟨M9, hM9⟩ : ∃ q, q = up2 M2 70 6 0 := ⟨_, rfl⟩
        rw [← hM9]
        have hz : ∀ a b, a ≠ 70 → a ≠ 74 → M9 a b = M1 a b := fun a b q1 q2 => by rw [hM9, up2_k q1, h3 a b q2]
        have hy : ∀ b, b ≠ 6 → M9 70 b = M1 70 b := fun b q1 => by rw [hM9, up2_j q1, h3 _ _ (by omega)]
        refine Ok.ret ⟨h1 0 (by omega), RM.mk (c1.of (fun b => hz _ b (by omega) (by omega))) (fun j hj => ?_) (c3.of (hy _ (by omega)) (fun b => hz _ _ (by omega) (by omega))) (c4.of (hy _ (by omega)) (fun b => hz _ _ (by omega) (by omega))) ⟨by show M9 70 6 = nI 0; rw [hM9]; exact up2_same _ _ _ _, fun i hi => absurd hi (Nat.not_lt_zero i)⟩ (c6.of (fun b => hz _ _ (by omega) (by omega)) (fun b => hz _ _ (by omega) (by omega))), fun a b q => hz a b (by omega) (by omega)⟩
        show M9 74 j = _
        rw [hM9, up2_k (by decide)]
        exact h1 j hj
