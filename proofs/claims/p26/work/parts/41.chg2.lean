/-! Pieces of the relation; write, erase, row, tear. -/
def cTx (l : Nat) (w : Nat → Nat) (M : Mem) : Prop := M 9 1 = nI l ∧ ∀ i, i < l → M 18 i = nI (w i)
def cRw (l : Nat) (w : Nat → Nat) (M : Mem) : Prop := M 0 9 = nI l ∧ ∀ i, i < l → M 63 i = nI (w i)
def cPs (t : Nat → Nat) (z : Nat) (h : Nat → Nat → Nat) (nx : Nat) (M : Mem) : Prop := M 43 0 = nI z ∧ M 43 1 = nI nx ∧ nx < 8 ∧ ∀ i, i < z → EC t (h i) M (rg nx z i)
def cKp (t : Nat → Nat) (f : Nat → Bool) (g : Nat → Nat → Nat) (M : Mem) : Prop := ∀ k, k < 2 → M 62 k = nI (if f k = true then 1 else 0) ∧ (f k = true → EC t (g k) M (64 + 2 * k))
def mTx (l : Nat) (w : Nat → Nat) (M : Mem) : Prop := M 70 1 = nI l ∧ ∀ i, i < l → M 71 i = nI (w i)
def mRw (l : Nat) (w : Nat → Nat) (M : Mem) : Prop := M 70 10 = nI l ∧ ∀ i, i < l → M 78 i = nI (w i)
def mPs (z : Nat) (h : Nat → Nat → Nat) (M : Mem) : Prop := M 70 6 = nI z ∧ ∀ i, i < z → ∀ j, j < 14 → M 75 (14 * i + j) = nI (h i j)
def mKp (f : Nat → Bool) (g : Nat → Nat → Nat) (M : Mem) : Prop := ∀ k, k < 2 → M 77 k = nI (if f k = true then 1 else 0) ∧ (f k = true → ∀ j, j < 14 → M 76 (14 * k + j) = nI (g k j))
theorem RC.mk {A : Ab} {nx : Nat} {M : Mem} (h1 : TC (aT A) M 1) (h2 : EC (aT A) (aS A) M 21) (h3 : cTx (aL A) (aW A) M) (h4 : cRw (aM A) (aR A) M) (h5 : cPs (aT A) (aZ A) (aH A) nx M) (h6 : cKp (aT A) (aK A) (aI A) M) : RC A nx M := ⟨h1, h2, h3, h4, h5, h6⟩
theorem RM.mk {A : Ab} {M : Mem} (h1 : MT (aT A) M) (h2 : MS (aS A) M) (h3 : mTx (aL A) (aW A) M) (h4 : mRw (aM A) (aR A) M) (h5 : mPs (aZ A) (aH A) M) (h6 : mKp (aK A) (aI A) M) : RM A M := ⟨h1, h2, h3, h4, h5, h6⟩
theorem RC.ps {A : Ab} {nx : Nat} {M : Mem} (h : RC A nx M) : TC (aT A) M 1 ∧ EC (aT A) (aS A) M 21 ∧ cTx (aL A) (aW A) M ∧ cRw (aM A) (aR A) M ∧ cPs (aT A) (aZ A) (aH A) nx M ∧ cKp (aT A) (aK A) (aI A) M := h
theorem RM.ps {A : Ab} {M : Mem} (h : RM A M) : MT (aT A) M ∧ MS (aS A) M ∧ mTx (aL A) (aW A) M ∧ mRw (aM A) (aR A) M ∧ mPs (aZ A) (aH A) M ∧ mKp (aK A) (aI A) M := h
theorem cTx.of {l : Nat} {w : Nat → Nat} {M M' : Mem} (h : cTx l w M) (e1 : M' 9 1 = M 9 1) (e : ∀ b, M' 18 b = M 18 b) : cTx l w M' := ⟨by rw [e1]; exact h.1, fun i hi => by rw [e]; exact h.2 i hi⟩
theorem cRw.of {l : Nat} {w : Nat → Nat} {M M' : Mem} (h : cRw l w M) (e1 : M' 0 9 = M 0 9) (e : ∀ b, M' 63 b = M 63 b) : cRw l w M' := ⟨by rw [e1]; exact h.1, fun i hi => by rw [e]; exact h.2 i hi⟩
theorem cPs.of {t : Nat → Nat} {z nx : Nat} {h : Nat → Nat → Nat} {M M' : Mem} (q : cPs t z h nx M) (e : ∀ a b, 43 ≤ a → a ≤ 60 → M' a b = M a b) : cPs t z h nx M' := ⟨by rw [e _ _ (by omega) (by omega)]; exact q.1, by rw [e _ _ (by omega) (by omega)]; exact q.2.1, q.2.2.1, fun i hi => (q.2.2.2 i hi).of (fun a b q1 q2 => e a b (by have := rg_b (nx := nx) (z := z) (i := i); omega) (by have := rg_b (nx := nx) (z := z) (i := i); omega))⟩
theorem cKp.of {t : Nat → Nat} {f : Nat → Bool} {g : Nat → Nat → Nat} {M M' : Mem} (h : cKp t f g M) (e : ∀ a b, 62 ≤ a → a ≤ 67 → a ≠ 63 → M' a b = M a b) : cKp t f g M' := fun k hk => ⟨by rw [e _ _ (by omega) (by omega) (by omega)]; exact (h k hk).1, fun q => ((h k hk).2 q).of (fun a b q1 q2 => e a b (by omega) (by omega) (by omega))⟩
theorem mTx.of {l : Nat} {w : Nat → Nat} {M M' : Mem} (h : mTx l w M) (e1 : M' 70 1 = M 70 1) (e : ∀ b, M' 71 b = M 71 b) : mTx l w M' := ⟨by rw [e1]; exact h.1, fun i hi => by rw [e]; exact h.2 i hi⟩
theorem mRw.of {l : Nat} {w : Nat → Nat} {M M' : Mem} (h : mRw l w M) (e1 : M' 70 10 = M 70 10) (e : ∀ b, M' 78 b = M 78 b) : mRw l w M' := ⟨by rw [e1]; exact h.1, fun i hi => by rw [e]; exact h.2 i hi⟩
theorem mPs.of {z : Nat} {h : Nat → Nat → Nat} {M M' : Mem} (q : mPs z h M) (e1 : M' 70 6 = M 70 6) (e : ∀ b, M' 75 b = M 75 b) : mPs z h M' := ⟨by rw [e1]; exact q.1, fun i hi j hj => by rw [e]; exact q.2 i hi j hj⟩
theorem mKp.of {f : Nat → Bool} {g : Nat → Nat → Nat} {M M' : Mem} (h : mKp f g M) (e : ∀ b, M' 76 b = M 76 b) (e1 : ∀ b, M' 77 b = M 77 b) : mKp f g M' := fun k hk => ⟨by rw [e1]; exact (h k hk).1, fun q j hj => by rw [e]; exact (h k hk).2 q j hj⟩
theorem k_comb {A A' : Ab} {n' nx' : Nat} {M : Mem} {ans : Int32} {x : Option (Int32 × Mem)} {y : Mem → Option (Int32 × Mem)} (hB' : RB n' A') (hc : Ok x (fun q => q.1 = ans ∧ RC A' nx' q.2 ∧ Kp M q.2)) (hm : ∀ M1, RM A M1 → Ok (y M1) (fun q => q.1 = ans ∧ RM A' q.2 ∧ Km M1 q.2)) (hM : RM A M) : Ok x (fun q => Ok (y q.2) (fun q' => q.1 = q'.1 ∧ Good n' q'.2)) := by
  refine hc.mono ?_
  rintro q ⟨h1, h2, h3⟩
  refine (hm q.2 (hM.kp h3)).mono ?_
  rintro q' ⟨h1', h2', h3'⟩
  exact ⟨by rw [h1, h1'], A', nx', hB', h2.km h3', h2'⟩
theorem k_write {N n nx : Nat} {M : Mem} {A : Ab} (hB : RB n A) (hC : RC A nx M) (hM : RM A M) (x : Int32) : Ok (f_X6_write N M x) (fun q => Ok (f_X7_write N q.2 x) (fun q' => q.1 = q'.1 ∧ Good n q'.2)) := by
  have h160 := hB.2.2.1
  rcases ix3 x (n := 256) (by omega) with h | ⟨c, hc, rfl⟩
  · refine k_comb (y := fun M1 => f_X7_write N M1 x) (A' := A) (nx' := nx) (ans := -3) hB ?_ ?_ hM
    · unfold f_X6_write
      by_cases hy : x < 0
      · rw [if_pos hy]; exact Ok.ret ⟨rfl, hC, fun _ _ _ => rfl⟩
      · rw [if_neg hy, if_neg (show ¬ x ≤ (255 : Int32) from nlt_of_lt (out_le (j := 255) h hy (by omega) (by omega)))]
        exact Ok.ret ⟨rfl, hC, fun _ _ _ => rfl⟩
    · intro M1 hM1
      unfold f_X7_write
      rw [show f_X7_in N M1 x 0 255 = some 0 from in_out (b := 255) h (by omega)]
      exact Ok.ret ⟨rfl, hM1, fun _ _ _ => rfl⟩
  · by_cases hl : aL A < 160
    · refine k_comb (y := fun M1 => f_X7_write N M1 (nI c)) (A' := (A.1, A.2.1, (fun i => if i = aL A then c else aW A i), aL A + 1, A.2.2.2.2)) (nx' := nx) (ans := nI (aL A + 1)) ?_ ?_ ?_ hM
      · obtain ⟨h1, h2, h3, h4, h5⟩ := hB
        refine ⟨h1, h2, by show aL A + 1 ≤ 160; omega, fun i hi => ?_, h5⟩
        show (if i = aL A then c else aW A i) ≤ 255
        split
        · omega
        · exact h4 i (by have : i < aL A + 1 := hi; omega)
      · obtain ⟨c1, c2, c3, c4, c5, c6⟩ := hC.ps
        have hch : vp_nar .char (((nI c).toUInt32 % 65536).toInt32) = nI c := by
          rw [pk_vc, pk_char, pk_tn (by omega), Nat.mod_eq_of_lt (by omega)]
        unfold f_X6_write f_X4_append
        rw [if_neg (nI_pos (by omega)), if_pos (by show nI c ≤ nI 255; rw [n_le (by omega) (by omega)]; omega), c3.1, if_pos (by show nI (aL A) < nI 160; rw [n_lt (by omega) (by omega)]; exact hl), inb_nI (by omega), decide_eq_true hl, if_pos rfl, n_cl (by omega), hch, up2_k (by decide), c3.1, nI_1]
        simp only [Option.bind_some]
        rw [if_neg (by decide), up2_same]
        obtain ⟨M9, hM9⟩ : ∃ q, q = up2 (up2 M 18 (aL A) (nI c)) 9 1 (nI (aL A + 1)) := ⟨_, rfl⟩
        rw [← hM9]
        have hz : ∀ a b, a ≠ 9 → a ≠ 18 → M9 a b = M a b := fun a b q1 q2 => by rw [hM9, up2_k q1, up2_k q2]
        refine Ok.ret ⟨rfl, RC.mk (c1.of (fun a b q1 q2 => hz a b (by omega) (by omega))) (c2.of (fun a b q1 q2 => hz a b (by omega) (by omega))) ⟨?_, ?_⟩ (c4.of (hz _ _ (by omega) (by omega)) (fun b => hz _ _ (by omega) (by omega))) (c5.of (fun a b q1 q2 => hz a b (by omega) (by omega))) (c6.of (fun a b q1 q2 q3 => hz a b (by omega) (by omega))), fun a b q => hz a b (by omega) (by omega)⟩
        · show M9 9 1 = _; rw [hM9, up2_same]
        · intro i hi
          show M9 18 i = nI (if i = aL A then c else aW A i)
          rw [hM9, up2_k (by decide)]
          by_cases q : i = aL A
          · subst q; rw [up2_same, if_pos rfl]
          · rw [up2_j q, if_neg q]
            exact c3.2 i (by have : i < aL A + 1 := hi; omega)
      · intro M1 hM1
        obtain ⟨c1, c2, c3, c4, c5, c6⟩ := hM1.ps
        unfold f_X7_write
        rw [show f_X7_in N M1 (nI c) 0 255 = some 1 from in_in (b := 255) (by omega) (by omega)]
        simp only [Option.bind_some]
        rw [if_neg (by decide), c3.1, if_neg (by show ¬ nI (aL A) = nI 160; rw [n_eq (by omega) (by omega)]; omega), inb_nI (by omega), decide_eq_true hl, if_pos rfl, n_cl (by omega), up2_same, up2_k (show (70 : Nat) ≠ 71 by decide), c3.1, nI_1]
        obtain ⟨M9, hM9⟩ : ∃ q, q = up2 (up2 M1 71 (aL A) (nI c)) 70 1 (nI (aL A + 1)) := ⟨_, rfl⟩
        rw [← hM9]
        have hz : ∀ a b, a ≠ 70 → a ≠ 71 → M9 a b = M1 a b := fun a b q1 q2 => by rw [hM9, up2_k q1, up2_k q2]
        have hy : ∀ b, b ≠ 1 → M9 70 b = M1 70 b := fun b q1 => by rw [hM9, up2_j q1, up2_k (by decide)]
        refine Ok.ret ⟨rfl, RM.mk (c1.of (fun b => hz _ b (by omega) (by omega))) (c2.of (fun b => hz _ b (by omega) (by omega))) ⟨?_, ?_⟩ (c4.of (hy _ (by omega)) (fun b => hz _ _ (by omega) (by omega))) (c5.of (hy _ (by omega)) (fun b => hz _ _ (by omega) (by omega))) (c6.of (fun b => hz _ _ (by omega) (by omega)) (fun b => hz _ _ (by omega) (by omega))), fun a b q => hz a b (by omega) (by omega)⟩
        · show M9 70 1 = _; rw [hM9, up2_same]
        · intro i hi
          show M9 71 i = nI (if i = aL A then c else aW A i)
          rw [hM9, up2_k (by decide)]
          by_cases q : i = aL A
          · subst q; rw [up2_same, if_pos rfl]
          · rw [up2_j q, if_neg q]
            exact c3.2 i (by have : i < aL A + 1 := hi; omega)
    · have hl2 : aL A = 160 := by omega
      refine k_comb (y := fun M1 => f_X7_write N M1 (nI c)) (A' := A) (nx' := nx) (ans := -5) hB ?_ ?_ hM
      · unfold f_X6_write f_X4_append
        have c3 := hC.ps.2.2.1
        rw [if_neg (nI_pos (by omega)), if_pos (by show nI c ≤ nI 255; rw [n_le (by omega) (by omega)]; omega), c3.1, if_neg (by show ¬ nI (aL A) < nI 160; rw [n_lt (by omega) (by omega)]; exact hl)]
        exact Ok.ret ⟨rfl, hC, fun _ _ _ => rfl⟩
      · intro M1 hM1
        unfold f_X7_write
        have c3 := hM1.ps.2.2.1
        rw [show f_X7_in N M1 (nI c) 0 255 = some 1 from in_in (b := 255) (by omega) (by omega)]
        simp only [Option.bind_some]
        rw [if_neg (by decide), c3.1, if_pos (by rw [hl2]; rfl)]
        exact Ok.ret ⟨rfl, hM1, fun _ _ _ => rfl⟩
theorem k_erase {N n nx : Nat} {M : Mem} {A : Ab} (hB : RB n A) (hC : RC A nx M) (hM : RM A M) : Ok (f_X6_erase N M) (fun q => Ok (f_X7_erase N q.2) (fun q' => q.1 = q'.1 ∧ Good n q'.2)) := by
  refine k_comb (y := fun M1 => f_X7_erase N M1) (A' := (A.1, A.2.1, aW A, 0, A.2.2.2.2)) (nx' := nx) (ans := nI (aL A)) ?_ ?_ ?_ hM
  · obtain ⟨h1, h2, h3, h4, h5⟩ := hB
    exact ⟨h1, h2, Nat.zero_le _, fun i hi => absurd hi (Nat.not_lt_zero i), h5⟩
  · obtain ⟨c1, c2, c3, c4, c5, c6⟩ := hC.ps
    unfold f_X6_erase
    obtain ⟨M9, hM9⟩ : ∃ q, q = up2 M 9 1 0 := ⟨_, rfl⟩
    rw [← hM9]
    have hz : ∀ a b, a ≠ 9 → M9 a b = M a b := fun a b q1 => by rw [hM9, up2_k q1]
    exact Ok.ret ⟨c3.1, RC.mk (c1.of (fun a b q1 q2 => hz a b (by omega))) (c2.of (fun a b q1 q2 => hz a b (by omega))) ⟨by show M9 _ _ = nI 0; rw [hM9]; exact up2_same _ _ _ _, fun i hi => absurd hi (Nat.not_lt_zero i)⟩ (c4.of (hz _ _ (by omega)) (fun b => hz _ _ (by omega))) (c5.of (fun a b q1 q2 => hz a b (by omega))) (c6.of (fun a b q1 q2 q3 => hz a b (by omega))), fun a b q => hz a b (by omega)⟩
  · intro M1 hM1
    obtain ⟨c1, c2, c3, c4, c5, c6⟩ := hM1.ps
    unfold f_X7_erase
    obtain ⟨M9, hM9⟩ : ∃ q, q = up2 M1 70 1 0 := ⟨_, rfl⟩
    rw [← hM9]
    have hz : ∀ a b, a ≠ 70 → M9 a b = M1 a b := fun a b q1 => by rw [hM9, up2_k q1]
    have hy : ∀ b, b ≠ 1 → M9 70 b = M1 70 b := fun b q1 => by rw [hM9, up2_j q1]
    exact Ok.ret ⟨c3.1, RM.mk (c1.of (fun b => hz _ b (by omega))) (c2.of (fun b => hz _ b (by omega))) ⟨by show M9 _ _ = nI 0; rw [hM9]; exact up2_same _ _ _ _, fun i hi => absurd hi (Nat.not_lt_zero i)⟩ (c4.of (hy _ (by omega)) (fun b => hz _ _ (by omega))) (c5.of (hy _ (by omega)) (fun b => hz _ _ (by omega))) (c6.of (fun b => hz _ _ (by omega)) (fun b => hz _ _ (by omega))), fun a b q => hz a b (by omega)⟩
theorem k_tear {N n nx : Nat} {M : Mem} {A : Ab} (hB : RB n A) (hC : RC A nx M) (hM : RM A M) : Ok (f_X6_tear N M) (fun q => Ok (f_X7_tear N q.2) (fun q' => q.1 = q'.1 ∧ Good n q'.2)) := by
  refine k_comb (y := fun M1 => f_X7_tear N M1) (A' := (A.1, A.2.1, aW A, aL A, aR A, 0, A.2.2.2.2.2.2)) (nx' := nx) (ans := nI (aM A)) ?_ ?_ ?_ hM
  · obtain ⟨h1, h2, h3, h4, h5, h6, h7⟩ := hB
    exact ⟨h1, h2, h3, h4, Nat.zero_le _, fun i hi => absurd hi (Nat.not_lt_zero i), h7⟩
  · obtain ⟨c1, c2, c3, c4, c5, c6⟩ := hC.ps
    unfold f_X6_tear
    obtain ⟨M9, hM9⟩ : ∃ q, q = up2 M 0 9 0 := ⟨_, rfl⟩
    rw [← hM9]
    have hz : ∀ a b, a ≠ 0 → M9 a b = M a b := fun a b q1 => by rw [hM9, up2_k q1]
    exact Ok.ret ⟨c4.1, RC.mk (c1.of (fun a b q1 q2 => hz a b (by omega))) (c2.of (fun a b q1 q2 => hz a b (by omega))) (c3.of (hz _ _ (by omega)) (fun b => hz _ _ (by omega))) ⟨by show M9 _ _ = nI 0; rw [hM9]; exact up2_same _ _ _ _, fun i hi => absurd hi (Nat.not_lt_zero i)⟩ (c5.of (fun a b q1 q2 => hz a b (by omega))) (c6.of (fun a b q1 q2 q3 => hz a b (by omega))), fun a b q => hz a b (by omega)⟩
  · intro M1 hM1
    obtain ⟨c1, c2, c3, c4, c5, c6⟩ := hM1.ps
    unfold f_X7_tear
    obtain ⟨M9, hM9⟩ : ∃ q, q = up2 M1 70 10 0 := ⟨_, rfl⟩
    rw [← hM9]
    have hz : ∀ a b, a ≠ 70 → M9 a b = M1 a b := fun a b q1 => by rw [hM9, up2_k q1]
    have hy : ∀ b, b ≠ 10 → M9 70 b = M1 70 b := fun b q1 => by rw [hM9, up2_j q1]
    exact Ok.ret ⟨c4.1, RM.mk (c1.of (fun b => hz _ b (by omega))) (c2.of (fun b => hz _ b (by omega))) (c3.of (hy _ (by omega)) (fun b => hz _ _ (by omega))) ⟨by show M9 _ _ = nI 0; rw [hM9]; exact up2_same _ _ _ _, fun i hi => absurd hi (Nat.not_lt_zero i)⟩ (c5.of (hy _ (by omega)) (fun b => hz _ _ (by omega))) (c6.of (fun b => hz _ _ (by omega)) (fun b => hz _ _ (by omega))), fun a b q => hz a b (by omega)⟩
theorem k_row {N n nx : Nat} (hN : 1000 ≤ N) {M : Mem} {A : Ab} (hB : RB n A) (hC : RC A nx M) (hM : RM A M) (x : Int32) : Ok (f_X6_row N M x) (fun q => Ok (f_X7_row N q.2 x) (fun q' => q.1 = q'.1 ∧ Good n q'.2)) := by
  have h12 := hB.2.2.2.2.1
  rcases ix3 x (n := 6) (by omega) with h | ⟨c, hc, rfl⟩
  · refine k_comb (y := fun M1 => f_X7_row N M1 x) (A' := A) (nx' := nx) (ans := -3) hB ?_ ?_ hM
    · unfold f_X6_row
      rw [c_refusalO h]
      exact Ok.ret ⟨rfl, hC, fun _ _ _ => rfl⟩
    · intro M1 hM1
      unfold f_X7_row
      rw [m_lacksO h]
      exact Ok.ret ⟨rfl, hM1, fun _ _ _ => rfl⟩
  · cases hst : isStep (aT A) c with
    | false =>
      refine k_comb (y := fun M1 => f_X7_row N M1 (nI c)) (A' := A) (nx' := nx) (ans := -2) hB ?_ ?_ hM
      · unfold f_X6_row
        rw [c_refusal hB.1 hC.1 (by omega), hst]
        exact Ok.ret ⟨rfl, hC, fun _ _ _ => rfl⟩
      · intro M1 hM1
        unfold f_X7_row
        rw [m_lacks hN hB.1 hB.2.1 (by omega) hM1.1 hM1.2.1 (by omega), hst]
        exact Ok.ret ⟨rfl, hM1, fun _ _ _ => rfl⟩
    | true =>
      have hlk : ∀ M1, RM A M1 → f_X7_row N M1 (nI c) = (if M1 70 10 = 12 then some (-5, M1) else if inb (M1 70 10) 12 = true then some ((up2 (up2 M1 78 (M1 70 10).toNatClampNeg (nI c)) 70 10 (((up2 M1 78 (M1 70 10).toNatClampNeg (nI c)) 70 10) + 1)) 70 10, (up2 (up2 M1 78 (M1 70 10).toNatClampNeg (nI c)) 70 10 (((up2 M1 78 (M1 70 10).toNatClampNeg (nI c)) 70 10) + 1))) else none) := by
        intro M1 hM1
        unfold f_X7_row
        rw [m_lacks hN hB.1 hB.2.1 (by omega) hM1.1 hM1.2.1 (by omega), hst]
        cases canS (aT A) (aS A) c <;> rfl
      by_cases hr : aM A < 12
      · refine k_comb (y := fun M1 => f_X7_row N M1 (nI c)) (A' := (A.1, A.2.1, aW A, aL A, (fun i => if i = aM A then c else aR A i), aM A + 1, A.2.2.2.2.2.2)) (nx' := nx) (ans := nI (aM A + 1)) ?_ ?_ ?_ hM
        · obtain ⟨h1, h2, h3, h4, h5, h6, h7⟩ := hB
          refine ⟨h1, h2, h3, h4, by show aM A + 1 ≤ 12; omega, fun i hi => ?_, h7⟩
          show (if i = aM A then c else aR A i) ≤ 5 ∧ isStep (aT A) (if i = aM A then c else aR A i) = true
          by_cases q : i = aM A
          · rw [if_pos q]; exact ⟨by omega, hst⟩
          · rw [if_neg q]; exact h6 i (by have : i < aM A + 1 := hi; omega)
        · obtain ⟨c1, c2, c3, c4, c5, c6⟩ := hC.ps
          unfold f_X6_row
          rw [c_refusal hB.1 hC.1 (by omega), hst]
          simp only [Option.bind_some, if_true]
          rw [c4.1, if_pos (by show nI (aM A) < nI 12; rw [n_lt (by omega) (by omega)]; exact hr), inb_nI (by omega), decide_eq_true hr, if_pos rfl, n_cl (by omega), up2_same, up2_k (show (0 : Nat) ≠ 63 by decide), c4.1, nI_1]
          obtain ⟨M9, hM9⟩ : ∃ q, q = up2 (up2 M 63 (aM A) (nI c)) 0 9 (nI (aM A + 1)) := ⟨_, rfl⟩
          rw [← hM9]
          have hz : ∀ a b, a ≠ 0 → a ≠ 63 → M9 a b = M a b := fun a b q1 q2 => by rw [hM9, up2_k q1, up2_k q2]
          refine Ok.ret ⟨rfl, RC.mk (c1.of (fun a b q1 q2 => hz a b (by omega) (by omega))) (c2.of (fun a b q1 q2 => hz a b (by omega) (by omega))) (c3.of (hz _ _ (by omega) (by omega)) (fun b => hz _ _ (by omega) (by omega))) ⟨?_, ?_⟩ (c5.of (fun a b q1 q2 => hz a b (by omega) (by omega))) (c6.of (fun a b q1 q2 q3 => hz a b (by omega) (by omega))), fun a b q => hz a b (by omega) (by omega)⟩
          · show M9 0 9 = _; rw [hM9, up2_same]
          · intro i hi
            show M9 63 i = nI (if i = aM A then c else aR A i)
            rw [hM9, up2_k (by decide)]
            by_cases q : i = aM A
            · subst q; rw [up2_same, if_pos rfl]
            · rw [up2_j q, if_neg q]
              exact c4.2 i (by have : i < aM A + 1 := hi; omega)
        · intro M1 hM1
          obtain ⟨c1, c2, c3, c4, c5, c6⟩ := hM1.ps
          rw [hlk M1 hM1, c4.1, if_neg (by show ¬ nI (aM A) = nI 12; rw [n_eq (by omega) (by omega)]; omega), inb_nI (by omega), decide_eq_true hr, if_pos rfl, n_cl (by omega), up2_same, up2_k (show (70 : Nat) ≠ 78 by decide), c4.1, nI_1]
          obtain ⟨M9, hM9⟩ : ∃ q, q = up2 (up2 M1 78 (aM A) (nI c)) 70 10 (nI (aM A + 1)) := ⟨_, rfl⟩
          rw [← hM9]
          have hz : ∀ a b, a ≠ 70 → a ≠ 78 → M9 a b = M1 a b := fun a b q1 q2 => by rw [hM9, up2_k q1, up2_k q2]
          have hy : ∀ b, b ≠ 10 → M9 70 b = M1 70 b := fun b q1 => by rw [hM9, up2_j q1, up2_k (by decide)]
          refine Ok.ret ⟨rfl, RM.mk (c1.of (fun b => hz _ b (by omega) (by omega))) (c2.of (fun b => hz _ b (by omega) (by omega))) (c3.of (hy _ (by omega)) (fun b => hz _ _ (by omega) (by omega))) ⟨?_, ?_⟩ (c5.of (hy _ (by omega)) (fun b => hz _ _ (by omega) (by omega))) (c6.of (fun b => hz _ _ (by omega) (by omega)) (fun b => hz _ _ (by omega) (by omega))), fun a b q => hz a b (by omega) (by omega)⟩
          · show M9 70 10 = _; rw [hM9, up2_same]
          · intro i hi
            show M9 78 i = nI (if i = aM A then c else aR A i)
            rw [hM9, up2_k (by decide)]
            by_cases q : i = aM A
            · subst q; rw [up2_same, if_pos rfl]
            · rw [up2_j q, if_neg q]
              exact c4.2 i (by have : i < aM A + 1 := hi; omega)
      · have hr2 : aM A = 12 := by omega
        refine k_comb (y := fun M1 => f_X7_row N M1 (nI c)) (A' := A) (nx' := nx) (ans := -5) hB ?_ ?_ hM
        · unfold f_X6_row
          rw [c_refusal hB.1 hC.1 (by omega), hst]
          simp only [Option.bind_some, if_true]
          rw [hC.ps.2.2.2.1.1, if_neg (by show ¬ nI (aM A) < nI 12; rw [n_lt (by omega) (by omega)]; exact hr)]
          exact Ok.ret ⟨rfl, hC, fun _ _ _ => rfl⟩
        · intro M1 hM1
          rw [hlk M1 hM1, hM1.ps.2.2.2.1.1, if_pos (by rw [hr2]; rfl)]
          exact Ok.ret ⟨rfl, hM1, fun _ _ _ => rfl⟩
