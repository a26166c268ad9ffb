/-! there, sound, judge. -/
theorem c_waits {N n nx c : Nat} (hN : 1000 ≤ N) (hn : n < 1000) {M : Mem} {A : Ab} (hB : RB n A) (hC : RC A nx M) (hc : c ≤ 99) : Ok (f_X6_foretellWaits N M (nI c)) (fun M' => EC (aT A) (itr (waitS (aT A)) c (aS A)) M' 23 ∧ ∀ a b, a ≠ 23 → a ≠ 24 → M' a b = M a b) := by
  obtain ⟨hT, hE, -⟩ := hC
  have ht := hB.1
  have hs := hB.2.1
  unfold f_X6_foretellWaits
  refine Ok.bind (c_copy ht hE (Or.inl (by omega))) ?_
  rintro M1 ⟨hE1, hF1⟩
  refine Ok.bind (lpE (fun n i a => f_X6_foretellWaits_L13 N (nI c) n i a) c (fun j M' => EC (aT A) (itr (waitS (aT A)) j (aS A)) M' 23 ∧ ∀ a b, a ≠ 23 → a ≠ 24 → M' a b = M a b) (fun r => EC (aT A) (itr (waitS (aT A)) c (aS A)) r.2 23 ∧ ∀ a b, a ≠ 23 → a ≠ 24 → r.2 a b = M a b) ?_ ?_ N 0 M1 (by omega) ⟨hE1, hF1⟩ (by omega)) (fun a h => Ok.ret h)
  · intro f j M' hj ⟨h1, h3⟩
    left
    have hT' : TC (aT A) M' 1 := hT.of (fun a b q1 q2 => h3 a b (by omega) (by omega))
    have hw := hs.waits j
    obtain ⟨M2, hM2, hE2, hF2⟩ := c_take0 (N := N) hN ht hw (by omega) (by omega) hT' h1 (by omega)
    refine ⟨M2, ⟨hE2, fun a b q1 q2 => by rw [hF2 a b q1 q2, h3 a b q1 q2]⟩, ?_⟩
    show f_X6_foretellWaits_L13 N (nI c) (f + 1) (nI j) M' = _
    rw [f_X6_foretellWaits_L13, hM2, if_neg (by rw [n_le (by omega) (by omega)]; omega), nI_1]; rfl
  · intro f M' h
    show Ok (f_X6_foretellWaits_L13 N (nI c) (f + 1) (nI c) M') _
    rw [f_X6_foretellWaits_L13, if_pos (by rw [n_le (by omega) (by omega)]; omega)]
    exact Ok.ret h
theorem m_waits {N n c : Nat} (hN : 1000 ≤ N) (hn : n < 1000) {M : Mem} {A : Ab} (hB : RB n A) (hM : RM A M) (hc : c ≤ 99) (b : Bool) : Ok (f_X7_behindWaits N M (nI c) (if b = true then 1 else 0)) (fun q => q.1 = nI (if b = true then nois (aT A) (itr (waitS (aT A)) c (aS A)) else thB (aT A) (itr (waitS (aT A)) c (aS A))) ∧ RM A q.2 ∧ Km M q.2) := by
  have hM0 := hM
  obtain ⟨hT, hS, -⟩ := hM
  have ht := hB.1
  have hs := hB.2.1
  unfold f_X7_behindWaits
  refine Ok.bind (m_holds hN) ?_
  rintro M1 ⟨hH1, hF1⟩
  refine Ok.bind (lpE (fun n i a => f_X7_behindWaits_L6 N (nI c) (if b = true then 1 else 0) n i a) c (fun j M' => MS (itr (waitS (aT A)) j (aS A)) M' ∧ ∀ a b, a ≠ 74 → M' a b = M1 a b) (fun r => MS (itr (waitS (aT A)) c (aS A)) r.2 ∧ ∀ a b, a ≠ 74 → r.2 a b = M1 a b) ?_ ?_ N 0 M1 (by omega) ⟨hS.of (fun b => hF1 _ _ (by omega)), fun _ _ _ => rfl⟩ (by omega)) ?_
  · intro f j M' hj ⟨h1, h3⟩
    left
    have hT' : MT (aT A) M' := hT.of (fun b => by rw [h3 _ _ (by omega), hF1 _ _ (by omega)])
    have hw := hs.waits j
    obtain ⟨M2, hM2, hE2, hF2⟩ := m_waitsOne (N := N) hN ht hw (by omega) hT' h1
    refine ⟨M2, ⟨hE2, fun a b q1 => by rw [hF2 a b q1, h3 a b q1]⟩, ?_⟩
    show f_X7_behindWaits_L6 N (nI c) _ (f + 1) (nI j) M' = _
    rw [f_X7_behindWaits_L6, hM2, if_neg (by rw [n_le (by omega) (by omega)]; omega), nI_1]; rfl
  · intro f M' h
    show Ok (f_X7_behindWaits_L6 N (nI c) _ (f + 1) (nI c) M') _
    rw [f_X7_behindWaits_L6, if_pos (by rw [n_le (by omega) (by omega)]; omega)]
    exact Ok.ret h
  · rintro ⟨r, M2⟩ ⟨h1, h2⟩
    dsimp only at h1 h2 ⊢
    have hT' : MT (aT A) M2 := hT.of (fun b => by rw [h2 _ _ (by omega), hF1 _ _ (by omega)])
    have hw := hs.waits c
    rw [m_noise hN ht hw (by omega) hT' h1, m_thereNow hN ht hw (by omega) hT' h1]
    have e : (if (if b = true then (1 : Int32) else 0) = 0 then (some (nI (thB (aT A) (itr (waitS (aT A)) c (aS A))))).bind fun q33 => some q33 else (some (nI (nois (aT A) (itr (waitS (aT A)) c (aS A))))).bind fun q26 => some q26) = some (nI (if b = true then nois (aT A) (itr (waitS (aT A)) c (aS A)) else thB (aT A) (itr (waitS (aT A)) c (aS A)))) := by cases b <;> rfl
    rw [e]
    simp only [Option.bind_some]
    refine Ok.bind (m_lets hN) ?_
    rintro M3 ⟨h3, h4⟩
    refine Ok.ret ⟨rfl, hM0.ofS (fun j hj => ?_) (fun a b q1 q2 => ?_), fun a b q => ?_⟩
    · show M3 74 j = _; rw [h3 j hj, h2 79 j (by omega), hH1 j hj]; exact hS j hj
    · show M3 a b = _; rw [h4 a b q2, h2 a b q2, hF1 a b (by unfold supM at q1; omega)]
    · show M3 a b = M a b
      rw [h4 a b (by omega), h2 a b (by omega), hF1 a b (by omega)]
theorem k_there {N n nx : Nat} (hN : 1000 ≤ N) (hn : n < 1000) {M : Mem} {A : Ab} (hB : RB n A) (hC : RC A nx M) (hM : RM A M) (x : Int32) : Ok (f_X6_there N M x) (fun q => Ok (f_X7_there N q.2 x) (fun q' => q.1 = q'.1 ∧ Good n q'.2)) := by
  unfold f_X6_there f_X7_there
  rcases ix3 x (n := 100) (by omega) with h | ⟨c, hc, rfl⟩
  · have e : ∀ M', f_X7_in N M' x 0 99 = some 0 := fun M' => in_out (b := 99) h (by omega)
    have e2 : (if x < 0 then some ((-3 : Int32), M) else if x ≤ 99 then (f_X6_foretellWaits N M x).bind fun q15 => some (q15 23 1, q15) else some (-3, M)) = some (-3, M) := by
      by_cases hy : x < 0
      · rw [if_pos hy]
      · rw [if_neg hy, if_neg (show ¬ x ≤ (99 : Int32) from nlt_of_lt (out_le (j := 99) h hy (by omega) (by omega)))]
    rw [e2]
    refine Ok.ret ?_
    rw [e]
    exact Ok.ret ⟨rfl, A, nx, hB, hC, hM⟩
  · have e : ∀ M', f_X7_in N M' (nI c) 0 99 = some 1 := fun M' => in_in (b := 99) (by omega) (by omega)
    rw [if_neg (nI_pos (by omega)), if_pos (by show nI c ≤ nI 99; rw [n_le (by omega) (by omega)]; omega)]
    refine Ok.bind (c_waits hN hn hB hC (by omega)) ?_
    rintro M1 ⟨hE1, hF1⟩
    refine Ok.ret ?_
    dsimp only
    rw [e]
    simp only [Option.bind_some]
    rw [if_neg (by decide)]
    have hM1 : RM A M1 := hM.kp (fun a b q => hF1 a b (by omega) (by omega))
    refine Ok.bind (m_waits hN hn hB hM1 (show c ≤ 99 by omega) false) ?_
    rintro q' ⟨h1, h2, h3⟩
    refine Ok.ret ⟨?_, A, nx, hB, ?_, h2⟩
    · show M1 23 1 = q'.1
      rw [h1, hE1.1]; rfl
    · exact (hC.of (fun a b q => hF1 a b (by unfold supC at q; omega) (by unfold supC at q; omega))).km h3
theorem k_sound {N n nx : Nat} (hN : 1000 ≤ N) (hn : n < 1000) {M : Mem} {A : Ab} (hB : RB n A) (hC : RC A nx M) (hM : RM A M) (x : Int32) : Ok (f_X6_sound N M x) (fun q => Ok (f_X7_sound N q.2 x) (fun q' => q.1 = q'.1 ∧ Good n q'.2)) := by
  unfold f_X6_sound f_X7_sound
  rcases ix3 x (n := 100) (by omega) with h | ⟨c, hc, rfl⟩
  · have e : ∀ M', f_X7_in N M' x 0 99 = some 0 := fun M' => in_out (b := 99) h (by omega)
    have e2 : (if x < 0 then some ((-3 : Int32), M) else if x ≤ 99 then (f_X6_foretellWaits N M x).bind fun q15 => (f_X1_noise N q15 23).bind fun q22 => some (q22, q15) else some (-3, M)) = some (-3, M) := by
      by_cases hy : x < 0
      · rw [if_pos hy]
      · rw [if_neg hy, if_neg (show ¬ x ≤ (99 : Int32) from nlt_of_lt (out_le (j := 99) h hy (by omega) (by omega)))]
    rw [e2]
    refine Ok.ret ?_
    rw [e]
    exact Ok.ret ⟨rfl, A, nx, hB, hC, hM⟩
  · have e : ∀ M', f_X7_in N M' (nI c) 0 99 = some 1 := fun M' => in_in (b := 99) (by omega) (by omega)
    rw [if_neg (nI_pos (by omega)), if_pos (by show nI c ≤ nI 99; rw [n_le (by omega) (by omega)]; omega)]
    refine Ok.bind (c_waits hN hn hB hC (by omega)) ?_
    rintro M1 ⟨hE1, hF1⟩
    have hT1 : TC (aT A) M1 1 := hC.1.of (fun a b q1 q2 => hF1 a b (by omega) (by omega))
    refine Ok.bindE (c_noise hN hB.1 hT1 hE1) ?_
    refine Ok.ret ?_
    dsimp only
    rw [e]
    simp only [Option.bind_some]
    rw [if_neg (by decide)]
    have hM1 : RM A M1 := hM.kp (fun a b q => hF1 a b (by omega) (by omega))
    refine Ok.bind (m_waits hN hn hB hM1 (show c ≤ 99 by omega) true) ?_
    rintro q' ⟨h1, h2, h3⟩
    refine Ok.ret ⟨?_, A, nx, hB, ?_, h2⟩
    · show nI _ = q'.1
      rw [h1]; rfl
    · exact (hC.of (fun a b q => hF1 a b (by unfold supC at q; omega) (by unfold supC at q; omega))).km h3
def stF (t s r : Nat → Nat) : Nat → Nat → Nat
  | 0 => s
  | k + 1 => stepS t (stF t s r k) (r k)
def isJud (t s r : Nat → Nat) (m k : Nat) : Prop := k ≤ m ∧ (∀ i, i < k → canS t (stF t s r i) (r i) = true) ∧ (k = m ∨ canS t (stF t s r k) (r k) = false)
theorem isJud_u {t s r : Nat → Nat} {m k k' : Nat} (h : isJud t s r m k) (h' : isJud t s r m k') : k = k' := by
  obtain ⟨a1, a2, a3⟩ := h
  obtain ⟨b1, b2, b3⟩ := h'
  rcases Nat.lt_trichotomy k k' with q | q | q
  · have := b2 k q
    rcases a3 with h | h
    · omega
    · rw [h] at this; cases this
  · exact q
  · have := a2 k' q
    rcases b3 with h | h
    · omega
    · rw [h] at this; cases this
theorem WS.stF {t s r : Nat → Nat} {m n : Nat} (ht : WT t) (hs : WS t s m n) : ∀ k, (∀ i, i < k → canS t (stF t s r i) (r i) = true) → WS t (stF t s r k) (m + 9 * k) (n + k)
  | 0, _ => hs
  | k + 1, h => by
    have ih := WS.stF ht hs k (fun i hi => h i (by omega))
    have := WS.step ht ih (h k (by omega))
    exact this.mono (by omega) (by omega)
theorem c_judge {N n nx : Nat} (hN : 1000 ≤ N) (hn : n < 1000) {M : Mem} {A : Ab} (hB : RB n A) (hC : RC A nx M) {x : Int32} : Ok ((f_X1_copyFrom N M 23 21).bind fun q20 => f_X6_judge_L25 N x N 0 q20) (fun q => (∃ k, isJud (aT A) (aS A) (aR A) (aM A) k ∧ q.1 = nI k ∧ EC (aT A) (stF (aT A) (aS A) (aR A) k) q.2 23) ∧ ∀ a b, a ≠ 23 → a ≠ 24 → q.2 a b = M a b) := by
  have hC0 := hC
  obtain ⟨hT, hE, -, ⟨hr, hr2⟩, -, -⟩ := hC
  have ht := hB.1
  have hs := hB.2.1
  have h12 := hB.2.2.2.2.1
  have hrow := hB.2.2.2.2.2.1
  refine Ok.bind (c_copy ht hE (Or.inl (by omega))) ?_
  rintro M1 ⟨hE1, hF1⟩
  refine lpE (fun n i a => f_X6_judge_L25 N x n i a) (aM A) (fun j M' => EC (aT A) (stF (aT A) (aS A) (aR A) j) M' 23 ∧ (∀ i, i < j → canS (aT A) (stF (aT A) (aS A) (aR A) i) (aR A i) = true) ∧ ∀ a b, a ≠ 23 → a ≠ 24 → M' a b = M a b) _ ?_ ?_ N 0 M1 (by omega) ⟨hE1, fun i hi => by omega, hF1⟩ (by omega)
  · intro f j M' hj ⟨h1, h2, h3⟩
    have hT' : TC (aT A) M' 1 := hT.of (fun a b q1 q2 => h3 a b (by omega) (by omega))
    have hw := WS.stF ht hs j h2
    have g9 : M' 0 9 = nI (aM A) := by rw [h3 _ _ (by omega) (by omega)]; exact hr
    have gj : M' 63 j = nI (aR A j) := by rw [h3 _ _ (by omega) (by omega)]; exact hr2 j hj
    have hj5 := (hrow j hj).1
    have hj12 : j < 12 := by omega
    have hp := c_isPossible (N := N) hN ht hw hT' h1 (show aR A j < 1000 by omega)
    show (∃ a', _ ∧ f_X6_judge_L25 N x (f + 1) (nI j) M' = _) ∨ Ok (f_X6_judge_L25 N x (f + 1) (nI j) M') _
    rw [f_X6_judge_L25, g9, if_neg (by rw [n_le (by omega) (by omega)]; omega), n_cl (show j < 2147483648 by omega), gj, hp, inb_nI (by omega), decide_eq_true hj12, if_pos rfl]
    simp only [Option.bind_some]
    cases hcn : canS (aT A) (stF (aT A) (aS A) (aR A) j) (aR A j) with
    | false =>
      right
      rw [if_pos (show (if false = true then nI 1 else nI 0) = (0 : Int32) from rfl)]
      exact Ok.ret ⟨⟨j, ⟨by omega, h2, Or.inr hcn⟩, rfl, h1⟩, h3⟩
    | true =>
      left
      obtain ⟨M2, hM2, hE2, hF2⟩ := c_take (N := N) hN ht hw (by omega) (by omega) hT' h1 (by omega) hcn (by omega)
      rw [if_neg (show ¬ (if true = true then nI 1 else nI 0) = (0 : Int32) by decide), hM2, nI_1]
      simp only [if_true, Option.bind_some]
      refine ⟨M2, ⟨hE2, fun i hi => ?_, fun a b q1 q2 => by rw [hF2 a b q1 q2, h3 a b q1 q2]⟩, rfl⟩
      by_cases q : i = j
      · subst q; exact hcn
      · exact h2 i (by omega)
  · intro f M' ⟨h1, h2, h3⟩
    have g9 : M' 0 9 = nI (aM A) := by rw [h3 _ _ (by omega) (by omega)]; exact hr
    show Ok (f_X6_judge_L25 N x (f + 1) (nI (aM A)) M') _
    rw [f_X6_judge_L25, g9, if_pos (by rw [n_le (by omega) (by omega)]; omega)]
    exact Ok.ret ⟨⟨aM A, ⟨by omega, h2, Or.inl rfl⟩, rfl, h1⟩, h3⟩
theorem m_judge {N n : Nat} (hN : 1000 ≤ N) (hn : n < 1000) {M : Mem} {A : Ab} (hB : RB n A) (hM : RM A M) {x : Int32} : Ok ((f_X7_holds N M).bind fun q13 => f_X7_judge_L18 N x N 0 q13) (fun q => (∃ k, isJud (aT A) (aS A) (aR A) (aM A) k ∧ q.1 = nI k ∧ MS (stF (aT A) (aS A) (aR A) k) q.2) ∧ (∀ j, j < 14 → q.2 79 j = nI (aS A j)) ∧ ∀ a b, a ≠ 74 → a ≠ 79 → q.2 a b = M a b) := by
  have hM0 := hM
  obtain ⟨hT, hS, -, ⟨hr, hr2⟩, -, -⟩ := hM
  have ht := hB.1
  have hs := hB.2.1
  have h12 := hB.2.2.2.2.1
  have hrow := hB.2.2.2.2.2.1
  refine Ok.bind (m_holds hN) ?_
  rintro M1 ⟨hH1, hF1⟩
  refine lpE (fun n i a => f_X7_judge_L18 N x n i a) (aM A) (fun j M' => MS (stF (aT A) (aS A) (aR A) j) M' ∧ (∀ i, i < j → canS (aT A) (stF (aT A) (aS A) (aR A) i) (aR A i) = true) ∧ (∀ i, i < 14 → M' 79 i = nI (aS A i)) ∧ ∀ a b, a ≠ 74 → a ≠ 79 → M' a b = M a b) _ ?_ ?_ N 0 M1 (by omega) ⟨hS.of (fun b => hF1 _ _ (by omega)), fun i hi => by omega, fun i hi => by rw [hH1 i hi]; exact hS i hi, fun a b _ q => hF1 a b q⟩ (by omega)
  · intro f j M' hj ⟨h1, h2, h4, h3⟩
    have hT' : MT (aT A) M' := hT.of (fun b => h3 _ _ (by omega) (by omega))
    have hw := WS.stF ht hs j h2
    have g9 : M' 70 10 = nI (aM A) := by rw [h3 _ _ (by omega) (by omega)]; exact hr
    have gj : M' 78 j = nI (aR A j) := by rw [h3 _ _ (by omega) (by omega)]; exact hr2 j hj
    have hj5 := (hrow j hj).1
    have hjs := (hrow j hj).2
    have hj12 : j < 12 := by omega
    have hp := m_lacks (N := N) hN ht hw (by omega) hT' h1 (show aR A j ≤ 5 by omega)
    show (∃ a', _ ∧ f_X7_judge_L18 N x (f + 1) (nI j) M' = _) ∨ Ok (f_X7_judge_L18 N x (f + 1) (nI j) M') _
    rw [f_X7_judge_L18, g9, if_neg (by rw [n_le (by omega) (by omega)]; omega), n_cl (show j < 2147483648 by omega), gj, hp, inb_nI (by omega), decide_eq_true hj12, if_pos rfl, if_pos hjs]
    simp only [Option.bind_some]
    cases hcn : canS (aT A) (stF (aT A) (aS A) (aR A) j) (aR A j) with
    | false =>
      right
      rw [if_neg (show ¬ (if false = true then (0 : Int32) else -4) = 0 by decide)]
      exact Ok.ret ⟨⟨j, ⟨by omega, h2, Or.inr hcn⟩, rfl, h1⟩, h4, h3⟩
    | true =>
      left
      obtain ⟨M2, hM2, hE2, hF2⟩ := m_steps (N := N) hN ht hw (by omega) (by omega) hT' h1 hcn (by omega)
      rw [if_pos (show (if true = true then (0 : Int32) else -4) = 0 from rfl), hM2, nI_1]
      simp only [if_true, Option.bind_some]
      refine ⟨M2, ⟨hE2, fun i hi => ?_, fun i hi => by rw [hF2 _ _ (by omega)]; exact h4 i hi, fun a b q1 q2 => by rw [hF2 a b q1, h3 a b q1 q2]⟩, rfl⟩
      by_cases q : i = j
      · subst q; exact hcn
      · exact h2 i (by omega)
  · intro f M' ⟨h1, h2, h4, h3⟩
    have g9 : M' 70 10 = nI (aM A) := by rw [h3 _ _ (by omega) (by omega)]; exact hr
    show Ok (f_X7_judge_L18 N x (f + 1) (nI (aM A)) M') _
    rw [f_X7_judge_L18, g9, if_pos (by rw [n_le (by omega) (by omega)]; omega)]
    exact Ok.ret ⟨⟨aM A, ⟨by omega, h2, Or.inl rfl⟩, rfl, h1⟩, h4, h3⟩
