/-! till, there, sound, judge. -/
def Good (n : Nat) (M : Mem) : Prop := ∃ (A : Ab) (nx : Nat), RB n A ∧ RC A nx M ∧ RM A M
def Kp (M M' : Mem) : Prop := ∀ a b, 70 ≤ a → M' a b = M a b
def Km (M M' : Mem) : Prop := ∀ a b, a < 70 → M' a b = M a b
theorem RC.km {A : Ab} {nx : Nat} {M M' : Mem} (h : RC A nx M) (e : Km M M') : RC A nx M' := h.of (fun a b q => e a b (by unfold supC at q; omega))
theorem RM.kp {A : Ab} {M M' : Mem} (h : RM A M) (e : Kp M M') : RM A M' := h.of (fun a b q => e a b (by unfold supM at q; omega))
theorem RC.ofS {A : Ab} {nx : Nat} {M M' : Mem} {s' : Nat → Nat} (h : RC A nx M) (hE : EC (aT A) s' M' 21) (e : ∀ a b, supC a b → a ≠ 21 → a ≠ 22 → M' a b = M a b) : RC (A.1, s', A.2.2) nx M' := by
  obtain ⟨h1, h2, ⟨h3, h3'⟩, ⟨h4, h4'⟩, ⟨h5, h6, h7, h8⟩, h9⟩ := h
  refine ⟨h1.of (fun a b q1 q2 => e a b (by unfold supC; omega) (by omega) (by omega)), hE, ⟨by rw [e _ _ (by unfold supC; omega) (by omega) (by omega)]; exact h3, fun i hi => by rw [e _ _ (by unfold supC; omega) (by omega) (by omega)]; exact h3' i hi⟩, ⟨by rw [e _ _ (by unfold supC; omega) (by omega) (by omega)]; exact h4, fun i hi => by rw [e _ _ (by unfold supC; omega) (by omega) (by omega)]; exact h4' i hi⟩, ⟨by rw [e _ _ (by unfold supC; omega) (by omega) (by omega)]; exact h5, by rw [e _ _ (by unfold supC; omega) (by omega) (by omega)]; exact h6, h7, fun i hi => (h8 i hi).of (fun a b q1 q2 => e a b (by have := rg_b (nx := nx) (z := aZ A) (i := i); unfold supC; omega) (by have := rg_b (nx := nx) (z := aZ A) (i := i); omega) (by have := rg_b (nx := nx) (z := aZ A) (i := i); omega))⟩, fun k hk => ⟨by rw [e _ _ (by unfold supC; omega) (by omega) (by omega)]; exact (h9 k hk).1, fun q => ((h9 k hk).2 q).of (fun a b q1 q2 => e a b (by unfold supC; omega) (by omega) (by omega))⟩⟩
theorem RM.ofS {A : Ab} {M M' : Mem} {s' : Nat → Nat} (h : RM A M) (hS : MS s' M') (e : ∀ a b, supM a b → a ≠ 74 → M' a b = M a b) : RM (A.1, s', A.2.2) M' := by
  obtain ⟨h1, h2, ⟨h3, h3'⟩, ⟨h4, h4'⟩, ⟨h5, h6⟩, h9⟩ := h
  refine ⟨h1.of (fun b => e _ b (by unfold supM; omega) (by omega)), hS, ⟨by rw [e _ _ (by unfold supM; omega) (by omega)]; exact h3, fun i hi => by rw [e _ _ (by unfold supM; omega) (by omega)]; exact h3' i hi⟩, ⟨by rw [e _ _ (by unfold supM; omega) (by omega)]; exact h4, fun i hi => by rw [e _ _ (by unfold supM; omega) (by omega)]; exact h4' i hi⟩, ⟨by rw [e _ _ (by unfold supM; omega) (by omega)]; exact h5, fun i hi j hj => by rw [e _ _ (by unfold supM; omega) (by omega)]; exact h6 i hi j hj⟩, fun k hk => ⟨by rw [e _ _ (by unfold supM; omega) (by omega)]; exact (h9 k hk).1, fun q j hj => by rw [e _ _ (by unfold supM; omega) (by omega)]; exact (h9 k hk).2 q j hj⟩⟩
theorem m_holds {N : Nat} (hN : 1000 ≤ N) {M : Mem} : Ok (f_X7_holds N M) (fun M' => (∀ j, j < 14 → M' 79 j = M 74 j) ∧ ∀ a b, a ≠ 79 → M' a b = M a b) := by
  unfold f_X7_holds
  refine Ok.bind (lpE (fun n i a => f_X7_holds_L2 N n i a) 14 (fun j M' => (∀ i, i < j → M' 79 i = M 74 i) ∧ ∀ a b, a ≠ 79 → M' a b = M a b) (fun r => (∀ j, j < 14 → r.2 79 j = M 74 j) ∧ ∀ a b, a ≠ 79 → r.2 a b = M a b) ?_ ?_ N 0 M (by omega) ⟨fun i hi => by omega, fun _ _ _ => rfl⟩ (by omega)) (fun a h => Ok.ret h)
  · intro f j M' hj ⟨h1, h2⟩
    left
    refine ⟨up2 M' 79 j (M 74 j), ⟨fun i hi => ?_, fun a b ha => by rw [up2_k ha]; exact h2 a b ha⟩, ?_⟩
    · by_cases q : i = j
      · subst q; rw [up2_same]
      · rw [up2_j q]; exact h1 i (by omega)
    · show f_X7_holds_L2 N (f + 1) (nI j) M' = _
      rw [f_X7_holds_L2]
      simp (disch := omega) only [i1, i14, n_le, inb_nI, n_cl, nI_add]
      rw [if_neg (by omega), h2 74 j (by omega)]
      simp [hj]
  · intro f M' h
    show Ok (f_X7_holds_L2 N (f + 1) (nI 14) M') _
    rw [f_X7_holds_L2, if_pos (by show nI 14 ≤ nI 14; rw [n_le (by omega) (by omega)]; omega)]
    exact Ok.ret h
theorem m_lets {N : Nat} (hN : 1000 ≤ N) {M : Mem} : Ok (f_X7_lets N M) (fun M' => (∀ j, j < 14 → M' 74 j = M 79 j) ∧ ∀ a b, a ≠ 74 → M' a b = M a b) := by
  unfold f_X7_lets
  refine Ok.bind (lpE (fun n i a => f_X7_lets_L2 N n i a) 14 (fun j M' => (∀ i, i < j → M' 74 i = M 79 i) ∧ ∀ a b, a ≠ 74 → M' a b = M a b) (fun r => (∀ j, j < 14 → r.2 74 j = M 79 j) ∧ ∀ a b, a ≠ 74 → r.2 a b = M a b) ?_ ?_ N 0 M (by omega) ⟨fun i hi => by omega, fun _ _ _ => rfl⟩ (by omega)) (fun a h => Ok.ret h)
  · intro f j M' hj ⟨h1, h2⟩
    left
    refine ⟨up2 M' 74 j (M 79 j), ⟨fun i hi => ?_, fun a b ha => by rw [up2_k ha]; exact h2 a b ha⟩, ?_⟩
    · by_cases q : i = j
      · subst q; rw [up2_same]
      · rw [up2_j q]; exact h1 i (by omega)
    · show f_X7_lets_L2 N (f + 1) (nI j) M' = _
      rw [f_X7_lets_L2]
      simp (disch := omega) only [i1, i14, n_le, inb_nI, n_cl, nI_add]
      rw [if_neg (by omega), h2 79 j (by omega)]
      simp [hj]
  · intro f M' h
    show Ok (f_X7_lets_L2 N (f + 1) (nI 14) M') _
    rw [f_X7_lets_L2, if_pos (by show nI 14 ≤ nI 14; rw [n_le (by omega) (by omega)]; omega)]
    exact Ok.ret h
theorem WS.waits {t s : Nat → Nat} {m n : Nat} (hs : WS t s m n) : ∀ k, WS t (itr (waitS t) k s) (m + k) n
  | 0 => hs
  | k + 1 => (WS.waits hs k).wait
theorem waits_0 (t : Nat → Nat) : ∀ (k : Nat) (s : Nat → Nat), itr (waitS t) k s 0 = s 0 + k
  | 0, s => rfl
  | k + 1, s => by
    show itr (waitS t) k s 0 + 1 = _
    rw [waits_0 t k s]; omega
theorem nois_99 {t s : Nat → Nat} (ht : WT t) (h : 99 ≤ s 0) : nois t s = 0 := by
  have : ¬ 0 < nois t s := by
    intro q
    unfold nois at q
    obtain ⟨i, h1, h2⟩ := sumN_pos.mp q
    have h3 := (ht.2.2.2.2.2.1 i h1).2.2.2
    have h4 : isT t s i = false := by
      unfold isT
      have : ¬ s 0 < t (21 + i) := by omega
      simp [this]
    rw [h4] at h2
    simp at h2
  omega
/-- the least number of waits behind which there is no noise -/
def isTill (t s : Nat → Nat) (k : Nat) : Prop := nois t (itr (waitS t) k s) = 0 ∧ ∀ i, i < k → 0 < nois t (itr (waitS t) i s)
theorem isTill_u {t s : Nat → Nat} {k k' : Nat} (h : isTill t s k) (h' : isTill t s k') : k = k' := by
  rcases Nat.lt_trichotomy k k' with q | q | q
  · have := h'.2 k q; have := h.1; omega
  · exact q
  · have := h.2 k' q; have := h'.1; omega
theorem can0 (t s : Nat → Nat) : canS t s 0 = true := rfl
theorem c_take0 {N : Nat} (hN : 1000 ≤ N) {M : Mem} {t s : Nat → Nat} {k m n : Nat} (ht : WT t) (hs : WS t s m n) (hm : m < 1000000) (hn : n < 1000000) (hT : TC t M 1) (hE : EC t s M k) (hk : 21 ≤ k) :
    Ok (f_X1_take N M k 0) (fun M' => EC t (waitS t s) M' k ∧ ∀ a b, a ≠ k → a ≠ k + 1 → M' a b = M a b) := c_take (x := 0) hN ht hs hm hn hT hE hk rfl (by omega)
theorem c_till {N n nx : Nat} (hN : 1000 ≤ N) (hn : n < 1000) {M : Mem} {A : Ab} (hB : RB n A) (hC : RC A nx M) : Ok (f_X6_till N M) (fun q => (∃ k, isTill (aT A) (aS A) k ∧ q.1 = nI k) ∧ RC A nx q.2 ∧ Kp M q.2) := by
  have hC0 := hC
  obtain ⟨hT, hE, -⟩ := hC
  have ht := hB.1
  have hs := hB.2.1
  unfold f_X6_till
  refine Ok.bind (c_copy ht hE (Or.inl (by omega))) ?_
  rintro M1 ⟨hE1, hF1⟩
  have hs99 : ∀ k, 99 ≤ k → nois (aT A) (itr (waitS (aT A)) k (aS A)) = 0 := fun k hk => nois_99 ht (by rw [waits_0]; omega)
  refine Ok.bind (lpE (fun n i a => f_X6_till_L13 N n i a) 99 (fun j M' => EC (aT A) (itr (waitS (aT A)) j (aS A)) M' 23 ∧ (∀ i, i < j → 0 < nois (aT A) (itr (waitS (aT A)) i (aS A))) ∧ ∀ a b, a ≠ 23 → a ≠ 24 → M' a b = M a b) (fun r => (∃ k, isTill (aT A) (aS A) k ∧ r.1 = nI k) ∧ ∀ a b, a ≠ 23 → a ≠ 24 → r.2 a b = M a b) ?_ ?_ N 0 M1 (by omega) ⟨hE1, fun i hi => by omega, hF1⟩ (by omega)) ?_
  · intro f j M' hj ⟨h1, h2, h3⟩
    have hT' : TC (aT A) M' 1 := hT.of (fun a b q1 q2 => h3 a b (by omega) (by omega))
    have hw := hs.waits j
    have hnl := nois_le ht hw
    show (∃ a', _ ∧ f_X6_till_L13 N (f + 1) (nI j) M' = _) ∨ Ok (f_X6_till_L13 N (f + 1) (nI j) M') _
    rw [f_X6_till_L13, c_noise hN ht hT' h1, if_neg (by show ¬ nI 99 ≤ nI j; rw [n_le (by omega) (by omega)]; omega)]
    simp only [Option.bind_some]
    by_cases h0 : nois (aT A) (itr (waitS (aT A)) j (aS A)) ≤ 0
    · right
      rw [if_pos (by show nI _ ≤ nI 0; rw [n_le (by omega) (by omega)]; exact h0)]
      exact Ok.ret ⟨⟨j, ⟨by omega, h2⟩, rfl⟩, h3⟩
    · left
      rw [if_neg (by show ¬ nI _ ≤ nI 0; rw [n_le (by omega) (by omega)]; exact h0)]
      obtain ⟨M2, hM2, hE2, hF2⟩ := c_take0 (N := N) hN ht hw (by omega) (by omega) hT' h1 (by omega)
      rw [hM2]
      refine ⟨M2, ⟨hE2, fun i hi => ?_, fun a b q1 q2 => by rw [hF2 a b q1 q2, h3 a b q1 q2]⟩, by rw [nI_1]; rfl⟩
      by_cases q : i = j
      · subst q; omega
      · exact h2 i (by omega)
  · intro f M' ⟨h1, h2, h3⟩
    show Ok (f_X6_till_L13 N (f + 1) (nI 99) M') _
    rw [f_X6_till_L13, if_pos (by show nI 99 ≤ nI 99; rw [n_le (by omega) (by omega)]; omega)]
    exact Ok.ret ⟨⟨99, ⟨hs99 99 (by omega), h2⟩, rfl⟩, h3⟩
  · rintro ⟨r, M2⟩ ⟨h1, h2⟩
    exact Ok.ret ⟨h1, hC0.of (fun a b q => h2 a b (by unfold supC at q; omega) (by unfold supC at q; omega)), fun a b q => h2 a b (by omega) (by omega)⟩
theorem m_till {N n : Nat} (hN : 1000 ≤ N) (hn : n < 1000) {M : Mem} {A : Ab} (hB : RB n A) (hM : RM A M) : Ok (f_X7_till N M) (fun q => (∃ k, isTill (aT A) (aS A) k ∧ q.1 = nI k) ∧ RM A q.2 ∧ Km M q.2) := by
  have hM0 := hM
  obtain ⟨hT, hS, -⟩ := hM
  have ht := hB.1
  have hs := hB.2.1
  unfold f_X7_till
  refine Ok.bind (m_holds hN) ?_
  rintro M1 ⟨hH1, hF1⟩
  refine Ok.bind (lpE (fun n i a => f_X7_till_L6 N n i a) 99 (fun j M' => MS (itr (waitS (aT A)) j (aS A)) M' ∧ (∀ i, i < j → 0 < nois (aT A) (itr (waitS (aT A)) i (aS A))) ∧ ∀ a b, a ≠ 74 → M' a b = M1 a b) (fun r => (∃ k, isTill (aT A) (aS A) k ∧ r.1 = nI k) ∧ ∀ a b, a ≠ 74 → r.2 a b = M1 a b) ?_ ?_ N 0 M1 (by omega) ⟨hS.of (fun b => hF1 _ _ (by omega)), fun i hi => by omega, fun _ _ _ => rfl⟩ (by omega)) ?_
  · intro f j M' hj ⟨h1, h2, h3⟩
    have hT' : MT (aT A) M' := hT.of (fun b => by rw [h3 _ _ (by omega), hF1 _ _ (by omega)])
    have hw := hs.waits j
    have hnl := nois_le ht hw
    show (∃ a', _ ∧ f_X7_till_L6 N (f + 1) (nI j) M' = _) ∨ Ok (f_X7_till_L6 N (f + 1) (nI j) M') _
    rw [f_X7_till_L6, m_noise hN ht hw (by omega) hT' h1]
    simp only [Option.bind_some]
    by_cases h0 : nois (aT A) (itr (waitS (aT A)) j (aS A)) ≤ 0
    · right
      rw [if_pos (by show nI _ ≤ nI 0; rw [n_le (by omega) (by omega)]; exact h0)]
      exact Ok.ret ⟨⟨j, ⟨by omega, h2⟩, rfl⟩, h3⟩
    · left
      rw [if_neg (by show ¬ nI _ ≤ nI 0; rw [n_le (by omega) (by omega)]; exact h0)]
      obtain ⟨M2, hM2, hE2, hF2⟩ := m_waitsOne (N := N) hN ht hw (by omega) hT' h1
      rw [hM2]
      refine ⟨M2, ⟨hE2, fun i hi => ?_, fun a b q1 => by rw [hF2 a b q1, h3 a b q1]⟩, by rw [nI_1]; rfl⟩
      by_cases q : i = j
      · subst q; omega
      · exact h2 i (by omega)
  · intro f M' ⟨h1, h2, h3⟩
    have hT' : MT (aT A) M' := hT.of (fun b => by rw [h3 _ _ (by omega), hF1 _ _ (by omega)])
    have h99 : nois (aT A) (itr (waitS (aT A)) 99 (aS A)) = 0 := nois_99 ht (by rw [waits_0]; omega)
    show Ok (f_X7_till_L6 N (f + 1) (nI 99) M') _
    rw [f_X7_till_L6, m_noise hN ht (hs.waits 99) (by omega) hT' h1, h99]
    simp only [Option.bind_some]
    rw [if_pos (by decide)]
    exact Ok.ret ⟨⟨99, ⟨h99, h2⟩, rfl⟩, h3⟩
  · rintro ⟨r, M2⟩ ⟨h1, h2⟩
    dsimp only at h1 h2 ⊢
    refine Ok.bind (m_lets hN) ?_
    rintro M3 ⟨h3, h4⟩
    refine Ok.ret ⟨h1, hM0.ofS (fun j hj => ?_) (fun a b q1 q2 => ?_), fun a b q => ?_⟩
    · show M3 74 j = _; rw [h3 j hj, h2 79 j (by omega), hH1 j hj]; exact hS j hj
    · show M3 a b = _; rw [h4 a b q2, h2 a b q2, hF1 a b (by unfold supM at q1; omega)]
    · show M3 a b = M a b
      rw [h4 a b (by omega), h2 a b (by omega), hF1 a b (by omega)]
theorem k_till {N n nx : Nat} (hN : 1000 ≤ N) (hn : n < 1000) {M : Mem} {A : Ab} (hB : RB n A) (hC : RC A nx M) (hM : RM A M) : Ok (f_X6_till N M) (fun q => Ok (f_X7_till N q.2) (fun q' => q.1 = q'.1 ∧ Good n q'.2)) := by
  refine (c_till hN hn hB hC).mono ?_
  rintro q ⟨⟨k, hk, h1⟩, h2, h3⟩
  refine (m_till hN hn hB (hM.kp h3)).mono ?_
  rintro q' ⟨⟨k', hk', h1'⟩, h2', h3'⟩
  exact ⟨by rw [h1, h1', isTill_u hk hk'], A, nx, hB, h2.km h3', h2'⟩
