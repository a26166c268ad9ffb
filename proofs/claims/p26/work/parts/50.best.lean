/-! best and other. -/
theorem armS_self (s : Nat → Nat) : armS s (s 1) = s := by
  funext j
  unfold armS
  by_cases h : j = 1
  · rw [if_pos h, h]
  · rw [if_neg h]
theorem RC.look {A : Ab} {nx : Nat} {M M' : Mem} (h : RC A nx M) (e : ∀ a c, (a < 25 ∨ 42 < a) → M' a c = M a c) : RC A nx M' := h.of (fun a c q => e a c (by unfold supC at q; omega))
theorem k_best {N n nx : Nat} (hN : 1000000 ≤ N) (hn : n < 1000) {M : Mem} {A : Ab} (hB : RB n A) (hC : RC A nx M) (hM : RM A M) (x : Int32) : Ok (f_X6_best N M x) (fun q => Ok (f_X7_best N q.2 x) (fun q' => q.1 = q'.1 ∧ Good n q'.2)) := by
  have ht := hB.1
  have hs := hB.2.1
  unfold f_X6_best f_X7_best
  by_cases hx : (-1 : Int32) ≤ x
  · simp only [if_pos hx]
    have g3 : M 21 3 = nI (aS A 1) := hC.2.1.2.2.1
    rw [g3]
    refine Ok.bind (c_look (by omega) hn ht hs hs.2.1 hC.1 hC.2.1) ?_
    rintro M1 ⟨hb1, hF1⟩
    rw [armS_self] at hb1
    have hC1 := hC.look hF1
    have hM1 : RM A M1 := hM.kp (fun a c q => hF1 a c (by omega))
    obtain ⟨M2, hM2, hb2, hS2, hF2⟩ := m_seeks (N := N) hN hn ht hs hM1.1 hM1.2.1
    rw [best_same ht hs] at hb2
    have hG : Good n M2 := ⟨A, nx, hB, hC1.km (fun a c q => hF2 a c (by omega) (by omega) (by omega) (by omega) (by omega)), hM1.ofS hS2 (fun a c q1 q2 => hF2 a c q2 (by unfold supM at q1; omega) (by unfold supM at q1; omega) (by unfold supM at q1; omega) (by unfold supM at q1; omega))⟩
    obtain ⟨b, hb⟩ : ∃ b, b = (rwC (aT A) (aS A) 6 (aS A) []).foldl up (0, []) := ⟨_, rfl⟩
    rw [← hb] at hb1 hb2
    obtain ⟨b1, b2, b3, b4⟩ := hb1
    obtain ⟨d1, d2, -, d4⟩ := hb2
    by_cases hm : x = -1
    · rw [if_pos hm]
      refine Ok.ret ?_
      dsimp only
      rw [hM2]
      simp only [Option.bind_some, if_pos hm]
      exact Ok.ret ⟨by rw [b1, d1], hG⟩
    · rw [if_neg hm, b2]
      rcases ix3 x (n := b.2.length) (by omega) with h | ⟨j, hj, rfl⟩
      · have hnx : ¬ x < 0 := by
          intro q
          apply hm
          have e1 := Int32.le_iff_toInt_le.mp hx
          have e2 := Int32.lt_iff_toInt_lt.mp q
          have e3 : (-1 : Int32).toInt = -1 := rfl
          have e4 : (0 : Int32).toInt = 0 := rfl
          apply Int32.toInt_inj.mp
          omega
        have h2 : nI b.2.length ≤ x := by rcases h with h | h; exact absurd h hnx; exact h
        rw [if_pos h2]
        refine Ok.ret ?_
        dsimp only
        rw [hM2]
        simp only [Option.bind_some, if_neg hm, d2, if_pos h2]
        exact Ok.ret ⟨rfl, hG⟩
      · have h2 : ¬ nI b.2.length ≤ nI j := by rw [n_le (by omega) (by omega)]; omega
        have hin : inb (nI j) 6 = true := by rw [inb_nI (by omega)]; simp; omega
        rw [if_neg h2, if_pos hin]
        refine Ok.ret ?_
        dsimp only
        rw [hM2]
        simp only [Option.bind_some, if_neg hm, d2, if_neg h2, if_pos hin]
        exact Ok.ret ⟨by rw [n_cl (by omega), b4 j hj, d4 j hj], hG⟩
  · simp only [if_neg hx]
    exact Ok.ret (Ok.ret ⟨rfl, A, nx, hB, hC, hM⟩)
theorem rw_none {t s0 s : Nat → Nat} (h0 : t 0 = 0) : rwC t s0 6 s [] = [] ∧ rwM t s0 6 s [] = [] := by
  have hn : nois t s = 0 := by unfold nois; rw [h0]; rfl
  have hc : ∀ x, 1 ≤ x → canS t s x = false := by
    intro x hx
    unfold canS
    rw [if_neg (by omega), hn]
    split <;> simp
  have h5 : ∀ {α : Type} (G : Nat → List α), (∀ x, 1 ≤ x → G x = []) → secs G 5 = [] := by
    intro α G hG
    simp only [secs, hG 1 (by omega), hG 2 (by omega), hG 3 (by omega), hG 4 (by omega), hG 5 (by omega), List.append_nil]
  constructor
  · rw [rwC]
    exact h5 _ (fun x hx => by rw [hc x hx]; simp)
  · rw [rwM]
    exact h5 _ (fun x hx => by rw [hc x hx]; simp)
theorem k_other {N n nx : Nat} (hN : 1000000 ≤ N) (hn : n < 1000) {M : Mem} {A : Ab} (hB : RB n A) (hC : RC A nx M) (hM : RM A M) (x : Int32) : Ok (f_X6_other N M x) (fun q => Ok (f_X7_other N q.2 x) (fun q' => (aT A 0 = 0 → q.1 = q'.1) ∧ Good n q'.2)) := by
  have ht := hB.1
  have hs := hB.2.1
  rcases ix3 x (n := 31) (by omega) with h | ⟨v, hv, rfl⟩
  · have e1 : f_X6_other N M x = some (-3, M) := by
      unfold f_X6_other
      by_cases hy : x < 0
      · rw [if_pos hy]
      · rw [if_neg hy, if_neg (show ¬ x ≤ (30 : Int32) from nlt_of_lt (out_le (j := 30) h hy (by omega) (by omega)))]
    have e2 : f_X7_other N M x = some (-3, M) := by
      unfold f_X7_other
      rw [show f_X7_in N M x 0 30 = some 0 from in_out (b := 30) h (by omega)]
      rfl
    rw [e1]
    refine Ok.ret ?_
    rw [e2]
    exact Ok.ret ⟨fun _ => rfl, A, nx, hB, hC, hM⟩
  · unfold f_X6_other
    rw [if_neg (nI_pos (by omega)), if_pos (by show nI v ≤ nI 30; rw [n_le (by omega) (by omega)]; omega)]
    refine Ok.bind (c_look (by omega) hn ht hs (show v ≤ 30 by omega) hC.1 hC.2.1) ?_
    rintro M1 ⟨hb1, hF1⟩
    have hC1 := hC.look hF1
    have g3 : M1 21 3 = nI (aS A 1) := hC1.2.1.2.2.1
    rw [g3]
    refine Ok.bind (c_look (by omega) hn ht hs hs.2.1 hC1.1 hC1.2.1) ?_
    rintro M2 ⟨hb2, hF2⟩
    have hC2 := hC1.look hF2
    have hM2 : RM A M2 := hM.kp (fun a c q => by rw [hF2 a c (by omega), hF1 a c (by omega)])
    refine Ok.ret ?_
    dsimp only
    unfold f_X7_other
    rw [show f_X7_in N M2 (nI v) 0 30 = some 1 from in_in (b := 30) (by omega) (by omega)]
    simp only [Option.bind_some]
    rw [if_neg (by decide)]
    obtain ⟨M3, hM3⟩ : ∃ q, q = up2 M2 74 1 (nI v) := ⟨_, rfl⟩
    rw [← hM3]
    have hT3 : MT (aT A) M3 := hM2.1.of (fun c => by rw [hM3, up2_k (by decide)])
    have hS3 : MS (armS (aS A) v) M3 := by
      intro j hj
      unfold armS
      by_cases q : j = 1
      · rw [if_pos q, q, hM3, up2_same]
      · rw [if_neg q, hM3, up2_j q]; exact hM2.2.1 j hj
    refine Ok.bind (m_seeks (N := N) hN hn ht (hs.arm (show v ≤ 30 by omega)) hT3 hS3) ?_
    rintro M4 ⟨hb4, hS4, hF4⟩
    refine Ok.ret ⟨fun h0 => ?_, A, nx, hB, ?_, ?_⟩
    · rw [(rw_none h0).1] at hb1
      rw [(rw_none h0).1] at hb2
      rw [(rw_none h0).2] at hb4
      show M1 25 0 - M2 25 0 = up2 M4 74 1 (M2 74 1) 70 20
      rw [hb1.1, hb2.1, up2_k (by decide), hb4.1]
      rfl
    · refine hC2.km (fun a c q => ?_)
      show up2 M4 74 1 (M2 74 1) a c = M2 a c
      rw [up2_k (by omega), hF4 a c (by omega) (by omega) (by omega) (by omega) (by omega), hM3, up2_k (by omega)]
    · refine hM2.ofS (fun j hj => ?_) (fun a c q1 q2 => ?_)
      · show up2 M4 74 1 (M2 74 1) 74 j = nI (aS A j)
        by_cases q : j = 1
        · rw [q, up2_same]; exact hM2.2.1 1 (by omega)
        · rw [up2_j q, hS4 j hj]
          unfold armS
          rw [if_neg q]
      · show up2 M4 74 1 (M2 74 1) a c = M2 a c
        rw [up2_k q2, hF4 a c q2 (by unfold supM at q1; omega) (by unfold supM at q1; omega) (by unfold supM at q1; omega) (by unfold supM at q1; omega), hM3, up2_k q2]
