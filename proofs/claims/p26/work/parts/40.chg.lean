/-! judge, whole; write, erase, row, tear, keep, back. -/
theorem Ok.bind2 {α β γ : Type} {x : Option α} {f : α → Option β} {g : β → Option γ} {P : β → Prop} {Q : γ → Prop} (h : Ok (x.bind f) P) (k : ∀ b, P b → Ok (g b) Q) : Ok (x.bind fun a => (f a).bind g) Q := by
  obtain ⟨b, hb, hP⟩ := h
  cases x with
  | none => cases hb
  | some a =>
    show Ok ((f a).bind g) Q
    rw [show f a = some b from hb]
    exact k b hP
theorem RB.mono {n n' : Nat} {A : Ab} (h : RB n A) (hn : n ≤ n') : RB n' A := by
  obtain ⟨h1, h2, h3, h4, h5, h6, h7, h8, h9⟩ := h
  exact ⟨h1, h2.mono (by omega) hn, h3, h4, h5, h6, h7, fun i hi => (h8 i hi).mono (by omega) hn, fun k hk q => (h9 k hk q).mono (by omega) hn⟩
theorem Good.mono {n n' : Nat} {M : Mem} (h : Good n M) (hn : n ≤ n') : Good n' M := by
  obtain ⟨A, nx, h1, h2, h3⟩ := h
  exact ⟨A, nx, h1.mono hn, h2, h3⟩
theorem k_judge {N n nx : Nat} (hN : 1000 ≤ N) (hn : n < 1000) {M : Mem} {A : Ab} (hB : RB n A) (hC : RC A nx M) (hM : RM A M) (x : Int32) : Ok (f_X6_judge N M x) (fun q => Ok (f_X7_judge N q.2 x) (fun q' => q.1 = q'.1 ∧ Good n q'.2)) := by
  have h12 := hB.2.2.2.2.1
  unfold f_X6_judge f_X7_judge
  rcases ix3 x (n := 2) (by omega) with h | ⟨c, hc, rfl⟩
  · have e : ∀ M', f_X7_in N M' x 0 1 = some 0 := fun M' => in_out (b := 1) h (by omega)
    rw [if_neg (show ¬ x = (0 : Int32) from out_ne (j := 0) h (by omega) (by omega)), if_neg (show ¬ x = (1 : Int32) from out_ne (j := 1) h (by omega) (by omega))]
    refine Ok.ret ?_
    rw [e]
    exact Ok.ret ⟨rfl, A, nx, hB, hC, hM⟩
  · have e : ∀ M', f_X7_in N M' (nI c) 0 1 = some 1 := fun M' => in_in (b := 1) (by omega) (by omega)
    have main : Ok ((f_X1_copyFrom N M 23 21).bind fun q20 => (f_X6_judge_L25 N (nI c) N 0 q20).bind fun o25 => (if nI c = 1 then (f_X1_noise N o25.2 23).bind fun q77 => some (q77, o25.2) else (if (o25.2 0 9) ≤ o25.1 then some (-1, o25.2) else some (o25.1, o25.2)))) (fun q => Ok (f_X7_judge N q.2 (nI c)) (fun q' => q.1 = q'.1 ∧ Good n q'.2)) := by
      refine Ok.bind2 (c_judge hN hn hB hC) ?_
      rintro ⟨r1, M1⟩ ⟨⟨k, hk, hr1, hE1⟩, hF1⟩
      dsimp only at hr1 hE1 hF1 ⊢
      have hM1 : RM A M1 := hM.kp (fun a b q => hF1 a b (by omega) (by omega))
      have hC1 : RC A nx M1 := hC.of (fun a b q => hF1 a b (by unfold supC at q; omega) (by unfold supC at q; omega))
      have hmod : Ok (f_X7_judge N M1 (nI c)) (fun q' => q'.1 = (if nI c = 1 then nI (nois (aT A) (stF (aT A) (aS A) (aR A) k)) else if nI (aM A) ≤ nI k then -1 else nI k) ∧ Good n q'.2) := by
        unfold f_X7_judge
        rw [e]
        simp only [Option.bind_some]
        rw [if_neg (by decide)]
        refine Ok.bind2 (m_judge hN hn hB hM1) ?_
        rintro ⟨r2, M2⟩ ⟨⟨k', hk', hr2, hS2⟩, hH2, hF2⟩
        dsimp only at hr2 hS2 hH2 hF2 ⊢
        have := isJud_u hk hk'
        subst this
        have hT2 : MT (aT A) M2 := hM1.1.of (fun b => hF2 _ _ (by omega) (by omega))
        have hw := WS.stF hB.1 hB.2.1 k hk.2.1
        have hkk := hk.1
        refine Ok.bindE (m_noise hN hB.1 hw (by omega) hT2 hS2) ?_
        refine Ok.bind (m_lets hN) ?_
        rintro M3 ⟨h3, h4⟩
        have hg : M3 70 10 = nI (aM A) := by rw [h4 _ _ (by omega), hF2 _ _ (by omega) (by omega)]; exact hM1.2.2.2.1.1
        have hG : Good n M3 := by
          refine ⟨A, nx, hB, hC1.km (fun a b q => by rw [h4 _ _ (by omega), hF2 _ _ (by omega) (by omega)]), hM1.ofS (fun j hj => ?_) (fun a b q1 q2 => ?_)⟩
          · rw [h3 j hj]; exact hH2 j hj
          · rw [h4 a b q2, hF2 a b q2 (by unfold supM at q1; omega)]
        rw [hg, hr2]
        by_cases hc1 : nI c = 1
        · rw [if_pos hc1, if_pos hc1]; exact Ok.ret ⟨rfl, hG⟩
        · rw [if_neg hc1, if_neg hc1]
          by_cases hc2 : nI (aM A) ≤ nI k
          · rw [if_pos hc2, if_pos hc2]; exact Ok.ret ⟨rfl, hG⟩
          · rw [if_neg hc2, if_neg hc2]; exact Ok.ret ⟨rfl, hG⟩
      have hT1 : TC (aT A) M1 1 := hC1.1
      have g9 : M1 0 9 = nI (aM A) := hC1.2.2.2.1.1
      simp only [g9, hr1, c_noise hN hB.1 hT1 hE1, Option.bind_some]
      by_cases hc1 : nI c = 1
      · rw [if_pos hc1]
        refine Ok.ret ?_
        refine hmod.mono ?_
        rintro q' ⟨h1, h2⟩
        rw [if_pos hc1] at h1
        exact ⟨h1.symm, h2⟩
      · rw [if_neg hc1]
        by_cases hc2 : nI (aM A) ≤ nI k
        · rw [if_pos hc2]
          refine Ok.ret ?_
          refine hmod.mono ?_
          rintro q' ⟨h1, h2⟩
          rw [if_neg hc1, if_pos hc2] at h1
          exact ⟨h1.symm, h2⟩
        · rw [if_neg hc2]
          refine Ok.ret ?_
          refine hmod.mono ?_
          rintro q' ⟨h1, h2⟩
          rw [if_neg hc1, if_neg hc2] at h1
          exact ⟨h1.symm, h2⟩
    unfold f_X7_judge at main
    rcases (show c = 0 ∨ c = 1 by omega) with rfl | rfl
    · rw [if_pos (show nI 0 = (0 : Int32) from rfl)]
      exact main
    · rw [if_neg (show ¬ nI 1 = (0 : Int32) by decide)]
      exact main
