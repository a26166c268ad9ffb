/-! Clauses and the whole text, on the class's side. -/
def t0F : Nat → Nat := fun j => if j = 2 then 10 else if j = 3 then 60 else if j = 4 then 1 else 0
def addC (t : Nat → Nat) (k : Nat) (v : Nat → Nat) : Nat → Nat := fun j => if j = 0 then t 0 + 1 else if j = 5 + t 0 then k else if j = 13 + t 0 then v 0 else if j = 21 + t 0 then v 1 else t j
def addE (t : Nat → Nat) (k : Nat) (v : Nat → Nat) : Nat → Nat := fun j => if j = 1 then t 1 + 1 else if j = 29 + t 1 then k else if j = 33 + t 1 then v 0 else if j = 37 + t 1 then v 1 else if j = 41 + t 1 then v 2 else t j
def put (t : Nat → Nat) (i x : Nat) : Nat → Nat := fun j => if j = i then x else t j
theorem put_s (t : Nat → Nat) (i x : Nat) : put t i x i = x := if_pos rfl
theorem put_o {t : Nat → Nat} {i x j : Nat} (h : j ≠ i) : put t i x j = t j := if_neg h
theorem addC_0 (t : Nat → Nat) (k : Nat) (v : Nat → Nat) : addC t k v 0 = t 0 + 1 := rfl
theorem addC_k {t : Nat → Nat} {k j : Nat} {v : Nat → Nat} (h : j = 5 + t 0) : addC t k v j = k := by unfold addC; rw [if_neg (by omega), if_pos h]
theorem addC_z {t : Nat → Nat} {k j : Nat} {v : Nat → Nat} (h : j = 13 + t 0) : addC t k v j = v 0 := by unfold addC; rw [if_neg (by omega), if_neg (by omega), if_pos h]
theorem addC_t {t : Nat → Nat} {k j : Nat} {v : Nat → Nat} (h : j = 21 + t 0) : addC t k v j = v 1 := by unfold addC; rw [if_neg (by omega), if_neg (by omega), if_neg (by omega), if_pos h]
theorem addC_o {t : Nat → Nat} {k j : Nat} {v : Nat → Nat} (h0 : j ≠ 0) (h1 : j ≠ 5 + t 0) (h2 : j ≠ 13 + t 0) (h3 : j ≠ 21 + t 0) : addC t k v j = t j := by unfold addC; rw [if_neg h0, if_neg h1, if_neg h2, if_neg h3]
theorem addE_0 (t : Nat → Nat) (k : Nat) (v : Nat → Nat) : addE t k v 1 = t 1 + 1 := rfl
theorem addE_k {t : Nat → Nat} {k j : Nat} {v : Nat → Nat} (h : j = 29 + t 1) : addE t k v j = k := by unfold addE; rw [if_neg (by omega), if_pos h]
theorem addE_m {t : Nat → Nat} {k j : Nat} {v : Nat → Nat} (h : j = 33 + t 1) : addE t k v j = v 0 := by unfold addE; rw [if_neg (by omega), if_neg (by omega), if_pos h]
theorem addE_t {t : Nat → Nat} {k j : Nat} {v : Nat → Nat} (h : j = 37 + t 1) : addE t k v j = v 1 := by unfold addE; rw [if_neg (by omega), if_neg (by omega), if_neg (by omega), if_pos h]
theorem addE_w {t : Nat → Nat} {k j : Nat} {v : Nat → Nat} (h : j = 41 + t 1) : addE t k v j = v 2 := by unfold addE; rw [if_neg (by omega), if_neg (by omega), if_neg (by omega), if_neg (by omega), if_pos h]
theorem addE_o {t : Nat → Nat} {k j : Nat} {v : Nat → Nat} (h0 : j ≠ 1) (h1 : j ≠ 29 + t 1) (h2 : j ≠ 33 + t 1) (h3 : j ≠ 37 + t 1) (h4 : j ≠ 41 + t 1) : addE t k v j = t j := by unfold addE; rw [if_neg h0, if_neg h1, if_neg h2, if_neg h3, if_neg h4]
def carry (t : Nat → Nat) (d k : Nat) (v : Nat → Nat) : Nat → Nat := if d = 0 then t0F else if d = 1 then addC t k v else if d = 2 then addE t k v else if d = 3 then put t 2 (v 0) else if d = 4 then put t 3 (v 0) else if d = 5 then put t 4 (v 0) else put t 0 0
def room (t : Nat → Nat) (d : Nat) : Bool := if d = 1 then decide (t 0 < 8) else if d = 2 then decide (t 1 < 4) else true
def pc (w : Nat → Nat) (l : Nat) (t : Nat → Nat) (p : Nat) : Nat × Option (Nat → Nat) :=
  match fstU (isW w (sk w l p) (le w l (sk w l p))) 13 with
  | none => (sk w l p, none)
  | some c => if room t (dD c) = false then (sk w l p, none) else
    match fstU (nbad w l (le w l (sk w l p)) (dD c)) (hM (dD c)) with
    | some i => (sk w l (nps w l (le w l (sk w l p)) i), none)
    | none => (nps w l (le w l (sk w l p)) (hM (dD c)), some (carry t (dD c) (dK c) (fun i => nV w l (nps w l (le w l (sk w l p)) i))))
def ptk (w : Nat → Nat) (l n : Nat) (x : Nat × Option (Nat → Nat)) (go : (Nat → Nat) → Nat → Nat × Option (Nat × (Nat → Nat))) : Nat × Option (Nat × (Nat → Nat)) := match x with
  | (q, none) => (q, none)
  | (q, some t') => if l ≤ sk w l q then (sk w l q, some (n + 1, t')) else if w (sk w l q) = 59 ∧ n + 1 ≠ 14 then go t' (sk w l q + 1) else (sk w l q, none)
def pt (w : Nat → Nat) (l : Nat) : Nat → Nat → (Nat → Nat) → Nat → Nat × Option (Nat × (Nat → Nat))
  | 0, _, _, p => (p, none)
  | f + 1, n, t, p => ptk w l n (pc w l t p) (fun t' p' => pt w l f (n + 1) t' p')
theorem pt_s (w : Nat → Nat) (l f n p : Nat) (t : Nat → Nat) : pt w l (f + 1) n t p = ptk w l n (pc w l t p) (fun t' p' => pt w l f (n + 1) t' p') := rfl
theorem WT0 : WT t0F := by
  refine ⟨by decide, by decide, by decide, by decide, by decide, fun c hc => ?_, fun e he => ?_⟩
  · exact absurd hc (Nat.not_lt_zero c)
  · exact absurd he (Nat.not_lt_zero e)
theorem wt_carry {t : Nat → Nat} {d k : Nat} {v : Nat → Nat} (ht : WT t) (hr : room t d = true) (hd : d ≤ 6) (hk : k ≤ 3) (hv : ∀ i, i < hM d → bL d i ≤ v i ∧ v i ≤ bH d i) : WT (carry t d k v) := by
  obtain ⟨h0, h1, h2, h3, h4, hc, he⟩ := ht
  rcases (show d = 0 ∨ d = 1 ∨ d = 2 ∨ d = 3 ∨ d = 4 ∨ d = 5 ∨ d = 6 by omega) with rfl | rfl | rfl | rfl | rfl | rfl | rfl
  · exact WT0
  · have hr8 : t 0 < 8 := by unfold room at hr; simpa using hr
    have v0 := hv 0 (by decide)
    have v1 := hv 1 (by decide)
    have e0 : bH 1 0 = 20 := rfl
    have e1 : bH 1 1 = 99 := rfl
    have e2 : bL 1 1 = 1 := rfl
    show WT (addC t k v)
    have o : ∀ j, j ≠ 0 → j ≠ 5 + t 0 → j ≠ 13 + t 0 → j ≠ 21 + t 0 → addC t k v j = t j := fun j q1 q2 q3 q4 => addC_o q1 q2 q3 q4
    refine ⟨by rw [addC_0]; omega, ?_, ?_, ?_, ?_, fun c hcc => ?_, fun e hee => ?_⟩
    · rw [o _ (by omega) (by omega) (by omega) (by omega)]; exact h1
    · rw [o _ (by omega) (by omega) (by omega) (by omega)]; exact h2
    · rw [o _ (by omega) (by omega) (by omega) (by omega)]; exact h3
    · rw [o _ (by omega) (by omega) (by omega) (by omega)]; exact h4
    · rw [addC_0] at hcc
      by_cases q : c = t 0
      · subst q
        rw [addC_k rfl, addC_z rfl, addC_t rfl]
        omega
      · have := hc c (by omega)
        rw [o _ (by omega) (by omega) (by omega) (by omega), o _ (by omega) (by omega) (by omega) (by omega), o _ (by omega) (by omega) (by omega) (by omega)]
        exact this
    · rw [o _ (by omega) (by omega) (by omega) (by omega)] at hee
      have := he e hee
      rw [o _ (by omega) (by omega) (by omega) (by omega), o _ (by omega) (by omega) (by omega) (by omega), o _ (by omega) (by omega) (by omega) (by omega), o _ (by omega) (by omega) (by omega) (by omega)]
      exact this
  · have hr4 : t 1 < 4 := by unfold room at hr; simpa using hr
    have v0 := hv 0 (by decide)
    have v1 := hv 1 (by decide)
    have v2 := hv 2 (by decide)
    have e0 : bH 2 0 = 9 := rfl
    have e1 : bH 2 1 = 9 := rfl
    have e2 : bH 2 2 = 30 := rfl
    have e3 : bL 2 0 = 1 := rfl
    have e4 : bL 2 1 = 1 := rfl
    show WT (addE t k v)
    have o : ∀ j, j ≠ 1 → j ≠ 29 + t 1 → j ≠ 33 + t 1 → j ≠ 37 + t 1 → j ≠ 41 + t 1 → addE t k v j = t j := fun j q1 q2 q3 q4 q5 => addE_o q1 q2 q3 q4 q5
    refine ⟨?_, by rw [addE_0]; omega, ?_, ?_, ?_, fun c hcc => ?_, fun e hee => ?_⟩
    · rw [o _ (by omega) (by omega) (by omega) (by omega) (by omega)]; exact h0
    · rw [o _ (by omega) (by omega) (by omega) (by omega) (by omega)]; exact h2
    · rw [o _ (by omega) (by omega) (by omega) (by omega) (by omega)]; exact h3
    · rw [o _ (by omega) (by omega) (by omega) (by omega) (by omega)]; exact h4
    · rw [o _ (by omega) (by omega) (by omega) (by omega) (by omega)] at hcc
      have := hc c hcc
      rw [o _ (by omega) (by omega) (by omega) (by omega) (by omega), o _ (by omega) (by omega) (by omega) (by omega) (by omega), o _ (by omega) (by omega) (by omega) (by omega) (by omega)]
      exact this
    · rw [addE_0] at hee
      by_cases q : e = t 1
      · subst q
        rw [addE_k rfl, addE_m rfl, addE_t rfl, addE_w rfl]
        omega
      · have := he e (by omega)
        rw [o _ (by omega) (by omega) (by omega) (by omega) (by omega), o _ (by omega) (by omega) (by omega) (by omega) (by omega), o _ (by omega) (by omega) (by omega) (by omega) (by omega), o _ (by omega) (by omega) (by omega) (by omega) (by omega)]
        exact this
  · have v0 := hv 0 (by decide)
    have e0 : bH 3 0 = 30 := rfl
    show WT (put t 2 (v 0))
    refine ⟨h0, h1, by rw [put_s]; omega, h3, h4, fun c hcc => ?_, fun e hee => ?_⟩
    · rw [put_o (by omega), put_o (by omega), put_o (by omega)]; exact hc c hcc
    · rw [put_o (by omega), put_o (by omega), put_o (by omega), put_o (by omega)]; exact he e hee
  · have v0 := hv 0 (by decide)
    have e0 : bH 4 0 = 99 := rfl
    show WT (put t 3 (v 0))
    refine ⟨h0, h1, h2, by rw [put_s]; omega, h4, fun c hcc => ?_, fun e hee => ?_⟩
    · rw [put_o (by omega), put_o (by omega), put_o (by omega)]; exact hc c hcc
    · rw [put_o (by omega), put_o (by omega), put_o (by omega), put_o (by omega)]; exact he e hee
  · have v0 := hv 0 (by decide)
    have e0 : bH 5 0 = 9 := rfl
    show WT (put t 4 (v 0))
    refine ⟨h0, h1, h2, h3, by rw [put_s]; omega, fun c hcc => ?_, fun e hee => ?_⟩
    · rw [put_o (by omega), put_o (by omega), put_o (by omega)]; exact hc c hcc
    · rw [put_o (by omega), put_o (by omega), put_o (by omega), put_o (by omega)]; exact he e hee
  · show WT (put t 0 0)
    refine ⟨by rw [put_s]; omega, h1, h2, h3, h4, fun c hcc => ?_, fun e hee => ?_⟩
    · rw [put_s] at hcc; omega
    · rw [put_o (by omega), put_o (by omega), put_o (by omega), put_o (by omega)]; exact he e hee
theorem c_carry {N : Nat} {M : Mem} {t : Nat → Nat} {d k : Nat} {v : Nat → Nat} (ht : WT t) (hT : TC t M 10) (hr : room t d = true) (hd : d ≤ 6) (hv : ∀ i, i < hM d → M 19 i = nI (v i)) : Ok (f_X5_carryOut N M 10 (nI d) (nI k) 19) (fun M' => TC (carry t d k v) M' 10 ∧ ∀ a b, (a < 10 ∨ 17 < a) → M' a b = M a b) := by
  obtain ⟨h1, h2, h3, h4, h5, h6, h7, h8, h9, h10, h11, h12⟩ := hT
  have ht0 := ht.1
  have ht1 := ht.2.1
  unfold f_X5_carryOut
  rcases (show d = 0 ∨ d = 1 ∨ d = 2 ∨ d = 3 ∨ d = 4 ∨ d = 5 ∨ d = 6 by omega) with rfl | rfl | rfl | rfl | rfl | rfl | rfl
  · rw [if_pos (show nI 0 = (0 : Int32) from rfl)]
    unfold f_X5_beAsAtFirst
    refine Ok.ret ⟨⟨?_, ?_, ?_, ?_, ?_, fun c hc => absurd hc (Nat.not_lt_zero c), fun c hc => absurd hc (Nat.not_lt_zero c), fun c hc => absurd hc (Nat.not_lt_zero c), fun c hc => absurd hc (Nat.not_lt_zero c), fun c hc => absurd hc (Nat.not_lt_zero c), fun c hc => absurd hc (Nat.not_lt_zero c), fun c hc => absurd hc (Nat.not_lt_zero c)⟩, fun a b q => ?_⟩
    · rw [up2_j (by decide), up2_j (by decide), up2_j (by decide), up2_j (by decide), up2_same]; rfl
    · rw [up2_j (by decide), up2_j (by decide), up2_j (by decide), up2_same]; rfl
    · rw [up2_j (by decide), up2_j (by decide), up2_same]; rfl
    · rw [up2_j (by decide), up2_same]; rfl
    · rw [up2_same]; rfl
    · rw [up2_k (by omega), up2_k (by omega), up2_k (by omega), up2_k (by omega), up2_k (by omega)]
  · have hr8 : t 0 < 8 := by unfold room at hr; simpa using hr
    have v0 := hv 0 (by decide)
    have v1 := hv 1 (by decide)
    have hin : inb (nI (t 0)) 8 = true := by rw [inb_nI (by omega)]; simp; omega
    have hcl : (nI (t 0)).toNatClampNeg = t 0 := n_cl (by omega)
    rw [if_neg (show ¬ nI 1 = (0 : Int32) by decide), if_pos (show nI 1 = (1 : Int32) from rfl)]
    unfold f_X5_addClapper
    simp only [h1, up2_k (show (10 : Nat) ≠ 10 + 1 by decide), up2_k (show (10 : Nat) ≠ 10 + 2 by decide), up2_k (show (10 : Nat) ≠ 10 + 3 by decide), up2_k (show (19 : Nat) ≠ 10 + 1 by decide), up2_k (show (19 : Nat) ≠ 10 + 2 by decide), v0, v1, hcl, if_pos hin, nI_1]
    rw [if_neg (by show ¬ nI 8 ≤ nI (t 0); rw [n_le (by omega) (by omega)]; omega)]
    show Ok (some _) (fun M' => TC (addC t k v) M' 10 ∧ ∀ a b, (a < 10 ∨ 17 < a) → M' a b = M a b)
    obtain ⟨M9, hM9⟩ : ∃ q, q = up2 (up2 (up2 (up2 M (10 + 1) (t 0) (nI k)) (10 + 2) (t 0) (nI (v 0))) (10 + 3) (t 0) (nI (v 1))) 10 7 (nI (t 0 + 1)) := ⟨_, rfl⟩
    rw [← hM9]
    have o : ∀ j, j ≠ 0 → j ≠ 5 + t 0 → j ≠ 13 + t 0 → j ≠ 21 + t 0 → addC t k v j = t j := fun j q1 q2 q3 q4 => addC_o q1 q2 q3 q4
    have o1 : addC t k v 1 = t 1 := o _ (by omega) (by omega) (by omega) (by omega)
    refine Ok.ret ⟨⟨?_, ?_, ?_, ?_, ?_, fun c hc => ?_, fun c hc => ?_, fun c hc => ?_, fun c hc => ?_, fun c hc => ?_, fun c hc => ?_, fun c hc => ?_⟩, fun a b q => ?_⟩
    · rw [hM9, up2_same, addC_0]
    · rw [o1, hM9, up2_j (by decide), up2_k (by decide), up2_k (by decide), up2_k (by decide)]; exact h2
    · rw [o _ (by omega) (by omega) (by omega) (by omega), hM9, up2_j (by decide), up2_k (by decide), up2_k (by decide), up2_k (by decide)]; exact h3
    · rw [o _ (by omega) (by omega) (by omega) (by omega), hM9, up2_j (by decide), up2_k (by decide), up2_k (by decide), up2_k (by decide)]; exact h4
    · rw [o _ (by omega) (by omega) (by omega) (by omega), hM9, up2_j (by decide), up2_k (by decide), up2_k (by decide), up2_k (by decide)]; exact h5
    · rw [addC_0] at hc
      rw [hM9, up2_k (by decide), up2_k (by decide), up2_k (by decide)]
      by_cases q : c = t 0
      · rw [addC_k (by omega), q, up2_same]
      · rw [o _ (by omega) (by omega) (by omega) (by omega), up2_j q]; exact h6 c (by omega)
    · rw [addC_0] at hc
      rw [hM9, up2_k (by decide), up2_k (by decide)]
      by_cases q : c = t 0
      · rw [addC_z (by omega), q, up2_same]
      · rw [o _ (by omega) (by omega) (by omega) (by omega), up2_j q, up2_k (by decide)]; exact h7 c (by omega)
    · rw [addC_0] at hc
      rw [hM9, up2_k (by decide)]
      by_cases q : c = t 0
      · rw [addC_t (by omega), q, up2_same]
      · rw [o _ (by omega) (by omega) (by omega) (by omega), up2_j q, up2_k (by decide), up2_k (by decide)]; exact h8 c (by omega)
    · rw [o1] at hc
      rw [o _ (by omega) (by omega) (by omega) (by omega), hM9, up2_k (by decide), up2_k (by decide), up2_k (by decide), up2_k (by decide)]; exact h9 c hc
    · rw [o1] at hc
      rw [o _ (by omega) (by omega) (by omega) (by omega), hM9, up2_k (by decide), up2_k (by decide), up2_k (by decide), up2_k (by decide)]; exact h10 c hc
    · rw [o1] at hc
      rw [o _ (by omega) (by omega) (by omega) (by omega), hM9, up2_k (by decide), up2_k (by decide), up2_k (by decide), up2_k (by decide)]; exact h11 c hc
    · rw [o1] at hc
      rw [o _ (by omega) (by omega) (by omega) (by omega), hM9, up2_k (by decide), up2_k (by decide), up2_k (by decide), up2_k (by decide)]; exact h12 c hc
    · rw [hM9, up2_k (by omega), up2_k (by omega), up2_k (by omega), up2_k (by omega)]
  · have hr4 : t 1 < 4 := by unfold room at hr; simpa using hr
    have v0 := hv 0 (by decide)
    have v1 := hv 1 (by decide)
    have v2 := hv 2 (by decide)
    have hin : inb (nI (t 1)) 4 = true := by rw [inb_nI (by omega)]; simp; omega
    have hcl : (nI (t 1)).toNatClampNeg = t 1 := n_cl (by omega)
    rw [if_neg (show ¬ nI 2 = (0 : Int32) by decide), if_neg (show ¬ nI 2 = (1 : Int32) by decide), if_pos (show nI 2 = (2 : Int32) from rfl)]
    unfold f_X5_addEncore
    simp only [h2, up2_k (show (10 : Nat) ≠ 10 + 4 by decide), up2_k (show (10 : Nat) ≠ 10 + 5 by decide), up2_k (show (10 : Nat) ≠ 10 + 6 by decide), up2_k (show (10 : Nat) ≠ 10 + 7 by decide), up2_k (show (19 : Nat) ≠ 10 + 4 by decide), up2_k (show (19 : Nat) ≠ 10 + 5 by decide), up2_k (show (19 : Nat) ≠ 10 + 6 by decide), v0, v1, v2, hcl, if_pos hin, nI_1]
    rw [if_neg (by show ¬ nI 4 ≤ nI (t 1); rw [n_le (by omega) (by omega)]; omega)]
    show Ok (some _) (fun M' => TC (addE t k v) M' 10 ∧ ∀ a b, (a < 10 ∨ 17 < a) → M' a b = M a b)
    obtain ⟨M9, hM9⟩ : ∃ q, q = up2 (up2 (up2 (up2 (up2 M (10 + 4) (t 1) (nI k)) (10 + 5) (t 1) (nI (v 0))) (10 + 6) (t 1) (nI (v 1))) (10 + 7) (t 1) (nI (v 2))) 10 8 (nI (t 1 + 1)) := ⟨_, rfl⟩
    rw [← hM9]
    have o : ∀ j, j ≠ 1 → j ≠ 29 + t 1 → j ≠ 33 + t 1 → j ≠ 37 + t 1 → j ≠ 41 + t 1 → addE t k v j = t j := fun j q1 q2 q3 q4 q5 => addE_o q1 q2 q3 q4 q5
    have o0 : addE t k v 0 = t 0 := o _ (by omega) (by omega) (by omega) (by omega) (by omega)
    refine Ok.ret ⟨⟨?_, ?_, ?_, ?_, ?_, fun c hc => ?_, fun c hc => ?_, fun c hc => ?_, fun c hc => ?_, fun c hc => ?_, fun c hc => ?_, fun c hc => ?_⟩, fun a b q => ?_⟩
    · rw [o0, hM9, up2_j (by decide), up2_k (by decide), up2_k (by decide), up2_k (by decide), up2_k (by decide)]; exact h1
    · rw [hM9, up2_same, addE_0]
    · rw [o _ (by omega) (by omega) (by omega) (by omega) (by omega), hM9, up2_j (by decide), up2_k (by decide), up2_k (by decide), up2_k (by decide), up2_k (by decide)]; exact h3
    · rw [o _ (by omega) (by omega) (by omega) (by omega) (by omega), hM9, up2_j (by decide), up2_k (by decide), up2_k (by decide), up2_k (by decide), up2_k (by decide)]; exact h4
    · rw [o _ (by omega) (by omega) (by omega) (by omega) (by omega), hM9, up2_j (by decide), up2_k (by decide), up2_k (by decide), up2_k (by decide), up2_k (by decide)]; exact h5
    · rw [o0] at hc
      rw [o _ (by omega) (by omega) (by omega) (by omega) (by omega), hM9, up2_k (by decide), up2_k (by decide), up2_k (by decide), up2_k (by decide), up2_k (by decide)]; exact h6 c hc
    · rw [o0] at hc
      rw [o _ (by omega) (by omega) (by omega) (by omega) (by omega), hM9, up2_k (by decide), up2_k (by decide), up2_k (by decide), up2_k (by decide), up2_k (by decide)]; exact h7 c hc
    · rw [o0] at hc
      rw [o _ (by omega) (by omega) (by omega) (by omega) (by omega), hM9, up2_k (by decide), up2_k (by decide), up2_k (by decide), up2_k (by decide), up2_k (by decide)]; exact h8 c hc
    · rw [addE_0] at hc
      rw [hM9, up2_k (by decide), up2_k (by decide), up2_k (by decide), up2_k (by decide)]
      by_cases q : c = t 1
      · rw [addE_k (by omega), q, up2_same]
      · rw [o _ (by omega) (by omega) (by omega) (by omega) (by omega), up2_j q]; exact h9 c (by omega)
    · rw [addE_0] at hc
      rw [hM9, up2_k (by decide), up2_k (by decide), up2_k (by decide)]
      by_cases q : c = t 1
      · rw [addE_m (by omega), q, up2_same]
      · rw [o _ (by omega) (by omega) (by omega) (by omega) (by omega), up2_j q, up2_k (by decide)]; exact h10 c (by omega)
    · rw [addE_0] at hc
      rw [hM9, up2_k (by decide), up2_k (by decide)]
      by_cases q : c = t 1
      · rw [addE_t (by omega), q, up2_same]
      · rw [o _ (by omega) (by omega) (by omega) (by omega) (by omega), up2_j q, up2_k (by decide), up2_k (by decide)]; exact h11 c (by omega)
    · rw [addE_0] at hc
      rw [hM9, up2_k (by decide)]
      by_cases q : c = t 1
      · rw [addE_w (by omega), q, up2_same]
      · rw [o _ (by omega) (by omega) (by omega) (by omega) (by omega), up2_j q, up2_k (by decide), up2_k (by decide), up2_k (by decide)]; exact h12 c (by omega)
    · rw [hM9, up2_k (by omega), up2_k (by omega), up2_k (by omega), up2_k (by omega), up2_k (by omega)]
  · have v0 := hv 0 (by decide)
    rw [if_neg (show ¬ nI 3 = (0 : Int32) by decide), if_neg (show ¬ nI 3 = (1 : Int32) by decide), if_neg (show ¬ nI 3 = (2 : Int32) by decide), if_pos (show nI 3 = (3 : Int32) from rfl), v0]
    show Ok (some _) (fun M' => TC (put t 2 (v 0)) M' 10 ∧ ∀ a b, (a < 10 ∨ 17 < a) → M' a b = M a b)
    obtain ⟨M9, hM9⟩ : ∃ q, q = up2 M 10 9 (nI (v 0)) := ⟨_, rfl⟩
    rw [← hM9]
    have o : ∀ j, j ≠ 2 → put t 2 (v 0) j = t j := fun j q => put_o q
    have z : ∀ a b, ¬ (a = 10 ∧ b = 9) → M9 a b = M a b := fun a b q => by rw [hM9]; unfold up2; rw [if_neg q]
    refine Ok.ret ⟨⟨?_, ?_, ?_, ?_, ?_, fun c hc => ?_, fun c hc => ?_, fun c hc => ?_, fun c hc => ?_, fun c hc => ?_, fun c hc => ?_, fun c hc => ?_⟩, fun a b q => z a b (by omega)⟩
    · rw [o _ (by omega), z _ _ (by omega)]; exact h1
    · rw [o _ (by omega), z _ _ (by omega)]; exact h2
    · rw [put_s, hM9, up2_same]
    · rw [o _ (by omega), z _ _ (by omega)]; exact h4
    · rw [o _ (by omega), z _ _ (by omega)]; exact h5
    · rw [o _ (by omega), z _ _ (by omega)]; exact h6 c hc
    · rw [o _ (by omega), z _ _ (by omega)]; exact h7 c hc
    · rw [o _ (by omega), z _ _ (by omega)]; exact h8 c hc
    · rw [o _ (by omega), z _ _ (by omega)]; exact h9 c hc
    · rw [o _ (by omega), z _ _ (by omega)]; exact h10 c hc
    · rw [o _ (by omega), z _ _ (by omega)]; exact h11 c hc
    · rw [o _ (by omega), z _ _ (by omega)]; exact h12 c hc
  · have v0 := hv 0 (by decide)
    rw [if_neg (show ¬ nI 4 = (0 : Int32) by decide), if_neg (show ¬ nI 4 = (1 : Int32) by decide), if_neg (show ¬ nI 4 = (2 : Int32) by decide), if_neg (show ¬ nI 4 = (3 : Int32) by decide), if_pos (show nI 4 = (4 : Int32) from rfl), v0]
    show Ok (some _) (fun M' => TC (put t 3 (v 0)) M' 10 ∧ ∀ a b, (a < 10 ∨ 17 < a) → M' a b = M a b)
    obtain ⟨M9, hM9⟩ : ∃ q, q = up2 M 10 10 (nI (v 0)) := ⟨_, rfl⟩
    rw [← hM9]
    have o : ∀ j, j ≠ 3 → put t 3 (v 0) j = t j := fun j q => put_o q
    have z : ∀ a b, ¬ (a = 10 ∧ b = 10) → M9 a b = M a b := fun a b q => by rw [hM9]; unfold up2; rw [if_neg q]
    refine Ok.ret ⟨⟨?_, ?_, ?_, ?_, ?_, fun c hc => ?_, fun c hc => ?_, fun c hc => ?_, fun c hc => ?_, fun c hc => ?_, fun c hc => ?_, fun c hc => ?_⟩, fun a b q => z a b (by omega)⟩
    · rw [o _ (by omega), z _ _ (by omega)]; exact h1
    · rw [o _ (by omega), z _ _ (by omega)]; exact h2
    · rw [o _ (by omega), z _ _ (by omega)]; exact h3
    · rw [put_s, hM9, up2_same]
    · rw [o _ (by omega), z _ _ (by omega)]; exact h5
    · rw [o _ (by omega), z _ _ (by omega)]; exact h6 c hc
    · rw [o _ (by omega), z _ _ (by omega)]; exact h7 c hc
    · rw [o _ (by omega), z _ _ (by omega)]; exact h8 c hc
    · rw [o _ (by omega), z _ _ (by omega)]; exact h9 c hc
    · rw [o _ (by omega), z _ _ (by omega)]; exact h10 c hc
    · rw [o _ (by omega), z _ _ (by omega)]; exact h11 c hc
    · rw [o _ (by omega), z _ _ (by omega)]; exact h12 c hc
  · have v0 := hv 0 (by decide)
    rw [if_neg (show ¬ nI 5 = (0 : Int32) by decide), if_neg (show ¬ nI 5 = (1 : Int32) by decide), if_neg (show ¬ nI 5 = (2 : Int32) by decide), if_neg (show ¬ nI 5 = (3 : Int32) by decide), if_neg (show ¬ nI 5 = (4 : Int32) by decide), if_pos (show nI 5 = (5 : Int32) from rfl), v0]
    show Ok (some _) (fun M' => TC (put t 4 (v 0)) M' 10 ∧ ∀ a b, (a < 10 ∨ 17 < a) → M' a b = M a b)
    obtain ⟨M9, hM9⟩ : ∃ q, q = up2 M 10 11 (nI (v 0)) := ⟨_, rfl⟩
    rw [← hM9]
    have o : ∀ j, j ≠ 4 → put t 4 (v 0) j = t j := fun j q => put_o q
    have z : ∀ a b, ¬ (a = 10 ∧ b = 11) → M9 a b = M a b := fun a b q => by rw [hM9]; unfold up2; rw [if_neg q]
    refine Ok.ret ⟨⟨?_, ?_, ?_, ?_, ?_, fun c hc => ?_, fun c hc => ?_, fun c hc => ?_, fun c hc => ?_, fun c hc => ?_, fun c hc => ?_, fun c hc => ?_⟩, fun a b q => z a b (by omega)⟩
    · rw [o _ (by omega), z _ _ (by omega)]; exact h1
    · rw [o _ (by omega), z _ _ (by omega)]; exact h2
    · rw [o _ (by omega), z _ _ (by omega)]; exact h3
    · rw [o _ (by omega), z _ _ (by omega)]; exact h4
    · rw [put_s, hM9, up2_same]
    · rw [o _ (by omega), z _ _ (by omega)]; exact h6 c hc
    · rw [o _ (by omega), z _ _ (by omega)]; exact h7 c hc
    · rw [o _ (by omega), z _ _ (by omega)]; exact h8 c hc
    · rw [o _ (by omega), z _ _ (by omega)]; exact h9 c hc
    · rw [o _ (by omega), z _ _ (by omega)]; exact h10 c hc
    · rw [o _ (by omega), z _ _ (by omega)]; exact h11 c hc
    · rw [o _ (by omega), z _ _ (by omega)]; exact h12 c hc
  · rw [if_neg (show ¬ nI 6 = (0 : Int32) by decide), if_neg (show ¬ nI 6 = (1 : Int32) by decide), if_neg (show ¬ nI 6 = (2 : Int32) by decide), if_neg (show ¬ nI 6 = (3 : Int32) by decide), if_neg (show ¬ nI 6 = (4 : Int32) by decide), if_neg (show ¬ nI 6 = (5 : Int32) by decide)]
    show Ok (some _) (fun M' => TC (put t 0 0) M' 10 ∧ ∀ a b, (a < 10 ∨ 17 < a) → M' a b = M a b)
    obtain ⟨M9, hM9⟩ : ∃ q, q = up2 M 10 7 0 := ⟨_, rfl⟩
    rw [← hM9]
    have o : ∀ j, j ≠ 0 → put t 0 0 j = t j := fun j q => put_o q
    have z : ∀ a b, ¬ (a = 10 ∧ b = 7) → M9 a b = M a b := fun a b q => by rw [hM9]; unfold up2; rw [if_neg q]
    refine Ok.ret ⟨⟨?_, ?_, ?_, ?_, ?_, fun c hc => ?_, fun c hc => ?_, fun c hc => ?_, fun c hc => ?_, fun c hc => ?_, fun c hc => ?_, fun c hc => ?_⟩, fun a b q => z a b (by omega)⟩
    · rw [put_s, hM9, up2_same]; rfl
    · rw [o _ (by omega), z _ _ (by omega)]; exact h2
    · rw [o _ (by omega), z _ _ (by omega)]; exact h3
    · rw [o _ (by omega), z _ _ (by omega)]; exact h4
    · rw [o _ (by omega), z _ _ (by omega)]; exact h5
    · rw [put_s] at hc; omega
    · rw [put_s] at hc; omega
    · rw [put_s] at hc; omega
    · rw [o _ (by omega), z _ _ (by omega)]; exact h9 c hc
    · rw [o _ (by omega), z _ _ (by omega)]; exact h10 c hc
    · rw [o _ (by omega), z _ _ (by omega)]; exact h11 c hc
    · rw [o _ (by omega), z _ _ (by omega)]; exact h12 c hc
