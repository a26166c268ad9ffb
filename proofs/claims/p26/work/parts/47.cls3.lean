/-! The class's search. -/
def bC (b : Int32 × List Nat) (M : Mem) : Prop := M 25 0 = b.1 ∧ M 25 1 = nI b.2.length ∧ b.2.length ≤ 6 ∧ ∀ i, i < b.2.length → M 26 i = nI (b.2.getD i 0)
theorem bC.of {b : Int32 × List Nat} {M M' : Mem} (h : bC b M) (e : ∀ a c, a = 25 ∨ a = 26 → M' a c = M a c) : bC b M' := ⟨by rw [e _ _ (by omega)]; exact h.1, by rw [e _ _ (by omega)]; exact h.2.1, h.2.2.1, fun i hi => by rw [e _ _ (by omega)]; exact h.2.2.2 i hi⟩
theorem c_compare {N L : Nat} {M : Mem} {t s0 s : Nat → Nat} {p : List Nat} {b : Int32 × List Nat} (hL : L ≤ 6) (hp : p.length = L) (hE0 : EC t s0 M 29) (hE : EC t s M (29 + 2 * L)) (h27 : ∀ i, i < L → M 27 i = nI (p.getD i 0)) (hb : bC b M) :
    Ok (f_X3_compare N M (nI L)) (fun M' => bC (up b (gn s0 s, p)) M' ∧ ∀ a c, a ≠ 25 → a ≠ 26 → M' a c = M a c) := by
  obtain ⟨b1, b2, b3, b4⟩ := hb
  have hin : inb (nI L) 7 = true := by rw [inb_nI (by omega)]; simp; omega
  have hcl : (nI L).toNatClampNeg = L := n_cl (by omega)
  have e7 : M (29 + 2 * L) 7 = nI (s 4) := hE.2.2.2.2.2.2.1
  have e6 : M (29 + 2 * L) 6 = nI (s 3) := hE.2.2.2.2.2.1
  have f7 : M 29 7 = nI (s0 4) := hE0.2.2.2.2.2.2.1
  have f6 : M 29 6 = nI (s0 3) := hE0.2.2.2.2.2.1
  have hg : nI (s 4) - nI (s0 4) - (nI (s 3) - nI (s0 3)) = gn s0 s := rfl
  have hupd : bC (gn s0 s, p) (cp2 (up2 (up2 M 25 0 (gn s0 s)) 25 1 (nI L)) 27 26 L) ∧ ∀ a c, a ≠ 25 → a ≠ 26 → cp2 (up2 (up2 M 25 0 (gn s0 s)) 25 1 (nI L)) 27 26 L a c = M a c := by
    refine ⟨⟨?_, ?_, by show p.length ≤ 6; omega, fun i hi => ?_⟩, fun a c q1 q2 => ?_⟩
    · rw [cp2_k (by decide), up2_j (by decide), up2_same]
    · rw [cp2_k (by decide), up2_same]; show nI L = nI p.length; rw [hp]
    · have hi2 : i < p.length := hi
      rw [cp2_in (by omega), up2_k (by decide), up2_k (by decide)]
      exact h27 i (by omega)
    · rw [cp2_k q2, up2_k q1, up2_k q1]
  unfold f_X3_compare
  rw [if_pos hin, if_pos hin, hcl, e7, e6, f7, f6, hg, b1, b2]
  unfold up
  by_cases q1 : b.1 < gn s0 s
  · rw [if_pos q1, if_pos hin, if_pos (Or.inl q1)]
    exact Ok.ret hupd
  · rw [if_neg q1]
    by_cases q2 : gn s0 s = b.1
    · rw [if_pos q2]
      by_cases q3 : b.2.length ≤ L
      · rw [if_pos (by rw [n_le (by omega) (by omega)]; exact q3), if_neg (fun q => by rcases q with q | q; exact q1 q; have := q.2; dsimp only at this; omega)]
        exact Ok.ret ⟨⟨b1, b2, b3, b4⟩, fun _ _ _ _ => rfl⟩
      · rw [if_neg (by rw [n_le (by omega) (by omega)]; exact q3), if_pos hin, if_pos (Or.inr ⟨q2, by dsimp only; omega⟩)]
        exact Ok.ret hupd
    · rw [if_neg q2, if_neg (fun q => by rcases q with q | q; exact q1 q; exact q2 q.1)]
      exact Ok.ret ⟨⟨b1, b2, b3, b4⟩, fun _ _ _ _ => rfl⟩
theorem c_worth {N d k x m n : Nat} {M : Mem} {t s : Nat → Nat} (hd : d + (k + 1) = 6) (hx1 : 1 ≤ x) (hx : x ≤ 5) (hs : WS t s m n) (hn : n < 1000000) (hE : EC t s M (29 + 2 * d)) : f_X3_isWorthATry N M (nI x) (nI d) = some (if WC t (k + 1) s x = true then nI 1 else nI 0) := by
  unfold f_X3_isWorthATry WC
  have hmor : morS t s ≤ 4 := by unfold morS; split <;> omega
  by_cases h1 : x = 1
  · subst h1
    rw [if_pos (show nI 1 = (1 : Int32) from rfl), nI_1]
    by_cases h5 : d + 1 < 6
    · have hin : inb (nI d) 7 = true := by rw [inb_nI (by omega)]; simp; omega
      rw [if_neg (by show ¬ nI 6 ≤ nI (d + 1); rw [n_le (by omega) (by omega)]; omega), if_pos hin, n_cl (by omega), c_moreByBow hs hn hE]
      simp only [Option.bind_some]
      have h2 : 2 ≤ k + 1 := by omega
      by_cases h3 : 0 < morS t s
      · rw [if_neg (by show ¬ nI (morS t s) ≤ nI 0; rw [n_le (by omega) (by omega)]; omega)]
        simp [h2, h3, i1]
      · rw [if_pos (by show nI (morS t s) ≤ nI 0; rw [n_le (by omega) (by omega)]; omega)]
        simp [h3, i0]
    · rw [if_pos (by show nI 6 ≤ nI (d + 1); rw [n_le (by omega) (by omega)]; omega)]
      have h2 : ¬ 2 ≤ k + 1 := by omega
      simp [h2, i0]
  · rw [if_neg (by show ¬ nI x = nI 1; rw [n_eq (by omega) (by omega)]; exact h1)]
    simp [h1, i1]
theorem getD_snoc (p : List Nat) (x i : Nat) : (p ++ [x]).getD i 0 = if i < p.length then p.getD i 0 else if i = p.length then x else 0 := by
  rw [List.getD_eq_getElem?_getD, List.getD_eq_getElem?_getD]
  by_cases h : i < p.length
  · rw [if_pos h, List.getElem?_append_left h]
  · rw [if_neg h, List.getElem?_append_right (by omega)]
    by_cases h2 : i = p.length
    · rw [if_pos h2, h2]; simp
    · rw [if_neg h2, List.getElem?_eq_none (by simp; omega)]; rfl
theorem c_deep {N : Nat} (hN : 1000 ≤ N) {t s0 : Nat → Nat} (ht : WT t) : ∀ (k d : Nat) (s : Nat → Nat) (p : List Nat) (b : Int32 × List Nat) (M : Mem) (m n : Nat), d + k = 6 → p.length = d → WS t s m n → m + 9 * k < 1000000 → n + k < 1000000 → TC t M 1 → EC t s0 M 29 → EC t s M (29 + 2 * d) → (∀ i, i < d → M 27 i = nI (p.getD i 0)) → bC b M →
    Ok (f_X3_lookDeeperR N (k + 1) M (nI d)) (fun M' => bC ((rwC t s0 k s p).foldl up b) M' ∧ (∀ i, i < d → M' 27 i = M 27 i) ∧ ∀ a c, a ≠ 25 → a ≠ 26 → a ≠ 27 → (a < 31 + 2 * d ∨ 42 < a) → M' a c = M a c) := by
  intro k
  induction k with
  | zero =>
    intro d s p b M m n hd hp hs hm hn hT hE0 hE h27 hb
    have hd6 : d = 6 := by omega
    subst hd6
    rw [f_X3_lookDeeperR]
    unfold f_X3_lookDeeper
    rw [if_neg (by decide)]
    exact Ok.ret ⟨hb, fun _ _ => rfl, fun _ _ _ _ _ _ => rfl⟩
  | succ k ih =>
    intro d s p b M m n hd hp hs hm hn hT hE0 hE h27 hb
    obtain ⟨F, hF⟩ : ∃ F : Nat → List (Int32 × List Nat), F = (fun x => if (WC t (k + 1) s x && canS t s x) = true then (gn s0 (stepS t s x), p ++ [x]) :: rwC t s0 k (stepS t s x) (p ++ [x]) else []) := ⟨_, rfl⟩
    have hrw : rwC t s0 (k + 1) s p = secs F 5 := by rw [hF]; rfl
    rw [hrw, f_X3_lookDeeperR]
    unfold f_X3_lookDeeper
    rw [if_pos (by show nI d < nI 6; rw [n_lt (by omega) (by omega)]; omega)]
    refine Ok.bind (lpE (fun n' i a => f_X3_lookDeeper_L9 N (fun M x => f_X3_lookDeeperR N (k + 1) M x) (nI d) n' i a) 6 (fun j M' => 1 ≤ j ∧ bC ((secs F (j - 1)).foldl up b) M' ∧ (∀ i, i < d → M' 27 i = M 27 i) ∧ ∀ a c, a ≠ 25 → a ≠ 26 → a ≠ 27 → (a < 31 + 2 * d ∨ 42 < a) → M' a c = M a c) (fun r => bC ((secs F 5).foldl up b) r.2 ∧ (∀ i, i < d → r.2 27 i = M 27 i) ∧ ∀ a c, a ≠ 25 → a ≠ 26 → a ≠ 27 → (a < 31 + 2 * d ∨ 42 < a) → r.2 a c = M a c) ?_ ?_ N 1 M (by omega) ⟨by omega, hb, fun _ _ => rfl, fun _ _ _ _ _ _ => rfl⟩ (by omega)) (fun a h => Ok.ret h)
    · intro f j M' hj ⟨hj1, hb', h27', hF'⟩
      left
      have hT' : TC t M' 1 := hT.of (fun a c q1 q2 => hF' a c (by omega) (by omega) (by omega) (by omega))
      have hE0' : EC t s0 M' 29 := hE0.of (fun a c q1 q2 => hF' a c (by omega) (by omega) (by omega) (by omega))
      have hE' : EC t s M' (29 + 2 * d) := hE.of (fun a c q1 q2 => hF' a c (by omega) (by omega) (by omega) (by omega))
      have hw := c_worth (N := N) (M := M') hd hj1 (show j ≤ 5 by omega) hs (by omega) hE'
      have hps := c_isPossible (N := N) hN ht hs hT' hE' (show j < 1000 by omega)
      have hin : inb (nI d) 7 = true := by rw [inb_nI (by omega)]; simp; omega
      have hcl : (nI d).toNatClampNeg = d := n_cl (by omega)
      have hstep : f_X3_lookDeeper_L9 N (fun M x => f_X3_lookDeeperR N (k + 1) M x) (nI d) (f + 1) (nI j) M' = if (WC t (k + 1) s j && canS t s j) = true then (f_X3_lookBehind N (fun M x => f_X3_lookDeeperR N (k + 1) M x) M' (nI j) (nI d)).bind fun q39 => f_X3_lookDeeper_L9 N (fun M x => f_X3_lookDeeperR N (k + 1) M x) (nI d) f (nI (j + 1)) q39 else f_X3_lookDeeper_L9 N (fun M x => f_X3_lookDeeperR N (k + 1) M x) (nI d) f (nI (j + 1)) M' := by
        rw [f_X3_lookDeeper_L9, if_neg (by show ¬ nI 5 < nI j; rw [n_lt (by omega) (by omega)]; omega), hw, hcl, if_pos hin, hps, nI_1]
        cases WC t (k + 1) s j <;> cases canS t s j <;> rfl
      have hsec : secs F (j + 1 - 1) = secs F (j - 1) ++ F j := by
        obtain ⟨i, rfl⟩ : ∃ i, j = i + 1 := ⟨j - 1, by omega⟩
        rfl
      show ∃ a', _ ∧ f_X3_lookDeeper_L9 N (fun M x => f_X3_lookDeeperR N (k + 1) M x) (nI d) (f + 1) (nI j) M' = _
      rw [hstep, hsec, List.foldl_append]
      by_cases hcw : (WC t (k + 1) s j && canS t s j) = true
      · rw [if_pos hcw]
        have hFj : F j = (gn s0 (stepS t s j), p ++ [j]) :: rwC t s0 k (stepS t s j) (p ++ [j]) := by rw [hF]; exact if_pos hcw
        have hcan : canS t s j = true := by rw [Bool.and_eq_true] at hcw; exact hcw.2
        rw [hFj, List.foldl_cons]
        have hbeh : Ok (f_X3_lookBehind N (fun M x => f_X3_lookDeeperR N (k + 1) M x) M' (nI j) (nI d)) (fun M6 => bC ((rwC t s0 k (stepS t s j) (p ++ [j])).foldl up (up ((secs F (j - 1)).foldl up b) (gn s0 (stepS t s j), p ++ [j]))) M6 ∧ (∀ i, i < d → M6 27 i = M 27 i) ∧ ∀ a c, a ≠ 25 → a ≠ 26 → a ≠ 27 → (a < 31 + 2 * d ∨ 42 < a) → M6 a c = M a c) := by
          unfold f_X3_lookBehind
          have hin6 : inb (nI d) 6 = true := by rw [inb_nI (by omega)]; simp; omega
          have hin71 : inb (nI (d + 1)) 7 = true := by rw [inb_nI (by omega)]; simp; omega
          have hcl1 : (nI (d + 1)).toNatClampNeg = d + 1 := n_cl (by omega)
          rw [if_pos hin6, nI_1, if_pos hin71, if_pos hin, hcl, hcl1]
          obtain ⟨M2, hM2⟩ : ∃ q, q = up2 M' 27 d (nI j) := ⟨_, rfl⟩
          rw [← hM2]
          have hF2 : ∀ a c, a ≠ 27 → M2 a c = M' a c := fun a c q => by rw [hM2, up2_k q]
          have hE2 : EC t s M2 (29 + 2 * d) := hE'.of (fun a c q1 q2 => hF2 a c (by omega))
          refine Ok.bind (c_copy ht hE2 (Or.inl (by omega))) ?_
          rintro M3 ⟨hE3, hF3⟩
          rw [if_pos hin71]
          have hT3 : TC t M3 1 := hT'.of (fun a c q1 q2 => by rw [hF3 a c (by omega) (by omega), hF2 a c (by omega)])
          refine Ok.bind (c_take hN ht hs (by omega) (by omega) hT3 hE3 (by omega) hcan (by omega)) ?_
          rintro M4 ⟨hE4, hF4⟩
          have hg : ∀ a c, a ≠ 27 → a ≠ 29 + 2 * (d + 1) → a ≠ 29 + 2 * (d + 1) + 1 → M4 a c = M' a c := fun a c q1 q2 q3 => by rw [hF4 a c q2 q3, hF3 a c q2 q3, hF2 a c q1]
          have h27g : ∀ i, M4 27 i = up2 M' 27 d (nI j) 27 i := fun i => by rw [hF4 _ _ (by omega) (by omega), hF3 _ _ (by omega) (by omega), hM2]
          have hE04 : EC t s0 M4 29 := hE0'.of (fun a c q1 q2 => hg a c (by omega) (by omega) (by omega))
          have hp4 : (p ++ [j]).length = d + 1 := by simp [hp]
          have h274 : ∀ i, i < d + 1 → M4 27 i = nI ((p ++ [j]).getD i 0) := by
            intro i hi
            rw [h27g i, getD_snoc]
            by_cases q : i = d
            · rw [if_neg (by omega), if_pos (by omega), q, up2_same]
            · rw [if_pos (by omega), up2_j q, h27' i (by omega)]; exact h27 i (by omega)
          refine Ok.bind (c_compare (by omega) hp4 hE04 hE4 h274 (hb'.of (fun a c q => hg a c (by omega) (by omega) (by omega)))) ?_
          rintro M5 ⟨hb5, hF5⟩
          have hT5 : TC t M5 1 := hT'.of (fun a c q1 q2 => by rw [hF5 a c (by omega) (by omega), hg a c (by omega) (by omega) (by omega)])
          have hE05 : EC t s0 M5 29 := hE04.of (fun a c q1 q2 => hF5 a c (by omega) (by omega))
          have hE5 : EC t (stepS t s j) M5 (29 + 2 * (d + 1)) := hE4.of (fun a c q1 q2 => hF5 a c (by omega) (by omega))
          refine Ok.bind (ih (d + 1) (stepS t s j) (p ++ [j]) _ M5 (m + 9) (n + 1) (by omega) hp4 (WS.step ht hs hcan) (by omega) (by omega) hT5 hE05 hE5 (fun i hi => by rw [hF5 _ _ (by omega) (by omega)]; exact h274 i hi) hb5) ?_
          rintro M6 ⟨hb6, h276, hF6⟩
          refine Ok.ret ⟨hb6, fun i hi => ?_, fun a c q1 q2 q3 q4 => ?_⟩
          · rw [h276 i (by omega), hF5 _ _ (by omega) (by omega), h27g i, up2_j (by omega), h27' i hi]
          · rw [hF6 a c q1 q2 q3 (by omega), hF5 a c q1 q2, hg a c q3 (by omega) (by omega), hF' a c q1 q2 q3 q4]
        obtain ⟨M6, hM6, hb6, h276, hF6⟩ := hbeh
        rw [hM6]
        exact ⟨M6, ⟨by omega, hb6, h276, hF6⟩, rfl⟩
      · rw [if_neg hcw]
        have hFj : F j = [] := by rw [hF]; exact if_neg hcw
        rw [hFj]
        exact ⟨M', ⟨by omega, hb', h27', hF'⟩, rfl⟩
    · intro f M' ⟨_, hb', h27', hF'⟩
      show Ok (f_X3_lookDeeper_L9 N (fun M x => f_X3_lookDeeperR N (k + 1) M x) (nI d) (f + 1) (nI 6) M') _
      rw [f_X3_lookDeeper_L9, if_pos (by decide)]
      exact Ok.ret ⟨hb', h27', hF'⟩
/-- what is left of the arm, put otherwise -/
def armS (s : Nat → Nat) (v : Nat) : Nat → Nat := fun j => if j = 1 then v else s j
theorem WS.arm {t s : Nat → Nat} {m n v : Nat} (hs : WS t s m n) (hv : v ≤ 30) : WS t (armS s v) m n := by
  refine ⟨hs.1, hv, hs.2.2.1, hs.2.2.2.1, fun c hc => ?_⟩
  unfold armS
  rw [if_neg (by omega)]
  exact hs.2.2.2.2 c hc
theorem c_look {N n v : Nat} (hN : 1000 ≤ N) (hn : n < 1000) {M : Mem} {t s : Nat → Nat} (ht : WT t) (hs : WS t s 999 n) (hv : v ≤ 30) (hT : TC t M 1) (hE : EC t s M 21) :
    Ok (f_X3_lookFrom N M 21 (nI v)) (fun M' => bC ((rwC t (armS s v) 6 (armS s v) []).foldl up (0, [])) M' ∧ ∀ a c, (a < 25 ∨ 42 < a) → M' a c = M a c) := by
  unfold f_X3_lookFrom
  refine Ok.bind (c_copy ht hE (Or.inl (by omega))) ?_
  rintro M1 ⟨hE1, hF1⟩
  obtain ⟨M2, hM2⟩ : ∃ q, q = up2 (up2 (up2 M1 29 3 (nI v)) 25 0 0) 25 1 0 := ⟨_, rfl⟩
  rw [← hM2]
  have hF2 : ∀ a c, a ≠ 25 → ¬ (a = 29 ∧ c = 3) → M2 a c = M1 a c := fun a c q1 q2 => by
    have : up2 M1 29 3 (nI v) a c = M1 a c := by unfold up2; rw [if_neg q2]
    rw [hM2, up2_k q1, up2_k q1, this]
  have hT2 : TC t M2 1 := hT.of (fun a c q1 q2 => by rw [hF2 a c (by omega) (by omega), hF1 a c (by omega) (by omega)])
  have hE2 : EC t (armS s v) M2 29 := by
    obtain ⟨e1, e2, e3, e4, e5, e6, e7, e8, e9⟩ := hE1
    refine EC.mk ?_ ⟨?_, ?_, ?_, ?_, ?_, ?_, ?_, ?_⟩
    · rw [hF2 _ _ (by omega) (by omega), e1, thB_congr (s := s) (s' := armS s v) rfl]
    · rw [hF2 _ _ (by omega) (by omega), e2]; rfl
    · rw [hM2, up2_k (by decide), up2_k (by decide), up2_same]; rfl
    · rw [hF2 _ _ (by omega) (by omega), e4]; rfl
    · rw [hF2 _ _ (by omega) (by omega), e5]; rfl
    · rw [hF2 _ _ (by omega) (by omega), e6]; rfl
    · rw [hF2 _ _ (by omega) (by omega), e7]; rfl
    · rw [hF2 _ _ (by omega) (by omega), e8, knw_congr (s := s) (s' := armS s v) rfl]
    · intro c hc
      rw [hF2 _ _ (by omega) (by omega), e9 c hc]
      unfold armS
      rw [if_neg (by omega)]
  have hb2 : bC (0, []) M2 := ⟨by rw [hM2, up2_j (by decide), up2_same], by rw [hM2, up2_same]; rfl, by simp, fun i hi => absurd hi (Nat.not_lt_zero i)⟩
  refine Ok.bind (c_deep hN ht 6 0 (armS s v) [] (0, []) M2 999 n (by omega) rfl (hs.arm hv) (by omega) (by omega) hT2 hE2 hE2 (fun i hi => by omega) hb2) ?_
  rintro M3 ⟨hb3, -, hF3⟩
  refine Ok.ret ⟨hb3, fun a c q => ?_⟩
  rw [hF3 a c (by omega) (by omega) (by omega) (by omega), hF2 a c (by omega) (by omega), hF1 a c (by omega) (by omega)]
