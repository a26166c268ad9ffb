/-! A row with a bow that adds nothing, or with one at its sixth place, is never the best. -/
def upd2 (s : Nat → Nat) (v : Nat) : Nat → Nat := fun j => if j = 2 then v else s j
theorem isT_u2 (t s : Nat → Nat) (v : Nat) : isT t (upd2 s v) = isT t s := isT_congr rfl
theorem knw_u2 (t s : Nat → Nat) (v : Nat) : knw t (upd2 s v) = knw t s := knw_congr rfl
theorem u2_6 (s : Nat → Nat) (v c : Nat) : upd2 s v (6 + c) = s (6 + c) := by unfold upd2; rw [if_neg (by omega)]
theorem nois_u2 (t s : Nat → Nat) (v : Nat) : nois t (upd2 s v) = nois t s := by
  unfold nois
  rw [isT_u2]
  apply sumN_congr
  intro i _
  rw [u2_6]
theorem can_u2 (t s : Nat → Nat) (v x : Nat) : canS t (upd2 s v) x = canS t s x := by
  unfold canS rdy
  rw [nois_u2]
  rfl
theorem min_u2 (t s : Nat → Nat) (v : Nat) : minS t (upd2 s v) = upd2 (minS t s) v := by
  funext j
  by_cases h : j = 2
  · subst h; rfl
  · unfold minS upd2
    simp [h]
theorem itr_u2 (t s : Nat → Nat) (v : Nat) : ∀ n, itr (minS t) n (upd2 s v) = upd2 (itr (minS t) n s) v
  | 0 => rfl
  | n + 1 => by rw [itr_s, itr_u2 t s v n, min_u2]; rfl
theorem play1_u2 (t s : Nat → Nat) (v e : Nat) : play1 t (upd2 s v) e = upd2 (play1 t s e) v := by
  funext j
  by_cases h : j = 2
  · subst h; rfl
  · unfold play1 upd2
    simp [h]
theorem play2_u2 (t s : Nat → Nat) (v e : Nat) : play2 t (upd2 s v) e = upd2 (play2 t s e) v := by
  funext j
  unfold play2
  rw [isT_u2]
  by_cases h : j = 2
  · subst h; rfl
  · unfold upd2
    simp [h]
theorem play3_u2 (t s : Nat → Nat) (v e : Nat) : play3 t (upd2 s v) e = upd2 (play3 t s e) v := by
  funext j
  unfold play3
  rw [onesT_congr (s := s) (s' := upd2 s v) rfl]
  by_cases h : j = 2
  · subst h; rfl
  · unfold upd2
    simp [h]
theorem play_u2 (t s : Nat → Nat) (v e : Nat) : playS t (upd2 s v) e = upd2 (playS t s e) v := by
  unfold playS
  rw [itr_u2, play1_u2, play2_u2, play3_u2]
theorem mor_play {t s : Nat → Nat} {e : Nat} (he : e < t 1) (h : morS t s = 0) : morS t (playS t s e) = 0 := by
  unfold morS at *
  rw [playS_2, knw_play (s := s) he (playS_5 t s e)]
  cases hk : knw t s with
  | true => simp
  | false =>
    rw [hk] at h
    simp at h
    cases decide (t (29 + e) = 3) <;> simp [h]
theorem dom_t {t : Nat → Nat} : ∀ (r : List Nat) (k : Nat) (s : Nat → Nat) (v : Nat), morS t s = 0 → morS t (upd2 s v) = 0 → vrow t k (upd2 s v) r → krow t k (upd2 s v) r = true → vrow t (k + 1) s r ∧ krow t (k + 1) s r = true ∧ endS t (upd2 s v) r = upd2 (endS t s r) v
  | [], k, s, v, _, _, _, _ => ⟨trivial, rfl, rfl⟩
  | x :: r, 0, s, v, _, _, h, _ => h.elim
  | x :: r, k + 1, s, v, h1, h2, h3, h4 => by
    obtain ⟨q1, q2, q3, q4⟩ := h3
    rw [krow, Bool.and_eq_true] at h4
    obtain ⟨w1, w2⟩ := h4
    have hx1 : x ≠ 1 := by
      intro q
      subst q
      unfold WC at w1
      rw [h2] at w1
      simp at w1
    have hcan : canS t s x = true := by rw [← can_u2 t s v]; exact q3
    have he := (can_enc hcan (by omega)).1
    have hst : stepS t (upd2 s v) x = upd2 (stepS t s x) v := by
      unfold stepS
      rw [if_neg (by omega), if_neg hx1, if_neg (by omega), if_neg hx1, play_u2]
    have hm1 : morS t (stepS t s x) = 0 := by
      unfold stepS
      rw [if_neg (by omega), if_neg hx1]
      exact mor_play he h1
    have hm2 : morS t (upd2 (stepS t s x) v) = 0 := by
      rw [← hst]
      unfold stepS
      rw [if_neg (by omega), if_neg hx1]
      exact mor_play he h2
    rw [hst] at q4 w2
    obtain ⟨a1, a2, a3⟩ := dom_t r k (stepS t s x) v hm1 hm2 q4 w2
    refine ⟨⟨q1, q2, hcan, a1⟩, ?_, ?_⟩
    · rw [krow, a2, Bool.and_true]
      unfold WC
      simp [hx1]
    · rw [endS, endS, hst, a3]
theorem bow_u2 {t s : Nat → Nat} {m n : Nat} (hs : WS t s m n) (h : morS t s = 0) : bowS t s = upd2 s (s 2 + 1) := by
  funext j
  unfold bowS upd2
  by_cases h2 : j = 2
  · rw [if_pos h2, if_pos h2]
  · rw [if_neg h2, if_neg h2]
    by_cases h6 : 6 ≤ j ∧ j < 6 + t 0
    · rw [if_pos h6, h, Nat.add_zero]
      have := hs.2.2.2.2 (j - 6) (by omega)
      rw [show 6 + (j - 6) = j by omega] at this
      split
      · split
        · rfl
        · omega
      · rfl
    · rw [if_neg h6]
theorem mor_bow {t s : Nat → Nat} (h : morS t s = 0) (v : Nat) (hv : s 2 ≤ v) : morS t (upd2 s v) = 0 := by
  unfold morS at *
  rw [knw_u2]
  have e : upd2 s v 2 = v := rfl
  rw [e]
  cases hk : knw t s with
  | true => simp
  | false =>
    rw [hk] at h
    simp at h ⊢
    omega
theorem dom {t : Nat → Nat} (ht : WT t) : ∀ (r : List Nat) (k : Nat) (s : Nat → Nat) (m n : Nat), WS t s m n → vrow t k s r → ∃ r', vrow t k s r' ∧ krow t k s r' = true ∧ endS t s r' 3 = endS t s r 3 ∧ endS t s r' 4 = endS t s r 4 ∧ r'.length ≤ r.length ∧ (krow t k s r = true ∨ r'.length < r.length)
  | [], k, s, m, n, _, _ => ⟨[], vrow_nil t k s, krow_nil t k s, rfl, rfl, Nat.le_refl _, Or.inl (krow_nil t k s)⟩
  | x :: r, 0, s, m, n, _, h => h.elim
  | x :: r, k + 1, s, m, n, hs, h => by
    obtain ⟨q1, q2, q3, q4⟩ := h
    obtain ⟨r1, a1, a2, a3, a4, a5, a6⟩ := dom ht r k (stepS t s x) _ _ (WS.step ht hs q3) q4
    cases hw : WC t (k + 1) s x with
    | true =>
      refine ⟨x :: r1, ⟨q1, q2, q3, a1⟩, ?_, a3, a4, ?_, ?_⟩
      · rw [krow, hw, a2]; rfl
      · simp only [List.length_cons]; omega
      · rcases a6 with a6 | a6
        · left; rw [krow, hw, a6]; rfl
        · right; simp only [List.length_cons]; omega
    | false =>
      have hx : x = 1 := by
        refine Classical.byContradiction fun q => ?_
        unfold WC at hw
        simp [q] at hw
      subst hx
      have hst : stepS t s 1 = bowS t s := rfl
      cases k with
      | zero =>
        cases r with
        | nil =>
          refine ⟨[], trivial, rfl, ?_, ?_, by simp, Or.inr (by simp)⟩
          · show s 3 = stepS t s 1 3; rfl
          · show s 4 = stepS t s 1 4; rfl
        | cons y r => exact q4.elim
      | succ k =>
        have hm : morS t s = 0 := by
          unfold WC at hw
          simp at hw
          omega
        have hb := bow_u2 hs hm
        rw [hst, hb] at a1 a2 a3 a4
        obtain ⟨b1, b2, b3⟩ := dom_t r1 (k + 1) s (s 2 + 1) hm (mor_bow hm _ (by omega)) a1 a2
        refine ⟨r1, b1, b2, ?_, ?_, ?_, Or.inr ?_⟩
        · rw [endS, hst, hb, ← a3, b3]; rfl
        · rw [endS, hst, hb, ← a4, b3]; rfl
        · simp only [List.length_cons]; omega
        · simp only [List.length_cons]; omega
theorem gn_0 (s : Nat → Nat) : gn s s = 0 := by
  unfold gn
  rw [Int32.sub_self, Int32.sub_self]; rfl
theorem best_same {t s : Nat → Nat} {m n : Nat} (ht : WT t) (hs : WS t s m n) : (rwM t s 6 s []).foldl up (0, []) = (rwC t s 6 s []).foldl up (0, []) := by
  have h1 := rwF_M t s 6 s [] true
  have h2 := rwF_C t s 6 s [] true
  rw [if_pos rfl] at h2
  rw [← h1, ← h2]
  refine fold_dom _ _ _ (Or.inl rfl) ?_
  intro z hz hz2
  obtain ⟨r, r1, r2, r3⟩ := (mem_rwF t s 6 s [] true z).mp hz
  obtain ⟨r', a1, a2, a3, a4, a5, a6⟩ := dom ht r 6 s m n hs r2
  have hkr : krow t 6 s r = false := by rw [r3] at hz2; simpa using hz2
  have hlt : r'.length < r.length := by
    rcases a6 with q | q
    · rw [q] at hkr; cases hkr
    · exact q
  have hg : gn s (endS t s r') = gn s (endS t s r) := by unfold gn; rw [a3, a4]
  by_cases hn : r' = []
  · right
    subst hn
    rw [r3]
    have : gn s (endS t s r) = 0 := by rw [← hg]; exact gn_0 s
    unfold kb
    right
    refine ⟨?_, ?_⟩
    · show (0 : Int32).toInt = (gn s (endS t s r)).toInt
      rw [this]
    · show ([] : List Nat).length < ([] ++ r).length
      simpa using hlt
  · left
    refine ⟨_, (mem_rwF t s 6 s [] true _).mpr ⟨r', hn, a1, rfl⟩, ?_, ?_⟩
    · simp [a2]
    · rw [r3]
      unfold kb
      right
      refine ⟨?_, ?_⟩
      · show (gn s (endS t s r')).toInt = (gn s (endS t s r)).toInt
        rw [hg]
      · simpa using hlt
