/-! How the model reads: tokens, words, numbers. -/
def tM (w : Nat → Nat) (l : Nat) (M : Mem) : Prop := M 70 1 = nI l ∧ l ≤ 160 ∧ (∀ i, i < l → M 71 i = nI (w i)) ∧ ∀ i, i < l → w i ≤ 255
theorem tM.of {w : Nat → Nat} {l : Nat} {M M' : Mem} (h : tM w l M) (e1 : M' 70 1 = M 70 1) (e : ∀ b, M' 71 b = M 71 b) : tM w l M' := ⟨by rw [e1]; exact h.1, h.2.1, fun i hi => by rw [e]; exact h.2.2.1 i hi, h.2.2.2⟩
theorem m_letterAt {N : Nat} {M : Mem} {w : Nat → Nat} {l k : Nat} (hX : tM w l M) (hk : k < 1000) : f_X7_letterAt N M (nI k) = some (if k < l then nI (w k) else -1) := by
  have hl := hX.2.1
  unfold f_X7_letterAt
  rw [hX.1]
  by_cases h : k < l
  · have hin : inb (nI k) 160 = true := by rw [inb_nI (by omega)]; simp; omega
    rw [if_neg (by rw [n_le (by omega) (by omega)]; omega), if_pos hin, n_cl (by omega), hX.2.2.1 k h, if_pos h]
  · rw [if_pos (by rw [n_le (by omega) (by omega)]; omega), if_neg h]
theorem m_isLetter {N : Nat} {M : Mem} {v : Nat} (hv : v < 1000) : f_X7_isLetter N M (nI v) = some (if 97 ≤ v ∧ v ≤ 122 then 1 else 0) := by
  unfold f_X7_isLetter f_X7_in
  by_cases h1 : v < 97
  · rw [if_pos (by show nI v < nI 97; rw [n_lt (by omega) (by omega)]; exact h1), if_neg (by omega)]; rfl
  · rw [if_neg (by show ¬ nI v < nI 97; rw [n_lt (by omega) (by omega)]; exact h1)]
    by_cases h2 : 122 < v
    · rw [if_pos (by show nI 122 < nI v; rw [n_lt (by omega) (by omega)]; exact h2), if_neg (by omega)]; rfl
    · rw [if_neg (by show ¬ nI 122 < nI v; rw [n_lt (by omega) (by omega)]; exact h2), if_pos (by omega)]; rfl
theorem m_isDigit {N : Nat} {M : Mem} {v : Nat} (hv : v < 1000) : f_X7_isDigit N M (nI v) = some (if 48 ≤ v ∧ v ≤ 57 then 1 else 0) := by
  unfold f_X7_isDigit f_X7_in
  by_cases h1 : v < 48
  · rw [if_pos (by show nI v < nI 48; rw [n_lt (by omega) (by omega)]; exact h1), if_neg (by omega)]; rfl
  · rw [if_neg (by show ¬ nI v < nI 48; rw [n_lt (by omega) (by omega)]; exact h1)]
    by_cases h2 : 57 < v
    · rw [if_pos (by show nI 57 < nI v; rw [n_lt (by omega) (by omega)]; exact h2), if_neg (by omega)]; rfl
    · rw [if_neg (by show ¬ nI 57 < nI v; rw [n_lt (by omega) (by omega)]; exact h2), if_pos (by omega)]; rfl
theorem m_isLetterN {N : Nat} {M : Mem} : f_X7_isLetter N M (-1) = some 0 := by unfold f_X7_isLetter f_X7_in; rfl
theorem m_isDigitN {N : Nat} {M : Mem} : f_X7_isDigit N M (-1) = some 0 := by unfold f_X7_isDigit f_X7_in; rfl
theorem m_skip {N : Nat} (hN : 1000 ≤ N) {M : Mem} {w : Nat → Nat} {l p : Nat} (hX : tM w l M) (h6 : M 70 13 = nI p) (hp : p ≤ l) : Ok (f_X7_token_L0 N N M) (fun M' => M' 70 13 = nI (sk w l p) ∧ ∀ a b, ¬ (a = 70 ∧ b = 13) → M' a b = M a b) := by
  have hl := hX.2.1
  have main : ∀ (n f q : Nat) (M' : Mem), l - q = n → q ≤ l → n < f → M' 70 13 = nI q → (∀ a b, ¬ (a = 70 ∧ b = 13) → M' a b = M a b) → Ok (f_X7_token_L0 N f M') (fun M'' => M'' 70 13 = nI (sk w l q) ∧ ∀ a b, ¬ (a = 70 ∧ b = 13) → M'' a b = M a b) := by
    intro n
    induction n with
    | zero =>
      intro f q M' h1 h2 h3 h4 h5
      obtain ⟨f, rfl⟩ : ∃ g, f = g + 1 := ⟨f - 1, by omega⟩
      have hX' : tM w l M' := hX.of (h5 _ _ (by omega)) (fun b => h5 _ _ (by omega))
      rw [f_X7_token_L0, h4, m_letterAt hX' (by omega), if_neg (by omega)]
      exact Ok.ret ⟨by rw [h4]; unfold sk; rw [adv_end (by omega)], h5⟩
    | succ n ih =>
      intro f q M' h1 h2 h3 h4 h5
      obtain ⟨f, rfl⟩ : ∃ g, f = g + 1 := ⟨f - 1, by omega⟩
      have hq : q < l := by omega
      have hX' : tM w l M' := hX.of (h5 _ _ (by omega)) (fun b => h5 _ _ (by omega))
      have hw := hX.2.2.2 q hq
      rw [f_X7_token_L0, h4, m_letterAt hX' (by omega), if_pos hq, nI_1]
      simp only [Option.bind_some]
      by_cases h32 : w q = 32
      · rw [if_pos (by show nI (w q) = nI 32; rw [h32])]
        have hP : isB w q = true := by unfold isB; simp [h32]
        have := ih f (q + 1) (up2 M' 70 13 (nI (q + 1))) (by omega) (by omega) (by omega) (up2_same _ _ _ _) (fun a b hab => by
          have : up2 M' 70 13 (nI (q + 1)) a b = M' a b := by unfold up2; rw [if_neg hab]
          rw [this]; exact h5 a b hab)
        unfold sk at this ⊢
        rw [adv_yes hq hP]
        exact this
      · rw [if_neg (by show ¬ nI (w q) = nI 32; rw [n_eq (by omega) (by omega)]; exact h32)]
        have hP : isB w q = false := by unfold isB; simp [h32]
        exact Ok.ret ⟨by rw [h4]; unfold sk; rw [adv_no hP], h5⟩
  exact main _ N p M rfl hp (by omega) h6 (fun _ _ _ => rfl)
theorem m_letters {N : Nat} (hN : 1000 ≤ N) {M : Mem} {w : Nat → Nat} {l p : Nat} (hX : tM w l M) (h11 : M 70 11 = nI 1) (h6 : M 70 13 = nI p) (hp : p ≤ l) : Ok (f_X7_token_L83 N N M) (fun M' => M' 70 13 = nI (le w l p) ∧ ∀ a b, ¬ (a = 70 ∧ b = 13) → M' a b = M a b) := by
  have hl := hX.2.1
  have main : ∀ (n f q : Nat) (M' : Mem), l - q = n → q ≤ l → n < f → M' 70 13 = nI q → (∀ a b, ¬ (a = 70 ∧ b = 13) → M' a b = M a b) → Ok (f_X7_token_L83 N f M') (fun M'' => M'' 70 13 = nI (le w l q) ∧ ∀ a b, ¬ (a = 70 ∧ b = 13) → M'' a b = M a b) := by
    intro n
    induction n with
    | zero =>
      intro f q M' h1 h2 h3 h4 h5
      obtain ⟨f, rfl⟩ : ∃ g, f = g + 1 := ⟨f - 1, by omega⟩
      have hX' : tM w l M' := hX.of (h5 _ _ (by omega)) (fun b => h5 _ _ (by omega))
      rw [f_X7_token_L83, h5 70 11 (by omega), h11, if_pos (show nI 1 = (1 : Int32) from rfl), h4, m_letterAt hX' (by omega), if_neg (by omega)]
      simp only [Option.bind_some, m_isLetterN, if_true]
      exact Ok.ret ⟨by rw [h4]; unfold le; rw [adv_end (by omega)], h5⟩
    | succ n ih =>
      intro f q M' h1 h2 h3 h4 h5
      obtain ⟨f, rfl⟩ : ∃ g, f = g + 1 := ⟨f - 1, by omega⟩
      have hq : q < l := by omega
      have hX' : tM w l M' := hX.of (h5 _ _ (by omega)) (fun b => h5 _ _ (by omega))
      have hw := hX.2.2.2 q hq
      rw [f_X7_token_L83, h5 70 11 (by omega), h11, if_pos (show nI 1 = (1 : Int32) from rfl), h4, m_letterAt hX' (by omega), if_pos hq, nI_1]
      simp only [Option.bind_some]
      rw [m_isLetter (by omega)]
      simp only [Option.bind_some]
      by_cases hlt : 97 ≤ w q ∧ w q ≤ 122
      · rw [if_pos hlt, if_neg (by decide)]
        have hP : isR w 97 122 q = true := by unfold isR; simp [hlt]
        have := ih f (q + 1) (up2 M' 70 13 (nI (q + 1))) (by omega) (by omega) (by omega) (up2_same _ _ _ _) (fun a b hab => by
          have : up2 M' 70 13 (nI (q + 1)) a b = M' a b := by unfold up2; rw [if_neg hab]
          rw [this]; exact h5 a b hab)
        unfold le at this ⊢
        rw [adv_yes hq hP]
        exact this
      · rw [if_neg hlt, if_pos rfl]
        have hP : isR w 97 122 q = false := by unfold isR; simp; omega
        exact Ok.ret ⟨by rw [h4]; unfold le; rw [adv_no hP], h5⟩
  exact main _ N p M rfl hp (by omega) h6 (fun _ _ _ => rfl)
def vD (w : Nat → Nat) (a j : Nat) : Nat := if j ≤ 2 then valN w a j else 100
theorem m_digits {N : Nat} (hN : 1000 ≤ N) {M : Mem} {w : Nat → Nat} {l a : Nat} (hX : tM w l M) (h11 : M 70 11 = nI 2) (h12 : M 70 12 = nI a) (h6 : M 70 13 = nI a) (h14 : M 70 14 = nI 0) (hp : a ≤ l) : Ok (f_X7_token_L118 N N M) (fun M' => M' 70 13 = nI (de w l a) ∧ M' 70 14 = nI (vD w a (de w l a - a)) ∧ ∀ x b, ¬ (x = 70 ∧ (b = 13 ∨ b = 14)) → M' x b = M x b) := by
  have hl := hX.2.1
  have main : ∀ (n f j : Nat) (M' : Mem), l - (a + j) = n → a + j ≤ l → n < f → de w l (a + j) = de w l a → M' 70 13 = nI (a + j) → M' 70 14 = nI (vD w a j) → (∀ x b, ¬ (x = 70 ∧ (b = 13 ∨ b = 14)) → M' x b = M x b) → Ok (f_X7_token_L118 N f M') (fun M'' => M'' 70 13 = nI (de w l a) ∧ M'' 70 14 = nI (vD w a (de w l a - a)) ∧ ∀ x b, ¬ (x = 70 ∧ (b = 13 ∨ b = 14)) → M'' x b = M x b) := by
    intro n
    induction n with
    | zero =>
      intro f j M' h1 h2 h3 hde h4 h4' h5
      obtain ⟨f, rfl⟩ : ∃ g, f = g + 1 := ⟨f - 1, by omega⟩
      have hX' : tM w l M' := hX.of (h5 _ _ (by omega)) (fun b => h5 _ _ (by omega))
      have he : de w l a = a + j := by rw [← hde]; unfold de; rw [adv_end (by omega)]
      rw [f_X7_token_L118, h5 70 11 (by omega), h11, if_pos (show nI 2 = (2 : Int32) from rfl), h4, m_letterAt hX' (by omega), if_neg (by omega)]
      simp only [Option.bind_some, m_isDigitN, if_true]
      exact Ok.ret ⟨by rw [h4, he], by rw [h4', he, Nat.add_sub_cancel_left], h5⟩
    | succ n ih =>
      intro f j M' h1 h2 h3 hde h4 h4' h5
      obtain ⟨f, rfl⟩ : ∃ g, f = g + 1 := ⟨f - 1, by omega⟩
      have hq : a + j < l := by omega
      have hX' : tM w l M' := hX.of (h5 _ _ (by omega)) (fun b => h5 _ _ (by omega))
      have hw := hX.2.2.2 (a + j) hq
      rw [f_X7_token_L118, h5 70 11 (by omega), h11, if_pos (show nI 2 = (2 : Int32) from rfl), h4, m_letterAt hX' (by omega), if_pos hq, h5 70 12 (by omega), h12]
      simp only [Option.bind_some]
      rw [m_isDigit (by omega)]
      simp only [Option.bind_some]
      by_cases hlt : 48 ≤ w (a + j) ∧ w (a + j) ≤ 57
      · rw [if_pos hlt, if_neg (by decide)]
        have hP : isR w 48 57 (a + j) = true := by unfold isR; simp [hlt]
        have hin : inb (nI (a + j)) 160 = true := by rw [inb_nI (by omega)]; simp; omega
        have hval : (if (2 : Int32) ≤ nI (a + j) - nI a then some 100 else if inb (nI (a + j)) 160 = true then some (((10 * (M' 70 14)) + (M' 71 (nI (a + j)).toNatClampNeg)) - 48) else none) = some (nI (vD w a (j + 1))) := by
          rw [n_sub (by omega), Nat.add_sub_cancel_left]
          by_cases h2j : 2 ≤ j
          · rw [if_pos (by show nI 2 ≤ nI j; rw [n_le (by omega) (by omega)]; exact h2j)]
            unfold vD
            rw [if_neg (by omega)]; rfl
          · rw [if_neg (by show ¬ nI 2 ≤ nI j; rw [n_le (by omega) (by omega)]; exact h2j), if_pos hin, n_cl (by omega), h4', hX'.2.2.1 _ hq]
            unfold vD
            rw [if_pos (by omega), if_pos (by omega), valN]
            show some (nI 10 * nI (valN w a j) + nI (w (a + j)) - nI 48) = _
            rw [pk_mul, nI_add, n_sub (by omega)]
            congr 2
            omega
        rw [hval]
        simp only [Option.bind_some]
        have g13 : up2 M' 70 14 (nI (vD w a (j + 1))) 70 13 = nI (a + j) := by rw [up2_j (by decide)]; exact h4
        rw [g13, nI_1]
        refine ih f (j + 1) _ (by omega) (by omega) (by omega) ?_ (up2_same _ _ _ _) ?_ (fun x b hab => ?_)
        · rw [← hde]; unfold de; rw [adv_yes hq hP]; rfl
        · rw [up2_j (by decide), up2_same]
        · have : up2 (up2 M' 70 14 (nI (vD w a (j + 1)))) 70 13 (nI (a + j + 1)) x b = M' x b := by unfold up2; rw [if_neg (by omega), if_neg (by omega)]
          rw [this]; exact h5 x b hab
      · rw [if_neg hlt, if_pos rfl]
        have hP : isR w 48 57 (a + j) = false := by unfold isR; simp; omega
        have he : de w l a = a + j := by rw [← hde]; unfold de; rw [adv_no hP]
        exact Ok.ret ⟨by rw [h4, he], by rw [h4', he, Nat.add_sub_cancel_left], h5⟩
  exact main _ N 0 M rfl hp (by omega) rfl h6 h14 (fun _ _ _ => rfl)
def srt (w : Nat → Nat) (l a : Nat) : Nat := if l ≤ a then 0 else if isR w 97 122 a = true then 1 else if isR w 48 57 a = true then 2 else 3
def atE (w : Nat → Nat) (l a : Nat) : Nat := if srt w l a = 1 then le w l a else if srt w l a = 2 then de w l a else if srt w l a = 3 then a + 1 else a
theorem srt_le (w : Nat → Nat) (l a : Nat) : srt w l a ≤ 3 := by unfold srt; split; omega; split; omega; split <;> omega
theorem m_token {N : Nat} (hN : 1000 ≤ N) {M : Mem} {w : Nat → Nat} {l p : Nat} (hX : tM w l M) (h6 : M 70 13 = nI p) (hp : p ≤ l) :
    Ok (f_X7_token N M) (fun M' => M' 70 11 = nI (srt w l (sk w l p)) ∧ M' 70 12 = nI (sk w l p) ∧ M' 70 13 = nI (atE w l (sk w l p)) ∧ M' 70 14 = nI (if srt w l (sk w l p) = 2 then vD w (sk w l p) (de w l (sk w l p) - sk w l p) else 0) ∧ ∀ a b, ¬ (a = 70 ∧ 11 ≤ b ∧ b ≤ 14) → M' a b = M a b) := by
  have hl := hX.2.1
  have hsl := sk_le (w := w) hp
  unfold f_X7_token
  refine Ok.bind (m_skip hN hX h6 hp) ?_
  rintro M1 ⟨g13, hF1⟩
  obtain ⟨a, ha⟩ : ∃ a, a = sk w l p := ⟨_, rfl⟩
  rw [← ha] at g13 hsl ⊢
  rw [g13, up2_j (show (13 : Nat) ≠ 12 by decide), g13]
  obtain ⟨M2, hM2⟩ : ∃ q, q = up2 M1 70 12 (nI a) := ⟨_, rfl⟩
  rw [← hM2]
  have hF2 : ∀ x b, ¬ (x = 70 ∧ b = 12) → M2 x b = M1 x b := fun x b q => by rw [hM2]; unfold up2; rw [if_neg q]
  have hX2 : tM w l M2 := hX.of (by rw [hF2 _ _ (by omega), hF1 _ _ (by omega)]) (fun b => by rw [hF2 _ _ (by omega), hF1 _ _ (by omega)])
  rw [m_letterAt hX2 (by omega)]
  simp only [Option.bind_some]
  have hsrt : (if 0 ≤ (if a < l then nI (w a) else (-1 : Int32)) then (f_X7_isLetter N M2 (if a < l then nI (w a) else -1)).bind fun q53 => (if q53 = 0 then (f_X7_isDigit N M2 (if a < l then nI (w a) else -1)).bind fun q64 => (if q64 = 0 then some (3 : Int32) else some 2) else some 1) else some 0) = some (nI (srt w l a)) := by
    unfold srt isR
    by_cases hal : a < l
    · have hw := hX.2.2.2 a hal
      rw [if_pos hal, if_pos (nI_pos' (by omega)), m_isLetter (by omega), m_isDigit (by omega), if_neg (show ¬ l ≤ a by omega)]
      simp only [Option.bind_some]
      by_cases c1 : 97 ≤ w a ∧ w a ≤ 122
      · rw [if_pos c1, if_neg (by decide)]
        simp [c1, i1]
      · rw [if_neg c1, if_pos rfl]
        have c1' : (decide (97 ≤ w a) && decide (w a ≤ 122)) = false := by simp; omega
        rw [c1', if_neg (show ¬ (false = true) by decide)]
        by_cases c2 : 48 ≤ w a ∧ w a ≤ 57
        · rw [if_pos c2, if_neg (by decide)]
          simp [c2, i2]
        · rw [if_neg c2, if_pos rfl]
          have c2' : (decide (48 ≤ w a) && decide (w a ≤ 57)) = false := by simp; omega
          rw [c2', if_neg (show ¬ (false = true) by decide)]; rfl
    · rw [if_neg hal, if_neg (by decide), if_pos (show l ≤ a by omega)]; rfl
  rw [hsrt]
  simp only [Option.bind_some]
  obtain ⟨M3, hM3⟩ : ∃ q, q = up2 (up2 M2 70 11 (nI (srt w l a))) 70 14 0 := ⟨_, rfl⟩
  rw [← hM3]
  have hF3 : ∀ x b, ¬ (x = 70 ∧ (b = 11 ∨ b = 14)) → M3 x b = M2 x b := fun x b q => by rw [hM3]; unfold up2; rw [if_neg (by omega), if_neg (by omega)]
  have hX3 : tM w l M3 := hX2.of (hF3 _ _ (by omega)) (fun b => hF3 _ _ (by omega))
  have g11 : M3 70 11 = nI (srt w l a) := by rw [hM3, up2_j (by decide), up2_same]
  have g14 : M3 70 14 = nI 0 := by rw [hM3, up2_same]; rfl
  have g12 : M3 70 12 = nI a := by rw [hF3 _ _ (by omega), hM2, up2_same]
  have g13' : M3 70 13 = nI a := by rw [hF3 _ _ (by omega), hF2 _ _ (by omega)]; exact g13
  have hfr : ∀ x b, ¬ (x = 70 ∧ 11 ≤ b ∧ b ≤ 14) → M3 x b = M x b := fun x b q => by rw [hF3 _ _ (by omega), hF2 _ _ (by omega), hF1 _ _ (by omega)]
  have h3 := srt_le w l a
  have n83 : ∀ M' f, M' 70 11 = nI (srt w l a) → srt w l a ≠ 1 → f_X7_token_L83 N (f + 1) M' = some M' := fun M' f q1 q2 => by
    rw [f_X7_token_L83, q1, if_neg (by show ¬ nI _ = nI 1; rw [n_eq (by omega) (by omega)]; exact q2)]
  have n118 : ∀ M' f, M' 70 11 = nI (srt w l a) → srt w l a ≠ 2 → f_X7_token_L118 N (f + 1) M' = some M' := fun M' f q1 q2 => by
    rw [f_X7_token_L118, q1, if_neg (by show ¬ nI _ = nI 2; rw [n_eq (by omega) (by omega)]; exact q2)]
  obtain ⟨f, hf⟩ : ∃ f, N = f + 1 := ⟨N - 1, by omega⟩
  have n83' : ∀ M', M' 70 11 = nI (srt w l a) → srt w l a ≠ 1 → f_X7_token_L83 N N M' = some M' := fun M' q1 q2 => by
    have := n83 M' f q1 q2
    rwa [← hf] at this
  have n118' : ∀ M', M' 70 11 = nI (srt w l a) → srt w l a ≠ 2 → f_X7_token_L118 N N M' = some M' := fun M' q1 q2 => by
    have := n118 M' f q1 q2
    rwa [← hf] at this
  by_cases s1 : srt w l a = 1
  · refine Ok.bind (m_letters hN hX3 (by rw [g11, s1]) g13' (by omega)) ?_
    rintro M4 ⟨k13, hF4⟩
    have k11 : M4 70 11 = nI (srt w l a) := by rw [hF4 _ _ (by omega)]; exact g11
    refine Ok.bindE (n118' M4 k11 (by omega)) ?_
    rw [k11, if_neg (by show ¬ nI _ = nI 3; rw [n_eq (by omega) (by omega)]; omega)]
    have hz : M4 70 13 + 0 = nI (le w l a) := by rw [k13]; simp
    rw [hz]
    refine Ok.ret ⟨?_, ?_, ?_, ?_, fun x b q => ?_⟩
    · rw [up2_j (by decide)]; exact k11
    · rw [up2_j (by decide), hF4 _ _ (by omega)]; exact g12
    · rw [up2_same]; unfold atE; rw [if_pos s1]
    · rw [up2_j (by decide), hF4 _ _ (by omega), if_neg (by omega)]; exact g14
    · have : up2 M4 70 13 (nI (le w l a)) x b = M4 x b := by unfold up2; rw [if_neg (by omega)]
      rw [this, hF4 _ _ (by omega), hfr x b q]
  · refine Ok.bindE (n83' M3 g11 s1) ?_
    by_cases s2 : srt w l a = 2
    · refine Ok.bind (m_digits hN hX3 (by rw [g11, s2]) g12 g13' g14 (by omega)) ?_
      rintro M4 ⟨k13, k14, hF4⟩
      have k11 : M4 70 11 = nI (srt w l a) := by rw [hF4 _ _ (by omega)]; exact g11
      rw [k11, if_neg (by show ¬ nI _ = nI 3; rw [n_eq (by omega) (by omega)]; omega)]
      have hz : M4 70 13 + 0 = nI (de w l a) := by rw [k13]; simp
      rw [hz]
      refine Ok.ret ⟨?_, ?_, ?_, ?_, fun x b q => ?_⟩
      · rw [up2_j (by decide)]; exact k11
      · rw [up2_j (by decide), hF4 _ _ (by omega)]; exact g12
      · rw [up2_same]; unfold atE; rw [if_neg s1, if_pos s2]
      · rw [up2_j (by decide), if_pos s2]; exact k14
      · have : up2 M4 70 13 (nI (de w l a)) x b = M4 x b := by unfold up2; rw [if_neg (by omega)]
        rw [this, hF4 _ _ (by omega), hfr x b q]
    · refine Ok.bindE (n118' M3 g11 s2) ?_
      rw [g11]
      by_cases s3 : srt w l a = 3
      · rw [if_pos (by rw [s3]; rfl), g13', nI_1]
        refine Ok.ret ⟨?_, ?_, ?_, ?_, fun x b q => ?_⟩
        · rw [up2_j (by decide)]; exact g11
        · rw [up2_j (by decide)]; exact g12
        · rw [up2_same]; unfold atE; rw [if_neg s1, if_neg s2, if_pos s3]
        · rw [up2_j (by decide), if_neg s2]; exact g14
        · have : up2 M3 70 13 (nI (a + 1)) x b = M3 x b := by unfold up2; rw [if_neg (by omega)]
          rw [this, hfr x b q]
      · rw [if_neg (by show ¬ nI _ = nI 3; rw [n_eq (by omega) (by omega)]; exact s3)]
        have hz : M3 70 13 + 0 = nI a := by rw [g13']; simp
        rw [hz]
        refine Ok.ret ⟨?_, ?_, ?_, ?_, fun x b q => ?_⟩
        · rw [up2_j (by decide)]; exact g11
        · rw [up2_j (by decide)]; exact g12
        · rw [up2_same]; unfold atE; rw [if_neg s1, if_neg s2, if_neg s3]
        · rw [up2_j (by decide), if_neg s2]; exact g14
        · have : up2 M3 70 13 (nI a) x b = M3 x b := by unfold up2; rw [if_neg (by omega)]
          rw [this, hfr x b q]
