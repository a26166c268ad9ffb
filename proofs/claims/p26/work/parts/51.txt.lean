/-! The text: rows of letters; how the class reads words. -/
def advF (P : Nat → Bool) : Nat → Nat → Nat
  | 0, p => p
  | n + 1, p => if P p = true then advF P n (p + 1) else p
def adv (P : Nat → Bool) (l p : Nat) : Nat := advF P (l - p) p
theorem adv_end {P : Nat → Bool} {l p : Nat} (h : l ≤ p) : adv P l p = p := by unfold adv; rw [show l - p = 0 by omega]; rfl
theorem adv_no {P : Nat → Bool} {l p : Nat} (h : P p = false) : adv P l p = p := by
  unfold adv
  cases l - p with
  | zero => rfl
  | succ n => rw [advF, h]; rfl
theorem adv_yes {P : Nat → Bool} {l p : Nat} (hp : p < l) (h : P p = true) : adv P l p = adv P l (p + 1) := by
  unfold adv
  rw [show l - p = (l - (p + 1)) + 1 by omega, advF, if_pos h]
theorem adv_ge (P : Nat → Bool) (l : Nat) : ∀ (n p : Nat), l - p = n → p ≤ adv P l p
  | 0, p, h => by rw [adv_end (by omega)]; omega
  | n + 1, p, h => by
    cases hP : P p with
    | false => rw [adv_no hP]; omega
    | true =>
      rw [adv_yes (by omega) hP]
      have := adv_ge P l n (p + 1) (by omega)
      omega
theorem adv_ge' {P : Nat → Bool} {l p : Nat} : p ≤ adv P l p := adv_ge P l _ p rfl
theorem adv_le (P : Nat → Bool) (l : Nat) : ∀ (n p : Nat), l - p = n → p ≤ l → adv P l p ≤ l
  | 0, p, h, h2 => by rw [adv_end (by omega)]; exact h2
  | n + 1, p, h, h2 => by
    cases hP : P p with
    | false => rw [adv_no hP]; exact h2
    | true =>
      rw [adv_yes (by omega) hP]
      exact adv_le P l n (p + 1) (by omega) (by omega)
theorem adv_le' {P : Nat → Bool} {l p : Nat} (h : p ≤ l) : adv P l p ≤ l := adv_le P l _ p rfl h
theorem adv_in (P : Nat → Bool) (l : Nat) : ∀ (n p : Nat), l - p = n → ∀ i, p ≤ i → i < adv P l p → P i = true
  | 0, p, h => by rw [adv_end (by omega)]; intro i h1 h2; omega
  | n + 1, p, h => by
    intro i h1 h2
    cases hP : P p with
    | false => rw [adv_no hP] at h2; omega
    | true =>
      rw [adv_yes (by omega) hP] at h2
      by_cases q : i = p
      · subst q; exact hP
      · exact adv_in P l n (p + 1) (by omega) i (by omega) h2
theorem adv_in' {P : Nat → Bool} {l p i : Nat} (h1 : p ≤ i) (h2 : i < adv P l p) : P i = true := adv_in P l _ p rfl i h1 h2
theorem adv_stop (P : Nat → Bool) (l : Nat) : ∀ (n p : Nat), l - p = n → p ≤ l → adv P l p < l → P (adv P l p) = false
  | 0, p, h, h2 => by rw [adv_end (by omega)]; intro h3; omega
  | n + 1, p, h, h2 => by
    cases hP : P p with
    | false => rw [adv_no hP]; intro _; exact hP
    | true =>
      rw [adv_yes (by omega) hP]
      exact adv_stop P l n (p + 1) (by omega) (by omega)
theorem adv_stop' {P : Nat → Bool} {l p : Nat} (h : p ≤ l) (h2 : adv P l p < l) : P (adv P l p) = false := adv_stop P l _ p rfl h h2
def isB (w : Nat → Nat) (i : Nat) : Bool := decide (w i = 32)
def isR (w : Nat → Nat) (lo hi i : Nat) : Bool := decide (lo ≤ w i) && decide (w i ≤ hi)
abbrev sk (w : Nat → Nat) (l p : Nat) : Nat := adv (isB w) l p
abbrev le (w : Nat → Nat) (l p : Nat) : Nat := adv (isR w 97 122) l p
abbrev de (w : Nat → Nat) (l p : Nat) : Nat := adv (isR w 48 57) l p
/-- the class's text: its length, its letters -/
def tC (w : Nat → Nat) (l : Nat) (M : Mem) : Prop := M 9 1 = nI l ∧ l ≤ 160 ∧ (∀ i, i < l → M 18 i = nI (w i)) ∧ ∀ i, i < l → w i ≤ 255
theorem tC.of {w : Nat → Nat} {l : Nat} {M M' : Mem} (h : tC w l M) (e1 : M' 9 1 = M 9 1) (e : ∀ b, M' 18 b = M 18 b) : tC w l M' := ⟨by rw [e1]; exact h.1, h.2.1, fun i hi => by rw [e]; exact h.2.2.1 i hi, h.2.2.2⟩
theorem c_skip {N : Nat} (hN : 1000 ≤ N) {M : Mem} {w : Nat → Nat} {l p : Nat} (hT : tC w l M) (h6 : M 9 6 = nI p) (hp : p ≤ l) : Ok (f_X4_skipBlanks N M) (fun M' => M' 9 6 = nI (sk w l p) ∧ ∀ a b, ¬ (a = 9 ∧ b = 6) → M' a b = M a b) := by
  have hl := hT.2.1
  unfold f_X4_skipBlanks
  refine Ok.bind ?_ (fun a h => Ok.ret h)
  have main : ∀ (n f q : Nat) (M' : Mem), l - q = n → q ≤ l → n < f → M' 9 6 = nI q → (∀ a b, ¬ (a = 9 ∧ b = 6) → M' a b = M a b) → Ok (f_X4_skipBlanks_L0 N f M') (fun M'' => M'' 9 6 = nI (sk w l q) ∧ ∀ a b, ¬ (a = 9 ∧ b = 6) → M'' a b = M a b) := by
    intro n
    induction n with
    | zero =>
      intro f q M' h1 h2 h3 h4 h5
      obtain ⟨f, rfl⟩ : ∃ g, f = g + 1 := ⟨f - 1, by omega⟩
      rw [f_X4_skipBlanks_L0, h5 9 1 (by omega), hT.1, h4, if_pos (by rw [n_le (by omega) (by omega)]; omega)]
      exact Ok.ret ⟨by rw [h4]; unfold sk; rw [adv_end (by omega)], h5⟩
    | succ n ih =>
      intro f q M' h1 h2 h3 h4 h5
      obtain ⟨f, rfl⟩ : ∃ g, f = g + 1 := ⟨f - 1, by omega⟩
      have hq : q < l := by omega
      have hin : inb (nI q) 160 = true := by rw [inb_nI (by omega)]; simp; omega
      have hw := hT.2.2.2 q hq
      rw [f_X4_skipBlanks_L0, h5 9 1 (by omega), hT.1, h4, if_neg (by rw [n_le (by omega) (by omega)]; omega), if_pos hin, n_cl (by omega), h5 18 q (by omega), hT.2.2.1 q hq, nI_1]
      by_cases h32 : w q = 32
      · rw [if_pos (by show nI (w q) = nI 32; rw [h32])]
        have hP : isB w q = true := by unfold isB; simp [h32]
        have := ih f (q + 1) (up2 M' 9 6 (nI (q + 1))) (by omega) (by omega) (by omega) (up2_same _ _ _ _) (fun a b hab => by
          have : up2 M' 9 6 (nI (q + 1)) a b = M' a b := by unfold up2; rw [if_neg hab]
          rw [this]; exact h5 a b hab)
        unfold sk at this ⊢
        rw [adv_yes hq hP]
        exact this
      · rw [if_neg (by show ¬ nI (w q) = nI 32; rw [n_eq (by omega) (by omega)]; exact h32)]
        have hP : isB w q = false := by unfold isB; simp [h32]
        exact Ok.ret ⟨by rw [h4]; unfold sk; rw [adv_no hP], h5⟩
  exact main _ N p M rfl hp (by omega) h6 (fun _ _ _ => rfl)
theorem c_endOfRow {N : Nat} (hN : 1000 ≤ N) {M : Mem} {w : Nat → Nat} {l p lo hi : Nat} (hT : tC w l M) (h6 : M 9 6 = nI p) (hp : p ≤ l) (hlo : lo < 1000) (hhi : hi < 1000) : f_X4_endOfRow N M (nI lo) (nI hi) = some (nI (adv (isR w lo hi) l p)) := by
  have hl := hT.2.1
  unfold f_X4_endOfRow
  rw [h6]
  have main : ∀ (n f q : Nat), l - q = n → q ≤ l → n < f → f_X4_endOfRow_L5 N M (nI lo) (nI hi) f (nI q) = some (nI (adv (isR w lo hi) l q)) := by
    intro n
    induction n with
    | zero =>
      intro f q h1 h2 h3
      obtain ⟨f, rfl⟩ : ∃ g, f = g + 1 := ⟨f - 1, by omega⟩
      rw [f_X4_endOfRow_L5, hT.1, if_pos (by rw [n_le (by omega) (by omega)]; omega), adv_end (by omega)]
    | succ n ih =>
      intro f q h1 h2 h3
      obtain ⟨f, rfl⟩ : ∃ g, f = g + 1 := ⟨f - 1, by omega⟩
      have hq : q < l := by omega
      have hin : inb (nI q) 160 = true := by rw [inb_nI (by omega)]; simp; omega
      have hw := hT.2.2.2 q hq
      rw [f_X4_endOfRow_L5, hT.1, if_neg (by rw [n_le (by omega) (by omega)]; omega), if_pos hin, n_cl (by omega), hT.2.2.1 q hq, if_pos hin, nI_1]
      by_cases c1 : w q < lo
      · rw [if_pos (by rw [n_lt (by omega) (by omega)]; exact c1), adv_no (by unfold isR; simp; omega)]
      · rw [if_neg (by rw [n_lt (by omega) (by omega)]; exact c1)]
        by_cases c2 : hi < w q
        · rw [if_pos (by rw [n_lt (by omega) (by omega)]; exact c2), adv_no (by unfold isR; simp; omega)]
        · rw [if_neg (by rw [n_lt (by omega) (by omega)]; exact c2), ih f (q + 1) (by omega) (by omega) (by omega), adv_yes hq (by unfold isR; simp; omega)]
  rw [main _ N p rfl hp (by omega)]
  rfl
def wL : List (List Nat) := [[104, 97, 108, 108], [103, 117, 101, 115, 116], [102, 97, 110], [115, 108, 101, 101, 112, 101, 114], [115, 104, 111, 117, 116, 101, 114], [112, 108, 97, 105, 110], [113, 117, 105, 101, 116], [98, 114, 105, 108, 108, 105, 97, 110, 116], [107, 110, 111, 119, 110], [97, 114, 109], [99, 108, 111, 115, 101], [104, 105, 114, 101], [101, 109, 112, 116, 121]]
def wN (c : Nat) : Nat := (wL.getD c []).length
def wB (c i : Nat) : Nat := (wL.getD c []).getD i 0
def allN (P : Nat → Bool) : Nat → Bool
  | 0 => true
  | n + 1 => allN P n && P n
theorem allN_iff (P : Nat → Bool) : ∀ n, allN P n = true ↔ ∀ i, i < n → P i = true
  | 0 => by simp [allN]
  | n + 1 => by
    rw [allN, Bool.and_eq_true, allN_iff P n]
    constructor
    · rintro ⟨h1, h2⟩ i hi
      by_cases h : i = n
      · subst h; exact h2
      · exact h1 i (by omega)
    · intro h
      exact ⟨fun i hi => h i (by omega), h n (by omega)⟩
def isW (w : Nat → Nat) (a e c : Nat) : Bool := decide (e - a = wN c) && allN (fun i => decide (w (a + i) = wB c i)) (wN c)
theorem wN_ok : ∀ c, c < 13 → cN c = wN c ∧ 3 ≤ wN c ∧ wN c ≤ 9 := by decide +kernel
theorem j_charAt {N : Nat} {M : Mem} : ∀ c, c < 13 → ∀ i, i < wN c → f_J0_charAt_5068e N M c (nI i) = some (nI (wB c i)) := by
  simp only [f_J0_charAt_5068e, f_J0_isLatin1_aae02, f_J1_charAt_3b067, f_J0_checkIndex_df160, f_J3_checkIndex_8e157]
  decide +kernel
theorem wB_ok : ∀ c, c < 13 → ∀ i, i < wN c → 97 ≤ wB c i ∧ wB c i ≤ 122 := by decide +kernel
theorem j_length {N : Nat} {M : Mem} {c : Nat} (hc : c < 13) : f_J0_length_8abf5 N M c = some (nI (wN c)) := by
  have h := wN_ok c hc
  unfold f_J0_length_8abf5 f_J0_coder_7d493
  rw [h.1, if_neg (by decide)]
  simp only [Option.bind_some]
  show some (nI (wN c) >>> (nI 0 &&& nI 31)) = _
  rw [x_shr (by omega) (by omega)]
  simp
theorem c_isWord {N : Nat} (hN : 1000 ≤ N) {M : Mem} {w : Nat → Nat} {l a e c : Nat} (hT : tC w l M) (h6 : M 9 6 = nI a) (hae : a ≤ e) (hel : e ≤ l) (hc : c < 13) : f_X4_isWordUpTo N M c (nI e) = some (if isW w a e c = true then 1 else 0) := by
  have hl := hT.2.1
  have hw := wN_ok c hc
  unfold f_X4_isWordUpTo isW
  rw [j_length hc, h6, n_sub hae]
  simp only [Option.bind_some]
  by_cases h1 : e - a = wN c
  · rw [if_pos (by rw [h1])]
    have main : ∀ (n f i : Nat), wN c - i = n → i ≤ wN c → n < f → (∀ j, j < i → w (a + j) = wB c j) → bS (f_X4_isWordUpTo_L17 N M c f (nI i)) (fun o17 => some 1) = some (if allN (fun i => decide (w (a + i) = wB c i)) (wN c) = true then (1 : Int32) else 0) := by
      intro n
      induction n with
      | zero =>
        intro f i h2 h3 h4 h5
        obtain ⟨f, rfl⟩ : ∃ g, f = g + 1 := ⟨f - 1, by omega⟩
        rw [f_X4_isWordUpTo_L17, j_length hc]
        simp only [Option.bind_some]
        rw [if_pos (by rw [n_le (by omega) (by omega)]; omega), if_pos ((allN_iff _ _).mpr (fun j hj => by simp; exact h5 j (by omega)))]
        rfl
      | succ n ih =>
        intro f i h2 h3 h4 h5
        obtain ⟨f, rfl⟩ : ∃ g, f = g + 1 := ⟨f - 1, by omega⟩
        have hin : inb (nI (a + i)) 160 = true := by rw [inb_nI (by omega)]; simp; omega
        have hb := wB_ok c hc i (by omega)
        have hwl := hT.2.2.2 (a + i) (by omega)
        rw [f_X4_isWordUpTo_L17, j_length hc, j_charAt c hc i (by omega), h6, nI_add, n_cl (by omega), hT.2.2.1 (a + i) (by omega), nI_1]
        simp only [Option.bind_some]
        rw [if_neg (by rw [n_le (by omega) (by omega)]; omega), if_pos hin]
        by_cases h7 : w (a + i) = wB c i
        · rw [if_pos (by rw [h7])]
          refine ih f (i + 1) (by omega) (by omega) (by omega) (fun j hj => ?_)
          by_cases q : j = i
          · subst q; exact h7
          · exact h5 j (by omega)
        · rw [if_neg (by rw [n_eq (by omega) (by omega)]; omega), if_neg (fun q => by
            have := (allN_iff _ _).mp q i (by omega)
            simp at this
            exact h7 this)]
          rfl
    have := main _ N 0 rfl (by omega) (by omega) (fun j hj => by omega)
    rw [decide_eq_true h1, Bool.true_and]
    exact this
  · rw [if_neg (by rw [n_eq (by omega) (by omega)]; omega), decide_eq_false h1, Bool.false_and]
    rfl
theorem c_clause {N : Nat} (hN : 1000 ≤ N) {M : Mem} {w : Nat → Nat} {l a e : Nat} (hT : tC w l M) (h6 : M 9 6 = nI a) (hae : a ≤ e) (hel : e ≤ l) : f_X4_clauseUpTo N M (nI e) = some (fstU (isW w a e) 13) := by
  unfold f_X4_clauseUpTo
  have h := lpE (fun n i (_ : Unit) => f_X4_clauseUpTo_L2 N M (nI e) n i) 13 (fun j _ => fstU (isW w a e) j = none) (fun r => bS (some r) (fun _ => some none) = some (fstU (isW w a e) 13)) ?_ ?_ N 0 () (by omega) rfl (by omega)
  · obtain ⟨r, h1, h2⟩ := h
    have h1' : f_X4_clauseUpTo_L2 N M (nI e) N 0 = some r := h1
    rw [h1']
    exact h2
  · intro f j _ hj hI
    have hin : inb (nI j) 13 = true := by rw [inb_nI (by omega)]; simp; omega
    show (∃ a', _ ∧ f_X4_clauseUpTo_L2 N M (nI e) (f + 1) (nI j) = _) ∨ Ok (f_X4_clauseUpTo_L2 N M (nI e) (f + 1) (nI j)) _
    rw [f_X4_clauseUpTo_L2, if_neg (by show ¬ nI 13 ≤ nI j; rw [n_le (by omega) (by omega)]; omega), if_pos hin, n_cl (by omega), c_isWord hN hT h6 hae hel hj, nI_1, if_pos hin]
    simp only [Option.bind_some]
    cases hq : isW w a e j with
    | false =>
      left
      rw [if_pos (show (if false = true then (1 : Int32) else 0) = 0 from rfl)]
      exact ⟨(), by rw [fstU, hI, hq]; rfl, rfl⟩
    | true =>
      right
      rw [if_neg (show ¬ (if true = true then (1 : Int32) else 0) = 0 by decide)]
      refine Ok.ret ?_
      show some (some j) = _
      have : ∀ n, j < n → fstU (isW w a e) n = some j := by
        intro n
        induction n with
        | zero => intro h; omega
        | succ n ih =>
          intro h
          rw [fstU]
          by_cases q : j = n
          · subst q; rw [hI, hq]; rfl
          · rw [ih (by omega)]
      rw [this 13 hj]
  · intro f _ hI
    show Ok (f_X4_clauseUpTo_L2 N M (nI e) (f + 1) (nI 13)) _
    rw [f_X4_clauseUpTo_L2, if_pos (by show nI 13 ≤ nI 13; rw [n_le (by omega) (by omega)]; omega)]
    refine Ok.ret ?_
    show some none = _
    rw [hI]
