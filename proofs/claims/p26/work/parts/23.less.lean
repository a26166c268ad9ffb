/-! What a wait takes, in the class's bits. -/
theorem and0 (a b : Nat) : a &&& b = 0 ↔ ∀ i, a.testBit i = true → b.testBit i = false := by
  constructor
  · intro h i hi
    have : (a &&& b).testBit i = false := by rw [h]; exact Nat.zero_testBit i
    rw [Nat.testBit_and, hi, Bool.true_and] at this
    exact this
  · intro h
    apply Nat.eq_of_testBit_eq
    intro i
    rw [Nat.testBit_and, Nat.zero_testBit]
    cases ha : a.testBit i with
    | false => rfl
    | true => rw [h i ha]; rfl
theorem ann0 {a b : Nat} (ha : a < 4294967296) : ann a b = 0 ↔ ∀ i, a.testBit i = true → b.testBit i = true := by
  constructor
  · intro h i hi
    have : (ann a b).testBit i = false := by rw [h]; exact Nat.zero_testBit i
    rw [tb_ann ha, hi, Bool.true_and] at this
    simpa using this
  · intro h
    apply Nat.eq_of_testBit_eq
    intro i
    rw [tb_ann ha, Nat.zero_testBit]
    cases hb : a.testBit i with
    | false => rfl
    | true => rw [h i hb]; rfl
theorem ann_lt {a b n : Nat} (ha : a < 2 ^ n) : ann a b < 2 ^ n := Nat.lt_of_le_of_lt Nat.and_le_left ha
def bes (n c : Nat) : Nat := ((2 ^ c / 2 ^ 1) ||| (2 ^ c * 2 ^ 1)) &&& (2 ^ n - 1)
theorem bes_lt {n c : Nat} (hn : n ≤ 8) : bes n c < 256 := by
  refine Nat.lt_of_le_of_lt Nat.and_le_right ?_
  have : 2 ^ n ≤ 2 ^ 8 := Nat.pow_le_pow_right (by decide) hn
  have := Nat.two_pow_pos n
  omega
theorem tb_bes : ∀ n, n < 9 → ∀ c, c < 8 → ∀ i, i < 8 → (bes n c).testBit i = ((decide (i + 1 = c) || decide (i = c + 1)) && decide (i < n)) := by decide +kernel
theorem tb_besA {n c i : Nat} (hn : n ≤ 8) (hc : c < 8) : (bes n c).testBit i = ((decide (i + 1 = c) || decide (i = c + 1)) && decide (i < n)) := by
  by_cases h : i < 8
  · exact tb_bes n (by omega) c hc i h
  · rw [Nat.testBit_lt_two_pow (Nat.lt_of_lt_of_le (bes_lt hn) (Nat.pow_le_pow_right (n := 2) (by decide) (show 8 ≤ i by omega)))]
    have : ¬ i < n := by omega
    simp [this]
theorem bes0 : ∀ n, n < 9 → ∀ c, c < n → (bes n c = 0 ↔ ¬ (0 < c ∨ c + 1 < n)) := by decide +kernel
theorem bes_fan {t s : Nat → Nat} {c : Nat} (ht : WT t) (hc : c < t 0) : bes (t 0) c &&& clB t s = 0 ↔ fanB t s c = false := by
  have h0 := ht.1
  rw [and0]
  unfold fanB
  constructor
  · intro h
    rw [Bool.or_eq_false_iff]
    constructor
    · by_cases hc0 : 0 < c
      · have := h (c - 1) (by rw [tb_besA h0 (by omega)]; have h1 : c - 1 + 1 = c := (by omega); have h2 : c - 1 < t 0 := (by omega); simp [h1, h2])
        rw [tb_cl] at this
        simp [this]
      · simp [hc0]
    · by_cases h1 : c + 1 < t 0
      · have := h (c + 1) (by rw [tb_besA h0 (by omega)]; simp [h1])
        rwa [tb_cl] at this
      · simp [clp, isT, h1]
  · intro h i hi
    rw [tb_besA h0 (by omega)] at hi
    rw [tb_cl]
    rw [Bool.or_eq_false_iff] at h
    simp only [Bool.and_eq_true, Bool.or_eq_true, decide_eq_true_iff] at hi
    rcases hi with ⟨h1 | h1, h2⟩
    · have h3 : 0 < c := by omega
      have h4 : c - 1 = i := by omega
      simpa [h3, h4] using h.1
    · subst h1; exact h.2
theorem bes_gst {t s : Nat → Nat} {c : Nat} (ht : WT t) (hc : c < t 0) : (¬ bes (t 0) c = 0 ∧ ann (bes (t 0) c) (clB t s) = 0) ↔ gstB t s c = true := by
  have h0 := ht.1
  rw [ann0 (by have := bes_lt (c := c) h0; omega), bes0 (t 0) (by omega) c hc]
  unfold gstB
  rw [Bool.and_eq_true, Bool.and_eq_true]
  constructor
  · rintro ⟨h1, h2⟩
    refine ⟨?_, ?_, ?_⟩
    · simpa using Classical.not_not.mp h1
    · by_cases hc0 : 0 < c
      · have := h2 (c - 1) (by rw [tb_besA h0 (by omega)]; have h1 : c - 1 + 1 = c := (by omega); have h2 : c - 1 < t 0 := (by omega); simp [h1, h2])
        rw [tb_cl] at this
        simp [this]
      · simp [hc0]
    · by_cases h1 : c + 1 < t 0
      · have := h2 (c + 1) (by rw [tb_besA h0 (by omega)]; simp [h1])
        rw [tb_cl] at this
        simp [this]
      · simp [h1]
  · rintro ⟨h1, h2, h3⟩
    refine ⟨fun q => q (by simpa using h1), fun i hi => ?_⟩
    rw [tb_besA h0 (by omega)] at hi
    rw [tb_cl]
    simp only [Bool.and_eq_true, Bool.or_eq_true, decide_eq_true_iff] at hi
    rcases hi with ⟨h4 | h4, h5⟩
    · have h6 : 0 < c := by omega
      have h7 : c - 1 = i := by omega
      simpa [h6, h7] using h2
    · subst h4; simpa [h5] using h3
theorem c_beside {N : Nat} {M : Mem} {t : Nat → Nat} {k c : Nat} (ht : WT t) (hT : TC t M 1) (hc : c < t 0) : f_X1_whoIsBeside N M k (nI c) = some (nI (bes (t 0) c)) := by
  have h0 := ht.1
  have g0 := hT.1
  unfold f_X1_whoIsBeside
  have hp : 2 ^ c < 256 := Nat.pow_lt_pow_right (n := 8) (by decide) (by omega)
  have hq : 2 ^ t 0 ≤ 256 := Nat.pow_le_pow_right (n := 2) (j := 8) (by decide) (by omega)
  have hr : 1 ≤ 2 ^ t 0 := Nat.two_pow_pos _
  simp (disch := omega) only [g0, i1, i31, x_pow, x_shr, x_shl, x_or, n_sub]
  rw [x_and, Nat.one_mul, Nat.one_mul]
  rfl
theorem c_lessByWait {N : Nat} {M : Mem} {t s : Nat → Nat} {k c m n : Nat} (ht : WT t) (hs : WS t s m n) (hT : TC t M 1) (h8 : M k 8 = nI (if knw t s = true then 1 else 0)) (hc : c < t 0) (hz : M (k + 1) c = nI (s (6 + c))) : f_X1_lessByWait N M k (nI c) (nI (clB t s)) = some (nI (los t s c)) := by
  have h0 := ht.1
  have hcl := clB_lt (s := s) ht
  have hbl := bes_lt (n := t 0) (c := c) h0
  have hk := (ht.2.2.2.2.2.1 c hc).1
  have h40 := hs.2.2.2.2 c hc
  have gk : M 2 c = nI (t (5 + c)) := hT.2.2.2.2.2.1 c hc
  have hal := ann_lt (a := bes (t 0) c) (b := clB t s) (n := 8) hbl
  have hbn : bes (t 0) c &&& clB t s < 256 := Nat.lt_of_le_of_lt Nat.and_le_left hbl
  have hkn : (if knw t s = true then 1 else 0) < 2 := by split <;> omega
  unfold f_X1_lessByWait
  rw [c_beside ht hT hc]
  simp (disch := omega) only [im1, i0, i1, i2, i3, i8, i31, bt0, tb_cl, Option.bind_some, inb_nI, n_cl, gk, hz, h8, x_ann, n_lt]
  simp (disch := omega) only [x_and, n_eq]
  unfold los
  have hc8 : c < 8 := by omega
  cases hcp : clp t s c with
  | false => simp
  | true =>
    rw [if_neg (by decide), if_pos (by simpa using hc8), if_pos rfl]
    have hf := bes_fan (s := s) ht hc
    have hg := bes_gst (s := s) ht hc
    by_cases k1 : t (5 + c) = 1
    · simp only [k1, if_pos]
      cases hb : fanB t s c with
      | false => rw [if_pos (hf.mpr hb)]; rfl
      | true => rw [if_neg (fun q => by rw [hf.mp q] at hb; cases hb)]; rfl
    · rw [if_neg k1, if_neg k1]
      by_cases k2 : t (5 + c) = 2
      · simp only [k2, if_pos, hc8, decide_true]
        split <;> rfl
      · rw [if_neg k2, if_neg k2]
        by_cases k3 : t (5 + c) = 3
        · simp only [k3, if_pos]
          cases knw t s <;> rfl
        · rw [if_neg k3, if_neg k3]
          by_cases hb0 : bes (t 0) c = 0
          · have hgf : gstB t s c = false := by
              cases hgb : gstB t s c with
              | false => rfl
              | true => exact absurd hb0 (hg.mpr hgb).1
            rw [if_pos hb0, hgf]; rfl
          · rw [if_neg hb0]
            by_cases ha0 : ann (bes (t 0) c) (clB t s) = 0
            · rw [if_pos ha0, hg.mp ⟨hb0, ha0⟩]; rfl
            · have hgf : gstB t s c = false := by
                cases hgb : gstB t s c with
                | false => rfl
                | true => exact absurd (hg.mpr hgb).2 ha0
              rw [if_neg ha0, hgf]; rfl
