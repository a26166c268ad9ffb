/-! The evening and what is told, as plain numbers in the model's places; how the class's cells show them. -/
def isT (t s : Nat → Nat) (c : Nat) : Bool := decide (c < t 0) && decide (s 0 < t (21 + c))
def clp (t s : Nat → Nat) (c : Nat) : Bool := isT t s c && decide (0 < s (6 + c))
def nois (t s : Nat → Nat) : Nat := sumN (fun c => if isT t s c = true then s (6 + c) else 0) (t 0)
def thB (t s : Nat → Nat) : Nat := orB (isT t s) (t 0)
def clB (t s : Nat → Nat) : Nat := orB (clp t s) (t 0)
def knw (t s : Nat → Nat) : Bool := anyN (fun e => decide (t (29 + e) = 3) && (s 5).testBit e) (t 1)
def fanB (t s : Nat → Nat) (c : Nat) : Bool := (decide (0 < c) && clp t s (c - 1)) || clp t s (c + 1)
def gstB (t s : Nat → Nat) (c : Nat) : Bool := (decide (0 < c) || decide (c + 1 < t 0)) && ((!decide (0 < c) || clp t s (c - 1)) && (!decide (c + 1 < t 0) || clp t s (c + 1)))
def los (t s : Nat → Nat) (c : Nat) : Nat := if clp t s c = true then (if t (5 + c) = 1 then (if fanB t s c = true then 0 else 1) else if t (5 + c) = 2 then (if s (6 + c) < 2 then s (6 + c) else 2) else if t (5 + c) = 3 then (if knw t s = true then 1 else 0) else (if gstB t s c = true then 0 else 1)) else 0
def minS (t s : Nat → Nat) : Nat → Nat := fun j => if j = 0 then s 0 + 1 else if j = 3 then s 3 + (if s 0 < t 3 then t 4 else 2 * t 4) else s j
def itr (f : (Nat → Nat) → Nat → Nat) : Nat → (Nat → Nat) → Nat → Nat
  | 0, s => s
  | n + 1, s => f (itr f n s)
def losS (t s : Nat → Nat) : Nat → Nat := fun j => if 6 ≤ j ∧ j < 6 + t 0 then s j - los t s (j - 6) else s j
def waitS (t s : Nat → Nat) : Nat → Nat := minS t (losS t s)
def morS (t s : Nat → Nat) : Nat := if knw t s = true then 0 else 4 - s 2
def bowS (t s : Nat → Nat) : Nat → Nat := fun j => if j = 2 then s 2 + 1 else if 6 ≤ j ∧ j < 6 + t 0 then (if clp t s (j - 6) = true then (if s j + morS t s < 40 then s j + morS t s else 40) else s j) else s j
def beh (k h c : Nat) : Nat := if k = 1 then h / 2 else if k = 2 then (if h + 5 < 40 then h + 5 else 40) else if k = 3 then (if c < 40 then c else 40) else (if h = 0 then h else (if h + 2 < 40 then h + 2 else 40))
def onesT (t s : Nat → Nat) : Nat := sumN (fun c => if isT t s c = true then 1 else 0) (t 0)
def play1 (t s : Nat → Nat) (e : Nat) : Nat → Nat := fun j => if j = 1 then s 1 - t (37 + e) else if j = 5 then s 5 ||| 2 ^ e else s j
def play2 (t s : Nat → Nat) (e : Nat) : Nat → Nat := fun j => if 6 ≤ j ∧ j < 6 + t 0 then (if isT t s (j - 6) = true then beh (t (29 + e)) (s j) (t (7 + j)) else s j) else s j
def play3 (t s : Nat → Nat) (e : Nat) : Nat → Nat := fun j => if j = 4 then s 4 + t (41 + e) * onesT t s else s j
def playS (t s : Nat → Nat) (e : Nat) : Nat → Nat := play3 t (play2 t (play1 t (itr (minS t) (t (33 + e)) s) e) e) e
def stepS (t s : Nat → Nat) (x : Nat) : Nat → Nat := if x = 0 then waitS t s else if x = 1 then bowS t s else playS t s (x - 2)
def rdy (t s : Nat → Nat) (e : Nat) : Bool := decide (e < t 1) && (!(s 5).testBit e && decide (t (37 + e) ≤ s 1))
def canS (t s : Nat → Nat) (x : Nat) : Bool := if x = 0 then true else if x = 1 then decide (0 < nois t s) else rdy t s (x - 2) && decide (0 < nois t s)
def WT (t : Nat → Nat) : Prop := t 0 ≤ 8 ∧ t 1 ≤ 4 ∧ t 2 ≤ 30 ∧ t 3 ≤ 99 ∧ t 4 ≤ 9 ∧ (∀ c, c < t 0 → t (5 + c) ≤ 3 ∧ t (13 + c) ≤ 20 ∧ 1 ≤ t (21 + c) ∧ t (21 + c) ≤ 99) ∧ (∀ e, e < t 1 → t (29 + e) ≤ 3 ∧ 1 ≤ t (33 + e) ∧ t (33 + e) ≤ 9 ∧ 1 ≤ t (37 + e) ∧ t (37 + e) ≤ 9 ∧ t (41 + e) ≤ 30)
/-- an evening whose minute is at most m, with at most n bows -/
def WS (t s : Nat → Nat) (m n : Nat) : Prop := s 0 ≤ m ∧ s 1 ≤ 30 ∧ s 2 ≤ n ∧ s 5 < 16 ∧ ∀ c, c < t 0 → s (6 + c) ≤ 40
def TC (t : Nat → Nat) (M : Mem) (k : Nat) : Prop := M k 7 = nI (t 0) ∧ M k 8 = nI (t 1) ∧ M k 9 = nI (t 2) ∧ M k 10 = nI (t 3) ∧ M k 11 = nI (t 4) ∧ (∀ c, c < t 0 → M (k + 1) c = nI (t (5 + c))) ∧ (∀ c, c < t 0 → M (k + 2) c = nI (t (13 + c))) ∧ (∀ c, c < t 0 → M (k + 3) c = nI (t (21 + c))) ∧ (∀ e, e < t 1 → M (k + 4) e = nI (t (29 + e))) ∧ (∀ e, e < t 1 → M (k + 5) e = nI (t (33 + e))) ∧ (∀ e, e < t 1 → M (k + 6) e = nI (t (37 + e))) ∧ (∀ e, e < t 1 → M (k + 7) e = nI (t (41 + e)))
def EC (t s : Nat → Nat) (M : Mem) (k : Nat) : Prop := M k 1 = nI (thB t s) ∧ M k 2 = nI (s 0) ∧ M k 3 = nI (s 1) ∧ M k 4 = nI (s 5) ∧ M k 5 = nI (s 2) ∧ M k 6 = nI (s 3) ∧ M k 7 = nI (s 4) ∧ M k 8 = nI (if knw t s = true then 1 else 0) ∧ ∀ c, c < t 0 → M (k + 1) c = nI (s (6 + c))
theorem TC.of {t : Nat → Nat} {M M' : Mem} {k : Nat} (h : TC t M k) (e : ∀ a b, k ≤ a → a ≤ k + 7 → M' a b = M a b) : TC t M' k := by
  obtain ⟨h1, h2, h3, h4, h5, h6, h7, h8, h9, h10, h11, h12⟩ := h
  refine ⟨?_, ?_, ?_, ?_, ?_, ?_, ?_, ?_, ?_, ?_, ?_, ?_⟩
  all_goals first | (rw [e _ _ (by omega) (by omega)]; assumption) | (intro c hc; rw [e _ _ (by omega) (by omega)]; solve_by_elim)
theorem EC.of {t s : Nat → Nat} {M M' : Mem} {k : Nat} (h : EC t s M k) (e : ∀ a b, k ≤ a → a ≤ k + 1 → M' a b = M a b) : EC t s M' k := by
  obtain ⟨h1, h2, h3, h4, h5, h6, h7, h8, h9⟩ := h
  refine ⟨?_, ?_, ?_, ?_, ?_, ?_, ?_, ?_, ?_⟩
  all_goals first | (rw [e _ _ (by omega) (by omega)]; assumption) | (intro c hc; rw [e _ _ (by omega) (by omega)]; exact h9 c hc)
/-- of two evenings that differ in nothing but.. : who is there hangs on the minute alone, what was known on what was played -/
theorem isT_congr {t s s' : Nat → Nat} (h : s' 0 = s 0) : isT t s' = isT t s := by funext c; unfold isT; rw [h]
theorem thB_congr {t s s' : Nat → Nat} (h : s' 0 = s 0) : thB t s' = thB t s := by unfold thB; rw [isT_congr h]
theorem knw_congr {t s s' : Nat → Nat} (h : s' 5 = s 5) : knw t s' = knw t s := by unfold knw; rw [h]
theorem onesT_congr {t s s' : Nat → Nat} (h : s' 0 = s 0) : onesT t s' = onesT t s := by unfold onesT; rw [isT_congr h]
theorem thB_lt {t s : Nat → Nat} (h : WT t) : thB t s < 256 := orB_lt8 _ h.1
theorem clB_lt {t s : Nat → Nat} (h : WT t) : clB t s < 256 := orB_lt8 _ h.1
theorem tb_th {t s : Nat → Nat} (c : Nat) : (thB t s).testBit c = isT t s c := by
  unfold thB
  rw [tb_orB]
  by_cases h : c < t 0
  · simp [h]
  · simp [h, isT]
theorem tb_cl {t s : Nat → Nat} (c : Nat) : (clB t s).testBit c = clp t s c := by
  unfold clB
  rw [tb_orB]
  by_cases h : c < t 0
  · simp [h]
  · simp [h, isT, clp]
theorem los_le {t s : Nat → Nat} {c : Nat} : los t s c ≤ s (6 + c) := by
  unfold los
  split
  · next h =>
    have : 0 < s (6 + c) := by
      unfold clp at h
      rw [Bool.and_eq_true, decide_eq_true_iff] at h
      exact h.2
    split
    · split <;> omega
    · split
      · split <;> omega
      · split
        · split <;> omega
        · split <;> omega
  · omega
theorem nois_le {t s : Nat → Nat} {m n : Nat} (h : WT t) (hs : WS t s m n) : nois t s ≤ 320 := by
  have : nois t s ≤ t 0 * 40 := sumN_le (fun i hi => by split; exact hs.2.2.2.2 i hi; omega)
  have := h.1
  have := Nat.mul_le_mul_right 40 this
  omega
theorem minS_0 (t s : Nat → Nat) : minS t s 0 = s 0 + 1 := rfl
theorem minS_3 (t s : Nat → Nat) : minS t s 3 = s 3 + (if s 0 < t 3 then t 4 else 2 * t 4) := rfl
theorem itr_s (f : (Nat → Nat) → Nat → Nat) (n : Nat) (s : Nat → Nat) : itr f (n + 1) s = f (itr f n s) := rfl
theorem itr_min0 (t : Nat → Nat) : ∀ (m : Nat) (s : Nat → Nat), itr (minS t) m s 0 = s 0 + m
  | 0, s => rfl
  | m + 1, s => by
    show minS t (itr (minS t) m s) 0 = _
    unfold minS
    rw [if_pos rfl]
    have := itr_min0 t m s
    unfold minS at this
    rw [this]; omega
theorem itr_minO (t : Nat → Nat) {j : Nat} (h0 : j ≠ 0) (h3 : j ≠ 3) : ∀ (m : Nat) (s : Nat → Nat), itr (minS t) m s j = s j
  | 0, s => rfl
  | m + 1, s => by
    show minS t (itr (minS t) m s) j = _
    have := itr_minO t h0 h3 m s
    unfold minS at this ⊢
    rw [if_neg h0, if_neg h3, this]
