/-! The relation of both memories to one plain state; copies. -/
abbrev Ab : Type := (Nat → Nat) × (Nat → Nat) × (Nat → Nat) × Nat × (Nat → Nat) × Nat × (Nat → Nat → Nat) × Nat × (Nat → Bool) × (Nat → Nat → Nat)
abbrev aT (A : Ab) : Nat → Nat := A.1
abbrev aS (A : Ab) : Nat → Nat := A.2.1
abbrev aW (A : Ab) : Nat → Nat := A.2.2.1
abbrev aL (A : Ab) : Nat := A.2.2.2.1
abbrev aR (A : Ab) : Nat → Nat := A.2.2.2.2.1
abbrev aM (A : Ab) : Nat := A.2.2.2.2.2.1
abbrev aH (A : Ab) : Nat → Nat → Nat := A.2.2.2.2.2.2.1
abbrev aZ (A : Ab) : Nat := A.2.2.2.2.2.2.2.1
abbrev aK (A : Ab) : Nat → Bool := A.2.2.2.2.2.2.2.2.1
abbrev aI (A : Ab) : Nat → Nat → Nat := A.2.2.2.2.2.2.2.2.2
/-- the cell of the i-th of z in the ring, whose next is nx -/
def rg (nx z i : Nat) : Nat := 45 + 2 * ((nx + 8 - z + i) % 8)
def RC (A : Ab) (nx : Nat) (M : Mem) : Prop := TC (aT A) M 1 ∧ EC (aT A) (aS A) M 21 ∧ (M 9 1 = nI (aL A) ∧ ∀ i, i < aL A → M 18 i = nI (aW A i)) ∧ (M 0 9 = nI (aM A) ∧ ∀ i, i < aM A → M 63 i = nI (aR A i)) ∧ (M 43 0 = nI (aZ A) ∧ M 43 1 = nI nx ∧ nx < 8 ∧ ∀ i, i < aZ A → EC (aT A) (aH A i) M (rg nx (aZ A) i)) ∧ (∀ k, k < 2 → M 62 k = nI (if aK A k = true then 1 else 0) ∧ (aK A k = true → EC (aT A) (aI A k) M (64 + 2 * k)))
def RM (A : Ab) (M : Mem) : Prop := MT (aT A) M ∧ MS (aS A) M ∧ (M 70 1 = nI (aL A) ∧ ∀ i, i < aL A → M 71 i = nI (aW A i)) ∧ (M 70 10 = nI (aM A) ∧ ∀ i, i < aM A → M 78 i = nI (aR A i)) ∧ (M 70 6 = nI (aZ A) ∧ ∀ i, i < aZ A → ∀ j, j < 14 → M 75 (14 * i + j) = nI (aH A i j)) ∧ (∀ k, k < 2 → M 77 k = nI (if aK A k = true then 1 else 0) ∧ (aK A k = true → ∀ j, j < 14 → M 76 (14 * k + j) = nI (aI A k j)))
/-- bounds; n: how many bows there can have been -/
def RB (n : Nat) (A : Ab) : Prop := WT (aT A) ∧ WS (aT A) (aS A) 999 n ∧ aL A ≤ 160 ∧ (∀ i, i < aL A → aW A i ≤ 255) ∧ aM A ≤ 12 ∧ (∀ i, i < aM A → aR A i ≤ 5 ∧ isStep (aT A) (aR A i) = true) ∧ aZ A ≤ 8 ∧ (∀ i, i < aZ A → WS (aT A) (aH A i) 999 n) ∧ (∀ k, k < 2 → aK A k = true → WS (aT A) (aI A k) 999 n)
def supC (a b : Nat) : Prop := (a = 0 ∧ b = 9) ∨ (1 ≤ a ∧ a ≤ 8) ∨ (a = 9 ∧ b = 1) ∨ a = 18 ∨ a = 21 ∨ a = 22 ∨ (43 ≤ a ∧ a < 68)
def supM (a b : Nat) : Prop := (a = 70 ∧ (b = 1 ∨ b = 6 ∨ b = 10)) ∨ a = 71 ∨ a = 72 ∨ (74 ≤ a ∧ a ≤ 78)
theorem rg_b {nx z i : Nat} : 45 ≤ rg nx z i ∧ rg nx z i ≤ 59 := by unfold rg; omega
theorem RC.of {A : Ab} {nx : Nat} {M M' : Mem} (h : RC A nx M) (e : ∀ a b, supC a b → M' a b = M a b) : RC A nx M' := by
  obtain ⟨h1, h2, ⟨h3, h3'⟩, ⟨h4, h4'⟩, ⟨h5, h6, h7, h8⟩, h9⟩ := h
  refine ⟨h1.of (fun a b q1 q2 => e a b (by unfold supC; omega)), h2.of (fun a b q1 q2 => e a b (by unfold supC; omega)), ⟨by rw [e _ _ (by unfold supC; omega)]; exact h3, fun i hi => by rw [e _ _ (by unfold supC; omega)]; exact h3' i hi⟩, ⟨by rw [e _ _ (by unfold supC; omega)]; exact h4, fun i hi => by rw [e _ _ (by unfold supC; omega)]; exact h4' i hi⟩, ⟨by rw [e _ _ (by unfold supC; omega)]; exact h5, by rw [e _ _ (by unfold supC; omega)]; exact h6, h7, fun i hi => (h8 i hi).of (fun a b q1 q2 => e a b (by have := rg_b (nx := nx) (z := aZ A) (i := i); unfold supC; omega))⟩, fun k hk => ⟨by rw [e _ _ (by unfold supC; omega)]; exact (h9 k hk).1, fun q => ((h9 k hk).2 q).of (fun a b q1 q2 => e a b (by unfold supC; omega))⟩⟩
theorem RM.of {A : Ab} {M M' : Mem} (h : RM A M) (e : ∀ a b, supM a b → M' a b = M a b) : RM A M' := by
  obtain ⟨h1, h2, ⟨h3, h3'⟩, ⟨h4, h4'⟩, ⟨h5, h6⟩, h9⟩ := h
  refine ⟨h1.of (fun b => e _ b (by unfold supM; omega)), h2.of (fun b => e _ b (by unfold supM; omega)), ⟨by rw [e _ _ (by unfold supM; omega)]; exact h3, fun i hi => by rw [e _ _ (by unfold supM; omega)]; exact h3' i hi⟩, ⟨by rw [e _ _ (by unfold supM; omega)]; exact h4, fun i hi => by rw [e _ _ (by unfold supM; omega)]; exact h4' i hi⟩, ⟨by rw [e _ _ (by unfold supM; omega)]; exact h5, fun i hi j hj => by rw [e _ _ (by unfold supM; omega)]; exact h6 i hi j hj⟩, fun k hk => ⟨by rw [e _ _ (by unfold supM; omega)]; exact (h9 k hk).1, fun q j hj => by rw [e _ _ (by unfold supM; omega)]; exact (h9 k hk).2 q j hj⟩⟩
/-- one slot brought over -/
def sw (k k1 j : Nat) (m : Mem) : Mem := up2 m k j (m k1 j)
theorem sw_at {k k1 j : Nat} {m : Mem} : sw k k1 j m k j = m k1 j := by unfold sw; exact up2_same _ _ _ _
theorem sw_j {k k1 j a b : Nat} {m : Mem} (h : b ≠ j) : sw k k1 j m a b = m a b := by unfold sw; exact up2_j h
theorem sw_k {k k1 j a b : Nat} {m : Mem} (h : a ≠ k) : sw k k1 j m a b = m a b := by unfold sw; exact up2_k h
theorem cpE_eq (N : Nat) (M : Mem) (k k1 : Nat) : f_X1_copyFrom N M k k1 = if zok ((sw k k1 7 (sw k k1 6 (sw k k1 5 (sw k k1 4 (sw k k1 3 (sw k k1 2 (sw k k1 1 (cp2 M (k1 + 1) (k + 1) 8)))))))) k1 8) = true then some (sw k k1 8 (sw k k1 7 (sw k k1 6 (sw k k1 5 (sw k k1 4 (sw k k1 3 (sw k k1 2 (sw k k1 1 (cp2 M (k1 + 1) (k + 1) 8))))))))) else none := rfl
theorem cp2_in {M : Mem} {k0 k1 n b : Nat} (h : b < n) : cp2 M k0 k1 n k1 b = M k0 b := by unfold cp2; rw [if_pos ⟨rfl, h⟩]
theorem cp2_k {M : Mem} {k0 k1 n a b : Nat} (h : a ≠ k1) : cp2 M k0 k1 n a b = M a b := by unfold cp2; rw [if_neg (fun q => h q.1)]
theorem c_copy {N : Nat} {M : Mem} {t s : Nat → Nat} {k k1 : Nat} (ht : WT t) (hE : EC t s M k1) (hk : k1 + 2 ≤ k ∨ k + 2 ≤ k1) : Ok (f_X1_copyFrom N M k k1) (fun M' => EC t s M' k ∧ ∀ a b, a ≠ k → a ≠ k + 1 → M' a b = M a b) := by
  obtain ⟨e1, e2, e3, e4, e5, e6, e7, e8, e9⟩ := hE
  have h0 := ht.1
  have n1 : k1 ≠ k := by omega
  have n2 : k1 ≠ k + 1 := by omega
  have n3 : k1 + 1 ≠ k := by omega
  have n4 : k + 1 ≠ k := by omega
  rw [cpE_eq]
  have hz : zok (sw k k1 7 (sw k k1 6 (sw k k1 5 (sw k k1 4 (sw k k1 3 (sw k k1 2 (sw k k1 1 (cp2 M (k1 + 1) (k + 1) 8))))))) k1 8) = true := by
    rw [sw_k n1, sw_k n1, sw_k n1, sw_k n1, sw_k n1, sw_k n1, sw_k n1, cp2_k n2, e8]
    cases knw t s <;> rfl
  rw [if_pos hz]
  refine Ok.ret ⟨EC.mk ?_ ⟨?_, ?_, ?_, ?_, ?_, ?_, ?_, ?_⟩, ?_⟩
  · rw [sw_j (by decide), sw_j (by decide), sw_j (by decide), sw_j (by decide), sw_j (by decide), sw_j (by decide), sw_j (by decide), sw_at, cp2_k n2, e1]
  · rw [sw_j (by decide), sw_j (by decide), sw_j (by decide), sw_j (by decide), sw_j (by decide), sw_j (by decide), sw_at, sw_k n1, cp2_k n2, e2]
  · rw [sw_j (by decide), sw_j (by decide), sw_j (by decide), sw_j (by decide), sw_j (by decide), sw_at, sw_k n1, sw_k n1, cp2_k n2, e3]
  · rw [sw_j (by decide), sw_j (by decide), sw_j (by decide), sw_j (by decide), sw_at, sw_k n1, sw_k n1, sw_k n1, cp2_k n2, e4]
  · rw [sw_j (by decide), sw_j (by decide), sw_j (by decide), sw_at, sw_k n1, sw_k n1, sw_k n1, sw_k n1, cp2_k n2, e5]
  · rw [sw_j (by decide), sw_j (by decide), sw_at, sw_k n1, sw_k n1, sw_k n1, sw_k n1, sw_k n1, cp2_k n2, e6]
  · rw [sw_j (by decide), sw_at, sw_k n1, sw_k n1, sw_k n1, sw_k n1, sw_k n1, sw_k n1, cp2_k n2, e7]
  · rw [sw_at, sw_k n1, sw_k n1, sw_k n1, sw_k n1, sw_k n1, sw_k n1, sw_k n1, cp2_k n2, e8]
  · intro c hc
    rw [sw_k n4, sw_k n4, sw_k n4, sw_k n4, sw_k n4, sw_k n4, sw_k n4, sw_k n4, cp2_in (by omega), e9 c hc]
  · intro a b ha hb
    rw [sw_k ha, sw_k ha, sw_k ha, sw_k ha, sw_k ha, sw_k ha, sw_k ha, sw_k ha, cp2_k hb]
theorem d_copy {N : Nat} {M : Mem} {t : Nat → Nat} {k k1 : Nat} (ht : WT t) (hT : TC t M k1) (hk : k1 + 8 ≤ k ∨ k + 8 ≤ k1) : Ok (f_X5_copyFrom N M k k1) (fun M' => TC t M' k ∧ ∀ a b, (a < k ∨ k + 7 < a) → M' a b = M a b) := by
  obtain ⟨h1, h2, h3, h4, h5, h6, h7, h8, h9, h10, h11, h12⟩ := hT
  have h80 := ht.1
  have h41 := ht.2.1
  have e : f_X5_copyFrom N M k k1 = some (sw k k1 11 (sw k k1 10 (sw k k1 9 (sw k k1 8 (sw k k1 7 (cp2 (cp2 (cp2 (cp2 (cp2 (cp2 (cp2 M (k1 + 1) (k + 1) 8) (k1 + 2) (k + 2) 8) (k1 + 3) (k + 3) 8) (k1 + 4) (k + 4) 4) (k1 + 5) (k + 5) 4) (k1 + 6) (k + 6) 4) (k1 + 7) (k + 7) 4)))))) := rfl
  rw [e]
  refine Ok.ret ⟨⟨?_, ?_, ?_, ?_, ?_, ?_, ?_, ?_, ?_, ?_, ?_, ?_⟩, ?_⟩
  · simp (disch := omega) only [sw_j, sw_at, sw_k, cp2_k, cp2_in, h1]
  · simp (disch := omega) only [sw_j, sw_at, sw_k, cp2_k, cp2_in, h2]
  · simp (disch := omega) only [sw_j, sw_at, sw_k, cp2_k, cp2_in, h3]
  · simp (disch := omega) only [sw_j, sw_at, sw_k, cp2_k, cp2_in, h4]
  · simp (disch := omega) only [sw_j, sw_at, sw_k, cp2_k, cp2_in, h5]
  · intro c hc; simp (disch := omega) only [sw_j, sw_at, sw_k, cp2_k, cp2_in, h6]
  · intro c hc; simp (disch := omega) only [sw_j, sw_at, sw_k, cp2_k, cp2_in, h7]
  · intro c hc; simp (disch := omega) only [sw_j, sw_at, sw_k, cp2_k, cp2_in, h8]
  · intro c hc; simp (disch := omega) only [sw_j, sw_at, sw_k, cp2_k, cp2_in, h9]
  · intro c hc; simp (disch := omega) only [sw_j, sw_at, sw_k, cp2_k, cp2_in, h10]
  · intro c hc; simp (disch := omega) only [sw_j, sw_at, sw_k, cp2_k, cp2_in, h11]
  · intro c hc; simp (disch := omega) only [sw_j, sw_at, sw_k, cp2_k, cp2_in, h12]
  · intro a b hab
    simp (disch := omega) only [sw_k, cp2_k]
