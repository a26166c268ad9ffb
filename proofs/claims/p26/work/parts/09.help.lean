/-! Forgetting locals; answers that are clauses; shorter words. -/
def msk : List Bool → List (Option Value) → List (Option Value)
  | b :: bs, x :: xs => (if b = true then x else none) :: msk bs xs
  | _, _ => []
theorem msk_of : ∀ (bs : List Bool) (L : List (Option Value)) (j : Nat) (v : Value), (msk bs L)[j]? = some (some v) → L[j]? = some (some v)
  | [], L, j, v, h => by simp [msk] at h
  | b :: bs, [], j, v, h => by simp [msk] at h
  | b :: bs, x :: xs, 0, v, h => by
    simp only [msk, List.getElem?_cons_zero, Option.some.injEq] at h ⊢
    cases b
    · simp at h
    · simpa using h
  | b :: bs, x :: xs, j + 1, v, h => by
    simp only [msk, List.getElem?_cons_succ] at h ⊢
    exact msk_of bs xs j v h
theorem g_msk {X : Cx} {F : Fx} {pc : Nat} {L L' : List (Option Value)} {st : List Value} {M : Mem} (bs : List Bool) (hL : msk bs L = L') (kk : G X F pc L' st M) (hlen : Nat.beq L'.length L.length = true := by rfl) : G X F pc L st M := by
  intro H locs ls hP hS hl
  refine kk H locs ls hP hS ⟨?_, hl.2.1, fun q hq => hl.2.2 q ?_⟩
  · rw [hl.1]; exact (Nat.eq_of_beq_eq_true hlen).symm
  · obtain ⟨j, v, h1, h2⟩ := (lz_mem L' 0).mp hq
    rw [← hL] at h1
    exact (lz_mem L 0).mpr ⟨j, v, msk_of bs L j v h1, h2⟩
def clv (r : Option Nat) : Value := match r with
  | some i => .ref (1000 + i)
  | none => .null
theorem inb_nn {i : Int32} {n : Nat} (h : inb i n = true) : ¬ i < 0 := by
  unfold inb at h
  simp only [Bool.and_eq_true, decide_eq_true_eq] at h
  exact Int32.not_lt.mpr h.1
def cok (v : Int32) : Bool := decide (0 ≤ v) && decide (v ≤ 65535)
theorem cok_n {v : Int32} (h : cok v = true) : narrow .char (.int v) = .int v := by
  unfold cok at h
  simp only [Bool.and_eq_true, decide_eq_true_eq] at h
  obtain ⟨j, hj, rfl⟩ := nI_of2 (M := 65535) (n := 65535) rfl (Int32.not_lt.mpr h.1) h.2
  exact (pk_charN (by omega)).1
def mq {β : Type} (q : Option Nat) (a : Option β) (f : Nat → Option β) : Option β := match q with
  | none => a
  | some c => if c < 13 then f c else none
theorem mq_s {β : Type} {q : Option Nat} {a : Option β} {f : Nat → Option β} {y : β} (h : mq q a f = some y) : (q = none ∧ a = some y) ∨ ∃ c, q = some c ∧ c < 13 ∧ f c = some y := by
  cases q with
  | none => exact Or.inl ⟨rfl, h⟩
  | some c =>
    unfold mq at h
    by_cases hc : c < 13
    · exact Or.inr ⟨c, rfl, hc, by simpa [hc] using h⟩
    · simp [hc] at h
