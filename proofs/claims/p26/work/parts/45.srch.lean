/-! The search, as lists of rows: leaving out bows that add nothing leaves the best one as it is. -/
def up (b c : Int32 × List Nat) : Int32 × List Nat := if b.1 < c.1 ∨ (c.1 = b.1 ∧ c.2.length < b.2.length) then c else b
def kb (a b : Int32 × List Nat) : Prop := b.1.toInt < a.1.toInt ∨ (a.1.toInt = b.1.toInt ∧ a.2.length < b.2.length)
theorem up_t {b c : Int32 × List Nat} (h : kb c b) : up b c = c := by
  unfold up
  rw [if_pos]
  unfold kb at h
  rcases h with h | ⟨h, h2⟩
  · exact Or.inl (Int32.lt_iff_toInt_lt.mpr h)
  · exact Or.inr ⟨Int32.toInt_inj.mp h, h2⟩
theorem up_f {b c : Int32 × List Nat} (h : ¬ kb c b) : up b c = b := by
  unfold up
  rw [if_neg]
  intro q
  apply h
  unfold kb
  rcases q with q | ⟨q, q2⟩
  · exact Or.inl (Int32.lt_iff_toInt_lt.mp q)
  · exact Or.inr ⟨by rw [q], q2⟩
theorem kb_t {a b c : Int32 × List Nat} (h : kb a b) (h2 : kb b c) : kb a c := by unfold kb at *; omega
theorem kb_n {a b c : Int32 × List Nat} (h : kb a c) (h2 : ¬ kb b c) : kb a b := by unfold kb at *; omega
theorem kb_n2 {a b c : Int32 × List Nat} (h : kb a b) (h2 : ¬ kb a c) : kb c b := by unfold kb at *; omega
theorem kb_i {a : Int32 × List Nat} : ¬ kb a a := by unfold kb; omega
theorem fold_dom : ∀ (L : List ((Int32 × List Nat) × Bool)) (b b' : Int32 × List Nat), (b = b' ∨ ∃ y ∈ L, y.2 = true ∧ kb y.1 b ∧ kb y.1 b') → (∀ z ∈ L, z.2 = false → (∃ y ∈ L, y.2 = true ∧ kb y.1 z.1) ∨ kb b' z.1) → (L.map (fun z => z.1)).foldl up b = ((L.filter (fun z => z.2)).map (fun z => z.1)).foldl up b'
  | [], b, b', h, _ => by
    rcases h with h | ⟨y, hy, _⟩
    · simp [h]
    · cases hy
  | z :: L, b, b', h, H => by
    have key : ∀ b1 b1', b1 = up b z.1 → b1' = (if z.2 = true then up b' z.1 else b') → (L.map (fun z => z.1)).foldl up b1 = ((L.filter (fun z => z.2)).map (fun z => z.1)).foldl up b1' := by
      intro b1 b1' e1 e1'
      refine fold_dom L b1 b1' ?_ ?_
      · rcases h with h | ⟨y, hy, y2, y3, y4⟩
        · subst h
          cases hz : z.2 with
          | true => rw [hz, if_pos rfl] at e1'; left; rw [e1, e1']
          | false =>
            rw [hz, if_neg (by decide)] at e1'
            by_cases q : kb z.1 b
            · rw [up_t q] at e1
              rcases H z List.mem_cons_self hz with ⟨y, hy, y2, y3⟩ | q2
              · rcases List.mem_cons.mp hy with rfl | hy
                · rw [hz] at y2; cases y2
                · right; exact ⟨y, hy, y2, by rw [e1]; exact y3, by rw [e1']; exact kb_t y3 q⟩
              · exact absurd (kb_t q q2) kb_i
            · rw [up_f q] at e1; left; rw [e1, e1']
        · rcases List.mem_cons.mp hy with rfl | hy
          · rw [y2, if_pos rfl, up_t y4] at e1'
            rw [up_t y3] at e1
            left; rw [e1, e1']
          · cases hz : z.2 with
            | true =>
              rw [hz, if_pos rfl] at e1'
              by_cases q : kb z.1 b
              · by_cases q2 : kb z.1 b'
                · rw [up_t q] at e1; rw [up_t q2] at e1'; left; rw [e1, e1']
                · rw [up_t q] at e1; rw [up_f q2] at e1'
                  right; exact ⟨y, hy, y2, by rw [e1]; exact kb_n y4 q2, by rw [e1']; exact y4⟩
              · by_cases q2 : kb z.1 b'
                · rw [up_f q] at e1; rw [up_t q2] at e1'
                  right; exact ⟨y, hy, y2, by rw [e1]; exact y3, by rw [e1']; exact kb_n y3 q⟩
                · rw [up_f q] at e1; rw [up_f q2] at e1'
                  right; exact ⟨y, hy, y2, by rw [e1]; exact y3, by rw [e1']; exact y4⟩
            | false =>
              rw [hz, if_neg (by decide)] at e1'
              by_cases q : kb z.1 b
              · rw [up_t q] at e1
                rcases H z List.mem_cons_self hz with ⟨y5, hy5, y6, y7⟩ | q2
                · rcases List.mem_cons.mp hy5 with rfl | hy5
                  · rw [hz] at y6; cases y6
                  · by_cases q3 : kb y5.1 y.1
                    · right; exact ⟨y5, hy5, y6, by rw [e1]; exact y7, by rw [e1']; exact kb_t q3 y4⟩
                    · right; exact ⟨y, hy, y2, by rw [e1]; exact kb_n2 y7 q3, by rw [e1']; exact y4⟩
                · right; exact ⟨y, hy, y2, by rw [e1]; exact kb_t y4 q2, by rw [e1']; exact y4⟩
              · rw [up_f q] at e1
                right; exact ⟨y, hy, y2, by rw [e1]; exact y3, by rw [e1']; exact y4⟩
      · intro w hw w2
        have better : ∀ v, kb b' v → kb b1' v := by
          intro v hv
          rw [e1']
          split
          · by_cases q : kb z.1 b'
            · rw [up_t q]; exact kb_t q hv
            · rw [up_f q]; exact hv
          · exact hv
        rcases H w (List.mem_cons_of_mem _ hw) w2 with ⟨y, hy, y2, y3⟩ | q
        · rcases List.mem_cons.mp hy with rfl | hy
          · right
            rw [e1', if_pos y2]
            by_cases q : kb y.1 b'
            · rw [up_t q]; exact y3
            · rw [up_f q]; exact kb_n2 y3 q
          · left; exact ⟨y, hy, y2, y3⟩
        · right; exact better _ q
    cases hz : z.2 with
    | true =>
      have := key (up b z.1) (up b' z.1) rfl (by rw [hz]; rfl)
      simpa [hz] using this
    | false =>
      have := key (up b z.1) b' rfl (by rw [hz]; rfl)
      simpa [hz] using this
def gn (s0 s : Nat → Nat) : Int32 := (nI (s 4) - nI (s0 4)) - (nI (s 3) - nI (s0 3))
def secs {α : Type} (F : Nat → List α) : Nat → List α
  | 0 => []
  | n + 1 => secs F n ++ F (n + 1)
theorem mem_secs {α : Type} {F : Nat → List α} {a : α} : ∀ {n : Nat}, a ∈ secs F n ↔ ∃ x, 1 ≤ x ∧ x ≤ n ∧ a ∈ F x
  | 0 => by simp [secs]; intro x h1 h2; omega
  | n + 1 => by
    rw [secs, List.mem_append, mem_secs (n := n)]
    constructor
    · rintro (⟨x, h1, h2, h3⟩ | h)
      · exact ⟨x, h1, by omega, h3⟩
      · exact ⟨n + 1, by omega, by omega, h⟩
    · rintro ⟨x, h1, h2, h3⟩
      by_cases q : x = n + 1
      · subst q; exact Or.inr h3
      · exact Or.inl ⟨x, h1, by omega, h3⟩
/-- whether the class tries a step, with k places left -/
def WC (t : Nat → Nat) (k : Nat) (s : Nat → Nat) (x : Nat) : Bool := decide (x ≠ 1) || (decide (2 ≤ k) && decide (0 < morS t s))
def rwM (t s0 : Nat → Nat) : Nat → (Nat → Nat) → List Nat → List (Int32 × List Nat)
  | 0, _, _ => []
  | k + 1, s, p => secs (fun x => if canS t s x = true then (gn s0 (stepS t s x), p ++ [x]) :: rwM t s0 k (stepS t s x) (p ++ [x]) else []) 5
def rwC (t s0 : Nat → Nat) : Nat → (Nat → Nat) → List Nat → List (Int32 × List Nat)
  | 0, _, _ => []
  | k + 1, s, p => secs (fun x => if (WC t (k + 1) s x && canS t s x) = true then (gn s0 (stepS t s x), p ++ [x]) :: rwC t s0 k (stepS t s x) (p ++ [x]) else []) 5
def rwF (t s0 : Nat → Nat) : Nat → (Nat → Nat) → List Nat → Bool → List ((Int32 × List Nat) × Bool)
  | 0, _, _, _ => []
  | k + 1, s, p, f => secs (fun x => if canS t s x = true then ((gn s0 (stepS t s x), p ++ [x]), f && WC t (k + 1) s x) :: rwF t s0 k (stepS t s x) (p ++ [x]) (f && WC t (k + 1) s x) else []) 5
theorem secs_map {α β : Type} (g : α → β) (F : Nat → List α) : ∀ n, (secs F n).map g = secs (fun x => (F x).map g) n
  | 0 => rfl
  | n + 1 => by rw [secs, List.map_append, secs_map g F n, secs]
theorem secs_filter {α : Type} (g : α → Bool) (F : Nat → List α) : ∀ n, (secs F n).filter g = secs (fun x => (F x).filter g) n
  | 0 => rfl
  | n + 1 => by rw [secs, List.filter_append, secs_filter g F n, secs]
theorem secs_congr {α : Type} {F G : Nat → List α} (h : ∀ x, F x = G x) (n : Nat) : secs F n = secs G n := by
  rw [show F = G from funext h]
theorem secs_nil {α : Type} : ∀ n, secs (fun _ => ([] : List α)) n = []
  | 0 => rfl
  | n + 1 => by rw [secs, secs_nil n]; rfl
theorem rwF_M (t s0 : Nat → Nat) : ∀ k s p f, (rwF t s0 k s p f).map (fun z => z.1) = rwM t s0 k s p
  | 0, _, _, _ => rfl
  | k + 1, s, p, f => by
    rw [rwF, rwM, secs_map]
    apply secs_congr
    intro x
    split
    · rw [List.map_cons, rwF_M t s0 k]
    · rfl
theorem rwF_C (t s0 : Nat → Nat) : ∀ k s p f, ((rwF t s0 k s p f).filter (fun z => z.2)).map (fun z => z.1) = if f = true then rwC t s0 k s p else []
  | 0, _, _, f => by cases f <;> rfl
  | k + 1, s, p, f => by
    rw [rwF, secs_filter, secs_map]
    cases f with
    | false =>
      rw [if_neg (by decide)]
      refine Eq.trans (secs_congr (G := fun _ => []) ?_ 5) (secs_nil 5)
      intro x
      split
      · rw [List.filter_cons]
        simp only [Bool.false_and]
        rw [if_neg (fun q => by cases q), rwF_C t s0 k]; rfl
      · rfl
    | true =>
      rw [if_pos rfl, rwC]
      apply secs_congr
      intro x
      cases hc : canS t s x with
      | false => simp
      | true =>
        cases hw : WC t (k + 1) s x with
        | false =>
          simp only [if_true, Bool.true_and, Bool.and_true]
          rw [List.filter_cons, if_neg (fun q => by cases q), rwF_C t s0 k]; rfl
        | true =>
          simp only [if_true, Bool.true_and, Bool.and_true]
          rw [List.filter_cons, if_pos rfl, List.map_cons, rwF_C t s0 k]; rfl
def vrow (t : Nat → Nat) : Nat → (Nat → Nat) → List Nat → Prop
  | _, _, [] => True
  | 0, _, _ :: _ => False
  | k + 1, s, x :: r => 1 ≤ x ∧ x ≤ 5 ∧ canS t s x = true ∧ vrow t k (stepS t s x) r
def krow (t : Nat → Nat) : Nat → (Nat → Nat) → List Nat → Bool
  | _, _, [] => true
  | 0, _, _ :: _ => true
  | k + 1, s, x :: r => WC t (k + 1) s x && krow t k (stepS t s x) r
def endS (t : Nat → Nat) : (Nat → Nat) → List Nat → Nat → Nat
  | s, [] => s
  | s, x :: r => endS t (stepS t s x) r
theorem vrow_nil (t : Nat → Nat) (k : Nat) (s : Nat → Nat) : vrow t k s [] := by cases k <;> trivial
theorem krow_nil (t : Nat → Nat) (k : Nat) (s : Nat → Nat) : krow t k s [] = true := by cases k <;> rfl
theorem mem_rwF (t s0 : Nat → Nat) : ∀ k s p f c, c ∈ rwF t s0 k s p f ↔ ∃ r, r ≠ [] ∧ vrow t k s r ∧ c = ((gn s0 (endS t s r), p ++ r), f && krow t k s r)
  | 0, s, p, f, c => by
    constructor
    · intro h; cases h
    · rintro ⟨r, h1, h2, -⟩
      cases r with
      | nil => exact absurd rfl h1
      | cons x r => exact h2.elim
  | k + 1, s, p, f, c => by
    rw [rwF, mem_secs]
    constructor
    · rintro ⟨x, h1, h2, h3⟩
      by_cases hc : canS t s x = true
      · rw [if_pos hc] at h3
        rcases List.mem_cons.mp h3 with rfl | h3
        · refine ⟨[x], by simp, ⟨h1, h2, hc, vrow_nil t k _⟩, ?_⟩
          simp [krow, krow_nil, endS]
        · obtain ⟨r, r1, r2, r3⟩ := (mem_rwF t s0 k _ _ _ _).mp h3
          refine ⟨x :: r, by simp, ⟨h1, h2, hc, r2⟩, ?_⟩
          rw [r3, krow, endS, List.append_assoc, Bool.and_assoc]; rfl
      · rw [if_neg hc] at h3; cases h3
    · rintro ⟨r, h1, h2, h3⟩
      cases r with
      | nil => exact absurd rfl h1
      | cons x r =>
        obtain ⟨q1, q2, q3, q4⟩ := h2
        refine ⟨x, q1, q2, ?_⟩
        rw [if_pos q3]
        cases r with
        | nil =>
          rw [h3]
          simp [krow, krow_nil, endS]
        | cons y r =>
          refine List.mem_cons_of_mem _ ((mem_rwF t s0 k _ _ _ _).mpr ⟨y :: r, by simp, q4, ?_⟩)
          rw [h3, krow, endS, List.append_assoc, Bool.and_assoc]; rfl
