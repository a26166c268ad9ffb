/-! The model's search. -/
def bM (b : Int32 × List Nat) (M : Mem) : Prop := M 70 20 = b.1 ∧ M 70 19 = nI b.2.length ∧ b.2.length ≤ 6 ∧ ∀ i, i < b.2.length → M 82 i = nI (b.2.getD i 0)
theorem bM.of {b : Int32 × List Nat} {M M' : Mem} (h : bM b M) (e : ∀ a c, (a = 70 ∧ (c = 19 ∨ c = 20)) ∨ a = 82 → M' a c = M a c) : bM b M' := ⟨by rw [e _ _ (by omega)]; exact h.1, by rw [e _ _ (by omega)]; exact h.2.1, h.2.2.1, fun i hi => by rw [e _ _ (by omega)]; exact h.2.2.2 i hi⟩
def Fm (M M' : Mem) : Prop := ∀ a b, a ≠ 74 → a ≠ 80 → a ≠ 81 → a ≠ 82 → ¬ (a = 70 ∧ (b = 19 ∨ b = 20)) → M' a b = M a b
theorem Fm.t {M M' M'' : Mem} (h : Fm M M') (h2 : Fm M' M'') : Fm M M'' := fun a b q1 q2 q3 q4 q5 => by rw [h2 a b q1 q2 q3 q4 q5, h a b q1 q2 q3 q4 q5]
theorem m_goesOn {N d : Nat} (hN : 1000 ≤ N) (hd : d ≤ 6) {M : Mem} : Ok (f_X7_goesOn N M (nI d)) (fun M' => (∀ j, j < 14 → M' 80 (14 * d + j) = M 74 j) ∧ (∀ i, (i < 14 * d ∨ 14 * d + 14 ≤ i) → M' 80 i = M 80 i) ∧ ∀ a b, a ≠ 80 → M' a b = M a b) := by
  unfold f_X7_goesOn
  refine Ok.bind (lpE (fun n i a => f_X7_goesOn_L2 N (nI d) n i a) 14 (fun j M' => (∀ i, i < j → M' 80 (14 * d + i) = M 74 i) ∧ (∀ i, (i < 14 * d ∨ 14 * d + 14 ≤ i) → M' 80 i = M 80 i) ∧ ∀ a b, a ≠ 80 → M' a b = M a b) (fun r => (∀ j, j < 14 → r.2 80 (14 * d + j) = M 74 j) ∧ (∀ i, (i < 14 * d ∨ 14 * d + 14 ≤ i) → r.2 80 i = M 80 i) ∧ ∀ a b, a ≠ 80 → r.2 a b = M a b) ?_ ?_ N 0 M (by omega) ⟨fun i hi => by omega, fun _ _ => rfl, fun _ _ _ => rfl⟩ (by omega)) (fun a h => Ok.ret h)
  · intro f j M' hj ⟨h1, h2, h3⟩
    left
    refine ⟨up2 M' 80 (14 * d + j) (M 74 j), ⟨fun i hi => ?_, fun i hi => by rw [up2_j (by omega)]; exact h2 i hi, fun a b ha => by rw [up2_k ha]; exact h3 a b ha⟩, ?_⟩
    · by_cases q : i = j
      · subst q; rw [up2_same]
      · rw [up2_j (by omega)]; exact h1 i (by omega)
    · show f_X7_goesOn_L2 N (nI d) (f + 1) (nI j) M' = _
      have r1 : 14 * d + j < 98 := by omega
      rw [f_X7_goesOn_L2]
      simp (disch := omega) only [i1, i14, n_le, inb_nI, n_cl, nI_add, pk_mul]
      rw [if_neg (by omega), h3 74 j (by omega)]
      simp [hj, r1]
  · intro f M' h
    show Ok (f_X7_goesOn_L2 N (nI d) (f + 1) (nI 14) M') _
    rw [f_X7_goesOn_L2, if_pos (by show nI 14 ≤ nI 14; rw [n_le (by omega) (by omega)]; omega)]
    exact Ok.ret h
theorem m_comesBack {N d : Nat} (hN : 1000 ≤ N) (hd : d ≤ 6) {M : Mem} : Ok (f_X7_comesBack N M (nI d)) (fun M' => (∀ j, j < 14 → M' 74 j = M 80 (14 * d + j)) ∧ ∀ a b, a ≠ 74 → M' a b = M a b) := by
  unfold f_X7_comesBack
  refine Ok.bind (lpE (fun n i a => f_X7_comesBack_L2 N (nI d) n i a) 14 (fun j M' => (∀ i, i < j → M' 74 i = M 80 (14 * d + i)) ∧ ∀ a b, a ≠ 74 → M' a b = M a b) (fun r => (∀ j, j < 14 → r.2 74 j = M 80 (14 * d + j)) ∧ ∀ a b, a ≠ 74 → r.2 a b = M a b) ?_ ?_ N 0 M (by omega) ⟨fun i hi => by omega, fun _ _ _ => rfl⟩ (by omega)) (fun a h => Ok.ret h)
  · intro f j M' hj ⟨h1, h3⟩
    left
    refine ⟨up2 M' 74 j (M 80 (14 * d + j)), ⟨fun i hi => ?_, fun a b ha => by rw [up2_k ha]; exact h3 a b ha⟩, ?_⟩
    · by_cases q : i = j
      · subst q; rw [up2_same]
      · rw [up2_j (by omega)]; exact h1 i (by omega)
    · show f_X7_comesBack_L2 N (nI d) (f + 1) (nI j) M' = _
      have r1 : 14 * d + j < 98 := by omega
      rw [f_X7_comesBack_L2]
      simp (disch := omega) only [i1, i14, n_le, inb_nI, n_cl, nI_add, pk_mul]
      rw [if_neg (by omega), h3 80 _ (by omega)]
      simp [hj, r1]
  · intro f M' h
    show Ok (f_X7_comesBack_L2 N (nI d) (f + 1) (nI 14) M') _
    rw [f_X7_comesBack_L2, if_pos (by show nI 14 ≤ nI 14; rw [n_le (by omega) (by omega)]; omega)]
    exact Ok.ret h
theorem m_best {N d : Nat} (hN : 1000 ≤ N) (hd : d ≤ 5) {M : Mem} {x : Int32} : Ok (f_X7_seeks_L164 N x (nI d) N 0 M) (fun r => (∀ j, j ≤ d → r.2 82 j = M 81 j) ∧ ∀ a b, a ≠ 82 → r.2 a b = M a b) := by
  refine lpE (fun n i a => f_X7_seeks_L164 N x (nI d) n i a) (d + 1) (fun j M' => (∀ i, i < j → M' 82 i = M 81 i) ∧ ∀ a b, a ≠ 82 → M' a b = M a b) _ ?_ ?_ N 0 M (by omega) ⟨fun i hi => by omega, fun _ _ _ => rfl⟩ (by omega)
  · intro f j M' hj ⟨h1, h3⟩
    left
    refine ⟨up2 M' 82 j (M 81 j), ⟨fun i hi => ?_, fun a b ha => by rw [up2_k ha]; exact h3 a b ha⟩, ?_⟩
    · by_cases q : i = j
      · subst q; rw [up2_same]
      · rw [up2_j (by omega)]; exact h1 i (by omega)
    · show f_X7_seeks_L164 N x (nI d) (f + 1) (nI j) M' = _
      have r1 : j < 6 := by omega
      rw [f_X7_seeks_L164]
      simp (disch := omega) only [i1, n_lt, inb_nI, n_cl, nI_add]
      rw [if_neg (by omega), h3 81 _ (by omega)]
      simp [r1]
  · intro f M' h
    show Ok (f_X7_seeks_L164 N x (nI d) (f + 1) (nI (d + 1)) M') _
    rw [f_X7_seeks_L164, if_pos (by rw [n_lt (by omega) (by omega)]; omega)]
    exact Ok.ret ⟨fun j hj => h.1 j (by omega), h.2⟩
theorem sub4 (a b c d : Int32) : (a - b) - (c - d) = (a - c) - (b - d) := by
  apply Int32.toBitVec_inj.mp
  simp only [Int32.toBitVec_sub, BitVec.sub_eq_add_neg, BitVec.neg_add, BitVec.neg_neg]
  ac_rfl
/-- one more row looked at -/
theorem m_look1 {N d : Nat} (hN : 1000 ≤ N) (hd : d ≤ 5) {M : Mem} {s0 s : Nat → Nat} {p : List Nat} {b : Int32 × List Nat} {x : Int32} (hx : x = nI (s0 4) - nI (s0 3)) (hp : p.length = d + 1) (hS : MS s M) (h81 : ∀ i, i < d + 1 → M 81 i = nI (p.getD i 0)) (hb : bM b M) :
    Ok (if (M 70 20) < (((M 74 4) - (M 74 3)) - x) then (f_X7_seeks_L164 N x (nI d) N 0 (up2 (up2 M 70 20 (((M 74 4) - (M 74 3)) - x)) 70 19 (nI (d + 1)))).bind fun o164 => some o164.2 else (if (((M 74 4) - (M 74 3)) - x) = (M 70 20) then (if (M 70 19) ≤ (nI (d + 1)) then some M else (f_X7_seeks_L164 N x (nI d) N 0 (up2 (up2 M 70 20 (((M 74 4) - (M 74 3)) - x)) 70 19 (nI (d + 1)))).bind fun o164 => some o164.2) else some M))
      (fun M' => bM (up b (gn s0 s, p)) M' ∧ ∀ a c, a ≠ 82 → ¬ (a = 70 ∧ (c = 19 ∨ c = 20)) → M' a c = M a c) := by
  obtain ⟨b1, b2, b3, b4⟩ := hb
  have hg : M 74 4 - M 74 3 - x = gn s0 s := by
    rw [hS 4 (by omega), hS 3 (by omega), hx]
    exact sub4 _ _ _ _
  rw [hg, b1, b2]
  have hupd : Ok ((f_X7_seeks_L164 N x (nI d) N 0 (up2 (up2 M 70 20 (gn s0 s)) 70 19 (nI (d + 1)))).bind fun o164 => some o164.2) (fun M' => bM (gn s0 s, p) M' ∧ ∀ a c, a ≠ 82 → ¬ (a = 70 ∧ (c = 19 ∨ c = 20)) → M' a c = M a c) := by
    refine Ok.bind (m_best hN hd) ?_
    rintro ⟨r, M2⟩ ⟨h1, h2⟩
    dsimp only at h1 h2 ⊢
    refine Ok.ret ⟨⟨?_, ?_, by show p.length ≤ 6; omega, fun i hi => ?_⟩, fun a c q1 q2 => ?_⟩
    · rw [h2 _ _ (by omega), up2_j (by decide), up2_same]
    · rw [h2 _ _ (by omega), up2_same]; show nI (d + 1) = nI p.length; rw [hp]
    · have hi2 : i < p.length := hi
      rw [h1 i (by omega), up2_k (by decide), up2_k (by decide)]
      exact h81 i (by omega)
    · rw [h2 a c q1]
      unfold up2
      rw [if_neg (by omega), if_neg (by omega)]
  unfold up
  by_cases q1 : b.1 < gn s0 s
  · rw [if_pos q1, if_pos (Or.inl q1)]
    exact hupd
  · rw [if_neg q1]
    by_cases q2 : gn s0 s = b.1
    · rw [if_pos q2]
      by_cases q3 : b.2.length ≤ d + 1
      · rw [if_pos (by rw [n_le (by omega) (by omega)]; exact q3), if_neg (fun q => by rcases q with q | q; exact q1 q; have := q.2; dsimp only at this; omega)]
        exact Ok.ret ⟨⟨b1, b2, b3, b4⟩, fun _ _ _ _ => rfl⟩
      · rw [if_neg (by rw [n_le (by omega) (by omega)]; exact q3), if_pos (Or.inr ⟨q2, by dsimp only; omega⟩)]
        exact hupd
    · rw [if_neg q2, if_neg (fun q => by rcases q with q | q; exact q1 q; exact q2 q.1)]
      exact Ok.ret ⟨⟨b1, b2, b3, b4⟩, fun _ _ _ _ => rfl⟩
theorem secs_tail {α : Type} {F : Nat → List α} {j : Nat} (h : ∀ x, j < x → F x = []) : ∀ n, j ≤ n → secs F n = secs F j
  | 0, hj => by have : j = 0 := by omega
                rw [this]
  | n + 1, hj => by
    by_cases q : j = n + 1
    · rw [q]
    · rw [secs, h (n + 1) (by omega), List.append_nil]; exact secs_tail h n (by omega)
def CC : Nat → Nat
  | 0 => 0
  | k + 1 => 6 * (1 + CC k)
