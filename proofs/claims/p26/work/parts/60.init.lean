/-! Both new objects. -/
theorem TC0 : TC t0F M0 1 := by
  refine ⟨by decide, by decide, by decide, by decide, by decide, fun c hc => absurd hc (Nat.not_lt_zero c), fun c hc => absurd hc (Nat.not_lt_zero c), fun c hc => absurd hc (Nat.not_lt_zero c), fun c hc => absurd hc (Nat.not_lt_zero c), fun c hc => absurd hc (Nat.not_lt_zero c), fun c hc => absurd hc (Nat.not_lt_zero c), fun c hc => absurd hc (Nat.not_lt_zero c)⟩
theorem M0_z {a b : Nat} (h : a ≠ 1) (h2 : a ≠ 10) : M0 a b = 0 := by unfold M0; rw [if_neg (by omega)]
theorem init_C (N : Nat) : Ok (f_X6_init N M0) (fun M1 => EC t0F (beg t0F) M1 21 ∧ ∀ a b, a ≠ 21 → a ≠ 22 → M1 a b = M0 a b) := by
  unfold f_X6_init
  exact Ok.bind (c_begin WT0 TC0) (fun a h => Ok.ret h)
theorem init_M {N : Nat} (hN : 1000 ≤ N) : Ok (f_X7_init N (fun _ _ => 0)) (fun M2 => MT t0F M2 ∧ MS (beg t0F) M2 ∧ M2 70 6 = nI 0 ∧ M2 70 10 = nI 0 ∧ M2 77 0 = nI 0 ∧ M2 77 1 = nI 0 ∧ M2 70 1 = nI 0) := by
  unfold f_X7_init
  refine Ok.bind (m_forgets hN) ?_
  rintro M1 ⟨h1, h2⟩
  refine Ok.bind (lpE (fun n i a => f_X7_init_L106 N n i a) 45 (fun j M' => (∀ i, i < j → M' 72 i = nI (t0F i)) ∧ ∀ a b, a ≠ 72 → M' a b = M1 a b) (fun r => MT t0F r.2 ∧ ∀ a b, a ≠ 72 → r.2 a b = M1 a b) ?_ ?_ N 0 M1 (by omega) ⟨fun i hi => by omega, fun _ _ _ => rfl⟩ (by omega)) ?_
  · intro f j M' hj ⟨q1, q3⟩
    left
    refine ⟨up2 M' 72 j (nI (t0F j)), ⟨fun i hi => ?_, fun a b ha => by rw [up2_k ha]; exact q3 a b ha⟩, ?_⟩
    · by_cases q : i = j
      · subst q; rw [up2_same]
      · rw [up2_j q]; exact q1 i (by omega)
    · show f_X7_init_L106 N (f + 1) (nI j) M' = _
      have g : M' 73 j = nI (t0F j) := by rw [q3 _ _ (by omega)]; exact h1 j hj
      rw [f_X7_init_L106]
      simp (disch := omega) only [i1, i45, n_le, inb_nI, n_cl, nI_add, g]
      rw [if_neg (by omega)]
      simp [hj]
  · intro f M' h
    show Ok (f_X7_init_L106 N (f + 1) (nI 45) M') _
    rw [f_X7_init_L106, if_pos (by show nI 45 ≤ nI 45; rw [n_le (by omega) (by omega)]; omega)]
    exact Ok.ret h
  rintro ⟨r, M2⟩ ⟨q1, q2⟩
  dsimp only at q1 q2 ⊢
  refine Ok.bind (m_begins hN q1) ?_
  rintro M3 ⟨k1, k2, k3, k4, k5, k6⟩
  refine Ok.ret ⟨fun j hj => by rw [k6 _ _ (by omega) (by omega) (by omega)]; exact q1 j hj, k1, k2, k3, k4, k5, ?_⟩
  rw [k6 _ _ (by omega) (by omega) (by omega), q2 _ _ (by omega), h2 _ _ (by omega)]
  rfl
def A0 : Ab := (t0F, beg t0F, (fun _ => 0), 0, (fun _ => 0), 0, (fun _ _ => 0), 0, (fun _ => false), (fun _ _ => 0))
theorem init_good {N : Nat} (hN : 1000 ≤ N) : ∃ M1 M2, f_X6_init N M0 = some M1 ∧ f_X7_init N (fun _ _ => 0) = some M2 ∧ RB 0 A0 ∧ RC A0 0 (jM M1 M2) ∧ RM A0 (jM M1 M2) := by
  obtain ⟨M1, e1, h1, h2⟩ := init_C N
  obtain ⟨M2, e2, k1, k2, k3, k4, k5, k6, k7⟩ := init_M hN
  have lo : ∀ a b, a < 68 → jM M1 M2 a b = M1 a b := fun a b q => by unfold jM; rw [if_pos q]
  have hi : ∀ a b, 68 ≤ a → jM M1 M2 a b = M2 a b := fun a b q => by unfold jM; rw [if_neg (by omega)]
  have z : ∀ a b, a < 68 → a ≠ 1 → a ≠ 10 → a ≠ 21 → a ≠ 22 → jM M1 M2 a b = 0 := fun a b q1 q2 q3 q4 q5 => by rw [lo a b q1, h2 a b q4 q5, M0_z q2 q3]
  refine ⟨M1, M2, e1, e2, ?_, ?_, ?_⟩
  · exact ⟨WT0, WS.beg WT0, Nat.zero_le _, fun i hi => absurd hi (Nat.not_lt_zero i), Nat.zero_le _, fun i hi => absurd hi (Nat.not_lt_zero i), Nat.zero_le _, fun i hi => absurd hi (Nat.not_lt_zero i), fun k hk q => (by cases q)⟩
  · refine RC.mk (TC0.of (fun a b q1 q2 => by rw [lo a b (by omega), h2 a b (by omega) (by omega)])) (h1.of (fun a b q1 q2 => lo a b (by omega))) ⟨?_, fun i hi => absurd hi (Nat.not_lt_zero i)⟩ ⟨?_, fun i hi => absurd hi (Nat.not_lt_zero i)⟩ ⟨?_, ?_, by omega, fun i hi => absurd hi (Nat.not_lt_zero i)⟩ (fun k hk => ⟨?_, fun q => (by cases q)⟩)
    · exact z _ _ (by omega) (by omega) (by omega) (by omega) (by omega)
    · exact z _ _ (by omega) (by omega) (by omega) (by omega) (by omega)
    · exact z _ _ (by omega) (by omega) (by omega) (by omega) (by omega)
    · exact z _ _ (by omega) (by omega) (by omega) (by omega) (by omega)
    · exact z _ _ (by omega) (by omega) (by omega) (by omega) (by omega)
  · refine RM.mk (fun j hj => by rw [hi _ _ (by omega)]; exact k1 j hj) (fun j hj => by rw [hi _ _ (by omega)]; exact k2 j hj) ⟨?_, fun i hi => absurd hi (Nat.not_lt_zero i)⟩ ⟨?_, fun i hi => absurd hi (Nat.not_lt_zero i)⟩ ⟨?_, fun i hi => absurd hi (Nat.not_lt_zero i)⟩ (fun k hk => ⟨?_, fun q => (by cases q)⟩)
    · rw [hi _ _ (by omega)]; exact k7
    · rw [hi _ _ (by omega)]; exact k4
    · rw [hi _ _ (by omega)]; exact k3
    · rw [hi _ _ (by omega)]
      rcases (show k = 0 ∨ k = 1 by omega) with rfl | rfl
      · exact k5
      · exact k6
theorem lg_eq (x : Int64) : lg_cmp x x = 0 := by
  unfold lg_cmp
  have : ¬ x > x := fun q => absurd (Int64.lt_iff_toInt_lt.mp q) (by omega)
  rw [if_neg this, if_pos rfl]
