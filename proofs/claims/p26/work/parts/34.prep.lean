/-! prepared and gone. -/
def sumB (g : Nat → Nat) (x n : Nat) : Nat := sumN (fun e => if x.testBit e = true then g e else 0) n
theorem sumB_0 (g : Nat → Nat) : ∀ n, sumB g 0 n = 0
  | 0 => rfl
  | n + 1 => by
    have ih := sumB_0 g n
    unfold sumB at ih ⊢
    rw [sumN, ih]; simp
theorem sumB_le {g : Nat → Nat} {b x n : Nat} (h : ∀ e, e < n → g e ≤ b) : sumB g x n ≤ n * b := sumN_le (fun i hi => by split; exact h i hi; omega)
theorem c_sumOver {N : Nat} (hN : 1000 ≤ N) {M : Mem} {t g : Nat → Nat} {y x : Nat} (ht : WT t) (h8 : M 1 8 = nI (t 1)) (hg : ∀ e, e < t 1 → M y e = nI (g e)) (hx : x < 256) : f_X5_sumOver N M 1 y (nI x) = some (nI (sumB g x (t 1))) := by
  have h1 := ht.2.1
  unfold f_X5_sumOver
  refine Ok.eq (Ok.bind (lpE (fun n i a => f_X5_sumOver_L5 N M 1 y (nI x) n a i) (t 1) (fun j a => a = nI (sumB g x j)) (fun r => r.1 = nI (sumB g x (t 1))) ?_ ?_ N 0 0 (by omega) rfl (by omega)) (fun a ha => Ok.ret ha))
  · intro n j a hj ha
    left
    refine ⟨_, rfl, ?_⟩
    show f_X5_sumOver_L5 N M 1 y (nI x) (n + 1) a (nI j) = _
    rw [f_X5_sumOver_L5, ha]
    simp (disch := omega) only [h8, i0, i1, i31, bt0, inb_nI, n_cl, hg, n_le, nI_add]
    have h4 : j < 4 := by omega
    rw [if_neg (by omega)]
    unfold sumB
    rw [sumN]
    cases hb : x.testBit j with
    | false => simp
    | true => simp [h4]
  · intro n a ha
    show Ok (f_X5_sumOver_L5 N M 1 y (nI x) (n + 1) a (nI (t 1))) _
    rw [f_X5_sumOver_L5, h8, if_pos (by rw [n_le (by omega) (by omega)]; omega)]
    exact Ok.ret ha
def prp (t s : Nat → Nat) : Nat → Nat × Nat
  | 0 => (0, 0)
  | n + 1 => if sumB (fun e => t (37 + e)) n (t 1) ≤ s 1 ∧ (prp t s n).1 < sumB (fun e => t (41 + e)) n (t 1) then (sumB (fun e => t (41 + e)) n (t 1), n) else prp t s n
theorem prp_b {t s : Nat → Nat} (ht : WT t) : ∀ n, (prp t s n).1 ≤ 120
  | 0 => by simp [prp]
  | n + 1 => by
    have := prp_b (s := s) ht n
    rw [prp]
    split
    · have h1 : sumB (fun e => t (41 + e)) n (t 1) ≤ t 1 * 30 := sumB_le (fun e he => (ht.2.2.2.2.2.2 e he).2.2.2.2.2)
      have := ht.2.1
      show sumB (fun e => t (41 + e)) n (t 1) ≤ 120
      omega
    · exact this
theorem c_prepared {N : Nat} (hN : 1000 ≤ N) {M : Mem} {t s : Nat → Nat} {m n : Nat} (ht : WT t) (hs : WS t s m n) (hT : TC t M 1) (hE : EC t s M 21) {x : Int32} :
    Ok (f_X6_prepared_L19 N M x N 0 0 1) (fun r => r.1 = nI (prp t s (2 ^ t 1)).1 ∧ r.2.1 = nI (prp t s (2 ^ t 1)).2) := by
  have h1 := ht.2.1
  have ha := hs.2.1
  have hp : 2 ^ t 1 ≤ 16 := Nat.pow_le_pow_right (n := 2) (j := 4) (by decide) h1
  have hp0 : 1 ≤ 2 ^ t 1 := Nat.two_pow_pos _
  have e3 : M 21 3 = nI (s 1) := hE.2.2.1
  have e8 := hT.2.1
  refine lpE (fun n i (a : Int32 × Int32) => f_X6_prepared_L19 N M x n a.1 a.2 i) (2 ^ t 1) (fun j a => a.1 = nI (prp t s j).1 ∧ a.2 = nI (prp t s j).2) _ ?_ ?_ N 1 (0, 0) hp0 ?_ (by omega)
  · intro f j a hj ⟨ha1, ha2⟩
    left
    have w1 : sumB (fun e => t (37 + e)) j (t 1) ≤ t 1 * 9 := sumB_le (fun e he => (ht.2.2.2.2.2.2 e he).2.2.2.2.1)
    have w2 : sumB (fun e => t (41 + e)) j (t 1) ≤ t 1 * 30 := sumB_le (fun e he => (ht.2.2.2.2.2.2 e he).2.2.2.2.2)
    have w3 := prp_b (s := s) ht j
    have s1 := c_sumOver (N := N) hN ht e8 (g := fun e => t (41 + e)) (y := 8) (x := j) (fun e he => hT.2.2.2.2.2.2.2.2.2.2.2 e he) (by omega)
    have s2 := c_sumOver (N := N) hN ht e8 (g := fun e => t (37 + e)) (y := 7) (x := j) (fun e he => hT.2.2.2.2.2.2.2.2.2.2.1 e he) (by omega)
    refine ⟨(nI (prp t s (j + 1)).1, nI (prp t s (j + 1)).2), ⟨rfl, rfl⟩, ?_⟩
    show f_X6_prepared_L19 N M x (f + 1) a.1 a.2 (nI j) = _
    rw [f_X6_prepared_L19, ha1, ha2, s1, s2]
    simp (disch := omega) only [e8, e3, i1, i31, x_pow, n_le, n_lt, Option.bind_some, nI_add]
    rw [if_neg (by omega), prp]
    by_cases q1 : sumB (fun e => t (37 + e)) j (t 1) ≤ s 1
    · rw [if_neg (by omega)]
      by_cases q2 : (prp t s j).1 < sumB (fun e => t (41 + e)) j (t 1)
      · rw [if_neg (by omega), if_pos ⟨q1, q2⟩]
      · rw [if_pos (by omega), if_neg (fun q => q2 q.2)]
    · rw [if_pos (by omega), if_neg (fun q => q1 q.1)]
  · intro f a ⟨ha1, ha2⟩
    show Ok (f_X6_prepared_L19 N M x (f + 1) a.1 a.2 (nI (2 ^ t 1))) _
    rw [f_X6_prepared_L19]
    simp (disch := omega) only [e8, i1, i31, x_pow, n_le]
    rw [if_pos (Nat.le_refl _)]
    exact Ok.ret ⟨ha1, ha2⟩
  · have : prp t s 1 = (0, 0) := by
      rw [prp, if_neg]
      · rfl
      · rw [sumB_0 (fun e => t (41 + e))]; exact fun q => Nat.not_lt_zero _ q.2
    rw [this]; exact ⟨rfl, rfl⟩
theorem m_sum2 {N : Nat} (hN : 1000 ≤ N) {M : Mem} {t : Nat → Nat} {x : Nat} (ht : WT t) (hT : MT t M) (hx : x < 256) {a b c : Int32} :
    Ok (f_X7_prepared_L41 N M a b c (nI x) N 0 0 0) (fun r => r.1 = nI (sumB (fun e => t (37 + e)) x (t 1)) ∧ r.2.1 = nI (sumB (fun e => t (41 + e)) x (t 1))) := by
  have h1 := ht.2.1
  have g1 := hT 1 (by omega)
  refine lpE (fun n i (q : Int32 × Int32) => f_X7_prepared_L41 N M a b c (nI x) n q.1 q.2 i) (t 1) (fun j q => q.1 = nI (sumB (fun e => t (37 + e)) x j) ∧ q.2 = nI (sumB (fun e => t (41 + e)) x j)) _ ?_ ?_ N 0 (0, 0) (by omega) ⟨rfl, rfl⟩ (by omega)
  · intro f j q hj ⟨h2, h3⟩
    left
    refine ⟨(nI (sumB (fun e => t (37 + e)) x (j + 1)), nI (sumB (fun e => t (41 + e)) x (j + 1))), ⟨rfl, rfl⟩, ?_⟩
    show f_X7_prepared_L41 N M a b c (nI x) (f + 1) q.1 q.2 (nI j) = _
    have d1 := hT (37 + j) (by omega)
    have d2 := hT (41 + j) (by omega)
    have q1 : 37 + j < 45 := by omega
    have q2 : 41 + j < 45 := by omega
    rw [f_X7_prepared_L41, h2, h3]
    simp (disch := omega) only [g1, i0, i1, i31, i37, i41, bt1, inb_nI, n_cl, d1, d2, n_le, nI_add]
    rw [if_neg (by omega)]
    unfold sumB
    rw [sumN, sumN]
    cases hb : x.testBit j with
    | false => simp [nI_add]
    | true => simp [q1, q2, n_eq, nI_add]
  · intro f q h2
    show Ok (f_X7_prepared_L41 N M a b c (nI x) (f + 1) q.1 q.2 (nI (t 1))) _
    rw [f_X7_prepared_L41, g1, if_pos (by rw [n_le (by omega) (by omega)]; omega)]
    exact Ok.ret h2
theorem m_prepared {N : Nat} (hN : 1000 ≤ N) {M : Mem} {t s : Nat → Nat} {m n : Nat} (ht : WT t) (hs : WS t s m n) (hT : MT t M) (hS : MS s M) {x : Int32} :
    Ok (f_X7_prepared_L19 N M x N 0 0 0) (fun r => r.1 = nI (prp t s (2 ^ t 1)).1 ∧ r.2.1 = nI (prp t s (2 ^ t 1)).2) := by
  have h1 := ht.2.1
  have ha := hs.2.1
  have hp : 2 ^ t 1 ≤ 16 := Nat.pow_le_pow_right (n := 2) (j := 4) (by decide) h1
  have e3 := hS 1 (by omega)
  have e8 := hT 1 (by omega)
  refine lpE (fun n i (a : Int32 × Int32) => f_X7_prepared_L19 N M x n a.1 a.2 i) (2 ^ t 1) (fun j a => a.1 = nI (prp t s j).1 ∧ a.2 = nI (prp t s j).2) _ ?_ ?_ N 0 (0, 0) (Nat.zero_le _) ⟨rfl, rfl⟩ (by omega)
  · intro f j a hj ⟨ha1, ha2⟩
    left
    have w1 : sumB (fun e => t (37 + e)) j (t 1) ≤ t 1 * 9 := sumB_le (fun e he => (ht.2.2.2.2.2.2 e he).2.2.2.2.1)
    have w2 : sumB (fun e => t (41 + e)) j (t 1) ≤ t 1 * 30 := sumB_le (fun e he => (ht.2.2.2.2.2.2 e he).2.2.2.2.2)
    have w3 := prp_b (s := s) ht j
    obtain ⟨⟨o1, o2, o3⟩, hr, hr1, hr2⟩ := m_sum2 (N := N) hN ht hT (show j < 256 by omega) (a := x) (b := nI (prp t s j).1) (c := nI (prp t s j).2)
    dsimp only at hr1 hr2
    refine ⟨(nI (prp t s (j + 1)).1, nI (prp t s (j + 1)).2), ⟨rfl, rfl⟩, ?_⟩
    show f_X7_prepared_L19 N M x (f + 1) a.1 a.2 (nI j) = _
    rw [f_X7_prepared_L19, ha1, ha2, hr]
    simp (disch := omega) only [e8, e3, i1, i31, x_pow, n_le, n_lt, Option.bind_some, nI_add, hr1, hr2]
    rw [if_neg (by omega)]
    by_cases q1 : sumB (fun e => t (37 + e)) j (t 1) ≤ s 1
    · have q3 : ¬ s 1 < sumB (fun e => t (37 + e)) j (t 1) := by omega
      by_cases q2 : (prp t s j).1 < sumB (fun e => t (41 + e)) j (t 1)
      · have q4 : ¬ sumB (fun e => t (41 + e)) j (t 1) ≤ (prp t s j).1 := by omega
        have hp1 : prp t s (j + 1) = (sumB (fun e => t (41 + e)) j (t 1), j) := by rw [prp, if_pos ⟨q1, q2⟩]
        rw [hp1]
        simp [q3, q4, i0, n_eq]
      · have q4 : sumB (fun e => t (41 + e)) j (t 1) ≤ (prp t s j).1 := by omega
        have hp1 : prp t s (j + 1) = prp t s j := by rw [prp, if_neg (fun q => q2 q.2)]
        rw [hp1]
        simp [q3, q4]
    · have q3 : s 1 < sumB (fun e => t (37 + e)) j (t 1) := by omega
      have hp1 : prp t s (j + 1) = prp t s j := by rw [prp, if_neg (fun q => q1 q.1)]
      rw [hp1]
      simp [q3]
  · intro f a ⟨ha1, ha2⟩
    show Ok (f_X7_prepared_L19 N M x (f + 1) a.1 a.2 (nI (2 ^ t 1))) _
    rw [f_X7_prepared_L19]
    simp (disch := omega) only [e8, i1, i31, x_pow, n_le]
    rw [if_pos (Nat.le_refl _)]
    exact Ok.ret ⟨ha1, ha2⟩
theorem q_prepared {N n nx : Nat} (hN : 1000 ≤ N) {M : Mem} {A : Ab} (hB : RB n A) (hC : RC A nx M) (hM : RM A M) (x : Int32) : Same (f_X6_prepared N M x) (f_X7_prepared N M x) := by
  obtain ⟨hT, hE, -⟩ := hC
  obtain ⟨hT', hS, -⟩ := hM
  have ht := hB.1
  have hs := hB.2.1
  obtain ⟨⟨a1, a2, a3⟩, ha, ha1, ha2⟩ := c_prepared (x := x) hN ht hs hT hE
  obtain ⟨⟨b1, b2, b3⟩, hb, hb1, hb2⟩ := m_prepared (x := x) hN ht hs hT' hS
  dsimp only at ha1 ha2 hb1 hb2
  unfold f_X6_prepared f_X7_prepared
  rw [ha, hb]
  simp only [Option.bind_some, ha1, ha2, hb1, hb2]
  rcases ix3 x (n := 2) (by omega) with h | ⟨c, hc, rfl⟩
  · have e : f_X7_in N M x 0 1 = some 0 := in_out (b := 1) h (by omega)
    rw [e]
    by_cases hy : x < 0
    · rw [if_pos hy]
      exact ⟨_, rfl, rfl⟩
    · have h4 : ¬ x ≤ (1 : Int32) := nlt_of_lt (out_le (j := 1) h hy (by omega) (by omega))
      rw [if_neg hy, if_neg h4]
      exact ⟨_, rfl, rfl⟩
  · have e : f_X7_in N M (nI c) 0 1 = some 1 := in_in (b := 1) (by omega) (by omega)
    rw [e]
    rcases (show c = 0 ∨ c = 1 by omega) with rfl | rfl <;> exact ⟨_, rfl, rfl⟩
