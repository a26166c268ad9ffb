/-! stay, whole. -/
theorem prodN_0 {f : Nat → Nat} {i : Nat} (h : f i = 0) : ∀ {n : Nat}, i < n → prodN f n = 0
  | 0, h2 => by omega
  | n + 1, h2 => by
    rw [prodN]
    by_cases hi : i = n
    · subst hi; rw [h, Nat.mul_zero]
    · rw [prodN_0 h (n := n) (by omega), Nat.zero_mul]
theorem m_its {N : Nat} (hN : 1000 ≤ N) {M : Mem} {B x p : Nat} (hB : B < 256) (hx : x < 256) (hp : p ≤ 10) (h0 : ann x B = 0) {a c : Int32} {d e : Int64} :
    Ok (f_X7_stay_L108 N M a (nI p) c (nI B) d e (nI x) N 1 0) (fun r => r.1 = lN (prodN (wgt (10 - p) p B x) 8)) := by
  refine lpE (fun n i q => f_X7_stay_L108 N M a (nI p) c (nI B) d e (nI x) n q i) 8 (fun j q => q = lN (prodN (wgt (10 - p) p B x) j)) _ ?_ ?_ N 0 1 (by omega) rfl (by omega)
  · intro f j q hj hq
    left
    refine ⟨_, rfl, ?_⟩
    show f_X7_stay_L108 N M a (nI p) c (nI B) d e (nI x) (f + 1) q (nI j) = _
    have hs : nI 10 - nI p = nI (10 - p) := n_sub (by omega)
    have l1 : (nI (10 - p)).toInt64 = lN (10 - p) := nI_l (by omega)
    have l2 : (nI p).toInt64 = lN p := nI_l (by omega)
    have l3 : (1 : Int64) = lN 1 := rfl
    rw [f_X7_stay_L108, hq]
    simp (disch := omega) only [i0, i1, i8, i10, i31, n_le, bt0, bt1, nI_add, hs, l1, l2, l3, lN_mul]
    rw [if_neg (by omega), prodN]
    unfold wgt
    cases hb : B.testBit j with
    | false =>
      have : x.testBit j = false := by
        cases hxb : x.testBit j with
        | false => rfl
        | true => rw [(ann0 (by omega)).mp h0 j hxb] at hb; cases hb
      simp [this]
    | true => cases hxb : x.testBit j <;> simp
  · intro f q hq
    show Ok (f_X7_stay_L108 N M a (nI p) c (nI B) d e (nI x) (f + 1) q (nI 8)) _
    rw [f_X7_stay_L108, if_pos (by show nI 8 ≤ nI 8; rw [n_le (by omega) (by omega)]; omega)]
    exact Ok.ret hq
theorem m_above {N : Nat} (hN : 1000 ≤ N) {M : Mem} {B n p : Nat} (hB : B < 256) (hn : n ≤ 8) (hp : p ≤ 10) {c : Int32} {e : Int64} :
    Ok (f_X7_stay_L75 N M (nI n) (nI p) c (nI B) e N 0 0) (fun r => r.1 = lN (CW (10 - p) p (pop B 8) n)) := by
  refine lpE (fun f i q => f_X7_stay_L75 N M (nI n) (nI p) c (nI B) e f q i) 256 (fun j q => q = lN (sumN (fun x => if n ≤ pop x 8 then prodN (wgt (10 - p) p B x) 8 else 0) j)) _ ?_ ?_ N 0 0 (by omega) rfl (by omega)
  · intro f j q hj hq
    left
    refine ⟨_, rfl, ?_⟩
    show f_X7_stay_L75 N M (nI n) (nI p) c (nI B) e (f + 1) q (nI j) = _
    have hal : ann j B < 2147483648 := Nat.lt_of_le_of_lt Nat.and_le_left (by omega)
    have e1 : (nI j &&& (nI B ^^^ (-1 : Int32)) = 0) = (ann j B = 0) := by
      have : nI j &&& (nI B ^^^ (-1 : Int32)) = nI (ann j B) := by
        have h3 : (-1 : Int32) = nI 4294967295 := by decide +kernel
        rw [h3, x_ann]
      rw [this]
      exact n_eq (b := 0) hal (by omega)
    have hpop : pop j 8 ≤ 8 := by
      have : pop j 8 ≤ 8 * 1 := sumN_le (fun i _ => by split <;> omega)
      omega
    rw [f_X7_stay_L75, hq, m_ones hN hj, if_neg (by show ¬ nI 256 ≤ nI j; rw [n_le (by omega) (by omega)]; omega), nI_1, show sumN (fun x => if n ≤ pop x 8 then prodN (wgt (10 - p) p B x) 8 else 0) (j + 1) = sumN (fun x => if n ≤ pop x 8 then prodN (wgt (10 - p) p B x) 8 else 0) j + (if n ≤ pop j 8 then prodN (wgt (10 - p) p B j) 8 else 0) from rfl]
    by_cases h0 : ann j B = 0
    · rw [if_pos (by rw [e1]; exact h0)]
      simp only [Option.bind_some]
      by_cases h1 : n ≤ pop j 8
      · obtain ⟨⟨o1, o2⟩, ho, ho1⟩ := m_its (N := N) (M := M) hN hB hj hp h0 (a := nI n) (c := c) (d := lN (sumN (fun x => if n ≤ pop x 8 then prodN (wgt (10 - p) p B x) 8 else 0) j)) (e := e)
        dsimp only at ho1
        rw [if_neg (by show ¬ nI (pop j 8) < nI n; rw [n_lt (by omega) (by omega)]; omega), ho, if_pos h1]
        simp only [Option.bind_some, ho1, lN_add]
      · rw [if_pos (by show nI (pop j 8) < nI n; rw [n_lt (by omega) (by omega)]; omega), if_neg h1]; rfl
    · rw [if_neg (by rw [e1]; exact h0)]
      have : prodN (wgt (10 - p) p B j) 8 = 0 := by
        have h2 := fun q => h0 ((ann0 (a := j) (b := B) (by omega)).mpr q)
        obtain ⟨i, hi⟩ : ∃ i, j.testBit i = true ∧ ¬ B.testBit i = true := by
          refine Classical.byContradiction fun q => h2 (fun i hi => ?_)
          exact Classical.byContradiction fun q2 => q ⟨i, hi, q2⟩
        have h8 : i < 8 := by
          refine Classical.byContradiction fun q => ?_
          rw [Nat.testBit_lt_two_pow (Nat.lt_of_lt_of_le hj (Nat.pow_le_pow_right (n := 2) (i := 8) (by decide) (by omega)))] at hi
          cases hi.1
        exact prodN_0 (i := i) (by unfold wgt; rw [if_neg hi.2, if_pos hi.1]) h8
      rw [this]
      simp
  · intro f q hq
    show Ok (f_X7_stay_L75 N M (nI n) (nI p) c (nI B) e (f + 1) q (nI 256)) _
    rw [f_X7_stay_L75, if_pos (by show nI 256 ≤ nI 256; rw [n_le (by omega) (by omega)]; omega)]
    refine Ok.ret ?_
    show q = _
    rw [hq, ← SW_eq (10 - p) p B 8 n]
    rfl
theorem m_below {N : Nat} (hN : 1000 ≤ N) {M : Mem} {B : Nat} (hB : B < 256) {a b c : Int32} :
    Ok (f_X7_stay_L48 N M a b c (nI B) N 1 0) (fun r => r.1 = lN (10 ^ pop B 8)) := by
  have hpop : pop B 8 ≤ 8 := by
    have : pop B 8 ≤ 8 * 1 := sumN_le (fun i _ => by split <;> omega)
    omega
  refine lpE (fun f i q => f_X7_stay_L48 N M a b c (nI B) f q i) (pop B 8) (fun j q => q = lN (10 ^ j)) _ ?_ ?_ N 0 1 (by omega) rfl (by omega)
  · intro f j q hj hq
    left
    refine ⟨_, rfl, ?_⟩
    show f_X7_stay_L48 N M a b c (nI B) (f + 1) q (nI j) = _
    rw [f_X7_stay_L48, hq, m_ones hN hB]
    simp only [Option.bind_some]
    rw [if_neg (by show ¬ nI (pop B 8) ≤ nI j; rw [n_le (by omega) (by omega)]; omega), nI_1, Nat.pow_succ, ← lN_mul]
    rfl
  · intro f q hq
    show Ok (f_X7_stay_L48 N M a b c (nI B) (f + 1) q (nI (pop B 8))) _
    rw [f_X7_stay_L48, m_ones hN hB]
    simp only [Option.bind_some]
    rw [if_pos (by show nI (pop B 8) ≤ nI (pop B 8); rw [n_le (by omega) (by omega)]; omega)]
    exact Ok.ret hq
theorem q_stay {N n nx : Nat} (hN : 200000000 ≤ N) {M : Mem} {A : Ab} (hB : RB n A) (hC : RC A nx M) (hM : RM A M) (x y z : Int32) : Same (f_X6_stay N M x y z) (f_X7_stay N M x y z) := by
  obtain ⟨hT, hE, -⟩ := hC
  obtain ⟨hT', hS, -⟩ := hM
  have ht := hB.1
  have hs := hB.2.1
  have hb := thB_lt (s := aS A) ht
  unfold f_X6_stay f_X7_stay
  rcases ix3 x (n := 9) (by omega) with h | ⟨k, hk, rfl⟩
  · have e : f_X7_in N M x 0 8 = some 0 := in_out (b := 8) h (by omega)
    rw [e]
    by_cases hy : x < 0
    · rw [if_pos hy]
      exact ⟨_, rfl, rfl⟩
    · have h4 : (8 : Int32) < x := out_le (j := 8) h hy (by omega) (by omega)
      rw [if_neg hy, if_pos h4]
      exact ⟨_, rfl, rfl⟩
  have e : f_X7_in N M (nI k) 0 8 = some 1 := in_in (b := 8) (by omega) (by omega)
  have x1 : ¬ nI k < 0 := nI_pos (by omega)
  have x2 : ¬ (8 : Int32) < nI k := by show ¬ nI 8 < nI k; rw [n_lt (by omega) (by omega)]; omega
  rw [e, if_neg x1, if_neg x2]
  rcases ix3 y (n := 11) (by omega) with h | ⟨p, hp, rfl⟩
  · have e : f_X7_in N M y 0 10 = some 0 := in_out (b := 10) h (by omega)
    rw [e]
    by_cases hy : y < 0
    · rw [if_pos hy]
      exact ⟨_, rfl, rfl⟩
    · have h4 : (10 : Int32) < y := out_le (j := 10) h hy (by omega) (by omega)
      rw [if_neg hy, if_pos h4]
      exact ⟨_, rfl, rfl⟩
  have e : f_X7_in N M (nI p) 0 10 = some 1 := in_in (b := 10) (by omega) (by omega)
  have x1 : ¬ nI p < 0 := nI_pos (by omega)
  have x2 : ¬ (10 : Int32) < nI p := by show ¬ nI 10 < nI p; rw [n_lt (by omega) (by omega)]; omega
  rw [e, if_neg x1, if_neg x2]
  rcases ix3 z (n := 2) (by omega) with h | ⟨c, hc, rfl⟩
  · have e : f_X7_in N M z 0 1 = some 0 := in_out (b := 1) h (by omega)
    rw [e]
    by_cases hy : z < 0
    · rw [if_pos hy]
      exact ⟨_, rfl, rfl⟩
    · have h4 : ¬ z ≤ (1 : Int32) := nlt_of_lt (out_le (j := 1) h hy (by omega) (by omega))
      rw [if_neg hy, if_neg h4]
      exact ⟨_, rfl, rfl⟩
  have e : f_X7_in N M (nI c) 0 1 = some 1 := in_in (b := 1) (by omega) (by omega)
  have x1 : ¬ nI c < 0 := nI_pos (by omega)
  have x2 : nI c ≤ (1 : Int32) := by show nI c ≤ nI 1; rw [n_le (by omega) (by omega)]; omega
  rw [e, if_neg x1, if_pos x2, hE.1, c_bitCount _ hb]
  obtain ⟨B, hBe⟩ : ∃ B, B = thB (aT A) (aS A) := ⟨_, rfl⟩
  have hpop : pop B 8 ≤ 8 := by
    have : pop B 8 ≤ 8 * 1 := sumN_le (fun i _ => by split <;> omega)
    omega
  obtain ⟨g, hg⟩ : ∃ g, g = pop B 8 := ⟨_, rfl⟩
  have hgs : sumN (fun i => if (thB (aT A) (aS A)).testBit i = true then 1 else 0) 8 = g := by rw [hg, hBe]; rfl
  have hcw := (CW_sum g (by omega) k (by omega) p (by omega)).2
  have hpw : 10 ^ g ≤ 10 ^ 8 := Nat.pow_le_pow_right (by decide) (by omega)
  have hpw1 : 1 ≤ 10 ^ g := Nat.pow_pos (by decide)
  rw [← hBe] at hb
  obtain ⟨⟨a1, a2⟩, ha, ha1⟩ := m_below (N := N) (M := M) (by omega) hb (a := nI k) (b := nI p) (c := nI c)
  obtain ⟨⟨b1, b2⟩, hbb, hb1⟩ := m_above (N := N) (M := M) (by omega) hb (show k ≤ 8 by omega) (show p ≤ 10 by omega) (c := nI c) (e := a1)
  dsimp only at ha1 hb1
  rw [← hg] at ha1 hb1
  obtain ⟨⟨g1, g2, g3⟩, hgc, hgc1⟩ := c_gcd (N := N) (M := M) 27 (CW (10 - p) p g k) (10 ^ g) 0 N (by omega) (by omega) (by omega) (by omega) (by omega)
  obtain ⟨⟨d1, d2⟩, hgd, hgd1⟩ := m_gcd (N := N) (M := M) (c := nI c) (d := lN (CW (10 - p) p g k)) (e := lN (10 ^ g)) N (CW (10 - p) p g k) (10 ^ g) (by omega) (by omega) (by omega)
  dsimp only at hgc1 hgd1
  have hgp : 1 ≤ Nat.gcd (CW (10 - p) p g k) (10 ^ g) := Nat.gcd_pos_of_pos_right _ (by omega)
  have hgl : Nat.gcd (CW (10 - p) p g k) (10 ^ g) ≤ 10 ^ g := Nat.le_of_dvd (by omega) (Nat.gcd_dvd_right _ _)
  have hcd : f_X6_commonDivisor N M (lN (CW (10 - p) p g k)) (lN (10 ^ g)) = some g1 := by
    unfold f_X6_commonDivisor
    rw [show (0 : Int32) = nI 0 from rfl, hgc]; rfl
  have h10 : f_X6_power N M 10 (nI g) = some (lN (10 ^ g)) := c_power (b := 10) (by omega) (by omega) (by omega)
  rw [m_thereNow (by omega) ht hs (by omega) hT' hS, hgs]
  simp only [Option.bind_some]
  rw [← hBe, c_ways (by omega) (by omega) (by omega) (by omega), h10]
  simp only [Option.bind_some]
  rw [hcd, ha]
  simp only [Option.bind_some]
  rw [hbb]
  simp only [Option.bind_some]
  rw [hb1, ha1, hgd]
  simp only [Option.bind_some]
  have hl1 := lg1 hgp (by omega)
  have hz1 := nz_l hgp (by omega)
  rw [hgc1, hgd1, if_pos hl1, if_pos hz1, if_pos hz1]
  rcases (show c = 0 ∨ c = 1 by omega) with rfl | rfl
  · exact ⟨_, rfl, rfl⟩
  · exact ⟨_, rfl, rfl⟩
