/-! gone. -/
def okG (t s : Nat → Nat) (num x : Nat) : Bool := decide (ann x (clB t s) = 0) && decide (sumB (fun c => s (6 + c)) x (t 0) = num)
def cntU (p : Nat → Bool) : Nat → Nat
  | 0 => 0
  | n + 1 => cntU p n + (if p n = true then 1 else 0)
def fstU (p : Nat → Bool) : Nat → Option Nat
  | 0 => none
  | n + 1 => match fstU p n with
    | some i => some i
    | none => if p n = true then some n else none
def fI (d : Int32) (o : Option Nat) : Int32 := match o with
  | some i => nI i
  | none => d
theorem fstU_lt {p : Nat → Bool} : ∀ {n i : Nat}, fstU p n = some i → i < n
  | 0, i, h => by simp [fstU] at h
  | n + 1, i, h => by
    rw [fstU] at h
    cases hq : fstU p n with
    | some k =>
      rw [hq] at h
      have := fstU_lt hq
      cases h
      omega
    | none =>
      rw [hq] at h
      cases hp : p n with
      | true => simp [hp] at h; omega
      | false => simp [hp] at h
theorem nI_ne_m1 {i : Nat} (h : i < 2147483648) : ¬ nI i = (-1 : Int32) := by
  intro q
  have : (nI i).toInt = (-1 : Int32).toInt := by rw [q]
  rw [nI_toInt h] at this
  have h2 : (-1 : Int32).toInt = -1 := rfl
  omega
theorem c_gone {N : Nat} (hN : 1000 ≤ N) {M : Mem} {t s : Nat → Nat} {m n num : Nat} (ht : WT t) (hs : WS t s m n) (hT : TC t M 1) (hE : EC t s M 21) (hnum : num ≤ 400) {y : Int32} :
    Ok (f_X6_gone_L40 N M (nI num) y (nI (clB t s)) N 0 (-1) 0) (fun r => r.1 = nI (cntU (okG t s num) 256) ∧ r.2.1 = fI (-1) (fstU (okG t s num) 256)) := by
  have hcl := clB_lt (s := s) ht
  refine lpE (fun n i (a : Int32 × Int32) => f_X6_gone_L40 N M (nI num) y (nI (clB t s)) n a.1 a.2 i) 256 (fun j a => a.1 = nI (cntU (okG t s num) j) ∧ a.2 = fI (-1) (fstU (okG t s num) j)) _ ?_ ?_ N 0 (0, -1) (by omega) ⟨rfl, rfl⟩ (by omega)
  · intro f j a hj ⟨h1, h2⟩
    left
    have hz := c_zealOf (N := N) hN (x := j) ht hT hE hj
    have hsum : sumB (fun c => s (6 + c)) j (t 0) ≤ t 0 * 40 := sumB_le (fun c hc => hs.2.2.2.2 c hc)
    have h8 := ht.1
    have hal : ann j (clB t s) < 2147483648 := Nat.lt_of_le_of_lt Nat.and_le_left (by omega)
    refine ⟨(nI (cntU (okG t s num) (j + 1)), fI (-1) (fstU (okG t s num) (j + 1))), ⟨rfl, rfl⟩, ?_⟩
    show f_X6_gone_L40 N M (nI num) y (nI (clB t s)) (f + 1) a.1 a.2 (nI j) = _
    rw [f_X6_gone_L40, h1, h2, hz]
    have e1 : (nI j &&& (nI (clB t s) ^^^ (-1 : Int32)) = 0) = (ann j (clB t s) = 0) := by
      have : nI j &&& (nI (clB t s) ^^^ (-1 : Int32)) = nI (ann j (clB t s)) := by
        have h3 : (-1 : Int32) = nI 4294967295 := by decide +kernel
        rw [h3, x_ann]
      rw [this]
      exact n_eq (b := 0) hal (by omega)
    have e2 : (nI (sumN (fun c => if j.testBit c = true then s (6 + c) else 0) (t 0)) = nI num) = (sumB (fun c => s (6 + c)) j (t 0) = num) := n_eq (a := sumB (fun c => s (6 + c)) j (t 0)) (by omega) (by omega)
    have e3 : ¬ (256 : Int32) ≤ nI j := by show ¬ nI 256 ≤ nI j; rw [n_le (by omega) (by omega)]; omega
    simp only [e1, e2, if_neg e3, Option.bind_some, nI_1]
    rw [cntU, fstU]
    unfold okG
    by_cases q1 : ann j (clB t s) = 0
    · by_cases q2 : sumB (fun c => s (6 + c)) j (t 0) = num
      · simp only [q1, q2, if_true, decide_true, Bool.and_self]
        cases hq : fstU (fun x => decide (ann x (clB t s) = 0) && decide (sumB (fun c => s (6 + c)) x (t 0) = num)) j with
        | none => rfl
        | some i =>
          have := fstU_lt hq
          rw [show fI (-1) (some i) = nI i from rfl, if_neg (nI_ne_m1 (by omega))]
      · simp only [q1, q2, if_true, decide_true, decide_false, Bool.and_false, if_false]
        cases hq : fstU (fun x => decide (ann x (clB t s) = 0) && decide (sumB (fun c => s (6 + c)) x (t 0) = num)) j <;> simp
    · simp only [q1, if_false, decide_false, Bool.false_and]
      cases hq : fstU (fun x => decide (ann x (clB t s) = 0) && decide (sumB (fun c => s (6 + c)) x (t 0) = num)) j <;> simp
  · intro f a h
    show Ok (f_X6_gone_L40 N M (nI num) y (nI (clB t s)) (f + 1) a.1 a.2 (nI 256)) _
    rw [f_X6_gone_L40, if_pos (by show nI 256 ≤ nI 256; rw [n_le (by omega) (by omega)]; omega)]
    exact Ok.ret h
/-- whether all of a set, below j, clap -/
def allC (t s : Nat → Nat) (x : Nat) : Nat → Bool
  | 0 => true
  | n + 1 => allC t s x n && (!x.testBit n || clp t s n)
theorem allC_iff (t s : Nat → Nat) (x : Nat) : ∀ n, allC t s x n = true ↔ ∀ i, i < n → x.testBit i = true → clp t s i = true
  | 0 => by simp [allC]
  | n + 1 => by
    rw [allC, Bool.and_eq_true, allC_iff t s x n]
    constructor
    · rintro ⟨h1, h2⟩ i hi hb
      by_cases h : i = n
      · subst h; simpa [hb] using h2
      · exact h1 i (by omega) hb
    · intro h
      refine ⟨fun i hi hb => h i (by omega) hb, ?_⟩
      cases hb : x.testBit n with
      | false => rfl
      | true => simp [h n (by omega) hb]
theorem m_gone1 {N : Nat} (hN : 1000 ≤ N) {M : Mem} {t s : Nat → Nat} {m n x : Nat} (ht : WT t) (hs : WS t s m n) (hm : m < 1000000) (hT : MT t M) (hS : MS s M) (hx : x < 256) {a b c d : Int32} :
    Ok (f_X7_gone_L47 N M a b c d (nI x) N 0 1 0) (fun r => r.1 = nI (sumB (fun c => s (6 + c)) x 8) ∧ r.2.1 = nI (if allC t s x 8 = true then 1 else 0)) := by
  refine lpE (fun n i (q : Int32 × Int32) => f_X7_gone_L47 N M a b c d (nI x) n q.1 q.2 i) 8 (fun j q => q.1 = nI (sumB (fun c => s (6 + c)) x j) ∧ q.2 = nI (if allC t s x j = true then 1 else 0)) _ ?_ ?_ N 0 (0, 1) (by omega) ⟨rfl, rfl⟩ (by omega)
  · intro f j q hj ⟨h1, h2⟩
    left
    refine ⟨(nI (sumB (fun c => s (6 + c)) x (j + 1)), nI (if allC t s x (j + 1) = true then 1 else 0)), ⟨rfl, rfl⟩, ?_⟩
    show f_X7_gone_L47 N M a b c d (nI x) (f + 1) q.1 q.2 (nI j) = _
    have g6 := hS (6 + j) (by omega)
    have h14 : 6 + j < 14 := by omega
    rw [f_X7_gone_L47, h1, h2, m_claps ht hs (by omega) hT hS (by omega)]
    simp (disch := omega) only [i0, i1, i6, i8, i31, n_le, bt1, nI_add, inb_nI, n_cl, g6, Option.bind_some]
    rw [if_neg (by omega), allC]
    unfold sumB
    rw [sumN]
    cases hb : x.testBit j with
    | false => cases allC t s x j <;> simp [n_eq]
    | true => cases allC t s x j <;> cases clp t s j <;> simp [n_eq, h14]
  · intro f q h
    show Ok (f_X7_gone_L47 N M a b c d (nI x) (f + 1) q.1 q.2 (nI 8)) _
    rw [f_X7_gone_L47, if_pos (by show nI 8 ≤ nI 8; rw [n_le (by omega) (by omega)]; omega)]
    exact Ok.ret h
theorem gone_eq {t s : Nat → Nat} {m n x num : Nat} (ht : WT t) (hs : WS t s m n) (hx : x < 256) (hnum : num ≤ 400) : (if nI (if allC t s x 8 = true then 1 else 0) = 0 then (0 : Int32) else if nI (sumB (fun c => s (6 + c)) x 8) = nI num then 1 else 0) = if okG t s num x = true then 1 else 0 := by
  have h0 := ht.1
  have hA : allC t s x 8 = true ↔ ann x (clB t s) = 0 := by
    rw [allC_iff, ann0 (by omega)]
    constructor
    · intro h i hi
      rw [tb_cl]
      by_cases h8 : i < 8
      · exact h i h8 hi
      · rw [Nat.testBit_lt_two_pow (Nat.lt_of_lt_of_le hx (Nat.pow_le_pow_right (n := 2) (i := 8) (by decide) (by omega)))] at hi
        cases hi
    · intro h i _ hi
      rw [← tb_cl]
      exact h i hi
  unfold okG
  cases hq : allC t s x 8 with
  | false =>
    have : ¬ ann x (clB t s) = 0 := fun q => by rw [hA.mpr q] at hq; cases hq
    rw [if_pos (by rfl)]
    simp [this]
  | true =>
    have h1 : ann x (clB t s) = 0 := hA.mp hq
    have h2 : sumB (fun c => s (6 + c)) x 8 = sumB (fun c => s (6 + c)) x (t 0) := by
      unfold sumB
      apply sumN_ext h0
      intro i h3 h4
      have h5 : x.testBit i = false := by
        cases hb : x.testBit i with
        | false => rfl
        | true =>
          have := (allC_iff t s x 8).mp hq i h4 hb
          unfold clp isT at this
          have h6 : ¬ i < t 0 := by omega
          simp [h6] at this
      simp [h5]
    have hsum : sumB (fun c => s (6 + c)) x (t 0) ≤ t 0 * 40 := sumB_le (fun c hc => hs.2.2.2.2 c hc)
    rw [if_neg (by decide), h2]
    simp only [h1, decide_true, Bool.true_and, decide_eq_true_iff, n_eq (show sumB (fun c => s (6 + c)) x (t 0) < 2147483648 by omega) (show num < 2147483648 by omega)]
theorem m_gone {N : Nat} (hN : 1000 ≤ N) {M : Mem} {t s : Nat → Nat} {m n num : Nat} (ht : WT t) (hs : WS t s m n) (hm : m < 1000000) (hT : MT t M) (hS : MS s M) (hnum : num ≤ 400) {y : Int32} : ∀ (j f a : Nat) (d : Int32), j < 256 → j + 1 < f →
    Ok (f_X7_gone_L33 N M (nI num) y f (nI a) d (nI j)) (fun r => r.1 = nI (a + cntU (okG t s num) (j + 1)) ∧ r.2.1 = fI d (fstU (okG t s num) (j + 1))) := by
  intro j
  induction j with
  | zero =>
    intro f a d hj hf
    obtain ⟨f, rfl⟩ : ∃ g, f = g + 2 := ⟨f - 2, by omega⟩
    obtain ⟨⟨o1, o2, o3⟩, ho, ho1, ho2⟩ := m_gone1 (N := N) hN ht hs hm hT hS (show 0 < 256 by omega) (a := nI num) (b := y) (c := nI a) (d := d)
    dsimp only at ho1 ho2
    rw [f_X7_gone_L33, ho, if_neg (by decide)]
    simp only [Option.bind_some]
    rw [ho1, ho2, gone_eq ht hs (by omega) hnum]
    cases hq : okG t s num 0 with
    | true =>
      rw [if_neg (by decide), f_X7_gone_L33, if_pos (by decide)]
      refine Ok.ret ⟨?_, ?_⟩
      · show nI a + _ = _
        simp only [cntU, hq, if_true, Nat.zero_add]
        exact nI_1 a
      · simp [fstU, hq, fI]
    | false =>
      rw [if_pos (by rfl), f_X7_gone_L33, if_pos (by decide)]
      refine Ok.ret ⟨?_, ?_⟩
      · show nI a + 0 = _
        simp [cntU, hq]
      · simp [fstU, hq, fI]
  | succ j ih =>
    intro f a d hj hf
    obtain ⟨f, rfl⟩ : ∃ g, f = g + 1 := ⟨f - 1, by omega⟩
    obtain ⟨⟨o1, o2, o3⟩, ho, ho1, ho2⟩ := m_gone1 (N := N) hN ht hs hm hT hS hj (a := nI num) (b := y) (c := nI a) (d := d)
    dsimp only at ho1 ho2
    rw [f_X7_gone_L33, ho, if_neg (nI_pos (by omega))]
    simp only [Option.bind_some]
    rw [ho1, ho2, gone_eq ht hs hj hnum, pk_m1]
    cases hq : okG t s num (j + 1) with
    | true =>
      rw [if_neg (by decide), if_neg (by decide), nI_1]
      refine (ih f (a + 1) (nI (j + 1)) (by omega) (by omega)).mono ?_
      rintro r ⟨h1, h2⟩
      refine ⟨?_, ?_⟩
      · rw [h1, cntU, cntU, cntU, hq, if_pos rfl]
        congr 1
        omega
      · rw [h2]
        conv => rhs; rw [fstU]
        cases hf : fstU (okG t s num) (j + 1) <;> simp [fI, hq]
    | false =>
      rw [if_pos (by rfl), if_pos (by rfl)]
      have : nI a + 0 = nI a := by simp
      rw [this]
      refine (ih f a d (by omega) (by omega)).mono ?_
      rintro r ⟨h1, h2⟩
      refine ⟨?_, ?_⟩
      · rw [h1]
        conv => rhs; rw [cntU, hq]
        simp
      · rw [h2]
        conv => rhs; rw [fstU]
        cases hf : fstU (okG t s num) (j + 1) <;> simp [fI, hq]
theorem q_gone {N n nx : Nat} (hN : 1000 ≤ N) {M : Mem} {A : Ab} (hB : RB n A) (hC : RC A nx M) (hM : RM A M) (x y : Int32) : Same (f_X6_gone N M x y) (f_X7_gone N M x y) := by
  obtain ⟨hT, hE, -⟩ := hC
  obtain ⟨hT', hS, -⟩ := hM
  have ht := hB.1
  have hs := hB.2.1
  unfold f_X6_gone f_X7_gone
  rcases ix3 x (n := 401) (by omega) with h | ⟨num, hnum, rfl⟩
  · have e : f_X7_in N M x 0 400 = some 0 := in_out (b := 400) h (by omega)
    rw [e]
    by_cases hy : x < 0
    · rw [if_pos hy]
      exact ⟨_, rfl, rfl⟩
    · have h4 : (400 : Int32) < x := out_le (j := 400) h hy (by omega) (by omega)
      rw [if_neg hy, if_pos h4]
      exact ⟨_, rfl, rfl⟩
  · have e : f_X7_in N M (nI num) 0 400 = some 1 := in_in (b := 400) (by omega) (by omega)
    have x1 : ¬ nI num < 0 := nI_pos (by omega)
    have x2 : ¬ (400 : Int32) < nI num := by show ¬ nI 400 < nI num; rw [n_lt (by omega) (by omega)]; omega
    rw [e, if_neg x1, if_neg x2]
    obtain ⟨⟨a1, a2, a3⟩, ha, ha1, ha2⟩ := c_gone (y := y) (num := num) hN ht hs hT hE (by omega)
    obtain ⟨⟨b1, b2, b3⟩, hb, hb1, hb2⟩ := m_gone (y := y) (num := num) hN ht hs (by omega) hT' hS (by omega) 255 N 0 (-1) (by omega) (by omega)
    dsimp only at ha1 ha2 hb1 hb2
    have hb' : f_X7_gone_L33 N M (nI num) y N 0 (-1) 255 = some (b1, b2, b3) := hb
    rw [Nat.zero_add] at hb1
    rw [c_whoClaps hN ht hs hT hE]
    simp only [Option.bind_some]
    rw [ha, hb']
    simp only [Option.bind_some, ha1, ha2, hb1, hb2]
    rcases ix3 y (n := 2) (by omega) with h | ⟨c, hc, rfl⟩
    · have e : f_X7_in N M y 0 1 = some 0 := in_out (b := 1) h (by omega)
      rw [e]
      by_cases hy : y < 0
      · rw [if_pos hy]
        exact ⟨_, rfl, rfl⟩
      · have h4 : ¬ y ≤ (1 : Int32) := nlt_of_lt (out_le (j := 1) h hy (by omega) (by omega))
        rw [if_neg hy, if_neg h4]
        exact ⟨_, rfl, rfl⟩
    · have e : f_X7_in N M (nI c) 0 1 = some 1 := in_in (b := 1) (by omega) (by omega)
      rw [e]
      rcases (show c = 0 ∨ c = 1 by omega) with rfl | rfl <;> exact ⟨_, rfl, rfl⟩
