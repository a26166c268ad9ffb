/-! stay. -/
theorem lg0 (x : Int64) : (lg_cmp x 0 = 0) = (x = 0) := by
  unfold lg_cmp
  by_cases h : x > 0
  · rw [if_pos h]
    have : ¬ x = 0 := fun q => by subst q; exact absurd h (by decide)
    simp [this]
  · rw [if_neg h]
    by_cases h2 : x = 0
    · simp [h2]
    · simp [h2]
theorem lg1 {a : Nat} (h : 1 ≤ a) (hb : a < 2 ^ 63) : (0 : Int32) ≤ lg_cmp (lN a) 1 := by
  unfold lg_cmp
  by_cases h2 : lN a > 1
  · rw [if_pos h2]; decide
  · rw [if_neg h2]
    have h3 : ¬ lN 1 < lN a := h2
    rw [pk_lLT (by decide) hb] at h3
    have : a = 1 := by omega
    subst this
    rw [if_pos (show lN 1 = 1 from rfl)]; decide
theorem nz_l {a : Nat} (h : 1 ≤ a) (hb : a < 2 ^ 63) : nz64 (lN a) = true := by
  unfold nz64
  have : ¬ lN a = 0 := fun q => by
    have h2 : lN a = lN 0 := q
    rw [pk_lEQ hb (by decide)] at h2
    omega
  simp [this]
def prodN (f : Nat → Nat) : Nat → Nat
  | 0 => 1
  | n + 1 => prodN f n * f n
theorem sumN_split (f : Nat → Nat) (a : Nat) : ∀ b, sumN f (a + b) = sumN f a + sumN (fun i => f (a + i)) b
  | 0 => by simp [sumN]
  | b + 1 => by rw [← Nat.add_assoc, sumN, sumN_split f a b, sumN]; omega
theorem sumN_mul (f : Nat → Nat) (c : Nat) : ∀ n, sumN (fun i => f i * c) n = sumN f n * c
  | 0 => by simp [sumN]
  | n + 1 => by rw [sumN, sumN_mul f c n, sumN, Nat.add_mul]
theorem prodN_congr {f g : Nat → Nat} : ∀ {n : Nat}, (∀ i, i < n → f i = g i) → prodN f n = prodN g n
  | 0, _ => rfl
  | n + 1, h => by rw [prodN, prodN, prodN_congr (fun i hi => h i (by omega)), h n (by omega)]
def pop (x n : Nat) : Nat := sumN (fun i => if x.testBit i = true then 1 else 0) n
/-- the weight of one: a if he is in x, else b; who isn't in B may not be in x -/
def wgt (a b B x c : Nat) : Nat := if B.testBit c = true then (if x.testBit c = true then a else b) else (if x.testBit c = true then 0 else 1)
def SW (a b B k n : Nat) : Nat := sumN (fun x => if n ≤ pop x k then prodN (wgt a b B x) k else 0) (2 ^ k)
def CW (a b : Nat) : Nat → Nat → Nat
  | 0, n => if n = 0 then 1 else 0
  | g + 1, n => b * CW a b g n + a * CW a b g (n - 1)
theorem tb_hi {k x i : Nat} (hx : x < 2 ^ k) (hi : i < k) : (2 ^ k + x).testBit i = x.testBit i := Nat.testBit_two_pow_add_gt hi x
theorem tb_top {k x : Nat} (hx : x < 2 ^ k) : (2 ^ k + x).testBit k = true ∧ x.testBit k = false := by
  have h : x.testBit k = false := Nat.testBit_lt_two_pow hx
  exact ⟨by rw [Nat.testBit_two_pow_add_eq, h]; rfl, h⟩
theorem SW_eq (a b B : Nat) : ∀ k n, SW a b B k n = CW a b (pop B k) n
  | 0, n => by
    show sumN _ 1 = _
    simp only [sumN, pop, prodN, CW, Nat.zero_add]
    by_cases h : n = 0
    · simp [h]
    · have : ¬ n ≤ 0 := by omega
      simp [h]
  | k + 1, n => by
    have ih := SW_eq a b B k
    have e1 : SW a b B (k + 1) n = SW a b B k n * wgt a b B 0 k + SW a b B k (n - 1) * wgt a b B (2 ^ k) k := by
      unfold SW
      rw [Nat.pow_succ, Nat.mul_two, sumN_split, ← sumN_mul, ← sumN_mul]
      congr 1
      · apply sumN_congr
        intro x hx
        have h1 := (tb_top hx).2
        have h2 : pop x (k + 1) = pop x k := by unfold pop; rw [sumN]; simp [h1]
        have h3 : wgt a b B x k = wgt a b B 0 k := by unfold wgt; rw [h1]; simp
        rw [h2, prodN, h3]
        split
        · rfl
        · simp
      · apply sumN_congr
        intro x hx
        have h1 := (tb_top hx).1
        have h2 : pop (2 ^ k + x) (k + 1) = pop x k + 1 := by
          unfold pop
          rw [sumN, sumN_congr (g := fun i => if x.testBit i = true then 1 else 0) (fun i hi => by rw [tb_hi hx hi])]
          simp [h1]
        have h3 : wgt a b B (2 ^ k + x) k = wgt a b B (2 ^ k) k := by unfold wgt; rw [h1]; simp
        have h4 : prodN (wgt a b B (2 ^ k + x)) k = prodN (wgt a b B x) k := prodN_congr (fun i hi => by unfold wgt; rw [tb_hi hx hi])
        rw [h2, prodN, h3, h4]
        by_cases h5 : n ≤ pop x k + 1
        · rw [if_pos h5, if_pos (by omega)]
        · rw [if_neg h5, if_neg (by omega)]; simp
    rw [e1, ih, ih]
    have h6 : pop B (k + 1) = pop B k + (if B.testBit k = true then 1 else 0) := rfl
    rw [h6]
    unfold wgt
    cases B.testBit k with
    | true => simp [CW, Nat.mul_comm]
    | false => simp
def bin : Nat → Nat → Nat
  | _, 0 => 1
  | 0, _ + 1 => 0
  | n + 1, k + 1 => bin n k + bin n (k + 1)
theorem bin_next : ∀ g, g < 9 → ∀ j, j < 9 → bin g j * (g - j) / (j + 1) = bin g (j + 1) ∧ bin g j * (g - j) < 1000 := by decide +kernel
theorem CW_sum : ∀ g, g < 9 → ∀ n, n < 9 → ∀ p, p < 11 → sumN (fun j => if n ≤ j then bin g j * (10 - p) ^ j * p ^ (g - j) else 0) (g + 1) = CW (10 - p) p g n ∧ CW (10 - p) p g n ≤ 100000000 := by decide +kernel
theorem c_power {N : Nat} (hN : 1000 ≤ N) {M : Mem} {b e : Nat} (hb : b < 100) (he : e < 100) : f_X6_power N M (nI b) (nI e) = some (lN (b ^ e)) := by
  unfold f_X6_power
  refine Ok.eq (Ok.bind (lpE (fun n i a => f_X6_power_L5 N M (nI b) (nI e) n a i) e (fun j a => a = lN (b ^ j)) (fun r => r.1 = lN (b ^ e)) ?_ ?_ N 0 1 (by omega) rfl (by omega)) (fun a ha => Ok.ret ha))
  · intro f j a hj ha
    left
    refine ⟨_, rfl, ?_⟩
    show f_X6_power_L5 N M (nI b) (nI e) (f + 1) a (nI j) = _
    rw [f_X6_power_L5, ha, if_neg (by rw [n_le (by omega) (by omega)]; omega), nI_1, nI_l (by omega), lN_mul, Nat.pow_succ]
  · intro f a ha
    show Ok (f_X6_power_L5 N M (nI b) (nI e) (f + 1) a (nI e)) _
    rw [f_X6_power_L5, if_pos (by rw [n_le (by omega) (by omega)]; omega)]
    exact Ok.ret ha
theorem c_ways {N : Nat} (hN : 1000 ≤ N) {M : Mem} {g n p : Nat} (hg : g ≤ 8) (hn : n ≤ 8) (hp : p ≤ 10) : f_X6_waysToStay N M (nI g) (nI n) (nI p) = some (lN (CW (10 - p) p g n)) := by
  unfold f_X6_waysToStay
  refine Ok.eq (Ok.bind (lpE (fun n' i (a : Int64 × Int64) => f_X6_waysToStay_L8 N M (nI g) (nI n) (nI p) n' a.1 a.2 i) (g + 1) (fun j a => a.1 = lN (sumN (fun j => if n ≤ j then bin g j * (10 - p) ^ j * p ^ (g - j) else 0) j) ∧ a.2 = lN (bin g j)) (fun r => r.1 = lN (CW (10 - p) p g n)) ?_ ?_ N 0 (0, 1) (by omega) ⟨rfl, by cases g <;> rfl⟩ (by omega)) (fun a ha => Ok.ret ha))
  · intro f j a hj ⟨h1, h2⟩
    left
    have hb := bin_next g (by omega) j (by omega)
    refine ⟨(lN (sumN (fun j => if n ≤ j then bin g j * (10 - p) ^ j * p ^ (g - j) else 0) (j + 1)), lN (bin g (j + 1))), ⟨rfl, rfl⟩, ?_⟩
    show f_X6_waysToStay_L8 N M (nI g) (nI n) (nI p) (f + 1) a.1 a.2 (nI j) = _
    have hq : lN (bin g j) * (nI (g - j)).toInt64 / (nI (j + 1)).toInt64 = lN (bin g (j + 1)) := by
      rw [nI_l (by omega), nI_l (by omega), lN_mul, pk_lDiv (by have := hb.2; omega) (by omega) (by omega), hb.1]
    have hz : nz64 (nI (j + 1)).toInt64 = true := by rw [nI_l (by omega)]; exact nz_l (by omega) (by omega)
    have hs1 : (10 : Int32) - nI p = nI (10 - p) := n_sub (a := 10) (by omega)
    have hs2 : nI g - nI j = nI (g - j) := n_sub (by omega)
    rw [f_X6_waysToStay_L8, h1, h2, if_neg (by rw [n_lt (by omega) (by omega)]; omega), nI_1, hs1, hs2, c_power hN (by omega) (by omega), c_power hN (by omega) (by omega), hq, sumN]
    simp only [hz, if_true, Option.bind_some, lN_mul, lN_add]
    by_cases h3 : n ≤ j
    · rw [if_neg (by rw [n_lt (by omega) (by omega)]; omega), if_pos h3]; rfl
    · rw [if_pos (by rw [n_lt (by omega) (by omega)]; omega), if_neg h3]; rfl
  · intro f a ⟨h1, h2⟩
    show Ok (f_X6_waysToStay_L8 N M (nI g) (nI n) (nI p) (f + 1) a.1 a.2 (nI (g + 1))) _
    rw [f_X6_waysToStay_L8, if_pos (by rw [n_lt (by omega) (by omega)]; omega)]
    refine Ok.ret ?_
    show a.1 = _
    rw [h1, (CW_sum g (by omega) n (by omega) p (by omega)).1]
theorem c_gcd {N : Nat} {M : Mem} : ∀ (k a b j f : Nat), a < 2 ^ 40 → b < 2 ^ k → b < 2 ^ 40 → j + 2 * k + 1 < 100 → 2 * k + 1 < f → Ok (f_X6_commonDivisor_L9 N M f (lN a) (lN b) (nI j)) (fun r => r.1 = lN (Nat.gcd a b)) := by
  intro k
  induction k with
  | zero =>
    intro a b j f ha hb hb2 hj hf
    have : b = 0 := by omega
    subst this
    obtain ⟨f, rfl⟩ : ∃ g, f = g + 1 := ⟨f - 1, by omega⟩
    rw [f_X6_commonDivisor_L9, if_neg (by show ¬ nI 100 ≤ nI j; rw [n_le (by omega) (by omega)]; omega), if_pos (show lg_cmp (lN 0) 0 = 0 from rfl)]
    refine Ok.ret ?_
    show lN a = _
    rw [Nat.gcd_zero_right]
  | succ k ih =>
    intro a b j f ha hb hb2 hj hf
    obtain ⟨f, rfl⟩ : ∃ g, f = g + 3 := ⟨f - 3, by omega⟩
    have hp : 2 ^ (k + 1) = 2 * 2 ^ k := by rw [Nat.pow_succ]; omega
    rw [f_X6_commonDivisor_L9, if_neg (by show ¬ nI 100 ≤ nI j; rw [n_le (by omega) (by omega)]; omega)]
    by_cases h0 : b = 0
    · subst h0
      rw [if_pos (show lg_cmp (lN 0) 0 = 0 from rfl)]
      refine Ok.ret ?_
      show lN a = _
      rw [Nat.gcd_zero_right]
    · have hne : ¬ lN b = 0 := fun q => by
        have h2 : lN b = lN 0 := q
        rw [pk_lEQ (by omega) (by decide)] at h2
        exact h0 h2
      have hlt := Nat.mod_lt a (show b > 0 by omega)
      rw [if_neg (by rw [lg0]; exact hne), if_pos (nz_l (by omega) (by omega)), pk_lRem (by omega) (by omega) (by omega), nI_1]
      rw [f_X6_commonDivisor_L9, if_neg (by show ¬ nI 100 ≤ nI (j + 1); rw [n_le (by omega) (by omega)]; omega)]
      have hg : Nat.gcd a b = Nat.gcd b (a % b) := by rw [Nat.gcd_comm a b, Nat.gcd_rec b a, Nat.gcd_comm]
      by_cases h1 : a % b = 0
      · rw [h1, if_pos (show lg_cmp (lN 0) 0 = 0 from rfl)]
        refine Ok.ret ?_
        show lN b = _
        rw [hg, h1, Nat.gcd_zero_right]
      · have hne : ¬ lN (a % b) = 0 := fun q => by
          have h2 : lN (a % b) = lN 0 := q
          rw [pk_lEQ (by omega) (by decide)] at h2
          exact h1 h2
        have hlt2 := Nat.mod_lt b (show a % b > 0 by omega)
        rw [if_neg (by rw [lg0]; exact hne), if_pos (nz_l (by omega) (by omega)), pk_lRem (by omega) (by omega) (by omega), nI_1]
        have hg2 : Nat.gcd b (a % b) = Nat.gcd (a % b) (b % (a % b)) := by rw [Nat.gcd_comm b, Nat.gcd_rec (a % b) b, Nat.gcd_comm]
        have hhalf : b % (a % b) < 2 ^ k := by
          have h5 := Nat.div_add_mod b (a % b)
          have h6 : 1 ≤ b / (a % b) := Nat.div_pos (by omega) (by omega)
          have h7 : a % b * 1 ≤ a % b * (b / (a % b)) := Nat.mul_le_mul_left _ h6
          omega
        rw [hg, hg2]
        exact ih (a % b) (b % (a % b)) (j + 1 + 1) (f + 1) (by omega) hhalf (by omega) (by omega) (by omega)
theorem m_gcd {N : Nat} {M : Mem} {c d e : _} : ∀ (f a b : Nat), a < 2 ^ 40 → b < 2 ^ 40 → b < f → Ok (f_X7_stay_L182 N M c d e f (lN a) (lN b)) (fun r => r.1 = lN (Nat.gcd a b)) := by
  intro f
  induction f with
  | zero => intro a b _ _ h; omega
  | succ f ih =>
    intro a b ha hb hf
    rw [f_X7_stay_L182]
    by_cases h0 : b = 0
    · subst h0
      rw [if_pos (show lg_cmp (lN 0) 0 = 0 from rfl)]
      refine Ok.ret ?_
      show lN a = _
      rw [Nat.gcd_zero_right]
    · have hne : ¬ lN b = 0 := fun q => by
        have h2 : lN b = lN 0 := q
        rw [pk_lEQ (by omega) (by decide)] at h2
        exact h0 h2
      have hlt := Nat.mod_lt a (show b > 0 by omega)
      rw [if_neg (by rw [lg0]; exact hne), if_pos (nz_l (by omega) (by omega)), pk_lRem (by omega) (by omega) (by omega)]
      have hg : Nat.gcd a b = Nat.gcd b (a % b) := by rw [Nat.gcd_comm a b, Nat.gcd_rec b a, Nat.gcd_comm]
      rw [hg]
      exact ih b (a % b) (by omega) (by omega) (by omega)
