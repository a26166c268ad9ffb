/-! Plain facts: numbers, bits, loops (some began as rows of kit/laws BITS and NUMBERS). -/
def Ok {α : Type} (x : Option α) (Q : α → Prop) : Prop := ∃ a, x = some a ∧ Q a
theorem Ok.ret {α : Type} {a : α} {Q : α → Prop} (h : Q a) : Ok (some a) Q := ⟨a, rfl, h⟩
theorem Ok.bind {α β : Type} {x : Option α} {f : α → Option β} {P : α → Prop} {Q : β → Prop} (h : Ok x P) (k : ∀ a, P a → Ok (f a) Q) : Ok (x.bind f) Q := by
  obtain ⟨a, rfl, ha⟩ := h
  exact k a ha
theorem Ok.bindE {α β : Type} {x : Option α} {f : α → Option β} {a : α} {Q : β → Prop} (h : x = some a) (k : Ok (f a) Q) : Ok (x.bind f) Q := by
  rw [h]; exact k
theorem Ok.mono {α : Type} {x : Option α} {P Q : α → Prop} (h : Ok x P) (k : ∀ a, P a → Q a) : Ok x Q := by
  obtain ⟨a, rfl, ha⟩ := h
  exact ⟨a, rfl, k a ha⟩
theorem Ok.eq {α : Type} {x : Option α} {a : α} (h : Ok x (fun y => y = a)) : x = some a := by
  obtain ⟨b, rfl, hb⟩ := h
  rw [hb]
theorem lpE {α β : Type} (F : Nat → Int32 → α → Option β) (e : Nat) (I : Nat → α → Prop) (Q : β → Prop)
    (hs : ∀ n j a, j < e → I j a → (∃ a', I (j + 1) a' ∧ F (n + 1) (nI j) a = F n (nI (j + 1)) a') ∨ Ok (F (n + 1) (nI j) a) Q)
    (he : ∀ n a, I e a → Ok (F (n + 1) (nI e) a) Q) : ∀ (n j : Nat) (a : α), j ≤ e → I j a → e - j < n → Ok (F n (nI j) a) Q := by
  intro n
  induction n with
  | zero => intro j a _ _ h; omega
  | succ n ih =>
    intro j a hj hI hn
    by_cases h : j = e
    · subst h; exact he n a hI
    · rcases hs n j a (by omega) hI with ⟨a', h1, h2⟩ | h1
      · rw [h2]; exact ih (j + 1) a' (by omega) h1 (by omega)
      · exact h1
theorem i0 : (0 : Int32) = nI 0 := rfl
theorem i1 : (1 : Int32) = nI 1 := rfl
theorem i2 : (2 : Int32) = nI 2 := rfl
theorem i3 : (3 : Int32) = nI 3 := rfl
theorem i4 : (4 : Int32) = nI 4 := rfl
theorem i5 : (5 : Int32) = nI 5 := rfl
theorem i6 : (6 : Int32) = nI 6 := rfl
theorem i7 : (7 : Int32) = nI 7 := rfl
theorem i8 : (8 : Int32) = nI 8 := rfl
theorem i9 : (9 : Int32) = nI 9 := rfl
theorem i10 : (10 : Int32) = nI 10 := rfl
theorem i12 : (12 : Int32) = nI 12 := rfl
theorem i13 : (13 : Int32) = nI 13 := rfl
theorem i14 : (14 : Int32) = nI 14 := rfl
theorem i20 : (20 : Int32) = nI 20 := rfl
theorem i21 : (21 : Int32) = nI 21 := rfl
theorem i29 : (29 : Int32) = nI 29 := rfl
theorem i30 : (30 : Int32) = nI 30 := rfl
theorem i31 : (31 : Int32) = nI 31 := rfl
theorem i32 : (32 : Int32) = nI 32 := rfl
theorem i33 : (33 : Int32) = nI 33 := rfl
theorem i37 : (37 : Int32) = nI 37 := rfl
theorem i40 : (40 : Int32) = nI 40 := rfl
theorem i41 : (41 : Int32) = nI 41 := rfl
theorem i45 : (45 : Int32) = nI 45 := rfl
theorem i48 : (48 : Int32) = nI 48 := rfl
theorem i57 : (57 : Int32) = nI 57 := rfl
theorem i59 : (59 : Int32) = nI 59 := rfl
theorem i60 : (60 : Int32) = nI 60 := rfl
theorem i97 : (97 : Int32) = nI 97 := rfl
theorem i98 : (98 : Int32) = nI 98 := rfl
theorem i99 : (99 : Int32) = nI 99 := rfl
theorem i100 : (100 : Int32) = nI 100 := rfl
theorem i122 : (122 : Int32) = nI 122 := rfl
theorem i160 : (160 : Int32) = nI 160 := rfl
theorem i255 : (255 : Int32) = nI 255 := rfl
theorem i256 : (256 : Int32) = nI 256 := rfl
theorem i400 : (400 : Int32) = nI 400 := rfl
theorem i999 : (999 : Int32) = nI 999 := rfl
theorem im1 : -nI 1 = nI 4294967295 := by decide +kernel
theorem inb_nI {j n : Nat} (h : j < 2147483648) : inb (nI j) n = decide (j < n) := by
  unfold inb
  rw [nI_clamp h, decide_eq_true (nI_pos' h), Bool.true_and]
theorem n_le {a b : Nat} (ha : a < 2147483648) (hb : b < 2147483648) : (nI a ≤ nI b) = (a ≤ b) := propext (nI_leI ha hb)
theorem n_lt {a b : Nat} (ha : a < 2147483648) (hb : b < 2147483648) : (nI a < nI b) = (a < b) := propext (nI_ltI ha hb)
theorem n_eq {a b : Nat} (ha : a < 2147483648) (hb : b < 2147483648) : (nI a = nI b) = (a = b) := propext (nI_eq ha hb)
theorem n_cl {a : Nat} (ha : a < 2147483648) : (nI a).toNatClampNeg = a := nI_clamp ha
theorem n_sub {a b : Nat} (h : b ≤ a) : nI a - nI b = nI (a - b) := pk_sub h
theorem x_and (a b : Nat) : nI a &&& nI b = nI (a &&& b) := by
  apply Int32.toBitVec_inj.mp
  rw [Int32.toBitVec_and]
  apply BitVec.eq_of_toNat_eq
  show (BitVec.ofNat 32 a &&& BitVec.ofNat 32 b).toNat = (BitVec.ofNat 32 (a &&& b)).toNat
  rw [BitVec.toNat_and, BitVec.toNat_ofNat, BitVec.toNat_ofNat, BitVec.toNat_ofNat, Nat.and_mod_two_pow]
theorem x_or (a b : Nat) : nI a ||| nI b = nI (a ||| b) := by
  apply Int32.toBitVec_inj.mp
  rw [Int32.toBitVec_or]
  apply BitVec.eq_of_toNat_eq
  show (BitVec.ofNat 32 a ||| BitVec.ofNat 32 b).toNat = (BitVec.ofNat 32 (a ||| b)).toNat
  rw [BitVec.toNat_or, BitVec.toNat_ofNat, BitVec.toNat_ofNat, BitVec.toNat_ofNat, Nat.or_mod_two_pow]
theorem x_xor (a b : Nat) : nI a ^^^ nI b = nI (a ^^^ b) := by
  apply Int32.toBitVec_inj.mp
  rw [Int32.toBitVec_xor]
  apply BitVec.eq_of_toNat_eq
  show (BitVec.ofNat 32 a ^^^ BitVec.ofNat 32 b).toNat = (BitVec.ofNat 32 (a ^^^ b)).toNat
  rw [BitVec.toNat_xor, BitVec.toNat_ofNat, BitVec.toNat_ofNat, BitVec.toNat_ofNat, Nat.xor_mod_two_pow]
theorem s_l31 : ∀ n, n < 32 → ((nI n &&& nI 31).toBitVec.smod 32).toNat = n := by decide +kernel
theorem x_shr {b j : Nat} (hb : b < 2147483648) (hj : j < 32) : nI b >>> (nI j &&& nI 31) = nI (b / 2 ^ j) := pk_shrN hb _ j (s_l31 j hj)
theorem x_shl {b j : Nat} (hj : j < 32) (hb : b * 2 ^ j < 4294967296) : nI b <<< (nI j &&& nI 31) = nI (b * 2 ^ j) := pk_shlN _ j (s_l31 j hj) hb
theorem x_1 (b : Nat) : nI b &&& nI 1 = nI (b % 2) := by
  rw [x_and]; exact congrArg nI (Nat.and_two_pow_sub_one_eq_mod b 1)
theorem x_tb (b j : Nat) : (b / 2 ^ j % 2 = 0 ↔ b.testBit j = false) ∧ (b / 2 ^ j % 2 = 1 ↔ b.testBit j = true) := by
  rw [Nat.testBit_eq_decide_div_mod_eq]
  have := Nat.mod_lt (b / 2 ^ j) (show 0 < 2 by decide)
  constructor
  · rw [decide_eq_false_iff_not]; omega
  · rw [decide_eq_true_iff]
theorem bt0 {b j : Nat} (hb : b < 2147483648) (hj : j < 32) : ((nI b >>> (nI j &&& nI 31)) &&& nI 1 = nI 0) = (b.testBit j = false) := by
  rw [x_shr hb hj, x_1, n_eq (by have := Nat.mod_lt (b / 2 ^ j) (show 0 < 2 by decide); omega) (by decide)]
  exact propext (x_tb b j).1
theorem bt1 {b j : Nat} (hb : b < 2147483648) (hj : j < 32) : ((nI b >>> (nI j &&& nI 31)) &&& nI 1 = nI 1) = (b.testBit j = true) := by
  rw [x_shr hb hj, x_1, n_eq (by have := Nat.mod_lt (b / 2 ^ j) (show 0 < 2 by decide); omega) (by decide)]
  exact propext (x_tb b j).2
theorem btv {b j : Nat} (hb : b < 2147483648) (hj : j < 32) : ((nI b >>> (nI j &&& nI 31)) &&& nI 1) = nI (if b.testBit j then 1 else 0) := by
  rw [x_shr hb hj, x_1]
  have h := x_tb b j
  have := Nat.mod_lt (b / 2 ^ j) (show 0 < 2 by decide)
  cases hc : b.testBit j with
  | true => rw [h.2.mpr hc]; rfl
  | false => rw [h.1.mpr hc]; rfl
theorem x_pow {j : Nat} (hj : j < 32) : nI 1 <<< (nI j &&& nI 31) = nI (2 ^ j) := by
  rw [x_shl hj (by rw [Nat.one_mul]; exact Nat.pow_lt_pow_right (by decide) hj), Nat.one_mul]
/-- a without the bits of b -/
def ann (a b : Nat) : Nat := a &&& (b ^^^ 4294967295)
theorem x_ann (a b : Nat) : nI a &&& (nI b ^^^ nI 4294967295) = nI (ann a b) := by rw [x_xor, x_and]; rfl
theorem tb_ann {a b i : Nat} (ha : a < 4294967296) : (ann a b).testBit i = (a.testBit i && !b.testBit i) := by
  unfold ann
  rw [Nat.testBit_and, Nat.testBit_xor]
  by_cases hi : i < 32
  · have : (4294967295 : Nat).testBit i = true := by
      have h : ∀ i, i < 32 → (4294967295 : Nat).testBit i = true := by decide +kernel
      exact h i hi
    rw [this]; cases b.testBit i <;> rfl
  · have : a.testBit i = false := Nat.testBit_lt_two_pow (Nat.lt_of_lt_of_le ha (Nat.pow_le_pow_right (n := 2) (by decide) (show 32 ≤ i by omega)))
    rw [this]; rfl
/-- bits told by a predicate -/
def orB (p : Nat → Bool) : Nat → Nat
  | 0 => 0
  | n + 1 => orB p n + (if p n = true then 2 ^ n else 0)
theorem orB_lt (p : Nat → Bool) : ∀ n, orB p n < 2 ^ n
  | 0 => by simp [orB]
  | n + 1 => by
    have := orB_lt p n
    rw [orB, Nat.pow_succ]
    split <;> omega
theorem orB_lt8 (p : Nat → Bool) {n : Nat} (h : n ≤ 8) : orB p n < 256 := Nat.lt_of_lt_of_le (orB_lt p n) (Nat.pow_le_pow_right (by decide) h)
theorem orB_or (p : Nat → Bool) (n : Nat) : orB p n ||| 2 ^ n = orB p n + 2 ^ n := by
  have h := orB_lt p n
  rw [Nat.or_comm, Nat.add_comm]
  have := Nat.two_pow_add_eq_or_of_lt h 1
  rw [Nat.mul_one] at this
  exact this.symm
theorem tb_orB (p : Nat → Bool) : ∀ n i, (orB p n).testBit i = (decide (i < n) && p i)
  | 0, i => by simp [orB]
  | n + 1, i => by
    have h := orB_lt p n
    have ih := tb_orB p n i
    rw [orB]
    cases hp : p n with
    | false =>
      rw [if_neg (by decide), Nat.add_zero, ih]
      by_cases h1 : i < n
      · simp [h1, Nat.lt_succ_of_lt h1]
      · by_cases h2 : i = n
        · subst h2; simp [hp]
        · have : ¬ i < n + 1 := by omega
          simp [h1, this]
    | true =>
      rw [if_pos rfl, ← orB_or, Nat.testBit_or, Nat.testBit_two_pow, ih]
      by_cases h1 : i < n
      · have h3 : ¬ n = i := by omega
        simp [h1, h3, Nat.lt_succ_of_lt h1]
      · by_cases h2 : i = n
        · subst h2; simp [hp]
        · have h3 : ¬ i < n + 1 := by omega
          have h4 : ¬ n = i := by omega
          simp [h1, h3, h4]
def sumN (f : Nat → Nat) : Nat → Nat
  | 0 => 0
  | n + 1 => sumN f n + f n
def anyN (p : Nat → Bool) : Nat → Bool
  | 0 => false
  | n + 1 => anyN p n || p n
theorem anyN_iff (p : Nat → Bool) : ∀ n, anyN p n = true ↔ ∃ i, i < n ∧ p i = true
  | 0 => by simp [anyN]
  | n + 1 => by
    rw [anyN, Bool.or_eq_true, anyN_iff p n]
    constructor
    · rintro (⟨i, h1, h2⟩ | h)
      · exact ⟨i, by omega, h2⟩
      · exact ⟨n, by omega, h⟩
    · rintro ⟨i, h1, h2⟩
      by_cases h : i = n
      · subst h; exact Or.inr h2
      · exact Or.inl ⟨i, by omega, h2⟩
theorem sumN_congr {f g : Nat → Nat} : ∀ {n : Nat}, (∀ i, i < n → f i = g i) → sumN f n = sumN g n
  | 0, _ => rfl
  | n + 1, h => by rw [sumN, sumN, sumN_congr (fun i hi => h i (by omega)), h n (by omega)]
theorem sumN_le {f : Nat → Nat} {b : Nat} : ∀ {n : Nat}, (∀ i, i < n → f i ≤ b) → sumN f n ≤ n * b
  | 0, _ => by simp [sumN]
  | n + 1, h => by
    have h1 := sumN_le (n := n) (fun i hi => h i (by omega))
    have h2 := h n (by omega)
    rw [sumN, Nat.succ_mul]; omega
theorem sumN_pos {f : Nat → Nat} : ∀ {n : Nat}, 0 < sumN f n ↔ ∃ i, i < n ∧ 0 < f i
  | 0 => by simp [sumN]
  | n + 1 => by
    rw [sumN]
    have ih := sumN_pos (f := f) (n := n)
    constructor
    · intro h
      by_cases h1 : 0 < sumN f n
      · obtain ⟨i, h2, h3⟩ := ih.mp h1
        exact ⟨i, by omega, h3⟩
      · exact ⟨n, by omega, by omega⟩
    · rintro ⟨i, h1, h2⟩
      by_cases h : i = n
      · subst h; omega
      · have := ih.mpr ⟨i, by omega, h2⟩; omega
theorem up2_same (M : Mem) (k j : Nat) (v : Int32) : up2 M k j v k j = v := by simp [up2]
theorem up2_k {M : Mem} {k j a b : Nat} {v : Int32} (h : a ≠ k) : up2 M k j v a b = M a b := by simp [up2, h]
theorem up2_j {M : Mem} {k j a b : Nat} {v : Int32} (h : b ≠ j) : up2 M k j v a b = M a b := by simp [up2, h]
