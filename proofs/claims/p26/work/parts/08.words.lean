/-! Helpers; the words that are used; a row for each field link; a row for each method link. -/
def inb (i : Int32) (n : Nat) : Bool := decide (0 ≤ i) && decide (i.toNatClampNeg < n)
theorem inb_in {i : Int32} {n : Nat} (h : inb i n = true) : vp_in i n := by
  unfold inb at h
  simp only [Bool.and_eq_true, decide_eq_true_eq] at h
  intro q
  rcases q with q | q
  · exact absurd q (Int32.not_lt.mpr h.1)
  · omega
theorem inb_lt {i : Int32} {n : Nat} (h : inb i n = true) : i.toNatClampNeg < n := by
  unfold inb at h
  simp only [Bool.and_eq_true, decide_eq_true_eq] at h
  exact h.2
def zok (v : Int32) : Bool := v == 0 || v == 1
theorem zok_n {v : Int32} (h : zok v = true) : narrow .boolean (.int v) = .int v := by
  unfold zok at h
  simp only [Bool.or_eq_true, beq_iff_eq] at h
  rcases h with rfl | rfl <;> rfl
theorem zok_f {v : Int32} (h : zok v = true) : fits .boolean (.int v) = true := by
  unfold zok at h
  exact h
def nz32 (v : Int32) : Bool := !(v == 0)
def nz64 (v : Int64) : Bool := !(v == 0)
theorem nz32_n {v : Int32} (h : nz32 v = true) : ¬ v = 0 := by simpa [nz32] using h
theorem nz64_n {v : Int64} (h : nz64 v = true) : ¬ v = 0 := by simpa [nz64] using h
theorem gd {α : Type} {c : Bool} {x : Option α} {y : α} (h : (if c = true then x else none) = some y) : c = true ∧ x = some y := by
  cases c
  · simp at h
  · simpa using h
theorem ite_t {α : Type} {c : Prop} [Decidable c] {a b y : α} (hc : c) (h : (if c then a else b) = y) : a = y := by rw [if_pos hc] at h; exact h
theorem ite_f {α : Type} {c : Prop} [Decidable c] {a b y : α} (hc : ¬ c) (h : (if c then a else b) = y) : b = y := by rw [if_neg hc] at h; exact h
theorem bd {α β : Type} {x : Option α} {f : α → Option β} {y : β} (h : x.bind f = some y) : ∃ a, x = some a ∧ f a = some y := by
  cases x with
  | none => cases h
  | some a => exact ⟨a, rfl, h⟩
def bS {α β : Type} (x : Option (α ⊕ β)) (f : α → Option β) : Option β := match x with
  | some (.inl a) => f a
  | some (.inr b) => some b
  | none => none
def bT {α β γ : Type} (x : Option (α ⊕ β)) (f : α → Option (γ ⊕ β)) : Option (γ ⊕ β) := match x with
  | some (.inl a) => f a
  | some (.inr b) => some (.inr b)
  | none => none
theorem bS_s {α β : Type} {x : Option (α ⊕ β)} {f : α → Option β} {y : β} (h : bS x f = some y) : ∃ q, x = some q ∧ (∀ a, q = .inl a → f a = some y) ∧ (∀ b, q = .inr b → b = y) := by
  match x, h with
  | some (.inl a), h => exact ⟨_, rfl, fun a' e => (by cases e; exact h), fun b e => (by cases e)⟩
  | some (.inr b), h => exact ⟨_, rfl, fun a' e => (by cases e), fun b' e => (by cases e; exact Option.some.inj h)⟩
theorem bT_s {α β γ : Type} {x : Option (α ⊕ β)} {f : α → Option (γ ⊕ β)} {y : γ ⊕ β} (h : bT x f = some y) : ∃ q, x = some q ∧ (∀ a, q = .inl a → f a = some y) ∧ (∀ b, q = .inr b → .inr b = y) := by
  match x, h with
  | some (.inl a), h => exact ⟨_, rfl, fun a' e => (by cases e; exact h), fun b e => (by cases e)⟩
  | some (.inr b), h => exact ⟨_, rfl, fun a' e => (by cases e), fun b' e => (by cases e; exact Option.some.inj h)⟩
/-- the evenings, the told ones, rows of whole numbers -/
def ev (k : Nat) : Prop := k ∈ ([21, 23, 29, 31, 33, 35, 37, 39, 41, 45, 47, 49, 51, 53, 55, 57, 59, 64, 66] : List Nat)
def td (k : Nat) : Prop := k ∈ ([1, 10] : List Nat)
def ar (n k : Nat) : Prop := kd k = 20 ∧ ln k = n ∧ k < 68
theorem ev_all : ∀ k ∈ ([21, 23, 29, 31, 33, 35, 37, 39, 41, 45, 47, 49, 51, 53, 55, 57, 59, 64, 66] : List Nat), kd k = 0 ∧ ln k = 10 ∧ k < 68 ∧ kd (k + 1) = 20 ∧ ln (k + 1) = 8 ∧ k + 1 < 68 := by decide +kernel
theorem td_all : ∀ k ∈ ([1, 10] : List Nat), kd k = 4 ∧ ln k = 12 ∧ k < 68 ∧ (ar 8 (k + 1) ∧ ar 8 (k + 2) ∧ ar 8 (k + 3) ∧ ar 4 (k + 4) ∧ ar 4 (k + 5) ∧ ar 4 (k + 6) ∧ ar 4 (k + 7)) := by
  intro k hk
  simp only [List.mem_cons, List.not_mem_nil, or_false] at hk
  rcases hk with rfl | rfl <;> (unfold ar; decide +kernel)
theorem ev_kd {k : Nat} (h : ev k) : kd k = 0 := (ev_all k h).1
theorem ev_ln {k : Nat} (h : ev k) : ln k = 10 := (ev_all k h).2.1
theorem ev_kz {k : Nat} (h : ev k) : kd (k + 1) = 20 := (ev_all k h).2.2.2.1
theorem ev_lz {k : Nat} (h : ev k) : ln (k + 1) = 8 := (ev_all k h).2.2.2.2.1
abbrev SC (X : Cx) : Prop := ∀ c, c < 68 → c ∈ xcs X
abbrev SM (X : Cx) : Prop := ∀ c, 70 ≤ c → c < 83 → c ∈ xcs X
theorem ev_m {X : Cx} (hS : SC X) {k : Nat} (h : ev k) : k ∈ xcs X := hS k (ev_all k h).2.2.1
theorem ev_mz {X : Cx} (hS : SC X) {k : Nat} (h : ev k) : k + 1 ∈ xcs X := hS (k + 1) (ev_all k h).2.2.2.2.2
theorem td_kd {k : Nat} (h : td k) : kd k = 4 := (td_all k h).1
theorem td_ln {k : Nat} (h : td k) : ln k = 12 := (td_all k h).2.1
theorem td_m {X : Cx} (hS : SC X) {k : Nat} (h : td k) : k ∈ xcs X := hS k (td_all k h).2.2.1
theorem td_a0 {k : Nat} (h : td k) : ar 8 (k + 1) := (td_all k h).2.2.2.1
theorem td_a1 {k : Nat} (h : td k) : ar 8 (k + 2) := (td_all k h).2.2.2.2.1
theorem td_a2 {k : Nat} (h : td k) : ar 8 (k + 3) := (td_all k h).2.2.2.2.2.1
theorem td_a3 {k : Nat} (h : td k) : ar 4 (k + 4) := (td_all k h).2.2.2.2.2.2.1
theorem td_a4 {k : Nat} (h : td k) : ar 4 (k + 5) := (td_all k h).2.2.2.2.2.2.2.1
theorem td_a5 {k : Nat} (h : td k) : ar 4 (k + 6) := (td_all k h).2.2.2.2.2.2.2.2.1
theorem td_a6 {k : Nat} (h : td k) : ar 4 (k + 7) := (td_all k h).2.2.2.2.2.2.2.2.2
theorem ar_m {X : Cx} (hS : SC X) {n k : Nat} (h : ar n k) : k ∈ xcs X := hS k h.2.2
theorem ev_lev {i : Int32} (h : inb i 7 = true) : ev (29 + 2 * i.toNatClampNeg) := by
  have h1 := inb_lt h
  generalize i.toNatClampNeg = j at h1
  have h2 : ∀ j, j < 7 → ev (29 + 2 * j) := by unfold ev; decide +kernel
  exact h2 j h1
theorem ev_rin {i : Int32} (h : inb i 8 = true) : ev (45 + 2 * i.toNatClampNeg) := by
  have h1 := inb_lt h
  generalize i.toNatClampNeg = j at h1
  have h2 : ∀ j, j < 8 → ev (45 + 2 * j) := by unfold ev; decide +kernel
  exact h2 j h1
theorem ev_kep {i : Int32} (h : inb i 2 = true) : ev (64 + 2 * i.toNatClampNeg) := by
  have h1 := inb_lt h
  generalize i.toNatClampNeg = j at h1
  have h2 : ∀ j, j < 2 → ev (64 + 2 * j) := by unfold ev; decide +kernel
  exact h2 j h1
theorem kdc_0 : kd 0 = 5 := rfl
theorem lnc_0 : ln 0 = 10 := rfl
theorem kdc_1 : kd 1 = 4 := rfl
theorem lnc_1 : ln 1 = 12 := rfl
theorem kdc_2 : kd 2 = 20 := rfl
theorem lnc_2 : ln 2 = 8 := rfl
theorem kdc_3 : kd 3 = 20 := rfl
theorem lnc_3 : ln 3 = 8 := rfl
theorem kdc_4 : kd 4 = 20 := rfl
theorem lnc_4 : ln 4 = 8 := rfl
theorem kdc_5 : kd 5 = 20 := rfl
theorem lnc_5 : ln 5 = 4 := rfl
theorem kdc_6 : kd 6 = 20 := rfl
theorem lnc_6 : ln 6 = 4 := rfl
theorem kdc_7 : kd 7 = 20 := rfl
theorem lnc_7 : ln 7 = 4 := rfl
theorem kdc_8 : kd 8 = 20 := rfl
theorem lnc_8 : ln 8 = 4 := rfl
theorem kdc_9 : kd 9 = 3 := rfl
theorem lnc_9 : ln 9 = 7 := rfl
theorem kdc_10 : kd 10 = 4 := rfl
theorem lnc_10 : ln 10 = 12 := rfl
theorem kdc_11 : kd 11 = 20 := rfl
theorem lnc_11 : ln 11 = 8 := rfl
theorem kdc_12 : kd 12 = 20 := rfl
theorem lnc_12 : ln 12 = 8 := rfl
theorem kdc_13 : kd 13 = 20 := rfl
theorem lnc_13 : ln 13 = 8 := rfl
theorem kdc_14 : kd 14 = 20 := rfl
theorem lnc_14 : ln 14 = 4 := rfl
theorem kdc_15 : kd 15 = 20 := rfl
theorem lnc_15 : ln 15 = 4 := rfl
theorem kdc_16 : kd 16 = 20 := rfl
theorem lnc_16 : ln 16 = 4 := rfl
theorem kdc_17 : kd 17 = 20 := rfl
theorem lnc_17 : ln 17 = 4 := rfl
theorem kdc_18 : kd 18 = 21 := rfl
theorem lnc_18 : ln 18 = 160 := rfl
theorem kdc_19 : kd 19 = 20 := rfl
theorem lnc_19 : ln 19 = 3 := rfl
theorem kdc_20 : kd 20 = 24 := rfl
theorem lnc_20 : ln 20 = 13 := rfl
theorem kdc_21 : kd 21 = 0 := rfl
theorem lnc_21 : ln 21 = 10 := rfl
theorem kdc_22 : kd 22 = 20 := rfl
theorem lnc_22 : ln 22 = 8 := rfl
theorem kdc_23 : kd 23 = 0 := rfl
theorem lnc_23 : ln 23 = 10 := rfl
theorem kdc_24 : kd 24 = 20 := rfl
theorem lnc_24 : ln 24 = 8 := rfl
theorem kdc_25 : kd 25 = 2 := rfl
theorem lnc_25 : ln 25 = 5 := rfl
theorem kdc_26 : kd 26 = 20 := rfl
theorem lnc_26 : ln 26 = 6 := rfl
theorem kdc_27 : kd 27 = 20 := rfl
theorem lnc_27 : ln 27 = 6 := rfl
theorem kdc_28 : kd 28 = 23 := rfl
theorem lnc_28 : ln 28 = 7 := rfl
theorem kdc_29 : kd 29 = 0 := rfl
theorem lnc_29 : ln 29 = 10 := rfl
theorem kdc_30 : kd 30 = 20 := rfl
theorem lnc_30 : ln 30 = 8 := rfl
theorem kdc_31 : kd 31 = 0 := rfl
theorem lnc_31 : ln 31 = 10 := rfl
theorem kdc_32 : kd 32 = 20 := rfl
theorem lnc_32 : ln 32 = 8 := rfl
theorem kdc_33 : kd 33 = 0 := rfl
theorem lnc_33 : ln 33 = 10 := rfl
theorem kdc_34 : kd 34 = 20 := rfl
theorem lnc_34 : ln 34 = 8 := rfl
theorem kdc_35 : kd 35 = 0 := rfl
theorem lnc_35 : ln 35 = 10 := rfl
theorem kdc_36 : kd 36 = 20 := rfl
theorem lnc_36 : ln 36 = 8 := rfl
theorem kdc_37 : kd 37 = 0 := rfl
theorem lnc_37 : ln 37 = 10 := rfl
theorem kdc_38 : kd 38 = 20 := rfl
theorem lnc_38 : ln 38 = 8 := rfl
theorem kdc_39 : kd 39 = 0 := rfl
theorem lnc_39 : ln 39 = 10 := rfl
theorem kdc_40 : kd 40 = 20 := rfl
theorem lnc_40 : ln 40 = 8 := rfl
theorem kdc_41 : kd 41 = 0 := rfl
theorem lnc_41 : ln 41 = 10 := rfl
theorem kdc_42 : kd 42 = 20 := rfl
theorem lnc_42 : ln 42 = 8 := rfl
theorem kdc_43 : kd 43 = 1 := rfl
theorem lnc_43 : ln 43 = 3 := rfl
theorem kdc_44 : kd 44 = 23 := rfl
theorem lnc_44 : ln 44 = 8 := rfl
theorem kdc_45 : kd 45 = 0 := rfl
theorem lnc_45 : ln 45 = 10 := rfl
theorem kdc_46 : kd 46 = 20 := rfl
theorem lnc_46 : ln 46 = 8 := rfl
theorem kdc_47 : kd 47 = 0 := rfl
theorem lnc_47 : ln 47 = 10 := rfl
theorem kdc_48 : kd 48 = 20 := rfl
theorem lnc_48 : ln 48 = 8 := rfl
theorem kdc_49 : kd 49 = 0 := rfl
theorem lnc_49 : ln 49 = 10 := rfl
theorem kdc_50 : kd 50 = 20 := rfl
theorem lnc_50 : ln 50 = 8 := rfl
theorem kdc_51 : kd 51 = 0 := rfl
theorem lnc_51 : ln 51 = 10 := rfl
theorem kdc_52 : kd 52 = 20 := rfl
theorem lnc_52 : ln 52 = 8 := rfl
theorem kdc_53 : kd 53 = 0 := rfl
theorem lnc_53 : ln 53 = 10 := rfl
theorem kdc_54 : kd 54 = 20 := rfl
theorem lnc_54 : ln 54 = 8 := rfl
theorem kdc_55 : kd 55 = 0 := rfl
theorem lnc_55 : ln 55 = 10 := rfl
theorem kdc_56 : kd 56 = 20 := rfl
theorem lnc_56 : ln 56 = 8 := rfl
theorem kdc_57 : kd 57 = 0 := rfl
theorem lnc_57 : ln 57 = 10 := rfl
theorem kdc_58 : kd 58 = 20 := rfl
theorem lnc_58 : ln 58 = 8 := rfl
theorem kdc_59 : kd 59 = 0 := rfl
theorem lnc_59 : ln 59 = 10 := rfl
theorem kdc_60 : kd 60 = 20 := rfl
theorem lnc_60 : ln 60 = 8 := rfl
theorem kdc_61 : kd 61 = 23 := rfl
theorem lnc_61 : ln 61 = 2 := rfl
theorem kdc_62 : kd 62 = 22 := rfl
theorem lnc_62 : ln 62 = 2 := rfl
theorem kdc_63 : kd 63 = 20 := rfl
theorem lnc_63 : ln 63 = 12 := rfl
theorem kdc_64 : kd 64 = 0 := rfl
theorem lnc_64 : ln 64 = 10 := rfl
theorem kdc_65 : kd 65 = 20 := rfl
theorem lnc_65 : ln 65 = 8 := rfl
theorem kdc_66 : kd 66 = 0 := rfl
theorem lnc_66 : ln 66 = 10 := rfl
theorem kdc_67 : kd 67 = 20 := rfl
theorem lnc_67 : ln 67 = 8 := rfl
theorem kdc_70 : kd 70 = 6 := rfl
theorem lnc_70 : ln 70 = 21 := rfl
theorem kdc_71 : kd 71 = 20 := rfl
theorem lnc_71 : ln 71 = 160 := rfl
theorem kdc_72 : kd 72 = 20 := rfl
theorem lnc_72 : ln 72 = 45 := rfl
theorem kdc_73 : kd 73 = 20 := rfl
theorem lnc_73 : ln 73 = 45 := rfl
theorem kdc_74 : kd 74 = 20 := rfl
theorem lnc_74 : ln 74 = 14 := rfl
theorem kdc_75 : kd 75 = 20 := rfl
theorem lnc_75 : ln 75 = 112 := rfl
theorem kdc_76 : kd 76 = 20 := rfl
theorem lnc_76 : ln 76 = 28 := rfl
theorem kdc_77 : kd 77 = 22 := rfl
theorem lnc_77 : ln 77 = 2 := rfl
theorem kdc_78 : kd 78 = 20 := rfl
theorem lnc_78 : ln 78 = 12 := rfl
theorem kdc_79 : kd 79 = 20 := rfl
theorem lnc_79 : ln 79 = 14 := rfl
theorem kdc_80 : kd 80 = 20 := rfl
theorem lnc_80 : ln 80 = 98 := rfl
theorem kdc_81 : kd 81 = 20 := rfl
theorem lnc_81 : ln 81 = 6 := rfl
theorem kdc_82 : kd 82 = 20 := rfl
theorem lnc_82 : ln 82 = 6 := rfl
theorem evc_21 : ev 21 := by unfold ev; decide
theorem evc_23 : ev 23 := by unfold ev; decide
theorem evc_29 : ev 29 := by unfold ev; decide
theorem evc_31 : ev 31 := by unfold ev; decide
theorem evc_33 : ev 33 := by unfold ev; decide
theorem evc_35 : ev 35 := by unfold ev; decide
theorem evc_37 : ev 37 := by unfold ev; decide
theorem evc_39 : ev 39 := by unfold ev; decide
theorem evc_41 : ev 41 := by unfold ev; decide
theorem evc_45 : ev 45 := by unfold ev; decide
theorem evc_47 : ev 47 := by unfold ev; decide
theorem evc_49 : ev 49 := by unfold ev; decide
theorem evc_51 : ev 51 := by unfold ev; decide
theorem evc_53 : ev 53 := by unfold ev; decide
theorem evc_55 : ev 55 := by unfold ev; decide
theorem evc_57 : ev 57 := by unfold ev; decide
theorem evc_59 : ev 59 := by unfold ev; decide
theorem evc_64 : ev 64 := by unfold ev; decide
theorem evc_66 : ev 66 := by unfold ev; decide
theorem tdc_1 : td 1 := by unfold td; decide
theorem tdc_10 : td 10 := by unfold td; decide
theorem iX1 : ∀ w ∈ u_ws RX1 TX1 10, w ∈ tb := by decide +kernel
theorem iX2 : ∀ w ∈ u_ws RX2 TX2 3, w ∈ tb := by decide +kernel
theorem iX3 : ∀ w ∈ u_ws RX3 TX3 5, w ∈ tb := by decide +kernel
theorem iX4 : ∀ w ∈ u_ws RX4 TX4 7, w ∈ tb := by decide +kernel
theorem iX5 : ∀ w ∈ u_ws RX5 TX5 12, w ∈ tb := by decide +kernel
theorem iX6 : ∀ w ∈ u_ws RX6 TX6 10, w ∈ tb := by decide +kernel
theorem iX7 : ∀ w ∈ u_ws RX7 TX7 21, w ∈ tb := by decide +kernel
section HR
variable {X : Cx} {F : Fx} {cc : ByteArray} {own : String} {nL d pc : Nat} {L : List (Option Value)} {st : List Value} {M : Mem}
theorem g_ia (hF : FK X F cc own nL d) {k n : Nat} {i : Int32} (hk : k ∈ xcs X) (hkd : kd k = 20) (hn : ln k = n) (hi : inb i n = true) (dg : decode cc pc = .ok (.iaload, 1)) (kk : G X F (pc + 1) L (.int (M k i.toNatClampNeg) :: st) M) : G X F pc L (.int i :: .ref k :: st) M := g_iald hF hk hkd (by rw [hn]; exact inb_in hi) dg kk
theorem g_iac (hF : FK X F cc own nL d) {k n j : Nat} {i : Int32} (hk : k ∈ xcs X) (hkd : kd k = 20) (hn : ln k = n) (hi : inb i n = true) (hj : i.toNatClampNeg = j) (dg : decode cc pc = .ok (.iaload, 1)) (kk : G X F (pc + 1) L (.int (M k j) :: st) M) : G X F pc L (.int i :: .ref k :: st) M := g_iald hF hk hkd (by rw [hn]; exact inb_in hi) dg (by rw [hj]; exact kk)
theorem g_ca (hF : FK X F cc own nL d) {k n : Nat} {i : Int32} (hk : k ∈ xcs X) (hkd : kd k = 21) (hn : ln k = n) (hi : inb i n = true) (dg : decode cc pc = .ok (.caload, 1)) (kk : G X F (pc + 1) L (.int (M k i.toNatClampNeg) :: st) M) : G X F pc L (.int i :: .ref k :: st) M := g_cald hF hk hkd (by rw [hn]; exact inb_in hi) dg kk
theorem g_cac (hF : FK X F cc own nL d) {k n j : Nat} {i : Int32} (hk : k ∈ xcs X) (hkd : kd k = 21) (hn : ln k = n) (hi : inb i n = true) (hj : i.toNatClampNeg = j) (dg : decode cc pc = .ok (.caload, 1)) (kk : G X F (pc + 1) L (.int (M k j) :: st) M) : G X F pc L (.int i :: .ref k :: st) M := g_cald hF hk hkd (by rw [hn]; exact inb_in hi) dg (by rw [hj]; exact kk)
theorem g_za (hF : FK X F cc own nL d) {k n : Nat} {i : Int32} (hk : k ∈ xcs X) (hkd : kd k = 22) (hn : ln k = n) (hi : inb i n = true) (dg : decode cc pc = .ok (.baload, 1)) (kk : G X F (pc + 1) L (.int (M k i.toNatClampNeg) :: st) M) : G X F pc L (.int i :: .ref k :: st) M := g_zald hF hk hkd (by rw [hn]; exact inb_in hi) dg kk
theorem g_zac (hF : FK X F cc own nL d) {k n j : Nat} {i : Int32} (hk : k ∈ xcs X) (hkd : kd k = 22) (hn : ln k = n) (hi : inb i n = true) (hj : i.toNatClampNeg = j) (dg : decode cc pc = .ok (.baload, 1)) (kk : G X F (pc + 1) L (.int (M k j) :: st) M) : G X F pc L (.int i :: .ref k :: st) M := g_zald hF hk hkd (by rw [hn]; exact inb_in hi) dg (by rw [hj]; exact kk)
theorem g_is (hF : FK X F cc own nL d) {k n : Nat} {i v : Int32} (hk : k ∈ xcs X) (hkd : kd k = 20) (hn : ln k = n) (hi : inb i n = true) (dg : decode cc pc = .ok (.iastore, 1)) (kk : G X F (pc + 1) L st (up2 M k i.toNatClampNeg v)) : G X F pc L (.int v :: .int i :: .ref k :: st) M := g_iast hF hk hkd (by rw [hn]; exact inb_in hi) dg kk
theorem g_isc (hF : FK X F cc own nL d) {k n j : Nat} {i v : Int32} (hk : k ∈ xcs X) (hkd : kd k = 20) (hn : ln k = n) (hi : inb i n = true) (hj : i.toNatClampNeg = j) (dg : decode cc pc = .ok (.iastore, 1)) (kk : G X F (pc + 1) L st (up2 M k j v)) : G X F pc L (.int v :: .int i :: .ref k :: st) M := g_iast hF hk hkd (by rw [hn]; exact inb_in hi) dg (by rw [hj]; exact kk)
theorem g_cs (hF : FK X F cc own nL d) {k n : Nat} {i v : Int32} (hk : k ∈ xcs X) (hkd : kd k = 21) (hn : ln k = n) (hi : inb i n = true) (dg : decode cc pc = .ok (.castore, 1)) (kk : G X F (pc + 1) L st (up2 M k i.toNatClampNeg (vp_nar .char v))) : G X F pc L (.int v :: .int i :: .ref k :: st) M := g_cast hF hk hkd (by rw [hn]; exact inb_in hi) dg kk
theorem g_csc (hF : FK X F cc own nL d) {k n j : Nat} {i v : Int32} (hk : k ∈ xcs X) (hkd : kd k = 21) (hn : ln k = n) (hi : inb i n = true) (hj : i.toNatClampNeg = j) (dg : decode cc pc = .ok (.castore, 1)) (kk : G X F (pc + 1) L st (up2 M k j (vp_nar .char v))) : G X F pc L (.int v :: .int i :: .ref k :: st) M := g_cast hF hk hkd (by rw [hn]; exact inb_in hi) dg (by rw [hj]; exact kk)
theorem g_zs (hF : FK X F cc own nL d) {k n : Nat} {i v : Int32} (hk : k ∈ xcs X) (hkd : kd k = 22) (hn : ln k = n) (hi : inb i n = true) (dg : decode cc pc = .ok (.bastore, 1)) (kk : G X F (pc + 1) L st (up2 M k i.toNatClampNeg (vp_nar .boolean v))) : G X F pc L (.int v :: .int i :: .ref k :: st) M := g_zast hF hk hkd (by rw [hn]; exact inb_in hi) dg kk
theorem g_zsc (hF : FK X F cc own nL d) {k n j : Nat} {i v : Int32} (hk : k ∈ xcs X) (hkd : kd k = 22) (hn : ln k = n) (hi : inb i n = true) (hj : i.toNatClampNeg = j) (dg : decode cc pc = .ok (.bastore, 1)) (kk : G X F (pc + 1) L st (up2 M k j (vp_nar .boolean v))) : G X F pc L (.int v :: .int i :: .ref k :: st) M := g_zast hF hk hkd (by rw [hn]; exact inb_in hi) dg (by rw [hj]; exact kk)
theorem g_lev (hF : FK X F cc own nL d) {i : Int32} (hS : SC X) (hi : inb i 7 = true) (dg : decode cc pc = .ok (.aaload, 1)) (kk : G X F (pc + 1) L (.ref (29 + 2 * i.toNatClampNeg) :: st) M) : G X F pc L (.int i :: .ref 28 :: st) M := g_aald hF (hS 28 (by decide)) (by decide) rfl (inb_in hi) dg kk
theorem g_rin (hF : FK X F cc own nL d) {i : Int32} (hS : SC X) (hi : inb i 8 = true) (dg : decode cc pc = .ok (.aaload, 1)) (kk : G X F (pc + 1) L (.ref (45 + 2 * i.toNatClampNeg) :: st) M) : G X F pc L (.int i :: .ref 44 :: st) M := g_aald hF (hS 44 (by decide)) (by decide) rfl (inb_in hi) dg kk
theorem g_kep (hF : FK X F cc own nL d) {i : Int32} (hS : SC X) (hi : inb i 2 = true) (dg : decode cc pc = .ok (.aaload, 1)) (kk : G X F (pc + 1) L (.ref (64 + 2 * i.toNatClampNeg) :: st) M) : G X F pc L (.int i :: .ref 61 :: st) M := g_aald hF (hS 61 (by decide)) (by decide) rfl (inb_in hi) dg kk
theorem g_allc (hF : FK X F cc own nL d) {i : Int32} (hS : SC X) (hi : inb i 13 = true) (dg : decode cc pc = .ok (.aaload, 1)) (kk : G X F (pc + 1) L (.ref (1000 + i.toNatClampNeg) :: st) M) : G X F pc L (.int i :: .ref 20 :: st) M := g_aald hF (hS 20 (by decide)) (by decide) rfl (inb_in hi) dg kk
end HR
theorem wf_X5_9 : Cond.fieldLink RX5 9 RX5 "clapperKind" "[I" ∈ tb := tb_mem 86 (by decide +kernel) (by decide +kernel)
theorem gf_X5_9 {X : Cx} {F : Fx} {cc : ByteArray} {nL d pc k : Nat} {L : List (Option Value)} {st : List Value} {M : Mem} (hF : FK X F cc RX5 nL d) (hk : k ∈ xcs X) (hkd : kd k = 4) (hN : ln k = 12) {t : Nat} (ht : k + 1 = t) (dg : decode cc pc = .ok (.getfield 9, 3)) (kk : G X F (pc + 3) L (.ref t :: st) M) : G X F pc L (.ref k :: st) M := g_get hF iX5 rfl (by decide) hk hkd hN (j := 0) (by decide) wf_X5_9 rfl (by subst ht; unfold vfld; rw [hkd]; rfl) dg kk
theorem wf_X6_91 : Cond.fieldLink RX6 91 RX5 "clapperKind" "[I" ∈ tb := tb_mem 87 (by decide +kernel) (by decide +kernel)
theorem gf_X6_91 {X : Cx} {F : Fx} {cc : ByteArray} {nL d pc k : Nat} {L : List (Option Value)} {st : List Value} {M : Mem} (hF : FK X F cc RX6 nL d) (hk : k ∈ xcs X) (hkd : kd k = 4) (hN : ln k = 12) {t : Nat} (ht : k + 1 = t) (dg : decode cc pc = .ok (.getfield 91, 3)) (kk : G X F (pc + 3) L (.ref t :: st) M) : G X F pc L (.ref k :: st) M := g_get hF iX5 rfl (by decide) hk hkd hN (j := 0) (by decide) wf_X6_91 rfl (by subst ht; unfold vfld; rw [hkd]; rfl) dg kk
theorem wf_X1_71 : Cond.fieldLink RX1 71 RX5 "clapperKind" "[I" ∈ tb := tb_mem 88 (by decide +kernel) (by decide +kernel)
theorem gf_X1_71 {X : Cx} {F : Fx} {cc : ByteArray} {nL d pc k : Nat} {L : List (Option Value)} {st : List Value} {M : Mem} (hF : FK X F cc RX1 nL d) (hk : k ∈ xcs X) (hkd : kd k = 4) (hN : ln k = 12) {t : Nat} (ht : k + 1 = t) (dg : decode cc pc = .ok (.getfield 71, 3)) (kk : G X F (pc + 3) L (.ref t :: st) M) : G X F pc L (.ref k :: st) M := g_get hF iX5 rfl (by decide) hk hkd hN (j := 0) (by decide) wf_X1_71 rfl (by subst ht; unfold vfld; rw [hkd]; rfl) dg kk
theorem wf_X5_15 : Cond.fieldLink RX5 15 RX5 "came" "[I" ∈ tb := tb_mem 89 (by decide +kernel) (by decide +kernel)
theorem gf_X5_15 {X : Cx} {F : Fx} {cc : ByteArray} {nL d pc k : Nat} {L : List (Option Value)} {st : List Value} {M : Mem} (hF : FK X F cc RX5 nL d) (hk : k ∈ xcs X) (hkd : kd k = 4) (hN : ln k = 12) {t : Nat} (ht : k + 2 = t) (dg : decode cc pc = .ok (.getfield 15, 3)) (kk : G X F (pc + 3) L (.ref t :: st) M) : G X F pc L (.ref k :: st) M := g_get hF iX5 rfl (by decide) hk hkd hN (j := 1) (by decide) wf_X5_15 rfl (by subst ht; unfold vfld; rw [hkd]; rfl) dg kk
theorem wf_X1_19 : Cond.fieldLink RX1 19 RX5 "came" "[I" ∈ tb := tb_mem 90 (by decide +kernel) (by decide +kernel)
theorem gf_X1_19 {X : Cx} {F : Fx} {cc : ByteArray} {nL d pc k : Nat} {L : List (Option Value)} {st : List Value} {M : Mem} (hF : FK X F cc RX1 nL d) (hk : k ∈ xcs X) (hkd : kd k = 4) (hN : ln k = 12) {t : Nat} (ht : k + 2 = t) (dg : decode cc pc = .ok (.getfield 19, 3)) (kk : G X F (pc + 3) L (.ref t :: st) M) : G X F pc L (.ref k :: st) M := g_get hF iX5 rfl (by decide) hk hkd hN (j := 1) (by decide) wf_X1_19 rfl (by subst ht; unfold vfld; rw [hkd]; rfl) dg kk
theorem wf_X6_106 : Cond.fieldLink RX6 106 RX5 "came" "[I" ∈ tb := tb_mem 91 (by decide +kernel) (by decide +kernel)
theorem gf_X6_106 {X : Cx} {F : Fx} {cc : ByteArray} {nL d pc k : Nat} {L : List (Option Value)} {st : List Value} {M : Mem} (hF : FK X F cc RX6 nL d) (hk : k ∈ xcs X) (hkd : kd k = 4) (hN : ln k = 12) {t : Nat} (ht : k + 2 = t) (dg : decode cc pc = .ok (.getfield 106, 3)) (kk : G X F (pc + 3) L (.ref t :: st) M) : G X F pc L (.ref k :: st) M := g_get hF iX5 rfl (by decide) hk hkd hN (j := 1) (by decide) wf_X6_106 rfl (by subst ht; unfold vfld; rw [hkd]; rfl) dg kk
theorem wf_X5_18 : Cond.fieldLink RX5 18 RX5 "train" "[I" ∈ tb := tb_mem 92 (by decide +kernel) (by decide +kernel)
theorem gf_X5_18 {X : Cx} {F : Fx} {cc : ByteArray} {nL d pc k : Nat} {L : List (Option Value)} {st : List Value} {M : Mem} (hF : FK X F cc RX5 nL d) (hk : k ∈ xcs X) (hkd : kd k = 4) (hN : ln k = 12) {t : Nat} (ht : k + 3 = t) (dg : decode cc pc = .ok (.getfield 18, 3)) (kk : G X F (pc + 3) L (.ref t :: st) M) : G X F pc L (.ref k :: st) M := g_get hF iX5 rfl (by decide) hk hkd hN (j := 2) (by decide) wf_X5_18 rfl (by subst ht; unfold vfld; rw [hkd]; rfl) dg kk
theorem wf_X6_97 : Cond.fieldLink RX6 97 RX5 "train" "[I" ∈ tb := tb_mem 93 (by decide +kernel) (by decide +kernel)
theorem gf_X6_97 {X : Cx} {F : Fx} {cc : ByteArray} {nL d pc k : Nat} {L : List (Option Value)} {st : List Value} {M : Mem} (hF : FK X F cc RX6 nL d) (hk : k ∈ xcs X) (hkd : kd k = 4) (hN : ln k = 12) {t : Nat} (ht : k + 3 = t) (dg : decode cc pc = .ok (.getfield 97, 3)) (kk : G X F (pc + 3) L (.ref t :: st) M) : G X F pc L (.ref k :: st) M := g_get hF iX5 rfl (by decide) hk hkd hN (j := 2) (by decide) wf_X6_97 rfl (by subst ht; unfold vfld; rw [hkd]; rfl) dg kk
theorem wf_X1_148 : Cond.fieldLink RX1 148 RX5 "train" "[I" ∈ tb := tb_mem 94 (by decide +kernel) (by decide +kernel)
theorem gf_X1_148 {X : Cx} {F : Fx} {cc : ByteArray} {nL d pc k : Nat} {L : List (Option Value)} {st : List Value} {M : Mem} (hF : FK X F cc RX1 nL d) (hk : k ∈ xcs X) (hkd : kd k = 4) (hN : ln k = 12) {t : Nat} (ht : k + 3 = t) (dg : decode cc pc = .ok (.getfield 148, 3)) (kk : G X F (pc + 3) L (.ref t :: st) M) : G X F pc L (.ref k :: st) M := g_get hF iX5 rfl (by decide) hk hkd hN (j := 2) (by decide) wf_X1_148 rfl (by subst ht; unfold vfld; rw [hkd]; rfl) dg kk
theorem wf_X5_21 : Cond.fieldLink RX5 21 RX5 "encoreKind" "[I" ∈ tb := tb_mem 95 (by decide +kernel) (by decide +kernel)
theorem gf_X5_21 {X : Cx} {F : Fx} {cc : ByteArray} {nL d pc k : Nat} {L : List (Option Value)} {st : List Value} {M : Mem} (hF : FK X F cc RX5 nL d) (hk : k ∈ xcs X) (hkd : kd k = 4) (hN : ln k = 12) {t : Nat} (ht : k + 4 = t) (dg : decode cc pc = .ok (.getfield 21, 3)) (kk : G X F (pc + 3) L (.ref t :: st) M) : G X F pc L (.ref k :: st) M := g_get hF iX5 rfl (by decide) hk hkd hN (j := 3) (by decide) wf_X5_21 rfl (by subst ht; unfold vfld; rw [hkd]; rfl) dg kk
theorem wf_X6_112 : Cond.fieldLink RX6 112 RX5 "encoreKind" "[I" ∈ tb := tb_mem 96 (by decide +kernel) (by decide +kernel)
theorem gf_X6_112 {X : Cx} {F : Fx} {cc : ByteArray} {nL d pc k : Nat} {L : List (Option Value)} {st : List Value} {M : Mem} (hF : FK X F cc RX6 nL d) (hk : k ∈ xcs X) (hkd : kd k = 4) (hN : ln k = 12) {t : Nat} (ht : k + 4 = t) (dg : decode cc pc = .ok (.getfield 112, 3)) (kk : G X F (pc + 3) L (.ref t :: st) M) : G X F pc L (.ref k :: st) M := g_get hF iX5 rfl (by decide) hk hkd hN (j := 3) (by decide) wf_X6_112 rfl (by subst ht; unfold vfld; rw [hkd]; rfl) dg kk
theorem wf_X1_121 : Cond.fieldLink RX1 121 RX5 "encoreKind" "[I" ∈ tb := tb_mem 97 (by decide +kernel) (by decide +kernel)
theorem gf_X1_121 {X : Cx} {F : Fx} {cc : ByteArray} {nL d pc k : Nat} {L : List (Option Value)} {st : List Value} {M : Mem} (hF : FK X F cc RX1 nL d) (hk : k ∈ xcs X) (hkd : kd k = 4) (hN : ln k = 12) {t : Nat} (ht : k + 4 = t) (dg : decode cc pc = .ok (.getfield 121, 3)) (kk : G X F (pc + 3) L (.ref t :: st) M) : G X F pc L (.ref k :: st) M := g_get hF iX5 rfl (by decide) hk hkd hN (j := 3) (by decide) wf_X1_121 rfl (by subst ht; unfold vfld; rw [hkd]; rfl) dg kk
theorem wf_X5_24 : Cond.fieldLink RX5 24 RX5 "minutes" "[I" ∈ tb := tb_mem 98 (by decide +kernel) (by decide +kernel)
theorem gf_X5_24 {X : Cx} {F : Fx} {cc : ByteArray} {nL d pc k : Nat} {L : List (Option Value)} {st : List Value} {M : Mem} (hF : FK X F cc RX5 nL d) (hk : k ∈ xcs X) (hkd : kd k = 4) (hN : ln k = 12) {t : Nat} (ht : k + 5 = t) (dg : decode cc pc = .ok (.getfield 24, 3)) (kk : G X F (pc + 3) L (.ref t :: st) M) : G X F pc L (.ref k :: st) M := g_get hF iX5 rfl (by decide) hk hkd hN (j := 4) (by decide) wf_X5_24 rfl (by subst ht; unfold vfld; rw [hkd]; rfl) dg kk
theorem wf_X6_115 : Cond.fieldLink RX6 115 RX5 "minutes" "[I" ∈ tb := tb_mem 99 (by decide +kernel) (by decide +kernel)
theorem gf_X6_115 {X : Cx} {F : Fx} {cc : ByteArray} {nL d pc k : Nat} {L : List (Option Value)} {st : List Value} {M : Mem} (hF : FK X F cc RX6 nL d) (hk : k ∈ xcs X) (hkd : kd k = 4) (hN : ln k = 12) {t : Nat} (ht : k + 5 = t) (dg : decode cc pc = .ok (.getfield 115, 3)) (kk : G X F (pc + 3) L (.ref t :: st) M) : G X F pc L (.ref k :: st) M := g_get hF iX5 rfl (by decide) hk hkd hN (j := 4) (by decide) wf_X6_115 rfl (by subst ht; unfold vfld; rw [hkd]; rfl) dg kk
theorem wf_X1_124 : Cond.fieldLink RX1 124 RX5 "minutes" "[I" ∈ tb := tb_mem 100 (by decide +kernel) (by decide +kernel)
theorem gf_X1_124 {X : Cx} {F : Fx} {cc : ByteArray} {nL d pc k : Nat} {L : List (Option Value)} {st : List Value} {M : Mem} (hF : FK X F cc RX1 nL d) (hk : k ∈ xcs X) (hkd : kd k = 4) (hN : ln k = 12) {t : Nat} (ht : k + 5 = t) (dg : decode cc pc = .ok (.getfield 124, 3)) (kk : G X F (pc + 3) L (.ref t :: st) M) : G X F pc L (.ref k :: st) M := g_get hF iX5 rfl (by decide) hk hkd hN (j := 4) (by decide) wf_X1_124 rfl (by subst ht; unfold vfld; rw [hkd]; rfl) dg kk
theorem wf_X5_27 : Cond.fieldLink RX5 27 RX5 "takesArm" "[I" ∈ tb := tb_mem 101 (by decide +kernel) (by decide +kernel)
theorem gf_X5_27 {X : Cx} {F : Fx} {cc : ByteArray} {nL d pc k : Nat} {L : List (Option Value)} {st : List Value} {M : Mem} (hF : FK X F cc RX5 nL d) (hk : k ∈ xcs X) (hkd : kd k = 4) (hN : ln k = 12) {t : Nat} (ht : k + 6 = t) (dg : decode cc pc = .ok (.getfield 27, 3)) (kk : G X F (pc + 3) L (.ref t :: st) M) : G X F pc L (.ref k :: st) M := g_get hF iX5 rfl (by decide) hk hkd hN (j := 5) (by decide) wf_X5_27 rfl (by subst ht; unfold vfld; rw [hkd]; rfl) dg kk
theorem wf_X6_118 : Cond.fieldLink RX6 118 RX5 "takesArm" "[I" ∈ tb := tb_mem 102 (by decide +kernel) (by decide +kernel)
theorem gf_X6_118 {X : Cx} {F : Fx} {cc : ByteArray} {nL d pc k : Nat} {L : List (Option Value)} {st : List Value} {M : Mem} (hF : FK X F cc RX6 nL d) (hk : k ∈ xcs X) (hkd : kd k = 4) (hN : ln k = 12) {t : Nat} (ht : k + 6 = t) (dg : decode cc pc = .ok (.getfield 118, 3)) (kk : G X F (pc + 3) L (.ref t :: st) M) : G X F pc L (.ref k :: st) M := g_get hF iX5 rfl (by decide) hk hkd hN (j := 5) (by decide) wf_X6_118 rfl (by subst ht; unfold vfld; rw [hkd]; rfl) dg kk
theorem wf_X1_106 : Cond.fieldLink RX1 106 RX5 "takesArm" "[I" ∈ tb := tb_mem 103 (by decide +kernel) (by decide +kernel)
theorem gf_X1_106 {X : Cx} {F : Fx} {cc : ByteArray} {nL d pc k : Nat} {L : List (Option Value)} {st : List Value} {M : Mem} (hF : FK X F cc RX1 nL d) (hk : k ∈ xcs X) (hkd : kd k = 4) (hN : ln k = 12) {t : Nat} (ht : k + 6 = t) (dg : decode cc pc = .ok (.getfield 106, 3)) (kk : G X F (pc + 3) L (.ref t :: st) M) : G X F pc L (.ref k :: st) M := g_get hF iX5 rfl (by decide) hk hkd hN (j := 5) (by decide) wf_X1_106 rfl (by subst ht; unfold vfld; rw [hkd]; rfl) dg kk
theorem wf_X5_30 : Cond.fieldLink RX5 30 RX5 "worth" "[I" ∈ tb := tb_mem 104 (by decide +kernel) (by decide +kernel)
theorem gf_X5_30 {X : Cx} {F : Fx} {cc : ByteArray} {nL d pc k : Nat} {L : List (Option Value)} {st : List Value} {M : Mem} (hF : FK X F cc RX5 nL d) (hk : k ∈ xcs X) (hkd : kd k = 4) (hN : ln k = 12) {t : Nat} (ht : k + 7 = t) (dg : decode cc pc = .ok (.getfield 30, 3)) (kk : G X F (pc + 3) L (.ref t :: st) M) : G X F pc L (.ref k :: st) M := g_get hF iX5 rfl (by decide) hk hkd hN (j := 6) (by decide) wf_X5_30 rfl (by subst ht; unfold vfld; rw [hkd]; rfl) dg kk
theorem wf_X6_121 : Cond.fieldLink RX6 121 RX5 "worth" "[I" ∈ tb := tb_mem 105 (by decide +kernel) (by decide +kernel)
theorem gf_X6_121 {X : Cx} {F : Fx} {cc : ByteArray} {nL d pc k : Nat} {L : List (Option Value)} {st : List Value} {M : Mem} (hF : FK X F cc RX6 nL d) (hk : k ∈ xcs X) (hkd : kd k = 4) (hN : ln k = 12) {t : Nat} (ht : k + 7 = t) (dg : decode cc pc = .ok (.getfield 121, 3)) (kk : G X F (pc + 3) L (.ref t :: st) M) : G X F pc L (.ref k :: st) M := g_get hF iX5 rfl (by decide) hk hkd hN (j := 6) (by decide) wf_X6_121 rfl (by subst ht; unfold vfld; rw [hkd]; rfl) dg kk
theorem wf_X1_134 : Cond.fieldLink RX1 134 RX5 "worth" "[I" ∈ tb := tb_mem 106 (by decide +kernel) (by decide +kernel)
theorem gf_X1_134 {X : Cx} {F : Fx} {cc : ByteArray} {nL d pc k : Nat} {L : List (Option Value)} {st : List Value} {M : Mem} (hF : FK X F cc RX1 nL d) (hk : k ∈ xcs X) (hkd : kd k = 4) (hN : ln k = 12) {t : Nat} (ht : k + 7 = t) (dg : decode cc pc = .ok (.getfield 134, 3)) (kk : G X F (pc + 3) L (.ref t :: st) M) : G X F pc L (.ref k :: st) M := g_get hF iX5 rfl (by decide) hk hkd hN (j := 6) (by decide) wf_X1_134 rfl (by subst ht; unfold vfld; rw [hkd]; rfl) dg kk
theorem wf_X5_36 : Cond.fieldLink RX5 36 RX5 "clappers" "I" ∈ tb := tb_mem 107 (by decide +kernel) (by decide +kernel)
theorem gf_X5_36 {X : Cx} {F : Fx} {cc : ByteArray} {nL d pc k : Nat} {L : List (Option Value)} {st : List Value} {M : Mem} (hF : FK X F cc RX5 nL d) (hk : k ∈ xcs X) (hkd : kd k = 4) (hN : ln k = 12) (dg : decode cc pc = .ok (.getfield 36, 3)) (kk : G X F (pc + 3) L (.int (M k 7) :: st) M) : G X F pc L (.ref k :: st) M := g_get hF iX5 rfl (by decide) hk hkd hN (j := 7) (by decide) wf_X5_36 rfl (by unfold vfld; rw [hkd]; rfl) dg kk
theorem pf_X5_36 {X : Cx} {F : Fx} {cc : ByteArray} {nL d pc k : Nat} {L : List (Option Value)} {st : List Value} {M : Mem} (hF : FK X F cc RX5 nL d) (hk : k ∈ xcs X) (hkd : kd k = 4) (hN : ln k = 12) {v : Int32} (dg : decode cc pc = .ok (.putfield 36, 3)) (kk : G X F (pc + 3) L st (up2 M k 7 v)) : G X F pc L (.int v :: .ref k :: st) M := g_put hF (ty := .int) iX5 tyX5 tyX5_ok nmX5 rfl (by decide) hk hkd hN (j := 7) (by decide) wf_X5_36 rfl rfl (by decide +kernel) rfl rfl rfl dg kk
theorem wf_X1_30 : Cond.fieldLink RX1 30 RX5 "clappers" "I" ∈ tb := tb_mem 108 (by decide +kernel) (by decide +kernel)
theorem gf_X1_30 {X : Cx} {F : Fx} {cc : ByteArray} {nL d pc k : Nat} {L : List (Option Value)} {st : List Value} {M : Mem} (hF : FK X F cc RX1 nL d) (hk : k ∈ xcs X) (hkd : kd k = 4) (hN : ln k = 12) (dg : decode cc pc = .ok (.getfield 30, 3)) (kk : G X F (pc + 3) L (.int (M k 7) :: st) M) : G X F pc L (.ref k :: st) M := g_get hF iX5 rfl (by decide) hk hkd hN (j := 7) (by decide) wf_X1_30 rfl (by unfold vfld; rw [hkd]; rfl) dg kk
theorem pf_X1_30 {X : Cx} {F : Fx} {cc : ByteArray} {nL d pc k : Nat} {L : List (Option Value)} {st : List Value} {M : Mem} (hF : FK X F cc RX1 nL d) (hk : k ∈ xcs X) (hkd : kd k = 4) (hN : ln k = 12) {v : Int32} (dg : decode cc pc = .ok (.putfield 30, 3)) (kk : G X F (pc + 3) L st (up2 M k 7 v)) : G X F pc L (.int v :: .ref k :: st) M := g_put hF (ty := .int) iX5 tyX5 tyX5_ok nmX5 rfl (by decide) hk hkd hN (j := 7) (by decide) wf_X1_30 rfl rfl (by decide +kernel) rfl rfl rfl dg kk
theorem wf_X6_236 : Cond.fieldLink RX6 236 RX5 "clappers" "I" ∈ tb := tb_mem 109 (by decide +kernel) (by decide +kernel)
theorem gf_X6_236 {X : Cx} {F : Fx} {cc : ByteArray} {nL d pc k : Nat} {L : List (Option Value)} {st : List Value} {M : Mem} (hF : FK X F cc RX6 nL d) (hk : k ∈ xcs X) (hkd : kd k = 4) (hN : ln k = 12) (dg : decode cc pc = .ok (.getfield 236, 3)) (kk : G X F (pc + 3) L (.int (M k 7) :: st) M) : G X F pc L (.ref k :: st) M := g_get hF iX5 rfl (by decide) hk hkd hN (j := 7) (by decide) wf_X6_236 rfl (by unfold vfld; rw [hkd]; rfl) dg kk
theorem pf_X6_236 {X : Cx} {F : Fx} {cc : ByteArray} {nL d pc k : Nat} {L : List (Option Value)} {st : List Value} {M : Mem} (hF : FK X F cc RX6 nL d) (hk : k ∈ xcs X) (hkd : kd k = 4) (hN : ln k = 12) {v : Int32} (dg : decode cc pc = .ok (.putfield 236, 3)) (kk : G X F (pc + 3) L st (up2 M k 7 v)) : G X F pc L (.int v :: .ref k :: st) M := g_put hF (ty := .int) iX5 tyX5 tyX5_ok nmX5 rfl (by decide) hk hkd hN (j := 7) (by decide) wf_X6_236 rfl rfl (by decide +kernel) rfl rfl rfl dg kk
theorem wf_X5_40 : Cond.fieldLink RX5 40 RX5 "encores" "I" ∈ tb := tb_mem 110 (by decide +kernel) (by decide +kernel)
theorem gf_X5_40 {X : Cx} {F : Fx} {cc : ByteArray} {nL d pc k : Nat} {L : List (Option Value)} {st : List Value} {M : Mem} (hF : FK X F cc RX5 nL d) (hk : k ∈ xcs X) (hkd : kd k = 4) (hN : ln k = 12) (dg : decode cc pc = .ok (.getfield 40, 3)) (kk : G X F (pc + 3) L (.int (M k 8) :: st) M) : G X F pc L (.ref k :: st) M := g_get hF iX5 rfl (by decide) hk hkd hN (j := 8) (by decide) wf_X5_40 rfl (by unfold vfld; rw [hkd]; rfl) dg kk
theorem pf_X5_40 {X : Cx} {F : Fx} {cc : ByteArray} {nL d pc k : Nat} {L : List (Option Value)} {st : List Value} {M : Mem} (hF : FK X F cc RX5 nL d) (hk : k ∈ xcs X) (hkd : kd k = 4) (hN : ln k = 12) {v : Int32} (dg : decode cc pc = .ok (.putfield 40, 3)) (kk : G X F (pc + 3) L st (up2 M k 8 v)) : G X F pc L (.int v :: .ref k :: st) M := g_put hF (ty := .int) iX5 tyX5 tyX5_ok nmX5 rfl (by decide) hk hkd hN (j := 8) (by decide) wf_X5_40 rfl rfl (by decide +kernel) rfl rfl rfl dg kk
theorem wf_X6_229 : Cond.fieldLink RX6 229 RX5 "encores" "I" ∈ tb := tb_mem 111 (by decide +kernel) (by decide +kernel)
theorem gf_X6_229 {X : Cx} {F : Fx} {cc : ByteArray} {nL d pc k : Nat} {L : List (Option Value)} {st : List Value} {M : Mem} (hF : FK X F cc RX6 nL d) (hk : k ∈ xcs X) (hkd : kd k = 4) (hN : ln k = 12) (dg : decode cc pc = .ok (.getfield 229, 3)) (kk : G X F (pc + 3) L (.int (M k 8) :: st) M) : G X F pc L (.ref k :: st) M := g_get hF iX5 rfl (by decide) hk hkd hN (j := 8) (by decide) wf_X6_229 rfl (by unfold vfld; rw [hkd]; rfl) dg kk
theorem pf_X6_229 {X : Cx} {F : Fx} {cc : ByteArray} {nL d pc k : Nat} {L : List (Option Value)} {st : List Value} {M : Mem} (hF : FK X F cc RX6 nL d) (hk : k ∈ xcs X) (hkd : kd k = 4) (hN : ln k = 12) {v : Int32} (dg : decode cc pc = .ok (.putfield 229, 3)) (kk : G X F (pc + 3) L st (up2 M k 8 v)) : G X F pc L (.int v :: .ref k :: st) M := g_put hF (ty := .int) iX5 tyX5 tyX5_ok nmX5 rfl (by decide) hk hkd hN (j := 8) (by decide) wf_X6_229 rfl rfl (by decide +kernel) rfl rfl rfl dg kk
theorem wf_X5_43 : Cond.fieldLink RX5 43 RX5 "arm" "I" ∈ tb := tb_mem 112 (by decide +kernel) (by decide +kernel)
theorem gf_X5_43 {X : Cx} {F : Fx} {cc : ByteArray} {nL d pc k : Nat} {L : List (Option Value)} {st : List Value} {M : Mem} (hF : FK X F cc RX5 nL d) (hk : k ∈ xcs X) (hkd : kd k = 4) (hN : ln k = 12) (dg : decode cc pc = .ok (.getfield 43, 3)) (kk : G X F (pc + 3) L (.int (M k 9) :: st) M) : G X F pc L (.ref k :: st) M := g_get hF iX5 rfl (by decide) hk hkd hN (j := 9) (by decide) wf_X5_43 rfl (by unfold vfld; rw [hkd]; rfl) dg kk
theorem pf_X5_43 {X : Cx} {F : Fx} {cc : ByteArray} {nL d pc k : Nat} {L : List (Option Value)} {st : List Value} {M : Mem} (hF : FK X F cc RX5 nL d) (hk : k ∈ xcs X) (hkd : kd k = 4) (hN : ln k = 12) {v : Int32} (dg : decode cc pc = .ok (.putfield 43, 3)) (kk : G X F (pc + 3) L st (up2 M k 9 v)) : G X F pc L (.int v :: .ref k :: st) M := g_put hF (ty := .int) iX5 tyX5 tyX5_ok nmX5 rfl (by decide) hk hkd hN (j := 9) (by decide) wf_X5_43 rfl rfl (by decide +kernel) rfl rfl rfl dg kk
theorem wf_X1_40 : Cond.fieldLink RX1 40 RX5 "arm" "I" ∈ tb := tb_mem 113 (by decide +kernel) (by decide +kernel)
theorem gf_X1_40 {X : Cx} {F : Fx} {cc : ByteArray} {nL d pc k : Nat} {L : List (Option Value)} {st : List Value} {M : Mem} (hF : FK X F cc RX1 nL d) (hk : k ∈ xcs X) (hkd : kd k = 4) (hN : ln k = 12) (dg : decode cc pc = .ok (.getfield 40, 3)) (kk : G X F (pc + 3) L (.int (M k 9) :: st) M) : G X F pc L (.ref k :: st) M := g_get hF iX5 rfl (by decide) hk hkd hN (j := 9) (by decide) wf_X1_40 rfl (by unfold vfld; rw [hkd]; rfl) dg kk
theorem pf_X1_40 {X : Cx} {F : Fx} {cc : ByteArray} {nL d pc k : Nat} {L : List (Option Value)} {st : List Value} {M : Mem} (hF : FK X F cc RX1 nL d) (hk : k ∈ xcs X) (hkd : kd k = 4) (hN : ln k = 12) {v : Int32} (dg : decode cc pc = .ok (.putfield 40, 3)) (kk : G X F (pc + 3) L st (up2 M k 9 v)) : G X F pc L (.int v :: .ref k :: st) M := g_put hF (ty := .int) iX5 tyX5 tyX5_ok nmX5 rfl (by decide) hk hkd hN (j := 9) (by decide) wf_X1_40 rfl rfl (by decide +kernel) rfl rfl rfl dg kk
theorem wf_X5_46 : Cond.fieldLink RX5 46 RX5 "close" "I" ∈ tb := tb_mem 114 (by decide +kernel) (by decide +kernel)
theorem gf_X5_46 {X : Cx} {F : Fx} {cc : ByteArray} {nL d pc k : Nat} {L : List (Option Value)} {st : List Value} {M : Mem} (hF : FK X F cc RX5 nL d) (hk : k ∈ xcs X) (hkd : kd k = 4) (hN : ln k = 12) (dg : decode cc pc = .ok (.getfield 46, 3)) (kk : G X F (pc + 3) L (.int (M k 10) :: st) M) : G X F pc L (.ref k :: st) M := g_get hF iX5 rfl (by decide) hk hkd hN (j := 10) (by decide) wf_X5_46 rfl (by unfold vfld; rw [hkd]; rfl) dg kk
theorem pf_X5_46 {X : Cx} {F : Fx} {cc : ByteArray} {nL d pc k : Nat} {L : List (Option Value)} {st : List Value} {M : Mem} (hF : FK X F cc RX5 nL d) (hk : k ∈ xcs X) (hkd : kd k = 4) (hN : ln k = 12) {v : Int32} (dg : decode cc pc = .ok (.putfield 46, 3)) (kk : G X F (pc + 3) L st (up2 M k 10 v)) : G X F pc L (.int v :: .ref k :: st) M := g_put hF (ty := .int) iX5 tyX5 tyX5_ok nmX5 rfl (by decide) hk hkd hN (j := 10) (by decide) wf_X5_46 rfl rfl (by decide +kernel) rfl rfl rfl dg kk
theorem wf_X1_142 : Cond.fieldLink RX1 142 RX5 "close" "I" ∈ tb := tb_mem 115 (by decide +kernel) (by decide +kernel)
theorem gf_X1_142 {X : Cx} {F : Fx} {cc : ByteArray} {nL d pc k : Nat} {L : List (Option Value)} {st : List Value} {M : Mem} (hF : FK X F cc RX1 nL d) (hk : k ∈ xcs X) (hkd : kd k = 4) (hN : ln k = 12) (dg : decode cc pc = .ok (.getfield 142, 3)) (kk : G X F (pc + 3) L (.int (M k 10) :: st) M) : G X F pc L (.ref k :: st) M := g_get hF iX5 rfl (by decide) hk hkd hN (j := 10) (by decide) wf_X1_142 rfl (by unfold vfld; rw [hkd]; rfl) dg kk
theorem pf_X1_142 {X : Cx} {F : Fx} {cc : ByteArray} {nL d pc k : Nat} {L : List (Option Value)} {st : List Value} {M : Mem} (hF : FK X F cc RX1 nL d) (hk : k ∈ xcs X) (hkd : kd k = 4) (hN : ln k = 12) {v : Int32} (dg : decode cc pc = .ok (.putfield 142, 3)) (kk : G X F (pc + 3) L st (up2 M k 10 v)) : G X F pc L (.int v :: .ref k :: st) M := g_put hF (ty := .int) iX5 tyX5 tyX5_ok nmX5 rfl (by decide) hk hkd hN (j := 10) (by decide) wf_X1_142 rfl rfl (by decide +kernel) rfl rfl rfl dg kk
theorem wf_X5_49 : Cond.fieldLink RX5 49 RX5 "hire" "I" ∈ tb := tb_mem 116 (by decide +kernel) (by decide +kernel)
theorem gf_X5_49 {X : Cx} {F : Fx} {cc : ByteArray} {nL d pc k : Nat} {L : List (Option Value)} {st : List Value} {M : Mem} (hF : FK X F cc RX5 nL d) (hk : k ∈ xcs X) (hkd : kd k = 4) (hN : ln k = 12) (dg : decode cc pc = .ok (.getfield 49, 3)) (kk : G X F (pc + 3) L (.int (M k 11) :: st) M) : G X F pc L (.ref k :: st) M := g_get hF iX5 rfl (by decide) hk hkd hN (j := 11) (by decide) wf_X5_49 rfl (by unfold vfld; rw [hkd]; rfl) dg kk
theorem pf_X5_49 {X : Cx} {F : Fx} {cc : ByteArray} {nL d pc k : Nat} {L : List (Option Value)} {st : List Value} {M : Mem} (hF : FK X F cc RX5 nL d) (hk : k ∈ xcs X) (hkd : kd k = 4) (hN : ln k = 12) {v : Int32} (dg : decode cc pc = .ok (.putfield 49, 3)) (kk : G X F (pc + 3) L st (up2 M k 11 v)) : G X F pc L (.int v :: .ref k :: st) M := g_put hF (ty := .int) iX5 tyX5 tyX5_ok nmX5 rfl (by decide) hk hkd hN (j := 11) (by decide) wf_X5_49 rfl rfl (by decide +kernel) rfl rfl rfl dg kk
theorem wf_X1_145 : Cond.fieldLink RX1 145 RX5 "hire" "I" ∈ tb := tb_mem 117 (by decide +kernel) (by decide +kernel)
theorem gf_X1_145 {X : Cx} {F : Fx} {cc : ByteArray} {nL d pc k : Nat} {L : List (Option Value)} {st : List Value} {M : Mem} (hF : FK X F cc RX1 nL d) (hk : k ∈ xcs X) (hkd : kd k = 4) (hN : ln k = 12) (dg : decode cc pc = .ok (.getfield 145, 3)) (kk : G X F (pc + 3) L (.int (M k 11) :: st) M) : G X F pc L (.ref k :: st) M := g_get hF iX5 rfl (by decide) hk hkd hN (j := 11) (by decide) wf_X1_145 rfl (by unfold vfld; rw [hkd]; rfl) dg kk
theorem pf_X1_145 {X : Cx} {F : Fx} {cc : ByteArray} {nL d pc k : Nat} {L : List (Option Value)} {st : List Value} {M : Mem} (hF : FK X F cc RX1 nL d) (hk : k ∈ xcs X) (hkd : kd k = 4) (hN : ln k = 12) {v : Int32} (dg : decode cc pc = .ok (.putfield 145, 3)) (kk : G X F (pc + 3) L st (up2 M k 11 v)) : G X F pc L (.int v :: .ref k :: st) M := g_put hF (ty := .int) iX5 tyX5 tyX5_ok nmX5 rfl (by decide) hk hkd hN (j := 11) (by decide) wf_X1_145 rfl rfl (by decide +kernel) rfl rfl rfl dg kk
theorem wf_X0_45 : Cond.fieldLink RX0 45 RX0 "$VALUES" "[LWhichEncore$Clause;" ∈ tb := tb_mem 155 (by decide +kernel) (by decide +kernel)
theorem wf_X4_12 : Cond.fieldLink RX4 12 RX4 "draft" "LWhichEncore$Told;" ∈ tb := tb_mem 165 (by decide +kernel) (by decide +kernel)
theorem gf_X4_12 {X : Cx} {F : Fx} {cc : ByteArray} {nL d pc k : Nat} {L : List (Option Value)} {st : List Value} {M : Mem} (hF : FK X F cc RX4 nL d) (hk : k ∈ xcs X) (hkd : kd k = 3) (hN : ln k = 7) (dg : decode cc pc = .ok (.getfield 12, 3)) (kk : G X F (pc + 3) L (.ref 10 :: st) M) : G X F pc L (.ref k :: st) M := g_get hF iX4 rfl (by decide) hk hkd hN (j := 0) (by decide) wf_X4_12 rfl (by unfold vfld; rw [hkd]; rfl) dg kk
theorem wf_X6_76 : Cond.fieldLink RX6 76 RX4 "draft" "LWhichEncore$Told;" ∈ tb := tb_mem 166 (by decide +kernel) (by decide +kernel)
theorem gf_X6_76 {X : Cx} {F : Fx} {cc : ByteArray} {nL d pc k : Nat} {L : List (Option Value)} {st : List Value} {M : Mem} (hF : FK X F cc RX6 nL d) (hk : k ∈ xcs X) (hkd : kd k = 3) (hN : ln k = 7) (dg : decode cc pc = .ok (.getfield 76, 3)) (kk : G X F (pc + 3) L (.ref 10 :: st) M) : G X F pc L (.ref k :: st) M := g_get hF iX4 rfl (by decide) hk hkd hN (j := 0) (by decide) wf_X6_76 rfl (by unfold vfld; rw [hkd]; rfl) dg kk
theorem wf_X4_36 : Cond.fieldLink RX4 36 RX4 "length" "I" ∈ tb := tb_mem 167 (by decide +kernel) (by decide +kernel)
theorem gf_X4_36 {X : Cx} {F : Fx} {cc : ByteArray} {nL d pc k : Nat} {L : List (Option Value)} {st : List Value} {M : Mem} (hF : FK X F cc RX4 nL d) (hk : k ∈ xcs X) (hkd : kd k = 3) (hN : ln k = 7) (dg : decode cc pc = .ok (.getfield 36, 3)) (kk : G X F (pc + 3) L (.int (M k 1) :: st) M) : G X F pc L (.ref k :: st) M := g_get hF iX4 rfl (by decide) hk hkd hN (j := 1) (by decide) wf_X4_36 rfl (by unfold vfld; rw [hkd]; rfl) dg kk
theorem pf_X4_36 {X : Cx} {F : Fx} {cc : ByteArray} {nL d pc k : Nat} {L : List (Option Value)} {st : List Value} {M : Mem} (hF : FK X F cc RX4 nL d) (hk : k ∈ xcs X) (hkd : kd k = 3) (hN : ln k = 7) {v : Int32} (dg : decode cc pc = .ok (.putfield 36, 3)) (kk : G X F (pc + 3) L st (up2 M k 1 v)) : G X F pc L (.int v :: .ref k :: st) M := g_put hF (ty := .int) iX4 tyX4 tyX4_ok nmX4 rfl (by decide) hk hkd hN (j := 1) (by decide) wf_X4_36 rfl rfl (by decide +kernel) rfl rfl rfl dg kk
theorem wf_X6_68 : Cond.fieldLink RX6 68 RX4 "length" "I" ∈ tb := tb_mem 168 (by decide +kernel) (by decide +kernel)
theorem gf_X6_68 {X : Cx} {F : Fx} {cc : ByteArray} {nL d pc k : Nat} {L : List (Option Value)} {st : List Value} {M : Mem} (hF : FK X F cc RX6 nL d) (hk : k ∈ xcs X) (hkd : kd k = 3) (hN : ln k = 7) (dg : decode cc pc = .ok (.getfield 68, 3)) (kk : G X F (pc + 3) L (.int (M k 1) :: st) M) : G X F pc L (.ref k :: st) M := g_get hF iX4 rfl (by decide) hk hkd hN (j := 1) (by decide) wf_X6_68 rfl (by unfold vfld; rw [hkd]; rfl) dg kk
theorem pf_X6_68 {X : Cx} {F : Fx} {cc : ByteArray} {nL d pc k : Nat} {L : List (Option Value)} {st : List Value} {M : Mem} (hF : FK X F cc RX6 nL d) (hk : k ∈ xcs X) (hkd : kd k = 3) (hN : ln k = 7) {v : Int32} (dg : decode cc pc = .ok (.putfield 68, 3)) (kk : G X F (pc + 3) L st (up2 M k 1 v)) : G X F pc L (.int v :: .ref k :: st) M := g_put hF (ty := .int) iX4 tyX4 tyX4_ok nmX4 rfl (by decide) hk hkd hN (j := 1) (by decide) wf_X6_68 rfl rfl (by decide +kernel) rfl rfl rfl dg kk
theorem wf_X4_47 : Cond.fieldLink RX4 47 RX4 "clauses" "I" ∈ tb := tb_mem 169 (by decide +kernel) (by decide +kernel)
theorem gf_X4_47 {X : Cx} {F : Fx} {cc : ByteArray} {nL d pc k : Nat} {L : List (Option Value)} {st : List Value} {M : Mem} (hF : FK X F cc RX4 nL d) (hk : k ∈ xcs X) (hkd : kd k = 3) (hN : ln k = 7) (dg : decode cc pc = .ok (.getfield 47, 3)) (kk : G X F (pc + 3) L (.int (M k 2) :: st) M) : G X F pc L (.ref k :: st) M := g_get hF iX4 rfl (by decide) hk hkd hN (j := 2) (by decide) wf_X4_47 rfl (by unfold vfld; rw [hkd]; rfl) dg kk
theorem pf_X4_47 {X : Cx} {F : Fx} {cc : ByteArray} {nL d pc k : Nat} {L : List (Option Value)} {st : List Value} {M : Mem} (hF : FK X F cc RX4 nL d) (hk : k ∈ xcs X) (hkd : kd k = 3) (hN : ln k = 7) {v : Int32} (dg : decode cc pc = .ok (.putfield 47, 3)) (kk : G X F (pc + 3) L st (up2 M k 2 v)) : G X F pc L (.int v :: .ref k :: st) M := g_put hF (ty := .int) iX4 tyX4 tyX4_ok nmX4 rfl (by decide) hk hkd hN (j := 2) (by decide) wf_X4_47 rfl rfl (by decide +kernel) rfl rfl rfl dg kk
theorem wf_X6_85 : Cond.fieldLink RX6 85 RX4 "clauses" "I" ∈ tb := tb_mem 170 (by decide +kernel) (by decide +kernel)
theorem gf_X6_85 {X : Cx} {F : Fx} {cc : ByteArray} {nL d pc k : Nat} {L : List (Option Value)} {st : List Value} {M : Mem} (hF : FK X F cc RX6 nL d) (hk : k ∈ xcs X) (hkd : kd k = 3) (hN : ln k = 7) (dg : decode cc pc = .ok (.getfield 85, 3)) (kk : G X F (pc + 3) L (.int (M k 2) :: st) M) : G X F pc L (.ref k :: st) M := g_get hF iX4 rfl (by decide) hk hkd hN (j := 2) (by decide) wf_X6_85 rfl (by unfold vfld; rw [hkd]; rfl) dg kk
theorem pf_X6_85 {X : Cx} {F : Fx} {cc : ByteArray} {nL d pc k : Nat} {L : List (Option Value)} {st : List Value} {M : Mem} (hF : FK X F cc RX6 nL d) (hk : k ∈ xcs X) (hkd : kd k = 3) (hN : ln k = 7) {v : Int32} (dg : decode cc pc = .ok (.putfield 85, 3)) (kk : G X F (pc + 3) L st (up2 M k 2 v)) : G X F pc L (.int v :: .ref k :: st) M := g_put hF (ty := .int) iX4 tyX4 tyX4_ok nmX4 rfl (by decide) hk hkd hN (j := 2) (by decide) wf_X6_85 rfl rfl (by decide +kernel) rfl rfl rfl dg kk
theorem wf_X4_18 : Cond.fieldLink RX4 18 RX4 "letters" "[C" ∈ tb := tb_mem 171 (by decide +kernel) (by decide +kernel)
theorem gf_X4_18 {X : Cx} {F : Fx} {cc : ByteArray} {nL d pc k : Nat} {L : List (Option Value)} {st : List Value} {M : Mem} (hF : FK X F cc RX4 nL d) (hk : k ∈ xcs X) (hkd : kd k = 3) (hN : ln k = 7) (dg : decode cc pc = .ok (.getfield 18, 3)) (kk : G X F (pc + 3) L (.ref 18 :: st) M) : G X F pc L (.ref k :: st) M := g_get hF iX4 rfl (by decide) hk hkd hN (j := 3) (by decide) wf_X4_18 rfl (by unfold vfld; rw [hkd]; rfl) dg kk
theorem wf_X4_22 : Cond.fieldLink RX4 22 RX4 "numbers" "[I" ∈ tb := tb_mem 172 (by decide +kernel) (by decide +kernel)
theorem gf_X4_22 {X : Cx} {F : Fx} {cc : ByteArray} {nL d pc k : Nat} {L : List (Option Value)} {st : List Value} {M : Mem} (hF : FK X F cc RX4 nL d) (hk : k ∈ xcs X) (hkd : kd k = 3) (hN : ln k = 7) (dg : decode cc pc = .ok (.getfield 22, 3)) (kk : G X F (pc + 3) L (.ref 19 :: st) M) : G X F pc L (.ref k :: st) M := g_get hF iX4 rfl (by decide) hk hkd hN (j := 4) (by decide) wf_X4_22 rfl (by unfold vfld; rw [hkd]; rfl) dg kk
theorem wf_X4_32 : Cond.fieldLink RX4 32 RX4 "allClauses" "[LWhichEncore$Clause;" ∈ tb := tb_mem 173 (by decide +kernel) (by decide +kernel)
theorem gf_X4_32 {X : Cx} {F : Fx} {cc : ByteArray} {nL d pc k : Nat} {L : List (Option Value)} {st : List Value} {M : Mem} (hF : FK X F cc RX4 nL d) (hk : k ∈ xcs X) (hkd : kd k = 3) (hN : ln k = 7) (dg : decode cc pc = .ok (.getfield 32, 3)) (kk : G X F (pc + 3) L (.ref 20 :: st) M) : G X F pc L (.ref k :: st) M := g_get hF iX4 rfl (by decide) hk hkd hN (j := 5) (by decide) wf_X4_32 rfl (by unfold vfld; rw [hkd]; rfl) dg kk
theorem wf_X4_44 : Cond.fieldLink RX4 44 RX4 "place" "I" ∈ tb := tb_mem 174 (by decide +kernel) (by decide +kernel)
theorem gf_X4_44 {X : Cx} {F : Fx} {cc : ByteArray} {nL d pc k : Nat} {L : List (Option Value)} {st : List Value} {M : Mem} (hF : FK X F cc RX4 nL d) (hk : k ∈ xcs X) (hkd : kd k = 3) (hN : ln k = 7) (dg : decode cc pc = .ok (.getfield 44, 3)) (kk : G X F (pc + 3) L (.int (M k 6) :: st) M) : G X F pc L (.ref k :: st) M := g_get hF iX4 rfl (by decide) hk hkd hN (j := 6) (by decide) wf_X4_44 rfl (by unfold vfld; rw [hkd]; rfl) dg kk
theorem pf_X4_44 {X : Cx} {F : Fx} {cc : ByteArray} {nL d pc k : Nat} {L : List (Option Value)} {st : List Value} {M : Mem} (hF : FK X F cc RX4 nL d) (hk : k ∈ xcs X) (hkd : kd k = 3) (hN : ln k = 7) {v : Int32} (dg : decode cc pc = .ok (.putfield 44, 3)) (kk : G X F (pc + 3) L st (up2 M k 6 v)) : G X F pc L (.int v :: .ref k :: st) M := g_put hF (ty := .int) iX4 tyX4 tyX4_ok nmX4 rfl (by decide) hk hkd hN (j := 6) (by decide) wf_X4_44 rfl rfl (by decide +kernel) rfl rfl rfl dg kk
theorem wf_X1_9 : Cond.fieldLink RX1 9 RX1 "zeal" "[I" ∈ tb := tb_mem 197 (by decide +kernel) (by decide +kernel)
theorem gf_X1_9 {X : Cx} {F : Fx} {cc : ByteArray} {nL d pc k : Nat} {L : List (Option Value)} {st : List Value} {M : Mem} (hF : FK X F cc RX1 nL d) (hk : k ∈ xcs X) (hkd : kd k = 0) (hN : ln k = 10) {t : Nat} (ht : k + 1 = t) (dg : decode cc pc = .ok (.getfield 9, 3)) (kk : G X F (pc + 3) L (.ref t :: st) M) : G X F pc L (.ref k :: st) M := g_get hF iX1 rfl (by decide) hk hkd hN (j := 0) (by decide) wf_X1_9 rfl (by subst ht; unfold vfld; rw [hkd]; rfl) dg kk
theorem wf_X6_94 : Cond.fieldLink RX6 94 RX1 "zeal" "[I" ∈ tb := tb_mem 198 (by decide +kernel) (by decide +kernel)
theorem gf_X6_94 {X : Cx} {F : Fx} {cc : ByteArray} {nL d pc k : Nat} {L : List (Option Value)} {st : List Value} {M : Mem} (hF : FK X F cc RX6 nL d) (hk : k ∈ xcs X) (hkd : kd k = 0) (hN : ln k = 10) {t : Nat} (ht : k + 1 = t) (dg : decode cc pc = .ok (.getfield 94, 3)) (kk : G X F (pc + 3) L (.ref t :: st) M) : G X F pc L (.ref k :: st) M := g_get hF iX1 rfl (by decide) hk hkd hN (j := 0) (by decide) wf_X6_94 rfl (by subst ht; unfold vfld; rw [hkd]; rfl) dg kk
theorem wf_X1_34 : Cond.fieldLink RX1 34 RX1 "there" "I" ∈ tb := tb_mem 199 (by decide +kernel) (by decide +kernel)
theorem gf_X1_34 {X : Cx} {F : Fx} {cc : ByteArray} {nL d pc k : Nat} {L : List (Option Value)} {st : List Value} {M : Mem} (hF : FK X F cc RX1 nL d) (hk : k ∈ xcs X) (hkd : kd k = 0) (hN : ln k = 10) (dg : decode cc pc = .ok (.getfield 34, 3)) (kk : G X F (pc + 3) L (.int (M k 1) :: st) M) : G X F pc L (.ref k :: st) M := g_get hF iX1 rfl (by decide) hk hkd hN (j := 1) (by decide) wf_X1_34 rfl (by unfold vfld; rw [hkd]; rfl) dg kk
theorem pf_X1_34 {X : Cx} {F : Fx} {cc : ByteArray} {nL d pc k : Nat} {L : List (Option Value)} {st : List Value} {M : Mem} (hF : FK X F cc RX1 nL d) (hk : k ∈ xcs X) (hkd : kd k = 0) (hN : ln k = 10) {v : Int32} (dg : decode cc pc = .ok (.putfield 34, 3)) (kk : G X F (pc + 3) L st (up2 M k 1 v)) : G X F pc L (.int v :: .ref k :: st) M := g_put hF (ty := .int) iX1 tyX1 tyX1_ok nmX1 rfl (by decide) hk hkd hN (j := 1) (by decide) wf_X1_34 rfl rfl (by decide +kernel) rfl rfl rfl dg kk
theorem wf_X6_185 : Cond.fieldLink RX6 185 RX1 "there" "I" ∈ tb := tb_mem 200 (by decide +kernel) (by decide +kernel)
theorem gf_X6_185 {X : Cx} {F : Fx} {cc : ByteArray} {nL d pc k : Nat} {L : List (Option Value)} {st : List Value} {M : Mem} (hF : FK X F cc RX6 nL d) (hk : k ∈ xcs X) (hkd : kd k = 0) (hN : ln k = 10) (dg : decode cc pc = .ok (.getfield 185, 3)) (kk : G X F (pc + 3) L (.int (M k 1) :: st) M) : G X F pc L (.ref k :: st) M := g_get hF iX1 rfl (by decide) hk hkd hN (j := 1) (by decide) wf_X6_185 rfl (by unfold vfld; rw [hkd]; rfl) dg kk
theorem pf_X6_185 {X : Cx} {F : Fx} {cc : ByteArray} {nL d pc k : Nat} {L : List (Option Value)} {st : List Value} {M : Mem} (hF : FK X F cc RX6 nL d) (hk : k ∈ xcs X) (hkd : kd k = 0) (hN : ln k = 10) {v : Int32} (dg : decode cc pc = .ok (.putfield 185, 3)) (kk : G X F (pc + 3) L st (up2 M k 1 v)) : G X F pc L (.int v :: .ref k :: st) M := g_put hF (ty := .int) iX1 tyX1 tyX1_ok nmX1 rfl (by decide) hk hkd hN (j := 1) (by decide) wf_X6_185 rfl rfl (by decide +kernel) rfl rfl rfl dg kk
theorem wf_X1_37 : Cond.fieldLink RX1 37 RX1 "minute" "I" ∈ tb := tb_mem 201 (by decide +kernel) (by decide +kernel)
theorem gf_X1_37 {X : Cx} {F : Fx} {cc : ByteArray} {nL d pc k : Nat} {L : List (Option Value)} {st : List Value} {M : Mem} (hF : FK X F cc RX1 nL d) (hk : k ∈ xcs X) (hkd : kd k = 0) (hN : ln k = 10) (dg : decode cc pc = .ok (.getfield 37, 3)) (kk : G X F (pc + 3) L (.int (M k 2) :: st) M) : G X F pc L (.ref k :: st) M := g_get hF iX1 rfl (by decide) hk hkd hN (j := 2) (by decide) wf_X1_37 rfl (by unfold vfld; rw [hkd]; rfl) dg kk
theorem pf_X1_37 {X : Cx} {F : Fx} {cc : ByteArray} {nL d pc k : Nat} {L : List (Option Value)} {st : List Value} {M : Mem} (hF : FK X F cc RX1 nL d) (hk : k ∈ xcs X) (hkd : kd k = 0) (hN : ln k = 10) {v : Int32} (dg : decode cc pc = .ok (.putfield 37, 3)) (kk : G X F (pc + 3) L st (up2 M k 2 v)) : G X F pc L (.int v :: .ref k :: st) M := g_put hF (ty := .int) iX1 tyX1 tyX1_ok nmX1 rfl (by decide) hk hkd hN (j := 2) (by decide) wf_X1_37 rfl rfl (by decide +kernel) rfl rfl rfl dg kk
theorem wf_X6_156 : Cond.fieldLink RX6 156 RX1 "minute" "I" ∈ tb := tb_mem 202 (by decide +kernel) (by decide +kernel)
theorem gf_X6_156 {X : Cx} {F : Fx} {cc : ByteArray} {nL d pc k : Nat} {L : List (Option Value)} {st : List Value} {M : Mem} (hF : FK X F cc RX6 nL d) (hk : k ∈ xcs X) (hkd : kd k = 0) (hN : ln k = 10) (dg : decode cc pc = .ok (.getfield 156, 3)) (kk : G X F (pc + 3) L (.int (M k 2) :: st) M) : G X F pc L (.ref k :: st) M := g_get hF iX1 rfl (by decide) hk hkd hN (j := 2) (by decide) wf_X6_156 rfl (by unfold vfld; rw [hkd]; rfl) dg kk
theorem pf_X6_156 {X : Cx} {F : Fx} {cc : ByteArray} {nL d pc k : Nat} {L : List (Option Value)} {st : List Value} {M : Mem} (hF : FK X F cc RX6 nL d) (hk : k ∈ xcs X) (hkd : kd k = 0) (hN : ln k = 10) {v : Int32} (dg : decode cc pc = .ok (.putfield 156, 3)) (kk : G X F (pc + 3) L st (up2 M k 2 v)) : G X F pc L (.int v :: .ref k :: st) M := g_put hF (ty := .int) iX1 tyX1 tyX1_ok nmX1 rfl (by decide) hk hkd hN (j := 2) (by decide) wf_X6_156 rfl rfl (by decide +kernel) rfl rfl rfl dg kk
theorem wf_X3_31 : Cond.fieldLink RX3 31 RX1 "arm" "I" ∈ tb := tb_mem 203 (by decide +kernel) (by decide +kernel)
theorem gf_X3_31 {X : Cx} {F : Fx} {cc : ByteArray} {nL d pc k : Nat} {L : List (Option Value)} {st : List Value} {M : Mem} (hF : FK X F cc RX3 nL d) (hk : k ∈ xcs X) (hkd : kd k = 0) (hN : ln k = 10) (dg : decode cc pc = .ok (.getfield 31, 3)) (kk : G X F (pc + 3) L (.int (M k 3) :: st) M) : G X F pc L (.ref k :: st) M := g_get hF iX1 rfl (by decide) hk hkd hN (j := 3) (by decide) wf_X3_31 rfl (by unfold vfld; rw [hkd]; rfl) dg kk
theorem pf_X3_31 {X : Cx} {F : Fx} {cc : ByteArray} {nL d pc k : Nat} {L : List (Option Value)} {st : List Value} {M : Mem} (hF : FK X F cc RX3 nL d) (hk : k ∈ xcs X) (hkd : kd k = 0) (hN : ln k = 10) {v : Int32} (dg : decode cc pc = .ok (.putfield 31, 3)) (kk : G X F (pc + 3) L st (up2 M k 3 v)) : G X F pc L (.int v :: .ref k :: st) M := g_put hF (ty := .int) iX1 tyX1 tyX1_ok nmX1 rfl (by decide) hk hkd hN (j := 3) (by decide) wf_X3_31 rfl rfl (by decide +kernel) rfl rfl rfl dg kk
theorem wf_X1_43 : Cond.fieldLink RX1 43 RX1 "arm" "I" ∈ tb := tb_mem 204 (by decide +kernel) (by decide +kernel)
theorem gf_X1_43 {X : Cx} {F : Fx} {cc : ByteArray} {nL d pc k : Nat} {L : List (Option Value)} {st : List Value} {M : Mem} (hF : FK X F cc RX1 nL d) (hk : k ∈ xcs X) (hkd : kd k = 0) (hN : ln k = 10) (dg : decode cc pc = .ok (.getfield 43, 3)) (kk : G X F (pc + 3) L (.int (M k 3) :: st) M) : G X F pc L (.ref k :: st) M := g_get hF iX1 rfl (by decide) hk hkd hN (j := 3) (by decide) wf_X1_43 rfl (by unfold vfld; rw [hkd]; rfl) dg kk
theorem pf_X1_43 {X : Cx} {F : Fx} {cc : ByteArray} {nL d pc k : Nat} {L : List (Option Value)} {st : List Value} {M : Mem} (hF : FK X F cc RX1 nL d) (hk : k ∈ xcs X) (hkd : kd k = 0) (hN : ln k = 10) {v : Int32} (dg : decode cc pc = .ok (.putfield 43, 3)) (kk : G X F (pc + 3) L st (up2 M k 3 v)) : G X F pc L (.int v :: .ref k :: st) M := g_put hF (ty := .int) iX1 tyX1 tyX1_ok nmX1 rfl (by decide) hk hkd hN (j := 3) (by decide) wf_X1_43 rfl rfl (by decide +kernel) rfl rfl rfl dg kk
theorem wf_X6_188 : Cond.fieldLink RX6 188 RX1 "arm" "I" ∈ tb := tb_mem 205 (by decide +kernel) (by decide +kernel)
theorem gf_X6_188 {X : Cx} {F : Fx} {cc : ByteArray} {nL d pc k : Nat} {L : List (Option Value)} {st : List Value} {M : Mem} (hF : FK X F cc RX6 nL d) (hk : k ∈ xcs X) (hkd : kd k = 0) (hN : ln k = 10) (dg : decode cc pc = .ok (.getfield 188, 3)) (kk : G X F (pc + 3) L (.int (M k 3) :: st) M) : G X F pc L (.ref k :: st) M := g_get hF iX1 rfl (by decide) hk hkd hN (j := 3) (by decide) wf_X6_188 rfl (by unfold vfld; rw [hkd]; rfl) dg kk
theorem pf_X6_188 {X : Cx} {F : Fx} {cc : ByteArray} {nL d pc k : Nat} {L : List (Option Value)} {st : List Value} {M : Mem} (hF : FK X F cc RX6 nL d) (hk : k ∈ xcs X) (hkd : kd k = 0) (hN : ln k = 10) {v : Int32} (dg : decode cc pc = .ok (.putfield 188, 3)) (kk : G X F (pc + 3) L st (up2 M k 3 v)) : G X F pc L (.int v :: .ref k :: st) M := g_put hF (ty := .int) iX1 tyX1 tyX1_ok nmX1 rfl (by decide) hk hkd hN (j := 3) (by decide) wf_X6_188 rfl rfl (by decide +kernel) rfl rfl rfl dg kk
theorem wf_X1_44 : Cond.fieldLink RX1 44 RX1 "played" "I" ∈ tb := tb_mem 206 (by decide +kernel) (by decide +kernel)
theorem gf_X1_44 {X : Cx} {F : Fx} {cc : ByteArray} {nL d pc k : Nat} {L : List (Option Value)} {st : List Value} {M : Mem} (hF : FK X F cc RX1 nL d) (hk : k ∈ xcs X) (hkd : kd k = 0) (hN : ln k = 10) (dg : decode cc pc = .ok (.getfield 44, 3)) (kk : G X F (pc + 3) L (.int (M k 4) :: st) M) : G X F pc L (.ref k :: st) M := g_get hF iX1 rfl (by decide) hk hkd hN (j := 4) (by decide) wf_X1_44 rfl (by unfold vfld; rw [hkd]; rfl) dg kk
theorem pf_X1_44 {X : Cx} {F : Fx} {cc : ByteArray} {nL d pc k : Nat} {L : List (Option Value)} {st : List Value} {M : Mem} (hF : FK X F cc RX1 nL d) (hk : k ∈ xcs X) (hkd : kd k = 0) (hN : ln k = 10) {v : Int32} (dg : decode cc pc = .ok (.putfield 44, 3)) (kk : G X F (pc + 3) L st (up2 M k 4 v)) : G X F pc L (.int v :: .ref k :: st) M := g_put hF (ty := .int) iX1 tyX1 tyX1_ok nmX1 rfl (by decide) hk hkd hN (j := 4) (by decide) wf_X1_44 rfl rfl (by decide +kernel) rfl rfl rfl dg kk
theorem wf_X6_248 : Cond.fieldLink RX6 248 RX1 "played" "I" ∈ tb := tb_mem 207 (by decide +kernel) (by decide +kernel)
theorem gf_X6_248 {X : Cx} {F : Fx} {cc : ByteArray} {nL d pc k : Nat} {L : List (Option Value)} {st : List Value} {M : Mem} (hF : FK X F cc RX6 nL d) (hk : k ∈ xcs X) (hkd : kd k = 0) (hN : ln k = 10) (dg : decode cc pc = .ok (.getfield 248, 3)) (kk : G X F (pc + 3) L (.int (M k 4) :: st) M) : G X F pc L (.ref k :: st) M := g_get hF iX1 rfl (by decide) hk hkd hN (j := 4) (by decide) wf_X6_248 rfl (by unfold vfld; rw [hkd]; rfl) dg kk
theorem pf_X6_248 {X : Cx} {F : Fx} {cc : ByteArray} {nL d pc k : Nat} {L : List (Option Value)} {st : List Value} {M : Mem} (hF : FK X F cc RX6 nL d) (hk : k ∈ xcs X) (hkd : kd k = 0) (hN : ln k = 10) {v : Int32} (dg : decode cc pc = .ok (.putfield 248, 3)) (kk : G X F (pc + 3) L st (up2 M k 4 v)) : G X F pc L (.int v :: .ref k :: st) M := g_put hF (ty := .int) iX1 tyX1 tyX1_ok nmX1 rfl (by decide) hk hkd hN (j := 4) (by decide) wf_X6_248 rfl rfl (by decide +kernel) rfl rfl rfl dg kk
theorem wf_X1_47 : Cond.fieldLink RX1 47 RX1 "bows" "I" ∈ tb := tb_mem 208 (by decide +kernel) (by decide +kernel)
theorem gf_X1_47 {X : Cx} {F : Fx} {cc : ByteArray} {nL d pc k : Nat} {L : List (Option Value)} {st : List Value} {M : Mem} (hF : FK X F cc RX1 nL d) (hk : k ∈ xcs X) (hkd : kd k = 0) (hN : ln k = 10) (dg : decode cc pc = .ok (.getfield 47, 3)) (kk : G X F (pc + 3) L (.int (M k 5) :: st) M) : G X F pc L (.ref k :: st) M := g_get hF iX1 rfl (by decide) hk hkd hN (j := 5) (by decide) wf_X1_47 rfl (by unfold vfld; rw [hkd]; rfl) dg kk
theorem pf_X1_47 {X : Cx} {F : Fx} {cc : ByteArray} {nL d pc k : Nat} {L : List (Option Value)} {st : List Value} {M : Mem} (hF : FK X F cc RX1 nL d) (hk : k ∈ xcs X) (hkd : kd k = 0) (hN : ln k = 10) {v : Int32} (dg : decode cc pc = .ok (.putfield 47, 3)) (kk : G X F (pc + 3) L st (up2 M k 5 v)) : G X F pc L (.int v :: .ref k :: st) M := g_put hF (ty := .int) iX1 tyX1 tyX1_ok nmX1 rfl (by decide) hk hkd hN (j := 5) (by decide) wf_X1_47 rfl rfl (by decide +kernel) rfl rfl rfl dg kk
theorem wf_X6_239 : Cond.fieldLink RX6 239 RX1 "bows" "I" ∈ tb := tb_mem 209 (by decide +kernel) (by decide +kernel)
theorem gf_X6_239 {X : Cx} {F : Fx} {cc : ByteArray} {nL d pc k : Nat} {L : List (Option Value)} {st : List Value} {M : Mem} (hF : FK X F cc RX6 nL d) (hk : k ∈ xcs X) (hkd : kd k = 0) (hN : ln k = 10) (dg : decode cc pc = .ok (.getfield 239, 3)) (kk : G X F (pc + 3) L (.int (M k 5) :: st) M) : G X F pc L (.ref k :: st) M := g_get hF iX1 rfl (by decide) hk hkd hN (j := 5) (by decide) wf_X6_239 rfl (by unfold vfld; rw [hkd]; rfl) dg kk
theorem pf_X6_239 {X : Cx} {F : Fx} {cc : ByteArray} {nL d pc k : Nat} {L : List (Option Value)} {st : List Value} {M : Mem} (hF : FK X F cc RX6 nL d) (hk : k ∈ xcs X) (hkd : kd k = 0) (hN : ln k = 10) {v : Int32} (dg : decode cc pc = .ok (.putfield 239, 3)) (kk : G X F (pc + 3) L st (up2 M k 5 v)) : G X F pc L (.int v :: .ref k :: st) M := g_put hF (ty := .int) iX1 tyX1 tyX1_ok nmX1 rfl (by decide) hk hkd hN (j := 5) (by decide) wf_X6_239 rfl rfl (by decide +kernel) rfl rfl rfl dg kk
theorem wf_X1_50 : Cond.fieldLink RX1 50 RX1 "paid" "I" ∈ tb := tb_mem 210 (by decide +kernel) (by decide +kernel)
theorem gf_X1_50 {X : Cx} {F : Fx} {cc : ByteArray} {nL d pc k : Nat} {L : List (Option Value)} {st : List Value} {M : Mem} (hF : FK X F cc RX1 nL d) (hk : k ∈ xcs X) (hkd : kd k = 0) (hN : ln k = 10) (dg : decode cc pc = .ok (.getfield 50, 3)) (kk : G X F (pc + 3) L (.int (M k 6) :: st) M) : G X F pc L (.ref k :: st) M := g_get hF iX1 rfl (by decide) hk hkd hN (j := 6) (by decide) wf_X1_50 rfl (by unfold vfld; rw [hkd]; rfl) dg kk
theorem pf_X1_50 {X : Cx} {F : Fx} {cc : ByteArray} {nL d pc k : Nat} {L : List (Option Value)} {st : List Value} {M : Mem} (hF : FK X F cc RX1 nL d) (hk : k ∈ xcs X) (hkd : kd k = 0) (hN : ln k = 10) {v : Int32} (dg : decode cc pc = .ok (.putfield 50, 3)) (kk : G X F (pc + 3) L st (up2 M k 6 v)) : G X F pc L (.int v :: .ref k :: st) M := g_put hF (ty := .int) iX1 tyX1 tyX1_ok nmX1 rfl (by decide) hk hkd hN (j := 6) (by decide) wf_X1_50 rfl rfl (by decide +kernel) rfl rfl rfl dg kk
theorem wf_X3_70 : Cond.fieldLink RX3 70 RX1 "paid" "I" ∈ tb := tb_mem 211 (by decide +kernel) (by decide +kernel)
theorem gf_X3_70 {X : Cx} {F : Fx} {cc : ByteArray} {nL d pc k : Nat} {L : List (Option Value)} {st : List Value} {M : Mem} (hF : FK X F cc RX3 nL d) (hk : k ∈ xcs X) (hkd : kd k = 0) (hN : ln k = 10) (dg : decode cc pc = .ok (.getfield 70, 3)) (kk : G X F (pc + 3) L (.int (M k 6) :: st) M) : G X F pc L (.ref k :: st) M := g_get hF iX1 rfl (by decide) hk hkd hN (j := 6) (by decide) wf_X3_70 rfl (by unfold vfld; rw [hkd]; rfl) dg kk
theorem pf_X3_70 {X : Cx} {F : Fx} {cc : ByteArray} {nL d pc k : Nat} {L : List (Option Value)} {st : List Value} {M : Mem} (hF : FK X F cc RX3 nL d) (hk : k ∈ xcs X) (hkd : kd k = 0) (hN : ln k = 10) {v : Int32} (dg : decode cc pc = .ok (.putfield 70, 3)) (kk : G X F (pc + 3) L st (up2 M k 6 v)) : G X F pc L (.int v :: .ref k :: st) M := g_put hF (ty := .int) iX1 tyX1 tyX1_ok nmX1 rfl (by decide) hk hkd hN (j := 6) (by decide) wf_X3_70 rfl rfl (by decide +kernel) rfl rfl rfl dg kk
theorem wf_X6_242 : Cond.fieldLink RX6 242 RX1 "paid" "I" ∈ tb := tb_mem 212 (by decide +kernel) (by decide +kernel)
theorem gf_X6_242 {X : Cx} {F : Fx} {cc : ByteArray} {nL d pc k : Nat} {L : List (Option Value)} {st : List Value} {M : Mem} (hF : FK X F cc RX6 nL d) (hk : k ∈ xcs X) (hkd : kd k = 0) (hN : ln k = 10) (dg : decode cc pc = .ok (.getfield 242, 3)) (kk : G X F (pc + 3) L (.int (M k 6) :: st) M) : G X F pc L (.ref k :: st) M := g_get hF iX1 rfl (by decide) hk hkd hN (j := 6) (by decide) wf_X6_242 rfl (by unfold vfld; rw [hkd]; rfl) dg kk
theorem pf_X6_242 {X : Cx} {F : Fx} {cc : ByteArray} {nL d pc k : Nat} {L : List (Option Value)} {st : List Value} {M : Mem} (hF : FK X F cc RX6 nL d) (hk : k ∈ xcs X) (hkd : kd k = 0) (hN : ln k = 10) {v : Int32} (dg : decode cc pc = .ok (.putfield 242, 3)) (kk : G X F (pc + 3) L st (up2 M k 6 v)) : G X F pc L (.int v :: .ref k :: st) M := g_put hF (ty := .int) iX1 tyX1 tyX1_ok nmX1 rfl (by decide) hk hkd hN (j := 6) (by decide) wf_X6_242 rfl rfl (by decide +kernel) rfl rfl rfl dg kk
theorem wf_X1_53 : Cond.fieldLink RX1 53 RX1 "fame" "I" ∈ tb := tb_mem 213 (by decide +kernel) (by decide +kernel)
theorem gf_X1_53 {X : Cx} {F : Fx} {cc : ByteArray} {nL d pc k : Nat} {L : List (Option Value)} {st : List Value} {M : Mem} (hF : FK X F cc RX1 nL d) (hk : k ∈ xcs X) (hkd : kd k = 0) (hN : ln k = 10) (dg : decode cc pc = .ok (.getfield 53, 3)) (kk : G X F (pc + 3) L (.int (M k 7) :: st) M) : G X F pc L (.ref k :: st) M := g_get hF iX1 rfl (by decide) hk hkd hN (j := 7) (by decide) wf_X1_53 rfl (by unfold vfld; rw [hkd]; rfl) dg kk
theorem pf_X1_53 {X : Cx} {F : Fx} {cc : ByteArray} {nL d pc k : Nat} {L : List (Option Value)} {st : List Value} {M : Mem} (hF : FK X F cc RX1 nL d) (hk : k ∈ xcs X) (hkd : kd k = 0) (hN : ln k = 10) {v : Int32} (dg : decode cc pc = .ok (.putfield 53, 3)) (kk : G X F (pc + 3) L st (up2 M k 7 v)) : G X F pc L (.int v :: .ref k :: st) M := g_put hF (ty := .int) iX1 tyX1 tyX1_ok nmX1 rfl (by decide) hk hkd hN (j := 7) (by decide) wf_X1_53 rfl rfl (by decide +kernel) rfl rfl rfl dg kk
theorem wf_X3_67 : Cond.fieldLink RX3 67 RX1 "fame" "I" ∈ tb := tb_mem 214 (by decide +kernel) (by decide +kernel)
theorem gf_X3_67 {X : Cx} {F : Fx} {cc : ByteArray} {nL d pc k : Nat} {L : List (Option Value)} {st : List Value} {M : Mem} (hF : FK X F cc RX3 nL d) (hk : k ∈ xcs X) (hkd : kd k = 0) (hN : ln k = 10) (dg : decode cc pc = .ok (.getfield 67, 3)) (kk : G X F (pc + 3) L (.int (M k 7) :: st) M) : G X F pc L (.ref k :: st) M := g_get hF iX1 rfl (by decide) hk hkd hN (j := 7) (by decide) wf_X3_67 rfl (by unfold vfld; rw [hkd]; rfl) dg kk
theorem pf_X3_67 {X : Cx} {F : Fx} {cc : ByteArray} {nL d pc k : Nat} {L : List (Option Value)} {st : List Value} {M : Mem} (hF : FK X F cc RX3 nL d) (hk : k ∈ xcs X) (hkd : kd k = 0) (hN : ln k = 10) {v : Int32} (dg : decode cc pc = .ok (.putfield 67, 3)) (kk : G X F (pc + 3) L st (up2 M k 7 v)) : G X F pc L (.int v :: .ref k :: st) M := g_put hF (ty := .int) iX1 tyX1 tyX1_ok nmX1 rfl (by decide) hk hkd hN (j := 7) (by decide) wf_X3_67 rfl rfl (by decide +kernel) rfl rfl rfl dg kk
theorem wf_X6_245 : Cond.fieldLink RX6 245 RX1 "fame" "I" ∈ tb := tb_mem 215 (by decide +kernel) (by decide +kernel)
theorem gf_X6_245 {X : Cx} {F : Fx} {cc : ByteArray} {nL d pc k : Nat} {L : List (Option Value)} {st : List Value} {M : Mem} (hF : FK X F cc RX6 nL d) (hk : k ∈ xcs X) (hkd : kd k = 0) (hN : ln k = 10) (dg : decode cc pc = .ok (.getfield 245, 3)) (kk : G X F (pc + 3) L (.int (M k 7) :: st) M) : G X F pc L (.ref k :: st) M := g_get hF iX1 rfl (by decide) hk hkd hN (j := 7) (by decide) wf_X6_245 rfl (by unfold vfld; rw [hkd]; rfl) dg kk
theorem pf_X6_245 {X : Cx} {F : Fx} {cc : ByteArray} {nL d pc k : Nat} {L : List (Option Value)} {st : List Value} {M : Mem} (hF : FK X F cc RX6 nL d) (hk : k ∈ xcs X) (hkd : kd k = 0) (hN : ln k = 10) {v : Int32} (dg : decode cc pc = .ok (.putfield 245, 3)) (kk : G X F (pc + 3) L st (up2 M k 7 v)) : G X F pc L (.int v :: .ref k :: st) M := g_put hF (ty := .int) iX1 tyX1 tyX1_ok nmX1 rfl (by decide) hk hkd hN (j := 7) (by decide) wf_X6_245 rfl rfl (by decide +kernel) rfl rfl rfl dg kk
theorem wf_X1_56 : Cond.fieldLink RX1 56 RX1 "knownPlayed" "Z" ∈ tb := tb_mem 216 (by decide +kernel) (by decide +kernel)
theorem gf_X1_56 {X : Cx} {F : Fx} {cc : ByteArray} {nL d pc k : Nat} {L : List (Option Value)} {st : List Value} {M : Mem} (hF : FK X F cc RX1 nL d) (hk : k ∈ xcs X) (hkd : kd k = 0) (hN : ln k = 10) (dg : decode cc pc = .ok (.getfield 56, 3)) (kk : G X F (pc + 3) L (.int (M k 8) :: st) M) : G X F pc L (.ref k :: st) M := g_get hF iX1 rfl (by decide) hk hkd hN (j := 8) (by decide) wf_X1_56 rfl (by unfold vfld; rw [hkd]; rfl) dg kk
theorem pf_X1_56 {X : Cx} {F : Fx} {cc : ByteArray} {nL d pc k : Nat} {L : List (Option Value)} {st : List Value} {M : Mem} (hF : FK X F cc RX1 nL d) (hk : k ∈ xcs X) (hkd : kd k = 0) (hN : ln k = 10) {v : Int32} (hz : zok v = true) (dg : decode cc pc = .ok (.putfield 56, 3)) (kk : G X F (pc + 3) L st (up2 M k 8 v)) : G X F pc L (.int v :: .ref k :: st) M := g_put hF (ty := .boolean) iX1 tyX1 tyX1_ok nmX1 rfl (by decide) hk hkd hN (j := 8) (by decide) wf_X1_56 rfl rfl (by decide +kernel) rfl (zok_n hz) (zok_f hz) dg kk
theorem wf_X1_15 : Cond.fieldLink RX1 15 RX1 "told" "LWhichEncore$Told;" ∈ tb := tb_mem 217 (by decide +kernel) (by decide +kernel)
theorem gf_X1_15 {X : Cx} {F : Fx} {cc : ByteArray} {nL d pc k : Nat} {L : List (Option Value)} {st : List Value} {M : Mem} (hF : FK X F cc RX1 nL d) (hk : k ∈ xcs X) (hkd : kd k = 0) (hN : ln k = 10) (dg : decode cc pc = .ok (.getfield 15, 3)) (kk : G X F (pc + 3) L (.ref 1 :: st) M) : G X F pc L (.ref k :: st) M := g_get hF iX1 rfl (by decide) hk hkd hN (j := 9) (by decide) wf_X1_15 rfl (by unfold vfld; rw [hkd]; rfl) dg kk
theorem wf_X3_35 : Cond.fieldLink RX3 35 RX3 "bestGrowth" "I" ∈ tb := tb_mem 248 (by decide +kernel) (by decide +kernel)
theorem gf_X3_35 {X : Cx} {F : Fx} {cc : ByteArray} {nL d pc k : Nat} {L : List (Option Value)} {st : List Value} {M : Mem} (hF : FK X F cc RX3 nL d) (hk : k ∈ xcs X) (hkd : kd k = 2) (hN : ln k = 5) (dg : decode cc pc = .ok (.getfield 35, 3)) (kk : G X F (pc + 3) L (.int (M k 0) :: st) M) : G X F pc L (.ref k :: st) M := g_get hF iX3 rfl (by decide) hk hkd hN (j := 0) (by decide) wf_X3_35 rfl (by unfold vfld; rw [hkd]; rfl) dg kk
theorem pf_X3_35 {X : Cx} {F : Fx} {cc : ByteArray} {nL d pc k : Nat} {L : List (Option Value)} {st : List Value} {M : Mem} (hF : FK X F cc RX3 nL d) (hk : k ∈ xcs X) (hkd : kd k = 2) (hN : ln k = 5) {v : Int32} (dg : decode cc pc = .ok (.putfield 35, 3)) (kk : G X F (pc + 3) L st (up2 M k 0 v)) : G X F pc L (.int v :: .ref k :: st) M := g_put hF (ty := .int) iX3 tyX3 tyX3_ok nmX3 rfl (by decide) hk hkd hN (j := 0) (by decide) wf_X3_35 rfl rfl (by decide +kernel) rfl rfl rfl dg kk
theorem wf_X6_195 : Cond.fieldLink RX6 195 RX3 "bestGrowth" "I" ∈ tb := tb_mem 249 (by decide +kernel) (by decide +kernel)
theorem gf_X6_195 {X : Cx} {F : Fx} {cc : ByteArray} {nL d pc k : Nat} {L : List (Option Value)} {st : List Value} {M : Mem} (hF : FK X F cc RX6 nL d) (hk : k ∈ xcs X) (hkd : kd k = 2) (hN : ln k = 5) (dg : decode cc pc = .ok (.getfield 195, 3)) (kk : G X F (pc + 3) L (.int (M k 0) :: st) M) : G X F pc L (.ref k :: st) M := g_get hF iX3 rfl (by decide) hk hkd hN (j := 0) (by decide) wf_X6_195 rfl (by unfold vfld; rw [hkd]; rfl) dg kk
theorem pf_X6_195 {X : Cx} {F : Fx} {cc : ByteArray} {nL d pc k : Nat} {L : List (Option Value)} {st : List Value} {M : Mem} (hF : FK X F cc RX6 nL d) (hk : k ∈ xcs X) (hkd : kd k = 2) (hN : ln k = 5) {v : Int32} (dg : decode cc pc = .ok (.putfield 195, 3)) (kk : G X F (pc + 3) L st (up2 M k 0 v)) : G X F pc L (.int v :: .ref k :: st) M := g_put hF (ty := .int) iX3 tyX3 tyX3_ok nmX3 rfl (by decide) hk hkd hN (j := 0) (by decide) wf_X6_195 rfl rfl (by decide +kernel) rfl rfl rfl dg kk
theorem wf_X3_38 : Cond.fieldLink RX3 38 RX3 "bestLength" "I" ∈ tb := tb_mem 250 (by decide +kernel) (by decide +kernel)
theorem gf_X3_38 {X : Cx} {F : Fx} {cc : ByteArray} {nL d pc k : Nat} {L : List (Option Value)} {st : List Value} {M : Mem} (hF : FK X F cc RX3 nL d) (hk : k ∈ xcs X) (hkd : kd k = 2) (hN : ln k = 5) (dg : decode cc pc = .ok (.getfield 38, 3)) (kk : G X F (pc + 3) L (.int (M k 1) :: st) M) : G X F pc L (.ref k :: st) M := g_get hF iX3 rfl (by decide) hk hkd hN (j := 1) (by decide) wf_X3_38 rfl (by unfold vfld; rw [hkd]; rfl) dg kk
theorem pf_X3_38 {X : Cx} {F : Fx} {cc : ByteArray} {nL d pc k : Nat} {L : List (Option Value)} {st : List Value} {M : Mem} (hF : FK X F cc RX3 nL d) (hk : k ∈ xcs X) (hkd : kd k = 2) (hN : ln k = 5) {v : Int32} (dg : decode cc pc = .ok (.putfield 38, 3)) (kk : G X F (pc + 3) L st (up2 M k 1 v)) : G X F pc L (.int v :: .ref k :: st) M := g_put hF (ty := .int) iX3 tyX3 tyX3_ok nmX3 rfl (by decide) hk hkd hN (j := 1) (by decide) wf_X3_38 rfl rfl (by decide +kernel) rfl rfl rfl dg kk
theorem wf_X6_198 : Cond.fieldLink RX6 198 RX3 "bestLength" "I" ∈ tb := tb_mem 251 (by decide +kernel) (by decide +kernel)
theorem gf_X6_198 {X : Cx} {F : Fx} {cc : ByteArray} {nL d pc k : Nat} {L : List (Option Value)} {st : List Value} {M : Mem} (hF : FK X F cc RX6 nL d) (hk : k ∈ xcs X) (hkd : kd k = 2) (hN : ln k = 5) (dg : decode cc pc = .ok (.getfield 198, 3)) (kk : G X F (pc + 3) L (.int (M k 1) :: st) M) : G X F pc L (.ref k :: st) M := g_get hF iX3 rfl (by decide) hk hkd hN (j := 1) (by decide) wf_X6_198 rfl (by unfold vfld; rw [hkd]; rfl) dg kk
theorem pf_X6_198 {X : Cx} {F : Fx} {cc : ByteArray} {nL d pc k : Nat} {L : List (Option Value)} {st : List Value} {M : Mem} (hF : FK X F cc RX6 nL d) (hk : k ∈ xcs X) (hkd : kd k = 2) (hN : ln k = 5) {v : Int32} (dg : decode cc pc = .ok (.putfield 198, 3)) (kk : G X F (pc + 3) L st (up2 M k 1 v)) : G X F pc L (.int v :: .ref k :: st) M := g_put hF (ty := .int) iX3 tyX3 tyX3_ok nmX3 rfl (by decide) hk hkd hN (j := 1) (by decide) wf_X6_198 rfl rfl (by decide +kernel) rfl rfl rfl dg kk
theorem wf_X3_9 : Cond.fieldLink RX3 9 RX3 "bestSteps" "[I" ∈ tb := tb_mem 252 (by decide +kernel) (by decide +kernel)
theorem gf_X3_9 {X : Cx} {F : Fx} {cc : ByteArray} {nL d pc k : Nat} {L : List (Option Value)} {st : List Value} {M : Mem} (hF : FK X F cc RX3 nL d) (hk : k ∈ xcs X) (hkd : kd k = 2) (hN : ln k = 5) (dg : decode cc pc = .ok (.getfield 9, 3)) (kk : G X F (pc + 3) L (.ref 26 :: st) M) : G X F pc L (.ref k :: st) M := g_get hF iX3 rfl (by decide) hk hkd hN (j := 2) (by decide) wf_X3_9 rfl (by unfold vfld; rw [hkd]; rfl) dg kk
theorem wf_X6_201 : Cond.fieldLink RX6 201 RX3 "bestSteps" "[I" ∈ tb := tb_mem 253 (by decide +kernel) (by decide +kernel)
theorem gf_X6_201 {X : Cx} {F : Fx} {cc : ByteArray} {nL d pc k : Nat} {L : List (Option Value)} {st : List Value} {M : Mem} (hF : FK X F cc RX6 nL d) (hk : k ∈ xcs X) (hkd : kd k = 2) (hN : ln k = 5) (dg : decode cc pc = .ok (.getfield 201, 3)) (kk : G X F (pc + 3) L (.ref 26 :: st) M) : G X F pc L (.ref k :: st) M := g_get hF iX3 rfl (by decide) hk hkd hN (j := 2) (by decide) wf_X6_201 rfl (by unfold vfld; rw [hkd]; rfl) dg kk
theorem wf_X3_15 : Cond.fieldLink RX3 15 RX3 "steps" "[I" ∈ tb := tb_mem 254 (by decide +kernel) (by decide +kernel)
theorem gf_X3_15 {X : Cx} {F : Fx} {cc : ByteArray} {nL d pc k : Nat} {L : List (Option Value)} {st : List Value} {M : Mem} (hF : FK X F cc RX3 nL d) (hk : k ∈ xcs X) (hkd : kd k = 2) (hN : ln k = 5) (dg : decode cc pc = .ok (.getfield 15, 3)) (kk : G X F (pc + 3) L (.ref 27 :: st) M) : G X F pc L (.ref k :: st) M := g_get hF iX3 rfl (by decide) hk hkd hN (j := 3) (by decide) wf_X3_15 rfl (by unfold vfld; rw [hkd]; rfl) dg kk
theorem wf_X3_20 : Cond.fieldLink RX3 20 RX3 "levels" "[LWhichEncore$Evening;" ∈ tb := tb_mem 255 (by decide +kernel) (by decide +kernel)
theorem gf_X3_20 {X : Cx} {F : Fx} {cc : ByteArray} {nL d pc k : Nat} {L : List (Option Value)} {st : List Value} {M : Mem} (hF : FK X F cc RX3 nL d) (hk : k ∈ xcs X) (hkd : kd k = 2) (hN : ln k = 5) (dg : decode cc pc = .ok (.getfield 20, 3)) (kk : G X F (pc + 3) L (.ref 28 :: st) M) : G X F pc L (.ref k :: st) M := g_get hF iX3 rfl (by decide) hk hkd hN (j := 4) (by decide) wf_X3_20 rfl (by unfold vfld; rw [hkd]; rfl) dg kk
theorem wf_X2_28 : Cond.fieldLink RX2 28 RX2 "size" "I" ∈ tb := tb_mem 275 (by decide +kernel) (by decide +kernel)
theorem gf_X2_28 {X : Cx} {F : Fx} {cc : ByteArray} {nL d pc k : Nat} {L : List (Option Value)} {st : List Value} {M : Mem} (hF : FK X F cc RX2 nL d) (hk : k ∈ xcs X) (hkd : kd k = 1) (hN : ln k = 3) (dg : decode cc pc = .ok (.getfield 28, 3)) (kk : G X F (pc + 3) L (.int (M k 0) :: st) M) : G X F pc L (.ref k :: st) M := g_get hF iX2 rfl (by decide) hk hkd hN (j := 0) (by decide) wf_X2_28 rfl (by unfold vfld; rw [hkd]; rfl) dg kk
theorem pf_X2_28 {X : Cx} {F : Fx} {cc : ByteArray} {nL d pc k : Nat} {L : List (Option Value)} {st : List Value} {M : Mem} (hF : FK X F cc RX2 nL d) (hk : k ∈ xcs X) (hkd : kd k = 1) (hN : ln k = 3) {v : Int32} (dg : decode cc pc = .ok (.putfield 28, 3)) (kk : G X F (pc + 3) L st (up2 M k 0 v)) : G X F pc L (.int v :: .ref k :: st) M := g_put hF (ty := .int) iX2 tyX2 tyX2_ok nmX2 rfl (by decide) hk hkd hN (j := 0) (by decide) wf_X2_28 rfl rfl (by decide +kernel) rfl rfl rfl dg kk
theorem wf_X6_177 : Cond.fieldLink RX6 177 RX2 "size" "I" ∈ tb := tb_mem 276 (by decide +kernel) (by decide +kernel)
theorem gf_X6_177 {X : Cx} {F : Fx} {cc : ByteArray} {nL d pc k : Nat} {L : List (Option Value)} {st : List Value} {M : Mem} (hF : FK X F cc RX6 nL d) (hk : k ∈ xcs X) (hkd : kd k = 1) (hN : ln k = 3) (dg : decode cc pc = .ok (.getfield 177, 3)) (kk : G X F (pc + 3) L (.int (M k 0) :: st) M) : G X F pc L (.ref k :: st) M := g_get hF iX2 rfl (by decide) hk hkd hN (j := 0) (by decide) wf_X6_177 rfl (by unfold vfld; rw [hkd]; rfl) dg kk
theorem pf_X6_177 {X : Cx} {F : Fx} {cc : ByteArray} {nL d pc k : Nat} {L : List (Option Value)} {st : List Value} {M : Mem} (hF : FK X F cc RX6 nL d) (hk : k ∈ xcs X) (hkd : kd k = 1) (hN : ln k = 3) {v : Int32} (dg : decode cc pc = .ok (.putfield 177, 3)) (kk : G X F (pc + 3) L st (up2 M k 0 v)) : G X F pc L (.int v :: .ref k :: st) M := g_put hF (ty := .int) iX2 tyX2 tyX2_ok nmX2 rfl (by decide) hk hkd hN (j := 0) (by decide) wf_X6_177 rfl rfl (by decide +kernel) rfl rfl rfl dg kk
theorem wf_X2_20 : Cond.fieldLink RX2 20 RX2 "next" "I" ∈ tb := tb_mem 277 (by decide +kernel) (by decide +kernel)
theorem gf_X2_20 {X : Cx} {F : Fx} {cc : ByteArray} {nL d pc k : Nat} {L : List (Option Value)} {st : List Value} {M : Mem} (hF : FK X F cc RX2 nL d) (hk : k ∈ xcs X) (hkd : kd k = 1) (hN : ln k = 3) (dg : decode cc pc = .ok (.getfield 20, 3)) (kk : G X F (pc + 3) L (.int (M k 1) :: st) M) : G X F pc L (.ref k :: st) M := g_get hF iX2 rfl (by decide) hk hkd hN (j := 1) (by decide) wf_X2_20 rfl (by unfold vfld; rw [hkd]; rfl) dg kk
theorem pf_X2_20 {X : Cx} {F : Fx} {cc : ByteArray} {nL d pc k : Nat} {L : List (Option Value)} {st : List Value} {M : Mem} (hF : FK X F cc RX2 nL d) (hk : k ∈ xcs X) (hkd : kd k = 1) (hN : ln k = 3) {v : Int32} (dg : decode cc pc = .ok (.putfield 20, 3)) (kk : G X F (pc + 3) L st (up2 M k 1 v)) : G X F pc L (.int v :: .ref k :: st) M := g_put hF (ty := .int) iX2 tyX2 tyX2_ok nmX2 rfl (by decide) hk hkd hN (j := 1) (by decide) wf_X2_20 rfl rfl (by decide +kernel) rfl rfl rfl dg kk
theorem wf_X2_11 : Cond.fieldLink RX2 11 RX2 "ring" "[LWhichEncore$Evening;" ∈ tb := tb_mem 278 (by decide +kernel) (by decide +kernel)
theorem gf_X2_11 {X : Cx} {F : Fx} {cc : ByteArray} {nL d pc k : Nat} {L : List (Option Value)} {st : List Value} {M : Mem} (hF : FK X F cc RX2 nL d) (hk : k ∈ xcs X) (hkd : kd k = 1) (hN : ln k = 3) (dg : decode cc pc = .ok (.getfield 11, 3)) (kk : G X F (pc + 3) L (.ref 44 :: st) M) : G X F pc L (.ref k :: st) M := g_get hF iX2 rfl (by decide) hk hkd hN (j := 2) (by decide) wf_X2_11 rfl (by unfold vfld; rw [hkd]; rfl) dg kk
theorem wf_X6_12 : Cond.fieldLink RX6 12 RX6 "told" "LWhichEncore$Told;" ∈ tb := tb_mem 293 (by decide +kernel) (by decide +kernel)
theorem gf_X6_12 {X : Cx} {F : Fx} {cc : ByteArray} {nL d pc k : Nat} {L : List (Option Value)} {st : List Value} {M : Mem} (hF : FK X F cc RX6 nL d) (hk : k ∈ xcs X) (hkd : kd k = 5) (hN : ln k = 10) (dg : decode cc pc = .ok (.getfield 12, 3)) (kk : G X F (pc + 3) L (.ref 1 :: st) M) : G X F pc L (.ref k :: st) M := g_get hF iX6 rfl (by decide) hk hkd hN (j := 0) (by decide) wf_X6_12 rfl (by unfold vfld; rw [hkd]; rfl) dg kk
theorem wf_X6_19 : Cond.fieldLink RX6 19 RX6 "text" "LWhichEncore$Text;" ∈ tb := tb_mem 294 (by decide +kernel) (by decide +kernel)
theorem gf_X6_19 {X : Cx} {F : Fx} {cc : ByteArray} {nL d pc k : Nat} {L : List (Option Value)} {st : List Value} {M : Mem} (hF : FK X F cc RX6 nL d) (hk : k ∈ xcs X) (hkd : kd k = 5) (hN : ln k = 10) (dg : decode cc pc = .ok (.getfield 19, 3)) (kk : G X F (pc + 3) L (.ref 9 :: st) M) : G X F pc L (.ref k :: st) M := g_get hF iX6 rfl (by decide) hk hkd hN (j := 1) (by decide) wf_X6_19 rfl (by unfold vfld; rw [hkd]; rfl) dg kk
theorem wf_X6_28 : Cond.fieldLink RX6 28 RX6 "now" "LWhichEncore$Evening;" ∈ tb := tb_mem 295 (by decide +kernel) (by decide +kernel)
theorem gf_X6_28 {X : Cx} {F : Fx} {cc : ByteArray} {nL d pc k : Nat} {L : List (Option Value)} {st : List Value} {M : Mem} (hF : FK X F cc RX6 nL d) (hk : k ∈ xcs X) (hkd : kd k = 5) (hN : ln k = 10) (dg : decode cc pc = .ok (.getfield 28, 3)) (kk : G X F (pc + 3) L (.ref 21 :: st) M) : G X F pc L (.ref k :: st) M := g_get hF iX6 rfl (by decide) hk hkd hN (j := 2) (by decide) wf_X6_28 rfl (by unfold vfld; rw [hkd]; rfl) dg kk
theorem wf_X6_32 : Cond.fieldLink RX6 32 RX6 "foretold" "LWhichEncore$Evening;" ∈ tb := tb_mem 296 (by decide +kernel) (by decide +kernel)
theorem gf_X6_32 {X : Cx} {F : Fx} {cc : ByteArray} {nL d pc k : Nat} {L : List (Option Value)} {st : List Value} {M : Mem} (hF : FK X F cc RX6 nL d) (hk : k ∈ xcs X) (hkd : kd k = 5) (hN : ln k = 10) (dg : decode cc pc = .ok (.getfield 32, 3)) (kk : G X F (pc + 3) L (.ref 23 :: st) M) : G X F pc L (.ref k :: st) M := g_get hF iX6 rfl (by decide) hk hkd hN (j := 3) (by decide) wf_X6_32 rfl (by unfold vfld; rw [hkd]; rfl) dg kk
theorem wf_X6_38 : Cond.fieldLink RX6 38 RX6 "search" "LWhichEncore$Search;" ∈ tb := tb_mem 297 (by decide +kernel) (by decide +kernel)
theorem gf_X6_38 {X : Cx} {F : Fx} {cc : ByteArray} {nL d pc k : Nat} {L : List (Option Value)} {st : List Value} {M : Mem} (hF : FK X F cc RX6 nL d) (hk : k ∈ xcs X) (hkd : kd k = 5) (hN : ln k = 10) (dg : decode cc pc = .ok (.getfield 38, 3)) (kk : G X F (pc + 3) L (.ref 25 :: st) M) : G X F pc L (.ref k :: st) M := g_get hF iX6 rfl (by decide) hk hkd hN (j := 4) (by decide) wf_X6_38 rfl (by unfold vfld; rw [hkd]; rfl) dg kk
theorem wf_X6_45 : Cond.fieldLink RX6 45 RX6 "past" "LWhichEncore$Past;" ∈ tb := tb_mem 298 (by decide +kernel) (by decide +kernel)
theorem gf_X6_45 {X : Cx} {F : Fx} {cc : ByteArray} {nL d pc k : Nat} {L : List (Option Value)} {st : List Value} {M : Mem} (hF : FK X F cc RX6 nL d) (hk : k ∈ xcs X) (hkd : kd k = 5) (hN : ln k = 10) (dg : decode cc pc = .ok (.getfield 45, 3)) (kk : G X F (pc + 3) L (.ref 43 :: st) M) : G X F pc L (.ref k :: st) M := g_get hF iX6 rfl (by decide) hk hkd hN (j := 5) (by decide) wf_X6_45 rfl (by unfold vfld; rw [hkd]; rfl) dg kk
theorem wf_X6_49 : Cond.fieldLink RX6 49 RX6 "kept" "[LWhichEncore$Evening;" ∈ tb := tb_mem 299 (by decide +kernel) (by decide +kernel)
theorem gf_X6_49 {X : Cx} {F : Fx} {cc : ByteArray} {nL d pc k : Nat} {L : List (Option Value)} {st : List Value} {M : Mem} (hF : FK X F cc RX6 nL d) (hk : k ∈ xcs X) (hkd : kd k = 5) (hN : ln k = 10) (dg : decode cc pc = .ok (.getfield 49, 3)) (kk : G X F (pc + 3) L (.ref 61 :: st) M) : G X F pc L (.ref k :: st) M := g_get hF iX6 rfl (by decide) hk hkd hN (j := 6) (by decide) wf_X6_49 rfl (by unfold vfld; rw [hkd]; rfl) dg kk
theorem wf_X6_53 : Cond.fieldLink RX6 53 RX6 "isKept" "[Z" ∈ tb := tb_mem 300 (by decide +kernel) (by decide +kernel)
theorem gf_X6_53 {X : Cx} {F : Fx} {cc : ByteArray} {nL d pc k : Nat} {L : List (Option Value)} {st : List Value} {M : Mem} (hF : FK X F cc RX6 nL d) (hk : k ∈ xcs X) (hkd : kd k = 5) (hN : ln k = 10) (dg : decode cc pc = .ok (.getfield 53, 3)) (kk : G X F (pc + 3) L (.ref 62 :: st) M) : G X F pc L (.ref k :: st) M := g_get hF iX6 rfl (by decide) hk hkd hN (j := 7) (by decide) wf_X6_53 rfl (by unfold vfld; rw [hkd]; rfl) dg kk
theorem wf_X6_57 : Cond.fieldLink RX6 57 RX6 "rowSteps" "[I" ∈ tb := tb_mem 301 (by decide +kernel) (by decide +kernel)
theorem gf_X6_57 {X : Cx} {F : Fx} {cc : ByteArray} {nL d pc k : Nat} {L : List (Option Value)} {st : List Value} {M : Mem} (hF : FK X F cc RX6 nL d) (hk : k ∈ xcs X) (hkd : kd k = 5) (hN : ln k = 10) (dg : decode cc pc = .ok (.getfield 57, 3)) (kk : G X F (pc + 3) L (.ref 63 :: st) M) : G X F pc L (.ref k :: st) M := g_get hF iX6 rfl (by decide) hk hkd hN (j := 8) (by decide) wf_X6_57 rfl (by unfold vfld; rw [hkd]; rfl) dg kk
theorem wf_X6_204 : Cond.fieldLink RX6 204 RX6 "rowLength" "I" ∈ tb := tb_mem 302 (by decide +kernel) (by decide +kernel)
theorem gf_X6_204 {X : Cx} {F : Fx} {cc : ByteArray} {nL d pc k : Nat} {L : List (Option Value)} {st : List Value} {M : Mem} (hF : FK X F cc RX6 nL d) (hk : k ∈ xcs X) (hkd : kd k = 5) (hN : ln k = 10) (dg : decode cc pc = .ok (.getfield 204, 3)) (kk : G X F (pc + 3) L (.int (M k 9) :: st) M) : G X F pc L (.ref k :: st) M := g_get hF iX6 rfl (by decide) hk hkd hN (j := 9) (by decide) wf_X6_204 rfl (by unfold vfld; rw [hkd]; rfl) dg kk
theorem pf_X6_204 {X : Cx} {F : Fx} {cc : ByteArray} {nL d pc k : Nat} {L : List (Option Value)} {st : List Value} {M : Mem} (hF : FK X F cc RX6 nL d) (hk : k ∈ xcs X) (hkd : kd k = 5) (hN : ln k = 10) {v : Int32} (dg : decode cc pc = .ok (.putfield 204, 3)) (kk : G X F (pc + 3) L st (up2 M k 9 v)) : G X F pc L (.int v :: .ref k :: st) M := g_put hF (ty := .int) iX6 tyX6 tyX6_ok nmX6 rfl (by decide) hk hkd hN (j := 9) (by decide) wf_X6_204 rfl rfl (by decide +kernel) rfl rfl rfl dg kk
theorem wf_J0_38 : Cond.fieldLink RJ0 38 RJ0 "COMPACT_STRINGS" "Z" ∈ tb := tb_mem 378 (by decide +kernel) (by decide +kernel)
theorem wf_J0_1053 : Cond.fieldLink RJ0 1053 RJ3 "SIOOBE_FORMATTER" "Ljava/util/function/BiFunction;" ∈ tb := tb_mem 394 (by decide +kernel) (by decide +kernel)
theorem wf_J2_44 : Cond.fieldLink RJ2 44 RJ2 "$assertionsDisabled" "Z" ∈ tb := tb_mem 412 (by decide +kernel) (by decide +kernel)
theorem wf_J2_59 : Cond.fieldLink RJ2 59 RJ2 "HI_BYTE_SHIFT" "I" ∈ tb := tb_mem 414 (by decide +kernel) (by decide +kernel)
theorem wf_J2_63 : Cond.fieldLink RJ2 63 RJ2 "LO_BYTE_SHIFT" "I" ∈ tb := tb_mem 416 (by decide +kernel) (by decide +kernel)
theorem wf_X6_127 : Cond.fieldLink RX6 127 RX6 "OVER_CLAPPERS" "[I" ∈ tb := tb_mem 485 (by decide +kernel) (by decide +kernel)
theorem wf_X6_142 : Cond.fieldLink RX6 142 RX6 "OVER_ENCORES" "[I" ∈ tb := tb_mem 510 (by decide +kernel) (by decide +kernel)
theorem wf_X7_7 : Cond.fieldLink RX7 7 RX7 "text" "[I" ∈ tb := tb_mem 722 (by decide +kernel) (by decide +kernel)
theorem gf_X7_7 {X : Cx} {F : Fx} {cc : ByteArray} {nL d pc k : Nat} {L : List (Option Value)} {st : List Value} {M : Mem} (hF : FK X F cc RX7 nL d) (hk : k ∈ xcs X) (hkd : kd k = 6) (hN : ln k = 21) (dg : decode cc pc = .ok (.getfield 7, 3)) (kk : G X F (pc + 3) L (.ref 71 :: st) M) : G X F pc L (.ref k :: st) M := g_get hF iX7 rfl (by decide) hk hkd hN (j := 0) (by decide) wf_X7_7 rfl (by unfold vfld; rw [hkd]; rfl) dg kk
theorem wf_X7_57 : Cond.fieldLink RX7 57 RX7 "typed" "I" ∈ tb := tb_mem 723 (by decide +kernel) (by decide +kernel)
theorem gf_X7_57 {X : Cx} {F : Fx} {cc : ByteArray} {nL d pc k : Nat} {L : List (Option Value)} {st : List Value} {M : Mem} (hF : FK X F cc RX7 nL d) (hk : k ∈ xcs X) (hkd : kd k = 6) (hN : ln k = 21) (dg : decode cc pc = .ok (.getfield 57, 3)) (kk : G X F (pc + 3) L (.int (M k 1) :: st) M) : G X F pc L (.ref k :: st) M := g_get hF iX7 rfl (by decide) hk hkd hN (j := 1) (by decide) wf_X7_57 rfl (by unfold vfld; rw [hkd]; rfl) dg kk
theorem pf_X7_57 {X : Cx} {F : Fx} {cc : ByteArray} {nL d pc k : Nat} {L : List (Option Value)} {st : List Value} {M : Mem} (hF : FK X F cc RX7 nL d) (hk : k ∈ xcs X) (hkd : kd k = 6) (hN : ln k = 21) {v : Int32} (dg : decode cc pc = .ok (.putfield 57, 3)) (kk : G X F (pc + 3) L st (up2 M k 1 v)) : G X F pc L (.int v :: .ref k :: st) M := g_put hF (ty := .int) iX7 tyX7 tyX7_ok nmX7 rfl (by decide) hk hkd hN (j := 1) (by decide) wf_X7_57 rfl rfl (by decide +kernel) rfl rfl rfl dg kk
theorem wf_X7_13 : Cond.fieldLink RX7 13 RX7 "told" "[I" ∈ tb := tb_mem 724 (by decide +kernel) (by decide +kernel)
theorem gf_X7_13 {X : Cx} {F : Fx} {cc : ByteArray} {nL d pc k : Nat} {L : List (Option Value)} {st : List Value} {M : Mem} (hF : FK X F cc RX7 nL d) (hk : k ∈ xcs X) (hkd : kd k = 6) (hN : ln k = 21) (dg : decode cc pc = .ok (.getfield 13, 3)) (kk : G X F (pc + 3) L (.ref 72 :: st) M) : G X F pc L (.ref k :: st) M := g_get hF iX7 rfl (by decide) hk hkd hN (j := 2) (by decide) wf_X7_13 rfl (by unfold vfld; rw [hkd]; rfl) dg kk
theorem wf_X7_16 : Cond.fieldLink RX7 16 RX7 "draft" "[I" ∈ tb := tb_mem 725 (by decide +kernel) (by decide +kernel)
theorem gf_X7_16 {X : Cx} {F : Fx} {cc : ByteArray} {nL d pc k : Nat} {L : List (Option Value)} {st : List Value} {M : Mem} (hF : FK X F cc RX7 nL d) (hk : k ∈ xcs X) (hkd : kd k = 6) (hN : ln k = 21) (dg : decode cc pc = .ok (.getfield 16, 3)) (kk : G X F (pc + 3) L (.ref 73 :: st) M) : G X F pc L (.ref k :: st) M := g_get hF iX7 rfl (by decide) hk hkd hN (j := 3) (by decide) wf_X7_16 rfl (by unfold vfld; rw [hkd]; rfl) dg kk
theorem wf_X7_19 : Cond.fieldLink RX7 19 RX7 "s" "[I" ∈ tb := tb_mem 726 (by decide +kernel) (by decide +kernel)
theorem gf_X7_19 {X : Cx} {F : Fx} {cc : ByteArray} {nL d pc k : Nat} {L : List (Option Value)} {st : List Value} {M : Mem} (hF : FK X F cc RX7 nL d) (hk : k ∈ xcs X) (hkd : kd k = 6) (hN : ln k = 21) (dg : decode cc pc = .ok (.getfield 19, 3)) (kk : G X F (pc + 3) L (.ref 74 :: st) M) : G X F pc L (.ref k :: st) M := g_get hF iX7 rfl (by decide) hk hkd hN (j := 4) (by decide) wf_X7_19 rfl (by unfold vfld; rw [hkd]; rfl) dg kk
theorem wf_X7_22 : Cond.fieldLink RX7 22 RX7 "past" "[I" ∈ tb := tb_mem 727 (by decide +kernel) (by decide +kernel)
theorem gf_X7_22 {X : Cx} {F : Fx} {cc : ByteArray} {nL d pc k : Nat} {L : List (Option Value)} {st : List Value} {M : Mem} (hF : FK X F cc RX7 nL d) (hk : k ∈ xcs X) (hkd : kd k = 6) (hN : ln k = 21) (dg : decode cc pc = .ok (.getfield 22, 3)) (kk : G X F (pc + 3) L (.ref 75 :: st) M) : G X F pc L (.ref k :: st) M := g_get hF iX7 rfl (by decide) hk hkd hN (j := 5) (by decide) wf_X7_22 rfl (by unfold vfld; rw [hkd]; rfl) dg kk
theorem wf_X7_104 : Cond.fieldLink RX7 104 RX7 "known" "I" ∈ tb := tb_mem 728 (by decide +kernel) (by decide +kernel)
theorem gf_X7_104 {X : Cx} {F : Fx} {cc : ByteArray} {nL d pc k : Nat} {L : List (Option Value)} {st : List Value} {M : Mem} (hF : FK X F cc RX7 nL d) (hk : k ∈ xcs X) (hkd : kd k = 6) (hN : ln k = 21) (dg : decode cc pc = .ok (.getfield 104, 3)) (kk : G X F (pc + 3) L (.int (M k 6) :: st) M) : G X F pc L (.ref k :: st) M := g_get hF iX7 rfl (by decide) hk hkd hN (j := 6) (by decide) wf_X7_104 rfl (by unfold vfld; rw [hkd]; rfl) dg kk
theorem pf_X7_104 {X : Cx} {F : Fx} {cc : ByteArray} {nL d pc k : Nat} {L : List (Option Value)} {st : List Value} {M : Mem} (hF : FK X F cc RX7 nL d) (hk : k ∈ xcs X) (hkd : kd k = 6) (hN : ln k = 21) {v : Int32} (dg : decode cc pc = .ok (.putfield 104, 3)) (kk : G X F (pc + 3) L st (up2 M k 6 v)) : G X F pc L (.int v :: .ref k :: st) M := g_put hF (ty := .int) iX7 tyX7 tyX7_ok nmX7 rfl (by decide) hk hkd hN (j := 6) (by decide) wf_X7_104 rfl rfl (by decide +kernel) rfl rfl rfl dg kk
theorem wf_X7_25 : Cond.fieldLink RX7 25 RX7 "images" "[I" ∈ tb := tb_mem 729 (by decide +kernel) (by decide +kernel)
theorem gf_X7_25 {X : Cx} {F : Fx} {cc : ByteArray} {nL d pc k : Nat} {L : List (Option Value)} {st : List Value} {M : Mem} (hF : FK X F cc RX7 nL d) (hk : k ∈ xcs X) (hkd : kd k = 6) (hN : ln k = 21) (dg : decode cc pc = .ok (.getfield 25, 3)) (kk : G X F (pc + 3) L (.ref 76 :: st) M) : G X F pc L (.ref k :: st) M := g_get hF iX7 rfl (by decide) hk hkd hN (j := 7) (by decide) wf_X7_25 rfl (by unfold vfld; rw [hkd]; rfl) dg kk
theorem wf_X7_28 : Cond.fieldLink RX7 28 RX7 "kept" "[Z" ∈ tb := tb_mem 730 (by decide +kernel) (by decide +kernel)
theorem gf_X7_28 {X : Cx} {F : Fx} {cc : ByteArray} {nL d pc k : Nat} {L : List (Option Value)} {st : List Value} {M : Mem} (hF : FK X F cc RX7 nL d) (hk : k ∈ xcs X) (hkd : kd k = 6) (hN : ln k = 21) (dg : decode cc pc = .ok (.getfield 28, 3)) (kk : G X F (pc + 3) L (.ref 77 :: st) M) : G X F pc L (.ref k :: st) M := g_get hF iX7 rfl (by decide) hk hkd hN (j := 8) (by decide) wf_X7_28 rfl (by unfold vfld; rw [hkd]; rfl) dg kk
theorem wf_X7_32 : Cond.fieldLink RX7 32 RX7 "row" "[I" ∈ tb := tb_mem 731 (by decide +kernel) (by decide +kernel)
theorem gf_X7_32 {X : Cx} {F : Fx} {cc : ByteArray} {nL d pc k : Nat} {L : List (Option Value)} {st : List Value} {M : Mem} (hF : FK X F cc RX7 nL d) (hk : k ∈ xcs X) (hkd : kd k = 6) (hN : ln k = 21) (dg : decode cc pc = .ok (.getfield 32, 3)) (kk : G X F (pc + 3) L (.ref 78 :: st) M) : G X F pc L (.ref k :: st) M := g_get hF iX7 rfl (by decide) hk hkd hN (j := 9) (by decide) wf_X7_32 rfl (by unfold vfld; rw [hkd]; rfl) dg kk
theorem wf_X7_107 : Cond.fieldLink RX7 107 RX7 "many" "I" ∈ tb := tb_mem 732 (by decide +kernel) (by decide +kernel)
theorem gf_X7_107 {X : Cx} {F : Fx} {cc : ByteArray} {nL d pc k : Nat} {L : List (Option Value)} {st : List Value} {M : Mem} (hF : FK X F cc RX7 nL d) (hk : k ∈ xcs X) (hkd : kd k = 6) (hN : ln k = 21) (dg : decode cc pc = .ok (.getfield 107, 3)) (kk : G X F (pc + 3) L (.int (M k 10) :: st) M) : G X F pc L (.ref k :: st) M := g_get hF iX7 rfl (by decide) hk hkd hN (j := 10) (by decide) wf_X7_107 rfl (by unfold vfld; rw [hkd]; rfl) dg kk
theorem pf_X7_107 {X : Cx} {F : Fx} {cc : ByteArray} {nL d pc k : Nat} {L : List (Option Value)} {st : List Value} {M : Mem} (hF : FK X F cc RX7 nL d) (hk : k ∈ xcs X) (hkd : kd k = 6) (hN : ln k = 21) {v : Int32} (dg : decode cc pc = .ok (.putfield 107, 3)) (kk : G X F (pc + 3) L st (up2 M k 10 v)) : G X F pc L (.int v :: .ref k :: st) M := g_put hF (ty := .int) iX7 tyX7 tyX7_ok nmX7 rfl (by decide) hk hkd hN (j := 10) (by decide) wf_X7_107 rfl rfl (by decide +kernel) rfl rfl rfl dg kk
theorem wf_X7_78 : Cond.fieldLink RX7 78 RX7 "sort" "I" ∈ tb := tb_mem 733 (by decide +kernel) (by decide +kernel)
theorem gf_X7_78 {X : Cx} {F : Fx} {cc : ByteArray} {nL d pc k : Nat} {L : List (Option Value)} {st : List Value} {M : Mem} (hF : FK X F cc RX7 nL d) (hk : k ∈ xcs X) (hkd : kd k = 6) (hN : ln k = 21) (dg : decode cc pc = .ok (.getfield 78, 3)) (kk : G X F (pc + 3) L (.int (M k 11) :: st) M) : G X F pc L (.ref k :: st) M := g_get hF iX7 rfl (by decide) hk hkd hN (j := 11) (by decide) wf_X7_78 rfl (by unfold vfld; rw [hkd]; rfl) dg kk
theorem pf_X7_78 {X : Cx} {F : Fx} {cc : ByteArray} {nL d pc k : Nat} {L : List (Option Value)} {st : List Value} {M : Mem} (hF : FK X F cc RX7 nL d) (hk : k ∈ xcs X) (hkd : kd k = 6) (hN : ln k = 21) {v : Int32} (dg : decode cc pc = .ok (.putfield 78, 3)) (kk : G X F (pc + 3) L st (up2 M k 11 v)) : G X F pc L (.int v :: .ref k :: st) M := g_put hF (ty := .int) iX7 tyX7 tyX7_ok nmX7 rfl (by decide) hk hkd hN (j := 11) (by decide) wf_X7_78 rfl rfl (by decide +kernel) rfl rfl rfl dg kk
theorem wf_X7_68 : Cond.fieldLink RX7 68 RX7 "start" "I" ∈ tb := tb_mem 734 (by decide +kernel) (by decide +kernel)
theorem gf_X7_68 {X : Cx} {F : Fx} {cc : ByteArray} {nL d pc k : Nat} {L : List (Option Value)} {st : List Value} {M : Mem} (hF : FK X F cc RX7 nL d) (hk : k ∈ xcs X) (hkd : kd k = 6) (hN : ln k = 21) (dg : decode cc pc = .ok (.getfield 68, 3)) (kk : G X F (pc + 3) L (.int (M k 12) :: st) M) : G X F pc L (.ref k :: st) M := g_get hF iX7 rfl (by decide) hk hkd hN (j := 12) (by decide) wf_X7_68 rfl (by unfold vfld; rw [hkd]; rfl) dg kk
theorem pf_X7_68 {X : Cx} {F : Fx} {cc : ByteArray} {nL d pc k : Nat} {L : List (Option Value)} {st : List Value} {M : Mem} (hF : FK X F cc RX7 nL d) (hk : k ∈ xcs X) (hkd : kd k = 6) (hN : ln k = 21) {v : Int32} (dg : decode cc pc = .ok (.putfield 68, 3)) (kk : G X F (pc + 3) L st (up2 M k 12 v)) : G X F pc L (.int v :: .ref k :: st) M := g_put hF (ty := .int) iX7 tyX7 tyX7_ok nmX7 rfl (by decide) hk hkd hN (j := 12) (by decide) wf_X7_68 rfl rfl (by decide +kernel) rfl rfl rfl dg kk
theorem wf_X7_61 : Cond.fieldLink RX7 61 RX7 "at" "I" ∈ tb := tb_mem 735 (by decide +kernel) (by decide +kernel)
theorem gf_X7_61 {X : Cx} {F : Fx} {cc : ByteArray} {nL d pc k : Nat} {L : List (Option Value)} {st : List Value} {M : Mem} (hF : FK X F cc RX7 nL d) (hk : k ∈ xcs X) (hkd : kd k = 6) (hN : ln k = 21) (dg : decode cc pc = .ok (.getfield 61, 3)) (kk : G X F (pc + 3) L (.int (M k 13) :: st) M) : G X F pc L (.ref k :: st) M := g_get hF iX7 rfl (by decide) hk hkd hN (j := 13) (by decide) wf_X7_61 rfl (by unfold vfld; rw [hkd]; rfl) dg kk
theorem pf_X7_61 {X : Cx} {F : Fx} {cc : ByteArray} {nL d pc k : Nat} {L : List (Option Value)} {st : List Value} {M : Mem} (hF : FK X F cc RX7 nL d) (hk : k ∈ xcs X) (hkd : kd k = 6) (hN : ln k = 21) {v : Int32} (dg : decode cc pc = .ok (.putfield 61, 3)) (kk : G X F (pc + 3) L st (up2 M k 13 v)) : G X F pc L (.int v :: .ref k :: st) M := g_put hF (ty := .int) iX7 tyX7 tyX7_ok nmX7 rfl (by decide) hk hkd hN (j := 13) (by decide) wf_X7_61 rfl rfl (by decide +kernel) rfl rfl rfl dg kk
theorem wf_X7_81 : Cond.fieldLink RX7 81 RX7 "value" "I" ∈ tb := tb_mem 736 (by decide +kernel) (by decide +kernel)
theorem gf_X7_81 {X : Cx} {F : Fx} {cc : ByteArray} {nL d pc k : Nat} {L : List (Option Value)} {st : List Value} {M : Mem} (hF : FK X F cc RX7 nL d) (hk : k ∈ xcs X) (hkd : kd k = 6) (hN : ln k = 21) (dg : decode cc pc = .ok (.getfield 81, 3)) (kk : G X F (pc + 3) L (.int (M k 14) :: st) M) : G X F pc L (.ref k :: st) M := g_get hF iX7 rfl (by decide) hk hkd hN (j := 14) (by decide) wf_X7_81 rfl (by unfold vfld; rw [hkd]; rfl) dg kk
theorem pf_X7_81 {X : Cx} {F : Fx} {cc : ByteArray} {nL d pc k : Nat} {L : List (Option Value)} {st : List Value} {M : Mem} (hF : FK X F cc RX7 nL d) (hk : k ∈ xcs X) (hkd : kd k = 6) (hN : ln k = 21) {v : Int32} (dg : decode cc pc = .ok (.putfield 81, 3)) (kk : G X F (pc + 3) L st (up2 M k 14 v)) : G X F pc L (.int v :: .ref k :: st) M := g_put hF (ty := .int) iX7 tyX7 tyX7_ok nmX7 rfl (by decide) hk hkd hN (j := 14) (by decide) wf_X7_81 rfl rfl (by decide +kernel) rfl rfl rfl dg kk
theorem wf_X7_35 : Cond.fieldLink RX7 35 RX7 "held" "[I" ∈ tb := tb_mem 737 (by decide +kernel) (by decide +kernel)
theorem gf_X7_35 {X : Cx} {F : Fx} {cc : ByteArray} {nL d pc k : Nat} {L : List (Option Value)} {st : List Value} {M : Mem} (hF : FK X F cc RX7 nL d) (hk : k ∈ xcs X) (hkd : kd k = 6) (hN : ln k = 21) (dg : decode cc pc = .ok (.getfield 35, 3)) (kk : G X F (pc + 3) L (.ref 79 :: st) M) : G X F pc L (.ref k :: st) M := g_get hF iX7 rfl (by decide) hk hkd hN (j := 15) (by decide) wf_X7_35 rfl (by unfold vfld; rw [hkd]; rfl) dg kk
theorem wf_X7_38 : Cond.fieldLink RX7 38 RX7 "evenings" "[I" ∈ tb := tb_mem 738 (by decide +kernel) (by decide +kernel)
theorem gf_X7_38 {X : Cx} {F : Fx} {cc : ByteArray} {nL d pc k : Nat} {L : List (Option Value)} {st : List Value} {M : Mem} (hF : FK X F cc RX7 nL d) (hk : k ∈ xcs X) (hkd : kd k = 6) (hN : ln k = 21) (dg : decode cc pc = .ok (.getfield 38, 3)) (kk : G X F (pc + 3) L (.ref 80 :: st) M) : G X F pc L (.ref k :: st) M := g_get hF iX7 rfl (by decide) hk hkd hN (j := 16) (by decide) wf_X7_38 rfl (by unfold vfld; rw [hkd]; rfl) dg kk
theorem wf_X7_41 : Cond.fieldLink RX7 41 RX7 "tried" "[I" ∈ tb := tb_mem 739 (by decide +kernel) (by decide +kernel)
theorem gf_X7_41 {X : Cx} {F : Fx} {cc : ByteArray} {nL d pc k : Nat} {L : List (Option Value)} {st : List Value} {M : Mem} (hF : FK X F cc RX7 nL d) (hk : k ∈ xcs X) (hkd : kd k = 6) (hN : ln k = 21) (dg : decode cc pc = .ok (.getfield 41, 3)) (kk : G X F (pc + 3) L (.ref 81 :: st) M) : G X F pc L (.ref k :: st) M := g_get hF iX7 rfl (by decide) hk hkd hN (j := 17) (by decide) wf_X7_41 rfl (by unfold vfld; rw [hkd]; rfl) dg kk
theorem wf_X7_44 : Cond.fieldLink RX7 44 RX7 "bestRow" "[I" ∈ tb := tb_mem 740 (by decide +kernel) (by decide +kernel)
theorem gf_X7_44 {X : Cx} {F : Fx} {cc : ByteArray} {nL d pc k : Nat} {L : List (Option Value)} {st : List Value} {M : Mem} (hF : FK X F cc RX7 nL d) (hk : k ∈ xcs X) (hkd : kd k = 6) (hN : ln k = 21) (dg : decode cc pc = .ok (.getfield 44, 3)) (kk : G X F (pc + 3) L (.ref 82 :: st) M) : G X F pc L (.ref k :: st) M := g_get hF iX7 rfl (by decide) hk hkd hN (j := 18) (by decide) wf_X7_44 rfl (by unfold vfld; rw [hkd]; rfl) dg kk
theorem wf_X7_174 : Cond.fieldLink RX7 174 RX7 "bestMany" "I" ∈ tb := tb_mem 741 (by decide +kernel) (by decide +kernel)
theorem gf_X7_174 {X : Cx} {F : Fx} {cc : ByteArray} {nL d pc k : Nat} {L : List (Option Value)} {st : List Value} {M : Mem} (hF : FK X F cc RX7 nL d) (hk : k ∈ xcs X) (hkd : kd k = 6) (hN : ln k = 21) (dg : decode cc pc = .ok (.getfield 174, 3)) (kk : G X F (pc + 3) L (.int (M k 19) :: st) M) : G X F pc L (.ref k :: st) M := g_get hF iX7 rfl (by decide) hk hkd hN (j := 19) (by decide) wf_X7_174 rfl (by unfold vfld; rw [hkd]; rfl) dg kk
theorem pf_X7_174 {X : Cx} {F : Fx} {cc : ByteArray} {nL d pc k : Nat} {L : List (Option Value)} {st : List Value} {M : Mem} (hF : FK X F cc RX7 nL d) (hk : k ∈ xcs X) (hkd : kd k = 6) (hN : ln k = 21) {v : Int32} (dg : decode cc pc = .ok (.putfield 174, 3)) (kk : G X F (pc + 3) L st (up2 M k 19 v)) : G X F pc L (.int v :: .ref k :: st) M := g_put hF (ty := .int) iX7 tyX7 tyX7_ok nmX7 rfl (by decide) hk hkd hN (j := 19) (by decide) wf_X7_174 rfl rfl (by decide +kernel) rfl rfl rfl dg kk
theorem wf_X7_177 : Cond.fieldLink RX7 177 RX7 "bestBy" "I" ∈ tb := tb_mem 742 (by decide +kernel) (by decide +kernel)
theorem gf_X7_177 {X : Cx} {F : Fx} {cc : ByteArray} {nL d pc k : Nat} {L : List (Option Value)} {st : List Value} {M : Mem} (hF : FK X F cc RX7 nL d) (hk : k ∈ xcs X) (hkd : kd k = 6) (hN : ln k = 21) (dg : decode cc pc = .ok (.getfield 177, 3)) (kk : G X F (pc + 3) L (.int (M k 20) :: st) M) : G X F pc L (.ref k :: st) M := g_get hF iX7 rfl (by decide) hk hkd hN (j := 20) (by decide) wf_X7_177 rfl (by unfold vfld; rw [hkd]; rfl) dg kk
theorem pf_X7_177 {X : Cx} {F : Fx} {cc : ByteArray} {nL d pc k : Nat} {L : List (Option Value)} {st : List Value} {M : Mem} (hF : FK X F cc RX7 nL d) (hk : k ∈ xcs X) (hkd : kd k = 6) (hN : ln k = 21) {v : Int32} (dg : decode cc pc = .ok (.putfield 177, 3)) (kk : G X F (pc + 3) L st (up2 M k 20 v)) : G X F pc L (.int v :: .ref k :: st) M := g_put hF (ty := .int) iX7 tyX7 tyX7_ok nmX7 rfl (by decide) hk hkd hN (j := 20) (by decide) wf_X7_177 rfl rfl (by decide +kernel) rfl rfl rfl dg kk
theorem wf_X4_92 : Cond.fieldLink RX4 92 RX0 "word" "Ljava/lang/String;" ∈ tb := tb_mem 1015 (by decide +kernel) (by decide +kernel)
theorem wf_J0_9 : Cond.fieldLink RJ0 9 RJ0 "value" "[B" ∈ tb := tb_mem 1016 (by decide +kernel) (by decide +kernel)
theorem wf_J0_15 : Cond.fieldLink RJ0 15 RJ0 "coder" "B" ∈ tb := tb_mem 1017 (by decide +kernel) (by decide +kernel)
theorem wf_X4_65 : Cond.fieldLink RX4 65 RX0 "deed" "I" ∈ tb := tb_mem 1018 (by decide +kernel) (by decide +kernel)
theorem wf_X4_85 : Cond.fieldLink RX4 85 RX0 "kind" "I" ∈ tb := tb_mem 1019 (by decide +kernel) (by decide +kernel)
theorem wm_L_9 : Cond.methodLink RL 9 yX6_init ∈ tb := tb_mem 70 (by decide +kernel) (by decide +kernel)
theorem wm_X6_11 : Cond.methodLink RX6 11 yX5_init ∈ tb := tb_mem 78 (by decide +kernel) (by decide +kernel)
theorem wm_X5_33 : Cond.methodLink RX5 33 yX5_beAsAtFirst ∈ tb := tb_mem 82 (by decide +kernel) (by decide +kernel)
theorem wm_X4_11 : Cond.methodLink RX4 11 yX5_init ∈ tb := tb_mem 151 (by decide +kernel) (by decide +kernel)
theorem wm_X4_26 : Cond.methodLink RX4 26 yX0_values ∈ tb := tb_mem 152 (by decide +kernel) (by decide +kernel)
theorem wm_X6_25 : Cond.methodLink RX6 25 yX1_init ∈ tb := tb_mem 193 (by decide +kernel) (by decide +kernel)
theorem wm_X6_37 : Cond.methodLink RX6 37 yX3_init ∈ tb := tb_mem 241 (by decide +kernel) (by decide +kernel)
theorem wm_X3_24 : Cond.methodLink RX3 24 yX1_init ∈ tb := tb_mem 247 (by decide +kernel) (by decide +kernel)
theorem wm_X6_44 : Cond.methodLink RX6 44 yX2_init ∈ tb := tb_mem 269 (by decide +kernel) (by decide +kernel)
theorem wm_X2_17 : Cond.methodLink RX2 17 yX1_init ∈ tb := tb_mem 274 (by decide +kernel) (by decide +kernel)
theorem wm_X6_61 : Cond.methodLink RX6 61 yX1_begin ∈ tb := tb_mem 286 (by decide +kernel) (by decide +kernel)
theorem wm_X1_24 : Cond.methodLink RX1 24 arraycopyName ∈ tb := tb_mem 290 (by decide +kernel) (by decide +kernel)
theorem wm_L_13 : Cond.methodLink RL 13 yX6_write ∈ tb := tb_mem 325 (by decide +kernel) (by decide +kernel)
theorem wm_X6_64 : Cond.methodLink RX6 64 yX4_append ∈ tb := tb_mem 329 (by decide +kernel) (by decide +kernel)
theorem wm_L_18 : Cond.methodLink RL 18 yX6_erase ∈ tb := tb_mem 333 (by decide +kernel) (by decide +kernel)
theorem wm_L_23 : Cond.methodLink RL 23 yX6_fault ∈ tb := tb_mem 337 (by decide +kernel) (by decide +kernel)
theorem wm_X6_72 : Cond.methodLink RX6 72 yX4_findFault ∈ tb := tb_mem 341 (by decide +kernel) (by decide +kernel)
theorem wm_X4_40 : Cond.methodLink RX4 40 yX5_copyFrom ∈ tb := tb_mem 345 (by decide +kernel) (by decide +kernel)
theorem wm_X5_52 : Cond.methodLink RX5 52 arraycopyName ∈ tb := tb_mem 349 (by decide +kernel) (by decide +kernel)
theorem wm_X4_50 : Cond.methodLink RX4 50 yX4_readClause ∈ tb := tb_mem 350 (by decide +kernel) (by decide +kernel)
theorem wm_X4_54 : Cond.methodLink RX4 54 yX4_skipBlanks ∈ tb := tb_mem 354 (by decide +kernel) (by decide +kernel)
theorem wm_X4_57 : Cond.methodLink RX4 57 yX4_endOfRow ∈ tb := tb_mem 358 (by decide +kernel) (by decide +kernel)
theorem wm_X4_61 : Cond.methodLink RX4 61 yX4_clauseUpTo ∈ tb := tb_mem 362 (by decide +kernel) (by decide +kernel)
theorem wm_X4_96 : Cond.methodLink RX4 96 yX4_isWordUpTo ∈ tb := tb_mem 366 (by decide +kernel) (by decide +kernel)
theorem wm_X4_100 : Cond.methodLink RX4 100 yJ0_length_8abf5 ∈ tb := tb_mem 370 (by decide +kernel) (by decide +kernel)
theorem wm_J0_335 : Cond.methodLink RJ0 335 yJ0_coder_7d493 ∈ tb := tb_mem 374 (by decide +kernel) (by decide +kernel)
theorem wm_X4_105 : Cond.methodLink RX4 105 yJ0_charAt_5068e ∈ tb := tb_mem 380 (by decide +kernel) (by decide +kernel)
theorem wm_J0_492 : Cond.methodLink RJ0 492 yJ0_isLatin1_aae02 ∈ tb := tb_mem 384 (by decide +kernel) (by decide +kernel)
theorem wm_J0_495 : Cond.methodLink RJ0 495 yJ1_charAt_3b067 ∈ tb := tb_mem 388 (by decide +kernel) (by decide +kernel)
theorem wm_J1_9 : Cond.methodLink RJ1 9 yJ0_checkIndex_df160 ∈ tb := tb_mem 391 (by decide +kernel) (by decide +kernel)
theorem wm_J0_1059 : Cond.methodLink RJ0 1059 yJ3_checkIndex_8e157 ∈ tb := tb_mem 396 (by decide +kernel) (by decide +kernel)
theorem wm_J0_498 : Cond.methodLink RJ0 498 yJ2_charAt_3b067 ∈ tb := tb_mem 399 (by decide +kernel) (by decide +kernel)
theorem wm_J2_67 : Cond.methodLink RJ2 67 yJ2_checkIndex_2214a ∈ tb := tb_mem 402 (by decide +kernel) (by decide +kernel)
theorem wm_J2_48 : Cond.methodLink RJ2 48 yJ2_length_9d52b ∈ tb := tb_mem 405 (by decide +kernel) (by decide +kernel)
theorem wm_J2_414 : Cond.methodLink RJ2 414 yJ0_checkIndex_df160 ∈ tb := tb_mem 408 (by decide +kernel) (by decide +kernel)
theorem wm_J2_71 : Cond.methodLink RJ2 71 yJ2_getChar_3b067 ∈ tb := tb_mem 409 (by decide +kernel) (by decide +kernel)
theorem wm_X4_68 : Cond.methodLink RX4 68 yX5_hasRoomFor ∈ tb := tb_mem 418 (by decide +kernel) (by decide +kernel)
theorem wm_X4_81 : Cond.methodLink RX4 81 yX4_readNumber ∈ tb := tb_mem 428 (by decide +kernel) (by decide +kernel)
theorem wm_X4_88 : Cond.methodLink RX4 88 yX5_carryOut ∈ tb := tb_mem 432 (by decide +kernel) (by decide +kernel)
theorem wm_X5_62 : Cond.methodLink RX5 62 yX5_addClapper ∈ tb := tb_mem 436 (by decide +kernel) (by decide +kernel)
theorem wm_X5_66 : Cond.methodLink RX5 66 yX5_addEncore ∈ tb := tb_mem 440 (by decide +kernel) (by decide +kernel)
theorem wm_L_27 : Cond.methodLink RL 27 yX6_hall ∈ tb := tb_mem 444 (by decide +kernel) (by decide +kernel)
theorem wm_X6_79 : Cond.methodLink RX6 79 yX5_copyFrom ∈ tb := tb_mem 448 (by decide +kernel) (by decide +kernel)
theorem wm_X6_82 : Cond.methodLink RX6 82 yX6_beginAnew ∈ tb := tb_mem 449 (by decide +kernel) (by decide +kernel)
theorem wm_L_31 : Cond.methodLink RL 31 yX6_clapper ∈ tb := tb_mem 453 (by decide +kernel) (by decide +kernel)
theorem wm_X6_88 : Cond.methodLink RX6 88 yX5_hasClapper ∈ tb := tb_mem 457 (by decide +kernel) (by decide +kernel)
theorem wm_X6_100 : Cond.methodLink RX6 100 yX1_isThere ∈ tb := tb_mem 461 (by decide +kernel) (by decide +kernel)
theorem wm_X6_103 : Cond.methodLink RX6 103 yX1_isClapping ∈ tb := tb_mem 465 (by decide +kernel) (by decide +kernel)
theorem wm_L_36 : Cond.methodLink RL 36 yX6_encore ∈ tb := tb_mem 469 (by decide +kernel) (by decide +kernel)
theorem wm_X6_109 : Cond.methodLink RX6 109 yX5_hasEncore ∈ tb := tb_mem 473 (by decide +kernel) (by decide +kernel)
theorem wm_X6_124 : Cond.methodLink RX6 124 yX1_wasPlayed ∈ tb := tb_mem 477 (by decide +kernel) (by decide +kernel)
theorem wm_L_40 : Cond.methodLink RL 40 yX6_as ∈ tb := tb_mem 481 (by decide +kernel) (by decide +kernel)
theorem wm_X6_130 : Cond.methodLink RX6 130 yX6_isUnder ∈ tb := tb_mem 487 (by decide +kernel) (by decide +kernel)
theorem wm_X6_134 : Cond.methodLink RX6 134 yX1_whoClaps ∈ tb := tb_mem 490 (by decide +kernel) (by decide +kernel)
theorem wm_X1_60 : Cond.methodLink RX1 60 yX1_isClapping ∈ tb := tb_mem 494 (by decide +kernel) (by decide +kernel)
theorem wm_X6_138 : Cond.methodLink RX6 138 yX1_lessByWait ∈ tb := tb_mem 495 (by decide +kernel) (by decide +kernel)
theorem wm_X1_68 : Cond.methodLink RX1 68 yX1_whoIsBeside ∈ tb := tb_mem 499 (by decide +kernel) (by decide +kernel)
theorem wm_X1_74 : Cond.methodLink RX1 74 Lib.Math.min.name ∈ tb := tb_mem 503 (by decide +kernel) (by decide +kernel)
theorem wm_L_44 : Cond.methodLink RL 44 yX6_encoreAs ∈ tb := tb_mem 506 (by decide +kernel) (by decide +kernel)
theorem wm_X6_145 : Cond.methodLink RX6 145 yX6_zealBehind ∈ tb := tb_mem 512 (by decide +kernel) (by decide +kernel)
theorem wm_X6_251 : Cond.methodLink RX6 251 Lib.Math.min.name ∈ tb := tb_mem 515 (by decide +kernel) (by decide +kernel)
theorem wm_L_48 : Cond.methodLink RL 48 yX6_can ∈ tb := tb_mem 516 (by decide +kernel) (by decide +kernel)
theorem wm_X6_149 : Cond.methodLink RX6 149 yX6_refusalOf ∈ tb := tb_mem 520 (by decide +kernel) (by decide +kernel)
theorem wm_X6_153 : Cond.methodLink RX6 153 yX1_isPossible ∈ tb := tb_mem 524 (by decide +kernel) (by decide +kernel)
theorem wm_X1_80 : Cond.methodLink RX1 80 yX1_isReady ∈ tb := tb_mem 528 (by decide +kernel) (by decide +kernel)
theorem wm_X1_96 : Cond.methodLink RX1 96 yX5_hasEncore ∈ tb := tb_mem 532 (by decide +kernel) (by decide +kernel)
theorem wm_X1_103 : Cond.methodLink RX1 103 yX1_wasPlayed ∈ tb := tb_mem 533 (by decide +kernel) (by decide +kernel)
theorem wm_X1_83 : Cond.methodLink RX1 83 yX1_noise ∈ tb := tb_mem 534 (by decide +kernel) (by decide +kernel)
theorem wm_X1_64 : Cond.methodLink RX1 64 yX1_zealOf ∈ tb := tb_mem 538 (by decide +kernel) (by decide +kernel)
theorem wm_L_52 : Cond.methodLink RL 52 yX6_does ∈ tb := tb_mem 542 (by decide +kernel) (by decide +kernel)
theorem wm_X6_159 : Cond.methodLink RX6 159 yX5_minutesOf ∈ tb := tb_mem 546 (by decide +kernel) (by decide +kernel)
theorem wm_X5_58 : Cond.methodLink RX5 58 yX5_hasEncore ∈ tb := tb_mem 550 (by decide +kernel) (by decide +kernel)
theorem wm_X6_162 : Cond.methodLink RX6 162 yX2_remember ∈ tb := tb_mem 551 (by decide +kernel) (by decide +kernel)
theorem wm_X2_24 : Cond.methodLink RX2 24 yX1_copyFrom ∈ tb := tb_mem 555 (by decide +kernel) (by decide +kernel)
theorem wm_X2_31 : Cond.methodLink RX2 31 Lib.Math.min.name ∈ tb := tb_mem 559 (by decide +kernel) (by decide +kernel)
theorem wm_X6_166 : Cond.methodLink RX6 166 yX1_take ∈ tb := tb_mem 560 (by decide +kernel) (by decide +kernel)
theorem wm_X1_90 : Cond.methodLink RX1 90 yX1_waitOne ∈ tb := tb_mem 564 (by decide +kernel) (by decide +kernel)
theorem wm_X1_109 : Cond.methodLink RX1 109 yX1_whoClaps ∈ tb := tb_mem 568 (by decide +kernel) (by decide +kernel)
theorem wm_X1_112 : Cond.methodLink RX1 112 yX1_lessByWait ∈ tb := tb_mem 569 (by decide +kernel) (by decide +kernel)
theorem wm_X1_115 : Cond.methodLink RX1 115 yX1_letPass ∈ tb := tb_mem 570 (by decide +kernel) (by decide +kernel)
theorem wm_X1_93 : Cond.methodLink RX1 93 yX1_bowOnce ∈ tb := tb_mem 574 (by decide +kernel) (by decide +kernel)
theorem wm_X1_118 : Cond.methodLink RX1 118 yX1_moreByBow ∈ tb := tb_mem 578 (by decide +kernel) (by decide +kernel)
theorem wm_X1_87 : Cond.methodLink RX1 87 Lib.Math.max.name ∈ tb := tb_mem 582 (by decide +kernel) (by decide +kernel)
theorem wm_X1_99 : Cond.methodLink RX1 99 yX1_play ∈ tb := tb_mem 585 (by decide +kernel) (by decide +kernel)
theorem wm_X1_127 : Cond.methodLink RX1 127 yX1_isThere ∈ tb := tb_mem 589 (by decide +kernel) (by decide +kernel)
theorem wm_X1_137 : Cond.methodLink RX1 137 yJ6_bitCount_0f7a4 ∈ tb := tb_mem 591 (by decide +kernel) (by decide +kernel)
theorem wm_X6_170 : Cond.methodLink RX6 170 yX1_noise ∈ tb := tb_mem 597 (by decide +kernel) (by decide +kernel)
theorem wm_L_56 : Cond.methodLink RL 56 yX6_undo ∈ tb := tb_mem 598 (by decide +kernel) (by decide +kernel)
theorem wm_X6_173 : Cond.methodLink RX6 173 yX2_recall ∈ tb := tb_mem 602 (by decide +kernel) (by decide +kernel)
theorem wm_L_60 : Cond.methodLink RL 60 yX6_keep ∈ tb := tb_mem 606 (by decide +kernel) (by decide +kernel)
theorem wm_X6_180 : Cond.methodLink RX6 180 yX1_copyFrom ∈ tb := tb_mem 610 (by decide +kernel) (by decide +kernel)
theorem wm_L_64 : Cond.methodLink RL 64 yX6_back ∈ tb := tb_mem 611 (by decide +kernel) (by decide +kernel)
theorem wm_L_68 : Cond.methodLink RL 68 yX6_till ∈ tb := tb_mem 615 (by decide +kernel) (by decide +kernel)
theorem wm_L_72 : Cond.methodLink RL 72 yX6_there ∈ tb := tb_mem 619 (by decide +kernel) (by decide +kernel)
theorem wm_X6_182 : Cond.methodLink RX6 182 yX6_foretellWaits ∈ tb := tb_mem 623 (by decide +kernel) (by decide +kernel)
theorem wm_L_76 : Cond.methodLink RL 76 yX6_sound ∈ tb := tb_mem 627 (by decide +kernel) (by decide +kernel)
theorem wm_L_80 : Cond.methodLink RL 80 yX6_best ∈ tb := tb_mem 631 (by decide +kernel) (by decide +kernel)
theorem wm_X6_191 : Cond.methodLink RX6 191 yX3_lookFrom ∈ tb := tb_mem 635 (by decide +kernel) (by decide +kernel)
theorem wm_X3_27 : Cond.methodLink RX3 27 yX1_copyFrom ∈ tb := tb_mem 639 (by decide +kernel) (by decide +kernel)
theorem wm_X3_41 : Cond.methodLink RX3 41 yX3_lookDeeper ∈ tb := tb_mem 640 (by decide +kernel) (by decide +kernel)
theorem wm_X3_45 : Cond.methodLink RX3 45 yX3_isWorthATry ∈ tb := tb_mem 644 (by decide +kernel) (by decide +kernel)
theorem wm_X3_63 : Cond.methodLink RX3 63 yX1_moreByBow ∈ tb := tb_mem 648 (by decide +kernel) (by decide +kernel)
theorem wm_X3_49 : Cond.methodLink RX3 49 yX1_isPossible ∈ tb := tb_mem 649 (by decide +kernel) (by decide +kernel)
theorem wm_X3_53 : Cond.methodLink RX3 53 yX3_lookBehind ∈ tb := tb_mem 650 (by decide +kernel) (by decide +kernel)
theorem wm_X3_57 : Cond.methodLink RX3 57 yX1_take ∈ tb := tb_mem 654 (by decide +kernel) (by decide +kernel)
theorem wm_X3_60 : Cond.methodLink RX3 60 yX3_compare ∈ tb := tb_mem 655 (by decide +kernel) (by decide +kernel)
theorem wm_X3_73 : Cond.methodLink RX3 73 arraycopyName ∈ tb := tb_mem 659 (by decide +kernel) (by decide +kernel)
theorem wm_L_84 : Cond.methodLink RL 84 yX6_row ∈ tb := tb_mem 660 (by decide +kernel) (by decide +kernel)
theorem wm_L_88 : Cond.methodLink RL 88 yX6_tear ∈ tb := tb_mem 664 (by decide +kernel) (by decide +kernel)
theorem wm_L_92 : Cond.methodLink RL 92 yX6_judge ∈ tb := tb_mem 668 (by decide +kernel) (by decide +kernel)
theorem wm_L_96 : Cond.methodLink RL 96 yX6_stay ∈ tb := tb_mem 672 (by decide +kernel) (by decide +kernel)
theorem wm_X6_209 : Cond.methodLink RX6 209 yJ6_bitCount_0f7a4 ∈ tb := tb_mem 677 (by decide +kernel) (by decide +kernel)
theorem wm_X6_214 : Cond.methodLink RX6 214 yX6_waysToStay ∈ tb := tb_mem 678 (by decide +kernel) (by decide +kernel)
theorem wm_X6_218 : Cond.methodLink RX6 218 yX6_power ∈ tb := tb_mem 681 (by decide +kernel) (by decide +kernel)
theorem wm_X6_222 : Cond.methodLink RX6 222 yX6_commonDivisor ∈ tb := tb_mem 684 (by decide +kernel) (by decide +kernel)
theorem wm_L_101 : Cond.methodLink RL 101 yX6_gone ∈ tb := tb_mem 687 (by decide +kernel) (by decide +kernel)
theorem wm_X6_226 : Cond.methodLink RX6 226 yX1_zealOf ∈ tb := tb_mem 691 (by decide +kernel) (by decide +kernel)
theorem wm_L_105 : Cond.methodLink RL 105 yX6_prepared ∈ tb := tb_mem 692 (by decide +kernel) (by decide +kernel)
theorem wm_X6_232 : Cond.methodLink RX6 232 yX5_sumOver ∈ tb := tb_mem 696 (by decide +kernel) (by decide +kernel)
theorem wm_L_109 : Cond.methodLink RL 109 yX6_other ∈ tb := tb_mem 700 (by decide +kernel) (by decide +kernel)
theorem wm_L_113 : Cond.methodLink RL 113 yX6_count ∈ tb := tb_mem 704 (by decide +kernel) (by decide +kernel)
theorem wm_L_12 : Cond.methodLink RL 12 yX7_init ∈ tb := tb_mem 710 (by decide +kernel) (by decide +kernel)
theorem wm_X7_47 : Cond.methodLink RX7 47 yX7_forgets ∈ tb := tb_mem 714 (by decide +kernel) (by decide +kernel)
theorem wm_X7_50 : Cond.methodLink RX7 50 yX7_begins ∈ tb := tb_mem 718 (by decide +kernel) (by decide +kernel)
theorem wm_L_17 : Cond.methodLink RL 17 yX7_write ∈ tb := tb_mem 786 (by decide +kernel) (by decide +kernel)
theorem wm_X7_53 : Cond.methodLink RX7 53 yX7_in ∈ tb := tb_mem 790 (by decide +kernel) (by decide +kernel)
theorem wm_L_22 : Cond.methodLink RL 22 yX7_erase ∈ tb := tb_mem 793 (by decide +kernel) (by decide +kernel)
theorem wm_L_26 : Cond.methodLink RL 26 yX7_fault ∈ tb := tb_mem 797 (by decide +kernel) (by decide +kernel)
theorem wm_X7_110 : Cond.methodLink RX7 110 yX7_reads ∈ tb := tb_mem 801 (by decide +kernel) (by decide +kernel)
theorem wm_X7_84 : Cond.methodLink RX7 84 yX7_token ∈ tb := tb_mem 805 (by decide +kernel) (by decide +kernel)
theorem wm_X7_64 : Cond.methodLink RX7 64 yX7_letterAt ∈ tb := tb_mem 809 (by decide +kernel) (by decide +kernel)
theorem wm_X7_71 : Cond.methodLink RX7 71 yX7_isLetter ∈ tb := tb_mem 813 (by decide +kernel) (by decide +kernel)
theorem wm_X7_75 : Cond.methodLink RX7 75 yX7_isDigit ∈ tb := tb_mem 816 (by decide +kernel) (by decide +kernel)
theorem wm_X7_100 : Cond.methodLink RX7 100 yX7_readsClause ∈ tb := tb_mem 819 (by decide +kernel) (by decide +kernel)
theorem wm_X7_90 : Cond.methodLink RX7 90 yX7_isWord ∈ tb := tb_mem 823 (by decide +kernel) (by decide +kernel)
theorem wm_X7_94 : Cond.methodLink RX7 94 yX7_readsClapper ∈ tb := tb_mem 827 (by decide +kernel) (by decide +kernel)
theorem wm_X7_87 : Cond.methodLink RX7 87 yX7_number ∈ tb := tb_mem 831 (by decide +kernel) (by decide +kernel)
theorem wm_X7_97 : Cond.methodLink RX7 97 yX7_readsEncore ∈ tb := tb_mem 835 (by decide +kernel) (by decide +kernel)
theorem wm_L_30 : Cond.methodLink RL 30 yX7_hall ∈ tb := tb_mem 839 (by decide +kernel) (by decide +kernel)
theorem wm_L_35 : Cond.methodLink RL 35 yX7_clapper ∈ tb := tb_mem 843 (by decide +kernel) (by decide +kernel)
theorem wm_X7_114 : Cond.methodLink RX7 114 yX7_isClapper ∈ tb := tb_mem 847 (by decide +kernel) (by decide +kernel)
theorem wm_X7_117 : Cond.methodLink RX7 117 yX7_isThere ∈ tb := tb_mem 851 (by decide +kernel) (by decide +kernel)
theorem wm_X7_120 : Cond.methodLink RX7 120 yX7_claps ∈ tb := tb_mem 855 (by decide +kernel) (by decide +kernel)
theorem wm_L_39 : Cond.methodLink RL 39 yX7_encore ∈ tb := tb_mem 859 (by decide +kernel) (by decide +kernel)
theorem wm_X7_123 : Cond.methodLink RX7 123 yX7_isEncore ∈ tb := tb_mem 863 (by decide +kernel) (by decide +kernel)
theorem wm_L_43 : Cond.methodLink RL 43 yX7_as ∈ tb := tb_mem 867 (by decide +kernel) (by decide +kernel)
theorem wm_X7_129 : Cond.methodLink RX7 129 yX7_loses ∈ tb := tb_mem 871 (by decide +kernel) (by decide +kernel)
theorem wm_X7_126 : Cond.methodLink RX7 126 yX7_wasKnown ∈ tb := tb_mem 875 (by decide +kernel) (by decide +kernel)
theorem wm_L_47 : Cond.methodLink RL 47 yX7_encoreAs ∈ tb := tb_mem 879 (by decide +kernel) (by decide +kernel)
theorem wm_X7_132 : Cond.methodLink RX7 132 yX7_behind ∈ tb := tb_mem 883 (by decide +kernel) (by decide +kernel)
theorem wm_L_51 : Cond.methodLink RL 51 yX7_can ∈ tb := tb_mem 886 (by decide +kernel) (by decide +kernel)
theorem wm_X7_139 : Cond.methodLink RX7 139 yX7_lacks ∈ tb := tb_mem 890 (by decide +kernel) (by decide +kernel)
theorem wm_X7_136 : Cond.methodLink RX7 136 yX7_noise ∈ tb := tb_mem 894 (by decide +kernel) (by decide +kernel)
theorem wm_L_55 : Cond.methodLink RL 55 yX7_does ∈ tb := tb_mem 898 (by decide +kernel) (by decide +kernel)
theorem wm_X7_161 : Cond.methodLink RX7 161 yX7_steps ∈ tb := tb_mem 902 (by decide +kernel) (by decide +kernel)
theorem wm_X7_151 : Cond.methodLink RX7 151 yX7_waitsOne ∈ tb := tb_mem 906 (by decide +kernel) (by decide +kernel)
theorem wm_X7_142 : Cond.methodLink RX7 142 yX7_minute ∈ tb := tb_mem 910 (by decide +kernel) (by decide +kernel)
theorem wm_X7_154 : Cond.methodLink RX7 154 yX7_bows ∈ tb := tb_mem 914 (by decide +kernel) (by decide +kernel)
theorem wm_X7_157 : Cond.methodLink RX7 157 yX7_plays ∈ tb := tb_mem 918 (by decide +kernel) (by decide +kernel)
theorem wm_X7_145 : Cond.methodLink RX7 145 yX7_thereNow ∈ tb := tb_mem 922 (by decide +kernel) (by decide +kernel)
theorem wm_X7_148 : Cond.methodLink RX7 148 yX7_ones ∈ tb := tb_mem 926 (by decide +kernel) (by decide +kernel)
theorem wm_L_59 : Cond.methodLink RL 59 yX7_undo ∈ tb := tb_mem 929 (by decide +kernel) (by decide +kernel)
theorem wm_L_63 : Cond.methodLink RL 63 yX7_keep ∈ tb := tb_mem 933 (by decide +kernel) (by decide +kernel)
theorem wm_L_67 : Cond.methodLink RL 67 yX7_back ∈ tb := tb_mem 937 (by decide +kernel) (by decide +kernel)
theorem wm_L_71 : Cond.methodLink RL 71 yX7_till ∈ tb := tb_mem 941 (by decide +kernel) (by decide +kernel)
theorem wm_X7_164 : Cond.methodLink RX7 164 yX7_holds ∈ tb := tb_mem 945 (by decide +kernel) (by decide +kernel)
theorem wm_X7_167 : Cond.methodLink RX7 167 yX7_lets ∈ tb := tb_mem 949 (by decide +kernel) (by decide +kernel)
theorem wm_L_75 : Cond.methodLink RL 75 yX7_there ∈ tb := tb_mem 953 (by decide +kernel) (by decide +kernel)
theorem wm_X7_170 : Cond.methodLink RX7 170 yX7_behindWaits ∈ tb := tb_mem 957 (by decide +kernel) (by decide +kernel)
theorem wm_L_79 : Cond.methodLink RL 79 yX7_sound ∈ tb := tb_mem 961 (by decide +kernel) (by decide +kernel)
theorem wm_L_83 : Cond.methodLink RL 83 yX7_best ∈ tb := tb_mem 965 (by decide +kernel) (by decide +kernel)
theorem wm_X7_186 : Cond.methodLink RX7 186 yX7_seeks ∈ tb := tb_mem 969 (by decide +kernel) (by decide +kernel)
theorem wm_X7_180 : Cond.methodLink RX7 180 yX7_goesOn ∈ tb := tb_mem 973 (by decide +kernel) (by decide +kernel)
theorem wm_X7_183 : Cond.methodLink RX7 183 yX7_comesBack ∈ tb := tb_mem 977 (by decide +kernel) (by decide +kernel)
theorem wm_L_87 : Cond.methodLink RL 87 yX7_row ∈ tb := tb_mem 981 (by decide +kernel) (by decide +kernel)
theorem wm_L_91 : Cond.methodLink RL 91 yX7_tear ∈ tb := tb_mem 985 (by decide +kernel) (by decide +kernel)
theorem wm_L_95 : Cond.methodLink RL 95 yX7_judge ∈ tb := tb_mem 989 (by decide +kernel) (by decide +kernel)
theorem wm_L_100 : Cond.methodLink RL 100 yX7_stay ∈ tb := tb_mem 993 (by decide +kernel) (by decide +kernel)
theorem wm_L_104 : Cond.methodLink RL 104 yX7_gone ∈ tb := tb_mem 999 (by decide +kernel) (by decide +kernel)
theorem wm_L_108 : Cond.methodLink RL 108 yX7_prepared ∈ tb := tb_mem 1003 (by decide +kernel) (by decide +kernel)
theorem wm_L_112 : Cond.methodLink RL 112 yX7_other ∈ tb := tb_mem 1007 (by decide +kernel) (by decide +kernel)
theorem wm_L_116 : Cond.methodLink RL 116 yX7_count ∈ tb := tb_mem 1011 (by decide +kernel) (by decide +kernel)
set_option maxRecDepth 20000 in
theorem wc_X0_values : Cond.code yX0_values cX0_values 0 (some (.array (.object "WhichEncore$Clause"))) ∈ tb := tb_mem 154 rfl (by decide +kernel)
theorem wt_X0_values : Cond.static yX0_values ∈ tb := tb_mem 153 (by decide +kernel) (by decide +kernel)
theorem hyX0_values : yX0_values.cls ≠ "java/lang/invoke/MethodHandle" ∧ yX0_values.cls ≠ "java/lang/invoke/VarHandle" ∧ (parseMethodDescriptor yX0_values.desc).map (fun d => d.parameters.length) = some 0 := ⟨by decide, by decide, by decide +kernel⟩
set_option maxRecDepth 20000 in
theorem wc_X1_init : Cond.code yX1_init cX1_init 2 none ∈ tb := tb_mem 195 rfl (by decide +kernel)
theorem wi_X1_init : Cond.instanceMethod yX1_init ∈ tb := tb_mem 194 (by decide +kernel) (by decide +kernel)
theorem hyX1_init : yX1_init.cls = RX1 ∧ yX1_init.cls ≠ "java/lang/invoke/MethodHandle" ∧ yX1_init.cls ≠ "java/lang/invoke/VarHandle" ∧ (parseMethodDescriptor yX1_init.desc).map (fun d => d.parameters.length) = some 1 := ⟨rfl, by decide, by decide, by decide +kernel⟩
set_option maxRecDepth 20000 in
theorem wc_X1_begin : Cond.code yX1_begin cX1_begin 1 none ∈ tb := tb_mem 289 rfl (by decide +kernel)
theorem wi_X1_begin : Cond.instanceMethod yX1_begin ∈ tb := tb_mem 287 (by decide +kernel) (by decide +kernel)
theorem we_X1_begin : Cond.selects RX1 yX1_begin yX1_begin ∈ tb := tb_mem 288 (by decide +kernel) (by decide +kernel)
theorem hyX1_begin : yX1_begin.cls = RX1 ∧ yX1_begin.cls ≠ "java/lang/invoke/MethodHandle" ∧ yX1_begin.cls ≠ "java/lang/invoke/VarHandle" ∧ (parseMethodDescriptor yX1_begin.desc).map (fun d => d.parameters.length) = some 0 := ⟨rfl, by decide, by decide, by decide +kernel⟩
set_option maxRecDepth 20000 in
theorem wc_X1_copyFrom : Cond.code yX1_copyFrom cX1_copyFrom 2 none ∈ tb := tb_mem 558 rfl (by decide +kernel)
theorem wi_X1_copyFrom : Cond.instanceMethod yX1_copyFrom ∈ tb := tb_mem 556 (by decide +kernel) (by decide +kernel)
theorem we_X1_copyFrom : Cond.selects RX1 yX1_copyFrom yX1_copyFrom ∈ tb := tb_mem 557 (by decide +kernel) (by decide +kernel)
theorem hyX1_copyFrom : yX1_copyFrom.cls = RX1 ∧ yX1_copyFrom.cls ≠ "java/lang/invoke/MethodHandle" ∧ yX1_copyFrom.cls ≠ "java/lang/invoke/VarHandle" ∧ (parseMethodDescriptor yX1_copyFrom.desc).map (fun d => d.parameters.length) = some 1 := ⟨rfl, by decide, by decide, by decide +kernel⟩
set_option maxRecDepth 20000 in
theorem wc_X1_isThere : Cond.code yX1_isThere cX1_isThere 2 (some .boolean) ∈ tb := tb_mem 464 rfl (by decide +kernel)
theorem wi_X1_isThere : Cond.instanceMethod yX1_isThere ∈ tb := tb_mem 462 (by decide +kernel) (by decide +kernel)
theorem we_X1_isThere : Cond.selects RX1 yX1_isThere yX1_isThere ∈ tb := tb_mem 463 (by decide +kernel) (by decide +kernel)
theorem hyX1_isThere : yX1_isThere.cls = RX1 ∧ yX1_isThere.cls ≠ "java/lang/invoke/MethodHandle" ∧ yX1_isThere.cls ≠ "java/lang/invoke/VarHandle" ∧ (parseMethodDescriptor yX1_isThere.desc).map (fun d => d.parameters.length) = some 1 := ⟨rfl, by decide, by decide, by decide +kernel⟩
set_option maxRecDepth 20000 in
theorem wc_X1_isClapping : Cond.code yX1_isClapping cX1_isClapping 2 (some .boolean) ∈ tb := tb_mem 468 rfl (by decide +kernel)
theorem wi_X1_isClapping : Cond.instanceMethod yX1_isClapping ∈ tb := tb_mem 466 (by decide +kernel) (by decide +kernel)
theorem we_X1_isClapping : Cond.selects RX1 yX1_isClapping yX1_isClapping ∈ tb := tb_mem 467 (by decide +kernel) (by decide +kernel)
theorem hyX1_isClapping : yX1_isClapping.cls = RX1 ∧ yX1_isClapping.cls ≠ "java/lang/invoke/MethodHandle" ∧ yX1_isClapping.cls ≠ "java/lang/invoke/VarHandle" ∧ (parseMethodDescriptor yX1_isClapping.desc).map (fun d => d.parameters.length) = some 1 := ⟨rfl, by decide, by decide, by decide +kernel⟩
set_option maxRecDepth 20000 in
theorem wc_X1_wasPlayed : Cond.code yX1_wasPlayed cX1_wasPlayed 2 (some .boolean) ∈ tb := tb_mem 480 rfl (by decide +kernel)
theorem wi_X1_wasPlayed : Cond.instanceMethod yX1_wasPlayed ∈ tb := tb_mem 478 (by decide +kernel) (by decide +kernel)
theorem we_X1_wasPlayed : Cond.selects RX1 yX1_wasPlayed yX1_wasPlayed ∈ tb := tb_mem 479 (by decide +kernel) (by decide +kernel)
theorem hyX1_wasPlayed : yX1_wasPlayed.cls = RX1 ∧ yX1_wasPlayed.cls ≠ "java/lang/invoke/MethodHandle" ∧ yX1_wasPlayed.cls ≠ "java/lang/invoke/VarHandle" ∧ (parseMethodDescriptor yX1_wasPlayed.desc).map (fun d => d.parameters.length) = some 1 := ⟨rfl, by decide, by decide, by decide +kernel⟩
set_option maxRecDepth 20000 in
theorem wc_X1_whoClaps : Cond.code yX1_whoClaps cX1_whoClaps 3 (some .int) ∈ tb := tb_mem 493 rfl (by decide +kernel)
theorem wi_X1_whoClaps : Cond.instanceMethod yX1_whoClaps ∈ tb := tb_mem 491 (by decide +kernel) (by decide +kernel)
theorem we_X1_whoClaps : Cond.selects RX1 yX1_whoClaps yX1_whoClaps ∈ tb := tb_mem 492 (by decide +kernel) (by decide +kernel)
theorem hyX1_whoClaps : yX1_whoClaps.cls = RX1 ∧ yX1_whoClaps.cls ≠ "java/lang/invoke/MethodHandle" ∧ yX1_whoClaps.cls ≠ "java/lang/invoke/VarHandle" ∧ (parseMethodDescriptor yX1_whoClaps.desc).map (fun d => d.parameters.length) = some 0 := ⟨rfl, by decide, by decide, by decide +kernel⟩
set_option maxRecDepth 20000 in
theorem wc_X1_zealOf : Cond.code yX1_zealOf cX1_zealOf 4 (some .int) ∈ tb := tb_mem 541 rfl (by decide +kernel)
theorem wi_X1_zealOf : Cond.instanceMethod yX1_zealOf ∈ tb := tb_mem 539 (by decide +kernel) (by decide +kernel)
theorem we_X1_zealOf : Cond.selects RX1 yX1_zealOf yX1_zealOf ∈ tb := tb_mem 540 (by decide +kernel) (by decide +kernel)
theorem hyX1_zealOf : yX1_zealOf.cls = RX1 ∧ yX1_zealOf.cls ≠ "java/lang/invoke/MethodHandle" ∧ yX1_zealOf.cls ≠ "java/lang/invoke/VarHandle" ∧ (parseMethodDescriptor yX1_zealOf.desc).map (fun d => d.parameters.length) = some 1 := ⟨rfl, by decide, by decide, by decide +kernel⟩
set_option maxRecDepth 20000 in
theorem wc_X1_noise : Cond.code yX1_noise cX1_noise 1 (some .int) ∈ tb := tb_mem 537 rfl (by decide +kernel)
theorem wi_X1_noise : Cond.instanceMethod yX1_noise ∈ tb := tb_mem 535 (by decide +kernel) (by decide +kernel)
theorem we_X1_noise : Cond.selects RX1 yX1_noise yX1_noise ∈ tb := tb_mem 536 (by decide +kernel) (by decide +kernel)
theorem hyX1_noise : yX1_noise.cls = RX1 ∧ yX1_noise.cls ≠ "java/lang/invoke/MethodHandle" ∧ yX1_noise.cls ≠ "java/lang/invoke/VarHandle" ∧ (parseMethodDescriptor yX1_noise.desc).map (fun d => d.parameters.length) = some 0 := ⟨rfl, by decide, by decide, by decide +kernel⟩
set_option maxRecDepth 20000 in
theorem wc_X1_lessByWait : Cond.code yX1_lessByWait cX1_lessByWait 4 (some .int) ∈ tb := tb_mem 498 rfl (by decide +kernel)
theorem wi_X1_lessByWait : Cond.instanceMethod yX1_lessByWait ∈ tb := tb_mem 496 (by decide +kernel) (by decide +kernel)
theorem we_X1_lessByWait : Cond.selects RX1 yX1_lessByWait yX1_lessByWait ∈ tb := tb_mem 497 (by decide +kernel) (by decide +kernel)
theorem hyX1_lessByWait : yX1_lessByWait.cls = RX1 ∧ yX1_lessByWait.cls ≠ "java/lang/invoke/MethodHandle" ∧ yX1_lessByWait.cls ≠ "java/lang/invoke/VarHandle" ∧ (parseMethodDescriptor yX1_lessByWait.desc).map (fun d => d.parameters.length) = some 2 := ⟨rfl, by decide, by decide, by decide +kernel⟩
set_option maxRecDepth 20000 in
theorem wc_X1_isPossible : Cond.code yX1_isPossible cX1_isPossible 2 (some .boolean) ∈ tb := tb_mem 527 rfl (by decide +kernel)
theorem wi_X1_isPossible : Cond.instanceMethod yX1_isPossible ∈ tb := tb_mem 525 (by decide +kernel) (by decide +kernel)
theorem we_X1_isPossible : Cond.selects RX1 yX1_isPossible yX1_isPossible ∈ tb := tb_mem 526 (by decide +kernel) (by decide +kernel)
theorem hyX1_isPossible : yX1_isPossible.cls = RX1 ∧ yX1_isPossible.cls ≠ "java/lang/invoke/MethodHandle" ∧ yX1_isPossible.cls ≠ "java/lang/invoke/VarHandle" ∧ (parseMethodDescriptor yX1_isPossible.desc).map (fun d => d.parameters.length) = some 1 := ⟨rfl, by decide, by decide, by decide +kernel⟩
set_option maxRecDepth 20000 in
theorem wc_X1_moreByBow : Cond.code yX1_moreByBow cX1_moreByBow 1 (some .int) ∈ tb := tb_mem 581 rfl (by decide +kernel)
theorem wi_X1_moreByBow : Cond.instanceMethod yX1_moreByBow ∈ tb := tb_mem 579 (by decide +kernel) (by decide +kernel)
theorem we_X1_moreByBow : Cond.selects RX1 yX1_moreByBow yX1_moreByBow ∈ tb := tb_mem 580 (by decide +kernel) (by decide +kernel)
theorem hyX1_moreByBow : yX1_moreByBow.cls = RX1 ∧ yX1_moreByBow.cls ≠ "java/lang/invoke/MethodHandle" ∧ yX1_moreByBow.cls ≠ "java/lang/invoke/VarHandle" ∧ (parseMethodDescriptor yX1_moreByBow.desc).map (fun d => d.parameters.length) = some 0 := ⟨rfl, by decide, by decide, by decide +kernel⟩
set_option maxRecDepth 20000 in
theorem wc_X1_take : Cond.code yX1_take cX1_take 2 none ∈ tb := tb_mem 563 rfl (by decide +kernel)
theorem wi_X1_take : Cond.instanceMethod yX1_take ∈ tb := tb_mem 561 (by decide +kernel) (by decide +kernel)
theorem we_X1_take : Cond.selects RX1 yX1_take yX1_take ∈ tb := tb_mem 562 (by decide +kernel) (by decide +kernel)
theorem hyX1_take : yX1_take.cls = RX1 ∧ yX1_take.cls ≠ "java/lang/invoke/MethodHandle" ∧ yX1_take.cls ≠ "java/lang/invoke/VarHandle" ∧ (parseMethodDescriptor yX1_take.desc).map (fun d => d.parameters.length) = some 1 := ⟨rfl, by decide, by decide, by decide +kernel⟩
set_option maxRecDepth 20000 in
theorem wc_X1_isReady : Cond.code yX1_isReady cX1_isReady 2 (some .boolean) ∈ tb := tb_mem 531 rfl (by decide +kernel)
theorem wi_X1_isReady : Cond.instanceMethod yX1_isReady ∈ tb := tb_mem 530 (by decide +kernel) (by decide +kernel)
theorem we_X1_isReady : Cond.selects RX1 yX1_isReady yX1_isReady ∈ tb := tb_mem 11 (by decide +kernel) (by decide +kernel)
theorem hyX1_isReady : yX1_isReady.cls = RX1 ∧ yX1_isReady.cls ≠ "java/lang/invoke/MethodHandle" ∧ yX1_isReady.cls ≠ "java/lang/invoke/VarHandle" ∧ (parseMethodDescriptor yX1_isReady.desc).map (fun d => d.parameters.length) = some 1 := ⟨rfl, by decide, by decide, by decide +kernel⟩
set_option maxRecDepth 20000 in
theorem wc_X1_waitOne : Cond.code yX1_waitOne cX1_waitOne 3 none ∈ tb := tb_mem 567 rfl (by decide +kernel)
theorem wi_X1_waitOne : Cond.instanceMethod yX1_waitOne ∈ tb := tb_mem 566 (by decide +kernel) (by decide +kernel)
theorem we_X1_waitOne : Cond.selects RX1 yX1_waitOne yX1_waitOne ∈ tb := tb_mem 12 (by decide +kernel) (by decide +kernel)
theorem hyX1_waitOne : yX1_waitOne.cls = RX1 ∧ yX1_waitOne.cls ≠ "java/lang/invoke/MethodHandle" ∧ yX1_waitOne.cls ≠ "java/lang/invoke/VarHandle" ∧ (parseMethodDescriptor yX1_waitOne.desc).map (fun d => d.parameters.length) = some 0 := ⟨rfl, by decide, by decide, by decide +kernel⟩
set_option maxRecDepth 20000 in
theorem wc_X1_bowOnce : Cond.code yX1_bowOnce cX1_bowOnce 3 none ∈ tb := tb_mem 577 rfl (by decide +kernel)
theorem wi_X1_bowOnce : Cond.instanceMethod yX1_bowOnce ∈ tb := tb_mem 576 (by decide +kernel) (by decide +kernel)
theorem we_X1_bowOnce : Cond.selects RX1 yX1_bowOnce yX1_bowOnce ∈ tb := tb_mem 14 (by decide +kernel) (by decide +kernel)
theorem hyX1_bowOnce : yX1_bowOnce.cls = RX1 ∧ yX1_bowOnce.cls ≠ "java/lang/invoke/MethodHandle" ∧ yX1_bowOnce.cls ≠ "java/lang/invoke/VarHandle" ∧ (parseMethodDescriptor yX1_bowOnce.desc).map (fun d => d.parameters.length) = some 0 := ⟨rfl, by decide, by decide, by decide +kernel⟩
set_option maxRecDepth 20000 in
theorem wc_X1_play : Cond.code yX1_play cX1_play 4 none ∈ tb := tb_mem 588 rfl (by decide +kernel)
theorem wi_X1_play : Cond.instanceMethod yX1_play ∈ tb := tb_mem 587 (by decide +kernel) (by decide +kernel)
theorem we_X1_play : Cond.selects RX1 yX1_play yX1_play ∈ tb := tb_mem 15 (by decide +kernel) (by decide +kernel)
theorem hyX1_play : yX1_play.cls = RX1 ∧ yX1_play.cls ≠ "java/lang/invoke/MethodHandle" ∧ yX1_play.cls ≠ "java/lang/invoke/VarHandle" ∧ (parseMethodDescriptor yX1_play.desc).map (fun d => d.parameters.length) = some 1 := ⟨rfl, by decide, by decide, by decide +kernel⟩
set_option maxRecDepth 20000 in
theorem wc_X1_letPass : Cond.code yX1_letPass cX1_letPass 3 none ∈ tb := tb_mem 573 rfl (by decide +kernel)
theorem wi_X1_letPass : Cond.instanceMethod yX1_letPass ∈ tb := tb_mem 572 (by decide +kernel) (by decide +kernel)
theorem we_X1_letPass : Cond.selects RX1 yX1_letPass yX1_letPass ∈ tb := tb_mem 13 (by decide +kernel) (by decide +kernel)
theorem hyX1_letPass : yX1_letPass.cls = RX1 ∧ yX1_letPass.cls ≠ "java/lang/invoke/MethodHandle" ∧ yX1_letPass.cls ≠ "java/lang/invoke/VarHandle" ∧ (parseMethodDescriptor yX1_letPass.desc).map (fun d => d.parameters.length) = some 1 := ⟨rfl, by decide, by decide, by decide +kernel⟩
set_option maxRecDepth 20000 in
theorem wc_X1_whoIsBeside : Cond.code yX1_whoIsBeside cX1_whoIsBeside 4 (some .int) ∈ tb := tb_mem 502 rfl (by decide +kernel)
theorem wi_X1_whoIsBeside : Cond.instanceMethod yX1_whoIsBeside ∈ tb := tb_mem 501 (by decide +kernel) (by decide +kernel)
theorem we_X1_whoIsBeside : Cond.selects RX1 yX1_whoIsBeside yX1_whoIsBeside ∈ tb := tb_mem 9 (by decide +kernel) (by decide +kernel)
theorem hyX1_whoIsBeside : yX1_whoIsBeside.cls = RX1 ∧ yX1_whoIsBeside.cls ≠ "java/lang/invoke/MethodHandle" ∧ yX1_whoIsBeside.cls ≠ "java/lang/invoke/VarHandle" ∧ (parseMethodDescriptor yX1_whoIsBeside.desc).map (fun d => d.parameters.length) = some 1 := ⟨rfl, by decide, by decide, by decide +kernel⟩
set_option maxRecDepth 20000 in
theorem wc_X2_init : Cond.code yX2_init cX2_init 3 none ∈ tb := tb_mem 271 rfl (by decide +kernel)
theorem wi_X2_init : Cond.instanceMethod yX2_init ∈ tb := tb_mem 270 (by decide +kernel) (by decide +kernel)
theorem hyX2_init : yX2_init.cls = RX2 ∧ yX2_init.cls ≠ "java/lang/invoke/MethodHandle" ∧ yX2_init.cls ≠ "java/lang/invoke/VarHandle" ∧ (parseMethodDescriptor yX2_init.desc).map (fun d => d.parameters.length) = some 1 := ⟨rfl, by decide, by decide, by decide +kernel⟩
set_option maxRecDepth 20000 in
theorem wc_X2_remember : Cond.code yX2_remember cX2_remember 2 none ∈ tb := tb_mem 554 rfl (by decide +kernel)
theorem wi_X2_remember : Cond.instanceMethod yX2_remember ∈ tb := tb_mem 552 (by decide +kernel) (by decide +kernel)
theorem we_X2_remember : Cond.selects RX2 yX2_remember yX2_remember ∈ tb := tb_mem 553 (by decide +kernel) (by decide +kernel)
theorem hyX2_remember : yX2_remember.cls = RX2 ∧ yX2_remember.cls ≠ "java/lang/invoke/MethodHandle" ∧ yX2_remember.cls ≠ "java/lang/invoke/VarHandle" ∧ (parseMethodDescriptor yX2_remember.desc).map (fun d => d.parameters.length) = some 1 := ⟨rfl, by decide, by decide, by decide +kernel⟩
set_option maxRecDepth 20000 in
theorem wc_X2_recall : Cond.code yX2_recall cX2_recall 2 (some .boolean) ∈ tb := tb_mem 605 rfl (by decide +kernel)
theorem wi_X2_recall : Cond.instanceMethod yX2_recall ∈ tb := tb_mem 603 (by decide +kernel) (by decide +kernel)
theorem we_X2_recall : Cond.selects RX2 yX2_recall yX2_recall ∈ tb := tb_mem 604 (by decide +kernel) (by decide +kernel)
theorem hyX2_recall : yX2_recall.cls = RX2 ∧ yX2_recall.cls ≠ "java/lang/invoke/MethodHandle" ∧ yX2_recall.cls ≠ "java/lang/invoke/VarHandle" ∧ (parseMethodDescriptor yX2_recall.desc).map (fun d => d.parameters.length) = some 1 := ⟨rfl, by decide, by decide, by decide +kernel⟩
set_option maxRecDepth 20000 in
theorem wc_X3_init : Cond.code yX3_init cX3_init 3 none ∈ tb := tb_mem 243 rfl (by decide +kernel)
theorem wi_X3_init : Cond.instanceMethod yX3_init ∈ tb := tb_mem 242 (by decide +kernel) (by decide +kernel)
theorem hyX3_init : yX3_init.cls = RX3 ∧ yX3_init.cls ≠ "java/lang/invoke/MethodHandle" ∧ yX3_init.cls ≠ "java/lang/invoke/VarHandle" ∧ (parseMethodDescriptor yX3_init.desc).map (fun d => d.parameters.length) = some 1 := ⟨rfl, by decide, by decide, by decide +kernel⟩
set_option maxRecDepth 20000 in
theorem wc_X3_lookFrom : Cond.code yX3_lookFrom cX3_lookFrom 3 none ∈ tb := tb_mem 638 rfl (by decide +kernel)
theorem wi_X3_lookFrom : Cond.instanceMethod yX3_lookFrom ∈ tb := tb_mem 636 (by decide +kernel) (by decide +kernel)
theorem we_X3_lookFrom : Cond.selects RX3 yX3_lookFrom yX3_lookFrom ∈ tb := tb_mem 637 (by decide +kernel) (by decide +kernel)
theorem hyX3_lookFrom : yX3_lookFrom.cls = RX3 ∧ yX3_lookFrom.cls ≠ "java/lang/invoke/MethodHandle" ∧ yX3_lookFrom.cls ≠ "java/lang/invoke/VarHandle" ∧ (parseMethodDescriptor yX3_lookFrom.desc).map (fun d => d.parameters.length) = some 2 := ⟨rfl, by decide, by decide, by decide +kernel⟩
set_option maxRecDepth 20000 in
theorem wc_X3_lookDeeper : Cond.code yX3_lookDeeper cX3_lookDeeper 3 none ∈ tb := tb_mem 643 rfl (by decide +kernel)
theorem wi_X3_lookDeeper : Cond.instanceMethod yX3_lookDeeper ∈ tb := tb_mem 642 (by decide +kernel) (by decide +kernel)
theorem we_X3_lookDeeper : Cond.selects RX3 yX3_lookDeeper yX3_lookDeeper ∈ tb := tb_mem 17 (by decide +kernel) (by decide +kernel)
theorem hyX3_lookDeeper : yX3_lookDeeper.cls = RX3 ∧ yX3_lookDeeper.cls ≠ "java/lang/invoke/MethodHandle" ∧ yX3_lookDeeper.cls ≠ "java/lang/invoke/VarHandle" ∧ (parseMethodDescriptor yX3_lookDeeper.desc).map (fun d => d.parameters.length) = some 1 := ⟨rfl, by decide, by decide, by decide +kernel⟩
set_option maxRecDepth 20000 in
theorem wc_X3_lookBehind : Cond.code yX3_lookBehind cX3_lookBehind 3 none ∈ tb := tb_mem 653 rfl (by decide +kernel)
theorem wi_X3_lookBehind : Cond.instanceMethod yX3_lookBehind ∈ tb := tb_mem 652 (by decide +kernel) (by decide +kernel)
theorem we_X3_lookBehind : Cond.selects RX3 yX3_lookBehind yX3_lookBehind ∈ tb := tb_mem 19 (by decide +kernel) (by decide +kernel)
theorem hyX3_lookBehind : yX3_lookBehind.cls = RX3 ∧ yX3_lookBehind.cls ≠ "java/lang/invoke/MethodHandle" ∧ yX3_lookBehind.cls ≠ "java/lang/invoke/VarHandle" ∧ (parseMethodDescriptor yX3_lookBehind.desc).map (fun d => d.parameters.length) = some 2 := ⟨rfl, by decide, by decide, by decide +kernel⟩
set_option maxRecDepth 20000 in
theorem wc_X3_isWorthATry : Cond.code yX3_isWorthATry cX3_isWorthATry 3 (some .boolean) ∈ tb := tb_mem 647 rfl (by decide +kernel)
theorem wi_X3_isWorthATry : Cond.instanceMethod yX3_isWorthATry ∈ tb := tb_mem 646 (by decide +kernel) (by decide +kernel)
theorem we_X3_isWorthATry : Cond.selects RX3 yX3_isWorthATry yX3_isWorthATry ∈ tb := tb_mem 18 (by decide +kernel) (by decide +kernel)
theorem hyX3_isWorthATry : yX3_isWorthATry.cls = RX3 ∧ yX3_isWorthATry.cls ≠ "java/lang/invoke/MethodHandle" ∧ yX3_isWorthATry.cls ≠ "java/lang/invoke/VarHandle" ∧ (parseMethodDescriptor yX3_isWorthATry.desc).map (fun d => d.parameters.length) = some 2 := ⟨rfl, by decide, by decide, by decide +kernel⟩
set_option maxRecDepth 20000 in
theorem wc_X3_compare : Cond.code yX3_compare cX3_compare 4 none ∈ tb := tb_mem 658 rfl (by decide +kernel)
theorem wi_X3_compare : Cond.instanceMethod yX3_compare ∈ tb := tb_mem 657 (by decide +kernel) (by decide +kernel)
theorem we_X3_compare : Cond.selects RX3 yX3_compare yX3_compare ∈ tb := tb_mem 20 (by decide +kernel) (by decide +kernel)
theorem hyX3_compare : yX3_compare.cls = RX3 ∧ yX3_compare.cls ≠ "java/lang/invoke/MethodHandle" ∧ yX3_compare.cls ≠ "java/lang/invoke/VarHandle" ∧ (parseMethodDescriptor yX3_compare.desc).map (fun d => d.parameters.length) = some 1 := ⟨rfl, by decide, by decide, by decide +kernel⟩
set_option maxRecDepth 20000 in
theorem wc_X4_init : Cond.code yX4_init cX4_init 1 none ∈ tb := tb_mem 148 rfl (by decide +kernel)
theorem wi_X4_init : Cond.instanceMethod yX4_init ∈ tb := tb_mem 147 (by decide +kernel) (by decide +kernel)
theorem hyX4_init : yX4_init.cls = RX4 ∧ yX4_init.cls ≠ "java/lang/invoke/MethodHandle" ∧ yX4_init.cls ≠ "java/lang/invoke/VarHandle" ∧ (parseMethodDescriptor yX4_init.desc).map (fun d => d.parameters.length) = some 0 := ⟨rfl, by decide, by decide, by decide +kernel⟩
set_option maxRecDepth 20000 in
theorem wc_X4_append : Cond.code yX4_append cX4_append 2 (some .boolean) ∈ tb := tb_mem 332 rfl (by decide +kernel)
theorem wi_X4_append : Cond.instanceMethod yX4_append ∈ tb := tb_mem 330 (by decide +kernel) (by decide +kernel)
theorem we_X4_append : Cond.selects RX4 yX4_append yX4_append ∈ tb := tb_mem 331 (by decide +kernel) (by decide +kernel)
theorem hyX4_append : yX4_append.cls = RX4 ∧ yX4_append.cls ≠ "java/lang/invoke/MethodHandle" ∧ yX4_append.cls ≠ "java/lang/invoke/VarHandle" ∧ (parseMethodDescriptor yX4_append.desc).map (fun d => d.parameters.length) = some 1 := ⟨rfl, by decide, by decide, by decide +kernel⟩
set_option maxRecDepth 20000 in
theorem wc_X4_findFault : Cond.code yX4_findFault cX4_findFault 2 (some .int) ∈ tb := tb_mem 344 rfl (by decide +kernel)
theorem wi_X4_findFault : Cond.instanceMethod yX4_findFault ∈ tb := tb_mem 342 (by decide +kernel) (by decide +kernel)
theorem we_X4_findFault : Cond.selects RX4 yX4_findFault yX4_findFault ∈ tb := tb_mem 343 (by decide +kernel) (by decide +kernel)
theorem hyX4_findFault : yX4_findFault.cls = RX4 ∧ yX4_findFault.cls ≠ "java/lang/invoke/MethodHandle" ∧ yX4_findFault.cls ≠ "java/lang/invoke/VarHandle" ∧ (parseMethodDescriptor yX4_findFault.desc).map (fun d => d.parameters.length) = some 1 := ⟨rfl, by decide, by decide, by decide +kernel⟩
set_option maxRecDepth 20000 in
theorem wc_X4_readClause : Cond.code yX4_readClause cX4_readClause 5 (some .boolean) ∈ tb := tb_mem 353 rfl (by decide +kernel)
theorem wi_X4_readClause : Cond.instanceMethod yX4_readClause ∈ tb := tb_mem 352 (by decide +kernel) (by decide +kernel)
theorem we_X4_readClause : Cond.selects RX4 yX4_readClause yX4_readClause ∈ tb := tb_mem 0 (by decide +kernel) (by decide +kernel)
theorem hyX4_readClause : yX4_readClause.cls = RX4 ∧ yX4_readClause.cls ≠ "java/lang/invoke/MethodHandle" ∧ yX4_readClause.cls ≠ "java/lang/invoke/VarHandle" ∧ (parseMethodDescriptor yX4_readClause.desc).map (fun d => d.parameters.length) = some 0 := ⟨rfl, by decide, by decide, by decide +kernel⟩
set_option maxRecDepth 20000 in
theorem wc_X4_readNumber : Cond.code yX4_readNumber cX4_readNumber 7 (some .boolean) ∈ tb := tb_mem 431 rfl (by decide +kernel)
theorem wi_X4_readNumber : Cond.instanceMethod yX4_readNumber ∈ tb := tb_mem 430 (by decide +kernel) (by decide +kernel)
theorem we_X4_readNumber : Cond.selects RX4 yX4_readNumber yX4_readNumber ∈ tb := tb_mem 5 (by decide +kernel) (by decide +kernel)
theorem hyX4_readNumber : yX4_readNumber.cls = RX4 ∧ yX4_readNumber.cls ≠ "java/lang/invoke/MethodHandle" ∧ yX4_readNumber.cls ≠ "java/lang/invoke/VarHandle" ∧ (parseMethodDescriptor yX4_readNumber.desc).map (fun d => d.parameters.length) = some 3 := ⟨rfl, by decide, by decide, by decide +kernel⟩
set_option maxRecDepth 20000 in
theorem wc_X4_skipBlanks : Cond.code yX4_skipBlanks cX4_skipBlanks 1 none ∈ tb := tb_mem 357 rfl (by decide +kernel)
theorem wi_X4_skipBlanks : Cond.instanceMethod yX4_skipBlanks ∈ tb := tb_mem 356 (by decide +kernel) (by decide +kernel)
theorem we_X4_skipBlanks : Cond.selects RX4 yX4_skipBlanks yX4_skipBlanks ∈ tb := tb_mem 1 (by decide +kernel) (by decide +kernel)
theorem hyX4_skipBlanks : yX4_skipBlanks.cls = RX4 ∧ yX4_skipBlanks.cls ≠ "java/lang/invoke/MethodHandle" ∧ yX4_skipBlanks.cls ≠ "java/lang/invoke/VarHandle" ∧ (parseMethodDescriptor yX4_skipBlanks.desc).map (fun d => d.parameters.length) = some 0 := ⟨rfl, by decide, by decide, by decide +kernel⟩
set_option maxRecDepth 20000 in
theorem wc_X4_endOfRow : Cond.code yX4_endOfRow cX4_endOfRow 4 (some .int) ∈ tb := tb_mem 361 rfl (by decide +kernel)
theorem wi_X4_endOfRow : Cond.instanceMethod yX4_endOfRow ∈ tb := tb_mem 360 (by decide +kernel) (by decide +kernel)
theorem we_X4_endOfRow : Cond.selects RX4 yX4_endOfRow yX4_endOfRow ∈ tb := tb_mem 2 (by decide +kernel) (by decide +kernel)
theorem hyX4_endOfRow : yX4_endOfRow.cls = RX4 ∧ yX4_endOfRow.cls ≠ "java/lang/invoke/MethodHandle" ∧ yX4_endOfRow.cls ≠ "java/lang/invoke/VarHandle" ∧ (parseMethodDescriptor yX4_endOfRow.desc).map (fun d => d.parameters.length) = some 2 := ⟨rfl, by decide, by decide, by decide +kernel⟩
set_option maxRecDepth 20000 in
theorem wc_X4_clauseUpTo : Cond.code yX4_clauseUpTo cX4_clauseUpTo 3 (some (.object "WhichEncore$Clause")) ∈ tb := tb_mem 365 rfl (by decide +kernel)
theorem wi_X4_clauseUpTo : Cond.instanceMethod yX4_clauseUpTo ∈ tb := tb_mem 364 (by decide +kernel) (by decide +kernel)
theorem we_X4_clauseUpTo : Cond.selects RX4 yX4_clauseUpTo yX4_clauseUpTo ∈ tb := tb_mem 3 (by decide +kernel) (by decide +kernel)
theorem hyX4_clauseUpTo : yX4_clauseUpTo.cls = RX4 ∧ yX4_clauseUpTo.cls ≠ "java/lang/invoke/MethodHandle" ∧ yX4_clauseUpTo.cls ≠ "java/lang/invoke/VarHandle" ∧ (parseMethodDescriptor yX4_clauseUpTo.desc).map (fun d => d.parameters.length) = some 1 := ⟨rfl, by decide, by decide, by decide +kernel⟩
set_option maxRecDepth 20000 in
theorem wc_X4_isWordUpTo : Cond.code yX4_isWordUpTo cX4_isWordUpTo 4 (some .boolean) ∈ tb := tb_mem 369 rfl (by decide +kernel)
theorem wi_X4_isWordUpTo : Cond.instanceMethod yX4_isWordUpTo ∈ tb := tb_mem 368 (by decide +kernel) (by decide +kernel)
theorem we_X4_isWordUpTo : Cond.selects RX4 yX4_isWordUpTo yX4_isWordUpTo ∈ tb := tb_mem 4 (by decide +kernel) (by decide +kernel)
theorem hyX4_isWordUpTo : yX4_isWordUpTo.cls = RX4 ∧ yX4_isWordUpTo.cls ≠ "java/lang/invoke/MethodHandle" ∧ yX4_isWordUpTo.cls ≠ "java/lang/invoke/VarHandle" ∧ (parseMethodDescriptor yX4_isWordUpTo.desc).map (fun d => d.parameters.length) = some 2 := ⟨rfl, by decide, by decide, by decide +kernel⟩
set_option maxRecDepth 20000 in
theorem wc_X5_init : Cond.code yX5_init cX5_init 1 none ∈ tb := tb_mem 80 rfl (by decide +kernel)
theorem wi_X5_init : Cond.instanceMethod yX5_init ∈ tb := tb_mem 79 (by decide +kernel) (by decide +kernel)
theorem hyX5_init : yX5_init.cls = RX5 ∧ yX5_init.cls ≠ "java/lang/invoke/MethodHandle" ∧ yX5_init.cls ≠ "java/lang/invoke/VarHandle" ∧ (parseMethodDescriptor yX5_init.desc).map (fun d => d.parameters.length) = some 0 := ⟨rfl, by decide, by decide, by decide +kernel⟩
set_option maxRecDepth 20000 in
theorem wc_X5_beAsAtFirst : Cond.code yX5_beAsAtFirst cX5_beAsAtFirst 1 none ∈ tb := tb_mem 85 rfl (by decide +kernel)
theorem wi_X5_beAsAtFirst : Cond.instanceMethod yX5_beAsAtFirst ∈ tb := tb_mem 83 (by decide +kernel) (by decide +kernel)
theorem we_X5_beAsAtFirst : Cond.selects RX5 yX5_beAsAtFirst yX5_beAsAtFirst ∈ tb := tb_mem 84 (by decide +kernel) (by decide +kernel)
theorem hyX5_beAsAtFirst : yX5_beAsAtFirst.cls = RX5 ∧ yX5_beAsAtFirst.cls ≠ "java/lang/invoke/MethodHandle" ∧ yX5_beAsAtFirst.cls ≠ "java/lang/invoke/VarHandle" ∧ (parseMethodDescriptor yX5_beAsAtFirst.desc).map (fun d => d.parameters.length) = some 0 := ⟨rfl, by decide, by decide, by decide +kernel⟩
set_option maxRecDepth 20000 in
theorem wc_X5_copyFrom : Cond.code yX5_copyFrom cX5_copyFrom 2 none ∈ tb := tb_mem 348 rfl (by decide +kernel)
theorem wi_X5_copyFrom : Cond.instanceMethod yX5_copyFrom ∈ tb := tb_mem 346 (by decide +kernel) (by decide +kernel)
theorem we_X5_copyFrom : Cond.selects RX5 yX5_copyFrom yX5_copyFrom ∈ tb := tb_mem 347 (by decide +kernel) (by decide +kernel)
theorem hyX5_copyFrom : yX5_copyFrom.cls = RX5 ∧ yX5_copyFrom.cls ≠ "java/lang/invoke/MethodHandle" ∧ yX5_copyFrom.cls ≠ "java/lang/invoke/VarHandle" ∧ (parseMethodDescriptor yX5_copyFrom.desc).map (fun d => d.parameters.length) = some 1 := ⟨rfl, by decide, by decide, by decide +kernel⟩
set_option maxRecDepth 20000 in
theorem wc_X5_hasClapper : Cond.code yX5_hasClapper cX5_hasClapper 2 (some .boolean) ∈ tb := tb_mem 460 rfl (by decide +kernel)
theorem wi_X5_hasClapper : Cond.instanceMethod yX5_hasClapper ∈ tb := tb_mem 458 (by decide +kernel) (by decide +kernel)
theorem we_X5_hasClapper : Cond.selects RX5 yX5_hasClapper yX5_hasClapper ∈ tb := tb_mem 459 (by decide +kernel) (by decide +kernel)
theorem hyX5_hasClapper : yX5_hasClapper.cls = RX5 ∧ yX5_hasClapper.cls ≠ "java/lang/invoke/MethodHandle" ∧ yX5_hasClapper.cls ≠ "java/lang/invoke/VarHandle" ∧ (parseMethodDescriptor yX5_hasClapper.desc).map (fun d => d.parameters.length) = some 1 := ⟨rfl, by decide, by decide, by decide +kernel⟩
set_option maxRecDepth 20000 in
theorem wc_X5_hasEncore : Cond.code yX5_hasEncore cX5_hasEncore 2 (some .boolean) ∈ tb := tb_mem 476 rfl (by decide +kernel)
theorem wi_X5_hasEncore : Cond.instanceMethod yX5_hasEncore ∈ tb := tb_mem 474 (by decide +kernel) (by decide +kernel)
theorem we_X5_hasEncore : Cond.selects RX5 yX5_hasEncore yX5_hasEncore ∈ tb := tb_mem 475 (by decide +kernel) (by decide +kernel)
theorem hyX5_hasEncore : yX5_hasEncore.cls = RX5 ∧ yX5_hasEncore.cls ≠ "java/lang/invoke/MethodHandle" ∧ yX5_hasEncore.cls ≠ "java/lang/invoke/VarHandle" ∧ (parseMethodDescriptor yX5_hasEncore.desc).map (fun d => d.parameters.length) = some 1 := ⟨rfl, by decide, by decide, by decide +kernel⟩
set_option maxRecDepth 20000 in
theorem wc_X5_minutesOf : Cond.code yX5_minutesOf cX5_minutesOf 2 (some .int) ∈ tb := tb_mem 549 rfl (by decide +kernel)
theorem wi_X5_minutesOf : Cond.instanceMethod yX5_minutesOf ∈ tb := tb_mem 547 (by decide +kernel) (by decide +kernel)
theorem we_X5_minutesOf : Cond.selects RX5 yX5_minutesOf yX5_minutesOf ∈ tb := tb_mem 548 (by decide +kernel) (by decide +kernel)
theorem hyX5_minutesOf : yX5_minutesOf.cls = RX5 ∧ yX5_minutesOf.cls ≠ "java/lang/invoke/MethodHandle" ∧ yX5_minutesOf.cls ≠ "java/lang/invoke/VarHandle" ∧ (parseMethodDescriptor yX5_minutesOf.desc).map (fun d => d.parameters.length) = some 1 := ⟨rfl, by decide, by decide, by decide +kernel⟩
set_option maxRecDepth 20000 in
theorem wc_X5_sumOver : Cond.code yX5_sumOver cX5_sumOver 5 (some .int) ∈ tb := tb_mem 699 rfl (by decide +kernel)
theorem wi_X5_sumOver : Cond.instanceMethod yX5_sumOver ∈ tb := tb_mem 697 (by decide +kernel) (by decide +kernel)
theorem we_X5_sumOver : Cond.selects RX5 yX5_sumOver yX5_sumOver ∈ tb := tb_mem 698 (by decide +kernel) (by decide +kernel)
theorem hyX5_sumOver : yX5_sumOver.cls = RX5 ∧ yX5_sumOver.cls ≠ "java/lang/invoke/MethodHandle" ∧ yX5_sumOver.cls ≠ "java/lang/invoke/VarHandle" ∧ (parseMethodDescriptor yX5_sumOver.desc).map (fun d => d.parameters.length) = some 2 := ⟨rfl, by decide, by decide, by decide +kernel⟩
set_option maxRecDepth 20000 in
theorem wc_X5_hasRoomFor : Cond.code yX5_hasRoomFor cX5_hasRoomFor 2 (some .boolean) ∈ tb := tb_mem 421 rfl (by decide +kernel)
theorem wi_X5_hasRoomFor : Cond.instanceMethod yX5_hasRoomFor ∈ tb := tb_mem 419 (by decide +kernel) (by decide +kernel)
theorem we_X5_hasRoomFor : Cond.selects RX5 yX5_hasRoomFor yX5_hasRoomFor ∈ tb := tb_mem 420 (by decide +kernel) (by decide +kernel)
theorem hyX5_hasRoomFor : yX5_hasRoomFor.cls = RX5 ∧ yX5_hasRoomFor.cls ≠ "java/lang/invoke/MethodHandle" ∧ yX5_hasRoomFor.cls ≠ "java/lang/invoke/VarHandle" ∧ (parseMethodDescriptor yX5_hasRoomFor.desc).map (fun d => d.parameters.length) = some 1 := ⟨rfl, by decide, by decide, by decide +kernel⟩
set_option maxRecDepth 20000 in
theorem wc_X5_carryOut : Cond.code yX5_carryOut cX5_carryOut 4 none ∈ tb := tb_mem 435 rfl (by decide +kernel)
theorem wi_X5_carryOut : Cond.instanceMethod yX5_carryOut ∈ tb := tb_mem 433 (by decide +kernel) (by decide +kernel)
theorem we_X5_carryOut : Cond.selects RX5 yX5_carryOut yX5_carryOut ∈ tb := tb_mem 434 (by decide +kernel) (by decide +kernel)
theorem hyX5_carryOut : yX5_carryOut.cls = RX5 ∧ yX5_carryOut.cls ≠ "java/lang/invoke/MethodHandle" ∧ yX5_carryOut.cls ≠ "java/lang/invoke/VarHandle" ∧ (parseMethodDescriptor yX5_carryOut.desc).map (fun d => d.parameters.length) = some 3 := ⟨rfl, by decide, by decide, by decide +kernel⟩
set_option maxRecDepth 20000 in
theorem wc_X5_addClapper : Cond.code yX5_addClapper cX5_addClapper 3 none ∈ tb := tb_mem 439 rfl (by decide +kernel)
theorem wi_X5_addClapper : Cond.instanceMethod yX5_addClapper ∈ tb := tb_mem 438 (by decide +kernel) (by decide +kernel)
theorem we_X5_addClapper : Cond.selects RX5 yX5_addClapper yX5_addClapper ∈ tb := tb_mem 6 (by decide +kernel) (by decide +kernel)
theorem hyX5_addClapper : yX5_addClapper.cls = RX5 ∧ yX5_addClapper.cls ≠ "java/lang/invoke/MethodHandle" ∧ yX5_addClapper.cls ≠ "java/lang/invoke/VarHandle" ∧ (parseMethodDescriptor yX5_addClapper.desc).map (fun d => d.parameters.length) = some 2 := ⟨rfl, by decide, by decide, by decide +kernel⟩
set_option maxRecDepth 20000 in
theorem wc_X5_addEncore : Cond.code yX5_addEncore cX5_addEncore 3 none ∈ tb := tb_mem 443 rfl (by decide +kernel)
theorem wi_X5_addEncore : Cond.instanceMethod yX5_addEncore ∈ tb := tb_mem 442 (by decide +kernel) (by decide +kernel)
theorem we_X5_addEncore : Cond.selects RX5 yX5_addEncore yX5_addEncore ∈ tb := tb_mem 7 (by decide +kernel) (by decide +kernel)
theorem hyX5_addEncore : yX5_addEncore.cls = RX5 ∧ yX5_addEncore.cls ≠ "java/lang/invoke/MethodHandle" ∧ yX5_addEncore.cls ≠ "java/lang/invoke/VarHandle" ∧ (parseMethodDescriptor yX5_addEncore.desc).map (fun d => d.parameters.length) = some 2 := ⟨rfl, by decide, by decide, by decide +kernel⟩
set_option maxRecDepth 20000 in
theorem wc_X6_init : Cond.code yX6_init cX6_init 2 none ∈ tb := tb_mem 72 rfl (by decide +kernel)
theorem wi_X6_init : Cond.instanceMethod yX6_init ∈ tb := tb_mem 71 (by decide +kernel) (by decide +kernel)
theorem hyX6_init : yX6_init.cls = RX6 ∧ yX6_init.cls ≠ "java/lang/invoke/MethodHandle" ∧ yX6_init.cls ≠ "java/lang/invoke/VarHandle" ∧ (parseMethodDescriptor yX6_init.desc).map (fun d => d.parameters.length) = some 0 := ⟨rfl, by decide, by decide, by decide +kernel⟩
set_option maxRecDepth 20000 in
theorem wc_X6_write : Cond.code yX6_write cX6_write 2 (some .int) ∈ tb := tb_mem 328 rfl (by decide +kernel)
theorem wi_X6_write : Cond.instanceMethod yX6_write ∈ tb := tb_mem 326 (by decide +kernel) (by decide +kernel)
theorem we_X6_write : Cond.selects RX6 yX6_write yX6_write ∈ tb := tb_mem 327 (by decide +kernel) (by decide +kernel)
theorem hyX6_write : yX6_write.cls = RX6 ∧ yX6_write.cls ≠ "java/lang/invoke/MethodHandle" ∧ yX6_write.cls ≠ "java/lang/invoke/VarHandle" ∧ (parseMethodDescriptor yX6_write.desc).map (fun d => d.parameters.length) = some 1 := ⟨rfl, by decide, by decide, by decide +kernel⟩
set_option maxRecDepth 20000 in
theorem wc_X6_erase : Cond.code yX6_erase cX6_erase 2 (some .int) ∈ tb := tb_mem 336 rfl (by decide +kernel)
theorem wi_X6_erase : Cond.instanceMethod yX6_erase ∈ tb := tb_mem 334 (by decide +kernel) (by decide +kernel)
theorem we_X6_erase : Cond.selects RX6 yX6_erase yX6_erase ∈ tb := tb_mem 335 (by decide +kernel) (by decide +kernel)
theorem hyX6_erase : yX6_erase.cls = RX6 ∧ yX6_erase.cls ≠ "java/lang/invoke/MethodHandle" ∧ yX6_erase.cls ≠ "java/lang/invoke/VarHandle" ∧ (parseMethodDescriptor yX6_erase.desc).map (fun d => d.parameters.length) = some 0 := ⟨rfl, by decide, by decide, by decide +kernel⟩
set_option maxRecDepth 20000 in
theorem wc_X6_fault : Cond.code yX6_fault cX6_fault 1 (some .int) ∈ tb := tb_mem 340 rfl (by decide +kernel)
theorem wi_X6_fault : Cond.instanceMethod yX6_fault ∈ tb := tb_mem 338 (by decide +kernel) (by decide +kernel)
theorem we_X6_fault : Cond.selects RX6 yX6_fault yX6_fault ∈ tb := tb_mem 339 (by decide +kernel) (by decide +kernel)
theorem hyX6_fault : yX6_fault.cls = RX6 ∧ yX6_fault.cls ≠ "java/lang/invoke/MethodHandle" ∧ yX6_fault.cls ≠ "java/lang/invoke/VarHandle" ∧ (parseMethodDescriptor yX6_fault.desc).map (fun d => d.parameters.length) = some 0 := ⟨rfl, by decide, by decide, by decide +kernel⟩
set_option maxRecDepth 20000 in
theorem wc_X6_hall : Cond.code yX6_hall cX6_hall 1 (some .int) ∈ tb := tb_mem 447 rfl (by decide +kernel)
theorem wi_X6_hall : Cond.instanceMethod yX6_hall ∈ tb := tb_mem 445 (by decide +kernel) (by decide +kernel)
theorem we_X6_hall : Cond.selects RX6 yX6_hall yX6_hall ∈ tb := tb_mem 446 (by decide +kernel) (by decide +kernel)
theorem hyX6_hall : yX6_hall.cls = RX6 ∧ yX6_hall.cls ≠ "java/lang/invoke/MethodHandle" ∧ yX6_hall.cls ≠ "java/lang/invoke/VarHandle" ∧ (parseMethodDescriptor yX6_hall.desc).map (fun d => d.parameters.length) = some 0 := ⟨rfl, by decide, by decide, by decide +kernel⟩
set_option maxRecDepth 20000 in
theorem wc_X6_clapper : Cond.code yX6_clapper cX6_clapper 3 (some .int) ∈ tb := tb_mem 456 rfl (by decide +kernel)
theorem wi_X6_clapper : Cond.instanceMethod yX6_clapper ∈ tb := tb_mem 454 (by decide +kernel) (by decide +kernel)
theorem we_X6_clapper : Cond.selects RX6 yX6_clapper yX6_clapper ∈ tb := tb_mem 455 (by decide +kernel) (by decide +kernel)
theorem hyX6_clapper : yX6_clapper.cls = RX6 ∧ yX6_clapper.cls ≠ "java/lang/invoke/MethodHandle" ∧ yX6_clapper.cls ≠ "java/lang/invoke/VarHandle" ∧ (parseMethodDescriptor yX6_clapper.desc).map (fun d => d.parameters.length) = some 2 := ⟨rfl, by decide, by decide, by decide +kernel⟩
set_option maxRecDepth 20000 in
theorem wc_X6_encore : Cond.code yX6_encore cX6_encore 3 (some .int) ∈ tb := tb_mem 472 rfl (by decide +kernel)
theorem wi_X6_encore : Cond.instanceMethod yX6_encore ∈ tb := tb_mem 470 (by decide +kernel) (by decide +kernel)
theorem we_X6_encore : Cond.selects RX6 yX6_encore yX6_encore ∈ tb := tb_mem 471 (by decide +kernel) (by decide +kernel)
theorem hyX6_encore : yX6_encore.cls = RX6 ∧ yX6_encore.cls ≠ "java/lang/invoke/MethodHandle" ∧ yX6_encore.cls ≠ "java/lang/invoke/VarHandle" ∧ (parseMethodDescriptor yX6_encore.desc).map (fun d => d.parameters.length) = some 2 := ⟨rfl, by decide, by decide, by decide +kernel⟩
set_option maxRecDepth 20000 in
theorem wc_X6_as : Cond.code yX6_as cX6_as 3 (some .int) ∈ tb := tb_mem 484 rfl (by decide +kernel)
theorem wi_X6_as : Cond.instanceMethod yX6_as ∈ tb := tb_mem 482 (by decide +kernel) (by decide +kernel)
theorem we_X6_as : Cond.selects RX6 yX6_as yX6_as ∈ tb := tb_mem 483 (by decide +kernel) (by decide +kernel)
theorem hyX6_as : yX6_as.cls = RX6 ∧ yX6_as.cls ≠ "java/lang/invoke/MethodHandle" ∧ yX6_as.cls ≠ "java/lang/invoke/VarHandle" ∧ (parseMethodDescriptor yX6_as.desc).map (fun d => d.parameters.length) = some 2 := ⟨rfl, by decide, by decide, by decide +kernel⟩
set_option maxRecDepth 20000 in
theorem wc_X6_encoreAs : Cond.code yX6_encoreAs cX6_encoreAs 3 (some .int) ∈ tb := tb_mem 509 rfl (by decide +kernel)
theorem wi_X6_encoreAs : Cond.instanceMethod yX6_encoreAs ∈ tb := tb_mem 507 (by decide +kernel) (by decide +kernel)
theorem we_X6_encoreAs : Cond.selects RX6 yX6_encoreAs yX6_encoreAs ∈ tb := tb_mem 508 (by decide +kernel) (by decide +kernel)
theorem hyX6_encoreAs : yX6_encoreAs.cls = RX6 ∧ yX6_encoreAs.cls ≠ "java/lang/invoke/MethodHandle" ∧ yX6_encoreAs.cls ≠ "java/lang/invoke/VarHandle" ∧ (parseMethodDescriptor yX6_encoreAs.desc).map (fun d => d.parameters.length) = some 2 := ⟨rfl, by decide, by decide, by decide +kernel⟩
set_option maxRecDepth 20000 in
theorem wc_X6_can : Cond.code yX6_can cX6_can 3 (some .int) ∈ tb := tb_mem 519 rfl (by decide +kernel)
theorem wi_X6_can : Cond.instanceMethod yX6_can ∈ tb := tb_mem 517 (by decide +kernel) (by decide +kernel)
theorem we_X6_can : Cond.selects RX6 yX6_can yX6_can ∈ tb := tb_mem 518 (by decide +kernel) (by decide +kernel)
theorem hyX6_can : yX6_can.cls = RX6 ∧ yX6_can.cls ≠ "java/lang/invoke/MethodHandle" ∧ yX6_can.cls ≠ "java/lang/invoke/VarHandle" ∧ (parseMethodDescriptor yX6_can.desc).map (fun d => d.parameters.length) = some 1 := ⟨rfl, by decide, by decide, by decide +kernel⟩
set_option maxRecDepth 20000 in
theorem wc_X6_does : Cond.code yX6_does cX6_does 3 (some .int) ∈ tb := tb_mem 545 rfl (by decide +kernel)
theorem wi_X6_does : Cond.instanceMethod yX6_does ∈ tb := tb_mem 543 (by decide +kernel) (by decide +kernel)
theorem we_X6_does : Cond.selects RX6 yX6_does yX6_does ∈ tb := tb_mem 544 (by decide +kernel) (by decide +kernel)
theorem hyX6_does : yX6_does.cls = RX6 ∧ yX6_does.cls ≠ "java/lang/invoke/MethodHandle" ∧ yX6_does.cls ≠ "java/lang/invoke/VarHandle" ∧ (parseMethodDescriptor yX6_does.desc).map (fun d => d.parameters.length) = some 1 := ⟨rfl, by decide, by decide, by decide +kernel⟩
set_option maxRecDepth 20000 in
theorem wc_X6_undo : Cond.code yX6_undo cX6_undo 1 (some .int) ∈ tb := tb_mem 601 rfl (by decide +kernel)
theorem wi_X6_undo : Cond.instanceMethod yX6_undo ∈ tb := tb_mem 599 (by decide +kernel) (by decide +kernel)
theorem we_X6_undo : Cond.selects RX6 yX6_undo yX6_undo ∈ tb := tb_mem 600 (by decide +kernel) (by decide +kernel)
theorem hyX6_undo : yX6_undo.cls = RX6 ∧ yX6_undo.cls ≠ "java/lang/invoke/MethodHandle" ∧ yX6_undo.cls ≠ "java/lang/invoke/VarHandle" ∧ (parseMethodDescriptor yX6_undo.desc).map (fun d => d.parameters.length) = some 0 := ⟨rfl, by decide, by decide, by decide +kernel⟩
set_option maxRecDepth 20000 in
theorem wc_X6_keep : Cond.code yX6_keep cX6_keep 2 (some .int) ∈ tb := tb_mem 609 rfl (by decide +kernel)
theorem wi_X6_keep : Cond.instanceMethod yX6_keep ∈ tb := tb_mem 607 (by decide +kernel) (by decide +kernel)
theorem we_X6_keep : Cond.selects RX6 yX6_keep yX6_keep ∈ tb := tb_mem 608 (by decide +kernel) (by decide +kernel)
theorem hyX6_keep : yX6_keep.cls = RX6 ∧ yX6_keep.cls ≠ "java/lang/invoke/MethodHandle" ∧ yX6_keep.cls ≠ "java/lang/invoke/VarHandle" ∧ (parseMethodDescriptor yX6_keep.desc).map (fun d => d.parameters.length) = some 1 := ⟨rfl, by decide, by decide, by decide +kernel⟩
set_option maxRecDepth 20000 in
theorem wc_X6_back : Cond.code yX6_back cX6_back 2 (some .int) ∈ tb := tb_mem 614 rfl (by decide +kernel)
theorem wi_X6_back : Cond.instanceMethod yX6_back ∈ tb := tb_mem 612 (by decide +kernel) (by decide +kernel)
theorem we_X6_back : Cond.selects RX6 yX6_back yX6_back ∈ tb := tb_mem 613 (by decide +kernel) (by decide +kernel)
theorem hyX6_back : yX6_back.cls = RX6 ∧ yX6_back.cls ≠ "java/lang/invoke/MethodHandle" ∧ yX6_back.cls ≠ "java/lang/invoke/VarHandle" ∧ (parseMethodDescriptor yX6_back.desc).map (fun d => d.parameters.length) = some 1 := ⟨rfl, by decide, by decide, by decide +kernel⟩
set_option maxRecDepth 20000 in
theorem wc_X6_till : Cond.code yX6_till cX6_till 2 (some .int) ∈ tb := tb_mem 618 rfl (by decide +kernel)
theorem wi_X6_till : Cond.instanceMethod yX6_till ∈ tb := tb_mem 616 (by decide +kernel) (by decide +kernel)
theorem we_X6_till : Cond.selects RX6 yX6_till yX6_till ∈ tb := tb_mem 617 (by decide +kernel) (by decide +kernel)
theorem hyX6_till : yX6_till.cls = RX6 ∧ yX6_till.cls ≠ "java/lang/invoke/MethodHandle" ∧ yX6_till.cls ≠ "java/lang/invoke/VarHandle" ∧ (parseMethodDescriptor yX6_till.desc).map (fun d => d.parameters.length) = some 0 := ⟨rfl, by decide, by decide, by decide +kernel⟩
set_option maxRecDepth 20000 in
theorem wc_X6_there : Cond.code yX6_there cX6_there 2 (some .int) ∈ tb := tb_mem 622 rfl (by decide +kernel)
theorem wi_X6_there : Cond.instanceMethod yX6_there ∈ tb := tb_mem 620 (by decide +kernel) (by decide +kernel)
theorem we_X6_there : Cond.selects RX6 yX6_there yX6_there ∈ tb := tb_mem 621 (by decide +kernel) (by decide +kernel)
theorem hyX6_there : yX6_there.cls = RX6 ∧ yX6_there.cls ≠ "java/lang/invoke/MethodHandle" ∧ yX6_there.cls ≠ "java/lang/invoke/VarHandle" ∧ (parseMethodDescriptor yX6_there.desc).map (fun d => d.parameters.length) = some 1 := ⟨rfl, by decide, by decide, by decide +kernel⟩
set_option maxRecDepth 20000 in
theorem wc_X6_sound : Cond.code yX6_sound cX6_sound 2 (some .int) ∈ tb := tb_mem 630 rfl (by decide +kernel)
theorem wi_X6_sound : Cond.instanceMethod yX6_sound ∈ tb := tb_mem 628 (by decide +kernel) (by decide +kernel)
theorem we_X6_sound : Cond.selects RX6 yX6_sound yX6_sound ∈ tb := tb_mem 629 (by decide +kernel) (by decide +kernel)
theorem hyX6_sound : yX6_sound.cls = RX6 ∧ yX6_sound.cls ≠ "java/lang/invoke/MethodHandle" ∧ yX6_sound.cls ≠ "java/lang/invoke/VarHandle" ∧ (parseMethodDescriptor yX6_sound.desc).map (fun d => d.parameters.length) = some 1 := ⟨rfl, by decide, by decide, by decide +kernel⟩
set_option maxRecDepth 20000 in
theorem wc_X6_best : Cond.code yX6_best cX6_best 2 (some .int) ∈ tb := tb_mem 634 rfl (by decide +kernel)
theorem wi_X6_best : Cond.instanceMethod yX6_best ∈ tb := tb_mem 632 (by decide +kernel) (by decide +kernel)
theorem we_X6_best : Cond.selects RX6 yX6_best yX6_best ∈ tb := tb_mem 633 (by decide +kernel) (by decide +kernel)
theorem hyX6_best : yX6_best.cls = RX6 ∧ yX6_best.cls ≠ "java/lang/invoke/MethodHandle" ∧ yX6_best.cls ≠ "java/lang/invoke/VarHandle" ∧ (parseMethodDescriptor yX6_best.desc).map (fun d => d.parameters.length) = some 1 := ⟨rfl, by decide, by decide, by decide +kernel⟩
set_option maxRecDepth 20000 in
theorem wc_X6_row : Cond.code yX6_row cX6_row 3 (some .int) ∈ tb := tb_mem 663 rfl (by decide +kernel)
theorem wi_X6_row : Cond.instanceMethod yX6_row ∈ tb := tb_mem 661 (by decide +kernel) (by decide +kernel)
theorem we_X6_row : Cond.selects RX6 yX6_row yX6_row ∈ tb := tb_mem 662 (by decide +kernel) (by decide +kernel)
theorem hyX6_row : yX6_row.cls = RX6 ∧ yX6_row.cls ≠ "java/lang/invoke/MethodHandle" ∧ yX6_row.cls ≠ "java/lang/invoke/VarHandle" ∧ (parseMethodDescriptor yX6_row.desc).map (fun d => d.parameters.length) = some 1 := ⟨rfl, by decide, by decide, by decide +kernel⟩
set_option maxRecDepth 20000 in
theorem wc_X6_tear : Cond.code yX6_tear cX6_tear 2 (some .int) ∈ tb := tb_mem 667 rfl (by decide +kernel)
theorem wi_X6_tear : Cond.instanceMethod yX6_tear ∈ tb := tb_mem 665 (by decide +kernel) (by decide +kernel)
theorem we_X6_tear : Cond.selects RX6 yX6_tear yX6_tear ∈ tb := tb_mem 666 (by decide +kernel) (by decide +kernel)
theorem hyX6_tear : yX6_tear.cls = RX6 ∧ yX6_tear.cls ≠ "java/lang/invoke/MethodHandle" ∧ yX6_tear.cls ≠ "java/lang/invoke/VarHandle" ∧ (parseMethodDescriptor yX6_tear.desc).map (fun d => d.parameters.length) = some 0 := ⟨rfl, by decide, by decide, by decide +kernel⟩
set_option maxRecDepth 20000 in
theorem wc_X6_judge : Cond.code yX6_judge cX6_judge 3 (some .int) ∈ tb := tb_mem 671 rfl (by decide +kernel)
theorem wi_X6_judge : Cond.instanceMethod yX6_judge ∈ tb := tb_mem 669 (by decide +kernel) (by decide +kernel)
theorem we_X6_judge : Cond.selects RX6 yX6_judge yX6_judge ∈ tb := tb_mem 670 (by decide +kernel) (by decide +kernel)
theorem hyX6_judge : yX6_judge.cls = RX6 ∧ yX6_judge.cls ≠ "java/lang/invoke/MethodHandle" ∧ yX6_judge.cls ≠ "java/lang/invoke/VarHandle" ∧ (parseMethodDescriptor yX6_judge.desc).map (fun d => d.parameters.length) = some 1 := ⟨rfl, by decide, by decide, by decide +kernel⟩
set_option maxRecDepth 20000 in
theorem wc_X6_stay : Cond.code yX6_stay cX6_stay 11 (some .long) ∈ tb := tb_mem 675 rfl (by decide +kernel)
theorem wi_X6_stay : Cond.instanceMethod yX6_stay ∈ tb := tb_mem 673 (by decide +kernel) (by decide +kernel)
theorem we_X6_stay : Cond.selects RX6 yX6_stay yX6_stay ∈ tb := tb_mem 674 (by decide +kernel) (by decide +kernel)
theorem hyX6_stay : yX6_stay.cls = RX6 ∧ yX6_stay.cls ≠ "java/lang/invoke/MethodHandle" ∧ yX6_stay.cls ≠ "java/lang/invoke/VarHandle" ∧ (parseMethodDescriptor yX6_stay.desc).map (fun d => d.parameters.length) = some 3 := ⟨rfl, by decide, by decide, by decide +kernel⟩
set_option maxRecDepth 20000 in
theorem wc_X6_gone : Cond.code yX6_gone cX6_gone 7 (some .int) ∈ tb := tb_mem 690 rfl (by decide +kernel)
theorem wi_X6_gone : Cond.instanceMethod yX6_gone ∈ tb := tb_mem 688 (by decide +kernel) (by decide +kernel)
theorem we_X6_gone : Cond.selects RX6 yX6_gone yX6_gone ∈ tb := tb_mem 689 (by decide +kernel) (by decide +kernel)
theorem hyX6_gone : yX6_gone.cls = RX6 ∧ yX6_gone.cls ≠ "java/lang/invoke/MethodHandle" ∧ yX6_gone.cls ≠ "java/lang/invoke/VarHandle" ∧ (parseMethodDescriptor yX6_gone.desc).map (fun d => d.parameters.length) = some 2 := ⟨rfl, by decide, by decide, by decide +kernel⟩
set_option maxRecDepth 20000 in
theorem wc_X6_prepared : Cond.code yX6_prepared cX6_prepared 6 (some .int) ∈ tb := tb_mem 695 rfl (by decide +kernel)
theorem wi_X6_prepared : Cond.instanceMethod yX6_prepared ∈ tb := tb_mem 693 (by decide +kernel) (by decide +kernel)
theorem we_X6_prepared : Cond.selects RX6 yX6_prepared yX6_prepared ∈ tb := tb_mem 694 (by decide +kernel) (by decide +kernel)
theorem hyX6_prepared : yX6_prepared.cls = RX6 ∧ yX6_prepared.cls ≠ "java/lang/invoke/MethodHandle" ∧ yX6_prepared.cls ≠ "java/lang/invoke/VarHandle" ∧ (parseMethodDescriptor yX6_prepared.desc).map (fun d => d.parameters.length) = some 1 := ⟨rfl, by decide, by decide, by decide +kernel⟩
set_option maxRecDepth 20000 in
theorem wc_X6_other : Cond.code yX6_other cX6_other 3 (some .int) ∈ tb := tb_mem 703 rfl (by decide +kernel)
theorem wi_X6_other : Cond.instanceMethod yX6_other ∈ tb := tb_mem 701 (by decide +kernel) (by decide +kernel)
theorem we_X6_other : Cond.selects RX6 yX6_other yX6_other ∈ tb := tb_mem 702 (by decide +kernel) (by decide +kernel)
theorem hyX6_other : yX6_other.cls = RX6 ∧ yX6_other.cls ≠ "java/lang/invoke/MethodHandle" ∧ yX6_other.cls ≠ "java/lang/invoke/VarHandle" ∧ (parseMethodDescriptor yX6_other.desc).map (fun d => d.parameters.length) = some 1 := ⟨rfl, by decide, by decide, by decide +kernel⟩
set_option maxRecDepth 20000 in
theorem wc_X6_count : Cond.code yX6_count cX6_count 2 (some .int) ∈ tb := tb_mem 707 rfl (by decide +kernel)
theorem wi_X6_count : Cond.instanceMethod yX6_count ∈ tb := tb_mem 705 (by decide +kernel) (by decide +kernel)
theorem we_X6_count : Cond.selects RX6 yX6_count yX6_count ∈ tb := tb_mem 706 (by decide +kernel) (by decide +kernel)
theorem hyX6_count : yX6_count.cls = RX6 ∧ yX6_count.cls ≠ "java/lang/invoke/MethodHandle" ∧ yX6_count.cls ≠ "java/lang/invoke/VarHandle" ∧ (parseMethodDescriptor yX6_count.desc).map (fun d => d.parameters.length) = some 1 := ⟨rfl, by decide, by decide, by decide +kernel⟩
set_option maxRecDepth 20000 in
theorem wc_X6_beginAnew : Cond.code yX6_beginAnew cX6_beginAnew 2 none ∈ tb := tb_mem 452 rfl (by decide +kernel)
theorem wi_X6_beginAnew : Cond.instanceMethod yX6_beginAnew ∈ tb := tb_mem 451 (by decide +kernel) (by decide +kernel)
theorem we_X6_beginAnew : Cond.selects RX6 yX6_beginAnew yX6_beginAnew ∈ tb := tb_mem 8 (by decide +kernel) (by decide +kernel)
theorem hyX6_beginAnew : yX6_beginAnew.cls = RX6 ∧ yX6_beginAnew.cls ≠ "java/lang/invoke/MethodHandle" ∧ yX6_beginAnew.cls ≠ "java/lang/invoke/VarHandle" ∧ (parseMethodDescriptor yX6_beginAnew.desc).map (fun d => d.parameters.length) = some 0 := ⟨rfl, by decide, by decide, by decide +kernel⟩
set_option maxRecDepth 20000 in
theorem wc_X6_refusalOf : Cond.code yX6_refusalOf cX6_refusalOf 2 (some .int) ∈ tb := tb_mem 523 rfl (by decide +kernel)
theorem wi_X6_refusalOf : Cond.instanceMethod yX6_refusalOf ∈ tb := tb_mem 522 (by decide +kernel) (by decide +kernel)
theorem we_X6_refusalOf : Cond.selects RX6 yX6_refusalOf yX6_refusalOf ∈ tb := tb_mem 10 (by decide +kernel) (by decide +kernel)
theorem hyX6_refusalOf : yX6_refusalOf.cls = RX6 ∧ yX6_refusalOf.cls ≠ "java/lang/invoke/MethodHandle" ∧ yX6_refusalOf.cls ≠ "java/lang/invoke/VarHandle" ∧ (parseMethodDescriptor yX6_refusalOf.desc).map (fun d => d.parameters.length) = some 1 := ⟨rfl, by decide, by decide, by decide +kernel⟩
set_option maxRecDepth 20000 in
theorem wc_X6_foretellWaits : Cond.code yX6_foretellWaits cX6_foretellWaits 3 none ∈ tb := tb_mem 626 rfl (by decide +kernel)
theorem wi_X6_foretellWaits : Cond.instanceMethod yX6_foretellWaits ∈ tb := tb_mem 625 (by decide +kernel) (by decide +kernel)
theorem we_X6_foretellWaits : Cond.selects RX6 yX6_foretellWaits yX6_foretellWaits ∈ tb := tb_mem 16 (by decide +kernel) (by decide +kernel)
theorem hyX6_foretellWaits : yX6_foretellWaits.cls = RX6 ∧ yX6_foretellWaits.cls ≠ "java/lang/invoke/MethodHandle" ∧ yX6_foretellWaits.cls ≠ "java/lang/invoke/VarHandle" ∧ (parseMethodDescriptor yX6_foretellWaits.desc).map (fun d => d.parameters.length) = some 1 := ⟨rfl, by decide, by decide, by decide +kernel⟩
set_option maxRecDepth 20000 in
theorem wc_X6_isUnder : Cond.code yX6_isUnder cX6_isUnder 5 (some .boolean) ∈ tb := tb_mem 489 rfl (by decide +kernel)
theorem wt_X6_isUnder : Cond.static yX6_isUnder ∈ tb := tb_mem 488 (by decide +kernel) (by decide +kernel)
theorem hyX6_isUnder : yX6_isUnder.cls ≠ "java/lang/invoke/MethodHandle" ∧ yX6_isUnder.cls ≠ "java/lang/invoke/VarHandle" ∧ (parseMethodDescriptor yX6_isUnder.desc).map (fun d => d.parameters.length) = some 3 := ⟨by decide, by decide, by decide +kernel⟩
set_option maxRecDepth 20000 in
theorem wc_X6_zealBehind : Cond.code yX6_zealBehind cX6_zealBehind 3 (some .int) ∈ tb := tb_mem 514 rfl (by decide +kernel)
theorem wt_X6_zealBehind : Cond.static yX6_zealBehind ∈ tb := tb_mem 513 (by decide +kernel) (by decide +kernel)
theorem hyX6_zealBehind : yX6_zealBehind.cls ≠ "java/lang/invoke/MethodHandle" ∧ yX6_zealBehind.cls ≠ "java/lang/invoke/VarHandle" ∧ (parseMethodDescriptor yX6_zealBehind.desc).map (fun d => d.parameters.length) = some 3 := ⟨by decide, by decide, by decide +kernel⟩
set_option maxRecDepth 20000 in
theorem wc_X6_waysToStay : Cond.code yX6_waysToStay cX6_waysToStay 8 (some .long) ∈ tb := tb_mem 680 rfl (by decide +kernel)
theorem wt_X6_waysToStay : Cond.static yX6_waysToStay ∈ tb := tb_mem 679 (by decide +kernel) (by decide +kernel)
theorem hyX6_waysToStay : yX6_waysToStay.cls ≠ "java/lang/invoke/MethodHandle" ∧ yX6_waysToStay.cls ≠ "java/lang/invoke/VarHandle" ∧ (parseMethodDescriptor yX6_waysToStay.desc).map (fun d => d.parameters.length) = some 3 := ⟨by decide, by decide, by decide +kernel⟩
set_option maxRecDepth 20000 in
theorem wc_X6_power : Cond.code yX6_power cX6_power 5 (some .long) ∈ tb := tb_mem 683 rfl (by decide +kernel)
theorem wt_X6_power : Cond.static yX6_power ∈ tb := tb_mem 682 (by decide +kernel) (by decide +kernel)
theorem hyX6_power : yX6_power.cls ≠ "java/lang/invoke/MethodHandle" ∧ yX6_power.cls ≠ "java/lang/invoke/VarHandle" ∧ (parseMethodDescriptor yX6_power.desc).map (fun d => d.parameters.length) = some 2 := ⟨by decide, by decide, by decide +kernel⟩
set_option maxRecDepth 20000 in
theorem wc_X6_commonDivisor : Cond.code yX6_commonDivisor cX6_commonDivisor 11 (some .long) ∈ tb := tb_mem 686 rfl (by decide +kernel)
theorem wt_X6_commonDivisor : Cond.static yX6_commonDivisor ∈ tb := tb_mem 685 (by decide +kernel) (by decide +kernel)
theorem hyX6_commonDivisor : yX6_commonDivisor.cls ≠ "java/lang/invoke/MethodHandle" ∧ yX6_commonDivisor.cls ≠ "java/lang/invoke/VarHandle" ∧ (parseMethodDescriptor yX6_commonDivisor.desc).map (fun d => d.parameters.length) = some 2 := ⟨by decide, by decide, by decide +kernel⟩
set_option maxRecDepth 20000 in
theorem wc_X7_init : Cond.code yX7_init cX7_init 2 none ∈ tb := tb_mem 712 rfl (by decide +kernel)
theorem wi_X7_init : Cond.instanceMethod yX7_init ∈ tb := tb_mem 711 (by decide +kernel) (by decide +kernel)
theorem hyX7_init : yX7_init.cls = RX7 ∧ yX7_init.cls ≠ "java/lang/invoke/MethodHandle" ∧ yX7_init.cls ≠ "java/lang/invoke/VarHandle" ∧ (parseMethodDescriptor yX7_init.desc).map (fun d => d.parameters.length) = some 0 := ⟨rfl, by decide, by decide, by decide +kernel⟩
set_option maxRecDepth 20000 in
theorem wc_X7_in : Cond.code yX7_in cX7_in 3 (some .boolean) ∈ tb := tb_mem 792 rfl (by decide +kernel)
theorem wt_X7_in : Cond.static yX7_in ∈ tb := tb_mem 791 (by decide +kernel) (by decide +kernel)
theorem hyX7_in : yX7_in.cls ≠ "java/lang/invoke/MethodHandle" ∧ yX7_in.cls ≠ "java/lang/invoke/VarHandle" ∧ (parseMethodDescriptor yX7_in.desc).map (fun d => d.parameters.length) = some 3 := ⟨by decide, by decide, by decide +kernel⟩
set_option maxRecDepth 20000 in
theorem wc_X7_isClapper : Cond.code yX7_isClapper cX7_isClapper 2 (some .boolean) ∈ tb := tb_mem 850 rfl (by decide +kernel)
theorem wi_X7_isClapper : Cond.instanceMethod yX7_isClapper ∈ tb := tb_mem 849 (by decide +kernel) (by decide +kernel)
theorem we_X7_isClapper : Cond.selects RX7 yX7_isClapper yX7_isClapper ∈ tb := tb_mem 31 (by decide +kernel) (by decide +kernel)
theorem hyX7_isClapper : yX7_isClapper.cls = RX7 ∧ yX7_isClapper.cls ≠ "java/lang/invoke/MethodHandle" ∧ yX7_isClapper.cls ≠ "java/lang/invoke/VarHandle" ∧ (parseMethodDescriptor yX7_isClapper.desc).map (fun d => d.parameters.length) = some 1 := ⟨rfl, by decide, by decide, by decide +kernel⟩
set_option maxRecDepth 20000 in
theorem wc_X7_isEncore : Cond.code yX7_isEncore cX7_isEncore 2 (some .boolean) ∈ tb := tb_mem 866 rfl (by decide +kernel)
theorem wi_X7_isEncore : Cond.instanceMethod yX7_isEncore ∈ tb := tb_mem 865 (by decide +kernel) (by decide +kernel)
theorem we_X7_isEncore : Cond.selects RX7 yX7_isEncore yX7_isEncore ∈ tb := tb_mem 34 (by decide +kernel) (by decide +kernel)
theorem hyX7_isEncore : yX7_isEncore.cls = RX7 ∧ yX7_isEncore.cls ≠ "java/lang/invoke/MethodHandle" ∧ yX7_isEncore.cls ≠ "java/lang/invoke/VarHandle" ∧ (parseMethodDescriptor yX7_isEncore.desc).map (fun d => d.parameters.length) = some 1 := ⟨rfl, by decide, by decide, by decide +kernel⟩
set_option maxRecDepth 20000 in
theorem wc_X7_write : Cond.code yX7_write cX7_write 2 (some .int) ∈ tb := tb_mem 789 rfl (by decide +kernel)
theorem wi_X7_write : Cond.instanceMethod yX7_write ∈ tb := tb_mem 787 (by decide +kernel) (by decide +kernel)
theorem we_X7_write : Cond.selects RX7 yX7_write yX7_write ∈ tb := tb_mem 788 (by decide +kernel) (by decide +kernel)
theorem hyX7_write : yX7_write.cls = RX7 ∧ yX7_write.cls ≠ "java/lang/invoke/MethodHandle" ∧ yX7_write.cls ≠ "java/lang/invoke/VarHandle" ∧ (parseMethodDescriptor yX7_write.desc).map (fun d => d.parameters.length) = some 1 := ⟨rfl, by decide, by decide, by decide +kernel⟩
set_option maxRecDepth 20000 in
theorem wc_X7_erase : Cond.code yX7_erase cX7_erase 2 (some .int) ∈ tb := tb_mem 796 rfl (by decide +kernel)
theorem wi_X7_erase : Cond.instanceMethod yX7_erase ∈ tb := tb_mem 794 (by decide +kernel) (by decide +kernel)
theorem we_X7_erase : Cond.selects RX7 yX7_erase yX7_erase ∈ tb := tb_mem 795 (by decide +kernel) (by decide +kernel)
theorem hyX7_erase : yX7_erase.cls = RX7 ∧ yX7_erase.cls ≠ "java/lang/invoke/MethodHandle" ∧ yX7_erase.cls ≠ "java/lang/invoke/VarHandle" ∧ (parseMethodDescriptor yX7_erase.desc).map (fun d => d.parameters.length) = some 0 := ⟨rfl, by decide, by decide, by decide +kernel⟩
set_option maxRecDepth 20000 in
theorem wc_X7_letterAt : Cond.code yX7_letterAt cX7_letterAt 2 (some .int) ∈ tb := tb_mem 812 rfl (by decide +kernel)
theorem wi_X7_letterAt : Cond.instanceMethod yX7_letterAt ∈ tb := tb_mem 811 (by decide +kernel) (by decide +kernel)
theorem we_X7_letterAt : Cond.selects RX7 yX7_letterAt yX7_letterAt ∈ tb := tb_mem 25 (by decide +kernel) (by decide +kernel)
theorem hyX7_letterAt : yX7_letterAt.cls = RX7 ∧ yX7_letterAt.cls ≠ "java/lang/invoke/MethodHandle" ∧ yX7_letterAt.cls ≠ "java/lang/invoke/VarHandle" ∧ (parseMethodDescriptor yX7_letterAt.desc).map (fun d => d.parameters.length) = some 1 := ⟨rfl, by decide, by decide, by decide +kernel⟩
set_option maxRecDepth 20000 in
theorem wc_X7_isLetter : Cond.code yX7_isLetter cX7_isLetter 1 (some .boolean) ∈ tb := tb_mem 815 rfl (by decide +kernel)
theorem wt_X7_isLetter : Cond.static yX7_isLetter ∈ tb := tb_mem 814 (by decide +kernel) (by decide +kernel)
theorem hyX7_isLetter : yX7_isLetter.cls ≠ "java/lang/invoke/MethodHandle" ∧ yX7_isLetter.cls ≠ "java/lang/invoke/VarHandle" ∧ (parseMethodDescriptor yX7_isLetter.desc).map (fun d => d.parameters.length) = some 1 := ⟨by decide, by decide, by decide +kernel⟩
set_option maxRecDepth 20000 in
theorem wc_X7_isDigit : Cond.code yX7_isDigit cX7_isDigit 1 (some .boolean) ∈ tb := tb_mem 818 rfl (by decide +kernel)
theorem wt_X7_isDigit : Cond.static yX7_isDigit ∈ tb := tb_mem 817 (by decide +kernel) (by decide +kernel)
theorem hyX7_isDigit : yX7_isDigit.cls ≠ "java/lang/invoke/MethodHandle" ∧ yX7_isDigit.cls ≠ "java/lang/invoke/VarHandle" ∧ (parseMethodDescriptor yX7_isDigit.desc).map (fun d => d.parameters.length) = some 1 := ⟨by decide, by decide, by decide +kernel⟩
set_option maxRecDepth 20000 in
theorem wc_X7_token : Cond.code yX7_token cX7_token 2 none ∈ tb := tb_mem 808 rfl (by decide +kernel)
theorem wi_X7_token : Cond.instanceMethod yX7_token ∈ tb := tb_mem 807 (by decide +kernel) (by decide +kernel)
theorem we_X7_token : Cond.selects RX7 yX7_token yX7_token ∈ tb := tb_mem 24 (by decide +kernel) (by decide +kernel)
theorem hyX7_token : yX7_token.cls = RX7 ∧ yX7_token.cls ≠ "java/lang/invoke/MethodHandle" ∧ yX7_token.cls ≠ "java/lang/invoke/VarHandle" ∧ (parseMethodDescriptor yX7_token.desc).map (fun d => d.parameters.length) = some 0 := ⟨rfl, by decide, by decide, by decide +kernel⟩
set_option maxRecDepth 20000 in
theorem wc_X7_isWord : Cond.code yX7_isWord cX7_isWord 13 (some .boolean) ∈ tb := tb_mem 826 rfl (by decide +kernel)
theorem wi_X7_isWord : Cond.instanceMethod yX7_isWord ∈ tb := tb_mem 825 (by decide +kernel) (by decide +kernel)
theorem we_X7_isWord : Cond.selects RX7 yX7_isWord yX7_isWord ∈ tb := tb_mem 27 (by decide +kernel) (by decide +kernel)
theorem hyX7_isWord : yX7_isWord.cls = RX7 ∧ yX7_isWord.cls ≠ "java/lang/invoke/MethodHandle" ∧ yX7_isWord.cls ≠ "java/lang/invoke/VarHandle" ∧ (parseMethodDescriptor yX7_isWord.desc).map (fun d => d.parameters.length) = some 9 := ⟨rfl, by decide, by decide, by decide +kernel⟩
set_option maxRecDepth 20000 in
theorem wc_X7_number : Cond.code yX7_number cX7_number 4 (some .boolean) ∈ tb := tb_mem 834 rfl (by decide +kernel)
theorem wi_X7_number : Cond.instanceMethod yX7_number ∈ tb := tb_mem 833 (by decide +kernel) (by decide +kernel)
theorem we_X7_number : Cond.selects RX7 yX7_number yX7_number ∈ tb := tb_mem 29 (by decide +kernel) (by decide +kernel)
theorem hyX7_number : yX7_number.cls = RX7 ∧ yX7_number.cls ≠ "java/lang/invoke/MethodHandle" ∧ yX7_number.cls ≠ "java/lang/invoke/VarHandle" ∧ (parseMethodDescriptor yX7_number.desc).map (fun d => d.parameters.length) = some 3 := ⟨rfl, by decide, by decide, by decide +kernel⟩
set_option maxRecDepth 20000 in
theorem wc_X7_forgets : Cond.code yX7_forgets cX7_forgets 2 none ∈ tb := tb_mem 717 rfl (by decide +kernel)
theorem wi_X7_forgets : Cond.instanceMethod yX7_forgets ∈ tb := tb_mem 716 (by decide +kernel) (by decide +kernel)
theorem we_X7_forgets : Cond.selects RX7 yX7_forgets yX7_forgets ∈ tb := tb_mem 21 (by decide +kernel) (by decide +kernel)
theorem hyX7_forgets : yX7_forgets.cls = RX7 ∧ yX7_forgets.cls ≠ "java/lang/invoke/MethodHandle" ∧ yX7_forgets.cls ≠ "java/lang/invoke/VarHandle" ∧ (parseMethodDescriptor yX7_forgets.desc).map (fun d => d.parameters.length) = some 0 := ⟨rfl, by decide, by decide, by decide +kernel⟩
set_option maxRecDepth 20000 in
theorem wc_X7_readsClapper : Cond.code yX7_readsClapper cX7_readsClapper 3 (some .boolean) ∈ tb := tb_mem 830 rfl (by decide +kernel)
theorem wi_X7_readsClapper : Cond.instanceMethod yX7_readsClapper ∈ tb := tb_mem 829 (by decide +kernel) (by decide +kernel)
theorem we_X7_readsClapper : Cond.selects RX7 yX7_readsClapper yX7_readsClapper ∈ tb := tb_mem 28 (by decide +kernel) (by decide +kernel)
theorem hyX7_readsClapper : yX7_readsClapper.cls = RX7 ∧ yX7_readsClapper.cls ≠ "java/lang/invoke/MethodHandle" ∧ yX7_readsClapper.cls ≠ "java/lang/invoke/VarHandle" ∧ (parseMethodDescriptor yX7_readsClapper.desc).map (fun d => d.parameters.length) = some 1 := ⟨rfl, by decide, by decide, by decide +kernel⟩
set_option maxRecDepth 20000 in
theorem wc_X7_readsEncore : Cond.code yX7_readsEncore cX7_readsEncore 3 (some .boolean) ∈ tb := tb_mem 838 rfl (by decide +kernel)
theorem wi_X7_readsEncore : Cond.instanceMethod yX7_readsEncore ∈ tb := tb_mem 837 (by decide +kernel) (by decide +kernel)
theorem we_X7_readsEncore : Cond.selects RX7 yX7_readsEncore yX7_readsEncore ∈ tb := tb_mem 30 (by decide +kernel) (by decide +kernel)
theorem hyX7_readsEncore : yX7_readsEncore.cls = RX7 ∧ yX7_readsEncore.cls ≠ "java/lang/invoke/MethodHandle" ∧ yX7_readsEncore.cls ≠ "java/lang/invoke/VarHandle" ∧ (parseMethodDescriptor yX7_readsEncore.desc).map (fun d => d.parameters.length) = some 1 := ⟨rfl, by decide, by decide, by decide +kernel⟩
set_option maxRecDepth 20000 in
theorem wc_X7_readsClause : Cond.code yX7_readsClause cX7_readsClause 1 (some .boolean) ∈ tb := tb_mem 822 rfl (by decide +kernel)
theorem wi_X7_readsClause : Cond.instanceMethod yX7_readsClause ∈ tb := tb_mem 821 (by decide +kernel) (by decide +kernel)
theorem we_X7_readsClause : Cond.selects RX7 yX7_readsClause yX7_readsClause ∈ tb := tb_mem 26 (by decide +kernel) (by decide +kernel)
theorem hyX7_readsClause : yX7_readsClause.cls = RX7 ∧ yX7_readsClause.cls ≠ "java/lang/invoke/MethodHandle" ∧ yX7_readsClause.cls ≠ "java/lang/invoke/VarHandle" ∧ (parseMethodDescriptor yX7_readsClause.desc).map (fun d => d.parameters.length) = some 0 := ⟨rfl, by decide, by decide, by decide +kernel⟩
set_option maxRecDepth 20000 in
theorem wc_X7_reads : Cond.code yX7_reads cX7_reads 3 (some .int) ∈ tb := tb_mem 804 rfl (by decide +kernel)
theorem wi_X7_reads : Cond.instanceMethod yX7_reads ∈ tb := tb_mem 803 (by decide +kernel) (by decide +kernel)
theorem we_X7_reads : Cond.selects RX7 yX7_reads yX7_reads ∈ tb := tb_mem 23 (by decide +kernel) (by decide +kernel)
theorem hyX7_reads : yX7_reads.cls = RX7 ∧ yX7_reads.cls ≠ "java/lang/invoke/MethodHandle" ∧ yX7_reads.cls ≠ "java/lang/invoke/VarHandle" ∧ (parseMethodDescriptor yX7_reads.desc).map (fun d => d.parameters.length) = some 0 := ⟨rfl, by decide, by decide, by decide +kernel⟩
set_option maxRecDepth 20000 in
theorem wc_X7_begins : Cond.code yX7_begins cX7_begins 2 none ∈ tb := tb_mem 721 rfl (by decide +kernel)
theorem wi_X7_begins : Cond.instanceMethod yX7_begins ∈ tb := tb_mem 720 (by decide +kernel) (by decide +kernel)
theorem we_X7_begins : Cond.selects RX7 yX7_begins yX7_begins ∈ tb := tb_mem 22 (by decide +kernel) (by decide +kernel)
theorem hyX7_begins : yX7_begins.cls = RX7 ∧ yX7_begins.cls ≠ "java/lang/invoke/MethodHandle" ∧ yX7_begins.cls ≠ "java/lang/invoke/VarHandle" ∧ (parseMethodDescriptor yX7_begins.desc).map (fun d => d.parameters.length) = some 0 := ⟨rfl, by decide, by decide, by decide +kernel⟩
set_option maxRecDepth 20000 in
theorem wc_X7_fault : Cond.code yX7_fault cX7_fault 1 (some .int) ∈ tb := tb_mem 800 rfl (by decide +kernel)
theorem wi_X7_fault : Cond.instanceMethod yX7_fault ∈ tb := tb_mem 798 (by decide +kernel) (by decide +kernel)
theorem we_X7_fault : Cond.selects RX7 yX7_fault yX7_fault ∈ tb := tb_mem 799 (by decide +kernel) (by decide +kernel)
theorem hyX7_fault : yX7_fault.cls = RX7 ∧ yX7_fault.cls ≠ "java/lang/invoke/MethodHandle" ∧ yX7_fault.cls ≠ "java/lang/invoke/VarHandle" ∧ (parseMethodDescriptor yX7_fault.desc).map (fun d => d.parameters.length) = some 0 := ⟨rfl, by decide, by decide, by decide +kernel⟩
set_option maxRecDepth 20000 in
theorem wc_X7_hall : Cond.code yX7_hall cX7_hall 3 (some .int) ∈ tb := tb_mem 842 rfl (by decide +kernel)
theorem wi_X7_hall : Cond.instanceMethod yX7_hall ∈ tb := tb_mem 840 (by decide +kernel) (by decide +kernel)
theorem we_X7_hall : Cond.selects RX7 yX7_hall yX7_hall ∈ tb := tb_mem 841 (by decide +kernel) (by decide +kernel)
theorem hyX7_hall : yX7_hall.cls = RX7 ∧ yX7_hall.cls ≠ "java/lang/invoke/MethodHandle" ∧ yX7_hall.cls ≠ "java/lang/invoke/VarHandle" ∧ (parseMethodDescriptor yX7_hall.desc).map (fun d => d.parameters.length) = some 0 := ⟨rfl, by decide, by decide, by decide +kernel⟩
set_option maxRecDepth 20000 in
theorem wc_X7_isThere : Cond.code yX7_isThere cX7_isThere 2 (some .boolean) ∈ tb := tb_mem 854 rfl (by decide +kernel)
theorem wi_X7_isThere : Cond.instanceMethod yX7_isThere ∈ tb := tb_mem 853 (by decide +kernel) (by decide +kernel)
theorem we_X7_isThere : Cond.selects RX7 yX7_isThere yX7_isThere ∈ tb := tb_mem 32 (by decide +kernel) (by decide +kernel)
theorem hyX7_isThere : yX7_isThere.cls = RX7 ∧ yX7_isThere.cls ≠ "java/lang/invoke/MethodHandle" ∧ yX7_isThere.cls ≠ "java/lang/invoke/VarHandle" ∧ (parseMethodDescriptor yX7_isThere.desc).map (fun d => d.parameters.length) = some 1 := ⟨rfl, by decide, by decide, by decide +kernel⟩
set_option maxRecDepth 20000 in
theorem wc_X7_claps : Cond.code yX7_claps cX7_claps 2 (some .boolean) ∈ tb := tb_mem 858 rfl (by decide +kernel)
theorem wi_X7_claps : Cond.instanceMethod yX7_claps ∈ tb := tb_mem 857 (by decide +kernel) (by decide +kernel)
theorem we_X7_claps : Cond.selects RX7 yX7_claps yX7_claps ∈ tb := tb_mem 33 (by decide +kernel) (by decide +kernel)
theorem hyX7_claps : yX7_claps.cls = RX7 ∧ yX7_claps.cls ≠ "java/lang/invoke/MethodHandle" ∧ yX7_claps.cls ≠ "java/lang/invoke/VarHandle" ∧ (parseMethodDescriptor yX7_claps.desc).map (fun d => d.parameters.length) = some 1 := ⟨rfl, by decide, by decide, by decide +kernel⟩
set_option maxRecDepth 20000 in
theorem wc_X7_noise : Cond.code yX7_noise cX7_noise 3 (some .int) ∈ tb := tb_mem 897 rfl (by decide +kernel)
theorem wi_X7_noise : Cond.instanceMethod yX7_noise ∈ tb := tb_mem 896 (by decide +kernel) (by decide +kernel)
theorem we_X7_noise : Cond.selects RX7 yX7_noise yX7_noise ∈ tb := tb_mem 38 (by decide +kernel) (by decide +kernel)
theorem hyX7_noise : yX7_noise.cls = RX7 ∧ yX7_noise.cls ≠ "java/lang/invoke/MethodHandle" ∧ yX7_noise.cls ≠ "java/lang/invoke/VarHandle" ∧ (parseMethodDescriptor yX7_noise.desc).map (fun d => d.parameters.length) = some 0 := ⟨rfl, by decide, by decide, by decide +kernel⟩
set_option maxRecDepth 20000 in
theorem wc_X7_thereNow : Cond.code yX7_thereNow cX7_thereNow 3 (some .int) ∈ tb := tb_mem 925 rfl (by decide +kernel)
theorem wi_X7_thereNow : Cond.instanceMethod yX7_thereNow ∈ tb := tb_mem 924 (by decide +kernel) (by decide +kernel)
theorem we_X7_thereNow : Cond.selects RX7 yX7_thereNow yX7_thereNow ∈ tb := tb_mem 44 (by decide +kernel) (by decide +kernel)
theorem hyX7_thereNow : yX7_thereNow.cls = RX7 ∧ yX7_thereNow.cls ≠ "java/lang/invoke/MethodHandle" ∧ yX7_thereNow.cls ≠ "java/lang/invoke/VarHandle" ∧ (parseMethodDescriptor yX7_thereNow.desc).map (fun d => d.parameters.length) = some 0 := ⟨rfl, by decide, by decide, by decide +kernel⟩
set_option maxRecDepth 20000 in
theorem wc_X7_ones : Cond.code yX7_ones cX7_ones 3 (some .int) ∈ tb := tb_mem 928 rfl (by decide +kernel)
theorem wt_X7_ones : Cond.static yX7_ones ∈ tb := tb_mem 927 (by decide +kernel) (by decide +kernel)
theorem hyX7_ones : yX7_ones.cls ≠ "java/lang/invoke/MethodHandle" ∧ yX7_ones.cls ≠ "java/lang/invoke/VarHandle" ∧ (parseMethodDescriptor yX7_ones.desc).map (fun d => d.parameters.length) = some 1 := ⟨by decide, by decide, by decide +kernel⟩
set_option maxRecDepth 20000 in
theorem wc_X7_clapper : Cond.code yX7_clapper cX7_clapper 3 (some .int) ∈ tb := tb_mem 846 rfl (by decide +kernel)
theorem wi_X7_clapper : Cond.instanceMethod yX7_clapper ∈ tb := tb_mem 844 (by decide +kernel) (by decide +kernel)
theorem we_X7_clapper : Cond.selects RX7 yX7_clapper yX7_clapper ∈ tb := tb_mem 845 (by decide +kernel) (by decide +kernel)
theorem hyX7_clapper : yX7_clapper.cls = RX7 ∧ yX7_clapper.cls ≠ "java/lang/invoke/MethodHandle" ∧ yX7_clapper.cls ≠ "java/lang/invoke/VarHandle" ∧ (parseMethodDescriptor yX7_clapper.desc).map (fun d => d.parameters.length) = some 2 := ⟨rfl, by decide, by decide, by decide +kernel⟩
set_option maxRecDepth 20000 in
theorem wc_X7_encore : Cond.code yX7_encore cX7_encore 3 (some .int) ∈ tb := tb_mem 862 rfl (by decide +kernel)
theorem wi_X7_encore : Cond.instanceMethod yX7_encore ∈ tb := tb_mem 860 (by decide +kernel) (by decide +kernel)
theorem we_X7_encore : Cond.selects RX7 yX7_encore yX7_encore ∈ tb := tb_mem 861 (by decide +kernel) (by decide +kernel)
theorem hyX7_encore : yX7_encore.cls = RX7 ∧ yX7_encore.cls ≠ "java/lang/invoke/MethodHandle" ∧ yX7_encore.cls ≠ "java/lang/invoke/VarHandle" ∧ (parseMethodDescriptor yX7_encore.desc).map (fun d => d.parameters.length) = some 2 := ⟨rfl, by decide, by decide, by decide +kernel⟩
set_option maxRecDepth 20000 in
theorem wc_X7_wasKnown : Cond.code yX7_wasKnown cX7_wasKnown 3 (some .boolean) ∈ tb := tb_mem 878 rfl (by decide +kernel)
theorem wi_X7_wasKnown : Cond.instanceMethod yX7_wasKnown ∈ tb := tb_mem 877 (by decide +kernel) (by decide +kernel)
theorem we_X7_wasKnown : Cond.selects RX7 yX7_wasKnown yX7_wasKnown ∈ tb := tb_mem 36 (by decide +kernel) (by decide +kernel)
theorem hyX7_wasKnown : yX7_wasKnown.cls = RX7 ∧ yX7_wasKnown.cls ≠ "java/lang/invoke/MethodHandle" ∧ yX7_wasKnown.cls ≠ "java/lang/invoke/VarHandle" ∧ (parseMethodDescriptor yX7_wasKnown.desc).map (fun d => d.parameters.length) = some 0 := ⟨rfl, by decide, by decide, by decide +kernel⟩
set_option maxRecDepth 20000 in
theorem wc_X7_loses : Cond.code yX7_loses cX7_loses 6 (some .int) ∈ tb := tb_mem 874 rfl (by decide +kernel)
theorem wi_X7_loses : Cond.instanceMethod yX7_loses ∈ tb := tb_mem 873 (by decide +kernel) (by decide +kernel)
theorem we_X7_loses : Cond.selects RX7 yX7_loses yX7_loses ∈ tb := tb_mem 35 (by decide +kernel) (by decide +kernel)
theorem hyX7_loses : yX7_loses.cls = RX7 ∧ yX7_loses.cls ≠ "java/lang/invoke/MethodHandle" ∧ yX7_loses.cls ≠ "java/lang/invoke/VarHandle" ∧ (parseMethodDescriptor yX7_loses.desc).map (fun d => d.parameters.length) = some 1 := ⟨rfl, by decide, by decide, by decide +kernel⟩
set_option maxRecDepth 20000 in
theorem wc_X7_as : Cond.code yX7_as cX7_as 5 (some .int) ∈ tb := tb_mem 870 rfl (by decide +kernel)
theorem wi_X7_as : Cond.instanceMethod yX7_as ∈ tb := tb_mem 868 (by decide +kernel) (by decide +kernel)
theorem we_X7_as : Cond.selects RX7 yX7_as yX7_as ∈ tb := tb_mem 869 (by decide +kernel) (by decide +kernel)
theorem hyX7_as : yX7_as.cls = RX7 ∧ yX7_as.cls ≠ "java/lang/invoke/MethodHandle" ∧ yX7_as.cls ≠ "java/lang/invoke/VarHandle" ∧ (parseMethodDescriptor yX7_as.desc).map (fun d => d.parameters.length) = some 2 := ⟨rfl, by decide, by decide, by decide +kernel⟩
set_option maxRecDepth 20000 in
theorem wc_X7_behind : Cond.code yX7_behind cX7_behind 4 (some .int) ∈ tb := tb_mem 885 rfl (by decide +kernel)
theorem wt_X7_behind : Cond.static yX7_behind ∈ tb := tb_mem 884 (by decide +kernel) (by decide +kernel)
theorem hyX7_behind : yX7_behind.cls ≠ "java/lang/invoke/MethodHandle" ∧ yX7_behind.cls ≠ "java/lang/invoke/VarHandle" ∧ (parseMethodDescriptor yX7_behind.desc).map (fun d => d.parameters.length) = some 3 := ⟨by decide, by decide, by decide +kernel⟩
set_option maxRecDepth 20000 in
theorem wc_X7_encoreAs : Cond.code yX7_encoreAs cX7_encoreAs 5 (some .int) ∈ tb := tb_mem 882 rfl (by decide +kernel)
theorem wi_X7_encoreAs : Cond.instanceMethod yX7_encoreAs ∈ tb := tb_mem 880 (by decide +kernel) (by decide +kernel)
theorem we_X7_encoreAs : Cond.selects RX7 yX7_encoreAs yX7_encoreAs ∈ tb := tb_mem 881 (by decide +kernel) (by decide +kernel)
theorem hyX7_encoreAs : yX7_encoreAs.cls = RX7 ∧ yX7_encoreAs.cls ≠ "java/lang/invoke/MethodHandle" ∧ yX7_encoreAs.cls ≠ "java/lang/invoke/VarHandle" ∧ (parseMethodDescriptor yX7_encoreAs.desc).map (fun d => d.parameters.length) = some 2 := ⟨rfl, by decide, by decide, by decide +kernel⟩
set_option maxRecDepth 20000 in
theorem wc_X7_lacks : Cond.code yX7_lacks cX7_lacks 3 (some .int) ∈ tb := tb_mem 893 rfl (by decide +kernel)
theorem wi_X7_lacks : Cond.instanceMethod yX7_lacks ∈ tb := tb_mem 892 (by decide +kernel) (by decide +kernel)
theorem we_X7_lacks : Cond.selects RX7 yX7_lacks yX7_lacks ∈ tb := tb_mem 37 (by decide +kernel) (by decide +kernel)
theorem hyX7_lacks : yX7_lacks.cls = RX7 ∧ yX7_lacks.cls ≠ "java/lang/invoke/MethodHandle" ∧ yX7_lacks.cls ≠ "java/lang/invoke/VarHandle" ∧ (parseMethodDescriptor yX7_lacks.desc).map (fun d => d.parameters.length) = some 1 := ⟨rfl, by decide, by decide, by decide +kernel⟩
set_option maxRecDepth 20000 in
theorem wc_X7_can : Cond.code yX7_can cX7_can 3 (some .int) ∈ tb := tb_mem 889 rfl (by decide +kernel)
theorem wi_X7_can : Cond.instanceMethod yX7_can ∈ tb := tb_mem 887 (by decide +kernel) (by decide +kernel)
theorem we_X7_can : Cond.selects RX7 yX7_can yX7_can ∈ tb := tb_mem 888 (by decide +kernel) (by decide +kernel)
theorem hyX7_can : yX7_can.cls = RX7 ∧ yX7_can.cls ≠ "java/lang/invoke/MethodHandle" ∧ yX7_can.cls ≠ "java/lang/invoke/VarHandle" ∧ (parseMethodDescriptor yX7_can.desc).map (fun d => d.parameters.length) = some 1 := ⟨rfl, by decide, by decide, by decide +kernel⟩
set_option maxRecDepth 20000 in
theorem wc_X7_minute : Cond.code yX7_minute cX7_minute 1 none ∈ tb := tb_mem 913 rfl (by decide +kernel)
theorem wi_X7_minute : Cond.instanceMethod yX7_minute ∈ tb := tb_mem 912 (by decide +kernel) (by decide +kernel)
theorem we_X7_minute : Cond.selects RX7 yX7_minute yX7_minute ∈ tb := tb_mem 41 (by decide +kernel) (by decide +kernel)
theorem hyX7_minute : yX7_minute.cls = RX7 ∧ yX7_minute.cls ≠ "java/lang/invoke/MethodHandle" ∧ yX7_minute.cls ≠ "java/lang/invoke/VarHandle" ∧ (parseMethodDescriptor yX7_minute.desc).map (fun d => d.parameters.length) = some 0 := ⟨rfl, by decide, by decide, by decide +kernel⟩
set_option maxRecDepth 20000 in
theorem wc_X7_waitsOne : Cond.code yX7_waitsOne cX7_waitsOne 3 none ∈ tb := tb_mem 909 rfl (by decide +kernel)
theorem wi_X7_waitsOne : Cond.instanceMethod yX7_waitsOne ∈ tb := tb_mem 908 (by decide +kernel) (by decide +kernel)
theorem we_X7_waitsOne : Cond.selects RX7 yX7_waitsOne yX7_waitsOne ∈ tb := tb_mem 40 (by decide +kernel) (by decide +kernel)
theorem hyX7_waitsOne : yX7_waitsOne.cls = RX7 ∧ yX7_waitsOne.cls ≠ "java/lang/invoke/MethodHandle" ∧ yX7_waitsOne.cls ≠ "java/lang/invoke/VarHandle" ∧ (parseMethodDescriptor yX7_waitsOne.desc).map (fun d => d.parameters.length) = some 0 := ⟨rfl, by decide, by decide, by decide +kernel⟩
set_option maxRecDepth 20000 in
theorem wc_X7_bows : Cond.code yX7_bows cX7_bows 4 none ∈ tb := tb_mem 917 rfl (by decide +kernel)
theorem wi_X7_bows : Cond.instanceMethod yX7_bows ∈ tb := tb_mem 916 (by decide +kernel) (by decide +kernel)
theorem we_X7_bows : Cond.selects RX7 yX7_bows yX7_bows ∈ tb := tb_mem 42 (by decide +kernel) (by decide +kernel)
theorem hyX7_bows : yX7_bows.cls = RX7 ∧ yX7_bows.cls ≠ "java/lang/invoke/MethodHandle" ∧ yX7_bows.cls ≠ "java/lang/invoke/VarHandle" ∧ (parseMethodDescriptor yX7_bows.desc).map (fun d => d.parameters.length) = some 0 := ⟨rfl, by decide, by decide, by decide +kernel⟩
set_option maxRecDepth 20000 in
theorem wc_X7_plays : Cond.code yX7_plays cX7_plays 3 none ∈ tb := tb_mem 921 rfl (by decide +kernel)
theorem wi_X7_plays : Cond.instanceMethod yX7_plays ∈ tb := tb_mem 920 (by decide +kernel) (by decide +kernel)
theorem we_X7_plays : Cond.selects RX7 yX7_plays yX7_plays ∈ tb := tb_mem 43 (by decide +kernel) (by decide +kernel)
theorem hyX7_plays : yX7_plays.cls = RX7 ∧ yX7_plays.cls ≠ "java/lang/invoke/MethodHandle" ∧ yX7_plays.cls ≠ "java/lang/invoke/VarHandle" ∧ (parseMethodDescriptor yX7_plays.desc).map (fun d => d.parameters.length) = some 1 := ⟨rfl, by decide, by decide, by decide +kernel⟩
set_option maxRecDepth 20000 in
theorem wc_X7_steps : Cond.code yX7_steps cX7_steps 2 none ∈ tb := tb_mem 905 rfl (by decide +kernel)
theorem wi_X7_steps : Cond.instanceMethod yX7_steps ∈ tb := tb_mem 904 (by decide +kernel) (by decide +kernel)
theorem we_X7_steps : Cond.selects RX7 yX7_steps yX7_steps ∈ tb := tb_mem 39 (by decide +kernel) (by decide +kernel)
theorem hyX7_steps : yX7_steps.cls = RX7 ∧ yX7_steps.cls ≠ "java/lang/invoke/MethodHandle" ∧ yX7_steps.cls ≠ "java/lang/invoke/VarHandle" ∧ (parseMethodDescriptor yX7_steps.desc).map (fun d => d.parameters.length) = some 1 := ⟨rfl, by decide, by decide, by decide +kernel⟩
set_option maxRecDepth 20000 in
theorem wc_X7_does : Cond.code yX7_does cX7_does 5 (some .int) ∈ tb := tb_mem 901 rfl (by decide +kernel)
theorem wi_X7_does : Cond.instanceMethod yX7_does ∈ tb := tb_mem 899 (by decide +kernel) (by decide +kernel)
theorem we_X7_does : Cond.selects RX7 yX7_does yX7_does ∈ tb := tb_mem 900 (by decide +kernel) (by decide +kernel)
theorem hyX7_does : yX7_does.cls = RX7 ∧ yX7_does.cls ≠ "java/lang/invoke/MethodHandle" ∧ yX7_does.cls ≠ "java/lang/invoke/VarHandle" ∧ (parseMethodDescriptor yX7_does.desc).map (fun d => d.parameters.length) = some 1 := ⟨rfl, by decide, by decide, by decide +kernel⟩
set_option maxRecDepth 20000 in
theorem wc_X7_undo : Cond.code yX7_undo cX7_undo 2 (some .int) ∈ tb := tb_mem 932 rfl (by decide +kernel)
theorem wi_X7_undo : Cond.instanceMethod yX7_undo ∈ tb := tb_mem 930 (by decide +kernel) (by decide +kernel)
theorem we_X7_undo : Cond.selects RX7 yX7_undo yX7_undo ∈ tb := tb_mem 931 (by decide +kernel) (by decide +kernel)
theorem hyX7_undo : yX7_undo.cls = RX7 ∧ yX7_undo.cls ≠ "java/lang/invoke/MethodHandle" ∧ yX7_undo.cls ≠ "java/lang/invoke/VarHandle" ∧ (parseMethodDescriptor yX7_undo.desc).map (fun d => d.parameters.length) = some 0 := ⟨rfl, by decide, by decide, by decide +kernel⟩
set_option maxRecDepth 20000 in
theorem wc_X7_keep : Cond.code yX7_keep cX7_keep 3 (some .int) ∈ tb := tb_mem 936 rfl (by decide +kernel)
theorem wi_X7_keep : Cond.instanceMethod yX7_keep ∈ tb := tb_mem 934 (by decide +kernel) (by decide +kernel)
theorem we_X7_keep : Cond.selects RX7 yX7_keep yX7_keep ∈ tb := tb_mem 935 (by decide +kernel) (by decide +kernel)
theorem hyX7_keep : yX7_keep.cls = RX7 ∧ yX7_keep.cls ≠ "java/lang/invoke/MethodHandle" ∧ yX7_keep.cls ≠ "java/lang/invoke/VarHandle" ∧ (parseMethodDescriptor yX7_keep.desc).map (fun d => d.parameters.length) = some 1 := ⟨rfl, by decide, by decide, by decide +kernel⟩
set_option maxRecDepth 20000 in
theorem wc_X7_back : Cond.code yX7_back cX7_back 3 (some .int) ∈ tb := tb_mem 940 rfl (by decide +kernel)
theorem wi_X7_back : Cond.instanceMethod yX7_back ∈ tb := tb_mem 938 (by decide +kernel) (by decide +kernel)
theorem we_X7_back : Cond.selects RX7 yX7_back yX7_back ∈ tb := tb_mem 939 (by decide +kernel) (by decide +kernel)
theorem hyX7_back : yX7_back.cls = RX7 ∧ yX7_back.cls ≠ "java/lang/invoke/MethodHandle" ∧ yX7_back.cls ≠ "java/lang/invoke/VarHandle" ∧ (parseMethodDescriptor yX7_back.desc).map (fun d => d.parameters.length) = some 1 := ⟨rfl, by decide, by decide, by decide +kernel⟩
set_option maxRecDepth 20000 in
theorem wc_X7_holds : Cond.code yX7_holds cX7_holds 2 none ∈ tb := tb_mem 948 rfl (by decide +kernel)
theorem wi_X7_holds : Cond.instanceMethod yX7_holds ∈ tb := tb_mem 947 (by decide +kernel) (by decide +kernel)
theorem we_X7_holds : Cond.selects RX7 yX7_holds yX7_holds ∈ tb := tb_mem 45 (by decide +kernel) (by decide +kernel)
theorem hyX7_holds : yX7_holds.cls = RX7 ∧ yX7_holds.cls ≠ "java/lang/invoke/MethodHandle" ∧ yX7_holds.cls ≠ "java/lang/invoke/VarHandle" ∧ (parseMethodDescriptor yX7_holds.desc).map (fun d => d.parameters.length) = some 0 := ⟨rfl, by decide, by decide, by decide +kernel⟩
set_option maxRecDepth 20000 in
theorem wc_X7_lets : Cond.code yX7_lets cX7_lets 2 none ∈ tb := tb_mem 952 rfl (by decide +kernel)
theorem wi_X7_lets : Cond.instanceMethod yX7_lets ∈ tb := tb_mem 951 (by decide +kernel) (by decide +kernel)
theorem we_X7_lets : Cond.selects RX7 yX7_lets yX7_lets ∈ tb := tb_mem 46 (by decide +kernel) (by decide +kernel)
theorem hyX7_lets : yX7_lets.cls = RX7 ∧ yX7_lets.cls ≠ "java/lang/invoke/MethodHandle" ∧ yX7_lets.cls ≠ "java/lang/invoke/VarHandle" ∧ (parseMethodDescriptor yX7_lets.desc).map (fun d => d.parameters.length) = some 0 := ⟨rfl, by decide, by decide, by decide +kernel⟩
set_option maxRecDepth 20000 in
theorem wc_X7_till : Cond.code yX7_till cX7_till 2 (some .int) ∈ tb := tb_mem 944 rfl (by decide +kernel)
theorem wi_X7_till : Cond.instanceMethod yX7_till ∈ tb := tb_mem 942 (by decide +kernel) (by decide +kernel)
theorem we_X7_till : Cond.selects RX7 yX7_till yX7_till ∈ tb := tb_mem 943 (by decide +kernel) (by decide +kernel)
theorem hyX7_till : yX7_till.cls = RX7 ∧ yX7_till.cls ≠ "java/lang/invoke/MethodHandle" ∧ yX7_till.cls ≠ "java/lang/invoke/VarHandle" ∧ (parseMethodDescriptor yX7_till.desc).map (fun d => d.parameters.length) = some 0 := ⟨rfl, by decide, by decide, by decide +kernel⟩
set_option maxRecDepth 20000 in
theorem wc_X7_behindWaits : Cond.code yX7_behindWaits cX7_behindWaits 4 (some .int) ∈ tb := tb_mem 960 rfl (by decide +kernel)
theorem wi_X7_behindWaits : Cond.instanceMethod yX7_behindWaits ∈ tb := tb_mem 959 (by decide +kernel) (by decide +kernel)
theorem we_X7_behindWaits : Cond.selects RX7 yX7_behindWaits yX7_behindWaits ∈ tb := tb_mem 47 (by decide +kernel) (by decide +kernel)
theorem hyX7_behindWaits : yX7_behindWaits.cls = RX7 ∧ yX7_behindWaits.cls ≠ "java/lang/invoke/MethodHandle" ∧ yX7_behindWaits.cls ≠ "java/lang/invoke/VarHandle" ∧ (parseMethodDescriptor yX7_behindWaits.desc).map (fun d => d.parameters.length) = some 2 := ⟨rfl, by decide, by decide, by decide +kernel⟩
set_option maxRecDepth 20000 in
theorem wc_X7_there : Cond.code yX7_there cX7_there 2 (some .int) ∈ tb := tb_mem 956 rfl (by decide +kernel)
theorem wi_X7_there : Cond.instanceMethod yX7_there ∈ tb := tb_mem 954 (by decide +kernel) (by decide +kernel)
theorem we_X7_there : Cond.selects RX7 yX7_there yX7_there ∈ tb := tb_mem 955 (by decide +kernel) (by decide +kernel)
theorem hyX7_there : yX7_there.cls = RX7 ∧ yX7_there.cls ≠ "java/lang/invoke/MethodHandle" ∧ yX7_there.cls ≠ "java/lang/invoke/VarHandle" ∧ (parseMethodDescriptor yX7_there.desc).map (fun d => d.parameters.length) = some 1 := ⟨rfl, by decide, by decide, by decide +kernel⟩
set_option maxRecDepth 20000 in
theorem wc_X7_sound : Cond.code yX7_sound cX7_sound 2 (some .int) ∈ tb := tb_mem 964 rfl (by decide +kernel)
theorem wi_X7_sound : Cond.instanceMethod yX7_sound ∈ tb := tb_mem 962 (by decide +kernel) (by decide +kernel)
theorem we_X7_sound : Cond.selects RX7 yX7_sound yX7_sound ∈ tb := tb_mem 963 (by decide +kernel) (by decide +kernel)
theorem hyX7_sound : yX7_sound.cls = RX7 ∧ yX7_sound.cls ≠ "java/lang/invoke/MethodHandle" ∧ yX7_sound.cls ≠ "java/lang/invoke/VarHandle" ∧ (parseMethodDescriptor yX7_sound.desc).map (fun d => d.parameters.length) = some 1 := ⟨rfl, by decide, by decide, by decide +kernel⟩
set_option maxRecDepth 20000 in
theorem wc_X7_comesBack : Cond.code yX7_comesBack cX7_comesBack 3 none ∈ tb := tb_mem 980 rfl (by decide +kernel)
theorem wi_X7_comesBack : Cond.instanceMethod yX7_comesBack ∈ tb := tb_mem 979 (by decide +kernel) (by decide +kernel)
theorem we_X7_comesBack : Cond.selects RX7 yX7_comesBack yX7_comesBack ∈ tb := tb_mem 50 (by decide +kernel) (by decide +kernel)
theorem hyX7_comesBack : yX7_comesBack.cls = RX7 ∧ yX7_comesBack.cls ≠ "java/lang/invoke/MethodHandle" ∧ yX7_comesBack.cls ≠ "java/lang/invoke/VarHandle" ∧ (parseMethodDescriptor yX7_comesBack.desc).map (fun d => d.parameters.length) = some 1 := ⟨rfl, by decide, by decide, by decide +kernel⟩
set_option maxRecDepth 20000 in
theorem wc_X7_goesOn : Cond.code yX7_goesOn cX7_goesOn 3 none ∈ tb := tb_mem 976 rfl (by decide +kernel)
theorem wi_X7_goesOn : Cond.instanceMethod yX7_goesOn ∈ tb := tb_mem 975 (by decide +kernel) (by decide +kernel)
theorem we_X7_goesOn : Cond.selects RX7 yX7_goesOn yX7_goesOn ∈ tb := tb_mem 49 (by decide +kernel) (by decide +kernel)
theorem hyX7_goesOn : yX7_goesOn.cls = RX7 ∧ yX7_goesOn.cls ≠ "java/lang/invoke/MethodHandle" ∧ yX7_goesOn.cls ≠ "java/lang/invoke/VarHandle" ∧ (parseMethodDescriptor yX7_goesOn.desc).map (fun d => d.parameters.length) = some 1 := ⟨rfl, by decide, by decide, by decide +kernel⟩
set_option maxRecDepth 20000 in
theorem wc_X7_seeks : Cond.code yX7_seeks cX7_seeks 5 none ∈ tb := tb_mem 972 rfl (by decide +kernel)
theorem wi_X7_seeks : Cond.instanceMethod yX7_seeks ∈ tb := tb_mem 971 (by decide +kernel) (by decide +kernel)
theorem we_X7_seeks : Cond.selects RX7 yX7_seeks yX7_seeks ∈ tb := tb_mem 48 (by decide +kernel) (by decide +kernel)
theorem hyX7_seeks : yX7_seeks.cls = RX7 ∧ yX7_seeks.cls ≠ "java/lang/invoke/MethodHandle" ∧ yX7_seeks.cls ≠ "java/lang/invoke/VarHandle" ∧ (parseMethodDescriptor yX7_seeks.desc).map (fun d => d.parameters.length) = some 0 := ⟨rfl, by decide, by decide, by decide +kernel⟩
set_option maxRecDepth 20000 in
theorem wc_X7_best : Cond.code yX7_best cX7_best 2 (some .int) ∈ tb := tb_mem 968 rfl (by decide +kernel)
theorem wi_X7_best : Cond.instanceMethod yX7_best ∈ tb := tb_mem 966 (by decide +kernel) (by decide +kernel)
theorem we_X7_best : Cond.selects RX7 yX7_best yX7_best ∈ tb := tb_mem 967 (by decide +kernel) (by decide +kernel)
theorem hyX7_best : yX7_best.cls = RX7 ∧ yX7_best.cls ≠ "java/lang/invoke/MethodHandle" ∧ yX7_best.cls ≠ "java/lang/invoke/VarHandle" ∧ (parseMethodDescriptor yX7_best.desc).map (fun d => d.parameters.length) = some 1 := ⟨rfl, by decide, by decide, by decide +kernel⟩
set_option maxRecDepth 20000 in
theorem wc_X7_row : Cond.code yX7_row cX7_row 3 (some .int) ∈ tb := tb_mem 984 rfl (by decide +kernel)
theorem wi_X7_row : Cond.instanceMethod yX7_row ∈ tb := tb_mem 982 (by decide +kernel) (by decide +kernel)
theorem we_X7_row : Cond.selects RX7 yX7_row yX7_row ∈ tb := tb_mem 983 (by decide +kernel) (by decide +kernel)
theorem hyX7_row : yX7_row.cls = RX7 ∧ yX7_row.cls ≠ "java/lang/invoke/MethodHandle" ∧ yX7_row.cls ≠ "java/lang/invoke/VarHandle" ∧ (parseMethodDescriptor yX7_row.desc).map (fun d => d.parameters.length) = some 1 := ⟨rfl, by decide, by decide, by decide +kernel⟩
set_option maxRecDepth 20000 in
theorem wc_X7_tear : Cond.code yX7_tear cX7_tear 2 (some .int) ∈ tb := tb_mem 988 rfl (by decide +kernel)
theorem wi_X7_tear : Cond.instanceMethod yX7_tear ∈ tb := tb_mem 986 (by decide +kernel) (by decide +kernel)
theorem we_X7_tear : Cond.selects RX7 yX7_tear yX7_tear ∈ tb := tb_mem 987 (by decide +kernel) (by decide +kernel)
theorem hyX7_tear : yX7_tear.cls = RX7 ∧ yX7_tear.cls ≠ "java/lang/invoke/MethodHandle" ∧ yX7_tear.cls ≠ "java/lang/invoke/VarHandle" ∧ (parseMethodDescriptor yX7_tear.desc).map (fun d => d.parameters.length) = some 0 := ⟨rfl, by decide, by decide, by decide +kernel⟩
set_option maxRecDepth 20000 in
theorem wc_X7_judge : Cond.code yX7_judge cX7_judge 4 (some .int) ∈ tb := tb_mem 992 rfl (by decide +kernel)
theorem wi_X7_judge : Cond.instanceMethod yX7_judge ∈ tb := tb_mem 990 (by decide +kernel) (by decide +kernel)
theorem we_X7_judge : Cond.selects RX7 yX7_judge yX7_judge ∈ tb := tb_mem 991 (by decide +kernel) (by decide +kernel)
theorem hyX7_judge : yX7_judge.cls = RX7 ∧ yX7_judge.cls ≠ "java/lang/invoke/MethodHandle" ∧ yX7_judge.cls ≠ "java/lang/invoke/VarHandle" ∧ (parseMethodDescriptor yX7_judge.desc).map (fun d => d.parameters.length) = some 1 := ⟨rfl, by decide, by decide, by decide +kernel⟩
set_option maxRecDepth 20000 in
theorem wc_X7_stay : Cond.code yX7_stay cX7_stay 15 (some .long) ∈ tb := tb_mem 996 rfl (by decide +kernel)
theorem wi_X7_stay : Cond.instanceMethod yX7_stay ∈ tb := tb_mem 994 (by decide +kernel) (by decide +kernel)
theorem we_X7_stay : Cond.selects RX7 yX7_stay yX7_stay ∈ tb := tb_mem 995 (by decide +kernel) (by decide +kernel)
theorem hyX7_stay : yX7_stay.cls = RX7 ∧ yX7_stay.cls ≠ "java/lang/invoke/MethodHandle" ∧ yX7_stay.cls ≠ "java/lang/invoke/VarHandle" ∧ (parseMethodDescriptor yX7_stay.desc).map (fun d => d.parameters.length) = some 3 := ⟨rfl, by decide, by decide, by decide +kernel⟩
set_option maxRecDepth 20000 in
theorem wc_X7_gone : Cond.code yX7_gone cX7_gone 10 (some .int) ∈ tb := tb_mem 1002 rfl (by decide +kernel)
theorem wi_X7_gone : Cond.instanceMethod yX7_gone ∈ tb := tb_mem 1000 (by decide +kernel) (by decide +kernel)
theorem we_X7_gone : Cond.selects RX7 yX7_gone yX7_gone ∈ tb := tb_mem 1001 (by decide +kernel) (by decide +kernel)
theorem hyX7_gone : yX7_gone.cls = RX7 ∧ yX7_gone.cls ≠ "java/lang/invoke/MethodHandle" ∧ yX7_gone.cls ≠ "java/lang/invoke/VarHandle" ∧ (parseMethodDescriptor yX7_gone.desc).map (fun d => d.parameters.length) = some 2 := ⟨rfl, by decide, by decide, by decide +kernel⟩
set_option maxRecDepth 20000 in
theorem wc_X7_prepared : Cond.code yX7_prepared cX7_prepared 9 (some .int) ∈ tb := tb_mem 1006 rfl (by decide +kernel)
theorem wi_X7_prepared : Cond.instanceMethod yX7_prepared ∈ tb := tb_mem 1004 (by decide +kernel) (by decide +kernel)
theorem we_X7_prepared : Cond.selects RX7 yX7_prepared yX7_prepared ∈ tb := tb_mem 1005 (by decide +kernel) (by decide +kernel)
theorem hyX7_prepared : yX7_prepared.cls = RX7 ∧ yX7_prepared.cls ≠ "java/lang/invoke/MethodHandle" ∧ yX7_prepared.cls ≠ "java/lang/invoke/VarHandle" ∧ (parseMethodDescriptor yX7_prepared.desc).map (fun d => d.parameters.length) = some 1 := ⟨rfl, by decide, by decide, by decide +kernel⟩
set_option maxRecDepth 20000 in
theorem wc_X7_other : Cond.code yX7_other cX7_other 3 (some .int) ∈ tb := tb_mem 1010 rfl (by decide +kernel)
theorem wi_X7_other : Cond.instanceMethod yX7_other ∈ tb := tb_mem 1008 (by decide +kernel) (by decide +kernel)
theorem we_X7_other : Cond.selects RX7 yX7_other yX7_other ∈ tb := tb_mem 1009 (by decide +kernel) (by decide +kernel)
theorem hyX7_other : yX7_other.cls = RX7 ∧ yX7_other.cls ≠ "java/lang/invoke/MethodHandle" ∧ yX7_other.cls ≠ "java/lang/invoke/VarHandle" ∧ (parseMethodDescriptor yX7_other.desc).map (fun d => d.parameters.length) = some 1 := ⟨rfl, by decide, by decide, by decide +kernel⟩
set_option maxRecDepth 20000 in
theorem wc_X7_count : Cond.code yX7_count cX7_count 2 (some .int) ∈ tb := tb_mem 1014 rfl (by decide +kernel)
theorem wi_X7_count : Cond.instanceMethod yX7_count ∈ tb := tb_mem 1012 (by decide +kernel) (by decide +kernel)
theorem we_X7_count : Cond.selects RX7 yX7_count yX7_count ∈ tb := tb_mem 1013 (by decide +kernel) (by decide +kernel)
theorem hyX7_count : yX7_count.cls = RX7 ∧ yX7_count.cls ≠ "java/lang/invoke/MethodHandle" ∧ yX7_count.cls ≠ "java/lang/invoke/VarHandle" ∧ (parseMethodDescriptor yX7_count.desc).map (fun d => d.parameters.length) = some 1 := ⟨rfl, by decide, by decide, by decide +kernel⟩
set_option maxRecDepth 20000 in
theorem wc_J6_bitCount_0f7a4 : Cond.code yJ6_bitCount_0f7a4 cJ6_bitCount_0f7a4 1 (some .int) ∈ tb := tb_mem 593 rfl (by decide +kernel)
theorem wt_J6_bitCount_0f7a4 : Cond.static yJ6_bitCount_0f7a4 ∈ tb := tb_mem 592 (by decide +kernel) (by decide +kernel)
theorem hyJ6_bitCount_0f7a4 : yJ6_bitCount_0f7a4.cls ≠ "java/lang/invoke/MethodHandle" ∧ yJ6_bitCount_0f7a4.cls ≠ "java/lang/invoke/VarHandle" ∧ (parseMethodDescriptor yJ6_bitCount_0f7a4.desc).map (fun d => d.parameters.length) = some 1 := ⟨by decide, by decide, by decide +kernel⟩
set_option maxRecDepth 20000 in
theorem wc_J9_max_7cf53 : Cond.code yJ9_max_7cf53 cJ9_max_7cf53 2 (some .int) ∈ tb := tb_mem 584 rfl (by decide +kernel)
theorem wt_J9_max_7cf53 : Cond.static yJ9_max_7cf53 ∈ tb := tb_mem 583 (by decide +kernel) (by decide +kernel)
theorem hyJ9_max_7cf53 : yJ9_max_7cf53.cls ≠ "java/lang/invoke/MethodHandle" ∧ yJ9_max_7cf53.cls ≠ "java/lang/invoke/VarHandle" ∧ (parseMethodDescriptor yJ9_max_7cf53.desc).map (fun d => d.parameters.length) = some 2 := ⟨by decide, by decide, by decide +kernel⟩
set_option maxRecDepth 20000 in
theorem wc_J9_min_7cf53 : Cond.code yJ9_min_7cf53 cJ9_min_7cf53 2 (some .int) ∈ tb := tb_mem 505 rfl (by decide +kernel)
theorem wt_J9_min_7cf53 : Cond.static yJ9_min_7cf53 ∈ tb := tb_mem 504 (by decide +kernel) (by decide +kernel)
theorem hyJ9_min_7cf53 : yJ9_min_7cf53.cls ≠ "java/lang/invoke/MethodHandle" ∧ yJ9_min_7cf53.cls ≠ "java/lang/invoke/VarHandle" ∧ (parseMethodDescriptor yJ9_min_7cf53.desc).map (fun d => d.parameters.length) = some 2 := ⟨by decide, by decide, by decide +kernel⟩
set_option maxRecDepth 20000 in
theorem wc_J0_length_8abf5 : Cond.code yJ0_length_8abf5 cJ0_length_8abf5 1 (some .int) ∈ tb := tb_mem 373 rfl (by decide +kernel)
theorem wi_J0_length_8abf5 : Cond.instanceMethod yJ0_length_8abf5 ∈ tb := tb_mem 371 (by decide +kernel) (by decide +kernel)
theorem we_J0_length_8abf5 : Cond.selects RJ0 yJ0_length_8abf5 yJ0_length_8abf5 ∈ tb := tb_mem 372 (by decide +kernel) (by decide +kernel)
theorem hyJ0_length_8abf5 : yJ0_length_8abf5.cls = RJ0 ∧ yJ0_length_8abf5.cls ≠ "java/lang/invoke/MethodHandle" ∧ yJ0_length_8abf5.cls ≠ "java/lang/invoke/VarHandle" ∧ (parseMethodDescriptor yJ0_length_8abf5.desc).map (fun d => d.parameters.length) = some 0 := ⟨rfl, by decide, by decide, by decide +kernel⟩
set_option maxRecDepth 20000 in
theorem wc_J0_charAt_5068e : Cond.code yJ0_charAt_5068e cJ0_charAt_5068e 2 (some .char) ∈ tb := tb_mem 383 rfl (by decide +kernel)
theorem wi_J0_charAt_5068e : Cond.instanceMethod yJ0_charAt_5068e ∈ tb := tb_mem 381 (by decide +kernel) (by decide +kernel)
theorem we_J0_charAt_5068e : Cond.selects RJ0 yJ0_charAt_5068e yJ0_charAt_5068e ∈ tb := tb_mem 382 (by decide +kernel) (by decide +kernel)
theorem hyJ0_charAt_5068e : yJ0_charAt_5068e.cls = RJ0 ∧ yJ0_charAt_5068e.cls ≠ "java/lang/invoke/MethodHandle" ∧ yJ0_charAt_5068e.cls ≠ "java/lang/invoke/VarHandle" ∧ (parseMethodDescriptor yJ0_charAt_5068e.desc).map (fun d => d.parameters.length) = some 1 := ⟨rfl, by decide, by decide, by decide +kernel⟩
set_option maxRecDepth 20000 in
theorem wc_J0_coder_7d493 : Cond.code yJ0_coder_7d493 cJ0_coder_7d493 1 (some .byte) ∈ tb := tb_mem 377 rfl (by decide +kernel)
theorem wi_J0_coder_7d493 : Cond.instanceMethod yJ0_coder_7d493 ∈ tb := tb_mem 375 (by decide +kernel) (by decide +kernel)
theorem we_J0_coder_7d493 : Cond.selects RJ0 yJ0_coder_7d493 yJ0_coder_7d493 ∈ tb := tb_mem 376 (by decide +kernel) (by decide +kernel)
theorem hyJ0_coder_7d493 : yJ0_coder_7d493.cls = RJ0 ∧ yJ0_coder_7d493.cls ≠ "java/lang/invoke/MethodHandle" ∧ yJ0_coder_7d493.cls ≠ "java/lang/invoke/VarHandle" ∧ (parseMethodDescriptor yJ0_coder_7d493.desc).map (fun d => d.parameters.length) = some 0 := ⟨rfl, by decide, by decide, by decide +kernel⟩
set_option maxRecDepth 20000 in
theorem wc_J0_isLatin1_aae02 : Cond.code yJ0_isLatin1_aae02 cJ0_isLatin1_aae02 1 (some .boolean) ∈ tb := tb_mem 387 rfl (by decide +kernel)
theorem wi_J0_isLatin1_aae02 : Cond.instanceMethod yJ0_isLatin1_aae02 ∈ tb := tb_mem 385 (by decide +kernel) (by decide +kernel)
theorem we_J0_isLatin1_aae02 : Cond.selects RJ0 yJ0_isLatin1_aae02 yJ0_isLatin1_aae02 ∈ tb := tb_mem 386 (by decide +kernel) (by decide +kernel)
theorem hyJ0_isLatin1_aae02 : yJ0_isLatin1_aae02.cls = RJ0 ∧ yJ0_isLatin1_aae02.cls ≠ "java/lang/invoke/MethodHandle" ∧ yJ0_isLatin1_aae02.cls ≠ "java/lang/invoke/VarHandle" ∧ (parseMethodDescriptor yJ0_isLatin1_aae02.desc).map (fun d => d.parameters.length) = some 0 := ⟨rfl, by decide, by decide, by decide +kernel⟩
set_option maxRecDepth 20000 in
theorem wc_J0_checkIndex_df160 : Cond.code yJ0_checkIndex_df160 cJ0_checkIndex_df160 2 none ∈ tb := tb_mem 393 rfl (by decide +kernel)
theorem wt_J0_checkIndex_df160 : Cond.static yJ0_checkIndex_df160 ∈ tb := tb_mem 392 (by decide +kernel) (by decide +kernel)
theorem hyJ0_checkIndex_df160 : yJ0_checkIndex_df160.cls ≠ "java/lang/invoke/MethodHandle" ∧ yJ0_checkIndex_df160.cls ≠ "java/lang/invoke/VarHandle" ∧ (parseMethodDescriptor yJ0_checkIndex_df160.desc).map (fun d => d.parameters.length) = some 2 := ⟨by decide, by decide, by decide +kernel⟩
set_option maxRecDepth 20000 in
theorem wc_J1_charAt_3b067 : Cond.code yJ1_charAt_3b067 cJ1_charAt_3b067 2 (some .char) ∈ tb := tb_mem 390 rfl (by decide +kernel)
theorem wt_J1_charAt_3b067 : Cond.static yJ1_charAt_3b067 ∈ tb := tb_mem 389 (by decide +kernel) (by decide +kernel)
theorem hyJ1_charAt_3b067 : yJ1_charAt_3b067.cls ≠ "java/lang/invoke/MethodHandle" ∧ yJ1_charAt_3b067.cls ≠ "java/lang/invoke/VarHandle" ∧ (parseMethodDescriptor yJ1_charAt_3b067.desc).map (fun d => d.parameters.length) = some 2 := ⟨by decide, by decide, by decide +kernel⟩
set_option maxRecDepth 20000 in
theorem wc_J2_getChar_3b067 : Cond.code yJ2_getChar_3b067 cJ2_getChar_3b067 2 (some .char) ∈ tb := tb_mem 411 rfl (by decide +kernel)
theorem wt_J2_getChar_3b067 : Cond.static yJ2_getChar_3b067 ∈ tb := tb_mem 410 (by decide +kernel) (by decide +kernel)
theorem hyJ2_getChar_3b067 : yJ2_getChar_3b067.cls ≠ "java/lang/invoke/MethodHandle" ∧ yJ2_getChar_3b067.cls ≠ "java/lang/invoke/VarHandle" ∧ (parseMethodDescriptor yJ2_getChar_3b067.desc).map (fun d => d.parameters.length) = some 2 := ⟨by decide, by decide, by decide +kernel⟩
set_option maxRecDepth 20000 in
theorem wc_J2_length_9d52b : Cond.code yJ2_length_9d52b cJ2_length_9d52b 1 (some .int) ∈ tb := tb_mem 407 rfl (by decide +kernel)
theorem wt_J2_length_9d52b : Cond.static yJ2_length_9d52b ∈ tb := tb_mem 406 (by decide +kernel) (by decide +kernel)
theorem hyJ2_length_9d52b : yJ2_length_9d52b.cls ≠ "java/lang/invoke/MethodHandle" ∧ yJ2_length_9d52b.cls ≠ "java/lang/invoke/VarHandle" ∧ (parseMethodDescriptor yJ2_length_9d52b.desc).map (fun d => d.parameters.length) = some 1 := ⟨by decide, by decide, by decide +kernel⟩
set_option maxRecDepth 20000 in
theorem wc_J2_charAt_3b067 : Cond.code yJ2_charAt_3b067 cJ2_charAt_3b067 2 (some .char) ∈ tb := tb_mem 401 rfl (by decide +kernel)
theorem wt_J2_charAt_3b067 : Cond.static yJ2_charAt_3b067 ∈ tb := tb_mem 400 (by decide +kernel) (by decide +kernel)
theorem hyJ2_charAt_3b067 : yJ2_charAt_3b067.cls ≠ "java/lang/invoke/MethodHandle" ∧ yJ2_charAt_3b067.cls ≠ "java/lang/invoke/VarHandle" ∧ (parseMethodDescriptor yJ2_charAt_3b067.desc).map (fun d => d.parameters.length) = some 2 := ⟨by decide, by decide, by decide +kernel⟩
set_option maxRecDepth 20000 in
theorem wc_J2_checkIndex_2214a : Cond.code yJ2_checkIndex_2214a cJ2_checkIndex_2214a 2 none ∈ tb := tb_mem 404 rfl (by decide +kernel)
theorem wt_J2_checkIndex_2214a : Cond.static yJ2_checkIndex_2214a ∈ tb := tb_mem 403 (by decide +kernel) (by decide +kernel)
theorem hyJ2_checkIndex_2214a : yJ2_checkIndex_2214a.cls ≠ "java/lang/invoke/MethodHandle" ∧ yJ2_checkIndex_2214a.cls ≠ "java/lang/invoke/VarHandle" ∧ (parseMethodDescriptor yJ2_checkIndex_2214a.desc).map (fun d => d.parameters.length) = some 2 := ⟨by decide, by decide, by decide +kernel⟩
set_option maxRecDepth 20000 in
theorem wc_J3_checkIndex_8e157 : Cond.code yJ3_checkIndex_8e157 cJ3_checkIndex_8e157 3 (some .int) ∈ tb := tb_mem 398 rfl (by decide +kernel)
theorem wt_J3_checkIndex_8e157 : Cond.static yJ3_checkIndex_8e157 ∈ tb := tb_mem 397 (by decide +kernel) (by decide +kernel)
theorem hyJ3_checkIndex_8e157 : yJ3_checkIndex_8e157.cls ≠ "java/lang/invoke/MethodHandle" ∧ yJ3_checkIndex_8e157.cls ≠ "java/lang/invoke/VarHandle" ∧ (parseMethodDescriptor yJ3_checkIndex_8e157.desc).map (fun d => d.parameters.length) = some 3 := ⟨by decide, by decide, by decide +kernel⟩
theorem wn_L : Cond.initialized RL ∈ tb := tb_mem 51 (by decide +kernel) (by decide +kernel)
theorem wn_X6 : Cond.initialized RX6 ∈ tb := tb_mem 52 (by decide +kernel) (by decide +kernel)
theorem wn_X5 : Cond.initialized RX5 ∈ tb := tb_mem 53 (by decide +kernel) (by decide +kernel)
theorem wn_X4 : Cond.initialized RX4 ∈ tb := tb_mem 54 (by decide +kernel) (by decide +kernel)
theorem wn_Jx29ce0 : Cond.initialized RJx29ce0 ∈ tb := tb_mem 55 (by decide +kernel) (by decide +kernel)
theorem wn_X0 : Cond.initialized RX0 ∈ tb := tb_mem 56 (by decide +kernel) (by decide +kernel)
theorem wn_X1 : Cond.initialized RX1 ∈ tb := tb_mem 57 (by decide +kernel) (by decide +kernel)
theorem wn_X3 : Cond.initialized RX3 ∈ tb := tb_mem 58 (by decide +kernel) (by decide +kernel)
theorem wn_X2 : Cond.initialized RX2 ∈ tb := tb_mem 59 (by decide +kernel) (by decide +kernel)
theorem wn_J10 : Cond.initialized RJ10 ∈ tb := tb_mem 60 (by decide +kernel) (by decide +kernel)
theorem wn_X7 : Cond.initialized RX7 ∈ tb := tb_mem 61 (by decide +kernel) (by decide +kernel)
theorem wn_J0 : Cond.initialized RJ0 ∈ tb := tb_mem 62 (by decide +kernel) (by decide +kernel)
theorem wn_J1 : Cond.initialized RJ1 ∈ tb := tb_mem 63 (by decide +kernel) (by decide +kernel)
theorem wn_J3 : Cond.initialized RJ3 ∈ tb := tb_mem 64 (by decide +kernel) (by decide +kernel)
theorem wn_J2 : Cond.initialized RJ2 ∈ tb := tb_mem 65 (by decide +kernel) (by decide +kernel)
theorem wn_J9 : Cond.initialized RJ9 ∈ tb := tb_mem 66 (by decide +kernel) (by decide +kernel)
theorem wn_J6 : Cond.initialized RJ6 ∈ tb := tb_mem 67 (by decide +kernel) (by decide +kernel)
theorem wk_J6_265 : Cond.constant RJ6 265 (1431655765) ∈ tb := tb_mem 594 (by decide +kernel) (by decide +kernel)
theorem wk_J6_266 : Cond.constant RJ6 266 (858993459) ∈ tb := tb_mem 595 (by decide +kernel) (by decide +kernel)
theorem wk_J6_267 : Cond.constant RJ6 267 (252645135) ∈ tb := tb_mem 596 (by decide +kernel) (by decide +kernel)
theorem wk_X6_207 : Cond.constantLong RX6 207 (-3) ∈ tb := tb_mem 676 (by decide +kernel) (by decide +kernel)
theorem wk_X7_189 : Cond.constantLong RX7 189 (-3) ∈ tb := tb_mem 997 (by decide +kernel) (by decide +kernel)
theorem wk_X7_191 : Cond.constantLong RX7 191 (10) ∈ tb := tb_mem 998 (by decide +kernel) (by decide +kernel)
set_option maxRecDepth 20000 in
theorem wc_min : Cond.code Lib.Math.min.name Lib.Math.min.code 2 (some .int) ∈ tb := tb_mem 505 rfl (by decide +kernel)
theorem wt_min : Cond.static Lib.Math.min.name ∈ tb := tb_mem 504 (by decide +kernel) (by decide +kernel)
set_option maxRecDepth 20000 in
theorem wc_max : Cond.code Lib.Math.max.name Lib.Math.max.code 2 (some .int) ∈ tb := tb_mem 584 rfl (by decide +kernel)
theorem wt_max : Cond.static Lib.Math.max.name ∈ tb := tb_mem 583 (by decide +kernel) (by decide +kernel)
theorem wt_copy : Cond.static arraycopyName ∈ tb := tb_mem 291 (by decide +kernel) (by decide +kernel)
theorem wv_copy : Cond.native arraycopyName ∈ tb := tb_mem 292 (by decide +kernel) (by decide +kernel)
