/-! The world of both programs: cells by number, their whole numbers in one memory. -/
abbrev Mem : Type := Nat → Nat → Int32
def up2 (M : Mem) (k j : Nat) (v : Int32) : Mem := fun a b => if a = k ∧ b = j then v else M a b
abbrev Cx : Type := va_G × (Nat → ClassId) × (Nat → Nat) × List Nat × Nat
abbrev xD (X : Cx) : va_G := X.1
abbrev xca (X : Cx) : Nat → ClassId := X.2.1
abbrev xad (X : Cx) : Nat → Nat := X.2.2.1
abbrev xcs (X : Cx) : List Nat := X.2.2.2.1
abbrev xb (X : Cx) : Nat := X.2.2.2.2
abbrev classes : List vw_C := [(RX1, TX1, 10), (RX2, TX2, 3), (RX3, TX3, 5), (RX4, TX4, 7), (RX5, TX5, 12), (RX6, TX6, 10), (RX7, TX7, 21)]
/-- the kinds of the cells: 0 .. 6 an object of that class, 20 ints, 21 chars, 22 booleans, 23 evenings, 24 clauses -/
def kdL : List Nat := [5, 4, 20, 20, 20, 20, 20, 20, 20, 3, 4, 20, 20, 20, 20, 20, 20, 20, 21, 20, 24, 0, 20, 0, 20, 2, 20, 20, 23, 0, 20, 0, 20, 0, 20, 0, 20, 0, 20, 0, 20, 0, 20, 1, 23, 0, 20, 0, 20, 0, 20, 0, 20, 0, 20, 0, 20, 0, 20, 0, 20, 23, 22, 20, 0, 20, 0, 20, 99, 99, 6, 20, 20, 20, 20, 20, 20, 22, 20, 20, 20, 20, 20]
def lnL : List Nat := [10, 12, 8, 8, 8, 4, 4, 4, 4, 7, 12, 8, 8, 8, 4, 4, 4, 4, 160, 3, 13, 10, 8, 10, 8, 5, 6, 6, 7, 10, 8, 10, 8, 10, 8, 10, 8, 10, 8, 10, 8, 10, 8, 3, 8, 10, 8, 10, 8, 10, 8, 10, 8, 10, 8, 10, 8, 10, 8, 10, 8, 2, 2, 12, 10, 8, 10, 8, 0, 0, 21, 160, 45, 45, 14, 112, 28, 2, 12, 14, 98, 6, 6]
def kd (k : Nat) : Nat := kdL.getD k 99
def ln (k : Nat) : Nat := lnL.getD k 0
/-- the cell that field j of an object (of class ci, cell k) holds; none: a whole number -/
def rfc (ci j k : Nat) : Option Nat := match ci with
  | 0 => if j = 0 then some (k + 1) else if j = 9 then some 1 else none
  | 1 => if j = 2 then some 44 else none
  | 2 => if j = 2 then some 26 else if j = 3 then some 27 else if j = 4 then some 28 else none
  | 3 => if j = 0 then some 10 else if j = 3 then some 18 else if j = 4 then some 19 else if j = 5 then some 20 else none
  | 4 => if j < 7 then some (k + 1 + j) else none
  | 5 => if j = 0 then some 1 else if j = 1 then some 9 else if j = 2 then some 21 else if j = 3 then some 23 else if j = 4 then some 25 else if j = 5 then some 43 else if j = 6 then some 61 else if j = 7 then some 62 else if j = 8 then some 63 else none
  | _ => if j = 0 then some 71 else if j = 2 then some 72 else if j = 3 then some 73 else if j = 4 then some 74 else if j = 5 then some 75 else if j = 7 then some 76 else if j = 8 then some 77 else if j = 9 then some 78 else if j = 15 then some 79 else if j = 16 then some 80 else if j = 17 then some 81 else if j = 18 then some 82 else none
/-- the cell that place i of a row of references holds -/
def rae (k i : Nat) : Nat := if k = 28 then 29 + 2 * i else if k = 44 then 45 + 2 * i else if k = 61 then 64 + 2 * i else 1000 + i
def vfld (X : Cx) (M : Mem) (k j : Nat) : Value := match rfc (kd k) j k with
  | some t => .ref (xad X t)
  | none => .int (M k j)
def ce (X : Cx) (M : Mem) (k : Nat) : va_E :=
  if kd k < 20 then .inr (kd k, (List.range (ln k)).map (vfld X M k))
  else if kd k < 23 then .inl (xca X k, ln k, .inl (M k))
  else .inl (xca X k, ln k, .inr (.inr (.inr (.inr (fun i => some (xad X (rae k i)))))))
def wl (X : Cx) (M : Mem) : va_W := (xcs X).map (fun k => (xad X k, ce X M k))
def xA (X : Cx) : Nat → Prop := fun q => xb X ≤ q
def CxOk (X : Cx) : Prop := (∀ i j, i ∈ xcs X → j ∈ xcs X → xad X i = xad X j → i = j) ∧ va_nd (xcs X) = true ∧ ∀ i, i ∈ xcs X → xb X ≤ xad X i
theorem wl_at {X : Cx} {k : Nat} (hk : k ∈ xcs X) (M : Mem) : ∃ p : Nat, (wl X M)[p]? = some (xad X k, ce X M k) := by
  obtain ⟨p, hp⟩ := List.getElem?_of_mem hk
  exact ⟨p, by simp [wl, hp]⟩
theorem wl_of {X : Cx} {M : Mem} {p : Nat} {q : Nat × va_E} (h : (wl X M)[p]? = some q) : ∃ k, (xcs X)[p]? = some k ∧ q = (xad X k, ce X M k) := by
  unfold wl at h
  rw [List.getElem?_map] at h
  cases hk : (xcs X)[p]? with
  | none => rw [hk] at h; cases h
  | some k => rw [hk] at h; exact ⟨k, rfl, (Option.some.inj h).symm⟩
theorem wl_D {X : Cx} (h : CxOk X) (M : Mem) : va_D (xA X) (wl X M) := by
  refine ⟨fun i j a b hi hj hab => ?_, fun k q hk => ?_⟩
  · obtain ⟨x, hx, rfl⟩ := wl_of hi
    obtain ⟨y, hy, rfl⟩ := wl_of hj
    have hxy : x = y := h.1 x y (List.mem_of_getElem? hx) (List.mem_of_getElem? hy) hab
    subst hxy
    exact va_nd_inj _ h.2.1 _ _ _ hx hy
  · obtain ⟨x, hx, rfl⟩ := wl_of hk
    exact h.2.2 x (List.mem_of_getElem? hx)
theorem wl_set {X : Cx} (h : CxOk X) {M M' : Mem} {p k : Nat} {e : va_E} (hp : (wl X M)[p]? = some (xad X k, ce X M k)) (hk : k ∈ xcs X) (he : ce X M' k = e) (ho : ∀ j, j ≠ k → ce X M' j = ce X M j) : (wl X M).set p (xad X k, e) = wl X M' := by
  apply List.ext_getElem?
  intro i
  have hl := (List.getElem?_eq_some_iff.mp hp).1
  by_cases hi : p = i
  · subst hi
    rw [List.getElem?_set_self hl]
    obtain ⟨x, hx, hxe⟩ := wl_of hp
    have hxk : x = k := h.1 x k (List.mem_of_getElem? hx) hk (congrArg Prod.fst hxe).symm
    subst hxk
    simp [wl, hx, he]
  · rw [List.getElem?_set_ne hi]
    unfold wl
    rw [List.getElem?_map, List.getElem?_map]
    cases hx : (xcs X)[i]? with
    | none => rfl
    | some x =>
      have hne : x ≠ k := by
        intro hxk
        subst hxk
        obtain ⟨y, hy, hye⟩ := wl_of hp
        have hyx : y = x := h.1 y x (List.mem_of_getElem? hy) hk (congrArg Prod.fst hye).symm
        subst hyx
        exact hi (va_nd_inj _ h.2.1 _ _ _ hy hx)
      simp [ho x hne]
theorem up2_row (M : Mem) (k j : Nat) (v : Int32) : (up2 M k j v) k = upd (M k) j v := by
  funext b
  simp [up2, upd]
theorem up2_other (M : Mem) {k a : Nat} (j : Nat) (v : Int32) (h : a ≠ k) : (up2 M k j v) a = M a := by
  funext b
  simp [up2, h]
theorem ce_row {X : Cx} {M M' : Mem} {k : Nat} (h : M' k = M k) : ce X M' k = ce X M k := by
  unfold ce vfld
  rw [h]
theorem ce_obj {X : Cx} {M : Mem} {k ci : Nat} (h : kd k = ci) (hc : ci < 20) : ce X M k = .inr (ci, (List.range (ln k)).map (vfld X M k)) := by
  unfold ce
  rw [h, if_pos hc]
theorem ce_arr {X : Cx} {M : Mem} {k : Nat} (h : 20 ≤ kd k) (h2 : kd k < 23) : ce X M k = .inl (xca X k, ln k, .inl (M k)) := by
  unfold ce
  rw [if_neg (Nat.not_lt.mpr h), if_pos h2]
theorem ce_ref {X : Cx} {M : Mem} {k : Nat} (h : 23 ≤ kd k) : ce X M k = .inl (xca X k, ln k, .inr (.inr (.inr (.inr (fun i => some (xad X (rae k i))))))) := by
  unfold ce
  rw [if_neg (by omega), if_neg (by omega)]
theorem ce_put {X : Cx} {M : Mem} {k ci j : Nat} {v : Int32} (h : kd k = ci) (hc : ci < 20) (hj : j < ln k) (hr : rfc ci j k = none) : ce X (up2 M k j v) k = .inr (ci, ((List.range (ln k)).map (vfld X M k)).set j (.int v)) := by
  rw [ce_obj h hc]
  congr 2
  apply List.ext_getElem?
  intro i
  by_cases hi : j = i
  · subst hi
    rw [List.getElem?_set_self (by simpa using hj)]
    simp [hj, vfld, h, hr, up2]
  · rw [List.getElem?_set_ne hi]
    simp only [List.getElem?_map]
    cases hx : (List.range (ln k))[i]? with
    | none => rfl
    | some x =>
      have hxi : x = i := by
        have := (List.getElem?_eq_some_iff.mp hx).2
        simpa using this.symm
      subst hxi
      simp only [Option.map_some]
      congr 1
      unfold vfld
      rw [h]
      cases rfc ci x k with
      | some t => rfl
      | none => simp [up2]; exact fun e => absurd e.symm hi
/-- what the tables say of the classes and of the rows -/
def kty (k : Nat) : FieldType := if kd k = 20 then .int else if kd k = 21 then .char else if kd k = 22 then .boolean else if kd k = 23 then .object RX1 else .object RX0
def KX (X : Cx) (U : State) : Prop := (∀ (c : Nat) (q : vw_C), classes[c]? = some q → u_Kn U q.1 q.2.1 q.2.2 ((xD X).1 c) ((xD X).2 c)) ∧ ∀ k, k ∈ xcs X → 20 ≤ kd k → ArrOfT U (xca X k) (kty k) ∧ va_RA U (xca X k) (kty k)
theorem KX.moved {X : Cx} {u U : State} (hvm : u.vm.Alike U.vm) (h : KX X u) : KX X U := ⟨fun c q hq => u_Kn_moved hvm (h.1 c q hq), fun k hk h2 => ⟨arrOfT_moved hvm (h.2 k hk h2).1, (h.2 k hk h2).2.moved hvm⟩⟩
theorem KX.k0 {X : Cx} {U : State} (h : KX X U) : va_K (xD X) classes [] U := ⟨h.1, fun k q hq => by simp at hq⟩
theorem KX.k1 {X : Cx} {U : State} (h : KX X U) {k : Nat} (hk : k ∈ xcs X) (h2 : 20 ≤ kd k) {ty : FieldType} (ht : kty k = ty) : va_K (xD X) classes [(xca X k, ty)] U := by
  refine ⟨h.1, fun i q hq => ?_⟩
  have hz : i < 1 := (List.getElem?_eq_some_iff.mp hq).1
  rw [show i = 0 by omega] at hq
  cases hq
  rw [← ht]
  exact h.2 k hk h2
theorem KX.k2 {X : Cx} {U : State} (h : KX X U) {k k' : Nat} (hk : k ∈ xcs X) (h2 : 20 ≤ kd k) (hk' : k' ∈ xcs X) (h2' : 20 ≤ kd k') {ty : FieldType} (ht : kty k = ty) (ht' : kty k' = ty) : va_K (xD X) classes [(xca X k, ty), (xca X k', ty)] U := by
  refine ⟨h.1, fun i q hq => ?_⟩
  have hz : i < 2 := (List.getElem?_eq_some_iff.mp hq).1
  rcases (show i = 0 ∨ i = 1 by omega) with rfl | rfl
  · cases hq
    rw [← ht]
    exact h.2 k hk h2
  · cases hq
    rw [← ht']
    exact h.2 k' hk' h2'
