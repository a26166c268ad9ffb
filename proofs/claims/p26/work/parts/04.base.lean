/-! What never changes: constants, their texts, tables; the invariant; the judgement G over it, and its rows. -/
def cBytes : List (List Int32) := [[104, 97, 108, 108], [103, 117, 101, 115, 116], [102, 97, 110], [115, 108, 101, 101, 112, 101, 114], [115, 104, 111, 117, 116, 101, 114], [112, 108, 97, 105, 110], [113, 117, 105, 101, 116], [98, 114, 105, 108, 108, 105, 97, 110, 116], [107, 110, 111, 119, 110], [97, 114, 109], [99, 108, 111, 115, 101], [104, 105, 114, 101], [101, 109, 112, 116, 121]]
def cDeeds : List Int32 := [0, 1, 1, 1, 1, 2, 2, 2, 2, 3, 4, 5, 6]
def cKinds : List Int32 := [0, 0, 1, 2, 3, 0, 1, 2, 3, 0, 0, 0, 0]
def tNames : List String := ["OVER_CLAPPERS", "OVER_ENCORES", "HOW_MANY_NUMBERS", "LOWEST", "HIGHEST"]
def tTabs : List (List Int32) := [[-1, 0, 1, 0, 2], [-1, 0, 0, 1, 3], [0, 2, 3, 1, 1, 1, 0], [0, 0, 0, 0, 1, 0, 1, 1, 0, 0, 0, 0, 0, 0, 0, 0, 0, 0, 0, 0, 0], [0, 0, 0, 20, 99, 0, 9, 9, 30, 30, 0, 0, 99, 0, 0, 9, 0, 0, 0, 0, 0]]
def cB (i j : Nat) : Int32 := (cBytes.getD i []).getD j 0
def cN (i : Nat) : Nat := (cBytes.getD i []).length
def tV (i j : Nat) : Int32 := (tTabs.getD i []).getD j 0
def tN (i : Nat) : Nat := (tTabs.getD i []).length
def St1 (X : Cx) (i : Nat) (U : State) (H : Heap) : Prop := va_O RX0 (xad X (1000 + i)) (xA X) U H ∧ va_OF RX0 "word" "Ljava/lang/String;" (.ref (xad X (1020 + i))) (xad X (1000 + i)) (xA X) U H ∧ va_OF RX0 "deed" "I" (.int (cDeeds.getD i 0)) (xad X (1000 + i)) (xA X) U H ∧ va_OF RX0 "kind" "I" (.int (cKinds.getD i 0)) (xad X (1000 + i)) (xA X) U H ∧ va_O "java/lang/String" (xad X (1020 + i)) (xA X) U H ∧ va_OF "java/lang/String" "coder" "B" (.int 0) (xad X (1020 + i)) (xA X) U H ∧ va_OF "java/lang/String" "value" "[B" (.ref (xad X (1040 + i))) (xad X (1020 + i)) (xA X) U H ∧ va_T .byte (xad X (1040 + i)) (cN i) (fun j => .int (cB i j)) (xA X) U H
def St2 (X : Cx) (i : Nat) (U : State) (H : Heap) : Prop := va_Z RX6 (tNames.getD i "") "[I" (.ref (xad X (1060 + i))) (xA X) U H ∧ va_T .int (xad X (1060 + i)) (tN i) (fun j => .int (tV i j)) (xA X) U H
def St3 (X : Cx) (U : State) (H : Heap) : Prop := va_Z "java/lang/String" "COMPACT_STRINGS" "Z" (.int 1) (xA X) U H ∧ (va_Z "jdk/internal/util/Preconditions" "SIOOBE_FORMATTER" "Ljava/util/function/BiFunction;" .null (xA X) U H ∨ va_Z "jdk/internal/util/Preconditions" "SIOOBE_FORMATTER" "Ljava/util/function/BiFunction;" (.ref (xad X 1099)) (xA X) U H)
def St4 (U : State) : Prop := va_Nw (.methodLinkNest RX1 130 yX6_zealBehind RX6) U ∧ va_Nw (.fieldLinkNest RX4 72 RX6 "HOW_MANY_NUMBERS" "[I" RX6) U ∧ va_Nw (.fieldLinkNest RX4 75 RX6 "LOWEST" "[I" RX6) U ∧ va_Nw (.fieldLinkNest RX4 78 RX6 "HIGHEST" "[I" RX6) U
def St (X : Cx) (U : State) (H : Heap) : Prop := (∀ i, i < 13 → St1 X i U H) ∧ (∀ i, i < 5 → St2 X i U H) ∧ St3 X U H ∧ St4 U
theorem St.move {X : Cx} {s U : State} {H : Heap} {locs : List Loc} (hW : s.WarmedH U.vm) (hS : va_S (xA X) s.heap H locs) (hU : U.heap = H) (h : St X s s.heap) : St X U U.heap := by
  have hq := hS.2.1
  rw [hU]
  obtain ⟨h1, h2, h3, h4⟩ := h
  refine ⟨fun i hi => ?_, fun i hi => ?_, ?_, ?_⟩
  · obtain ⟨a1, a2, a3, a4, a5, a6, a7, a8⟩ := h1 i hi
    exact ⟨va_O.moved hW.alike (a1.kept hq), va_OF.moved hW.alike (a2.kept hq), va_OF.moved hW.alike (a3.kept hq), va_OF.moved hW.alike (a4.kept hq), va_O.moved hW.alike (a5.kept hq), va_OF.moved hW.alike (a6.kept hq), va_OF.moved hW.alike (a7.kept hq), va_T.moved hW.alike (a8.kept hq)⟩
  · obtain ⟨a1, a2⟩ := h2 i hi
    exact ⟨va_Z.moved hW.alike (a1.kept hq), va_T.moved hW.alike (a2.kept hq)⟩
  · obtain ⟨a1, a2⟩ := h3
    refine ⟨va_Z.moved hW.alike (a1.kept hq), ?_⟩
    rcases a2 with a | a
    · exact Or.inl (va_Z.moved hW.alike (a.kept hq))
    · exact Or.inr (va_Z.moved hW.alike (a.kept hq))
  · obtain ⟨a1, a2, a3, a4⟩ := h4
    exact ⟨a1.warmM hW, a2.warmF hW, a3.warmF hW, a4.warmF hW⟩
def Inv (X : Cx) (M : Mem) (U : State) : Prop := va_P (xD X) classes (wl X M) U.heap ∧ KX X U ∧ St X U U.heap
theorem Inv.blind {X : Cx} {M : Mem} {av : List Value} : FrameBlind (va_Pc av (Inv X M)) := by
  intro a U g mk q
  obtain ⟨q0, q1, q2, q3⟩ := q
  have hW : U.WarmedH (U.calling g mk a).vm := State.WarmedH.refl U
  refine ⟨q0, q1, KX.moved (u := U) (U := U.calling g mk a) (Vm.Alike.refl U.vm) q2, ?_⟩
  exact St.move (s := U) (U := U.calling g mk a) (H := U.heap) (locs := []) hW va_S.rf rfl q3
/-- the good words of the tables -/
def tb : List Cond := lw_tbl.filter goodWord
theorem tb_mem {w : Cond} (i : Nat) (h : lw_tbl[i]? = some w) (g : goodWord w = true) : w ∈ tb := List.mem_filter.mpr ⟨List.mem_of_getElem? h, g⟩
theorem tb_good {w : Cond} (h : w ∈ tb) : (w.onTables && w.keeps) = true ∨ ∃ ty, w = .arrayClass ty := good_of_word (List.mem_filter.mp h).2
theorem tb_in {ws : List Cond} (h : ∀ w ∈ ws, w ∈ tb) : GoodIn tb (ws ++ tb) := by
  intro w hw
  rcases List.mem_append.mp hw with h1 | h1
  · exact ⟨h w h1, tb_good (h w h1)⟩
  · exact ⟨h1, tb_good h1⟩
/-- a frame's surroundings: program, launch, environment, room, the state at its entry, method, arguments, the frames below, the method's own table, code, the end, cells and slots made -/
abbrev Fx : Type := Program × Launch × Env × Room × State × MethodId × Array Value × List Frame × Method × Code × (State → Prop) × Nat × Nat
abbrev fP (F : Fx) : Program := F.1
abbrev fL (F : Fx) : Launch := F.2.1
abbrev fE (F : Fx) : Env := F.2.2.1
abbrev fR (F : Fx) : Room := F.2.2.2.1
abbrev fS (F : Fx) : State := F.2.2.2.2.1
abbrev fM (F : Fx) : MethodId := F.2.2.2.2.2.1
abbrev fA (F : Fx) : Array Value := F.2.2.2.2.2.2.1
abbrev fB (F : Fx) : List Frame := F.2.2.2.2.2.2.2.1
abbrev fT (F : Fx) : Method := F.2.2.2.2.2.2.2.2.1
abbrev fC (F : Fx) : Code := F.2.2.2.2.2.2.2.2.2.1
abbrev fQ (F : Fx) : State → Prop := F.2.2.2.2.2.2.2.2.2.2.1
abbrev fc (F : Fx) : Nat := F.2.2.2.2.2.2.2.2.2.2.2.1
abbrev fs (F : Fx) : Nat := F.2.2.2.2.2.2.2.2.2.2.2.2
abbrev fW (F : Fx) (H : Heap) (locs : List Loc) (g : JFrame) : Prop := W (fP F) (fL F) (fE F) (fR F) (fS F) (fM F) (fA F) (fB F) (fT F) (fC F) H locs (fc F) (fs F) (fQ F) g
def cv (X : Cx) (v : Value) : Value := match v with
  | .ref k => .ref (xad X k)
  | w => w
theorem cv_cat (X : Cx) (v : Value) : (cv X v).category = v.category := by cases v <;> rfl
/-- locals by their places -/
def lz (X : Cx) : Nat → List (Option Value) → List (Nat × Value)
  | _, [] => []
  | i, some v :: t => (i, cv X v) :: lz X (i + 1) t
  | i, none :: t => lz X (i + 1) t
theorem lz_mem {X : Cx} {q : Nat × Value} : ∀ (L : List (Option Value)) (i : Nat), q ∈ lz X i L ↔ ∃ (j : Nat) (v : Value), L[j]? = some (some v) ∧ q = (i + j, cv X v)
  | [], i => by simp [lz]
  | none :: t, i => by
    rw [lz, lz_mem t (i + 1)]
    constructor
    · rintro ⟨j, v, h, rfl⟩
      exact ⟨j + 1, v, by simpa using h, by congr 1; omega⟩
    · rintro ⟨j, v, h, rfl⟩
      cases j with
      | zero => simp at h
      | succ j => exact ⟨j, v, by simpa using h, by congr 1; omega⟩
  | some w :: t, i => by
    rw [lz, List.mem_cons, lz_mem t (i + 1)]
    constructor
    · rintro (rfl | ⟨j, v, h, rfl⟩)
      · exact ⟨0, w, by simp, by simp⟩
      · exact ⟨j + 1, v, by simpa using h, by congr 1; omega⟩
    · rintro ⟨j, v, h, rfl⟩
      cases j with
      | zero =>
        have hw : w = v := by simpa using h
        subst hw
        exact Or.inl (by simp)
      | succ j => exact Or.inr ⟨j, v, by simpa using h, by congr 1; omega⟩
def lvR (X : Cx) (ls : Array Slot) (L : List (Option Value)) : Prop := lv_has ls L.length (lz X 0 L)
theorem lvR.get {X : Cx} {ls : Array Slot} {L : List (Option Value)} (h : lvR X ls L) {i : Nat} {v : Value} (hi : L[i]? = some (some v)) : ls[i]? = some (.val (cv X v)) :=
  h.2.2 (i, cv X v) ((lz_mem L 0).mpr ⟨i, v, hi, by simp⟩)
/-- a store kills a wide value that began one place ahead -/
def kil (L : List (Option Value)) (i : Nat) : List (Option Value) := match i with
  | 0 => L
  | j + 1 => match L[j]? with
    | some (some w) => if w.category = 2 then L.set j none else L
    | _ => L
theorem kil_len (L : List (Option Value)) (i : Nat) : (kil L i).length = L.length := by
  unfold kil
  cases i with
  | zero => rfl
  | succ j =>
    dsimp only
    split
    · split <;> simp
    · rfl
theorem kil_of {L : List (Option Value)} {i j : Nat} {v : Value} (h : (kil L i)[j]? = some (some v)) : L[j]? = some (some v) ∧ ¬ (j + 1 = i ∧ v.category = 2) := by
  unfold kil at h
  cases i with
  | zero => exact ⟨h, fun q => by omega⟩
  | succ k =>
    dsimp only at h
    split at h
    · next w hw =>
      split at h
      · next hc =>
        by_cases hjk : k = j
        · subst hjk
          rw [List.getElem?_set_self (List.getElem?_eq_some_iff.mp hw).1] at h
          cases h
        · rw [List.getElem?_set_ne hjk] at h
          exact ⟨h, fun q => hjk (by omega)⟩
      · next hc =>
        refine ⟨h, fun q => ?_⟩
        have : j = k := by omega
        subst this
        rw [hw] at h
        cases h
        exact hc q.2
    · next hw =>
      refine ⟨h, fun q => ?_⟩
      have : j = k := by omega
      subst this
      exact hw v h
def st1 (L : List (Option Value)) (i : Nat) (v : Value) : List (Option Value) := (kil L i).set i (some v)
def st2 (L : List (Option Value)) (i : Nat) (v : Value) : List (Option Value) := ((kil L i).set (i + 1) none).set i (some v)
theorem lvR.s1 {X : Cx} {ls' : Array Slot} {L : List (Option Value)} {i : Nat} {v : Value} (hi : i < L.length) (h : lv_has ls' L.length ((i, cv X v) :: (lz X 0 L).filter (fun q => !(q.1 == i) && !(q.1 + 1 == i && q.2.category == 2)))) : lvR X ls' (st1 L i v) := by
  have hlen : (st1 L i v).length = L.length := by simp [st1, kil_len]
  refine ⟨by rw [hlen]; exact h.1, h.2.1, fun q hq => h.2.2 q ?_⟩
  obtain ⟨j, w, hj, rfl⟩ := (lz_mem _ 0).mp hq
  unfold st1 at hj
  by_cases hij : i = j
  · subst hij
    rw [List.getElem?_set_self (by rw [kil_len]; exact hi)] at hj
    cases hj
    simp
  · rw [List.getElem?_set_ne hij] at hj
    obtain ⟨h1, h2⟩ := kil_of hj
    refine List.mem_cons_of_mem _ (List.mem_filter.mpr ⟨(lz_mem _ 0).mpr ⟨j, w, h1, rfl⟩, ?_⟩)
    have h3 : ¬ j = i := fun q => hij q.symm
    simp only [Nat.zero_add, cv_cat, Bool.and_eq_true, Bool.not_eq_true', beq_eq_false_iff_ne, ne_eq, h3, not_false_eq_true, true_and, Bool.and_eq_false_iff]
    by_cases h4 : j + 1 = i
    · exact Or.inr fun q => h2 ⟨h4, q⟩
    · exact Or.inl h4
theorem lvR.s2 {X : Cx} {ls' : Array Slot} {L : List (Option Value)} {i : Nat} {v : Value} (hi : i + 1 < L.length) (h : lv_has ls' L.length ((i, cv X v) :: (lz X 0 L).filter (fun q => !(q.1 == i) && (!(q.1 == i + 1) && !(q.1 + 1 == i && q.2.category == 2))))) : lvR X ls' (st2 L i v) := by
  have hlen : (st2 L i v).length = L.length := by simp [st2, kil_len]
  refine ⟨by rw [hlen]; exact h.1, h.2.1, fun q hq => h.2.2 q ?_⟩
  obtain ⟨j, w, hj, rfl⟩ := (lz_mem _ 0).mp hq
  unfold st2 at hj
  by_cases hij : i = j
  · subst hij
    rw [List.getElem?_set_self (by simp [kil_len]; omega)] at hj
    cases hj
    simp
  · rw [List.getElem?_set_ne hij] at hj
    by_cases hij2 : i + 1 = j
    · subst hij2
      rw [List.getElem?_set_self (by rw [kil_len]; exact hi)] at hj
      cases hj
    · rw [List.getElem?_set_ne hij2] at hj
      obtain ⟨h1, h2⟩ := kil_of hj
      refine List.mem_cons_of_mem _ (List.mem_filter.mpr ⟨(lz_mem _ 0).mpr ⟨j, w, h1, rfl⟩, ?_⟩)
      have h3 : ¬ j = i := fun q => hij q.symm
      have h5 : ¬ j = i + 1 := fun q => hij2 q.symm
      simp only [Nat.zero_add, cv_cat, Bool.and_eq_true, Bool.not_eq_true', beq_eq_false_iff_ne, ne_eq, h3, h5, not_false_eq_true, true_and, Bool.and_eq_false_iff]
      by_cases h4 : j + 1 = i
      · exact Or.inr fun q => h2 ⟨h4, q⟩
      · exact Or.inl h4
/-- what holds of the surroundings all along -/
def FK (X : Cx) (F : Fx) (cc : ByteArray) (own : String) (nL d : Nat) : Prop :=
  (fP F).tables.exec = Jvm.exec ∧ (fC F).code = cc ∧ (fC F).maxLocals = nL ∧ (fS F).vm.findClass own = some (fM F).cls ∧ (∀ w ∈ tb, w.before (fA F) (fS F) = true) ∧ KX X (fS F) ∧ St X (fS F) (fS F).heap ∧ CxOk X ∧ d ≤ (fR F).frames ∧ 40 * d ≤ (fR F).locals ∧ fc F ≤ (fR F).cells ∧ fs F ≤ (fR F).slots ∧ (fT F).locks = false
def G (X : Cx) (F : Fx) (pc : Nat) (L : List (Option Value)) (st : List Value) (M : Mem) : Prop :=
  ∀ (H : Heap) (locs : List Loc) (ls : Array Slot), va_P (xD X) classes (wl X M) H → va_S (xA X) (fS F).heap H locs → lvR X ls L → fW F H locs (F0 (fM F) pc ls (st.map (cv X)))
