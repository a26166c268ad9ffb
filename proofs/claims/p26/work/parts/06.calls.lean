/-! Contracts, calls, ends, copies, constants. -/
def rmD (d : Nat) : Room := { frames := d, cells := 0, slots := 0, locals := 40 * d }
def Qct (X : Cx) (o : Option Value) (M' : Mem) : Array Value → State → Outcome → State → Prop := fun _ st oc t => oc = .returned (o.map (cv X)) ∧ Inv X M' t ∧ va_F (xA X) st t
/-- a contract: with these arguments, over this memory, the method answers o and leaves that memory -/
def Ctr (X : Cx) (l : Launch) (y : MethodName) (cb : ByteArray) (mL : Nat) (ret : Option FieldType) (d : Nat) (as : List Value) (M : Mem) (o : Option Value) (M' : Mem) : Prop :=
  Met l y (Cond.code y cb mL ret :: tb) (rmD d) (va_Pc (as.map (cv X)) (Inv X M)) (Qct X o M') 0 0 (xA X)
def ent : List Value → List (Option Value)
  | [] => []
  | v :: vs => if v.category = 2 then some v :: none :: ent vs else some v :: ent vs
theorem lz_none (X : Cx) : ∀ (n i : Nat), lz X i (List.replicate n none) = []
  | 0, _ => rfl
  | n + 1, i => by rw [List.replicate_succ, lz]; exact lz_none X n (i + 1)
theorem lz_ent (X : Cx) (n : Nat) : ∀ (as : List Value) (i : Nat), lz X i (ent as ++ List.replicate n none) = lv_args i (as.map (cv X))
  | [], i => by simpa [ent, lv_args] using lz_none X n i
  | v :: vs, i => by
    rw [ent, List.map_cons, lv_args, cv_cat]
    by_cases h : v.category = 2
    · rw [if_pos h, if_pos h, List.cons_append, List.cons_append, lz, lz, lz_ent X n vs]
    · rw [if_neg h, if_neg h, List.cons_append, lz, lz_ent X n vs]
theorem ent_len (X : Cx) : ∀ (as : List Value), (lg_sl (as.map (cv X))).length = (ent as).length
  | [] => rfl
  | v :: vs => by
    have ih := ent_len X vs
    unfold lg_sl at ih ⊢
    rw [List.map_cons, List.flatMap_cons, List.length_append, ih, ent, cv_cat]
    by_cases h : v.category = 2
    · simp [h]; omega
    · simp [h]; omega
def FR (X : Cx) (F : Fx) (ret : Option FieldType) (o : Option Value) (M' : Mem) : Prop := (fT F).sig.returnType = ret ∧ fQ F = MQ (fB F) (Qct X o M') (fA F) (fS F) (fc F) (fs F) (xA X)
theorem Ctr.ofG {X : Cx} {l : Launch} {y : MethodName} {cb : ByteArray} {mL : Nat} {ret : Option FieldType} {d : Nat} {as : List Value} {M : Mem} {o : Option Value} {M' : Mem} {L : List (Option Value)} (hX : CxOk X) (hy : plainName y.cls = true) (hlen : (ent as).length ≤ mL) (hL : ent as ++ List.replicate (mL - (ent as).length) none = L)
    (body : ∀ F : Fx, FK X F cb y.cls mL d → fL F = l → FR X F ret o M' → G X F 0 L [] M) : Ctr X l y cb mL ret d as M o M' := by
  refine Met.ofW (cc := cb) (maxL := mL) (ret := ret) hy rfl ?_
  intro p e s m args below meth c s₁ B hml hv
  obtain ⟨rfl, hP, hK, hSt⟩ := hv
  have hts := atoms_spec (ws := Cond.code y cb mL ret :: tb) B.pre
  have hl := lv_entry (as.map (cv X)) (n := mL) (by rw [ent_len]; exact hlen)
  have hLl : L.length = mL := by rw [← hL]; simp; omega
  have hlv : lvR X ((lg_sl (as.map (cv X)) ++ List.replicate (mL - (lg_sl (as.map (cv X))).length) Slot.unset).toArray) L := by
    unfold lvR
    rw [hLl, ← hL, lz_ent]
    exact hl
  rw [lg_entry_eq]
  exact body (p, l, e, rmD d, s, m, (as.map (cv X)).toArray, below, meth, c, MQ below (Qct X o M') (as.map (cv X)).toArray s 0 0 (xA X), 0, 0) ⟨B.exec, B.bytes, hml, findClass_of_methodNamed B.named, fun w hw => hts w (List.mem_cons_of_mem _ hw), hK, hSt, hX, Nat.le_refl _, Nat.le_refl _, Nat.zero_le _, Nat.zero_le _, B.notSynchronized⟩ rfl ⟨B.returns, rfl⟩ s.heap [] _ hP va_S.rf hlv
section GC
variable {X : Cx} {F : Fx} {cc : ByteArray} {own : String} {nL d pc : Nat} {L : List (Option Value)} {st st0 : List Value} {M M' : Mem}
theorem FK.inv (hF : FK X F cc own nL d) {H : Heap} {locs : List Loc} (hP : va_P (xD X) classes (wl X M) H) (hS : va_S (xA X) (fS F).heap H locs) {U : State} (hU : U.heap = H) (hW : (fS F).WarmedH U.vm) : Inv X M U := ⟨by rw [hU]; exact hP, KX.moved hW.alike hF.2.2.2.2.2.1, St.move hW hS hU hF.2.2.2.2.2.2.1⟩
theorem g_iret (hF : FK X F cc own nL d) {v : Int32} (hR : FR X F (some .int) (some (.int v)) M) (dg : decode cc pc = .ok (.ireturn, 1)) : G X F pc L [.int v] M := by
  intro H locs ls hP hS hl
  unfold fW
  rw [hR.2]
  exact W.iret hF.1 hF.2.1 hR.1 (fun t ht hW => ⟨rfl, hF.inv hP hS ht hW, hS.F ht⟩) hS.2.2 dg (hlocks := hF.2.2.2.2.2.2.2.2.2.2.2.2)
theorem g_zret (hF : FK X F cc own nL d) {v : Int32} {ty : FieldType} (hR : FR X F (some ty) (some (.int v)) M) (hn : narrow ty (.int v) = .int v) (dg : decode cc pc = .ok (.ireturn, 1)) : G X F pc L [.int v] M := by
  intro H locs ls hP hS hl
  unfold fW
  rw [hR.2]
  exact W.zret hF.1 hF.2.1 hR.1 hn (fun t ht hW => ⟨rfl, hF.inv hP hS ht hW, hS.F ht⟩) hS.2.2 dg (hlocks := hF.2.2.2.2.2.2.2.2.2.2.2.2)
theorem g_lret (hF : FK X F cc own nL d) {v : Int64} (hR : FR X F (some .long) (some (.long v)) M) (dg : decode cc pc = .ok (.lreturn, 1)) : G X F pc L [.long v] M := by
  intro H locs ls hP hS hl
  unfold fW
  rw [hR.2]
  exact W.lret hF.1 hF.2.1 hR.1 (fun t ht hW => ⟨rfl, hF.inv hP hS ht hW, hS.F ht⟩) hS.2.2 dg (hlocks := hF.2.2.2.2.2.2.2.2.2.2.2.2)
theorem g_vret (hF : FK X F cc own nL d) (hR : FR X F none none M) (dg : decode cc pc = .ok (.return_, 1)) : G X F pc L [] M := by
  intro H locs ls hP hS hl
  unfold fW
  rw [hR.2]
  exact W.vret hF.1 hF.2.1 hR.1 (fun t ht hW => ⟨rfl, hF.inv hP hS ht hW, hS.F ht⟩) hS.2.2 dg (hlocks := hF.2.2.2.2.2.2.2.2.2.2.2.2)
theorem g_aret (hF : FK X F cc own nL d) {v : Value} {n : String} (hv : v = .null ∨ ∃ a, v = .ref a) (hR : FR X F (some (.object n)) (some v) M) (dg : decode cc pc = .ok (.areturn, 1)) : G X F pc L [v] M := by
  intro H locs ls hP hS hl
  unfold fW
  rw [hR.2]
  have hv' : cv X v = .null ∨ ∃ a, cv X v = .ref a := by
    rcases hv with rfl | ⟨a, rfl⟩
    · exact Or.inl rfl
    · exact Or.inr ⟨_, rfl⟩
  exact W.aret (v := cv X v) hF.1 hF.2.1 hR.1 (Or.inl ⟨n, rfl⟩) hv' (fun t ht hW => ⟨rfl, hF.inv hP hS ht hW, hS.F ht⟩) hS.2.2 dg (hlocks := hF.2.2.2.2.2.2.2.2.2.2.2.2)
/-- behind a call -/
theorem g_run {a : Array Value} {o : Option Value} (hr : ∀ (H : Heap) (locs : List Loc) (ls : Array Slot), va_P (xD X) classes (wl X M) H → va_S (xA X) (fS F).heap H locs → lvR X ls L → va_Run (fP F) (fL F) (fE F) (fR F) (fS F) (fM F) (fA F) (fB F) (fT F) (fC F) H locs (fc F) (fs F) 0 0 (F0 (fM F) pc ls (st0.map (cv X))) (st.map (cv X)) (Qct X o M' a) (xA X)) (kk : G X F (pc + 3) L (o.toList ++ st) M') : G X F pc L st0 M := by
  intro H locs ls hP hS hl T hT XT
  obtain ⟨v, s0, t, T', L', h0, X', hL, e1, e2, ⟨hv, hI, hz, hk⟩, stp⟩ := hr H locs ls hP hS hl T hT XT
  have hv' : v = o.map (cv X) := by injection hv
  subst hv'
  rw [h0] at hz hk
  have hS' : va_S (xA X) (fS F).heap T'.heap (locs ++ L') := ⟨Nat.le_trans hS.1 (by rw [e1]; exact hz), fun q h1 h2 => by rw [e1, hk q (Nat.lt_of_lt_of_le h1 hS.1) h2]; exact hS.2.1 q h1 h2, fun q hq => by
    rcases List.mem_append.mp hq with h | h
    · exact hS.2.2 q h
    · exact hL q h⟩
  obtain ⟨t2, a1, b1⟩ := kk T'.heap (locs ++ L') ls (by rw [e1]; exact hI.1) hS' hl T' rfl X'
  refine ⟨t2, stp t2 ?_, b1⟩
  have he : (o.toList ++ st).map (cv X) = (o.map (cv X)).toList ++ st.map (cv X) := by cases o <;> simp
  rw [he] at a1
  exact a1
theorem tb_gi {ws : List Cond} {w4 : Cond} (h : ∀ w ∈ ws, w ∈ tb) (h4 : w4 ∈ tb) : GoodIn tb (ws ++ (w4 :: tb)) := by
  intro w hw
  have hm : w ∈ tb := by
    rcases List.mem_append.mp hw with h1 | h1
    · exact h w h1
    · rcases List.mem_cons.mp h1 with rfl | h1
      · exact h4
      · exact h1
  exact ⟨hm, tb_good hm⟩
theorem cat_sum (X : Cx) (st : List Value) : ((st.map (cv X)).map fun v => v.category).sum = (st.map fun v => v.category).sum := by
  rw [List.map_map]
  congr 1
  apply List.map_congr_left
  intro v _
  exact cv_cat X v
theorem room_le (hF : FK X F cc own nL d) {d' mL : Nat} (hd : d' + 1 ≤ d) (hm : mL ≤ 21) : (rmD d').frames + 1 ≤ (fR F).frames ∧ 8 + (mL + 11) + (rmD d').locals ≤ (fR F).locals := by
  have h1 := hF.2.2.2.2.2.2.2.2.1
  have h2 := hF.2.2.2.2.2.2.2.2.2.1
  show d' + 1 ≤ _ ∧ 8 + (mL + 11) + 40 * d' ≤ _
  omega
theorem g_callV (hF : FK X F cc own nL d) {y : MethodName} {cb : ByteArray} {mL : Nat} {ret : Option FieldType} {d' : Nat} {as : List Value} {o : Option Value} {C : String} {T : u_T} {N ci index n k : Nat} (hc : classes[ci]? = some (C, T, N)) (hci : ci < 20) (w1 : Cond.methodLink own index y ∈ tb) (w2 : Cond.instanceMethod y ∈ tb) (w3 : Cond.selects C y y ∈ tb) (w4 : Cond.code y cb mL ret ∈ tb) (w5 : Cond.initialized C ∈ tb) (hy : y.cls = C ∧ y.cls ≠ "java/lang/invoke/MethodHandle" ∧ y.cls ≠ "java/lang/invoke/VarHandle" ∧ (parseMethodDescriptor y.desc).map (fun d => d.parameters.length) = some n) (hm : mL ≤ 21) (hk : k ∈ xcs X) (hkd : kd k = ci) (hM : Ctr X (fL F) y cb mL ret d' (.ref k :: as) M o M') (hd : d' + 1 ≤ d) (hn : as.length = n) (hs : st0 = as.reverse ++ .ref k :: st) (hLn : L.length = nL) (hrm : Nat.ble ((st.map fun v => v.category).sum) 8 = true) (dg : decode cc pc = .ok (.invokevirtual index, 3)) (kk : G X F (pc + 3) L (o.toList ++ st) M') : G X F pc L st0 M := by
  refine g_run (a := (Value.ref (xad X k) :: as.map (cv X)).toArray) (fun H locs ls hP hS hl => ?_) kk
  obtain ⟨p, hp⟩ := wl_at hk M
  rw [ce_obj hkd hci] at hp
  refine va_runV (As := as.map (cv X)) (C := C) (b := xad X k) (nL := nL) (cc := cc) (Ts := tb) (own := own) ⟨hF.1, hF.2.1, hF.2.2.1, hF.2.2.2.1, hF.2.2.2.2.1⟩ hM (cwV n hF.2.2.2.2.1 (tb_gi (ws := [.methodLink own index y, .instanceMethod y, .selects C y y, .initialized C]) (fun w hw => by
    simp only [List.mem_cons, List.not_mem_nil, or_false] at hw
    rcases hw with rfl | rfl | rfl | rfl <;> assumption) w4) rfl rfl rfl hy (room_le hF hd hm)) ⟨Inv.blind, ?_, fun U hU hW => ⟨rfl, hF.inv hP hS hU hW⟩⟩ rfl (by rw [List.length_map]; exact hn) (by show ls.size = nL; rw [hl.1]; exact hLn) (by subst hs; simp [cv, F0]) (lv_room (by rw [cat_sum]; exact Nat.le_of_ble_eq_true hrm)) dg ⟨hF.2.2.2.2.2.2.2.2.2.2.1, hF.2.2.2.2.2.2.2.2.2.2.2.1⟩
  exact va_recv hF.2.2.2.2.2.1.k0 hP hc hp
theorem g_callS (hF : FK X F cc own nL d) {y : MethodName} {cb : ByteArray} {mL : Nat} {ret : Option FieldType} {d' : Nat} {as : List Value} {o : Option Value} {index n : Nat} (w1 : Cond.methodLink own index y ∈ tb) (w2 : Cond.static y ∈ tb) (w4 : Cond.code y cb mL ret ∈ tb) (w5 : Cond.initialized y.cls ∈ tb) (hy : y.cls ≠ "java/lang/invoke/MethodHandle" ∧ y.cls ≠ "java/lang/invoke/VarHandle" ∧ (parseMethodDescriptor y.desc).map (fun d => d.parameters.length) = some n) (hm : mL ≤ 21) (hM : Ctr X (fL F) y cb mL ret d' as M o M') (hd : d' + 1 ≤ d) (hn : as.length = n) (hs : st0 = as.reverse ++ st) (hLn : L.length = nL) (hrm : Nat.ble ((st.map fun v => v.category).sum) 8 = true) (dg : decode cc pc = .ok (.invokestatic index, 3)) (kk : G X F (pc + 3) L (o.toList ++ st) M') : G X F pc L st0 M := by
  refine g_run (a := (as.map (cv X)).toArray) (fun H locs ls hP hS hl => ?_) kk
  exact va_runS (As := as.map (cv X)) (nL := nL) (cc := cc) (Ts := tb) (own := own) ⟨hF.1, hF.2.1, hF.2.2.1, hF.2.2.2.1, hF.2.2.2.2.1⟩ hM (va_cwS n hF.2.2.2.2.1 (tb_gi (ws := [.methodLink own index y, .static y, .initialized y.cls]) (fun w hw => by
    simp only [List.mem_cons, List.not_mem_nil, or_false] at hw
    rcases hw with rfl | rfl | rfl <;> assumption) w4) rfl rfl rfl hy (room_le hF hd hm)) ⟨Inv.blind, fun U hU hW => ⟨rfl, hF.inv hP hS hU hW⟩⟩ rfl (by rw [List.length_map]; exact hn) (by show ls.size = nL; rw [hl.1]; exact hLn) (by subst hs; simp [F0]) (lv_room (by rw [cat_sum]; exact Nat.le_of_ble_eq_true hrm)) dg ⟨hF.2.2.2.2.2.2.2.2.2.2.1, hF.2.2.2.2.2.2.2.2.2.2.2.1⟩
theorem g_callSN (hF : FK X F cc own nL d) {y : MethodName} {cb : ByteArray} {mL : Nat} {ret : Option FieldType} {d' : Nat} {as : List Value} {o : Option Value} {index n : Nat} {host : String} (w1 : va_Nw (.methodLinkNest own index y host) (fS F)) (w2 : Cond.static y ∈ tb) (w4 : Cond.code y cb mL ret ∈ tb) (w5 : Cond.initialized y.cls ∈ tb) (hy : y.cls ≠ "java/lang/invoke/MethodHandle" ∧ y.cls ≠ "java/lang/invoke/VarHandle" ∧ (parseMethodDescriptor y.desc).map (fun d => d.parameters.length) = some n) (hm : mL ≤ 21) (hM : Ctr X (fL F) y cb mL ret d' as M o M') (hd : d' + 1 ≤ d) (hn : as.length = n) (hs : st0 = as.reverse ++ st) (hLn : L.length = nL) (hrm : Nat.ble ((st.map fun v => v.category).sum) 8 = true) (dg : decode cc pc = .ok (.invokestatic index, 3)) (kk : G X F (pc + 3) L (o.toList ++ st) M') : G X F pc L st0 M := by
  refine g_run (a := (as.map (cv X)).toArray) (fun H locs ls hP hS hl => ?_) kk
  exact va_runSN (As := as.map (cv X)) (nL := nL) (cc := cc) (Ts := tb) (own := own) (host := host) ⟨hF.1, hF.2.1, hF.2.2.1, hF.2.2.2.1, hF.2.2.2.2.1⟩ hM ⟨va_cnB n hF.2.2.2.2.1 (tb_gi (ws := []) (fun w hw => by cases hw) w4) rfl rfl rfl w1 (hF.2.2.2.2.1 _ w5) hy (room_le hF hd hm), hF.2.2.2.2.1 _ w2, trivial⟩ ⟨Inv.blind, fun U hU hW => ⟨rfl, hF.inv hP hS hU hW⟩⟩ rfl (by rw [List.length_map]; exact hn) (by show ls.size = nL; rw [hl.1]; exact hLn) (by subst hs; simp [F0]) (lv_room (by rw [cat_sum]; exact Nat.le_of_ble_eq_true hrm)) dg ⟨hF.2.2.2.2.2.2.2.2.2.2.1, hF.2.2.2.2.2.2.2.2.2.2.2.1⟩
end GC
