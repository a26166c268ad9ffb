/-! Copies, Math, what is constant. -/
def cp2 (M : Mem) (k0 k1 n : Nat) : Mem := fun a b => if a = k1 ∧ b < n then M k0 b else M a b
theorem cp2_row (M : Mem) (k0 k1 n : Nat) : (cp2 M k0 k1 n) k1 = va_cpy (M k0) (M k1) 0 0 n := by
  funext b
  by_cases h : b < n <;> simp [cp2, va_cpy, h]
theorem cp2_other (M : Mem) {k0 k1 a : Nat} (n : Nat) (h : a ≠ k1) : (cp2 M k0 k1 n) a = M a := by
  funext b
  simp [cp2, h]
section GM
variable {X : Cx} {F : Fx} {cc : ByteArray} {own : String} {nL d pc : Nat} {L : List (Option Value)} {st st0 : List Value} {M M' : Mem}
theorem g_copy (hF : FK X F cc own nL d) {k0 k1 index : Nat} {n : Int32} (w1 : Cond.methodLink own index arraycopyName ∈ tb) (w2 : Cond.native arraycopyName ∈ tb) (w3 : Cond.static arraycopyName ∈ tb) (w5 : Cond.initialized "java/lang/System" ∈ tb) (hk0 : k0 ∈ xcs X) (hd0 : kd k0 = 20) (hk1 : k1 ∈ xcs X) (hd1 : kd k1 = 20) (h3 : ¬ n < 0) (h4 : n.toNatClampNeg ≤ ln k0) (h5 : n.toNatClampNeg ≤ ln k1) (hd : 1 ≤ d) (hLn : L.length = nL) (hrm : Nat.ble ((st.map fun v => v.category).sum) 8 = true) (dg : decode cc pc = .ok (.invokestatic index, 3)) (kk : G X F (pc + 3) L st (cp2 M k0 k1 n.toNatClampNeg)) : G X F pc L (.int n :: .int 0 :: .ref k1 :: .int 0 :: .ref k0 :: st) M := by
  intro H locs ls hP hS hl
  obtain ⟨p0, hp0⟩ := wl_at hk0 M
  obtain ⟨p1, hp1⟩ := wl_at hk1 M
  have hp1' := hp1
  rw [ce_arr (by rw [hd0]; omega) (by rw [hd0]; omega)] at hp0
  rw [ce_arr (by rw [hd1]; omega) (by rw [hd1]; omega)] at hp1
  have hr1 := hF.2.2.2.2.2.2.2.2.1
  have hr2 := hF.2.2.2.2.2.2.2.2.2.1
  have hts := hF.2.2.2.2.1
  have h00 : (0 : Int32).toNatClampNeg = 0 := rfl
  refine va_copyi hF.1 hF.2.1 (by rw [hF.2.2.1, hl.1]; exact hLn.symm) hF.2.2.2.1 (hts _ w1) (hts _ w2) (hts _ w3) (hts _ w5) (hF.2.2.2.2.2.1.k2 hk0 (by rw [hd0]; omega) hk1 (by rw [hd1]; omega) (ty := .int) (by simp [kty, hd0]) (by simp [kty, hd1])) hP (wl_D hF.2.2.2.2.2.2.2.1 M) hS p0 p1 0 1 hp0 hp1 rfl rfl rfl (by decide) (by decide) h3 (by rw [h00]; omega) (by rw [h00]; omega) (fun i _ => rfl) (by omega) ?_ dg (fun H1 locs1 hP1 hD1 hS1 => ?_)
  · rw [cat_sum]
    have h8 := Nat.le_of_ble_eq_true hrm
    have h9 : nativeFrameWords "java/lang/System" "arraycopy" 5 + 11 ≤ 32 := by decide +kernel
    omega
  · rw [h00, wl_set hF.2.2.2.2.2.2.2.1 hp1' hk1 (M' := cp2 M k0 k1 n.toNatClampNeg) (by rw [ce_arr (by rw [hd1]; omega) (by rw [hd1]; omega), cp2_row]) (fun a ha => ce_row (cp2_other M _ ha))] at hP1
    exact kk H1 locs1 ls hP1 hS1 hl
theorem g_mmax (hF : FK X F cc own nL d) {index : Nat} {x y : Int32} (w1 : Cond.methodLink own index Lib.Math.max.name ∈ tb) (w2 : Cond.static Lib.Math.max.name ∈ tb) (w5 : Cond.initialized "java/lang/Math" ∈ tb) (w4 : Cond.code Lib.Math.max.name Lib.Math.max.code 2 (some .int) ∈ tb) (hd : 1 ≤ d) (hLn : L.length = nL) (hrm : Nat.ble ((st.map fun v => v.category).sum) 8 = true) (dg : decode cc pc = .ok (.invokestatic index, 3)) (kk : G X F (pc + 3) L (.int (if x < y then y else x) :: st) M) : G X F pc L (.int y :: .int x :: st) M := by
  intro H locs ls hP hS hl
  have hr1 := hF.2.2.2.2.2.2.2.2.1
  have hr2 := hF.2.2.2.2.2.2.2.2.2.1
  have hts := hF.2.2.2.2.1
  have h8 := Nat.le_of_ble_eq_true hrm
  exact va_mmax hF.1 hF.2.1 (by rw [hF.2.2.1, hl.1]; exact hLn.symm) hF.2.2.2.1 (hts _ w1) (hts _ w2) (hts _ w5) (hts _ w4) (by omega) (by rw [cat_sum]; omega) hF.2.2.2.2.2.2.2.2.2.2.1 hF.2.2.2.2.2.2.2.2.2.2.2.1 dg (kk H locs ls hP hS hl)
theorem g_mmin (hF : FK X F cc own nL d) {index : Nat} {x y : Int32} (w1 : Cond.methodLink own index Lib.Math.min.name ∈ tb) (w2 : Cond.static Lib.Math.min.name ∈ tb) (w5 : Cond.initialized "java/lang/Math" ∈ tb) (w4 : Cond.code Lib.Math.min.name Lib.Math.min.code 2 (some .int) ∈ tb) (hd : 1 ≤ d) (hLn : L.length = nL) (hrm : Nat.ble ((st.map fun v => v.category).sum) 8 = true) (dg : decode cc pc = .ok (.invokestatic index, 3)) (kk : G X F (pc + 3) L (.int (if y < x then y else x) :: st) M) : G X F pc L (.int y :: .int x :: st) M := by
  intro H locs ls hP hS hl
  have hr1 := hF.2.2.2.2.2.2.2.2.1
  have hr2 := hF.2.2.2.2.2.2.2.2.2.1
  have hts := hF.2.2.2.2.1
  have h8 := Nat.le_of_ble_eq_true hrm
  exact va_mmin hF.1 hF.2.1 (by rw [hF.2.2.1, hl.1]; exact hLn.symm) hF.2.2.2.1 (hts _ w1) (hts _ w2) (hts _ w5) (hts _ w4) (by omega) (by rw [cat_sum]; omega) hF.2.2.2.2.2.2.2.2.2.2.1 hF.2.2.2.2.2.2.2.2.2.2.2.1 dg (kk H locs ls hP hS hl)
/-- a table of the class's own (cell 1060 + i) -/
theorem g_gett (hF : FK X F cc RX6 nL d) {index i : Nat} (hi : i < 5) (w1 : Cond.fieldLink RX6 index RX6 (tNames.getD i "") "[I" ∈ tb) (dg : decode cc pc = .ok (.getstatic index, 3)) (kk : G X F (pc + 3) L (.ref (1060 + i) :: st) M) : G X F pc L st M := fun H locs ls hP hS hl =>
  va_gets hF.1 hF.2.1 (hF.2.2.2.2.2.2.1.2.1 i hi).1 hS hF.2.2.2.1 (hF.2.2.2.2.1 _ w1) (fun _ h => h) dg (kk H locs ls hP hS hl)
theorem g_gettN (hF : FK X F cc RX4 nL d) {index i : Nat} (hi : i < 5) (w1 : va_Nw (.fieldLinkNest RX4 index RX6 (tNames.getD i "") "[I" RX6) (fS F)) (dg : decode cc pc = .ok (.getstatic index, 3)) (kk : G X F (pc + 3) L (.ref (1060 + i) :: st) M) : G X F pc L st M := fun H locs ls hP hS hl =>
  va_getsN hF.1 hF.2.1 (hF.2.2.2.2.2.2.1.2.1 i hi).1 hS hF.2.2.2.1 (va_Nw.use rfl w1) (fun _ h => h) dg (kk H locs ls hP hS hl)
theorem g_ti (hF : FK X F cc own nL d) {i : Nat} {j : Int32} (hi : i < 5) (hj : vp_in j (tN i)) (dg : decode cc pc = .ok (.iaload, 1)) (kk : G X F (pc + 1) L (.int (tV i j.toNatClampNeg) :: st) M) : G X F pc L (.int j :: .ref (1060 + i) :: st) M := fun H locs ls hP hS hl =>
  va_ti hF.1 hF.2.1 (hF.2.2.2.2.2.2.1.2.1 i hi).2 hS hj rfl dg (kk H locs ls hP hS hl)
theorem g_tlen (hF : FK X F cc own nL d) {i : Nat} {v : Int32} (hi : i < 5) (hv : Int32.ofNat (tN i) = v) (dg : decode cc pc = .ok (.arraylength, 1)) (kk : G X F (pc + 1) L (.int v :: st) M) : G X F pc L (.ref (1060 + i) :: st) M := fun H locs ls hP hS hl =>
  va_tlen hF.1 hF.2.1 (hF.2.2.2.2.2.2.1.2.1 i hi).2 hS hv dg (kk H locs ls hP hS hl)
/-- a clause's fields (cell 1000 + i), a text's (1020 + i), its letters (1040 + i) -/
theorem g_cword (hF : FK X F cc own nL d) {index i : Nat} (hi : i < 13) (w1 : Cond.fieldLink own index RX0 "word" "Ljava/lang/String;" ∈ tb) (dg : decode cc pc = .ok (.getfield index, 3)) (kk : G X F (pc + 3) L (.ref (1020 + i) :: st) M) : G X F pc L (.ref (1000 + i) :: st) M := fun H locs ls hP hS hl =>
  vk_getf hF.1 hF.2.1 (hF.2.2.2.2.2.2.1.1 i hi).2.1 hS hF.2.2.2.1 (hF.2.2.2.2.1 _ w1) (fun _ h => h) dg (kk H locs ls hP hS hl)
theorem g_cdeed (hF : FK X F cc own nL d) {index i : Nat} (hi : i < 13) (w1 : Cond.fieldLink own index RX0 "deed" "I" ∈ tb) (dg : decode cc pc = .ok (.getfield index, 3)) (kk : G X F (pc + 3) L (.int (cDeeds.getD i 0) :: st) M) : G X F pc L (.ref (1000 + i) :: st) M := fun H locs ls hP hS hl =>
  vk_getf hF.1 hF.2.1 (hF.2.2.2.2.2.2.1.1 i hi).2.2.1 hS hF.2.2.2.1 (hF.2.2.2.2.1 _ w1) (fun _ h => h) dg (kk H locs ls hP hS hl)
theorem g_ckind (hF : FK X F cc own nL d) {index i : Nat} (hi : i < 13) (w1 : Cond.fieldLink own index RX0 "kind" "I" ∈ tb) (dg : decode cc pc = .ok (.getfield index, 3)) (kk : G X F (pc + 3) L (.int (cKinds.getD i 0) :: st) M) : G X F pc L (.ref (1000 + i) :: st) M := fun H locs ls hP hS hl =>
  vk_getf hF.1 hF.2.1 (hF.2.2.2.2.2.2.1.1 i hi).2.2.2.1 hS hF.2.2.2.1 (hF.2.2.2.2.1 _ w1) (fun _ h => h) dg (kk H locs ls hP hS hl)
theorem g_scoder (hF : FK X F cc own nL d) {index i : Nat} (hi : i < 13) (w1 : Cond.fieldLink own index "java/lang/String" "coder" "B" ∈ tb) (dg : decode cc pc = .ok (.getfield index, 3)) (kk : G X F (pc + 3) L (.int 0 :: st) M) : G X F pc L (.ref (1020 + i) :: st) M := fun H locs ls hP hS hl =>
  vk_getf hF.1 hF.2.1 (hF.2.2.2.2.2.2.1.1 i hi).2.2.2.2.2.1 hS hF.2.2.2.1 (hF.2.2.2.2.1 _ w1) (fun _ h => h) dg (kk H locs ls hP hS hl)
theorem g_svalue (hF : FK X F cc own nL d) {index i : Nat} (hi : i < 13) (w1 : Cond.fieldLink own index "java/lang/String" "value" "[B" ∈ tb) (dg : decode cc pc = .ok (.getfield index, 3)) (kk : G X F (pc + 3) L (.ref (1040 + i) :: st) M) : G X F pc L (.ref (1020 + i) :: st) M := fun H locs ls hP hS hl =>
  vk_getf hF.1 hF.2.1 (hF.2.2.2.2.2.2.1.1 i hi).2.2.2.2.2.2.1 hS hF.2.2.2.1 (hF.2.2.2.2.1 _ w1) (fun _ h => h) dg (kk H locs ls hP hS hl)
theorem g_sbyte (hF : FK X F cc own nL d) {i : Nat} {j : Int32} (hi : i < 13) (hj : vp_in j (cN i)) (dg : decode cc pc = .ok (.baload, 1)) (kk : G X F (pc + 1) L (.int (cB i j.toNatClampNeg) :: st) M) : G X F pc L (.int j :: .ref (1040 + i) :: st) M := fun H locs ls hP hS hl =>
  va_tb hF.1 hF.2.1 (hF.2.2.2.2.2.2.1.1 i hi).2.2.2.2.2.2.2 hS hj rfl dg (kk H locs ls hP hS hl)
theorem g_slen (hF : FK X F cc own nL d) {i : Nat} {v : Int32} (hi : i < 13) (hv : Int32.ofNat (cN i) = v) (dg : decode cc pc = .ok (.arraylength, 1)) (kk : G X F (pc + 1) L (.int v :: st) M) : G X F pc L (.ref (1040 + i) :: st) M := fun H locs ls hP hS hl =>
  va_tlen hF.1 hF.2.1 (hF.2.2.2.2.2.2.1.1 i hi).2.2.2.2.2.2.2 hS hv dg (kk H locs ls hP hS hl)
theorem g_scs (hF : FK X F cc own nL d) {index : Nat} (w1 : Cond.fieldLink own index "java/lang/String" "COMPACT_STRINGS" "Z" ∈ tb) (dg : decode cc pc = .ok (.getstatic index, 3)) (kk : G X F (pc + 3) L (.int 1 :: st) M) : G X F pc L st M := fun H locs ls hP hS hl =>
  va_gets hF.1 hF.2.1 hF.2.2.2.2.2.2.1.2.2.1.1 hS hF.2.2.2.1 (hF.2.2.2.2.1 _ w1) (fun _ h => h) dg (kk H locs ls hP hS hl)
theorem g_sfm (hF : FK X F cc own nL d) {index : Nat} (w1 : Cond.fieldLink own index "jdk/internal/util/Preconditions" "SIOOBE_FORMATTER" "Ljava/util/function/BiFunction;" ∈ tb) (dg : decode cc pc = .ok (.getstatic index, 3)) (kk : G X F (pc + 3) L (.null :: st) M) (kr : G X F (pc + 3) L (.ref 1099 :: st) M) : G X F pc L st M := fun H locs ls hP hS hl => by
  rcases hF.2.2.2.2.2.2.1.2.2.1.2 with h | h
  · exact va_gets hF.1 hF.2.1 h hS hF.2.2.2.1 (hF.2.2.2.2.1 _ w1) (fun _ h => h) dg (kk H locs ls hP hS hl)
  · exact va_gets hF.1 hF.2.1 h hS hF.2.2.2.1 (hF.2.2.2.2.1 _ w1) (fun _ h => h) dg (kr H locs ls hP hS hl)
/-- a call on a text -/
theorem g_callVS (hF : FK X F cc own nL d) {y : MethodName} {cb : ByteArray} {mL : Nat} {ret : Option FieldType} {d' : Nat} {as : List Value} {o : Option Value} {index n i : Nat} (hi : i < 13) (w1 : Cond.methodLink own index y ∈ tb) (w2 : Cond.instanceMethod y ∈ tb) (w3 : Cond.selects "java/lang/String" y y ∈ tb) (w4 : Cond.code y cb mL ret ∈ tb) (w5 : Cond.initialized "java/lang/String" ∈ tb) (hy : y.cls = "java/lang/String" ∧ y.cls ≠ "java/lang/invoke/MethodHandle" ∧ y.cls ≠ "java/lang/invoke/VarHandle" ∧ (parseMethodDescriptor y.desc).map (fun d => d.parameters.length) = some n) (hm : mL ≤ 21) (hM : Ctr X (fL F) y cb mL ret d' (.ref (1020 + i) :: as) M o M') (hd : d' + 1 ≤ d) (hn : as.length = n) (hs : st0 = as.reverse ++ .ref (1020 + i) :: st) (hLn : L.length = nL) (hrm : Nat.ble ((st.map fun v => v.category).sum) 8 = true) (dg : decode cc pc = .ok (.invokevirtual index, 3)) (kk : G X F (pc + 3) L (o.toList ++ st) M') : G X F pc L st0 M := by
  refine g_run (a := (Value.ref (xad X (1020 + i)) :: as.map (cv X)).toArray) (fun H locs ls hP hS hl => ?_) kk
  refine va_runV (As := as.map (cv X)) (C := "java/lang/String") (b := xad X (1020 + i)) (nL := nL) (cc := cc) (Ts := tb) (own := own) ⟨hF.1, hF.2.1, hF.2.2.1, hF.2.2.2.1, hF.2.2.2.2.1⟩ hM (cwV n hF.2.2.2.2.1 (tb_gi (ws := [.methodLink own index y, .instanceMethod y, .selects "java/lang/String" y y, .initialized "java/lang/String"]) (fun w hw => by
    simp only [List.mem_cons, List.not_mem_nil, or_false] at hw
    rcases hw with rfl | rfl | rfl | rfl <;> assumption) w4) rfl rfl rfl hy (room_le hF hd hm)) ⟨Inv.blind, ?_, fun U hU hW => ⟨rfl, hF.inv hP hS hU hW⟩⟩ rfl (by rw [List.length_map]; exact hn) (by show ls.size = nL; rw [hl.1]; exact hLn) (by subst hs; simp [cv, F0]) (lv_room (by rw [cat_sum]; exact Nat.le_of_ble_eq_true hrm)) dg ⟨hF.2.2.2.2.2.2.2.2.2.2.1, hF.2.2.2.2.2.2.2.2.2.2.2.1⟩
  obtain ⟨cell, h1, h2, h3, -⟩ := (hF.2.2.2.2.2.2.1.1 i hi).2.2.2.2.1.kept hS.2.1
  exact ⟨cell, h1, h2, h3⟩
end GM
