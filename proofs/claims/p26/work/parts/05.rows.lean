/-! Rows over G: an instruction a row. -/
def dck (cb : ByteArray) (t : List (Nat × Instr × Nat)) : Bool := t.all (fun q => decide (decode cb q.1 = .ok q.2))
theorem dck_at {cb : ByteArray} {t : List (Nat × Instr × Nat)} (h : dck cb t = true) (i : Nat) {pc n : Nat} {ins : Instr} (hi : t[i]? = some (pc, ins, n)) : decode cb pc = .ok (ins, n) := by
  unfold dck at h
  have h1 := List.all_eq_true.mp h (pc, ins, n) (List.mem_of_getElem? hi)
  simpa only [decide_eq_true_eq] using h1
section GR
variable {X : Cx} {F : Fx} {cc : ByteArray} {own : String} {nL d pc : Nat} {L : List (Option Value)} {st : List Value} {M : Mem}
theorem g_iconst (hF : FK X F cc own nL d) {n : Int} {v : Int32} (dg : decode cc pc = .ok (.iconst n, 1)) (hv : Int32.ofInt n = v) (kk : G X F (pc + 1) L (.int v :: st) M) : G X F pc L st M := fun H locs ls hP hS hl => lv_iconst hF.1 hF.2.1 dg hv (kk H locs ls hP hS hl)
theorem g_bipush (hF : FK X F cc own nL d) {n : Int} {v : Int32} (dg : decode cc pc = .ok (.bipush n, 2)) (hv : (Int8.ofInt n).toInt32 = v) (kk : G X F (pc + 2) L (.int v :: st) M) : G X F pc L st M := fun H locs ls hP hS hl => lv_bipush hF.1 hF.2.1 dg hv (kk H locs ls hP hS hl)
theorem g_sipush (hF : FK X F cc own nL d) {n : Int} {v : Int32} (dg : decode cc pc = .ok (.sipush n, 3)) (hv : (Int16.ofInt n).toInt32 = v) (kk : G X F (pc + 3) L (.int v :: st) M) : G X F pc L st M := fun H locs ls hP hS hl => lv_sipush hF.1 hF.2.1 dg hv (kk H locs ls hP hS hl)
theorem g_lconst (hF : FK X F cc own nL d) {n : Fin 2} {v : Int64} (dg : decode cc pc = .ok (.lconst n, 1)) (hv : Int64.ofNat (n : Nat) = v) (kk : G X F (pc + 1) L (.long v :: st) M) : G X F pc L st M := fun H locs ls hP hS hl => lv_lconst hF.1 hF.2.1 dg hv (kk H locs ls hP hS hl)
theorem g_ldc (hF : FK X F cc own nL d) {index : Nat} {v : Int32} (hw : Cond.constant own index v ∈ tb) (dg : decode cc pc = .ok (.ldc index, 2)) (kk : G X F (pc + 2) L (.int v :: st) M) : G X F pc L st M := fun H locs ls hP hS hl => lv_ldc hF.1 hF.2.1 hF.2.2.2.1 (hF.2.2.2.2.1 _ hw) dg (kk H locs ls hP hS hl)
theorem g_ldc2 (hF : FK X F cc own nL d) {index : Nat} {v : Int64} (hw : Cond.constantLong own index v ∈ tb) (dg : decode cc pc = .ok (.ldc2_w index, 3)) (kk : G X F (pc + 3) L (.long v :: st) M) : G X F pc L st M := fun H locs ls hP hS hl => lv_ldc2 hF.1 hF.2.1 hF.2.2.2.1 (hF.2.2.2.2.1 _ hw) dg (kk H locs ls hP hS hl)
theorem g_ldcw (hF : FK X F cc own nL d) {index : Nat} {v : Int32} (hw : Cond.constant own index v ∈ tb) (dg : decode cc pc = .ok (.ldc_w index, 3)) (kk : G X F (pc + 3) L (.int v :: st) M) : G X F pc L st M := fun H locs ls hP hS hl => lv_ldcw hF.1 hF.2.1 hF.2.2.2.1 (hF.2.2.2.2.1 _ hw) dg (kk H locs ls hP hS hl)
theorem g_null (hF : FK X F cc own nL d) (dg : decode cc pc = .ok (.aconst_null, 1)) (kk : G X F (pc + 1) L (.null :: st) M) : G X F pc L st M := fun H locs ls hP hS hl => lv_null hF.1 hF.2.1 dg (kk H locs ls hP hS hl)
theorem g_iload_n (hF : FK X F cc own nL d) {k : Fin 4} {x : Int32} (dg : decode cc pc = .ok (.iload_n k, 1)) (hx : L[(k : Nat)]? = some (some (.int x))) (kk : G X F (pc + 1) L (.int x :: st) M) : G X F pc L st M := fun H locs ls hP hS hl => lv_iload_n hF.1 hF.2.1 dg rfl (hl.get hx) (kk H locs ls hP hS hl)
theorem g_iload (hF : FK X F cc own nL d) {k : Nat} {x : Int32} (dg : decode cc pc = .ok (.iload k, 2)) (hx : L[k]? = some (some (.int x))) (kk : G X F (pc + 2) L (.int x :: st) M) : G X F pc L st M := fun H locs ls hP hS hl => lv_iload hF.1 hF.2.1 dg (hl.get hx) (kk H locs ls hP hS hl)
theorem g_lload_n (hF : FK X F cc own nL d) {k : Fin 4} {x : Int64} (dg : decode cc pc = .ok (.lload_n k, 1)) (hx : L[(k : Nat)]? = some (some (.long x))) (kk : G X F (pc + 1) L (.long x :: st) M) : G X F pc L st M := fun H locs ls hP hS hl => lv_lload_n hF.1 hF.2.1 dg rfl (hl.get hx) (kk H locs ls hP hS hl)
theorem g_lload (hF : FK X F cc own nL d) {k : Nat} {x : Int64} (dg : decode cc pc = .ok (.lload k, 2)) (hx : L[k]? = some (some (.long x))) (kk : G X F (pc + 2) L (.long x :: st) M) : G X F pc L st M := fun H locs ls hP hS hl => lv_lload hF.1 hF.2.1 dg (hl.get hx) (kk H locs ls hP hS hl)
theorem g_aload_n (hF : FK X F cc own nL d) {k : Fin 4} {x : Nat} (dg : decode cc pc = .ok (.aload_n k, 1)) (hx : L[(k : Nat)]? = some (some (.ref x))) (kk : G X F (pc + 1) L (.ref x :: st) M) : G X F pc L st M := fun H locs ls hP hS hl => lv_aload_n hF.1 hF.2.1 dg rfl (hl.get hx) (kk H locs ls hP hS hl)
theorem g_aload (hF : FK X F cc own nL d) {k : Nat} {x : Nat} (dg : decode cc pc = .ok (.aload k, 2)) (hx : L[k]? = some (some (.ref x))) (kk : G X F (pc + 2) L (.ref x :: st) M) : G X F pc L st M := fun H locs ls hP hS hl => lv_aload hF.1 hF.2.1 dg (hl.get hx) (kk H locs ls hP hS hl)
theorem g_aload_nN (hF : FK X F cc own nL d) {k : Fin 4} (dg : decode cc pc = .ok (.aload_n k, 1)) (hx : L[(k : Nat)]? = some (some .null)) (kk : G X F (pc + 1) L (.null :: st) M) : G X F pc L st M := fun H locs ls hP hS hl => lv_aload_nN hF.1 hF.2.1 dg rfl (hl.get hx) (kk H locs ls hP hS hl)
theorem g_istore_n (hF : FK X F cc own nL d) {k : Fin 4} {x : Int32} {L' : List (Option Value)} (dg : decode cc pc = .ok (.istore_n k, 1)) (hn : (k : Nat) < L.length) (hL : st1 L k (.int x) = L') (kk : G X F (pc + 1) L' st M) : G X F pc L (.int x :: st) M := fun H locs ls hP hS hl => lv_istore_n hF.1 hF.2.1 dg rfl hl hn rfl (fun ls' h' => kk H locs ls' hP hS (hL ▸ lvR.s1 hn h'))
theorem g_istore (hF : FK X F cc own nL d) {k : Nat} {x : Int32} {L' : List (Option Value)} (dg : decode cc pc = .ok (.istore k, 2)) (hn : k < L.length) (hL : st1 L k (.int x) = L') (kk : G X F (pc + 2) L' st M) : G X F pc L (.int x :: st) M := fun H locs ls hP hS hl => lv_istore hF.1 hF.2.1 dg hl hn rfl (fun ls' h' => kk H locs ls' hP hS (hL ▸ lvR.s1 hn h'))
theorem g_astore_n (hF : FK X F cc own nL d) {k : Fin 4} {x : Nat} {L' : List (Option Value)} (dg : decode cc pc = .ok (.astore_n k, 1)) (hn : (k : Nat) < L.length) (hL : st1 L k (.ref x) = L') (kk : G X F (pc + 1) L' st M) : G X F pc L (.ref x :: st) M := fun H locs ls hP hS hl => lv_astore_n hF.1 hF.2.1 dg rfl hl hn rfl (fun ls' h' => kk H locs ls' hP hS (hL ▸ lvR.s1 hn h'))
theorem g_astore (hF : FK X F cc own nL d) {k : Nat} {x : Nat} {L' : List (Option Value)} (dg : decode cc pc = .ok (.astore k, 2)) (hn : k < L.length) (hL : st1 L k (.ref x) = L') (kk : G X F (pc + 2) L' st M) : G X F pc L (.ref x :: st) M := fun H locs ls hP hS hl => lv_astore hF.1 hF.2.1 dg hl hn rfl (fun ls' h' => kk H locs ls' hP hS (hL ▸ lvR.s1 hn h'))
theorem g_astore_nN (hF : FK X F cc own nL d) {k : Fin 4} {L' : List (Option Value)} (dg : decode cc pc = .ok (.astore_n k, 1)) (hn : (k : Nat) < L.length) (hL : st1 L k .null = L') (kk : G X F (pc + 1) L' st M) : G X F pc L (.null :: st) M := fun H locs ls hP hS hl => lv_astore_nN hF.1 hF.2.1 dg rfl hl hn rfl (fun ls' h' => kk H locs ls' hP hS (hL ▸ lvR.s1 (v := .null) hn h'))
theorem g_lstore_n (hF : FK X F cc own nL d) {k : Fin 4} {x : Int64} {L' : List (Option Value)} (dg : decode cc pc = .ok (.lstore_n k, 1)) (hn : (k : Nat) + 1 < L.length) (hL : st2 L k (.long x) = L') (kk : G X F (pc + 1) L' st M) : G X F pc L (.long x :: st) M := fun H locs ls hP hS hl => lv_lstore_n hF.1 hF.2.1 dg rfl hl hn rfl (fun ls' h' => kk H locs ls' hP hS (hL ▸ lvR.s2 hn h'))
theorem g_lstore (hF : FK X F cc own nL d) {k : Nat} {x : Int64} {L' : List (Option Value)} (dg : decode cc pc = .ok (.lstore k, 2)) (hn : k + 1 < L.length) (hL : st2 L k (.long x) = L') (kk : G X F (pc + 2) L' st M) : G X F pc L (.long x :: st) M := fun H locs ls hP hS hl => lv_lstore hF.1 hF.2.1 dg hl hn rfl (fun ls' h' => kk H locs ls' hP hS (hL ▸ lvR.s2 hn h'))
theorem g_iinc (hF : FK X F cc own nL d) {k : Nat} {n : Int} {x v : Int32} {L' : List (Option Value)} (dg : decode cc pc = .ok (.iinc k n, 3)) (hx : L[k]? = some (some (.int x))) (hv : Int32.ofInt n = v) (hL : st1 L k (.int (x + v)) = L') (kk : G X F (pc + 3) L' st M) : G X F pc L st M := by
  intro H locs ls hP hS hl
  have hn : k < L.length := (List.getElem?_eq_some_iff.mp hx).1
  obtain ⟨j, hj⟩ := List.getElem?_of_mem ((lz_mem (X := X) L 0).mpr ⟨k, .int x, hx, rfl⟩)
  rw [Nat.zero_add] at hj
  exact lv_iinc (v := x + v) hF.1 hF.2.1 dg hl hj (by rw [hv]) hn rfl (fun ls' h' => kk H locs ls' hP hS (hL ▸ lvR.s1 hn h'))
theorem g_iadd (hF : FK X F cc own nL d) {x y : Int32} (dg : decode cc pc = .ok (.iadd, 1)) (kk : G X F (pc + 1) L (.int (x + y) :: st) M) : G X F pc L (.int y :: .int x :: st) M := fun H locs ls hP hS hl => lv_iadd hF.1 hF.2.1 dg (kk H locs ls hP hS hl)
theorem g_isub (hF : FK X F cc own nL d) {x y : Int32} (dg : decode cc pc = .ok (.isub, 1)) (kk : G X F (pc + 1) L (.int (x - y) :: st) M) : G X F pc L (.int y :: .int x :: st) M := fun H locs ls hP hS hl => lv_isub hF.1 hF.2.1 dg (kk H locs ls hP hS hl)
theorem g_imul (hF : FK X F cc own nL d) {x y : Int32} (dg : decode cc pc = .ok (.imul, 1)) (kk : G X F (pc + 1) L (.int (x * y) :: st) M) : G X F pc L (.int y :: .int x :: st) M := fun H locs ls hP hS hl => lv_imul hF.1 hF.2.1 dg (kk H locs ls hP hS hl)
theorem g_iand (hF : FK X F cc own nL d) {x y : Int32} (dg : decode cc pc = .ok (.iand, 1)) (kk : G X F (pc + 1) L (.int (x &&& y) :: st) M) : G X F pc L (.int y :: .int x :: st) M := fun H locs ls hP hS hl => lv_iand hF.1 hF.2.1 dg (kk H locs ls hP hS hl)
theorem g_ior (hF : FK X F cc own nL d) {x y : Int32} (dg : decode cc pc = .ok (.ior, 1)) (kk : G X F (pc + 1) L (.int (x ||| y) :: st) M) : G X F pc L (.int y :: .int x :: st) M := fun H locs ls hP hS hl => lv_ior hF.1 hF.2.1 dg (kk H locs ls hP hS hl)
theorem g_ixor (hF : FK X F cc own nL d) {x y : Int32} (dg : decode cc pc = .ok (.ixor, 1)) (kk : G X F (pc + 1) L (.int (x ^^^ y) :: st) M) : G X F pc L (.int y :: .int x :: st) M := fun H locs ls hP hS hl => lv_ixor hF.1 hF.2.1 dg (kk H locs ls hP hS hl)
theorem g_ishl (hF : FK X F cc own nL d) {x y : Int32} (dg : decode cc pc = .ok (.ishl, 1)) (kk : G X F (pc + 1) L (.int (x <<< (y &&& 31)) :: st) M) : G X F pc L (.int y :: .int x :: st) M := fun H locs ls hP hS hl => lv_ishl hF.1 hF.2.1 dg (kk H locs ls hP hS hl)
theorem g_ishr (hF : FK X F cc own nL d) {x y : Int32} (dg : decode cc pc = .ok (.ishr, 1)) (kk : G X F (pc + 1) L (.int (x >>> (y &&& 31)) :: st) M) : G X F pc L (.int y :: .int x :: st) M := fun H locs ls hP hS hl => lv_ishr hF.1 hF.2.1 dg (kk H locs ls hP hS hl)
theorem g_ladd (hF : FK X F cc own nL d) {x y : Int64} (dg : decode cc pc = .ok (.ladd, 1)) (kk : G X F (pc + 1) L (.long (x + y) :: st) M) : G X F pc L (.long y :: .long x :: st) M := fun H locs ls hP hS hl => lv_ladd hF.1 hF.2.1 dg (kk H locs ls hP hS hl)
theorem g_lmul (hF : FK X F cc own nL d) {x y : Int64} (dg : decode cc pc = .ok (.lmul, 1)) (kk : G X F (pc + 1) L (.long (x * y) :: st) M) : G X F pc L (.long y :: .long x :: st) M := fun H locs ls hP hS hl => lv_lmul hF.1 hF.2.1 dg (kk H locs ls hP hS hl)
theorem g_idiv (hF : FK X F cc own nL d) {x y : Int32} (dg : decode cc pc = .ok (.idiv, 1)) (hne : ¬ y = 0) (kk : G X F (pc + 1) L (.int (x / y) :: st) M) : G X F pc L (.int y :: .int x :: st) M := fun H locs ls hP hS hl => lv_idiv hF.1 hF.2.1 dg hne (kk H locs ls hP hS hl)
theorem g_irem (hF : FK X F cc own nL d) {x y : Int32} (dg : decode cc pc = .ok (.irem, 1)) (hne : ¬ y = 0) (kk : G X F (pc + 1) L (.int (x - x / y * y) :: st) M) : G X F pc L (.int y :: .int x :: st) M := fun H locs ls hP hS hl => lv_irem hF.1 hF.2.1 dg hne (kk H locs ls hP hS hl)
theorem g_ldiv (hF : FK X F cc own nL d) {x y : Int64} (dg : decode cc pc = .ok (.ldiv, 1)) (hne : ¬ y = 0) (kk : G X F (pc + 1) L (.long (x / y) :: st) M) : G X F pc L (.long y :: .long x :: st) M := fun H locs ls hP hS hl => lv_ldiv hF.1 hF.2.1 dg hne (kk H locs ls hP hS hl)
theorem g_lrem (hF : FK X F cc own nL d) {x y : Int64} (dg : decode cc pc = .ok (.lrem, 1)) (hne : ¬ y = 0) (kk : G X F (pc + 1) L (.long (x - x / y * y) :: st) M) : G X F pc L (.long y :: .long x :: st) M := fun H locs ls hP hS hl => lv_lrem hF.1 hF.2.1 dg hne (kk H locs ls hP hS hl)
theorem g_iushr (hF : FK X F cc own nL d) {x y : Int32} (dg : decode cc pc = .ok (.iushr, 1)) (kk : G X F (pc + 1) L (.int ((x.toUInt32 >>> (y.toUInt32 &&& Int32.toUInt32 31)).toInt32) :: st) M) : G X F pc L (.int y :: .int x :: st) M := fun H locs ls hP hS hl => lv_iushr hF.1 hF.2.1 dg rfl (kk H locs ls hP hS hl)
theorem g_i2l (hF : FK X F cc own nL d) {x : Int32} (dg : decode cc pc = .ok (.i2l, 1)) (kk : G X F (pc + 1) L (.long x.toInt64 :: st) M) : G X F pc L (.int x :: st) M := fun H locs ls hP hS hl => lv_i2l hF.1 hF.2.1 dg rfl (kk H locs ls hP hS hl)
theorem g_i2c (hF : FK X F cc own nL d) {x : Int32} (dg : decode cc pc = .ok (.i2c, 1)) (kk : G X F (pc + 1) L (.int ((x.toUInt32 % 65536).toInt32) :: st) M) : G X F pc L (.int x :: st) M := fun H locs ls hP hS hl => lv_i2c hF.1 hF.2.1 dg rfl (kk H locs ls hP hS hl)
theorem g_lcmp (hF : FK X F cc own nL d) {x y : Int64} (dg : decode cc pc = .ok (.lcmp, 1)) (kk : G X F (pc + 1) L (.int (lg_cmp x y) :: st) M) : G X F pc L (.long y :: .long x :: st) M := fun H locs ls hP hS hl => W.lcmp hF.1 hF.2.1 dg (kk H locs ls hP hS hl)
theorem g_dup (hF : FK X F cc own nL d) {v : Value} (dg : decode cc pc = .ok (.dup, 1)) (hv : v.category = 1) (kk : G X F (pc + 1) L (v :: v :: st) M) : G X F pc L (v :: st) M := fun H locs ls hP hS hl => lv_dup hF.1 hF.2.1 dg ((cv_cat X v).trans hv) (kk H locs ls hP hS hl)
theorem g_pop (hF : FK X F cc own nL d) {v : Value} (dg : decode cc pc = .ok (.pop, 1)) (hv : v.category = 1) (kk : G X F (pc + 1) L st M) : G X F pc L (v :: st) M := fun H locs ls hP hS hl => lv_pop hF.1 hF.2.1 dg ((cv_cat X v).trans hv) (kk H locs ls hP hS hl)
theorem g_dup2 (hF : FK X F cc own nL d) {v u : Value} (dg : decode cc pc = .ok (.dup2, 1)) (hv : v.category = 1) (hu : u.category = 1) (kk : G X F (pc + 1) L (v :: u :: v :: u :: st) M) : G X F pc L (v :: u :: st) M := fun H locs ls hP hS hl => lv_dup2_11 hF.1 hF.2.1 dg ((cv_cat X v).trans hv) ((cv_cat X u).trans hu) (kk H locs ls hP hS hl)
theorem g_dup_x1 (hF : FK X F cc own nL d) {v u : Value} (dg : decode cc pc = .ok (.dup_x1, 1)) (hv : v.category = 1) (hu : u.category = 1) (kk : G X F (pc + 1) L (v :: u :: v :: st) M) : G X F pc L (v :: u :: st) M := fun H locs ls hP hS hl => lv_dup_x1 hF.1 hF.2.1 dg ((cv_cat X v).trans hv) ((cv_cat X u).trans hu) (kk H locs ls hP hS hl)
theorem g_if_eq (hF : FK X F cc own nL d) {x : Int32} {off : Int} (tgt : Nat) (dg : decode cc pc = .ok (.ifCond .eq off, 3)) (ht : (pc : Int) + off = (tgt : Int)) (kt : x = 0 → G X F tgt L st M) (kf : ¬ x = 0 → G X F (pc + 3) L st M) : G X F pc L (.int x :: st) M := fun H locs ls hP hS hl => lv_if_eq hF.1 hF.2.1 dg ht (fun h => kt h H locs ls hP hS hl) (fun h => kf h H locs ls hP hS hl)
theorem g_icmp_eq (hF : FK X F cc own nL d) {x y : Int32} {off : Int} (tgt : Nat) (dg : decode cc pc = .ok (.if_icmp .eq off, 3)) (ht : (pc : Int) + off = (tgt : Int)) (kt : x = y → G X F tgt L st M) (kf : ¬ x = y → G X F (pc + 3) L st M) : G X F pc L (.int y :: .int x :: st) M := fun H locs ls hP hS hl => lv_icmp_eq hF.1 hF.2.1 dg ht (fun h => kt h H locs ls hP hS hl) (fun h => kf h H locs ls hP hS hl)
theorem g_if_ne (hF : FK X F cc own nL d) {x : Int32} {off : Int} (tgt : Nat) (dg : decode cc pc = .ok (.ifCond .ne off, 3)) (ht : (pc : Int) + off = (tgt : Int)) (kt : ¬ x = 0 → G X F tgt L st M) (kf : x = 0 → G X F (pc + 3) L st M) : G X F pc L (.int x :: st) M := fun H locs ls hP hS hl => lv_if_ne hF.1 hF.2.1 dg ht (fun h => kt h H locs ls hP hS hl) (fun h => kf h H locs ls hP hS hl)
theorem g_icmp_ne (hF : FK X F cc own nL d) {x y : Int32} {off : Int} (tgt : Nat) (dg : decode cc pc = .ok (.if_icmp .ne off, 3)) (ht : (pc : Int) + off = (tgt : Int)) (kt : ¬ x = y → G X F tgt L st M) (kf : x = y → G X F (pc + 3) L st M) : G X F pc L (.int y :: .int x :: st) M := fun H locs ls hP hS hl => lv_icmp_ne hF.1 hF.2.1 dg ht (fun h => kt h H locs ls hP hS hl) (fun h => kf h H locs ls hP hS hl)
theorem g_if_lt (hF : FK X F cc own nL d) {x : Int32} {off : Int} (tgt : Nat) (dg : decode cc pc = .ok (.ifCond .lt off, 3)) (ht : (pc : Int) + off = (tgt : Int)) (kt : x < 0 → G X F tgt L st M) (kf : ¬ x < 0 → G X F (pc + 3) L st M) : G X F pc L (.int x :: st) M := fun H locs ls hP hS hl => lv_if_lt hF.1 hF.2.1 dg ht (fun h => kt h H locs ls hP hS hl) (fun h => kf h H locs ls hP hS hl)
theorem g_icmp_lt (hF : FK X F cc own nL d) {x y : Int32} {off : Int} (tgt : Nat) (dg : decode cc pc = .ok (.if_icmp .lt off, 3)) (ht : (pc : Int) + off = (tgt : Int)) (kt : x < y → G X F tgt L st M) (kf : ¬ x < y → G X F (pc + 3) L st M) : G X F pc L (.int y :: .int x :: st) M := fun H locs ls hP hS hl => lv_icmp_lt hF.1 hF.2.1 dg ht (fun h => kt h H locs ls hP hS hl) (fun h => kf h H locs ls hP hS hl)
theorem g_if_ge (hF : FK X F cc own nL d) {x : Int32} {off : Int} (tgt : Nat) (dg : decode cc pc = .ok (.ifCond .ge off, 3)) (ht : (pc : Int) + off = (tgt : Int)) (kt : 0 ≤ x → G X F tgt L st M) (kf : ¬ 0 ≤ x → G X F (pc + 3) L st M) : G X F pc L (.int x :: st) M := fun H locs ls hP hS hl => lv_if_ge hF.1 hF.2.1 dg ht (fun h => kt h H locs ls hP hS hl) (fun h => kf h H locs ls hP hS hl)
theorem g_icmp_ge (hF : FK X F cc own nL d) {x y : Int32} {off : Int} (tgt : Nat) (dg : decode cc pc = .ok (.if_icmp .ge off, 3)) (ht : (pc : Int) + off = (tgt : Int)) (kt : y ≤ x → G X F tgt L st M) (kf : ¬ y ≤ x → G X F (pc + 3) L st M) : G X F pc L (.int y :: .int x :: st) M := fun H locs ls hP hS hl => lv_icmp_ge hF.1 hF.2.1 dg ht (fun h => kt h H locs ls hP hS hl) (fun h => kf h H locs ls hP hS hl)
theorem g_if_gt (hF : FK X F cc own nL d) {x : Int32} {off : Int} (tgt : Nat) (dg : decode cc pc = .ok (.ifCond .gt off, 3)) (ht : (pc : Int) + off = (tgt : Int)) (kt : 0 < x → G X F tgt L st M) (kf : ¬ 0 < x → G X F (pc + 3) L st M) : G X F pc L (.int x :: st) M := fun H locs ls hP hS hl => lv_if_gt hF.1 hF.2.1 dg ht (fun h => kt h H locs ls hP hS hl) (fun h => kf h H locs ls hP hS hl)
theorem g_icmp_gt (hF : FK X F cc own nL d) {x y : Int32} {off : Int} (tgt : Nat) (dg : decode cc pc = .ok (.if_icmp .gt off, 3)) (ht : (pc : Int) + off = (tgt : Int)) (kt : y < x → G X F tgt L st M) (kf : ¬ y < x → G X F (pc + 3) L st M) : G X F pc L (.int y :: .int x :: st) M := fun H locs ls hP hS hl => lv_icmp_gt hF.1 hF.2.1 dg ht (fun h => kt h H locs ls hP hS hl) (fun h => kf h H locs ls hP hS hl)
theorem g_if_le (hF : FK X F cc own nL d) {x : Int32} {off : Int} (tgt : Nat) (dg : decode cc pc = .ok (.ifCond .le off, 3)) (ht : (pc : Int) + off = (tgt : Int)) (kt : x ≤ 0 → G X F tgt L st M) (kf : ¬ x ≤ 0 → G X F (pc + 3) L st M) : G X F pc L (.int x :: st) M := fun H locs ls hP hS hl => lv_if_le hF.1 hF.2.1 dg ht (fun h => kt h H locs ls hP hS hl) (fun h => kf h H locs ls hP hS hl)
theorem g_icmp_le (hF : FK X F cc own nL d) {x y : Int32} {off : Int} (tgt : Nat) (dg : decode cc pc = .ok (.if_icmp .le off, 3)) (ht : (pc : Int) + off = (tgt : Int)) (kt : x ≤ y → G X F tgt L st M) (kf : ¬ x ≤ y → G X F (pc + 3) L st M) : G X F pc L (.int y :: .int x :: st) M := fun H locs ls hP hS hl => lv_icmp_le hF.1 hF.2.1 dg ht (fun h => kt h H locs ls hP hS hl) (fun h => kf h H locs ls hP hS hl)
theorem g_goto (hF : FK X F cc own nL d) {off : Int} (tgt : Nat) (dg : decode cc pc = .ok (.goto off, 3)) (ht : (pc : Int) + off = (tgt : Int)) (kk : G X F tgt L st M) : G X F pc L st M := fun H locs ls hP hS hl => lv_goto hF.1 hF.2.1 dg ht (kk H locs ls hP hS hl)
theorem g_ifnull (hF : FK X F cc own nL d) {x : Nat} {off : Int} (dg : decode cc pc = .ok (.ifnull off, 3)) (kk : G X F (pc + 3) L st M) : G X F pc L (.ref x :: st) M := fun H locs ls hP hS hl => lv_ifnull hF.1 hF.2.1 dg (kk H locs ls hP hS hl)
theorem g_ifnullN (hF : FK X F cc own nL d) {off : Int} (tgt : Nat) (dg : decode cc pc = .ok (.ifnull off, 3)) (ht : (pc : Int) + off = (tgt : Int)) (kk : G X F tgt L st M) : G X F pc L (.null :: st) M := fun H locs ls hP hS hl => lv_ifnullN hF.1 hF.2.1 dg ht (kk H locs ls hP hS hl)
theorem g_swIn (hF : FK X F cc own nL d) {dflt lo hi : Int} {offs : Array Int} {len : Nat} {x : Int32} {off : Int} (tgt : Nat) (v : Int32) (hx : x = v) (dg : decode cc pc = .ok (.tableswitch dflt lo hi offs, len)) (h1 : ¬ v.toInt < lo) (h2 : ¬ hi < v.toInt) (ho : offs[(v.toInt - lo).toNat]? = some off) (ht : (pc : Int) + off = (tgt : Int)) (kk : G X F tgt L st M) : G X F pc L (.int x :: st) M := by
  subst hx
  exact fun H locs ls hP hS hl => lv_tableIn hF.1 hF.2.1 dg h1 h2 ho ht (kk H locs ls hP hS hl)
theorem g_swOut (hF : FK X F cc own nL d) {dflt lo hi : Int} {offs : Array Int} {len : Nat} {x : Int32} (tgt : Nat) (dg : decode cc pc = .ok (.tableswitch dflt lo hi offs, len)) (h : x.toInt < lo ∨ hi < x.toInt) (ht : (pc : Int) + dflt = (tgt : Int)) (kk : G X F tgt L st M) : G X F pc L (.int x :: st) M := fun H locs ls hP hS hl => lv_tableOut hF.1 hF.2.1 dg h ht (kk H locs ls hP hS hl)
theorem g_get (hF : FK X F cc own nL d) {ref C : String} {T : u_T} {N ci index k j : Nat} {v : Value} (hin : ∀ w ∈ u_ws C T N, w ∈ tb) (hc : classes[ci]? = some (C, T, N)) (hci : ci < 20) (hk : k ∈ xcs X) (hkd : kd k = ci) (hN : ln k = N) (hj : j < N) (hw : Cond.fieldLink own index ref (T j).2.1 (T j).2.2.1 ∈ tb) (href : (T j).1 = ref) (hv : vfld X M k j = cv X v) (dg : decode cc pc = .ok (.getfield index, 3)) (kk : G X F (pc + 3) L (v :: st) M) : G X F pc L (.ref k :: st) M := by
  intro H locs ls hP hS hl
  obtain ⟨p, hp⟩ := wl_at hk M
  rw [ce_obj hkd hci] at hp
  exact va_get (D := xD X) (ci := ci) (C := C) (T := T) (N := N) hF.1 hF.2.1 hF.2.2.2.2.1 hin hF.2.2.2.1 hF.2.2.2.2.2.1.k0 hP p hp hc j hj (hF.2.2.2.2.1 _ hw) (fun x h => by rw [href] at h; exact h) (v := cv X v) (by rw [← hv]; simp [hN, hj]) dg (kk H locs ls hP hS hl)
theorem g_put (hF : FK X F cc own nL d) {ref C : String} {T : u_T} {N ci index k j : Nat} {v : Int32} {ty : FieldType} (hin : ∀ w ∈ u_ws C T N, w ∈ tb) (ty0 : Nat → FieldType) (hty : ∀ k, k < N → parseFieldDescriptor (T k).2.2.1 = some (ty0 k)) (hnm : ∀ a, a < N → ∀ b, b < N → a ≠ b → (T a).2.1 ≠ (T b).2.1) (hc : classes[ci]? = some (C, T, N)) (hci : ci < 20) (hk : k ∈ xcs X) (hkd : kd k = ci) (hN : ln k = N) (hj : j < N) (hw : Cond.fieldLink own index ref (T j).2.1 (T j).2.2.1 ∈ tb) (href : (T j).1 = ref) (hfin : (T j).2.2.2 = false) (hd : parseFieldDescriptor (T j).2.2.1 = some ty) (hr : rfc ci j k = none) (hn : narrow ty (.int v) = .int v) (hfit : fits ty (.int v) = true) (dg : decode cc pc = .ok (.putfield index, 3)) (kk : G X F (pc + 3) L st (up2 M k j v)) : G X F pc L (.int v :: .ref k :: st) M := by
  intro H locs ls hP hS hl
  obtain ⟨p, hp0⟩ := wl_at hk M
  have hp := hp0
  rw [ce_obj hkd hci] at hp
  refine va_put (D := xD X) (ci := ci) (C := C) (T := T) (N := N) (v := .int v) (ty := ty) hF.1 hF.2.1 hF.2.2.2.2.1 hin ty0 hty hnm hF.2.2.2.1 hF.2.2.2.2.2.1.k0 hP (wl_D hF.2.2.2.2.2.2.2.1 M) hS p hp hc j hj (hF.2.2.2.2.1 _ hw) (fun x h => by rw [href] at h; exact h) hfin hd hn hfit (by simpa [hN] using hj) dg (fun H1 locs1 hP1 hD1 hS1 => ?_)
  rw [wl_set hF.2.2.2.2.2.2.2.1 hp0 hk (ce_put hkd hci (by rw [hN]; exact hj) hr) (fun a ha => ce_row (up2_other M j v ha))] at hP1
  exact kk H1 locs1 ls hP1 hS1 hl
theorem g_iald (hF : FK X F cc own nL d) {k : Nat} {i : Int32} (hk : k ∈ xcs X) (hkd : kd k = 20) (hi : vp_in i (ln k)) (dg : decode cc pc = .ok (.iaload, 1)) (kk : G X F (pc + 1) L (.int (M k i.toNatClampNeg) :: st) M) : G X F pc L (.int i :: .ref k :: st) M := by
  intro H locs ls hP hS hl
  obtain ⟨p, hp⟩ := wl_at hk M
  rw [ce_arr (by rw [hkd]; omega) (by rw [hkd]; omega)] at hp
  exact va_iald hF.1 hF.2.1 (hF.2.2.2.2.2.1.k1 hk (by rw [hkd]; omega) (ty := .int) (by simp [kty, hkd])) hP p 0 hp rfl hi dg (kk H locs ls hP hS hl)
theorem g_cald (hF : FK X F cc own nL d) {k : Nat} {i : Int32} (hk : k ∈ xcs X) (hkd : kd k = 21) (hi : vp_in i (ln k)) (dg : decode cc pc = .ok (.caload, 1)) (kk : G X F (pc + 1) L (.int (M k i.toNatClampNeg) :: st) M) : G X F pc L (.int i :: .ref k :: st) M := by
  intro H locs ls hP hS hl
  obtain ⟨p, hp⟩ := wl_at hk M
  rw [ce_arr (by rw [hkd]; omega) (by rw [hkd]; omega)] at hp
  exact va_cald hF.1 hF.2.1 (hF.2.2.2.2.2.1.k1 hk (by rw [hkd]; omega) (ty := .char) (by simp [kty, hkd])) hP p 0 hp rfl hi dg (kk H locs ls hP hS hl)
theorem g_zald (hF : FK X F cc own nL d) {k : Nat} {i : Int32} (hk : k ∈ xcs X) (hkd : kd k = 22) (hi : vp_in i (ln k)) (dg : decode cc pc = .ok (.baload, 1)) (kk : G X F (pc + 1) L (.int (M k i.toNatClampNeg) :: st) M) : G X F pc L (.int i :: .ref k :: st) M := by
  intro H locs ls hP hS hl
  obtain ⟨p, hp⟩ := wl_at hk M
  rw [ce_arr (by rw [hkd]; omega) (by rw [hkd]; omega)] at hp
  exact va_zald hF.1 hF.2.1 (hF.2.2.2.2.2.1.k1 hk (by rw [hkd]; omega) (ty := .boolean) (by simp [kty, hkd])) hP p 0 hp rfl hi dg (kk H locs ls hP hS hl)
theorem g_iast (hF : FK X F cc own nL d) {k : Nat} {i v : Int32} (hk : k ∈ xcs X) (hkd : kd k = 20) (hi : vp_in i (ln k)) (dg : decode cc pc = .ok (.iastore, 1)) (kk : G X F (pc + 1) L st (up2 M k i.toNatClampNeg v)) : G X F pc L (.int v :: .int i :: .ref k :: st) M := by
  intro H locs ls hP hS hl
  obtain ⟨p, hp0⟩ := wl_at hk M
  have hp := hp0
  rw [ce_arr (by rw [hkd]; omega) (by rw [hkd]; omega)] at hp
  refine va_iast hF.1 hF.2.1 (hF.2.2.2.2.2.1.k1 hk (by rw [hkd]; omega) (ty := .int) (by simp [kty, hkd])) hP (wl_D hF.2.2.2.2.2.2.2.1 M) hS p 0 hp rfl hi dg (fun H1 locs1 hP1 hD1 hS1 => ?_)
  rw [wl_set hF.2.2.2.2.2.2.2.1 hp0 hk (M' := up2 M k i.toNatClampNeg v) (by rw [ce_arr (by rw [hkd]; omega) (by rw [hkd]; omega), up2_row]) (fun a ha => ce_row (up2_other M _ _ ha))] at hP1
  exact kk H1 locs1 ls hP1 hS1 hl
theorem g_cast (hF : FK X F cc own nL d) {k : Nat} {i v : Int32} (hk : k ∈ xcs X) (hkd : kd k = 21) (hi : vp_in i (ln k)) (dg : decode cc pc = .ok (.castore, 1)) (kk : G X F (pc + 1) L st (up2 M k i.toNatClampNeg (vp_nar .char v))) : G X F pc L (.int v :: .int i :: .ref k :: st) M := by
  intro H locs ls hP hS hl
  obtain ⟨p, hp0⟩ := wl_at hk M
  have hp := hp0
  rw [ce_arr (by rw [hkd]; omega) (by rw [hkd]; omega)] at hp
  refine va_cast hF.1 hF.2.1 (hF.2.2.2.2.2.1.k1 hk (by rw [hkd]; omega) (ty := .char) (by simp [kty, hkd])) hP (wl_D hF.2.2.2.2.2.2.2.1 M) hS p 0 hp rfl hi dg (fun H1 locs1 hP1 hD1 hS1 => ?_)
  rw [wl_set hF.2.2.2.2.2.2.2.1 hp0 hk (M' := up2 M k i.toNatClampNeg (vp_nar .char v)) (by rw [ce_arr (by rw [hkd]; omega) (by rw [hkd]; omega), up2_row]) (fun a ha => ce_row (up2_other M _ _ ha))] at hP1
  exact kk H1 locs1 ls hP1 hS1 hl
theorem g_zast (hF : FK X F cc own nL d) {k : Nat} {i v : Int32} (hk : k ∈ xcs X) (hkd : kd k = 22) (hi : vp_in i (ln k)) (dg : decode cc pc = .ok (.bastore, 1)) (kk : G X F (pc + 1) L st (up2 M k i.toNatClampNeg (vp_nar .boolean v))) : G X F pc L (.int v :: .int i :: .ref k :: st) M := by
  intro H locs ls hP hS hl
  obtain ⟨p, hp0⟩ := wl_at hk M
  have hp := hp0
  rw [ce_arr (by rw [hkd]; omega) (by rw [hkd]; omega)] at hp
  refine va_zast hF.1 hF.2.1 (hF.2.2.2.2.2.1.k1 hk (by rw [hkd]; omega) (ty := .boolean) (by simp [kty, hkd])) hP (wl_D hF.2.2.2.2.2.2.2.1 M) hS p 0 hp rfl hi dg (fun H1 locs1 hP1 hD1 hS1 => ?_)
  rw [wl_set hF.2.2.2.2.2.2.2.1 hp0 hk (M' := up2 M k i.toNatClampNeg (vp_nar .boolean v)) (by rw [ce_arr (by rw [hkd]; omega) (by rw [hkd]; omega), up2_row]) (fun a ha => ce_row (up2_other M _ _ ha))] at hP1
  exact kk H1 locs1 ls hP1 hS1 hl
theorem g_aald (hF : FK X F cc own nL d) {k : Nat} {i : Int32} {C : String} (hk : k ∈ xcs X) (hkd : 23 ≤ kd k) (ht : kty k = .object C) (hi : vp_in i (ln k)) (dg : decode cc pc = .ok (.aaload, 1)) (kk : G X F (pc + 1) L (.ref (rae k i.toNatClampNeg) :: st) M) : G X F pc L (.int i :: .ref k :: st) M := by
  intro H locs ls hP hS hl
  obtain ⟨p, hp⟩ := wl_at hk M
  rw [ce_ref hkd] at hp
  exact va_aldq hF.1 hF.2.1 (hF.2.2.2.2.2.1.k1 hk (by omega) ht) hP p 0 hp rfl hi dg (kk H locs ls hP hS hl)
theorem g_alen (hF : FK X F cc own nL d) {k : Nat} {v : Int32} (hk : k ∈ xcs X) (hkd : 20 ≤ kd k) (hv : Int32.ofNat (ln k) = v) (dg : decode cc pc = .ok (.arraylength, 1)) (kk : G X F (pc + 1) L (.int v :: st) M) : G X F pc L (.ref k :: st) M := by
  intro H locs ls hP hS hl
  obtain ⟨p, hp⟩ := wl_at hk M
  by_cases h2 : kd k < 23
  · rw [ce_arr hkd h2] at hp
    exact va_alen hF.1 hF.2.1 (hF.2.2.2.2.2.1.k1 hk hkd rfl) hP p 0 hp rfl hv dg (kk H locs ls hP hS hl)
  · rw [ce_ref (Nat.not_lt.mp h2)] at hp
    exact va_alen hF.1 hF.2.1 (hF.2.2.2.2.2.1.k1 hk hkd rfl) hP p 0 hp rfl hv dg (kk H locs ls hP hS hl)
end GR
