/-! THE CLAIM OUT OF ONE WALK OF THE LAW'S BODY. Your part is whole_start (and what it stands on); all else here is the same for every law, but numbers. -/
def R_law : String := "WhichEncoreLaw"
def lw_P (b : Addr) (xs : List Int32) (args : Array Value) (s : State) : Prop := args = #[.ref b] ∧ s.IntsAt b xs ∧ xs.length ≤ 256 ∧ (Jvm.Cond.and given_1 narrow_1).before args s = true
def lw_Q (_ : Array Value) (s : State) (o : Outcome) (t : State) : Prop := o = .returned (some (.int 1)) ∧ Framed s o t [] 600000 7302250
def lw_Z (below : List Frame) (a : Array Value) (s : State) : State → Prop := fun t => ∃ o, t.status = .running ∧ Ended t below o ∧ lw_Q a s o t
/-- the law's own end, with 1 on the stack, nothing written that was there before, its room as the claim has it -/
theorem lw_ret {p : Program} {l : Launch} {e : Env} {s : State} {m : MethodId} {below : List Frame} {meth : Method} {c : Code} {b : Nat} (hx : p.tables.exec = Jvm.exec) (hb : c.code = code) (hr : meth.sig.returnType = ret) (hlocks : meth.locks = false) {pc : Nat} {H : Heap} {ls : Array Slot} (hdg : decode code pc = .ok (.ireturn, 1)) : W p l e room_1 s m #[Value.ref b] below meth c H [] 600000 7302250 (lw_Z below #[Value.ref b] s) (F0 m pc ls [.int 1]) := by
  intro T hT X
  obtain ⟨fs, hret, hrun, hended, hW, hframe⟩ := X.leave (v := some (.int 1)) (hlocks := hlocks) (fun h => by rw [hr] at h; cases h)
  have hmeth' : T.vm.method? m = some meth := X.method'
  refine ⟨T.setFrames fs, ?_, .returned (some (.int 1)), hrun, hended, rfl, ⟨_, rfl⟩, hW, hframe⟩
  jvm_step X.here [X.here.top, hx, hb, hdg, hmeth', hr, ret, narrow_b1]
  (try refine ⟨rfl, ?_⟩); (try refine ⟨rfl, ?_⟩)
  first | (intro acts; rw [hret _ acts rfl rfl rfl]) | rw [hret _ _ rfl rfl rfl]
  exact Steps.refl _
/-- what holds at the law's entry: the machine, the code, the tables' words (any of lw_tbl by 'hts w (by decide +kernel)'), the script of L ints xs at the cell b, what the Statement gives of the start (any of its parts by flat_of_before) -/
def lw_At (p : Program) (s : State) (m : MethodId) (meth : Method) (c : Code) (b L : Nat) (xs : Nat → Int32) : Prop :=
  p.tables.exec = Jvm.exec ∧ c.code = code ∧ meth.sig.returnType = ret ∧ c.maxLocals = 4 ∧ s.vm.findClass R_law = some m.cls ∧ (∀ w ∈ lw_tbl, w.before #[Value.ref b] s = true) ∧ va_X b L xs s s.heap ∧ b < s.heap.size ∧ meth.locks = false ∧ (Jvm.Cond.and given_1 narrow_1).before #[Value.ref b] s = true
/-! The law's walk. -/
def SX (X : Cx) (F : Fx) (Ln : Nat) (xs : Nat → Int32) : Prop := va_X (xad X 1098) Ln xs (fS F) (fS F).heap ∧ xad X 1098 < (fS F).heap.size ∧ ¬ xA X (xad X 1098)
def LQ (X : Cx) (F : Fx) (v : Int32) : Prop := v = 1 ∧ fR F = room_1 ∧ xb X = (fS F).heap.size ∧ (fT F).sig.returnType = ret ∧ (∃ b, fA F = #[.ref b]) ∧ fQ F = lw_Z (fB F) (fA F) (fS F) ∧ fc F ≤ 600000 ∧ fs F ≤ 7302250
section GL
variable {X : Cx} {F : Fx} {cc : ByteArray} {own : String} {nL d pc : Nat} {L : List (Option Value)} {st : List Value} {M : Mem}
theorem g_sld (hF : FK X F cc own nL d) {Ln : Nat} {xs : Nat → Int32} (hX : SX X F Ln xs) {i : Int32} (hi : inb i Ln = true) (dg : decode cc pc = .ok (.iaload, 1)) (kk : G X F (pc + 1) L (.int (xs i.toNatClampNeg) :: st) M) : G X F pc L (.int i :: .ref 1098 :: st) M := fun H locs ls hP hS hl =>
  va_sld hF.1 hF.2.1 hX.1 hX.2.1 hX.2.2 hS (inb_in hi) dg (kk H locs ls hP hS hl)
theorem g_slen0 (hF : FK X F cc own nL d) {Ln : Nat} {xs : Nat → Int32} (hX : SX X F Ln xs) (dg : decode cc pc = .ok (.arraylength, 1)) (kk : G X F (pc + 1) L (.int (Int32.ofNat Ln) :: st) M) : G X F pc L (.ref 1098 :: st) M := fun H locs ls hP hS hl =>
  va_slen hF.1 hF.2.1 hX.1 hX.2.1 hX.2.2 hS dg (kk H locs ls hP hS hl)
theorem g_pop2 (hF : FK X F cc own nL d) {v : Value} (dg : decode cc pc = .ok (.pop2, 1)) (hv : v.category = 2) (kk : G X F (pc + 1) L st M) : G X F pc L (v :: st) M := fun H locs ls hP hS hl => lv_pop2_2 hF.1 hF.2.1 dg ((cv_cat X v).trans hv) (kk H locs ls hP hS hl)
theorem g_lawret (hF : FK X F code own nL d) {v : Int32} (hQ : LQ X F v) (dg : decode code pc = .ok (.ireturn, 1)) : G X F pc L [.int v] M := by
  intro H locs ls hP hS hl
  obtain ⟨hv, hR, hbs, hrt, ⟨b, hA⟩, hq, h1, h2⟩ := hQ
  subst hv
  refine va_forget (fun q hq => by have := hS.2.2 q hq; unfold xA at this; rw [hbs] at this; exact this) ?_
  refine W.widen (k := 600000) (n := 7302250) h1 h2 ?_
  rw [hq, hR, hA]
  exact lw_ret hF.1 hF.2.1 hrt hF.2.2.2.2.2.2.2.2.2.2.2.2 dg
end GL
/-- a new object, its address told -/
theorem va_newS {p : Program} {l : Launch} {e : Env} {R : Room} {s : State} {m : MethodId} {args : Array Value} {below : List Frame} {meth : Method} {H : Heap} {locs : List Loc} {cells slots : Nat} {Q : State → Prop} {cc : ByteArray} {pc : Nat} {ls : Array Slot} {rest : List Value} {D : va_G} {cl : List vw_C} {A : Nat → Prop} {tys : List (ClassId × FieldType)} {ws : va_W} {H0 : Heap} {c0 : Code} (hexec : p.tables.exec = Jvm.exec) (hb : c0.code = cc) {own C : String} {T : u_T} {N ci index : Nat} {Ts : List Cond} (hts : ∀ w ∈ Ts, w.before args s = true) (hin : ∀ w ∈ u_ws C T N, w ∈ Ts) (ty : Nat → FieldType) (hty : ∀ k, k < N → parseFieldDescriptor (T k).2.2.1 = some (ty k)) (hown : s.vm.findClass own = some m.cls) (hcl : (Cond.classLink own index C).before args s = true) (hinst : (Cond.instantiable C N).before args s = true) (hini : (Cond.initialized C).before args s = true)
    (hK : va_K D cl tys s) (hP : va_P D cl ws H) (hD : va_D A ws) (hS : va_S A H0 H locs) (hA : ∀ q, H0.size ≤ q → A q) (hc : cl[ci]? = some (C, T, N)) {fs : List Value} (hfs : ∀ j, j < N → defaultValue (ty j) = vp_V fs j) (hcells : cells + 1 ≤ R.cells) (hslots : slots + N ≤ R.slots) (hdg : decode cc pc = .ok (.new index, 3))
    (kk : ∀ (H1 : Heap), H1.size = H.size + 1 → va_P D cl (ws ++ [(H.size, .inr (ci, fs))]) H1 → va_D A (ws ++ [(H.size, .inr (ci, fs))]) → va_S A H0 H1 locs →
      W p l e R s m args below meth c0 H1 locs (cells + 1) (slots + N) Q (F0 m (pc + 3) ls (.ref H.size :: rest))) : W p l e R s m args below meth c0 H locs cells slots Q (F0 m pc ls rest) := by
  have hKn := hK.1 ci _ hc
  refine W.newcK hexec hb hown hcl hinst hini rfl hdg hcells hslots hKn.2.1 rfl fun H1 kC hkC e1 z1 o1 => ?_
  have hk : ∀ (k : Nat) (x : Nat × va_E), ws[k]? = some x → H1[x.1]? = H[x.1]? := fun k x hx => o1 x.1 ((hP k x hx).lt)
  refine kk H1 z1 ((hP.kept hk).app (fun k x hx => ?_)) (hD.push hP rfl (hA _ hS.1)) ⟨Nat.le_trans hS.1 (by omega), fun x h1 h2 => (o1 x (Nat.lt_of_lt_of_le h1 hS.1)).trans (hS.2.1 x h1 h2), hS.2.2⟩
  have hz : k < 1 := (List.getElem?_eq_some_iff.mp hx).1
  rw [show k = 0 by omega] at hx
  cases hx
  exact ⟨_, hc, (u_born ty hts hin hKn hkC e1 hty).to hfs⟩
/-- behind a constructor of ours -/
theorem w_made {p : Program} {l : Launch} {e : Env} {R : Room} {s : State} {m : MethodId} {args : Array Value} {below : List Frame} {meth : Method} {c : Code} {H : Heap} {locs : List Loc} {cells slots : Nat} {Q : State → Prop} {pc : Nat} {ls : Array Slot} {rest st0 : List Value} {a : Array Value} {A0 : Nat → Prop} {H0 : Heap} {mc ms : Nat} {D : va_G} {X0 : Cx} {h0 k0 : Nat} {cs : List Nat} {M : Mem} (hr : va_Run p l e R s m args below meth c H locs cells slots mc ms (F0 m pc ls st0) rest (Made D X0 h0 k0 cs M a) (xA X0)) (hS : va_S A0 H0 H locs) (hA : ∀ q, xA X0 q → A0 q)
    (kk : ∀ (X : Cx) (t : State) (H1 : Heap) (locs1 : List Loc), t.heap = H1 → s.vm.Alike t.vm → xD X = D → xcs X = cs → xb X = xb X0 → (∀ i, 1000 ≤ i → xad X i = xad X0 i) → xad X k0 = h0 → CxOk X → Inv X M t → H.size ≤ H1.size → (∀ q : Nat, q < H.size → ¬ xA X0 q → H1[q]? = H[q]?) → va_S A0 H0 H1 locs1 → W p l e R s m args below meth c H1 locs1 (cells + mc) (slots + ms) Q (F0 m (pc + 3) ls rest)) : W p l e R s m args below meth c H locs cells slots Q (F0 m pc ls st0) := by
  intro T hT X
  obtain ⟨v, st₀, t, T', L, h0', X', hL, e1, e2, ⟨hv, ⟨Y, y1, y2, y3, y4, y5, y6, y7⟩, hz, hk⟩, stp⟩ := hr T hT X
  have hv' : v = none := by injection hv
  subst hv'
  rw [h0'] at hz hk
  obtain ⟨t2, a1, b1⟩ := kk Y t T'.heap (locs ++ L) e1.symm (by rw [← e2]; exact X'.warmed.alike) y1 y2 y3 y4 y5 y6 y7 (by rw [e1]; exact hz) (fun q h1 h2 => by rw [e1]; exact hk q h1 h2)
    ⟨Nat.le_trans hS.1 (by rw [e1]; exact hz), fun q h1 h2 => by rw [e1, hk q (Nat.lt_of_lt_of_le h1 hS.1) (fun z => h2 (hA q z))]; exact hS.2.1 q h1 h2, fun q hq => by
      rcases List.mem_append.mp hq with h | h
      · exact hS.2.2 q h
      · exact hA _ (hL q h)⟩ T' rfl X'
  exact ⟨t2, stp t2 a1, b1⟩
/-- two worlds side by side -/
def jM (M1 M2 : Mem) : Mem := fun k j => if k < 68 then M1 k j else M2 k j
def jX (X1 X2 : Cx) (b : Nat) : Cx := (xD X1, fun k => if k < 68 then xca X1 k else xca X2 k, fun k => if k = 1098 then b else if k < 68 then xad X1 k else xad X2 k, csC ++ csM, xb X1)
theorem jrf1 : ∀ k, k < 68 → kd k < 20 → ∀ j, j < 21 → ∀ t, rfc (kd k) j k = some t → t < 68 := by
  have h : ∀ k, k < 68 → kd k < 20 → ∀ j, j < 21 → (rfc (kd k) j k).all (fun t => decide (t < 68)) = true := by decide +kernel
  intro k hk h20 j hj t ht
  have := h k hk h20 j hj
  rw [ht] at this
  simpa using this
theorem jrf2 : ∀ k, k ∈ csM → kd k < 20 → ∀ j, j < 21 → ∀ t, rfc (kd k) j k = some t → 68 ≤ t ∧ t < 83 := by
  have h : ∀ k, k ∈ csM → kd k < 20 → ∀ j, j < 21 → (rfc (kd k) j k).all (fun t => decide (68 ≤ t) && decide (t < 83)) = true := by decide +kernel
  intro k hk h20 j hj t ht
  have := h k hk h20 j hj
  rw [ht] at this
  simpa using this
theorem jra1 : ∀ k, k < 68 → 23 ≤ kd k → ∀ i, i < ln k → rae k i < 68 ∨ 1000 ≤ rae k i := by
  have h : ∀ k, k < 68 → 23 ≤ kd k → ∀ i, i < 14 → i < ln k → rae k i < 68 ∨ 1000 ≤ rae k i := by decide +kernel
  have h2 : ∀ k, k < 68 → 23 ≤ kd k → ln k ≤ 13 := by decide +kernel
  intro k hk h23 i hi
  exact h k hk h23 i (by have := h2 k hk h23; omega) hi
theorem jln : ∀ k, k < 83 → kd k < 20 → ln k ≤ 21 := by decide +kernel
theorem jra2 : ∀ k, k ∈ csM → kd k < 23 ∧ 68 ≤ k ∧ k < 83 := by decide +kernel
theorem join_at1 {X1 X2 : Cx} {b : Nat} {M1 M2 : Mem} {H : Heap} (h12 : ∀ i, 1000 ≤ i → xad X1 i = xad X2 i) {k : Nat} (hk : k < 68) (h : va_at (xD X1) classes (xad X1 k, ce X1 M1 k) H) : va_at (xD X1) classes (xad (jX X1 X2 b) k, ce (jX X1 X2 b) (jM M1 M2) k) H := by
  have ha : xad (jX X1 X2 b) k = xad X1 k := by show ite _ _ _ = _; rw [if_neg (by omega), if_pos hk]
  have hc : xca (jX X1 X2 b) k = xca X1 k := by show ite _ _ _ = _; rw [if_pos hk]
  have hm : (jM M1 M2) k = M1 k := by funext j; simp [jM, hk]
  rw [ha]
  by_cases h20 : kd k < 20
  · have he : ce (jX X1 X2 b) (jM M1 M2) k = ce X1 M1 k := by
      rw [ce_obj rfl h20, ce_obj rfl h20]
      congr 2
      apply List.map_congr_left
      intro j hj
      have hj' : j < 21 := by
        have h1 := List.mem_range.mp hj
        have h2 := jln k (by omega) h20
        omega
      unfold vfld
      cases hr : rfc (kd k) j k with
      | none => simp only [hm]
      | some t =>
        have ht := jrf1 k hk h20 j hj' t hr
        show Value.ref (ite _ _ _) = _
        rw [if_neg (by omega), if_pos ht]
    rw [he]
    exact h
  · by_cases h23 : kd k < 23
    · rw [ce_arr (by omega) h23, hc, hm]
      rw [ce_arr (by omega) h23] at h
      exact h
    · rw [ce_ref (by omega), hc]
      rw [ce_ref (by omega)] at h
      refine ref_cong (fun i hi => ?_) h
      show some _ = some (ite _ _ _)
      rcases jra1 k hk (by omega) i hi with h1 | h1
      · rw [if_neg (by omega), if_pos h1]
      · have h98 : ¬ rae k i = 1098 := by
          have h2 : ∀ k, k < 68 → 23 ≤ kd k → ln k ≤ 13 := by decide +kernel
          have h3 := h2 k hk (by omega)
          unfold rae
          split
          · omega
          · split
            · omega
            · split <;> omega
        rw [if_neg h98, if_neg (by omega), h12 _ h1]
theorem join_at2 {X1 X2 : Cx} {b : Nat} {M1 M2 : Mem} {H : Heap} {k : Nat} (hk : k ∈ csM) (h : va_at (xD X1) classes (xad X2 k, ce X2 M2 k) H) : va_at (xD X1) classes (xad (jX X1 X2 b) k, ce (jX X1 X2 b) (jM M1 M2) k) H := by
  obtain ⟨h23, h68, h83⟩ := jra2 k hk
  have ha : xad (jX X1 X2 b) k = xad X2 k := by show ite _ _ _ = _; rw [if_neg (by omega), if_neg (by omega)]
  have hc : xca (jX X1 X2 b) k = xca X2 k := by show ite _ _ _ = _; rw [if_neg (by omega)]
  have hm : (jM M1 M2) k = M2 k := by funext j; simp [jM]; omega
  rw [ha]
  by_cases h20 : kd k < 20
  · have he : ce (jX X1 X2 b) (jM M1 M2) k = ce X2 M2 k := by
      rw [ce_obj rfl h20, ce_obj rfl h20]
      congr 2
      apply List.map_congr_left
      intro j hj
      have hj' : j < 21 := by
        have h1 := List.mem_range.mp hj
        have h2 := jln k (by omega) h20
        omega
      unfold vfld
      cases hr : rfc (kd k) j k with
      | none => simp only [hm]
      | some t =>
        have ht := jrf2 k hk h20 j hj' t hr
        show Value.ref (ite _ _ _) = _
        rw [if_neg (by omega), if_neg (by omega)]
    rw [he]
    exact h
  · rw [ce_arr (by omega) h23, hc, hm]
    rw [ce_arr (by omega) h23] at h
    exact h
def tbL_law : List (Nat × Instr × Nat) := [(0, .new 7, 3), (3, .dup, 1), (4, .invokespecial 9, 3), (7, .astore_n 1, 1), (8, .new 10, 3), (11, .dup, 1), (12, .invokespecial 12, 3), (15, .astore_n 2, 1), (16, .iconst 0, 1), (17, .istore_n 3, 1), (18, .iload_n 3, 1), (19, .aload_n 0, 1), (20, .arraylength, 1), (21, .iconst 4, 1), (22, .isub, 1), (23, .if_icmp .gt 716, 3), (26, .aload_n 0, 1), (27, .iload_n 3, 1), (28, .iaload, 1), (29, .bipush 31, 2), (31, .iand, 1), (32, .tableswitch 701 0 24 #[116, 139, 152, 165, 178, 211, 244, 277, 310, 333, 356, 369, 392, 415, 428, 451, 474, 497, 520, 533, 556, 599, 632, 655, 678], 116), (148, .aload_n 1, 1), (149, .aload_n 0, 1), (150, .iload_n 3, 1), (151, .iconst 1, 1), (152, .iadd, 1), (153, .iaload, 1), (154, .invokevirtual 13, 3), (157, .pop, 1), (158, .aload_n 2, 1), (159, .aload_n 0, 1), (160, .iload_n 3, 1), (161, .iconst 1, 1), (162, .iadd, 1), (163, .iaload, 1), (164, .invokevirtual 17, 3), (167, .pop, 1), (168, .goto 565, 3), (171, .aload_n 1, 1), (172, .invokevirtual 18, 3), (175, .pop, 1), (176, .aload_n 2, 1), (177, .invokevirtual 22, 3), (180, .pop, 1), (181, .goto 552, 3), (184, .aload_n 1, 1), (185, .invokevirtual 23, 3), (188, .pop, 1), (189, .aload_n 2, 1), (190, .invokevirtual 26, 3), (193, .pop, 1), (194, .goto 539, 3), (197, .aload_n 1, 1), (198, .invokevirtual 27, 3), (201, .pop, 1), (202, .aload_n 2, 1), (203, .invokevirtual 30, 3), (206, .pop, 1), (207, .goto 526, 3), (210, .aload_n 1, 1), (211, .aload_n 0, 1), (212, .iload_n 3, 1), (213, .iconst 1, 1), (214, .iadd, 1), (215, .iaload, 1), (216, .aload_n 0, 1), (217, .iload_n 3, 1), (218, .iconst 2, 1), (219, .iadd, 1), (220, .iaload, 1), (221, .invokevirtual 31, 3), (224, .pop, 1), (225, .aload_n 2, 1), (226, .aload_n 0, 1), (227, .iload_n 3, 1), (228, .iconst 1, 1), (229, .iadd, 1), (230, .iaload, 1), (231, .aload_n 0, 1), (232, .iload_n 3, 1), (233, .iconst 2, 1), (234, .iadd, 1), (235, .iaload, 1), (236, .invokevirtual 35, 3), (239, .pop, 1), (240, .goto 493, 3), (243, .aload_n 1, 1), (244, .aload_n 0, 1), (245, .iload_n 3, 1), (246, .iconst 1, 1), (247, .iadd, 1), (248, .iaload, 1), (249, .aload_n 0, 1), (250, .iload_n 3, 1), (251, .iconst 2, 1), (252, .iadd, 1), (253, .iaload, 1), (254, .invokevirtual 36, 3), (257, .pop, 1), (258, .aload_n 2, 1), (259, .aload_n 0, 1), (260, .iload_n 3, 1), (261, .iconst 1, 1), (262, .iadd, 1), (263, .iaload, 1), (264, .aload_n 0, 1), (265, .iload_n 3, 1), (266, .iconst 2, 1), (267, .iadd, 1), (268, .iaload, 1), (269, .invokevirtual 39, 3), (272, .pop, 1), (273, .goto 460, 3), (276, .aload_n 1, 1), (277, .aload_n 0, 1), (278, .iload_n 3, 1), (279, .iconst 1, 1), (280, .iadd, 1), (281, .iaload, 1), (282, .aload_n 0, 1), (283, .iload_n 3, 1), (284, .iconst 2, 1), (285, .iadd, 1), (286, .iaload, 1), (287, .invokevirtual 40, 3), (290, .pop, 1), (291, .aload_n 2, 1), (292, .aload_n 0, 1), (293, .iload_n 3, 1), (294, .iconst 1, 1), (295, .iadd, 1), (296, .iaload, 1), (297, .aload_n 0, 1), (298, .iload_n 3, 1), (299, .iconst 2, 1), (300, .iadd, 1), (301, .iaload, 1), (302, .invokevirtual 43, 3), (305, .pop, 1), (306, .goto 427, 3), (309, .aload_n 1, 1), (310, .aload_n 0, 1), (311, .iload_n 3, 1), (312, .iconst 1, 1), (313, .iadd, 1), (314, .iaload, 1), (315, .aload_n 0, 1), (316, .iload_n 3, 1), (317, .iconst 2, 1), (318, .iadd, 1), (319, .iaload, 1), (320, .invokevirtual 44, 3), (323, .pop, 1), (324, .aload_n 2, 1), (325, .aload_n 0, 1), (326, .iload_n 3, 1), (327, .iconst 1, 1), (328, .iadd, 1), (329, .iaload, 1), (330, .aload_n 0, 1), (331, .iload_n 3, 1), (332, .iconst 2, 1), (333, .iadd, 1), (334, .iaload, 1), (335, .invokevirtual 47, 3), (338, .pop, 1), (339, .goto 394, 3), (342, .aload_n 1, 1), (343, .aload_n 0, 1), (344, .iload_n 3, 1), (345, .iconst 1, 1), (346, .iadd, 1), (347, .iaload, 1), (348, .invokevirtual 48, 3), (351, .pop, 1), (352, .aload_n 2, 1), (353, .aload_n 0, 1), (354, .iload_n 3, 1), (355, .iconst 1, 1), (356, .iadd, 1), (357, .iaload, 1), (358, .invokevirtual 51, 3), (361, .pop, 1), (362, .goto 371, 3), (365, .aload_n 1, 1), (366, .aload_n 0, 1), (367, .iload_n 3, 1), (368, .iconst 1, 1), (369, .iadd, 1), (370, .iaload, 1), (371, .invokevirtual 52, 3), (374, .pop, 1), (375, .aload_n 2, 1), (376, .aload_n 0, 1), (377, .iload_n 3, 1), (378, .iconst 1, 1), (379, .iadd, 1), (380, .iaload, 1), (381, .invokevirtual 55, 3), (384, .pop, 1), (385, .goto 348, 3), (388, .aload_n 1, 1), (389, .invokevirtual 56, 3), (392, .pop, 1), (393, .aload_n 2, 1), (394, .invokevirtual 59, 3), (397, .pop, 1), (398, .goto 335, 3), (401, .aload_n 1, 1), (402, .aload_n 0, 1), (403, .iload_n 3, 1), (404, .iconst 1, 1), (405, .iadd, 1), (406, .iaload, 1), (407, .invokevirtual 60, 3), (410, .pop, 1), (411, .aload_n 2, 1), (412, .aload_n 0, 1), (413, .iload_n 3, 1), (414, .iconst 1, 1), (415, .iadd, 1), (416, .iaload, 1), (417, .invokevirtual 63, 3), (420, .pop, 1), (421, .goto 312, 3), (424, .aload_n 1, 1), (425, .aload_n 0, 1), (426, .iload_n 3, 1), (427, .iconst 1, 1), (428, .iadd, 1), (429, .iaload, 1), (430, .invokevirtual 64, 3), (433, .pop, 1), (434, .aload_n 2, 1), (435, .aload_n 0, 1), (436, .iload_n 3, 1), (437, .iconst 1, 1), (438, .iadd, 1), (439, .iaload, 1), (440, .invokevirtual 67, 3), (443, .pop, 1), (444, .goto 289, 3), (447, .aload_n 1, 1), (448, .invokevirtual 68, 3), (451, .pop, 1), (452, .aload_n 2, 1), (453, .invokevirtual 71, 3), (456, .pop, 1), (457, .goto 276, 3), (460, .aload_n 1, 1), (461, .aload_n 0, 1), (462, .iload_n 3, 1), (463, .iconst 1, 1), (464, .iadd, 1), (465, .iaload, 1), (466, .invokevirtual 72, 3), (469, .pop, 1), (470, .aload_n 2, 1), (471, .aload_n 0, 1), (472, .iload_n 3, 1), (473, .iconst 1, 1), (474, .iadd, 1), (475, .iaload, 1), (476, .invokevirtual 75, 3), (479, .pop, 1), (480, .goto 253, 3), (483, .aload_n 1, 1), (484, .aload_n 0, 1), (485, .iload_n 3, 1), (486, .iconst 1, 1), (487, .iadd, 1), (488, .iaload, 1), (489, .invokevirtual 76, 3), (492, .pop, 1), (493, .aload_n 2, 1), (494, .aload_n 0, 1), (495, .iload_n 3, 1), (496, .iconst 1, 1), (497, .iadd, 1), (498, .iaload, 1), (499, .invokevirtual 79, 3), (502, .pop, 1), (503, .goto 230, 3), (506, .aload_n 1, 1), (507, .aload_n 0, 1), (508, .iload_n 3, 1), (509, .iconst 1, 1), (510, .iadd, 1), (511, .iaload, 1), (512, .invokevirtual 80, 3), (515, .pop, 1), (516, .aload_n 2, 1), (517, .aload_n 0, 1), (518, .iload_n 3, 1), (519, .iconst 1, 1), (520, .iadd, 1), (521, .iaload, 1), (522, .invokevirtual 83, 3), (525, .pop, 1), (526, .goto 207, 3), (529, .aload_n 1, 1), (530, .aload_n 0, 1), (531, .iload_n 3, 1), (532, .iconst 1, 1), (533, .iadd, 1), (534, .iaload, 1), (535, .invokevirtual 84, 3), (538, .pop, 1), (539, .aload_n 2, 1), (540, .aload_n 0, 1), (541, .iload_n 3, 1), (542, .iconst 1, 1), (543, .iadd, 1), (544, .iaload, 1), (545, .invokevirtual 87, 3), (548, .pop, 1), (549, .goto 184, 3), (552, .aload_n 1, 1), (553, .invokevirtual 88, 3), (556, .pop, 1), (557, .aload_n 2, 1), (558, .invokevirtual 91, 3), (561, .pop, 1), (562, .goto 171, 3), (565, .aload_n 1, 1), (566, .aload_n 0, 1), (567, .iload_n 3, 1), (568, .iconst 1, 1), (569, .iadd, 1), (570, .iaload, 1), (571, .invokevirtual 92, 3), (574, .pop, 1), (575, .aload_n 2, 1), (576, .aload_n 0, 1), (577, .iload_n 3, 1), (578, .iconst 1, 1), (579, .iadd, 1), (580, .iaload, 1), (581, .invokevirtual 95, 3), (584, .pop, 1), (585, .goto 148, 3), (588, .aload_n 1, 1), (589, .aload_n 0, 1), (590, .iload_n 3, 1), (591, .iconst 1, 1), (592, .iadd, 1), (593, .iaload, 1), (594, .aload_n 0, 1), (595, .iload_n 3, 1), (596, .iconst 2, 1), (597, .iadd, 1), (598, .iaload, 1), (599, .aload_n 0, 1), (600, .iload_n 3, 1), (601, .iconst 3, 1), (602, .iadd, 1), (603, .iaload, 1), (604, .invokevirtual 96, 3), (607, .pop2, 1), (608, .aload_n 2, 1), (609, .aload_n 0, 1), (610, .iload_n 3, 1), (611, .iconst 1, 1), (612, .iadd, 1), (613, .iaload, 1), (614, .aload_n 0, 1), (615, .iload_n 3, 1), (616, .iconst 2, 1), (617, .iadd, 1), (618, .iaload, 1), (619, .aload_n 0, 1), (620, .iload_n 3, 1), (621, .iconst 3, 1), (622, .iadd, 1), (623, .iaload, 1), (624, .invokevirtual 100, 3), (627, .pop2, 1), (628, .goto 105, 3), (631, .aload_n 1, 1), (632, .aload_n 0, 1), (633, .iload_n 3, 1), (634, .iconst 1, 1), (635, .iadd, 1), (636, .iaload, 1), (637, .aload_n 0, 1), (638, .iload_n 3, 1), (639, .iconst 2, 1), (640, .iadd, 1), (641, .iaload, 1), (642, .invokevirtual 101, 3), (645, .pop, 1), (646, .aload_n 2, 1), (647, .aload_n 0, 1), (648, .iload_n 3, 1), (649, .iconst 1, 1), (650, .iadd, 1), (651, .iaload, 1), (652, .aload_n 0, 1), (653, .iload_n 3, 1), (654, .iconst 2, 1), (655, .iadd, 1), (656, .iaload, 1), (657, .invokevirtual 104, 3), (660, .pop, 1), (661, .goto 72, 3), (664, .aload_n 1, 1), (665, .aload_n 0, 1), (666, .iload_n 3, 1), (667, .iconst 1, 1), (668, .iadd, 1), (669, .iaload, 1), (670, .invokevirtual 105, 3), (673, .pop, 1), (674, .aload_n 2, 1), (675, .aload_n 0, 1), (676, .iload_n 3, 1), (677, .iconst 1, 1), (678, .iadd, 1), (679, .iaload, 1), (680, .invokevirtual 108, 3), (683, .pop, 1), (684, .goto 49, 3), (687, .aload_n 1, 1), (688, .aload_n 0, 1), (689, .iload_n 3, 1), (690, .iconst 1, 1), (691, .iadd, 1), (692, .iaload, 1), (693, .invokevirtual 109, 3), (696, .pop, 1), (697, .aload_n 2, 1), (698, .aload_n 0, 1), (699, .iload_n 3, 1), (700, .iconst 1, 1), (701, .iadd, 1), (702, .iaload, 1), (703, .invokevirtual 112, 3), (706, .pop, 1), (707, .goto 26, 3), (710, .aload_n 1, 1), (711, .aload_n 0, 1), (712, .iload_n 3, 1), (713, .iconst 1, 1), (714, .iadd, 1), (715, .iaload, 1), (716, .invokevirtual 113, 3), (719, .aload_n 2, 1), (720, .aload_n 0, 1), (721, .iload_n 3, 1), (722, .iconst 1, 1), (723, .iadd, 1), (724, .iaload, 1), (725, .invokevirtual 116, 3), (728, .if_icmp .eq 5, 3), (731, .iconst 0, 1), (732, .ireturn, 1), (733, .iinc 3 4, 3), (736, .goto (-718), 3), (739, .iconst 1, 1), (740, .ireturn, 1)]
set_option maxHeartbeats 4000000 in
theorem tL_law : dck cL_law tbL_law = true := by decide +kernel
def f_L_law_L18 (N : Nat) (Ln : Nat) (xs : (Nat → Int32)) : Nat → Int32 → Mem → Option ((Int32 × Mem) ⊕ (Int32))
  | 0, _, _ => none
  | n + 1, x3, M => (if ((Int32.ofNat Ln) - (4 : Int32)) < x3 then some (.inl (x3, M)) else if inb x3 Ln = true then (if ((xs x3.toNatClampNeg) &&& (31 : Int32)) = 0 then if inb (x3 + (1 : Int32)) Ln = true then (f_X6_write N M (xs (x3 + (1 : Int32)).toNatClampNeg)).bind fun q154 => if inb (x3 + (1 : Int32)) Ln = true then (f_X7_write N q154.2 (xs (x3 + (1 : Int32)).toNatClampNeg)).bind fun q164 => f_L_law_L18 N Ln xs n (x3 + (4 : Int32)) q164.2 else none else none else (if ((xs x3.toNatClampNeg) &&& (31 : Int32)) = 1 then (f_X6_erase N M).bind fun q172 => (f_X7_erase N q172.2).bind fun q177 => f_L_law_L18 N Ln xs n (x3 + (4 : Int32)) q177.2 else (if ((xs x3.toNatClampNeg) &&& (31 : Int32)) = 2 then (f_X6_fault N M).bind fun q185 => (f_X7_fault N q185.2).bind fun q190 => f_L_law_L18 N Ln xs n (x3 + (4 : Int32)) q190.2 else (if ((xs x3.toNatClampNeg) &&& (31 : Int32)) = 3 then (f_X6_hall N M).bind fun q198 => (f_X7_hall N q198.2).bind fun q203 => f_L_law_L18 N Ln xs n (x3 + (4 : Int32)) q203.2 else (if ((xs x3.toNatClampNeg) &&& (31 : Int32)) = 4 then if inb (x3 + (1 : Int32)) Ln = true then if inb (x3 + (2 : Int32)) Ln = true then (f_X6_clapper N M (xs (x3 + (1 : Int32)).toNatClampNeg) (xs (x3 + (2 : Int32)).toNatClampNeg)).bind fun q221 => if inb (x3 + (1 : Int32)) Ln = true then if inb (x3 + (2 : Int32)) Ln = true then (f_X7_clapper N M (xs (x3 + (1 : Int32)).toNatClampNeg) (xs (x3 + (2 : Int32)).toNatClampNeg)).bind fun q236 => f_L_law_L18 N Ln xs n (x3 + (4 : Int32)) M else none else none else none else none else (if ((xs x3.toNatClampNeg) &&& (31 : Int32)) = 5 then if inb (x3 + (1 : Int32)) Ln = true then if inb (x3 + (2 : Int32)) Ln = true then (f_X6_encore N M (xs (x3 + (1 : Int32)).toNatClampNeg) (xs (x3 + (2 : Int32)).toNatClampNeg)).bind fun q254 => if inb (x3 + (1 : Int32)) Ln = true then if inb (x3 + (2 : Int32)) Ln = true then (f_X7_encore N M (xs (x3 + (1 : Int32)).toNatClampNeg) (xs (x3 + (2 : Int32)).toNatClampNeg)).bind fun q269 => f_L_law_L18 N Ln xs n (x3 + (4 : Int32)) M else none else none else none else none else (if ((xs x3.toNatClampNeg) &&& (31 : Int32)) = 6 then if inb (x3 + (1 : Int32)) Ln = true then if inb (x3 + (2 : Int32)) Ln = true then (f_X6_as N M (xs (x3 + (1 : Int32)).toNatClampNeg) (xs (x3 + (2 : Int32)).toNatClampNeg)).bind fun q287 => if inb (x3 + (1 : Int32)) Ln = true then if inb (x3 + (2 : Int32)) Ln = true then (f_X7_as N M (xs (x3 + (1 : Int32)).toNatClampNeg) (xs (x3 + (2 : Int32)).toNatClampNeg)).bind fun q302 => f_L_law_L18 N Ln xs n (x3 + (4 : Int32)) M else none else none else none else none else (if ((xs x3.toNatClampNeg) &&& (31 : Int32)) = 7 then if inb (x3 + (1 : Int32)) Ln = true then if inb (x3 + (2 : Int32)) Ln = true then (f_X6_encoreAs N M (xs (x3 + (1 : Int32)).toNatClampNeg) (xs (x3 + (2 : Int32)).toNatClampNeg)).bind fun q320 => if inb (x3 + (1 : Int32)) Ln = true then if inb (x3 + (2 : Int32)) Ln = true then (f_X7_encoreAs N M (xs (x3 + (1 : Int32)).toNatClampNeg) (xs (x3 + (2 : Int32)).toNatClampNeg)).bind fun q335 => f_L_law_L18 N Ln xs n (x3 + (4 : Int32)) M else none else none else none else none else (if ((xs x3.toNatClampNeg) &&& (31 : Int32)) = 8 then if inb (x3 + (1 : Int32)) Ln = true then (f_X6_can N M (xs (x3 + (1 : Int32)).toNatClampNeg)).bind fun q348 => if inb (x3 + (1 : Int32)) Ln = true then (f_X7_can N M (xs (x3 + (1 : Int32)).toNatClampNeg)).bind fun q358 => f_L_law_L18 N Ln xs n (x3 + (4 : Int32)) M else none else none else (if ((xs x3.toNatClampNeg) &&& (31 : Int32)) = 9 then if inb (x3 + (1 : Int32)) Ln = true then (f_X6_does N M (xs (x3 + (1 : Int32)).toNatClampNeg)).bind fun q371 => if inb (x3 + (1 : Int32)) Ln = true then (f_X7_does N q371.2 (xs (x3 + (1 : Int32)).toNatClampNeg)).bind fun q381 => f_L_law_L18 N Ln xs n (x3 + (4 : Int32)) q381.2 else none else none else (if ((xs x3.toNatClampNeg) &&& (31 : Int32)) = 10 then (f_X6_undo N M).bind fun q389 => (f_X7_undo N q389.2).bind fun q394 => f_L_law_L18 N Ln xs n (x3 + (4 : Int32)) q394.2 else (if ((xs x3.toNatClampNeg) &&& (31 : Int32)) = 11 then if inb (x3 + (1 : Int32)) Ln = true then (f_X6_keep N M (xs (x3 + (1 : Int32)).toNatClampNeg)).bind fun q407 => if inb (x3 + (1 : Int32)) Ln = true then (f_X7_keep N q407.2 (xs (x3 + (1 : Int32)).toNatClampNeg)).bind fun q417 => f_L_law_L18 N Ln xs n (x3 + (4 : Int32)) q417.2 else none else none else (if ((xs x3.toNatClampNeg) &&& (31 : Int32)) = 12 then if inb (x3 + (1 : Int32)) Ln = true then (f_X6_back N M (xs (x3 + (1 : Int32)).toNatClampNeg)).bind fun q430 => if inb (x3 + (1 : Int32)) Ln = true then (f_X7_back N q430.2 (xs (x3 + (1 : Int32)).toNatClampNeg)).bind fun q440 => f_L_law_L18 N Ln xs n (x3 + (4 : Int32)) q440.2 else none else none else (if ((xs x3.toNatClampNeg) &&& (31 : Int32)) = 13 then (f_X6_till N M).bind fun q448 => (f_X7_till N q448.2).bind fun q453 => f_L_law_L18 N Ln xs n (x3 + (4 : Int32)) q453.2 else (if ((xs x3.toNatClampNeg) &&& (31 : Int32)) = 14 then if inb (x3 + (1 : Int32)) Ln = true then (f_X6_there N M (xs (x3 + (1 : Int32)).toNatClampNeg)).bind fun q466 => if inb (x3 + (1 : Int32)) Ln = true then (f_X7_there N q466.2 (xs (x3 + (1 : Int32)).toNatClampNeg)).bind fun q476 => f_L_law_L18 N Ln xs n (x3 + (4 : Int32)) q476.2 else none else none else (if ((xs x3.toNatClampNeg) &&& (31 : Int32)) = 15 then if inb (x3 + (1 : Int32)) Ln = true then (f_X6_sound N M (xs (x3 + (1 : Int32)).toNatClampNeg)).bind fun q489 => if inb (x3 + (1 : Int32)) Ln = true then (f_X7_sound N q489.2 (xs (x3 + (1 : Int32)).toNatClampNeg)).bind fun q499 => f_L_law_L18 N Ln xs n (x3 + (4 : Int32)) q499.2 else none else none else (if ((xs x3.toNatClampNeg) &&& (31 : Int32)) = 16 then if inb (x3 + (1 : Int32)) Ln = true then (f_X6_best N M (xs (x3 + (1 : Int32)).toNatClampNeg)).bind fun q512 => if inb (x3 + (1 : Int32)) Ln = true then (f_X7_best N q512.2 (xs (x3 + (1 : Int32)).toNatClampNeg)).bind fun q522 => f_L_law_L18 N Ln xs n (x3 + (4 : Int32)) q522.2 else none else none else (if ((xs x3.toNatClampNeg) &&& (31 : Int32)) = 17 then if inb (x3 + (1 : Int32)) Ln = true then (f_X6_row N M (xs (x3 + (1 : Int32)).toNatClampNeg)).bind fun q535 => if inb (x3 + (1 : Int32)) Ln = true then (f_X7_row N q535.2 (xs (x3 + (1 : Int32)).toNatClampNeg)).bind fun q545 => f_L_law_L18 N Ln xs n (x3 + (4 : Int32)) q545.2 else none else none else (if ((xs x3.toNatClampNeg) &&& (31 : Int32)) = 18 then (f_X6_tear N M).bind fun q553 => (f_X7_tear N q553.2).bind fun q558 => f_L_law_L18 N Ln xs n (x3 + (4 : Int32)) q558.2 else (if ((xs x3.toNatClampNeg) &&& (31 : Int32)) = 19 then if inb (x3 + (1 : Int32)) Ln = true then (f_X6_judge N M (xs (x3 + (1 : Int32)).toNatClampNeg)).bind fun q571 => if inb (x3 + (1 : Int32)) Ln = true then (f_X7_judge N q571.2 (xs (x3 + (1 : Int32)).toNatClampNeg)).bind fun q581 => f_L_law_L18 N Ln xs n (x3 + (4 : Int32)) q581.2 else none else none else (if ((xs x3.toNatClampNeg) &&& (31 : Int32)) = 20 then if inb (x3 + (1 : Int32)) Ln = true then if inb (x3 + (2 : Int32)) Ln = true then if inb (x3 + (3 : Int32)) Ln = true then (f_X6_stay N M (xs (x3 + (1 : Int32)).toNatClampNeg) (xs (x3 + (2 : Int32)).toNatClampNeg) (xs (x3 + (3 : Int32)).toNatClampNeg)).bind fun q604 => if inb (x3 + (1 : Int32)) Ln = true then if inb (x3 + (2 : Int32)) Ln = true then if inb (x3 + (3 : Int32)) Ln = true then (f_X7_stay N M (xs (x3 + (1 : Int32)).toNatClampNeg) (xs (x3 + (2 : Int32)).toNatClampNeg) (xs (x3 + (3 : Int32)).toNatClampNeg)).bind fun q624 => f_L_law_L18 N Ln xs n (x3 + (4 : Int32)) M else none else none else none else none else none else none else (if ((xs x3.toNatClampNeg) &&& (31 : Int32)) = 21 then if inb (x3 + (1 : Int32)) Ln = true then if inb (x3 + (2 : Int32)) Ln = true then (f_X6_gone N M (xs (x3 + (1 : Int32)).toNatClampNeg) (xs (x3 + (2 : Int32)).toNatClampNeg)).bind fun q642 => if inb (x3 + (1 : Int32)) Ln = true then if inb (x3 + (2 : Int32)) Ln = true then (f_X7_gone N M (xs (x3 + (1 : Int32)).toNatClampNeg) (xs (x3 + (2 : Int32)).toNatClampNeg)).bind fun q657 => f_L_law_L18 N Ln xs n (x3 + (4 : Int32)) M else none else none else none else none else (if ((xs x3.toNatClampNeg) &&& (31 : Int32)) = 22 then if inb (x3 + (1 : Int32)) Ln = true then (f_X6_prepared N M (xs (x3 + (1 : Int32)).toNatClampNeg)).bind fun q670 => if inb (x3 + (1 : Int32)) Ln = true then (f_X7_prepared N M (xs (x3 + (1 : Int32)).toNatClampNeg)).bind fun q680 => f_L_law_L18 N Ln xs n (x3 + (4 : Int32)) M else none else none else (if ((xs x3.toNatClampNeg) &&& (31 : Int32)) = 23 then if inb (x3 + (1 : Int32)) Ln = true then (f_X6_other N M (xs (x3 + (1 : Int32)).toNatClampNeg)).bind fun q693 => if inb (x3 + (1 : Int32)) Ln = true then (f_X7_other N q693.2 (xs (x3 + (1 : Int32)).toNatClampNeg)).bind fun q703 => f_L_law_L18 N Ln xs n (x3 + (4 : Int32)) q703.2 else none else none else (if ((xs x3.toNatClampNeg) &&& (31 : Int32)) = 24 then if inb (x3 + (1 : Int32)) Ln = true then (f_X6_count N M (xs (x3 + (1 : Int32)).toNatClampNeg)).bind fun q716 => if inb (x3 + (1 : Int32)) Ln = true then (f_X7_count N M (xs (x3 + (1 : Int32)).toNatClampNeg)).bind fun q725 => (if q716 = q725 then f_L_law_L18 N Ln xs n (x3 + (4 : Int32)) M else some (.inr (0 : Int32))) else none else none else f_L_law_L18 N Ln xs n (x3 + (4 : Int32)) M))))))))))))))))))))))))) else none)
def f_L_law (N : Nat) (Ln : Nat) (xs : Nat → Int32) (M : Mem) : Option Int32 := bS (f_L_law_L18 N Ln xs N (0 : Int32) M) (fun o18 => some (1 : Int32))
set_option maxHeartbeats 4000000 in
set_option maxRecDepth 100000 in
theorem g_L_law_L18 {X : Cx} {F : Fx} (hS : SC X) (hM : SM X) (hF : FK X F cL_law RL 4 37) (N : Nat) (Ln : Nat) (xs : (Nat → Int32)) (hXs : SX X F Ln xs) : ∀ (n : Nat) (x3 : Int32) (M : Mem) (o : ((Int32 × Mem) ⊕ (Int32))), f_L_law_L18 N Ln xs n x3 M = some o → (∀ a, o = .inl a → G X F 739 [none, none, none, none] [] a.2) → (∀ b, o = .inr b → LQ X F b) → G X F 18 [some (.ref 1098), some (.ref 0), some (.ref 70), some (.int x3)] [] M := by
  intro n
  induction n with
  | zero =>
    intro x3 M o h K hRr
    cases h
  | succ n ih =>
    intro x3 M o h K hRr
    rw [f_L_law_L18] at h
    refine g_iload_n hF (dck_at tL_law 10 rfl) rfl ?_
    refine g_aload_n hF (dck_at tL_law 11 rfl) rfl ?_
    refine g_slen0 hF hXs (dck_at tL_law 12 rfl) ?_
    refine g_iconst (v := 4) hF (dck_at tL_law 13 rfl) (by decide) ?_
    refine g_isub hF (dck_at tL_law 14 rfl) ?_
    refine g_icmp_gt hF 739 (dck_at tL_law 15 rfl) (by decide) (fun hc23 => ?_) (fun hc23 => ?_)
    · replace h := ite_t hc23 h
      refine g_msk [false, false, false, false] (L' := [none, none, none, none]) rfl ?_
      cases h
      exact K _ rfl
    · replace h := ite_f hc23 h
      refine g_aload_n hF (dck_at tL_law 16 rfl) rfl ?_
      refine g_iload_n hF (dck_at tL_law 17 rfl) rfl ?_
      obtain ⟨hg28, h⟩ := gd h
      refine g_sld hF hXs hg28 (dck_at tL_law 18 rfl) ?_
      refine g_bipush (v := 31) hF (dck_at tL_law 19 rfl) (by decide) ?_
      refine g_iand hF (dck_at tL_law 20 rfl) ?_
      by_cases hc32_0 : ((xs x3.toNatClampNeg) &&& (31 : Int32)) = 0
      · replace h := ite_t hc32_0 h
        refine g_swIn hF 148 0 hc32_0 (dck_at tL_law 21 rfl) (by decide) (by decide) rfl (by decide) ?_
        refine g_aload_n hF (dck_at tL_law 22 rfl) rfl ?_
        refine g_aload_n hF (dck_at tL_law 23 rfl) rfl ?_
        refine g_iload_n hF (dck_at tL_law 24 rfl) rfl ?_
        refine g_iconst (v := 1) hF (dck_at tL_law 25 rfl) (by decide) ?_
        refine g_iadd hF (dck_at tL_law 26 rfl) ?_
        obtain ⟨hg153, h⟩ := gd h
        refine g_sld hF hXs hg153 (dck_at tL_law 27 rfl) ?_
        show G X F 154 _ _ _
        obtain ⟨q154, e154, h⟩ := bd h
        refine g_callV hF (as := [.int (xs (x3 + (1 : Int32)).toNatClampNeg)]) (k := 0) rfl (by decide) wm_L_13 wi_X6_write we_X6_write wc_X6_write wn_X6 hyX6_write (by decide) (hS 0 (by decide)) kdc_0 (c_X6_write hF.2.2.2.2.2.2.2.1 hS e154) (by decide) rfl rfl rfl rfl (dck_at tL_law 28 rfl) ?_
        show G X F 157 _ [.int q154.1] q154.2
        refine g_pop hF (dck_at tL_law 29 rfl) rfl ?_
        refine g_aload_n hF (dck_at tL_law 30 rfl) rfl ?_
        refine g_aload_n hF (dck_at tL_law 31 rfl) rfl ?_
        refine g_iload_n hF (dck_at tL_law 32 rfl) rfl ?_
        refine g_iconst (v := 1) hF (dck_at tL_law 33 rfl) (by decide) ?_
        refine g_iadd hF (dck_at tL_law 34 rfl) ?_
        show G X F 163 _ _ _
        obtain ⟨hg163, h⟩ := gd h
        refine g_sld hF hXs hg163 (dck_at tL_law 35 rfl) ?_
        obtain ⟨q164, e164, h⟩ := bd h
        refine g_callV hF (as := [.int (xs (x3 + (1 : Int32)).toNatClampNeg)]) (k := 70) rfl (by decide) wm_L_17 wi_X7_write we_X7_write wc_X7_write wn_X7 hyX7_write (by decide) (hM 70 (by decide) (by decide)) kdc_70 (c_X7_write hF.2.2.2.2.2.2.2.1 hM e164) (by decide) rfl rfl rfl rfl (dck_at tL_law 36 rfl) ?_
        show G X F 167 _ [.int q164.1] q164.2
        refine g_pop hF (dck_at tL_law 37 rfl) rfl ?_
        refine g_goto hF 733 (dck_at tL_law 38 rfl) (by decide) ?_
        refine g_iinc (v := 4) (L' := [some (.ref 1098), some (.ref 0), some (.ref 70), some (.int (x3 + (4 : Int32)))]) hF (dck_at tL_law 457 rfl) rfl (by decide) rfl ?_
        refine g_goto hF 18 (dck_at tL_law 458 rfl) (by decide) ?_
        exact ih _ _ _ h K hRr
      replace h := ite_f hc32_0 h
      by_cases hc32_1 : ((xs x3.toNatClampNeg) &&& (31 : Int32)) = 1
      · replace h := ite_t hc32_1 h
        refine g_swIn hF 171 1 hc32_1 (dck_at tL_law 21 rfl) (by decide) (by decide) rfl (by decide) ?_
        refine g_aload_n hF (dck_at tL_law 39 rfl) rfl ?_
        obtain ⟨q172, e172, h⟩ := bd h
        refine g_callV hF (as := []) (k := 0) rfl (by decide) wm_L_18 wi_X6_erase we_X6_erase wc_X6_erase wn_X6 hyX6_erase (by decide) (hS 0 (by decide)) kdc_0 (c_X6_erase hF.2.2.2.2.2.2.2.1 hS e172) (by decide) rfl rfl rfl rfl (dck_at tL_law 40 rfl) ?_
        show G X F 175 _ [.int q172.1] q172.2
        refine g_pop hF (dck_at tL_law 41 rfl) rfl ?_
        refine g_aload_n hF (dck_at tL_law 42 rfl) rfl ?_
        obtain ⟨q177, e177, h⟩ := bd h
        refine g_callV hF (as := []) (k := 70) rfl (by decide) wm_L_22 wi_X7_erase we_X7_erase wc_X7_erase wn_X7 hyX7_erase (by decide) (hM 70 (by decide) (by decide)) kdc_70 (c_X7_erase hF.2.2.2.2.2.2.2.1 hM e177) (by decide) rfl rfl rfl rfl (dck_at tL_law 43 rfl) ?_
        show G X F 180 _ [.int q177.1] q177.2
        refine g_pop hF (dck_at tL_law 44 rfl) rfl ?_
        show G X F 181 _ _ _
        refine g_goto hF 733 (dck_at tL_law 45 rfl) (by decide) ?_
        refine g_iinc (v := 4) (L' := [some (.ref 1098), some (.ref 0), some (.ref 70), some (.int (x3 + (4 : Int32)))]) hF (dck_at tL_law 457 rfl) rfl (by decide) rfl ?_
        refine g_goto hF 18 (dck_at tL_law 458 rfl) (by decide) ?_
        exact ih _ _ _ h K hRr
      replace h := ite_f hc32_1 h
      by_cases hc32_2 : ((xs x3.toNatClampNeg) &&& (31 : Int32)) = 2
      · replace h := ite_t hc32_2 h
        refine g_swIn hF 184 2 hc32_2 (dck_at tL_law 21 rfl) (by decide) (by decide) rfl (by decide) ?_
        refine g_aload_n hF (dck_at tL_law 46 rfl) rfl ?_
        obtain ⟨q185, e185, h⟩ := bd h
        refine g_callV hF (as := []) (k := 0) rfl (by decide) wm_L_23 wi_X6_fault we_X6_fault wc_X6_fault wn_X6 hyX6_fault (by decide) (hS 0 (by decide)) kdc_0 (c_X6_fault hF.2.2.2.2.2.2.2.1 hS e185) (by decide) rfl rfl rfl rfl (dck_at tL_law 47 rfl) ?_
        show G X F 188 _ [.int q185.1] q185.2
        refine g_pop hF (dck_at tL_law 48 rfl) rfl ?_
        refine g_aload_n hF (dck_at tL_law 49 rfl) rfl ?_
        obtain ⟨q190, e190, h⟩ := bd h
        refine g_callV hF (as := []) (k := 70) rfl (by decide) wm_L_26 wi_X7_fault we_X7_fault wc_X7_fault wn_X7 hyX7_fault (by decide) (hM 70 (by decide) (by decide)) kdc_70 (c_X7_fault hF.2.2.2.2.2.2.2.1 hM e190) (by decide) rfl rfl rfl rfl (dck_at tL_law 50 rfl) ?_
        show G X F 193 _ [.int q190.1] q190.2
        refine g_pop hF (dck_at tL_law 51 rfl) rfl ?_
        show G X F 194 _ _ _
        refine g_goto hF 733 (dck_at tL_law 52 rfl) (by decide) ?_
        refine g_iinc (v := 4) (L' := [some (.ref 1098), some (.ref 0), some (.ref 70), some (.int (x3 + (4 : Int32)))]) hF (dck_at tL_law 457 rfl) rfl (by decide) rfl ?_
        refine g_goto hF 18 (dck_at tL_law 458 rfl) (by decide) ?_
        exact ih _ _ _ h K hRr
      replace h := ite_f hc32_2 h
      by_cases hc32_3 : ((xs x3.toNatClampNeg) &&& (31 : Int32)) = 3
      · replace h := ite_t hc32_3 h
        refine g_swIn hF 197 3 hc32_3 (dck_at tL_law 21 rfl) (by decide) (by decide) rfl (by decide) ?_
        refine g_aload_n hF (dck_at tL_law 53 rfl) rfl ?_
        obtain ⟨q198, e198, h⟩ := bd h
        refine g_callV hF (as := []) (k := 0) rfl (by decide) wm_L_27 wi_X6_hall we_X6_hall wc_X6_hall wn_X6 hyX6_hall (by decide) (hS 0 (by decide)) kdc_0 (c_X6_hall hF.2.2.2.2.2.2.2.1 hS e198) (by decide) rfl rfl rfl rfl (dck_at tL_law 54 rfl) ?_
        show G X F 201 _ [.int q198.1] q198.2
        refine g_pop hF (dck_at tL_law 55 rfl) rfl ?_
        refine g_aload_n hF (dck_at tL_law 56 rfl) rfl ?_
        obtain ⟨q203, e203, h⟩ := bd h
        refine g_callV hF (as := []) (k := 70) rfl (by decide) wm_L_30 wi_X7_hall we_X7_hall wc_X7_hall wn_X7 hyX7_hall (by decide) (hM 70 (by decide) (by decide)) kdc_70 (c_X7_hall hF.2.2.2.2.2.2.2.1 hM e203) (by decide) rfl rfl rfl rfl (dck_at tL_law 57 rfl) ?_
        show G X F 206 _ [.int q203.1] q203.2
        refine g_pop hF (dck_at tL_law 58 rfl) rfl ?_
        show G X F 207 _ _ _
        refine g_goto hF 733 (dck_at tL_law 59 rfl) (by decide) ?_
        refine g_iinc (v := 4) (L' := [some (.ref 1098), some (.ref 0), some (.ref 70), some (.int (x3 + (4 : Int32)))]) hF (dck_at tL_law 457 rfl) rfl (by decide) rfl ?_
        refine g_goto hF 18 (dck_at tL_law 458 rfl) (by decide) ?_
        exact ih _ _ _ h K hRr
      replace h := ite_f hc32_3 h
      by_cases hc32_4 : ((xs x3.toNatClampNeg) &&& (31 : Int32)) = 4
      · replace h := ite_t hc32_4 h
        refine g_swIn hF 210 4 hc32_4 (dck_at tL_law 21 rfl) (by decide) (by decide) rfl (by decide) ?_
        refine g_aload_n hF (dck_at tL_law 60 rfl) rfl ?_
        refine g_aload_n hF (dck_at tL_law 61 rfl) rfl ?_
        refine g_iload_n hF (dck_at tL_law 62 rfl) rfl ?_
        refine g_iconst (v := 1) hF (dck_at tL_law 63 rfl) (by decide) ?_
        refine g_iadd hF (dck_at tL_law 64 rfl) ?_
        obtain ⟨hg215, h⟩ := gd h
        refine g_sld hF hXs hg215 (dck_at tL_law 65 rfl) ?_
        show G X F 216 _ _ _
        refine g_aload_n hF (dck_at tL_law 66 rfl) rfl ?_
        refine g_iload_n hF (dck_at tL_law 67 rfl) rfl ?_
        refine g_iconst (v := 2) hF (dck_at tL_law 68 rfl) (by decide) ?_
        refine g_iadd hF (dck_at tL_law 69 rfl) ?_
        obtain ⟨hg220, h⟩ := gd h
        refine g_sld hF hXs hg220 (dck_at tL_law 70 rfl) ?_
        obtain ⟨q221, e221, h⟩ := bd h
        refine g_callV hF (as := [.int (xs (x3 + (1 : Int32)).toNatClampNeg), .int (xs (x3 + (2 : Int32)).toNatClampNeg)]) (k := 0) rfl (by decide) wm_L_31 wi_X6_clapper we_X6_clapper wc_X6_clapper wn_X6 hyX6_clapper (by decide) (hS 0 (by decide)) kdc_0 (c_X6_clapper hF.2.2.2.2.2.2.2.1 hS e221) (by decide) rfl rfl rfl rfl (dck_at tL_law 71 rfl) ?_
        show G X F 224 _ [.int q221] M
        refine g_pop hF (dck_at tL_law 72 rfl) rfl ?_
        show G X F 225 _ _ _
        refine g_aload_n hF (dck_at tL_law 73 rfl) rfl ?_
        refine g_aload_n hF (dck_at tL_law 74 rfl) rfl ?_
        refine g_iload_n hF (dck_at tL_law 75 rfl) rfl ?_
        refine g_iconst (v := 1) hF (dck_at tL_law 76 rfl) (by decide) ?_
        refine g_iadd hF (dck_at tL_law 77 rfl) ?_
        obtain ⟨hg230, h⟩ := gd h
        refine g_sld hF hXs hg230 (dck_at tL_law 78 rfl) ?_
        refine g_aload_n hF (dck_at tL_law 79 rfl) rfl ?_
        show G X F 232 _ _ _
        refine g_iload_n hF (dck_at tL_law 80 rfl) rfl ?_
        refine g_iconst (v := 2) hF (dck_at tL_law 81 rfl) (by decide) ?_
        refine g_iadd hF (dck_at tL_law 82 rfl) ?_
        obtain ⟨hg235, h⟩ := gd h
        refine g_sld hF hXs hg235 (dck_at tL_law 83 rfl) ?_
        obtain ⟨q236, e236, h⟩ := bd h
        refine g_callV hF (as := [.int (xs (x3 + (1 : Int32)).toNatClampNeg), .int (xs (x3 + (2 : Int32)).toNatClampNeg)]) (k := 70) rfl (by decide) wm_L_35 wi_X7_clapper we_X7_clapper wc_X7_clapper wn_X7 hyX7_clapper (by decide) (hM 70 (by decide) (by decide)) kdc_70 (c_X7_clapper hF.2.2.2.2.2.2.2.1 hM e236) (by decide) rfl rfl rfl rfl (dck_at tL_law 84 rfl) ?_
        show G X F 239 _ [.int q236] M
        refine g_pop hF (dck_at tL_law 85 rfl) rfl ?_
        refine g_goto hF 733 (dck_at tL_law 86 rfl) (by decide) ?_
        refine g_iinc (v := 4) (L' := [some (.ref 1098), some (.ref 0), some (.ref 70), some (.int (x3 + (4 : Int32)))]) hF (dck_at tL_law 457 rfl) rfl (by decide) rfl ?_
        refine g_goto hF 18 (dck_at tL_law 458 rfl) (by decide) ?_
        exact ih _ _ _ h K hRr
      replace h := ite_f hc32_4 h
      by_cases hc32_5 : ((xs x3.toNatClampNeg) &&& (31 : Int32)) = 5
      · replace h := ite_t hc32_5 h
        refine g_swIn hF 243 5 hc32_5 (dck_at tL_law 21 rfl) (by decide) (by decide) rfl (by decide) ?_
        refine g_aload_n hF (dck_at tL_law 87 rfl) rfl ?_
        refine g_aload_n hF (dck_at tL_law 88 rfl) rfl ?_
        refine g_iload_n hF (dck_at tL_law 89 rfl) rfl ?_
        refine g_iconst (v := 1) hF (dck_at tL_law 90 rfl) (by decide) ?_
        refine g_iadd hF (dck_at tL_law 91 rfl) ?_
        obtain ⟨hg248, h⟩ := gd h
        refine g_sld hF hXs hg248 (dck_at tL_law 92 rfl) ?_
        show G X F 249 _ _ _
        refine g_aload_n hF (dck_at tL_law 93 rfl) rfl ?_
        refine g_iload_n hF (dck_at tL_law 94 rfl) rfl ?_
        refine g_iconst (v := 2) hF (dck_at tL_law 95 rfl) (by decide) ?_
        refine g_iadd hF (dck_at tL_law 96 rfl) ?_
        obtain ⟨hg253, h⟩ := gd h
        refine g_sld hF hXs hg253 (dck_at tL_law 97 rfl) ?_
        obtain ⟨q254, e254, h⟩ := bd h
        refine g_callV hF (as := [.int (xs (x3 + (1 : Int32)).toNatClampNeg), .int (xs (x3 + (2 : Int32)).toNatClampNeg)]) (k := 0) rfl (by decide) wm_L_36 wi_X6_encore we_X6_encore wc_X6_encore wn_X6 hyX6_encore (by decide) (hS 0 (by decide)) kdc_0 (c_X6_encore hF.2.2.2.2.2.2.2.1 hS e254) (by decide) rfl rfl rfl rfl (dck_at tL_law 98 rfl) ?_
        show G X F 257 _ [.int q254] M
        refine g_pop hF (dck_at tL_law 99 rfl) rfl ?_
        show G X F 258 _ _ _
        refine g_aload_n hF (dck_at tL_law 100 rfl) rfl ?_
        refine g_aload_n hF (dck_at tL_law 101 rfl) rfl ?_
        refine g_iload_n hF (dck_at tL_law 102 rfl) rfl ?_
        refine g_iconst (v := 1) hF (dck_at tL_law 103 rfl) (by decide) ?_
        refine g_iadd hF (dck_at tL_law 104 rfl) ?_
        obtain ⟨hg263, h⟩ := gd h
        refine g_sld hF hXs hg263 (dck_at tL_law 105 rfl) ?_
        refine g_aload_n hF (dck_at tL_law 106 rfl) rfl ?_
        show G X F 265 _ _ _
        refine g_iload_n hF (dck_at tL_law 107 rfl) rfl ?_
        refine g_iconst (v := 2) hF (dck_at tL_law 108 rfl) (by decide) ?_
        refine g_iadd hF (dck_at tL_law 109 rfl) ?_
        obtain ⟨hg268, h⟩ := gd h
        refine g_sld hF hXs hg268 (dck_at tL_law 110 rfl) ?_
        obtain ⟨q269, e269, h⟩ := bd h
        refine g_callV hF (as := [.int (xs (x3 + (1 : Int32)).toNatClampNeg), .int (xs (x3 + (2 : Int32)).toNatClampNeg)]) (k := 70) rfl (by decide) wm_L_39 wi_X7_encore we_X7_encore wc_X7_encore wn_X7 hyX7_encore (by decide) (hM 70 (by decide) (by decide)) kdc_70 (c_X7_encore hF.2.2.2.2.2.2.2.1 hM e269) (by decide) rfl rfl rfl rfl (dck_at tL_law 111 rfl) ?_
        show G X F 272 _ [.int q269] M
        refine g_pop hF (dck_at tL_law 112 rfl) rfl ?_
        refine g_goto hF 733 (dck_at tL_law 113 rfl) (by decide) ?_
        refine g_iinc (v := 4) (L' := [some (.ref 1098), some (.ref 0), some (.ref 70), some (.int (x3 + (4 : Int32)))]) hF (dck_at tL_law 457 rfl) rfl (by decide) rfl ?_
        refine g_goto hF 18 (dck_at tL_law 458 rfl) (by decide) ?_
        exact ih _ _ _ h K hRr
      replace h := ite_f hc32_5 h
      by_cases hc32_6 : ((xs x3.toNatClampNeg) &&& (31 : Int32)) = 6
      · replace h := ite_t hc32_6 h
        refine g_swIn hF 276 6 hc32_6 (dck_at tL_law 21 rfl) (by decide) (by decide) rfl (by decide) ?_
        refine g_aload_n hF (dck_at tL_law 114 rfl) rfl ?_
        refine g_aload_n hF (dck_at tL_law 115 rfl) rfl ?_
        refine g_iload_n hF (dck_at tL_law 116 rfl) rfl ?_
        refine g_iconst (v := 1) hF (dck_at tL_law 117 rfl) (by decide) ?_
        refine g_iadd hF (dck_at tL_law 118 rfl) ?_
        obtain ⟨hg281, h⟩ := gd h
        refine g_sld hF hXs hg281 (dck_at tL_law 119 rfl) ?_
        show G X F 282 _ _ _
        refine g_aload_n hF (dck_at tL_law 120 rfl) rfl ?_
        refine g_iload_n hF (dck_at tL_law 121 rfl) rfl ?_
        refine g_iconst (v := 2) hF (dck_at tL_law 122 rfl) (by decide) ?_
        refine g_iadd hF (dck_at tL_law 123 rfl) ?_
        obtain ⟨hg286, h⟩ := gd h
        refine g_sld hF hXs hg286 (dck_at tL_law 124 rfl) ?_
        obtain ⟨q287, e287, h⟩ := bd h
        refine g_callV hF (as := [.int (xs (x3 + (1 : Int32)).toNatClampNeg), .int (xs (x3 + (2 : Int32)).toNatClampNeg)]) (k := 0) rfl (by decide) wm_L_40 wi_X6_as we_X6_as wc_X6_as wn_X6 hyX6_as (by decide) (hS 0 (by decide)) kdc_0 (c_X6_as hF.2.2.2.2.2.2.2.1 hS e287) (by decide) rfl rfl rfl rfl (dck_at tL_law 125 rfl) ?_
        show G X F 290 _ [.int q287] M
        refine g_pop hF (dck_at tL_law 126 rfl) rfl ?_
        show G X F 291 _ _ _
        refine g_aload_n hF (dck_at tL_law 127 rfl) rfl ?_
        refine g_aload_n hF (dck_at tL_law 128 rfl) rfl ?_
        refine g_iload_n hF (dck_at tL_law 129 rfl) rfl ?_
        refine g_iconst (v := 1) hF (dck_at tL_law 130 rfl) (by decide) ?_
        refine g_iadd hF (dck_at tL_law 131 rfl) ?_
        obtain ⟨hg296, h⟩ := gd h
        refine g_sld hF hXs hg296 (dck_at tL_law 132 rfl) ?_
        refine g_aload_n hF (dck_at tL_law 133 rfl) rfl ?_
        show G X F 298 _ _ _
        refine g_iload_n hF (dck_at tL_law 134 rfl) rfl ?_
        refine g_iconst (v := 2) hF (dck_at tL_law 135 rfl) (by decide) ?_
        refine g_iadd hF (dck_at tL_law 136 rfl) ?_
        obtain ⟨hg301, h⟩ := gd h
        refine g_sld hF hXs hg301 (dck_at tL_law 137 rfl) ?_
        obtain ⟨q302, e302, h⟩ := bd h
        refine g_callV hF (as := [.int (xs (x3 + (1 : Int32)).toNatClampNeg), .int (xs (x3 + (2 : Int32)).toNatClampNeg)]) (k := 70) rfl (by decide) wm_L_43 wi_X7_as we_X7_as wc_X7_as wn_X7 hyX7_as (by decide) (hM 70 (by decide) (by decide)) kdc_70 (c_X7_as hF.2.2.2.2.2.2.2.1 hM e302) (by decide) rfl rfl rfl rfl (dck_at tL_law 138 rfl) ?_
        show G X F 305 _ [.int q302] M
        refine g_pop hF (dck_at tL_law 139 rfl) rfl ?_
        refine g_goto hF 733 (dck_at tL_law 140 rfl) (by decide) ?_
        refine g_iinc (v := 4) (L' := [some (.ref 1098), some (.ref 0), some (.ref 70), some (.int (x3 + (4 : Int32)))]) hF (dck_at tL_law 457 rfl) rfl (by decide) rfl ?_
        refine g_goto hF 18 (dck_at tL_law 458 rfl) (by decide) ?_
        exact ih _ _ _ h K hRr
      replace h := ite_f hc32_6 h
      by_cases hc32_7 : ((xs x3.toNatClampNeg) &&& (31 : Int32)) = 7
      · replace h := ite_t hc32_7 h
        refine g_swIn hF 309 7 hc32_7 (dck_at tL_law 21 rfl) (by decide) (by decide) rfl (by decide) ?_
        refine g_aload_n hF (dck_at tL_law 141 rfl) rfl ?_
        refine g_aload_n hF (dck_at tL_law 142 rfl) rfl ?_
        refine g_iload_n hF (dck_at tL_law 143 rfl) rfl ?_
        refine g_iconst (v := 1) hF (dck_at tL_law 144 rfl) (by decide) ?_
        refine g_iadd hF (dck_at tL_law 145 rfl) ?_
        obtain ⟨hg314, h⟩ := gd h
        refine g_sld hF hXs hg314 (dck_at tL_law 146 rfl) ?_
        show G X F 315 _ _ _
        refine g_aload_n hF (dck_at tL_law 147 rfl) rfl ?_
        refine g_iload_n hF (dck_at tL_law 148 rfl) rfl ?_
        refine g_iconst (v := 2) hF (dck_at tL_law 149 rfl) (by decide) ?_
        refine g_iadd hF (dck_at tL_law 150 rfl) ?_
        obtain ⟨hg319, h⟩ := gd h
        refine g_sld hF hXs hg319 (dck_at tL_law 151 rfl) ?_
        obtain ⟨q320, e320, h⟩ := bd h
        refine g_callV hF (as := [.int (xs (x3 + (1 : Int32)).toNatClampNeg), .int (xs (x3 + (2 : Int32)).toNatClampNeg)]) (k := 0) rfl (by decide) wm_L_44 wi_X6_encoreAs we_X6_encoreAs wc_X6_encoreAs wn_X6 hyX6_encoreAs (by decide) (hS 0 (by decide)) kdc_0 (c_X6_encoreAs hF.2.2.2.2.2.2.2.1 hS e320) (by decide) rfl rfl rfl rfl (dck_at tL_law 152 rfl) ?_
        show G X F 323 _ [.int q320] M
        refine g_pop hF (dck_at tL_law 153 rfl) rfl ?_
        show G X F 324 _ _ _
        refine g_aload_n hF (dck_at tL_law 154 rfl) rfl ?_
        refine g_aload_n hF (dck_at tL_law 155 rfl) rfl ?_
        refine g_iload_n hF (dck_at tL_law 156 rfl) rfl ?_
        refine g_iconst (v := 1) hF (dck_at tL_law 157 rfl) (by decide) ?_
        refine g_iadd hF (dck_at tL_law 158 rfl) ?_
        obtain ⟨hg329, h⟩ := gd h
        refine g_sld hF hXs hg329 (dck_at tL_law 159 rfl) ?_
        refine g_aload_n hF (dck_at tL_law 160 rfl) rfl ?_
        show G X F 331 _ _ _
        refine g_iload_n hF (dck_at tL_law 161 rfl) rfl ?_
        refine g_iconst (v := 2) hF (dck_at tL_law 162 rfl) (by decide) ?_
        refine g_iadd hF (dck_at tL_law 163 rfl) ?_
        obtain ⟨hg334, h⟩ := gd h
        refine g_sld hF hXs hg334 (dck_at tL_law 164 rfl) ?_
        obtain ⟨q335, e335, h⟩ := bd h
        refine g_callV hF (as := [.int (xs (x3 + (1 : Int32)).toNatClampNeg), .int (xs (x3 + (2 : Int32)).toNatClampNeg)]) (k := 70) rfl (by decide) wm_L_47 wi_X7_encoreAs we_X7_encoreAs wc_X7_encoreAs wn_X7 hyX7_encoreAs (by decide) (hM 70 (by decide) (by decide)) kdc_70 (c_X7_encoreAs hF.2.2.2.2.2.2.2.1 hM e335) (by decide) rfl rfl rfl rfl (dck_at tL_law 165 rfl) ?_
        show G X F 338 _ [.int q335] M
        refine g_pop hF (dck_at tL_law 166 rfl) rfl ?_
        refine g_goto hF 733 (dck_at tL_law 167 rfl) (by decide) ?_
        refine g_iinc (v := 4) (L' := [some (.ref 1098), some (.ref 0), some (.ref 70), some (.int (x3 + (4 : Int32)))]) hF (dck_at tL_law 457 rfl) rfl (by decide) rfl ?_
        refine g_goto hF 18 (dck_at tL_law 458 rfl) (by decide) ?_
        exact ih _ _ _ h K hRr
      replace h := ite_f hc32_7 h
      by_cases hc32_8 : ((xs x3.toNatClampNeg) &&& (31 : Int32)) = 8
      · replace h := ite_t hc32_8 h
        refine g_swIn hF 342 8 hc32_8 (dck_at tL_law 21 rfl) (by decide) (by decide) rfl (by decide) ?_
        refine g_aload_n hF (dck_at tL_law 168 rfl) rfl ?_
        refine g_aload_n hF (dck_at tL_law 169 rfl) rfl ?_
        refine g_iload_n hF (dck_at tL_law 170 rfl) rfl ?_
        refine g_iconst (v := 1) hF (dck_at tL_law 171 rfl) (by decide) ?_
        refine g_iadd hF (dck_at tL_law 172 rfl) ?_
        obtain ⟨hg347, h⟩ := gd h
        refine g_sld hF hXs hg347 (dck_at tL_law 173 rfl) ?_
        show G X F 348 _ _ _
        obtain ⟨q348, e348, h⟩ := bd h
        refine g_callV hF (as := [.int (xs (x3 + (1 : Int32)).toNatClampNeg)]) (k := 0) rfl (by decide) wm_L_48 wi_X6_can we_X6_can wc_X6_can wn_X6 hyX6_can (by decide) (hS 0 (by decide)) kdc_0 (c_X6_can hF.2.2.2.2.2.2.2.1 hS e348) (by decide) rfl rfl rfl rfl (dck_at tL_law 174 rfl) ?_
        show G X F 351 _ [.int q348] M
        refine g_pop hF (dck_at tL_law 175 rfl) rfl ?_
        refine g_aload_n hF (dck_at tL_law 176 rfl) rfl ?_
        refine g_aload_n hF (dck_at tL_law 177 rfl) rfl ?_
        refine g_iload_n hF (dck_at tL_law 178 rfl) rfl ?_
        refine g_iconst (v := 1) hF (dck_at tL_law 179 rfl) (by decide) ?_
        refine g_iadd hF (dck_at tL_law 180 rfl) ?_
        show G X F 357 _ _ _
        obtain ⟨hg357, h⟩ := gd h
        refine g_sld hF hXs hg357 (dck_at tL_law 181 rfl) ?_
        obtain ⟨q358, e358, h⟩ := bd h
        refine g_callV hF (as := [.int (xs (x3 + (1 : Int32)).toNatClampNeg)]) (k := 70) rfl (by decide) wm_L_51 wi_X7_can we_X7_can wc_X7_can wn_X7 hyX7_can (by decide) (hM 70 (by decide) (by decide)) kdc_70 (c_X7_can hF.2.2.2.2.2.2.2.1 hM e358) (by decide) rfl rfl rfl rfl (dck_at tL_law 182 rfl) ?_
        show G X F 361 _ [.int q358] M
        refine g_pop hF (dck_at tL_law 183 rfl) rfl ?_
        refine g_goto hF 733 (dck_at tL_law 184 rfl) (by decide) ?_
        refine g_iinc (v := 4) (L' := [some (.ref 1098), some (.ref 0), some (.ref 70), some (.int (x3 + (4 : Int32)))]) hF (dck_at tL_law 457 rfl) rfl (by decide) rfl ?_
        refine g_goto hF 18 (dck_at tL_law 458 rfl) (by decide) ?_
        exact ih _ _ _ h K hRr
      replace h := ite_f hc32_8 h
      by_cases hc32_9 : ((xs x3.toNatClampNeg) &&& (31 : Int32)) = 9
      · replace h := ite_t hc32_9 h
        refine g_swIn hF 365 9 hc32_9 (dck_at tL_law 21 rfl) (by decide) (by decide) rfl (by decide) ?_
        refine g_aload_n hF (dck_at tL_law 185 rfl) rfl ?_
        refine g_aload_n hF (dck_at tL_law 186 rfl) rfl ?_
        refine g_iload_n hF (dck_at tL_law 187 rfl) rfl ?_
        refine g_iconst (v := 1) hF (dck_at tL_law 188 rfl) (by decide) ?_
        refine g_iadd hF (dck_at tL_law 189 rfl) ?_
        obtain ⟨hg370, h⟩ := gd h
        refine g_sld hF hXs hg370 (dck_at tL_law 190 rfl) ?_
        show G X F 371 _ _ _
        obtain ⟨q371, e371, h⟩ := bd h
        refine g_callV hF (as := [.int (xs (x3 + (1 : Int32)).toNatClampNeg)]) (k := 0) rfl (by decide) wm_L_52 wi_X6_does we_X6_does wc_X6_does wn_X6 hyX6_does (by decide) (hS 0 (by decide)) kdc_0 (c_X6_does hF.2.2.2.2.2.2.2.1 hS e371) (by decide) rfl rfl rfl rfl (dck_at tL_law 191 rfl) ?_
        show G X F 374 _ [.int q371.1] q371.2
        refine g_pop hF (dck_at tL_law 192 rfl) rfl ?_
        refine g_aload_n hF (dck_at tL_law 193 rfl) rfl ?_
        refine g_aload_n hF (dck_at tL_law 194 rfl) rfl ?_
        refine g_iload_n hF (dck_at tL_law 195 rfl) rfl ?_
        refine g_iconst (v := 1) hF (dck_at tL_law 196 rfl) (by decide) ?_
        refine g_iadd hF (dck_at tL_law 197 rfl) ?_
        show G X F 380 _ _ _
        obtain ⟨hg380, h⟩ := gd h
        refine g_sld hF hXs hg380 (dck_at tL_law 198 rfl) ?_
        obtain ⟨q381, e381, h⟩ := bd h
        refine g_callV hF (as := [.int (xs (x3 + (1 : Int32)).toNatClampNeg)]) (k := 70) rfl (by decide) wm_L_55 wi_X7_does we_X7_does wc_X7_does wn_X7 hyX7_does (by decide) (hM 70 (by decide) (by decide)) kdc_70 (c_X7_does hF.2.2.2.2.2.2.2.1 hM e381) (by decide) rfl rfl rfl rfl (dck_at tL_law 199 rfl) ?_
        show G X F 384 _ [.int q381.1] q381.2
        refine g_pop hF (dck_at tL_law 200 rfl) rfl ?_
        refine g_goto hF 733 (dck_at tL_law 201 rfl) (by decide) ?_
        refine g_iinc (v := 4) (L' := [some (.ref 1098), some (.ref 0), some (.ref 70), some (.int (x3 + (4 : Int32)))]) hF (dck_at tL_law 457 rfl) rfl (by decide) rfl ?_
        refine g_goto hF 18 (dck_at tL_law 458 rfl) (by decide) ?_
        exact ih _ _ _ h K hRr
      replace h := ite_f hc32_9 h
      by_cases hc32_10 : ((xs x3.toNatClampNeg) &&& (31 : Int32)) = 10
      · replace h := ite_t hc32_10 h
        refine g_swIn hF 388 10 hc32_10 (dck_at tL_law 21 rfl) (by decide) (by decide) rfl (by decide) ?_
        refine g_aload_n hF (dck_at tL_law 202 rfl) rfl ?_
        obtain ⟨q389, e389, h⟩ := bd h
        refine g_callV hF (as := []) (k := 0) rfl (by decide) wm_L_56 wi_X6_undo we_X6_undo wc_X6_undo wn_X6 hyX6_undo (by decide) (hS 0 (by decide)) kdc_0 (c_X6_undo hF.2.2.2.2.2.2.2.1 hS e389) (by decide) rfl rfl rfl rfl (dck_at tL_law 203 rfl) ?_
        show G X F 392 _ [.int q389.1] q389.2
        refine g_pop hF (dck_at tL_law 204 rfl) rfl ?_
        refine g_aload_n hF (dck_at tL_law 205 rfl) rfl ?_
        obtain ⟨q394, e394, h⟩ := bd h
        refine g_callV hF (as := []) (k := 70) rfl (by decide) wm_L_59 wi_X7_undo we_X7_undo wc_X7_undo wn_X7 hyX7_undo (by decide) (hM 70 (by decide) (by decide)) kdc_70 (c_X7_undo hF.2.2.2.2.2.2.2.1 hM e394) (by decide) rfl rfl rfl rfl (dck_at tL_law 206 rfl) ?_
        show G X F 397 _ [.int q394.1] q394.2
        refine g_pop hF (dck_at tL_law 207 rfl) rfl ?_
        show G X F 398 _ _ _
        refine g_goto hF 733 (dck_at tL_law 208 rfl) (by decide) ?_
        refine g_iinc (v := 4) (L' := [some (.ref 1098), some (.ref 0), some (.ref 70), some (.int (x3 + (4 : Int32)))]) hF (dck_at tL_law 457 rfl) rfl (by decide) rfl ?_
        refine g_goto hF 18 (dck_at tL_law 458 rfl) (by decide) ?_
        exact ih _ _ _ h K hRr
      replace h := ite_f hc32_10 h
      by_cases hc32_11 : ((xs x3.toNatClampNeg) &&& (31 : Int32)) = 11
      · replace h := ite_t hc32_11 h
        refine g_swIn hF 401 11 hc32_11 (dck_at tL_law 21 rfl) (by decide) (by decide) rfl (by decide) ?_
        refine g_aload_n hF (dck_at tL_law 209 rfl) rfl ?_
        refine g_aload_n hF (dck_at tL_law 210 rfl) rfl ?_
        refine g_iload_n hF (dck_at tL_law 211 rfl) rfl ?_
        refine g_iconst (v := 1) hF (dck_at tL_law 212 rfl) (by decide) ?_
        refine g_iadd hF (dck_at tL_law 213 rfl) ?_
        obtain ⟨hg406, h⟩ := gd h
        refine g_sld hF hXs hg406 (dck_at tL_law 214 rfl) ?_
        show G X F 407 _ _ _
        obtain ⟨q407, e407, h⟩ := bd h
        refine g_callV hF (as := [.int (xs (x3 + (1 : Int32)).toNatClampNeg)]) (k := 0) rfl (by decide) wm_L_60 wi_X6_keep we_X6_keep wc_X6_keep wn_X6 hyX6_keep (by decide) (hS 0 (by decide)) kdc_0 (c_X6_keep hF.2.2.2.2.2.2.2.1 hS e407) (by decide) rfl rfl rfl rfl (dck_at tL_law 215 rfl) ?_
        show G X F 410 _ [.int q407.1] q407.2
        refine g_pop hF (dck_at tL_law 216 rfl) rfl ?_
        refine g_aload_n hF (dck_at tL_law 217 rfl) rfl ?_
        refine g_aload_n hF (dck_at tL_law 218 rfl) rfl ?_
        refine g_iload_n hF (dck_at tL_law 219 rfl) rfl ?_
        refine g_iconst (v := 1) hF (dck_at tL_law 220 rfl) (by decide) ?_
        refine g_iadd hF (dck_at tL_law 221 rfl) ?_
        show G X F 416 _ _ _
        obtain ⟨hg416, h⟩ := gd h
        refine g_sld hF hXs hg416 (dck_at tL_law 222 rfl) ?_
        obtain ⟨q417, e417, h⟩ := bd h
        refine g_callV hF (as := [.int (xs (x3 + (1 : Int32)).toNatClampNeg)]) (k := 70) rfl (by decide) wm_L_63 wi_X7_keep we_X7_keep wc_X7_keep wn_X7 hyX7_keep (by decide) (hM 70 (by decide) (by decide)) kdc_70 (c_X7_keep hF.2.2.2.2.2.2.2.1 hM e417) (by decide) rfl rfl rfl rfl (dck_at tL_law 223 rfl) ?_
        show G X F 420 _ [.int q417.1] q417.2
        refine g_pop hF (dck_at tL_law 224 rfl) rfl ?_
        refine g_goto hF 733 (dck_at tL_law 225 rfl) (by decide) ?_
        refine g_iinc (v := 4) (L' := [some (.ref 1098), some (.ref 0), some (.ref 70), some (.int (x3 + (4 : Int32)))]) hF (dck_at tL_law 457 rfl) rfl (by decide) rfl ?_
        refine g_goto hF 18 (dck_at tL_law 458 rfl) (by decide) ?_
        exact ih _ _ _ h K hRr
      replace h := ite_f hc32_11 h
      by_cases hc32_12 : ((xs x3.toNatClampNeg) &&& (31 : Int32)) = 12
      · replace h := ite_t hc32_12 h
        refine g_swIn hF 424 12 hc32_12 (dck_at tL_law 21 rfl) (by decide) (by decide) rfl (by decide) ?_
        refine g_aload_n hF (dck_at tL_law 226 rfl) rfl ?_
        refine g_aload_n hF (dck_at tL_law 227 rfl) rfl ?_
        refine g_iload_n hF (dck_at tL_law 228 rfl) rfl ?_
        refine g_iconst (v := 1) hF (dck_at tL_law 229 rfl) (by decide) ?_
        refine g_iadd hF (dck_at tL_law 230 rfl) ?_
        obtain ⟨hg429, h⟩ := gd h
        refine g_sld hF hXs hg429 (dck_at tL_law 231 rfl) ?_
        show G X F 430 _ _ _
        obtain ⟨q430, e430, h⟩ := bd h
        refine g_callV hF (as := [.int (xs (x3 + (1 : Int32)).toNatClampNeg)]) (k := 0) rfl (by decide) wm_L_64 wi_X6_back we_X6_back wc_X6_back wn_X6 hyX6_back (by decide) (hS 0 (by decide)) kdc_0 (c_X6_back hF.2.2.2.2.2.2.2.1 hS e430) (by decide) rfl rfl rfl rfl (dck_at tL_law 232 rfl) ?_
        show G X F 433 _ [.int q430.1] q430.2
        refine g_pop hF (dck_at tL_law 233 rfl) rfl ?_
        refine g_aload_n hF (dck_at tL_law 234 rfl) rfl ?_
        refine g_aload_n hF (dck_at tL_law 235 rfl) rfl ?_
        refine g_iload_n hF (dck_at tL_law 236 rfl) rfl ?_
        refine g_iconst (v := 1) hF (dck_at tL_law 237 rfl) (by decide) ?_
        refine g_iadd hF (dck_at tL_law 238 rfl) ?_
        show G X F 439 _ _ _
        obtain ⟨hg439, h⟩ := gd h
        refine g_sld hF hXs hg439 (dck_at tL_law 239 rfl) ?_
        obtain ⟨q440, e440, h⟩ := bd h
        refine g_callV hF (as := [.int (xs (x3 + (1 : Int32)).toNatClampNeg)]) (k := 70) rfl (by decide) wm_L_67 wi_X7_back we_X7_back wc_X7_back wn_X7 hyX7_back (by decide) (hM 70 (by decide) (by decide)) kdc_70 (c_X7_back hF.2.2.2.2.2.2.2.1 hM e440) (by decide) rfl rfl rfl rfl (dck_at tL_law 240 rfl) ?_
        show G X F 443 _ [.int q440.1] q440.2
        refine g_pop hF (dck_at tL_law 241 rfl) rfl ?_
        refine g_goto hF 733 (dck_at tL_law 242 rfl) (by decide) ?_
        refine g_iinc (v := 4) (L' := [some (.ref 1098), some (.ref 0), some (.ref 70), some (.int (x3 + (4 : Int32)))]) hF (dck_at tL_law 457 rfl) rfl (by decide) rfl ?_
        refine g_goto hF 18 (dck_at tL_law 458 rfl) (by decide) ?_
        exact ih _ _ _ h K hRr
      replace h := ite_f hc32_12 h
      by_cases hc32_13 : ((xs x3.toNatClampNeg) &&& (31 : Int32)) = 13
      · replace h := ite_t hc32_13 h
        refine g_swIn hF 447 13 hc32_13 (dck_at tL_law 21 rfl) (by decide) (by decide) rfl (by decide) ?_
        refine g_aload_n hF (dck_at tL_law 243 rfl) rfl ?_
        obtain ⟨q448, e448, h⟩ := bd h
        refine g_callV hF (as := []) (k := 0) rfl (by decide) wm_L_68 wi_X6_till we_X6_till wc_X6_till wn_X6 hyX6_till (by decide) (hS 0 (by decide)) kdc_0 (c_X6_till hF.2.2.2.2.2.2.2.1 hS e448) (by decide) rfl rfl rfl rfl (dck_at tL_law 244 rfl) ?_
        show G X F 451 _ [.int q448.1] q448.2
        refine g_pop hF (dck_at tL_law 245 rfl) rfl ?_
        refine g_aload_n hF (dck_at tL_law 246 rfl) rfl ?_
        obtain ⟨q453, e453, h⟩ := bd h
        refine g_callV hF (as := []) (k := 70) rfl (by decide) wm_L_71 wi_X7_till we_X7_till wc_X7_till wn_X7 hyX7_till (by decide) (hM 70 (by decide) (by decide)) kdc_70 (c_X7_till hF.2.2.2.2.2.2.2.1 hM e453) (by decide) rfl rfl rfl rfl (dck_at tL_law 247 rfl) ?_
        show G X F 456 _ [.int q453.1] q453.2
        refine g_pop hF (dck_at tL_law 248 rfl) rfl ?_
        show G X F 457 _ _ _
        refine g_goto hF 733 (dck_at tL_law 249 rfl) (by decide) ?_
        refine g_iinc (v := 4) (L' := [some (.ref 1098), some (.ref 0), some (.ref 70), some (.int (x3 + (4 : Int32)))]) hF (dck_at tL_law 457 rfl) rfl (by decide) rfl ?_
        refine g_goto hF 18 (dck_at tL_law 458 rfl) (by decide) ?_
        exact ih _ _ _ h K hRr
      replace h := ite_f hc32_13 h
      by_cases hc32_14 : ((xs x3.toNatClampNeg) &&& (31 : Int32)) = 14
      · replace h := ite_t hc32_14 h
        refine g_swIn hF 460 14 hc32_14 (dck_at tL_law 21 rfl) (by decide) (by decide) rfl (by decide) ?_
        refine g_aload_n hF (dck_at tL_law 250 rfl) rfl ?_
        refine g_aload_n hF (dck_at tL_law 251 rfl) rfl ?_
        refine g_iload_n hF (dck_at tL_law 252 rfl) rfl ?_
        refine g_iconst (v := 1) hF (dck_at tL_law 253 rfl) (by decide) ?_
        refine g_iadd hF (dck_at tL_law 254 rfl) ?_
        obtain ⟨hg465, h⟩ := gd h
        refine g_sld hF hXs hg465 (dck_at tL_law 255 rfl) ?_
        show G X F 466 _ _ _
        obtain ⟨q466, e466, h⟩ := bd h
        refine g_callV hF (as := [.int (xs (x3 + (1 : Int32)).toNatClampNeg)]) (k := 0) rfl (by decide) wm_L_72 wi_X6_there we_X6_there wc_X6_there wn_X6 hyX6_there (by decide) (hS 0 (by decide)) kdc_0 (c_X6_there hF.2.2.2.2.2.2.2.1 hS e466) (by decide) rfl rfl rfl rfl (dck_at tL_law 256 rfl) ?_
        show G X F 469 _ [.int q466.1] q466.2
        refine g_pop hF (dck_at tL_law 257 rfl) rfl ?_
        refine g_aload_n hF (dck_at tL_law 258 rfl) rfl ?_
        refine g_aload_n hF (dck_at tL_law 259 rfl) rfl ?_
        refine g_iload_n hF (dck_at tL_law 260 rfl) rfl ?_
        refine g_iconst (v := 1) hF (dck_at tL_law 261 rfl) (by decide) ?_
        refine g_iadd hF (dck_at tL_law 262 rfl) ?_
        show G X F 475 _ _ _
        obtain ⟨hg475, h⟩ := gd h
        refine g_sld hF hXs hg475 (dck_at tL_law 263 rfl) ?_
        obtain ⟨q476, e476, h⟩ := bd h
        refine g_callV hF (as := [.int (xs (x3 + (1 : Int32)).toNatClampNeg)]) (k := 70) rfl (by decide) wm_L_75 wi_X7_there we_X7_there wc_X7_there wn_X7 hyX7_there (by decide) (hM 70 (by decide) (by decide)) kdc_70 (c_X7_there hF.2.2.2.2.2.2.2.1 hM e476) (by decide) rfl rfl rfl rfl (dck_at tL_law 264 rfl) ?_
        show G X F 479 _ [.int q476.1] q476.2
        refine g_pop hF (dck_at tL_law 265 rfl) rfl ?_
        refine g_goto hF 733 (dck_at tL_law 266 rfl) (by decide) ?_
        refine g_iinc (v := 4) (L' := [some (.ref 1098), some (.ref 0), some (.ref 70), some (.int (x3 + (4 : Int32)))]) hF (dck_at tL_law 457 rfl) rfl (by decide) rfl ?_
        refine g_goto hF 18 (dck_at tL_law 458 rfl) (by decide) ?_
        exact ih _ _ _ h K hRr
      replace h := ite_f hc32_14 h
      by_cases hc32_15 : ((xs x3.toNatClampNeg) &&& (31 : Int32)) = 15
      · replace h := ite_t hc32_15 h
        refine g_swIn hF 483 15 hc32_15 (dck_at tL_law 21 rfl) (by decide) (by decide) rfl (by decide) ?_
        refine g_aload_n hF (dck_at tL_law 267 rfl) rfl ?_
        refine g_aload_n hF (dck_at tL_law 268 rfl) rfl ?_
        refine g_iload_n hF (dck_at tL_law 269 rfl) rfl ?_
        refine g_iconst (v := 1) hF (dck_at tL_law 270 rfl) (by decide) ?_
        refine g_iadd hF (dck_at tL_law 271 rfl) ?_
        obtain ⟨hg488, h⟩ := gd h
        refine g_sld hF hXs hg488 (dck_at tL_law 272 rfl) ?_
        show G X F 489 _ _ _
        obtain ⟨q489, e489, h⟩ := bd h
        refine g_callV hF (as := [.int (xs (x3 + (1 : Int32)).toNatClampNeg)]) (k := 0) rfl (by decide) wm_L_76 wi_X6_sound we_X6_sound wc_X6_sound wn_X6 hyX6_sound (by decide) (hS 0 (by decide)) kdc_0 (c_X6_sound hF.2.2.2.2.2.2.2.1 hS e489) (by decide) rfl rfl rfl rfl (dck_at tL_law 273 rfl) ?_
        show G X F 492 _ [.int q489.1] q489.2
        refine g_pop hF (dck_at tL_law 274 rfl) rfl ?_
        refine g_aload_n hF (dck_at tL_law 275 rfl) rfl ?_
        refine g_aload_n hF (dck_at tL_law 276 rfl) rfl ?_
        refine g_iload_n hF (dck_at tL_law 277 rfl) rfl ?_
        refine g_iconst (v := 1) hF (dck_at tL_law 278 rfl) (by decide) ?_
        refine g_iadd hF (dck_at tL_law 279 rfl) ?_
        show G X F 498 _ _ _
        obtain ⟨hg498, h⟩ := gd h
        refine g_sld hF hXs hg498 (dck_at tL_law 280 rfl) ?_
        obtain ⟨q499, e499, h⟩ := bd h
        refine g_callV hF (as := [.int (xs (x3 + (1 : Int32)).toNatClampNeg)]) (k := 70) rfl (by decide) wm_L_79 wi_X7_sound we_X7_sound wc_X7_sound wn_X7 hyX7_sound (by decide) (hM 70 (by decide) (by decide)) kdc_70 (c_X7_sound hF.2.2.2.2.2.2.2.1 hM e499) (by decide) rfl rfl rfl rfl (dck_at tL_law 281 rfl) ?_
        show G X F 502 _ [.int q499.1] q499.2
        refine g_pop hF (dck_at tL_law 282 rfl) rfl ?_
        refine g_goto hF 733 (dck_at tL_law 283 rfl) (by decide) ?_
        refine g_iinc (v := 4) (L' := [some (.ref 1098), some (.ref 0), some (.ref 70), some (.int (x3 + (4 : Int32)))]) hF (dck_at tL_law 457 rfl) rfl (by decide) rfl ?_
        refine g_goto hF 18 (dck_at tL_law 458 rfl) (by decide) ?_
        exact ih _ _ _ h K hRr
      replace h := ite_f hc32_15 h
      by_cases hc32_16 : ((xs x3.toNatClampNeg) &&& (31 : Int32)) = 16
      · replace h := ite_t hc32_16 h
        refine g_swIn hF 506 16 hc32_16 (dck_at tL_law 21 rfl) (by decide) (by decide) rfl (by decide) ?_
        refine g_aload_n hF (dck_at tL_law 284 rfl) rfl ?_
        refine g_aload_n hF (dck_at tL_law 285 rfl) rfl ?_
        refine g_iload_n hF (dck_at tL_law 286 rfl) rfl ?_
        refine g_iconst (v := 1) hF (dck_at tL_law 287 rfl) (by decide) ?_
        refine g_iadd hF (dck_at tL_law 288 rfl) ?_
        obtain ⟨hg511, h⟩ := gd h
        refine g_sld hF hXs hg511 (dck_at tL_law 289 rfl) ?_
        show G X F 512 _ _ _
        obtain ⟨q512, e512, h⟩ := bd h
        refine g_callV hF (as := [.int (xs (x3 + (1 : Int32)).toNatClampNeg)]) (k := 0) rfl (by decide) wm_L_80 wi_X6_best we_X6_best wc_X6_best wn_X6 hyX6_best (by decide) (hS 0 (by decide)) kdc_0 (c_X6_best hF.2.2.2.2.2.2.2.1 hS e512) (by decide) rfl rfl rfl rfl (dck_at tL_law 290 rfl) ?_
        show G X F 515 _ [.int q512.1] q512.2
        refine g_pop hF (dck_at tL_law 291 rfl) rfl ?_
        refine g_aload_n hF (dck_at tL_law 292 rfl) rfl ?_
        refine g_aload_n hF (dck_at tL_law 293 rfl) rfl ?_
        refine g_iload_n hF (dck_at tL_law 294 rfl) rfl ?_
        refine g_iconst (v := 1) hF (dck_at tL_law 295 rfl) (by decide) ?_
        refine g_iadd hF (dck_at tL_law 296 rfl) ?_
        show G X F 521 _ _ _
        obtain ⟨hg521, h⟩ := gd h
        refine g_sld hF hXs hg521 (dck_at tL_law 297 rfl) ?_
        obtain ⟨q522, e522, h⟩ := bd h
        refine g_callV hF (as := [.int (xs (x3 + (1 : Int32)).toNatClampNeg)]) (k := 70) rfl (by decide) wm_L_83 wi_X7_best we_X7_best wc_X7_best wn_X7 hyX7_best (by decide) (hM 70 (by decide) (by decide)) kdc_70 (c_X7_best hF.2.2.2.2.2.2.2.1 hM e522) (by decide) rfl rfl rfl rfl (dck_at tL_law 298 rfl) ?_
        show G X F 525 _ [.int q522.1] q522.2
        refine g_pop hF (dck_at tL_law 299 rfl) rfl ?_
        refine g_goto hF 733 (dck_at tL_law 300 rfl) (by decide) ?_
        refine g_iinc (v := 4) (L' := [some (.ref 1098), some (.ref 0), some (.ref 70), some (.int (x3 + (4 : Int32)))]) hF (dck_at tL_law 457 rfl) rfl (by decide) rfl ?_
        refine g_goto hF 18 (dck_at tL_law 458 rfl) (by decide) ?_
        exact ih _ _ _ h K hRr
      replace h := ite_f hc32_16 h
      by_cases hc32_17 : ((xs x3.toNatClampNeg) &&& (31 : Int32)) = 17
      · replace h := ite_t hc32_17 h
        refine g_swIn hF 529 17 hc32_17 (dck_at tL_law 21 rfl) (by decide) (by decide) rfl (by decide) ?_
        refine g_aload_n hF (dck_at tL_law 301 rfl) rfl ?_
        refine g_aload_n hF (dck_at tL_law 302 rfl) rfl ?_
        refine g_iload_n hF (dck_at tL_law 303 rfl) rfl ?_
        refine g_iconst (v := 1) hF (dck_at tL_law 304 rfl) (by decide) ?_
        refine g_iadd hF (dck_at tL_law 305 rfl) ?_
        obtain ⟨hg534, h⟩ := gd h
        refine g_sld hF hXs hg534 (dck_at tL_law 306 rfl) ?_
        show G X F 535 _ _ _
        obtain ⟨q535, e535, h⟩ := bd h
        refine g_callV hF (as := [.int (xs (x3 + (1 : Int32)).toNatClampNeg)]) (k := 0) rfl (by decide) wm_L_84 wi_X6_row we_X6_row wc_X6_row wn_X6 hyX6_row (by decide) (hS 0 (by decide)) kdc_0 (c_X6_row hF.2.2.2.2.2.2.2.1 hS e535) (by decide) rfl rfl rfl rfl (dck_at tL_law 307 rfl) ?_
        show G X F 538 _ [.int q535.1] q535.2
        refine g_pop hF (dck_at tL_law 308 rfl) rfl ?_
        refine g_aload_n hF (dck_at tL_law 309 rfl) rfl ?_
        refine g_aload_n hF (dck_at tL_law 310 rfl) rfl ?_
        refine g_iload_n hF (dck_at tL_law 311 rfl) rfl ?_
        refine g_iconst (v := 1) hF (dck_at tL_law 312 rfl) (by decide) ?_
        refine g_iadd hF (dck_at tL_law 313 rfl) ?_
        show G X F 544 _ _ _
        obtain ⟨hg544, h⟩ := gd h
        refine g_sld hF hXs hg544 (dck_at tL_law 314 rfl) ?_
        obtain ⟨q545, e545, h⟩ := bd h
        refine g_callV hF (as := [.int (xs (x3 + (1 : Int32)).toNatClampNeg)]) (k := 70) rfl (by decide) wm_L_87 wi_X7_row we_X7_row wc_X7_row wn_X7 hyX7_row (by decide) (hM 70 (by decide) (by decide)) kdc_70 (c_X7_row hF.2.2.2.2.2.2.2.1 hM e545) (by decide) rfl rfl rfl rfl (dck_at tL_law 315 rfl) ?_
        show G X F 548 _ [.int q545.1] q545.2
        refine g_pop hF (dck_at tL_law 316 rfl) rfl ?_
        refine g_goto hF 733 (dck_at tL_law 317 rfl) (by decide) ?_
        refine g_iinc (v := 4) (L' := [some (.ref 1098), some (.ref 0), some (.ref 70), some (.int (x3 + (4 : Int32)))]) hF (dck_at tL_law 457 rfl) rfl (by decide) rfl ?_
        refine g_goto hF 18 (dck_at tL_law 458 rfl) (by decide) ?_
        exact ih _ _ _ h K hRr
      replace h := ite_f hc32_17 h
      by_cases hc32_18 : ((xs x3.toNatClampNeg) &&& (31 : Int32)) = 18
      · replace h := ite_t hc32_18 h
        refine g_swIn hF 552 18 hc32_18 (dck_at tL_law 21 rfl) (by decide) (by decide) rfl (by decide) ?_
        refine g_aload_n hF (dck_at tL_law 318 rfl) rfl ?_
        obtain ⟨q553, e553, h⟩ := bd h
        refine g_callV hF (as := []) (k := 0) rfl (by decide) wm_L_88 wi_X6_tear we_X6_tear wc_X6_tear wn_X6 hyX6_tear (by decide) (hS 0 (by decide)) kdc_0 (c_X6_tear hF.2.2.2.2.2.2.2.1 hS e553) (by decide) rfl rfl rfl rfl (dck_at tL_law 319 rfl) ?_
        show G X F 556 _ [.int q553.1] q553.2
        refine g_pop hF (dck_at tL_law 320 rfl) rfl ?_
        refine g_aload_n hF (dck_at tL_law 321 rfl) rfl ?_
        obtain ⟨q558, e558, h⟩ := bd h
        refine g_callV hF (as := []) (k := 70) rfl (by decide) wm_L_91 wi_X7_tear we_X7_tear wc_X7_tear wn_X7 hyX7_tear (by decide) (hM 70 (by decide) (by decide)) kdc_70 (c_X7_tear hF.2.2.2.2.2.2.2.1 hM e558) (by decide) rfl rfl rfl rfl (dck_at tL_law 322 rfl) ?_
        show G X F 561 _ [.int q558.1] q558.2
        refine g_pop hF (dck_at tL_law 323 rfl) rfl ?_
        show G X F 562 _ _ _
        refine g_goto hF 733 (dck_at tL_law 324 rfl) (by decide) ?_
        refine g_iinc (v := 4) (L' := [some (.ref 1098), some (.ref 0), some (.ref 70), some (.int (x3 + (4 : Int32)))]) hF (dck_at tL_law 457 rfl) rfl (by decide) rfl ?_
        refine g_goto hF 18 (dck_at tL_law 458 rfl) (by decide) ?_
        exact ih _ _ _ h K hRr
      replace h := ite_f hc32_18 h
      by_cases hc32_19 : ((xs x3.toNatClampNeg) &&& (31 : Int32)) = 19
      · replace h := ite_t hc32_19 h
        refine g_swIn hF 565 19 hc32_19 (dck_at tL_law 21 rfl) (by decide) (by decide) rfl (by decide) ?_
        refine g_aload_n hF (dck_at tL_law 325 rfl) rfl ?_
        refine g_aload_n hF (dck_at tL_law 326 rfl) rfl ?_
        refine g_iload_n hF (dck_at tL_law 327 rfl) rfl ?_
        refine g_iconst (v := 1) hF (dck_at tL_law 328 rfl) (by decide) ?_
        refine g_iadd hF (dck_at tL_law 329 rfl) ?_
        obtain ⟨hg570, h⟩ := gd h
        refine g_sld hF hXs hg570 (dck_at tL_law 330 rfl) ?_
        show G X F 571 _ _ _
        obtain ⟨q571, e571, h⟩ := bd h
        refine g_callV hF (as := [.int (xs (x3 + (1 : Int32)).toNatClampNeg)]) (k := 0) rfl (by decide) wm_L_92 wi_X6_judge we_X6_judge wc_X6_judge wn_X6 hyX6_judge (by decide) (hS 0 (by decide)) kdc_0 (c_X6_judge hF.2.2.2.2.2.2.2.1 hS e571) (by decide) rfl rfl rfl rfl (dck_at tL_law 331 rfl) ?_
        show G X F 574 _ [.int q571.1] q571.2
        refine g_pop hF (dck_at tL_law 332 rfl) rfl ?_
        refine g_aload_n hF (dck_at tL_law 333 rfl) rfl ?_
        refine g_aload_n hF (dck_at tL_law 334 rfl) rfl ?_
        refine g_iload_n hF (dck_at tL_law 335 rfl) rfl ?_
        refine g_iconst (v := 1) hF (dck_at tL_law 336 rfl) (by decide) ?_
        refine g_iadd hF (dck_at tL_law 337 rfl) ?_
        show G X F 580 _ _ _
        obtain ⟨hg580, h⟩ := gd h
        refine g_sld hF hXs hg580 (dck_at tL_law 338 rfl) ?_
        obtain ⟨q581, e581, h⟩ := bd h
        refine g_callV hF (as := [.int (xs (x3 + (1 : Int32)).toNatClampNeg)]) (k := 70) rfl (by decide) wm_L_95 wi_X7_judge we_X7_judge wc_X7_judge wn_X7 hyX7_judge (by decide) (hM 70 (by decide) (by decide)) kdc_70 (c_X7_judge hF.2.2.2.2.2.2.2.1 hM e581) (by decide) rfl rfl rfl rfl (dck_at tL_law 339 rfl) ?_
        show G X F 584 _ [.int q581.1] q581.2
        refine g_pop hF (dck_at tL_law 340 rfl) rfl ?_
        refine g_goto hF 733 (dck_at tL_law 341 rfl) (by decide) ?_
        refine g_iinc (v := 4) (L' := [some (.ref 1098), some (.ref 0), some (.ref 70), some (.int (x3 + (4 : Int32)))]) hF (dck_at tL_law 457 rfl) rfl (by decide) rfl ?_
        refine g_goto hF 18 (dck_at tL_law 458 rfl) (by decide) ?_
        exact ih _ _ _ h K hRr
      replace h := ite_f hc32_19 h
      by_cases hc32_20 : ((xs x3.toNatClampNeg) &&& (31 : Int32)) = 20
      · replace h := ite_t hc32_20 h
        refine g_swIn hF 588 20 hc32_20 (dck_at tL_law 21 rfl) (by decide) (by decide) rfl (by decide) ?_
        refine g_aload_n hF (dck_at tL_law 342 rfl) rfl ?_
        refine g_aload_n hF (dck_at tL_law 343 rfl) rfl ?_
        refine g_iload_n hF (dck_at tL_law 344 rfl) rfl ?_
        refine g_iconst (v := 1) hF (dck_at tL_law 345 rfl) (by decide) ?_
        refine g_iadd hF (dck_at tL_law 346 rfl) ?_
        obtain ⟨hg593, h⟩ := gd h
        refine g_sld hF hXs hg593 (dck_at tL_law 347 rfl) ?_
        show G X F 594 _ _ _
        refine g_aload_n hF (dck_at tL_law 348 rfl) rfl ?_
        refine g_iload_n hF (dck_at tL_law 349 rfl) rfl ?_
        refine g_iconst (v := 2) hF (dck_at tL_law 350 rfl) (by decide) ?_
        refine g_iadd hF (dck_at tL_law 351 rfl) ?_
        obtain ⟨hg598, h⟩ := gd h
        refine g_sld hF hXs hg598 (dck_at tL_law 352 rfl) ?_
        refine g_aload_n hF (dck_at tL_law 353 rfl) rfl ?_
        refine g_iload_n hF (dck_at tL_law 354 rfl) rfl ?_
        show G X F 601 _ _ _
        refine g_iconst (v := 3) hF (dck_at tL_law 355 rfl) (by decide) ?_
        refine g_iadd hF (dck_at tL_law 356 rfl) ?_
        obtain ⟨hg603, h⟩ := gd h
        refine g_sld hF hXs hg603 (dck_at tL_law 357 rfl) ?_
        obtain ⟨q604, e604, h⟩ := bd h
        refine g_callV hF (as := [.int (xs (x3 + (1 : Int32)).toNatClampNeg), .int (xs (x3 + (2 : Int32)).toNatClampNeg), .int (xs (x3 + (3 : Int32)).toNatClampNeg)]) (k := 0) rfl (by decide) wm_L_96 wi_X6_stay we_X6_stay wc_X6_stay wn_X6 hyX6_stay (by decide) (hS 0 (by decide)) kdc_0 (c_X6_stay hF.2.2.2.2.2.2.2.1 hS e604) (by decide) rfl rfl rfl rfl (dck_at tL_law 358 rfl) ?_
        show G X F 607 _ [.long q604] M
        refine g_pop2 hF (dck_at tL_law 359 rfl) rfl ?_
        refine g_aload_n hF (dck_at tL_law 360 rfl) rfl ?_
        refine g_aload_n hF (dck_at tL_law 361 rfl) rfl ?_
        show G X F 610 _ _ _
        refine g_iload_n hF (dck_at tL_law 362 rfl) rfl ?_
        refine g_iconst (v := 1) hF (dck_at tL_law 363 rfl) (by decide) ?_
        refine g_iadd hF (dck_at tL_law 364 rfl) ?_
        obtain ⟨hg613, h⟩ := gd h
        refine g_sld hF hXs hg613 (dck_at tL_law 365 rfl) ?_
        refine g_aload_n hF (dck_at tL_law 366 rfl) rfl ?_
        refine g_iload_n hF (dck_at tL_law 367 rfl) rfl ?_
        refine g_iconst (v := 2) hF (dck_at tL_law 368 rfl) (by decide) ?_
        show G X F 617 _ _ _
        refine g_iadd hF (dck_at tL_law 369 rfl) ?_
        obtain ⟨hg618, h⟩ := gd h
        refine g_sld hF hXs hg618 (dck_at tL_law 370 rfl) ?_
        refine g_aload_n hF (dck_at tL_law 371 rfl) rfl ?_
        refine g_iload_n hF (dck_at tL_law 372 rfl) rfl ?_
        refine g_iconst (v := 3) hF (dck_at tL_law 373 rfl) (by decide) ?_
        refine g_iadd hF (dck_at tL_law 374 rfl) ?_
        obtain ⟨hg623, h⟩ := gd h
        refine g_sld hF hXs hg623 (dck_at tL_law 375 rfl) ?_
        show G X F 624 _ _ _
        obtain ⟨q624, e624, h⟩ := bd h
        refine g_callV hF (as := [.int (xs (x3 + (1 : Int32)).toNatClampNeg), .int (xs (x3 + (2 : Int32)).toNatClampNeg), .int (xs (x3 + (3 : Int32)).toNatClampNeg)]) (k := 70) rfl (by decide) wm_L_100 wi_X7_stay we_X7_stay wc_X7_stay wn_X7 hyX7_stay (by decide) (hM 70 (by decide) (by decide)) kdc_70 (c_X7_stay hF.2.2.2.2.2.2.2.1 hM e624) (by decide) rfl rfl rfl rfl (dck_at tL_law 376 rfl) ?_
        show G X F 627 _ [.long q624] M
        refine g_pop2 hF (dck_at tL_law 377 rfl) rfl ?_
        refine g_goto hF 733 (dck_at tL_law 378 rfl) (by decide) ?_
        refine g_iinc (v := 4) (L' := [some (.ref 1098), some (.ref 0), some (.ref 70), some (.int (x3 + (4 : Int32)))]) hF (dck_at tL_law 457 rfl) rfl (by decide) rfl ?_
        refine g_goto hF 18 (dck_at tL_law 458 rfl) (by decide) ?_
        exact ih _ _ _ h K hRr
      replace h := ite_f hc32_20 h
      by_cases hc32_21 : ((xs x3.toNatClampNeg) &&& (31 : Int32)) = 21
      · replace h := ite_t hc32_21 h
        refine g_swIn hF 631 21 hc32_21 (dck_at tL_law 21 rfl) (by decide) (by decide) rfl (by decide) ?_
        refine g_aload_n hF (dck_at tL_law 379 rfl) rfl ?_
        refine g_aload_n hF (dck_at tL_law 380 rfl) rfl ?_
        refine g_iload_n hF (dck_at tL_law 381 rfl) rfl ?_
        refine g_iconst (v := 1) hF (dck_at tL_law 382 rfl) (by decide) ?_
        refine g_iadd hF (dck_at tL_law 383 rfl) ?_
        obtain ⟨hg636, h⟩ := gd h
        refine g_sld hF hXs hg636 (dck_at tL_law 384 rfl) ?_
        show G X F 637 _ _ _
        refine g_aload_n hF (dck_at tL_law 385 rfl) rfl ?_
        refine g_iload_n hF (dck_at tL_law 386 rfl) rfl ?_
        refine g_iconst (v := 2) hF (dck_at tL_law 387 rfl) (by decide) ?_
        refine g_iadd hF (dck_at tL_law 388 rfl) ?_
        obtain ⟨hg641, h⟩ := gd h
        refine g_sld hF hXs hg641 (dck_at tL_law 389 rfl) ?_
        obtain ⟨q642, e642, h⟩ := bd h
        refine g_callV hF (as := [.int (xs (x3 + (1 : Int32)).toNatClampNeg), .int (xs (x3 + (2 : Int32)).toNatClampNeg)]) (k := 0) rfl (by decide) wm_L_101 wi_X6_gone we_X6_gone wc_X6_gone wn_X6 hyX6_gone (by decide) (hS 0 (by decide)) kdc_0 (c_X6_gone hF.2.2.2.2.2.2.2.1 hS e642) (by decide) rfl rfl rfl rfl (dck_at tL_law 390 rfl) ?_
        show G X F 645 _ [.int q642] M
        refine g_pop hF (dck_at tL_law 391 rfl) rfl ?_
        show G X F 646 _ _ _
        refine g_aload_n hF (dck_at tL_law 392 rfl) rfl ?_
        refine g_aload_n hF (dck_at tL_law 393 rfl) rfl ?_
        refine g_iload_n hF (dck_at tL_law 394 rfl) rfl ?_
        refine g_iconst (v := 1) hF (dck_at tL_law 395 rfl) (by decide) ?_
        refine g_iadd hF (dck_at tL_law 396 rfl) ?_
        obtain ⟨hg651, h⟩ := gd h
        refine g_sld hF hXs hg651 (dck_at tL_law 397 rfl) ?_
        refine g_aload_n hF (dck_at tL_law 398 rfl) rfl ?_
        show G X F 653 _ _ _
        refine g_iload_n hF (dck_at tL_law 399 rfl) rfl ?_
        refine g_iconst (v := 2) hF (dck_at tL_law 400 rfl) (by decide) ?_
        refine g_iadd hF (dck_at tL_law 401 rfl) ?_
        obtain ⟨hg656, h⟩ := gd h
        refine g_sld hF hXs hg656 (dck_at tL_law 402 rfl) ?_
        obtain ⟨q657, e657, h⟩ := bd h
        refine g_callV hF (as := [.int (xs (x3 + (1 : Int32)).toNatClampNeg), .int (xs (x3 + (2 : Int32)).toNatClampNeg)]) (k := 70) rfl (by decide) wm_L_104 wi_X7_gone we_X7_gone wc_X7_gone wn_X7 hyX7_gone (by decide) (hM 70 (by decide) (by decide)) kdc_70 (c_X7_gone hF.2.2.2.2.2.2.2.1 hM e657) (by decide) rfl rfl rfl rfl (dck_at tL_law 403 rfl) ?_
        show G X F 660 _ [.int q657] M
        refine g_pop hF (dck_at tL_law 404 rfl) rfl ?_
        refine g_goto hF 733 (dck_at tL_law 405 rfl) (by decide) ?_
        refine g_iinc (v := 4) (L' := [some (.ref 1098), some (.ref 0), some (.ref 70), some (.int (x3 + (4 : Int32)))]) hF (dck_at tL_law 457 rfl) rfl (by decide) rfl ?_
        refine g_goto hF 18 (dck_at tL_law 458 rfl) (by decide) ?_
        exact ih _ _ _ h K hRr
      replace h := ite_f hc32_21 h
      by_cases hc32_22 : ((xs x3.toNatClampNeg) &&& (31 : Int32)) = 22
      · replace h := ite_t hc32_22 h
        refine g_swIn hF 664 22 hc32_22 (dck_at tL_law 21 rfl) (by decide) (by decide) rfl (by decide) ?_
        refine g_aload_n hF (dck_at tL_law 406 rfl) rfl ?_
        refine g_aload_n hF (dck_at tL_law 407 rfl) rfl ?_
        refine g_iload_n hF (dck_at tL_law 408 rfl) rfl ?_
        refine g_iconst (v := 1) hF (dck_at tL_law 409 rfl) (by decide) ?_
        refine g_iadd hF (dck_at tL_law 410 rfl) ?_
        obtain ⟨hg669, h⟩ := gd h
        refine g_sld hF hXs hg669 (dck_at tL_law 411 rfl) ?_
        show G X F 670 _ _ _
        obtain ⟨q670, e670, h⟩ := bd h
        refine g_callV hF (as := [.int (xs (x3 + (1 : Int32)).toNatClampNeg)]) (k := 0) rfl (by decide) wm_L_105 wi_X6_prepared we_X6_prepared wc_X6_prepared wn_X6 hyX6_prepared (by decide) (hS 0 (by decide)) kdc_0 (c_X6_prepared hF.2.2.2.2.2.2.2.1 hS e670) (by decide) rfl rfl rfl rfl (dck_at tL_law 412 rfl) ?_
        show G X F 673 _ [.int q670] M
        refine g_pop hF (dck_at tL_law 413 rfl) rfl ?_
        refine g_aload_n hF (dck_at tL_law 414 rfl) rfl ?_
        refine g_aload_n hF (dck_at tL_law 415 rfl) rfl ?_
        refine g_iload_n hF (dck_at tL_law 416 rfl) rfl ?_
        refine g_iconst (v := 1) hF (dck_at tL_law 417 rfl) (by decide) ?_
        refine g_iadd hF (dck_at tL_law 418 rfl) ?_
        show G X F 679 _ _ _
        obtain ⟨hg679, h⟩ := gd h
        refine g_sld hF hXs hg679 (dck_at tL_law 419 rfl) ?_
        obtain ⟨q680, e680, h⟩ := bd h
        refine g_callV hF (as := [.int (xs (x3 + (1 : Int32)).toNatClampNeg)]) (k := 70) rfl (by decide) wm_L_108 wi_X7_prepared we_X7_prepared wc_X7_prepared wn_X7 hyX7_prepared (by decide) (hM 70 (by decide) (by decide)) kdc_70 (c_X7_prepared hF.2.2.2.2.2.2.2.1 hM e680) (by decide) rfl rfl rfl rfl (dck_at tL_law 420 rfl) ?_
        show G X F 683 _ [.int q680] M
        refine g_pop hF (dck_at tL_law 421 rfl) rfl ?_
        refine g_goto hF 733 (dck_at tL_law 422 rfl) (by decide) ?_
        refine g_iinc (v := 4) (L' := [some (.ref 1098), some (.ref 0), some (.ref 70), some (.int (x3 + (4 : Int32)))]) hF (dck_at tL_law 457 rfl) rfl (by decide) rfl ?_
        refine g_goto hF 18 (dck_at tL_law 458 rfl) (by decide) ?_
        exact ih _ _ _ h K hRr
      replace h := ite_f hc32_22 h
      by_cases hc32_23 : ((xs x3.toNatClampNeg) &&& (31 : Int32)) = 23
      · replace h := ite_t hc32_23 h
        refine g_swIn hF 687 23 hc32_23 (dck_at tL_law 21 rfl) (by decide) (by decide) rfl (by decide) ?_
        refine g_aload_n hF (dck_at tL_law 423 rfl) rfl ?_
        refine g_aload_n hF (dck_at tL_law 424 rfl) rfl ?_
        refine g_iload_n hF (dck_at tL_law 425 rfl) rfl ?_
        refine g_iconst (v := 1) hF (dck_at tL_law 426 rfl) (by decide) ?_
        refine g_iadd hF (dck_at tL_law 427 rfl) ?_
        obtain ⟨hg692, h⟩ := gd h
        refine g_sld hF hXs hg692 (dck_at tL_law 428 rfl) ?_
        show G X F 693 _ _ _
        obtain ⟨q693, e693, h⟩ := bd h
        refine g_callV hF (as := [.int (xs (x3 + (1 : Int32)).toNatClampNeg)]) (k := 0) rfl (by decide) wm_L_109 wi_X6_other we_X6_other wc_X6_other wn_X6 hyX6_other (by decide) (hS 0 (by decide)) kdc_0 (c_X6_other hF.2.2.2.2.2.2.2.1 hS e693) (by decide) rfl rfl rfl rfl (dck_at tL_law 429 rfl) ?_
        show G X F 696 _ [.int q693.1] q693.2
        refine g_pop hF (dck_at tL_law 430 rfl) rfl ?_
        refine g_aload_n hF (dck_at tL_law 431 rfl) rfl ?_
        refine g_aload_n hF (dck_at tL_law 432 rfl) rfl ?_
        refine g_iload_n hF (dck_at tL_law 433 rfl) rfl ?_
        refine g_iconst (v := 1) hF (dck_at tL_law 434 rfl) (by decide) ?_
        refine g_iadd hF (dck_at tL_law 435 rfl) ?_
        show G X F 702 _ _ _
        obtain ⟨hg702, h⟩ := gd h
        refine g_sld hF hXs hg702 (dck_at tL_law 436 rfl) ?_
        obtain ⟨q703, e703, h⟩ := bd h
        refine g_callV hF (as := [.int (xs (x3 + (1 : Int32)).toNatClampNeg)]) (k := 70) rfl (by decide) wm_L_112 wi_X7_other we_X7_other wc_X7_other wn_X7 hyX7_other (by decide) (hM 70 (by decide) (by decide)) kdc_70 (c_X7_other hF.2.2.2.2.2.2.2.1 hM e703) (by decide) rfl rfl rfl rfl (dck_at tL_law 437 rfl) ?_
        show G X F 706 _ [.int q703.1] q703.2
        refine g_pop hF (dck_at tL_law 438 rfl) rfl ?_
        refine g_goto hF 733 (dck_at tL_law 439 rfl) (by decide) ?_
        refine g_iinc (v := 4) (L' := [some (.ref 1098), some (.ref 0), some (.ref 70), some (.int (x3 + (4 : Int32)))]) hF (dck_at tL_law 457 rfl) rfl (by decide) rfl ?_
        refine g_goto hF 18 (dck_at tL_law 458 rfl) (by decide) ?_
        exact ih _ _ _ h K hRr
      replace h := ite_f hc32_23 h
      by_cases hc32_24 : ((xs x3.toNatClampNeg) &&& (31 : Int32)) = 24
      · replace h := ite_t hc32_24 h
        refine g_swIn hF 710 24 hc32_24 (dck_at tL_law 21 rfl) (by decide) (by decide) rfl (by decide) ?_
        refine g_aload_n hF (dck_at tL_law 440 rfl) rfl ?_
        refine g_aload_n hF (dck_at tL_law 441 rfl) rfl ?_
        refine g_iload_n hF (dck_at tL_law 442 rfl) rfl ?_
        refine g_iconst (v := 1) hF (dck_at tL_law 443 rfl) (by decide) ?_
        refine g_iadd hF (dck_at tL_law 444 rfl) ?_
        obtain ⟨hg715, h⟩ := gd h
        refine g_sld hF hXs hg715 (dck_at tL_law 445 rfl) ?_
        show G X F 716 _ _ _
        obtain ⟨q716, e716, h⟩ := bd h
        refine g_callV hF (as := [.int (xs (x3 + (1 : Int32)).toNatClampNeg)]) (k := 0) rfl (by decide) wm_L_113 wi_X6_count we_X6_count wc_X6_count wn_X6 hyX6_count (by decide) (hS 0 (by decide)) kdc_0 (c_X6_count hF.2.2.2.2.2.2.2.1 hS e716) (by decide) rfl rfl rfl rfl (dck_at tL_law 446 rfl) ?_
        show G X F 719 _ [.int q716] M
        refine g_aload_n hF (dck_at tL_law 447 rfl) rfl ?_
        refine g_aload_n hF (dck_at tL_law 448 rfl) rfl ?_
        refine g_iload_n hF (dck_at tL_law 449 rfl) rfl ?_
        refine g_iconst (v := 1) hF (dck_at tL_law 450 rfl) (by decide) ?_
        refine g_iadd hF (dck_at tL_law 451 rfl) ?_
        obtain ⟨hg724, h⟩ := gd h
        refine g_sld hF hXs hg724 (dck_at tL_law 452 rfl) ?_
        show G X F 725 _ _ _
        obtain ⟨q725, e725, h⟩ := bd h
        refine g_callV hF (as := [.int (xs (x3 + (1 : Int32)).toNatClampNeg)]) (k := 70) rfl (by decide) wm_L_116 wi_X7_count we_X7_count wc_X7_count wn_X7 hyX7_count (by decide) (hM 70 (by decide) (by decide)) kdc_70 (c_X7_count hF.2.2.2.2.2.2.2.1 hM e725) (by decide) rfl rfl rfl rfl (dck_at tL_law 453 rfl) ?_
        show G X F 728 _ [.int q725, .int q716] M
        refine g_icmp_eq hF 733 (dck_at tL_law 454 rfl) (by decide) (fun hc728 => ?_) (fun hc728 => ?_)
        · replace h := ite_t hc728 h
          refine g_iinc (v := 4) (L' := [some (.ref 1098), some (.ref 0), some (.ref 70), some (.int (x3 + (4 : Int32)))]) hF (dck_at tL_law 457 rfl) rfl (by decide) rfl ?_
          refine g_goto hF 18 (dck_at tL_law 458 rfl) (by decide) ?_
          exact ih _ _ _ h K hRr
        · replace h := ite_f hc728 h
          refine g_iconst (v := 0) hF (dck_at tL_law 455 rfl) (by decide) ?_
          cases h
          exact g_lawret hF (hRr _ rfl) (dck_at tL_law 456 rfl)
      replace h := ite_f hc32_24 h
      refine g_swOut hF 733 (dck_at tL_law 21 rfl) (by have q0 := lv_neT hc32_0 (a := 0) rfl; have q1 := lv_neT hc32_1 (a := 1) rfl; have q2 := lv_neT hc32_2 (a := 2) rfl; have q3 := lv_neT hc32_3 (a := 3) rfl; have q4 := lv_neT hc32_4 (a := 4) rfl; have q5 := lv_neT hc32_5 (a := 5) rfl; have q6 := lv_neT hc32_6 (a := 6) rfl; have q7 := lv_neT hc32_7 (a := 7) rfl; have q8 := lv_neT hc32_8 (a := 8) rfl; have q9 := lv_neT hc32_9 (a := 9) rfl; have q10 := lv_neT hc32_10 (a := 10) rfl; have q11 := lv_neT hc32_11 (a := 11) rfl; have q12 := lv_neT hc32_12 (a := 12) rfl; have q13 := lv_neT hc32_13 (a := 13) rfl; have q14 := lv_neT hc32_14 (a := 14) rfl; have q15 := lv_neT hc32_15 (a := 15) rfl; have q16 := lv_neT hc32_16 (a := 16) rfl; have q17 := lv_neT hc32_17 (a := 17) rfl; have q18 := lv_neT hc32_18 (a := 18) rfl; have q19 := lv_neT hc32_19 (a := 19) rfl; have q20 := lv_neT hc32_20 (a := 20) rfl; have q21 := lv_neT hc32_21 (a := 21) rfl; have q22 := lv_neT hc32_22 (a := 22) rfl; have q23 := lv_neT hc32_23 (a := 23) rfl; have q24 := lv_neT hc32_24 (a := 24) rfl; omega) (by decide) ?_
      refine g_iinc (v := 4) (L' := [some (.ref 1098), some (.ref 0), some (.ref 70), some (.int (x3 + (4 : Int32)))]) hF (dck_at tL_law 457 rfl) rfl (by decide) rfl ?_
      refine g_goto hF 18 (dck_at tL_law 458 rfl) (by decide) ?_
      exact ih _ _ _ h K hRr
set_option maxHeartbeats 4000000 in
set_option maxRecDepth 100000 in
theorem g_L_law {X : Cx} {F : Fx} (hS : SC X) (hM : SM X) (hF : FK X F cL_law RL 4 37) {N Ln : Nat} {xs : Nat → Int32} (hXs : SX X F Ln xs) {M : Mem} {r : Int32} (h : f_L_law N Ln xs M = some r) (hR : LQ X F r) : G X F 18 [some (.ref 1098), some (.ref 0), some (.ref 70), some (.int 0)] [] M := by
  unfold f_L_law at h
  obtain ⟨v18, e18, h⟩ := bS_s h
  refine g_L_law_L18 hS hM hF N _ _ hXs N _ _ _ e18 (fun o18 ea => ?_) (fun b eb => ?_)
  · replace h := h.1 o18 ea
    refine g_iconst (v := 1) hF (dck_at tL_law 459 rfl) (by decide) ?_
    cases h
    exact g_lawret hF hR (dck_at tL_law 460 rfl)
  · have eb2 := h.2 b eb
    subst eb2
    exact hR
theorem g_wS {X1 X2 : Cx} {b : Nat} (h1 : CxOk X1) (h2 : CxOk X2) (c1 : xcs X1 = csC) (c2 : xcs X2 = csM) (hlt : ∀ k, k < 68 → xad X1 k < xb X2) (hb : xb X1 ≤ xb X2) : CxOk (jX X1 X2 b) := by
  have hc : ∀ i, i ∈ xcs (jX X1 X2 b) → i < 68 ∨ i ∈ csM := fun i hi => by
    rcases List.mem_append.mp hi with h | h
    · exact Or.inl (List.mem_range.mp h)
    · exact Or.inr h
  have e1 : ∀ i, i < 68 → xad (jX X1 X2 b) i = xad X1 i := fun i hi => by show ite _ _ _ = _; rw [if_neg (by omega), if_pos hi]
  have e2 : ∀ i, i ∈ csM → xad (jX X1 X2 b) i = xad X2 i := fun i hi => by
    obtain ⟨-, h68, h83⟩ := jra2 i hi
    show ite _ _ _ = _
    rw [if_neg (by omega), if_neg (by omega)]
  have m1 : ∀ i, i < 68 → i ∈ xcs X1 := fun i hi => by rw [c1]; exact List.mem_range.mpr hi
  have m2 : ∀ i, i ∈ csM → i ∈ xcs X2 := fun i hi => by rw [c2]; exact hi
  refine ⟨fun i j hi hj he => ?_, by show va_nd (csC ++ csM) = true; decide +kernel, fun i hi => ?_⟩
  · rcases hc i hi with hi | hi <;> rcases hc j hj with hj | hj
    · rw [e1 i hi, e1 j hj] at he; exact h1.1 i j (m1 i hi) (m1 j hj) he
    · rw [e1 i hi, e2 j hj] at he; have := hlt i hi; have := h2.2.2 j (m2 j hj); omega
    · rw [e2 i hi, e1 j hj] at he; have := hlt j hj; have := h2.2.2 i (m2 i hi); omega
    · rw [e2 i hi, e2 j hj] at he; exact h2.1 i j (m2 i hi) (m2 j hj) he
  · rcases hc i hi with hi | hi
    · rw [e1 i hi]; exact h1.2.2 i (m1 i hi)
    · rw [e2 i hi]; exact Nat.le_trans hb (h2.2.2 i (m2 i hi))
set_option maxHeartbeats 8000000 in
set_option maxRecDepth 100000 in
/-- the law, from its entry, where the pure functions answer -/
theorem law_start {p : Program} {e : Env} {s : State} {m : MethodId} {below : List Frame} {meth : Method} {c : Code} (l : Launch) {b L : Nat} {xs : Nat → Int32} (C0 : lw_At p s m meth c b L xs) {N : Nat} {M1 M2 : Mem} (h6 : f_X6_init N M0 = some M1) (h7 : f_X7_init N (fun _ _ => 0) = some M2) (hlaw : f_L_law N L xs (jM M1 M2) = some 1) : W p l e room_1 s m #[Value.ref b] below meth c s.heap [] 0 0 (lw_Z below #[Value.ref b] s) (entryFrame m ([Value.ref b] : List Value).toArray 4) := by
  obtain ⟨hx, hb, hr, hml, hown, hts1, hX, hbl, hlocks, hgv⟩ := id C0
  have hts : ∀ w ∈ tb, w.before #[Value.ref b] s = true := fun w hw => hts1 w (List.mem_filter.mp hw).1
  have hA : ∀ q : Nat, s.heap.size ≤ q → (fun q : Nat => s.heap.size ≤ q) q := fun _ h => h
  obtain ⟨c0, iS0, hKn0⟩ := u_known (C := RX1) (T := TX1) (N := 10) (n := 10) hts iX1 (hts _ wb_X1)
  obtain ⟨c1, iS1, hKn1⟩ := u_known (C := RX2) (T := TX2) (N := 3) (n := 3) hts iX2 (hts _ wb_X2)
  obtain ⟨c2, iS2, hKn2⟩ := u_known (C := RX3) (T := TX3) (N := 5) (n := 5) hts iX3 (hts _ wb_X3)
  obtain ⟨c3, iS3, hKn3⟩ := u_known (C := RX4) (T := TX4) (N := 7) (n := 7) hts iX4 (hts _ wb_X4)
  obtain ⟨c4, iS4, hKn4⟩ := u_known (C := RX5) (T := TX5) (N := 12) (n := 12) hts iX5 (hts _ wb_X5)
  obtain ⟨c5, iS5, hKn5⟩ := u_known (C := RX6) (T := TX6) (N := 10) (n := 10) hts iX6 (hts _ wb_X6)
  obtain ⟨c6, iS6, hKn6⟩ := u_known (C := RX7) (T := TX7) (N := 21) (n := 21) hts iX7 (hts _ wb_X7)
  obtain ⟨D, hKc⟩ : ∃ D : va_G, ∀ (k : Nat) (q : vw_C), classes[k]? = some q → u_Kn s q.1 q.2.1 q.2.2 (D.1 k) (D.2 k) := by
    refine ⟨(fun k => [c0, c1, c2, c3, c4, c5, c6].getD k 0, fun k => [iS0, iS1, iS2, iS3, iS4, iS5, iS6].getD k (fun _ => 0)), ?_⟩
    intro k q hq
    match k, hq with
    | 0, hq => cases hq; exact hKn0
    | 1, hq => cases hq; exact hKn1
    | 2, hq => cases hq; exact hKn2
    | 3, hq => cases hq; exact hKn3
    | 4, hq => cases hq; exact hKn4
    | 5, hq => cases hq; exact hKn5
    | 6, hq => cases hq; exact hKn6
    | k + 7, hq => simp [classes] at hq
  obtain ⟨X0, hX0D, hX0b, hZ⟩ := statics D hts1 hgv
  have hS : va_S (fun q : Nat => s.heap.size ≤ q) s.heap s.heap [] := va_S.rf
  have hK : va_K D classes [] s := ⟨hKc, fun k q h => by simp at h⟩
  have hP : va_P D classes [] s.heap := fun k q h => by simp at h
  have hD : va_D (fun q : Nat => s.heap.size ≤ q) [] := ⟨fun i j p q h => by simp at h, fun k q h => by simp at h⟩
  have hl := lv_entry ([.ref b]) (n := 4) (Nat.le_of_ble_eq_true rfl)
  rw [lg_entry_eq]
  generalize (lg_sl ([.ref b]) ++ List.replicate (4 - (lg_sl ([.ref b])).length) Slot.unset).toArray = ls at hl ⊢
  have hl : lv_has ls 4 [(0, .ref b)] := hl
  refine va_newS (ci := 5) (fs := [.null, .null, .null, .null, .null, .null, .null, .null, .null, .int 0]) (C := RX6) (T := TX6) (N := 10) hx hb hts iX6 tyX6 tyX6_ok hown (hts _ wl_L_7) (hts _ wb_X6) (hts _ wn_X6) hK hP hD hS hA rfl (fun j hj => by rcases (show j = 0 ∨ j = 1 ∨ j = 2 ∨ j = 3 ∨ j = 4 ∨ j = 5 ∨ j = 6 ∨ j = 7 ∨ j = 8 ∨ j = 9 by omega) with rfl | rfl | rfl | rfl | rfl | rfl | rfl | rfl | rfl | rfl <;> rfl) (Nat.le_of_ble_eq_true rfl) (Nat.le_of_ble_eq_true rfl) (dck_at tL_law 0 rfl) (fun H hz hP hD hS => ?_)
  have hP : va_P D classes [(s.heap.size, .inr (5, [.null, .null, .null, .null, .null, .null, .null, .null, .null, .int 0]))] H := hP
  have hD : va_D (fun q : Nat => s.heap.size ≤ q) [(s.heap.size, .inr (5, [.null, .null, .null, .null, .null, .null, .null, .null, .null, .int 0]))] := hD
  refine W.widen (k := 1) (n := 10) (Nat.le_of_ble_eq_true rfl) (Nat.le_of_ble_eq_true rfl) ?_
  refine lv_dup hx hb (dck_at tL_law 1 rfl) rfl ?_
  have hAb : ∀ q, (fun q : Nat => s.heap.size ≤ q) q → xA X0 q := fun q h => by show xb X0 ≤ q; rw [hX0b]; exact h
  refine w_made (va_runI (As := []) (rest := [.ref s.heap.size]) ⟨hx, hb, hml, hown, hts⟩ (k_X6_init l D X0 s.heap.size H.size h6) (cwI 0 hts (tb_gi (ws := []) (fun w hw => by cases hw) wc_X6_init) rfl rfl rfl (hts _ wn_X6) (hts _ wm_L_9) (hts _ wi_X6_init) rfl hyX6_init.2 ⟨(Nat.le_of_ble_eq_true rfl), (Nat.le_of_ble_eq_true rfl)⟩) ⟨fun a U g mk q => by obtain ⟨q0, q1, qP, qK, qD, qZ⟩ := q; exact ⟨q0, q1, qP, va_K.moved (u := U) (U := U.calling g mk a) (Vm.Alike.refl U.vm) qK, qD, qZ.calls⟩, fun U hU hW => ⟨rfl, by rw [hU], by rw [hU]; exact hP, va_K.moved hW.alike hK, hD.weaken (fun _ _ _ _ => trivial), (hZ s.heap.size s.heap.size (Nat.le_refl _) (Nat.le_refl _)).moveA (Nat.le_refl _) hW hS hU hAb (by rw [hX0b]; exact Nat.le_refl _)⟩⟩ rfl rfl hl.1 rfl (lv_room (Nat.le_of_ble_eq_true rfl)) (dck_at tL_law 2 rfl) ⟨(Nat.le_of_ble_eq_true rfl), (Nat.le_of_ble_eq_true rfl)⟩) hS (fun q h => by have h2 : xb X0 ≤ q := h; rw [hX0b] at h2; exact h2) (fun X1 t1 H1 locs ht1 hvm1 x1 x2 x3 x4 x5 x6 x7 hz1 hk1 hS => ?_)
  refine W.widen (k := 68) (n := 690) (Nat.le_of_ble_eq_true rfl) (Nat.le_of_ble_eq_true rfl) ?_
  refine lv_astore_n (lv' := [(1, .ref s.heap.size), (0, .ref b)]) hx hb (dck_at tL_law 3 rfl) rfl hl (by decide) rfl (fun ls hl => ?_)
  obtain ⟨y1, y2, y3⟩ := x7
  rw [ht1, x1] at y1
  have hA1 : (fun q : Nat => s.heap.size ≤ q) = xA X1 := by funext q; show _ = (xb X1 ≤ q); rw [x3, hX0b]
  have hD1 : va_D (fun q : Nat => s.heap.size ≤ q) (wl X1 M1) := by rw [hA1]; exact wl_D x6 M1
  have hlt1 : ∀ k, k < 68 → xad X1 k < H1.size := fun k hk => by
    obtain ⟨p9, hp9⟩ := wl_at (X := X1) (by rw [x2]; exact List.mem_range.mpr hk) M1
    exact (y1 p9 _ hp9).lt
  refine va_newS (ci := 6) (fs := [.null, .int 0, .null, .null, .null, .null, .int 0, .null, .null, .null, .int 0, .int 0, .int 0, .int 0, .int 0, .null, .null, .null, .null, .int 0, .int 0]) (C := RX7) (T := TX7) (N := 21) hx hb hts iX7 tyX7 tyX7_ok hown (hts _ wl_L_10) (hts _ wb_X7) (hts _ wn_X7) hK y1 hD1 hS hA rfl (fun j hj => by rcases (show j = 0 ∨ j = 1 ∨ j = 2 ∨ j = 3 ∨ j = 4 ∨ j = 5 ∨ j = 6 ∨ j = 7 ∨ j = 8 ∨ j = 9 ∨ j = 10 ∨ j = 11 ∨ j = 12 ∨ j = 13 ∨ j = 14 ∨ j = 15 ∨ j = 16 ∨ j = 17 ∨ j = 18 ∨ j = 19 ∨ j = 20 by omega) with rfl | rfl | rfl | rfl | rfl | rfl | rfl | rfl | rfl | rfl | rfl | rfl | rfl | rfl | rfl | rfl | rfl | rfl | rfl | rfl | rfl <;> rfl) (Nat.le_of_ble_eq_true rfl) (Nat.le_of_ble_eq_true rfl) (dck_at tL_law 4 rfl) (fun H2 hz2 hP2 hD2 hS => ?_)
  refine W.widen (k := 69) (n := 711) (Nat.le_of_ble_eq_true rfl) (Nat.le_of_ble_eq_true rfl) ?_
  refine lv_dup hx hb (dck_at tL_law 5 rfl) rfl ?_
  have hl68 : (wl X1 M1).length = 68 := by unfold wl; rw [List.length_map, x2]; rfl
  have hPm : va_P D classes [(H1.size, .inr (6, [.null, .int 0, .null, .null, .null, .null, .int 0, .null, .null, .null, .int 0, .int 0, .int 0, .int 0, .int 0, .null, .null, .null, .null, .int 0, .int 0]))] H2 := fun k q hq => by
    have hz9 : k < 1 := (List.getElem?_eq_some_iff.mp hq).1
    rw [show k = 0 by omega] at hq
    cases hq
    exact hP2 68 _ (by rw [List.getElem?_append_right (by omega), hl68]; rfl)
  have hDm : va_D (fun _ => True) [(H1.size, .inr (6, [.null, .int 0, .null, .null, .null, .null, .int 0, .null, .null, .null, .int 0, .int 0, .int 0, .int 0, .int 0, .null, .null, .null, .null, .int 0, .int 0]))] := ⟨fun i j a b hi hj _ => by
    have h1 : i < 1 := (List.getElem?_eq_some_iff.mp hi).1
    have h2 : j < 1 := (List.getElem?_eq_some_iff.mp hj).1
    omega, fun _ _ _ => trivial⟩
  have hP1 : va_P D classes (wl X1 M1) H2 := fun k q hq => hP2 k q (by rw [List.getElem?_append_left (List.getElem?_eq_some_iff.mp hq).1]; exact hq)
  obtain ⟨X9, hX9⟩ : ∃ q : Cx, q = (D, xca X0, xad X0, [], H1.size) := ⟨_, rfl⟩
  have hb9 : xb X9 = H1.size := by rw [hX9]
  have hs1 : s.heap.size ≤ H1.size := by omega
  have h9A : ∀ q, xA X9 q → xA X0 q := fun q h => by
    have h2 : H1.size ≤ q := by rw [← hb9]; exact h
    show xb X0 ≤ q
    rw [hX0b]
    omega
  refine w_made (va_runI (As := []) (rest := [.ref H1.size]) ⟨hx, hb, hml, hown, hts⟩ (k_X7_init l D X9 H1.size H2.size h7) (cwI 0 hts (tb_gi (ws := []) (fun w hw => by cases hw) wc_X7_init) rfl rfl rfl (hts _ wn_X7) (hts _ wm_L_12) (hts _ wi_X7_init) rfl hyX7_init.2 ⟨(Nat.le_of_ble_eq_true rfl), (Nat.le_of_ble_eq_true rfl)⟩) ⟨fun a U g mk q => by obtain ⟨q0, q1, qP, qK, qD, qZ⟩ := q; exact ⟨q0, q1, qP, va_K.moved (u := U) (U := U.calling g mk a) (Vm.Alike.refl U.vm) qK, qD, qZ.calls⟩, fun U hU hW => ⟨rfl, by rw [hU], by rw [hU]; exact hPm, va_K.moved hW.alike hK, hDm, ?_⟩⟩ rfl rfl hl.1 rfl (lv_room (Nat.le_of_ble_eq_true rfl)) (dck_at tL_law 6 rfl) ⟨(Nat.le_of_ble_eq_true rfl), (Nat.le_of_ble_eq_true rfl)⟩) hS (fun q h => by have h2 : xb X9 ≤ q := h; rw [hb9] at h2; show s.heap.size ≤ q; omega) (fun X2 t2 H3 locs ht2 hvm2 z1 z2 z3 z4 z5 z6 z7 hz3 hk3 hS => ?_)
  · have hZ1 := (hZ s.heap.size s.heap.size (Nat.le_refl _) (Nat.le_refl _)).moveA (h' := H1.size) (Nat.le_refl _) hW hS hU hAb (by rw [hX0b]; omega)
    have e1 : ∀ i, 1000 ≤ i → xad X9 i = xad X0 i := fun i _ => by rw [hX9]
    exact ⟨hZ1.1, ⟨by rw [hb9]; exact Nat.le_refl _, by rw [hb9]; omega⟩, ⟨hZ1.2.2.1.1.congr e1 (by rw [hX9]) h9A, hZ1.2.2.1.2.congr e1 h9A⟩, hZ1.2.2.2⟩
  refine W.widen (k := 81) (n := 1253) (Nat.le_of_ble_eq_true rfl) (Nat.le_of_ble_eq_true rfl) ?_
  refine lv_astore_n (lv' := [(2, .ref H1.size), (1, .ref s.heap.size), (0, .ref b)]) hx hb (dck_at tL_law 7 rfl) rfl hl (by decide) rfl (fun ls hl => ?_)
  refine lv_iconst (v := 0) hx hb (dck_at tL_law 8 rfl) (by decide) ?_
  refine lv_istore_n (lv' := [(3, .int 0), (2, .ref H1.size), (1, .ref s.heap.size), (0, .ref b)]) hx hb (dck_at tL_law 9 rfl) rfl hl (by decide) rfl (fun ls hl => ?_)
  obtain ⟨v1, v2, v3⟩ := z7
  rw [ht2, z1] at v1
  have hxb2 : xb X2 = H1.size := by rw [z3, hb9]
  have hok : CxOk (jX X1 X2 b) := g_wS x6 z6 x2 z2 (fun k hk => by rw [hxb2]; exact hlt1 k hk) (by rw [hxb2, x3, hX0b]; exact hs1)
  have h1000 : ∀ i, 1000 ≤ i → xad X1 i = xad X2 i := fun i hi => by rw [x4 i hi, z4 i hi, hX9]
  have hjb : xb (jX X1 X2 b) = s.heap.size := by show xb X1 = _; rw [x3, hX0b]
  have hPJ : va_P (xD (jX X1 X2 b)) classes (wl (jX X1 X2 b) (jM M1 M2)) H3 := by
    intro i q hq
    obtain ⟨k, hk, rfl⟩ := wl_of hq
    show va_at (xD X1) classes _ H3
    rcases List.mem_append.mp (List.mem_of_getElem? hk) with h | h
    · have hk68 : k < 68 := List.mem_range.mp h
      obtain ⟨p9, hp9⟩ := wl_at (X := X1) (by rw [x2]; exact h) M1
      refine join_at1 h1000 hk68 ?_
      rw [x1]
      refine (hP1 p9 _ hp9).kept (hk3 _ (Nat.lt_of_lt_of_le (hlt1 k hk68) (by omega)) (fun z => ?_))
      have z9 : xb X9 ≤ xad X1 k := z
      rw [hb9] at z9
      have := hlt1 k hk68
      omega
    · obtain ⟨p9, hp9⟩ := wl_at (X := X2) (by rw [z2]; exact h) M2
      refine join_at2 h ?_
      rw [x1]
      exact v1 p9 _ hp9
  have hKX : KX (jX X1 X2 b) s := by
    have k1 := KX.moved hvm1.symm y2
    have k2 := KX.moved hvm2.symm v2
    refine ⟨k1.1, fun k hk h20 => ?_⟩
    rcases List.mem_append.mp hk with h | h
    · have hk68 : k < 68 := List.mem_range.mp h
      have hc : xca (jX X1 X2 b) k = xca X1 k := by show ite _ _ _ = _; rw [if_pos hk68]
      rw [hc]
      exact k1.2 k (by rw [x2]; exact h) h20
    · obtain ⟨-, h68, -⟩ := jra2 k h
      have hc : xca (jX X1 X2 b) k = xca X2 k := by show ite _ _ _ = _; rw [if_neg (by omega)]
      rw [hc]
      exact k2.2 k (by rw [z2]; exact h) h20
  have hStJ : St (jX X1 X2 b) s s.heap := by
    have hz0 := (hZ s.heap.size s.heap.size (Nat.le_refl _) (Nat.le_refl _)).2.2.1.2
    have hj : ∀ i, 1000 ≤ i → i ≠ 1098 → xad (jX X1 X2 b) i = xad X0 i := fun i hi hn => by
      show ite _ _ _ = _
      rw [if_neg hn, if_neg (by omega), z4 i hi, hX9]
    have hxA : ∀ q, xA (jX X1 X2 b) q → xA X0 q := fun q h => by
      have h2 : xb (jX X1 X2 b) ≤ q := h
      rw [hjb] at h2
      show xb X0 ≤ q
      rw [hX0b]
      exact h2
    obtain ⟨s1, s2, s3, s4⟩ := hz0
    refine ⟨fun i hi => ?_, fun i hi => ?_, ?_, s4⟩
    · obtain ⟨a1, a2, a3, a4, a5, a6, a7, a8⟩ := s1 i hi
      unfold St1
      rw [hj (1000 + i) (by omega) (by omega), hj (1020 + i) (by omega) (by omega), hj (1040 + i) (by omega) (by omega)]
      exact ⟨a1.narrow hxA, a2.narrow hxA, a3.narrow hxA, a4.narrow hxA, a5.narrow hxA, a6.narrow hxA, a7.narrow hxA, a8.narrow hxA⟩
    · obtain ⟨a1, a2⟩ := s2 i hi
      unfold St2
      rw [hj (1060 + i) (by omega) (by omega)]
      exact ⟨a1.narrow hxA, a2.narrow hxA⟩
    · unfold St3
      rw [hj 1099 (by omega) (by omega)]
      refine ⟨s3.1.narrow hxA, ?_⟩
      rcases s3.2 with a | a
      · exact Or.inl (a.narrow hxA)
      · exact Or.inr (a.narrow hxA)
  have hadb : xad (jX X1 X2 b) 1098 = b := rfl
  have hlJ : lvR (jX X1 X2 b) ls [some (.ref 1098), some (.ref 0), some (.ref 70), some (.int 0)] := by
    have h9 := lv_sub hl [3, 2, 1, 0] rfl (l' := [(0, .ref b), (1, .ref s.heap.size), (2, .ref H1.size), (3, .int 0)])
    show lv_has ls 4 [(0, .ref b), (1, .ref (xad X1 0)), (2, .ref (xad X2 70)), (3, .int 0)]
    rw [x5, z5]
    exact h9
  have hSJ : va_S (xA (jX X1 X2 b)) s.heap H3 locs := hS.wide (fun q h => by show xb _ ≤ q; rw [hjb]; exact h)
  have h9M : ∀ i, i < 83 → 70 ≤ i → i ∈ csM := by decide
  exact g_L_law (X := jX X1 X2 b) (F := (p, l, e, room_1, s, m, #[.ref b], below, meth, c, lw_Z below #[.ref b] s, 81, 1253)) (fun i h => List.mem_append_left _ (List.mem_range.mpr h)) (fun i h1 h2 => List.mem_append_right _ (h9M i h2 h1)) ⟨hx, hb, hml, hown, hts, hKX, hStJ, hok, (Nat.le_of_ble_eq_true rfl), (Nat.le_of_ble_eq_true rfl), (Nat.le_of_ble_eq_true rfl), (Nat.le_of_ble_eq_true rfl), hlocks⟩ ⟨hX, hbl, fun z => by have z2 : xb (jX X1 X2 b) ≤ b := z; rw [hjb] at z2; omega⟩ hlaw ⟨rfl, rfl, hjb, hr, ⟨b, rfl⟩, rfl, (Nat.le_of_ble_eq_true rfl), (Nat.le_of_ble_eq_true rfl)⟩ H3 locs ls hPJ hSJ hlJ
