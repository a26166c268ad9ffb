def tbX4_append : List (Nat × Instr × Nat) := [(0, .aload_n 0, 1), (1, .getfield 36, 3), (4, .sipush 160, 3), (7, .if_icmp .lt 5, 3), (10, .iconst 0, 1), (11, .ireturn, 1), (12, .aload_n 0, 1), (13, .getfield 18, 3), (16, .aload_n 0, 1), (17, .getfield 36, 3), (20, .iload_n 1, 1), (21, .i2c, 1), (22, .castore, 1), (23, .aload_n 0, 1), (24, .dup, 1), (25, .getfield 36, 3), (28, .iconst 1, 1), (29, .iadd, 1), (30, .putfield 36, 3), (33, .iconst 1, 1), (34, .ireturn, 1)]
theorem tX4_append : dck cX4_append tbX4_append = true := by decide +kernel
def f_X4_append (N : Nat) (M : Mem) (x1 : Int32) : Option (Int32 × Mem) := (if (M 9 1) < (160 : Int32) then if inb (M 9 1) 160 = true then some ((1 : Int32), (up2 (up2 M 18 (M 9 1).toNatClampNeg (vp_nar .char ((x1.toUInt32 % 65536).toInt32))) 9 1 (((up2 M 18 (M 9 1).toNatClampNeg (vp_nar .char ((x1.toUInt32 % 65536).toInt32))) 9 1) + (1 : Int32)))) else none else some ((0 : Int32), M))
set_option maxHeartbeats 4000000 in
set_option maxRecDepth 100000 in
theorem c_X4_append {X : Cx} {l : Launch} (hX : CxOk X) (hS : SC X) {N : Nat} {M : Mem} {x1 : Int32} {r : Int32} {M' : Mem} (h : f_X4_append N M x1 = some (r, M')) : Ctr X l yX4_append cX4_append 2 (some .boolean) 1 [.ref 9, .int x1] M (some (.int r)) M' := by
  refine Ctr.ofG (L := [some (.ref 9), some (.int x1)]) hX (by decide) (Nat.le_of_ble_eq_true rfl) rfl (fun F hF hl hR => ?_)
  subst hl
  unfold f_X4_append at h
  refine g_aload_n hF (dck_at tX4_append 0 rfl) rfl ?_
  refine gf_X4_36 hF (hS 9 (by decide)) kdc_9 lnc_9 (dck_at tX4_append 1 rfl) ?_
  refine g_sipush (v := 160) hF (dck_at tX4_append 2 rfl) (by decide) ?_
  refine g_icmp_lt hF 12 (dck_at tX4_append 3 rfl) (by decide) (fun hc7 => ?_) (fun hc7 => ?_)
  · replace h := ite_t hc7 h
    refine g_aload_n hF (dck_at tX4_append 6 rfl) rfl ?_
    refine gf_X4_18 hF (hS 9 (by decide)) kdc_9 lnc_9 (dck_at tX4_append 7 rfl) ?_
    refine g_aload_n hF (dck_at tX4_append 8 rfl) rfl ?_
    refine gf_X4_36 hF (hS 9 (by decide)) kdc_9 lnc_9 (dck_at tX4_append 9 rfl) ?_
    refine g_iload_n hF (dck_at tX4_append 10 rfl) rfl ?_
    refine g_i2c hF (dck_at tX4_append 11 rfl) ?_
    show G X F 22 _ _ _
    obtain ⟨hg22, h⟩ := gd h
    refine g_cs hF (hS 18 (by decide)) kdc_18 lnc_18 hg22 (dck_at tX4_append 12 rfl) ?_
    refine g_aload_n hF (dck_at tX4_append 13 rfl) rfl ?_
    refine g_dup hF (dck_at tX4_append 14 rfl) rfl ?_
    refine gf_X4_36 hF (hS 9 (by decide)) kdc_9 lnc_9 (dck_at tX4_append 15 rfl) ?_
    refine g_iconst (v := 1) hF (dck_at tX4_append 16 rfl) (by decide) ?_
    refine g_iadd hF (dck_at tX4_append 17 rfl) ?_
    refine pf_X4_36 hF (hS 9 (by decide)) kdc_9 lnc_9 (dck_at tX4_append 18 rfl) ?_
    show G X F 33 _ _ _
    refine g_iconst (v := 1) hF (dck_at tX4_append 19 rfl) (by decide) ?_
    cases h
    exact g_zret hF hR rfl (dck_at tX4_append 20 rfl)
  · replace h := ite_f hc7 h
    refine g_iconst (v := 0) hF (dck_at tX4_append 4 rfl) (by decide) ?_
    cases h
    exact g_zret hF hR rfl (dck_at tX4_append 5 rfl)

def tbX4_skipBlanks : List (Nat × Instr × Nat) := [(0, .aload_n 0, 1), (1, .getfield 44, 3), (4, .aload_n 0, 1), (5, .getfield 36, 3), (8, .if_icmp .ge 30, 3), (11, .aload_n 0, 1), (12, .getfield 18, 3), (15, .aload_n 0, 1), (16, .getfield 44, 3), (19, .caload, 1), (20, .bipush 32, 2), (22, .if_icmp .ne 16, 3), (25, .aload_n 0, 1), (26, .dup, 1), (27, .getfield 44, 3), (30, .iconst 1, 1), (31, .iadd, 1), (32, .putfield 44, 3), (35, .goto (-35), 3), (38, .return_, 1)]
theorem tX4_skipBlanks : dck cX4_skipBlanks tbX4_skipBlanks = true := by decide +kernel
def f_X4_skipBlanks_L0 (N : Nat) : Nat → Mem → Option (Mem)
  | 0, _ => none
  | n + 1, M => (if (M 9 1) ≤ (M 9 6) then some M else if inb (M 9 6) 160 = true then (if (M 18 (M 9 6).toNatClampNeg) = (32 : Int32) then f_X4_skipBlanks_L0 N n (up2 M 9 6 ((M 9 6) + (1 : Int32))) else some M) else none)
def f_X4_skipBlanks (N : Nat) (M : Mem) : Option Mem := (f_X4_skipBlanks_L0 N N M).bind fun o0 => some o0
set_option maxHeartbeats 4000000 in
set_option maxRecDepth 100000 in
theorem g_X4_skipBlanks_L0 {X : Cx} {F : Fx} (hS : SC X) (hF : FK X F cX4_skipBlanks RX4 1 1) (N : Nat) : ∀ (n : Nat) (M : Mem) (o : Mem), f_X4_skipBlanks_L0 N n M = some o → G X F 38 [none] [] o → G X F 0 [some (.ref 9)] [] M := by
  intro n
  induction n with
  | zero =>
    intro M o h K
    cases h
  | succ n ih =>
    intro M o h K
    rw [f_X4_skipBlanks_L0] at h
    refine g_aload_n hF (dck_at tX4_skipBlanks 0 rfl) rfl ?_
    refine gf_X4_44 hF (hS 9 (by decide)) kdc_9 lnc_9 (dck_at tX4_skipBlanks 1 rfl) ?_
    refine g_aload_n hF (dck_at tX4_skipBlanks 2 rfl) rfl ?_
    refine gf_X4_36 hF (hS 9 (by decide)) kdc_9 lnc_9 (dck_at tX4_skipBlanks 3 rfl) ?_
    refine g_icmp_ge hF 38 (dck_at tX4_skipBlanks 4 rfl) (by decide) (fun hc8 => ?_) (fun hc8 => ?_)
    · replace h := ite_t hc8 h
      refine g_msk [false] (L' := [none]) rfl ?_
      cases h
      exact K
    · replace h := ite_f hc8 h
      refine g_aload_n hF (dck_at tX4_skipBlanks 5 rfl) rfl ?_
      refine gf_X4_18 hF (hS 9 (by decide)) kdc_9 lnc_9 (dck_at tX4_skipBlanks 6 rfl) ?_
      refine g_aload_n hF (dck_at tX4_skipBlanks 7 rfl) rfl ?_
      refine gf_X4_44 hF (hS 9 (by decide)) kdc_9 lnc_9 (dck_at tX4_skipBlanks 8 rfl) ?_
      obtain ⟨hg19, h⟩ := gd h
      refine g_ca hF (hS 18 (by decide)) kdc_18 lnc_18 hg19 (dck_at tX4_skipBlanks 9 rfl) ?_
      refine g_bipush (v := 32) hF (dck_at tX4_skipBlanks 10 rfl) (by decide) ?_
      show G X F 22 _ _ _
      refine g_icmp_ne hF 38 (dck_at tX4_skipBlanks 11 rfl) (by decide) (fun hc22 => ?_) (fun hc22 => ?_)
      · replace h := ite_f hc22 h
        refine g_msk [false] (L' := [none]) rfl ?_
        cases h
        exact K
      · replace h := ite_t hc22 h
        refine g_aload_n hF (dck_at tX4_skipBlanks 12 rfl) rfl ?_
        refine g_dup hF (dck_at tX4_skipBlanks 13 rfl) rfl ?_
        refine gf_X4_44 hF (hS 9 (by decide)) kdc_9 lnc_9 (dck_at tX4_skipBlanks 14 rfl) ?_
        refine g_iconst (v := 1) hF (dck_at tX4_skipBlanks 15 rfl) (by decide) ?_
        refine g_iadd hF (dck_at tX4_skipBlanks 16 rfl) ?_
        refine pf_X4_44 hF (hS 9 (by decide)) kdc_9 lnc_9 (dck_at tX4_skipBlanks 17 rfl) ?_
        show G X F 35 _ _ _
        refine g_goto hF 0 (dck_at tX4_skipBlanks 18 rfl) (by decide) ?_
        exact ih _ _ h K
set_option maxHeartbeats 4000000 in
set_option maxRecDepth 100000 in
theorem c_X4_skipBlanks {X : Cx} {l : Launch} (hX : CxOk X) (hS : SC X) {N : Nat} {M : Mem} {M' : Mem} (h : f_X4_skipBlanks N M = some M') : Ctr X l yX4_skipBlanks cX4_skipBlanks 1 none 1 [.ref 9] M none M' := by
  refine Ctr.ofG (L := [some (.ref 9)]) hX (by decide) (Nat.le_of_ble_eq_true rfl) rfl (fun F hF hl hR => ?_)
  subst hl
  unfold f_X4_skipBlanks at h
  obtain ⟨o0, e0, h⟩ := bd h
  refine g_X4_skipBlanks_L0 hS hF N N _ _ e0 ?_
  cases h
  exact g_vret hF hR (dck_at tX4_skipBlanks 19 rfl)

def tbX4_endOfRow : List (Nat × Instr × Nat) := [(0, .aload_n 0, 1), (1, .getfield 44, 3), (4, .istore_n 3, 1), (5, .iload_n 3, 1), (6, .aload_n 0, 1), (7, .getfield 36, 3), (10, .if_icmp .ge 29, 3), (13, .aload_n 0, 1), (14, .getfield 18, 3), (17, .iload_n 3, 1), (18, .caload, 1), (19, .iload_n 1, 1), (20, .if_icmp .lt 19, 3), (23, .aload_n 0, 1), (24, .getfield 18, 3), (27, .iload_n 3, 1), (28, .caload, 1), (29, .iload_n 2, 1), (30, .if_icmp .gt 9, 3), (33, .iinc 3 1, 3), (36, .goto (-31), 3), (39, .iload_n 3, 1), (40, .ireturn, 1)]
theorem tX4_endOfRow : dck cX4_endOfRow tbX4_endOfRow = true := by decide +kernel
def f_X4_endOfRow_L5 (N : Nat) (M : Mem) (x1 : Int32) (x2 : Int32) : Nat → Int32 → Option (Int32)
  | 0, _ => none
  | n + 1, x3 => (if (M 9 1) ≤ x3 then some x3 else if inb x3 160 = true then (if (M 18 x3.toNatClampNeg) < x1 then some x3 else if inb x3 160 = true then (if x2 < (M 18 x3.toNatClampNeg) then some x3 else f_X4_endOfRow_L5 N M x1 x2 n (x3 + (1 : Int32))) else none) else none)
def f_X4_endOfRow (N : Nat) (M : Mem) (x1 : Int32) (x2 : Int32) : Option Int32 := (f_X4_endOfRow_L5 N M x1 x2 N (M 9 6)).bind fun o5 => some o5
set_option maxHeartbeats 4000000 in
set_option maxRecDepth 100000 in
theorem g_X4_endOfRow_L5 {X : Cx} {F : Fx} (hS : SC X) (hF : FK X F cX4_endOfRow RX4 4 1) (N : Nat) (M : Mem) (x1 : Int32) (x2 : Int32) : ∀ (n : Nat) (x3 : Int32) (o : Int32), f_X4_endOfRow_L5 N M x1 x2 n x3 = some o → G X F 39 [none, none, none, some (.int o)] [] M → G X F 5 [some (.ref 9), some (.int x1), some (.int x2), some (.int x3)] [] M := by
  intro n
  induction n with
  | zero =>
    intro x3 o h K
    cases h
  | succ n ih =>
    intro x3 o h K
    rw [f_X4_endOfRow_L5] at h
    refine g_iload_n hF (dck_at tX4_endOfRow 3 rfl) rfl ?_
    refine g_aload_n hF (dck_at tX4_endOfRow 4 rfl) rfl ?_
    refine gf_X4_36 hF (hS 9 (by decide)) kdc_9 lnc_9 (dck_at tX4_endOfRow 5 rfl) ?_
    refine g_icmp_ge hF 39 (dck_at tX4_endOfRow 6 rfl) (by decide) (fun hc10 => ?_) (fun hc10 => ?_)
    · replace h := ite_t hc10 h
      refine g_msk [false, false, false, true] (L' := [none, none, none, some (.int x3)]) rfl ?_
      cases h
      exact K
    · replace h := ite_f hc10 h
      refine g_aload_n hF (dck_at tX4_endOfRow 7 rfl) rfl ?_
      refine gf_X4_18 hF (hS 9 (by decide)) kdc_9 lnc_9 (dck_at tX4_endOfRow 8 rfl) ?_
      refine g_iload_n hF (dck_at tX4_endOfRow 9 rfl) rfl ?_
      obtain ⟨hg18, h⟩ := gd h
      refine g_ca hF (hS 18 (by decide)) kdc_18 lnc_18 hg18 (dck_at tX4_endOfRow 10 rfl) ?_
      refine g_iload_n hF (dck_at tX4_endOfRow 11 rfl) rfl ?_
      refine g_icmp_lt hF 39 (dck_at tX4_endOfRow 12 rfl) (by decide) (fun hc20 => ?_) (fun hc20 => ?_)
      · replace h := ite_t hc20 h
        refine g_msk [false, false, false, true] (L' := [none, none, none, some (.int x3)]) rfl ?_
        cases h
        exact K
      · replace h := ite_f hc20 h
        refine g_aload_n hF (dck_at tX4_endOfRow 13 rfl) rfl ?_
        refine gf_X4_18 hF (hS 9 (by decide)) kdc_9 lnc_9 (dck_at tX4_endOfRow 14 rfl) ?_
        refine g_iload_n hF (dck_at tX4_endOfRow 15 rfl) rfl ?_
        obtain ⟨hg28, h⟩ := gd h
        refine g_ca hF (hS 18 (by decide)) kdc_18 lnc_18 hg28 (dck_at tX4_endOfRow 16 rfl) ?_
        refine g_iload_n hF (dck_at tX4_endOfRow 17 rfl) rfl ?_
        refine g_icmp_gt hF 39 (dck_at tX4_endOfRow 18 rfl) (by decide) (fun hc30 => ?_) (fun hc30 => ?_)
        · replace h := ite_t hc30 h
          refine g_msk [false, false, false, true] (L' := [none, none, none, some (.int x3)]) rfl ?_
          cases h
          exact K
        · replace h := ite_f hc30 h
          refine g_iinc (v := 1) (L' := [some (.ref 9), some (.int x1), some (.int x2), some (.int (x3 + (1 : Int32)))]) hF (dck_at tX4_endOfRow 19 rfl) rfl (by decide) rfl ?_
          refine g_goto hF 5 (dck_at tX4_endOfRow 20 rfl) (by decide) ?_
          exact ih _ _ h K
set_option maxHeartbeats 4000000 in
set_option maxRecDepth 100000 in
theorem c_X4_endOfRow {X : Cx} {l : Launch} (hX : CxOk X) (hS : SC X) {N : Nat} {M : Mem} {x1 : Int32} {x2 : Int32} {r : Int32} (h : f_X4_endOfRow N M x1 x2 = some r) : Ctr X l yX4_endOfRow cX4_endOfRow 4 (some .int) 1 [.ref 9, .int x1, .int x2] M (some (.int r)) M := by
  refine Ctr.ofG (L := [some (.ref 9), some (.int x1), some (.int x2), none]) hX (by decide) (Nat.le_of_ble_eq_true rfl) rfl (fun F hF hl hR => ?_)
  subst hl
  unfold f_X4_endOfRow at h
  refine g_aload_n hF (dck_at tX4_endOfRow 0 rfl) rfl ?_
  refine gf_X4_44 hF (hS 9 (by decide)) kdc_9 lnc_9 (dck_at tX4_endOfRow 1 rfl) ?_
  refine g_istore_n (L' := [some (.ref 9), some (.int x1), some (.int x2), some (.int (M 9 6))]) hF (dck_at tX4_endOfRow 2 rfl) (Nat.le_of_ble_eq_true rfl) rfl ?_
  obtain ⟨o5, e5, h⟩ := bd h
  refine g_X4_endOfRow_L5 hS hF N _ _ _ N _ _ e5 ?_
  refine g_iload_n hF (dck_at tX4_endOfRow 21 rfl) rfl ?_
  cases h
  exact g_iret hF hR (dck_at tX4_endOfRow 22 rfl)

def tbJ0_coder_7d493 : List (Nat × Instr × Nat) := [(0, .getstatic 38, 3), (3, .ifCond .eq 10, 3), (6, .aload_n 0, 1), (7, .getfield 15, 3), (10, .goto 4, 3), (13, .iconst 1, 1), (14, .ireturn, 1)]
theorem tJ0_coder_7d493 : dck cJ0_coder_7d493 tbJ0_coder_7d493 = true := by decide +kernel
def f_J0_coder_7d493 (N : Nat) (M : Mem) (k : Nat) : Option Int32 := (if (1 : Int32) = 0 then some (1 : Int32) else some (0 : Int32))
set_option maxHeartbeats 4000000 in
set_option maxRecDepth 100000 in
theorem c_J0_coder_7d493 {X : Cx} {l : Launch} (hX : CxOk X) {N : Nat} {M : Mem} {k : Nat} (hk : k < 13) {r : Int32} (h : f_J0_coder_7d493 N M k = some r) : Ctr X l yJ0_coder_7d493 cJ0_coder_7d493 1 (some .byte) 1 [.ref (1020 + k)] M (some (.int r)) M := by
  refine Ctr.ofG (L := [some (.ref (1020 + k))]) hX (by decide) (Nat.le_of_ble_eq_true rfl) rfl (fun F hF hl hR => ?_)
  subst hl
  unfold f_J0_coder_7d493 at h
  refine g_scs hF wf_J0_38 (dck_at tJ0_coder_7d493 0 rfl) ?_
  refine g_if_eq hF 13 (dck_at tJ0_coder_7d493 1 rfl) (by decide) (fun hc3 => ?_) (fun hc3 => ?_)
  · replace h := ite_t hc3 h
    refine g_iconst (v := 1) hF (dck_at tJ0_coder_7d493 5 rfl) (by decide) ?_
    cases h
    exact g_zret hF hR (rfl) (dck_at tJ0_coder_7d493 6 rfl)
  · replace h := ite_f hc3 h
    refine g_aload_n hF (dck_at tJ0_coder_7d493 2 rfl) rfl ?_
    refine g_scoder hF hk wf_J0_15 (dck_at tJ0_coder_7d493 3 rfl) ?_
    refine g_goto hF 14 (dck_at tJ0_coder_7d493 4 rfl) (by decide) ?_
    cases h
    exact g_zret hF hR (rfl) (dck_at tJ0_coder_7d493 6 rfl)

def tbJ0_length_8abf5 : List (Nat × Instr × Nat) := [(0, .aload_n 0, 1), (1, .getfield 9, 3), (4, .arraylength, 1), (5, .aload_n 0, 1), (6, .invokevirtual 335, 3), (9, .ishr, 1), (10, .ireturn, 1)]
theorem tJ0_length_8abf5 : dck cJ0_length_8abf5 tbJ0_length_8abf5 = true := by decide +kernel
def f_J0_length_8abf5 (N : Nat) (M : Mem) (k : Nat) : Option Int32 := (f_J0_coder_7d493 N M k).bind fun q6 => some ((Int32.ofNat (cN k)) >>> (q6 &&& 31))
set_option maxHeartbeats 4000000 in
set_option maxRecDepth 100000 in
theorem c_J0_length_8abf5 {X : Cx} {l : Launch} (hX : CxOk X) {N : Nat} {M : Mem} {k : Nat} (hk : k < 13) {r : Int32} (h : f_J0_length_8abf5 N M k = some r) : Ctr X l yJ0_length_8abf5 cJ0_length_8abf5 1 (some .int) 2 [.ref (1020 + k)] M (some (.int r)) M := by
  refine Ctr.ofG (L := [some (.ref (1020 + k))]) hX (by decide) (Nat.le_of_ble_eq_true rfl) rfl (fun F hF hl hR => ?_)
  subst hl
  unfold f_J0_length_8abf5 at h
  refine g_aload_n hF (dck_at tJ0_length_8abf5 0 rfl) rfl ?_
  refine g_svalue hF hk wf_J0_9 (dck_at tJ0_length_8abf5 1 rfl) ?_
  refine g_slen hF hk rfl (dck_at tJ0_length_8abf5 2 rfl) ?_
  refine g_aload_n hF (dck_at tJ0_length_8abf5 3 rfl) rfl ?_
  obtain ⟨q6, e6, h⟩ := bd h
  refine g_callVS hF (as := []) (i := k) hk wm_J0_335 wi_J0_coder_7d493 we_J0_coder_7d493 wc_J0_coder_7d493 wn_J0 hyJ0_coder_7d493 (by decide) (c_J0_coder_7d493 hF.2.2.2.2.2.2.2.1 hk e6) (by decide) rfl rfl rfl rfl (dck_at tJ0_length_8abf5 4 rfl) ?_
  show G X F 9 _ [.int q6, .int (Int32.ofNat (cN k))] M
  refine g_ishr hF (dck_at tJ0_length_8abf5 5 rfl) ?_
  show G X F 10 _ _ _
  cases h
  exact g_iret hF hR (dck_at tJ0_length_8abf5 6 rfl)

def tbJ0_isLatin1_aae02 : List (Nat × Instr × Nat) := [(0, .getstatic 38, 3), (3, .ifCond .eq 14, 3), (6, .aload_n 0, 1), (7, .getfield 15, 3), (10, .ifCond .ne 7, 3), (13, .iconst 1, 1), (14, .goto 4, 3), (17, .iconst 0, 1), (18, .ireturn, 1)]
theorem tJ0_isLatin1_aae02 : dck cJ0_isLatin1_aae02 tbJ0_isLatin1_aae02 = true := by decide +kernel
def f_J0_isLatin1_aae02 (N : Nat) (M : Mem) (k : Nat) : Option Int32 := (if (1 : Int32) = 0 then some (0 : Int32) else (if (0 : Int32) = 0 then some (1 : Int32) else some (0 : Int32)))
set_option maxHeartbeats 4000000 in
set_option maxRecDepth 100000 in
theorem c_J0_isLatin1_aae02 {X : Cx} {l : Launch} (hX : CxOk X) {N : Nat} {M : Mem} {k : Nat} (hk : k < 13) {r : Int32} (h : f_J0_isLatin1_aae02 N M k = some r) : Ctr X l yJ0_isLatin1_aae02 cJ0_isLatin1_aae02 1 (some .boolean) 1 [.ref (1020 + k)] M (some (.int r)) M := by
  refine Ctr.ofG (L := [some (.ref (1020 + k))]) hX (by decide) (Nat.le_of_ble_eq_true rfl) rfl (fun F hF hl hR => ?_)
  subst hl
  unfold f_J0_isLatin1_aae02 at h
  refine g_scs hF wf_J0_38 (dck_at tJ0_isLatin1_aae02 0 rfl) ?_
  refine g_if_eq hF 17 (dck_at tJ0_isLatin1_aae02 1 rfl) (by decide) (fun hc3 => ?_) (fun hc3 => ?_)
  · replace h := ite_t hc3 h
    refine g_iconst (v := 0) hF (dck_at tJ0_isLatin1_aae02 7 rfl) (by decide) ?_
    cases h
    exact g_zret hF hR rfl (dck_at tJ0_isLatin1_aae02 8 rfl)
  · replace h := ite_f hc3 h
    refine g_aload_n hF (dck_at tJ0_isLatin1_aae02 2 rfl) rfl ?_
    refine g_scoder hF hk wf_J0_15 (dck_at tJ0_isLatin1_aae02 3 rfl) ?_
    refine g_if_ne hF 17 (dck_at tJ0_isLatin1_aae02 4 rfl) (by decide) (fun hc10 => ?_) (fun hc10 => ?_)
    · replace h := ite_f hc10 h
      refine g_iconst (v := 0) hF (dck_at tJ0_isLatin1_aae02 7 rfl) (by decide) ?_
      cases h
      exact g_zret hF hR rfl (dck_at tJ0_isLatin1_aae02 8 rfl)
    · replace h := ite_t hc10 h
      refine g_iconst (v := 1) hF (dck_at tJ0_isLatin1_aae02 5 rfl) (by decide) ?_
      refine g_goto hF 18 (dck_at tJ0_isLatin1_aae02 6 rfl) (by decide) ?_
      cases h
      exact g_zret hF hR rfl (dck_at tJ0_isLatin1_aae02 8 rfl)

def tbJ3_checkIndex_8e157 : List (Nat × Instr × Nat) := [(0, .iload_n 0, 1), (1, .ifCond .lt 8, 3), (4, .iload_n 0, 1), (5, .iload_n 1, 1), (6, .if_icmp .lt 10, 3), (9, .aload_n 2, 1), (10, .iload_n 0, 1), (11, .iload_n 1, 1), (12, .invokestatic 95, 3), (15, .athrow, 1), (16, .iload_n 0, 1), (17, .ireturn, 1)]
theorem tJ3_checkIndex_8e157 : dck cJ3_checkIndex_8e157 tbJ3_checkIndex_8e157 = true := by decide +kernel
def f_J3_checkIndex_8e157 (N : Nat) (M : Mem) (x0 : Int32) (x1 : Int32) : Option Int32 := (if x0 < 0 then none else (if x0 < x1 then some x0 else none))
set_option maxHeartbeats 4000000 in
set_option maxRecDepth 100000 in
theorem c_J3_checkIndex_8e157 {X : Cx} {l : Launch} (hX : CxOk X) {N : Nat} {M : Mem} {x0 : Int32} {x1 : Int32} {r : Int32} (h : f_J3_checkIndex_8e157 N M x0 x1 = some r) : Ctr X l yJ3_checkIndex_8e157 cJ3_checkIndex_8e157 3 (some .int) 2 [.int x0, .int x1, .null] M (some (.int r)) M := by
  refine Ctr.ofG (L := [some (.int x0), some (.int x1), some (.null)]) hX (by decide) (Nat.le_of_ble_eq_true rfl) rfl (fun F hF hl hR => ?_)
  subst hl
  unfold f_J3_checkIndex_8e157 at h
  refine g_iload_n hF (dck_at tJ3_checkIndex_8e157 0 rfl) rfl ?_
  refine g_if_lt hF 9 (dck_at tJ3_checkIndex_8e157 1 rfl) (by decide) (fun hc1 => ?_) (fun hc1 => ?_)
  · replace h := ite_t hc1 h
    refine g_aload_nN hF (dck_at tJ3_checkIndex_8e157 5 rfl) rfl ?_
    refine g_iload_n hF (dck_at tJ3_checkIndex_8e157 6 rfl) rfl ?_
    refine g_iload_n hF (dck_at tJ3_checkIndex_8e157 7 rfl) rfl ?_
    cases h
  · replace h := ite_f hc1 h
    refine g_iload_n hF (dck_at tJ3_checkIndex_8e157 2 rfl) rfl ?_
    refine g_iload_n hF (dck_at tJ3_checkIndex_8e157 3 rfl) rfl ?_
    refine g_icmp_lt hF 16 (dck_at tJ3_checkIndex_8e157 4 rfl) (by decide) (fun hc6 => ?_) (fun hc6 => ?_)
    · replace h := ite_t hc6 h
      refine g_iload_n hF (dck_at tJ3_checkIndex_8e157 10 rfl) rfl ?_
      cases h
      exact g_iret hF hR (dck_at tJ3_checkIndex_8e157 11 rfl)
    · replace h := ite_f hc6 h
      refine g_aload_nN hF (dck_at tJ3_checkIndex_8e157 5 rfl) rfl ?_
      refine g_iload_n hF (dck_at tJ3_checkIndex_8e157 6 rfl) rfl ?_
      refine g_iload_n hF (dck_at tJ3_checkIndex_8e157 7 rfl) rfl ?_
      cases h

set_option maxHeartbeats 4000000 in
set_option maxRecDepth 100000 in
theorem c_J3_checkIndex_8e157b {X : Cx} {l : Launch} (hX : CxOk X) {N : Nat} {M : Mem} {x0 : Int32} {x1 : Int32} {r : Int32} (h : f_J3_checkIndex_8e157 N M x0 x1 = some r) : Ctr X l yJ3_checkIndex_8e157 cJ3_checkIndex_8e157 3 (some .int) 2 [.int x0, .int x1, .ref 1099] M (some (.int r)) M := by
  refine Ctr.ofG (L := [some (.int x0), some (.int x1), some (.ref 1099)]) hX (by decide) (Nat.le_of_ble_eq_true rfl) rfl (fun F hF hl hR => ?_)
  subst hl
  unfold f_J3_checkIndex_8e157 at h
  refine g_iload_n hF (dck_at tJ3_checkIndex_8e157 0 rfl) rfl ?_
  refine g_if_lt hF 9 (dck_at tJ3_checkIndex_8e157 1 rfl) (by decide) (fun hc1 => ?_) (fun hc1 => ?_)
  · replace h := ite_t hc1 h
    refine g_aload_n hF (dck_at tJ3_checkIndex_8e157 5 rfl) rfl ?_
    refine g_iload_n hF (dck_at tJ3_checkIndex_8e157 6 rfl) rfl ?_
    refine g_iload_n hF (dck_at tJ3_checkIndex_8e157 7 rfl) rfl ?_
    cases h
  · replace h := ite_f hc1 h
    refine g_iload_n hF (dck_at tJ3_checkIndex_8e157 2 rfl) rfl ?_
    refine g_iload_n hF (dck_at tJ3_checkIndex_8e157 3 rfl) rfl ?_
    refine g_icmp_lt hF 16 (dck_at tJ3_checkIndex_8e157 4 rfl) (by decide) (fun hc6 => ?_) (fun hc6 => ?_)
    · replace h := ite_t hc6 h
      refine g_iload_n hF (dck_at tJ3_checkIndex_8e157 10 rfl) rfl ?_
      cases h
      exact g_iret hF hR (dck_at tJ3_checkIndex_8e157 11 rfl)
    · replace h := ite_f hc6 h
      refine g_aload_n hF (dck_at tJ3_checkIndex_8e157 5 rfl) rfl ?_
      refine g_iload_n hF (dck_at tJ3_checkIndex_8e157 6 rfl) rfl ?_
      refine g_iload_n hF (dck_at tJ3_checkIndex_8e157 7 rfl) rfl ?_
      cases h

def tbJ0_checkIndex_df160 : List (Nat × Instr × Nat) := [(0, .iload_n 0, 1), (1, .iload_n 1, 1), (2, .getstatic 1053, 3), (5, .invokestatic 1059, 3), (8, .pop, 1), (9, .return_, 1)]
theorem tJ0_checkIndex_df160 : dck cJ0_checkIndex_df160 tbJ0_checkIndex_df160 = true := by decide +kernel
def f_J0_checkIndex_df160 (N : Nat) (M : Mem) (x0 : Int32) (x1 : Int32) : Option Unit := (f_J3_checkIndex_8e157 N M x0 x1).bind fun q5 => some ()
set_option maxHeartbeats 4000000 in
set_option maxRecDepth 100000 in
theorem c_J0_checkIndex_df160 {X : Cx} {l : Launch} (hX : CxOk X) {N : Nat} {M : Mem} {x0 : Int32} {x1 : Int32} (h : f_J0_checkIndex_df160 N M x0 x1 = some ()) : Ctr X l yJ0_checkIndex_df160 cJ0_checkIndex_df160 2 none 3 [.int x0, .int x1] M none M := by
  refine Ctr.ofG (L := [some (.int x0), some (.int x1)]) hX (by decide) (Nat.le_of_ble_eq_true rfl) rfl (fun F hF hl hR => ?_)
  subst hl
  unfold f_J0_checkIndex_df160 at h
  refine g_iload_n hF (dck_at tJ0_checkIndex_df160 0 rfl) rfl ?_
  refine g_iload_n hF (dck_at tJ0_checkIndex_df160 1 rfl) rfl ?_
  refine g_sfm hF wf_J0_1053 (dck_at tJ0_checkIndex_df160 2 rfl) ?_ ?_
  · obtain ⟨q5, e5, h⟩ := bd h
    refine g_callS hF (as := [.int x0, .int x1, .null]) wm_J0_1059 wt_J3_checkIndex_8e157 wc_J3_checkIndex_8e157 wn_J3 hyJ3_checkIndex_8e157 (by decide) (c_J3_checkIndex_8e157 hF.2.2.2.2.2.2.2.1 e5) (by decide) rfl rfl rfl rfl (dck_at tJ0_checkIndex_df160 3 rfl) ?_
    show G X F 8 _ [.int q5] M
    refine g_pop hF (dck_at tJ0_checkIndex_df160 4 rfl) rfl ?_
    cases h
    exact g_vret hF hR (dck_at tJ0_checkIndex_df160 5 rfl)
  · obtain ⟨q5, e5, h⟩ := bd h
    refine g_callS hF (as := [.int x0, .int x1, .ref 1099]) wm_J0_1059 wt_J3_checkIndex_8e157 wc_J3_checkIndex_8e157 wn_J3 hyJ3_checkIndex_8e157 (by decide) (c_J3_checkIndex_8e157b hF.2.2.2.2.2.2.2.1 e5) (by decide) rfl rfl rfl rfl (dck_at tJ0_checkIndex_df160 3 rfl) ?_
    show G X F 8 _ [.int q5] M
    refine g_pop hF (dck_at tJ0_checkIndex_df160 4 rfl) rfl ?_
    cases h
    exact g_vret hF hR (dck_at tJ0_checkIndex_df160 5 rfl)

def tbJ1_charAt_3b067 : List (Nat × Instr × Nat) := [(0, .iload_n 1, 1), (1, .aload_n 0, 1), (2, .arraylength, 1), (3, .invokestatic 9, 3), (6, .aload_n 0, 1), (7, .iload_n 1, 1), (8, .baload, 1), (9, .sipush 255, 3), (12, .iand, 1), (13, .i2c, 1), (14, .ireturn, 1)]
theorem tJ1_charAt_3b067 : dck cJ1_charAt_3b067 tbJ1_charAt_3b067 = true := by decide +kernel
def f_J1_charAt_3b067 (N : Nat) (M : Mem) (k0 : Nat) (x1 : Int32) : Option Int32 := (f_J0_checkIndex_df160 N M x1 (Int32.ofNat (cN k0))).bind fun q3 => if inb x1 (cN k0) = true then if cok ((((cB k0 x1.toNatClampNeg) &&& (255 : Int32)).toUInt32 % 65536).toInt32) = true then some ((((cB k0 x1.toNatClampNeg) &&& (255 : Int32)).toUInt32 % 65536).toInt32) else none else none
set_option maxHeartbeats 4000000 in
set_option maxRecDepth 100000 in
theorem c_J1_charAt_3b067 {X : Cx} {l : Launch} (hX : CxOk X) {N : Nat} {M : Mem} {k0 : Nat} {x1 : Int32} (hk0 : k0 < 13) {r : Int32} (h : f_J1_charAt_3b067 N M k0 x1 = some r) : Ctr X l yJ1_charAt_3b067 cJ1_charAt_3b067 2 (some .char) 4 [.ref (1040 + k0), .int x1] M (some (.int r)) M := by
  refine Ctr.ofG (L := [some (.ref (1040 + k0)), some (.int x1)]) hX (by decide) (Nat.le_of_ble_eq_true rfl) rfl (fun F hF hl hR => ?_)
  subst hl
  unfold f_J1_charAt_3b067 at h
  refine g_iload_n hF (dck_at tJ1_charAt_3b067 0 rfl) rfl ?_
  refine g_aload_n hF (dck_at tJ1_charAt_3b067 1 rfl) rfl ?_
  refine g_slen hF hk0 rfl (dck_at tJ1_charAt_3b067 2 rfl) ?_
  obtain ⟨q3, e3, h⟩ := bd h
  refine g_callS hF (as := [.int x1, .int (Int32.ofNat (cN k0))]) wm_J1_9 wt_J0_checkIndex_df160 wc_J0_checkIndex_df160 wn_J0 hyJ0_checkIndex_df160 (by decide) (c_J0_checkIndex_df160 hF.2.2.2.2.2.2.2.1 e3) (by decide) rfl rfl rfl rfl (dck_at tJ1_charAt_3b067 3 rfl) ?_
  show G X F 6 _ [] M
  refine g_aload_n hF (dck_at tJ1_charAt_3b067 4 rfl) rfl ?_
  refine g_iload_n hF (dck_at tJ1_charAt_3b067 5 rfl) rfl ?_
  show G X F 8 _ _ _
  obtain ⟨hg8, h⟩ := gd h
  refine g_sbyte hF hk0 (inb_in hg8) (dck_at tJ1_charAt_3b067 6 rfl) ?_
  refine g_sipush (v := 255) hF (dck_at tJ1_charAt_3b067 7 rfl) (by decide) ?_
  refine g_iand hF (dck_at tJ1_charAt_3b067 8 rfl) ?_
  refine g_i2c hF (dck_at tJ1_charAt_3b067 9 rfl) ?_
  obtain ⟨hz14, h⟩ := gd h
  cases h
  exact g_zret hF hR (cok_n hz14) (dck_at tJ1_charAt_3b067 10 rfl)

def tbJ0_charAt_5068e : List (Nat × Instr × Nat) := [(0, .aload_n 0, 1), (1, .invokevirtual 492, 3), (4, .ifCond .eq 12, 3), (7, .aload_n 0, 1), (8, .getfield 9, 3), (11, .iload_n 1, 1), (12, .invokestatic 495, 3), (15, .ireturn, 1), (16, .aload_n 0, 1), (17, .getfield 9, 3), (20, .iload_n 1, 1), (21, .invokestatic 498, 3), (24, .ireturn, 1)]
theorem tJ0_charAt_5068e : dck cJ0_charAt_5068e tbJ0_charAt_5068e = true := by decide +kernel
def f_J0_charAt_5068e (N : Nat) (M : Mem) (k : Nat) (x1 : Int32) : Option Int32 := (f_J0_isLatin1_aae02 N M k).bind fun q1 => (if q1 = 0 then none else (f_J1_charAt_3b067 N M k x1).bind fun q12 => if cok q12 = true then some q12 else none)
set_option maxHeartbeats 4000000 in
set_option maxRecDepth 100000 in
theorem c_J0_charAt_5068e {X : Cx} {l : Launch} (hX : CxOk X) {N : Nat} {M : Mem} {k : Nat} {x1 : Int32} (hk : k < 13) {r : Int32} (h : f_J0_charAt_5068e N M k x1 = some r) : Ctr X l yJ0_charAt_5068e cJ0_charAt_5068e 2 (some .char) 6 [.ref (1020 + k), .int x1] M (some (.int r)) M := by
  refine Ctr.ofG (L := [some (.ref (1020 + k)), some (.int x1)]) hX (by decide) (Nat.le_of_ble_eq_true rfl) rfl (fun F hF hl hR => ?_)
  subst hl
  unfold f_J0_charAt_5068e at h
  refine g_aload_n hF (dck_at tJ0_charAt_5068e 0 rfl) rfl ?_
  obtain ⟨q1, e1, h⟩ := bd h
  refine g_callVS hF (as := []) (i := k) hk wm_J0_492 wi_J0_isLatin1_aae02 we_J0_isLatin1_aae02 wc_J0_isLatin1_aae02 wn_J0 hyJ0_isLatin1_aae02 (by decide) (c_J0_isLatin1_aae02 hF.2.2.2.2.2.2.2.1 hk e1) (by decide) rfl rfl rfl rfl (dck_at tJ0_charAt_5068e 1 rfl) ?_
  show G X F 4 _ [.int q1] M
  refine g_if_eq hF 16 (dck_at tJ0_charAt_5068e 2 rfl) (by decide) (fun hc4 => ?_) (fun hc4 => ?_)
  · replace h := ite_t hc4 h
    refine g_aload_n hF (dck_at tJ0_charAt_5068e 8 rfl) rfl ?_
    refine g_svalue hF hk wf_J0_9 (dck_at tJ0_charAt_5068e 9 rfl) ?_
    refine g_iload_n hF (dck_at tJ0_charAt_5068e 10 rfl) rfl ?_
    cases h
  · replace h := ite_f hc4 h
    refine g_aload_n hF (dck_at tJ0_charAt_5068e 3 rfl) rfl ?_
    refine g_svalue hF hk wf_J0_9 (dck_at tJ0_charAt_5068e 4 rfl) ?_
    refine g_iload_n hF (dck_at tJ0_charAt_5068e 5 rfl) rfl ?_
    obtain ⟨q12, e12, h⟩ := bd h
    refine g_callS hF (as := [.ref (1040 + k), .int x1]) wm_J0_495 wt_J1_charAt_3b067 wc_J1_charAt_3b067 wn_J1 hyJ1_charAt_3b067 (by decide) (c_J1_charAt_3b067 hF.2.2.2.2.2.2.2.1 hk e12) (by decide) rfl rfl rfl rfl (dck_at tJ0_charAt_5068e 6 rfl) ?_
    show G X F 15 _ [.int q12] M
    obtain ⟨hz15, h⟩ := gd h
    cases h
    exact g_zret hF hR (cok_n hz15) (dck_at tJ0_charAt_5068e 7 rfl)

def tbX4_isWordUpTo : List (Nat × Instr × Nat) := [(0, .aload_n 1, 1), (1, .invokevirtual 100, 3), (4, .iload_n 2, 1), (5, .aload_n 0, 1), (6, .getfield 44, 3), (9, .isub, 1), (10, .if_icmp .eq 5, 3), (13, .iconst 0, 1), (14, .ireturn, 1), (15, .iconst 0, 1), (16, .istore_n 3, 1), (17, .iload_n 3, 1), (18, .aload_n 1, 1), (19, .invokevirtual 100, 3), (22, .if_icmp .ge 30, 3), (25, .aload_n 1, 1), (26, .iload_n 3, 1), (27, .invokevirtual 105, 3), (30, .aload_n 0, 1), (31, .getfield 18, 3), (34, .aload_n 0, 1), (35, .getfield 44, 3), (38, .iload_n 3, 1), (39, .iadd, 1), (40, .caload, 1), (41, .if_icmp .eq 5, 3), (44, .iconst 0, 1), (45, .ireturn, 1), (46, .iinc 3 1, 3), (49, .goto (-32), 3), (52, .iconst 1, 1), (53, .ireturn, 1)]
theorem tX4_isWordUpTo : dck cX4_isWordUpTo tbX4_isWordUpTo = true := by decide +kernel
def f_X4_isWordUpTo_L17 (N : Nat) (M : Mem) (y1 : Nat) : Nat → Int32 → Option ((Int32) ⊕ (Int32))
  | 0, _ => none
  | n + 1, x3 => (f_J0_length_8abf5 N M y1).bind fun q19 => (if q19 ≤ x3 then some (.inl x3) else (f_J0_charAt_5068e N M y1 x3).bind fun q27 => if inb ((M 9 6) + x3) 160 = true then (if q27 = (M 18 ((M 9 6) + x3).toNatClampNeg) then f_X4_isWordUpTo_L17 N M y1 n (x3 + (1 : Int32)) else some (.inr (0 : Int32))) else none)
def f_X4_isWordUpTo (N : Nat) (M : Mem) (k1 : Nat) (x2 : Int32) : Option Int32 := (f_J0_length_8abf5 N M k1).bind fun q1 => (if q1 = (x2 - (M 9 6)) then bS (f_X4_isWordUpTo_L17 N M k1 N (0 : Int32)) (fun o17 => some (1 : Int32)) else some (0 : Int32))
set_option maxHeartbeats 4000000 in
set_option maxRecDepth 100000 in
theorem g_X4_isWordUpTo_L17 {X : Cx} {F : Fx} (hS : SC X) (hF : FK X F cX4_isWordUpTo RX4 4 7) (N : Nat) (M : Mem) (y1 : Nat) (hy1 : y1 < 13) : ∀ (n : Nat) (x3 : Int32) (o : ((Int32) ⊕ (Int32))), f_X4_isWordUpTo_L17 N M y1 n x3 = some o → (∀ a, o = .inl a → G X F 52 [none, none, none, none] [] M) → (∀ b, o = .inr b → FR X F (some .boolean) (some (.int b)) M) → G X F 17 [some (.ref 9), some (.ref (1020 + y1)), none, some (.int x3)] [] M := by
  intro n
  induction n with
  | zero =>
    intro x3 o h K hRr
    cases h
  | succ n ih =>
    intro x3 o h K hRr
    rw [f_X4_isWordUpTo_L17] at h
    refine g_iload_n hF (dck_at tX4_isWordUpTo 11 rfl) rfl ?_
    refine g_aload_n hF (dck_at tX4_isWordUpTo 12 rfl) rfl ?_
    obtain ⟨q19, e19, h⟩ := bd h
    refine g_callVS hF (as := []) (i := y1) hy1 wm_X4_100 wi_J0_length_8abf5 we_J0_length_8abf5 wc_J0_length_8abf5 wn_J0 hyJ0_length_8abf5 (by decide) (c_J0_length_8abf5 hF.2.2.2.2.2.2.2.1 hy1 e19) (by decide) rfl rfl rfl rfl (dck_at tX4_isWordUpTo 13 rfl) ?_
    show G X F 22 _ [.int q19, .int x3] M
    refine g_icmp_ge hF 52 (dck_at tX4_isWordUpTo 14 rfl) (by decide) (fun hc22 => ?_) (fun hc22 => ?_)
    · replace h := ite_t hc22 h
      refine g_msk [false, false, true, false] (L' := [none, none, none, none]) rfl ?_
      cases h
      exact K _ rfl
    · replace h := ite_f hc22 h
      refine g_aload_n hF (dck_at tX4_isWordUpTo 15 rfl) rfl ?_
      refine g_iload_n hF (dck_at tX4_isWordUpTo 16 rfl) rfl ?_
      obtain ⟨q27, e27, h⟩ := bd h
      refine g_callVS hF (as := [.int x3]) (i := y1) hy1 wm_X4_105 wi_J0_charAt_5068e we_J0_charAt_5068e wc_J0_charAt_5068e wn_J0 hyJ0_charAt_5068e (by decide) (c_J0_charAt_5068e hF.2.2.2.2.2.2.2.1 hy1 e27) (by decide) rfl rfl rfl rfl (dck_at tX4_isWordUpTo 17 rfl) ?_
      show G X F 30 _ [.int q27] M
      refine g_aload_n hF (dck_at tX4_isWordUpTo 18 rfl) rfl ?_
      refine gf_X4_18 hF (hS 9 (by decide)) kdc_9 lnc_9 (dck_at tX4_isWordUpTo 19 rfl) ?_
      refine g_aload_n hF (dck_at tX4_isWordUpTo 20 rfl) rfl ?_
      show G X F 35 _ _ _
      refine gf_X4_44 hF (hS 9 (by decide)) kdc_9 lnc_9 (dck_at tX4_isWordUpTo 21 rfl) ?_
      refine g_iload_n hF (dck_at tX4_isWordUpTo 22 rfl) rfl ?_
      refine g_iadd hF (dck_at tX4_isWordUpTo 23 rfl) ?_
      obtain ⟨hg40, h⟩ := gd h
      refine g_ca hF (hS 18 (by decide)) kdc_18 lnc_18 hg40 (dck_at tX4_isWordUpTo 24 rfl) ?_
      refine g_icmp_eq hF 46 (dck_at tX4_isWordUpTo 25 rfl) (by decide) (fun hc41 => ?_) (fun hc41 => ?_)
      · replace h := ite_t hc41 h
        refine g_iinc (v := 1) (L' := [some (.ref 9), some (.ref (1020 + y1)), none, some (.int (x3 + (1 : Int32)))]) hF (dck_at tX4_isWordUpTo 28 rfl) rfl (by decide) rfl ?_
        refine g_goto hF 17 (dck_at tX4_isWordUpTo 29 rfl) (by decide) ?_
        exact ih _ _ h K hRr
      · replace h := ite_f hc41 h
        refine g_iconst (v := 0) hF (dck_at tX4_isWordUpTo 26 rfl) (by decide) ?_
        cases h
        exact g_zret hF (hRr _ rfl) rfl (dck_at tX4_isWordUpTo 27 rfl)
set_option maxHeartbeats 4000000 in
set_option maxRecDepth 100000 in
theorem c_X4_isWordUpTo {X : Cx} {l : Launch} (hX : CxOk X) (hS : SC X) {N : Nat} {M : Mem} {k1 : Nat} {x2 : Int32} (hk1 : k1 < 13) {r : Int32} (h : f_X4_isWordUpTo N M k1 x2 = some r) : Ctr X l yX4_isWordUpTo cX4_isWordUpTo 4 (some .boolean) 7 [.ref 9, .ref (1020 + k1), .int x2] M (some (.int r)) M := by
  refine Ctr.ofG (L := [some (.ref 9), some (.ref (1020 + k1)), some (.int x2), none]) hX (by decide) (Nat.le_of_ble_eq_true rfl) rfl (fun F hF hl hR => ?_)
  subst hl
  unfold f_X4_isWordUpTo at h
  refine g_aload_n hF (dck_at tX4_isWordUpTo 0 rfl) rfl ?_
  obtain ⟨q1, e1, h⟩ := bd h
  refine g_callVS hF (as := []) (i := k1) hk1 wm_X4_100 wi_J0_length_8abf5 we_J0_length_8abf5 wc_J0_length_8abf5 wn_J0 hyJ0_length_8abf5 (by decide) (c_J0_length_8abf5 hF.2.2.2.2.2.2.2.1 hk1 e1) (by decide) rfl rfl rfl rfl (dck_at tX4_isWordUpTo 1 rfl) ?_
  show G X F 4 _ [.int q1] M
  refine g_iload_n hF (dck_at tX4_isWordUpTo 2 rfl) rfl ?_
  refine g_aload_n hF (dck_at tX4_isWordUpTo 3 rfl) rfl ?_
  refine gf_X4_44 hF (hS 9 (by decide)) kdc_9 lnc_9 (dck_at tX4_isWordUpTo 4 rfl) ?_
  refine g_isub hF (dck_at tX4_isWordUpTo 5 rfl) ?_
  show G X F 10 _ _ _
  refine g_icmp_eq hF 15 (dck_at tX4_isWordUpTo 6 rfl) (by decide) (fun hc10 => ?_) (fun hc10 => ?_)
  · replace h := ite_t hc10 h
    refine g_iconst (v := 0) hF (dck_at tX4_isWordUpTo 9 rfl) (by decide) ?_
    refine g_istore_n (L' := [some (.ref 9), some (.ref (1020 + k1)), some (.int x2), some (.int (0 : Int32))]) hF (dck_at tX4_isWordUpTo 10 rfl) (Nat.le_of_ble_eq_true rfl) rfl ?_
    refine g_msk [true, true, false, true] (L' := [some (.ref 9), some (.ref (1020 + k1)), none, some (.int (0 : Int32))]) rfl ?_
    obtain ⟨v17, e17, h⟩ := bS_s h
    refine g_X4_isWordUpTo_L17 hS hF N _ _ hk1 N _ _ e17 (fun o17 ea => ?_) (fun b eb => ?_)
    · replace h := h.1 o17 ea
      refine g_iconst (v := 1) hF (dck_at tX4_isWordUpTo 30 rfl) (by decide) ?_
      cases h
      exact g_zret hF hR rfl (dck_at tX4_isWordUpTo 31 rfl)
    · have eb2 := h.2 b eb
      subst eb2
      exact hR
  · replace h := ite_f hc10 h
    refine g_iconst (v := 0) hF (dck_at tX4_isWordUpTo 7 rfl) (by decide) ?_
    cases h
    exact g_zret hF hR rfl (dck_at tX4_isWordUpTo 8 rfl)

def tbX4_clauseUpTo : List (Nat × Instr × Nat) := [(0, .iconst 0, 1), (1, .istore_n 2, 1), (2, .iload_n 2, 1), (3, .aload_n 0, 1), (4, .getfield 32, 3), (7, .arraylength, 1), (8, .if_icmp .ge 33, 3), (11, .aload_n 0, 1), (12, .aload_n 0, 1), (13, .getfield 32, 3), (16, .iload_n 2, 1), (17, .aaload, 1), (18, .getfield 92, 3), (21, .iload_n 1, 1), (22, .invokevirtual 96, 3), (25, .ifCond .eq 10, 3), (28, .aload_n 0, 1), (29, .getfield 32, 3), (32, .iload_n 2, 1), (33, .aaload, 1), (34, .areturn, 1), (35, .iinc 2 1, 3), (38, .goto (-36), 3), (41, .aconst_null, 1), (42, .areturn, 1)]
theorem tX4_clauseUpTo : dck cX4_clauseUpTo tbX4_clauseUpTo = true := by decide +kernel
def f_X4_clauseUpTo_L2 (N : Nat) (M : Mem) (x1 : Int32) : Nat → Int32 → Option ((Int32) ⊕ (Option Nat))
  | 0, _ => none
  | n + 1, x2 => (if (13 : Int32) ≤ x2 then some (.inl x2) else if inb x2 13 = true then (f_X4_isWordUpTo N M x2.toNatClampNeg x1).bind fun q22 => (if q22 = 0 then f_X4_clauseUpTo_L2 N M x1 n (x2 + (1 : Int32)) else if inb x2 13 = true then some (.inr (some x2.toNatClampNeg)) else none) else none)
def f_X4_clauseUpTo (N : Nat) (M : Mem) (x1 : Int32) : Option (Option Nat) := bS (f_X4_clauseUpTo_L2 N M x1 N (0 : Int32)) (fun o2 => some none)
set_option maxHeartbeats 4000000 in
set_option maxRecDepth 100000 in
theorem g_X4_clauseUpTo_L2 {X : Cx} {F : Fx} (hS : SC X) (hF : FK X F cX4_clauseUpTo RX4 3 8) (N : Nat) (M : Mem) (x1 : Int32) : ∀ (n : Nat) (x2 : Int32) (o : ((Int32) ⊕ (Option Nat))), f_X4_clauseUpTo_L2 N M x1 n x2 = some o → (∀ a, o = .inl a → G X F 41 [none, none, none] [] M) → (∀ b, o = .inr b → FR X F (some (.object "WhichEncore$Clause")) (some (clv b)) M) → G X F 2 [some (.ref 9), some (.int x1), some (.int x2)] [] M := by
  intro n
  induction n with
  | zero =>
    intro x2 o h K hRr
    cases h
  | succ n ih =>
    intro x2 o h K hRr
    rw [f_X4_clauseUpTo_L2] at h
    refine g_iload_n hF (dck_at tX4_clauseUpTo 2 rfl) rfl ?_
    refine g_aload_n hF (dck_at tX4_clauseUpTo 3 rfl) rfl ?_
    refine gf_X4_32 hF (hS 9 (by decide)) kdc_9 lnc_9 (dck_at tX4_clauseUpTo 4 rfl) ?_
    refine g_alen (v := 13) hF (hS 20 (by decide)) (by rw [kdc_20]; decide) (by rw [lnc_20]; rfl) (dck_at tX4_clauseUpTo 5 rfl) ?_
    refine g_icmp_ge hF 41 (dck_at tX4_clauseUpTo 6 rfl) (by decide) (fun hc8 => ?_) (fun hc8 => ?_)
    · replace h := ite_t hc8 h
      refine g_msk [false, false, false] (L' := [none, none, none]) rfl ?_
      cases h
      exact K _ rfl
    · replace h := ite_f hc8 h
      refine g_aload_n hF (dck_at tX4_clauseUpTo 7 rfl) rfl ?_
      refine g_aload_n hF (dck_at tX4_clauseUpTo 8 rfl) rfl ?_
      refine gf_X4_32 hF (hS 9 (by decide)) kdc_9 lnc_9 (dck_at tX4_clauseUpTo 9 rfl) ?_
      refine g_iload_n hF (dck_at tX4_clauseUpTo 10 rfl) rfl ?_
      obtain ⟨hg17, h⟩ := gd h
      refine g_allc hF hS hg17 (dck_at tX4_clauseUpTo 11 rfl) ?_
      refine g_cword hF (inb_lt hg17) wf_X4_92 (dck_at tX4_clauseUpTo 12 rfl) ?_
      show G X F 21 _ _ _
      refine g_iload_n hF (dck_at tX4_clauseUpTo 13 rfl) rfl ?_
      obtain ⟨q22, e22, h⟩ := bd h
      refine g_callV hF (as := [.ref (1020 + x2.toNatClampNeg), .int x1]) (k := 9) rfl (by decide) wm_X4_96 wi_X4_isWordUpTo we_X4_isWordUpTo wc_X4_isWordUpTo wn_X4 hyX4_isWordUpTo (by decide) (hS 9 (by decide)) kdc_9 (c_X4_isWordUpTo hF.2.2.2.2.2.2.2.1 hS (inb_lt hg17) e22) (by decide) rfl rfl rfl rfl (dck_at tX4_clauseUpTo 14 rfl) ?_
      show G X F 25 _ [.int q22] M
      refine g_if_eq hF 35 (dck_at tX4_clauseUpTo 15 rfl) (by decide) (fun hc25 => ?_) (fun hc25 => ?_)
      · replace h := ite_t hc25 h
        refine g_iinc (v := 1) (L' := [some (.ref 9), some (.int x1), some (.int (x2 + (1 : Int32)))]) hF (dck_at tX4_clauseUpTo 21 rfl) rfl (by decide) rfl ?_
        refine g_goto hF 2 (dck_at tX4_clauseUpTo 22 rfl) (by decide) ?_
        exact ih _ _ h K hRr
      · replace h := ite_f hc25 h
        refine g_aload_n hF (dck_at tX4_clauseUpTo 16 rfl) rfl ?_
        refine gf_X4_32 hF (hS 9 (by decide)) kdc_9 lnc_9 (dck_at tX4_clauseUpTo 17 rfl) ?_
        refine g_iload_n hF (dck_at tX4_clauseUpTo 18 rfl) rfl ?_
        obtain ⟨hg33, h⟩ := gd h
        refine g_allc hF hS hg33 (dck_at tX4_clauseUpTo 19 rfl) ?_
        cases h
        exact g_aret hF (Or.inr ⟨_, rfl⟩) (hRr _ rfl) (dck_at tX4_clauseUpTo 20 rfl)
set_option maxHeartbeats 4000000 in
set_option maxRecDepth 100000 in
theorem c_X4_clauseUpTo {X : Cx} {l : Launch} (hX : CxOk X) (hS : SC X) {N : Nat} {M : Mem} {x1 : Int32} {r : Option Nat} (h : f_X4_clauseUpTo N M x1 = some r) : Ctr X l yX4_clauseUpTo cX4_clauseUpTo 3 (some (.object "WhichEncore$Clause")) 8 [.ref 9, .int x1] M (some (clv r)) M := by
  refine Ctr.ofG (L := [some (.ref 9), some (.int x1), none]) hX (by decide) (Nat.le_of_ble_eq_true rfl) rfl (fun F hF hl hR => ?_)
  subst hl
  unfold f_X4_clauseUpTo at h
  refine g_iconst (v := 0) hF (dck_at tX4_clauseUpTo 0 rfl) (by decide) ?_
  refine g_istore_n (L' := [some (.ref 9), some (.int x1), some (.int (0 : Int32))]) hF (dck_at tX4_clauseUpTo 1 rfl) (Nat.le_of_ble_eq_true rfl) rfl ?_
  obtain ⟨v2, e2, h⟩ := bS_s h
  refine g_X4_clauseUpTo_L2 hS hF N _ _ N _ _ e2 (fun o2 ea => ?_) (fun b eb => ?_)
  · replace h := h.1 o2 ea
    refine g_null hF (dck_at tX4_clauseUpTo 23 rfl) ?_
    cases h
    exact g_aret hF (Or.inl rfl) hR (dck_at tX4_clauseUpTo 24 rfl)
  · have eb2 := h.2 b eb
    subst eb2
    exact hR

def tbX4_readNumber : List (Nat × Instr × Nat) := [(0, .aload_n 0, 1), (1, .invokevirtual 54, 3), (4, .aload_n 0, 1), (5, .bipush 48, 2), (7, .bipush 57, 2), (9, .invokevirtual 57, 3), (12, .istore 4, 2), (14, .iload 4, 2), (16, .aload_n 0, 1), (17, .getfield 44, 3), (20, .if_icmp .eq 14, 3), (23, .iload 4, 2), (25, .aload_n 0, 1), (26, .getfield 44, 3), (29, .isub, 1), (30, .iconst 2, 1), (31, .if_icmp .le 5, 3), (34, .iconst 0, 1), (35, .ireturn, 1), (36, .iconst 0, 1), (37, .istore 5, 2), (39, .aload_n 0, 1), (40, .getfield 44, 3), (43, .istore 6, 2), (45, .iload 6, 2), (47, .iload 4, 2), (49, .if_icmp .ge 27, 3), (52, .iload 5, 2), (54, .bipush 10, 2), (56, .imul, 1), (57, .aload_n 0, 1), (58, .getfield 18, 3), (61, .iload 6, 2), (63, .caload, 1), (64, .iadd, 1), (65, .bipush 48, 2), (67, .isub, 1), (68, .istore 5, 2), (70, .iinc 6 1, 3), (73, .goto (-28), 3), (76, .iload 5, 2), (78, .iload_n 2, 1), (79, .if_icmp .lt 9, 3), (82, .iload 5, 2), (84, .iload_n 3, 1), (85, .if_icmp .le 5, 3), (88, .iconst 0, 1), (89, .ireturn, 1), (90, .aload_n 0, 1), (91, .getfield 22, 3), (94, .iload_n 1, 1), (95, .iload 5, 2), (97, .iastore, 1), (98, .aload_n 0, 1), (99, .iload 4, 2), (101, .putfield 44, 3), (104, .iconst 1, 1), (105, .ireturn, 1)]
theorem tX4_readNumber : dck cX4_readNumber tbX4_readNumber = true := by decide +kernel
def f_X4_readNumber_L45 (N : Nat) (M : Mem) (x1 : Int32) (x2 : Int32) (x3 : Int32) (x4 : Int32) : Nat → Int32 → Int32 → Option (Int32 × Int32)
  | 0, _, _ => none
  | n + 1, x5, x6 => (if x4 ≤ x6 then some (x5, x6) else if inb x6 160 = true then f_X4_readNumber_L45 N M x1 x2 x3 x4 n (((x5 * (10 : Int32)) + (M 18 x6.toNatClampNeg)) - (48 : Int32)) (x6 + (1 : Int32)) else none)
def f_X4_readNumber (N : Nat) (M : Mem) (x1 : Int32) (x2 : Int32) (x3 : Int32) : Option (Int32 × Mem) := (f_X4_skipBlanks N M).bind fun q1 => (f_X4_endOfRow N q1 (48 : Int32) (57 : Int32)).bind fun q9 => (if q9 = (q1 9 6) then some ((0 : Int32), q1) else (if (q9 - (q1 9 6)) ≤ (2 : Int32) then (f_X4_readNumber_L45 N q1 x1 x2 x3 q9 N (0 : Int32) (q1 9 6)).bind fun o45 => (if o45.1 < x2 then some ((0 : Int32), q1) else (if o45.1 ≤ x3 then if inb x1 3 = true then some ((1 : Int32), (up2 (up2 q1 19 x1.toNatClampNeg o45.1) 9 6 q9)) else none else some ((0 : Int32), q1))) else some ((0 : Int32), q1)))
set_option maxHeartbeats 4000000 in
set_option maxRecDepth 100000 in
theorem g_X4_readNumber_L45 {X : Cx} {F : Fx} (hS : SC X) (hF : FK X F cX4_readNumber RX4 7 2) (N : Nat) (M : Mem) (x1 : Int32) (x2 : Int32) (x3 : Int32) (x4 : Int32) : ∀ (n : Nat) (x5 : Int32) (x6 : Int32) (o : Int32 × Int32), f_X4_readNumber_L45 N M x1 x2 x3 x4 n x5 x6 = some o → G X F 76 [some (.ref 9), some (.int x1), some (.int x2), some (.int x3), some (.int x4), some (.int o.1), none] [] M → G X F 45 [some (.ref 9), some (.int x1), some (.int x2), some (.int x3), some (.int x4), some (.int x5), some (.int x6)] [] M := by
  intro n
  induction n with
  | zero =>
    intro x5 x6 o h K
    cases h
  | succ n ih =>
    intro x5 x6 o h K
    rw [f_X4_readNumber_L45] at h
    refine g_iload hF (dck_at tX4_readNumber 24 rfl) rfl ?_
    refine g_iload hF (dck_at tX4_readNumber 25 rfl) rfl ?_
    refine g_icmp_ge hF 76 (dck_at tX4_readNumber 26 rfl) (by decide) (fun hc49 => ?_) (fun hc49 => ?_)
    · replace h := ite_t hc49 h
      refine g_msk [true, true, true, true, true, true, false] (L' := [some (.ref 9), some (.int x1), some (.int x2), some (.int x3), some (.int x4), some (.int x5), none]) rfl ?_
      cases h
      exact K
    · replace h := ite_f hc49 h
      refine g_iload hF (dck_at tX4_readNumber 27 rfl) rfl ?_
      refine g_bipush (v := 10) hF (dck_at tX4_readNumber 28 rfl) (by decide) ?_
      refine g_imul hF (dck_at tX4_readNumber 29 rfl) ?_
      refine g_aload_n hF (dck_at tX4_readNumber 30 rfl) rfl ?_
      refine gf_X4_18 hF (hS 9 (by decide)) kdc_9 lnc_9 (dck_at tX4_readNumber 31 rfl) ?_
      refine g_iload hF (dck_at tX4_readNumber 32 rfl) rfl ?_
      show G X F 63 _ _ _
      obtain ⟨hg63, h⟩ := gd h
      refine g_ca hF (hS 18 (by decide)) kdc_18 lnc_18 hg63 (dck_at tX4_readNumber 33 rfl) ?_
      refine g_iadd hF (dck_at tX4_readNumber 34 rfl) ?_
      refine g_bipush (v := 48) hF (dck_at tX4_readNumber 35 rfl) (by decide) ?_
      refine g_isub hF (dck_at tX4_readNumber 36 rfl) ?_
      refine g_istore (L' := [some (.ref 9), some (.int x1), some (.int x2), some (.int x3), some (.int x4), some (.int (((x5 * (10 : Int32)) + (M 18 x6.toNatClampNeg)) - (48 : Int32))), some (.int x6)]) hF (dck_at tX4_readNumber 37 rfl) (Nat.le_of_ble_eq_true rfl) rfl ?_
      refine g_iinc (v := 1) (L' := [some (.ref 9), some (.int x1), some (.int x2), some (.int x3), some (.int x4), some (.int (((x5 * (10 : Int32)) + (M 18 x6.toNatClampNeg)) - (48 : Int32))), some (.int (x6 + (1 : Int32)))]) hF (dck_at tX4_readNumber 38 rfl) rfl (by decide) rfl ?_
      refine g_goto hF 45 (dck_at tX4_readNumber 39 rfl) (by decide) ?_
      exact ih _ _ _ h K
set_option maxHeartbeats 4000000 in
set_option maxRecDepth 100000 in
theorem c_X4_readNumber {X : Cx} {l : Launch} (hX : CxOk X) (hS : SC X) {N : Nat} {M : Mem} {x1 : Int32} {x2 : Int32} {x3 : Int32} {r : Int32} {M' : Mem} (h : f_X4_readNumber N M x1 x2 x3 = some (r, M')) : Ctr X l yX4_readNumber cX4_readNumber 7 (some .boolean) 2 [.ref 9, .int x1, .int x2, .int x3] M (some (.int r)) M' := by
  refine Ctr.ofG (L := [some (.ref 9), some (.int x1), some (.int x2), some (.int x3), none, none, none]) hX (by decide) (Nat.le_of_ble_eq_true rfl) rfl (fun F hF hl hR => ?_)
  subst hl
  unfold f_X4_readNumber at h
  refine g_aload_n hF (dck_at tX4_readNumber 0 rfl) rfl ?_
  obtain ⟨q1, e1, h⟩ := bd h
  refine g_callV hF (as := []) (k := 9) rfl (by decide) wm_X4_54 wi_X4_skipBlanks we_X4_skipBlanks wc_X4_skipBlanks wn_X4 hyX4_skipBlanks (by decide) (hS 9 (by decide)) kdc_9 (c_X4_skipBlanks hF.2.2.2.2.2.2.2.1 hS e1) (by decide) rfl rfl rfl rfl (dck_at tX4_readNumber 1 rfl) ?_
  show G X F 4 _ [] q1
  refine g_aload_n hF (dck_at tX4_readNumber 2 rfl) rfl ?_
  refine g_bipush (v := 48) hF (dck_at tX4_readNumber 3 rfl) (by decide) ?_
  refine g_bipush (v := 57) hF (dck_at tX4_readNumber 4 rfl) (by decide) ?_
  obtain ⟨q9, e9, h⟩ := bd h
  refine g_callV hF (as := [.int (48 : Int32), .int (57 : Int32)]) (k := 9) rfl (by decide) wm_X4_57 wi_X4_endOfRow we_X4_endOfRow wc_X4_endOfRow wn_X4 hyX4_endOfRow (by decide) (hS 9 (by decide)) kdc_9 (c_X4_endOfRow hF.2.2.2.2.2.2.2.1 hS e9) (by decide) rfl rfl rfl rfl (dck_at tX4_readNumber 5 rfl) ?_
  show G X F 12 _ [.int q9] q1
  show G X F 12 _ _ _
  refine g_istore (L' := [some (.ref 9), some (.int x1), some (.int x2), some (.int x3), some (.int q9), none, none]) hF (dck_at tX4_readNumber 6 rfl) (Nat.le_of_ble_eq_true rfl) rfl ?_
  refine g_iload hF (dck_at tX4_readNumber 7 rfl) rfl ?_
  refine g_aload_n hF (dck_at tX4_readNumber 8 rfl) rfl ?_
  refine gf_X4_44 hF (hS 9 (by decide)) kdc_9 lnc_9 (dck_at tX4_readNumber 9 rfl) ?_
  refine g_icmp_eq hF 34 (dck_at tX4_readNumber 10 rfl) (by decide) (fun hc20 => ?_) (fun hc20 => ?_)
  · replace h := ite_t hc20 h
    refine g_iconst (v := 0) hF (dck_at tX4_readNumber 17 rfl) (by decide) ?_
    cases h
    exact g_zret hF hR rfl (dck_at tX4_readNumber 18 rfl)
  · replace h := ite_f hc20 h
    refine g_iload hF (dck_at tX4_readNumber 11 rfl) rfl ?_
    refine g_aload_n hF (dck_at tX4_readNumber 12 rfl) rfl ?_
    refine gf_X4_44 hF (hS 9 (by decide)) kdc_9 lnc_9 (dck_at tX4_readNumber 13 rfl) ?_
    refine g_isub hF (dck_at tX4_readNumber 14 rfl) ?_
    refine g_iconst (v := 2) hF (dck_at tX4_readNumber 15 rfl) (by decide) ?_
    refine g_icmp_le hF 36 (dck_at tX4_readNumber 16 rfl) (by decide) (fun hc31 => ?_) (fun hc31 => ?_)
    · replace h := ite_t hc31 h
      refine g_iconst (v := 0) hF (dck_at tX4_readNumber 19 rfl) (by decide) ?_
      refine g_istore (L' := [some (.ref 9), some (.int x1), some (.int x2), some (.int x3), some (.int q9), some (.int (0 : Int32)), none]) hF (dck_at tX4_readNumber 20 rfl) (Nat.le_of_ble_eq_true rfl) rfl ?_
      refine g_aload_n hF (dck_at tX4_readNumber 21 rfl) rfl ?_
      refine gf_X4_44 hF (hS 9 (by decide)) kdc_9 lnc_9 (dck_at tX4_readNumber 22 rfl) ?_
      refine g_istore (L' := [some (.ref 9), some (.int x1), some (.int x2), some (.int x3), some (.int q9), some (.int (0 : Int32)), some (.int (q1 9 6))]) hF (dck_at tX4_readNumber 23 rfl) (Nat.le_of_ble_eq_true rfl) rfl ?_
      obtain ⟨o45, e45, h⟩ := bd h
      refine g_X4_readNumber_L45 hS hF N _ _ _ _ _ N _ _ _ e45 ?_
      refine g_iload hF (dck_at tX4_readNumber 40 rfl) rfl ?_
      refine g_iload_n hF (dck_at tX4_readNumber 41 rfl) rfl ?_
      refine g_icmp_lt hF 88 (dck_at tX4_readNumber 42 rfl) (by decide) (fun hc79 => ?_) (fun hc79 => ?_)
      · replace h := ite_t hc79 h
        refine g_iconst (v := 0) hF (dck_at tX4_readNumber 46 rfl) (by decide) ?_
        cases h
        exact g_zret hF hR rfl (dck_at tX4_readNumber 47 rfl)
      · replace h := ite_f hc79 h
        refine g_iload hF (dck_at tX4_readNumber 43 rfl) rfl ?_
        refine g_iload_n hF (dck_at tX4_readNumber 44 rfl) rfl ?_
        refine g_icmp_le hF 90 (dck_at tX4_readNumber 45 rfl) (by decide) (fun hc85 => ?_) (fun hc85 => ?_)
        · replace h := ite_t hc85 h
          refine g_aload_n hF (dck_at tX4_readNumber 48 rfl) rfl ?_
          refine gf_X4_22 hF (hS 9 (by decide)) kdc_9 lnc_9 (dck_at tX4_readNumber 49 rfl) ?_
          refine g_iload_n hF (dck_at tX4_readNumber 50 rfl) rfl ?_
          refine g_iload hF (dck_at tX4_readNumber 51 rfl) rfl ?_
          obtain ⟨hg97, h⟩ := gd h
          refine g_is hF (hS 19 (by decide)) kdc_19 lnc_19 hg97 (dck_at tX4_readNumber 52 rfl) ?_
          refine g_aload_n hF (dck_at tX4_readNumber 53 rfl) rfl ?_
          show G X F 99 _ _ _
          refine g_iload hF (dck_at tX4_readNumber 54 rfl) rfl ?_
          refine pf_X4_44 hF (hS 9 (by decide)) kdc_9 lnc_9 (dck_at tX4_readNumber 55 rfl) ?_
          refine g_iconst (v := 1) hF (dck_at tX4_readNumber 56 rfl) (by decide) ?_
          cases h
          exact g_zret hF hR rfl (dck_at tX4_readNumber 57 rfl)
        · replace h := ite_f hc85 h
          refine g_iconst (v := 0) hF (dck_at tX4_readNumber 46 rfl) (by decide) ?_
          cases h
          exact g_zret hF hR rfl (dck_at tX4_readNumber 47 rfl)
    · replace h := ite_f hc31 h
      refine g_iconst (v := 0) hF (dck_at tX4_readNumber 17 rfl) (by decide) ?_
      cases h
      exact g_zret hF hR rfl (dck_at tX4_readNumber 18 rfl)

def tbX4_readClause : List (Nat × Instr × Nat) := [(0, .aload_n 0, 1), (1, .invokevirtual 54, 3), (4, .aload_n 0, 1), (5, .bipush 97, 2), (7, .bipush 122, 2), (9, .invokevirtual 57, 3), (12, .istore_n 1, 1), (13, .aload_n 0, 1), (14, .iload_n 1, 1), (15, .invokevirtual 61, 3), (18, .astore_n 2, 1), (19, .aload_n 2, 1), (20, .ifnull 17, 3), (23, .aload_n 0, 1), (24, .getfield 12, 3), (27, .aload_n 2, 1), (28, .getfield 65, 3), (31, .invokevirtual 68, 3), (34, .ifCond .ne 5, 3), (37, .iconst 0, 1), (38, .ireturn, 1), (39, .aload_n 0, 1), (40, .iload_n 1, 1), (41, .putfield 44, 3), (44, .iconst 0, 1), (45, .istore_n 3, 1), (46, .iload_n 3, 1), (47, .getstatic 72, 3), (50, .aload_n 2, 1), (51, .getfield 65, 3), (54, .iaload, 1), (55, .if_icmp .ge 41, 3), (58, .aload_n 2, 1), (59, .getfield 65, 3), (62, .iconst 3, 1), (63, .imul, 1), (64, .iload_n 3, 1), (65, .iadd, 1), (66, .istore 4, 2), (68, .aload_n 0, 1), (69, .iload_n 3, 1), (70, .getstatic 75, 3), (73, .iload 4, 2), (75, .iaload, 1), (76, .getstatic 78, 3), (79, .iload 4, 2), (81, .iaload, 1), (82, .invokevirtual 81, 3), (85, .ifCond .ne 5, 3), (88, .iconst 0, 1), (89, .ireturn, 1), (90, .iinc 3 1, 3), (93, .goto (-47), 3), (96, .aload_n 0, 1), (97, .getfield 12, 3), (100, .aload_n 2, 1), (101, .getfield 65, 3), (104, .aload_n 2, 1), (105, .getfield 85, 3), (108, .aload_n 0, 1), (109, .getfield 22, 3), (112, .invokevirtual 88, 3), (115, .iconst 1, 1), (116, .ireturn, 1)]
theorem tX4_readClause : dck cX4_readClause tbX4_readClause = true := by decide +kernel
def f_X4_readClause_L46 (N : Nat) (y2 : Nat) : Nat → Int32 → Mem → Option ((Int32 × Mem) ⊕ (Int32 × Mem))
  | 0, _, _ => none
  | n + 1, x3, M => if inb (cDeeds.getD y2 0) (tN 2) = true then (if (tV 2 (cDeeds.getD y2 0).toNatClampNeg) ≤ x3 then some (.inl (x3, M)) else if inb (((cDeeds.getD y2 0) * (3 : Int32)) + x3) (tN 3) = true then if inb (((cDeeds.getD y2 0) * (3 : Int32)) + x3) (tN 4) = true then (f_X4_readNumber N M x3 (tV 3 (((cDeeds.getD y2 0) * (3 : Int32)) + x3).toNatClampNeg) (tV 4 (((cDeeds.getD y2 0) * (3 : Int32)) + x3).toNatClampNeg)).bind fun q82 => (if q82.1 = 0 then some (.inr ((0 : Int32), q82.2)) else f_X4_readClause_L46 N y2 n (x3 + (1 : Int32)) q82.2) else none else none) else none
def f_X4_readClause (N : Nat) (M : Mem) : Option (Int32 × Mem) := (f_X4_skipBlanks N M).bind fun q1 => (f_X4_endOfRow N q1 (97 : Int32) (122 : Int32)).bind fun q9 => (f_X4_clauseUpTo N q1 q9).bind fun q15 => mq q15 (some ((0 : Int32), q1)) (fun c15 => (f_X5_hasRoomFor N q1 10 (cDeeds.getD c15 0)).bind fun q31 => (if q31 = 0 then some ((0 : Int32), q1) else bS (f_X4_readClause_L46 N c15 N (0 : Int32) (up2 q1 9 6 q9)) (fun o46 => (f_X5_carryOut N o46.2 10 (cDeeds.getD c15 0) (cKinds.getD c15 0) 19).bind fun q112 => some ((1 : Int32), q112))))
set_option maxHeartbeats 4000000 in
set_option maxRecDepth 100000 in
theorem g_X4_readClause_L46 {X : Cx} {F : Fx} (hS : SC X) (hF : FK X F cX4_readClause RX4 5 9) (N : Nat) (y2 : Nat) (hy2 : y2 < 13) : ∀ (n : Nat) (x3 : Int32) (M : Mem) (o : ((Int32 × Mem) ⊕ (Int32 × Mem))), f_X4_readClause_L46 N y2 n x3 M = some o → (∀ a, o = .inl a → G X F 96 [some (.ref 9), none, some (.ref (1000 + y2)), none, none] [] a.2) → (∀ b, o = .inr b → FR X F (some .boolean) (some (.int b.1)) b.2) → G X F 46 [some (.ref 9), none, some (.ref (1000 + y2)), some (.int x3), none] [] M := by
  intro n
  induction n with
  | zero =>
    intro x3 M o h K hRr
    cases h
  | succ n ih =>
    intro x3 M o h K hRr
    rw [f_X4_readClause_L46] at h
    refine g_iload_n hF (dck_at tX4_readClause 26 rfl) rfl ?_
    refine g_gettN (i := 2) hF (by decide) hF.2.2.2.2.2.2.1.2.2.2.2.1 (dck_at tX4_readClause 27 rfl) ?_
    refine g_aload_n hF (dck_at tX4_readClause 28 rfl) rfl ?_
    refine g_cdeed hF hy2 wf_X4_65 (dck_at tX4_readClause 29 rfl) ?_
    obtain ⟨hg54, h⟩ := gd h
    refine g_ti hF (by decide) (inb_in hg54) (dck_at tX4_readClause 30 rfl) ?_
    refine g_icmp_ge hF 96 (dck_at tX4_readClause 31 rfl) (by decide) (fun hc55 => ?_) (fun hc55 => ?_)
    · replace h := ite_t hc55 h
      refine g_msk [true, true, true, false, true] (L' := [some (.ref 9), none, some (.ref (1000 + y2)), none, none]) rfl ?_
      cases h
      exact K _ rfl
    · replace h := ite_f hc55 h
      refine g_aload_n hF (dck_at tX4_readClause 32 rfl) rfl ?_
      refine g_cdeed hF hy2 wf_X4_65 (dck_at tX4_readClause 33 rfl) ?_
      refine g_iconst (v := 3) hF (dck_at tX4_readClause 34 rfl) (by decide) ?_
      refine g_imul hF (dck_at tX4_readClause 35 rfl) ?_
      refine g_iload_n hF (dck_at tX4_readClause 36 rfl) rfl ?_
      refine g_iadd hF (dck_at tX4_readClause 37 rfl) ?_
      show G X F 66 _ _ _
      refine g_istore (L' := [some (.ref 9), none, some (.ref (1000 + y2)), some (.int x3), some (.int (((cDeeds.getD y2 0) * (3 : Int32)) + x3))]) hF (dck_at tX4_readClause 38 rfl) (Nat.le_of_ble_eq_true rfl) rfl ?_
      refine g_aload_n hF (dck_at tX4_readClause 39 rfl) rfl ?_
      refine g_iload_n hF (dck_at tX4_readClause 40 rfl) rfl ?_
      refine g_gettN (i := 3) hF (by decide) hF.2.2.2.2.2.2.1.2.2.2.2.2.1 (dck_at tX4_readClause 41 rfl) ?_
      refine g_iload hF (dck_at tX4_readClause 42 rfl) rfl ?_
      obtain ⟨hg75, h⟩ := gd h
      refine g_ti hF (by decide) (inb_in hg75) (dck_at tX4_readClause 43 rfl) ?_
      refine g_gettN (i := 4) hF (by decide) hF.2.2.2.2.2.2.1.2.2.2.2.2.2 (dck_at tX4_readClause 44 rfl) ?_
      show G X F 79 _ _ _
      refine g_iload hF (dck_at tX4_readClause 45 rfl) rfl ?_
      obtain ⟨hg81, h⟩ := gd h
      refine g_ti hF (by decide) (inb_in hg81) (dck_at tX4_readClause 46 rfl) ?_
      obtain ⟨q82, e82, h⟩ := bd h
      refine g_callV hF (as := [.int x3, .int (tV 3 (((cDeeds.getD y2 0) * (3 : Int32)) + x3).toNatClampNeg), .int (tV 4 (((cDeeds.getD y2 0) * (3 : Int32)) + x3).toNatClampNeg)]) (k := 9) rfl (by decide) wm_X4_81 wi_X4_readNumber we_X4_readNumber wc_X4_readNumber wn_X4 hyX4_readNumber (by decide) (hS 9 (by decide)) kdc_9 (c_X4_readNumber hF.2.2.2.2.2.2.2.1 hS e82) (by decide) rfl rfl rfl rfl (dck_at tX4_readClause 47 rfl) ?_
      show G X F 85 _ [.int q82.1] q82.2
      refine g_if_ne hF 90 (dck_at tX4_readClause 48 rfl) (by decide) (fun hc85 => ?_) (fun hc85 => ?_)
      · replace h := ite_f hc85 h
        refine g_iinc (v := 1) (L' := [some (.ref 9), none, some (.ref (1000 + y2)), some (.int (x3 + (1 : Int32))), some (.int (((cDeeds.getD y2 0) * (3 : Int32)) + x3))]) hF (dck_at tX4_readClause 51 rfl) rfl (by decide) rfl ?_
        refine g_goto hF 46 (dck_at tX4_readClause 52 rfl) (by decide) ?_
        refine g_msk [true, true, true, true, false] (L' := [some (.ref 9), none, some (.ref (1000 + y2)), some (.int (x3 + (1 : Int32))), none]) rfl ?_
        exact ih _ _ _ h K hRr
      · replace h := ite_t hc85 h
        refine g_iconst (v := 0) hF (dck_at tX4_readClause 49 rfl) (by decide) ?_
        cases h
        exact g_zret hF (hRr _ rfl) rfl (dck_at tX4_readClause 50 rfl)
set_option maxHeartbeats 4000000 in
set_option maxRecDepth 100000 in
theorem c_X4_readClause {X : Cx} {l : Launch} (hX : CxOk X) (hS : SC X) {N : Nat} {M : Mem} {r : Int32} {M' : Mem} (h : f_X4_readClause N M = some (r, M')) : Ctr X l yX4_readClause cX4_readClause 5 (some .boolean) 9 [.ref 9] M (some (.int r)) M' := by
  refine Ctr.ofG (L := [some (.ref 9), none, none, none, none]) hX (by decide) (Nat.le_of_ble_eq_true rfl) rfl (fun F hF hl hR => ?_)
  subst hl
  unfold f_X4_readClause at h
  refine g_aload_n hF (dck_at tX4_readClause 0 rfl) rfl ?_
  obtain ⟨q1, e1, h⟩ := bd h
  refine g_callV hF (as := []) (k := 9) rfl (by decide) wm_X4_54 wi_X4_skipBlanks we_X4_skipBlanks wc_X4_skipBlanks wn_X4 hyX4_skipBlanks (by decide) (hS 9 (by decide)) kdc_9 (c_X4_skipBlanks hF.2.2.2.2.2.2.2.1 hS e1) (by decide) rfl rfl rfl rfl (dck_at tX4_readClause 1 rfl) ?_
  show G X F 4 _ [] q1
  refine g_aload_n hF (dck_at tX4_readClause 2 rfl) rfl ?_
  refine g_bipush (v := 97) hF (dck_at tX4_readClause 3 rfl) (by decide) ?_
  refine g_bipush (v := 122) hF (dck_at tX4_readClause 4 rfl) (by decide) ?_
  obtain ⟨q9, e9, h⟩ := bd h
  refine g_callV hF (as := [.int (97 : Int32), .int (122 : Int32)]) (k := 9) rfl (by decide) wm_X4_57 wi_X4_endOfRow we_X4_endOfRow wc_X4_endOfRow wn_X4 hyX4_endOfRow (by decide) (hS 9 (by decide)) kdc_9 (c_X4_endOfRow hF.2.2.2.2.2.2.2.1 hS e9) (by decide) rfl rfl rfl rfl (dck_at tX4_readClause 5 rfl) ?_
  show G X F 12 _ [.int q9] q1
  show G X F 12 _ _ _
  refine g_istore_n (L' := [some (.ref 9), some (.int q9), none, none, none]) hF (dck_at tX4_readClause 6 rfl) (Nat.le_of_ble_eq_true rfl) rfl ?_
  refine g_aload_n hF (dck_at tX4_readClause 7 rfl) rfl ?_
  refine g_iload_n hF (dck_at tX4_readClause 8 rfl) rfl ?_
  obtain ⟨q15, e15, h⟩ := bd h
  refine g_callV hF (as := [.int q9]) (k := 9) rfl (by decide) wm_X4_61 wi_X4_clauseUpTo we_X4_clauseUpTo wc_X4_clauseUpTo wn_X4 hyX4_clauseUpTo (by decide) (hS 9 (by decide)) kdc_9 (c_X4_clauseUpTo hF.2.2.2.2.2.2.2.1 hS e15) (by decide) rfl rfl rfl rfl (dck_at tX4_readClause 9 rfl) ?_
  have h0 := mq_s h
  clear h
  rcases h0 with ⟨hq15, h⟩ | ⟨c15, hq15, hc15, h⟩
  · subst hq15
    show G X F 18 _ (.null :: _) _
    refine g_astore_nN (L' := [some (.ref 9), some (.int q9), some (.null), none, none]) hF (dck_at tX4_readClause 10 rfl) (Nat.le_of_ble_eq_true rfl) rfl ?_
    refine g_aload_nN hF (dck_at tX4_readClause 11 rfl) rfl ?_
    refine g_ifnullN hF 37 (dck_at tX4_readClause 12 rfl) (by decide) ?_
    refine g_iconst (v := 0) hF (dck_at tX4_readClause 19 rfl) (by decide) ?_
    cases h
    exact g_zret hF hR rfl (dck_at tX4_readClause 20 rfl)
  · subst hq15
    show G X F 18 _ (.ref (1000 + c15) :: _) _
    refine g_astore_n (L' := [some (.ref 9), some (.int q9), some (.ref (1000 + c15)), none, none]) hF (dck_at tX4_readClause 10 rfl) (Nat.le_of_ble_eq_true rfl) rfl ?_
    refine g_aload_n hF (dck_at tX4_readClause 11 rfl) rfl ?_
    refine g_ifnull hF (dck_at tX4_readClause 12 rfl) ?_
    refine g_aload_n hF (dck_at tX4_readClause 13 rfl) rfl ?_
    refine gf_X4_12 hF (hS 9 (by decide)) kdc_9 lnc_9 (dck_at tX4_readClause 14 rfl) ?_
    refine g_aload_n hF (dck_at tX4_readClause 15 rfl) rfl ?_
    refine g_cdeed hF hc15 wf_X4_65 (dck_at tX4_readClause 16 rfl) ?_
    obtain ⟨q31, e31, h⟩ := bd h
    refine g_callV hF (as := [.int (cDeeds.getD c15 0)]) (k := 10) rfl (by decide) wm_X4_68 wi_X5_hasRoomFor we_X5_hasRoomFor wc_X5_hasRoomFor wn_X5 hyX5_hasRoomFor (by decide) (hS 10 (by decide)) kdc_10 (c_X5_hasRoomFor hF.2.2.2.2.2.2.2.1 hS tdc_10 e31) (by decide) rfl rfl rfl rfl (dck_at tX4_readClause 17 rfl) ?_
    show G X F 34 _ [.int q31] q1
    refine g_if_ne hF 39 (dck_at tX4_readClause 18 rfl) (by decide) (fun hc34 => ?_) (fun hc34 => ?_)
    · replace h := ite_f hc34 h
      refine g_aload_n hF (dck_at tX4_readClause 21 rfl) rfl ?_
      refine g_iload_n hF (dck_at tX4_readClause 22 rfl) rfl ?_
      refine pf_X4_44 hF (hS 9 (by decide)) kdc_9 lnc_9 (dck_at tX4_readClause 23 rfl) ?_
      refine g_iconst (v := 0) hF (dck_at tX4_readClause 24 rfl) (by decide) ?_
      refine g_istore_n (L' := [some (.ref 9), some (.int q9), some (.ref (1000 + c15)), some (.int (0 : Int32)), none]) hF (dck_at tX4_readClause 25 rfl) (Nat.le_of_ble_eq_true rfl) rfl ?_
      refine g_msk [true, false, true, true, true] (L' := [some (.ref 9), none, some (.ref (1000 + c15)), some (.int (0 : Int32)), none]) rfl ?_
      obtain ⟨v46, e46, h⟩ := bS_s h
      refine g_X4_readClause_L46 hS hF N _ hc15 N _ _ _ e46 (fun o46 ea => ?_) (fun b eb => ?_)
      · replace h := h.1 o46 ea
        refine g_aload_n hF (dck_at tX4_readClause 53 rfl) rfl ?_
        refine gf_X4_12 hF (hS 9 (by decide)) kdc_9 lnc_9 (dck_at tX4_readClause 54 rfl) ?_
        refine g_aload_n hF (dck_at tX4_readClause 55 rfl) rfl ?_
        refine g_cdeed hF hc15 wf_X4_65 (dck_at tX4_readClause 56 rfl) ?_
        refine g_aload_n hF (dck_at tX4_readClause 57 rfl) rfl ?_
        refine g_ckind hF hc15 wf_X4_85 (dck_at tX4_readClause 58 rfl) ?_
        show G X F 108 _ _ _
        refine g_aload_n hF (dck_at tX4_readClause 59 rfl) rfl ?_
        refine gf_X4_22 hF (hS 9 (by decide)) kdc_9 lnc_9 (dck_at tX4_readClause 60 rfl) ?_
        obtain ⟨q112, e112, h⟩ := bd h
        refine g_callV hF (as := [.int (cDeeds.getD c15 0), .int (cKinds.getD c15 0), .ref 19]) (k := 10) rfl (by decide) wm_X4_88 wi_X5_carryOut we_X5_carryOut wc_X5_carryOut wn_X5 hyX5_carryOut (by decide) (hS 10 (by decide)) kdc_10 (c_X5_carryOut hF.2.2.2.2.2.2.2.1 hS tdc_10 ⟨kdc_19, lnc_19, by decide⟩ e112) (by decide) rfl rfl rfl rfl (dck_at tX4_readClause 61 rfl) ?_
        show G X F 115 _ [] q112
        refine g_iconst (v := 1) hF (dck_at tX4_readClause 62 rfl) (by decide) ?_
        cases h
        exact g_zret hF hR rfl (dck_at tX4_readClause 63 rfl)
      · have eb2 := h.2 b eb
        subst eb2
        exact hR
    · replace h := ite_t hc34 h
      refine g_iconst (v := 0) hF (dck_at tX4_readClause 19 rfl) (by decide) ?_
      cases h
      exact g_zret hF hR rfl (dck_at tX4_readClause 20 rfl)

def tbX4_findFault : List (Nat × Instr × Nat) := [(0, .aload_n 0, 1), (1, .getfield 12, 3), (4, .aload_n 1, 1), (5, .invokevirtual 40, 3), (8, .aload_n 0, 1), (9, .iconst 0, 1), (10, .putfield 44, 3), (13, .aload_n 0, 1), (14, .iconst 0, 1), (15, .putfield 47, 3), (18, .aload_n 0, 1), (19, .getfield 47, 3), (22, .bipush 14, 2), (24, .if_icmp .ge 83, 3), (27, .aload_n 0, 1), (28, .invokevirtual 50, 3), (31, .ifCond .ne 8, 3), (34, .aload_n 0, 1), (35, .getfield 44, 3), (38, .ireturn, 1), (39, .aload_n 0, 1), (40, .dup, 1), (41, .getfield 47, 3), (44, .iconst 1, 1), (45, .iadd, 1), (46, .putfield 47, 3), (49, .aload_n 0, 1), (50, .invokevirtual 54, 3), (53, .aload_n 0, 1), (54, .getfield 44, 3), (57, .aload_n 0, 1), (58, .getfield 36, 3), (61, .if_icmp .lt 5, 3), (64, .iconst (-1), 1), (65, .ireturn, 1), (66, .aload_n 0, 1), (67, .getfield 18, 3), (70, .aload_n 0, 1), (71, .getfield 44, 3), (74, .caload, 1), (75, .bipush 59, 2), (77, .if_icmp .ne 12, 3), (80, .aload_n 0, 1), (81, .getfield 47, 3), (84, .bipush 14, 2), (86, .if_icmp .ne 8, 3), (89, .aload_n 0, 1), (90, .getfield 44, 3), (93, .ireturn, 1), (94, .aload_n 0, 1), (95, .dup, 1), (96, .getfield 44, 3), (99, .iconst 1, 1), (100, .iadd, 1), (101, .putfield 44, 3), (104, .goto (-86), 3), (107, .aload_n 0, 1), (108, .getfield 44, 3), (111, .ireturn, 1)]
theorem tX4_findFault : dck cX4_findFault tbX4_findFault = true := by decide +kernel
def f_X4_findFault_L18 (N : Nat) : Nat → Mem → Option ((Mem) ⊕ (Int32 × Mem))
  | 0, _ => none
  | n + 1, M => (if (14 : Int32) ≤ (M 9 2) then some (.inl M) else (f_X4_readClause N M).bind fun q28 => (if q28.1 = 0 then some (.inr (q28.2 9 6, q28.2)) else (f_X4_skipBlanks N (up2 q28.2 9 2 ((q28.2 9 2) + (1 : Int32)))).bind fun q50 => (if (q50 9 6) < (q50 9 1) then if inb (q50 9 6) 160 = true then (if (q50 18 (q50 9 6).toNatClampNeg) = (59 : Int32) then (if (q50 9 2) = (14 : Int32) then some (.inr (q50 9 6, q50)) else f_X4_findFault_L18 N n (up2 q50 9 6 ((q50 9 6) + (1 : Int32)))) else some (.inr (q50 9 6, q50))) else none else some (.inr ((-1 : Int32), q50)))))
def f_X4_findFault (N : Nat) (M : Mem) (k1 : Nat) : Option (Int32 × Mem) := (f_X5_copyFrom N M 10 k1).bind fun q5 => bS (f_X4_findFault_L18 N N (up2 (up2 q5 9 6 (0 : Int32)) 9 2 (0 : Int32))) (fun o18 => some (o18 9 6, o18))
set_option maxHeartbeats 4000000 in
set_option maxRecDepth 100000 in
theorem g_X4_findFault_L18 {X : Cx} {F : Fx} (hS : SC X) (hF : FK X F cX4_findFault RX4 2 10) (N : Nat) : ∀ (n : Nat) (M : Mem) (o : ((Mem) ⊕ (Int32 × Mem))), f_X4_findFault_L18 N n M = some o → (∀ a, o = .inl a → G X F 107 [some (.ref 9), none] [] a) → (∀ b, o = .inr b → FR X F (some .int) (some (.int b.1)) b.2) → G X F 18 [some (.ref 9), none] [] M := by
  intro n
  induction n with
  | zero =>
    intro M o h K hRr
    cases h
  | succ n ih =>
    intro M o h K hRr
    rw [f_X4_findFault_L18] at h
    refine g_aload_n hF (dck_at tX4_findFault 10 rfl) rfl ?_
    refine gf_X4_47 hF (hS 9 (by decide)) kdc_9 lnc_9 (dck_at tX4_findFault 11 rfl) ?_
    refine g_bipush (v := 14) hF (dck_at tX4_findFault 12 rfl) (by decide) ?_
    refine g_icmp_ge hF 107 (dck_at tX4_findFault 13 rfl) (by decide) (fun hc24 => ?_) (fun hc24 => ?_)
    · replace h := ite_t hc24 h
      cases h
      exact K _ rfl
    · replace h := ite_f hc24 h
      refine g_aload_n hF (dck_at tX4_findFault 14 rfl) rfl ?_
      obtain ⟨q28, e28, h⟩ := bd h
      refine g_callV hF (as := []) (k := 9) rfl (by decide) wm_X4_50 wi_X4_readClause we_X4_readClause wc_X4_readClause wn_X4 hyX4_readClause (by decide) (hS 9 (by decide)) kdc_9 (c_X4_readClause hF.2.2.2.2.2.2.2.1 hS e28) (by decide) rfl rfl rfl rfl (dck_at tX4_findFault 15 rfl) ?_
      show G X F 31 _ [.int q28.1] q28.2
      refine g_if_ne hF 39 (dck_at tX4_findFault 16 rfl) (by decide) (fun hc31 => ?_) (fun hc31 => ?_)
      · replace h := ite_f hc31 h
        refine g_aload_n hF (dck_at tX4_findFault 20 rfl) rfl ?_
        refine g_dup hF (dck_at tX4_findFault 21 rfl) rfl ?_
        refine gf_X4_47 hF (hS 9 (by decide)) kdc_9 lnc_9 (dck_at tX4_findFault 22 rfl) ?_
        refine g_iconst (v := 1) hF (dck_at tX4_findFault 23 rfl) (by decide) ?_
        refine g_iadd hF (dck_at tX4_findFault 24 rfl) ?_
        refine pf_X4_47 hF (hS 9 (by decide)) kdc_9 lnc_9 (dck_at tX4_findFault 25 rfl) ?_
        show G X F 49 _ _ _
        refine g_aload_n hF (dck_at tX4_findFault 26 rfl) rfl ?_
        obtain ⟨q50, e50, h⟩ := bd h
        refine g_callV hF (as := []) (k := 9) rfl (by decide) wm_X4_54 wi_X4_skipBlanks we_X4_skipBlanks wc_X4_skipBlanks wn_X4 hyX4_skipBlanks (by decide) (hS 9 (by decide)) kdc_9 (c_X4_skipBlanks hF.2.2.2.2.2.2.2.1 hS e50) (by decide) rfl rfl rfl rfl (dck_at tX4_findFault 27 rfl) ?_
        show G X F 53 _ [] q50
        refine g_aload_n hF (dck_at tX4_findFault 28 rfl) rfl ?_
        refine gf_X4_44 hF (hS 9 (by decide)) kdc_9 lnc_9 (dck_at tX4_findFault 29 rfl) ?_
        refine g_aload_n hF (dck_at tX4_findFault 30 rfl) rfl ?_
        refine gf_X4_36 hF (hS 9 (by decide)) kdc_9 lnc_9 (dck_at tX4_findFault 31 rfl) ?_
        refine g_icmp_lt hF 66 (dck_at tX4_findFault 32 rfl) (by decide) (fun hc61 => ?_) (fun hc61 => ?_)
        · replace h := ite_t hc61 h
          refine g_aload_n hF (dck_at tX4_findFault 35 rfl) rfl ?_
          refine gf_X4_18 hF (hS 9 (by decide)) kdc_9 lnc_9 (dck_at tX4_findFault 36 rfl) ?_
          refine g_aload_n hF (dck_at tX4_findFault 37 rfl) rfl ?_
          refine gf_X4_44 hF (hS 9 (by decide)) kdc_9 lnc_9 (dck_at tX4_findFault 38 rfl) ?_
          obtain ⟨hg74, h⟩ := gd h
          refine g_ca hF (hS 18 (by decide)) kdc_18 lnc_18 hg74 (dck_at tX4_findFault 39 rfl) ?_
          refine g_bipush (v := 59) hF (dck_at tX4_findFault 40 rfl) (by decide) ?_
          show G X F 77 _ _ _
          refine g_icmp_ne hF 89 (dck_at tX4_findFault 41 rfl) (by decide) (fun hc77 => ?_) (fun hc77 => ?_)
          · replace h := ite_f hc77 h
            refine g_aload_n hF (dck_at tX4_findFault 46 rfl) rfl ?_
            refine gf_X4_44 hF (hS 9 (by decide)) kdc_9 lnc_9 (dck_at tX4_findFault 47 rfl) ?_
            cases h
            exact g_iret hF (hRr _ rfl) (dck_at tX4_findFault 48 rfl)
          · replace h := ite_t hc77 h
            refine g_aload_n hF (dck_at tX4_findFault 42 rfl) rfl ?_
            refine gf_X4_47 hF (hS 9 (by decide)) kdc_9 lnc_9 (dck_at tX4_findFault 43 rfl) ?_
            refine g_bipush (v := 14) hF (dck_at tX4_findFault 44 rfl) (by decide) ?_
            refine g_icmp_ne hF 94 (dck_at tX4_findFault 45 rfl) (by decide) (fun hc86 => ?_) (fun hc86 => ?_)
            · replace h := ite_f hc86 h
              refine g_aload_n hF (dck_at tX4_findFault 49 rfl) rfl ?_
              refine g_dup hF (dck_at tX4_findFault 50 rfl) rfl ?_
              refine gf_X4_44 hF (hS 9 (by decide)) kdc_9 lnc_9 (dck_at tX4_findFault 51 rfl) ?_
              refine g_iconst (v := 1) hF (dck_at tX4_findFault 52 rfl) (by decide) ?_
              refine g_iadd hF (dck_at tX4_findFault 53 rfl) ?_
              refine pf_X4_44 hF (hS 9 (by decide)) kdc_9 lnc_9 (dck_at tX4_findFault 54 rfl) ?_
              show G X F 104 _ _ _
              refine g_goto hF 18 (dck_at tX4_findFault 55 rfl) (by decide) ?_
              exact ih _ _ h K hRr
            · replace h := ite_t hc86 h
              refine g_aload_n hF (dck_at tX4_findFault 46 rfl) rfl ?_
              refine gf_X4_44 hF (hS 9 (by decide)) kdc_9 lnc_9 (dck_at tX4_findFault 47 rfl) ?_
              cases h
              exact g_iret hF (hRr _ rfl) (dck_at tX4_findFault 48 rfl)
        · replace h := ite_f hc61 h
          refine g_iconst (v := -1) hF (dck_at tX4_findFault 33 rfl) (by decide) ?_
          cases h
          exact g_iret hF (hRr _ rfl) (dck_at tX4_findFault 34 rfl)
      · replace h := ite_t hc31 h
        refine g_aload_n hF (dck_at tX4_findFault 17 rfl) rfl ?_
        refine gf_X4_44 hF (hS 9 (by decide)) kdc_9 lnc_9 (dck_at tX4_findFault 18 rfl) ?_
        cases h
        exact g_iret hF (hRr _ rfl) (dck_at tX4_findFault 19 rfl)
set_option maxHeartbeats 4000000 in
set_option maxRecDepth 100000 in
theorem c_X4_findFault {X : Cx} {l : Launch} (hX : CxOk X) (hS : SC X) {N : Nat} {M : Mem} {k1 : Nat} (hk1 : td k1) {r : Int32} {M' : Mem} (h : f_X4_findFault N M k1 = some (r, M')) : Ctr X l yX4_findFault cX4_findFault 2 (some .int) 10 [.ref 9, .ref k1] M (some (.int r)) M' := by
  refine Ctr.ofG (L := [some (.ref 9), some (.ref k1)]) hX (by decide) (Nat.le_of_ble_eq_true rfl) rfl (fun F hF hl hR => ?_)
  subst hl
  unfold f_X4_findFault at h
  refine g_aload_n hF (dck_at tX4_findFault 0 rfl) rfl ?_
  refine gf_X4_12 hF (hS 9 (by decide)) kdc_9 lnc_9 (dck_at tX4_findFault 1 rfl) ?_
  refine g_aload_n hF (dck_at tX4_findFault 2 rfl) rfl ?_
  obtain ⟨q5, e5, h⟩ := bd h
  refine g_callV hF (as := [.ref k1]) (k := 10) rfl (by decide) wm_X4_40 wi_X5_copyFrom we_X5_copyFrom wc_X5_copyFrom wn_X5 hyX5_copyFrom (by decide) (hS 10 (by decide)) kdc_10 (c_X5_copyFrom hF.2.2.2.2.2.2.2.1 hS tdc_10 hk1 e5) (by decide) rfl rfl rfl rfl (dck_at tX4_findFault 3 rfl) ?_
  show G X F 8 _ [] q5
  refine g_aload_n hF (dck_at tX4_findFault 4 rfl) rfl ?_
  refine g_iconst (v := 0) hF (dck_at tX4_findFault 5 rfl) (by decide) ?_
  show G X F 10 _ _ _
  refine pf_X4_44 hF (hS 9 (by decide)) kdc_9 lnc_9 (dck_at tX4_findFault 6 rfl) ?_
  refine g_aload_n hF (dck_at tX4_findFault 7 rfl) rfl ?_
  refine g_iconst (v := 0) hF (dck_at tX4_findFault 8 rfl) (by decide) ?_
  refine pf_X4_47 hF (hS 9 (by decide)) kdc_9 lnc_9 (dck_at tX4_findFault 9 rfl) ?_
  refine g_msk [true, false] (L' := [some (.ref 9), none]) rfl ?_
  obtain ⟨v18, e18, h⟩ := bS_s h
  refine g_X4_findFault_L18 hS hF N N _ _ e18 (fun o18 ea => ?_) (fun b eb => ?_)
  · replace h := h.1 o18 ea
    refine g_aload_n hF (dck_at tX4_findFault 56 rfl) rfl ?_
    refine gf_X4_44 hF (hS 9 (by decide)) kdc_9 lnc_9 (dck_at tX4_findFault 57 rfl) ?_
    cases h
    exact g_iret hF hR (dck_at tX4_findFault 58 rfl)
  · have eb2 := h.2 b eb
    subst eb2
    exact hR
