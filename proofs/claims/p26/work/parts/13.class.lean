def tbX6_write : List (Nat × Instr × Nat) := [(0, .iload_n 1, 1), (1, .ifCond .lt 10, 3), (4, .iload_n 1, 1), (5, .sipush 255, 3), (8, .if_icmp .le 6, 3), (11, .bipush (-3), 2), (13, .ireturn, 1), (14, .aload_n 0, 1), (15, .getfield 19, 3), (18, .iload_n 1, 1), (19, .invokevirtual 64, 3), (22, .ifCond .eq 13, 3), (25, .aload_n 0, 1), (26, .getfield 19, 3), (29, .getfield 68, 3), (32, .goto 5, 3), (35, .bipush (-5), 2), (37, .ireturn, 1)]
theorem tX6_write : dck cX6_write tbX6_write = true := by decide +kernel
def f_X6_write (N : Nat) (M : Mem) (x1 : Int32) : Option (Int32 × Mem) := (if x1 < 0 then some ((-3 : Int32), M) else (if x1 ≤ (255 : Int32) then (f_X4_append N M x1).bind fun q19 => (if q19.1 = 0 then some ((-5 : Int32), q19.2) else some (q19.2 9 1, q19.2)) else some ((-3 : Int32), M)))
set_option maxHeartbeats 4000000 in
set_option maxRecDepth 100000 in
theorem c_X6_write {X : Cx} {l : Launch} (hX : CxOk X) (hS : SC X) {N : Nat} {M : Mem} {x1 : Int32} {r : Int32} {M' : Mem} (h : f_X6_write N M x1 = some (r, M')) : Ctr X l yX6_write cX6_write 2 (some .int) 2 [.ref 0, .int x1] M (some (.int r)) M' := by
  refine Ctr.ofG (L := [some (.ref 0), some (.int x1)]) hX (by decide) (Nat.le_of_ble_eq_true rfl) rfl (fun F hF hl hR => ?_)
  subst hl
  unfold f_X6_write at h
  refine g_iload_n hF (dck_at tX6_write 0 rfl) rfl ?_
  refine g_if_lt hF 11 (dck_at tX6_write 1 rfl) (by decide) (fun hc1 => ?_) (fun hc1 => ?_)
  · replace h := ite_t hc1 h
    refine g_bipush (v := -3) hF (dck_at tX6_write 5 rfl) (by decide) ?_
    cases h
    exact g_iret hF hR (dck_at tX6_write 6 rfl)
  · replace h := ite_f hc1 h
    refine g_iload_n hF (dck_at tX6_write 2 rfl) rfl ?_
    refine g_sipush (v := 255) hF (dck_at tX6_write 3 rfl) (by decide) ?_
    refine g_icmp_le hF 14 (dck_at tX6_write 4 rfl) (by decide) (fun hc8 => ?_) (fun hc8 => ?_)
    · replace h := ite_t hc8 h
      refine g_aload_n hF (dck_at tX6_write 7 rfl) rfl ?_
      refine gf_X6_19 hF (hS 0 (by decide)) kdc_0 lnc_0 (dck_at tX6_write 8 rfl) ?_
      refine g_iload_n hF (dck_at tX6_write 9 rfl) rfl ?_
      obtain ⟨q19, e19, h⟩ := bd h
      refine g_callV hF (as := [.int x1]) (k := 9) rfl (by decide) wm_X6_64 wi_X4_append we_X4_append wc_X4_append wn_X4 hyX4_append (by decide) (hS 9 (by decide)) kdc_9 (c_X4_append hF.2.2.2.2.2.2.2.1 hS e19) (by decide) rfl rfl rfl rfl (dck_at tX6_write 10 rfl) ?_
      show G X F 22 _ [.int q19.1] q19.2
      refine g_if_eq hF 35 (dck_at tX6_write 11 rfl) (by decide) (fun hc22 => ?_) (fun hc22 => ?_)
      · replace h := ite_t hc22 h
        refine g_bipush (v := -5) hF (dck_at tX6_write 16 rfl) (by decide) ?_
        cases h
        exact g_iret hF hR (dck_at tX6_write 17 rfl)
      · replace h := ite_f hc22 h
        refine g_aload_n hF (dck_at tX6_write 12 rfl) rfl ?_
        refine gf_X6_19 hF (hS 0 (by decide)) kdc_0 lnc_0 (dck_at tX6_write 13 rfl) ?_
        refine gf_X6_68 hF (hS 9 (by decide)) kdc_9 lnc_9 (dck_at tX6_write 14 rfl) ?_
        refine g_goto hF 37 (dck_at tX6_write 15 rfl) (by decide) ?_
        cases h
        exact g_iret hF hR (dck_at tX6_write 17 rfl)
    · replace h := ite_f hc8 h
      refine g_bipush (v := -3) hF (dck_at tX6_write 5 rfl) (by decide) ?_
      cases h
      exact g_iret hF hR (dck_at tX6_write 6 rfl)

def tbX6_erase : List (Nat × Instr × Nat) := [(0, .aload_n 0, 1), (1, .getfield 19, 3), (4, .getfield 68, 3), (7, .istore_n 1, 1), (8, .aload_n 0, 1), (9, .getfield 19, 3), (12, .iconst 0, 1), (13, .putfield 68, 3), (16, .iload_n 1, 1), (17, .ireturn, 1)]
theorem tX6_erase : dck cX6_erase tbX6_erase = true := by decide +kernel
def f_X6_erase (N : Nat) (M : Mem) : Option (Int32 × Mem) := some (M 9 1, (up2 M 9 1 (0 : Int32)))
set_option maxHeartbeats 4000000 in
set_option maxRecDepth 100000 in
theorem c_X6_erase {X : Cx} {l : Launch} (hX : CxOk X) (hS : SC X) {N : Nat} {M : Mem} {r : Int32} {M' : Mem} (h : f_X6_erase N M = some (r, M')) : Ctr X l yX6_erase cX6_erase 2 (some .int) 1 [.ref 0] M (some (.int r)) M' := by
  refine Ctr.ofG (L := [some (.ref 0), none]) hX (by decide) (Nat.le_of_ble_eq_true rfl) rfl (fun F hF hl hR => ?_)
  subst hl
  unfold f_X6_erase at h
  refine g_aload_n hF (dck_at tX6_erase 0 rfl) rfl ?_
  refine gf_X6_19 hF (hS 0 (by decide)) kdc_0 lnc_0 (dck_at tX6_erase 1 rfl) ?_
  refine gf_X6_68 hF (hS 9 (by decide)) kdc_9 lnc_9 (dck_at tX6_erase 2 rfl) ?_
  refine g_istore_n (L' := [some (.ref 0), some (.int (M 9 1))]) hF (dck_at tX6_erase 3 rfl) (Nat.le_of_ble_eq_true rfl) rfl ?_
  refine g_aload_n hF (dck_at tX6_erase 4 rfl) rfl ?_
  refine gf_X6_19 hF (hS 0 (by decide)) kdc_0 lnc_0 (dck_at tX6_erase 5 rfl) ?_
  show G X F 12 _ _ _
  refine g_iconst (v := 0) hF (dck_at tX6_erase 6 rfl) (by decide) ?_
  refine pf_X6_68 hF (hS 9 (by decide)) kdc_9 lnc_9 (dck_at tX6_erase 7 rfl) ?_
  refine g_iload_n hF (dck_at tX6_erase 8 rfl) rfl ?_
  cases h
  exact g_iret hF hR (dck_at tX6_erase 9 rfl)

def tbX6_fault : List (Nat × Instr × Nat) := [(0, .aload_n 0, 1), (1, .getfield 19, 3), (4, .aload_n 0, 1), (5, .getfield 12, 3), (8, .invokevirtual 72, 3), (11, .ireturn, 1)]
theorem tX6_fault : dck cX6_fault tbX6_fault = true := by decide +kernel
def f_X6_fault (N : Nat) (M : Mem) : Option (Int32 × Mem) := (f_X4_findFault N M 1).bind fun q8 => some (q8.1, q8.2)
set_option maxHeartbeats 4000000 in
set_option maxRecDepth 100000 in
theorem c_X6_fault {X : Cx} {l : Launch} (hX : CxOk X) (hS : SC X) {N : Nat} {M : Mem} {r : Int32} {M' : Mem} (h : f_X6_fault N M = some (r, M')) : Ctr X l yX6_fault cX6_fault 1 (some .int) 11 [.ref 0] M (some (.int r)) M' := by
  refine Ctr.ofG (L := [some (.ref 0)]) hX (by decide) (Nat.le_of_ble_eq_true rfl) rfl (fun F hF hl hR => ?_)
  subst hl
  unfold f_X6_fault at h
  refine g_aload_n hF (dck_at tX6_fault 0 rfl) rfl ?_
  refine gf_X6_19 hF (hS 0 (by decide)) kdc_0 lnc_0 (dck_at tX6_fault 1 rfl) ?_
  refine g_aload_n hF (dck_at tX6_fault 2 rfl) rfl ?_
  refine gf_X6_12 hF (hS 0 (by decide)) kdc_0 lnc_0 (dck_at tX6_fault 3 rfl) ?_
  obtain ⟨q8, e8, h⟩ := bd h
  refine g_callV hF (as := [.ref 1]) (k := 9) rfl (by decide) wm_X6_72 wi_X4_findFault we_X4_findFault wc_X4_findFault wn_X4 hyX4_findFault (by decide) (hS 9 (by decide)) kdc_9 (c_X4_findFault hF.2.2.2.2.2.2.2.1 hS tdc_1 e8) (by decide) rfl rfl rfl rfl (dck_at tX6_fault 4 rfl) ?_
  show G X F 11 _ [.int q8.1] q8.2
  cases h
  exact g_iret hF hR (dck_at tX6_fault 5 rfl)

def tbX6_beginAnew : List (Nat × Instr × Nat) := [(0, .aload_n 0, 1), (1, .getfield 28, 3), (4, .invokevirtual 61, 3), (7, .aload_n 0, 1), (8, .iconst 0, 1), (9, .putfield 204, 3), (12, .aload_n 0, 1), (13, .getfield 45, 3), (16, .iconst 0, 1), (17, .putfield 177, 3), (20, .iconst 0, 1), (21, .istore_n 1, 1), (22, .iload_n 1, 1), (23, .iconst 2, 1), (24, .if_icmp .ge 16, 3), (27, .aload_n 0, 1), (28, .getfield 53, 3), (31, .iload_n 1, 1), (32, .iconst 0, 1), (33, .bastore, 1), (34, .iinc 1 1, 3), (37, .goto (-15), 3), (40, .return_, 1)]
theorem tX6_beginAnew : dck cX6_beginAnew tbX6_beginAnew = true := by decide +kernel
def f_X6_beginAnew_L22 (N : Nat) : Nat → Int32 → Mem → Option (Int32 × Mem)
  | 0, _, _ => none
  | n + 1, x1, M => (if (2 : Int32) ≤ x1 then some (x1, M) else if inb x1 2 = true then f_X6_beginAnew_L22 N n (x1 + (1 : Int32)) (up2 M 62 x1.toNatClampNeg (vp_nar .boolean (0 : Int32))) else none)
def f_X6_beginAnew (N : Nat) (M : Mem) : Option Mem := (f_X1_begin N M 21).bind fun q4 => (f_X6_beginAnew_L22 N N (0 : Int32) (up2 (up2 q4 0 9 (0 : Int32)) 43 0 (0 : Int32))).bind fun o22 => some o22.2
set_option maxHeartbeats 4000000 in
set_option maxRecDepth 100000 in
theorem g_X6_beginAnew_L22 {X : Cx} {F : Fx} (hS : SC X) (hF : FK X F cX6_beginAnew RX6 2 3) (N : Nat) : ∀ (n : Nat) (x1 : Int32) (M : Mem) (o : Int32 × Mem), f_X6_beginAnew_L22 N n x1 M = some o → G X F 40 [none, none] [] o.2 → G X F 22 [some (.ref 0), some (.int x1)] [] M := by
  intro n
  induction n with
  | zero =>
    intro x1 M o h K
    cases h
  | succ n ih =>
    intro x1 M o h K
    rw [f_X6_beginAnew_L22] at h
    refine g_iload_n hF (dck_at tX6_beginAnew 12 rfl) rfl ?_
    refine g_iconst (v := 2) hF (dck_at tX6_beginAnew 13 rfl) (by decide) ?_
    refine g_icmp_ge hF 40 (dck_at tX6_beginAnew 14 rfl) (by decide) (fun hc24 => ?_) (fun hc24 => ?_)
    · replace h := ite_t hc24 h
      refine g_msk [false, false] (L' := [none, none]) rfl ?_
      cases h
      exact K
    · replace h := ite_f hc24 h
      refine g_aload_n hF (dck_at tX6_beginAnew 15 rfl) rfl ?_
      refine gf_X6_53 hF (hS 0 (by decide)) kdc_0 lnc_0 (dck_at tX6_beginAnew 16 rfl) ?_
      refine g_iload_n hF (dck_at tX6_beginAnew 17 rfl) rfl ?_
      refine g_iconst (v := 0) hF (dck_at tX6_beginAnew 18 rfl) (by decide) ?_
      obtain ⟨hg33, h⟩ := gd h
      refine g_zs hF (hS 62 (by decide)) kdc_62 lnc_62 hg33 (dck_at tX6_beginAnew 19 rfl) ?_
      refine g_iinc (v := 1) (L' := [some (.ref 0), some (.int (x1 + (1 : Int32)))]) hF (dck_at tX6_beginAnew 20 rfl) rfl (by decide) rfl ?_
      show G X F 37 _ _ _
      refine g_goto hF 22 (dck_at tX6_beginAnew 21 rfl) (by decide) ?_
      exact ih _ _ _ h K
set_option maxHeartbeats 4000000 in
set_option maxRecDepth 100000 in
theorem c_X6_beginAnew {X : Cx} {l : Launch} (hX : CxOk X) (hS : SC X) {N : Nat} {M : Mem} {M' : Mem} (h : f_X6_beginAnew N M = some M') : Ctr X l yX6_beginAnew cX6_beginAnew 2 none 3 [.ref 0] M none M' := by
  refine Ctr.ofG (L := [some (.ref 0), none]) hX (by decide) (Nat.le_of_ble_eq_true rfl) rfl (fun F hF hl hR => ?_)
  subst hl
  unfold f_X6_beginAnew at h
  refine g_aload_n hF (dck_at tX6_beginAnew 0 rfl) rfl ?_
  refine gf_X6_28 hF (hS 0 (by decide)) kdc_0 lnc_0 (dck_at tX6_beginAnew 1 rfl) ?_
  obtain ⟨q4, e4, h⟩ := bd h
  refine g_callV hF (as := []) (k := 21) rfl (by decide) wm_X6_61 wi_X1_begin we_X1_begin wc_X1_begin wn_X1 hyX1_begin (by decide) (hS 21 (by decide)) kdc_21 (c_X1_begin hF.2.2.2.2.2.2.2.1 hS evc_21 e4) (by decide) rfl rfl rfl rfl (dck_at tX6_beginAnew 2 rfl) ?_
  show G X F 7 _ [] q4
  refine g_aload_n hF (dck_at tX6_beginAnew 3 rfl) rfl ?_
  refine g_iconst (v := 0) hF (dck_at tX6_beginAnew 4 rfl) (by decide) ?_
  refine pf_X6_204 hF (hS 0 (by decide)) kdc_0 lnc_0 (dck_at tX6_beginAnew 5 rfl) ?_
  show G X F 12 _ _ _
  refine g_aload_n hF (dck_at tX6_beginAnew 6 rfl) rfl ?_
  refine gf_X6_45 hF (hS 0 (by decide)) kdc_0 lnc_0 (dck_at tX6_beginAnew 7 rfl) ?_
  refine g_iconst (v := 0) hF (dck_at tX6_beginAnew 8 rfl) (by decide) ?_
  refine pf_X6_177 hF (hS 43 (by decide)) kdc_43 lnc_43 (dck_at tX6_beginAnew 9 rfl) ?_
  refine g_iconst (v := 0) hF (dck_at tX6_beginAnew 10 rfl) (by decide) ?_
  refine g_istore_n (L' := [some (.ref 0), some (.int (0 : Int32))]) hF (dck_at tX6_beginAnew 11 rfl) (Nat.le_of_ble_eq_true rfl) rfl ?_
  obtain ⟨o22, e22, h⟩ := bd h
  refine g_X6_beginAnew_L22 hS hF N N _ _ _ e22 ?_
  cases h
  exact g_vret hF hR (dck_at tX6_beginAnew 22 rfl)

def tbX6_hall : List (Nat × Instr × Nat) := [(0, .aload_n 0, 1), (1, .getfield 19, 3), (4, .aload_n 0, 1), (5, .getfield 12, 3), (8, .invokevirtual 72, 3), (11, .iconst (-1), 1), (12, .if_icmp .eq 6, 3), (15, .bipush (-4), 2), (17, .ireturn, 1), (18, .aload_n 0, 1), (19, .getfield 12, 3), (22, .aload_n 0, 1), (23, .getfield 19, 3), (26, .getfield 76, 3), (29, .invokevirtual 79, 3), (32, .aload_n 0, 1), (33, .getfield 19, 3), (36, .iconst 0, 1), (37, .putfield 68, 3), (40, .aload_n 0, 1), (41, .invokevirtual 82, 3), (44, .aload_n 0, 1), (45, .getfield 19, 3), (48, .getfield 85, 3), (51, .ireturn, 1)]
theorem tX6_hall : dck cX6_hall tbX6_hall = true := by decide +kernel
def f_X6_hall (N : Nat) (M : Mem) : Option (Int32 × Mem) := (f_X4_findFault N M 1).bind fun q8 => (if q8.1 = (-1 : Int32) then (f_X5_copyFrom N q8.2 1 10).bind fun q29 => (f_X6_beginAnew N (up2 q29 9 1 (0 : Int32))).bind fun q41 => some (q41 9 2, q41) else some ((-4 : Int32), q8.2))
set_option maxHeartbeats 4000000 in
set_option maxRecDepth 100000 in
theorem c_X6_hall {X : Cx} {l : Launch} (hX : CxOk X) (hS : SC X) {N : Nat} {M : Mem} {r : Int32} {M' : Mem} (h : f_X6_hall N M = some (r, M')) : Ctr X l yX6_hall cX6_hall 1 (some .int) 11 [.ref 0] M (some (.int r)) M' := by
  refine Ctr.ofG (L := [some (.ref 0)]) hX (by decide) (Nat.le_of_ble_eq_true rfl) rfl (fun F hF hl hR => ?_)
  subst hl
  unfold f_X6_hall at h
  refine g_aload_n hF (dck_at tX6_hall 0 rfl) rfl ?_
  refine gf_X6_19 hF (hS 0 (by decide)) kdc_0 lnc_0 (dck_at tX6_hall 1 rfl) ?_
  refine g_aload_n hF (dck_at tX6_hall 2 rfl) rfl ?_
  refine gf_X6_12 hF (hS 0 (by decide)) kdc_0 lnc_0 (dck_at tX6_hall 3 rfl) ?_
  obtain ⟨q8, e8, h⟩ := bd h
  refine g_callV hF (as := [.ref 1]) (k := 9) rfl (by decide) wm_X6_72 wi_X4_findFault we_X4_findFault wc_X4_findFault wn_X4 hyX4_findFault (by decide) (hS 9 (by decide)) kdc_9 (c_X4_findFault hF.2.2.2.2.2.2.2.1 hS tdc_1 e8) (by decide) rfl rfl rfl rfl (dck_at tX6_hall 4 rfl) ?_
  show G X F 11 _ [.int q8.1] q8.2
  refine g_iconst (v := -1) hF (dck_at tX6_hall 5 rfl) (by decide) ?_
  show G X F 12 _ _ _
  refine g_icmp_eq hF 18 (dck_at tX6_hall 6 rfl) (by decide) (fun hc12 => ?_) (fun hc12 => ?_)
  · replace h := ite_t hc12 h
    refine g_aload_n hF (dck_at tX6_hall 9 rfl) rfl ?_
    refine gf_X6_12 hF (hS 0 (by decide)) kdc_0 lnc_0 (dck_at tX6_hall 10 rfl) ?_
    refine g_aload_n hF (dck_at tX6_hall 11 rfl) rfl ?_
    refine gf_X6_19 hF (hS 0 (by decide)) kdc_0 lnc_0 (dck_at tX6_hall 12 rfl) ?_
    refine gf_X6_76 hF (hS 9 (by decide)) kdc_9 lnc_9 (dck_at tX6_hall 13 rfl) ?_
    obtain ⟨q29, e29, h⟩ := bd h
    refine g_callV hF (as := [.ref 10]) (k := 1) rfl (by decide) wm_X6_79 wi_X5_copyFrom we_X5_copyFrom wc_X5_copyFrom wn_X5 hyX5_copyFrom (by decide) (hS 1 (by decide)) kdc_1 (c_X5_copyFrom hF.2.2.2.2.2.2.2.1 hS tdc_1 tdc_10 e29) (by decide) rfl rfl rfl rfl (dck_at tX6_hall 14 rfl) ?_
    show G X F 32 _ [] q29
    show G X F 32 _ _ _
    refine g_aload_n hF (dck_at tX6_hall 15 rfl) rfl ?_
    refine gf_X6_19 hF (hS 0 (by decide)) kdc_0 lnc_0 (dck_at tX6_hall 16 rfl) ?_
    refine g_iconst (v := 0) hF (dck_at tX6_hall 17 rfl) (by decide) ?_
    refine pf_X6_68 hF (hS 9 (by decide)) kdc_9 lnc_9 (dck_at tX6_hall 18 rfl) ?_
    refine g_aload_n hF (dck_at tX6_hall 19 rfl) rfl ?_
    obtain ⟨q41, e41, h⟩ := bd h
    refine g_callV hF (as := []) (k := 0) rfl (by decide) wm_X6_82 wi_X6_beginAnew we_X6_beginAnew wc_X6_beginAnew wn_X6 hyX6_beginAnew (by decide) (hS 0 (by decide)) kdc_0 (c_X6_beginAnew hF.2.2.2.2.2.2.2.1 hS e41) (by decide) rfl rfl rfl rfl (dck_at tX6_hall 20 rfl) ?_
    show G X F 44 _ [] q41
    refine g_aload_n hF (dck_at tX6_hall 21 rfl) rfl ?_
    show G X F 45 _ _ _
    refine gf_X6_19 hF (hS 0 (by decide)) kdc_0 lnc_0 (dck_at tX6_hall 22 rfl) ?_
    refine gf_X6_85 hF (hS 9 (by decide)) kdc_9 lnc_9 (dck_at tX6_hall 23 rfl) ?_
    cases h
    exact g_iret hF hR (dck_at tX6_hall 24 rfl)
  · replace h := ite_f hc12 h
    refine g_bipush (v := -4) hF (dck_at tX6_hall 7 rfl) (by decide) ?_
    cases h
    exact g_iret hF hR (dck_at tX6_hall 8 rfl)

def tbX6_clapper : List (Nat × Instr × Nat) := [(0, .aload_n 0, 1), (1, .getfield 12, 3), (4, .iload_n 1, 1), (5, .invokevirtual 88, 3), (8, .ifCond .ne 6, 3), (11, .bipush (-2), 2), (13, .ireturn, 1), (14, .iload_n 2, 1), (15, .tableswitch 111 0 5 #[37, 47, 57, 67, 84, 101], 37), (52, .aload_n 0, 1), (53, .getfield 12, 3), (56, .getfield 91, 3), (59, .iload_n 1, 1), (60, .iaload, 1), (61, .ireturn, 1), (62, .aload_n 0, 1), (63, .getfield 28, 3), (66, .getfield 94, 3), (69, .iload_n 1, 1), (70, .iaload, 1), (71, .ireturn, 1), (72, .aload_n 0, 1), (73, .getfield 12, 3), (76, .getfield 97, 3), (79, .iload_n 1, 1), (80, .iaload, 1), (81, .ireturn, 1), (82, .aload_n 0, 1), (83, .getfield 28, 3), (86, .iload_n 1, 1), (87, .invokevirtual 100, 3), (90, .ifCond .eq 7, 3), (93, .iconst 1, 1), (94, .goto 4, 3), (97, .iconst 0, 1), (98, .ireturn, 1), (99, .aload_n 0, 1), (100, .getfield 28, 3), (103, .iload_n 1, 1), (104, .invokevirtual 103, 3), (107, .ifCond .eq 7, 3), (110, .iconst 1, 1), (111, .goto 4, 3), (114, .iconst 0, 1), (115, .ireturn, 1), (116, .aload_n 0, 1), (117, .getfield 12, 3), (120, .getfield 106, 3), (123, .iload_n 1, 1), (124, .iaload, 1), (125, .ireturn, 1), (126, .bipush (-3), 2), (128, .ireturn, 1)]
theorem tX6_clapper : dck cX6_clapper tbX6_clapper = true := by decide +kernel
def f_X6_clapper (N : Nat) (M : Mem) (x1 : Int32) (x2 : Int32) : Option Int32 := (f_X5_hasClapper N M 1 x1).bind fun q5 => (if q5 = 0 then some (-2 : Int32) else (if x2 = 0 then if inb x1 8 = true then some (M 2 x1.toNatClampNeg) else none else (if x2 = 1 then if inb x1 8 = true then some (M 22 x1.toNatClampNeg) else none else (if x2 = 2 then if inb x1 8 = true then some (M 4 x1.toNatClampNeg) else none else (if x2 = 3 then (f_X1_isThere N M 21 x1).bind fun q87 => (if q87 = 0 then some (0 : Int32) else some (1 : Int32)) else (if x2 = 4 then (f_X1_isClapping N M 21 x1).bind fun q104 => (if q104 = 0 then some (0 : Int32) else some (1 : Int32)) else (if x2 = 5 then if inb x1 8 = true then some (M 3 x1.toNatClampNeg) else none else some (-3 : Int32))))))))
set_option maxHeartbeats 4000000 in
set_option maxRecDepth 100000 in
theorem c_X6_clapper {X : Cx} {l : Launch} (hX : CxOk X) (hS : SC X) {N : Nat} {M : Mem} {x1 : Int32} {x2 : Int32} {r : Int32} (h : f_X6_clapper N M x1 x2 = some r) : Ctr X l yX6_clapper cX6_clapper 3 (some .int) 2 [.ref 0, .int x1, .int x2] M (some (.int r)) M := by
  refine Ctr.ofG (L := [some (.ref 0), some (.int x1), some (.int x2)]) hX (by decide) (Nat.le_of_ble_eq_true rfl) rfl (fun F hF hl hR => ?_)
  subst hl
  unfold f_X6_clapper at h
  refine g_aload_n hF (dck_at tX6_clapper 0 rfl) rfl ?_
  refine gf_X6_12 hF (hS 0 (by decide)) kdc_0 lnc_0 (dck_at tX6_clapper 1 rfl) ?_
  refine g_iload_n hF (dck_at tX6_clapper 2 rfl) rfl ?_
  obtain ⟨q5, e5, h⟩ := bd h
  refine g_callV hF (as := [.int x1]) (k := 1) rfl (by decide) wm_X6_88 wi_X5_hasClapper we_X5_hasClapper wc_X5_hasClapper wn_X5 hyX5_hasClapper (by decide) (hS 1 (by decide)) kdc_1 (c_X5_hasClapper hF.2.2.2.2.2.2.2.1 hS tdc_1 e5) (by decide) rfl rfl rfl rfl (dck_at tX6_clapper 3 rfl) ?_
  show G X F 8 _ [.int q5] M
  refine g_if_ne hF 14 (dck_at tX6_clapper 4 rfl) (by decide) (fun hc8 => ?_) (fun hc8 => ?_)
  · replace h := ite_f hc8 h
    refine g_iload_n hF (dck_at tX6_clapper 7 rfl) rfl ?_
    by_cases hc15_0 : x2 = 0
    · replace h := ite_t hc15_0 h
      refine g_swIn hF 52 0 hc15_0 (dck_at tX6_clapper 8 rfl) (by decide) (by decide) rfl (by decide) ?_
      refine g_aload_n hF (dck_at tX6_clapper 9 rfl) rfl ?_
      refine gf_X6_12 hF (hS 0 (by decide)) kdc_0 lnc_0 (dck_at tX6_clapper 10 rfl) ?_
      refine gf_X6_91 hF (hS 1 (by decide)) kdc_1 lnc_1 (t := 2) rfl (dck_at tX6_clapper 11 rfl) ?_
      refine g_iload_n hF (dck_at tX6_clapper 12 rfl) rfl ?_
      obtain ⟨hg60, h⟩ := gd h
      refine g_ia hF (hS 2 (by decide)) kdc_2 lnc_2 hg60 (dck_at tX6_clapper 13 rfl) ?_
      cases h
      exact g_iret hF hR (dck_at tX6_clapper 14 rfl)
    replace h := ite_f hc15_0 h
    by_cases hc15_1 : x2 = 1
    · replace h := ite_t hc15_1 h
      refine g_swIn hF 62 1 hc15_1 (dck_at tX6_clapper 8 rfl) (by decide) (by decide) rfl (by decide) ?_
      refine g_aload_n hF (dck_at tX6_clapper 15 rfl) rfl ?_
      refine gf_X6_28 hF (hS 0 (by decide)) kdc_0 lnc_0 (dck_at tX6_clapper 16 rfl) ?_
      refine gf_X6_94 hF (hS 21 (by decide)) kdc_21 lnc_21 (t := 22) rfl (dck_at tX6_clapper 17 rfl) ?_
      refine g_iload_n hF (dck_at tX6_clapper 18 rfl) rfl ?_
      obtain ⟨hg70, h⟩ := gd h
      refine g_ia hF (hS 22 (by decide)) kdc_22 lnc_22 hg70 (dck_at tX6_clapper 19 rfl) ?_
      cases h
      exact g_iret hF hR (dck_at tX6_clapper 20 rfl)
    replace h := ite_f hc15_1 h
    by_cases hc15_2 : x2 = 2
    · replace h := ite_t hc15_2 h
      refine g_swIn hF 72 2 hc15_2 (dck_at tX6_clapper 8 rfl) (by decide) (by decide) rfl (by decide) ?_
      refine g_aload_n hF (dck_at tX6_clapper 21 rfl) rfl ?_
      refine gf_X6_12 hF (hS 0 (by decide)) kdc_0 lnc_0 (dck_at tX6_clapper 22 rfl) ?_
      refine gf_X6_97 hF (hS 1 (by decide)) kdc_1 lnc_1 (t := 4) rfl (dck_at tX6_clapper 23 rfl) ?_
      refine g_iload_n hF (dck_at tX6_clapper 24 rfl) rfl ?_
      obtain ⟨hg80, h⟩ := gd h
      refine g_ia hF (hS 4 (by decide)) kdc_4 lnc_4 hg80 (dck_at tX6_clapper 25 rfl) ?_
      cases h
      exact g_iret hF hR (dck_at tX6_clapper 26 rfl)
    replace h := ite_f hc15_2 h
    by_cases hc15_3 : x2 = 3
    · replace h := ite_t hc15_3 h
      refine g_swIn hF 82 3 hc15_3 (dck_at tX6_clapper 8 rfl) (by decide) (by decide) rfl (by decide) ?_
      refine g_aload_n hF (dck_at tX6_clapper 27 rfl) rfl ?_
      refine gf_X6_28 hF (hS 0 (by decide)) kdc_0 lnc_0 (dck_at tX6_clapper 28 rfl) ?_
      refine g_iload_n hF (dck_at tX6_clapper 29 rfl) rfl ?_
      obtain ⟨q87, e87, h⟩ := bd h
      refine g_callV hF (as := [.int x1]) (k := 21) rfl (by decide) wm_X6_100 wi_X1_isThere we_X1_isThere wc_X1_isThere wn_X1 hyX1_isThere (by decide) (hS 21 (by decide)) kdc_21 (c_X1_isThere hF.2.2.2.2.2.2.2.1 hS evc_21 e87) (by decide) rfl rfl rfl rfl (dck_at tX6_clapper 30 rfl) ?_
      show G X F 90 _ [.int q87] M
      refine g_if_eq hF 97 (dck_at tX6_clapper 31 rfl) (by decide) (fun hc90 => ?_) (fun hc90 => ?_)
      · replace h := ite_t hc90 h
        refine g_iconst (v := 0) hF (dck_at tX6_clapper 34 rfl) (by decide) ?_
        cases h
        exact g_iret hF hR (dck_at tX6_clapper 35 rfl)
      · replace h := ite_f hc90 h
        refine g_iconst (v := 1) hF (dck_at tX6_clapper 32 rfl) (by decide) ?_
        refine g_goto hF 98 (dck_at tX6_clapper 33 rfl) (by decide) ?_
        cases h
        exact g_iret hF hR (dck_at tX6_clapper 35 rfl)
    replace h := ite_f hc15_3 h
    by_cases hc15_4 : x2 = 4
    · replace h := ite_t hc15_4 h
      refine g_swIn hF 99 4 hc15_4 (dck_at tX6_clapper 8 rfl) (by decide) (by decide) rfl (by decide) ?_
      refine g_aload_n hF (dck_at tX6_clapper 36 rfl) rfl ?_
      refine gf_X6_28 hF (hS 0 (by decide)) kdc_0 lnc_0 (dck_at tX6_clapper 37 rfl) ?_
      refine g_iload_n hF (dck_at tX6_clapper 38 rfl) rfl ?_
      obtain ⟨q104, e104, h⟩ := bd h
      refine g_callV hF (as := [.int x1]) (k := 21) rfl (by decide) wm_X6_103 wi_X1_isClapping we_X1_isClapping wc_X1_isClapping wn_X1 hyX1_isClapping (by decide) (hS 21 (by decide)) kdc_21 (c_X1_isClapping hF.2.2.2.2.2.2.2.1 hS evc_21 e104) (by decide) rfl rfl rfl rfl (dck_at tX6_clapper 39 rfl) ?_
      show G X F 107 _ [.int q104] M
      refine g_if_eq hF 114 (dck_at tX6_clapper 40 rfl) (by decide) (fun hc107 => ?_) (fun hc107 => ?_)
      · replace h := ite_t hc107 h
        refine g_iconst (v := 0) hF (dck_at tX6_clapper 43 rfl) (by decide) ?_
        cases h
        exact g_iret hF hR (dck_at tX6_clapper 44 rfl)
      · replace h := ite_f hc107 h
        refine g_iconst (v := 1) hF (dck_at tX6_clapper 41 rfl) (by decide) ?_
        refine g_goto hF 115 (dck_at tX6_clapper 42 rfl) (by decide) ?_
        cases h
        exact g_iret hF hR (dck_at tX6_clapper 44 rfl)
    replace h := ite_f hc15_4 h
    by_cases hc15_5 : x2 = 5
    · replace h := ite_t hc15_5 h
      refine g_swIn hF 116 5 hc15_5 (dck_at tX6_clapper 8 rfl) (by decide) (by decide) rfl (by decide) ?_
      refine g_aload_n hF (dck_at tX6_clapper 45 rfl) rfl ?_
      refine gf_X6_12 hF (hS 0 (by decide)) kdc_0 lnc_0 (dck_at tX6_clapper 46 rfl) ?_
      refine gf_X6_106 hF (hS 1 (by decide)) kdc_1 lnc_1 (t := 3) rfl (dck_at tX6_clapper 47 rfl) ?_
      refine g_iload_n hF (dck_at tX6_clapper 48 rfl) rfl ?_
      obtain ⟨hg124, h⟩ := gd h
      refine g_ia hF (hS 3 (by decide)) kdc_3 lnc_3 hg124 (dck_at tX6_clapper 49 rfl) ?_
      cases h
      exact g_iret hF hR (dck_at tX6_clapper 50 rfl)
    replace h := ite_f hc15_5 h
    refine g_swOut hF 126 (dck_at tX6_clapper 8 rfl) (by have q0 := lv_neT hc15_0 (a := 0) rfl; have q1 := lv_neT hc15_1 (a := 1) rfl; have q2 := lv_neT hc15_2 (a := 2) rfl; have q3 := lv_neT hc15_3 (a := 3) rfl; have q4 := lv_neT hc15_4 (a := 4) rfl; have q5 := lv_neT hc15_5 (a := 5) rfl; omega) (by decide) ?_
    refine g_bipush (v := -3) hF (dck_at tX6_clapper 51 rfl) (by decide) ?_
    cases h
    exact g_iret hF hR (dck_at tX6_clapper 52 rfl)
  · replace h := ite_t hc8 h
    refine g_bipush (v := -2) hF (dck_at tX6_clapper 5 rfl) (by decide) ?_
    cases h
    exact g_iret hF hR (dck_at tX6_clapper 6 rfl)

def tbX6_encore : List (Nat × Instr × Nat) := [(0, .aload_n 0, 1), (1, .getfield 12, 3), (4, .iload_n 1, 1), (5, .invokevirtual 109, 3), (8, .ifCond .ne 6, 3), (11, .bipush (-2), 2), (13, .ireturn, 1), (14, .iload_n 2, 1), (15, .tableswitch 90 0 4 #[33, 43, 53, 63, 73], 33), (48, .aload_n 0, 1), (49, .getfield 12, 3), (52, .getfield 112, 3), (55, .iload_n 1, 1), (56, .iaload, 1), (57, .ireturn, 1), (58, .aload_n 0, 1), (59, .getfield 12, 3), (62, .getfield 115, 3), (65, .iload_n 1, 1), (66, .iaload, 1), (67, .ireturn, 1), (68, .aload_n 0, 1), (69, .getfield 12, 3), (72, .getfield 118, 3), (75, .iload_n 1, 1), (76, .iaload, 1), (77, .ireturn, 1), (78, .aload_n 0, 1), (79, .getfield 12, 3), (82, .getfield 121, 3), (85, .iload_n 1, 1), (86, .iaload, 1), (87, .ireturn, 1), (88, .aload_n 0, 1), (89, .getfield 28, 3), (92, .iload_n 1, 1), (93, .invokevirtual 124, 3), (96, .ifCond .eq 7, 3), (99, .iconst 1, 1), (100, .goto 4, 3), (103, .iconst 0, 1), (104, .ireturn, 1), (105, .bipush (-3), 2), (107, .ireturn, 1)]
theorem tX6_encore : dck cX6_encore tbX6_encore = true := by decide +kernel
def f_X6_encore (N : Nat) (M : Mem) (x1 : Int32) (x2 : Int32) : Option Int32 := (f_X5_hasEncore N M 1 x1).bind fun q5 => (if q5 = 0 then some (-2 : Int32) else (if x2 = 0 then if inb x1 4 = true then some (M 5 x1.toNatClampNeg) else none else (if x2 = 1 then if inb x1 4 = true then some (M 6 x1.toNatClampNeg) else none else (if x2 = 2 then if inb x1 4 = true then some (M 7 x1.toNatClampNeg) else none else (if x2 = 3 then if inb x1 4 = true then some (M 8 x1.toNatClampNeg) else none else (if x2 = 4 then (f_X1_wasPlayed N M 21 x1).bind fun q93 => (if q93 = 0 then some (0 : Int32) else some (1 : Int32)) else some (-3 : Int32)))))))
set_option maxHeartbeats 4000000 in
set_option maxRecDepth 100000 in
theorem c_X6_encore {X : Cx} {l : Launch} (hX : CxOk X) (hS : SC X) {N : Nat} {M : Mem} {x1 : Int32} {x2 : Int32} {r : Int32} (h : f_X6_encore N M x1 x2 = some r) : Ctr X l yX6_encore cX6_encore 3 (some .int) 2 [.ref 0, .int x1, .int x2] M (some (.int r)) M := by
  refine Ctr.ofG (L := [some (.ref 0), some (.int x1), some (.int x2)]) hX (by decide) (Nat.le_of_ble_eq_true rfl) rfl (fun F hF hl hR => ?_)
  subst hl
  unfold f_X6_encore at h
  refine g_aload_n hF (dck_at tX6_encore 0 rfl) rfl ?_
  refine gf_X6_12 hF (hS 0 (by decide)) kdc_0 lnc_0 (dck_at tX6_encore 1 rfl) ?_
  refine g_iload_n hF (dck_at tX6_encore 2 rfl) rfl ?_
  obtain ⟨q5, e5, h⟩ := bd h
  refine g_callV hF (as := [.int x1]) (k := 1) rfl (by decide) wm_X6_109 wi_X5_hasEncore we_X5_hasEncore wc_X5_hasEncore wn_X5 hyX5_hasEncore (by decide) (hS 1 (by decide)) kdc_1 (c_X5_hasEncore hF.2.2.2.2.2.2.2.1 hS tdc_1 e5) (by decide) rfl rfl rfl rfl (dck_at tX6_encore 3 rfl) ?_
  show G X F 8 _ [.int q5] M
  refine g_if_ne hF 14 (dck_at tX6_encore 4 rfl) (by decide) (fun hc8 => ?_) (fun hc8 => ?_)
  · replace h := ite_f hc8 h
    refine g_iload_n hF (dck_at tX6_encore 7 rfl) rfl ?_
    by_cases hc15_0 : x2 = 0
    · replace h := ite_t hc15_0 h
      refine g_swIn hF 48 0 hc15_0 (dck_at tX6_encore 8 rfl) (by decide) (by decide) rfl (by decide) ?_
      refine g_aload_n hF (dck_at tX6_encore 9 rfl) rfl ?_
      refine gf_X6_12 hF (hS 0 (by decide)) kdc_0 lnc_0 (dck_at tX6_encore 10 rfl) ?_
      refine gf_X6_112 hF (hS 1 (by decide)) kdc_1 lnc_1 (t := 5) rfl (dck_at tX6_encore 11 rfl) ?_
      refine g_iload_n hF (dck_at tX6_encore 12 rfl) rfl ?_
      obtain ⟨hg56, h⟩ := gd h
      refine g_ia hF (hS 5 (by decide)) kdc_5 lnc_5 hg56 (dck_at tX6_encore 13 rfl) ?_
      cases h
      exact g_iret hF hR (dck_at tX6_encore 14 rfl)
    replace h := ite_f hc15_0 h
    by_cases hc15_1 : x2 = 1
    · replace h := ite_t hc15_1 h
      refine g_swIn hF 58 1 hc15_1 (dck_at tX6_encore 8 rfl) (by decide) (by decide) rfl (by decide) ?_
      refine g_aload_n hF (dck_at tX6_encore 15 rfl) rfl ?_
      refine gf_X6_12 hF (hS 0 (by decide)) kdc_0 lnc_0 (dck_at tX6_encore 16 rfl) ?_
      refine gf_X6_115 hF (hS 1 (by decide)) kdc_1 lnc_1 (t := 6) rfl (dck_at tX6_encore 17 rfl) ?_
      refine g_iload_n hF (dck_at tX6_encore 18 rfl) rfl ?_
      obtain ⟨hg66, h⟩ := gd h
      refine g_ia hF (hS 6 (by decide)) kdc_6 lnc_6 hg66 (dck_at tX6_encore 19 rfl) ?_
      cases h
      exact g_iret hF hR (dck_at tX6_encore 20 rfl)
    replace h := ite_f hc15_1 h
    by_cases hc15_2 : x2 = 2
    · replace h := ite_t hc15_2 h
      refine g_swIn hF 68 2 hc15_2 (dck_at tX6_encore 8 rfl) (by decide) (by decide) rfl (by decide) ?_
      refine g_aload_n hF (dck_at tX6_encore 21 rfl) rfl ?_
      refine gf_X6_12 hF (hS 0 (by decide)) kdc_0 lnc_0 (dck_at tX6_encore 22 rfl) ?_
      refine gf_X6_118 hF (hS 1 (by decide)) kdc_1 lnc_1 (t := 7) rfl (dck_at tX6_encore 23 rfl) ?_
      refine g_iload_n hF (dck_at tX6_encore 24 rfl) rfl ?_
      obtain ⟨hg76, h⟩ := gd h
      refine g_ia hF (hS 7 (by decide)) kdc_7 lnc_7 hg76 (dck_at tX6_encore 25 rfl) ?_
      cases h
      exact g_iret hF hR (dck_at tX6_encore 26 rfl)
    replace h := ite_f hc15_2 h
    by_cases hc15_3 : x2 = 3
    · replace h := ite_t hc15_3 h
      refine g_swIn hF 78 3 hc15_3 (dck_at tX6_encore 8 rfl) (by decide) (by decide) rfl (by decide) ?_
      refine g_aload_n hF (dck_at tX6_encore 27 rfl) rfl ?_
      refine gf_X6_12 hF (hS 0 (by decide)) kdc_0 lnc_0 (dck_at tX6_encore 28 rfl) ?_
      refine gf_X6_121 hF (hS 1 (by decide)) kdc_1 lnc_1 (t := 8) rfl (dck_at tX6_encore 29 rfl) ?_
      refine g_iload_n hF (dck_at tX6_encore 30 rfl) rfl ?_
      obtain ⟨hg86, h⟩ := gd h
      refine g_ia hF (hS 8 (by decide)) kdc_8 lnc_8 hg86 (dck_at tX6_encore 31 rfl) ?_
      cases h
      exact g_iret hF hR (dck_at tX6_encore 32 rfl)
    replace h := ite_f hc15_3 h
    by_cases hc15_4 : x2 = 4
    · replace h := ite_t hc15_4 h
      refine g_swIn hF 88 4 hc15_4 (dck_at tX6_encore 8 rfl) (by decide) (by decide) rfl (by decide) ?_
      refine g_aload_n hF (dck_at tX6_encore 33 rfl) rfl ?_
      refine gf_X6_28 hF (hS 0 (by decide)) kdc_0 lnc_0 (dck_at tX6_encore 34 rfl) ?_
      refine g_iload_n hF (dck_at tX6_encore 35 rfl) rfl ?_
      obtain ⟨q93, e93, h⟩ := bd h
      refine g_callV hF (as := [.int x1]) (k := 21) rfl (by decide) wm_X6_124 wi_X1_wasPlayed we_X1_wasPlayed wc_X1_wasPlayed wn_X1 hyX1_wasPlayed (by decide) (hS 21 (by decide)) kdc_21 (c_X1_wasPlayed hF.2.2.2.2.2.2.2.1 hS evc_21 e93) (by decide) rfl rfl rfl rfl (dck_at tX6_encore 36 rfl) ?_
      show G X F 96 _ [.int q93] M
      refine g_if_eq hF 103 (dck_at tX6_encore 37 rfl) (by decide) (fun hc96 => ?_) (fun hc96 => ?_)
      · replace h := ite_t hc96 h
        refine g_iconst (v := 0) hF (dck_at tX6_encore 40 rfl) (by decide) ?_
        cases h
        exact g_iret hF hR (dck_at tX6_encore 41 rfl)
      · replace h := ite_f hc96 h
        refine g_iconst (v := 1) hF (dck_at tX6_encore 38 rfl) (by decide) ?_
        refine g_goto hF 104 (dck_at tX6_encore 39 rfl) (by decide) ?_
        cases h
        exact g_iret hF hR (dck_at tX6_encore 41 rfl)
    replace h := ite_f hc15_4 h
    refine g_swOut hF 105 (dck_at tX6_encore 8 rfl) (by have q0 := lv_neT hc15_0 (a := 0) rfl; have q1 := lv_neT hc15_1 (a := 1) rfl; have q2 := lv_neT hc15_2 (a := 2) rfl; have q3 := lv_neT hc15_3 (a := 3) rfl; have q4 := lv_neT hc15_4 (a := 4) rfl; omega) (by decide) ?_
    refine g_bipush (v := -3) hF (dck_at tX6_encore 42 rfl) (by decide) ?_
    cases h
    exact g_iret hF hR (dck_at tX6_encore 43 rfl)
  · replace h := ite_t hc8 h
    refine g_bipush (v := -2) hF (dck_at tX6_encore 5 rfl) (by decide) ?_
    cases h
    exact g_iret hF hR (dck_at tX6_encore 6 rfl)

def tbX6_as : List (Nat × Instr × Nat) := [(0, .aload_n 0, 1), (1, .getfield 12, 3), (4, .iload_n 1, 1), (5, .invokevirtual 88, 3), (8, .ifCond .ne 6, 3), (11, .bipush (-2), 2), (13, .ireturn, 1), (14, .iload_n 2, 1), (15, .ifCond .lt 8, 3), (18, .iload_n 2, 1), (19, .iconst 4, 1), (20, .if_icmp .le 6, 3), (23, .bipush (-3), 2), (25, .ireturn, 1), (26, .getstatic 127, 3), (29, .aload_n 0, 1), (30, .getfield 12, 3), (33, .getfield 91, 3), (36, .iload_n 1, 1), (37, .iaload, 1), (38, .iconst 1, 1), (39, .iadd, 1), (40, .iload_n 2, 1), (41, .invokestatic 130, 3), (44, .ifCond .ne 6, 3), (47, .bipush (-4), 2), (49, .ireturn, 1), (50, .aload_n 0, 1), (51, .getfield 28, 3), (54, .iload_n 1, 1), (55, .aload_n 0, 1), (56, .getfield 28, 3), (59, .invokevirtual 134, 3), (62, .invokevirtual 138, 3), (65, .ireturn, 1)]
theorem tX6_as : dck cX6_as tbX6_as = true := by decide +kernel
def f_X6_as (N : Nat) (M : Mem) (x1 : Int32) (x2 : Int32) : Option Int32 := (f_X5_hasClapper N M 1 x1).bind fun q5 => (if q5 = 0 then some (-2 : Int32) else (if x2 < 0 then some (-3 : Int32) else (if x2 ≤ (4 : Int32) then if inb x1 8 = true then (f_X6_isUnder N M 0 ((M 2 x1.toNatClampNeg) + (1 : Int32)) x2).bind fun q41 => (if q41 = 0 then some (-4 : Int32) else (f_X1_whoClaps N M 21).bind fun q59 => (f_X1_lessByWait N M 21 x1 q59).bind fun q62 => some q62) else none else some (-3 : Int32))))
set_option maxHeartbeats 4000000 in
set_option maxRecDepth 100000 in
theorem c_X6_as {X : Cx} {l : Launch} (hX : CxOk X) (hS : SC X) {N : Nat} {M : Mem} {x1 : Int32} {x2 : Int32} {r : Int32} (h : f_X6_as N M x1 x2 = some r) : Ctr X l yX6_as cX6_as 3 (some .int) 3 [.ref 0, .int x1, .int x2] M (some (.int r)) M := by
  refine Ctr.ofG (L := [some (.ref 0), some (.int x1), some (.int x2)]) hX (by decide) (Nat.le_of_ble_eq_true rfl) rfl (fun F hF hl hR => ?_)
  subst hl
  unfold f_X6_as at h
  refine g_aload_n hF (dck_at tX6_as 0 rfl) rfl ?_
  refine gf_X6_12 hF (hS 0 (by decide)) kdc_0 lnc_0 (dck_at tX6_as 1 rfl) ?_
  refine g_iload_n hF (dck_at tX6_as 2 rfl) rfl ?_
  obtain ⟨q5, e5, h⟩ := bd h
  refine g_callV hF (as := [.int x1]) (k := 1) rfl (by decide) wm_X6_88 wi_X5_hasClapper we_X5_hasClapper wc_X5_hasClapper wn_X5 hyX5_hasClapper (by decide) (hS 1 (by decide)) kdc_1 (c_X5_hasClapper hF.2.2.2.2.2.2.2.1 hS tdc_1 e5) (by decide) rfl rfl rfl rfl (dck_at tX6_as 3 rfl) ?_
  show G X F 8 _ [.int q5] M
  refine g_if_ne hF 14 (dck_at tX6_as 4 rfl) (by decide) (fun hc8 => ?_) (fun hc8 => ?_)
  · replace h := ite_f hc8 h
    refine g_iload_n hF (dck_at tX6_as 7 rfl) rfl ?_
    refine g_if_lt hF 23 (dck_at tX6_as 8 rfl) (by decide) (fun hc15 => ?_) (fun hc15 => ?_)
    · replace h := ite_t hc15 h
      refine g_bipush (v := -3) hF (dck_at tX6_as 12 rfl) (by decide) ?_
      cases h
      exact g_iret hF hR (dck_at tX6_as 13 rfl)
    · replace h := ite_f hc15 h
      refine g_iload_n hF (dck_at tX6_as 9 rfl) rfl ?_
      refine g_iconst (v := 4) hF (dck_at tX6_as 10 rfl) (by decide) ?_
      refine g_icmp_le hF 26 (dck_at tX6_as 11 rfl) (by decide) (fun hc20 => ?_) (fun hc20 => ?_)
      · replace h := ite_t hc20 h
        refine g_gett (i := 0) hF (by decide) wf_X6_127 (dck_at tX6_as 14 rfl) ?_
        refine g_aload_n hF (dck_at tX6_as 15 rfl) rfl ?_
        refine gf_X6_12 hF (hS 0 (by decide)) kdc_0 lnc_0 (dck_at tX6_as 16 rfl) ?_
        refine gf_X6_91 hF (hS 1 (by decide)) kdc_1 lnc_1 (t := 2) rfl (dck_at tX6_as 17 rfl) ?_
        refine g_iload_n hF (dck_at tX6_as 18 rfl) rfl ?_
        obtain ⟨hg37, h⟩ := gd h
        refine g_ia hF (hS 2 (by decide)) kdc_2 lnc_2 hg37 (dck_at tX6_as 19 rfl) ?_
        show G X F 38 _ _ _
        refine g_iconst (v := 1) hF (dck_at tX6_as 20 rfl) (by decide) ?_
        refine g_iadd hF (dck_at tX6_as 21 rfl) ?_
        refine g_iload_n hF (dck_at tX6_as 22 rfl) rfl ?_
        obtain ⟨q41, e41, h⟩ := bd h
        refine g_callS hF (as := [.ref (1060 + 0), .int ((M 2 x1.toNatClampNeg) + (1 : Int32)), .int x2]) wm_X6_130 wt_X6_isUnder wc_X6_isUnder wn_X6 hyX6_isUnder (by decide) (c_X6_isUnder hF.2.2.2.2.2.2.2.1 (by decide) e41) (by decide) rfl rfl rfl rfl (dck_at tX6_as 23 rfl) ?_
        show G X F 44 _ [.int q41] M
        refine g_if_ne hF 50 (dck_at tX6_as 24 rfl) (by decide) (fun hc44 => ?_) (fun hc44 => ?_)
        · replace h := ite_f hc44 h
          refine g_aload_n hF (dck_at tX6_as 27 rfl) rfl ?_
          refine gf_X6_28 hF (hS 0 (by decide)) kdc_0 lnc_0 (dck_at tX6_as 28 rfl) ?_
          refine g_iload_n hF (dck_at tX6_as 29 rfl) rfl ?_
          refine g_aload_n hF (dck_at tX6_as 30 rfl) rfl ?_
          refine gf_X6_28 hF (hS 0 (by decide)) kdc_0 lnc_0 (dck_at tX6_as 31 rfl) ?_
          obtain ⟨q59, e59, h⟩ := bd h
          refine g_callV hF (as := []) (k := 21) rfl (by decide) wm_X6_134 wi_X1_whoClaps we_X1_whoClaps wc_X1_whoClaps wn_X1 hyX1_whoClaps (by decide) (hS 21 (by decide)) kdc_21 (c_X1_whoClaps hF.2.2.2.2.2.2.2.1 hS evc_21 e59) (by decide) rfl rfl rfl rfl (dck_at tX6_as 32 rfl) ?_
          show G X F 62 _ [.int q59, .int x1, .ref 21] M
          show G X F 62 _ _ _
          obtain ⟨q62, e62, h⟩ := bd h
          refine g_callV hF (as := [.int x1, .int q59]) (k := 21) rfl (by decide) wm_X6_138 wi_X1_lessByWait we_X1_lessByWait wc_X1_lessByWait wn_X1 hyX1_lessByWait (by decide) (hS 21 (by decide)) kdc_21 (c_X1_lessByWait hF.2.2.2.2.2.2.2.1 hS evc_21 e62) (by decide) rfl rfl rfl rfl (dck_at tX6_as 33 rfl) ?_
          show G X F 65 _ [.int q62] M
          cases h
          exact g_iret hF hR (dck_at tX6_as 34 rfl)
        · replace h := ite_t hc44 h
          refine g_bipush (v := -4) hF (dck_at tX6_as 25 rfl) (by decide) ?_
          cases h
          exact g_iret hF hR (dck_at tX6_as 26 rfl)
      · replace h := ite_f hc20 h
        refine g_bipush (v := -3) hF (dck_at tX6_as 12 rfl) (by decide) ?_
        cases h
        exact g_iret hF hR (dck_at tX6_as 13 rfl)
  · replace h := ite_t hc8 h
    refine g_bipush (v := -2) hF (dck_at tX6_as 5 rfl) (by decide) ?_
    cases h
    exact g_iret hF hR (dck_at tX6_as 6 rfl)

def tbX6_encoreAs : List (Nat × Instr × Nat) := [(0, .aload_n 0, 1), (1, .getfield 12, 3), (4, .iload_n 1, 1), (5, .invokevirtual 109, 3), (8, .ifCond .ne 6, 3), (11, .bipush (-2), 2), (13, .ireturn, 1), (14, .iload_n 2, 1), (15, .ifCond .lt 8, 3), (18, .iload_n 2, 1), (19, .iconst 4, 1), (20, .if_icmp .le 6, 3), (23, .bipush (-3), 2), (25, .ireturn, 1), (26, .getstatic 142, 3), (29, .aload_n 0, 1), (30, .getfield 12, 3), (33, .getfield 112, 3), (36, .iload_n 1, 1), (37, .iaload, 1), (38, .iconst 1, 1), (39, .iadd, 1), (40, .iload_n 2, 1), (41, .invokestatic 130, 3), (44, .ifCond .ne 6, 3), (47, .bipush (-4), 2), (49, .ireturn, 1), (50, .aload_n 0, 1), (51, .getfield 12, 3), (54, .getfield 112, 3), (57, .iload_n 1, 1), (58, .iaload, 1), (59, .bipush 7, 2), (61, .bipush 9, 2), (63, .invokestatic 145, 3), (66, .ireturn, 1)]
theorem tX6_encoreAs : dck cX6_encoreAs tbX6_encoreAs = true := by decide +kernel
def f_X6_encoreAs (N : Nat) (M : Mem) (x1 : Int32) (x2 : Int32) : Option Int32 := (f_X5_hasEncore N M 1 x1).bind fun q5 => (if q5 = 0 then some (-2 : Int32) else (if x2 < 0 then some (-3 : Int32) else (if x2 ≤ (4 : Int32) then if inb x1 4 = true then (f_X6_isUnder N M 1 ((M 5 x1.toNatClampNeg) + (1 : Int32)) x2).bind fun q41 => (if q41 = 0 then some (-4 : Int32) else if inb x1 4 = true then (f_X6_zealBehind N M (M 5 x1.toNatClampNeg) (7 : Int32) (9 : Int32)).bind fun q63 => some q63 else none) else none else some (-3 : Int32))))
set_option maxHeartbeats 4000000 in
set_option maxRecDepth 100000 in
theorem c_X6_encoreAs {X : Cx} {l : Launch} (hX : CxOk X) (hS : SC X) {N : Nat} {M : Mem} {x1 : Int32} {x2 : Int32} {r : Int32} (h : f_X6_encoreAs N M x1 x2 = some r) : Ctr X l yX6_encoreAs cX6_encoreAs 3 (some .int) 3 [.ref 0, .int x1, .int x2] M (some (.int r)) M := by
  refine Ctr.ofG (L := [some (.ref 0), some (.int x1), some (.int x2)]) hX (by decide) (Nat.le_of_ble_eq_true rfl) rfl (fun F hF hl hR => ?_)
  subst hl
  unfold f_X6_encoreAs at h
  refine g_aload_n hF (dck_at tX6_encoreAs 0 rfl) rfl ?_
  refine gf_X6_12 hF (hS 0 (by decide)) kdc_0 lnc_0 (dck_at tX6_encoreAs 1 rfl) ?_
  refine g_iload_n hF (dck_at tX6_encoreAs 2 rfl) rfl ?_
  obtain ⟨q5, e5, h⟩ := bd h
  refine g_callV hF (as := [.int x1]) (k := 1) rfl (by decide) wm_X6_109 wi_X5_hasEncore we_X5_hasEncore wc_X5_hasEncore wn_X5 hyX5_hasEncore (by decide) (hS 1 (by decide)) kdc_1 (c_X5_hasEncore hF.2.2.2.2.2.2.2.1 hS tdc_1 e5) (by decide) rfl rfl rfl rfl (dck_at tX6_encoreAs 3 rfl) ?_
  show G X F 8 _ [.int q5] M
  refine g_if_ne hF 14 (dck_at tX6_encoreAs 4 rfl) (by decide) (fun hc8 => ?_) (fun hc8 => ?_)
  · replace h := ite_f hc8 h
    refine g_iload_n hF (dck_at tX6_encoreAs 7 rfl) rfl ?_
    refine g_if_lt hF 23 (dck_at tX6_encoreAs 8 rfl) (by decide) (fun hc15 => ?_) (fun hc15 => ?_)
    · replace h := ite_t hc15 h
      refine g_bipush (v := -3) hF (dck_at tX6_encoreAs 12 rfl) (by decide) ?_
      cases h
      exact g_iret hF hR (dck_at tX6_encoreAs 13 rfl)
    · replace h := ite_f hc15 h
      refine g_iload_n hF (dck_at tX6_encoreAs 9 rfl) rfl ?_
      refine g_iconst (v := 4) hF (dck_at tX6_encoreAs 10 rfl) (by decide) ?_
      refine g_icmp_le hF 26 (dck_at tX6_encoreAs 11 rfl) (by decide) (fun hc20 => ?_) (fun hc20 => ?_)
      · replace h := ite_t hc20 h
        refine g_gett (i := 1) hF (by decide) wf_X6_142 (dck_at tX6_encoreAs 14 rfl) ?_
        refine g_aload_n hF (dck_at tX6_encoreAs 15 rfl) rfl ?_
        refine gf_X6_12 hF (hS 0 (by decide)) kdc_0 lnc_0 (dck_at tX6_encoreAs 16 rfl) ?_
        refine gf_X6_112 hF (hS 1 (by decide)) kdc_1 lnc_1 (t := 5) rfl (dck_at tX6_encoreAs 17 rfl) ?_
        refine g_iload_n hF (dck_at tX6_encoreAs 18 rfl) rfl ?_
        obtain ⟨hg37, h⟩ := gd h
        refine g_ia hF (hS 5 (by decide)) kdc_5 lnc_5 hg37 (dck_at tX6_encoreAs 19 rfl) ?_
        show G X F 38 _ _ _
        refine g_iconst (v := 1) hF (dck_at tX6_encoreAs 20 rfl) (by decide) ?_
        refine g_iadd hF (dck_at tX6_encoreAs 21 rfl) ?_
        refine g_iload_n hF (dck_at tX6_encoreAs 22 rfl) rfl ?_
        obtain ⟨q41, e41, h⟩ := bd h
        refine g_callS hF (as := [.ref (1060 + 1), .int ((M 5 x1.toNatClampNeg) + (1 : Int32)), .int x2]) wm_X6_130 wt_X6_isUnder wc_X6_isUnder wn_X6 hyX6_isUnder (by decide) (c_X6_isUnder hF.2.2.2.2.2.2.2.1 (by decide) e41) (by decide) rfl rfl rfl rfl (dck_at tX6_encoreAs 23 rfl) ?_
        show G X F 44 _ [.int q41] M
        refine g_if_ne hF 50 (dck_at tX6_encoreAs 24 rfl) (by decide) (fun hc44 => ?_) (fun hc44 => ?_)
        · replace h := ite_f hc44 h
          refine g_aload_n hF (dck_at tX6_encoreAs 27 rfl) rfl ?_
          refine gf_X6_12 hF (hS 0 (by decide)) kdc_0 lnc_0 (dck_at tX6_encoreAs 28 rfl) ?_
          refine gf_X6_112 hF (hS 1 (by decide)) kdc_1 lnc_1 (t := 5) rfl (dck_at tX6_encoreAs 29 rfl) ?_
          refine g_iload_n hF (dck_at tX6_encoreAs 30 rfl) rfl ?_
          obtain ⟨hg58, h⟩ := gd h
          refine g_ia hF (hS 5 (by decide)) kdc_5 lnc_5 hg58 (dck_at tX6_encoreAs 31 rfl) ?_
          refine g_bipush (v := 7) hF (dck_at tX6_encoreAs 32 rfl) (by decide) ?_
          show G X F 61 _ _ _
          refine g_bipush (v := 9) hF (dck_at tX6_encoreAs 33 rfl) (by decide) ?_
          obtain ⟨q63, e63, h⟩ := bd h
          refine g_callS hF (as := [.int (M 5 x1.toNatClampNeg), .int (7 : Int32), .int (9 : Int32)]) wm_X6_145 wt_X6_zealBehind wc_X6_zealBehind wn_X6 hyX6_zealBehind (by decide) (c_X6_zealBehind hF.2.2.2.2.2.2.2.1 e63) (by decide) rfl rfl rfl rfl (dck_at tX6_encoreAs 34 rfl) ?_
          show G X F 66 _ [.int q63] M
          cases h
          exact g_iret hF hR (dck_at tX6_encoreAs 35 rfl)
        · replace h := ite_t hc44 h
          refine g_bipush (v := -4) hF (dck_at tX6_encoreAs 25 rfl) (by decide) ?_
          cases h
          exact g_iret hF hR (dck_at tX6_encoreAs 26 rfl)
      · replace h := ite_f hc20 h
        refine g_bipush (v := -3) hF (dck_at tX6_encoreAs 12 rfl) (by decide) ?_
        cases h
        exact g_iret hF hR (dck_at tX6_encoreAs 13 rfl)
  · replace h := ite_t hc8 h
    refine g_bipush (v := -2) hF (dck_at tX6_encoreAs 5 rfl) (by decide) ?_
    cases h
    exact g_iret hF hR (dck_at tX6_encoreAs 6 rfl)

def tbX6_refusalOf : List (Nat × Instr × Nat) := [(0, .iload_n 1, 1), (1, .ifCond .lt 8, 3), (4, .iload_n 1, 1), (5, .iconst 5, 1), (6, .if_icmp .le 6, 3), (9, .bipush (-3), 2), (11, .ireturn, 1), (12, .iload_n 1, 1), (13, .iconst 2, 1), (14, .if_icmp .lt 19, 3), (17, .aload_n 0, 1), (18, .getfield 12, 3), (21, .iload_n 1, 1), (22, .iconst 2, 1), (23, .isub, 1), (24, .invokevirtual 109, 3), (27, .ifCond .ne 6, 3), (30, .bipush (-2), 2), (32, .ireturn, 1), (33, .iconst 0, 1), (34, .ireturn, 1)]
theorem tX6_refusalOf : dck cX6_refusalOf tbX6_refusalOf = true := by decide +kernel
def f_X6_refusalOf (N : Nat) (M : Mem) (x1 : Int32) : Option Int32 := (if x1 < 0 then some (-3 : Int32) else (if x1 ≤ (5 : Int32) then (if x1 < (2 : Int32) then some (0 : Int32) else (f_X5_hasEncore N M 1 (x1 - (2 : Int32))).bind fun q24 => (if q24 = 0 then some (-2 : Int32) else some (0 : Int32))) else some (-3 : Int32)))
set_option maxHeartbeats 4000000 in
set_option maxRecDepth 100000 in
theorem c_X6_refusalOf {X : Cx} {l : Launch} (hX : CxOk X) (hS : SC X) {N : Nat} {M : Mem} {x1 : Int32} {r : Int32} (h : f_X6_refusalOf N M x1 = some r) : Ctr X l yX6_refusalOf cX6_refusalOf 2 (some .int) 2 [.ref 0, .int x1] M (some (.int r)) M := by
  refine Ctr.ofG (L := [some (.ref 0), some (.int x1)]) hX (by decide) (Nat.le_of_ble_eq_true rfl) rfl (fun F hF hl hR => ?_)
  subst hl
  unfold f_X6_refusalOf at h
  refine g_iload_n hF (dck_at tX6_refusalOf 0 rfl) rfl ?_
  refine g_if_lt hF 9 (dck_at tX6_refusalOf 1 rfl) (by decide) (fun hc1 => ?_) (fun hc1 => ?_)
  · replace h := ite_t hc1 h
    refine g_bipush (v := -3) hF (dck_at tX6_refusalOf 5 rfl) (by decide) ?_
    cases h
    exact g_iret hF hR (dck_at tX6_refusalOf 6 rfl)
  · replace h := ite_f hc1 h
    refine g_iload_n hF (dck_at tX6_refusalOf 2 rfl) rfl ?_
    refine g_iconst (v := 5) hF (dck_at tX6_refusalOf 3 rfl) (by decide) ?_
    refine g_icmp_le hF 12 (dck_at tX6_refusalOf 4 rfl) (by decide) (fun hc6 => ?_) (fun hc6 => ?_)
    · replace h := ite_t hc6 h
      refine g_iload_n hF (dck_at tX6_refusalOf 7 rfl) rfl ?_
      refine g_iconst (v := 2) hF (dck_at tX6_refusalOf 8 rfl) (by decide) ?_
      refine g_icmp_lt hF 33 (dck_at tX6_refusalOf 9 rfl) (by decide) (fun hc14 => ?_) (fun hc14 => ?_)
      · replace h := ite_t hc14 h
        refine g_iconst (v := 0) hF (dck_at tX6_refusalOf 19 rfl) (by decide) ?_
        cases h
        exact g_iret hF hR (dck_at tX6_refusalOf 20 rfl)
      · replace h := ite_f hc14 h
        refine g_aload_n hF (dck_at tX6_refusalOf 10 rfl) rfl ?_
        refine gf_X6_12 hF (hS 0 (by decide)) kdc_0 lnc_0 (dck_at tX6_refusalOf 11 rfl) ?_
        refine g_iload_n hF (dck_at tX6_refusalOf 12 rfl) rfl ?_
        refine g_iconst (v := 2) hF (dck_at tX6_refusalOf 13 rfl) (by decide) ?_
        refine g_isub hF (dck_at tX6_refusalOf 14 rfl) ?_
        obtain ⟨q24, e24, h⟩ := bd h
        refine g_callV hF (as := [.int (x1 - (2 : Int32))]) (k := 1) rfl (by decide) wm_X6_109 wi_X5_hasEncore we_X5_hasEncore wc_X5_hasEncore wn_X5 hyX5_hasEncore (by decide) (hS 1 (by decide)) kdc_1 (c_X5_hasEncore hF.2.2.2.2.2.2.2.1 hS tdc_1 e24) (by decide) rfl rfl rfl rfl (dck_at tX6_refusalOf 15 rfl) ?_
        show G X F 27 _ [.int q24] M
        show G X F 27 _ _ _
        refine g_if_ne hF 33 (dck_at tX6_refusalOf 16 rfl) (by decide) (fun hc27 => ?_) (fun hc27 => ?_)
        · replace h := ite_f hc27 h
          refine g_iconst (v := 0) hF (dck_at tX6_refusalOf 19 rfl) (by decide) ?_
          cases h
          exact g_iret hF hR (dck_at tX6_refusalOf 20 rfl)
        · replace h := ite_t hc27 h
          refine g_bipush (v := -2) hF (dck_at tX6_refusalOf 17 rfl) (by decide) ?_
          cases h
          exact g_iret hF hR (dck_at tX6_refusalOf 18 rfl)
    · replace h := ite_f hc6 h
      refine g_bipush (v := -3) hF (dck_at tX6_refusalOf 5 rfl) (by decide) ?_
      cases h
      exact g_iret hF hR (dck_at tX6_refusalOf 6 rfl)

def tbX6_can : List (Nat × Instr × Nat) := [(0, .aload_n 0, 1), (1, .iload_n 1, 1), (2, .invokevirtual 149, 3), (5, .istore_n 2, 1), (6, .iload_n 2, 1), (7, .ifCond .eq 5, 3), (10, .iload_n 2, 1), (11, .ireturn, 1), (12, .aload_n 0, 1), (13, .getfield 28, 3), (16, .iload_n 1, 1), (17, .invokevirtual 153, 3), (20, .ifCond .eq 7, 3), (23, .iconst 1, 1), (24, .goto 4, 3), (27, .iconst 0, 1), (28, .ireturn, 1)]
theorem tX6_can : dck cX6_can tbX6_can = true := by decide +kernel
def f_X6_can (N : Nat) (M : Mem) (x1 : Int32) : Option Int32 := (f_X6_refusalOf N M x1).bind fun q2 => (if q2 = 0 then (f_X1_isPossible N M 21 x1).bind fun q17 => (if q17 = 0 then some (0 : Int32) else some (1 : Int32)) else some q2)
set_option maxHeartbeats 4000000 in
set_option maxRecDepth 100000 in
theorem c_X6_can {X : Cx} {l : Launch} (hX : CxOk X) (hS : SC X) {N : Nat} {M : Mem} {x1 : Int32} {r : Int32} (h : f_X6_can N M x1 = some r) : Ctr X l yX6_can cX6_can 3 (some .int) 4 [.ref 0, .int x1] M (some (.int r)) M := by
  refine Ctr.ofG (L := [some (.ref 0), some (.int x1), none]) hX (by decide) (Nat.le_of_ble_eq_true rfl) rfl (fun F hF hl hR => ?_)
  subst hl
  unfold f_X6_can at h
  refine g_aload_n hF (dck_at tX6_can 0 rfl) rfl ?_
  refine g_iload_n hF (dck_at tX6_can 1 rfl) rfl ?_
  obtain ⟨q2, e2, h⟩ := bd h
  refine g_callV hF (as := [.int x1]) (k := 0) rfl (by decide) wm_X6_149 wi_X6_refusalOf we_X6_refusalOf wc_X6_refusalOf wn_X6 hyX6_refusalOf (by decide) (hS 0 (by decide)) kdc_0 (c_X6_refusalOf hF.2.2.2.2.2.2.2.1 hS e2) (by decide) rfl rfl rfl rfl (dck_at tX6_can 2 rfl) ?_
  show G X F 5 _ [.int q2] M
  refine g_istore_n (L' := [some (.ref 0), some (.int x1), some (.int q2)]) hF (dck_at tX6_can 3 rfl) (Nat.le_of_ble_eq_true rfl) rfl ?_
  refine g_iload_n hF (dck_at tX6_can 4 rfl) rfl ?_
  refine g_if_eq hF 12 (dck_at tX6_can 5 rfl) (by decide) (fun hc7 => ?_) (fun hc7 => ?_)
  · replace h := ite_t hc7 h
    refine g_aload_n hF (dck_at tX6_can 8 rfl) rfl ?_
    refine gf_X6_28 hF (hS 0 (by decide)) kdc_0 lnc_0 (dck_at tX6_can 9 rfl) ?_
    refine g_iload_n hF (dck_at tX6_can 10 rfl) rfl ?_
    obtain ⟨q17, e17, h⟩ := bd h
    refine g_callV hF (as := [.int x1]) (k := 21) rfl (by decide) wm_X6_153 wi_X1_isPossible we_X1_isPossible wc_X1_isPossible wn_X1 hyX1_isPossible (by decide) (hS 21 (by decide)) kdc_21 (c_X1_isPossible hF.2.2.2.2.2.2.2.1 hS evc_21 e17) (by decide) rfl rfl rfl rfl (dck_at tX6_can 11 rfl) ?_
    show G X F 20 _ [.int q17] M
    refine g_if_eq hF 27 (dck_at tX6_can 12 rfl) (by decide) (fun hc20 => ?_) (fun hc20 => ?_)
    · replace h := ite_t hc20 h
      refine g_iconst (v := 0) hF (dck_at tX6_can 15 rfl) (by decide) ?_
      cases h
      exact g_iret hF hR (dck_at tX6_can 16 rfl)
    · replace h := ite_f hc20 h
      refine g_iconst (v := 1) hF (dck_at tX6_can 13 rfl) (by decide) ?_
      refine g_goto hF 28 (dck_at tX6_can 14 rfl) (by decide) ?_
      cases h
      exact g_iret hF hR (dck_at tX6_can 16 rfl)
  · replace h := ite_f hc7 h
    refine g_iload_n hF (dck_at tX6_can 6 rfl) rfl ?_
    cases h
    exact g_iret hF hR (dck_at tX6_can 7 rfl)

def tbX6_does : List (Nat × Instr × Nat) := [(0, .aload_n 0, 1), (1, .iload_n 1, 1), (2, .invokevirtual 149, 3), (5, .istore_n 2, 1), (6, .iload_n 2, 1), (7, .ifCond .eq 5, 3), (10, .iload_n 2, 1), (11, .ireturn, 1), (12, .aload_n 0, 1), (13, .getfield 28, 3), (16, .iload_n 1, 1), (17, .invokevirtual 153, 3), (20, .ifCond .ne 6, 3), (23, .bipush (-4), 2), (25, .ireturn, 1), (26, .aload_n 0, 1), (27, .getfield 28, 3), (30, .getfield 156, 3), (33, .aload_n 0, 1), (34, .getfield 12, 3), (37, .iload_n 1, 1), (38, .invokevirtual 159, 3), (41, .iadd, 1), (42, .sipush 999, 3), (45, .if_icmp .le 6, 3), (48, .bipush (-5), 2), (50, .ireturn, 1), (51, .aload_n 0, 1), (52, .getfield 45, 3), (55, .aload_n 0, 1), (56, .getfield 28, 3), (59, .invokevirtual 162, 3), (62, .aload_n 0, 1), (63, .getfield 28, 3), (66, .iload_n 1, 1), (67, .invokevirtual 166, 3), (70, .aload_n 0, 1), (71, .getfield 28, 3), (74, .invokevirtual 170, 3), (77, .ireturn, 1)]
theorem tX6_does : dck cX6_does tbX6_does = true := by decide +kernel
def f_X6_does (N : Nat) (M : Mem) (x1 : Int32) : Option (Int32 × Mem) := (f_X6_refusalOf N M x1).bind fun q2 => (if q2 = 0 then (f_X1_isPossible N M 21 x1).bind fun q17 => (if q17 = 0 then some ((-4 : Int32), M) else (f_X5_minutesOf N M 1 x1).bind fun q38 => (if ((M 21 2) + q38) ≤ (999 : Int32) then (f_X2_remember N M 21).bind fun q59 => (f_X1_take N q59 21 x1).bind fun q67 => (f_X1_noise N q67 21).bind fun q74 => some (q74, q67) else some ((-5 : Int32), M))) else some (q2, M))
set_option maxHeartbeats 4000000 in
set_option maxRecDepth 100000 in
theorem c_X6_does {X : Cx} {l : Launch} (hX : CxOk X) (hS : SC X) {N : Nat} {M : Mem} {x1 : Int32} {r : Int32} {M' : Mem} (h : f_X6_does N M x1 = some (r, M')) : Ctr X l yX6_does cX6_does 3 (some .int) 5 [.ref 0, .int x1] M (some (.int r)) M' := by
  refine Ctr.ofG (L := [some (.ref 0), some (.int x1), none]) hX (by decide) (Nat.le_of_ble_eq_true rfl) rfl (fun F hF hl hR => ?_)
  subst hl
  unfold f_X6_does at h
  refine g_aload_n hF (dck_at tX6_does 0 rfl) rfl ?_
  refine g_iload_n hF (dck_at tX6_does 1 rfl) rfl ?_
  obtain ⟨q2, e2, h⟩ := bd h
  refine g_callV hF (as := [.int x1]) (k := 0) rfl (by decide) wm_X6_149 wi_X6_refusalOf we_X6_refusalOf wc_X6_refusalOf wn_X6 hyX6_refusalOf (by decide) (hS 0 (by decide)) kdc_0 (c_X6_refusalOf hF.2.2.2.2.2.2.2.1 hS e2) (by decide) rfl rfl rfl rfl (dck_at tX6_does 2 rfl) ?_
  show G X F 5 _ [.int q2] M
  refine g_istore_n (L' := [some (.ref 0), some (.int x1), some (.int q2)]) hF (dck_at tX6_does 3 rfl) (Nat.le_of_ble_eq_true rfl) rfl ?_
  refine g_iload_n hF (dck_at tX6_does 4 rfl) rfl ?_
  refine g_if_eq hF 12 (dck_at tX6_does 5 rfl) (by decide) (fun hc7 => ?_) (fun hc7 => ?_)
  · replace h := ite_t hc7 h
    refine g_aload_n hF (dck_at tX6_does 8 rfl) rfl ?_
    refine gf_X6_28 hF (hS 0 (by decide)) kdc_0 lnc_0 (dck_at tX6_does 9 rfl) ?_
    refine g_iload_n hF (dck_at tX6_does 10 rfl) rfl ?_
    obtain ⟨q17, e17, h⟩ := bd h
    refine g_callV hF (as := [.int x1]) (k := 21) rfl (by decide) wm_X6_153 wi_X1_isPossible we_X1_isPossible wc_X1_isPossible wn_X1 hyX1_isPossible (by decide) (hS 21 (by decide)) kdc_21 (c_X1_isPossible hF.2.2.2.2.2.2.2.1 hS evc_21 e17) (by decide) rfl rfl rfl rfl (dck_at tX6_does 11 rfl) ?_
    show G X F 20 _ [.int q17] M
    refine g_if_ne hF 26 (dck_at tX6_does 12 rfl) (by decide) (fun hc20 => ?_) (fun hc20 => ?_)
    · replace h := ite_f hc20 h
      refine g_aload_n hF (dck_at tX6_does 15 rfl) rfl ?_
      refine gf_X6_28 hF (hS 0 (by decide)) kdc_0 lnc_0 (dck_at tX6_does 16 rfl) ?_
      refine gf_X6_156 hF (hS 21 (by decide)) kdc_21 lnc_21 (dck_at tX6_does 17 rfl) ?_
      refine g_aload_n hF (dck_at tX6_does 18 rfl) rfl ?_
      refine gf_X6_12 hF (hS 0 (by decide)) kdc_0 lnc_0 (dck_at tX6_does 19 rfl) ?_
      refine g_iload_n hF (dck_at tX6_does 20 rfl) rfl ?_
      show G X F 38 _ _ _
      obtain ⟨q38, e38, h⟩ := bd h
      refine g_callV hF (as := [.int x1]) (k := 1) rfl (by decide) wm_X6_159 wi_X5_minutesOf we_X5_minutesOf wc_X5_minutesOf wn_X5 hyX5_minutesOf (by decide) (hS 1 (by decide)) kdc_1 (c_X5_minutesOf hF.2.2.2.2.2.2.2.1 hS tdc_1 e38) (by decide) rfl rfl rfl rfl (dck_at tX6_does 21 rfl) ?_
      show G X F 41 _ [.int q38, .int (M 21 2)] M
      refine g_iadd hF (dck_at tX6_does 22 rfl) ?_
      refine g_sipush (v := 999) hF (dck_at tX6_does 23 rfl) (by decide) ?_
      refine g_icmp_le hF 51 (dck_at tX6_does 24 rfl) (by decide) (fun hc45 => ?_) (fun hc45 => ?_)
      · replace h := ite_t hc45 h
        refine g_aload_n hF (dck_at tX6_does 27 rfl) rfl ?_
        refine gf_X6_45 hF (hS 0 (by decide)) kdc_0 lnc_0 (dck_at tX6_does 28 rfl) ?_
        refine g_aload_n hF (dck_at tX6_does 29 rfl) rfl ?_
        refine gf_X6_28 hF (hS 0 (by decide)) kdc_0 lnc_0 (dck_at tX6_does 30 rfl) ?_
        obtain ⟨q59, e59, h⟩ := bd h
        refine g_callV hF (as := [.ref 21]) (k := 43) rfl (by decide) wm_X6_162 wi_X2_remember we_X2_remember wc_X2_remember wn_X2 hyX2_remember (by decide) (hS 43 (by decide)) kdc_43 (c_X2_remember hF.2.2.2.2.2.2.2.1 hS evc_21 e59) (by decide) rfl rfl rfl rfl (dck_at tX6_does 31 rfl) ?_
        show G X F 62 _ [] q59
        refine g_aload_n hF (dck_at tX6_does 32 rfl) rfl ?_
        show G X F 63 _ _ _
        refine gf_X6_28 hF (hS 0 (by decide)) kdc_0 lnc_0 (dck_at tX6_does 33 rfl) ?_
        refine g_iload_n hF (dck_at tX6_does 34 rfl) rfl ?_
        obtain ⟨q67, e67, h⟩ := bd h
        refine g_callV hF (as := [.int x1]) (k := 21) rfl (by decide) wm_X6_166 wi_X1_take we_X1_take wc_X1_take wn_X1 hyX1_take (by decide) (hS 21 (by decide)) kdc_21 (c_X1_take hF.2.2.2.2.2.2.2.1 hS evc_21 e67) (by decide) rfl rfl rfl rfl (dck_at tX6_does 35 rfl) ?_
        show G X F 70 _ [] q67
        refine g_aload_n hF (dck_at tX6_does 36 rfl) rfl ?_
        refine gf_X6_28 hF (hS 0 (by decide)) kdc_0 lnc_0 (dck_at tX6_does 37 rfl) ?_
        obtain ⟨q74, e74, h⟩ := bd h
        refine g_callV hF (as := []) (k := 21) rfl (by decide) wm_X6_170 wi_X1_noise we_X1_noise wc_X1_noise wn_X1 hyX1_noise (by decide) (hS 21 (by decide)) kdc_21 (c_X1_noise hF.2.2.2.2.2.2.2.1 hS evc_21 e74) (by decide) rfl rfl rfl rfl (dck_at tX6_does 38 rfl) ?_
        show G X F 77 _ [.int q74] q67
        cases h
        exact g_iret hF hR (dck_at tX6_does 39 rfl)
      · replace h := ite_f hc45 h
        refine g_bipush (v := -5) hF (dck_at tX6_does 25 rfl) (by decide) ?_
        cases h
        exact g_iret hF hR (dck_at tX6_does 26 rfl)
    · replace h := ite_t hc20 h
      refine g_bipush (v := -4) hF (dck_at tX6_does 13 rfl) (by decide) ?_
      cases h
      exact g_iret hF hR (dck_at tX6_does 14 rfl)
  · replace h := ite_f hc7 h
    refine g_iload_n hF (dck_at tX6_does 6 rfl) rfl ?_
    cases h
    exact g_iret hF hR (dck_at tX6_does 7 rfl)

def tbX6_undo : List (Nat × Instr × Nat) := [(0, .aload_n 0, 1), (1, .getfield 45, 3), (4, .aload_n 0, 1), (5, .getfield 28, 3), (8, .invokevirtual 173, 3), (11, .ifCond .eq 13, 3), (14, .aload_n 0, 1), (15, .getfield 45, 3), (18, .getfield 177, 3), (21, .goto 5, 3), (24, .bipush (-4), 2), (26, .ireturn, 1)]
theorem tX6_undo : dck cX6_undo tbX6_undo = true := by decide +kernel
def f_X6_undo (N : Nat) (M : Mem) : Option (Int32 × Mem) := (f_X2_recall N M 21).bind fun q8 => (if q8.1 = 0 then some ((-4 : Int32), q8.2) else some (q8.2 43 0, q8.2))
set_option maxHeartbeats 4000000 in
set_option maxRecDepth 100000 in
theorem c_X6_undo {X : Cx} {l : Launch} (hX : CxOk X) (hS : SC X) {N : Nat} {M : Mem} {r : Int32} {M' : Mem} (h : f_X6_undo N M = some (r, M')) : Ctr X l yX6_undo cX6_undo 1 (some .int) 4 [.ref 0] M (some (.int r)) M' := by
  refine Ctr.ofG (L := [some (.ref 0)]) hX (by decide) (Nat.le_of_ble_eq_true rfl) rfl (fun F hF hl hR => ?_)
  subst hl
  unfold f_X6_undo at h
  refine g_aload_n hF (dck_at tX6_undo 0 rfl) rfl ?_
  refine gf_X6_45 hF (hS 0 (by decide)) kdc_0 lnc_0 (dck_at tX6_undo 1 rfl) ?_
  refine g_aload_n hF (dck_at tX6_undo 2 rfl) rfl ?_
  refine gf_X6_28 hF (hS 0 (by decide)) kdc_0 lnc_0 (dck_at tX6_undo 3 rfl) ?_
  obtain ⟨q8, e8, h⟩ := bd h
  refine g_callV hF (as := [.ref 21]) (k := 43) rfl (by decide) wm_X6_173 wi_X2_recall we_X2_recall wc_X2_recall wn_X2 hyX2_recall (by decide) (hS 43 (by decide)) kdc_43 (c_X2_recall hF.2.2.2.2.2.2.2.1 hS evc_21 e8) (by decide) rfl rfl rfl rfl (dck_at tX6_undo 4 rfl) ?_
  show G X F 11 _ [.int q8.1] q8.2
  refine g_if_eq hF 24 (dck_at tX6_undo 5 rfl) (by decide) (fun hc11 => ?_) (fun hc11 => ?_)
  · replace h := ite_t hc11 h
    refine g_bipush (v := -4) hF (dck_at tX6_undo 10 rfl) (by decide) ?_
    cases h
    exact g_iret hF hR (dck_at tX6_undo 11 rfl)
  · replace h := ite_f hc11 h
    refine g_aload_n hF (dck_at tX6_undo 6 rfl) rfl ?_
    refine gf_X6_45 hF (hS 0 (by decide)) kdc_0 lnc_0 (dck_at tX6_undo 7 rfl) ?_
    refine gf_X6_177 hF (hS 43 (by decide)) kdc_43 lnc_43 (dck_at tX6_undo 8 rfl) ?_
    refine g_goto hF 26 (dck_at tX6_undo 9 rfl) (by decide) ?_
    cases h
    exact g_iret hF hR (dck_at tX6_undo 11 rfl)

def tbX6_keep : List (Nat × Instr × Nat) := [(0, .iload_n 1, 1), (1, .ifCond .lt 8, 3), (4, .iload_n 1, 1), (5, .iconst 2, 1), (6, .if_icmp .lt 6, 3), (9, .bipush (-2), 2), (11, .ireturn, 1), (12, .aload_n 0, 1), (13, .getfield 49, 3), (16, .iload_n 1, 1), (17, .aaload, 1), (18, .aload_n 0, 1), (19, .getfield 28, 3), (22, .invokevirtual 180, 3), (25, .aload_n 0, 1), (26, .getfield 53, 3), (29, .iload_n 1, 1), (30, .iconst 1, 1), (31, .bastore, 1), (32, .aload_n 0, 1), (33, .getfield 28, 3), (36, .getfield 156, 3), (39, .ireturn, 1)]
theorem tX6_keep : dck cX6_keep tbX6_keep = true := by decide +kernel
def f_X6_keep (N : Nat) (M : Mem) (x1 : Int32) : Option (Int32 × Mem) := (if x1 < 0 then some ((-2 : Int32), M) else (if x1 < (2 : Int32) then if inb x1 2 = true then (f_X1_copyFrom N M (64 + 2 * x1.toNatClampNeg) 21).bind fun q22 => if inb x1 2 = true then some ((up2 q22 62 x1.toNatClampNeg (vp_nar .boolean (1 : Int32))) 21 2, (up2 q22 62 x1.toNatClampNeg (vp_nar .boolean (1 : Int32)))) else none else none else some ((-2 : Int32), M)))
set_option maxHeartbeats 4000000 in
set_option maxRecDepth 100000 in
theorem c_X6_keep {X : Cx} {l : Launch} (hX : CxOk X) (hS : SC X) {N : Nat} {M : Mem} {x1 : Int32} {r : Int32} {M' : Mem} (h : f_X6_keep N M x1 = some (r, M')) : Ctr X l yX6_keep cX6_keep 2 (some .int) 3 [.ref 0, .int x1] M (some (.int r)) M' := by
  refine Ctr.ofG (L := [some (.ref 0), some (.int x1)]) hX (by decide) (Nat.le_of_ble_eq_true rfl) rfl (fun F hF hl hR => ?_)
  subst hl
  unfold f_X6_keep at h
  refine g_iload_n hF (dck_at tX6_keep 0 rfl) rfl ?_
  refine g_if_lt hF 9 (dck_at tX6_keep 1 rfl) (by decide) (fun hc1 => ?_) (fun hc1 => ?_)
  · replace h := ite_t hc1 h
    refine g_bipush (v := -2) hF (dck_at tX6_keep 5 rfl) (by decide) ?_
    cases h
    exact g_iret hF hR (dck_at tX6_keep 6 rfl)
  · replace h := ite_f hc1 h
    refine g_iload_n hF (dck_at tX6_keep 2 rfl) rfl ?_
    refine g_iconst (v := 2) hF (dck_at tX6_keep 3 rfl) (by decide) ?_
    refine g_icmp_lt hF 12 (dck_at tX6_keep 4 rfl) (by decide) (fun hc6 => ?_) (fun hc6 => ?_)
    · replace h := ite_t hc6 h
      refine g_aload_n hF (dck_at tX6_keep 7 rfl) rfl ?_
      refine gf_X6_49 hF (hS 0 (by decide)) kdc_0 lnc_0 (dck_at tX6_keep 8 rfl) ?_
      refine g_iload_n hF (dck_at tX6_keep 9 rfl) rfl ?_
      obtain ⟨hg17, h⟩ := gd h
      refine g_kep hF hS hg17 (dck_at tX6_keep 10 rfl) ?_
      refine g_aload_n hF (dck_at tX6_keep 11 rfl) rfl ?_
      refine gf_X6_28 hF (hS 0 (by decide)) kdc_0 lnc_0 (dck_at tX6_keep 12 rfl) ?_
      show G X F 22 _ _ _
      obtain ⟨q22, e22, h⟩ := bd h
      refine g_callV hF (as := [.ref 21]) (k := (64 + 2 * x1.toNatClampNeg)) rfl (by decide) wm_X6_180 wi_X1_copyFrom we_X1_copyFrom wc_X1_copyFrom wn_X1 hyX1_copyFrom (by decide) (ev_m hS (ev_kep hg17)) (ev_kd (ev_kep hg17)) (c_X1_copyFrom hF.2.2.2.2.2.2.2.1 hS (ev_kep hg17) evc_21 e22) (by decide) rfl rfl rfl rfl (dck_at tX6_keep 13 rfl) ?_
      show G X F 25 _ [] q22
      refine g_aload_n hF (dck_at tX6_keep 14 rfl) rfl ?_
      refine gf_X6_53 hF (hS 0 (by decide)) kdc_0 lnc_0 (dck_at tX6_keep 15 rfl) ?_
      refine g_iload_n hF (dck_at tX6_keep 16 rfl) rfl ?_
      refine g_iconst (v := 1) hF (dck_at tX6_keep 17 rfl) (by decide) ?_
      obtain ⟨hg31, h⟩ := gd h
      refine g_zs hF (hS 62 (by decide)) kdc_62 lnc_62 hg31 (dck_at tX6_keep 18 rfl) ?_
      refine g_aload_n hF (dck_at tX6_keep 19 rfl) rfl ?_
      show G X F 33 _ _ _
      refine gf_X6_28 hF (hS 0 (by decide)) kdc_0 lnc_0 (dck_at tX6_keep 20 rfl) ?_
      refine gf_X6_156 hF (hS 21 (by decide)) kdc_21 lnc_21 (dck_at tX6_keep 21 rfl) ?_
      cases h
      exact g_iret hF hR (dck_at tX6_keep 22 rfl)
    · replace h := ite_f hc6 h
      refine g_bipush (v := -2) hF (dck_at tX6_keep 5 rfl) (by decide) ?_
      cases h
      exact g_iret hF hR (dck_at tX6_keep 6 rfl)

def tbX6_back : List (Nat × Instr × Nat) := [(0, .iload_n 1, 1), (1, .ifCond .lt 8, 3), (4, .iload_n 1, 1), (5, .iconst 2, 1), (6, .if_icmp .lt 6, 3), (9, .bipush (-2), 2), (11, .ireturn, 1), (12, .aload_n 0, 1), (13, .getfield 53, 3), (16, .iload_n 1, 1), (17, .baload, 1), (18, .ifCond .ne 6, 3), (21, .bipush (-4), 2), (23, .ireturn, 1), (24, .aload_n 0, 1), (25, .getfield 28, 3), (28, .aload_n 0, 1), (29, .getfield 49, 3), (32, .iload_n 1, 1), (33, .aaload, 1), (34, .invokevirtual 180, 3), (37, .aload_n 0, 1), (38, .getfield 45, 3), (41, .iconst 0, 1), (42, .putfield 177, 3), (45, .aload_n 0, 1), (46, .getfield 28, 3), (49, .getfield 156, 3), (52, .ireturn, 1)]
theorem tX6_back : dck cX6_back tbX6_back = true := by decide +kernel
def f_X6_back (N : Nat) (M : Mem) (x1 : Int32) : Option (Int32 × Mem) := (if x1 < 0 then some ((-2 : Int32), M) else (if x1 < (2 : Int32) then if inb x1 2 = true then (if (M 62 x1.toNatClampNeg) = 0 then some ((-4 : Int32), M) else if inb x1 2 = true then (f_X1_copyFrom N M 21 (64 + 2 * x1.toNatClampNeg)).bind fun q34 => some ((up2 q34 43 0 (0 : Int32)) 21 2, (up2 q34 43 0 (0 : Int32))) else none) else none else some ((-2 : Int32), M)))
set_option maxHeartbeats 4000000 in
set_option maxRecDepth 100000 in
theorem c_X6_back {X : Cx} {l : Launch} (hX : CxOk X) (hS : SC X) {N : Nat} {M : Mem} {x1 : Int32} {r : Int32} {M' : Mem} (h : f_X6_back N M x1 = some (r, M')) : Ctr X l yX6_back cX6_back 2 (some .int) 3 [.ref 0, .int x1] M (some (.int r)) M' := by
  refine Ctr.ofG (L := [some (.ref 0), some (.int x1)]) hX (by decide) (Nat.le_of_ble_eq_true rfl) rfl (fun F hF hl hR => ?_)
  subst hl
  unfold f_X6_back at h
  refine g_iload_n hF (dck_at tX6_back 0 rfl) rfl ?_
  refine g_if_lt hF 9 (dck_at tX6_back 1 rfl) (by decide) (fun hc1 => ?_) (fun hc1 => ?_)
  · replace h := ite_t hc1 h
    refine g_bipush (v := -2) hF (dck_at tX6_back 5 rfl) (by decide) ?_
    cases h
    exact g_iret hF hR (dck_at tX6_back 6 rfl)
  · replace h := ite_f hc1 h
    refine g_iload_n hF (dck_at tX6_back 2 rfl) rfl ?_
    refine g_iconst (v := 2) hF (dck_at tX6_back 3 rfl) (by decide) ?_
    refine g_icmp_lt hF 12 (dck_at tX6_back 4 rfl) (by decide) (fun hc6 => ?_) (fun hc6 => ?_)
    · replace h := ite_t hc6 h
      refine g_aload_n hF (dck_at tX6_back 7 rfl) rfl ?_
      refine gf_X6_53 hF (hS 0 (by decide)) kdc_0 lnc_0 (dck_at tX6_back 8 rfl) ?_
      refine g_iload_n hF (dck_at tX6_back 9 rfl) rfl ?_
      obtain ⟨hg17, h⟩ := gd h
      refine g_za hF (hS 62 (by decide)) kdc_62 lnc_62 hg17 (dck_at tX6_back 10 rfl) ?_
      refine g_if_ne hF 24 (dck_at tX6_back 11 rfl) (by decide) (fun hc18 => ?_) (fun hc18 => ?_)
      · replace h := ite_f hc18 h
        refine g_aload_n hF (dck_at tX6_back 14 rfl) rfl ?_
        refine gf_X6_28 hF (hS 0 (by decide)) kdc_0 lnc_0 (dck_at tX6_back 15 rfl) ?_
        refine g_aload_n hF (dck_at tX6_back 16 rfl) rfl ?_
        refine gf_X6_49 hF (hS 0 (by decide)) kdc_0 lnc_0 (dck_at tX6_back 17 rfl) ?_
        refine g_iload_n hF (dck_at tX6_back 18 rfl) rfl ?_
        obtain ⟨hg33, h⟩ := gd h
        refine g_kep hF hS hg33 (dck_at tX6_back 19 rfl) ?_
        show G X F 34 _ _ _
        obtain ⟨q34, e34, h⟩ := bd h
        refine g_callV hF (as := [.ref (64 + 2 * x1.toNatClampNeg)]) (k := 21) rfl (by decide) wm_X6_180 wi_X1_copyFrom we_X1_copyFrom wc_X1_copyFrom wn_X1 hyX1_copyFrom (by decide) (hS 21 (by decide)) kdc_21 (c_X1_copyFrom hF.2.2.2.2.2.2.2.1 hS evc_21 (ev_kep hg33) e34) (by decide) rfl rfl rfl rfl (dck_at tX6_back 20 rfl) ?_
        show G X F 37 _ [] q34
        refine g_aload_n hF (dck_at tX6_back 21 rfl) rfl ?_
        refine gf_X6_45 hF (hS 0 (by decide)) kdc_0 lnc_0 (dck_at tX6_back 22 rfl) ?_
        refine g_iconst (v := 0) hF (dck_at tX6_back 23 rfl) (by decide) ?_
        refine pf_X6_177 hF (hS 43 (by decide)) kdc_43 lnc_43 (dck_at tX6_back 24 rfl) ?_
        refine g_aload_n hF (dck_at tX6_back 25 rfl) rfl ?_
        refine gf_X6_28 hF (hS 0 (by decide)) kdc_0 lnc_0 (dck_at tX6_back 26 rfl) ?_
        show G X F 49 _ _ _
        refine gf_X6_156 hF (hS 21 (by decide)) kdc_21 lnc_21 (dck_at tX6_back 27 rfl) ?_
        cases h
        exact g_iret hF hR (dck_at tX6_back 28 rfl)
      · replace h := ite_t hc18 h
        refine g_bipush (v := -4) hF (dck_at tX6_back 12 rfl) (by decide) ?_
        cases h
        exact g_iret hF hR (dck_at tX6_back 13 rfl)
    · replace h := ite_f hc6 h
      refine g_bipush (v := -2) hF (dck_at tX6_back 5 rfl) (by decide) ?_
      cases h
      exact g_iret hF hR (dck_at tX6_back 6 rfl)

def tbX6_till : List (Nat × Instr × Nat) := [(0, .aload_n 0, 1), (1, .getfield 32, 3), (4, .aload_n 0, 1), (5, .getfield 28, 3), (8, .invokevirtual 180, 3), (11, .iconst 0, 1), (12, .istore_n 1, 1), (13, .iload_n 1, 1), (14, .bipush 99, 2), (16, .if_icmp .ge 27, 3), (19, .aload_n 0, 1), (20, .getfield 32, 3), (23, .invokevirtual 170, 3), (26, .ifCond .le 17, 3), (29, .aload_n 0, 1), (30, .getfield 32, 3), (33, .iconst 0, 1), (34, .invokevirtual 166, 3), (37, .iinc 1 1, 3), (40, .goto (-27), 3), (43, .iload_n 1, 1), (44, .ireturn, 1)]
theorem tX6_till : dck cX6_till tbX6_till = true := by decide +kernel
def f_X6_till_L13 (N : Nat) : Nat → Int32 → Mem → Option (Int32 × Mem)
  | 0, _, _ => none
  | n + 1, x1, M => (if (99 : Int32) ≤ x1 then some (x1, M) else (f_X1_noise N M 23).bind fun q23 => (if q23 ≤ 0 then some (x1, M) else (f_X1_take N M 23 (0 : Int32)).bind fun q34 => f_X6_till_L13 N n (x1 + (1 : Int32)) q34))
def f_X6_till (N : Nat) (M : Mem) : Option (Int32 × Mem) := (f_X1_copyFrom N M 23 21).bind fun q8 => (f_X6_till_L13 N N (0 : Int32) q8).bind fun o13 => some (o13.1, o13.2)
set_option maxHeartbeats 4000000 in
set_option maxRecDepth 100000 in
theorem g_X6_till_L13 {X : Cx} {F : Fx} (hS : SC X) (hF : FK X F cX6_till RX6 2 5) (N : Nat) : ∀ (n : Nat) (x1 : Int32) (M : Mem) (o : Int32 × Mem), f_X6_till_L13 N n x1 M = some o → G X F 43 [none, some (.int o.1)] [] o.2 → G X F 13 [some (.ref 0), some (.int x1)] [] M := by
  intro n
  induction n with
  | zero =>
    intro x1 M o h K
    cases h
  | succ n ih =>
    intro x1 M o h K
    rw [f_X6_till_L13] at h
    refine g_iload_n hF (dck_at tX6_till 7 rfl) rfl ?_
    refine g_bipush (v := 99) hF (dck_at tX6_till 8 rfl) (by decide) ?_
    refine g_icmp_ge hF 43 (dck_at tX6_till 9 rfl) (by decide) (fun hc16 => ?_) (fun hc16 => ?_)
    · replace h := ite_t hc16 h
      refine g_msk [false, true] (L' := [none, some (.int x1)]) rfl ?_
      cases h
      exact K
    · replace h := ite_f hc16 h
      refine g_aload_n hF (dck_at tX6_till 10 rfl) rfl ?_
      refine gf_X6_32 hF (hS 0 (by decide)) kdc_0 lnc_0 (dck_at tX6_till 11 rfl) ?_
      obtain ⟨q23, e23, h⟩ := bd h
      refine g_callV hF (as := []) (k := 23) rfl (by decide) wm_X6_170 wi_X1_noise we_X1_noise wc_X1_noise wn_X1 hyX1_noise (by decide) (hS 23 (by decide)) kdc_23 (c_X1_noise hF.2.2.2.2.2.2.2.1 hS evc_23 e23) (by decide) rfl rfl rfl rfl (dck_at tX6_till 12 rfl) ?_
      show G X F 26 _ [.int q23] M
      refine g_if_le hF 43 (dck_at tX6_till 13 rfl) (by decide) (fun hc26 => ?_) (fun hc26 => ?_)
      · replace h := ite_t hc26 h
        refine g_msk [false, true] (L' := [none, some (.int x1)]) rfl ?_
        cases h
        exact K
      · replace h := ite_f hc26 h
        refine g_aload_n hF (dck_at tX6_till 14 rfl) rfl ?_
        refine gf_X6_32 hF (hS 0 (by decide)) kdc_0 lnc_0 (dck_at tX6_till 15 rfl) ?_
        refine g_iconst (v := 0) hF (dck_at tX6_till 16 rfl) (by decide) ?_
        obtain ⟨q34, e34, h⟩ := bd h
        refine g_callV hF (as := [.int (0 : Int32)]) (k := 23) rfl (by decide) wm_X6_166 wi_X1_take we_X1_take wc_X1_take wn_X1 hyX1_take (by decide) (hS 23 (by decide)) kdc_23 (c_X1_take hF.2.2.2.2.2.2.2.1 hS evc_23 e34) (by decide) rfl rfl rfl rfl (dck_at tX6_till 17 rfl) ?_
        show G X F 37 _ [] q34
        refine g_iinc (v := 1) (L' := [some (.ref 0), some (.int (x1 + (1 : Int32)))]) hF (dck_at tX6_till 18 rfl) rfl (by decide) rfl ?_
        refine g_goto hF 13 (dck_at tX6_till 19 rfl) (by decide) ?_
        exact ih _ _ _ h K
set_option maxHeartbeats 4000000 in
set_option maxRecDepth 100000 in
theorem c_X6_till {X : Cx} {l : Launch} (hX : CxOk X) (hS : SC X) {N : Nat} {M : Mem} {r : Int32} {M' : Mem} (h : f_X6_till N M = some (r, M')) : Ctr X l yX6_till cX6_till 2 (some .int) 5 [.ref 0] M (some (.int r)) M' := by
  refine Ctr.ofG (L := [some (.ref 0), none]) hX (by decide) (Nat.le_of_ble_eq_true rfl) rfl (fun F hF hl hR => ?_)
  subst hl
  unfold f_X6_till at h
  refine g_aload_n hF (dck_at tX6_till 0 rfl) rfl ?_
  refine gf_X6_32 hF (hS 0 (by decide)) kdc_0 lnc_0 (dck_at tX6_till 1 rfl) ?_
  refine g_aload_n hF (dck_at tX6_till 2 rfl) rfl ?_
  refine gf_X6_28 hF (hS 0 (by decide)) kdc_0 lnc_0 (dck_at tX6_till 3 rfl) ?_
  obtain ⟨q8, e8, h⟩ := bd h
  refine g_callV hF (as := [.ref 21]) (k := 23) rfl (by decide) wm_X6_180 wi_X1_copyFrom we_X1_copyFrom wc_X1_copyFrom wn_X1 hyX1_copyFrom (by decide) (hS 23 (by decide)) kdc_23 (c_X1_copyFrom hF.2.2.2.2.2.2.2.1 hS evc_23 evc_21 e8) (by decide) rfl rfl rfl rfl (dck_at tX6_till 4 rfl) ?_
  show G X F 11 _ [] q8
  refine g_iconst (v := 0) hF (dck_at tX6_till 5 rfl) (by decide) ?_
  show G X F 12 _ _ _
  refine g_istore_n (L' := [some (.ref 0), some (.int (0 : Int32))]) hF (dck_at tX6_till 6 rfl) (Nat.le_of_ble_eq_true rfl) rfl ?_
  obtain ⟨o13, e13, h⟩ := bd h
  refine g_X6_till_L13 hS hF N N _ _ _ e13 ?_
  refine g_iload_n hF (dck_at tX6_till 20 rfl) rfl ?_
  cases h
  exact g_iret hF hR (dck_at tX6_till 21 rfl)

def tbX6_foretellWaits : List (Nat × Instr × Nat) := [(0, .aload_n 0, 1), (1, .getfield 32, 3), (4, .aload_n 0, 1), (5, .getfield 28, 3), (8, .invokevirtual 180, 3), (11, .iconst 0, 1), (12, .istore_n 2, 1), (13, .iload_n 2, 1), (14, .iload_n 1, 1), (15, .if_icmp .ge 17, 3), (18, .aload_n 0, 1), (19, .getfield 32, 3), (22, .iconst 0, 1), (23, .invokevirtual 166, 3), (26, .iinc 2 1, 3), (29, .goto (-16), 3), (32, .return_, 1)]
theorem tX6_foretellWaits : dck cX6_foretellWaits tbX6_foretellWaits = true := by decide +kernel
def f_X6_foretellWaits_L13 (N : Nat) (x1 : Int32) : Nat → Int32 → Mem → Option (Int32 × Mem)
  | 0, _, _ => none
  | n + 1, x2, M => (if x1 ≤ x2 then some (x2, M) else (f_X1_take N M 23 (0 : Int32)).bind fun q23 => f_X6_foretellWaits_L13 N x1 n (x2 + (1 : Int32)) q23)
def f_X6_foretellWaits (N : Nat) (M : Mem) (x1 : Int32) : Option Mem := (f_X1_copyFrom N M 23 21).bind fun q8 => (f_X6_foretellWaits_L13 N x1 N (0 : Int32) q8).bind fun o13 => some o13.2
set_option maxHeartbeats 4000000 in
set_option maxRecDepth 100000 in
theorem g_X6_foretellWaits_L13 {X : Cx} {F : Fx} (hS : SC X) (hF : FK X F cX6_foretellWaits RX6 3 5) (N : Nat) (x1 : Int32) : ∀ (n : Nat) (x2 : Int32) (M : Mem) (o : Int32 × Mem), f_X6_foretellWaits_L13 N x1 n x2 M = some o → G X F 32 [none, none, none] [] o.2 → G X F 13 [some (.ref 0), some (.int x1), some (.int x2)] [] M := by
  intro n
  induction n with
  | zero =>
    intro x2 M o h K
    cases h
  | succ n ih =>
    intro x2 M o h K
    rw [f_X6_foretellWaits_L13] at h
    refine g_iload_n hF (dck_at tX6_foretellWaits 7 rfl) rfl ?_
    refine g_iload_n hF (dck_at tX6_foretellWaits 8 rfl) rfl ?_
    refine g_icmp_ge hF 32 (dck_at tX6_foretellWaits 9 rfl) (by decide) (fun hc15 => ?_) (fun hc15 => ?_)
    · replace h := ite_t hc15 h
      refine g_msk [false, false, false] (L' := [none, none, none]) rfl ?_
      cases h
      exact K
    · replace h := ite_f hc15 h
      refine g_aload_n hF (dck_at tX6_foretellWaits 10 rfl) rfl ?_
      refine gf_X6_32 hF (hS 0 (by decide)) kdc_0 lnc_0 (dck_at tX6_foretellWaits 11 rfl) ?_
      refine g_iconst (v := 0) hF (dck_at tX6_foretellWaits 12 rfl) (by decide) ?_
      obtain ⟨q23, e23, h⟩ := bd h
      refine g_callV hF (as := [.int (0 : Int32)]) (k := 23) rfl (by decide) wm_X6_166 wi_X1_take we_X1_take wc_X1_take wn_X1 hyX1_take (by decide) (hS 23 (by decide)) kdc_23 (c_X1_take hF.2.2.2.2.2.2.2.1 hS evc_23 e23) (by decide) rfl rfl rfl rfl (dck_at tX6_foretellWaits 13 rfl) ?_
      show G X F 26 _ [] q23
      refine g_iinc (v := 1) (L' := [some (.ref 0), some (.int x1), some (.int (x2 + (1 : Int32)))]) hF (dck_at tX6_foretellWaits 14 rfl) rfl (by decide) rfl ?_
      refine g_goto hF 13 (dck_at tX6_foretellWaits 15 rfl) (by decide) ?_
      exact ih _ _ _ h K
set_option maxHeartbeats 4000000 in
set_option maxRecDepth 100000 in
theorem c_X6_foretellWaits {X : Cx} {l : Launch} (hX : CxOk X) (hS : SC X) {N : Nat} {M : Mem} {x1 : Int32} {M' : Mem} (h : f_X6_foretellWaits N M x1 = some M') : Ctr X l yX6_foretellWaits cX6_foretellWaits 3 none 5 [.ref 0, .int x1] M none M' := by
  refine Ctr.ofG (L := [some (.ref 0), some (.int x1), none]) hX (by decide) (Nat.le_of_ble_eq_true rfl) rfl (fun F hF hl hR => ?_)
  subst hl
  unfold f_X6_foretellWaits at h
  refine g_aload_n hF (dck_at tX6_foretellWaits 0 rfl) rfl ?_
  refine gf_X6_32 hF (hS 0 (by decide)) kdc_0 lnc_0 (dck_at tX6_foretellWaits 1 rfl) ?_
  refine g_aload_n hF (dck_at tX6_foretellWaits 2 rfl) rfl ?_
  refine gf_X6_28 hF (hS 0 (by decide)) kdc_0 lnc_0 (dck_at tX6_foretellWaits 3 rfl) ?_
  obtain ⟨q8, e8, h⟩ := bd h
  refine g_callV hF (as := [.ref 21]) (k := 23) rfl (by decide) wm_X6_180 wi_X1_copyFrom we_X1_copyFrom wc_X1_copyFrom wn_X1 hyX1_copyFrom (by decide) (hS 23 (by decide)) kdc_23 (c_X1_copyFrom hF.2.2.2.2.2.2.2.1 hS evc_23 evc_21 e8) (by decide) rfl rfl rfl rfl (dck_at tX6_foretellWaits 4 rfl) ?_
  show G X F 11 _ [] q8
  refine g_iconst (v := 0) hF (dck_at tX6_foretellWaits 5 rfl) (by decide) ?_
  show G X F 12 _ _ _
  refine g_istore_n (L' := [some (.ref 0), some (.int x1), some (.int (0 : Int32))]) hF (dck_at tX6_foretellWaits 6 rfl) (Nat.le_of_ble_eq_true rfl) rfl ?_
  obtain ⟨o13, e13, h⟩ := bd h
  refine g_X6_foretellWaits_L13 hS hF N _ N _ _ _ e13 ?_
  cases h
  exact g_vret hF hR (dck_at tX6_foretellWaits 16 rfl)

def tbX6_there : List (Nat × Instr × Nat) := [(0, .iload_n 1, 1), (1, .ifCond .lt 9, 3), (4, .iload_n 1, 1), (5, .bipush 99, 2), (7, .if_icmp .le 6, 3), (10, .bipush (-3), 2), (12, .ireturn, 1), (13, .aload_n 0, 1), (14, .iload_n 1, 1), (15, .invokevirtual 182, 3), (18, .aload_n 0, 1), (19, .getfield 32, 3), (22, .getfield 185, 3), (25, .ireturn, 1)]
theorem tX6_there : dck cX6_there tbX6_there = true := by decide +kernel
def f_X6_there (N : Nat) (M : Mem) (x1 : Int32) : Option (Int32 × Mem) := (if x1 < 0 then some ((-3 : Int32), M) else (if x1 ≤ (99 : Int32) then (f_X6_foretellWaits N M x1).bind fun q15 => some (q15 23 1, q15) else some ((-3 : Int32), M)))
set_option maxHeartbeats 4000000 in
set_option maxRecDepth 100000 in
theorem c_X6_there {X : Cx} {l : Launch} (hX : CxOk X) (hS : SC X) {N : Nat} {M : Mem} {x1 : Int32} {r : Int32} {M' : Mem} (h : f_X6_there N M x1 = some (r, M')) : Ctr X l yX6_there cX6_there 2 (some .int) 6 [.ref 0, .int x1] M (some (.int r)) M' := by
  refine Ctr.ofG (L := [some (.ref 0), some (.int x1)]) hX (by decide) (Nat.le_of_ble_eq_true rfl) rfl (fun F hF hl hR => ?_)
  subst hl
  unfold f_X6_there at h
  refine g_iload_n hF (dck_at tX6_there 0 rfl) rfl ?_
  refine g_if_lt hF 10 (dck_at tX6_there 1 rfl) (by decide) (fun hc1 => ?_) (fun hc1 => ?_)
  · replace h := ite_t hc1 h
    refine g_bipush (v := -3) hF (dck_at tX6_there 5 rfl) (by decide) ?_
    cases h
    exact g_iret hF hR (dck_at tX6_there 6 rfl)
  · replace h := ite_f hc1 h
    refine g_iload_n hF (dck_at tX6_there 2 rfl) rfl ?_
    refine g_bipush (v := 99) hF (dck_at tX6_there 3 rfl) (by decide) ?_
    refine g_icmp_le hF 13 (dck_at tX6_there 4 rfl) (by decide) (fun hc7 => ?_) (fun hc7 => ?_)
    · replace h := ite_t hc7 h
      refine g_aload_n hF (dck_at tX6_there 7 rfl) rfl ?_
      refine g_iload_n hF (dck_at tX6_there 8 rfl) rfl ?_
      obtain ⟨q15, e15, h⟩ := bd h
      refine g_callV hF (as := [.int x1]) (k := 0) rfl (by decide) wm_X6_182 wi_X6_foretellWaits we_X6_foretellWaits wc_X6_foretellWaits wn_X6 hyX6_foretellWaits (by decide) (hS 0 (by decide)) kdc_0 (c_X6_foretellWaits hF.2.2.2.2.2.2.2.1 hS e15) (by decide) rfl rfl rfl rfl (dck_at tX6_there 9 rfl) ?_
      show G X F 18 _ [] q15
      refine g_aload_n hF (dck_at tX6_there 10 rfl) rfl ?_
      refine gf_X6_32 hF (hS 0 (by decide)) kdc_0 lnc_0 (dck_at tX6_there 11 rfl) ?_
      refine gf_X6_185 hF (hS 23 (by decide)) kdc_23 lnc_23 (dck_at tX6_there 12 rfl) ?_
      show G X F 25 _ _ _
      cases h
      exact g_iret hF hR (dck_at tX6_there 13 rfl)
    · replace h := ite_f hc7 h
      refine g_bipush (v := -3) hF (dck_at tX6_there 5 rfl) (by decide) ?_
      cases h
      exact g_iret hF hR (dck_at tX6_there 6 rfl)

def tbX6_sound : List (Nat × Instr × Nat) := [(0, .iload_n 1, 1), (1, .ifCond .lt 9, 3), (4, .iload_n 1, 1), (5, .bipush 99, 2), (7, .if_icmp .le 6, 3), (10, .bipush (-3), 2), (12, .ireturn, 1), (13, .aload_n 0, 1), (14, .iload_n 1, 1), (15, .invokevirtual 182, 3), (18, .aload_n 0, 1), (19, .getfield 32, 3), (22, .invokevirtual 170, 3), (25, .ireturn, 1)]
theorem tX6_sound : dck cX6_sound tbX6_sound = true := by decide +kernel
def f_X6_sound (N : Nat) (M : Mem) (x1 : Int32) : Option (Int32 × Mem) := (if x1 < 0 then some ((-3 : Int32), M) else (if x1 ≤ (99 : Int32) then (f_X6_foretellWaits N M x1).bind fun q15 => (f_X1_noise N q15 23).bind fun q22 => some (q22, q15) else some ((-3 : Int32), M)))
set_option maxHeartbeats 4000000 in
set_option maxRecDepth 100000 in
theorem c_X6_sound {X : Cx} {l : Launch} (hX : CxOk X) (hS : SC X) {N : Nat} {M : Mem} {x1 : Int32} {r : Int32} {M' : Mem} (h : f_X6_sound N M x1 = some (r, M')) : Ctr X l yX6_sound cX6_sound 2 (some .int) 6 [.ref 0, .int x1] M (some (.int r)) M' := by
  refine Ctr.ofG (L := [some (.ref 0), some (.int x1)]) hX (by decide) (Nat.le_of_ble_eq_true rfl) rfl (fun F hF hl hR => ?_)
  subst hl
  unfold f_X6_sound at h
  refine g_iload_n hF (dck_at tX6_sound 0 rfl) rfl ?_
  refine g_if_lt hF 10 (dck_at tX6_sound 1 rfl) (by decide) (fun hc1 => ?_) (fun hc1 => ?_)
  · replace h := ite_t hc1 h
    refine g_bipush (v := -3) hF (dck_at tX6_sound 5 rfl) (by decide) ?_
    cases h
    exact g_iret hF hR (dck_at tX6_sound 6 rfl)
  · replace h := ite_f hc1 h
    refine g_iload_n hF (dck_at tX6_sound 2 rfl) rfl ?_
    refine g_bipush (v := 99) hF (dck_at tX6_sound 3 rfl) (by decide) ?_
    refine g_icmp_le hF 13 (dck_at tX6_sound 4 rfl) (by decide) (fun hc7 => ?_) (fun hc7 => ?_)
    · replace h := ite_t hc7 h
      refine g_aload_n hF (dck_at tX6_sound 7 rfl) rfl ?_
      refine g_iload_n hF (dck_at tX6_sound 8 rfl) rfl ?_
      obtain ⟨q15, e15, h⟩ := bd h
      refine g_callV hF (as := [.int x1]) (k := 0) rfl (by decide) wm_X6_182 wi_X6_foretellWaits we_X6_foretellWaits wc_X6_foretellWaits wn_X6 hyX6_foretellWaits (by decide) (hS 0 (by decide)) kdc_0 (c_X6_foretellWaits hF.2.2.2.2.2.2.2.1 hS e15) (by decide) rfl rfl rfl rfl (dck_at tX6_sound 9 rfl) ?_
      show G X F 18 _ [] q15
      refine g_aload_n hF (dck_at tX6_sound 10 rfl) rfl ?_
      refine gf_X6_32 hF (hS 0 (by decide)) kdc_0 lnc_0 (dck_at tX6_sound 11 rfl) ?_
      obtain ⟨q22, e22, h⟩ := bd h
      refine g_callV hF (as := []) (k := 23) rfl (by decide) wm_X6_170 wi_X1_noise we_X1_noise wc_X1_noise wn_X1 hyX1_noise (by decide) (hS 23 (by decide)) kdc_23 (c_X1_noise hF.2.2.2.2.2.2.2.1 hS evc_23 e22) (by decide) rfl rfl rfl rfl (dck_at tX6_sound 12 rfl) ?_
      show G X F 25 _ [.int q22] q15
      show G X F 25 _ _ _
      cases h
      exact g_iret hF hR (dck_at tX6_sound 13 rfl)
    · replace h := ite_f hc7 h
      refine g_bipush (v := -3) hF (dck_at tX6_sound 5 rfl) (by decide) ?_
      cases h
      exact g_iret hF hR (dck_at tX6_sound 6 rfl)

def tbX6_best : List (Nat × Instr × Nat) := [(0, .iload_n 1, 1), (1, .iconst (-1), 1), (2, .if_icmp .ge 6, 3), (5, .bipush (-3), 2), (7, .ireturn, 1), (8, .aload_n 0, 1), (9, .getfield 38, 3), (12, .aload_n 0, 1), (13, .getfield 28, 3), (16, .aload_n 0, 1), (17, .getfield 28, 3), (20, .getfield 188, 3), (23, .invokevirtual 191, 3), (26, .iload_n 1, 1), (27, .iconst (-1), 1), (28, .if_icmp .ne 11, 3), (31, .aload_n 0, 1), (32, .getfield 38, 3), (35, .getfield 195, 3), (38, .ireturn, 1), (39, .iload_n 1, 1), (40, .aload_n 0, 1), (41, .getfield 38, 3), (44, .getfield 198, 3), (47, .if_icmp .ge 15, 3), (50, .aload_n 0, 1), (51, .getfield 38, 3), (54, .getfield 201, 3), (57, .iload_n 1, 1), (58, .iaload, 1), (59, .goto 4, 3), (62, .iconst (-1), 1), (63, .ireturn, 1)]
theorem tX6_best : dck cX6_best tbX6_best = true := by decide +kernel
def f_X6_best (N : Nat) (M : Mem) (x1 : Int32) : Option (Int32 × Mem) := (if (-1 : Int32) ≤ x1 then (f_X3_lookFrom N M 21 (M 21 3)).bind fun q23 => (if x1 = (-1 : Int32) then some (q23 25 0, q23) else (if (q23 25 1) ≤ x1 then some ((-1 : Int32), q23) else if inb x1 6 = true then some (q23 26 x1.toNatClampNeg, q23) else none)) else some ((-3 : Int32), M))
set_option maxHeartbeats 4000000 in
set_option maxRecDepth 100000 in
theorem c_X6_best {X : Cx} {l : Launch} (hX : CxOk X) (hS : SC X) {N : Nat} {M : Mem} {x1 : Int32} {r : Int32} {M' : Mem} (h : f_X6_best N M x1 = some (r, M')) : Ctr X l yX6_best cX6_best 2 (some .int) 36 [.ref 0, .int x1] M (some (.int r)) M' := by
  refine Ctr.ofG (L := [some (.ref 0), some (.int x1)]) hX (by decide) (Nat.le_of_ble_eq_true rfl) rfl (fun F hF hl hR => ?_)
  subst hl
  unfold f_X6_best at h
  refine g_iload_n hF (dck_at tX6_best 0 rfl) rfl ?_
  refine g_iconst (v := -1) hF (dck_at tX6_best 1 rfl) (by decide) ?_
  refine g_icmp_ge hF 8 (dck_at tX6_best 2 rfl) (by decide) (fun hc2 => ?_) (fun hc2 => ?_)
  · replace h := ite_t hc2 h
    refine g_aload_n hF (dck_at tX6_best 5 rfl) rfl ?_
    refine gf_X6_38 hF (hS 0 (by decide)) kdc_0 lnc_0 (dck_at tX6_best 6 rfl) ?_
    refine g_aload_n hF (dck_at tX6_best 7 rfl) rfl ?_
    refine gf_X6_28 hF (hS 0 (by decide)) kdc_0 lnc_0 (dck_at tX6_best 8 rfl) ?_
    refine g_aload_n hF (dck_at tX6_best 9 rfl) rfl ?_
    refine gf_X6_28 hF (hS 0 (by decide)) kdc_0 lnc_0 (dck_at tX6_best 10 rfl) ?_
    show G X F 20 _ _ _
    refine gf_X6_188 hF (hS 21 (by decide)) kdc_21 lnc_21 (dck_at tX6_best 11 rfl) ?_
    obtain ⟨q23, e23, h⟩ := bd h
    refine g_callV hF (as := [.ref 21, .int (M 21 3)]) (k := 25) rfl (by decide) wm_X6_191 wi_X3_lookFrom we_X3_lookFrom wc_X3_lookFrom wn_X3 hyX3_lookFrom (by decide) (hS 25 (by decide)) kdc_25 (c_X3_lookFrom hF.2.2.2.2.2.2.2.1 hS evc_21 e23) (by decide) rfl rfl rfl rfl (dck_at tX6_best 12 rfl) ?_
    show G X F 26 _ [] q23
    refine g_iload_n hF (dck_at tX6_best 13 rfl) rfl ?_
    refine g_iconst (v := -1) hF (dck_at tX6_best 14 rfl) (by decide) ?_
    refine g_icmp_ne hF 39 (dck_at tX6_best 15 rfl) (by decide) (fun hc28 => ?_) (fun hc28 => ?_)
    · replace h := ite_f hc28 h
      refine g_iload_n hF (dck_at tX6_best 20 rfl) rfl ?_
      refine g_aload_n hF (dck_at tX6_best 21 rfl) rfl ?_
      refine gf_X6_38 hF (hS 0 (by decide)) kdc_0 lnc_0 (dck_at tX6_best 22 rfl) ?_
      refine gf_X6_198 hF (hS 25 (by decide)) kdc_25 lnc_25 (dck_at tX6_best 23 rfl) ?_
      refine g_icmp_ge hF 62 (dck_at tX6_best 24 rfl) (by decide) (fun hc47 => ?_) (fun hc47 => ?_)
      · replace h := ite_t hc47 h
        refine g_iconst (v := -1) hF (dck_at tX6_best 31 rfl) (by decide) ?_
        cases h
        exact g_iret hF hR (dck_at tX6_best 32 rfl)
      · replace h := ite_f hc47 h
        refine g_aload_n hF (dck_at tX6_best 25 rfl) rfl ?_
        refine gf_X6_38 hF (hS 0 (by decide)) kdc_0 lnc_0 (dck_at tX6_best 26 rfl) ?_
        refine gf_X6_201 hF (hS 25 (by decide)) kdc_25 lnc_25 (dck_at tX6_best 27 rfl) ?_
        refine g_iload_n hF (dck_at tX6_best 28 rfl) rfl ?_
        obtain ⟨hg58, h⟩ := gd h
        refine g_ia hF (hS 26 (by decide)) kdc_26 lnc_26 hg58 (dck_at tX6_best 29 rfl) ?_
        refine g_goto hF 63 (dck_at tX6_best 30 rfl) (by decide) ?_
        cases h
        exact g_iret hF hR (dck_at tX6_best 32 rfl)
    · replace h := ite_t hc28 h
      refine g_aload_n hF (dck_at tX6_best 16 rfl) rfl ?_
      refine gf_X6_38 hF (hS 0 (by decide)) kdc_0 lnc_0 (dck_at tX6_best 17 rfl) ?_
      refine gf_X6_195 hF (hS 25 (by decide)) kdc_25 lnc_25 (dck_at tX6_best 18 rfl) ?_
      cases h
      exact g_iret hF hR (dck_at tX6_best 19 rfl)
  · replace h := ite_f hc2 h
    refine g_bipush (v := -3) hF (dck_at tX6_best 3 rfl) (by decide) ?_
    cases h
    exact g_iret hF hR (dck_at tX6_best 4 rfl)

def tbX6_row : List (Nat × Instr × Nat) := [(0, .aload_n 0, 1), (1, .iload_n 1, 1), (2, .invokevirtual 149, 3), (5, .istore_n 2, 1), (6, .iload_n 2, 1), (7, .ifCond .eq 5, 3), (10, .iload_n 2, 1), (11, .ireturn, 1), (12, .aload_n 0, 1), (13, .getfield 204, 3), (16, .bipush 12, 2), (18, .if_icmp .lt 6, 3), (21, .bipush (-5), 2), (23, .ireturn, 1), (24, .aload_n 0, 1), (25, .getfield 57, 3), (28, .aload_n 0, 1), (29, .getfield 204, 3), (32, .iload_n 1, 1), (33, .iastore, 1), (34, .aload_n 0, 1), (35, .dup, 1), (36, .getfield 204, 3), (39, .iconst 1, 1), (40, .iadd, 1), (41, .putfield 204, 3), (44, .aload_n 0, 1), (45, .getfield 204, 3), (48, .ireturn, 1)]
theorem tX6_row : dck cX6_row tbX6_row = true := by decide +kernel
def f_X6_row (N : Nat) (M : Mem) (x1 : Int32) : Option (Int32 × Mem) := (f_X6_refusalOf N M x1).bind fun q2 => (if q2 = 0 then (if (M 0 9) < (12 : Int32) then if inb (M 0 9) 12 = true then some ((up2 (up2 M 63 (M 0 9).toNatClampNeg x1) 0 9 (((up2 M 63 (M 0 9).toNatClampNeg x1) 0 9) + (1 : Int32))) 0 9, (up2 (up2 M 63 (M 0 9).toNatClampNeg x1) 0 9 (((up2 M 63 (M 0 9).toNatClampNeg x1) 0 9) + (1 : Int32)))) else none else some ((-5 : Int32), M)) else some (q2, M))
set_option maxHeartbeats 4000000 in
set_option maxRecDepth 100000 in
theorem c_X6_row {X : Cx} {l : Launch} (hX : CxOk X) (hS : SC X) {N : Nat} {M : Mem} {x1 : Int32} {r : Int32} {M' : Mem} (h : f_X6_row N M x1 = some (r, M')) : Ctr X l yX6_row cX6_row 3 (some .int) 3 [.ref 0, .int x1] M (some (.int r)) M' := by
  refine Ctr.ofG (L := [some (.ref 0), some (.int x1), none]) hX (by decide) (Nat.le_of_ble_eq_true rfl) rfl (fun F hF hl hR => ?_)
  subst hl
  unfold f_X6_row at h
  refine g_aload_n hF (dck_at tX6_row 0 rfl) rfl ?_
  refine g_iload_n hF (dck_at tX6_row 1 rfl) rfl ?_
  obtain ⟨q2, e2, h⟩ := bd h
  refine g_callV hF (as := [.int x1]) (k := 0) rfl (by decide) wm_X6_149 wi_X6_refusalOf we_X6_refusalOf wc_X6_refusalOf wn_X6 hyX6_refusalOf (by decide) (hS 0 (by decide)) kdc_0 (c_X6_refusalOf hF.2.2.2.2.2.2.2.1 hS e2) (by decide) rfl rfl rfl rfl (dck_at tX6_row 2 rfl) ?_
  show G X F 5 _ [.int q2] M
  refine g_istore_n (L' := [some (.ref 0), some (.int x1), some (.int q2)]) hF (dck_at tX6_row 3 rfl) (Nat.le_of_ble_eq_true rfl) rfl ?_
  refine g_iload_n hF (dck_at tX6_row 4 rfl) rfl ?_
  refine g_if_eq hF 12 (dck_at tX6_row 5 rfl) (by decide) (fun hc7 => ?_) (fun hc7 => ?_)
  · replace h := ite_t hc7 h
    refine g_aload_n hF (dck_at tX6_row 8 rfl) rfl ?_
    refine gf_X6_204 hF (hS 0 (by decide)) kdc_0 lnc_0 (dck_at tX6_row 9 rfl) ?_
    refine g_bipush (v := 12) hF (dck_at tX6_row 10 rfl) (by decide) ?_
    refine g_icmp_lt hF 24 (dck_at tX6_row 11 rfl) (by decide) (fun hc18 => ?_) (fun hc18 => ?_)
    · replace h := ite_t hc18 h
      refine g_aload_n hF (dck_at tX6_row 14 rfl) rfl ?_
      refine gf_X6_57 hF (hS 0 (by decide)) kdc_0 lnc_0 (dck_at tX6_row 15 rfl) ?_
      refine g_aload_n hF (dck_at tX6_row 16 rfl) rfl ?_
      refine gf_X6_204 hF (hS 0 (by decide)) kdc_0 lnc_0 (dck_at tX6_row 17 rfl) ?_
      refine g_iload_n hF (dck_at tX6_row 18 rfl) rfl ?_
      obtain ⟨hg33, h⟩ := gd h
      refine g_is hF (hS 63 (by decide)) kdc_63 lnc_63 hg33 (dck_at tX6_row 19 rfl) ?_
      show G X F 34 _ _ _
      refine g_aload_n hF (dck_at tX6_row 20 rfl) rfl ?_
      refine g_dup hF (dck_at tX6_row 21 rfl) rfl ?_
      refine gf_X6_204 hF (hS 0 (by decide)) kdc_0 lnc_0 (dck_at tX6_row 22 rfl) ?_
      refine g_iconst (v := 1) hF (dck_at tX6_row 23 rfl) (by decide) ?_
      refine g_iadd hF (dck_at tX6_row 24 rfl) ?_
      refine pf_X6_204 hF (hS 0 (by decide)) kdc_0 lnc_0 (dck_at tX6_row 25 rfl) ?_
      refine g_aload_n hF (dck_at tX6_row 26 rfl) rfl ?_
      show G X F 45 _ _ _
      refine gf_X6_204 hF (hS 0 (by decide)) kdc_0 lnc_0 (dck_at tX6_row 27 rfl) ?_
      cases h
      exact g_iret hF hR (dck_at tX6_row 28 rfl)
    · replace h := ite_f hc18 h
      refine g_bipush (v := -5) hF (dck_at tX6_row 12 rfl) (by decide) ?_
      cases h
      exact g_iret hF hR (dck_at tX6_row 13 rfl)
  · replace h := ite_f hc7 h
    refine g_iload_n hF (dck_at tX6_row 6 rfl) rfl ?_
    cases h
    exact g_iret hF hR (dck_at tX6_row 7 rfl)

def tbX6_tear : List (Nat × Instr × Nat) := [(0, .aload_n 0, 1), (1, .getfield 204, 3), (4, .istore_n 1, 1), (5, .aload_n 0, 1), (6, .iconst 0, 1), (7, .putfield 204, 3), (10, .iload_n 1, 1), (11, .ireturn, 1)]
theorem tX6_tear : dck cX6_tear tbX6_tear = true := by decide +kernel
def f_X6_tear (N : Nat) (M : Mem) : Option (Int32 × Mem) := some (M 0 9, (up2 M 0 9 (0 : Int32)))
set_option maxHeartbeats 4000000 in
set_option maxRecDepth 100000 in
theorem c_X6_tear {X : Cx} {l : Launch} (hX : CxOk X) (hS : SC X) {N : Nat} {M : Mem} {r : Int32} {M' : Mem} (h : f_X6_tear N M = some (r, M')) : Ctr X l yX6_tear cX6_tear 2 (some .int) 1 [.ref 0] M (some (.int r)) M' := by
  refine Ctr.ofG (L := [some (.ref 0), none]) hX (by decide) (Nat.le_of_ble_eq_true rfl) rfl (fun F hF hl hR => ?_)
  subst hl
  unfold f_X6_tear at h
  refine g_aload_n hF (dck_at tX6_tear 0 rfl) rfl ?_
  refine gf_X6_204 hF (hS 0 (by decide)) kdc_0 lnc_0 (dck_at tX6_tear 1 rfl) ?_
  refine g_istore_n (L' := [some (.ref 0), some (.int (M 0 9))]) hF (dck_at tX6_tear 2 rfl) (Nat.le_of_ble_eq_true rfl) rfl ?_
  refine g_aload_n hF (dck_at tX6_tear 3 rfl) rfl ?_
  refine g_iconst (v := 0) hF (dck_at tX6_tear 4 rfl) (by decide) ?_
  refine pf_X6_204 hF (hS 0 (by decide)) kdc_0 lnc_0 (dck_at tX6_tear 5 rfl) ?_
  show G X F 10 _ _ _
  refine g_iload_n hF (dck_at tX6_tear 6 rfl) rfl ?_
  cases h
  exact g_iret hF hR (dck_at tX6_tear 7 rfl)

def tbX6_judge : List (Nat × Instr × Nat) := [(0, .iload_n 1, 1), (1, .ifCond .eq 11, 3), (4, .iload_n 1, 1), (5, .iconst 1, 1), (6, .if_icmp .eq 6, 3), (9, .bipush (-3), 2), (11, .ireturn, 1), (12, .aload_n 0, 1), (13, .getfield 32, 3), (16, .aload_n 0, 1), (17, .getfield 28, 3), (20, .invokevirtual 180, 3), (23, .iconst 0, 1), (24, .istore_n 2, 1), (25, .iload_n 2, 1), (26, .aload_n 0, 1), (27, .getfield 204, 3), (30, .if_icmp .ge 38, 3), (33, .aload_n 0, 1), (34, .getfield 32, 3), (37, .aload_n 0, 1), (38, .getfield 57, 3), (41, .iload_n 2, 1), (42, .iaload, 1), (43, .invokevirtual 153, 3), (46, .ifCond .eq 22, 3), (49, .aload_n 0, 1), (50, .getfield 32, 3), (53, .aload_n 0, 1), (54, .getfield 57, 3), (57, .iload_n 2, 1), (58, .iaload, 1), (59, .invokevirtual 166, 3), (62, .iinc 2 1, 3), (65, .goto (-40), 3), (68, .iload_n 1, 1), (69, .iconst 1, 1), (70, .if_icmp .ne 11, 3), (73, .aload_n 0, 1), (74, .getfield 32, 3), (77, .invokevirtual 170, 3), (80, .ireturn, 1), (81, .iload_n 2, 1), (82, .aload_n 0, 1), (83, .getfield 204, 3), (86, .if_icmp .ge 7, 3), (89, .iload_n 2, 1), (90, .goto 4, 3), (93, .iconst (-1), 1), (94, .ireturn, 1)]
theorem tX6_judge : dck cX6_judge tbX6_judge = true := by decide +kernel
def f_X6_judge_L25 (N : Nat) (x1 : Int32) : Nat → Int32 → Mem → Option (Int32 × Mem)
  | 0, _, _ => none
  | n + 1, x2, M => (if (M 0 9) ≤ x2 then some (x2, M) else if inb x2 12 = true then (f_X1_isPossible N M 23 (M 63 x2.toNatClampNeg)).bind fun q43 => (if q43 = 0 then some (x2, M) else if inb x2 12 = true then (f_X1_take N M 23 (M 63 x2.toNatClampNeg)).bind fun q59 => f_X6_judge_L25 N x1 n (x2 + (1 : Int32)) q59 else none) else none)
def f_X6_judge (N : Nat) (M : Mem) (x1 : Int32) : Option (Int32 × Mem) := (if x1 = 0 then (f_X1_copyFrom N M 23 21).bind fun q20 => (f_X6_judge_L25 N x1 N (0 : Int32) q20).bind fun o25 => (if x1 = (1 : Int32) then (f_X1_noise N o25.2 23).bind fun q77 => some (q77, o25.2) else (if (o25.2 0 9) ≤ o25.1 then some ((-1 : Int32), o25.2) else some (o25.1, o25.2))) else (if x1 = (1 : Int32) then (f_X1_copyFrom N M 23 21).bind fun q20 => (f_X6_judge_L25 N x1 N (0 : Int32) q20).bind fun o25 => (if x1 = (1 : Int32) then (f_X1_noise N o25.2 23).bind fun q77 => some (q77, o25.2) else (if (o25.2 0 9) ≤ o25.1 then some ((-1 : Int32), o25.2) else some (o25.1, o25.2))) else some ((-3 : Int32), M)))
set_option maxHeartbeats 4000000 in
set_option maxRecDepth 100000 in
theorem g_X6_judge_L25 {X : Cx} {F : Fx} (hS : SC X) (hF : FK X F cX6_judge RX6 3 5) (N : Nat) (x1 : Int32) : ∀ (n : Nat) (x2 : Int32) (M : Mem) (o : Int32 × Mem), f_X6_judge_L25 N x1 n x2 M = some o → G X F 68 [some (.ref 0), some (.int x1), some (.int o.1)] [] o.2 → G X F 25 [some (.ref 0), some (.int x1), some (.int x2)] [] M := by
  intro n
  induction n with
  | zero =>
    intro x2 M o h K
    cases h
  | succ n ih =>
    intro x2 M o h K
    rw [f_X6_judge_L25] at h
    refine g_iload_n hF (dck_at tX6_judge 14 rfl) rfl ?_
    refine g_aload_n hF (dck_at tX6_judge 15 rfl) rfl ?_
    refine gf_X6_204 hF (hS 0 (by decide)) kdc_0 lnc_0 (dck_at tX6_judge 16 rfl) ?_
    refine g_icmp_ge hF 68 (dck_at tX6_judge 17 rfl) (by decide) (fun hc30 => ?_) (fun hc30 => ?_)
    · replace h := ite_t hc30 h
      cases h
      exact K
    · replace h := ite_f hc30 h
      refine g_aload_n hF (dck_at tX6_judge 18 rfl) rfl ?_
      refine gf_X6_32 hF (hS 0 (by decide)) kdc_0 lnc_0 (dck_at tX6_judge 19 rfl) ?_
      refine g_aload_n hF (dck_at tX6_judge 20 rfl) rfl ?_
      refine gf_X6_57 hF (hS 0 (by decide)) kdc_0 lnc_0 (dck_at tX6_judge 21 rfl) ?_
      refine g_iload_n hF (dck_at tX6_judge 22 rfl) rfl ?_
      obtain ⟨hg42, h⟩ := gd h
      refine g_ia hF (hS 63 (by decide)) kdc_63 lnc_63 hg42 (dck_at tX6_judge 23 rfl) ?_
      show G X F 43 _ _ _
      obtain ⟨q43, e43, h⟩ := bd h
      refine g_callV hF (as := [.int (M 63 x2.toNatClampNeg)]) (k := 23) rfl (by decide) wm_X6_153 wi_X1_isPossible we_X1_isPossible wc_X1_isPossible wn_X1 hyX1_isPossible (by decide) (hS 23 (by decide)) kdc_23 (c_X1_isPossible hF.2.2.2.2.2.2.2.1 hS evc_23 e43) (by decide) rfl rfl rfl rfl (dck_at tX6_judge 24 rfl) ?_
      show G X F 46 _ [.int q43] M
      refine g_if_eq hF 68 (dck_at tX6_judge 25 rfl) (by decide) (fun hc46 => ?_) (fun hc46 => ?_)
      · replace h := ite_t hc46 h
        cases h
        exact K
      · replace h := ite_f hc46 h
        refine g_aload_n hF (dck_at tX6_judge 26 rfl) rfl ?_
        refine gf_X6_32 hF (hS 0 (by decide)) kdc_0 lnc_0 (dck_at tX6_judge 27 rfl) ?_
        refine g_aload_n hF (dck_at tX6_judge 28 rfl) rfl ?_
        refine gf_X6_57 hF (hS 0 (by decide)) kdc_0 lnc_0 (dck_at tX6_judge 29 rfl) ?_
        refine g_iload_n hF (dck_at tX6_judge 30 rfl) rfl ?_
        obtain ⟨hg58, h⟩ := gd h
        refine g_ia hF (hS 63 (by decide)) kdc_63 lnc_63 hg58 (dck_at tX6_judge 31 rfl) ?_
        show G X F 59 _ _ _
        obtain ⟨q59, e59, h⟩ := bd h
        refine g_callV hF (as := [.int (M 63 x2.toNatClampNeg)]) (k := 23) rfl (by decide) wm_X6_166 wi_X1_take we_X1_take wc_X1_take wn_X1 hyX1_take (by decide) (hS 23 (by decide)) kdc_23 (c_X1_take hF.2.2.2.2.2.2.2.1 hS evc_23 e59) (by decide) rfl rfl rfl rfl (dck_at tX6_judge 32 rfl) ?_
        show G X F 62 _ [] q59
        refine g_iinc (v := 1) (L' := [some (.ref 0), some (.int x1), some (.int (x2 + (1 : Int32)))]) hF (dck_at tX6_judge 33 rfl) rfl (by decide) rfl ?_
        refine g_goto hF 25 (dck_at tX6_judge 34 rfl) (by decide) ?_
        exact ih _ _ _ h K
set_option maxHeartbeats 4000000 in
set_option maxRecDepth 100000 in
theorem c_X6_judge {X : Cx} {l : Launch} (hX : CxOk X) (hS : SC X) {N : Nat} {M : Mem} {x1 : Int32} {r : Int32} {M' : Mem} (h : f_X6_judge N M x1 = some (r, M')) : Ctr X l yX6_judge cX6_judge 3 (some .int) 5 [.ref 0, .int x1] M (some (.int r)) M' := by
  refine Ctr.ofG (L := [some (.ref 0), some (.int x1), none]) hX (by decide) (Nat.le_of_ble_eq_true rfl) rfl (fun F hF hl hR => ?_)
  subst hl
  unfold f_X6_judge at h
  refine g_iload_n hF (dck_at tX6_judge 0 rfl) rfl ?_
  refine g_if_eq hF 12 (dck_at tX6_judge 1 rfl) (by decide) (fun hc1 => ?_) (fun hc1 => ?_)
  · replace h := ite_t hc1 h
    refine g_aload_n hF (dck_at tX6_judge 7 rfl) rfl ?_
    refine gf_X6_32 hF (hS 0 (by decide)) kdc_0 lnc_0 (dck_at tX6_judge 8 rfl) ?_
    refine g_aload_n hF (dck_at tX6_judge 9 rfl) rfl ?_
    refine gf_X6_28 hF (hS 0 (by decide)) kdc_0 lnc_0 (dck_at tX6_judge 10 rfl) ?_
    obtain ⟨q20, e20, h⟩ := bd h
    refine g_callV hF (as := [.ref 21]) (k := 23) rfl (by decide) wm_X6_180 wi_X1_copyFrom we_X1_copyFrom wc_X1_copyFrom wn_X1 hyX1_copyFrom (by decide) (hS 23 (by decide)) kdc_23 (c_X1_copyFrom hF.2.2.2.2.2.2.2.1 hS evc_23 evc_21 e20) (by decide) rfl rfl rfl rfl (dck_at tX6_judge 11 rfl) ?_
    show G X F 23 _ [] q20
    refine g_iconst (v := 0) hF (dck_at tX6_judge 12 rfl) (by decide) ?_
    show G X F 24 _ _ _
    refine g_istore_n (L' := [some (.ref 0), some (.int x1), some (.int (0 : Int32))]) hF (dck_at tX6_judge 13 rfl) (Nat.le_of_ble_eq_true rfl) rfl ?_
    obtain ⟨o25, e25, h⟩ := bd h
    refine g_X6_judge_L25 hS hF N _ N _ _ _ e25 ?_
    refine g_iload_n hF (dck_at tX6_judge 35 rfl) rfl ?_
    refine g_iconst (v := 1) hF (dck_at tX6_judge 36 rfl) (by decide) ?_
    refine g_icmp_ne hF 81 (dck_at tX6_judge 37 rfl) (by decide) (fun hc70 => ?_) (fun hc70 => ?_)
    · replace h := ite_f hc70 h
      refine g_iload_n hF (dck_at tX6_judge 42 rfl) rfl ?_
      refine g_aload_n hF (dck_at tX6_judge 43 rfl) rfl ?_
      refine gf_X6_204 hF (hS 0 (by decide)) kdc_0 lnc_0 (dck_at tX6_judge 44 rfl) ?_
      refine g_icmp_ge hF 93 (dck_at tX6_judge 45 rfl) (by decide) (fun hc86 => ?_) (fun hc86 => ?_)
      · replace h := ite_t hc86 h
        refine g_iconst (v := -1) hF (dck_at tX6_judge 48 rfl) (by decide) ?_
        cases h
        exact g_iret hF hR (dck_at tX6_judge 49 rfl)
      · replace h := ite_f hc86 h
        refine g_iload_n hF (dck_at tX6_judge 46 rfl) rfl ?_
        refine g_goto hF 94 (dck_at tX6_judge 47 rfl) (by decide) ?_
        cases h
        exact g_iret hF hR (dck_at tX6_judge 49 rfl)
    · replace h := ite_t hc70 h
      refine g_aload_n hF (dck_at tX6_judge 38 rfl) rfl ?_
      refine gf_X6_32 hF (hS 0 (by decide)) kdc_0 lnc_0 (dck_at tX6_judge 39 rfl) ?_
      obtain ⟨q77, e77, h⟩ := bd h
      refine g_callV hF (as := []) (k := 23) rfl (by decide) wm_X6_170 wi_X1_noise we_X1_noise wc_X1_noise wn_X1 hyX1_noise (by decide) (hS 23 (by decide)) kdc_23 (c_X1_noise hF.2.2.2.2.2.2.2.1 hS evc_23 e77) (by decide) rfl rfl rfl rfl (dck_at tX6_judge 40 rfl) ?_
      show G X F 80 _ [.int q77] o25.2
      cases h
      exact g_iret hF hR (dck_at tX6_judge 41 rfl)
  · replace h := ite_f hc1 h
    refine g_iload_n hF (dck_at tX6_judge 2 rfl) rfl ?_
    refine g_iconst (v := 1) hF (dck_at tX6_judge 3 rfl) (by decide) ?_
    refine g_icmp_eq hF 12 (dck_at tX6_judge 4 rfl) (by decide) (fun hc6 => ?_) (fun hc6 => ?_)
    · replace h := ite_t hc6 h
      refine g_aload_n hF (dck_at tX6_judge 7 rfl) rfl ?_
      refine gf_X6_32 hF (hS 0 (by decide)) kdc_0 lnc_0 (dck_at tX6_judge 8 rfl) ?_
      refine g_aload_n hF (dck_at tX6_judge 9 rfl) rfl ?_
      refine gf_X6_28 hF (hS 0 (by decide)) kdc_0 lnc_0 (dck_at tX6_judge 10 rfl) ?_
      obtain ⟨q20, e20, h⟩ := bd h
      refine g_callV hF (as := [.ref 21]) (k := 23) rfl (by decide) wm_X6_180 wi_X1_copyFrom we_X1_copyFrom wc_X1_copyFrom wn_X1 hyX1_copyFrom (by decide) (hS 23 (by decide)) kdc_23 (c_X1_copyFrom hF.2.2.2.2.2.2.2.1 hS evc_23 evc_21 e20) (by decide) rfl rfl rfl rfl (dck_at tX6_judge 11 rfl) ?_
      show G X F 23 _ [] q20
      refine g_iconst (v := 0) hF (dck_at tX6_judge 12 rfl) (by decide) ?_
      show G X F 24 _ _ _
      refine g_istore_n (L' := [some (.ref 0), some (.int x1), some (.int (0 : Int32))]) hF (dck_at tX6_judge 13 rfl) (Nat.le_of_ble_eq_true rfl) rfl ?_
      obtain ⟨o25, e25, h⟩ := bd h
      refine g_X6_judge_L25 hS hF N _ N _ _ _ e25 ?_
      refine g_iload_n hF (dck_at tX6_judge 35 rfl) rfl ?_
      refine g_iconst (v := 1) hF (dck_at tX6_judge 36 rfl) (by decide) ?_
      refine g_icmp_ne hF 81 (dck_at tX6_judge 37 rfl) (by decide) (fun hc70 => ?_) (fun hc70 => ?_)
      · replace h := ite_f hc70 h
        refine g_iload_n hF (dck_at tX6_judge 42 rfl) rfl ?_
        refine g_aload_n hF (dck_at tX6_judge 43 rfl) rfl ?_
        refine gf_X6_204 hF (hS 0 (by decide)) kdc_0 lnc_0 (dck_at tX6_judge 44 rfl) ?_
        refine g_icmp_ge hF 93 (dck_at tX6_judge 45 rfl) (by decide) (fun hc86 => ?_) (fun hc86 => ?_)
        · replace h := ite_t hc86 h
          refine g_iconst (v := -1) hF (dck_at tX6_judge 48 rfl) (by decide) ?_
          cases h
          exact g_iret hF hR (dck_at tX6_judge 49 rfl)
        · replace h := ite_f hc86 h
          refine g_iload_n hF (dck_at tX6_judge 46 rfl) rfl ?_
          refine g_goto hF 94 (dck_at tX6_judge 47 rfl) (by decide) ?_
          cases h
          exact g_iret hF hR (dck_at tX6_judge 49 rfl)
      · replace h := ite_t hc70 h
        refine g_aload_n hF (dck_at tX6_judge 38 rfl) rfl ?_
        refine gf_X6_32 hF (hS 0 (by decide)) kdc_0 lnc_0 (dck_at tX6_judge 39 rfl) ?_
        obtain ⟨q77, e77, h⟩ := bd h
        refine g_callV hF (as := []) (k := 23) rfl (by decide) wm_X6_170 wi_X1_noise we_X1_noise wc_X1_noise wn_X1 hyX1_noise (by decide) (hS 23 (by decide)) kdc_23 (c_X1_noise hF.2.2.2.2.2.2.2.1 hS evc_23 e77) (by decide) rfl rfl rfl rfl (dck_at tX6_judge 40 rfl) ?_
        show G X F 80 _ [.int q77] o25.2
        cases h
        exact g_iret hF hR (dck_at tX6_judge 41 rfl)
    · replace h := ite_f hc6 h
      refine g_bipush (v := -3) hF (dck_at tX6_judge 5 rfl) (by decide) ?_
      cases h
      exact g_iret hF hR (dck_at tX6_judge 6 rfl)

def tbX6_stay : List (Nat × Instr × Nat) := [(0, .iload_n 1, 1), (1, .ifCond .lt 28, 3), (4, .iload_n 1, 1), (5, .bipush 8, 2), (7, .if_icmp .gt 22, 3), (10, .iload_n 2, 1), (11, .ifCond .lt 18, 3), (14, .iload_n 2, 1), (15, .bipush 10, 2), (17, .if_icmp .gt 12, 3), (20, .iload_n 3, 1), (21, .ifCond .lt 8, 3), (24, .iload_n 3, 1), (25, .iconst 1, 1), (26, .if_icmp .le 7, 3), (29, .ldc2_w 207, 3), (32, .lreturn, 1), (33, .aload_n 0, 1), (34, .getfield 28, 3), (37, .getfield 185, 3), (40, .invokestatic 209, 3), (43, .istore 4, 2), (45, .iload 4, 2), (47, .iload_n 1, 1), (48, .iload_n 2, 1), (49, .invokestatic 214, 3), (52, .lstore 5, 2), (54, .bipush 10, 2), (56, .iload 4, 2), (58, .invokestatic 218, 3), (61, .lstore 7, 2), (63, .lload 5, 2), (65, .lload 7, 2), (67, .invokestatic 222, 3), (70, .lstore 9, 2), (72, .lload 9, 2), (74, .lconst 1, 1), (75, .lcmp, 1), (76, .ifCond .ge 6, 3), (79, .lconst 1, 1), (80, .lstore 9, 2), (82, .iload_n 3, 1), (83, .ifCond .ne 11, 3), (86, .lload 5, 2), (88, .lload 9, 2), (90, .ldiv, 1), (91, .goto 8, 3), (94, .lload 7, 2), (96, .lload 9, 2), (98, .ldiv, 1), (99, .lreturn, 1)]
theorem tX6_stay : dck cX6_stay tbX6_stay = true := by decide +kernel
def f_X6_stay (N : Nat) (M : Mem) (x1 : Int32) (x2 : Int32) (x3 : Int32) : Option Int64 := (if x1 < 0 then some (-3 : Int64) else (if (8 : Int32) < x1 then some (-3 : Int64) else (if x2 < 0 then some (-3 : Int64) else (if (10 : Int32) < x2 then some (-3 : Int64) else (if x3 < 0 then some (-3 : Int64) else (if x3 ≤ (1 : Int32) then (f_J6_bitCount_0f7a4 N M (M 21 1)).bind fun q40 => (f_X6_waysToStay N M q40 x1 x2).bind fun q49 => (f_X6_power N M (10 : Int32) q40).bind fun q58 => (f_X6_commonDivisor N M q49 q58).bind fun q67 => (if x3 = 0 then if nz64 (if 0 ≤ (lg_cmp q67 (1 : Int64)) then q67 else (1 : Int64)) = true then some (q49 / (if 0 ≤ (lg_cmp q67 (1 : Int64)) then q67 else (1 : Int64))) else none else if nz64 (if 0 ≤ (lg_cmp q67 (1 : Int64)) then q67 else (1 : Int64)) = true then some (q58 / (if 0 ≤ (lg_cmp q67 (1 : Int64)) then q67 else (1 : Int64))) else none) else some (-3 : Int64)))))))
set_option maxHeartbeats 4000000 in
set_option maxRecDepth 100000 in
theorem c_X6_stay {X : Cx} {l : Launch} (hX : CxOk X) (hS : SC X) {N : Nat} {M : Mem} {x1 : Int32} {x2 : Int32} {x3 : Int32} {r : Int64} (h : f_X6_stay N M x1 x2 x3 = some r) : Ctr X l yX6_stay cX6_stay 11 (some .long) 3 [.ref 0, .int x1, .int x2, .int x3] M (some (.long r)) M := by
  refine Ctr.ofG (L := [some (.ref 0), some (.int x1), some (.int x2), some (.int x3), none, none, none, none, none, none, none]) hX (by decide) (Nat.le_of_ble_eq_true rfl) rfl (fun F hF hl hR => ?_)
  subst hl
  unfold f_X6_stay at h
  refine g_iload_n hF (dck_at tX6_stay 0 rfl) rfl ?_
  refine g_if_lt hF 29 (dck_at tX6_stay 1 rfl) (by decide) (fun hc1 => ?_) (fun hc1 => ?_)
  · replace h := ite_t hc1 h
    refine g_ldc2 hF wk_X6_207 (dck_at tX6_stay 15 rfl) ?_
    cases h
    exact g_lret hF hR (dck_at tX6_stay 16 rfl)
  · replace h := ite_f hc1 h
    refine g_iload_n hF (dck_at tX6_stay 2 rfl) rfl ?_
    refine g_bipush (v := 8) hF (dck_at tX6_stay 3 rfl) (by decide) ?_
    refine g_icmp_gt hF 29 (dck_at tX6_stay 4 rfl) (by decide) (fun hc7 => ?_) (fun hc7 => ?_)
    · replace h := ite_t hc7 h
      refine g_ldc2 hF wk_X6_207 (dck_at tX6_stay 15 rfl) ?_
      cases h
      exact g_lret hF hR (dck_at tX6_stay 16 rfl)
    · replace h := ite_f hc7 h
      refine g_iload_n hF (dck_at tX6_stay 5 rfl) rfl ?_
      refine g_if_lt hF 29 (dck_at tX6_stay 6 rfl) (by decide) (fun hc11 => ?_) (fun hc11 => ?_)
      · replace h := ite_t hc11 h
        refine g_ldc2 hF wk_X6_207 (dck_at tX6_stay 15 rfl) ?_
        cases h
        exact g_lret hF hR (dck_at tX6_stay 16 rfl)
      · replace h := ite_f hc11 h
        refine g_iload_n hF (dck_at tX6_stay 7 rfl) rfl ?_
        refine g_bipush (v := 10) hF (dck_at tX6_stay 8 rfl) (by decide) ?_
        refine g_icmp_gt hF 29 (dck_at tX6_stay 9 rfl) (by decide) (fun hc17 => ?_) (fun hc17 => ?_)
        · replace h := ite_t hc17 h
          refine g_ldc2 hF wk_X6_207 (dck_at tX6_stay 15 rfl) ?_
          cases h
          exact g_lret hF hR (dck_at tX6_stay 16 rfl)
        · replace h := ite_f hc17 h
          refine g_iload_n hF (dck_at tX6_stay 10 rfl) rfl ?_
          refine g_if_lt hF 29 (dck_at tX6_stay 11 rfl) (by decide) (fun hc21 => ?_) (fun hc21 => ?_)
          · replace h := ite_t hc21 h
            refine g_ldc2 hF wk_X6_207 (dck_at tX6_stay 15 rfl) ?_
            cases h
            exact g_lret hF hR (dck_at tX6_stay 16 rfl)
          · replace h := ite_f hc21 h
            refine g_iload_n hF (dck_at tX6_stay 12 rfl) rfl ?_
            refine g_iconst (v := 1) hF (dck_at tX6_stay 13 rfl) (by decide) ?_
            refine g_icmp_le hF 33 (dck_at tX6_stay 14 rfl) (by decide) (fun hc26 => ?_) (fun hc26 => ?_)
            · replace h := ite_t hc26 h
              refine g_aload_n hF (dck_at tX6_stay 17 rfl) rfl ?_
              refine gf_X6_28 hF (hS 0 (by decide)) kdc_0 lnc_0 (dck_at tX6_stay 18 rfl) ?_
              refine gf_X6_185 hF (hS 21 (by decide)) kdc_21 lnc_21 (dck_at tX6_stay 19 rfl) ?_
              obtain ⟨q40, e40, h⟩ := bd h
              refine g_callS hF (as := [.int (M 21 1)]) wm_X6_209 wt_J6_bitCount_0f7a4 wc_J6_bitCount_0f7a4 wn_J6 hyJ6_bitCount_0f7a4 (by decide) (c_J6_bitCount_0f7a4 hF.2.2.2.2.2.2.2.1 e40) (by decide) rfl rfl rfl rfl (dck_at tX6_stay 20 rfl) ?_
              show G X F 43 _ [.int q40] M
              refine g_istore (L' := [some (.ref 0), some (.int x1), some (.int x2), some (.int x3), some (.int q40), none, none, none, none, none, none]) hF (dck_at tX6_stay 21 rfl) (Nat.le_of_ble_eq_true rfl) rfl ?_
              refine g_iload hF (dck_at tX6_stay 22 rfl) rfl ?_
              show G X F 47 _ _ _
              refine g_iload_n hF (dck_at tX6_stay 23 rfl) rfl ?_
              refine g_iload_n hF (dck_at tX6_stay 24 rfl) rfl ?_
              obtain ⟨q49, e49, h⟩ := bd h
              refine g_callS hF (as := [.int q40, .int x1, .int x2]) wm_X6_214 wt_X6_waysToStay wc_X6_waysToStay wn_X6 hyX6_waysToStay (by decide) (c_X6_waysToStay hF.2.2.2.2.2.2.2.1 e49) (by decide) rfl rfl rfl rfl (dck_at tX6_stay 25 rfl) ?_
              show G X F 52 _ [.long q49] M
              refine g_lstore (L' := [some (.ref 0), some (.int x1), some (.int x2), some (.int x3), some (.int q40), some (.long q49), none, none, none, none, none]) hF (dck_at tX6_stay 26 rfl) (Nat.le_of_ble_eq_true rfl) rfl ?_
              refine g_bipush (v := 10) hF (dck_at tX6_stay 27 rfl) (by decide) ?_
              refine g_iload hF (dck_at tX6_stay 28 rfl) rfl ?_
              obtain ⟨q58, e58, h⟩ := bd h
              refine g_callS hF (as := [.int (10 : Int32), .int q40]) wm_X6_218 wt_X6_power wc_X6_power wn_X6 hyX6_power (by decide) (c_X6_power hF.2.2.2.2.2.2.2.1 e58) (by decide) rfl rfl rfl rfl (dck_at tX6_stay 29 rfl) ?_
              show G X F 61 _ [.long q58] M
              show G X F 61 _ _ _
              refine g_lstore (L' := [some (.ref 0), some (.int x1), some (.int x2), some (.int x3), some (.int q40), some (.long q49), none, some (.long q58), none, none, none]) hF (dck_at tX6_stay 30 rfl) (Nat.le_of_ble_eq_true rfl) rfl ?_
              refine g_lload hF (dck_at tX6_stay 31 rfl) rfl ?_
              refine g_lload hF (dck_at tX6_stay 32 rfl) rfl ?_
              obtain ⟨q67, e67, h⟩ := bd h
              refine g_callS hF (as := [.long q49, .long q58]) wm_X6_222 wt_X6_commonDivisor wc_X6_commonDivisor wn_X6 hyX6_commonDivisor (by decide) (c_X6_commonDivisor hF.2.2.2.2.2.2.2.1 e67) (by decide) rfl rfl rfl rfl (dck_at tX6_stay 33 rfl) ?_
              show G X F 70 _ [.long q67] M
              refine g_lstore (L' := [some (.ref 0), some (.int x1), some (.int x2), some (.int x3), some (.int q40), some (.long q49), none, some (.long q58), none, some (.long q67), none]) hF (dck_at tX6_stay 34 rfl) (Nat.le_of_ble_eq_true rfl) rfl ?_
              refine g_lload hF (dck_at tX6_stay 35 rfl) rfl ?_
              refine g_lconst (v := 1) hF (dck_at tX6_stay 36 rfl) (by decide) ?_
              show G X F 75 _ _ _
              refine g_lcmp hF (dck_at tX6_stay 37 rfl) ?_
              have K82 : G X F 82 [none, none, none, some (.int x3), none, some (.long q49), none, some (.long q58), none, some (.long (if 0 ≤ (lg_cmp q67 (1 : Int64)) then q67 else (1 : Int64))), none] [] M := by
                refine g_iload_n hF (dck_at tX6_stay 41 rfl) rfl ?_
                refine g_if_ne hF 94 (dck_at tX6_stay 42 rfl) (by decide) (fun hc83 => ?_) (fun hc83 => ?_)
                · replace h := ite_f hc83 h
                  refine g_lload hF (dck_at tX6_stay 47 rfl) rfl ?_
                  refine g_lload hF (dck_at tX6_stay 48 rfl) rfl ?_
                  obtain ⟨hg98, h⟩ := gd h
                  refine g_ldiv hF (dck_at tX6_stay 49 rfl) (nz64_n hg98) ?_
                  cases h
                  exact g_lret hF hR (dck_at tX6_stay 50 rfl)
                · replace h := ite_t hc83 h
                  refine g_lload hF (dck_at tX6_stay 43 rfl) rfl ?_
                  refine g_lload hF (dck_at tX6_stay 44 rfl) rfl ?_
                  obtain ⟨hg90, h⟩ := gd h
                  refine g_ldiv hF (dck_at tX6_stay 45 rfl) (nz64_n hg90) ?_
                  refine g_goto hF 99 (dck_at tX6_stay 46 rfl) (by decide) ?_
                  cases h
                  exact g_lret hF hR (dck_at tX6_stay 50 rfl)
              refine g_if_ge hF 82 (dck_at tX6_stay 38 rfl) (by decide) (fun hc76 => ?_) (fun hc76 => ?_)
              · refine g_msk [false, false, false, true, false, true, true, true, true, true, true] (L' := [none, none, none, some (.int x3), none, some (.long q49), none, some (.long q58), none, some (.long q67), none]) rfl ?_
                simp only [if_pos hc76] at K82
                exact K82
              · refine g_lconst (v := 1) hF (dck_at tX6_stay 39 rfl) (by decide) ?_
                refine g_lstore (L' := [some (.ref 0), some (.int x1), some (.int x2), some (.int x3), some (.int q40), some (.long q49), none, some (.long q58), none, some (.long (1 : Int64)), none]) hF (dck_at tX6_stay 40 rfl) (Nat.le_of_ble_eq_true rfl) rfl ?_
                refine g_msk [false, false, false, true, false, true, true, true, true, true, true] (L' := [none, none, none, some (.int x3), none, some (.long q49), none, some (.long q58), none, some (.long (1 : Int64)), none]) rfl ?_
                simp only [if_neg hc76] at K82
                exact K82
            · replace h := ite_f hc26 h
              refine g_ldc2 hF wk_X6_207 (dck_at tX6_stay 15 rfl) ?_
              cases h
              exact g_lret hF hR (dck_at tX6_stay 16 rfl)

def tbX6_gone : List (Nat × Instr × Nat) := [(0, .iload_n 1, 1), (1, .ifCond .lt 19, 3), (4, .iload_n 1, 1), (5, .sipush 400, 3), (8, .if_icmp .gt 12, 3), (11, .iload_n 2, 1), (12, .ifCond .lt 8, 3), (15, .iload_n 2, 1), (16, .iconst 1, 1), (17, .if_icmp .le 6, 3), (20, .bipush (-3), 2), (22, .ireturn, 1), (23, .aload_n 0, 1), (24, .getfield 28, 3), (27, .invokevirtual 134, 3), (30, .istore_n 3, 1), (31, .iconst 0, 1), (32, .istore 4, 2), (34, .iconst (-1), 1), (35, .istore 5, 2), (37, .iconst 0, 1), (38, .istore 6, 2), (40, .iload 6, 2), (42, .sipush 256, 3), (45, .if_icmp .ge 44, 3), (48, .iload 6, 2), (50, .iload_n 3, 1), (51, .iconst (-1), 1), (52, .ixor, 1), (53, .iand, 1), (54, .ifCond .ne 29, 3), (57, .aload_n 0, 1), (58, .getfield 28, 3), (61, .iload 6, 2), (63, .invokevirtual 226, 3), (66, .iload_n 1, 1), (67, .if_icmp .ne 16, 3), (70, .iinc 4 1, 3), (73, .iload 5, 2), (75, .iconst (-1), 1), (76, .if_icmp .ne 7, 3), (79, .iload 6, 2), (81, .istore 5, 2), (83, .iinc 6 1, 3), (86, .goto (-46), 3), (89, .iload_n 2, 1), (90, .ifCond .ne 8, 3), (93, .iload 4, 2), (95, .goto 5, 3), (98, .iload 5, 2), (100, .ireturn, 1)]
theorem tX6_gone : dck cX6_gone tbX6_gone = true := by decide +kernel
def f_X6_gone_L40 (N : Nat) (M : Mem) (x1 : Int32) (x2 : Int32) (x3 : Int32) : Nat → Int32 → Int32 → Int32 → Option (Int32 × Int32 × Int32)
  | 0, _, _, _ => none
  | n + 1, x4, x5, x6 => (if (256 : Int32) ≤ x6 then some (x4, x5, x6) else (if (x6 &&& (x3 ^^^ (-1 : Int32))) = 0 then (f_X1_zealOf N M 21 x6).bind fun q63 => (if q63 = x1 then (if x5 = (-1 : Int32) then f_X6_gone_L40 N M x1 x2 x3 n (x4 + (1 : Int32)) x6 (x6 + (1 : Int32)) else f_X6_gone_L40 N M x1 x2 x3 n (x4 + (1 : Int32)) x5 (x6 + (1 : Int32))) else f_X6_gone_L40 N M x1 x2 x3 n x4 x5 (x6 + (1 : Int32))) else f_X6_gone_L40 N M x1 x2 x3 n x4 x5 (x6 + (1 : Int32))))
def f_X6_gone (N : Nat) (M : Mem) (x1 : Int32) (x2 : Int32) : Option Int32 := (if x1 < 0 then some (-3 : Int32) else (if (400 : Int32) < x1 then some (-3 : Int32) else (if x2 < 0 then some (-3 : Int32) else (if x2 ≤ (1 : Int32) then (f_X1_whoClaps N M 21).bind fun q27 => (f_X6_gone_L40 N M x1 x2 q27 N (0 : Int32) (-1 : Int32) (0 : Int32)).bind fun o40 => (if x2 = 0 then some o40.1 else some o40.2.1) else some (-3 : Int32)))))
set_option maxHeartbeats 4000000 in
set_option maxRecDepth 100000 in
theorem g_X6_gone_L40 {X : Cx} {F : Fx} (hS : SC X) (hF : FK X F cX6_gone RX6 7 3) (N : Nat) (M : Mem) (x1 : Int32) (x2 : Int32) (x3 : Int32) : ∀ (n : Nat) (x4 : Int32) (x5 : Int32) (x6 : Int32) (o : Int32 × Int32 × Int32), f_X6_gone_L40 N M x1 x2 x3 n x4 x5 x6 = some o → G X F 89 [none, none, some (.int x2), none, some (.int o.1), some (.int o.2.1), none] [] M → G X F 40 [some (.ref 0), some (.int x1), some (.int x2), some (.int x3), some (.int x4), some (.int x5), some (.int x6)] [] M := by
  intro n
  induction n with
  | zero =>
    intro x4 x5 x6 o h K
    cases h
  | succ n ih =>
    intro x4 x5 x6 o h K
    rw [f_X6_gone_L40] at h
    refine g_iload hF (dck_at tX6_gone 22 rfl) rfl ?_
    refine g_sipush (v := 256) hF (dck_at tX6_gone 23 rfl) (by decide) ?_
    refine g_icmp_ge hF 89 (dck_at tX6_gone 24 rfl) (by decide) (fun hc45 => ?_) (fun hc45 => ?_)
    · replace h := ite_t hc45 h
      refine g_msk [false, false, true, false, true, true, false] (L' := [none, none, some (.int x2), none, some (.int x4), some (.int x5), none]) rfl ?_
      cases h
      exact K
    · replace h := ite_f hc45 h
      refine g_iload hF (dck_at tX6_gone 25 rfl) rfl ?_
      refine g_iload_n hF (dck_at tX6_gone 26 rfl) rfl ?_
      refine g_iconst (v := -1) hF (dck_at tX6_gone 27 rfl) (by decide) ?_
      refine g_ixor hF (dck_at tX6_gone 28 rfl) ?_
      refine g_iand hF (dck_at tX6_gone 29 rfl) ?_
      refine g_if_ne hF 83 (dck_at tX6_gone 30 rfl) (by decide) (fun hc54 => ?_) (fun hc54 => ?_)
      · replace h := ite_f hc54 h
        refine g_iinc (v := 1) (L' := [some (.ref 0), some (.int x1), some (.int x2), some (.int x3), some (.int x4), some (.int x5), some (.int (x6 + (1 : Int32)))]) hF (dck_at tX6_gone 43 rfl) rfl (by decide) rfl ?_
        refine g_goto hF 40 (dck_at tX6_gone 44 rfl) (by decide) ?_
        exact ih _ _ _ _ h K
      · replace h := ite_t hc54 h
        refine g_aload_n hF (dck_at tX6_gone 31 rfl) rfl ?_
        refine gf_X6_28 hF (hS 0 (by decide)) kdc_0 lnc_0 (dck_at tX6_gone 32 rfl) ?_
        refine g_iload hF (dck_at tX6_gone 33 rfl) rfl ?_
        obtain ⟨q63, e63, h⟩ := bd h
        refine g_callV hF (as := [.int x6]) (k := 21) rfl (by decide) wm_X6_226 wi_X1_zealOf we_X1_zealOf wc_X1_zealOf wn_X1 hyX1_zealOf (by decide) (hS 21 (by decide)) kdc_21 (c_X1_zealOf hF.2.2.2.2.2.2.2.1 hS evc_21 e63) (by decide) rfl rfl rfl rfl (dck_at tX6_gone 34 rfl) ?_
        show G X F 66 _ [.int q63] M
        refine g_iload_n hF (dck_at tX6_gone 35 rfl) rfl ?_
        refine g_icmp_ne hF 83 (dck_at tX6_gone 36 rfl) (by decide) (fun hc67 => ?_) (fun hc67 => ?_)
        · replace h := ite_f hc67 h
          refine g_iinc (v := 1) (L' := [some (.ref 0), some (.int x1), some (.int x2), some (.int x3), some (.int x4), some (.int x5), some (.int (x6 + (1 : Int32)))]) hF (dck_at tX6_gone 43 rfl) rfl (by decide) rfl ?_
          refine g_goto hF 40 (dck_at tX6_gone 44 rfl) (by decide) ?_
          exact ih _ _ _ _ h K
        · replace h := ite_t hc67 h
          refine g_iinc (v := 1) (L' := [some (.ref 0), some (.int x1), some (.int x2), some (.int x3), some (.int (x4 + (1 : Int32))), some (.int x5), some (.int x6)]) hF (dck_at tX6_gone 37 rfl) rfl (by decide) rfl ?_
          refine g_iload hF (dck_at tX6_gone 38 rfl) rfl ?_
          refine g_iconst (v := -1) hF (dck_at tX6_gone 39 rfl) (by decide) ?_
          refine g_icmp_ne hF 83 (dck_at tX6_gone 40 rfl) (by decide) (fun hc76 => ?_) (fun hc76 => ?_)
          · replace h := ite_f hc76 h
            refine g_iinc (v := 1) (L' := [some (.ref 0), some (.int x1), some (.int x2), some (.int x3), some (.int (x4 + (1 : Int32))), some (.int x5), some (.int (x6 + (1 : Int32)))]) hF (dck_at tX6_gone 43 rfl) rfl (by decide) rfl ?_
            refine g_goto hF 40 (dck_at tX6_gone 44 rfl) (by decide) ?_
            exact ih _ _ _ _ h K
          · replace h := ite_t hc76 h
            refine g_iload hF (dck_at tX6_gone 41 rfl) rfl ?_
            refine g_istore (L' := [some (.ref 0), some (.int x1), some (.int x2), some (.int x3), some (.int (x4 + (1 : Int32))), some (.int x6), some (.int x6)]) hF (dck_at tX6_gone 42 rfl) (Nat.le_of_ble_eq_true rfl) rfl ?_
            refine g_iinc (v := 1) (L' := [some (.ref 0), some (.int x1), some (.int x2), some (.int x3), some (.int (x4 + (1 : Int32))), some (.int x6), some (.int (x6 + (1 : Int32)))]) hF (dck_at tX6_gone 43 rfl) rfl (by decide) rfl ?_
            refine g_goto hF 40 (dck_at tX6_gone 44 rfl) (by decide) ?_
            exact ih _ _ _ _ h K
set_option maxHeartbeats 4000000 in
set_option maxRecDepth 100000 in
theorem c_X6_gone {X : Cx} {l : Launch} (hX : CxOk X) (hS : SC X) {N : Nat} {M : Mem} {x1 : Int32} {x2 : Int32} {r : Int32} (h : f_X6_gone N M x1 x2 = some r) : Ctr X l yX6_gone cX6_gone 7 (some .int) 3 [.ref 0, .int x1, .int x2] M (some (.int r)) M := by
  refine Ctr.ofG (L := [some (.ref 0), some (.int x1), some (.int x2), none, none, none, none]) hX (by decide) (Nat.le_of_ble_eq_true rfl) rfl (fun F hF hl hR => ?_)
  subst hl
  unfold f_X6_gone at h
  refine g_iload_n hF (dck_at tX6_gone 0 rfl) rfl ?_
  refine g_if_lt hF 20 (dck_at tX6_gone 1 rfl) (by decide) (fun hc1 => ?_) (fun hc1 => ?_)
  · replace h := ite_t hc1 h
    refine g_bipush (v := -3) hF (dck_at tX6_gone 10 rfl) (by decide) ?_
    cases h
    exact g_iret hF hR (dck_at tX6_gone 11 rfl)
  · replace h := ite_f hc1 h
    refine g_iload_n hF (dck_at tX6_gone 2 rfl) rfl ?_
    refine g_sipush (v := 400) hF (dck_at tX6_gone 3 rfl) (by decide) ?_
    refine g_icmp_gt hF 20 (dck_at tX6_gone 4 rfl) (by decide) (fun hc8 => ?_) (fun hc8 => ?_)
    · replace h := ite_t hc8 h
      refine g_bipush (v := -3) hF (dck_at tX6_gone 10 rfl) (by decide) ?_
      cases h
      exact g_iret hF hR (dck_at tX6_gone 11 rfl)
    · replace h := ite_f hc8 h
      refine g_iload_n hF (dck_at tX6_gone 5 rfl) rfl ?_
      refine g_if_lt hF 20 (dck_at tX6_gone 6 rfl) (by decide) (fun hc12 => ?_) (fun hc12 => ?_)
      · replace h := ite_t hc12 h
        refine g_bipush (v := -3) hF (dck_at tX6_gone 10 rfl) (by decide) ?_
        cases h
        exact g_iret hF hR (dck_at tX6_gone 11 rfl)
      · replace h := ite_f hc12 h
        refine g_iload_n hF (dck_at tX6_gone 7 rfl) rfl ?_
        refine g_iconst (v := 1) hF (dck_at tX6_gone 8 rfl) (by decide) ?_
        refine g_icmp_le hF 23 (dck_at tX6_gone 9 rfl) (by decide) (fun hc17 => ?_) (fun hc17 => ?_)
        · replace h := ite_t hc17 h
          refine g_aload_n hF (dck_at tX6_gone 12 rfl) rfl ?_
          refine gf_X6_28 hF (hS 0 (by decide)) kdc_0 lnc_0 (dck_at tX6_gone 13 rfl) ?_
          obtain ⟨q27, e27, h⟩ := bd h
          refine g_callV hF (as := []) (k := 21) rfl (by decide) wm_X6_134 wi_X1_whoClaps we_X1_whoClaps wc_X1_whoClaps wn_X1 hyX1_whoClaps (by decide) (hS 21 (by decide)) kdc_21 (c_X1_whoClaps hF.2.2.2.2.2.2.2.1 hS evc_21 e27) (by decide) rfl rfl rfl rfl (dck_at tX6_gone 14 rfl) ?_
          show G X F 30 _ [.int q27] M
          refine g_istore_n (L' := [some (.ref 0), some (.int x1), some (.int x2), some (.int q27), none, none, none]) hF (dck_at tX6_gone 15 rfl) (Nat.le_of_ble_eq_true rfl) rfl ?_
          refine g_iconst (v := 0) hF (dck_at tX6_gone 16 rfl) (by decide) ?_
          refine g_istore (L' := [some (.ref 0), some (.int x1), some (.int x2), some (.int q27), some (.int (0 : Int32)), none, none]) hF (dck_at tX6_gone 17 rfl) (Nat.le_of_ble_eq_true rfl) rfl ?_
          show G X F 34 _ _ _
          refine g_iconst (v := -1) hF (dck_at tX6_gone 18 rfl) (by decide) ?_
          refine g_istore (L' := [some (.ref 0), some (.int x1), some (.int x2), some (.int q27), some (.int (0 : Int32)), some (.int (-1 : Int32)), none]) hF (dck_at tX6_gone 19 rfl) (Nat.le_of_ble_eq_true rfl) rfl ?_
          refine g_iconst (v := 0) hF (dck_at tX6_gone 20 rfl) (by decide) ?_
          refine g_istore (L' := [some (.ref 0), some (.int x1), some (.int x2), some (.int q27), some (.int (0 : Int32)), some (.int (-1 : Int32)), some (.int (0 : Int32))]) hF (dck_at tX6_gone 21 rfl) (Nat.le_of_ble_eq_true rfl) rfl ?_
          obtain ⟨o40, e40, h⟩ := bd h
          refine g_X6_gone_L40 hS hF N _ _ _ _ N _ _ _ _ e40 ?_
          refine g_iload_n hF (dck_at tX6_gone 45 rfl) rfl ?_
          refine g_if_ne hF 98 (dck_at tX6_gone 46 rfl) (by decide) (fun hc90 => ?_) (fun hc90 => ?_)
          · replace h := ite_f hc90 h
            refine g_iload hF (dck_at tX6_gone 49 rfl) rfl ?_
            cases h
            exact g_iret hF hR (dck_at tX6_gone 50 rfl)
          · replace h := ite_t hc90 h
            refine g_iload hF (dck_at tX6_gone 47 rfl) rfl ?_
            refine g_goto hF 100 (dck_at tX6_gone 48 rfl) (by decide) ?_
            cases h
            exact g_iret hF hR (dck_at tX6_gone 50 rfl)
        · replace h := ite_f hc17 h
          refine g_bipush (v := -3) hF (dck_at tX6_gone 10 rfl) (by decide) ?_
          cases h
          exact g_iret hF hR (dck_at tX6_gone 11 rfl)

def tbX6_prepared : List (Nat × Instr × Nat) := [(0, .iload_n 1, 1), (1, .ifCond .lt 8, 3), (4, .iload_n 1, 1), (5, .iconst 1, 1), (6, .if_icmp .le 6, 3), (9, .bipush (-3), 2), (11, .ireturn, 1), (12, .iconst 0, 1), (13, .istore_n 2, 1), (14, .iconst 0, 1), (15, .istore_n 3, 1), (16, .iconst 1, 1), (17, .istore 4, 2), (19, .iload 4, 2), (21, .iconst 1, 1), (22, .aload_n 0, 1), (23, .getfield 12, 3), (26, .getfield 229, 3), (29, .ishl, 1), (30, .if_icmp .ge 65, 3), (33, .aload_n 0, 1), (34, .getfield 12, 3), (37, .aload_n 0, 1), (38, .getfield 12, 3), (41, .getfield 121, 3), (44, .iload 4, 2), (46, .invokevirtual 232, 3), (49, .istore 5, 2), (51, .aload_n 0, 1), (52, .getfield 12, 3), (55, .aload_n 0, 1), (56, .getfield 12, 3), (59, .getfield 118, 3), (62, .iload 4, 2), (64, .invokevirtual 232, 3), (67, .aload_n 0, 1), (68, .getfield 28, 3), (71, .getfield 188, 3), (74, .if_icmp .gt 15, 3), (77, .iload 5, 2), (79, .iload_n 2, 1), (80, .if_icmp .le 9, 3), (83, .iload 5, 2), (85, .istore_n 2, 1), (86, .iload 4, 2), (88, .istore_n 3, 1), (89, .iinc 4 1, 3), (92, .goto (-73), 3), (95, .iload_n 1, 1), (96, .ifCond .ne 7, 3), (99, .iload_n 2, 1), (100, .goto 4, 3), (103, .iload_n 3, 1), (104, .ireturn, 1)]
theorem tX6_prepared : dck cX6_prepared tbX6_prepared = true := by decide +kernel
def f_X6_prepared_L19 (N : Nat) (M : Mem) (x1 : Int32) : Nat → Int32 → Int32 → Int32 → Option (Int32 × Int32 × Int32)
  | 0, _, _, _ => none
  | n + 1, x2, x3, x4 => (if ((1 : Int32) <<< ((M 1 8) &&& 31)) ≤ x4 then some (x2, x3, x4) else (f_X5_sumOver N M 1 8 x4).bind fun q46 => (f_X5_sumOver N M 1 7 x4).bind fun q64 => (if (M 21 3) < q64 then f_X6_prepared_L19 N M x1 n x2 x3 (x4 + (1 : Int32)) else (if q46 ≤ x2 then f_X6_prepared_L19 N M x1 n x2 x3 (x4 + (1 : Int32)) else f_X6_prepared_L19 N M x1 n q46 x4 (x4 + (1 : Int32)))))
def f_X6_prepared (N : Nat) (M : Mem) (x1 : Int32) : Option Int32 := (if x1 < 0 then some (-3 : Int32) else (if x1 ≤ (1 : Int32) then (f_X6_prepared_L19 N M x1 N (0 : Int32) (0 : Int32) (1 : Int32)).bind fun o19 => (if x1 = 0 then some o19.1 else some o19.2.1) else some (-3 : Int32)))
set_option maxHeartbeats 4000000 in
set_option maxRecDepth 100000 in
theorem g_X6_prepared_L19 {X : Cx} {F : Fx} (hS : SC X) (hF : FK X F cX6_prepared RX6 6 2) (N : Nat) (M : Mem) (x1 : Int32) : ∀ (n : Nat) (x2 : Int32) (x3 : Int32) (x4 : Int32) (o : Int32 × Int32 × Int32), f_X6_prepared_L19 N M x1 n x2 x3 x4 = some o → G X F 95 [none, some (.int x1), some (.int o.1), some (.int o.2.1), none, none] [] M → G X F 19 [some (.ref 0), some (.int x1), some (.int x2), some (.int x3), some (.int x4), none] [] M := by
  intro n
  induction n with
  | zero =>
    intro x2 x3 x4 o h K
    cases h
  | succ n ih =>
    intro x2 x3 x4 o h K
    rw [f_X6_prepared_L19] at h
    refine g_iload hF (dck_at tX6_prepared 13 rfl) rfl ?_
    refine g_iconst (v := 1) hF (dck_at tX6_prepared 14 rfl) (by decide) ?_
    refine g_aload_n hF (dck_at tX6_prepared 15 rfl) rfl ?_
    refine gf_X6_12 hF (hS 0 (by decide)) kdc_0 lnc_0 (dck_at tX6_prepared 16 rfl) ?_
    refine gf_X6_229 hF (hS 1 (by decide)) kdc_1 lnc_1 (dck_at tX6_prepared 17 rfl) ?_
    refine g_ishl hF (dck_at tX6_prepared 18 rfl) ?_
    show G X F 30 _ _ _
    refine g_icmp_ge hF 95 (dck_at tX6_prepared 19 rfl) (by decide) (fun hc30 => ?_) (fun hc30 => ?_)
    · replace h := ite_t hc30 h
      refine g_msk [false, true, true, true, false, true] (L' := [none, some (.int x1), some (.int x2), some (.int x3), none, none]) rfl ?_
      cases h
      exact K
    · replace h := ite_f hc30 h
      refine g_aload_n hF (dck_at tX6_prepared 20 rfl) rfl ?_
      refine gf_X6_12 hF (hS 0 (by decide)) kdc_0 lnc_0 (dck_at tX6_prepared 21 rfl) ?_
      refine g_aload_n hF (dck_at tX6_prepared 22 rfl) rfl ?_
      refine gf_X6_12 hF (hS 0 (by decide)) kdc_0 lnc_0 (dck_at tX6_prepared 23 rfl) ?_
      refine gf_X6_121 hF (hS 1 (by decide)) kdc_1 lnc_1 (t := 8) rfl (dck_at tX6_prepared 24 rfl) ?_
      refine g_iload hF (dck_at tX6_prepared 25 rfl) rfl ?_
      show G X F 46 _ _ _
      obtain ⟨q46, e46, h⟩ := bd h
      refine g_callV hF (as := [.ref 8, .int x4]) (k := 1) rfl (by decide) wm_X6_232 wi_X5_sumOver we_X5_sumOver wc_X5_sumOver wn_X5 hyX5_sumOver (by decide) (hS 1 (by decide)) kdc_1 (c_X5_sumOver hF.2.2.2.2.2.2.2.1 hS tdc_1 ⟨kdc_8, lnc_8, by decide⟩ e46) (by decide) rfl rfl rfl rfl (dck_at tX6_prepared 26 rfl) ?_
      show G X F 49 _ [.int q46] M
      refine g_istore (L' := [some (.ref 0), some (.int x1), some (.int x2), some (.int x3), some (.int x4), some (.int q46)]) hF (dck_at tX6_prepared 27 rfl) (Nat.le_of_ble_eq_true rfl) rfl ?_
      refine g_aload_n hF (dck_at tX6_prepared 28 rfl) rfl ?_
      refine gf_X6_12 hF (hS 0 (by decide)) kdc_0 lnc_0 (dck_at tX6_prepared 29 rfl) ?_
      refine g_aload_n hF (dck_at tX6_prepared 30 rfl) rfl ?_
      refine gf_X6_12 hF (hS 0 (by decide)) kdc_0 lnc_0 (dck_at tX6_prepared 31 rfl) ?_
      refine gf_X6_118 hF (hS 1 (by decide)) kdc_1 lnc_1 (t := 7) rfl (dck_at tX6_prepared 32 rfl) ?_
      show G X F 62 _ _ _
      refine g_iload hF (dck_at tX6_prepared 33 rfl) rfl ?_
      obtain ⟨q64, e64, h⟩ := bd h
      refine g_callV hF (as := [.ref 7, .int x4]) (k := 1) rfl (by decide) wm_X6_232 wi_X5_sumOver we_X5_sumOver wc_X5_sumOver wn_X5 hyX5_sumOver (by decide) (hS 1 (by decide)) kdc_1 (c_X5_sumOver hF.2.2.2.2.2.2.2.1 hS tdc_1 ⟨kdc_7, lnc_7, by decide⟩ e64) (by decide) rfl rfl rfl rfl (dck_at tX6_prepared 34 rfl) ?_
      show G X F 67 _ [.int q64] M
      refine g_aload_n hF (dck_at tX6_prepared 35 rfl) rfl ?_
      refine gf_X6_28 hF (hS 0 (by decide)) kdc_0 lnc_0 (dck_at tX6_prepared 36 rfl) ?_
      refine gf_X6_188 hF (hS 21 (by decide)) kdc_21 lnc_21 (dck_at tX6_prepared 37 rfl) ?_
      refine g_icmp_gt hF 89 (dck_at tX6_prepared 38 rfl) (by decide) (fun hc74 => ?_) (fun hc74 => ?_)
      · replace h := ite_t hc74 h
        refine g_iinc (v := 1) (L' := [some (.ref 0), some (.int x1), some (.int x2), some (.int x3), some (.int (x4 + (1 : Int32))), some (.int q46)]) hF (dck_at tX6_prepared 46 rfl) rfl (by decide) rfl ?_
        refine g_goto hF 19 (dck_at tX6_prepared 47 rfl) (by decide) ?_
        refine g_msk [true, true, true, true, true, false] (L' := [some (.ref 0), some (.int x1), some (.int x2), some (.int x3), some (.int (x4 + (1 : Int32))), none]) rfl ?_
        exact ih _ _ _ _ h K
      · replace h := ite_f hc74 h
        refine g_iload hF (dck_at tX6_prepared 39 rfl) rfl ?_
        refine g_iload_n hF (dck_at tX6_prepared 40 rfl) rfl ?_
        refine g_icmp_le hF 89 (dck_at tX6_prepared 41 rfl) (by decide) (fun hc80 => ?_) (fun hc80 => ?_)
        · replace h := ite_t hc80 h
          refine g_iinc (v := 1) (L' := [some (.ref 0), some (.int x1), some (.int x2), some (.int x3), some (.int (x4 + (1 : Int32))), some (.int q46)]) hF (dck_at tX6_prepared 46 rfl) rfl (by decide) rfl ?_
          refine g_goto hF 19 (dck_at tX6_prepared 47 rfl) (by decide) ?_
          refine g_msk [true, true, true, true, true, false] (L' := [some (.ref 0), some (.int x1), some (.int x2), some (.int x3), some (.int (x4 + (1 : Int32))), none]) rfl ?_
          exact ih _ _ _ _ h K
        · replace h := ite_f hc80 h
          refine g_iload hF (dck_at tX6_prepared 42 rfl) rfl ?_
          refine g_istore_n (L' := [some (.ref 0), some (.int x1), some (.int q46), some (.int x3), some (.int x4), some (.int q46)]) hF (dck_at tX6_prepared 43 rfl) (Nat.le_of_ble_eq_true rfl) rfl ?_
          refine g_iload hF (dck_at tX6_prepared 44 rfl) rfl ?_
          refine g_istore_n (L' := [some (.ref 0), some (.int x1), some (.int q46), some (.int x4), some (.int x4), some (.int q46)]) hF (dck_at tX6_prepared 45 rfl) (Nat.le_of_ble_eq_true rfl) rfl ?_
          refine g_iinc (v := 1) (L' := [some (.ref 0), some (.int x1), some (.int q46), some (.int x4), some (.int (x4 + (1 : Int32))), some (.int q46)]) hF (dck_at tX6_prepared 46 rfl) rfl (by decide) rfl ?_
          refine g_goto hF 19 (dck_at tX6_prepared 47 rfl) (by decide) ?_
          refine g_msk [true, true, true, true, true, false] (L' := [some (.ref 0), some (.int x1), some (.int q46), some (.int x4), some (.int (x4 + (1 : Int32))), none]) rfl ?_
          exact ih _ _ _ _ h K
set_option maxHeartbeats 4000000 in
set_option maxRecDepth 100000 in
theorem c_X6_prepared {X : Cx} {l : Launch} (hX : CxOk X) (hS : SC X) {N : Nat} {M : Mem} {x1 : Int32} {r : Int32} (h : f_X6_prepared N M x1 = some r) : Ctr X l yX6_prepared cX6_prepared 6 (some .int) 2 [.ref 0, .int x1] M (some (.int r)) M := by
  refine Ctr.ofG (L := [some (.ref 0), some (.int x1), none, none, none, none]) hX (by decide) (Nat.le_of_ble_eq_true rfl) rfl (fun F hF hl hR => ?_)
  subst hl
  unfold f_X6_prepared at h
  refine g_iload_n hF (dck_at tX6_prepared 0 rfl) rfl ?_
  refine g_if_lt hF 9 (dck_at tX6_prepared 1 rfl) (by decide) (fun hc1 => ?_) (fun hc1 => ?_)
  · replace h := ite_t hc1 h
    refine g_bipush (v := -3) hF (dck_at tX6_prepared 5 rfl) (by decide) ?_
    cases h
    exact g_iret hF hR (dck_at tX6_prepared 6 rfl)
  · replace h := ite_f hc1 h
    refine g_iload_n hF (dck_at tX6_prepared 2 rfl) rfl ?_
    refine g_iconst (v := 1) hF (dck_at tX6_prepared 3 rfl) (by decide) ?_
    refine g_icmp_le hF 12 (dck_at tX6_prepared 4 rfl) (by decide) (fun hc6 => ?_) (fun hc6 => ?_)
    · replace h := ite_t hc6 h
      refine g_iconst (v := 0) hF (dck_at tX6_prepared 7 rfl) (by decide) ?_
      refine g_istore_n (L' := [some (.ref 0), some (.int x1), some (.int (0 : Int32)), none, none, none]) hF (dck_at tX6_prepared 8 rfl) (Nat.le_of_ble_eq_true rfl) rfl ?_
      refine g_iconst (v := 0) hF (dck_at tX6_prepared 9 rfl) (by decide) ?_
      refine g_istore_n (L' := [some (.ref 0), some (.int x1), some (.int (0 : Int32)), some (.int (0 : Int32)), none, none]) hF (dck_at tX6_prepared 10 rfl) (Nat.le_of_ble_eq_true rfl) rfl ?_
      refine g_iconst (v := 1) hF (dck_at tX6_prepared 11 rfl) (by decide) ?_
      refine g_istore (L' := [some (.ref 0), some (.int x1), some (.int (0 : Int32)), some (.int (0 : Int32)), some (.int (1 : Int32)), none]) hF (dck_at tX6_prepared 12 rfl) (Nat.le_of_ble_eq_true rfl) rfl ?_
      obtain ⟨o19, e19, h⟩ := bd h
      refine g_X6_prepared_L19 hS hF N _ _ N _ _ _ _ e19 ?_
      refine g_iload_n hF (dck_at tX6_prepared 48 rfl) rfl ?_
      refine g_if_ne hF 103 (dck_at tX6_prepared 49 rfl) (by decide) (fun hc96 => ?_) (fun hc96 => ?_)
      · replace h := ite_f hc96 h
        refine g_iload_n hF (dck_at tX6_prepared 52 rfl) rfl ?_
        cases h
        exact g_iret hF hR (dck_at tX6_prepared 53 rfl)
      · replace h := ite_t hc96 h
        refine g_iload_n hF (dck_at tX6_prepared 50 rfl) rfl ?_
        refine g_goto hF 104 (dck_at tX6_prepared 51 rfl) (by decide) ?_
        cases h
        exact g_iret hF hR (dck_at tX6_prepared 53 rfl)
    · replace h := ite_f hc6 h
      refine g_bipush (v := -3) hF (dck_at tX6_prepared 5 rfl) (by decide) ?_
      cases h
      exact g_iret hF hR (dck_at tX6_prepared 6 rfl)

def tbX6_other : List (Nat × Instr × Nat) := [(0, .iload_n 1, 1), (1, .ifCond .lt 9, 3), (4, .iload_n 1, 1), (5, .bipush 30, 2), (7, .if_icmp .le 6, 3), (10, .bipush (-3), 2), (12, .ireturn, 1), (13, .aload_n 0, 1), (14, .getfield 38, 3), (17, .aload_n 0, 1), (18, .getfield 28, 3), (21, .iload_n 1, 1), (22, .invokevirtual 191, 3), (25, .aload_n 0, 1), (26, .getfield 38, 3), (29, .getfield 195, 3), (32, .istore_n 2, 1), (33, .aload_n 0, 1), (34, .getfield 38, 3), (37, .aload_n 0, 1), (38, .getfield 28, 3), (41, .aload_n 0, 1), (42, .getfield 28, 3), (45, .getfield 188, 3), (48, .invokevirtual 191, 3), (51, .iload_n 2, 1), (52, .aload_n 0, 1), (53, .getfield 38, 3), (56, .getfield 195, 3), (59, .isub, 1), (60, .ireturn, 1)]
theorem tX6_other : dck cX6_other tbX6_other = true := by decide +kernel
def f_X6_other (N : Nat) (M : Mem) (x1 : Int32) : Option (Int32 × Mem) := (if x1 < 0 then some ((-3 : Int32), M) else (if x1 ≤ (30 : Int32) then (f_X3_lookFrom N M 21 x1).bind fun q22 => (f_X3_lookFrom N q22 21 (q22 21 3)).bind fun q48 => some ((q22 25 0) - (q48 25 0), q48) else some ((-3 : Int32), M)))
set_option maxHeartbeats 4000000 in
set_option maxRecDepth 100000 in
theorem c_X6_other {X : Cx} {l : Launch} (hX : CxOk X) (hS : SC X) {N : Nat} {M : Mem} {x1 : Int32} {r : Int32} {M' : Mem} (h : f_X6_other N M x1 = some (r, M')) : Ctr X l yX6_other cX6_other 3 (some .int) 36 [.ref 0, .int x1] M (some (.int r)) M' := by
  refine Ctr.ofG (L := [some (.ref 0), some (.int x1), none]) hX (by decide) (Nat.le_of_ble_eq_true rfl) rfl (fun F hF hl hR => ?_)
  subst hl
  unfold f_X6_other at h
  refine g_iload_n hF (dck_at tX6_other 0 rfl) rfl ?_
  refine g_if_lt hF 10 (dck_at tX6_other 1 rfl) (by decide) (fun hc1 => ?_) (fun hc1 => ?_)
  · replace h := ite_t hc1 h
    refine g_bipush (v := -3) hF (dck_at tX6_other 5 rfl) (by decide) ?_
    cases h
    exact g_iret hF hR (dck_at tX6_other 6 rfl)
  · replace h := ite_f hc1 h
    refine g_iload_n hF (dck_at tX6_other 2 rfl) rfl ?_
    refine g_bipush (v := 30) hF (dck_at tX6_other 3 rfl) (by decide) ?_
    refine g_icmp_le hF 13 (dck_at tX6_other 4 rfl) (by decide) (fun hc7 => ?_) (fun hc7 => ?_)
    · replace h := ite_t hc7 h
      refine g_aload_n hF (dck_at tX6_other 7 rfl) rfl ?_
      refine gf_X6_38 hF (hS 0 (by decide)) kdc_0 lnc_0 (dck_at tX6_other 8 rfl) ?_
      refine g_aload_n hF (dck_at tX6_other 9 rfl) rfl ?_
      refine gf_X6_28 hF (hS 0 (by decide)) kdc_0 lnc_0 (dck_at tX6_other 10 rfl) ?_
      refine g_iload_n hF (dck_at tX6_other 11 rfl) rfl ?_
      obtain ⟨q22, e22, h⟩ := bd h
      refine g_callV hF (as := [.ref 21, .int x1]) (k := 25) rfl (by decide) wm_X6_191 wi_X3_lookFrom we_X3_lookFrom wc_X3_lookFrom wn_X3 hyX3_lookFrom (by decide) (hS 25 (by decide)) kdc_25 (c_X3_lookFrom hF.2.2.2.2.2.2.2.1 hS evc_21 e22) (by decide) rfl rfl rfl rfl (dck_at tX6_other 12 rfl) ?_
      show G X F 25 _ [] q22
      show G X F 25 _ _ _
      refine g_aload_n hF (dck_at tX6_other 13 rfl) rfl ?_
      refine gf_X6_38 hF (hS 0 (by decide)) kdc_0 lnc_0 (dck_at tX6_other 14 rfl) ?_
      refine gf_X6_195 hF (hS 25 (by decide)) kdc_25 lnc_25 (dck_at tX6_other 15 rfl) ?_
      refine g_istore_n (L' := [some (.ref 0), some (.int x1), some (.int (q22 25 0))]) hF (dck_at tX6_other 16 rfl) (Nat.le_of_ble_eq_true rfl) rfl ?_
      refine g_aload_n hF (dck_at tX6_other 17 rfl) rfl ?_
      refine gf_X6_38 hF (hS 0 (by decide)) kdc_0 lnc_0 (dck_at tX6_other 18 rfl) ?_
      refine g_aload_n hF (dck_at tX6_other 19 rfl) rfl ?_
      show G X F 38 _ _ _
      refine gf_X6_28 hF (hS 0 (by decide)) kdc_0 lnc_0 (dck_at tX6_other 20 rfl) ?_
      refine g_aload_n hF (dck_at tX6_other 21 rfl) rfl ?_
      refine gf_X6_28 hF (hS 0 (by decide)) kdc_0 lnc_0 (dck_at tX6_other 22 rfl) ?_
      refine gf_X6_188 hF (hS 21 (by decide)) kdc_21 lnc_21 (dck_at tX6_other 23 rfl) ?_
      obtain ⟨q48, e48, h⟩ := bd h
      refine g_callV hF (as := [.ref 21, .int (q22 21 3)]) (k := 25) rfl (by decide) wm_X6_191 wi_X3_lookFrom we_X3_lookFrom wc_X3_lookFrom wn_X3 hyX3_lookFrom (by decide) (hS 25 (by decide)) kdc_25 (c_X3_lookFrom hF.2.2.2.2.2.2.2.1 hS evc_21 e48) (by decide) rfl rfl rfl rfl (dck_at tX6_other 24 rfl) ?_
      show G X F 51 _ [] q48
      refine g_iload_n hF (dck_at tX6_other 25 rfl) rfl ?_
      refine g_aload_n hF (dck_at tX6_other 26 rfl) rfl ?_
      show G X F 53 _ _ _
      refine gf_X6_38 hF (hS 0 (by decide)) kdc_0 lnc_0 (dck_at tX6_other 27 rfl) ?_
      refine gf_X6_195 hF (hS 25 (by decide)) kdc_25 lnc_25 (dck_at tX6_other 28 rfl) ?_
      refine g_isub hF (dck_at tX6_other 29 rfl) ?_
      cases h
      exact g_iret hF hR (dck_at tX6_other 30 rfl)
    · replace h := ite_f hc7 h
      refine g_bipush (v := -3) hF (dck_at tX6_other 5 rfl) (by decide) ?_
      cases h
      exact g_iret hF hR (dck_at tX6_other 6 rfl)

def tbX6_count : List (Nat × Instr × Nat) := [(0, .iload_n 1, 1), (1, .tableswitch 168 0 12 #[67, 75, 83, 91, 99, 107, 115, 123, 131, 139, 147, 152, 160], 67), (68, .aload_n 0, 1), (69, .getfield 12, 3), (72, .getfield 236, 3), (75, .ireturn, 1), (76, .aload_n 0, 1), (77, .getfield 12, 3), (80, .getfield 229, 3), (83, .ireturn, 1), (84, .aload_n 0, 1), (85, .getfield 28, 3), (88, .getfield 156, 3), (91, .ireturn, 1), (92, .aload_n 0, 1), (93, .getfield 28, 3), (96, .invokevirtual 170, 3), (99, .ireturn, 1), (100, .aload_n 0, 1), (101, .getfield 28, 3), (104, .getfield 188, 3), (107, .ireturn, 1), (108, .aload_n 0, 1), (109, .getfield 28, 3), (112, .getfield 239, 3), (115, .ireturn, 1), (116, .aload_n 0, 1), (117, .getfield 28, 3), (120, .getfield 242, 3), (123, .ireturn, 1), (124, .aload_n 0, 1), (125, .getfield 28, 3), (128, .getfield 245, 3), (131, .ireturn, 1), (132, .aload_n 0, 1), (133, .getfield 28, 3), (136, .getfield 185, 3), (139, .ireturn, 1), (140, .aload_n 0, 1), (141, .getfield 28, 3), (144, .getfield 248, 3), (147, .ireturn, 1), (148, .aload_n 0, 1), (149, .getfield 204, 3), (152, .ireturn, 1), (153, .aload_n 0, 1), (154, .getfield 45, 3), (157, .getfield 177, 3), (160, .ireturn, 1), (161, .aload_n 0, 1), (162, .getfield 19, 3), (165, .getfield 68, 3), (168, .ireturn, 1), (169, .bipush (-3), 2), (171, .ireturn, 1)]
theorem tX6_count : dck cX6_count tbX6_count = true := by decide +kernel
def f_X6_count (N : Nat) (M : Mem) (x1 : Int32) : Option Int32 := (if x1 = 0 then some (M 1 7) else (if x1 = 1 then some (M 1 8) else (if x1 = 2 then some (M 21 2) else (if x1 = 3 then (f_X1_noise N M 21).bind fun q96 => some q96 else (if x1 = 4 then some (M 21 3) else (if x1 = 5 then some (M 21 5) else (if x1 = 6 then some (M 21 6) else (if x1 = 7 then some (M 21 7) else (if x1 = 8 then some (M 21 1) else (if x1 = 9 then some (M 21 4) else (if x1 = 10 then some (M 0 9) else (if x1 = 11 then some (M 43 0) else (if x1 = 12 then some (M 9 1) else some (-3 : Int32))))))))))))))
set_option maxHeartbeats 4000000 in
set_option maxRecDepth 100000 in
theorem c_X6_count {X : Cx} {l : Launch} (hX : CxOk X) (hS : SC X) {N : Nat} {M : Mem} {x1 : Int32} {r : Int32} (h : f_X6_count N M x1 = some r) : Ctr X l yX6_count cX6_count 2 (some .int) 3 [.ref 0, .int x1] M (some (.int r)) M := by
  refine Ctr.ofG (L := [some (.ref 0), some (.int x1)]) hX (by decide) (Nat.le_of_ble_eq_true rfl) rfl (fun F hF hl hR => ?_)
  subst hl
  unfold f_X6_count at h
  refine g_iload_n hF (dck_at tX6_count 0 rfl) rfl ?_
  by_cases hc1_0 : x1 = 0
  · replace h := ite_t hc1_0 h
    refine g_swIn hF 68 0 hc1_0 (dck_at tX6_count 1 rfl) (by decide) (by decide) rfl (by decide) ?_
    refine g_aload_n hF (dck_at tX6_count 2 rfl) rfl ?_
    refine gf_X6_12 hF (hS 0 (by decide)) kdc_0 lnc_0 (dck_at tX6_count 3 rfl) ?_
    refine gf_X6_236 hF (hS 1 (by decide)) kdc_1 lnc_1 (dck_at tX6_count 4 rfl) ?_
    cases h
    exact g_iret hF hR (dck_at tX6_count 5 rfl)
  replace h := ite_f hc1_0 h
  by_cases hc1_1 : x1 = 1
  · replace h := ite_t hc1_1 h
    refine g_swIn hF 76 1 hc1_1 (dck_at tX6_count 1 rfl) (by decide) (by decide) rfl (by decide) ?_
    refine g_aload_n hF (dck_at tX6_count 6 rfl) rfl ?_
    refine gf_X6_12 hF (hS 0 (by decide)) kdc_0 lnc_0 (dck_at tX6_count 7 rfl) ?_
    refine gf_X6_229 hF (hS 1 (by decide)) kdc_1 lnc_1 (dck_at tX6_count 8 rfl) ?_
    cases h
    exact g_iret hF hR (dck_at tX6_count 9 rfl)
  replace h := ite_f hc1_1 h
  by_cases hc1_2 : x1 = 2
  · replace h := ite_t hc1_2 h
    refine g_swIn hF 84 2 hc1_2 (dck_at tX6_count 1 rfl) (by decide) (by decide) rfl (by decide) ?_
    refine g_aload_n hF (dck_at tX6_count 10 rfl) rfl ?_
    refine gf_X6_28 hF (hS 0 (by decide)) kdc_0 lnc_0 (dck_at tX6_count 11 rfl) ?_
    refine gf_X6_156 hF (hS 21 (by decide)) kdc_21 lnc_21 (dck_at tX6_count 12 rfl) ?_
    cases h
    exact g_iret hF hR (dck_at tX6_count 13 rfl)
  replace h := ite_f hc1_2 h
  by_cases hc1_3 : x1 = 3
  · replace h := ite_t hc1_3 h
    refine g_swIn hF 92 3 hc1_3 (dck_at tX6_count 1 rfl) (by decide) (by decide) rfl (by decide) ?_
    refine g_aload_n hF (dck_at tX6_count 14 rfl) rfl ?_
    refine gf_X6_28 hF (hS 0 (by decide)) kdc_0 lnc_0 (dck_at tX6_count 15 rfl) ?_
    obtain ⟨q96, e96, h⟩ := bd h
    refine g_callV hF (as := []) (k := 21) rfl (by decide) wm_X6_170 wi_X1_noise we_X1_noise wc_X1_noise wn_X1 hyX1_noise (by decide) (hS 21 (by decide)) kdc_21 (c_X1_noise hF.2.2.2.2.2.2.2.1 hS evc_21 e96) (by decide) rfl rfl rfl rfl (dck_at tX6_count 16 rfl) ?_
    show G X F 99 _ [.int q96] M
    cases h
    exact g_iret hF hR (dck_at tX6_count 17 rfl)
  replace h := ite_f hc1_3 h
  by_cases hc1_4 : x1 = 4
  · replace h := ite_t hc1_4 h
    refine g_swIn hF 100 4 hc1_4 (dck_at tX6_count 1 rfl) (by decide) (by decide) rfl (by decide) ?_
    refine g_aload_n hF (dck_at tX6_count 18 rfl) rfl ?_
    refine gf_X6_28 hF (hS 0 (by decide)) kdc_0 lnc_0 (dck_at tX6_count 19 rfl) ?_
    refine gf_X6_188 hF (hS 21 (by decide)) kdc_21 lnc_21 (dck_at tX6_count 20 rfl) ?_
    cases h
    exact g_iret hF hR (dck_at tX6_count 21 rfl)
  replace h := ite_f hc1_4 h
  by_cases hc1_5 : x1 = 5
  · replace h := ite_t hc1_5 h
    refine g_swIn hF 108 5 hc1_5 (dck_at tX6_count 1 rfl) (by decide) (by decide) rfl (by decide) ?_
    refine g_aload_n hF (dck_at tX6_count 22 rfl) rfl ?_
    refine gf_X6_28 hF (hS 0 (by decide)) kdc_0 lnc_0 (dck_at tX6_count 23 rfl) ?_
    refine gf_X6_239 hF (hS 21 (by decide)) kdc_21 lnc_21 (dck_at tX6_count 24 rfl) ?_
    cases h
    exact g_iret hF hR (dck_at tX6_count 25 rfl)
  replace h := ite_f hc1_5 h
  by_cases hc1_6 : x1 = 6
  · replace h := ite_t hc1_6 h
    refine g_swIn hF 116 6 hc1_6 (dck_at tX6_count 1 rfl) (by decide) (by decide) rfl (by decide) ?_
    refine g_aload_n hF (dck_at tX6_count 26 rfl) rfl ?_
    refine gf_X6_28 hF (hS 0 (by decide)) kdc_0 lnc_0 (dck_at tX6_count 27 rfl) ?_
    refine gf_X6_242 hF (hS 21 (by decide)) kdc_21 lnc_21 (dck_at tX6_count 28 rfl) ?_
    cases h
    exact g_iret hF hR (dck_at tX6_count 29 rfl)
  replace h := ite_f hc1_6 h
  by_cases hc1_7 : x1 = 7
  · replace h := ite_t hc1_7 h
    refine g_swIn hF 124 7 hc1_7 (dck_at tX6_count 1 rfl) (by decide) (by decide) rfl (by decide) ?_
    refine g_aload_n hF (dck_at tX6_count 30 rfl) rfl ?_
    refine gf_X6_28 hF (hS 0 (by decide)) kdc_0 lnc_0 (dck_at tX6_count 31 rfl) ?_
    refine gf_X6_245 hF (hS 21 (by decide)) kdc_21 lnc_21 (dck_at tX6_count 32 rfl) ?_
    cases h
    exact g_iret hF hR (dck_at tX6_count 33 rfl)
  replace h := ite_f hc1_7 h
  by_cases hc1_8 : x1 = 8
  · replace h := ite_t hc1_8 h
    refine g_swIn hF 132 8 hc1_8 (dck_at tX6_count 1 rfl) (by decide) (by decide) rfl (by decide) ?_
    refine g_aload_n hF (dck_at tX6_count 34 rfl) rfl ?_
    refine gf_X6_28 hF (hS 0 (by decide)) kdc_0 lnc_0 (dck_at tX6_count 35 rfl) ?_
    refine gf_X6_185 hF (hS 21 (by decide)) kdc_21 lnc_21 (dck_at tX6_count 36 rfl) ?_
    cases h
    exact g_iret hF hR (dck_at tX6_count 37 rfl)
  replace h := ite_f hc1_8 h
  by_cases hc1_9 : x1 = 9
  · replace h := ite_t hc1_9 h
    refine g_swIn hF 140 9 hc1_9 (dck_at tX6_count 1 rfl) (by decide) (by decide) rfl (by decide) ?_
    refine g_aload_n hF (dck_at tX6_count 38 rfl) rfl ?_
    refine gf_X6_28 hF (hS 0 (by decide)) kdc_0 lnc_0 (dck_at tX6_count 39 rfl) ?_
    refine gf_X6_248 hF (hS 21 (by decide)) kdc_21 lnc_21 (dck_at tX6_count 40 rfl) ?_
    cases h
    exact g_iret hF hR (dck_at tX6_count 41 rfl)
  replace h := ite_f hc1_9 h
  by_cases hc1_10 : x1 = 10
  · replace h := ite_t hc1_10 h
    refine g_swIn hF 148 10 hc1_10 (dck_at tX6_count 1 rfl) (by decide) (by decide) rfl (by decide) ?_
    refine g_aload_n hF (dck_at tX6_count 42 rfl) rfl ?_
    refine gf_X6_204 hF (hS 0 (by decide)) kdc_0 lnc_0 (dck_at tX6_count 43 rfl) ?_
    cases h
    exact g_iret hF hR (dck_at tX6_count 44 rfl)
  replace h := ite_f hc1_10 h
  by_cases hc1_11 : x1 = 11
  · replace h := ite_t hc1_11 h
    refine g_swIn hF 153 11 hc1_11 (dck_at tX6_count 1 rfl) (by decide) (by decide) rfl (by decide) ?_
    refine g_aload_n hF (dck_at tX6_count 45 rfl) rfl ?_
    refine gf_X6_45 hF (hS 0 (by decide)) kdc_0 lnc_0 (dck_at tX6_count 46 rfl) ?_
    refine gf_X6_177 hF (hS 43 (by decide)) kdc_43 lnc_43 (dck_at tX6_count 47 rfl) ?_
    cases h
    exact g_iret hF hR (dck_at tX6_count 48 rfl)
  replace h := ite_f hc1_11 h
  by_cases hc1_12 : x1 = 12
  · replace h := ite_t hc1_12 h
    refine g_swIn hF 161 12 hc1_12 (dck_at tX6_count 1 rfl) (by decide) (by decide) rfl (by decide) ?_
    refine g_aload_n hF (dck_at tX6_count 49 rfl) rfl ?_
    refine gf_X6_19 hF (hS 0 (by decide)) kdc_0 lnc_0 (dck_at tX6_count 50 rfl) ?_
    refine gf_X6_68 hF (hS 9 (by decide)) kdc_9 lnc_9 (dck_at tX6_count 51 rfl) ?_
    cases h
    exact g_iret hF hR (dck_at tX6_count 52 rfl)
  replace h := ite_f hc1_12 h
  refine g_swOut hF 169 (dck_at tX6_count 1 rfl) (by have q0 := lv_neT hc1_0 (a := 0) rfl; have q1 := lv_neT hc1_1 (a := 1) rfl; have q2 := lv_neT hc1_2 (a := 2) rfl; have q3 := lv_neT hc1_3 (a := 3) rfl; have q4 := lv_neT hc1_4 (a := 4) rfl; have q5 := lv_neT hc1_5 (a := 5) rfl; have q6 := lv_neT hc1_6 (a := 6) rfl; have q7 := lv_neT hc1_7 (a := 7) rfl; have q8 := lv_neT hc1_8 (a := 8) rfl; have q9 := lv_neT hc1_9 (a := 9) rfl; have q10 := lv_neT hc1_10 (a := 10) rfl; have q11 := lv_neT hc1_11 (a := 11) rfl; have q12 := lv_neT hc1_12 (a := 12) rfl; omega) (by decide) ?_
  refine g_bipush (v := -3) hF (dck_at tX6_count 53 rfl) (by decide) ?_
  cases h
  exact g_iret hF hR (dck_at tX6_count 54 rfl)
