def tbX2_remember : List (Nat × Instr × Nat) := [(0, .aload_n 0, 1), (1, .getfield 11, 3), (4, .aload_n 0, 1), (5, .getfield 20, 3), (8, .aaload, 1), (9, .aload_n 1, 1), (10, .invokevirtual 24, 3), (13, .aload_n 0, 1), (14, .aload_n 0, 1), (15, .getfield 20, 3), (18, .iconst 1, 1), (19, .iadd, 1), (20, .bipush 8, 2), (22, .irem, 1), (23, .putfield 20, 3), (26, .aload_n 0, 1), (27, .bipush 8, 2), (29, .aload_n 0, 1), (30, .getfield 28, 3), (33, .iconst 1, 1), (34, .iadd, 1), (35, .invokestatic 31, 3), (38, .putfield 28, 3), (41, .return_, 1)]
theorem tX2_remember : dck cX2_remember tbX2_remember = true := by decide +kernel
def f_X2_remember (N : Nat) (M : Mem) (k1 : Nat) : Option Mem := if inb (M 43 1) 8 = true then (f_X1_copyFrom N M (45 + 2 * (M 43 1).toNatClampNeg) k1).bind fun q10 => some (up2 (up2 q10 43 1 (((q10 43 1) + (1 : Int32)) - ((q10 43 1) + (1 : Int32)) / (8 : Int32) * (8 : Int32))) 43 0 (if (((up2 q10 43 1 (((q10 43 1) + (1 : Int32)) - ((q10 43 1) + (1 : Int32)) / (8 : Int32) * (8 : Int32))) 43 0) + (1 : Int32)) < (8 : Int32) then ((up2 q10 43 1 (((q10 43 1) + (1 : Int32)) - ((q10 43 1) + (1 : Int32)) / (8 : Int32) * (8 : Int32))) 43 0) + (1 : Int32) else (8 : Int32))) else none
set_option maxHeartbeats 4000000 in
set_option maxRecDepth 100000 in
theorem c_X2_remember {X : Cx} {l : Launch} (hX : CxOk X) (hS : SC X) {N : Nat} {M : Mem} {k1 : Nat} (hk1 : ev k1) {M' : Mem} (h : f_X2_remember N M k1 = some M') : Ctr X l yX2_remember cX2_remember 2 none 3 [.ref 43, .ref k1] M none M' := by
  refine Ctr.ofG (L := [some (.ref 43), some (.ref k1)]) hX (by decide) (Nat.le_of_ble_eq_true rfl) rfl (fun F hF hl hR => ?_)
  subst hl
  unfold f_X2_remember at h
  refine g_aload_n hF (dck_at tX2_remember 0 rfl) rfl ?_
  refine gf_X2_11 hF (hS 43 (by decide)) kdc_43 lnc_43 (dck_at tX2_remember 1 rfl) ?_
  refine g_aload_n hF (dck_at tX2_remember 2 rfl) rfl ?_
  refine gf_X2_20 hF (hS 43 (by decide)) kdc_43 lnc_43 (dck_at tX2_remember 3 rfl) ?_
  obtain ⟨hg8, h⟩ := gd h
  refine g_rin hF hS hg8 (dck_at tX2_remember 4 rfl) ?_
  refine g_aload_n hF (dck_at tX2_remember 5 rfl) rfl ?_
  show G X F 10 _ _ _
  obtain ⟨q10, e10, h⟩ := bd h
  refine g_callV hF (as := [.ref k1]) (k := (45 + 2 * (M 43 1).toNatClampNeg)) rfl (by decide) wm_X2_24 wi_X1_copyFrom we_X1_copyFrom wc_X1_copyFrom wn_X1 hyX1_copyFrom (by decide) (ev_m hS (ev_rin hg8)) (ev_kd (ev_rin hg8)) (c_X1_copyFrom hF.2.2.2.2.2.2.2.1 hS (ev_rin hg8) hk1 e10) (by decide) rfl rfl rfl rfl (dck_at tX2_remember 6 rfl) ?_
  show G X F 13 _ [] q10
  refine g_aload_n hF (dck_at tX2_remember 7 rfl) rfl ?_
  refine g_aload_n hF (dck_at tX2_remember 8 rfl) rfl ?_
  refine gf_X2_20 hF (hS 43 (by decide)) kdc_43 lnc_43 (dck_at tX2_remember 9 rfl) ?_
  refine g_iconst (v := 1) hF (dck_at tX2_remember 10 rfl) (by decide) ?_
  refine g_iadd hF (dck_at tX2_remember 11 rfl) ?_
  refine g_bipush (v := 8) hF (dck_at tX2_remember 12 rfl) (by decide) ?_
  show G X F 22 _ _ _
  refine g_irem hF (dck_at tX2_remember 13 rfl) (by decide) ?_
  refine pf_X2_20 hF (hS 43 (by decide)) kdc_43 lnc_43 (dck_at tX2_remember 14 rfl) ?_
  refine g_aload_n hF (dck_at tX2_remember 15 rfl) rfl ?_
  refine g_bipush (v := 8) hF (dck_at tX2_remember 16 rfl) (by decide) ?_
  refine g_aload_n hF (dck_at tX2_remember 17 rfl) rfl ?_
  refine gf_X2_28 hF (hS 43 (by decide)) kdc_43 lnc_43 (dck_at tX2_remember 18 rfl) ?_
  refine g_iconst (v := 1) hF (dck_at tX2_remember 19 rfl) (by decide) ?_
  show G X F 34 _ _ _
  refine g_iadd hF (dck_at tX2_remember 20 rfl) ?_
  refine g_mmin hF wm_X2_31 wt_min wn_J9 wc_min (by decide) rfl rfl (dck_at tX2_remember 21 rfl) ?_
  refine pf_X2_28 hF (hS 43 (by decide)) kdc_43 lnc_43 (dck_at tX2_remember 22 rfl) ?_
  cases h
  exact g_vret hF hR (dck_at tX2_remember 23 rfl)

def tbX2_recall : List (Nat × Instr × Nat) := [(0, .aload_n 0, 1), (1, .getfield 28, 3), (4, .ifCond .ne 5, 3), (7, .iconst 0, 1), (8, .ireturn, 1), (9, .aload_n 0, 1), (10, .aload_n 0, 1), (11, .getfield 20, 3), (14, .bipush 8, 2), (16, .iadd, 1), (17, .iconst 1, 1), (18, .isub, 1), (19, .bipush 8, 2), (21, .irem, 1), (22, .putfield 20, 3), (25, .aload_n 0, 1), (26, .dup, 1), (27, .getfield 28, 3), (30, .iconst 1, 1), (31, .isub, 1), (32, .putfield 28, 3), (35, .aload_n 1, 1), (36, .aload_n 0, 1), (37, .getfield 11, 3), (40, .aload_n 0, 1), (41, .getfield 20, 3), (44, .aaload, 1), (45, .invokevirtual 24, 3), (48, .iconst 1, 1), (49, .ireturn, 1)]
theorem tX2_recall : dck cX2_recall tbX2_recall = true := by decide +kernel
def f_X2_recall (N : Nat) (M : Mem) (k1 : Nat) : Option (Int32 × Mem) := (if (M 43 0) = 0 then some ((0 : Int32), M) else if inb ((up2 (up2 M 43 1 ((((M 43 1) + (8 : Int32)) - (1 : Int32)) - (((M 43 1) + (8 : Int32)) - (1 : Int32)) / (8 : Int32) * (8 : Int32))) 43 0 (((up2 M 43 1 ((((M 43 1) + (8 : Int32)) - (1 : Int32)) - (((M 43 1) + (8 : Int32)) - (1 : Int32)) / (8 : Int32) * (8 : Int32))) 43 0) - (1 : Int32))) 43 1) 8 = true then (f_X1_copyFrom N (up2 (up2 M 43 1 ((((M 43 1) + (8 : Int32)) - (1 : Int32)) - (((M 43 1) + (8 : Int32)) - (1 : Int32)) / (8 : Int32) * (8 : Int32))) 43 0 (((up2 M 43 1 ((((M 43 1) + (8 : Int32)) - (1 : Int32)) - (((M 43 1) + (8 : Int32)) - (1 : Int32)) / (8 : Int32) * (8 : Int32))) 43 0) - (1 : Int32))) k1 (45 + 2 * ((up2 (up2 M 43 1 ((((M 43 1) + (8 : Int32)) - (1 : Int32)) - (((M 43 1) + (8 : Int32)) - (1 : Int32)) / (8 : Int32) * (8 : Int32))) 43 0 (((up2 M 43 1 ((((M 43 1) + (8 : Int32)) - (1 : Int32)) - (((M 43 1) + (8 : Int32)) - (1 : Int32)) / (8 : Int32) * (8 : Int32))) 43 0) - (1 : Int32))) 43 1).toNatClampNeg)).bind fun q45 => some ((1 : Int32), q45) else none)
set_option maxHeartbeats 4000000 in
set_option maxRecDepth 100000 in
theorem c_X2_recall {X : Cx} {l : Launch} (hX : CxOk X) (hS : SC X) {N : Nat} {M : Mem} {k1 : Nat} (hk1 : ev k1) {r : Int32} {M' : Mem} (h : f_X2_recall N M k1 = some (r, M')) : Ctr X l yX2_recall cX2_recall 2 (some .boolean) 3 [.ref 43, .ref k1] M (some (.int r)) M' := by
  refine Ctr.ofG (L := [some (.ref 43), some (.ref k1)]) hX (by decide) (Nat.le_of_ble_eq_true rfl) rfl (fun F hF hl hR => ?_)
  subst hl
  unfold f_X2_recall at h
  refine g_aload_n hF (dck_at tX2_recall 0 rfl) rfl ?_
  refine gf_X2_28 hF (hS 43 (by decide)) kdc_43 lnc_43 (dck_at tX2_recall 1 rfl) ?_
  refine g_if_ne hF 9 (dck_at tX2_recall 2 rfl) (by decide) (fun hc4 => ?_) (fun hc4 => ?_)
  · replace h := ite_f hc4 h
    refine g_aload_n hF (dck_at tX2_recall 5 rfl) rfl ?_
    refine g_aload_n hF (dck_at tX2_recall 6 rfl) rfl ?_
    refine gf_X2_20 hF (hS 43 (by decide)) kdc_43 lnc_43 (dck_at tX2_recall 7 rfl) ?_
    refine g_bipush (v := 8) hF (dck_at tX2_recall 8 rfl) (by decide) ?_
    refine g_iadd hF (dck_at tX2_recall 9 rfl) ?_
    refine g_iconst (v := 1) hF (dck_at tX2_recall 10 rfl) (by decide) ?_
    show G X F 18 _ _ _
    refine g_isub hF (dck_at tX2_recall 11 rfl) ?_
    refine g_bipush (v := 8) hF (dck_at tX2_recall 12 rfl) (by decide) ?_
    refine g_irem hF (dck_at tX2_recall 13 rfl) (by decide) ?_
    refine pf_X2_20 hF (hS 43 (by decide)) kdc_43 lnc_43 (dck_at tX2_recall 14 rfl) ?_
    refine g_aload_n hF (dck_at tX2_recall 15 rfl) rfl ?_
    refine g_dup hF (dck_at tX2_recall 16 rfl) rfl ?_
    refine gf_X2_28 hF (hS 43 (by decide)) kdc_43 lnc_43 (dck_at tX2_recall 17 rfl) ?_
    show G X F 30 _ _ _
    refine g_iconst (v := 1) hF (dck_at tX2_recall 18 rfl) (by decide) ?_
    refine g_isub hF (dck_at tX2_recall 19 rfl) ?_
    refine pf_X2_28 hF (hS 43 (by decide)) kdc_43 lnc_43 (dck_at tX2_recall 20 rfl) ?_
    refine g_aload_n hF (dck_at tX2_recall 21 rfl) rfl ?_
    refine g_aload_n hF (dck_at tX2_recall 22 rfl) rfl ?_
    refine gf_X2_11 hF (hS 43 (by decide)) kdc_43 lnc_43 (dck_at tX2_recall 23 rfl) ?_
    refine g_aload_n hF (dck_at tX2_recall 24 rfl) rfl ?_
    show G X F 41 _ _ _
    refine gf_X2_20 hF (hS 43 (by decide)) kdc_43 lnc_43 (dck_at tX2_recall 25 rfl) ?_
    obtain ⟨hg44, h⟩ := gd h
    refine g_rin hF hS hg44 (dck_at tX2_recall 26 rfl) ?_
    obtain ⟨q45, e45, h⟩ := bd h
    refine g_callV hF (as := [.ref (45 + 2 * ((up2 (up2 M 43 1 ((((M 43 1) + (8 : Int32)) - (1 : Int32)) - (((M 43 1) + (8 : Int32)) - (1 : Int32)) / (8 : Int32) * (8 : Int32))) 43 0 (((up2 M 43 1 ((((M 43 1) + (8 : Int32)) - (1 : Int32)) - (((M 43 1) + (8 : Int32)) - (1 : Int32)) / (8 : Int32) * (8 : Int32))) 43 0) - (1 : Int32))) 43 1).toNatClampNeg)]) (k := k1) rfl (by decide) wm_X2_24 wi_X1_copyFrom we_X1_copyFrom wc_X1_copyFrom wn_X1 hyX1_copyFrom (by decide) (ev_m hS hk1) (ev_kd hk1) (c_X1_copyFrom hF.2.2.2.2.2.2.2.1 hS hk1 (ev_rin hg44) e45) (by decide) rfl rfl rfl rfl (dck_at tX2_recall 27 rfl) ?_
    show G X F 48 _ [] q45
    refine g_iconst (v := 1) hF (dck_at tX2_recall 28 rfl) (by decide) ?_
    cases h
    exact g_zret hF hR rfl (dck_at tX2_recall 29 rfl)
  · replace h := ite_t hc4 h
    refine g_iconst (v := 0) hF (dck_at tX2_recall 3 rfl) (by decide) ?_
    cases h
    exact g_zret hF hR rfl (dck_at tX2_recall 4 rfl)

def tbX3_isWorthATry : List (Nat × Instr × Nat) := [(0, .iload_n 1, 1), (1, .iconst 1, 1), (2, .if_icmp .ne 23, 3), (5, .iload_n 2, 1), (6, .iconst 1, 1), (7, .iadd, 1), (8, .bipush 6, 2), (10, .if_icmp .ge 19, 3), (13, .aload_n 0, 1), (14, .getfield 20, 3), (17, .iload_n 2, 1), (18, .aaload, 1), (19, .invokevirtual 63, 3), (22, .ifCond .le 7, 3), (25, .iconst 1, 1), (26, .goto 4, 3), (29, .iconst 0, 1), (30, .ireturn, 1)]
theorem tX3_isWorthATry : dck cX3_isWorthATry tbX3_isWorthATry = true := by decide +kernel
def f_X3_isWorthATry (N : Nat) (M : Mem) (x1 : Int32) (x2 : Int32) : Option Int32 := (if x1 = (1 : Int32) then (if (6 : Int32) ≤ (x2 + (1 : Int32)) then some (0 : Int32) else if inb x2 7 = true then (f_X1_moreByBow N M (29 + 2 * x2.toNatClampNeg)).bind fun q19 => (if q19 ≤ 0 then some (0 : Int32) else some (1 : Int32)) else none) else some (1 : Int32))
set_option maxHeartbeats 4000000 in
set_option maxRecDepth 100000 in
theorem c_X3_isWorthATry {X : Cx} {l : Launch} (hX : CxOk X) (hS : SC X) {N : Nat} {M : Mem} {x1 : Int32} {x2 : Int32} {r : Int32} (h : f_X3_isWorthATry N M x1 x2 = some r) : Ctr X l yX3_isWorthATry cX3_isWorthATry 3 (some .boolean) 3 [.ref 25, .int x1, .int x2] M (some (.int r)) M := by
  refine Ctr.ofG (L := [some (.ref 25), some (.int x1), some (.int x2)]) hX (by decide) (Nat.le_of_ble_eq_true rfl) rfl (fun F hF hl hR => ?_)
  subst hl
  unfold f_X3_isWorthATry at h
  refine g_iload_n hF (dck_at tX3_isWorthATry 0 rfl) rfl ?_
  refine g_iconst (v := 1) hF (dck_at tX3_isWorthATry 1 rfl) (by decide) ?_
  refine g_icmp_ne hF 25 (dck_at tX3_isWorthATry 2 rfl) (by decide) (fun hc2 => ?_) (fun hc2 => ?_)
  · replace h := ite_f hc2 h
    refine g_iconst (v := 1) hF (dck_at tX3_isWorthATry 14 rfl) (by decide) ?_
    refine g_goto hF 30 (dck_at tX3_isWorthATry 15 rfl) (by decide) ?_
    cases h
    exact g_zret hF hR rfl (dck_at tX3_isWorthATry 17 rfl)
  · replace h := ite_t hc2 h
    refine g_iload_n hF (dck_at tX3_isWorthATry 3 rfl) rfl ?_
    refine g_iconst (v := 1) hF (dck_at tX3_isWorthATry 4 rfl) (by decide) ?_
    refine g_iadd hF (dck_at tX3_isWorthATry 5 rfl) ?_
    refine g_bipush (v := 6) hF (dck_at tX3_isWorthATry 6 rfl) (by decide) ?_
    refine g_icmp_ge hF 29 (dck_at tX3_isWorthATry 7 rfl) (by decide) (fun hc10 => ?_) (fun hc10 => ?_)
    · replace h := ite_t hc10 h
      refine g_iconst (v := 0) hF (dck_at tX3_isWorthATry 16 rfl) (by decide) ?_
      cases h
      exact g_zret hF hR rfl (dck_at tX3_isWorthATry 17 rfl)
    · replace h := ite_f hc10 h
      refine g_aload_n hF (dck_at tX3_isWorthATry 8 rfl) rfl ?_
      refine gf_X3_20 hF (hS 25 (by decide)) kdc_25 lnc_25 (dck_at tX3_isWorthATry 9 rfl) ?_
      refine g_iload_n hF (dck_at tX3_isWorthATry 10 rfl) rfl ?_
      obtain ⟨hg18, h⟩ := gd h
      refine g_lev hF hS hg18 (dck_at tX3_isWorthATry 11 rfl) ?_
      obtain ⟨q19, e19, h⟩ := bd h
      refine g_callV hF (as := []) (k := (29 + 2 * x2.toNatClampNeg)) rfl (by decide) wm_X3_63 wi_X1_moreByBow we_X1_moreByBow wc_X1_moreByBow wn_X1 hyX1_moreByBow (by decide) (ev_m hS (ev_lev hg18)) (ev_kd (ev_lev hg18)) (c_X1_moreByBow hF.2.2.2.2.2.2.2.1 hS (ev_lev hg18) e19) (by decide) rfl rfl rfl rfl (dck_at tX3_isWorthATry 12 rfl) ?_
      show G X F 22 _ [.int q19] M
      refine g_if_le hF 29 (dck_at tX3_isWorthATry 13 rfl) (by decide) (fun hc22 => ?_) (fun hc22 => ?_)
      · replace h := ite_t hc22 h
        refine g_iconst (v := 0) hF (dck_at tX3_isWorthATry 16 rfl) (by decide) ?_
        cases h
        exact g_zret hF hR rfl (dck_at tX3_isWorthATry 17 rfl)
      · replace h := ite_f hc22 h
        refine g_iconst (v := 1) hF (dck_at tX3_isWorthATry 14 rfl) (by decide) ?_
        refine g_goto hF 30 (dck_at tX3_isWorthATry 15 rfl) (by decide) ?_
        cases h
        exact g_zret hF hR rfl (dck_at tX3_isWorthATry 17 rfl)

def tbX3_compare : List (Nat × Instr × Nat) := [(0, .aload_n 0, 1), (1, .getfield 20, 3), (4, .iload_n 1, 1), (5, .aaload, 1), (6, .getfield 67, 3), (9, .aload_n 0, 1), (10, .getfield 20, 3), (13, .iconst 0, 1), (14, .aaload, 1), (15, .getfield 67, 3), (18, .isub, 1), (19, .istore_n 2, 1), (20, .iload_n 2, 1), (21, .aload_n 0, 1), (22, .getfield 20, 3), (25, .iload_n 1, 1), (26, .aaload, 1), (27, .getfield 70, 3), (30, .aload_n 0, 1), (31, .getfield 20, 3), (34, .iconst 0, 1), (35, .aaload, 1), (36, .getfield 70, 3), (39, .isub, 1), (40, .isub, 1), (41, .istore_n 3, 1), (42, .iload_n 3, 1), (43, .aload_n 0, 1), (44, .getfield 35, 3), (47, .if_icmp .gt 19, 3), (50, .iload_n 3, 1), (51, .aload_n 0, 1), (52, .getfield 35, 3), (55, .if_icmp .ne 35, 3), (58, .iload_n 1, 1), (59, .aload_n 0, 1), (60, .getfield 38, 3), (63, .if_icmp .ge 27, 3), (66, .aload_n 0, 1), (67, .iload_n 3, 1), (68, .putfield 35, 3), (71, .aload_n 0, 1), (72, .iload_n 1, 1), (73, .putfield 38, 3), (76, .aload_n 0, 1), (77, .getfield 15, 3), (80, .iconst 0, 1), (81, .aload_n 0, 1), (82, .getfield 9, 3), (85, .iconst 0, 1), (86, .iload_n 1, 1), (87, .invokestatic 73, 3), (90, .return_, 1)]
theorem tX3_compare : dck cX3_compare tbX3_compare = true := by decide +kernel
def f_X3_compare (N : Nat) (M : Mem) (x1 : Int32) : Option Mem := if inb x1 7 = true then if inb x1 7 = true then (if (M 25 0) < (((M (29 + 2 * x1.toNatClampNeg) 7) - (M 29 7)) - ((M (29 + 2 * x1.toNatClampNeg) 6) - (M 29 6))) then if inb x1 7 = true then some (cp2 (up2 (up2 M 25 0 (((M (29 + 2 * x1.toNatClampNeg) 7) - (M 29 7)) - ((M (29 + 2 * x1.toNatClampNeg) 6) - (M 29 6)))) 25 1 x1) 27 26 x1.toNatClampNeg) else none else (if (((M (29 + 2 * x1.toNatClampNeg) 7) - (M 29 7)) - ((M (29 + 2 * x1.toNatClampNeg) 6) - (M 29 6))) = (M 25 0) then (if (M 25 1) ≤ x1 then some M else if inb x1 7 = true then some (cp2 (up2 (up2 M 25 0 (((M (29 + 2 * x1.toNatClampNeg) 7) - (M 29 7)) - ((M (29 + 2 * x1.toNatClampNeg) 6) - (M 29 6)))) 25 1 x1) 27 26 x1.toNatClampNeg) else none) else some M)) else none else none
set_option maxHeartbeats 4000000 in
set_option maxRecDepth 100000 in
theorem c_X3_compare {X : Cx} {l : Launch} (hX : CxOk X) (hS : SC X) {N : Nat} {M : Mem} {x1 : Int32} {M' : Mem} (h : f_X3_compare N M x1 = some M') : Ctr X l yX3_compare cX3_compare 4 none 2 [.ref 25, .int x1] M none M' := by
  refine Ctr.ofG (L := [some (.ref 25), some (.int x1), none, none]) hX (by decide) (Nat.le_of_ble_eq_true rfl) rfl (fun F hF hl hR => ?_)
  subst hl
  unfold f_X3_compare at h
  refine g_aload_n hF (dck_at tX3_compare 0 rfl) rfl ?_
  refine gf_X3_20 hF (hS 25 (by decide)) kdc_25 lnc_25 (dck_at tX3_compare 1 rfl) ?_
  refine g_iload_n hF (dck_at tX3_compare 2 rfl) rfl ?_
  obtain ⟨hg5, h⟩ := gd h
  refine g_lev hF hS hg5 (dck_at tX3_compare 3 rfl) ?_
  refine gf_X3_67 hF (ev_m hS (ev_lev hg5)) (ev_kd (ev_lev hg5)) (ev_ln (ev_lev hg5)) (dck_at tX3_compare 4 rfl) ?_
  refine g_aload_n hF (dck_at tX3_compare 5 rfl) rfl ?_
  show G X F 10 _ _ _
  refine gf_X3_20 hF (hS 25 (by decide)) kdc_25 lnc_25 (dck_at tX3_compare 6 rfl) ?_
  refine g_iconst (v := 0) hF (dck_at tX3_compare 7 rfl) (by decide) ?_
  refine g_lev hF hS (by decide) (dck_at tX3_compare 8 rfl) ?_
  show G X F 15 _ (.ref 29 :: _) _
  refine gf_X3_67 hF (hS 29 (by decide)) kdc_29 lnc_29 (dck_at tX3_compare 9 rfl) ?_
  refine g_isub hF (dck_at tX3_compare 10 rfl) ?_
  refine g_istore_n (L' := [some (.ref 25), some (.int x1), some (.int ((M (29 + 2 * x1.toNatClampNeg) 7) - (M 29 7))), none]) hF (dck_at tX3_compare 11 rfl) (Nat.le_of_ble_eq_true rfl) rfl ?_
  refine g_iload_n hF (dck_at tX3_compare 12 rfl) rfl ?_
  refine g_aload_n hF (dck_at tX3_compare 13 rfl) rfl ?_
  refine gf_X3_20 hF (hS 25 (by decide)) kdc_25 lnc_25 (dck_at tX3_compare 14 rfl) ?_
  show G X F 25 _ _ _
  refine g_iload_n hF (dck_at tX3_compare 15 rfl) rfl ?_
  obtain ⟨hg26, h⟩ := gd h
  refine g_lev hF hS hg26 (dck_at tX3_compare 16 rfl) ?_
  refine gf_X3_70 hF (ev_m hS (ev_lev hg26)) (ev_kd (ev_lev hg26)) (ev_ln (ev_lev hg26)) (dck_at tX3_compare 17 rfl) ?_
  refine g_aload_n hF (dck_at tX3_compare 18 rfl) rfl ?_
  refine gf_X3_20 hF (hS 25 (by decide)) kdc_25 lnc_25 (dck_at tX3_compare 19 rfl) ?_
  refine g_iconst (v := 0) hF (dck_at tX3_compare 20 rfl) (by decide) ?_
  refine g_lev hF hS (by decide) (dck_at tX3_compare 21 rfl) ?_
  show G X F 36 _ (.ref 29 :: _) _
  refine gf_X3_70 hF (hS 29 (by decide)) kdc_29 lnc_29 (dck_at tX3_compare 22 rfl) ?_
  refine g_isub hF (dck_at tX3_compare 23 rfl) ?_
  refine g_isub hF (dck_at tX3_compare 24 rfl) ?_
  refine g_istore_n (L' := [some (.ref 25), some (.int x1), some (.int ((M (29 + 2 * x1.toNatClampNeg) 7) - (M 29 7))), some (.int (((M (29 + 2 * x1.toNatClampNeg) 7) - (M 29 7)) - ((M (29 + 2 * x1.toNatClampNeg) 6) - (M 29 6))))]) hF (dck_at tX3_compare 25 rfl) (Nat.le_of_ble_eq_true rfl) rfl ?_
  refine g_iload_n hF (dck_at tX3_compare 26 rfl) rfl ?_
  refine g_aload_n hF (dck_at tX3_compare 27 rfl) rfl ?_
  show G X F 44 _ _ _
  refine gf_X3_35 hF (hS 25 (by decide)) kdc_25 lnc_25 (dck_at tX3_compare 28 rfl) ?_
  refine g_icmp_gt hF 66 (dck_at tX3_compare 29 rfl) (by decide) (fun hc47 => ?_) (fun hc47 => ?_)
  · replace h := ite_t hc47 h
    refine g_aload_n hF (dck_at tX3_compare 38 rfl) rfl ?_
    refine g_iload_n hF (dck_at tX3_compare 39 rfl) rfl ?_
    refine pf_X3_35 hF (hS 25 (by decide)) kdc_25 lnc_25 (dck_at tX3_compare 40 rfl) ?_
    refine g_aload_n hF (dck_at tX3_compare 41 rfl) rfl ?_
    refine g_iload_n hF (dck_at tX3_compare 42 rfl) rfl ?_
    refine pf_X3_38 hF (hS 25 (by decide)) kdc_25 lnc_25 (dck_at tX3_compare 43 rfl) ?_
    show G X F 76 _ _ _
    refine g_aload_n hF (dck_at tX3_compare 44 rfl) rfl ?_
    refine gf_X3_15 hF (hS 25 (by decide)) kdc_25 lnc_25 (dck_at tX3_compare 45 rfl) ?_
    refine g_iconst (v := 0) hF (dck_at tX3_compare 46 rfl) (by decide) ?_
    refine g_aload_n hF (dck_at tX3_compare 47 rfl) rfl ?_
    refine gf_X3_9 hF (hS 25 (by decide)) kdc_25 lnc_25 (dck_at tX3_compare 48 rfl) ?_
    refine g_iconst (v := 0) hF (dck_at tX3_compare 49 rfl) (by decide) ?_
    refine g_iload_n hF (dck_at tX3_compare 50 rfl) rfl ?_
    show G X F 87 _ _ _
    obtain ⟨hg87, h⟩ := gd h
    refine g_copy hF wm_X3_73 wv_copy wt_copy wn_J10 (hS 27 (by decide)) kdc_27 (hS 26 (by decide)) kdc_26 (inb_nn hg87) (by rw [lnc_27]; exact Nat.le_of_lt_succ (inb_lt hg87)) (by rw [lnc_26]; exact Nat.le_of_lt_succ (inb_lt hg87)) (by decide) rfl rfl (dck_at tX3_compare 51 rfl) ?_
    cases h
    exact g_vret hF hR (dck_at tX3_compare 52 rfl)
  · replace h := ite_f hc47 h
    refine g_iload_n hF (dck_at tX3_compare 30 rfl) rfl ?_
    refine g_aload_n hF (dck_at tX3_compare 31 rfl) rfl ?_
    refine gf_X3_35 hF (hS 25 (by decide)) kdc_25 lnc_25 (dck_at tX3_compare 32 rfl) ?_
    refine g_icmp_ne hF 90 (dck_at tX3_compare 33 rfl) (by decide) (fun hc55 => ?_) (fun hc55 => ?_)
    · replace h := ite_f hc55 h
      cases h
      exact g_vret hF hR (dck_at tX3_compare 52 rfl)
    · replace h := ite_t hc55 h
      refine g_iload_n hF (dck_at tX3_compare 34 rfl) rfl ?_
      refine g_aload_n hF (dck_at tX3_compare 35 rfl) rfl ?_
      refine gf_X3_38 hF (hS 25 (by decide)) kdc_25 lnc_25 (dck_at tX3_compare 36 rfl) ?_
      refine g_icmp_ge hF 90 (dck_at tX3_compare 37 rfl) (by decide) (fun hc63 => ?_) (fun hc63 => ?_)
      · replace h := ite_t hc63 h
        cases h
        exact g_vret hF hR (dck_at tX3_compare 52 rfl)
      · replace h := ite_f hc63 h
        refine g_aload_n hF (dck_at tX3_compare 38 rfl) rfl ?_
        refine g_iload_n hF (dck_at tX3_compare 39 rfl) rfl ?_
        refine pf_X3_35 hF (hS 25 (by decide)) kdc_25 lnc_25 (dck_at tX3_compare 40 rfl) ?_
        refine g_aload_n hF (dck_at tX3_compare 41 rfl) rfl ?_
        refine g_iload_n hF (dck_at tX3_compare 42 rfl) rfl ?_
        refine pf_X3_38 hF (hS 25 (by decide)) kdc_25 lnc_25 (dck_at tX3_compare 43 rfl) ?_
        show G X F 76 _ _ _
        refine g_aload_n hF (dck_at tX3_compare 44 rfl) rfl ?_
        refine gf_X3_15 hF (hS 25 (by decide)) kdc_25 lnc_25 (dck_at tX3_compare 45 rfl) ?_
        refine g_iconst (v := 0) hF (dck_at tX3_compare 46 rfl) (by decide) ?_
        refine g_aload_n hF (dck_at tX3_compare 47 rfl) rfl ?_
        refine gf_X3_9 hF (hS 25 (by decide)) kdc_25 lnc_25 (dck_at tX3_compare 48 rfl) ?_
        refine g_iconst (v := 0) hF (dck_at tX3_compare 49 rfl) (by decide) ?_
        refine g_iload_n hF (dck_at tX3_compare 50 rfl) rfl ?_
        show G X F 87 _ _ _
        obtain ⟨hg87, h⟩ := gd h
        refine g_copy hF wm_X3_73 wv_copy wt_copy wn_J10 (hS 27 (by decide)) kdc_27 (hS 26 (by decide)) kdc_26 (inb_nn hg87) (by rw [lnc_27]; exact Nat.le_of_lt_succ (inb_lt hg87)) (by rw [lnc_26]; exact Nat.le_of_lt_succ (inb_lt hg87)) (by decide) rfl rfl (dck_at tX3_compare 51 rfl) ?_
        cases h
        exact g_vret hF hR (dck_at tX3_compare 52 rfl)

def tbX3_lookBehind : List (Nat × Instr × Nat) := [(0, .aload_n 0, 1), (1, .getfield 15, 3), (4, .iload_n 2, 1), (5, .iload_n 1, 1), (6, .iastore, 1), (7, .aload_n 0, 1), (8, .getfield 20, 3), (11, .iload_n 2, 1), (12, .iconst 1, 1), (13, .iadd, 1), (14, .aaload, 1), (15, .aload_n 0, 1), (16, .getfield 20, 3), (19, .iload_n 2, 1), (20, .aaload, 1), (21, .invokevirtual 27, 3), (24, .aload_n 0, 1), (25, .getfield 20, 3), (28, .iload_n 2, 1), (29, .iconst 1, 1), (30, .iadd, 1), (31, .aaload, 1), (32, .iload_n 1, 1), (33, .invokevirtual 57, 3), (36, .aload_n 0, 1), (37, .iload_n 2, 1), (38, .iconst 1, 1), (39, .iadd, 1), (40, .invokevirtual 60, 3), (43, .aload_n 0, 1), (44, .iload_n 2, 1), (45, .iconst 1, 1), (46, .iadd, 1), (47, .invokevirtual 41, 3), (50, .return_, 1)]
theorem tX3_lookBehind : dck cX3_lookBehind tbX3_lookBehind = true := by decide +kernel
def f_X3_lookBehind (N : Nat) (rec : Mem → Int32 → Option Mem) (M : Mem) (x1 : Int32) (x2 : Int32) : Option Mem := if inb x2 6 = true then if inb (x2 + (1 : Int32)) 7 = true then if inb x2 7 = true then (f_X1_copyFrom N (up2 M 27 x2.toNatClampNeg x1) (29 + 2 * (x2 + (1 : Int32)).toNatClampNeg) (29 + 2 * x2.toNatClampNeg)).bind fun q21 => if inb (x2 + (1 : Int32)) 7 = true then (f_X1_take N q21 (29 + 2 * (x2 + (1 : Int32)).toNatClampNeg) x1).bind fun q33 => (f_X3_compare N q33 (x2 + (1 : Int32))).bind fun q40 => (rec q40 (x2 + (1 : Int32))).bind fun q47 => some q47 else none else none else none else none
set_option maxHeartbeats 4000000 in
set_option maxRecDepth 100000 in
theorem c_X3_lookBehind {X : Cx} {l : Launch} (hX : CxOk X) (hS : SC X) {d0 : Nat} (hd0 : 20 ≤ d0) {N : Nat} {rec : Mem → Int32 → Option Mem} (hrec : ∀ M x M', rec M x = some M' → Ctr X l yX3_lookDeeper cX3_lookDeeper 3 none d0 [.ref 25, .int x] M none M') {M : Mem} {x1 : Int32} {x2 : Int32} {M' : Mem} (h : f_X3_lookBehind N rec M x1 x2 = some M') : Ctr X l yX3_lookBehind cX3_lookBehind 3 none (d0 + 1) [.ref 25, .int x1, .int x2] M none M' := by
  refine Ctr.ofG (L := [some (.ref 25), some (.int x1), some (.int x2)]) hX (by decide) (Nat.le_of_ble_eq_true rfl) rfl (fun F hF hl hR => ?_)
  subst hl
  unfold f_X3_lookBehind at h
  refine g_aload_n hF (dck_at tX3_lookBehind 0 rfl) rfl ?_
  refine gf_X3_15 hF (hS 25 (by decide)) kdc_25 lnc_25 (dck_at tX3_lookBehind 1 rfl) ?_
  refine g_iload_n hF (dck_at tX3_lookBehind 2 rfl) rfl ?_
  refine g_iload_n hF (dck_at tX3_lookBehind 3 rfl) rfl ?_
  obtain ⟨hg6, h⟩ := gd h
  refine g_is hF (hS 27 (by decide)) kdc_27 lnc_27 hg6 (dck_at tX3_lookBehind 4 rfl) ?_
  refine g_aload_n hF (dck_at tX3_lookBehind 5 rfl) rfl ?_
  show G X F 8 _ _ _
  refine gf_X3_20 hF (hS 25 (by decide)) kdc_25 lnc_25 (dck_at tX3_lookBehind 6 rfl) ?_
  refine g_iload_n hF (dck_at tX3_lookBehind 7 rfl) rfl ?_
  refine g_iconst (v := 1) hF (dck_at tX3_lookBehind 8 rfl) (by decide) ?_
  refine g_iadd hF (dck_at tX3_lookBehind 9 rfl) ?_
  obtain ⟨hg14, h⟩ := gd h
  refine g_lev hF hS hg14 (dck_at tX3_lookBehind 10 rfl) ?_
  refine g_aload_n hF (dck_at tX3_lookBehind 11 rfl) rfl ?_
  refine gf_X3_20 hF (hS 25 (by decide)) kdc_25 lnc_25 (dck_at tX3_lookBehind 12 rfl) ?_
  show G X F 19 _ _ _
  refine g_iload_n hF (dck_at tX3_lookBehind 13 rfl) rfl ?_
  obtain ⟨hg20, h⟩ := gd h
  refine g_lev hF hS hg20 (dck_at tX3_lookBehind 14 rfl) ?_
  obtain ⟨q21, e21, h⟩ := bd h
  refine g_callV hF (as := [.ref (29 + 2 * x2.toNatClampNeg)]) (k := (29 + 2 * (x2 + (1 : Int32)).toNatClampNeg)) rfl (by decide) wm_X3_27 wi_X1_copyFrom we_X1_copyFrom wc_X1_copyFrom wn_X1 hyX1_copyFrom (by decide) (ev_m hS (ev_lev hg14)) (ev_kd (ev_lev hg14)) (c_X1_copyFrom hF.2.2.2.2.2.2.2.1 hS (ev_lev hg14) (ev_lev hg20) e21) (by omega) rfl rfl rfl rfl (dck_at tX3_lookBehind 15 rfl) ?_
  show G X F 24 _ [] q21
  refine g_aload_n hF (dck_at tX3_lookBehind 16 rfl) rfl ?_
  refine gf_X3_20 hF (hS 25 (by decide)) kdc_25 lnc_25 (dck_at tX3_lookBehind 17 rfl) ?_
  refine g_iload_n hF (dck_at tX3_lookBehind 18 rfl) rfl ?_
  refine g_iconst (v := 1) hF (dck_at tX3_lookBehind 19 rfl) (by decide) ?_
  show G X F 30 _ _ _
  refine g_iadd hF (dck_at tX3_lookBehind 20 rfl) ?_
  obtain ⟨hg31, h⟩ := gd h
  refine g_lev hF hS hg31 (dck_at tX3_lookBehind 21 rfl) ?_
  refine g_iload_n hF (dck_at tX3_lookBehind 22 rfl) rfl ?_
  obtain ⟨q33, e33, h⟩ := bd h
  refine g_callV hF (as := [.int x1]) (k := (29 + 2 * (x2 + (1 : Int32)).toNatClampNeg)) rfl (by decide) wm_X3_57 wi_X1_take we_X1_take wc_X1_take wn_X1 hyX1_take (by decide) (ev_m hS (ev_lev hg31)) (ev_kd (ev_lev hg31)) (c_X1_take hF.2.2.2.2.2.2.2.1 hS (ev_lev hg31) e33) (by omega) rfl rfl rfl rfl (dck_at tX3_lookBehind 23 rfl) ?_
  show G X F 36 _ [] q33
  refine g_aload_n hF (dck_at tX3_lookBehind 24 rfl) rfl ?_
  refine g_iload_n hF (dck_at tX3_lookBehind 25 rfl) rfl ?_
  refine g_iconst (v := 1) hF (dck_at tX3_lookBehind 26 rfl) (by decide) ?_
  show G X F 39 _ _ _
  refine g_iadd hF (dck_at tX3_lookBehind 27 rfl) ?_
  obtain ⟨q40, e40, h⟩ := bd h
  refine g_callV hF (as := [.int (x2 + (1 : Int32))]) (k := 25) rfl (by decide) wm_X3_60 wi_X3_compare we_X3_compare wc_X3_compare wn_X3 hyX3_compare (by decide) (hS 25 (by decide)) kdc_25 (c_X3_compare hF.2.2.2.2.2.2.2.1 hS e40) (by omega) rfl rfl rfl rfl (dck_at tX3_lookBehind 28 rfl) ?_
  show G X F 43 _ [] q40
  refine g_aload_n hF (dck_at tX3_lookBehind 29 rfl) rfl ?_
  refine g_iload_n hF (dck_at tX3_lookBehind 30 rfl) rfl ?_
  refine g_iconst (v := 1) hF (dck_at tX3_lookBehind 31 rfl) (by decide) ?_
  refine g_iadd hF (dck_at tX3_lookBehind 32 rfl) ?_
  obtain ⟨q47, e47, h⟩ := bd h
  refine g_callV hF (as := [.int (x2 + (1 : Int32))]) (k := 25) rfl (by decide) wm_X3_41 wi_X3_lookDeeper we_X3_lookDeeper wc_X3_lookDeeper wn_X3 hyX3_lookDeeper (by decide) (hS 25 (by decide)) kdc_25 (hrec _ _ _ e47) (by omega) rfl rfl rfl rfl (dck_at tX3_lookBehind 33 rfl) ?_
  show G X F 50 _ [] q47
  show G X F 50 _ _ _
  cases h
  exact g_vret hF hR (dck_at tX3_lookBehind 34 rfl)

def tbX3_lookDeeper : List (Nat × Instr × Nat) := [(0, .iload_n 1, 1), (1, .bipush 6, 2), (3, .if_icmp .lt 4, 3), (6, .return_, 1), (7, .iconst 1, 1), (8, .istore_n 2, 1), (9, .iload_n 2, 1), (10, .iconst 5, 1), (11, .if_icmp .gt 37, 3), (14, .aload_n 0, 1), (15, .iload_n 2, 1), (16, .iload_n 1, 1), (17, .invokevirtual 45, 3), (20, .ifCond .eq 22, 3), (23, .aload_n 0, 1), (24, .getfield 20, 3), (27, .iload_n 1, 1), (28, .aaload, 1), (29, .iload_n 2, 1), (30, .invokevirtual 49, 3), (33, .ifCond .eq 9, 3), (36, .aload_n 0, 1), (37, .iload_n 2, 1), (38, .iload_n 1, 1), (39, .invokevirtual 53, 3), (42, .iinc 2 1, 3), (45, .goto (-36), 3), (48, .return_, 1)]
theorem tX3_lookDeeper : dck cX3_lookDeeper tbX3_lookDeeper = true := by decide +kernel
def f_X3_lookDeeper_L9 (N : Nat) (rec : Mem → Int32 → Option Mem) (x1 : Int32) : Nat → Int32 → Mem → Option (Int32 × Mem)
  | 0, _, _ => none
  | n + 1, x2, M => (if (5 : Int32) < x2 then some (x2, M) else (f_X3_isWorthATry N M x2 x1).bind fun q17 => (if q17 = 0 then f_X3_lookDeeper_L9 N rec x1 n (x2 + (1 : Int32)) M else if inb x1 7 = true then (f_X1_isPossible N M (29 + 2 * x1.toNatClampNeg) x2).bind fun q30 => (if q30 = 0 then f_X3_lookDeeper_L9 N rec x1 n (x2 + (1 : Int32)) M else (f_X3_lookBehind N rec M x2 x1).bind fun q39 => f_X3_lookDeeper_L9 N rec x1 n (x2 + (1 : Int32)) q39) else none))
def f_X3_lookDeeper (N : Nat) (rec : Mem → Int32 → Option Mem) (M : Mem) (x1 : Int32) : Option Mem := (if x1 < (6 : Int32) then (f_X3_lookDeeper_L9 N rec x1 N (1 : Int32) M).bind fun o9 => some o9.2 else some M)
set_option maxHeartbeats 4000000 in
set_option maxRecDepth 100000 in
theorem g_X3_lookDeeper_L9 {X : Cx} {F : Fx} (hS : SC X) {d0 : Nat} (hd0 : 20 ≤ d0) (hF : FK X F cX3_lookDeeper RX3 3 (d0 + 2)) (N : Nat) (rec : Mem → Int32 → Option Mem) (x1 : Int32) (hrec : ∀ M x M', rec M x = some M' → Ctr X (fL F) yX3_lookDeeper cX3_lookDeeper 3 none d0 [.ref 25, .int x] M none M') : ∀ (n : Nat) (x2 : Int32) (M : Mem) (o : Int32 × Mem), f_X3_lookDeeper_L9 N rec x1 n x2 M = some o → G X F 48 [none, none, none] [] o.2 → G X F 9 [some (.ref 25), some (.int x1), some (.int x2)] [] M := by
  intro n
  induction n with
  | zero =>
    intro x2 M o h K
    cases h
  | succ n ih =>
    intro x2 M o h K
    rw [f_X3_lookDeeper_L9] at h
    refine g_iload_n hF (dck_at tX3_lookDeeper 6 rfl) rfl ?_
    refine g_iconst (v := 5) hF (dck_at tX3_lookDeeper 7 rfl) (by decide) ?_
    refine g_icmp_gt hF 48 (dck_at tX3_lookDeeper 8 rfl) (by decide) (fun hc11 => ?_) (fun hc11 => ?_)
    · replace h := ite_t hc11 h
      refine g_msk [false, false, false] (L' := [none, none, none]) rfl ?_
      cases h
      exact K
    · replace h := ite_f hc11 h
      refine g_aload_n hF (dck_at tX3_lookDeeper 9 rfl) rfl ?_
      refine g_iload_n hF (dck_at tX3_lookDeeper 10 rfl) rfl ?_
      refine g_iload_n hF (dck_at tX3_lookDeeper 11 rfl) rfl ?_
      obtain ⟨q17, e17, h⟩ := bd h
      refine g_callV hF (as := [.int x2, .int x1]) (k := 25) rfl (by decide) wm_X3_45 wi_X3_isWorthATry we_X3_isWorthATry wc_X3_isWorthATry wn_X3 hyX3_isWorthATry (by decide) (hS 25 (by decide)) kdc_25 (c_X3_isWorthATry hF.2.2.2.2.2.2.2.1 hS e17) (by omega) rfl rfl rfl rfl (dck_at tX3_lookDeeper 12 rfl) ?_
      show G X F 20 _ [.int q17] M
      refine g_if_eq hF 42 (dck_at tX3_lookDeeper 13 rfl) (by decide) (fun hc20 => ?_) (fun hc20 => ?_)
      · replace h := ite_t hc20 h
        refine g_iinc (v := 1) (L' := [some (.ref 25), some (.int x1), some (.int (x2 + (1 : Int32)))]) hF (dck_at tX3_lookDeeper 25 rfl) rfl (by decide) rfl ?_
        refine g_goto hF 9 (dck_at tX3_lookDeeper 26 rfl) (by decide) ?_
        exact ih _ _ _ h K
      · replace h := ite_f hc20 h
        refine g_aload_n hF (dck_at tX3_lookDeeper 14 rfl) rfl ?_
        refine gf_X3_20 hF (hS 25 (by decide)) kdc_25 lnc_25 (dck_at tX3_lookDeeper 15 rfl) ?_
        refine g_iload_n hF (dck_at tX3_lookDeeper 16 rfl) rfl ?_
        obtain ⟨hg28, h⟩ := gd h
        refine g_lev hF hS hg28 (dck_at tX3_lookDeeper 17 rfl) ?_
        refine g_iload_n hF (dck_at tX3_lookDeeper 18 rfl) rfl ?_
        obtain ⟨q30, e30, h⟩ := bd h
        refine g_callV hF (as := [.int x2]) (k := (29 + 2 * x1.toNatClampNeg)) rfl (by decide) wm_X3_49 wi_X1_isPossible we_X1_isPossible wc_X1_isPossible wn_X1 hyX1_isPossible (by decide) (ev_m hS (ev_lev hg28)) (ev_kd (ev_lev hg28)) (c_X1_isPossible hF.2.2.2.2.2.2.2.1 hS (ev_lev hg28) e30) (by omega) rfl rfl rfl rfl (dck_at tX3_lookDeeper 19 rfl) ?_
        show G X F 33 _ [.int q30] M
        show G X F 33 _ _ _
        refine g_if_eq hF 42 (dck_at tX3_lookDeeper 20 rfl) (by decide) (fun hc33 => ?_) (fun hc33 => ?_)
        · replace h := ite_t hc33 h
          refine g_iinc (v := 1) (L' := [some (.ref 25), some (.int x1), some (.int (x2 + (1 : Int32)))]) hF (dck_at tX3_lookDeeper 25 rfl) rfl (by decide) rfl ?_
          refine g_goto hF 9 (dck_at tX3_lookDeeper 26 rfl) (by decide) ?_
          exact ih _ _ _ h K
        · replace h := ite_f hc33 h
          refine g_aload_n hF (dck_at tX3_lookDeeper 21 rfl) rfl ?_
          refine g_iload_n hF (dck_at tX3_lookDeeper 22 rfl) rfl ?_
          refine g_iload_n hF (dck_at tX3_lookDeeper 23 rfl) rfl ?_
          obtain ⟨q39, e39, h⟩ := bd h
          refine g_callV hF (as := [.int x2, .int x1]) (k := 25) rfl (by decide) wm_X3_53 wi_X3_lookBehind we_X3_lookBehind wc_X3_lookBehind wn_X3 hyX3_lookBehind (by decide) (hS 25 (by decide)) kdc_25 (c_X3_lookBehind hF.2.2.2.2.2.2.2.1 hS hd0 hrec e39) (by omega) rfl rfl rfl rfl (dck_at tX3_lookDeeper 24 rfl) ?_
          show G X F 42 _ [] q39
          refine g_iinc (v := 1) (L' := [some (.ref 25), some (.int x1), some (.int (x2 + (1 : Int32)))]) hF (dck_at tX3_lookDeeper 25 rfl) rfl (by decide) rfl ?_
          refine g_goto hF 9 (dck_at tX3_lookDeeper 26 rfl) (by decide) ?_
          exact ih _ _ _ h K
set_option maxHeartbeats 4000000 in
set_option maxRecDepth 100000 in
theorem c_X3_lookDeeper {X : Cx} {l : Launch} (hX : CxOk X) (hS : SC X) {d0 : Nat} (hd0 : 20 ≤ d0) {N : Nat} {rec : Mem → Int32 → Option Mem} (hrec : ∀ M x M', rec M x = some M' → Ctr X l yX3_lookDeeper cX3_lookDeeper 3 none d0 [.ref 25, .int x] M none M') {M : Mem} {x1 : Int32} {M' : Mem} (h : f_X3_lookDeeper N rec M x1 = some M') : Ctr X l yX3_lookDeeper cX3_lookDeeper 3 none (d0 + 2) [.ref 25, .int x1] M none M' := by
  refine Ctr.ofG (L := [some (.ref 25), some (.int x1), none]) hX (by decide) (Nat.le_of_ble_eq_true rfl) rfl (fun F hF hl hR => ?_)
  subst hl
  unfold f_X3_lookDeeper at h
  refine g_iload_n hF (dck_at tX3_lookDeeper 0 rfl) rfl ?_
  refine g_bipush (v := 6) hF (dck_at tX3_lookDeeper 1 rfl) (by decide) ?_
  refine g_icmp_lt hF 7 (dck_at tX3_lookDeeper 2 rfl) (by decide) (fun hc3 => ?_) (fun hc3 => ?_)
  · replace h := ite_t hc3 h
    refine g_iconst (v := 1) hF (dck_at tX3_lookDeeper 4 rfl) (by decide) ?_
    refine g_istore_n (L' := [some (.ref 25), some (.int x1), some (.int (1 : Int32))]) hF (dck_at tX3_lookDeeper 5 rfl) (Nat.le_of_ble_eq_true rfl) rfl ?_
    obtain ⟨o9, e9, h⟩ := bd h
    refine g_X3_lookDeeper_L9 hS hd0 hF N rec _ hrec N _ _ _ e9 ?_
    cases h
    exact g_vret hF hR (dck_at tX3_lookDeeper 27 rfl)
  · replace h := ite_f hc3 h
    cases h
    exact g_vret hF hR (dck_at tX3_lookDeeper 3 rfl)

def f_X3_lookDeeperR (N : Nat) : Nat → Mem → Int32 → Option Mem
  | 0, _, _ => none
  | D + 1, M, x => f_X3_lookDeeper N (fun M x => f_X3_lookDeeperR N D M x) M x
theorem c_X3_lookDeeperR {X : Cx} {l : Launch} (hX : CxOk X) (hS : SC X) {N : Nat} : ∀ (D : Nat) (M : Mem) (x : Int32) (M' : Mem), f_X3_lookDeeperR N D M x = some M' → Ctr X l yX3_lookDeeper cX3_lookDeeper 3 none (20 + 2 * D) [.ref 25, .int x] M none M' := by
  intro D
  induction D with
  | zero => intro M x M' h; cases h
  | succ D ih =>
    intro M x M' h
    exact c_X3_lookDeeper (d0 := 20 + 2 * D) hX hS (Nat.le_add_right 20 _) (rec := fun M x => f_X3_lookDeeperR N D M x) ih h

def tbX3_lookFrom : List (Nat × Instr × Nat) := [(0, .aload_n 0, 1), (1, .getfield 20, 3), (4, .iconst 0, 1), (5, .aaload, 1), (6, .aload_n 1, 1), (7, .invokevirtual 27, 3), (10, .aload_n 0, 1), (11, .getfield 20, 3), (14, .iconst 0, 1), (15, .aaload, 1), (16, .iload_n 2, 1), (17, .putfield 31, 3), (20, .aload_n 0, 1), (21, .iconst 0, 1), (22, .putfield 35, 3), (25, .aload_n 0, 1), (26, .iconst 0, 1), (27, .putfield 38, 3), (30, .aload_n 0, 1), (31, .iconst 0, 1), (32, .invokevirtual 41, 3), (35, .return_, 1)]
theorem tX3_lookFrom : dck cX3_lookFrom tbX3_lookFrom = true := by decide +kernel
def f_X3_lookFrom (N : Nat) (M : Mem) (k1 : Nat) (x2 : Int32) : Option Mem := (f_X1_copyFrom N M 29 k1).bind fun q7 => (f_X3_lookDeeperR N 7 (up2 (up2 (up2 q7 29 3 x2) 25 0 (0 : Int32)) 25 1 (0 : Int32)) (0 : Int32)).bind fun q32 => some q32
set_option maxHeartbeats 4000000 in
set_option maxRecDepth 100000 in
theorem c_X3_lookFrom {X : Cx} {l : Launch} (hX : CxOk X) (hS : SC X) {N : Nat} {M : Mem} {k1 : Nat} {x2 : Int32} (hk1 : ev k1) {M' : Mem} (h : f_X3_lookFrom N M k1 x2 = some M') : Ctr X l yX3_lookFrom cX3_lookFrom 3 none 35 [.ref 25, .ref k1, .int x2] M none M' := by
  refine Ctr.ofG (L := [some (.ref 25), some (.ref k1), some (.int x2)]) hX (by decide) (Nat.le_of_ble_eq_true rfl) rfl (fun F hF hl hR => ?_)
  subst hl
  unfold f_X3_lookFrom at h
  refine g_aload_n hF (dck_at tX3_lookFrom 0 rfl) rfl ?_
  refine gf_X3_20 hF (hS 25 (by decide)) kdc_25 lnc_25 (dck_at tX3_lookFrom 1 rfl) ?_
  refine g_iconst (v := 0) hF (dck_at tX3_lookFrom 2 rfl) (by decide) ?_
  refine g_lev hF hS (by decide) (dck_at tX3_lookFrom 3 rfl) ?_
  show G X F 6 _ (.ref 29 :: _) _
  refine g_aload_n hF (dck_at tX3_lookFrom 4 rfl) rfl ?_
  obtain ⟨q7, e7, h⟩ := bd h
  refine g_callV hF (as := [.ref k1]) (k := 29) rfl (by decide) wm_X3_27 wi_X1_copyFrom we_X1_copyFrom wc_X1_copyFrom wn_X1 hyX1_copyFrom (by decide) (hS 29 (by decide)) kdc_29 (c_X1_copyFrom hF.2.2.2.2.2.2.2.1 hS evc_29 hk1 e7) (by decide) rfl rfl rfl rfl (dck_at tX3_lookFrom 5 rfl) ?_
  show G X F 10 _ [] q7
  refine g_aload_n hF (dck_at tX3_lookFrom 6 rfl) rfl ?_
  refine gf_X3_20 hF (hS 25 (by decide)) kdc_25 lnc_25 (dck_at tX3_lookFrom 7 rfl) ?_
  refine g_iconst (v := 0) hF (dck_at tX3_lookFrom 8 rfl) (by decide) ?_
  refine g_lev hF hS (by decide) (dck_at tX3_lookFrom 9 rfl) ?_
  show G X F 16 _ (.ref 29 :: _) _
  refine g_iload_n hF (dck_at tX3_lookFrom 10 rfl) rfl ?_
  refine pf_X3_31 hF (hS 29 (by decide)) kdc_29 lnc_29 (dck_at tX3_lookFrom 11 rfl) ?_
  refine g_aload_n hF (dck_at tX3_lookFrom 12 rfl) rfl ?_
  refine g_iconst (v := 0) hF (dck_at tX3_lookFrom 13 rfl) (by decide) ?_
  refine pf_X3_35 hF (hS 25 (by decide)) kdc_25 lnc_25 (dck_at tX3_lookFrom 14 rfl) ?_
  refine g_aload_n hF (dck_at tX3_lookFrom 15 rfl) rfl ?_
  show G X F 26 _ _ _
  refine g_iconst (v := 0) hF (dck_at tX3_lookFrom 16 rfl) (by decide) ?_
  refine pf_X3_38 hF (hS 25 (by decide)) kdc_25 lnc_25 (dck_at tX3_lookFrom 17 rfl) ?_
  refine g_aload_n hF (dck_at tX3_lookFrom 18 rfl) rfl ?_
  refine g_iconst (v := 0) hF (dck_at tX3_lookFrom 19 rfl) (by decide) ?_
  obtain ⟨q32, e32, h⟩ := bd h
  refine g_callV hF (as := [.int (0 : Int32)]) (k := 25) rfl (by decide) wm_X3_41 wi_X3_lookDeeper we_X3_lookDeeper wc_X3_lookDeeper wn_X3 hyX3_lookDeeper (by decide) (hS 25 (by decide)) kdc_25 (c_X3_lookDeeperR hF.2.2.2.2.2.2.2.1 hS 7 _ _ _ e32) (by decide) rfl rfl rfl rfl (dck_at tX3_lookFrom 20 rfl) ?_
  show G X F 35 _ [] q32
  cases h
  exact g_vret hF hR (dck_at tX3_lookFrom 21 rfl)
