def tbX1_begin : List (Nat × Instr × Nat) := [(0, .aload_n 0, 1), (1, .getfield 15, 3), (4, .getfield 19, 3), (7, .iconst 0, 1), (8, .aload_n 0, 1), (9, .getfield 9, 3), (12, .iconst 0, 1), (13, .bipush 8, 2), (15, .invokestatic 24, 3), (18, .aload_n 0, 1), (19, .iconst 1, 1), (20, .aload_n 0, 1), (21, .getfield 15, 3), (24, .getfield 30, 3), (27, .ishl, 1), (28, .iconst 1, 1), (29, .isub, 1), (30, .putfield 34, 3), (33, .aload_n 0, 1), (34, .iconst 0, 1), (35, .putfield 37, 3), (38, .aload_n 0, 1), (39, .aload_n 0, 1), (40, .getfield 15, 3), (43, .getfield 40, 3), (46, .putfield 43, 3), (49, .aload_n 0, 1), (50, .iconst 0, 1), (51, .putfield 44, 3), (54, .aload_n 0, 1), (55, .iconst 0, 1), (56, .putfield 47, 3), (59, .aload_n 0, 1), (60, .iconst 0, 1), (61, .putfield 50, 3), (64, .aload_n 0, 1), (65, .iconst 0, 1), (66, .putfield 53, 3), (69, .aload_n 0, 1), (70, .iconst 0, 1), (71, .putfield 56, 3), (74, .return_, 1)]
theorem tX1_begin : dck cX1_begin tbX1_begin = true := by decide +kernel
def f_X1_begin (N : Nat) (M : Mem) (k : Nat) : Option Mem := some (up2 (up2 (up2 (up2 (up2 (up2 (up2 (up2 (cp2 M 3 (k + 1) 8) k 1 (((1 : Int32) <<< (((cp2 M 3 (k + 1) 8) 1 7) &&& 31)) - (1 : Int32))) k 2 (0 : Int32)) k 3 ((up2 (up2 (cp2 M 3 (k + 1) 8) k 1 (((1 : Int32) <<< (((cp2 M 3 (k + 1) 8) 1 7) &&& 31)) - (1 : Int32))) k 2 (0 : Int32)) 1 9)) k 4 (0 : Int32)) k 5 (0 : Int32)) k 6 (0 : Int32)) k 7 (0 : Int32)) k 8 (0 : Int32))
set_option maxHeartbeats 4000000 in
set_option maxRecDepth 100000 in
theorem c_X1_begin {X : Cx} {l : Launch} (hX : CxOk X) (hS : SC X) {N : Nat} {M : Mem} {k : Nat} (hk : ev k) {M' : Mem} (h : f_X1_begin N M k = some M') : Ctr X l yX1_begin cX1_begin 1 none 2 [.ref k] M none M' := by
  refine Ctr.ofG (L := [some (.ref k)]) hX (by decide) (Nat.le_of_ble_eq_true rfl) rfl (fun F hF hl hR => ?_)
  subst hl
  unfold f_X1_begin at h
  refine g_aload_n hF (dck_at tX1_begin 0 rfl) rfl ?_
  refine gf_X1_15 hF (ev_m hS hk) (ev_kd hk) (ev_ln hk) (dck_at tX1_begin 1 rfl) ?_
  refine gf_X1_19 hF (hS 1 (by decide)) kdc_1 lnc_1 (t := 3) rfl (dck_at tX1_begin 2 rfl) ?_
  refine g_iconst (v := 0) hF (dck_at tX1_begin 3 rfl) (by decide) ?_
  refine g_aload_n hF (dck_at tX1_begin 4 rfl) rfl ?_
  refine gf_X1_9 hF (ev_m hS hk) (ev_kd hk) (ev_ln hk) (t := (k + 1)) rfl (dck_at tX1_begin 5 rfl) ?_
  show G X F 12 _ _ _
  refine g_iconst (v := 0) hF (dck_at tX1_begin 6 rfl) (by decide) ?_
  refine g_bipush (v := 8) hF (dck_at tX1_begin 7 rfl) (by decide) ?_
  refine g_copy hF wm_X1_24 wv_copy wt_copy wn_J10 (hS 3 (by decide)) kdc_3 (ev_mz hS hk) (ev_kz hk) (by decide) (by rw [lnc_3]; decide) (by rw [(ev_lz hk)]; decide) (by decide) rfl rfl (dck_at tX1_begin 8 rfl) ?_
  show G X F 18 _ _ (cp2 M 3 (k + 1) 8)
  refine g_aload_n hF (dck_at tX1_begin 9 rfl) rfl ?_
  refine g_iconst (v := 1) hF (dck_at tX1_begin 10 rfl) (by decide) ?_
  refine g_aload_n hF (dck_at tX1_begin 11 rfl) rfl ?_
  refine gf_X1_15 hF (ev_m hS hk) (ev_kd hk) (ev_ln hk) (dck_at tX1_begin 12 rfl) ?_
  show G X F 24 _ _ _
  refine gf_X1_30 hF (hS 1 (by decide)) kdc_1 lnc_1 (dck_at tX1_begin 13 rfl) ?_
  refine g_ishl hF (dck_at tX1_begin 14 rfl) ?_
  refine g_iconst (v := 1) hF (dck_at tX1_begin 15 rfl) (by decide) ?_
  refine g_isub hF (dck_at tX1_begin 16 rfl) ?_
  refine pf_X1_34 hF (ev_m hS hk) (ev_kd hk) (ev_ln hk) (dck_at tX1_begin 17 rfl) ?_
  refine g_aload_n hF (dck_at tX1_begin 18 rfl) rfl ?_
  refine g_iconst (v := 0) hF (dck_at tX1_begin 19 rfl) (by decide) ?_
  show G X F 35 _ _ _
  refine pf_X1_37 hF (ev_m hS hk) (ev_kd hk) (ev_ln hk) (dck_at tX1_begin 20 rfl) ?_
  refine g_aload_n hF (dck_at tX1_begin 21 rfl) rfl ?_
  refine g_aload_n hF (dck_at tX1_begin 22 rfl) rfl ?_
  refine gf_X1_15 hF (ev_m hS hk) (ev_kd hk) (ev_ln hk) (dck_at tX1_begin 23 rfl) ?_
  refine gf_X1_40 hF (hS 1 (by decide)) kdc_1 lnc_1 (dck_at tX1_begin 24 rfl) ?_
  refine pf_X1_43 hF (ev_m hS hk) (ev_kd hk) (ev_ln hk) (dck_at tX1_begin 25 rfl) ?_
  refine g_aload_n hF (dck_at tX1_begin 26 rfl) rfl ?_
  show G X F 50 _ _ _
  refine g_iconst (v := 0) hF (dck_at tX1_begin 27 rfl) (by decide) ?_
  refine pf_X1_44 hF (ev_m hS hk) (ev_kd hk) (ev_ln hk) (dck_at tX1_begin 28 rfl) ?_
  refine g_aload_n hF (dck_at tX1_begin 29 rfl) rfl ?_
  refine g_iconst (v := 0) hF (dck_at tX1_begin 30 rfl) (by decide) ?_
  refine pf_X1_47 hF (ev_m hS hk) (ev_kd hk) (ev_ln hk) (dck_at tX1_begin 31 rfl) ?_
  refine g_aload_n hF (dck_at tX1_begin 32 rfl) rfl ?_
  refine g_iconst (v := 0) hF (dck_at tX1_begin 33 rfl) (by decide) ?_
  show G X F 61 _ _ _
  refine pf_X1_50 hF (ev_m hS hk) (ev_kd hk) (ev_ln hk) (dck_at tX1_begin 34 rfl) ?_
  refine g_aload_n hF (dck_at tX1_begin 35 rfl) rfl ?_
  refine g_iconst (v := 0) hF (dck_at tX1_begin 36 rfl) (by decide) ?_
  refine pf_X1_53 hF (ev_m hS hk) (ev_kd hk) (ev_ln hk) (dck_at tX1_begin 37 rfl) ?_
  refine g_aload_n hF (dck_at tX1_begin 38 rfl) rfl ?_
  refine g_iconst (v := 0) hF (dck_at tX1_begin 39 rfl) (by decide) ?_
  refine pf_X1_56 hF (ev_m hS hk) (ev_kd hk) (ev_ln hk) (by decide) (dck_at tX1_begin 40 rfl) ?_
  show G X F 74 _ _ _
  cases h
  exact g_vret hF hR (dck_at tX1_begin 41 rfl)

def tbX1_copyFrom : List (Nat × Instr × Nat) := [(0, .aload_n 1, 1), (1, .getfield 9, 3), (4, .iconst 0, 1), (5, .aload_n 0, 1), (6, .getfield 9, 3), (9, .iconst 0, 1), (10, .bipush 8, 2), (12, .invokestatic 24, 3), (15, .aload_n 0, 1), (16, .aload_n 1, 1), (17, .getfield 34, 3), (20, .putfield 34, 3), (23, .aload_n 0, 1), (24, .aload_n 1, 1), (25, .getfield 37, 3), (28, .putfield 37, 3), (31, .aload_n 0, 1), (32, .aload_n 1, 1), (33, .getfield 43, 3), (36, .putfield 43, 3), (39, .aload_n 0, 1), (40, .aload_n 1, 1), (41, .getfield 44, 3), (44, .putfield 44, 3), (47, .aload_n 0, 1), (48, .aload_n 1, 1), (49, .getfield 47, 3), (52, .putfield 47, 3), (55, .aload_n 0, 1), (56, .aload_n 1, 1), (57, .getfield 50, 3), (60, .putfield 50, 3), (63, .aload_n 0, 1), (64, .aload_n 1, 1), (65, .getfield 53, 3), (68, .putfield 53, 3), (71, .aload_n 0, 1), (72, .aload_n 1, 1), (73, .getfield 56, 3), (76, .putfield 56, 3), (79, .return_, 1)]
theorem tX1_copyFrom : dck cX1_copyFrom tbX1_copyFrom = true := by decide +kernel
def f_X1_copyFrom (N : Nat) (M : Mem) (k : Nat) (k1 : Nat) : Option Mem := if zok ((up2 (up2 (up2 (up2 (up2 (up2 (up2 (cp2 M (k1 + 1) (k + 1) 8) k 1 ((cp2 M (k1 + 1) (k + 1) 8) k1 1)) k 2 ((up2 (cp2 M (k1 + 1) (k + 1) 8) k 1 ((cp2 M (k1 + 1) (k + 1) 8) k1 1)) k1 2)) k 3 ((up2 (up2 (cp2 M (k1 + 1) (k + 1) 8) k 1 ((cp2 M (k1 + 1) (k + 1) 8) k1 1)) k 2 ((up2 (cp2 M (k1 + 1) (k + 1) 8) k 1 ((cp2 M (k1 + 1) (k + 1) 8) k1 1)) k1 2)) k1 3)) k 4 ((up2 (up2 (up2 (cp2 M (k1 + 1) (k + 1) 8) k 1 ((cp2 M (k1 + 1) (k + 1) 8) k1 1)) k 2 ((up2 (cp2 M (k1 + 1) (k + 1) 8) k 1 ((cp2 M (k1 + 1) (k + 1) 8) k1 1)) k1 2)) k 3 ((up2 (up2 (cp2 M (k1 + 1) (k + 1) 8) k 1 ((cp2 M (k1 + 1) (k + 1) 8) k1 1)) k 2 ((up2 (cp2 M (k1 + 1) (k + 1) 8) k 1 ((cp2 M (k1 + 1) (k + 1) 8) k1 1)) k1 2)) k1 3)) k1 4)) k 5 ((up2 (up2 (up2 (up2 (cp2 M (k1 + 1) (k + 1) 8) k 1 ((cp2 M (k1 + 1) (k + 1) 8) k1 1)) k 2 ((up2 (cp2 M (k1 + 1) (k + 1) 8) k 1 ((cp2 M (k1 + 1) (k + 1) 8) k1 1)) k1 2)) k 3 ((up2 (up2 (cp2 M (k1 + 1) (k + 1) 8) k 1 ((cp2 M (k1 + 1) (k + 1) 8) k1 1)) k 2 ((up2 (cp2 M (k1 + 1) (k + 1) 8) k 1 ((cp2 M (k1 + 1) (k + 1) 8) k1 1)) k1 2)) k1 3)) k 4 ((up2 (up2 (up2 (cp2 M (k1 + 1) (k + 1) 8) k 1 ((cp2 M (k1 + 1) (k + 1) 8) k1 1)) k 2 ((up2 (cp2 M (k1 + 1) (k + 1) 8) k 1 ((cp2 M (k1 + 1) (k + 1) 8) k1 1)) k1 2)) k 3 ((up2 (up2 (cp2 M (k1 + 1) (k + 1) 8) k 1 ((cp2 M (k1 + 1) (k + 1) 8) k1 1)) k 2 ((up2 (cp2 M (k1 + 1) (k + 1) 8) k 1 ((cp2 M (k1 + 1) (k + 1) 8) k1 1)) k1 2)) k1 3)) k1 4)) k1 5)) k 6 ((up2 (up2 (up2 (up2 (up2 (cp2 M (k1 + 1) (k + 1) 8) k 1 ((cp2 M (k1 + 1) (k + 1) 8) k1 1)) k 2 ((up2 (cp2 M (k1 + 1) (k + 1) 8) k 1 ((cp2 M (k1 + 1) (k + 1) 8) k1 1)) k1 2)) k 3 ((up2 (up2 (cp2 M (k1 + 1) (k + 1) 8) k 1 ((cp2 M (k1 + 1) (k + 1) 8) k1 1)) k 2 ((up2 (cp2 M (k1 + 1) (k + 1) 8) k 1 ((cp2 M (k1 + 1) (k + 1) 8) k1 1)) k1 2)) k1 3)) k 4 ((up2 (up2 (up2 (cp2 M (k1 + 1) (k + 1) 8) k 1 ((cp2 M (k1 + 1) (k + 1) 8) k1 1)) k 2 ((up2 (cp2 M (k1 + 1) (k + 1) 8) k 1 ((cp2 M (k1 + 1) (k + 1) 8) k1 1)) k1 2)) k 3 ((up2 (up2 (cp2 M (k1 + 1) (k + 1) 8) k 1 ((cp2 M (k1 + 1) (k + 1) 8) k1 1)) k 2 ((up2 (cp2 M (k1 + 1) (k + 1) 8) k 1 ((cp2 M (k1 + 1) (k + 1) 8) k1 1)) k1 2)) k1 3)) k1 4)) k 5 ((up2 (up2 (up2 (up2 (cp2 M (k1 + 1) (k + 1) 8) k 1 ((cp2 M (k1 + 1) (k + 1) 8) k1 1)) k 2 ((up2 (cp2 M (k1 + 1) (k + 1) 8) k 1 ((cp2 M (k1 + 1) (k + 1) 8) k1 1)) k1 2)) k 3 ((up2 (up2 (cp2 M (k1 + 1) (k + 1) 8) k 1 ((cp2 M (k1 + 1) (k + 1) 8) k1 1)) k 2 ((up2 (cp2 M (k1 + 1) (k + 1) 8) k 1 ((cp2 M (k1 + 1) (k + 1) 8) k1 1)) k1 2)) k1 3)) k 4 ((up2 (up2 (up2 (cp2 M (k1 + 1) (k + 1) 8) k 1 ((cp2 M (k1 + 1) (k + 1) 8) k1 1)) k 2 ((up2 (cp2 M (k1 + 1) (k + 1) 8) k 1 ((cp2 M (k1 + 1) (k + 1) 8) k1 1)) k1 2)) k 3 ((up2 (up2 (cp2 M (k1 + 1) (k + 1) 8) k 1 ((cp2 M (k1 + 1) (k + 1) 8) k1 1)) k 2 ((up2 (cp2 M (k1 + 1) (k + 1) 8) k 1 ((cp2 M (k1 + 1) (k + 1) 8) k1 1)) k1 2)) k1 3)) k1 4)) k1 5)) k1 6)) k 7 ((up2 (up2 (up2 (up2 (up2 (up2 (cp2 M (k1 + 1) (k + 1) 8) k 1 ((cp2 M (k1 + 1) (k + 1) 8) k1 1)) k 2 ((up2 (cp2 M (k1 + 1) (k + 1) 8) k 1 ((cp2 M (k1 + 1) (k + 1) 8) k1 1)) k1 2)) k 3 ((up2 (up2 (cp2 M (k1 + 1) (k + 1) 8) k 1 ((cp2 M (k1 + 1) (k + 1) 8) k1 1)) k 2 ((up2 (cp2 M (k1 + 1) (k + 1) 8) k 1 ((cp2 M (k1 + 1) (k + 1) 8) k1 1)) k1 2)) k1 3)) k 4 ((up2 (up2 (up2 (cp2 M (k1 + 1) (k + 1) 8) k 1 ((cp2 M (k1 + 1) (k + 1) 8) k1 1)) k 2 ((up2 (cp2 M (k1 + 1) (k + 1) 8) k 1 ((cp2 M (k1 + 1) (k + 1) 8) k1 1)) k1 2)) k 3 ((up2 (up2 (cp2 M (k1 + 1) (k + 1) 8) k 1 ((cp2 M (k1 + 1) (k + 1) 8) k1 1)) k 2 ((up2 (cp2 M (k1 + 1) (k + 1) 8) k 1 ((cp2 M (k1 + 1) (k + 1) 8) k1 1)) k1 2)) k1 3)) k1 4)) k 5 ((up2 (up2 (up2 (up2 (cp2 M (k1 + 1) (k + 1) 8) k 1 ((cp2 M (k1 + 1) (k + 1) 8) k1 1)) k 2 ((up2 (cp2 M (k1 + 1) (k + 1) 8) k 1 ((cp2 M (k1 + 1) (k + 1) 8) k1 1)) k1 2)) k 3 ((up2 (up2 (cp2 M (k1 + 1) (k + 1) 8) k 1 ((cp2 M (k1 + 1) (k + 1) 8) k1 1)) k 2 ((up2 (cp2 M (k1 + 1) (k + 1) 8) k 1 ((cp2 M (k1 + 1) (k + 1) 8) k1 1)) k1 2)) k1 3)) k 4 ((up2 (up2 (up2 (cp2 M (k1 + 1) (k + 1) 8) k 1 ((cp2 M (k1 + 1) (k + 1) 8) k1 1)) k 2 ((up2 (cp2 M (k1 + 1) (k + 1) 8) k 1 ((cp2 M (k1 + 1) (k + 1) 8) k1 1)) k1 2)) k 3 ((up2 (up2 (cp2 M (k1 + 1) (k + 1) 8) k 1 ((cp2 M (k1 + 1) (k + 1) 8) k1 1)) k 2 ((up2 (cp2 M (k1 + 1) (k + 1) 8) k 1 ((cp2 M (k1 + 1) (k + 1) 8) k1 1)) k1 2)) k1 3)) k1 4)) k1 5)) k 6 ((up2 (up2 (up2 (up2 (up2 (cp2 M (k1 + 1) (k + 1) 8) k 1 ((cp2 M (k1 + 1) (k + 1) 8) k1 1)) k 2 ((up2 (cp2 M (k1 + 1) (k + 1) 8) k 1 ((cp2 M (k1 + 1) (k + 1) 8) k1 1)) k1 2)) k 3 ((up2 (up2 (cp2 M (k1 + 1) (k + 1) 8) k 1 ((cp2 M (k1 + 1) (k + 1) 8) k1 1)) k 2 ((up2 (cp2 M (k1 + 1) (k + 1) 8) k 1 ((cp2 M (k1 + 1) (k + 1) 8) k1 1)) k1 2)) k1 3)) k 4 ((up2 (up2 (up2 (cp2 M (k1 + 1) (k + 1) 8) k 1 ((cp2 M (k1 + 1) (k + 1) 8) k1 1)) k 2 ((up2 (cp2 M (k1 + 1) (k + 1) 8) k 1 ((cp2 M (k1 + 1) (k + 1) 8) k1 1)) k1 2)) k 3 ((up2 (up2 (cp2 M (k1 + 1) (k + 1) 8) k 1 ((cp2 M (k1 + 1) (k + 1) 8) k1 1)) k 2 ((up2 (cp2 M (k1 + 1) (k + 1) 8) k 1 ((cp2 M (k1 + 1) (k + 1) 8) k1 1)) k1 2)) k1 3)) k1 4)) k 5 ((up2 (up2 (up2 (up2 (cp2 M (k1 + 1) (k + 1) 8) k 1 ((cp2 M (k1 + 1) (k + 1) 8) k1 1)) k 2 ((up2 (cp2 M (k1 + 1) (k + 1) 8) k 1 ((cp2 M (k1 + 1) (k + 1) 8) k1 1)) k1 2)) k 3 ((up2 (up2 (cp2 M (k1 + 1) (k + 1) 8) k 1 ((cp2 M (k1 + 1) (k + 1) 8) k1 1)) k 2 ((up2 (cp2 M (k1 + 1) (k + 1) 8) k 1 ((cp2 M (k1 + 1) (k + 1) 8) k1 1)) k1 2)) k1 3)) k 4 ((up2 (up2 (up2 (cp2 M (k1 + 1) (k + 1) 8) k 1 ((cp2 M (k1 + 1) (k + 1) 8) k1 1)) k 2 ((up2 (cp2 M (k1 + 1) (k + 1) 8) k 1 ((cp2 M (k1 + 1) (k + 1) 8) k1 1)) k1 2)) k 3 ((up2 (up2 (cp2 M (k1 + 1) (k + 1) 8) k 1 ((cp2 M (k1 + 1) (k + 1) 8) k1 1)) k 2 ((up2 (cp2 M (k1 + 1) (k + 1) 8) k 1 ((cp2 M (k1 + 1) (k + 1) 8) k1 1)) k1 2)) k1 3)) k1 4)) k1 5)) k1 6)) k1 7)) k1 8) = true then some (up2 (up2 (up2 (up2 (up2 (up2 (up2 (up2 (cp2 M (k1 + 1) (k + 1) 8) k 1 ((cp2 M (k1 + 1) (k + 1) 8) k1 1)) k 2 ((up2 (cp2 M (k1 + 1) (k + 1) 8) k 1 ((cp2 M (k1 + 1) (k + 1) 8) k1 1)) k1 2)) k 3 ((up2 (up2 (cp2 M (k1 + 1) (k + 1) 8) k 1 ((cp2 M (k1 + 1) (k + 1) 8) k1 1)) k 2 ((up2 (cp2 M (k1 + 1) (k + 1) 8) k 1 ((cp2 M (k1 + 1) (k + 1) 8) k1 1)) k1 2)) k1 3)) k 4 ((up2 (up2 (up2 (cp2 M (k1 + 1) (k + 1) 8) k 1 ((cp2 M (k1 + 1) (k + 1) 8) k1 1)) k 2 ((up2 (cp2 M (k1 + 1) (k + 1) 8) k 1 ((cp2 M (k1 + 1) (k + 1) 8) k1 1)) k1 2)) k 3 ((up2 (up2 (cp2 M (k1 + 1) (k + 1) 8) k 1 ((cp2 M (k1 + 1) (k + 1) 8) k1 1)) k 2 ((up2 (cp2 M (k1 + 1) (k + 1) 8) k 1 ((cp2 M (k1 + 1) (k + 1) 8) k1 1)) k1 2)) k1 3)) k1 4)) k 5 ((up2 (up2 (up2 (up2 (cp2 M (k1 + 1) (k + 1) 8) k 1 ((cp2 M (k1 + 1) (k + 1) 8) k1 1)) k 2 ((up2 (cp2 M (k1 + 1) (k + 1) 8) k 1 ((cp2 M (k1 + 1) (k + 1) 8) k1 1)) k1 2)) k 3 ((up2 (up2 (cp2 M (k1 + 1) (k + 1) 8) k 1 ((cp2 M (k1 + 1) (k + 1) 8) k1 1)) k 2 ((up2 (cp2 M (k1 + 1) (k + 1) 8) k 1 ((cp2 M (k1 + 1) (k + 1) 8) k1 1)) k1 2)) k1 3)) k 4 ((up2 (up2 (up2 (cp2 M (k1 + 1) (k + 1) 8) k 1 ((cp2 M (k1 + 1) (k + 1) 8) k1 1)) k 2 ((up2 (cp2 M (k1 + 1) (k + 1) 8) k 1 ((cp2 M (k1 + 1) (k + 1) 8) k1 1)) k1 2)) k 3 ((up2 (up2 (cp2 M (k1 + 1) (k + 1) 8) k 1 ((cp2 M (k1 + 1) (k + 1) 8) k1 1)) k 2 ((up2 (cp2 M (k1 + 1) (k + 1) 8) k 1 ((cp2 M (k1 + 1) (k + 1) 8) k1 1)) k1 2)) k1 3)) k1 4)) k1 5)) k 6 ((up2 (up2 (up2 (up2 (up2 (cp2 M (k1 + 1) (k + 1) 8) k 1 ((cp2 M (k1 + 1) (k + 1) 8) k1 1)) k 2 ((up2 (cp2 M (k1 + 1) (k + 1) 8) k 1 ((cp2 M (k1 + 1) (k + 1) 8) k1 1)) k1 2)) k 3 ((up2 (up2 (cp2 M (k1 + 1) (k + 1) 8) k 1 ((cp2 M (k1 + 1) (k + 1) 8) k1 1)) k 2 ((up2 (cp2 M (k1 + 1) (k + 1) 8) k 1 ((cp2 M (k1 + 1) (k + 1) 8) k1 1)) k1 2)) k1 3)) k 4 ((up2 (up2 (up2 (cp2 M (k1 + 1) (k + 1) 8) k 1 ((cp2 M (k1 + 1) (k + 1) 8) k1 1)) k 2 ((up2 (cp2 M (k1 + 1) (k + 1) 8) k 1 ((cp2 M (k1 + 1) (k + 1) 8) k1 1)) k1 2)) k 3 ((up2 (up2 (cp2 M (k1 + 1) (k + 1) 8) k 1 ((cp2 M (k1 + 1) (k + 1) 8) k1 1)) k 2 ((up2 (cp2 M (k1 + 1) (k + 1) 8) k 1 ((cp2 M (k1 + 1) (k + 1) 8) k1 1)) k1 2)) k1 3)) k1 4)) k 5 ((up2 (up2 (up2 (up2 (cp2 M (k1 + 1) (k + 1) 8) k 1 ((cp2 M (k1 + 1) (k + 1) 8) k1 1)) k 2 ((up2 (cp2 M (k1 + 1) (k + 1) 8) k 1 ((cp2 M (k1 + 1) (k + 1) 8) k1 1)) k1 2)) k 3 ((up2 (up2 (cp2 M (k1 + 1) (k + 1) 8) k 1 ((cp2 M (k1 + 1) (k + 1) 8) k1 1)) k 2 ((up2 (cp2 M (k1 + 1) (k + 1) 8) k 1 ((cp2 M (k1 + 1) (k + 1) 8) k1 1)) k1 2)) k1 3)) k 4 ((up2 (up2 (up2 (cp2 M (k1 + 1) (k + 1) 8) k 1 ((cp2 M (k1 + 1) (k + 1) 8) k1 1)) k 2 ((up2 (cp2 M (k1 + 1) (k + 1) 8) k 1 ((cp2 M (k1 + 1) (k + 1) 8) k1 1)) k1 2)) k 3 ((up2 (up2 (cp2 M (k1 + 1) (k + 1) 8) k 1 ((cp2 M (k1 + 1) (k + 1) 8) k1 1)) k 2 ((up2 (cp2 M (k1 + 1) (k + 1) 8) k 1 ((cp2 M (k1 + 1) (k + 1) 8) k1 1)) k1 2)) k1 3)) k1 4)) k1 5)) k1 6)) k 7 ((up2 (up2 (up2 (up2 (up2 (up2 (cp2 M (k1 + 1) (k + 1) 8) k 1 ((cp2 M (k1 + 1) (k + 1) 8) k1 1)) k 2 ((up2 (cp2 M (k1 + 1) (k + 1) 8) k 1 ((cp2 M (k1 + 1) (k + 1) 8) k1 1)) k1 2)) k 3 ((up2 (up2 (cp2 M (k1 + 1) (k + 1) 8) k 1 ((cp2 M (k1 + 1) (k + 1) 8) k1 1)) k 2 ((up2 (cp2 M (k1 + 1) (k + 1) 8) k 1 ((cp2 M (k1 + 1) (k + 1) 8) k1 1)) k1 2)) k1 3)) k 4 ((up2 (up2 (up2 (cp2 M (k1 + 1) (k + 1) 8) k 1 ((cp2 M (k1 + 1) (k + 1) 8) k1 1)) k 2 ((up2 (cp2 M (k1 + 1) (k + 1) 8) k 1 ((cp2 M (k1 + 1) (k + 1) 8) k1 1)) k1 2)) k 3 ((up2 (up2 (cp2 M (k1 + 1) (k + 1) 8) k 1 ((cp2 M (k1 + 1) (k + 1) 8) k1 1)) k 2 ((up2 (cp2 M (k1 + 1) (k + 1) 8) k 1 ((cp2 M (k1 + 1) (k + 1) 8) k1 1)) k1 2)) k1 3)) k1 4)) k 5 ((up2 (up2 (up2 (up2 (cp2 M (k1 + 1) (k + 1) 8) k 1 ((cp2 M (k1 + 1) (k + 1) 8) k1 1)) k 2 ((up2 (cp2 M (k1 + 1) (k + 1) 8) k 1 ((cp2 M (k1 + 1) (k + 1) 8) k1 1)) k1 2)) k 3 ((up2 (up2 (cp2 M (k1 + 1) (k + 1) 8) k 1 ((cp2 M (k1 + 1) (k + 1) 8) k1 1)) k 2 ((up2 (cp2 M (k1 + 1) (k + 1) 8) k 1 ((cp2 M (k1 + 1) (k + 1) 8) k1 1)) k1 2)) k1 3)) k 4 ((up2 (up2 (up2 (cp2 M (k1 + 1) (k + 1) 8) k 1 ((cp2 M (k1 + 1) (k + 1) 8) k1 1)) k 2 ((up2 (cp2 M (k1 + 1) (k + 1) 8) k 1 ((cp2 M (k1 + 1) (k + 1) 8) k1 1)) k1 2)) k 3 ((up2 (up2 (cp2 M (k1 + 1) (k + 1) 8) k 1 ((cp2 M (k1 + 1) (k + 1) 8) k1 1)) k 2 ((up2 (cp2 M (k1 + 1) (k + 1) 8) k 1 ((cp2 M (k1 + 1) (k + 1) 8) k1 1)) k1 2)) k1 3)) k1 4)) k1 5)) k 6 ((up2 (up2 (up2 (up2 (up2 (cp2 M (k1 + 1) (k + 1) 8) k 1 ((cp2 M (k1 + 1) (k + 1) 8) k1 1)) k 2 ((up2 (cp2 M (k1 + 1) (k + 1) 8) k 1 ((cp2 M (k1 + 1) (k + 1) 8) k1 1)) k1 2)) k 3 ((up2 (up2 (cp2 M (k1 + 1) (k + 1) 8) k 1 ((cp2 M (k1 + 1) (k + 1) 8) k1 1)) k 2 ((up2 (cp2 M (k1 + 1) (k + 1) 8) k 1 ((cp2 M (k1 + 1) (k + 1) 8) k1 1)) k1 2)) k1 3)) k 4 ((up2 (up2 (up2 (cp2 M (k1 + 1) (k + 1) 8) k 1 ((cp2 M (k1 + 1) (k + 1) 8) k1 1)) k 2 ((up2 (cp2 M (k1 + 1) (k + 1) 8) k 1 ((cp2 M (k1 + 1) (k + 1) 8) k1 1)) k1 2)) k 3 ((up2 (up2 (cp2 M (k1 + 1) (k + 1) 8) k 1 ((cp2 M (k1 + 1) (k + 1) 8) k1 1)) k 2 ((up2 (cp2 M (k1 + 1) (k + 1) 8) k 1 ((cp2 M (k1 + 1) (k + 1) 8) k1 1)) k1 2)) k1 3)) k1 4)) k 5 ((up2 (up2 (up2 (up2 (cp2 M (k1 + 1) (k + 1) 8) k 1 ((cp2 M (k1 + 1) (k + 1) 8) k1 1)) k 2 ((up2 (cp2 M (k1 + 1) (k + 1) 8) k 1 ((cp2 M (k1 + 1) (k + 1) 8) k1 1)) k1 2)) k 3 ((up2 (up2 (cp2 M (k1 + 1) (k + 1) 8) k 1 ((cp2 M (k1 + 1) (k + 1) 8) k1 1)) k 2 ((up2 (cp2 M (k1 + 1) (k + 1) 8) k 1 ((cp2 M (k1 + 1) (k + 1) 8) k1 1)) k1 2)) k1 3)) k 4 ((up2 (up2 (up2 (cp2 M (k1 + 1) (k + 1) 8) k 1 ((cp2 M (k1 + 1) (k + 1) 8) k1 1)) k 2 ((up2 (cp2 M (k1 + 1) (k + 1) 8) k 1 ((cp2 M (k1 + 1) (k + 1) 8) k1 1)) k1 2)) k 3 ((up2 (up2 (cp2 M (k1 + 1) (k + 1) 8) k 1 ((cp2 M (k1 + 1) (k + 1) 8) k1 1)) k 2 ((up2 (cp2 M (k1 + 1) (k + 1) 8) k 1 ((cp2 M (k1 + 1) (k + 1) 8) k1 1)) k1 2)) k1 3)) k1 4)) k1 5)) k1 6)) k1 7)) k 8 ((up2 (up2 (up2 (up2 (up2 (up2 (up2 (cp2 M (k1 + 1) (k + 1) 8) k 1 ((cp2 M (k1 + 1) (k + 1) 8) k1 1)) k 2 ((up2 (cp2 M (k1 + 1) (k + 1) 8) k 1 ((cp2 M (k1 + 1) (k + 1) 8) k1 1)) k1 2)) k 3 ((up2 (up2 (cp2 M (k1 + 1) (k + 1) 8) k 1 ((cp2 M (k1 + 1) (k + 1) 8) k1 1)) k 2 ((up2 (cp2 M (k1 + 1) (k + 1) 8) k 1 ((cp2 M (k1 + 1) (k + 1) 8) k1 1)) k1 2)) k1 3)) k 4 ((up2 (up2 (up2 (cp2 M (k1 + 1) (k + 1) 8) k 1 ((cp2 M (k1 + 1) (k + 1) 8) k1 1)) k 2 ((up2 (cp2 M (k1 + 1) (k + 1) 8) k 1 ((cp2 M (k1 + 1) (k + 1) 8) k1 1)) k1 2)) k 3 ((up2 (up2 (cp2 M (k1 + 1) (k + 1) 8) k 1 ((cp2 M (k1 + 1) (k + 1) 8) k1 1)) k 2 ((up2 (cp2 M (k1 + 1) (k + 1) 8) k 1 ((cp2 M (k1 + 1) (k + 1) 8) k1 1)) k1 2)) k1 3)) k1 4)) k 5 ((up2 (up2 (up2 (up2 (cp2 M (k1 + 1) (k + 1) 8) k 1 ((cp2 M (k1 + 1) (k + 1) 8) k1 1)) k 2 ((up2 (cp2 M (k1 + 1) (k + 1) 8) k 1 ((cp2 M (k1 + 1) (k + 1) 8) k1 1)) k1 2)) k 3 ((up2 (up2 (cp2 M (k1 + 1) (k + 1) 8) k 1 ((cp2 M (k1 + 1) (k + 1) 8) k1 1)) k 2 ((up2 (cp2 M (k1 + 1) (k + 1) 8) k 1 ((cp2 M (k1 + 1) (k + 1) 8) k1 1)) k1 2)) k1 3)) k 4 ((up2 (up2 (up2 (cp2 M (k1 + 1) (k + 1) 8) k 1 ((cp2 M (k1 + 1) (k + 1) 8) k1 1)) k 2 ((up2 (cp2 M (k1 + 1) (k + 1) 8) k 1 ((cp2 M (k1 + 1) (k + 1) 8) k1 1)) k1 2)) k 3 ((up2 (up2 (cp2 M (k1 + 1) (k + 1) 8) k 1 ((cp2 M (k1 + 1) (k + 1) 8) k1 1)) k 2 ((up2 (cp2 M (k1 + 1) (k + 1) 8) k 1 ((cp2 M (k1 + 1) (k + 1) 8) k1 1)) k1 2)) k1 3)) k1 4)) k1 5)) k 6 ((up2 (up2 (up2 (up2 (up2 (cp2 M (k1 + 1) (k + 1) 8) k 1 ((cp2 M (k1 + 1) (k + 1) 8) k1 1)) k 2 ((up2 (cp2 M (k1 + 1) (k + 1) 8) k 1 ((cp2 M (k1 + 1) (k + 1) 8) k1 1)) k1 2)) k 3 ((up2 (up2 (cp2 M (k1 + 1) (k + 1) 8) k 1 ((cp2 M (k1 + 1) (k + 1) 8) k1 1)) k 2 ((up2 (cp2 M (k1 + 1) (k + 1) 8) k 1 ((cp2 M (k1 + 1) (k + 1) 8) k1 1)) k1 2)) k1 3)) k 4 ((up2 (up2 (up2 (cp2 M (k1 + 1) (k + 1) 8) k 1 ((cp2 M (k1 + 1) (k + 1) 8) k1 1)) k 2 ((up2 (cp2 M (k1 + 1) (k + 1) 8) k 1 ((cp2 M (k1 + 1) (k + 1) 8) k1 1)) k1 2)) k 3 ((up2 (up2 (cp2 M (k1 + 1) (k + 1) 8) k 1 ((cp2 M (k1 + 1) (k + 1) 8) k1 1)) k 2 ((up2 (cp2 M (k1 + 1) (k + 1) 8) k 1 ((cp2 M (k1 + 1) (k + 1) 8) k1 1)) k1 2)) k1 3)) k1 4)) k 5 ((up2 (up2 (up2 (up2 (cp2 M (k1 + 1) (k + 1) 8) k 1 ((cp2 M (k1 + 1) (k + 1) 8) k1 1)) k 2 ((up2 (cp2 M (k1 + 1) (k + 1) 8) k 1 ((cp2 M (k1 + 1) (k + 1) 8) k1 1)) k1 2)) k 3 ((up2 (up2 (cp2 M (k1 + 1) (k + 1) 8) k 1 ((cp2 M (k1 + 1) (k + 1) 8) k1 1)) k 2 ((up2 (cp2 M (k1 + 1) (k + 1) 8) k 1 ((cp2 M (k1 + 1) (k + 1) 8) k1 1)) k1 2)) k1 3)) k 4 ((up2 (up2 (up2 (cp2 M (k1 + 1) (k + 1) 8) k 1 ((cp2 M (k1 + 1) (k + 1) 8) k1 1)) k 2 ((up2 (cp2 M (k1 + 1) (k + 1) 8) k 1 ((cp2 M (k1 + 1) (k + 1) 8) k1 1)) k1 2)) k 3 ((up2 (up2 (cp2 M (k1 + 1) (k + 1) 8) k 1 ((cp2 M (k1 + 1) (k + 1) 8) k1 1)) k 2 ((up2 (cp2 M (k1 + 1) (k + 1) 8) k 1 ((cp2 M (k1 + 1) (k + 1) 8) k1 1)) k1 2)) k1 3)) k1 4)) k1 5)) k1 6)) k 7 ((up2 (up2 (up2 (up2 (up2 (up2 (cp2 M (k1 + 1) (k + 1) 8) k 1 ((cp2 M (k1 + 1) (k + 1) 8) k1 1)) k 2 ((up2 (cp2 M (k1 + 1) (k + 1) 8) k 1 ((cp2 M (k1 + 1) (k + 1) 8) k1 1)) k1 2)) k 3 ((up2 (up2 (cp2 M (k1 + 1) (k + 1) 8) k 1 ((cp2 M (k1 + 1) (k + 1) 8) k1 1)) k 2 ((up2 (cp2 M (k1 + 1) (k + 1) 8) k 1 ((cp2 M (k1 + 1) (k + 1) 8) k1 1)) k1 2)) k1 3)) k 4 ((up2 (up2 (up2 (cp2 M (k1 + 1) (k + 1) 8) k 1 ((cp2 M (k1 + 1) (k + 1) 8) k1 1)) k 2 ((up2 (cp2 M (k1 + 1) (k + 1) 8) k 1 ((cp2 M (k1 + 1) (k + 1) 8) k1 1)) k1 2)) k 3 ((up2 (up2 (cp2 M (k1 + 1) (k + 1) 8) k 1 ((cp2 M (k1 + 1) (k + 1) 8) k1 1)) k 2 ((up2 (cp2 M (k1 + 1) (k + 1) 8) k 1 ((cp2 M (k1 + 1) (k + 1) 8) k1 1)) k1 2)) k1 3)) k1 4)) k 5 ((up2 (up2 (up2 (up2 (cp2 M (k1 + 1) (k + 1) 8) k 1 ((cp2 M (k1 + 1) (k + 1) 8) k1 1)) k 2 ((up2 (cp2 M (k1 + 1) (k + 1) 8) k 1 ((cp2 M (k1 + 1) (k + 1) 8) k1 1)) k1 2)) k 3 ((up2 (up2 (cp2 M (k1 + 1) (k + 1) 8) k 1 ((cp2 M (k1 + 1) (k + 1) 8) k1 1)) k 2 ((up2 (cp2 M (k1 + 1) (k + 1) 8) k 1 ((cp2 M (k1 + 1) (k + 1) 8) k1 1)) k1 2)) k1 3)) k 4 ((up2 (up2 (up2 (cp2 M (k1 + 1) (k + 1) 8) k 1 ((cp2 M (k1 + 1) (k + 1) 8) k1 1)) k 2 ((up2 (cp2 M (k1 + 1) (k + 1) 8) k 1 ((cp2 M (k1 + 1) (k + 1) 8) k1 1)) k1 2)) k 3 ((up2 (up2 (cp2 M (k1 + 1) (k + 1) 8) k 1 ((cp2 M (k1 + 1) (k + 1) 8) k1 1)) k 2 ((up2 (cp2 M (k1 + 1) (k + 1) 8) k 1 ((cp2 M (k1 + 1) (k + 1) 8) k1 1)) k1 2)) k1 3)) k1 4)) k1 5)) k 6 ((up2 (up2 (up2 (up2 (up2 (cp2 M (k1 + 1) (k + 1) 8) k 1 ((cp2 M (k1 + 1) (k + 1) 8) k1 1)) k 2 ((up2 (cp2 M (k1 + 1) (k + 1) 8) k 1 ((cp2 M (k1 + 1) (k + 1) 8) k1 1)) k1 2)) k 3 ((up2 (up2 (cp2 M (k1 + 1) (k + 1) 8) k 1 ((cp2 M (k1 + 1) (k + 1) 8) k1 1)) k 2 ((up2 (cp2 M (k1 + 1) (k + 1) 8) k 1 ((cp2 M (k1 + 1) (k + 1) 8) k1 1)) k1 2)) k1 3)) k 4 ((up2 (up2 (up2 (cp2 M (k1 + 1) (k + 1) 8) k 1 ((cp2 M (k1 + 1) (k + 1) 8) k1 1)) k 2 ((up2 (cp2 M (k1 + 1) (k + 1) 8) k 1 ((cp2 M (k1 + 1) (k + 1) 8) k1 1)) k1 2)) k 3 ((up2 (up2 (cp2 M (k1 + 1) (k + 1) 8) k 1 ((cp2 M (k1 + 1) (k + 1) 8) k1 1)) k 2 ((up2 (cp2 M (k1 + 1) (k + 1) 8) k 1 ((cp2 M (k1 + 1) (k + 1) 8) k1 1)) k1 2)) k1 3)) k1 4)) k 5 ((up2 (up2 (up2 (up2 (cp2 M (k1 + 1) (k + 1) 8) k 1 ((cp2 M (k1 + 1) (k + 1) 8) k1 1)) k 2 ((up2 (cp2 M (k1 + 1) (k + 1) 8) k 1 ((cp2 M (k1 + 1) (k + 1) 8) k1 1)) k1 2)) k 3 ((up2 (up2 (cp2 M (k1 + 1) (k + 1) 8) k 1 ((cp2 M (k1 + 1) (k + 1) 8) k1 1)) k 2 ((up2 (cp2 M (k1 + 1) (k + 1) 8) k 1 ((cp2 M (k1 + 1) (k + 1) 8) k1 1)) k1 2)) k1 3)) k 4 ((up2 (up2 (up2 (cp2 M (k1 + 1) (k + 1) 8) k 1 ((cp2 M (k1 + 1) (k + 1) 8) k1 1)) k 2 ((up2 (cp2 M (k1 + 1) (k + 1) 8) k 1 ((cp2 M (k1 + 1) (k + 1) 8) k1 1)) k1 2)) k 3 ((up2 (up2 (cp2 M (k1 + 1) (k + 1) 8) k 1 ((cp2 M (k1 + 1) (k + 1) 8) k1 1)) k 2 ((up2 (cp2 M (k1 + 1) (k + 1) 8) k 1 ((cp2 M (k1 + 1) (k + 1) 8) k1 1)) k1 2)) k1 3)) k1 4)) k1 5)) k1 6)) k1 7)) k1 8)) else none
set_option maxHeartbeats 4000000 in
set_option maxRecDepth 100000 in
theorem c_X1_copyFrom {X : Cx} {l : Launch} (hX : CxOk X) (hS : SC X) {N : Nat} {M : Mem} {k : Nat} {k1 : Nat} (hk : ev k) (hk1 : ev k1) {M' : Mem} (h : f_X1_copyFrom N M k k1 = some M') : Ctr X l yX1_copyFrom cX1_copyFrom 2 none 2 [.ref k, .ref k1] M none M' := by
  refine Ctr.ofG (L := [some (.ref k), some (.ref k1)]) hX (by decide) (Nat.le_of_ble_eq_true rfl) rfl (fun F hF hl hR => ?_)
  subst hl
  unfold f_X1_copyFrom at h
  refine g_aload_n hF (dck_at tX1_copyFrom 0 rfl) rfl ?_
  refine gf_X1_9 hF (ev_m hS hk1) (ev_kd hk1) (ev_ln hk1) (t := (k1 + 1)) rfl (dck_at tX1_copyFrom 1 rfl) ?_
  refine g_iconst (v := 0) hF (dck_at tX1_copyFrom 2 rfl) (by decide) ?_
  refine g_aload_n hF (dck_at tX1_copyFrom 3 rfl) rfl ?_
  refine gf_X1_9 hF (ev_m hS hk) (ev_kd hk) (ev_ln hk) (t := (k + 1)) rfl (dck_at tX1_copyFrom 4 rfl) ?_
  refine g_iconst (v := 0) hF (dck_at tX1_copyFrom 5 rfl) (by decide) ?_
  show G X F 10 _ _ _
  refine g_bipush (v := 8) hF (dck_at tX1_copyFrom 6 rfl) (by decide) ?_
  refine g_copy hF wm_X1_24 wv_copy wt_copy wn_J10 (ev_mz hS hk1) (ev_kz hk1) (ev_mz hS hk) (ev_kz hk) (by decide) (by rw [(ev_lz hk1)]; decide) (by rw [(ev_lz hk)]; decide) (by decide) rfl rfl (dck_at tX1_copyFrom 7 rfl) ?_
  show G X F 15 _ _ (cp2 M (k1 + 1) (k + 1) 8)
  refine g_aload_n hF (dck_at tX1_copyFrom 8 rfl) rfl ?_
  refine g_aload_n hF (dck_at tX1_copyFrom 9 rfl) rfl ?_
  refine gf_X1_34 hF (ev_m hS hk1) (ev_kd hk1) (ev_ln hk1) (dck_at tX1_copyFrom 10 rfl) ?_
  refine pf_X1_34 hF (ev_m hS hk) (ev_kd hk) (ev_ln hk) (dck_at tX1_copyFrom 11 rfl) ?_
  refine g_aload_n hF (dck_at tX1_copyFrom 12 rfl) rfl ?_
  show G X F 24 _ _ _
  refine g_aload_n hF (dck_at tX1_copyFrom 13 rfl) rfl ?_
  refine gf_X1_37 hF (ev_m hS hk1) (ev_kd hk1) (ev_ln hk1) (dck_at tX1_copyFrom 14 rfl) ?_
  refine pf_X1_37 hF (ev_m hS hk) (ev_kd hk) (ev_ln hk) (dck_at tX1_copyFrom 15 rfl) ?_
  refine g_aload_n hF (dck_at tX1_copyFrom 16 rfl) rfl ?_
  refine g_aload_n hF (dck_at tX1_copyFrom 17 rfl) rfl ?_
  refine gf_X1_43 hF (ev_m hS hk1) (ev_kd hk1) (ev_ln hk1) (dck_at tX1_copyFrom 18 rfl) ?_
  refine pf_X1_43 hF (ev_m hS hk) (ev_kd hk) (ev_ln hk) (dck_at tX1_copyFrom 19 rfl) ?_
  show G X F 39 _ _ _
  refine g_aload_n hF (dck_at tX1_copyFrom 20 rfl) rfl ?_
  refine g_aload_n hF (dck_at tX1_copyFrom 21 rfl) rfl ?_
  refine gf_X1_44 hF (ev_m hS hk1) (ev_kd hk1) (ev_ln hk1) (dck_at tX1_copyFrom 22 rfl) ?_
  refine pf_X1_44 hF (ev_m hS hk) (ev_kd hk) (ev_ln hk) (dck_at tX1_copyFrom 23 rfl) ?_
  refine g_aload_n hF (dck_at tX1_copyFrom 24 rfl) rfl ?_
  refine g_aload_n hF (dck_at tX1_copyFrom 25 rfl) rfl ?_
  refine gf_X1_47 hF (ev_m hS hk1) (ev_kd hk1) (ev_ln hk1) (dck_at tX1_copyFrom 26 rfl) ?_
  show G X F 52 _ _ _
  refine pf_X1_47 hF (ev_m hS hk) (ev_kd hk) (ev_ln hk) (dck_at tX1_copyFrom 27 rfl) ?_
  refine g_aload_n hF (dck_at tX1_copyFrom 28 rfl) rfl ?_
  refine g_aload_n hF (dck_at tX1_copyFrom 29 rfl) rfl ?_
  refine gf_X1_50 hF (ev_m hS hk1) (ev_kd hk1) (ev_ln hk1) (dck_at tX1_copyFrom 30 rfl) ?_
  refine pf_X1_50 hF (ev_m hS hk) (ev_kd hk) (ev_ln hk) (dck_at tX1_copyFrom 31 rfl) ?_
  refine g_aload_n hF (dck_at tX1_copyFrom 32 rfl) rfl ?_
  refine g_aload_n hF (dck_at tX1_copyFrom 33 rfl) rfl ?_
  show G X F 65 _ _ _
  refine gf_X1_53 hF (ev_m hS hk1) (ev_kd hk1) (ev_ln hk1) (dck_at tX1_copyFrom 34 rfl) ?_
  refine pf_X1_53 hF (ev_m hS hk) (ev_kd hk) (ev_ln hk) (dck_at tX1_copyFrom 35 rfl) ?_
  refine g_aload_n hF (dck_at tX1_copyFrom 36 rfl) rfl ?_
  refine g_aload_n hF (dck_at tX1_copyFrom 37 rfl) rfl ?_
  refine gf_X1_56 hF (ev_m hS hk1) (ev_kd hk1) (ev_ln hk1) (dck_at tX1_copyFrom 38 rfl) ?_
  obtain ⟨hg76, h⟩ := gd h
  refine pf_X1_56 hF (ev_m hS hk) (ev_kd hk) (ev_ln hk) hg76 (dck_at tX1_copyFrom 39 rfl) ?_
  cases h
  exact g_vret hF hR (dck_at tX1_copyFrom 40 rfl)

def tbX1_isThere : List (Nat × Instr × Nat) := [(0, .aload_n 0, 1), (1, .getfield 34, 3), (4, .iload_n 1, 1), (5, .ishr, 1), (6, .iconst 1, 1), (7, .iand, 1), (8, .ifCond .eq 7, 3), (11, .iconst 1, 1), (12, .goto 4, 3), (15, .iconst 0, 1), (16, .ireturn, 1)]
theorem tX1_isThere : dck cX1_isThere tbX1_isThere = true := by decide +kernel
def f_X1_isThere (N : Nat) (M : Mem) (k : Nat) (x1 : Int32) : Option Int32 := (if (((M k 1) >>> (x1 &&& 31)) &&& (1 : Int32)) = 0 then some (0 : Int32) else some (1 : Int32))
set_option maxHeartbeats 4000000 in
set_option maxRecDepth 100000 in
theorem c_X1_isThere {X : Cx} {l : Launch} (hX : CxOk X) (hS : SC X) {N : Nat} {M : Mem} {k : Nat} {x1 : Int32} (hk : ev k) {r : Int32} (h : f_X1_isThere N M k x1 = some r) : Ctr X l yX1_isThere cX1_isThere 2 (some .boolean) 1 [.ref k, .int x1] M (some (.int r)) M := by
  refine Ctr.ofG (L := [some (.ref k), some (.int x1)]) hX (by decide) (Nat.le_of_ble_eq_true rfl) rfl (fun F hF hl hR => ?_)
  subst hl
  unfold f_X1_isThere at h
  refine g_aload_n hF (dck_at tX1_isThere 0 rfl) rfl ?_
  refine gf_X1_34 hF (ev_m hS hk) (ev_kd hk) (ev_ln hk) (dck_at tX1_isThere 1 rfl) ?_
  refine g_iload_n hF (dck_at tX1_isThere 2 rfl) rfl ?_
  refine g_ishr hF (dck_at tX1_isThere 3 rfl) ?_
  refine g_iconst (v := 1) hF (dck_at tX1_isThere 4 rfl) (by decide) ?_
  refine g_iand hF (dck_at tX1_isThere 5 rfl) ?_
  show G X F 8 _ _ _
  refine g_if_eq hF 15 (dck_at tX1_isThere 6 rfl) (by decide) (fun hc8 => ?_) (fun hc8 => ?_)
  · replace h := ite_t hc8 h
    refine g_iconst (v := 0) hF (dck_at tX1_isThere 9 rfl) (by decide) ?_
    cases h
    exact g_zret hF hR rfl (dck_at tX1_isThere 10 rfl)
  · replace h := ite_f hc8 h
    refine g_iconst (v := 1) hF (dck_at tX1_isThere 7 rfl) (by decide) ?_
    refine g_goto hF 16 (dck_at tX1_isThere 8 rfl) (by decide) ?_
    cases h
    exact g_zret hF hR rfl (dck_at tX1_isThere 10 rfl)

def tbX1_isClapping : List (Nat × Instr × Nat) := [(0, .aload_n 0, 1), (1, .getfield 34, 3), (4, .iload_n 1, 1), (5, .ishr, 1), (6, .iconst 1, 1), (7, .iand, 1), (8, .ifCond .eq 16, 3), (11, .aload_n 0, 1), (12, .getfield 9, 3), (15, .iload_n 1, 1), (16, .iaload, 1), (17, .ifCond .le 7, 3), (20, .iconst 1, 1), (21, .goto 4, 3), (24, .iconst 0, 1), (25, .ireturn, 1)]
theorem tX1_isClapping : dck cX1_isClapping tbX1_isClapping = true := by decide +kernel
def f_X1_isClapping (N : Nat) (M : Mem) (k : Nat) (x1 : Int32) : Option Int32 := (if (((M k 1) >>> (x1 &&& 31)) &&& (1 : Int32)) = 0 then some (0 : Int32) else if inb x1 8 = true then (if (M (k + 1) x1.toNatClampNeg) ≤ 0 then some (0 : Int32) else some (1 : Int32)) else none)
set_option maxHeartbeats 4000000 in
set_option maxRecDepth 100000 in
theorem c_X1_isClapping {X : Cx} {l : Launch} (hX : CxOk X) (hS : SC X) {N : Nat} {M : Mem} {k : Nat} {x1 : Int32} (hk : ev k) {r : Int32} (h : f_X1_isClapping N M k x1 = some r) : Ctr X l yX1_isClapping cX1_isClapping 2 (some .boolean) 1 [.ref k, .int x1] M (some (.int r)) M := by
  refine Ctr.ofG (L := [some (.ref k), some (.int x1)]) hX (by decide) (Nat.le_of_ble_eq_true rfl) rfl (fun F hF hl hR => ?_)
  subst hl
  unfold f_X1_isClapping at h
  refine g_aload_n hF (dck_at tX1_isClapping 0 rfl) rfl ?_
  refine gf_X1_34 hF (ev_m hS hk) (ev_kd hk) (ev_ln hk) (dck_at tX1_isClapping 1 rfl) ?_
  refine g_iload_n hF (dck_at tX1_isClapping 2 rfl) rfl ?_
  refine g_ishr hF (dck_at tX1_isClapping 3 rfl) ?_
  refine g_iconst (v := 1) hF (dck_at tX1_isClapping 4 rfl) (by decide) ?_
  refine g_iand hF (dck_at tX1_isClapping 5 rfl) ?_
  show G X F 8 _ _ _
  refine g_if_eq hF 24 (dck_at tX1_isClapping 6 rfl) (by decide) (fun hc8 => ?_) (fun hc8 => ?_)
  · replace h := ite_t hc8 h
    refine g_iconst (v := 0) hF (dck_at tX1_isClapping 14 rfl) (by decide) ?_
    cases h
    exact g_zret hF hR rfl (dck_at tX1_isClapping 15 rfl)
  · replace h := ite_f hc8 h
    refine g_aload_n hF (dck_at tX1_isClapping 7 rfl) rfl ?_
    refine gf_X1_9 hF (ev_m hS hk) (ev_kd hk) (ev_ln hk) (t := (k + 1)) rfl (dck_at tX1_isClapping 8 rfl) ?_
    refine g_iload_n hF (dck_at tX1_isClapping 9 rfl) rfl ?_
    obtain ⟨hg16, h⟩ := gd h
    refine g_ia hF (ev_mz hS hk) (ev_kz hk) (ev_lz hk) hg16 (dck_at tX1_isClapping 10 rfl) ?_
    refine g_if_le hF 24 (dck_at tX1_isClapping 11 rfl) (by decide) (fun hc17 => ?_) (fun hc17 => ?_)
    · replace h := ite_t hc17 h
      refine g_iconst (v := 0) hF (dck_at tX1_isClapping 14 rfl) (by decide) ?_
      cases h
      exact g_zret hF hR rfl (dck_at tX1_isClapping 15 rfl)
    · replace h := ite_f hc17 h
      refine g_iconst (v := 1) hF (dck_at tX1_isClapping 12 rfl) (by decide) ?_
      refine g_goto hF 25 (dck_at tX1_isClapping 13 rfl) (by decide) ?_
      cases h
      exact g_zret hF hR rfl (dck_at tX1_isClapping 15 rfl)

def tbX1_wasPlayed : List (Nat × Instr × Nat) := [(0, .aload_n 0, 1), (1, .getfield 44, 3), (4, .iload_n 1, 1), (5, .ishr, 1), (6, .iconst 1, 1), (7, .iand, 1), (8, .ifCond .eq 7, 3), (11, .iconst 1, 1), (12, .goto 4, 3), (15, .iconst 0, 1), (16, .ireturn, 1)]
theorem tX1_wasPlayed : dck cX1_wasPlayed tbX1_wasPlayed = true := by decide +kernel
def f_X1_wasPlayed (N : Nat) (M : Mem) (k : Nat) (x1 : Int32) : Option Int32 := (if (((M k 4) >>> (x1 &&& 31)) &&& (1 : Int32)) = 0 then some (0 : Int32) else some (1 : Int32))
set_option maxHeartbeats 4000000 in
set_option maxRecDepth 100000 in
theorem c_X1_wasPlayed {X : Cx} {l : Launch} (hX : CxOk X) (hS : SC X) {N : Nat} {M : Mem} {k : Nat} {x1 : Int32} (hk : ev k) {r : Int32} (h : f_X1_wasPlayed N M k x1 = some r) : Ctr X l yX1_wasPlayed cX1_wasPlayed 2 (some .boolean) 1 [.ref k, .int x1] M (some (.int r)) M := by
  refine Ctr.ofG (L := [some (.ref k), some (.int x1)]) hX (by decide) (Nat.le_of_ble_eq_true rfl) rfl (fun F hF hl hR => ?_)
  subst hl
  unfold f_X1_wasPlayed at h
  refine g_aload_n hF (dck_at tX1_wasPlayed 0 rfl) rfl ?_
  refine gf_X1_44 hF (ev_m hS hk) (ev_kd hk) (ev_ln hk) (dck_at tX1_wasPlayed 1 rfl) ?_
  refine g_iload_n hF (dck_at tX1_wasPlayed 2 rfl) rfl ?_
  refine g_ishr hF (dck_at tX1_wasPlayed 3 rfl) ?_
  refine g_iconst (v := 1) hF (dck_at tX1_wasPlayed 4 rfl) (by decide) ?_
  refine g_iand hF (dck_at tX1_wasPlayed 5 rfl) ?_
  show G X F 8 _ _ _
  refine g_if_eq hF 15 (dck_at tX1_wasPlayed 6 rfl) (by decide) (fun hc8 => ?_) (fun hc8 => ?_)
  · replace h := ite_t hc8 h
    refine g_iconst (v := 0) hF (dck_at tX1_wasPlayed 9 rfl) (by decide) ?_
    cases h
    exact g_zret hF hR rfl (dck_at tX1_wasPlayed 10 rfl)
  · replace h := ite_f hc8 h
    refine g_iconst (v := 1) hF (dck_at tX1_wasPlayed 7 rfl) (by decide) ?_
    refine g_goto hF 16 (dck_at tX1_wasPlayed 8 rfl) (by decide) ?_
    cases h
    exact g_zret hF hR rfl (dck_at tX1_wasPlayed 10 rfl)

def tbX1_whoClaps : List (Nat × Instr × Nat) := [(0, .iconst 0, 1), (1, .istore_n 1, 1), (2, .iconst 0, 1), (3, .istore_n 2, 1), (4, .iload_n 2, 1), (5, .aload_n 0, 1), (6, .getfield 15, 3), (9, .getfield 30, 3), (12, .if_icmp .ge 23, 3), (15, .aload_n 0, 1), (16, .iload_n 2, 1), (17, .invokevirtual 60, 3), (20, .ifCond .eq 9, 3), (23, .iload_n 1, 1), (24, .iconst 1, 1), (25, .iload_n 2, 1), (26, .ishl, 1), (27, .ior, 1), (28, .istore_n 1, 1), (29, .iinc 2 1, 3), (32, .goto (-28), 3), (35, .iload_n 1, 1), (36, .ireturn, 1)]
theorem tX1_whoClaps : dck cX1_whoClaps tbX1_whoClaps = true := by decide +kernel
def f_X1_whoClaps_L4 (N : Nat) (M : Mem) (k : Nat) : Nat → Int32 → Int32 → Option (Int32 × Int32)
  | 0, _, _ => none
  | n + 1, x1, x2 => (if (M 1 7) ≤ x2 then some (x1, x2) else (f_X1_isClapping N M k x2).bind fun q17 => (if q17 = 0 then f_X1_whoClaps_L4 N M k n x1 (x2 + (1 : Int32)) else f_X1_whoClaps_L4 N M k n (x1 ||| ((1 : Int32) <<< (x2 &&& 31))) (x2 + (1 : Int32))))
def f_X1_whoClaps (N : Nat) (M : Mem) (k : Nat) : Option Int32 := (f_X1_whoClaps_L4 N M k N (0 : Int32) (0 : Int32)).bind fun o4 => some o4.1
set_option maxHeartbeats 4000000 in
set_option maxRecDepth 100000 in
theorem g_X1_whoClaps_L4 {X : Cx} {F : Fx} (hS : SC X) (hF : FK X F cX1_whoClaps RX1 3 2) (N : Nat) (M : Mem) (k : Nat) (hk : ev k) : ∀ (n : Nat) (x1 : Int32) (x2 : Int32) (o : Int32 × Int32), f_X1_whoClaps_L4 N M k n x1 x2 = some o → G X F 35 [none, some (.int o.1), none] [] M → G X F 4 [some (.ref k), some (.int x1), some (.int x2)] [] M := by
  intro n
  induction n with
  | zero =>
    intro x1 x2 o h K
    cases h
  | succ n ih =>
    intro x1 x2 o h K
    rw [f_X1_whoClaps_L4] at h
    refine g_iload_n hF (dck_at tX1_whoClaps 4 rfl) rfl ?_
    refine g_aload_n hF (dck_at tX1_whoClaps 5 rfl) rfl ?_
    refine gf_X1_15 hF (ev_m hS hk) (ev_kd hk) (ev_ln hk) (dck_at tX1_whoClaps 6 rfl) ?_
    refine gf_X1_30 hF (hS 1 (by decide)) kdc_1 lnc_1 (dck_at tX1_whoClaps 7 rfl) ?_
    refine g_icmp_ge hF 35 (dck_at tX1_whoClaps 8 rfl) (by decide) (fun hc12 => ?_) (fun hc12 => ?_)
    · replace h := ite_t hc12 h
      refine g_msk [false, true, false] (L' := [none, some (.int x1), none]) rfl ?_
      cases h
      exact K
    · replace h := ite_f hc12 h
      refine g_aload_n hF (dck_at tX1_whoClaps 9 rfl) rfl ?_
      refine g_iload_n hF (dck_at tX1_whoClaps 10 rfl) rfl ?_
      obtain ⟨q17, e17, h⟩ := bd h
      refine g_callV hF (as := [.int x2]) (k := k) rfl (by decide) wm_X1_60 wi_X1_isClapping we_X1_isClapping wc_X1_isClapping wn_X1 hyX1_isClapping (by decide) (ev_m hS hk) (ev_kd hk) (c_X1_isClapping hF.2.2.2.2.2.2.2.1 hS hk e17) (by decide) rfl rfl rfl rfl (dck_at tX1_whoClaps 11 rfl) ?_
      show G X F 20 _ [.int q17] M
      refine g_if_eq hF 29 (dck_at tX1_whoClaps 12 rfl) (by decide) (fun hc20 => ?_) (fun hc20 => ?_)
      · replace h := ite_t hc20 h
        refine g_iinc (v := 1) (L' := [some (.ref k), some (.int x1), some (.int (x2 + (1 : Int32)))]) hF (dck_at tX1_whoClaps 19 rfl) rfl (by decide) rfl ?_
        refine g_goto hF 4 (dck_at tX1_whoClaps 20 rfl) (by decide) ?_
        exact ih _ _ _ h K
      · replace h := ite_f hc20 h
        refine g_iload_n hF (dck_at tX1_whoClaps 13 rfl) rfl ?_
        refine g_iconst (v := 1) hF (dck_at tX1_whoClaps 14 rfl) (by decide) ?_
        refine g_iload_n hF (dck_at tX1_whoClaps 15 rfl) rfl ?_
        refine g_ishl hF (dck_at tX1_whoClaps 16 rfl) ?_
        refine g_ior hF (dck_at tX1_whoClaps 17 rfl) ?_
        refine g_istore_n (L' := [some (.ref k), some (.int (x1 ||| ((1 : Int32) <<< (x2 &&& 31)))), some (.int x2)]) hF (dck_at tX1_whoClaps 18 rfl) (Nat.le_of_ble_eq_true rfl) rfl ?_
        show G X F 29 _ _ _
        refine g_iinc (v := 1) (L' := [some (.ref k), some (.int (x1 ||| ((1 : Int32) <<< (x2 &&& 31)))), some (.int (x2 + (1 : Int32)))]) hF (dck_at tX1_whoClaps 19 rfl) rfl (by decide) rfl ?_
        refine g_goto hF 4 (dck_at tX1_whoClaps 20 rfl) (by decide) ?_
        exact ih _ _ _ h K
set_option maxHeartbeats 4000000 in
set_option maxRecDepth 100000 in
theorem c_X1_whoClaps {X : Cx} {l : Launch} (hX : CxOk X) (hS : SC X) {N : Nat} {M : Mem} {k : Nat} (hk : ev k) {r : Int32} (h : f_X1_whoClaps N M k = some r) : Ctr X l yX1_whoClaps cX1_whoClaps 3 (some .int) 2 [.ref k] M (some (.int r)) M := by
  refine Ctr.ofG (L := [some (.ref k), none, none]) hX (by decide) (Nat.le_of_ble_eq_true rfl) rfl (fun F hF hl hR => ?_)
  subst hl
  unfold f_X1_whoClaps at h
  refine g_iconst (v := 0) hF (dck_at tX1_whoClaps 0 rfl) (by decide) ?_
  refine g_istore_n (L' := [some (.ref k), some (.int (0 : Int32)), none]) hF (dck_at tX1_whoClaps 1 rfl) (Nat.le_of_ble_eq_true rfl) rfl ?_
  refine g_iconst (v := 0) hF (dck_at tX1_whoClaps 2 rfl) (by decide) ?_
  refine g_istore_n (L' := [some (.ref k), some (.int (0 : Int32)), some (.int (0 : Int32))]) hF (dck_at tX1_whoClaps 3 rfl) (Nat.le_of_ble_eq_true rfl) rfl ?_
  obtain ⟨o4, e4, h⟩ := bd h
  refine g_X1_whoClaps_L4 hS hF N _ _ hk N _ _ _ e4 ?_
  refine g_iload_n hF (dck_at tX1_whoClaps 21 rfl) rfl ?_
  cases h
  exact g_iret hF hR (dck_at tX1_whoClaps 22 rfl)

def tbX1_zealOf : List (Nat × Instr × Nat) := [(0, .iconst 0, 1), (1, .istore_n 2, 1), (2, .iconst 0, 1), (3, .istore_n 3, 1), (4, .iload_n 3, 1), (5, .aload_n 0, 1), (6, .getfield 15, 3), (9, .getfield 30, 3), (12, .if_icmp .ge 26, 3), (15, .iload_n 1, 1), (16, .iload_n 3, 1), (17, .ishr, 1), (18, .iconst 1, 1), (19, .iand, 1), (20, .ifCond .eq 12, 3), (23, .iload_n 2, 1), (24, .aload_n 0, 1), (25, .getfield 9, 3), (28, .iload_n 3, 1), (29, .iaload, 1), (30, .iadd, 1), (31, .istore_n 2, 1), (32, .iinc 3 1, 3), (35, .goto (-31), 3), (38, .iload_n 2, 1), (39, .ireturn, 1)]
theorem tX1_zealOf : dck cX1_zealOf tbX1_zealOf = true := by decide +kernel
def f_X1_zealOf_L4 (N : Nat) (M : Mem) (k : Nat) (x1 : Int32) : Nat → Int32 → Int32 → Option (Int32 × Int32)
  | 0, _, _ => none
  | n + 1, x2, x3 => (if (M 1 7) ≤ x3 then some (x2, x3) else (if ((x1 >>> (x3 &&& 31)) &&& (1 : Int32)) = 0 then f_X1_zealOf_L4 N M k x1 n x2 (x3 + (1 : Int32)) else if inb x3 8 = true then f_X1_zealOf_L4 N M k x1 n (x2 + (M (k + 1) x3.toNatClampNeg)) (x3 + (1 : Int32)) else none))
def f_X1_zealOf (N : Nat) (M : Mem) (k : Nat) (x1 : Int32) : Option Int32 := (f_X1_zealOf_L4 N M k x1 N (0 : Int32) (0 : Int32)).bind fun o4 => some o4.1
set_option maxHeartbeats 4000000 in
set_option maxRecDepth 100000 in
theorem g_X1_zealOf_L4 {X : Cx} {F : Fx} (hS : SC X) (hF : FK X F cX1_zealOf RX1 4 1) (N : Nat) (M : Mem) (k : Nat) (x1 : Int32) (hk : ev k) : ∀ (n : Nat) (x2 : Int32) (x3 : Int32) (o : Int32 × Int32), f_X1_zealOf_L4 N M k x1 n x2 x3 = some o → G X F 38 [none, none, some (.int o.1), none] [] M → G X F 4 [some (.ref k), some (.int x1), some (.int x2), some (.int x3)] [] M := by
  intro n
  induction n with
  | zero =>
    intro x2 x3 o h K
    cases h
  | succ n ih =>
    intro x2 x3 o h K
    rw [f_X1_zealOf_L4] at h
    refine g_iload_n hF (dck_at tX1_zealOf 4 rfl) rfl ?_
    refine g_aload_n hF (dck_at tX1_zealOf 5 rfl) rfl ?_
    refine gf_X1_15 hF (ev_m hS hk) (ev_kd hk) (ev_ln hk) (dck_at tX1_zealOf 6 rfl) ?_
    refine gf_X1_30 hF (hS 1 (by decide)) kdc_1 lnc_1 (dck_at tX1_zealOf 7 rfl) ?_
    refine g_icmp_ge hF 38 (dck_at tX1_zealOf 8 rfl) (by decide) (fun hc12 => ?_) (fun hc12 => ?_)
    · replace h := ite_t hc12 h
      refine g_msk [false, false, true, false] (L' := [none, none, some (.int x2), none]) rfl ?_
      cases h
      exact K
    · replace h := ite_f hc12 h
      refine g_iload_n hF (dck_at tX1_zealOf 9 rfl) rfl ?_
      refine g_iload_n hF (dck_at tX1_zealOf 10 rfl) rfl ?_
      refine g_ishr hF (dck_at tX1_zealOf 11 rfl) ?_
      refine g_iconst (v := 1) hF (dck_at tX1_zealOf 12 rfl) (by decide) ?_
      refine g_iand hF (dck_at tX1_zealOf 13 rfl) ?_
      refine g_if_eq hF 32 (dck_at tX1_zealOf 14 rfl) (by decide) (fun hc20 => ?_) (fun hc20 => ?_)
      · replace h := ite_t hc20 h
        refine g_iinc (v := 1) (L' := [some (.ref k), some (.int x1), some (.int x2), some (.int (x3 + (1 : Int32)))]) hF (dck_at tX1_zealOf 22 rfl) rfl (by decide) rfl ?_
        refine g_goto hF 4 (dck_at tX1_zealOf 23 rfl) (by decide) ?_
        exact ih _ _ _ h K
      · replace h := ite_f hc20 h
        refine g_iload_n hF (dck_at tX1_zealOf 15 rfl) rfl ?_
        refine g_aload_n hF (dck_at tX1_zealOf 16 rfl) rfl ?_
        refine gf_X1_9 hF (ev_m hS hk) (ev_kd hk) (ev_ln hk) (t := (k + 1)) rfl (dck_at tX1_zealOf 17 rfl) ?_
        refine g_iload_n hF (dck_at tX1_zealOf 18 rfl) rfl ?_
        obtain ⟨hg29, h⟩ := gd h
        refine g_ia hF (ev_mz hS hk) (ev_kz hk) (ev_lz hk) hg29 (dck_at tX1_zealOf 19 rfl) ?_
        refine g_iadd hF (dck_at tX1_zealOf 20 rfl) ?_
        show G X F 31 _ _ _
        refine g_istore_n (L' := [some (.ref k), some (.int x1), some (.int (x2 + (M (k + 1) x3.toNatClampNeg))), some (.int x3)]) hF (dck_at tX1_zealOf 21 rfl) (Nat.le_of_ble_eq_true rfl) rfl ?_
        refine g_iinc (v := 1) (L' := [some (.ref k), some (.int x1), some (.int (x2 + (M (k + 1) x3.toNatClampNeg))), some (.int (x3 + (1 : Int32)))]) hF (dck_at tX1_zealOf 22 rfl) rfl (by decide) rfl ?_
        refine g_goto hF 4 (dck_at tX1_zealOf 23 rfl) (by decide) ?_
        exact ih _ _ _ h K
set_option maxHeartbeats 4000000 in
set_option maxRecDepth 100000 in
theorem c_X1_zealOf {X : Cx} {l : Launch} (hX : CxOk X) (hS : SC X) {N : Nat} {M : Mem} {k : Nat} {x1 : Int32} (hk : ev k) {r : Int32} (h : f_X1_zealOf N M k x1 = some r) : Ctr X l yX1_zealOf cX1_zealOf 4 (some .int) 1 [.ref k, .int x1] M (some (.int r)) M := by
  refine Ctr.ofG (L := [some (.ref k), some (.int x1), none, none]) hX (by decide) (Nat.le_of_ble_eq_true rfl) rfl (fun F hF hl hR => ?_)
  subst hl
  unfold f_X1_zealOf at h
  refine g_iconst (v := 0) hF (dck_at tX1_zealOf 0 rfl) (by decide) ?_
  refine g_istore_n (L' := [some (.ref k), some (.int x1), some (.int (0 : Int32)), none]) hF (dck_at tX1_zealOf 1 rfl) (Nat.le_of_ble_eq_true rfl) rfl ?_
  refine g_iconst (v := 0) hF (dck_at tX1_zealOf 2 rfl) (by decide) ?_
  refine g_istore_n (L' := [some (.ref k), some (.int x1), some (.int (0 : Int32)), some (.int (0 : Int32))]) hF (dck_at tX1_zealOf 3 rfl) (Nat.le_of_ble_eq_true rfl) rfl ?_
  obtain ⟨o4, e4, h⟩ := bd h
  refine g_X1_zealOf_L4 hS hF N _ _ _ hk N _ _ _ e4 ?_
  refine g_iload_n hF (dck_at tX1_zealOf 24 rfl) rfl ?_
  cases h
  exact g_iret hF hR (dck_at tX1_zealOf 25 rfl)

def tbX1_noise : List (Nat × Instr × Nat) := [(0, .aload_n 0, 1), (1, .aload_n 0, 1), (2, .getfield 34, 3), (5, .invokevirtual 64, 3), (8, .ireturn, 1)]
theorem tX1_noise : dck cX1_noise tbX1_noise = true := by decide +kernel
def f_X1_noise (N : Nat) (M : Mem) (k : Nat) : Option Int32 := (f_X1_zealOf N M k (M k 1)).bind fun q5 => some q5
set_option maxHeartbeats 4000000 in
set_option maxRecDepth 100000 in
theorem c_X1_noise {X : Cx} {l : Launch} (hX : CxOk X) (hS : SC X) {N : Nat} {M : Mem} {k : Nat} (hk : ev k) {r : Int32} (h : f_X1_noise N M k = some r) : Ctr X l yX1_noise cX1_noise 1 (some .int) 2 [.ref k] M (some (.int r)) M := by
  refine Ctr.ofG (L := [some (.ref k)]) hX (by decide) (Nat.le_of_ble_eq_true rfl) rfl (fun F hF hl hR => ?_)
  subst hl
  unfold f_X1_noise at h
  refine g_aload_n hF (dck_at tX1_noise 0 rfl) rfl ?_
  refine g_aload_n hF (dck_at tX1_noise 1 rfl) rfl ?_
  refine gf_X1_34 hF (ev_m hS hk) (ev_kd hk) (ev_ln hk) (dck_at tX1_noise 2 rfl) ?_
  obtain ⟨q5, e5, h⟩ := bd h
  refine g_callV hF (as := [.int (M k 1)]) (k := k) rfl (by decide) wm_X1_64 wi_X1_zealOf we_X1_zealOf wc_X1_zealOf wn_X1 hyX1_zealOf (by decide) (ev_m hS hk) (ev_kd hk) (c_X1_zealOf hF.2.2.2.2.2.2.2.1 hS hk e5) (by decide) rfl rfl rfl rfl (dck_at tX1_noise 3 rfl) ?_
  show G X F 8 _ [.int q5] M
  cases h
  exact g_iret hF hR (dck_at tX1_noise 4 rfl)

def tbX1_whoIsBeside : List (Nat × Instr × Nat) := [(0, .iconst 1, 1), (1, .aload_n 0, 1), (2, .getfield 15, 3), (5, .getfield 30, 3), (8, .ishl, 1), (9, .iconst 1, 1), (10, .isub, 1), (11, .istore_n 2, 1), (12, .iconst 1, 1), (13, .iload_n 1, 1), (14, .ishl, 1), (15, .istore_n 3, 1), (16, .iload_n 3, 1), (17, .iconst 1, 1), (18, .ishr, 1), (19, .iload_n 3, 1), (20, .iconst 1, 1), (21, .ishl, 1), (22, .ior, 1), (23, .iload_n 2, 1), (24, .iand, 1), (25, .ireturn, 1)]
theorem tX1_whoIsBeside : dck cX1_whoIsBeside tbX1_whoIsBeside = true := by decide +kernel
def f_X1_whoIsBeside (N : Nat) (M : Mem) (k : Nat) (x1 : Int32) : Option Int32 := some (((((1 : Int32) <<< (x1 &&& 31)) >>> ((1 : Int32) &&& 31)) ||| (((1 : Int32) <<< (x1 &&& 31)) <<< ((1 : Int32) &&& 31))) &&& (((1 : Int32) <<< ((M 1 7) &&& 31)) - (1 : Int32)))
set_option maxHeartbeats 4000000 in
set_option maxRecDepth 100000 in
theorem c_X1_whoIsBeside {X : Cx} {l : Launch} (hX : CxOk X) (hS : SC X) {N : Nat} {M : Mem} {k : Nat} {x1 : Int32} (hk : ev k) {r : Int32} (h : f_X1_whoIsBeside N M k x1 = some r) : Ctr X l yX1_whoIsBeside cX1_whoIsBeside 4 (some .int) 1 [.ref k, .int x1] M (some (.int r)) M := by
  refine Ctr.ofG (L := [some (.ref k), some (.int x1), none, none]) hX (by decide) (Nat.le_of_ble_eq_true rfl) rfl (fun F hF hl hR => ?_)
  subst hl
  unfold f_X1_whoIsBeside at h
  refine g_iconst (v := 1) hF (dck_at tX1_whoIsBeside 0 rfl) (by decide) ?_
  refine g_aload_n hF (dck_at tX1_whoIsBeside 1 rfl) rfl ?_
  refine gf_X1_15 hF (ev_m hS hk) (ev_kd hk) (ev_ln hk) (dck_at tX1_whoIsBeside 2 rfl) ?_
  refine gf_X1_30 hF (hS 1 (by decide)) kdc_1 lnc_1 (dck_at tX1_whoIsBeside 3 rfl) ?_
  refine g_ishl hF (dck_at tX1_whoIsBeside 4 rfl) ?_
  refine g_iconst (v := 1) hF (dck_at tX1_whoIsBeside 5 rfl) (by decide) ?_
  show G X F 10 _ _ _
  refine g_isub hF (dck_at tX1_whoIsBeside 6 rfl) ?_
  refine g_istore_n (L' := [some (.ref k), some (.int x1), some (.int (((1 : Int32) <<< ((M 1 7) &&& 31)) - (1 : Int32))), none]) hF (dck_at tX1_whoIsBeside 7 rfl) (Nat.le_of_ble_eq_true rfl) rfl ?_
  refine g_iconst (v := 1) hF (dck_at tX1_whoIsBeside 8 rfl) (by decide) ?_
  refine g_iload_n hF (dck_at tX1_whoIsBeside 9 rfl) rfl ?_
  refine g_ishl hF (dck_at tX1_whoIsBeside 10 rfl) ?_
  refine g_istore_n (L' := [some (.ref k), some (.int x1), some (.int (((1 : Int32) <<< ((M 1 7) &&& 31)) - (1 : Int32))), some (.int ((1 : Int32) <<< (x1 &&& 31)))]) hF (dck_at tX1_whoIsBeside 11 rfl) (Nat.le_of_ble_eq_true rfl) rfl ?_
  refine g_iload_n hF (dck_at tX1_whoIsBeside 12 rfl) rfl ?_
  show G X F 17 _ _ _
  refine g_iconst (v := 1) hF (dck_at tX1_whoIsBeside 13 rfl) (by decide) ?_
  refine g_ishr hF (dck_at tX1_whoIsBeside 14 rfl) ?_
  refine g_iload_n hF (dck_at tX1_whoIsBeside 15 rfl) rfl ?_
  refine g_iconst (v := 1) hF (dck_at tX1_whoIsBeside 16 rfl) (by decide) ?_
  refine g_ishl hF (dck_at tX1_whoIsBeside 17 rfl) ?_
  refine g_ior hF (dck_at tX1_whoIsBeside 18 rfl) ?_
  refine g_iload_n hF (dck_at tX1_whoIsBeside 19 rfl) rfl ?_
  show G X F 24 _ _ _
  refine g_iand hF (dck_at tX1_whoIsBeside 20 rfl) ?_
  cases h
  exact g_iret hF hR (dck_at tX1_whoIsBeside 21 rfl)

def tbX1_lessByWait : List (Nat × Instr × Nat) := [(0, .iload_n 2, 1), (1, .iload_n 1, 1), (2, .ishr, 1), (3, .iconst 1, 1), (4, .iand, 1), (5, .ifCond .ne 5, 3), (8, .iconst 0, 1), (9, .ireturn, 1), (10, .aload_n 0, 1), (11, .iload_n 1, 1), (12, .invokevirtual 68, 3), (15, .istore_n 3, 1), (16, .aload_n 0, 1), (17, .getfield 15, 3), (20, .getfield 71, 3), (23, .iload_n 1, 1), (24, .iaload, 1), (25, .tableswitch 63 1 3 #[51, 27, 38], 27), (52, .iconst 2, 1), (53, .aload_n 0, 1), (54, .getfield 9, 3), (57, .iload_n 1, 1), (58, .iaload, 1), (59, .invokestatic 74, 3), (62, .ireturn, 1), (63, .aload_n 0, 1), (64, .getfield 56, 3), (67, .ifCond .eq 7, 3), (70, .iconst 1, 1), (71, .goto 4, 3), (74, .iconst 0, 1), (75, .ireturn, 1), (76, .iload_n 3, 1), (77, .iload_n 2, 1), (78, .iand, 1), (79, .ifCond .eq 7, 3), (82, .iconst 0, 1), (83, .goto 4, 3), (86, .iconst 1, 1), (87, .ireturn, 1), (88, .iload_n 3, 1), (89, .ifCond .eq 15, 3), (92, .iload_n 3, 1), (93, .iload_n 2, 1), (94, .iconst (-1), 1), (95, .ixor, 1), (96, .iand, 1), (97, .ifCond .ne 7, 3), (100, .iconst 0, 1), (101, .goto 4, 3), (104, .iconst 1, 1), (105, .ireturn, 1)]
theorem tX1_lessByWait : dck cX1_lessByWait tbX1_lessByWait = true := by decide +kernel
def f_X1_lessByWait (N : Nat) (M : Mem) (k : Nat) (x1 : Int32) (x2 : Int32) : Option Int32 := (if ((x2 >>> (x1 &&& 31)) &&& (1 : Int32)) = 0 then some (0 : Int32) else (f_X1_whoIsBeside N M k x1).bind fun q12 => if inb x1 8 = true then (if (M 2 x1.toNatClampNeg) = 1 then (if (q12 &&& x2) = 0 then some (1 : Int32) else some (0 : Int32)) else (if (M 2 x1.toNatClampNeg) = 2 then if inb x1 8 = true then some (if (M (k + 1) x1.toNatClampNeg) < (2 : Int32) then M (k + 1) x1.toNatClampNeg else (2 : Int32)) else none else (if (M 2 x1.toNatClampNeg) = 3 then (if (M k 8) = 0 then some (0 : Int32) else some (1 : Int32)) else (if q12 = 0 then some (1 : Int32) else (if (q12 &&& (x2 ^^^ (-1 : Int32))) = 0 then some (0 : Int32) else some (1 : Int32)))))) else none)
set_option maxHeartbeats 4000000 in
set_option maxRecDepth 100000 in
theorem c_X1_lessByWait {X : Cx} {l : Launch} (hX : CxOk X) (hS : SC X) {N : Nat} {M : Mem} {k : Nat} {x1 : Int32} {x2 : Int32} (hk : ev k) {r : Int32} (h : f_X1_lessByWait N M k x1 x2 = some r) : Ctr X l yX1_lessByWait cX1_lessByWait 4 (some .int) 2 [.ref k, .int x1, .int x2] M (some (.int r)) M := by
  refine Ctr.ofG (L := [some (.ref k), some (.int x1), some (.int x2), none]) hX (by decide) (Nat.le_of_ble_eq_true rfl) rfl (fun F hF hl hR => ?_)
  subst hl
  unfold f_X1_lessByWait at h
  refine g_iload_n hF (dck_at tX1_lessByWait 0 rfl) rfl ?_
  refine g_iload_n hF (dck_at tX1_lessByWait 1 rfl) rfl ?_
  refine g_ishr hF (dck_at tX1_lessByWait 2 rfl) ?_
  refine g_iconst (v := 1) hF (dck_at tX1_lessByWait 3 rfl) (by decide) ?_
  refine g_iand hF (dck_at tX1_lessByWait 4 rfl) ?_
  refine g_if_ne hF 10 (dck_at tX1_lessByWait 5 rfl) (by decide) (fun hc5 => ?_) (fun hc5 => ?_)
  · replace h := ite_f hc5 h
    refine g_aload_n hF (dck_at tX1_lessByWait 8 rfl) rfl ?_
    refine g_iload_n hF (dck_at tX1_lessByWait 9 rfl) rfl ?_
    obtain ⟨q12, e12, h⟩ := bd h
    refine g_callV hF (as := [.int x1]) (k := k) rfl (by decide) wm_X1_68 wi_X1_whoIsBeside we_X1_whoIsBeside wc_X1_whoIsBeside wn_X1 hyX1_whoIsBeside (by decide) (ev_m hS hk) (ev_kd hk) (c_X1_whoIsBeside hF.2.2.2.2.2.2.2.1 hS hk e12) (by decide) rfl rfl rfl rfl (dck_at tX1_lessByWait 10 rfl) ?_
    show G X F 15 _ [.int q12] M
    refine g_istore_n (L' := [some (.ref k), some (.int x1), some (.int x2), some (.int q12)]) hF (dck_at tX1_lessByWait 11 rfl) (Nat.le_of_ble_eq_true rfl) rfl ?_
    refine g_aload_n hF (dck_at tX1_lessByWait 12 rfl) rfl ?_
    refine gf_X1_15 hF (ev_m hS hk) (ev_kd hk) (ev_ln hk) (dck_at tX1_lessByWait 13 rfl) ?_
    show G X F 20 _ _ _
    refine gf_X1_71 hF (hS 1 (by decide)) kdc_1 lnc_1 (t := 2) rfl (dck_at tX1_lessByWait 14 rfl) ?_
    refine g_iload_n hF (dck_at tX1_lessByWait 15 rfl) rfl ?_
    obtain ⟨hg24, h⟩ := gd h
    refine g_ia hF (hS 2 (by decide)) kdc_2 lnc_2 hg24 (dck_at tX1_lessByWait 16 rfl) ?_
    by_cases hc25_0 : (M 2 x1.toNatClampNeg) = 1
    · replace h := ite_t hc25_0 h
      refine g_swIn hF 76 1 hc25_0 (dck_at tX1_lessByWait 17 rfl) (by decide) (by decide) rfl (by decide) ?_
      refine g_iload_n hF (dck_at tX1_lessByWait 32 rfl) rfl ?_
      refine g_iload_n hF (dck_at tX1_lessByWait 33 rfl) rfl ?_
      refine g_iand hF (dck_at tX1_lessByWait 34 rfl) ?_
      refine g_if_eq hF 86 (dck_at tX1_lessByWait 35 rfl) (by decide) (fun hc79 => ?_) (fun hc79 => ?_)
      · replace h := ite_t hc79 h
        refine g_iconst (v := 1) hF (dck_at tX1_lessByWait 38 rfl) (by decide) ?_
        cases h
        exact g_iret hF hR (dck_at tX1_lessByWait 39 rfl)
      · replace h := ite_f hc79 h
        refine g_iconst (v := 0) hF (dck_at tX1_lessByWait 36 rfl) (by decide) ?_
        refine g_goto hF 87 (dck_at tX1_lessByWait 37 rfl) (by decide) ?_
        cases h
        exact g_iret hF hR (dck_at tX1_lessByWait 39 rfl)
    replace h := ite_f hc25_0 h
    by_cases hc25_1 : (M 2 x1.toNatClampNeg) = 2
    · replace h := ite_t hc25_1 h
      refine g_swIn hF 52 2 hc25_1 (dck_at tX1_lessByWait 17 rfl) (by decide) (by decide) rfl (by decide) ?_
      refine g_iconst (v := 2) hF (dck_at tX1_lessByWait 18 rfl) (by decide) ?_
      refine g_aload_n hF (dck_at tX1_lessByWait 19 rfl) rfl ?_
      refine gf_X1_9 hF (ev_m hS hk) (ev_kd hk) (ev_ln hk) (t := (k + 1)) rfl (dck_at tX1_lessByWait 20 rfl) ?_
      refine g_iload_n hF (dck_at tX1_lessByWait 21 rfl) rfl ?_
      obtain ⟨hg58, h⟩ := gd h
      refine g_ia hF (ev_mz hS hk) (ev_kz hk) (ev_lz hk) hg58 (dck_at tX1_lessByWait 22 rfl) ?_
      refine g_mmin hF wm_X1_74 wt_min wn_J9 wc_min (by decide) rfl rfl (dck_at tX1_lessByWait 23 rfl) ?_
      show G X F 62 _ _ _
      cases h
      exact g_iret hF hR (dck_at tX1_lessByWait 24 rfl)
    replace h := ite_f hc25_1 h
    by_cases hc25_2 : (M 2 x1.toNatClampNeg) = 3
    · replace h := ite_t hc25_2 h
      refine g_swIn hF 63 3 hc25_2 (dck_at tX1_lessByWait 17 rfl) (by decide) (by decide) rfl (by decide) ?_
      refine g_aload_n hF (dck_at tX1_lessByWait 25 rfl) rfl ?_
      refine gf_X1_56 hF (ev_m hS hk) (ev_kd hk) (ev_ln hk) (dck_at tX1_lessByWait 26 rfl) ?_
      refine g_if_eq hF 74 (dck_at tX1_lessByWait 27 rfl) (by decide) (fun hc67 => ?_) (fun hc67 => ?_)
      · replace h := ite_t hc67 h
        refine g_iconst (v := 0) hF (dck_at tX1_lessByWait 30 rfl) (by decide) ?_
        cases h
        exact g_iret hF hR (dck_at tX1_lessByWait 31 rfl)
      · replace h := ite_f hc67 h
        refine g_iconst (v := 1) hF (dck_at tX1_lessByWait 28 rfl) (by decide) ?_
        refine g_goto hF 75 (dck_at tX1_lessByWait 29 rfl) (by decide) ?_
        cases h
        exact g_iret hF hR (dck_at tX1_lessByWait 31 rfl)
    replace h := ite_f hc25_2 h
    refine g_swOut hF 88 (dck_at tX1_lessByWait 17 rfl) (by have q0 := lv_neT hc25_0 (a := 1) rfl; have q1 := lv_neT hc25_1 (a := 2) rfl; have q2 := lv_neT hc25_2 (a := 3) rfl; omega) (by decide) ?_
    refine g_iload_n hF (dck_at tX1_lessByWait 40 rfl) rfl ?_
    refine g_if_eq hF 104 (dck_at tX1_lessByWait 41 rfl) (by decide) (fun hc89 => ?_) (fun hc89 => ?_)
    · replace h := ite_t hc89 h
      refine g_iconst (v := 1) hF (dck_at tX1_lessByWait 50 rfl) (by decide) ?_
      cases h
      exact g_iret hF hR (dck_at tX1_lessByWait 51 rfl)
    · replace h := ite_f hc89 h
      refine g_iload_n hF (dck_at tX1_lessByWait 42 rfl) rfl ?_
      refine g_iload_n hF (dck_at tX1_lessByWait 43 rfl) rfl ?_
      refine g_iconst (v := -1) hF (dck_at tX1_lessByWait 44 rfl) (by decide) ?_
      refine g_ixor hF (dck_at tX1_lessByWait 45 rfl) ?_
      refine g_iand hF (dck_at tX1_lessByWait 46 rfl) ?_
      refine g_if_ne hF 104 (dck_at tX1_lessByWait 47 rfl) (by decide) (fun hc97 => ?_) (fun hc97 => ?_)
      · replace h := ite_f hc97 h
        refine g_iconst (v := 1) hF (dck_at tX1_lessByWait 50 rfl) (by decide) ?_
        cases h
        exact g_iret hF hR (dck_at tX1_lessByWait 51 rfl)
      · replace h := ite_t hc97 h
        refine g_iconst (v := 0) hF (dck_at tX1_lessByWait 48 rfl) (by decide) ?_
        refine g_goto hF 105 (dck_at tX1_lessByWait 49 rfl) (by decide) ?_
        cases h
        exact g_iret hF hR (dck_at tX1_lessByWait 51 rfl)
  · replace h := ite_t hc5 h
    refine g_iconst (v := 0) hF (dck_at tX1_lessByWait 6 rfl) (by decide) ?_
    cases h
    exact g_iret hF hR (dck_at tX1_lessByWait 7 rfl)

def tbX5_hasEncore : List (Nat × Instr × Nat) := [(0, .iload_n 1, 1), (1, .ifCond .lt 15, 3), (4, .iload_n 1, 1), (5, .aload_n 0, 1), (6, .getfield 40, 3), (9, .if_icmp .ge 7, 3), (12, .iconst 1, 1), (13, .goto 4, 3), (16, .iconst 0, 1), (17, .ireturn, 1)]
theorem tX5_hasEncore : dck cX5_hasEncore tbX5_hasEncore = true := by decide +kernel
def f_X5_hasEncore (N : Nat) (M : Mem) (k : Nat) (x1 : Int32) : Option Int32 := (if x1 < 0 then some (0 : Int32) else (if (M k 8) ≤ x1 then some (0 : Int32) else some (1 : Int32)))
set_option maxHeartbeats 4000000 in
set_option maxRecDepth 100000 in
theorem c_X5_hasEncore {X : Cx} {l : Launch} (hX : CxOk X) (hS : SC X) {N : Nat} {M : Mem} {k : Nat} {x1 : Int32} (hk : td k) {r : Int32} (h : f_X5_hasEncore N M k x1 = some r) : Ctr X l yX5_hasEncore cX5_hasEncore 2 (some .boolean) 1 [.ref k, .int x1] M (some (.int r)) M := by
  refine Ctr.ofG (L := [some (.ref k), some (.int x1)]) hX (by decide) (Nat.le_of_ble_eq_true rfl) rfl (fun F hF hl hR => ?_)
  subst hl
  unfold f_X5_hasEncore at h
  refine g_iload_n hF (dck_at tX5_hasEncore 0 rfl) rfl ?_
  refine g_if_lt hF 16 (dck_at tX5_hasEncore 1 rfl) (by decide) (fun hc1 => ?_) (fun hc1 => ?_)
  · replace h := ite_t hc1 h
    refine g_iconst (v := 0) hF (dck_at tX5_hasEncore 8 rfl) (by decide) ?_
    cases h
    exact g_zret hF hR rfl (dck_at tX5_hasEncore 9 rfl)
  · replace h := ite_f hc1 h
    refine g_iload_n hF (dck_at tX5_hasEncore 2 rfl) rfl ?_
    refine g_aload_n hF (dck_at tX5_hasEncore 3 rfl) rfl ?_
    refine gf_X5_40 hF (td_m hS hk) (td_kd hk) (td_ln hk) (dck_at tX5_hasEncore 4 rfl) ?_
    refine g_icmp_ge hF 16 (dck_at tX5_hasEncore 5 rfl) (by decide) (fun hc9 => ?_) (fun hc9 => ?_)
    · replace h := ite_t hc9 h
      refine g_iconst (v := 0) hF (dck_at tX5_hasEncore 8 rfl) (by decide) ?_
      cases h
      exact g_zret hF hR rfl (dck_at tX5_hasEncore 9 rfl)
    · replace h := ite_f hc9 h
      refine g_iconst (v := 1) hF (dck_at tX5_hasEncore 6 rfl) (by decide) ?_
      refine g_goto hF 17 (dck_at tX5_hasEncore 7 rfl) (by decide) ?_
      cases h
      exact g_zret hF hR rfl (dck_at tX5_hasEncore 9 rfl)

def tbX1_isReady : List (Nat × Instr × Nat) := [(0, .aload_n 0, 1), (1, .getfield 15, 3), (4, .iload_n 1, 1), (5, .invokevirtual 96, 3), (8, .ifCond .eq 31, 3), (11, .aload_n 0, 1), (12, .iload_n 1, 1), (13, .invokevirtual 103, 3), (16, .ifCond .ne 23, 3), (19, .aload_n 0, 1), (20, .getfield 15, 3), (23, .getfield 106, 3), (26, .iload_n 1, 1), (27, .iaload, 1), (28, .aload_n 0, 1), (29, .getfield 43, 3), (32, .if_icmp .gt 7, 3), (35, .iconst 1, 1), (36, .goto 4, 3), (39, .iconst 0, 1), (40, .ireturn, 1)]
theorem tX1_isReady : dck cX1_isReady tbX1_isReady = true := by decide +kernel
def f_X1_isReady (N : Nat) (M : Mem) (k : Nat) (x1 : Int32) : Option Int32 := (f_X5_hasEncore N M 1 x1).bind fun q5 => (if q5 = 0 then some (0 : Int32) else (f_X1_wasPlayed N M k x1).bind fun q13 => (if q13 = 0 then if inb x1 4 = true then (if (M k 3) < (M 7 x1.toNatClampNeg) then some (0 : Int32) else some (1 : Int32)) else none else some (0 : Int32)))
set_option maxHeartbeats 4000000 in
set_option maxRecDepth 100000 in
theorem c_X1_isReady {X : Cx} {l : Launch} (hX : CxOk X) (hS : SC X) {N : Nat} {M : Mem} {k : Nat} {x1 : Int32} (hk : ev k) {r : Int32} (h : f_X1_isReady N M k x1 = some r) : Ctr X l yX1_isReady cX1_isReady 2 (some .boolean) 2 [.ref k, .int x1] M (some (.int r)) M := by
  refine Ctr.ofG (L := [some (.ref k), some (.int x1)]) hX (by decide) (Nat.le_of_ble_eq_true rfl) rfl (fun F hF hl hR => ?_)
  subst hl
  unfold f_X1_isReady at h
  refine g_aload_n hF (dck_at tX1_isReady 0 rfl) rfl ?_
  refine gf_X1_15 hF (ev_m hS hk) (ev_kd hk) (ev_ln hk) (dck_at tX1_isReady 1 rfl) ?_
  refine g_iload_n hF (dck_at tX1_isReady 2 rfl) rfl ?_
  obtain ⟨q5, e5, h⟩ := bd h
  refine g_callV hF (as := [.int x1]) (k := 1) rfl (by decide) wm_X1_96 wi_X5_hasEncore we_X5_hasEncore wc_X5_hasEncore wn_X5 hyX5_hasEncore (by decide) (hS 1 (by decide)) kdc_1 (c_X5_hasEncore hF.2.2.2.2.2.2.2.1 hS tdc_1 e5) (by decide) rfl rfl rfl rfl (dck_at tX1_isReady 3 rfl) ?_
  show G X F 8 _ [.int q5] M
  refine g_if_eq hF 39 (dck_at tX1_isReady 4 rfl) (by decide) (fun hc8 => ?_) (fun hc8 => ?_)
  · replace h := ite_t hc8 h
    refine g_iconst (v := 0) hF (dck_at tX1_isReady 19 rfl) (by decide) ?_
    cases h
    exact g_zret hF hR rfl (dck_at tX1_isReady 20 rfl)
  · replace h := ite_f hc8 h
    refine g_aload_n hF (dck_at tX1_isReady 5 rfl) rfl ?_
    refine g_iload_n hF (dck_at tX1_isReady 6 rfl) rfl ?_
    obtain ⟨q13, e13, h⟩ := bd h
    refine g_callV hF (as := [.int x1]) (k := k) rfl (by decide) wm_X1_103 wi_X1_wasPlayed we_X1_wasPlayed wc_X1_wasPlayed wn_X1 hyX1_wasPlayed (by decide) (ev_m hS hk) (ev_kd hk) (c_X1_wasPlayed hF.2.2.2.2.2.2.2.1 hS hk e13) (by decide) rfl rfl rfl rfl (dck_at tX1_isReady 7 rfl) ?_
    show G X F 16 _ [.int q13] M
    refine g_if_ne hF 39 (dck_at tX1_isReady 8 rfl) (by decide) (fun hc16 => ?_) (fun hc16 => ?_)
    · replace h := ite_f hc16 h
      refine g_iconst (v := 0) hF (dck_at tX1_isReady 19 rfl) (by decide) ?_
      cases h
      exact g_zret hF hR rfl (dck_at tX1_isReady 20 rfl)
    · replace h := ite_t hc16 h
      refine g_aload_n hF (dck_at tX1_isReady 9 rfl) rfl ?_
      refine gf_X1_15 hF (ev_m hS hk) (ev_kd hk) (ev_ln hk) (dck_at tX1_isReady 10 rfl) ?_
      refine gf_X1_106 hF (hS 1 (by decide)) kdc_1 lnc_1 (t := 7) rfl (dck_at tX1_isReady 11 rfl) ?_
      refine g_iload_n hF (dck_at tX1_isReady 12 rfl) rfl ?_
      obtain ⟨hg27, h⟩ := gd h
      refine g_ia hF (hS 7 (by decide)) kdc_7 lnc_7 hg27 (dck_at tX1_isReady 13 rfl) ?_
      refine g_aload_n hF (dck_at tX1_isReady 14 rfl) rfl ?_
      show G X F 29 _ _ _
      refine gf_X1_43 hF (ev_m hS hk) (ev_kd hk) (ev_ln hk) (dck_at tX1_isReady 15 rfl) ?_
      refine g_icmp_gt hF 39 (dck_at tX1_isReady 16 rfl) (by decide) (fun hc32 => ?_) (fun hc32 => ?_)
      · replace h := ite_t hc32 h
        refine g_iconst (v := 0) hF (dck_at tX1_isReady 19 rfl) (by decide) ?_
        cases h
        exact g_zret hF hR rfl (dck_at tX1_isReady 20 rfl)
      · replace h := ite_f hc32 h
        refine g_iconst (v := 1) hF (dck_at tX1_isReady 17 rfl) (by decide) ?_
        refine g_goto hF 40 (dck_at tX1_isReady 18 rfl) (by decide) ?_
        cases h
        exact g_zret hF hR rfl (dck_at tX1_isReady 20 rfl)

def tbX1_isPossible : List (Nat × Instr × Nat) := [(0, .iload_n 1, 1), (1, .ifCond .ne 5, 3), (4, .iconst 1, 1), (5, .ireturn, 1), (6, .iload_n 1, 1), (7, .iconst 1, 1), (8, .if_icmp .eq 13, 3), (11, .aload_n 0, 1), (12, .iload_n 1, 1), (13, .iconst 2, 1), (14, .isub, 1), (15, .invokevirtual 80, 3), (18, .ifCond .eq 14, 3), (21, .aload_n 0, 1), (22, .invokevirtual 83, 3), (25, .ifCond .le 7, 3), (28, .iconst 1, 1), (29, .goto 4, 3), (32, .iconst 0, 1), (33, .ireturn, 1)]
theorem tX1_isPossible : dck cX1_isPossible tbX1_isPossible = true := by decide +kernel
def f_X1_isPossible (N : Nat) (M : Mem) (k : Nat) (x1 : Int32) : Option Int32 := (if x1 = 0 then some (1 : Int32) else (if x1 = (1 : Int32) then (f_X1_noise N M k).bind fun q22 => (if q22 ≤ 0 then some (0 : Int32) else some (1 : Int32)) else (f_X1_isReady N M k (x1 - (2 : Int32))).bind fun q15 => (if q15 = 0 then some (0 : Int32) else (f_X1_noise N M k).bind fun q22 => (if q22 ≤ 0 then some (0 : Int32) else some (1 : Int32)))))
set_option maxHeartbeats 4000000 in
set_option maxRecDepth 100000 in
theorem c_X1_isPossible {X : Cx} {l : Launch} (hX : CxOk X) (hS : SC X) {N : Nat} {M : Mem} {k : Nat} {x1 : Int32} (hk : ev k) {r : Int32} (h : f_X1_isPossible N M k x1 = some r) : Ctr X l yX1_isPossible cX1_isPossible 2 (some .boolean) 3 [.ref k, .int x1] M (some (.int r)) M := by
  refine Ctr.ofG (L := [some (.ref k), some (.int x1)]) hX (by decide) (Nat.le_of_ble_eq_true rfl) rfl (fun F hF hl hR => ?_)
  subst hl
  unfold f_X1_isPossible at h
  refine g_iload_n hF (dck_at tX1_isPossible 0 rfl) rfl ?_
  refine g_if_ne hF 6 (dck_at tX1_isPossible 1 rfl) (by decide) (fun hc1 => ?_) (fun hc1 => ?_)
  · replace h := ite_f hc1 h
    refine g_iload_n hF (dck_at tX1_isPossible 4 rfl) rfl ?_
    refine g_iconst (v := 1) hF (dck_at tX1_isPossible 5 rfl) (by decide) ?_
    refine g_icmp_eq hF 21 (dck_at tX1_isPossible 6 rfl) (by decide) (fun hc8 => ?_) (fun hc8 => ?_)
    · replace h := ite_t hc8 h
      refine g_aload_n hF (dck_at tX1_isPossible 13 rfl) rfl ?_
      obtain ⟨q22, e22, h⟩ := bd h
      refine g_callV hF (as := []) (k := k) rfl (by decide) wm_X1_83 wi_X1_noise we_X1_noise wc_X1_noise wn_X1 hyX1_noise (by decide) (ev_m hS hk) (ev_kd hk) (c_X1_noise hF.2.2.2.2.2.2.2.1 hS hk e22) (by decide) rfl rfl rfl rfl (dck_at tX1_isPossible 14 rfl) ?_
      show G X F 25 _ [.int q22] M
      refine g_if_le hF 32 (dck_at tX1_isPossible 15 rfl) (by decide) (fun hc25 => ?_) (fun hc25 => ?_)
      · replace h := ite_t hc25 h
        refine g_iconst (v := 0) hF (dck_at tX1_isPossible 18 rfl) (by decide) ?_
        cases h
        exact g_zret hF hR rfl (dck_at tX1_isPossible 19 rfl)
      · replace h := ite_f hc25 h
        refine g_iconst (v := 1) hF (dck_at tX1_isPossible 16 rfl) (by decide) ?_
        refine g_goto hF 33 (dck_at tX1_isPossible 17 rfl) (by decide) ?_
        cases h
        exact g_zret hF hR rfl (dck_at tX1_isPossible 19 rfl)
    · replace h := ite_f hc8 h
      refine g_aload_n hF (dck_at tX1_isPossible 7 rfl) rfl ?_
      refine g_iload_n hF (dck_at tX1_isPossible 8 rfl) rfl ?_
      refine g_iconst (v := 2) hF (dck_at tX1_isPossible 9 rfl) (by decide) ?_
      refine g_isub hF (dck_at tX1_isPossible 10 rfl) ?_
      obtain ⟨q15, e15, h⟩ := bd h
      refine g_callV hF (as := [.int (x1 - (2 : Int32))]) (k := k) rfl (by decide) wm_X1_80 wi_X1_isReady we_X1_isReady wc_X1_isReady wn_X1 hyX1_isReady (by decide) (ev_m hS hk) (ev_kd hk) (c_X1_isReady hF.2.2.2.2.2.2.2.1 hS hk e15) (by decide) rfl rfl rfl rfl (dck_at tX1_isPossible 11 rfl) ?_
      show G X F 18 _ [.int q15] M
      refine g_if_eq hF 32 (dck_at tX1_isPossible 12 rfl) (by decide) (fun hc18 => ?_) (fun hc18 => ?_)
      · replace h := ite_t hc18 h
        refine g_iconst (v := 0) hF (dck_at tX1_isPossible 18 rfl) (by decide) ?_
        cases h
        exact g_zret hF hR rfl (dck_at tX1_isPossible 19 rfl)
      · replace h := ite_f hc18 h
        refine g_aload_n hF (dck_at tX1_isPossible 13 rfl) rfl ?_
        obtain ⟨q22, e22, h⟩ := bd h
        refine g_callV hF (as := []) (k := k) rfl (by decide) wm_X1_83 wi_X1_noise we_X1_noise wc_X1_noise wn_X1 hyX1_noise (by decide) (ev_m hS hk) (ev_kd hk) (c_X1_noise hF.2.2.2.2.2.2.2.1 hS hk e22) (by decide) rfl rfl rfl rfl (dck_at tX1_isPossible 14 rfl) ?_
        show G X F 25 _ [.int q22] M
        refine g_if_le hF 32 (dck_at tX1_isPossible 15 rfl) (by decide) (fun hc25 => ?_) (fun hc25 => ?_)
        · replace h := ite_t hc25 h
          refine g_iconst (v := 0) hF (dck_at tX1_isPossible 18 rfl) (by decide) ?_
          cases h
          exact g_zret hF hR rfl (dck_at tX1_isPossible 19 rfl)
        · replace h := ite_f hc25 h
          refine g_iconst (v := 1) hF (dck_at tX1_isPossible 16 rfl) (by decide) ?_
          refine g_goto hF 33 (dck_at tX1_isPossible 17 rfl) (by decide) ?_
          cases h
          exact g_zret hF hR rfl (dck_at tX1_isPossible 19 rfl)
  · replace h := ite_t hc1 h
    refine g_iconst (v := 1) hF (dck_at tX1_isPossible 2 rfl) (by decide) ?_
    cases h
    exact g_zret hF hR rfl (dck_at tX1_isPossible 3 rfl)

def tbX1_moreByBow : List (Nat × Instr × Nat) := [(0, .aload_n 0, 1), (1, .getfield 56, 3), (4, .ifCond .eq 7, 3), (7, .iconst 0, 1), (8, .goto 13, 3), (11, .iconst 0, 1), (12, .iconst 4, 1), (13, .aload_n 0, 1), (14, .getfield 47, 3), (17, .isub, 1), (18, .invokestatic 87, 3), (21, .ireturn, 1)]
theorem tX1_moreByBow : dck cX1_moreByBow tbX1_moreByBow = true := by decide +kernel
def f_X1_moreByBow (N : Nat) (M : Mem) (k : Nat) : Option Int32 := (if (M k 8) = 0 then some (if (0 : Int32) < ((4 : Int32) - (M k 5)) then (4 : Int32) - (M k 5) else (0 : Int32)) else some (0 : Int32))
set_option maxHeartbeats 4000000 in
set_option maxRecDepth 100000 in
theorem c_X1_moreByBow {X : Cx} {l : Launch} (hX : CxOk X) (hS : SC X) {N : Nat} {M : Mem} {k : Nat} (hk : ev k) {r : Int32} (h : f_X1_moreByBow N M k = some r) : Ctr X l yX1_moreByBow cX1_moreByBow 1 (some .int) 2 [.ref k] M (some (.int r)) M := by
  refine Ctr.ofG (L := [some (.ref k)]) hX (by decide) (Nat.le_of_ble_eq_true rfl) rfl (fun F hF hl hR => ?_)
  subst hl
  unfold f_X1_moreByBow at h
  refine g_aload_n hF (dck_at tX1_moreByBow 0 rfl) rfl ?_
  refine gf_X1_56 hF (ev_m hS hk) (ev_kd hk) (ev_ln hk) (dck_at tX1_moreByBow 1 rfl) ?_
  refine g_if_eq hF 11 (dck_at tX1_moreByBow 2 rfl) (by decide) (fun hc4 => ?_) (fun hc4 => ?_)
  · replace h := ite_t hc4 h
    refine g_iconst (v := 0) hF (dck_at tX1_moreByBow 5 rfl) (by decide) ?_
    refine g_iconst (v := 4) hF (dck_at tX1_moreByBow 6 rfl) (by decide) ?_
    refine g_aload_n hF (dck_at tX1_moreByBow 7 rfl) rfl ?_
    refine gf_X1_47 hF (ev_m hS hk) (ev_kd hk) (ev_ln hk) (dck_at tX1_moreByBow 8 rfl) ?_
    refine g_isub hF (dck_at tX1_moreByBow 9 rfl) ?_
    refine g_mmax hF wm_X1_87 wt_max wn_J9 wc_max (by decide) rfl rfl (dck_at tX1_moreByBow 10 rfl) ?_
    show G X F 21 _ _ _
    cases h
    exact g_iret hF hR (dck_at tX1_moreByBow 11 rfl)
  · replace h := ite_f hc4 h
    refine g_iconst (v := 0) hF (dck_at tX1_moreByBow 3 rfl) (by decide) ?_
    refine g_goto hF 21 (dck_at tX1_moreByBow 4 rfl) (by decide) ?_
    cases h
    exact g_iret hF hR (dck_at tX1_moreByBow 11 rfl)

def tbX1_letPass : List (Nat × Instr × Nat) := [(0, .iconst 0, 1), (1, .istore_n 2, 1), (2, .iload_n 2, 1), (3, .iload_n 1, 1), (4, .if_icmp .ge 61, 3), (7, .aload_n 0, 1), (8, .dup, 1), (9, .getfield 50, 3), (12, .aload_n 0, 1), (13, .getfield 37, 3), (16, .aload_n 0, 1), (17, .getfield 15, 3), (20, .getfield 142, 3), (23, .if_icmp .lt 15, 3), (26, .iconst 2, 1), (27, .aload_n 0, 1), (28, .getfield 15, 3), (31, .getfield 145, 3), (34, .imul, 1), (35, .goto 10, 3), (38, .aload_n 0, 1), (39, .getfield 15, 3), (42, .getfield 145, 3), (45, .iadd, 1), (46, .putfield 50, 3), (49, .aload_n 0, 1), (50, .dup, 1), (51, .getfield 37, 3), (54, .iconst 1, 1), (55, .iadd, 1), (56, .putfield 37, 3), (59, .iinc 2 1, 3), (62, .goto (-60), 3), (65, .iconst 0, 1), (66, .istore_n 2, 1), (67, .iload_n 2, 1), (68, .aload_n 0, 1), (69, .getfield 15, 3), (72, .getfield 30, 3), (75, .if_icmp .ge 39, 3), (78, .aload_n 0, 1), (79, .getfield 15, 3), (82, .getfield 148, 3), (85, .iload_n 2, 1), (86, .iaload, 1), (87, .aload_n 0, 1), (88, .getfield 37, 3), (91, .if_icmp .gt 17, 3), (94, .aload_n 0, 1), (95, .dup, 1), (96, .getfield 34, 3), (99, .iconst 1, 1), (100, .iload_n 2, 1), (101, .ishl, 1), (102, .iconst (-1), 1), (103, .ixor, 1), (104, .iand, 1), (105, .putfield 34, 3), (108, .iinc 2 1, 3), (111, .goto (-44), 3), (114, .return_, 1)]
theorem tX1_letPass : dck cX1_letPass tbX1_letPass = true := by decide +kernel
def f_X1_letPass_L2 (N : Nat) (k : Nat) (x1 : Int32) : Nat → Int32 → Mem → Option (Int32 × Mem)
  | 0, _, _ => none
  | n + 1, x2, M => (if x1 ≤ x2 then some (x2, M) else f_X1_letPass_L2 N k x1 n (x2 + (1 : Int32)) (up2 (up2 M k 6 ((M k 6) + (if (M k 2) < (M 1 10) then (M 1 11) else ((2 : Int32) * (M 1 11))))) k 2 (((up2 M k 6 ((M k 6) + (if (M k 2) < (M 1 10) then (M 1 11) else ((2 : Int32) * (M 1 11))))) k 2) + (1 : Int32))))
def f_X1_letPass_L67 (N : Nat) (k : Nat) : Nat → Int32 → Mem → Option (Int32 × Mem)
  | 0, _, _ => none
  | n + 1, x2, M => (if (M 1 7) ≤ x2 then some (x2, M) else if inb x2 8 = true then (if (M k 2) < (M 4 x2.toNatClampNeg) then f_X1_letPass_L67 N k n (x2 + (1 : Int32)) M else f_X1_letPass_L67 N k n (x2 + (1 : Int32)) (up2 M k 1 ((M k 1) &&& (((1 : Int32) <<< (x2 &&& 31)) ^^^ (-1 : Int32))))) else none)
def f_X1_letPass (N : Nat) (M : Mem) (k : Nat) (x1 : Int32) : Option Mem := (f_X1_letPass_L2 N k x1 N (0 : Int32) M).bind fun o2 => (f_X1_letPass_L67 N k N (0 : Int32) o2.2).bind fun o67 => some o67.2
set_option maxHeartbeats 4000000 in
set_option maxRecDepth 100000 in
theorem g_X1_letPass_L2 {X : Cx} {F : Fx} (hS : SC X) (hF : FK X F cX1_letPass RX1 3 1) (N : Nat) (k : Nat) (x1 : Int32) (hk : ev k) : ∀ (n : Nat) (x2 : Int32) (M : Mem) (o : Int32 × Mem), f_X1_letPass_L2 N k x1 n x2 M = some o → G X F 65 [some (.ref k), none, none] [] o.2 → G X F 2 [some (.ref k), some (.int x1), some (.int x2)] [] M := by
  intro n
  induction n with
  | zero =>
    intro x2 M o h K
    cases h
  | succ n ih =>
    intro x2 M o h K
    rw [f_X1_letPass_L2] at h
    refine g_iload_n hF (dck_at tX1_letPass 2 rfl) rfl ?_
    refine g_iload_n hF (dck_at tX1_letPass 3 rfl) rfl ?_
    refine g_icmp_ge hF 65 (dck_at tX1_letPass 4 rfl) (by decide) (fun hc4 => ?_) (fun hc4 => ?_)
    · replace h := ite_t hc4 h
      refine g_msk [true, false, false] (L' := [some (.ref k), none, none]) rfl ?_
      cases h
      exact K
    · replace h := ite_f hc4 h
      refine g_aload_n hF (dck_at tX1_letPass 5 rfl) rfl ?_
      refine g_dup hF (dck_at tX1_letPass 6 rfl) rfl ?_
      refine gf_X1_50 hF (ev_m hS hk) (ev_kd hk) (ev_ln hk) (dck_at tX1_letPass 7 rfl) ?_
      refine g_aload_n hF (dck_at tX1_letPass 8 rfl) rfl ?_
      refine gf_X1_37 hF (ev_m hS hk) (ev_kd hk) (ev_ln hk) (dck_at tX1_letPass 9 rfl) ?_
      refine g_aload_n hF (dck_at tX1_letPass 10 rfl) rfl ?_
      show G X F 17 _ _ _
      refine gf_X1_15 hF (ev_m hS hk) (ev_kd hk) (ev_ln hk) (dck_at tX1_letPass 11 rfl) ?_
      refine gf_X1_142 hF (hS 1 (by decide)) kdc_1 lnc_1 (dck_at tX1_letPass 12 rfl) ?_
      have K45 : G X F 45 [some (.ref k), some (.int x1), some (.int x2)] [.int (if (M k 2) < (M 1 10) then (M 1 11) else ((2 : Int32) * (M 1 11))), .int (M k 6), .ref k] M := by
        refine g_iadd hF (dck_at tX1_letPass 23 rfl) ?_
        refine pf_X1_50 hF (ev_m hS hk) (ev_kd hk) (ev_ln hk) (dck_at tX1_letPass 24 rfl) ?_
        refine g_aload_n hF (dck_at tX1_letPass 25 rfl) rfl ?_
        refine g_dup hF (dck_at tX1_letPass 26 rfl) rfl ?_
        refine gf_X1_37 hF (ev_m hS hk) (ev_kd hk) (ev_ln hk) (dck_at tX1_letPass 27 rfl) ?_
        refine g_iconst (v := 1) hF (dck_at tX1_letPass 28 rfl) (by decide) ?_
        show G X F 55 _ _ _
        refine g_iadd hF (dck_at tX1_letPass 29 rfl) ?_
        refine pf_X1_37 hF (ev_m hS hk) (ev_kd hk) (ev_ln hk) (dck_at tX1_letPass 30 rfl) ?_
        refine g_iinc (v := 1) (L' := [some (.ref k), some (.int x1), some (.int (x2 + (1 : Int32)))]) hF (dck_at tX1_letPass 31 rfl) rfl (by decide) rfl ?_
        refine g_goto hF 2 (dck_at tX1_letPass 32 rfl) (by decide) ?_
        exact ih _ _ _ h K
      refine g_icmp_lt hF 38 (dck_at tX1_letPass 13 rfl) (by decide) (fun hc23 => ?_) (fun hc23 => ?_)
      · refine g_aload_n hF (dck_at tX1_letPass 20 rfl) rfl ?_
        refine gf_X1_15 hF (ev_m hS hk) (ev_kd hk) (ev_ln hk) (dck_at tX1_letPass 21 rfl) ?_
        refine gf_X1_145 hF (hS 1 (by decide)) kdc_1 lnc_1 (dck_at tX1_letPass 22 rfl) ?_
        simp only [if_pos hc23] at K45
        exact K45
      · refine g_iconst (v := 2) hF (dck_at tX1_letPass 14 rfl) (by decide) ?_
        refine g_aload_n hF (dck_at tX1_letPass 15 rfl) rfl ?_
        refine gf_X1_15 hF (ev_m hS hk) (ev_kd hk) (ev_ln hk) (dck_at tX1_letPass 16 rfl) ?_
        refine gf_X1_145 hF (hS 1 (by decide)) kdc_1 lnc_1 (dck_at tX1_letPass 17 rfl) ?_
        refine g_imul hF (dck_at tX1_letPass 18 rfl) ?_
        refine g_goto hF 45 (dck_at tX1_letPass 19 rfl) (by decide) ?_
        simp only [if_neg hc23] at K45
        exact K45
set_option maxHeartbeats 4000000 in
set_option maxRecDepth 100000 in
theorem g_X1_letPass_L67 {X : Cx} {F : Fx} (hS : SC X) (hF : FK X F cX1_letPass RX1 3 1) (N : Nat) (k : Nat) (hk : ev k) : ∀ (n : Nat) (x2 : Int32) (M : Mem) (o : Int32 × Mem), f_X1_letPass_L67 N k n x2 M = some o → G X F 114 [none, none, none] [] o.2 → G X F 67 [some (.ref k), none, some (.int x2)] [] M := by
  intro n
  induction n with
  | zero =>
    intro x2 M o h K
    cases h
  | succ n ih =>
    intro x2 M o h K
    rw [f_X1_letPass_L67] at h
    refine g_iload_n hF (dck_at tX1_letPass 35 rfl) rfl ?_
    refine g_aload_n hF (dck_at tX1_letPass 36 rfl) rfl ?_
    refine gf_X1_15 hF (ev_m hS hk) (ev_kd hk) (ev_ln hk) (dck_at tX1_letPass 37 rfl) ?_
    refine gf_X1_30 hF (hS 1 (by decide)) kdc_1 lnc_1 (dck_at tX1_letPass 38 rfl) ?_
    refine g_icmp_ge hF 114 (dck_at tX1_letPass 39 rfl) (by decide) (fun hc75 => ?_) (fun hc75 => ?_)
    · replace h := ite_t hc75 h
      refine g_msk [false, true, false] (L' := [none, none, none]) rfl ?_
      cases h
      exact K
    · replace h := ite_f hc75 h
      refine g_aload_n hF (dck_at tX1_letPass 40 rfl) rfl ?_
      refine gf_X1_15 hF (ev_m hS hk) (ev_kd hk) (ev_ln hk) (dck_at tX1_letPass 41 rfl) ?_
      refine gf_X1_148 hF (hS 1 (by decide)) kdc_1 lnc_1 (t := 4) rfl (dck_at tX1_letPass 42 rfl) ?_
      refine g_iload_n hF (dck_at tX1_letPass 43 rfl) rfl ?_
      obtain ⟨hg86, h⟩ := gd h
      refine g_ia hF (hS 4 (by decide)) kdc_4 lnc_4 hg86 (dck_at tX1_letPass 44 rfl) ?_
      refine g_aload_n hF (dck_at tX1_letPass 45 rfl) rfl ?_
      show G X F 88 _ _ _
      refine gf_X1_37 hF (ev_m hS hk) (ev_kd hk) (ev_ln hk) (dck_at tX1_letPass 46 rfl) ?_
      refine g_icmp_gt hF 108 (dck_at tX1_letPass 47 rfl) (by decide) (fun hc91 => ?_) (fun hc91 => ?_)
      · replace h := ite_t hc91 h
        refine g_iinc (v := 1) (L' := [some (.ref k), none, some (.int (x2 + (1 : Int32)))]) hF (dck_at tX1_letPass 58 rfl) rfl (by decide) rfl ?_
        refine g_goto hF 67 (dck_at tX1_letPass 59 rfl) (by decide) ?_
        exact ih _ _ _ h K
      · replace h := ite_f hc91 h
        refine g_aload_n hF (dck_at tX1_letPass 48 rfl) rfl ?_
        refine g_dup hF (dck_at tX1_letPass 49 rfl) rfl ?_
        refine gf_X1_34 hF (ev_m hS hk) (ev_kd hk) (ev_ln hk) (dck_at tX1_letPass 50 rfl) ?_
        refine g_iconst (v := 1) hF (dck_at tX1_letPass 51 rfl) (by decide) ?_
        refine g_iload_n hF (dck_at tX1_letPass 52 rfl) rfl ?_
        refine g_ishl hF (dck_at tX1_letPass 53 rfl) ?_
        show G X F 102 _ _ _
        refine g_iconst (v := -1) hF (dck_at tX1_letPass 54 rfl) (by decide) ?_
        refine g_ixor hF (dck_at tX1_letPass 55 rfl) ?_
        refine g_iand hF (dck_at tX1_letPass 56 rfl) ?_
        refine pf_X1_34 hF (ev_m hS hk) (ev_kd hk) (ev_ln hk) (dck_at tX1_letPass 57 rfl) ?_
        refine g_iinc (v := 1) (L' := [some (.ref k), none, some (.int (x2 + (1 : Int32)))]) hF (dck_at tX1_letPass 58 rfl) rfl (by decide) rfl ?_
        refine g_goto hF 67 (dck_at tX1_letPass 59 rfl) (by decide) ?_
        exact ih _ _ _ h K
set_option maxHeartbeats 4000000 in
set_option maxRecDepth 100000 in
theorem c_X1_letPass {X : Cx} {l : Launch} (hX : CxOk X) (hS : SC X) {N : Nat} {M : Mem} {k : Nat} {x1 : Int32} (hk : ev k) {M' : Mem} (h : f_X1_letPass N M k x1 = some M') : Ctr X l yX1_letPass cX1_letPass 3 none 1 [.ref k, .int x1] M none M' := by
  refine Ctr.ofG (L := [some (.ref k), some (.int x1), none]) hX (by decide) (Nat.le_of_ble_eq_true rfl) rfl (fun F hF hl hR => ?_)
  subst hl
  unfold f_X1_letPass at h
  refine g_iconst (v := 0) hF (dck_at tX1_letPass 0 rfl) (by decide) ?_
  refine g_istore_n (L' := [some (.ref k), some (.int x1), some (.int (0 : Int32))]) hF (dck_at tX1_letPass 1 rfl) (Nat.le_of_ble_eq_true rfl) rfl ?_
  obtain ⟨o2, e2, h⟩ := bd h
  refine g_X1_letPass_L2 hS hF N _ _ hk N _ _ _ e2 ?_
  refine g_iconst (v := 0) hF (dck_at tX1_letPass 33 rfl) (by decide) ?_
  refine g_istore_n (L' := [some (.ref k), none, some (.int (0 : Int32))]) hF (dck_at tX1_letPass 34 rfl) (Nat.le_of_ble_eq_true rfl) rfl ?_
  obtain ⟨o67, e67, h⟩ := bd h
  refine g_X1_letPass_L67 hS hF N _ hk N _ _ _ e67 ?_
  cases h
  exact g_vret hF hR (dck_at tX1_letPass 60 rfl)

def tbX1_waitOne : List (Nat × Instr × Nat) := [(0, .aload_n 0, 1), (1, .invokevirtual 109, 3), (4, .istore_n 1, 1), (5, .iconst 0, 1), (6, .istore_n 2, 1), (7, .iload_n 2, 1), (8, .aload_n 0, 1), (9, .getfield 15, 3), (12, .getfield 30, 3), (15, .if_icmp .ge 24, 3), (18, .aload_n 0, 1), (19, .getfield 9, 3), (22, .iload_n 2, 1), (23, .dup2, 1), (24, .iaload, 1), (25, .aload_n 0, 1), (26, .iload_n 2, 1), (27, .iload_n 1, 1), (28, .invokevirtual 112, 3), (31, .isub, 1), (32, .iastore, 1), (33, .iinc 2 1, 3), (36, .goto (-29), 3), (39, .aload_n 0, 1), (40, .iconst 1, 1), (41, .invokevirtual 115, 3), (44, .return_, 1)]
theorem tX1_waitOne : dck cX1_waitOne tbX1_waitOne = true := by decide +kernel
def f_X1_waitOne_L7 (N : Nat) (k : Nat) (x1 : Int32) : Nat → Int32 → Mem → Option (Int32 × Mem)
  | 0, _, _ => none
  | n + 1, x2, M => (if (M 1 7) ≤ x2 then some (x2, M) else if inb x2 8 = true then (f_X1_lessByWait N M k x2 x1).bind fun q28 => if inb x2 8 = true then f_X1_waitOne_L7 N k x1 n (x2 + (1 : Int32)) (up2 M (k + 1) x2.toNatClampNeg ((M (k + 1) x2.toNatClampNeg) - q28)) else none else none)
def f_X1_waitOne (N : Nat) (M : Mem) (k : Nat) : Option Mem := (f_X1_whoClaps N M k).bind fun q1 => (f_X1_waitOne_L7 N k q1 N (0 : Int32) M).bind fun o7 => (f_X1_letPass N o7.2 k (1 : Int32)).bind fun q41 => some q41
set_option maxHeartbeats 4000000 in
set_option maxRecDepth 100000 in
theorem g_X1_waitOne_L7 {X : Cx} {F : Fx} (hS : SC X) (hF : FK X F cX1_waitOne RX1 3 3) (N : Nat) (k : Nat) (x1 : Int32) (hk : ev k) : ∀ (n : Nat) (x2 : Int32) (M : Mem) (o : Int32 × Mem), f_X1_waitOne_L7 N k x1 n x2 M = some o → G X F 39 [some (.ref k), none, none] [] o.2 → G X F 7 [some (.ref k), some (.int x1), some (.int x2)] [] M := by
  intro n
  induction n with
  | zero =>
    intro x2 M o h K
    cases h
  | succ n ih =>
    intro x2 M o h K
    rw [f_X1_waitOne_L7] at h
    refine g_iload_n hF (dck_at tX1_waitOne 5 rfl) rfl ?_
    refine g_aload_n hF (dck_at tX1_waitOne 6 rfl) rfl ?_
    refine gf_X1_15 hF (ev_m hS hk) (ev_kd hk) (ev_ln hk) (dck_at tX1_waitOne 7 rfl) ?_
    refine gf_X1_30 hF (hS 1 (by decide)) kdc_1 lnc_1 (dck_at tX1_waitOne 8 rfl) ?_
    refine g_icmp_ge hF 39 (dck_at tX1_waitOne 9 rfl) (by decide) (fun hc15 => ?_) (fun hc15 => ?_)
    · replace h := ite_t hc15 h
      refine g_msk [true, false, false] (L' := [some (.ref k), none, none]) rfl ?_
      cases h
      exact K
    · replace h := ite_f hc15 h
      refine g_aload_n hF (dck_at tX1_waitOne 10 rfl) rfl ?_
      refine gf_X1_9 hF (ev_m hS hk) (ev_kd hk) (ev_ln hk) (t := (k + 1)) rfl (dck_at tX1_waitOne 11 rfl) ?_
      refine g_iload_n hF (dck_at tX1_waitOne 12 rfl) rfl ?_
      refine g_dup2 hF (dck_at tX1_waitOne 13 rfl) rfl rfl ?_
      obtain ⟨hg24, h⟩ := gd h
      refine g_ia hF (ev_mz hS hk) (ev_kz hk) (ev_lz hk) hg24 (dck_at tX1_waitOne 14 rfl) ?_
      refine g_aload_n hF (dck_at tX1_waitOne 15 rfl) rfl ?_
      show G X F 26 _ _ _
      refine g_iload_n hF (dck_at tX1_waitOne 16 rfl) rfl ?_
      refine g_iload_n hF (dck_at tX1_waitOne 17 rfl) rfl ?_
      obtain ⟨q28, e28, h⟩ := bd h
      refine g_callV hF (as := [.int x2, .int x1]) (k := k) rfl (by decide) wm_X1_112 wi_X1_lessByWait we_X1_lessByWait wc_X1_lessByWait wn_X1 hyX1_lessByWait (by decide) (ev_m hS hk) (ev_kd hk) (c_X1_lessByWait hF.2.2.2.2.2.2.2.1 hS hk e28) (by decide) rfl rfl rfl rfl (dck_at tX1_waitOne 18 rfl) ?_
      show G X F 31 _ [.int q28, .int (M (k + 1) x2.toNatClampNeg), .int x2, .ref (k + 1)] M
      refine g_isub hF (dck_at tX1_waitOne 19 rfl) ?_
      obtain ⟨hg32, h⟩ := gd h
      refine g_is hF (ev_mz hS hk) (ev_kz hk) (ev_lz hk) hg32 (dck_at tX1_waitOne 20 rfl) ?_
      refine g_iinc (v := 1) (L' := [some (.ref k), some (.int x1), some (.int (x2 + (1 : Int32)))]) hF (dck_at tX1_waitOne 21 rfl) rfl (by decide) rfl ?_
      refine g_goto hF 7 (dck_at tX1_waitOne 22 rfl) (by decide) ?_
      exact ih _ _ _ h K
set_option maxHeartbeats 4000000 in
set_option maxRecDepth 100000 in
theorem c_X1_waitOne {X : Cx} {l : Launch} (hX : CxOk X) (hS : SC X) {N : Nat} {M : Mem} {k : Nat} (hk : ev k) {M' : Mem} (h : f_X1_waitOne N M k = some M') : Ctr X l yX1_waitOne cX1_waitOne 3 none 3 [.ref k] M none M' := by
  refine Ctr.ofG (L := [some (.ref k), none, none]) hX (by decide) (Nat.le_of_ble_eq_true rfl) rfl (fun F hF hl hR => ?_)
  subst hl
  unfold f_X1_waitOne at h
  refine g_aload_n hF (dck_at tX1_waitOne 0 rfl) rfl ?_
  obtain ⟨q1, e1, h⟩ := bd h
  refine g_callV hF (as := []) (k := k) rfl (by decide) wm_X1_109 wi_X1_whoClaps we_X1_whoClaps wc_X1_whoClaps wn_X1 hyX1_whoClaps (by decide) (ev_m hS hk) (ev_kd hk) (c_X1_whoClaps hF.2.2.2.2.2.2.2.1 hS hk e1) (by decide) rfl rfl rfl rfl (dck_at tX1_waitOne 1 rfl) ?_
  show G X F 4 _ [.int q1] M
  refine g_istore_n (L' := [some (.ref k), some (.int q1), none]) hF (dck_at tX1_waitOne 2 rfl) (Nat.le_of_ble_eq_true rfl) rfl ?_
  refine g_iconst (v := 0) hF (dck_at tX1_waitOne 3 rfl) (by decide) ?_
  refine g_istore_n (L' := [some (.ref k), some (.int q1), some (.int (0 : Int32))]) hF (dck_at tX1_waitOne 4 rfl) (Nat.le_of_ble_eq_true rfl) rfl ?_
  obtain ⟨o7, e7, h⟩ := bd h
  refine g_X1_waitOne_L7 hS hF N _ _ hk N _ _ _ e7 ?_
  refine g_aload_n hF (dck_at tX1_waitOne 23 rfl) rfl ?_
  refine g_iconst (v := 1) hF (dck_at tX1_waitOne 24 rfl) (by decide) ?_
  obtain ⟨q41, e41, h⟩ := bd h
  refine g_callV hF (as := [.int (1 : Int32)]) (k := k) rfl (by decide) wm_X1_115 wi_X1_letPass we_X1_letPass wc_X1_letPass wn_X1 hyX1_letPass (by decide) (ev_m hS hk) (ev_kd hk) (c_X1_letPass hF.2.2.2.2.2.2.2.1 hS hk e41) (by decide) rfl rfl rfl rfl (dck_at tX1_waitOne 25 rfl) ?_
  show G X F 44 _ [] q41
  cases h
  exact g_vret hF hR (dck_at tX1_waitOne 26 rfl)

def tbX1_bowOnce : List (Nat × Instr × Nat) := [(0, .aload_n 0, 1), (1, .invokevirtual 118, 3), (4, .istore_n 1, 1), (5, .iconst 0, 1), (6, .istore_n 2, 1), (7, .iload_n 2, 1), (8, .aload_n 0, 1), (9, .getfield 15, 3), (12, .getfield 30, 3), (15, .if_icmp .ge 36, 3), (18, .aload_n 0, 1), (19, .iload_n 2, 1), (20, .invokevirtual 60, 3), (23, .ifCond .eq 22, 3), (26, .aload_n 0, 1), (27, .getfield 9, 3), (30, .iload_n 2, 1), (31, .bipush 40, 2), (33, .aload_n 0, 1), (34, .getfield 9, 3), (37, .iload_n 2, 1), (38, .iaload, 1), (39, .iload_n 1, 1), (40, .iadd, 1), (41, .invokestatic 74, 3), (44, .iastore, 1), (45, .iinc 2 1, 3), (48, .goto (-41), 3), (51, .aload_n 0, 1), (52, .dup, 1), (53, .getfield 47, 3), (56, .iconst 1, 1), (57, .iadd, 1), (58, .putfield 47, 3), (61, .return_, 1)]
theorem tX1_bowOnce : dck cX1_bowOnce tbX1_bowOnce = true := by decide +kernel
def f_X1_bowOnce_L7 (N : Nat) (k : Nat) (x1 : Int32) : Nat → Int32 → Mem → Option (Int32 × Mem)
  | 0, _, _ => none
  | n + 1, x2, M => (if (M 1 7) ≤ x2 then some (x2, M) else (f_X1_isClapping N M k x2).bind fun q20 => (if q20 = 0 then f_X1_bowOnce_L7 N k x1 n (x2 + (1 : Int32)) M else if inb x2 8 = true then if inb x2 8 = true then f_X1_bowOnce_L7 N k x1 n (x2 + (1 : Int32)) (up2 M (k + 1) x2.toNatClampNeg (if ((M (k + 1) x2.toNatClampNeg) + x1) < (40 : Int32) then (M (k + 1) x2.toNatClampNeg) + x1 else (40 : Int32))) else none else none))
def f_X1_bowOnce (N : Nat) (M : Mem) (k : Nat) : Option Mem := (f_X1_moreByBow N M k).bind fun q1 => (f_X1_bowOnce_L7 N k q1 N (0 : Int32) M).bind fun o7 => some (up2 o7.2 k 5 ((o7.2 k 5) + (1 : Int32)))
set_option maxHeartbeats 4000000 in
set_option maxRecDepth 100000 in
theorem g_X1_bowOnce_L7 {X : Cx} {F : Fx} (hS : SC X) (hF : FK X F cX1_bowOnce RX1 3 3) (N : Nat) (k : Nat) (x1 : Int32) (hk : ev k) : ∀ (n : Nat) (x2 : Int32) (M : Mem) (o : Int32 × Mem), f_X1_bowOnce_L7 N k x1 n x2 M = some o → G X F 51 [some (.ref k), none, none] [] o.2 → G X F 7 [some (.ref k), some (.int x1), some (.int x2)] [] M := by
  intro n
  induction n with
  | zero =>
    intro x2 M o h K
    cases h
  | succ n ih =>
    intro x2 M o h K
    rw [f_X1_bowOnce_L7] at h
    refine g_iload_n hF (dck_at tX1_bowOnce 5 rfl) rfl ?_
    refine g_aload_n hF (dck_at tX1_bowOnce 6 rfl) rfl ?_
    refine gf_X1_15 hF (ev_m hS hk) (ev_kd hk) (ev_ln hk) (dck_at tX1_bowOnce 7 rfl) ?_
    refine gf_X1_30 hF (hS 1 (by decide)) kdc_1 lnc_1 (dck_at tX1_bowOnce 8 rfl) ?_
    refine g_icmp_ge hF 51 (dck_at tX1_bowOnce 9 rfl) (by decide) (fun hc15 => ?_) (fun hc15 => ?_)
    · replace h := ite_t hc15 h
      refine g_msk [true, false, false] (L' := [some (.ref k), none, none]) rfl ?_
      cases h
      exact K
    · replace h := ite_f hc15 h
      refine g_aload_n hF (dck_at tX1_bowOnce 10 rfl) rfl ?_
      refine g_iload_n hF (dck_at tX1_bowOnce 11 rfl) rfl ?_
      obtain ⟨q20, e20, h⟩ := bd h
      refine g_callV hF (as := [.int x2]) (k := k) rfl (by decide) wm_X1_60 wi_X1_isClapping we_X1_isClapping wc_X1_isClapping wn_X1 hyX1_isClapping (by decide) (ev_m hS hk) (ev_kd hk) (c_X1_isClapping hF.2.2.2.2.2.2.2.1 hS hk e20) (by decide) rfl rfl rfl rfl (dck_at tX1_bowOnce 12 rfl) ?_
      show G X F 23 _ [.int q20] M
      refine g_if_eq hF 45 (dck_at tX1_bowOnce 13 rfl) (by decide) (fun hc23 => ?_) (fun hc23 => ?_)
      · replace h := ite_t hc23 h
        refine g_iinc (v := 1) (L' := [some (.ref k), some (.int x1), some (.int (x2 + (1 : Int32)))]) hF (dck_at tX1_bowOnce 26 rfl) rfl (by decide) rfl ?_
        refine g_goto hF 7 (dck_at tX1_bowOnce 27 rfl) (by decide) ?_
        exact ih _ _ _ h K
      · replace h := ite_f hc23 h
        refine g_aload_n hF (dck_at tX1_bowOnce 14 rfl) rfl ?_
        refine gf_X1_9 hF (ev_m hS hk) (ev_kd hk) (ev_ln hk) (t := (k + 1)) rfl (dck_at tX1_bowOnce 15 rfl) ?_
        refine g_iload_n hF (dck_at tX1_bowOnce 16 rfl) rfl ?_
        refine g_bipush (v := 40) hF (dck_at tX1_bowOnce 17 rfl) (by decide) ?_
        refine g_aload_n hF (dck_at tX1_bowOnce 18 rfl) rfl ?_
        refine gf_X1_9 hF (ev_m hS hk) (ev_kd hk) (ev_ln hk) (t := (k + 1)) rfl (dck_at tX1_bowOnce 19 rfl) ?_
        show G X F 37 _ _ _
        refine g_iload_n hF (dck_at tX1_bowOnce 20 rfl) rfl ?_
        obtain ⟨hg38, h⟩ := gd h
        refine g_ia hF (ev_mz hS hk) (ev_kz hk) (ev_lz hk) hg38 (dck_at tX1_bowOnce 21 rfl) ?_
        refine g_iload_n hF (dck_at tX1_bowOnce 22 rfl) rfl ?_
        refine g_iadd hF (dck_at tX1_bowOnce 23 rfl) ?_
        refine g_mmin hF wm_X1_74 wt_min wn_J9 wc_min (by decide) rfl rfl (dck_at tX1_bowOnce 24 rfl) ?_
        obtain ⟨hg44, h⟩ := gd h
        refine g_is hF (ev_mz hS hk) (ev_kz hk) (ev_lz hk) hg44 (dck_at tX1_bowOnce 25 rfl) ?_
        refine g_iinc (v := 1) (L' := [some (.ref k), some (.int x1), some (.int (x2 + (1 : Int32)))]) hF (dck_at tX1_bowOnce 26 rfl) rfl (by decide) rfl ?_
        show G X F 48 _ _ _
        refine g_goto hF 7 (dck_at tX1_bowOnce 27 rfl) (by decide) ?_
        exact ih _ _ _ h K
set_option maxHeartbeats 4000000 in
set_option maxRecDepth 100000 in
theorem c_X1_bowOnce {X : Cx} {l : Launch} (hX : CxOk X) (hS : SC X) {N : Nat} {M : Mem} {k : Nat} (hk : ev k) {M' : Mem} (h : f_X1_bowOnce N M k = some M') : Ctr X l yX1_bowOnce cX1_bowOnce 3 none 3 [.ref k] M none M' := by
  refine Ctr.ofG (L := [some (.ref k), none, none]) hX (by decide) (Nat.le_of_ble_eq_true rfl) rfl (fun F hF hl hR => ?_)
  subst hl
  unfold f_X1_bowOnce at h
  refine g_aload_n hF (dck_at tX1_bowOnce 0 rfl) rfl ?_
  obtain ⟨q1, e1, h⟩ := bd h
  refine g_callV hF (as := []) (k := k) rfl (by decide) wm_X1_118 wi_X1_moreByBow we_X1_moreByBow wc_X1_moreByBow wn_X1 hyX1_moreByBow (by decide) (ev_m hS hk) (ev_kd hk) (c_X1_moreByBow hF.2.2.2.2.2.2.2.1 hS hk e1) (by decide) rfl rfl rfl rfl (dck_at tX1_bowOnce 1 rfl) ?_
  show G X F 4 _ [.int q1] M
  refine g_istore_n (L' := [some (.ref k), some (.int q1), none]) hF (dck_at tX1_bowOnce 2 rfl) (Nat.le_of_ble_eq_true rfl) rfl ?_
  refine g_iconst (v := 0) hF (dck_at tX1_bowOnce 3 rfl) (by decide) ?_
  refine g_istore_n (L' := [some (.ref k), some (.int q1), some (.int (0 : Int32))]) hF (dck_at tX1_bowOnce 4 rfl) (Nat.le_of_ble_eq_true rfl) rfl ?_
  obtain ⟨o7, e7, h⟩ := bd h
  refine g_X1_bowOnce_L7 hS hF N _ _ hk N _ _ _ e7 ?_
  refine g_aload_n hF (dck_at tX1_bowOnce 28 rfl) rfl ?_
  refine g_dup hF (dck_at tX1_bowOnce 29 rfl) rfl ?_
  refine gf_X1_47 hF (ev_m hS hk) (ev_kd hk) (ev_ln hk) (dck_at tX1_bowOnce 30 rfl) ?_
  refine g_iconst (v := 1) hF (dck_at tX1_bowOnce 31 rfl) (by decide) ?_
  refine g_iadd hF (dck_at tX1_bowOnce 32 rfl) ?_
  refine pf_X1_47 hF (ev_m hS hk) (ev_kd hk) (ev_ln hk) (dck_at tX1_bowOnce 33 rfl) ?_
  show G X F 61 _ _ _
  cases h
  exact g_vret hF hR (dck_at tX1_bowOnce 34 rfl)

def tbX6_zealBehind : List (Nat × Instr × Nat) := [(0, .iload_n 0, 1), (1, .iconst 1, 1), (2, .if_icmp .ne 7, 3), (5, .iload_n 1, 1), (6, .iconst 2, 1), (7, .idiv, 1), (8, .ireturn, 1), (9, .iload_n 0, 1), (10, .iconst 2, 1), (11, .if_icmp .ne 12, 3), (14, .bipush 40, 2), (16, .iload_n 1, 1), (17, .iconst 5, 1), (18, .iadd, 1), (19, .invokestatic 251, 3), (22, .ireturn, 1), (23, .iload_n 0, 1), (24, .iconst 3, 1), (25, .if_icmp .ne 10, 3), (28, .bipush 40, 2), (30, .iload_n 2, 1), (31, .invokestatic 251, 3), (34, .ireturn, 1), (35, .iload_n 1, 1), (36, .ifCond .le 14, 3), (39, .bipush 40, 2), (41, .iload_n 1, 1), (42, .iconst 2, 1), (43, .iadd, 1), (44, .invokestatic 251, 3), (47, .goto 4, 3), (50, .iload_n 1, 1), (51, .ireturn, 1)]
theorem tX6_zealBehind : dck cX6_zealBehind tbX6_zealBehind = true := by decide +kernel
def f_X6_zealBehind (N : Nat) (M : Mem) (x0 : Int32) (x1 : Int32) (x2 : Int32) : Option Int32 := (if x0 = (1 : Int32) then some (x1 / (2 : Int32)) else (if x0 = (2 : Int32) then some (if (x1 + (5 : Int32)) < (40 : Int32) then x1 + (5 : Int32) else (40 : Int32)) else (if x0 = (3 : Int32) then some (if x2 < (40 : Int32) then x2 else (40 : Int32)) else (if x1 ≤ 0 then some x1 else some (if (x1 + (2 : Int32)) < (40 : Int32) then x1 + (2 : Int32) else (40 : Int32))))))
set_option maxHeartbeats 4000000 in
set_option maxRecDepth 100000 in
theorem c_X6_zealBehind {X : Cx} {l : Launch} (hX : CxOk X) {N : Nat} {M : Mem} {x0 : Int32} {x1 : Int32} {x2 : Int32} {r : Int32} (h : f_X6_zealBehind N M x0 x1 x2 = some r) : Ctr X l yX6_zealBehind cX6_zealBehind 3 (some .int) 2 [.int x0, .int x1, .int x2] M (some (.int r)) M := by
  refine Ctr.ofG (L := [some (.int x0), some (.int x1), some (.int x2)]) hX (by decide) (Nat.le_of_ble_eq_true rfl) rfl (fun F hF hl hR => ?_)
  subst hl
  unfold f_X6_zealBehind at h
  refine g_iload_n hF (dck_at tX6_zealBehind 0 rfl) rfl ?_
  refine g_iconst (v := 1) hF (dck_at tX6_zealBehind 1 rfl) (by decide) ?_
  refine g_icmp_ne hF 9 (dck_at tX6_zealBehind 2 rfl) (by decide) (fun hc2 => ?_) (fun hc2 => ?_)
  · replace h := ite_f hc2 h
    refine g_iload_n hF (dck_at tX6_zealBehind 7 rfl) rfl ?_
    refine g_iconst (v := 2) hF (dck_at tX6_zealBehind 8 rfl) (by decide) ?_
    refine g_icmp_ne hF 23 (dck_at tX6_zealBehind 9 rfl) (by decide) (fun hc11 => ?_) (fun hc11 => ?_)
    · replace h := ite_f hc11 h
      refine g_iload_n hF (dck_at tX6_zealBehind 16 rfl) rfl ?_
      refine g_iconst (v := 3) hF (dck_at tX6_zealBehind 17 rfl) (by decide) ?_
      refine g_icmp_ne hF 35 (dck_at tX6_zealBehind 18 rfl) (by decide) (fun hc25 => ?_) (fun hc25 => ?_)
      · replace h := ite_f hc25 h
        refine g_iload_n hF (dck_at tX6_zealBehind 23 rfl) rfl ?_
        refine g_if_le hF 50 (dck_at tX6_zealBehind 24 rfl) (by decide) (fun hc36 => ?_) (fun hc36 => ?_)
        · replace h := ite_t hc36 h
          refine g_iload_n hF (dck_at tX6_zealBehind 31 rfl) rfl ?_
          cases h
          exact g_iret hF hR (dck_at tX6_zealBehind 32 rfl)
        · replace h := ite_f hc36 h
          refine g_bipush (v := 40) hF (dck_at tX6_zealBehind 25 rfl) (by decide) ?_
          refine g_iload_n hF (dck_at tX6_zealBehind 26 rfl) rfl ?_
          refine g_iconst (v := 2) hF (dck_at tX6_zealBehind 27 rfl) (by decide) ?_
          refine g_iadd hF (dck_at tX6_zealBehind 28 rfl) ?_
          refine g_mmin hF wm_X6_251 wt_min wn_J9 wc_min (by decide) rfl rfl (dck_at tX6_zealBehind 29 rfl) ?_
          refine g_goto hF 51 (dck_at tX6_zealBehind 30 rfl) (by decide) ?_
          cases h
          exact g_iret hF hR (dck_at tX6_zealBehind 32 rfl)
      · replace h := ite_t hc25 h
        refine g_bipush (v := 40) hF (dck_at tX6_zealBehind 19 rfl) (by decide) ?_
        refine g_iload_n hF (dck_at tX6_zealBehind 20 rfl) rfl ?_
        refine g_mmin hF wm_X6_251 wt_min wn_J9 wc_min (by decide) rfl rfl (dck_at tX6_zealBehind 21 rfl) ?_
        cases h
        exact g_iret hF hR (dck_at tX6_zealBehind 22 rfl)
    · replace h := ite_t hc11 h
      refine g_bipush (v := 40) hF (dck_at tX6_zealBehind 10 rfl) (by decide) ?_
      refine g_iload_n hF (dck_at tX6_zealBehind 11 rfl) rfl ?_
      refine g_iconst (v := 5) hF (dck_at tX6_zealBehind 12 rfl) (by decide) ?_
      refine g_iadd hF (dck_at tX6_zealBehind 13 rfl) ?_
      refine g_mmin hF wm_X6_251 wt_min wn_J9 wc_min (by decide) rfl rfl (dck_at tX6_zealBehind 14 rfl) ?_
      cases h
      exact g_iret hF hR (dck_at tX6_zealBehind 15 rfl)
  · replace h := ite_t hc2 h
    refine g_iload_n hF (dck_at tX6_zealBehind 3 rfl) rfl ?_
    refine g_iconst (v := 2) hF (dck_at tX6_zealBehind 4 rfl) (by decide) ?_
    refine g_idiv hF (dck_at tX6_zealBehind 5 rfl) (by decide) ?_
    cases h
    exact g_iret hF hR (dck_at tX6_zealBehind 6 rfl)

def tbJ6_bitCount_0f7a4 : List (Nat × Instr × Nat) := [(0, .iload_n 0, 1), (1, .iload_n 0, 1), (2, .iconst 1, 1), (3, .iushr, 1), (4, .ldc_w 265, 3), (7, .iand, 1), (8, .isub, 1), (9, .istore_n 0, 1), (10, .iload_n 0, 1), (11, .ldc_w 266, 3), (14, .iand, 1), (15, .iload_n 0, 1), (16, .iconst 2, 1), (17, .iushr, 1), (18, .ldc_w 266, 3), (21, .iand, 1), (22, .iadd, 1), (23, .istore_n 0, 1), (24, .iload_n 0, 1), (25, .iload_n 0, 1), (26, .iconst 4, 1), (27, .iushr, 1), (28, .iadd, 1), (29, .ldc_w 267, 3), (32, .iand, 1), (33, .istore_n 0, 1), (34, .iload_n 0, 1), (35, .iload_n 0, 1), (36, .bipush 8, 2), (38, .iushr, 1), (39, .iadd, 1), (40, .istore_n 0, 1), (41, .iload_n 0, 1), (42, .iload_n 0, 1), (43, .bipush 16, 2), (45, .iushr, 1), (46, .iadd, 1), (47, .istore_n 0, 1), (48, .iload_n 0, 1), (49, .bipush 63, 2), (51, .iand, 1), (52, .ireturn, 1)]
theorem tJ6_bitCount_0f7a4 : dck cJ6_bitCount_0f7a4 tbJ6_bitCount_0f7a4 = true := by decide +kernel
def f_J6_bitCount_0f7a4 (N : Nat) (M : Mem) (x0 : Int32) : Option Int32 := some ((((((((x0 - (((x0.toUInt32 >>> ((1 : Int32).toUInt32 &&& Int32.toUInt32 31)).toInt32) &&& (1431655765 : Int32))) &&& (858993459 : Int32)) + ((((x0 - (((x0.toUInt32 >>> ((1 : Int32).toUInt32 &&& Int32.toUInt32 31)).toInt32) &&& (1431655765 : Int32))).toUInt32 >>> ((2 : Int32).toUInt32 &&& Int32.toUInt32 31)).toInt32) &&& (858993459 : Int32))) + (((((x0 - (((x0.toUInt32 >>> ((1 : Int32).toUInt32 &&& Int32.toUInt32 31)).toInt32) &&& (1431655765 : Int32))) &&& (858993459 : Int32)) + ((((x0 - (((x0.toUInt32 >>> ((1 : Int32).toUInt32 &&& Int32.toUInt32 31)).toInt32) &&& (1431655765 : Int32))).toUInt32 >>> ((2 : Int32).toUInt32 &&& Int32.toUInt32 31)).toInt32) &&& (858993459 : Int32))).toUInt32 >>> ((4 : Int32).toUInt32 &&& Int32.toUInt32 31)).toInt32)) &&& (252645135 : Int32)) + (((((((x0 - (((x0.toUInt32 >>> ((1 : Int32).toUInt32 &&& Int32.toUInt32 31)).toInt32) &&& (1431655765 : Int32))) &&& (858993459 : Int32)) + ((((x0 - (((x0.toUInt32 >>> ((1 : Int32).toUInt32 &&& Int32.toUInt32 31)).toInt32) &&& (1431655765 : Int32))).toUInt32 >>> ((2 : Int32).toUInt32 &&& Int32.toUInt32 31)).toInt32) &&& (858993459 : Int32))) + (((((x0 - (((x0.toUInt32 >>> ((1 : Int32).toUInt32 &&& Int32.toUInt32 31)).toInt32) &&& (1431655765 : Int32))) &&& (858993459 : Int32)) + ((((x0 - (((x0.toUInt32 >>> ((1 : Int32).toUInt32 &&& Int32.toUInt32 31)).toInt32) &&& (1431655765 : Int32))).toUInt32 >>> ((2 : Int32).toUInt32 &&& Int32.toUInt32 31)).toInt32) &&& (858993459 : Int32))).toUInt32 >>> ((4 : Int32).toUInt32 &&& Int32.toUInt32 31)).toInt32)) &&& (252645135 : Int32)).toUInt32 >>> ((8 : Int32).toUInt32 &&& Int32.toUInt32 31)).toInt32)) + ((((((((x0 - (((x0.toUInt32 >>> ((1 : Int32).toUInt32 &&& Int32.toUInt32 31)).toInt32) &&& (1431655765 : Int32))) &&& (858993459 : Int32)) + ((((x0 - (((x0.toUInt32 >>> ((1 : Int32).toUInt32 &&& Int32.toUInt32 31)).toInt32) &&& (1431655765 : Int32))).toUInt32 >>> ((2 : Int32).toUInt32 &&& Int32.toUInt32 31)).toInt32) &&& (858993459 : Int32))) + (((((x0 - (((x0.toUInt32 >>> ((1 : Int32).toUInt32 &&& Int32.toUInt32 31)).toInt32) &&& (1431655765 : Int32))) &&& (858993459 : Int32)) + ((((x0 - (((x0.toUInt32 >>> ((1 : Int32).toUInt32 &&& Int32.toUInt32 31)).toInt32) &&& (1431655765 : Int32))).toUInt32 >>> ((2 : Int32).toUInt32 &&& Int32.toUInt32 31)).toInt32) &&& (858993459 : Int32))).toUInt32 >>> ((4 : Int32).toUInt32 &&& Int32.toUInt32 31)).toInt32)) &&& (252645135 : Int32)) + (((((((x0 - (((x0.toUInt32 >>> ((1 : Int32).toUInt32 &&& Int32.toUInt32 31)).toInt32) &&& (1431655765 : Int32))) &&& (858993459 : Int32)) + ((((x0 - (((x0.toUInt32 >>> ((1 : Int32).toUInt32 &&& Int32.toUInt32 31)).toInt32) &&& (1431655765 : Int32))).toUInt32 >>> ((2 : Int32).toUInt32 &&& Int32.toUInt32 31)).toInt32) &&& (858993459 : Int32))) + (((((x0 - (((x0.toUInt32 >>> ((1 : Int32).toUInt32 &&& Int32.toUInt32 31)).toInt32) &&& (1431655765 : Int32))) &&& (858993459 : Int32)) + ((((x0 - (((x0.toUInt32 >>> ((1 : Int32).toUInt32 &&& Int32.toUInt32 31)).toInt32) &&& (1431655765 : Int32))).toUInt32 >>> ((2 : Int32).toUInt32 &&& Int32.toUInt32 31)).toInt32) &&& (858993459 : Int32))).toUInt32 >>> ((4 : Int32).toUInt32 &&& Int32.toUInt32 31)).toInt32)) &&& (252645135 : Int32)).toUInt32 >>> ((8 : Int32).toUInt32 &&& Int32.toUInt32 31)).toInt32)).toUInt32 >>> ((16 : Int32).toUInt32 &&& Int32.toUInt32 31)).toInt32)) &&& (63 : Int32))
set_option maxHeartbeats 4000000 in
set_option maxRecDepth 100000 in
theorem c_J6_bitCount_0f7a4 {X : Cx} {l : Launch} (hX : CxOk X) {N : Nat} {M : Mem} {x0 : Int32} {r : Int32} (h : f_J6_bitCount_0f7a4 N M x0 = some r) : Ctr X l yJ6_bitCount_0f7a4 cJ6_bitCount_0f7a4 1 (some .int) 1 [.int x0] M (some (.int r)) M := by
  refine Ctr.ofG (L := [some (.int x0)]) hX (by decide) (Nat.le_of_ble_eq_true rfl) rfl (fun F hF hl hR => ?_)
  subst hl
  unfold f_J6_bitCount_0f7a4 at h
  refine g_iload_n hF (dck_at tJ6_bitCount_0f7a4 0 rfl) rfl ?_
  refine g_iload_n hF (dck_at tJ6_bitCount_0f7a4 1 rfl) rfl ?_
  refine g_iconst (v := 1) hF (dck_at tJ6_bitCount_0f7a4 2 rfl) (by decide) ?_
  refine g_iushr hF (dck_at tJ6_bitCount_0f7a4 3 rfl) ?_
  refine g_ldcw hF wk_J6_265 (dck_at tJ6_bitCount_0f7a4 4 rfl) ?_
  refine g_iand hF (dck_at tJ6_bitCount_0f7a4 5 rfl) ?_
  show G X F 8 _ _ _
  refine g_isub hF (dck_at tJ6_bitCount_0f7a4 6 rfl) ?_
  refine g_istore_n (L' := [some (.int (x0 - (((x0.toUInt32 >>> ((1 : Int32).toUInt32 &&& Int32.toUInt32 31)).toInt32) &&& (1431655765 : Int32))))]) hF (dck_at tJ6_bitCount_0f7a4 7 rfl) (Nat.le_of_ble_eq_true rfl) rfl ?_
  refine g_iload_n hF (dck_at tJ6_bitCount_0f7a4 8 rfl) rfl ?_
  refine g_ldcw hF wk_J6_266 (dck_at tJ6_bitCount_0f7a4 9 rfl) ?_
  refine g_iand hF (dck_at tJ6_bitCount_0f7a4 10 rfl) ?_
  refine g_iload_n hF (dck_at tJ6_bitCount_0f7a4 11 rfl) rfl ?_
  refine g_iconst (v := 2) hF (dck_at tJ6_bitCount_0f7a4 12 rfl) (by decide) ?_
  show G X F 17 _ _ _
  refine g_iushr hF (dck_at tJ6_bitCount_0f7a4 13 rfl) ?_
  refine g_ldcw hF wk_J6_266 (dck_at tJ6_bitCount_0f7a4 14 rfl) ?_
  refine g_iand hF (dck_at tJ6_bitCount_0f7a4 15 rfl) ?_
  refine g_iadd hF (dck_at tJ6_bitCount_0f7a4 16 rfl) ?_
  refine g_istore_n (L' := [some (.int (((x0 - (((x0.toUInt32 >>> ((1 : Int32).toUInt32 &&& Int32.toUInt32 31)).toInt32) &&& (1431655765 : Int32))) &&& (858993459 : Int32)) + ((((x0 - (((x0.toUInt32 >>> ((1 : Int32).toUInt32 &&& Int32.toUInt32 31)).toInt32) &&& (1431655765 : Int32))).toUInt32 >>> ((2 : Int32).toUInt32 &&& Int32.toUInt32 31)).toInt32) &&& (858993459 : Int32))))]) hF (dck_at tJ6_bitCount_0f7a4 17 rfl) (Nat.le_of_ble_eq_true rfl) rfl ?_
  refine g_iload_n hF (dck_at tJ6_bitCount_0f7a4 18 rfl) rfl ?_
  refine g_iload_n hF (dck_at tJ6_bitCount_0f7a4 19 rfl) rfl ?_
  show G X F 26 _ _ _
  refine g_iconst (v := 4) hF (dck_at tJ6_bitCount_0f7a4 20 rfl) (by decide) ?_
  refine g_iushr hF (dck_at tJ6_bitCount_0f7a4 21 rfl) ?_
  refine g_iadd hF (dck_at tJ6_bitCount_0f7a4 22 rfl) ?_
  refine g_ldcw hF wk_J6_267 (dck_at tJ6_bitCount_0f7a4 23 rfl) ?_
  refine g_iand hF (dck_at tJ6_bitCount_0f7a4 24 rfl) ?_
  refine g_istore_n (L' := [some (.int (((((x0 - (((x0.toUInt32 >>> ((1 : Int32).toUInt32 &&& Int32.toUInt32 31)).toInt32) &&& (1431655765 : Int32))) &&& (858993459 : Int32)) + ((((x0 - (((x0.toUInt32 >>> ((1 : Int32).toUInt32 &&& Int32.toUInt32 31)).toInt32) &&& (1431655765 : Int32))).toUInt32 >>> ((2 : Int32).toUInt32 &&& Int32.toUInt32 31)).toInt32) &&& (858993459 : Int32))) + (((((x0 - (((x0.toUInt32 >>> ((1 : Int32).toUInt32 &&& Int32.toUInt32 31)).toInt32) &&& (1431655765 : Int32))) &&& (858993459 : Int32)) + ((((x0 - (((x0.toUInt32 >>> ((1 : Int32).toUInt32 &&& Int32.toUInt32 31)).toInt32) &&& (1431655765 : Int32))).toUInt32 >>> ((2 : Int32).toUInt32 &&& Int32.toUInt32 31)).toInt32) &&& (858993459 : Int32))).toUInt32 >>> ((4 : Int32).toUInt32 &&& Int32.toUInt32 31)).toInt32)) &&& (252645135 : Int32)))]) hF (dck_at tJ6_bitCount_0f7a4 25 rfl) (Nat.le_of_ble_eq_true rfl) rfl ?_
  refine g_iload_n hF (dck_at tJ6_bitCount_0f7a4 26 rfl) rfl ?_
  show G X F 35 _ _ _
  refine g_iload_n hF (dck_at tJ6_bitCount_0f7a4 27 rfl) rfl ?_
  refine g_bipush (v := 8) hF (dck_at tJ6_bitCount_0f7a4 28 rfl) (by decide) ?_
  refine g_iushr hF (dck_at tJ6_bitCount_0f7a4 29 rfl) ?_
  refine g_iadd hF (dck_at tJ6_bitCount_0f7a4 30 rfl) ?_
  refine g_istore_n (L' := [some (.int ((((((x0 - (((x0.toUInt32 >>> ((1 : Int32).toUInt32 &&& Int32.toUInt32 31)).toInt32) &&& (1431655765 : Int32))) &&& (858993459 : Int32)) + ((((x0 - (((x0.toUInt32 >>> ((1 : Int32).toUInt32 &&& Int32.toUInt32 31)).toInt32) &&& (1431655765 : Int32))).toUInt32 >>> ((2 : Int32).toUInt32 &&& Int32.toUInt32 31)).toInt32) &&& (858993459 : Int32))) + (((((x0 - (((x0.toUInt32 >>> ((1 : Int32).toUInt32 &&& Int32.toUInt32 31)).toInt32) &&& (1431655765 : Int32))) &&& (858993459 : Int32)) + ((((x0 - (((x0.toUInt32 >>> ((1 : Int32).toUInt32 &&& Int32.toUInt32 31)).toInt32) &&& (1431655765 : Int32))).toUInt32 >>> ((2 : Int32).toUInt32 &&& Int32.toUInt32 31)).toInt32) &&& (858993459 : Int32))).toUInt32 >>> ((4 : Int32).toUInt32 &&& Int32.toUInt32 31)).toInt32)) &&& (252645135 : Int32)) + (((((((x0 - (((x0.toUInt32 >>> ((1 : Int32).toUInt32 &&& Int32.toUInt32 31)).toInt32) &&& (1431655765 : Int32))) &&& (858993459 : Int32)) + ((((x0 - (((x0.toUInt32 >>> ((1 : Int32).toUInt32 &&& Int32.toUInt32 31)).toInt32) &&& (1431655765 : Int32))).toUInt32 >>> ((2 : Int32).toUInt32 &&& Int32.toUInt32 31)).toInt32) &&& (858993459 : Int32))) + (((((x0 - (((x0.toUInt32 >>> ((1 : Int32).toUInt32 &&& Int32.toUInt32 31)).toInt32) &&& (1431655765 : Int32))) &&& (858993459 : Int32)) + ((((x0 - (((x0.toUInt32 >>> ((1 : Int32).toUInt32 &&& Int32.toUInt32 31)).toInt32) &&& (1431655765 : Int32))).toUInt32 >>> ((2 : Int32).toUInt32 &&& Int32.toUInt32 31)).toInt32) &&& (858993459 : Int32))).toUInt32 >>> ((4 : Int32).toUInt32 &&& Int32.toUInt32 31)).toInt32)) &&& (252645135 : Int32)).toUInt32 >>> ((8 : Int32).toUInt32 &&& Int32.toUInt32 31)).toInt32)))]) hF (dck_at tJ6_bitCount_0f7a4 31 rfl) (Nat.le_of_ble_eq_true rfl) rfl ?_
  refine g_iload_n hF (dck_at tJ6_bitCount_0f7a4 32 rfl) rfl ?_
  refine g_iload_n hF (dck_at tJ6_bitCount_0f7a4 33 rfl) rfl ?_
  show G X F 43 _ _ _
  refine g_bipush (v := 16) hF (dck_at tJ6_bitCount_0f7a4 34 rfl) (by decide) ?_
  refine g_iushr hF (dck_at tJ6_bitCount_0f7a4 35 rfl) ?_
  refine g_iadd hF (dck_at tJ6_bitCount_0f7a4 36 rfl) ?_
  refine g_istore_n (L' := [some (.int (((((((x0 - (((x0.toUInt32 >>> ((1 : Int32).toUInt32 &&& Int32.toUInt32 31)).toInt32) &&& (1431655765 : Int32))) &&& (858993459 : Int32)) + ((((x0 - (((x0.toUInt32 >>> ((1 : Int32).toUInt32 &&& Int32.toUInt32 31)).toInt32) &&& (1431655765 : Int32))).toUInt32 >>> ((2 : Int32).toUInt32 &&& Int32.toUInt32 31)).toInt32) &&& (858993459 : Int32))) + (((((x0 - (((x0.toUInt32 >>> ((1 : Int32).toUInt32 &&& Int32.toUInt32 31)).toInt32) &&& (1431655765 : Int32))) &&& (858993459 : Int32)) + ((((x0 - (((x0.toUInt32 >>> ((1 : Int32).toUInt32 &&& Int32.toUInt32 31)).toInt32) &&& (1431655765 : Int32))).toUInt32 >>> ((2 : Int32).toUInt32 &&& Int32.toUInt32 31)).toInt32) &&& (858993459 : Int32))).toUInt32 >>> ((4 : Int32).toUInt32 &&& Int32.toUInt32 31)).toInt32)) &&& (252645135 : Int32)) + (((((((x0 - (((x0.toUInt32 >>> ((1 : Int32).toUInt32 &&& Int32.toUInt32 31)).toInt32) &&& (1431655765 : Int32))) &&& (858993459 : Int32)) + ((((x0 - (((x0.toUInt32 >>> ((1 : Int32).toUInt32 &&& Int32.toUInt32 31)).toInt32) &&& (1431655765 : Int32))).toUInt32 >>> ((2 : Int32).toUInt32 &&& Int32.toUInt32 31)).toInt32) &&& (858993459 : Int32))) + (((((x0 - (((x0.toUInt32 >>> ((1 : Int32).toUInt32 &&& Int32.toUInt32 31)).toInt32) &&& (1431655765 : Int32))) &&& (858993459 : Int32)) + ((((x0 - (((x0.toUInt32 >>> ((1 : Int32).toUInt32 &&& Int32.toUInt32 31)).toInt32) &&& (1431655765 : Int32))).toUInt32 >>> ((2 : Int32).toUInt32 &&& Int32.toUInt32 31)).toInt32) &&& (858993459 : Int32))).toUInt32 >>> ((4 : Int32).toUInt32 &&& Int32.toUInt32 31)).toInt32)) &&& (252645135 : Int32)).toUInt32 >>> ((8 : Int32).toUInt32 &&& Int32.toUInt32 31)).toInt32)) + ((((((((x0 - (((x0.toUInt32 >>> ((1 : Int32).toUInt32 &&& Int32.toUInt32 31)).toInt32) &&& (1431655765 : Int32))) &&& (858993459 : Int32)) + ((((x0 - (((x0.toUInt32 >>> ((1 : Int32).toUInt32 &&& Int32.toUInt32 31)).toInt32) &&& (1431655765 : Int32))).toUInt32 >>> ((2 : Int32).toUInt32 &&& Int32.toUInt32 31)).toInt32) &&& (858993459 : Int32))) + (((((x0 - (((x0.toUInt32 >>> ((1 : Int32).toUInt32 &&& Int32.toUInt32 31)).toInt32) &&& (1431655765 : Int32))) &&& (858993459 : Int32)) + ((((x0 - (((x0.toUInt32 >>> ((1 : Int32).toUInt32 &&& Int32.toUInt32 31)).toInt32) &&& (1431655765 : Int32))).toUInt32 >>> ((2 : Int32).toUInt32 &&& Int32.toUInt32 31)).toInt32) &&& (858993459 : Int32))).toUInt32 >>> ((4 : Int32).toUInt32 &&& Int32.toUInt32 31)).toInt32)) &&& (252645135 : Int32)) + (((((((x0 - (((x0.toUInt32 >>> ((1 : Int32).toUInt32 &&& Int32.toUInt32 31)).toInt32) &&& (1431655765 : Int32))) &&& (858993459 : Int32)) + ((((x0 - (((x0.toUInt32 >>> ((1 : Int32).toUInt32 &&& Int32.toUInt32 31)).toInt32) &&& (1431655765 : Int32))).toUInt32 >>> ((2 : Int32).toUInt32 &&& Int32.toUInt32 31)).toInt32) &&& (858993459 : Int32))) + (((((x0 - (((x0.toUInt32 >>> ((1 : Int32).toUInt32 &&& Int32.toUInt32 31)).toInt32) &&& (1431655765 : Int32))) &&& (858993459 : Int32)) + ((((x0 - (((x0.toUInt32 >>> ((1 : Int32).toUInt32 &&& Int32.toUInt32 31)).toInt32) &&& (1431655765 : Int32))).toUInt32 >>> ((2 : Int32).toUInt32 &&& Int32.toUInt32 31)).toInt32) &&& (858993459 : Int32))).toUInt32 >>> ((4 : Int32).toUInt32 &&& Int32.toUInt32 31)).toInt32)) &&& (252645135 : Int32)).toUInt32 >>> ((8 : Int32).toUInt32 &&& Int32.toUInt32 31)).toInt32)).toUInt32 >>> ((16 : Int32).toUInt32 &&& Int32.toUInt32 31)).toInt32)))]) hF (dck_at tJ6_bitCount_0f7a4 37 rfl) (Nat.le_of_ble_eq_true rfl) rfl ?_
  refine g_iload_n hF (dck_at tJ6_bitCount_0f7a4 38 rfl) rfl ?_
  refine g_bipush (v := 63) hF (dck_at tJ6_bitCount_0f7a4 39 rfl) (by decide) ?_
  refine g_iand hF (dck_at tJ6_bitCount_0f7a4 40 rfl) ?_
  show G X F 52 _ _ _
  cases h
  exact g_iret hF hR (dck_at tJ6_bitCount_0f7a4 41 rfl)

def tbX1_play : List (Nat × Instr × Nat) := [(0, .aload_n 0, 1), (1, .getfield 15, 3), (4, .getfield 121, 3), (7, .iload_n 1, 1), (8, .iaload, 1), (9, .istore_n 2, 1), (10, .aload_n 0, 1), (11, .aload_n 0, 1), (12, .getfield 15, 3), (15, .getfield 124, 3), (18, .iload_n 1, 1), (19, .iaload, 1), (20, .invokevirtual 115, 3), (23, .aload_n 0, 1), (24, .dup, 1), (25, .getfield 43, 3), (28, .aload_n 0, 1), (29, .getfield 15, 3), (32, .getfield 106, 3), (35, .iload_n 1, 1), (36, .iaload, 1), (37, .isub, 1), (38, .putfield 43, 3), (41, .aload_n 0, 1), (42, .dup, 1), (43, .getfield 44, 3), (46, .iconst 1, 1), (47, .iload_n 1, 1), (48, .ishl, 1), (49, .ior, 1), (50, .putfield 44, 3), (53, .aload_n 0, 1), (54, .aload_n 0, 1), (55, .getfield 56, 3), (58, .ifCond .ne 8, 3), (61, .iload_n 2, 1), (62, .iconst 3, 1), (63, .if_icmp .ne 7, 3), (66, .iconst 1, 1), (67, .goto 4, 3), (70, .iconst 0, 1), (71, .putfield 56, 3), (74, .iconst 0, 1), (75, .istore_n 3, 1), (76, .iload_n 3, 1), (77, .aload_n 0, 1), (78, .getfield 15, 3), (81, .getfield 30, 3), (84, .if_icmp .ge 42, 3), (87, .aload_n 0, 1), (88, .iload_n 3, 1), (89, .invokevirtual 127, 3), (92, .ifCond .eq 28, 3), (95, .aload_n 0, 1), (96, .getfield 9, 3), (99, .iload_n 3, 1), (100, .iload_n 2, 1), (101, .aload_n 0, 1), (102, .getfield 9, 3), (105, .iload_n 3, 1), (106, .iaload, 1), (107, .aload_n 0, 1), (108, .getfield 15, 3), (111, .getfield 19, 3), (114, .iload_n 3, 1), (115, .iaload, 1), (116, .invokestatic 130, 3), (119, .iastore, 1), (120, .iinc 3 1, 3), (123, .goto (-47), 3), (126, .aload_n 0, 1), (127, .dup, 1), (128, .getfield 53, 3), (131, .aload_n 0, 1), (132, .getfield 15, 3), (135, .getfield 134, 3), (138, .iload_n 1, 1), (139, .iaload, 1), (140, .aload_n 0, 1), (141, .getfield 34, 3), (144, .invokestatic 137, 3), (147, .imul, 1), (148, .iadd, 1), (149, .putfield 53, 3), (152, .return_, 1)]
theorem tX1_play : dck cX1_play tbX1_play = true := by decide +kernel
def f_X1_play_L76 (N : Nat) (k : Nat) (x1 : Int32) (x2 : Int32) : Nat → Int32 → Mem → Option (Int32 × Mem)
  | 0, _, _ => none
  | n + 1, x3, M => (if (M 1 7) ≤ x3 then some (x3, M) else (f_X1_isThere N M k x3).bind fun q89 => (if q89 = 0 then f_X1_play_L76 N k x1 x2 n (x3 + (1 : Int32)) M else if inb x3 8 = true then if inb x3 8 = true then (f_X6_zealBehind N M x2 (M (k + 1) x3.toNatClampNeg) (M 3 x3.toNatClampNeg)).bind fun q116 => if inb x3 8 = true then f_X1_play_L76 N k x1 x2 n (x3 + (1 : Int32)) (up2 M (k + 1) x3.toNatClampNeg q116) else none else none else none))
def f_X1_play (N : Nat) (M : Mem) (k : Nat) (x1 : Int32) : Option Mem := if inb x1 4 = true then if inb x1 4 = true then (f_X1_letPass N M k (M 6 x1.toNatClampNeg)).bind fun q20 => if inb x1 4 = true then if zok (if ((up2 (up2 q20 k 3 ((q20 k 3) - (q20 7 x1.toNatClampNeg))) k 4 (((up2 q20 k 3 ((q20 k 3) - (q20 7 x1.toNatClampNeg))) k 4) ||| ((1 : Int32) <<< (x1 &&& 31)))) k 8) = 0 then (if (M 5 x1.toNatClampNeg) = (3 : Int32) then (1 : Int32) else (0 : Int32)) else (1 : Int32)) = true then (f_X1_play_L76 N k x1 (M 5 x1.toNatClampNeg) N (0 : Int32) (up2 (up2 (up2 q20 k 3 ((q20 k 3) - (q20 7 x1.toNatClampNeg))) k 4 (((up2 q20 k 3 ((q20 k 3) - (q20 7 x1.toNatClampNeg))) k 4) ||| ((1 : Int32) <<< (x1 &&& 31)))) k 8 (if ((up2 (up2 q20 k 3 ((q20 k 3) - (q20 7 x1.toNatClampNeg))) k 4 (((up2 q20 k 3 ((q20 k 3) - (q20 7 x1.toNatClampNeg))) k 4) ||| ((1 : Int32) <<< (x1 &&& 31)))) k 8) = 0 then (if (M 5 x1.toNatClampNeg) = (3 : Int32) then (1 : Int32) else (0 : Int32)) else (1 : Int32)))).bind fun o76 => if inb x1 4 = true then (f_J6_bitCount_0f7a4 N o76.2 (o76.2 k 1)).bind fun q144 => some (up2 o76.2 k 7 ((o76.2 k 7) + ((o76.2 8 x1.toNatClampNeg) * q144))) else none else none else none else none else none
set_option maxHeartbeats 4000000 in
set_option maxRecDepth 100000 in
theorem g_X1_play_L76 {X : Cx} {F : Fx} (hS : SC X) (hF : FK X F cX1_play RX1 4 3) (N : Nat) (k : Nat) (x1 : Int32) (x2 : Int32) (hk : ev k) : ∀ (n : Nat) (x3 : Int32) (M : Mem) (o : Int32 × Mem), f_X1_play_L76 N k x1 x2 n x3 M = some o → G X F 126 [some (.ref k), some (.int x1), none, none] [] o.2 → G X F 76 [some (.ref k), some (.int x1), some (.int x2), some (.int x3)] [] M := by
  intro n
  induction n with
  | zero =>
    intro x3 M o h K
    cases h
  | succ n ih =>
    intro x3 M o h K
    rw [f_X1_play_L76] at h
    refine g_iload_n hF (dck_at tX1_play 44 rfl) rfl ?_
    refine g_aload_n hF (dck_at tX1_play 45 rfl) rfl ?_
    refine gf_X1_15 hF (ev_m hS hk) (ev_kd hk) (ev_ln hk) (dck_at tX1_play 46 rfl) ?_
    refine gf_X1_30 hF (hS 1 (by decide)) kdc_1 lnc_1 (dck_at tX1_play 47 rfl) ?_
    refine g_icmp_ge hF 126 (dck_at tX1_play 48 rfl) (by decide) (fun hc84 => ?_) (fun hc84 => ?_)
    · replace h := ite_t hc84 h
      refine g_msk [true, true, false, false] (L' := [some (.ref k), some (.int x1), none, none]) rfl ?_
      cases h
      exact K
    · replace h := ite_f hc84 h
      refine g_aload_n hF (dck_at tX1_play 49 rfl) rfl ?_
      refine g_iload_n hF (dck_at tX1_play 50 rfl) rfl ?_
      obtain ⟨q89, e89, h⟩ := bd h
      refine g_callV hF (as := [.int x3]) (k := k) rfl (by decide) wm_X1_127 wi_X1_isThere we_X1_isThere wc_X1_isThere wn_X1 hyX1_isThere (by decide) (ev_m hS hk) (ev_kd hk) (c_X1_isThere hF.2.2.2.2.2.2.2.1 hS hk e89) (by decide) rfl rfl rfl rfl (dck_at tX1_play 51 rfl) ?_
      show G X F 92 _ [.int q89] M
      refine g_if_eq hF 120 (dck_at tX1_play 52 rfl) (by decide) (fun hc92 => ?_) (fun hc92 => ?_)
      · replace h := ite_t hc92 h
        refine g_iinc (v := 1) (L' := [some (.ref k), some (.int x1), some (.int x2), some (.int (x3 + (1 : Int32)))]) hF (dck_at tX1_play 68 rfl) rfl (by decide) rfl ?_
        refine g_goto hF 76 (dck_at tX1_play 69 rfl) (by decide) ?_
        exact ih _ _ _ h K
      · replace h := ite_f hc92 h
        refine g_aload_n hF (dck_at tX1_play 53 rfl) rfl ?_
        refine gf_X1_9 hF (ev_m hS hk) (ev_kd hk) (ev_ln hk) (t := (k + 1)) rfl (dck_at tX1_play 54 rfl) ?_
        refine g_iload_n hF (dck_at tX1_play 55 rfl) rfl ?_
        refine g_iload_n hF (dck_at tX1_play 56 rfl) rfl ?_
        refine g_aload_n hF (dck_at tX1_play 57 rfl) rfl ?_
        refine gf_X1_9 hF (ev_m hS hk) (ev_kd hk) (ev_ln hk) (t := (k + 1)) rfl (dck_at tX1_play 58 rfl) ?_
        show G X F 105 _ _ _
        refine g_iload_n hF (dck_at tX1_play 59 rfl) rfl ?_
        obtain ⟨hg106, h⟩ := gd h
        refine g_ia hF (ev_mz hS hk) (ev_kz hk) (ev_lz hk) hg106 (dck_at tX1_play 60 rfl) ?_
        refine g_aload_n hF (dck_at tX1_play 61 rfl) rfl ?_
        refine gf_X1_15 hF (ev_m hS hk) (ev_kd hk) (ev_ln hk) (dck_at tX1_play 62 rfl) ?_
        refine gf_X1_19 hF (hS 1 (by decide)) kdc_1 lnc_1 (t := 3) rfl (dck_at tX1_play 63 rfl) ?_
        refine g_iload_n hF (dck_at tX1_play 64 rfl) rfl ?_
        obtain ⟨hg115, h⟩ := gd h
        refine g_ia hF (hS 3 (by decide)) kdc_3 lnc_3 hg115 (dck_at tX1_play 65 rfl) ?_
        show G X F 116 _ _ _
        obtain ⟨q116, e116, h⟩ := bd h
        refine g_callSN hF (as := [.int x2, .int (M (k + 1) x3.toNatClampNeg), .int (M 3 x3.toNatClampNeg)]) hF.2.2.2.2.2.2.1.2.2.2.1 wt_X6_zealBehind wc_X6_zealBehind wn_X6 hyX6_zealBehind (by decide) (c_X6_zealBehind hF.2.2.2.2.2.2.2.1 e116) (by decide) rfl rfl rfl rfl (dck_at tX1_play 66 rfl) ?_
        show G X F 119 _ [.int q116, .int x3, .ref (k + 1)] M
        obtain ⟨hg119, h⟩ := gd h
        refine g_is hF (ev_mz hS hk) (ev_kz hk) (ev_lz hk) hg119 (dck_at tX1_play 67 rfl) ?_
        refine g_iinc (v := 1) (L' := [some (.ref k), some (.int x1), some (.int x2), some (.int (x3 + (1 : Int32)))]) hF (dck_at tX1_play 68 rfl) rfl (by decide) rfl ?_
        refine g_goto hF 76 (dck_at tX1_play 69 rfl) (by decide) ?_
        exact ih _ _ _ h K
set_option maxHeartbeats 4000000 in
set_option maxRecDepth 100000 in
theorem c_X1_play {X : Cx} {l : Launch} (hX : CxOk X) (hS : SC X) {N : Nat} {M : Mem} {k : Nat} {x1 : Int32} (hk : ev k) {M' : Mem} (h : f_X1_play N M k x1 = some M') : Ctr X l yX1_play cX1_play 4 none 3 [.ref k, .int x1] M none M' := by
  refine Ctr.ofG (L := [some (.ref k), some (.int x1), none, none]) hX (by decide) (Nat.le_of_ble_eq_true rfl) rfl (fun F hF hl hR => ?_)
  subst hl
  unfold f_X1_play at h
  refine g_aload_n hF (dck_at tX1_play 0 rfl) rfl ?_
  refine gf_X1_15 hF (ev_m hS hk) (ev_kd hk) (ev_ln hk) (dck_at tX1_play 1 rfl) ?_
  refine gf_X1_121 hF (hS 1 (by decide)) kdc_1 lnc_1 (t := 5) rfl (dck_at tX1_play 2 rfl) ?_
  refine g_iload_n hF (dck_at tX1_play 3 rfl) rfl ?_
  obtain ⟨hg8, h⟩ := gd h
  refine g_ia hF (hS 5 (by decide)) kdc_5 lnc_5 hg8 (dck_at tX1_play 4 rfl) ?_
  refine g_istore_n (L' := [some (.ref k), some (.int x1), some (.int (M 5 x1.toNatClampNeg)), none]) hF (dck_at tX1_play 5 rfl) (Nat.le_of_ble_eq_true rfl) rfl ?_
  show G X F 10 _ _ _
  refine g_aload_n hF (dck_at tX1_play 6 rfl) rfl ?_
  refine g_aload_n hF (dck_at tX1_play 7 rfl) rfl ?_
  refine gf_X1_15 hF (ev_m hS hk) (ev_kd hk) (ev_ln hk) (dck_at tX1_play 8 rfl) ?_
  refine gf_X1_124 hF (hS 1 (by decide)) kdc_1 lnc_1 (t := 6) rfl (dck_at tX1_play 9 rfl) ?_
  refine g_iload_n hF (dck_at tX1_play 10 rfl) rfl ?_
  obtain ⟨hg19, h⟩ := gd h
  refine g_ia hF (hS 6 (by decide)) kdc_6 lnc_6 hg19 (dck_at tX1_play 11 rfl) ?_
  obtain ⟨q20, e20, h⟩ := bd h
  refine g_callV hF (as := [.int (M 6 x1.toNatClampNeg)]) (k := k) rfl (by decide) wm_X1_115 wi_X1_letPass we_X1_letPass wc_X1_letPass wn_X1 hyX1_letPass (by decide) (ev_m hS hk) (ev_kd hk) (c_X1_letPass hF.2.2.2.2.2.2.2.1 hS hk e20) (by decide) rfl rfl rfl rfl (dck_at tX1_play 12 rfl) ?_
  show G X F 23 _ [] q20
  show G X F 23 _ _ _
  refine g_aload_n hF (dck_at tX1_play 13 rfl) rfl ?_
  refine g_dup hF (dck_at tX1_play 14 rfl) rfl ?_
  refine gf_X1_43 hF (ev_m hS hk) (ev_kd hk) (ev_ln hk) (dck_at tX1_play 15 rfl) ?_
  refine g_aload_n hF (dck_at tX1_play 16 rfl) rfl ?_
  refine gf_X1_15 hF (ev_m hS hk) (ev_kd hk) (ev_ln hk) (dck_at tX1_play 17 rfl) ?_
  refine gf_X1_106 hF (hS 1 (by decide)) kdc_1 lnc_1 (t := 7) rfl (dck_at tX1_play 18 rfl) ?_
  refine g_iload_n hF (dck_at tX1_play 19 rfl) rfl ?_
  show G X F 36 _ _ _
  obtain ⟨hg36, h⟩ := gd h
  refine g_ia hF (hS 7 (by decide)) kdc_7 lnc_7 hg36 (dck_at tX1_play 20 rfl) ?_
  refine g_isub hF (dck_at tX1_play 21 rfl) ?_
  refine pf_X1_43 hF (ev_m hS hk) (ev_kd hk) (ev_ln hk) (dck_at tX1_play 22 rfl) ?_
  refine g_aload_n hF (dck_at tX1_play 23 rfl) rfl ?_
  refine g_dup hF (dck_at tX1_play 24 rfl) rfl ?_
  refine gf_X1_44 hF (ev_m hS hk) (ev_kd hk) (ev_ln hk) (dck_at tX1_play 25 rfl) ?_
  refine g_iconst (v := 1) hF (dck_at tX1_play 26 rfl) (by decide) ?_
  show G X F 47 _ _ _
  refine g_iload_n hF (dck_at tX1_play 27 rfl) rfl ?_
  refine g_ishl hF (dck_at tX1_play 28 rfl) ?_
  refine g_ior hF (dck_at tX1_play 29 rfl) ?_
  refine pf_X1_44 hF (ev_m hS hk) (ev_kd hk) (ev_ln hk) (dck_at tX1_play 30 rfl) ?_
  refine g_aload_n hF (dck_at tX1_play 31 rfl) rfl ?_
  refine g_aload_n hF (dck_at tX1_play 32 rfl) rfl ?_
  refine gf_X1_56 hF (ev_m hS hk) (ev_kd hk) (ev_ln hk) (dck_at tX1_play 33 rfl) ?_
  show G X F 58 _ _ _
  have K71 : G X F 71 [some (.ref k), some (.int x1), some (.int (M 5 x1.toNatClampNeg)), none] [.int (if ((up2 (up2 q20 k 3 ((q20 k 3) - (q20 7 x1.toNatClampNeg))) k 4 (((up2 q20 k 3 ((q20 k 3) - (q20 7 x1.toNatClampNeg))) k 4) ||| ((1 : Int32) <<< (x1 &&& 31)))) k 8) = 0 then (if (M 5 x1.toNatClampNeg) = (3 : Int32) then (1 : Int32) else (0 : Int32)) else (1 : Int32)), .ref k] (up2 (up2 q20 k 3 ((q20 k 3) - (q20 7 x1.toNatClampNeg))) k 4 (((up2 q20 k 3 ((q20 k 3) - (q20 7 x1.toNatClampNeg))) k 4) ||| ((1 : Int32) <<< (x1 &&& 31)))) := by
    obtain ⟨hg71, h⟩ := gd h
    refine pf_X1_56 hF (ev_m hS hk) (ev_kd hk) (ev_ln hk) hg71 (dck_at tX1_play 41 rfl) ?_
    refine g_iconst (v := 0) hF (dck_at tX1_play 42 rfl) (by decide) ?_
    refine g_istore_n (L' := [some (.ref k), some (.int x1), some (.int (M 5 x1.toNatClampNeg)), some (.int (0 : Int32))]) hF (dck_at tX1_play 43 rfl) (Nat.le_of_ble_eq_true rfl) rfl ?_
    obtain ⟨o76, e76, h⟩ := bd h
    refine g_X1_play_L76 hS hF N _ _ _ hk N _ _ _ e76 ?_
    refine g_aload_n hF (dck_at tX1_play 70 rfl) rfl ?_
    refine g_dup hF (dck_at tX1_play 71 rfl) rfl ?_
    refine gf_X1_53 hF (ev_m hS hk) (ev_kd hk) (ev_ln hk) (dck_at tX1_play 72 rfl) ?_
    refine g_aload_n hF (dck_at tX1_play 73 rfl) rfl ?_
    refine gf_X1_15 hF (ev_m hS hk) (ev_kd hk) (ev_ln hk) (dck_at tX1_play 74 rfl) ?_
    refine gf_X1_134 hF (hS 1 (by decide)) kdc_1 lnc_1 (t := 8) rfl (dck_at tX1_play 75 rfl) ?_
    show G X F 138 _ _ _
    refine g_iload_n hF (dck_at tX1_play 76 rfl) rfl ?_
    obtain ⟨hg139, h⟩ := gd h
    refine g_ia hF (hS 8 (by decide)) kdc_8 lnc_8 hg139 (dck_at tX1_play 77 rfl) ?_
    refine g_aload_n hF (dck_at tX1_play 78 rfl) rfl ?_
    refine gf_X1_34 hF (ev_m hS hk) (ev_kd hk) (ev_ln hk) (dck_at tX1_play 79 rfl) ?_
    obtain ⟨q144, e144, h⟩ := bd h
    refine g_callS hF (as := [.int (o76.2 k 1)]) wm_X1_137 wt_J6_bitCount_0f7a4 wc_J6_bitCount_0f7a4 wn_J6 hyJ6_bitCount_0f7a4 (by decide) (c_J6_bitCount_0f7a4 hF.2.2.2.2.2.2.2.1 e144) (by decide) rfl rfl rfl rfl (dck_at tX1_play 80 rfl) ?_
    show G X F 147 _ [.int q144, .int (o76.2 8 x1.toNatClampNeg), .int (o76.2 k 7), .ref k] o76.2
    refine g_imul hF (dck_at tX1_play 81 rfl) ?_
    refine g_iadd hF (dck_at tX1_play 82 rfl) ?_
    show G X F 149 _ _ _
    refine pf_X1_53 hF (ev_m hS hk) (ev_kd hk) (ev_ln hk) (dck_at tX1_play 83 rfl) ?_
    cases h
    exact g_vret hF hR (dck_at tX1_play 84 rfl)
  refine g_if_ne hF 66 (dck_at tX1_play 34 rfl) (by decide) (fun hc58 => ?_) (fun hc58 => ?_)
  · refine g_iconst (v := 1) hF (dck_at tX1_play 38 rfl) (by decide) ?_
    refine g_goto hF 71 (dck_at tX1_play 39 rfl) (by decide) ?_
    simp only [if_neg hc58] at K71
    exact K71
  · refine g_iload_n hF (dck_at tX1_play 35 rfl) rfl ?_
    refine g_iconst (v := 3) hF (dck_at tX1_play 36 rfl) (by decide) ?_
    refine g_icmp_ne hF 70 (dck_at tX1_play 37 rfl) (by decide) (fun hc63 => ?_) (fun hc63 => ?_)
    · refine g_iconst (v := 0) hF (dck_at tX1_play 40 rfl) (by decide) ?_
      simp only [if_pos hc58, if_neg hc63] at K71
      exact K71
    · refine g_iconst (v := 1) hF (dck_at tX1_play 38 rfl) (by decide) ?_
      refine g_goto hF 71 (dck_at tX1_play 39 rfl) (by decide) ?_
      simp only [if_pos hc58, if_pos hc63] at K71
      exact K71

def tbX1_take : List (Nat × Instr × Nat) := [(0, .iload_n 1, 1), (1, .ifCond .ne 10, 3), (4, .aload_n 0, 1), (5, .invokevirtual 90, 3), (8, .goto 35, 3), (11, .iload_n 1, 1), (12, .iconst 1, 1), (13, .if_icmp .ne 10, 3), (16, .aload_n 0, 1), (17, .invokevirtual 93, 3), (20, .goto 23, 3), (23, .aload_n 0, 1), (24, .getfield 15, 3), (27, .iload_n 1, 1), (28, .iconst 2, 1), (29, .isub, 1), (30, .invokevirtual 96, 3), (33, .ifCond .eq 10, 3), (36, .aload_n 0, 1), (37, .iload_n 1, 1), (38, .iconst 2, 1), (39, .isub, 1), (40, .invokevirtual 99, 3), (43, .return_, 1)]
theorem tX1_take : dck cX1_take tbX1_take = true := by decide +kernel
def f_X1_take (N : Nat) (M : Mem) (k : Nat) (x1 : Int32) : Option Mem := (if x1 = 0 then (f_X1_waitOne N M k).bind fun q5 => some q5 else (if x1 = (1 : Int32) then (f_X1_bowOnce N M k).bind fun q17 => some q17 else (f_X5_hasEncore N M 1 (x1 - (2 : Int32))).bind fun q30 => (if q30 = 0 then some M else (f_X1_play N M k (x1 - (2 : Int32))).bind fun q40 => some q40)))
set_option maxHeartbeats 4000000 in
set_option maxRecDepth 100000 in
theorem c_X1_take {X : Cx} {l : Launch} (hX : CxOk X) (hS : SC X) {N : Nat} {M : Mem} {k : Nat} {x1 : Int32} (hk : ev k) {M' : Mem} (h : f_X1_take N M k x1 = some M') : Ctr X l yX1_take cX1_take 2 none 4 [.ref k, .int x1] M none M' := by
  refine Ctr.ofG (L := [some (.ref k), some (.int x1)]) hX (by decide) (Nat.le_of_ble_eq_true rfl) rfl (fun F hF hl hR => ?_)
  subst hl
  unfold f_X1_take at h
  refine g_iload_n hF (dck_at tX1_take 0 rfl) rfl ?_
  refine g_if_ne hF 11 (dck_at tX1_take 1 rfl) (by decide) (fun hc1 => ?_) (fun hc1 => ?_)
  · replace h := ite_f hc1 h
    refine g_iload_n hF (dck_at tX1_take 5 rfl) rfl ?_
    refine g_iconst (v := 1) hF (dck_at tX1_take 6 rfl) (by decide) ?_
    refine g_icmp_ne hF 23 (dck_at tX1_take 7 rfl) (by decide) (fun hc13 => ?_) (fun hc13 => ?_)
    · replace h := ite_f hc13 h
      refine g_aload_n hF (dck_at tX1_take 11 rfl) rfl ?_
      refine gf_X1_15 hF (ev_m hS hk) (ev_kd hk) (ev_ln hk) (dck_at tX1_take 12 rfl) ?_
      refine g_iload_n hF (dck_at tX1_take 13 rfl) rfl ?_
      refine g_iconst (v := 2) hF (dck_at tX1_take 14 rfl) (by decide) ?_
      refine g_isub hF (dck_at tX1_take 15 rfl) ?_
      obtain ⟨q30, e30, h⟩ := bd h
      refine g_callV hF (as := [.int (x1 - (2 : Int32))]) (k := 1) rfl (by decide) wm_X1_96 wi_X5_hasEncore we_X5_hasEncore wc_X5_hasEncore wn_X5 hyX5_hasEncore (by decide) (hS 1 (by decide)) kdc_1 (c_X5_hasEncore hF.2.2.2.2.2.2.2.1 hS tdc_1 e30) (by decide) rfl rfl rfl rfl (dck_at tX1_take 16 rfl) ?_
      show G X F 33 _ [.int q30] M
      show G X F 33 _ _ _
      refine g_if_eq hF 43 (dck_at tX1_take 17 rfl) (by decide) (fun hc33 => ?_) (fun hc33 => ?_)
      · replace h := ite_t hc33 h
        cases h
        exact g_vret hF hR (dck_at tX1_take 23 rfl)
      · replace h := ite_f hc33 h
        refine g_aload_n hF (dck_at tX1_take 18 rfl) rfl ?_
        refine g_iload_n hF (dck_at tX1_take 19 rfl) rfl ?_
        refine g_iconst (v := 2) hF (dck_at tX1_take 20 rfl) (by decide) ?_
        refine g_isub hF (dck_at tX1_take 21 rfl) ?_
        obtain ⟨q40, e40, h⟩ := bd h
        refine g_callV hF (as := [.int (x1 - (2 : Int32))]) (k := k) rfl (by decide) wm_X1_99 wi_X1_play we_X1_play wc_X1_play wn_X1 hyX1_play (by decide) (ev_m hS hk) (ev_kd hk) (c_X1_play hF.2.2.2.2.2.2.2.1 hS hk e40) (by decide) rfl rfl rfl rfl (dck_at tX1_take 22 rfl) ?_
        show G X F 43 _ [] q40
        cases h
        exact g_vret hF hR (dck_at tX1_take 23 rfl)
    · replace h := ite_t hc13 h
      refine g_aload_n hF (dck_at tX1_take 8 rfl) rfl ?_
      obtain ⟨q17, e17, h⟩ := bd h
      refine g_callV hF (as := []) (k := k) rfl (by decide) wm_X1_93 wi_X1_bowOnce we_X1_bowOnce wc_X1_bowOnce wn_X1 hyX1_bowOnce (by decide) (ev_m hS hk) (ev_kd hk) (c_X1_bowOnce hF.2.2.2.2.2.2.2.1 hS hk e17) (by decide) rfl rfl rfl rfl (dck_at tX1_take 9 rfl) ?_
      show G X F 20 _ [] q17
      refine g_goto hF 43 (dck_at tX1_take 10 rfl) (by decide) ?_
      cases h
      exact g_vret hF hR (dck_at tX1_take 23 rfl)
  · replace h := ite_t hc1 h
    refine g_aload_n hF (dck_at tX1_take 2 rfl) rfl ?_
    obtain ⟨q5, e5, h⟩ := bd h
    refine g_callV hF (as := []) (k := k) rfl (by decide) wm_X1_90 wi_X1_waitOne we_X1_waitOne wc_X1_waitOne wn_X1 hyX1_waitOne (by decide) (ev_m hS hk) (ev_kd hk) (c_X1_waitOne hF.2.2.2.2.2.2.2.1 hS hk e5) (by decide) rfl rfl rfl rfl (dck_at tX1_take 3 rfl) ?_
    show G X F 8 _ [] q5
    refine g_goto hF 43 (dck_at tX1_take 4 rfl) (by decide) ?_
    cases h
    exact g_vret hF hR (dck_at tX1_take 23 rfl)

def tbX5_copyFrom : List (Nat × Instr × Nat) := [(0, .aload_n 1, 1), (1, .getfield 9, 3), (4, .iconst 0, 1), (5, .aload_n 0, 1), (6, .getfield 9, 3), (9, .iconst 0, 1), (10, .bipush 8, 2), (12, .invokestatic 52, 3), (15, .aload_n 1, 1), (16, .getfield 15, 3), (19, .iconst 0, 1), (20, .aload_n 0, 1), (21, .getfield 15, 3), (24, .iconst 0, 1), (25, .bipush 8, 2), (27, .invokestatic 52, 3), (30, .aload_n 1, 1), (31, .getfield 18, 3), (34, .iconst 0, 1), (35, .aload_n 0, 1), (36, .getfield 18, 3), (39, .iconst 0, 1), (40, .bipush 8, 2), (42, .invokestatic 52, 3), (45, .aload_n 1, 1), (46, .getfield 21, 3), (49, .iconst 0, 1), (50, .aload_n 0, 1), (51, .getfield 21, 3), (54, .iconst 0, 1), (55, .iconst 4, 1), (56, .invokestatic 52, 3), (59, .aload_n 1, 1), (60, .getfield 24, 3), (63, .iconst 0, 1), (64, .aload_n 0, 1), (65, .getfield 24, 3), (68, .iconst 0, 1), (69, .iconst 4, 1), (70, .invokestatic 52, 3), (73, .aload_n 1, 1), (74, .getfield 27, 3), (77, .iconst 0, 1), (78, .aload_n 0, 1), (79, .getfield 27, 3), (82, .iconst 0, 1), (83, .iconst 4, 1), (84, .invokestatic 52, 3), (87, .aload_n 1, 1), (88, .getfield 30, 3), (91, .iconst 0, 1), (92, .aload_n 0, 1), (93, .getfield 30, 3), (96, .iconst 0, 1), (97, .iconst 4, 1), (98, .invokestatic 52, 3), (101, .aload_n 0, 1), (102, .aload_n 1, 1), (103, .getfield 36, 3), (106, .putfield 36, 3), (109, .aload_n 0, 1), (110, .aload_n 1, 1), (111, .getfield 40, 3), (114, .putfield 40, 3), (117, .aload_n 0, 1), (118, .aload_n 1, 1), (119, .getfield 43, 3), (122, .putfield 43, 3), (125, .aload_n 0, 1), (126, .aload_n 1, 1), (127, .getfield 46, 3), (130, .putfield 46, 3), (133, .aload_n 0, 1), (134, .aload_n 1, 1), (135, .getfield 49, 3), (138, .putfield 49, 3), (141, .return_, 1)]
theorem tX5_copyFrom : dck cX5_copyFrom tbX5_copyFrom = true := by decide +kernel
def f_X5_copyFrom (N : Nat) (M : Mem) (k : Nat) (k1 : Nat) : Option Mem := some (up2 (up2 (up2 (up2 (up2 (cp2 (cp2 (cp2 (cp2 (cp2 (cp2 (cp2 M (k1 + 1) (k + 1) 8) (k1 + 2) (k + 2) 8) (k1 + 3) (k + 3) 8) (k1 + 4) (k + 4) 4) (k1 + 5) (k + 5) 4) (k1 + 6) (k + 6) 4) (k1 + 7) (k + 7) 4) k 7 ((cp2 (cp2 (cp2 (cp2 (cp2 (cp2 (cp2 M (k1 + 1) (k + 1) 8) (k1 + 2) (k + 2) 8) (k1 + 3) (k + 3) 8) (k1 + 4) (k + 4) 4) (k1 + 5) (k + 5) 4) (k1 + 6) (k + 6) 4) (k1 + 7) (k + 7) 4) k1 7)) k 8 ((up2 (cp2 (cp2 (cp2 (cp2 (cp2 (cp2 (cp2 M (k1 + 1) (k + 1) 8) (k1 + 2) (k + 2) 8) (k1 + 3) (k + 3) 8) (k1 + 4) (k + 4) 4) (k1 + 5) (k + 5) 4) (k1 + 6) (k + 6) 4) (k1 + 7) (k + 7) 4) k 7 ((cp2 (cp2 (cp2 (cp2 (cp2 (cp2 (cp2 M (k1 + 1) (k + 1) 8) (k1 + 2) (k + 2) 8) (k1 + 3) (k + 3) 8) (k1 + 4) (k + 4) 4) (k1 + 5) (k + 5) 4) (k1 + 6) (k + 6) 4) (k1 + 7) (k + 7) 4) k1 7)) k1 8)) k 9 ((up2 (up2 (cp2 (cp2 (cp2 (cp2 (cp2 (cp2 (cp2 M (k1 + 1) (k + 1) 8) (k1 + 2) (k + 2) 8) (k1 + 3) (k + 3) 8) (k1 + 4) (k + 4) 4) (k1 + 5) (k + 5) 4) (k1 + 6) (k + 6) 4) (k1 + 7) (k + 7) 4) k 7 ((cp2 (cp2 (cp2 (cp2 (cp2 (cp2 (cp2 M (k1 + 1) (k + 1) 8) (k1 + 2) (k + 2) 8) (k1 + 3) (k + 3) 8) (k1 + 4) (k + 4) 4) (k1 + 5) (k + 5) 4) (k1 + 6) (k + 6) 4) (k1 + 7) (k + 7) 4) k1 7)) k 8 ((up2 (cp2 (cp2 (cp2 (cp2 (cp2 (cp2 (cp2 M (k1 + 1) (k + 1) 8) (k1 + 2) (k + 2) 8) (k1 + 3) (k + 3) 8) (k1 + 4) (k + 4) 4) (k1 + 5) (k + 5) 4) (k1 + 6) (k + 6) 4) (k1 + 7) (k + 7) 4) k 7 ((cp2 (cp2 (cp2 (cp2 (cp2 (cp2 (cp2 M (k1 + 1) (k + 1) 8) (k1 + 2) (k + 2) 8) (k1 + 3) (k + 3) 8) (k1 + 4) (k + 4) 4) (k1 + 5) (k + 5) 4) (k1 + 6) (k + 6) 4) (k1 + 7) (k + 7) 4) k1 7)) k1 8)) k1 9)) k 10 ((up2 (up2 (up2 (cp2 (cp2 (cp2 (cp2 (cp2 (cp2 (cp2 M (k1 + 1) (k + 1) 8) (k1 + 2) (k + 2) 8) (k1 + 3) (k + 3) 8) (k1 + 4) (k + 4) 4) (k1 + 5) (k + 5) 4) (k1 + 6) (k + 6) 4) (k1 + 7) (k + 7) 4) k 7 ((cp2 (cp2 (cp2 (cp2 (cp2 (cp2 (cp2 M (k1 + 1) (k + 1) 8) (k1 + 2) (k + 2) 8) (k1 + 3) (k + 3) 8) (k1 + 4) (k + 4) 4) (k1 + 5) (k + 5) 4) (k1 + 6) (k + 6) 4) (k1 + 7) (k + 7) 4) k1 7)) k 8 ((up2 (cp2 (cp2 (cp2 (cp2 (cp2 (cp2 (cp2 M (k1 + 1) (k + 1) 8) (k1 + 2) (k + 2) 8) (k1 + 3) (k + 3) 8) (k1 + 4) (k + 4) 4) (k1 + 5) (k + 5) 4) (k1 + 6) (k + 6) 4) (k1 + 7) (k + 7) 4) k 7 ((cp2 (cp2 (cp2 (cp2 (cp2 (cp2 (cp2 M (k1 + 1) (k + 1) 8) (k1 + 2) (k + 2) 8) (k1 + 3) (k + 3) 8) (k1 + 4) (k + 4) 4) (k1 + 5) (k + 5) 4) (k1 + 6) (k + 6) 4) (k1 + 7) (k + 7) 4) k1 7)) k1 8)) k 9 ((up2 (up2 (cp2 (cp2 (cp2 (cp2 (cp2 (cp2 (cp2 M (k1 + 1) (k + 1) 8) (k1 + 2) (k + 2) 8) (k1 + 3) (k + 3) 8) (k1 + 4) (k + 4) 4) (k1 + 5) (k + 5) 4) (k1 + 6) (k + 6) 4) (k1 + 7) (k + 7) 4) k 7 ((cp2 (cp2 (cp2 (cp2 (cp2 (cp2 (cp2 M (k1 + 1) (k + 1) 8) (k1 + 2) (k + 2) 8) (k1 + 3) (k + 3) 8) (k1 + 4) (k + 4) 4) (k1 + 5) (k + 5) 4) (k1 + 6) (k + 6) 4) (k1 + 7) (k + 7) 4) k1 7)) k 8 ((up2 (cp2 (cp2 (cp2 (cp2 (cp2 (cp2 (cp2 M (k1 + 1) (k + 1) 8) (k1 + 2) (k + 2) 8) (k1 + 3) (k + 3) 8) (k1 + 4) (k + 4) 4) (k1 + 5) (k + 5) 4) (k1 + 6) (k + 6) 4) (k1 + 7) (k + 7) 4) k 7 ((cp2 (cp2 (cp2 (cp2 (cp2 (cp2 (cp2 M (k1 + 1) (k + 1) 8) (k1 + 2) (k + 2) 8) (k1 + 3) (k + 3) 8) (k1 + 4) (k + 4) 4) (k1 + 5) (k + 5) 4) (k1 + 6) (k + 6) 4) (k1 + 7) (k + 7) 4) k1 7)) k1 8)) k1 9)) k1 10)) k 11 ((up2 (up2 (up2 (up2 (cp2 (cp2 (cp2 (cp2 (cp2 (cp2 (cp2 M (k1 + 1) (k + 1) 8) (k1 + 2) (k + 2) 8) (k1 + 3) (k + 3) 8) (k1 + 4) (k + 4) 4) (k1 + 5) (k + 5) 4) (k1 + 6) (k + 6) 4) (k1 + 7) (k + 7) 4) k 7 ((cp2 (cp2 (cp2 (cp2 (cp2 (cp2 (cp2 M (k1 + 1) (k + 1) 8) (k1 + 2) (k + 2) 8) (k1 + 3) (k + 3) 8) (k1 + 4) (k + 4) 4) (k1 + 5) (k + 5) 4) (k1 + 6) (k + 6) 4) (k1 + 7) (k + 7) 4) k1 7)) k 8 ((up2 (cp2 (cp2 (cp2 (cp2 (cp2 (cp2 (cp2 M (k1 + 1) (k + 1) 8) (k1 + 2) (k + 2) 8) (k1 + 3) (k + 3) 8) (k1 + 4) (k + 4) 4) (k1 + 5) (k + 5) 4) (k1 + 6) (k + 6) 4) (k1 + 7) (k + 7) 4) k 7 ((cp2 (cp2 (cp2 (cp2 (cp2 (cp2 (cp2 M (k1 + 1) (k + 1) 8) (k1 + 2) (k + 2) 8) (k1 + 3) (k + 3) 8) (k1 + 4) (k + 4) 4) (k1 + 5) (k + 5) 4) (k1 + 6) (k + 6) 4) (k1 + 7) (k + 7) 4) k1 7)) k1 8)) k 9 ((up2 (up2 (cp2 (cp2 (cp2 (cp2 (cp2 (cp2 (cp2 M (k1 + 1) (k + 1) 8) (k1 + 2) (k + 2) 8) (k1 + 3) (k + 3) 8) (k1 + 4) (k + 4) 4) (k1 + 5) (k + 5) 4) (k1 + 6) (k + 6) 4) (k1 + 7) (k + 7) 4) k 7 ((cp2 (cp2 (cp2 (cp2 (cp2 (cp2 (cp2 M (k1 + 1) (k + 1) 8) (k1 + 2) (k + 2) 8) (k1 + 3) (k + 3) 8) (k1 + 4) (k + 4) 4) (k1 + 5) (k + 5) 4) (k1 + 6) (k + 6) 4) (k1 + 7) (k + 7) 4) k1 7)) k 8 ((up2 (cp2 (cp2 (cp2 (cp2 (cp2 (cp2 (cp2 M (k1 + 1) (k + 1) 8) (k1 + 2) (k + 2) 8) (k1 + 3) (k + 3) 8) (k1 + 4) (k + 4) 4) (k1 + 5) (k + 5) 4) (k1 + 6) (k + 6) 4) (k1 + 7) (k + 7) 4) k 7 ((cp2 (cp2 (cp2 (cp2 (cp2 (cp2 (cp2 M (k1 + 1) (k + 1) 8) (k1 + 2) (k + 2) 8) (k1 + 3) (k + 3) 8) (k1 + 4) (k + 4) 4) (k1 + 5) (k + 5) 4) (k1 + 6) (k + 6) 4) (k1 + 7) (k + 7) 4) k1 7)) k1 8)) k1 9)) k 10 ((up2 (up2 (up2 (cp2 (cp2 (cp2 (cp2 (cp2 (cp2 (cp2 M (k1 + 1) (k + 1) 8) (k1 + 2) (k + 2) 8) (k1 + 3) (k + 3) 8) (k1 + 4) (k + 4) 4) (k1 + 5) (k + 5) 4) (k1 + 6) (k + 6) 4) (k1 + 7) (k + 7) 4) k 7 ((cp2 (cp2 (cp2 (cp2 (cp2 (cp2 (cp2 M (k1 + 1) (k + 1) 8) (k1 + 2) (k + 2) 8) (k1 + 3) (k + 3) 8) (k1 + 4) (k + 4) 4) (k1 + 5) (k + 5) 4) (k1 + 6) (k + 6) 4) (k1 + 7) (k + 7) 4) k1 7)) k 8 ((up2 (cp2 (cp2 (cp2 (cp2 (cp2 (cp2 (cp2 M (k1 + 1) (k + 1) 8) (k1 + 2) (k + 2) 8) (k1 + 3) (k + 3) 8) (k1 + 4) (k + 4) 4) (k1 + 5) (k + 5) 4) (k1 + 6) (k + 6) 4) (k1 + 7) (k + 7) 4) k 7 ((cp2 (cp2 (cp2 (cp2 (cp2 (cp2 (cp2 M (k1 + 1) (k + 1) 8) (k1 + 2) (k + 2) 8) (k1 + 3) (k + 3) 8) (k1 + 4) (k + 4) 4) (k1 + 5) (k + 5) 4) (k1 + 6) (k + 6) 4) (k1 + 7) (k + 7) 4) k1 7)) k1 8)) k 9 ((up2 (up2 (cp2 (cp2 (cp2 (cp2 (cp2 (cp2 (cp2 M (k1 + 1) (k + 1) 8) (k1 + 2) (k + 2) 8) (k1 + 3) (k + 3) 8) (k1 + 4) (k + 4) 4) (k1 + 5) (k + 5) 4) (k1 + 6) (k + 6) 4) (k1 + 7) (k + 7) 4) k 7 ((cp2 (cp2 (cp2 (cp2 (cp2 (cp2 (cp2 M (k1 + 1) (k + 1) 8) (k1 + 2) (k + 2) 8) (k1 + 3) (k + 3) 8) (k1 + 4) (k + 4) 4) (k1 + 5) (k + 5) 4) (k1 + 6) (k + 6) 4) (k1 + 7) (k + 7) 4) k1 7)) k 8 ((up2 (cp2 (cp2 (cp2 (cp2 (cp2 (cp2 (cp2 M (k1 + 1) (k + 1) 8) (k1 + 2) (k + 2) 8) (k1 + 3) (k + 3) 8) (k1 + 4) (k + 4) 4) (k1 + 5) (k + 5) 4) (k1 + 6) (k + 6) 4) (k1 + 7) (k + 7) 4) k 7 ((cp2 (cp2 (cp2 (cp2 (cp2 (cp2 (cp2 M (k1 + 1) (k + 1) 8) (k1 + 2) (k + 2) 8) (k1 + 3) (k + 3) 8) (k1 + 4) (k + 4) 4) (k1 + 5) (k + 5) 4) (k1 + 6) (k + 6) 4) (k1 + 7) (k + 7) 4) k1 7)) k1 8)) k1 9)) k1 10)) k1 11))
set_option maxHeartbeats 4000000 in
set_option maxRecDepth 100000 in
theorem c_X5_copyFrom {X : Cx} {l : Launch} (hX : CxOk X) (hS : SC X) {N : Nat} {M : Mem} {k : Nat} {k1 : Nat} (hk : td k) (hk1 : td k1) {M' : Mem} (h : f_X5_copyFrom N M k k1 = some M') : Ctr X l yX5_copyFrom cX5_copyFrom 2 none 2 [.ref k, .ref k1] M none M' := by
  refine Ctr.ofG (L := [some (.ref k), some (.ref k1)]) hX (by decide) (Nat.le_of_ble_eq_true rfl) rfl (fun F hF hl hR => ?_)
  subst hl
  unfold f_X5_copyFrom at h
  refine g_aload_n hF (dck_at tX5_copyFrom 0 rfl) rfl ?_
  refine gf_X5_9 hF (td_m hS hk1) (td_kd hk1) (td_ln hk1) (t := (k1 + 1)) rfl (dck_at tX5_copyFrom 1 rfl) ?_
  refine g_iconst (v := 0) hF (dck_at tX5_copyFrom 2 rfl) (by decide) ?_
  refine g_aload_n hF (dck_at tX5_copyFrom 3 rfl) rfl ?_
  refine gf_X5_9 hF (td_m hS hk) (td_kd hk) (td_ln hk) (t := (k + 1)) rfl (dck_at tX5_copyFrom 4 rfl) ?_
  refine g_iconst (v := 0) hF (dck_at tX5_copyFrom 5 rfl) (by decide) ?_
  show G X F 10 _ _ _
  refine g_bipush (v := 8) hF (dck_at tX5_copyFrom 6 rfl) (by decide) ?_
  refine g_copy hF wm_X5_52 wv_copy wt_copy wn_J10 (ar_m hS (td_a0 hk1)) (td_a0 hk1).1 (ar_m hS (td_a0 hk)) (td_a0 hk).1 (by decide) (by rw [(td_a0 hk1).2.1]; decide) (by rw [(td_a0 hk).2.1]; decide) (by decide) rfl rfl (dck_at tX5_copyFrom 7 rfl) ?_
  show G X F 15 _ _ (cp2 M (k1 + 1) (k + 1) 8)
  refine g_aload_n hF (dck_at tX5_copyFrom 8 rfl) rfl ?_
  refine gf_X5_15 hF (td_m hS hk1) (td_kd hk1) (td_ln hk1) (t := (k1 + 2)) rfl (dck_at tX5_copyFrom 9 rfl) ?_
  refine g_iconst (v := 0) hF (dck_at tX5_copyFrom 10 rfl) (by decide) ?_
  refine g_aload_n hF (dck_at tX5_copyFrom 11 rfl) rfl ?_
  refine gf_X5_15 hF (td_m hS hk) (td_kd hk) (td_ln hk) (t := (k + 2)) rfl (dck_at tX5_copyFrom 12 rfl) ?_
  show G X F 24 _ _ _
  refine g_iconst (v := 0) hF (dck_at tX5_copyFrom 13 rfl) (by decide) ?_
  refine g_bipush (v := 8) hF (dck_at tX5_copyFrom 14 rfl) (by decide) ?_
  refine g_copy hF wm_X5_52 wv_copy wt_copy wn_J10 (ar_m hS (td_a1 hk1)) (td_a1 hk1).1 (ar_m hS (td_a1 hk)) (td_a1 hk).1 (by decide) (by rw [(td_a1 hk1).2.1]; decide) (by rw [(td_a1 hk).2.1]; decide) (by decide) rfl rfl (dck_at tX5_copyFrom 15 rfl) ?_
  show G X F 30 _ _ (cp2 (cp2 M (k1 + 1) (k + 1) 8) (k1 + 2) (k + 2) 8)
  refine g_aload_n hF (dck_at tX5_copyFrom 16 rfl) rfl ?_
  refine gf_X5_18 hF (td_m hS hk1) (td_kd hk1) (td_ln hk1) (t := (k1 + 3)) rfl (dck_at tX5_copyFrom 17 rfl) ?_
  refine g_iconst (v := 0) hF (dck_at tX5_copyFrom 18 rfl) (by decide) ?_
  refine g_aload_n hF (dck_at tX5_copyFrom 19 rfl) rfl ?_
  show G X F 36 _ _ _
  refine gf_X5_18 hF (td_m hS hk) (td_kd hk) (td_ln hk) (t := (k + 3)) rfl (dck_at tX5_copyFrom 20 rfl) ?_
  refine g_iconst (v := 0) hF (dck_at tX5_copyFrom 21 rfl) (by decide) ?_
  refine g_bipush (v := 8) hF (dck_at tX5_copyFrom 22 rfl) (by decide) ?_
  refine g_copy hF wm_X5_52 wv_copy wt_copy wn_J10 (ar_m hS (td_a2 hk1)) (td_a2 hk1).1 (ar_m hS (td_a2 hk)) (td_a2 hk).1 (by decide) (by rw [(td_a2 hk1).2.1]; decide) (by rw [(td_a2 hk).2.1]; decide) (by decide) rfl rfl (dck_at tX5_copyFrom 23 rfl) ?_
  show G X F 45 _ _ (cp2 (cp2 (cp2 M (k1 + 1) (k + 1) 8) (k1 + 2) (k + 2) 8) (k1 + 3) (k + 3) 8)
  refine g_aload_n hF (dck_at tX5_copyFrom 24 rfl) rfl ?_
  refine gf_X5_21 hF (td_m hS hk1) (td_kd hk1) (td_ln hk1) (t := (k1 + 4)) rfl (dck_at tX5_copyFrom 25 rfl) ?_
  refine g_iconst (v := 0) hF (dck_at tX5_copyFrom 26 rfl) (by decide) ?_
  show G X F 50 _ _ _
  refine g_aload_n hF (dck_at tX5_copyFrom 27 rfl) rfl ?_
  refine gf_X5_21 hF (td_m hS hk) (td_kd hk) (td_ln hk) (t := (k + 4)) rfl (dck_at tX5_copyFrom 28 rfl) ?_
  refine g_iconst (v := 0) hF (dck_at tX5_copyFrom 29 rfl) (by decide) ?_
  refine g_iconst (v := 4) hF (dck_at tX5_copyFrom 30 rfl) (by decide) ?_
  refine g_copy hF wm_X5_52 wv_copy wt_copy wn_J10 (ar_m hS (td_a3 hk1)) (td_a3 hk1).1 (ar_m hS (td_a3 hk)) (td_a3 hk).1 (by decide) (by rw [(td_a3 hk1).2.1]; decide) (by rw [(td_a3 hk).2.1]; decide) (by decide) rfl rfl (dck_at tX5_copyFrom 31 rfl) ?_
  show G X F 59 _ _ (cp2 (cp2 (cp2 (cp2 M (k1 + 1) (k + 1) 8) (k1 + 2) (k + 2) 8) (k1 + 3) (k + 3) 8) (k1 + 4) (k + 4) 4)
  refine g_aload_n hF (dck_at tX5_copyFrom 32 rfl) rfl ?_
  refine gf_X5_24 hF (td_m hS hk1) (td_kd hk1) (td_ln hk1) (t := (k1 + 5)) rfl (dck_at tX5_copyFrom 33 rfl) ?_
  show G X F 63 _ _ _
  refine g_iconst (v := 0) hF (dck_at tX5_copyFrom 34 rfl) (by decide) ?_
  refine g_aload_n hF (dck_at tX5_copyFrom 35 rfl) rfl ?_
  refine gf_X5_24 hF (td_m hS hk) (td_kd hk) (td_ln hk) (t := (k + 5)) rfl (dck_at tX5_copyFrom 36 rfl) ?_
  refine g_iconst (v := 0) hF (dck_at tX5_copyFrom 37 rfl) (by decide) ?_
  refine g_iconst (v := 4) hF (dck_at tX5_copyFrom 38 rfl) (by decide) ?_
  refine g_copy hF wm_X5_52 wv_copy wt_copy wn_J10 (ar_m hS (td_a4 hk1)) (td_a4 hk1).1 (ar_m hS (td_a4 hk)) (td_a4 hk).1 (by decide) (by rw [(td_a4 hk1).2.1]; decide) (by rw [(td_a4 hk).2.1]; decide) (by decide) rfl rfl (dck_at tX5_copyFrom 39 rfl) ?_
  show G X F 73 _ _ (cp2 (cp2 (cp2 (cp2 (cp2 M (k1 + 1) (k + 1) 8) (k1 + 2) (k + 2) 8) (k1 + 3) (k + 3) 8) (k1 + 4) (k + 4) 4) (k1 + 5) (k + 5) 4)
  refine g_aload_n hF (dck_at tX5_copyFrom 40 rfl) rfl ?_
  show G X F 74 _ _ _
  refine gf_X5_27 hF (td_m hS hk1) (td_kd hk1) (td_ln hk1) (t := (k1 + 6)) rfl (dck_at tX5_copyFrom 41 rfl) ?_
  refine g_iconst (v := 0) hF (dck_at tX5_copyFrom 42 rfl) (by decide) ?_
  refine g_aload_n hF (dck_at tX5_copyFrom 43 rfl) rfl ?_
  refine gf_X5_27 hF (td_m hS hk) (td_kd hk) (td_ln hk) (t := (k + 6)) rfl (dck_at tX5_copyFrom 44 rfl) ?_
  refine g_iconst (v := 0) hF (dck_at tX5_copyFrom 45 rfl) (by decide) ?_
  refine g_iconst (v := 4) hF (dck_at tX5_copyFrom 46 rfl) (by decide) ?_
  refine g_copy hF wm_X5_52 wv_copy wt_copy wn_J10 (ar_m hS (td_a5 hk1)) (td_a5 hk1).1 (ar_m hS (td_a5 hk)) (td_a5 hk).1 (by decide) (by rw [(td_a5 hk1).2.1]; decide) (by rw [(td_a5 hk).2.1]; decide) (by decide) rfl rfl (dck_at tX5_copyFrom 47 rfl) ?_
  show G X F 87 _ _ (cp2 (cp2 (cp2 (cp2 (cp2 (cp2 M (k1 + 1) (k + 1) 8) (k1 + 2) (k + 2) 8) (k1 + 3) (k + 3) 8) (k1 + 4) (k + 4) 4) (k1 + 5) (k + 5) 4) (k1 + 6) (k + 6) 4)
  show G X F 87 _ _ _
  refine g_aload_n hF (dck_at tX5_copyFrom 48 rfl) rfl ?_
  refine gf_X5_30 hF (td_m hS hk1) (td_kd hk1) (td_ln hk1) (t := (k1 + 7)) rfl (dck_at tX5_copyFrom 49 rfl) ?_
  refine g_iconst (v := 0) hF (dck_at tX5_copyFrom 50 rfl) (by decide) ?_
  refine g_aload_n hF (dck_at tX5_copyFrom 51 rfl) rfl ?_
  refine gf_X5_30 hF (td_m hS hk) (td_kd hk) (td_ln hk) (t := (k + 7)) rfl (dck_at tX5_copyFrom 52 rfl) ?_
  refine g_iconst (v := 0) hF (dck_at tX5_copyFrom 53 rfl) (by decide) ?_
  refine g_iconst (v := 4) hF (dck_at tX5_copyFrom 54 rfl) (by decide) ?_
  show G X F 98 _ _ _
  refine g_copy hF wm_X5_52 wv_copy wt_copy wn_J10 (ar_m hS (td_a6 hk1)) (td_a6 hk1).1 (ar_m hS (td_a6 hk)) (td_a6 hk).1 (by decide) (by rw [(td_a6 hk1).2.1]; decide) (by rw [(td_a6 hk).2.1]; decide) (by decide) rfl rfl (dck_at tX5_copyFrom 55 rfl) ?_
  show G X F 101 _ _ (cp2 (cp2 (cp2 (cp2 (cp2 (cp2 (cp2 M (k1 + 1) (k + 1) 8) (k1 + 2) (k + 2) 8) (k1 + 3) (k + 3) 8) (k1 + 4) (k + 4) 4) (k1 + 5) (k + 5) 4) (k1 + 6) (k + 6) 4) (k1 + 7) (k + 7) 4)
  refine g_aload_n hF (dck_at tX5_copyFrom 56 rfl) rfl ?_
  refine g_aload_n hF (dck_at tX5_copyFrom 57 rfl) rfl ?_
  refine gf_X5_36 hF (td_m hS hk1) (td_kd hk1) (td_ln hk1) (dck_at tX5_copyFrom 58 rfl) ?_
  refine pf_X5_36 hF (td_m hS hk) (td_kd hk) (td_ln hk) (dck_at tX5_copyFrom 59 rfl) ?_
  refine g_aload_n hF (dck_at tX5_copyFrom 60 rfl) rfl ?_
  refine g_aload_n hF (dck_at tX5_copyFrom 61 rfl) rfl ?_
  show G X F 111 _ _ _
  refine gf_X5_40 hF (td_m hS hk1) (td_kd hk1) (td_ln hk1) (dck_at tX5_copyFrom 62 rfl) ?_
  refine pf_X5_40 hF (td_m hS hk) (td_kd hk) (td_ln hk) (dck_at tX5_copyFrom 63 rfl) ?_
  refine g_aload_n hF (dck_at tX5_copyFrom 64 rfl) rfl ?_
  refine g_aload_n hF (dck_at tX5_copyFrom 65 rfl) rfl ?_
  refine gf_X5_43 hF (td_m hS hk1) (td_kd hk1) (td_ln hk1) (dck_at tX5_copyFrom 66 rfl) ?_
  refine pf_X5_43 hF (td_m hS hk) (td_kd hk) (td_ln hk) (dck_at tX5_copyFrom 67 rfl) ?_
  refine g_aload_n hF (dck_at tX5_copyFrom 68 rfl) rfl ?_
  show G X F 126 _ _ _
  refine g_aload_n hF (dck_at tX5_copyFrom 69 rfl) rfl ?_
  refine gf_X5_46 hF (td_m hS hk1) (td_kd hk1) (td_ln hk1) (dck_at tX5_copyFrom 70 rfl) ?_
  refine pf_X5_46 hF (td_m hS hk) (td_kd hk) (td_ln hk) (dck_at tX5_copyFrom 71 rfl) ?_
  refine g_aload_n hF (dck_at tX5_copyFrom 72 rfl) rfl ?_
  refine g_aload_n hF (dck_at tX5_copyFrom 73 rfl) rfl ?_
  refine gf_X5_49 hF (td_m hS hk1) (td_kd hk1) (td_ln hk1) (dck_at tX5_copyFrom 74 rfl) ?_
  refine pf_X5_49 hF (td_m hS hk) (td_kd hk) (td_ln hk) (dck_at tX5_copyFrom 75 rfl) ?_
  show G X F 141 _ _ _
  cases h
  exact g_vret hF hR (dck_at tX5_copyFrom 76 rfl)

def tbX5_hasRoomFor : List (Nat × Instr × Nat) := [(0, .iload_n 1, 1), (1, .iconst 1, 1), (2, .if_icmp .ne 18, 3), (5, .aload_n 0, 1), (6, .getfield 36, 3), (9, .bipush 8, 2), (11, .if_icmp .ge 7, 3), (14, .iconst 1, 1), (15, .goto 4, 3), (18, .iconst 0, 1), (19, .ireturn, 1), (20, .iload_n 1, 1), (21, .iconst 2, 1), (22, .if_icmp .ne 11, 3), (25, .aload_n 0, 1), (26, .getfield 40, 3), (29, .iconst 4, 1), (30, .if_icmp .ge 7, 3), (33, .iconst 1, 1), (34, .goto 4, 3), (37, .iconst 0, 1), (38, .ireturn, 1)]
theorem tX5_hasRoomFor : dck cX5_hasRoomFor tbX5_hasRoomFor = true := by decide +kernel
def f_X5_hasRoomFor (N : Nat) (M : Mem) (k : Nat) (x1 : Int32) : Option Int32 := (if x1 = (1 : Int32) then (if (8 : Int32) ≤ (M k 7) then some (0 : Int32) else some (1 : Int32)) else (if x1 = (2 : Int32) then (if (4 : Int32) ≤ (M k 8) then some (0 : Int32) else some (1 : Int32)) else some (1 : Int32)))
set_option maxHeartbeats 4000000 in
set_option maxRecDepth 100000 in
theorem c_X5_hasRoomFor {X : Cx} {l : Launch} (hX : CxOk X) (hS : SC X) {N : Nat} {M : Mem} {k : Nat} {x1 : Int32} (hk : td k) {r : Int32} (h : f_X5_hasRoomFor N M k x1 = some r) : Ctr X l yX5_hasRoomFor cX5_hasRoomFor 2 (some .boolean) 1 [.ref k, .int x1] M (some (.int r)) M := by
  refine Ctr.ofG (L := [some (.ref k), some (.int x1)]) hX (by decide) (Nat.le_of_ble_eq_true rfl) rfl (fun F hF hl hR => ?_)
  subst hl
  unfold f_X5_hasRoomFor at h
  refine g_iload_n hF (dck_at tX5_hasRoomFor 0 rfl) rfl ?_
  refine g_iconst (v := 1) hF (dck_at tX5_hasRoomFor 1 rfl) (by decide) ?_
  refine g_icmp_ne hF 20 (dck_at tX5_hasRoomFor 2 rfl) (by decide) (fun hc2 => ?_) (fun hc2 => ?_)
  · replace h := ite_f hc2 h
    refine g_iload_n hF (dck_at tX5_hasRoomFor 11 rfl) rfl ?_
    refine g_iconst (v := 2) hF (dck_at tX5_hasRoomFor 12 rfl) (by decide) ?_
    refine g_icmp_ne hF 33 (dck_at tX5_hasRoomFor 13 rfl) (by decide) (fun hc22 => ?_) (fun hc22 => ?_)
    · replace h := ite_f hc22 h
      refine g_iconst (v := 1) hF (dck_at tX5_hasRoomFor 18 rfl) (by decide) ?_
      refine g_goto hF 38 (dck_at tX5_hasRoomFor 19 rfl) (by decide) ?_
      cases h
      exact g_zret hF hR rfl (dck_at tX5_hasRoomFor 21 rfl)
    · replace h := ite_t hc22 h
      refine g_aload_n hF (dck_at tX5_hasRoomFor 14 rfl) rfl ?_
      refine gf_X5_40 hF (td_m hS hk) (td_kd hk) (td_ln hk) (dck_at tX5_hasRoomFor 15 rfl) ?_
      refine g_iconst (v := 4) hF (dck_at tX5_hasRoomFor 16 rfl) (by decide) ?_
      refine g_icmp_ge hF 37 (dck_at tX5_hasRoomFor 17 rfl) (by decide) (fun hc30 => ?_) (fun hc30 => ?_)
      · replace h := ite_t hc30 h
        refine g_iconst (v := 0) hF (dck_at tX5_hasRoomFor 20 rfl) (by decide) ?_
        cases h
        exact g_zret hF hR rfl (dck_at tX5_hasRoomFor 21 rfl)
      · replace h := ite_f hc30 h
        refine g_iconst (v := 1) hF (dck_at tX5_hasRoomFor 18 rfl) (by decide) ?_
        refine g_goto hF 38 (dck_at tX5_hasRoomFor 19 rfl) (by decide) ?_
        cases h
        exact g_zret hF hR rfl (dck_at tX5_hasRoomFor 21 rfl)
  · replace h := ite_t hc2 h
    refine g_aload_n hF (dck_at tX5_hasRoomFor 3 rfl) rfl ?_
    refine gf_X5_36 hF (td_m hS hk) (td_kd hk) (td_ln hk) (dck_at tX5_hasRoomFor 4 rfl) ?_
    refine g_bipush (v := 8) hF (dck_at tX5_hasRoomFor 5 rfl) (by decide) ?_
    refine g_icmp_ge hF 18 (dck_at tX5_hasRoomFor 6 rfl) (by decide) (fun hc11 => ?_) (fun hc11 => ?_)
    · replace h := ite_t hc11 h
      refine g_iconst (v := 0) hF (dck_at tX5_hasRoomFor 9 rfl) (by decide) ?_
      cases h
      exact g_zret hF hR rfl (dck_at tX5_hasRoomFor 10 rfl)
    · replace h := ite_f hc11 h
      refine g_iconst (v := 1) hF (dck_at tX5_hasRoomFor 7 rfl) (by decide) ?_
      refine g_goto hF 19 (dck_at tX5_hasRoomFor 8 rfl) (by decide) ?_
      cases h
      exact g_zret hF hR rfl (dck_at tX5_hasRoomFor 10 rfl)

def tbX5_beAsAtFirst : List (Nat × Instr × Nat) := [(0, .aload_n 0, 1), (1, .iconst 0, 1), (2, .putfield 36, 3), (5, .aload_n 0, 1), (6, .iconst 0, 1), (7, .putfield 40, 3), (10, .aload_n 0, 1), (11, .bipush 10, 2), (13, .putfield 43, 3), (16, .aload_n 0, 1), (17, .bipush 60, 2), (19, .putfield 46, 3), (22, .aload_n 0, 1), (23, .iconst 1, 1), (24, .putfield 49, 3), (27, .return_, 1)]
theorem tX5_beAsAtFirst : dck cX5_beAsAtFirst tbX5_beAsAtFirst = true := by decide +kernel
def f_X5_beAsAtFirst (N : Nat) (M : Mem) (k : Nat) : Option Mem := some (up2 (up2 (up2 (up2 (up2 M k 7 (0 : Int32)) k 8 (0 : Int32)) k 9 (10 : Int32)) k 10 (60 : Int32)) k 11 (1 : Int32))
set_option maxHeartbeats 4000000 in
set_option maxRecDepth 100000 in
theorem c_X5_beAsAtFirst {X : Cx} {l : Launch} (hX : CxOk X) (hS : SC X) {N : Nat} {M : Mem} {k : Nat} (hk : td k) {M' : Mem} (h : f_X5_beAsAtFirst N M k = some M') : Ctr X l yX5_beAsAtFirst cX5_beAsAtFirst 1 none 1 [.ref k] M none M' := by
  refine Ctr.ofG (L := [some (.ref k)]) hX (by decide) (Nat.le_of_ble_eq_true rfl) rfl (fun F hF hl hR => ?_)
  subst hl
  unfold f_X5_beAsAtFirst at h
  refine g_aload_n hF (dck_at tX5_beAsAtFirst 0 rfl) rfl ?_
  refine g_iconst (v := 0) hF (dck_at tX5_beAsAtFirst 1 rfl) (by decide) ?_
  refine pf_X5_36 hF (td_m hS hk) (td_kd hk) (td_ln hk) (dck_at tX5_beAsAtFirst 2 rfl) ?_
  refine g_aload_n hF (dck_at tX5_beAsAtFirst 3 rfl) rfl ?_
  refine g_iconst (v := 0) hF (dck_at tX5_beAsAtFirst 4 rfl) (by decide) ?_
  refine pf_X5_40 hF (td_m hS hk) (td_kd hk) (td_ln hk) (dck_at tX5_beAsAtFirst 5 rfl) ?_
  show G X F 10 _ _ _
  refine g_aload_n hF (dck_at tX5_beAsAtFirst 6 rfl) rfl ?_
  refine g_bipush (v := 10) hF (dck_at tX5_beAsAtFirst 7 rfl) (by decide) ?_
  refine pf_X5_43 hF (td_m hS hk) (td_kd hk) (td_ln hk) (dck_at tX5_beAsAtFirst 8 rfl) ?_
  refine g_aload_n hF (dck_at tX5_beAsAtFirst 9 rfl) rfl ?_
  refine g_bipush (v := 60) hF (dck_at tX5_beAsAtFirst 10 rfl) (by decide) ?_
  refine pf_X5_46 hF (td_m hS hk) (td_kd hk) (td_ln hk) (dck_at tX5_beAsAtFirst 11 rfl) ?_
  refine g_aload_n hF (dck_at tX5_beAsAtFirst 12 rfl) rfl ?_
  show G X F 23 _ _ _
  refine g_iconst (v := 1) hF (dck_at tX5_beAsAtFirst 13 rfl) (by decide) ?_
  refine pf_X5_49 hF (td_m hS hk) (td_kd hk) (td_ln hk) (dck_at tX5_beAsAtFirst 14 rfl) ?_
  cases h
  exact g_vret hF hR (dck_at tX5_beAsAtFirst 15 rfl)

def tbX5_addClapper : List (Nat × Instr × Nat) := [(0, .aload_n 0, 1), (1, .getfield 36, 3), (4, .bipush 8, 2), (6, .if_icmp .ge 47, 3), (9, .aload_n 0, 1), (10, .getfield 9, 3), (13, .aload_n 0, 1), (14, .getfield 36, 3), (17, .iload_n 1, 1), (18, .iastore, 1), (19, .aload_n 0, 1), (20, .getfield 15, 3), (23, .aload_n 0, 1), (24, .getfield 36, 3), (27, .aload_n 2, 1), (28, .iconst 0, 1), (29, .iaload, 1), (30, .iastore, 1), (31, .aload_n 0, 1), (32, .getfield 18, 3), (35, .aload_n 0, 1), (36, .getfield 36, 3), (39, .aload_n 2, 1), (40, .iconst 1, 1), (41, .iaload, 1), (42, .iastore, 1), (43, .aload_n 0, 1), (44, .dup, 1), (45, .getfield 36, 3), (48, .iconst 1, 1), (49, .iadd, 1), (50, .putfield 36, 3), (53, .return_, 1)]
theorem tX5_addClapper : dck cX5_addClapper tbX5_addClapper = true := by decide +kernel
def f_X5_addClapper (N : Nat) (M : Mem) (k : Nat) (x1 : Int32) (k2 : Nat) : Option Mem := (if (8 : Int32) ≤ (M k 7) then some M else if inb (M k 7) 8 = true then if inb ((up2 M (k + 1) (M k 7).toNatClampNeg x1) k 7) 8 = true then if inb ((up2 (up2 M (k + 1) (M k 7).toNatClampNeg x1) (k + 2) ((up2 M (k + 1) (M k 7).toNatClampNeg x1) k 7).toNatClampNeg ((up2 M (k + 1) (M k 7).toNatClampNeg x1) k2 0)) k 7) 8 = true then some (up2 (up2 (up2 (up2 M (k + 1) (M k 7).toNatClampNeg x1) (k + 2) ((up2 M (k + 1) (M k 7).toNatClampNeg x1) k 7).toNatClampNeg ((up2 M (k + 1) (M k 7).toNatClampNeg x1) k2 0)) (k + 3) ((up2 (up2 M (k + 1) (M k 7).toNatClampNeg x1) (k + 2) ((up2 M (k + 1) (M k 7).toNatClampNeg x1) k 7).toNatClampNeg ((up2 M (k + 1) (M k 7).toNatClampNeg x1) k2 0)) k 7).toNatClampNeg ((up2 (up2 M (k + 1) (M k 7).toNatClampNeg x1) (k + 2) ((up2 M (k + 1) (M k 7).toNatClampNeg x1) k 7).toNatClampNeg ((up2 M (k + 1) (M k 7).toNatClampNeg x1) k2 0)) k2 1)) k 7 (((up2 (up2 (up2 M (k + 1) (M k 7).toNatClampNeg x1) (k + 2) ((up2 M (k + 1) (M k 7).toNatClampNeg x1) k 7).toNatClampNeg ((up2 M (k + 1) (M k 7).toNatClampNeg x1) k2 0)) (k + 3) ((up2 (up2 M (k + 1) (M k 7).toNatClampNeg x1) (k + 2) ((up2 M (k + 1) (M k 7).toNatClampNeg x1) k 7).toNatClampNeg ((up2 M (k + 1) (M k 7).toNatClampNeg x1) k2 0)) k 7).toNatClampNeg ((up2 (up2 M (k + 1) (M k 7).toNatClampNeg x1) (k + 2) ((up2 M (k + 1) (M k 7).toNatClampNeg x1) k 7).toNatClampNeg ((up2 M (k + 1) (M k 7).toNatClampNeg x1) k2 0)) k2 1)) k 7) + (1 : Int32))) else none else none else none)
set_option maxHeartbeats 4000000 in
set_option maxRecDepth 100000 in
theorem c_X5_addClapper {X : Cx} {l : Launch} (hX : CxOk X) (hS : SC X) {N : Nat} {M : Mem} {k : Nat} {x1 : Int32} {k2 : Nat} (hk : td k) (hk2 : ar 3 k2) {M' : Mem} (h : f_X5_addClapper N M k x1 k2 = some M') : Ctr X l yX5_addClapper cX5_addClapper 3 none 1 [.ref k, .int x1, .ref k2] M none M' := by
  refine Ctr.ofG (L := [some (.ref k), some (.int x1), some (.ref k2)]) hX (by decide) (Nat.le_of_ble_eq_true rfl) rfl (fun F hF hl hR => ?_)
  subst hl
  unfold f_X5_addClapper at h
  refine g_aload_n hF (dck_at tX5_addClapper 0 rfl) rfl ?_
  refine gf_X5_36 hF (td_m hS hk) (td_kd hk) (td_ln hk) (dck_at tX5_addClapper 1 rfl) ?_
  refine g_bipush (v := 8) hF (dck_at tX5_addClapper 2 rfl) (by decide) ?_
  refine g_icmp_ge hF 53 (dck_at tX5_addClapper 3 rfl) (by decide) (fun hc6 => ?_) (fun hc6 => ?_)
  · replace h := ite_t hc6 h
    cases h
    exact g_vret hF hR (dck_at tX5_addClapper 32 rfl)
  · replace h := ite_f hc6 h
    refine g_aload_n hF (dck_at tX5_addClapper 4 rfl) rfl ?_
    refine gf_X5_9 hF (td_m hS hk) (td_kd hk) (td_ln hk) (t := (k + 1)) rfl (dck_at tX5_addClapper 5 rfl) ?_
    refine g_aload_n hF (dck_at tX5_addClapper 6 rfl) rfl ?_
    refine gf_X5_36 hF (td_m hS hk) (td_kd hk) (td_ln hk) (dck_at tX5_addClapper 7 rfl) ?_
    refine g_iload_n hF (dck_at tX5_addClapper 8 rfl) rfl ?_
    obtain ⟨hg18, h⟩ := gd h
    refine g_is hF (ar_m hS (td_a0 hk)) (td_a0 hk).1 (td_a0 hk).2.1 hg18 (dck_at tX5_addClapper 9 rfl) ?_
    show G X F 19 _ _ _
    refine g_aload_n hF (dck_at tX5_addClapper 10 rfl) rfl ?_
    refine gf_X5_15 hF (td_m hS hk) (td_kd hk) (td_ln hk) (t := (k + 2)) rfl (dck_at tX5_addClapper 11 rfl) ?_
    refine g_aload_n hF (dck_at tX5_addClapper 12 rfl) rfl ?_
    refine gf_X5_36 hF (td_m hS hk) (td_kd hk) (td_ln hk) (dck_at tX5_addClapper 13 rfl) ?_
    refine g_aload_n hF (dck_at tX5_addClapper 14 rfl) rfl ?_
    refine g_iconst (v := 0) hF (dck_at tX5_addClapper 15 rfl) (by decide) ?_
    refine g_iac (j := 0) hF (ar_m hS hk2) hk2.1 hk2.2.1 (by decide) (by decide) (dck_at tX5_addClapper 16 rfl) ?_
    show G X F 30 _ _ _
    obtain ⟨hg30, h⟩ := gd h
    refine g_is hF (ar_m hS (td_a1 hk)) (td_a1 hk).1 (td_a1 hk).2.1 hg30 (dck_at tX5_addClapper 17 rfl) ?_
    refine g_aload_n hF (dck_at tX5_addClapper 18 rfl) rfl ?_
    refine gf_X5_18 hF (td_m hS hk) (td_kd hk) (td_ln hk) (t := (k + 3)) rfl (dck_at tX5_addClapper 19 rfl) ?_
    refine g_aload_n hF (dck_at tX5_addClapper 20 rfl) rfl ?_
    refine gf_X5_36 hF (td_m hS hk) (td_kd hk) (td_ln hk) (dck_at tX5_addClapper 21 rfl) ?_
    refine g_aload_n hF (dck_at tX5_addClapper 22 rfl) rfl ?_
    refine g_iconst (v := 1) hF (dck_at tX5_addClapper 23 rfl) (by decide) ?_
    show G X F 41 _ _ _
    refine g_iac (j := 1) hF (ar_m hS hk2) hk2.1 hk2.2.1 (by decide) (by decide) (dck_at tX5_addClapper 24 rfl) ?_
    obtain ⟨hg42, h⟩ := gd h
    refine g_is hF (ar_m hS (td_a2 hk)) (td_a2 hk).1 (td_a2 hk).2.1 hg42 (dck_at tX5_addClapper 25 rfl) ?_
    refine g_aload_n hF (dck_at tX5_addClapper 26 rfl) rfl ?_
    refine g_dup hF (dck_at tX5_addClapper 27 rfl) rfl ?_
    refine gf_X5_36 hF (td_m hS hk) (td_kd hk) (td_ln hk) (dck_at tX5_addClapper 28 rfl) ?_
    refine g_iconst (v := 1) hF (dck_at tX5_addClapper 29 rfl) (by decide) ?_
    refine g_iadd hF (dck_at tX5_addClapper 30 rfl) ?_
    show G X F 50 _ _ _
    refine pf_X5_36 hF (td_m hS hk) (td_kd hk) (td_ln hk) (dck_at tX5_addClapper 31 rfl) ?_
    cases h
    exact g_vret hF hR (dck_at tX5_addClapper 32 rfl)

def tbX5_addEncore : List (Nat × Instr × Nat) := [(0, .aload_n 0, 1), (1, .getfield 40, 3), (4, .iconst 4, 1), (5, .if_icmp .ge 59, 3), (8, .aload_n 0, 1), (9, .getfield 21, 3), (12, .aload_n 0, 1), (13, .getfield 40, 3), (16, .iload_n 1, 1), (17, .iastore, 1), (18, .aload_n 0, 1), (19, .getfield 24, 3), (22, .aload_n 0, 1), (23, .getfield 40, 3), (26, .aload_n 2, 1), (27, .iconst 0, 1), (28, .iaload, 1), (29, .iastore, 1), (30, .aload_n 0, 1), (31, .getfield 27, 3), (34, .aload_n 0, 1), (35, .getfield 40, 3), (38, .aload_n 2, 1), (39, .iconst 1, 1), (40, .iaload, 1), (41, .iastore, 1), (42, .aload_n 0, 1), (43, .getfield 30, 3), (46, .aload_n 0, 1), (47, .getfield 40, 3), (50, .aload_n 2, 1), (51, .iconst 2, 1), (52, .iaload, 1), (53, .iastore, 1), (54, .aload_n 0, 1), (55, .dup, 1), (56, .getfield 40, 3), (59, .iconst 1, 1), (60, .iadd, 1), (61, .putfield 40, 3), (64, .return_, 1)]
theorem tX5_addEncore : dck cX5_addEncore tbX5_addEncore = true := by decide +kernel
def f_X5_addEncore (N : Nat) (M : Mem) (k : Nat) (x1 : Int32) (k2 : Nat) : Option Mem := (if (4 : Int32) ≤ (M k 8) then some M else if inb (M k 8) 4 = true then if inb ((up2 M (k + 4) (M k 8).toNatClampNeg x1) k 8) 4 = true then if inb ((up2 (up2 M (k + 4) (M k 8).toNatClampNeg x1) (k + 5) ((up2 M (k + 4) (M k 8).toNatClampNeg x1) k 8).toNatClampNeg ((up2 M (k + 4) (M k 8).toNatClampNeg x1) k2 0)) k 8) 4 = true then if inb ((up2 (up2 (up2 M (k + 4) (M k 8).toNatClampNeg x1) (k + 5) ((up2 M (k + 4) (M k 8).toNatClampNeg x1) k 8).toNatClampNeg ((up2 M (k + 4) (M k 8).toNatClampNeg x1) k2 0)) (k + 6) ((up2 (up2 M (k + 4) (M k 8).toNatClampNeg x1) (k + 5) ((up2 M (k + 4) (M k 8).toNatClampNeg x1) k 8).toNatClampNeg ((up2 M (k + 4) (M k 8).toNatClampNeg x1) k2 0)) k 8).toNatClampNeg ((up2 (up2 M (k + 4) (M k 8).toNatClampNeg x1) (k + 5) ((up2 M (k + 4) (M k 8).toNatClampNeg x1) k 8).toNatClampNeg ((up2 M (k + 4) (M k 8).toNatClampNeg x1) k2 0)) k2 1)) k 8) 4 = true then some (up2 (up2 (up2 (up2 (up2 M (k + 4) (M k 8).toNatClampNeg x1) (k + 5) ((up2 M (k + 4) (M k 8).toNatClampNeg x1) k 8).toNatClampNeg ((up2 M (k + 4) (M k 8).toNatClampNeg x1) k2 0)) (k + 6) ((up2 (up2 M (k + 4) (M k 8).toNatClampNeg x1) (k + 5) ((up2 M (k + 4) (M k 8).toNatClampNeg x1) k 8).toNatClampNeg ((up2 M (k + 4) (M k 8).toNatClampNeg x1) k2 0)) k 8).toNatClampNeg ((up2 (up2 M (k + 4) (M k 8).toNatClampNeg x1) (k + 5) ((up2 M (k + 4) (M k 8).toNatClampNeg x1) k 8).toNatClampNeg ((up2 M (k + 4) (M k 8).toNatClampNeg x1) k2 0)) k2 1)) (k + 7) ((up2 (up2 (up2 M (k + 4) (M k 8).toNatClampNeg x1) (k + 5) ((up2 M (k + 4) (M k 8).toNatClampNeg x1) k 8).toNatClampNeg ((up2 M (k + 4) (M k 8).toNatClampNeg x1) k2 0)) (k + 6) ((up2 (up2 M (k + 4) (M k 8).toNatClampNeg x1) (k + 5) ((up2 M (k + 4) (M k 8).toNatClampNeg x1) k 8).toNatClampNeg ((up2 M (k + 4) (M k 8).toNatClampNeg x1) k2 0)) k 8).toNatClampNeg ((up2 (up2 M (k + 4) (M k 8).toNatClampNeg x1) (k + 5) ((up2 M (k + 4) (M k 8).toNatClampNeg x1) k 8).toNatClampNeg ((up2 M (k + 4) (M k 8).toNatClampNeg x1) k2 0)) k2 1)) k 8).toNatClampNeg ((up2 (up2 (up2 M (k + 4) (M k 8).toNatClampNeg x1) (k + 5) ((up2 M (k + 4) (M k 8).toNatClampNeg x1) k 8).toNatClampNeg ((up2 M (k + 4) (M k 8).toNatClampNeg x1) k2 0)) (k + 6) ((up2 (up2 M (k + 4) (M k 8).toNatClampNeg x1) (k + 5) ((up2 M (k + 4) (M k 8).toNatClampNeg x1) k 8).toNatClampNeg ((up2 M (k + 4) (M k 8).toNatClampNeg x1) k2 0)) k 8).toNatClampNeg ((up2 (up2 M (k + 4) (M k 8).toNatClampNeg x1) (k + 5) ((up2 M (k + 4) (M k 8).toNatClampNeg x1) k 8).toNatClampNeg ((up2 M (k + 4) (M k 8).toNatClampNeg x1) k2 0)) k2 1)) k2 2)) k 8 (((up2 (up2 (up2 (up2 M (k + 4) (M k 8).toNatClampNeg x1) (k + 5) ((up2 M (k + 4) (M k 8).toNatClampNeg x1) k 8).toNatClampNeg ((up2 M (k + 4) (M k 8).toNatClampNeg x1) k2 0)) (k + 6) ((up2 (up2 M (k + 4) (M k 8).toNatClampNeg x1) (k + 5) ((up2 M (k + 4) (M k 8).toNatClampNeg x1) k 8).toNatClampNeg ((up2 M (k + 4) (M k 8).toNatClampNeg x1) k2 0)) k 8).toNatClampNeg ((up2 (up2 M (k + 4) (M k 8).toNatClampNeg x1) (k + 5) ((up2 M (k + 4) (M k 8).toNatClampNeg x1) k 8).toNatClampNeg ((up2 M (k + 4) (M k 8).toNatClampNeg x1) k2 0)) k2 1)) (k + 7) ((up2 (up2 (up2 M (k + 4) (M k 8).toNatClampNeg x1) (k + 5) ((up2 M (k + 4) (M k 8).toNatClampNeg x1) k 8).toNatClampNeg ((up2 M (k + 4) (M k 8).toNatClampNeg x1) k2 0)) (k + 6) ((up2 (up2 M (k + 4) (M k 8).toNatClampNeg x1) (k + 5) ((up2 M (k + 4) (M k 8).toNatClampNeg x1) k 8).toNatClampNeg ((up2 M (k + 4) (M k 8).toNatClampNeg x1) k2 0)) k 8).toNatClampNeg ((up2 (up2 M (k + 4) (M k 8).toNatClampNeg x1) (k + 5) ((up2 M (k + 4) (M k 8).toNatClampNeg x1) k 8).toNatClampNeg ((up2 M (k + 4) (M k 8).toNatClampNeg x1) k2 0)) k2 1)) k 8).toNatClampNeg ((up2 (up2 (up2 M (k + 4) (M k 8).toNatClampNeg x1) (k + 5) ((up2 M (k + 4) (M k 8).toNatClampNeg x1) k 8).toNatClampNeg ((up2 M (k + 4) (M k 8).toNatClampNeg x1) k2 0)) (k + 6) ((up2 (up2 M (k + 4) (M k 8).toNatClampNeg x1) (k + 5) ((up2 M (k + 4) (M k 8).toNatClampNeg x1) k 8).toNatClampNeg ((up2 M (k + 4) (M k 8).toNatClampNeg x1) k2 0)) k 8).toNatClampNeg ((up2 (up2 M (k + 4) (M k 8).toNatClampNeg x1) (k + 5) ((up2 M (k + 4) (M k 8).toNatClampNeg x1) k 8).toNatClampNeg ((up2 M (k + 4) (M k 8).toNatClampNeg x1) k2 0)) k2 1)) k2 2)) k 8) + (1 : Int32))) else none else none else none else none)
set_option maxHeartbeats 4000000 in
set_option maxRecDepth 100000 in
theorem c_X5_addEncore {X : Cx} {l : Launch} (hX : CxOk X) (hS : SC X) {N : Nat} {M : Mem} {k : Nat} {x1 : Int32} {k2 : Nat} (hk : td k) (hk2 : ar 3 k2) {M' : Mem} (h : f_X5_addEncore N M k x1 k2 = some M') : Ctr X l yX5_addEncore cX5_addEncore 3 none 1 [.ref k, .int x1, .ref k2] M none M' := by
  refine Ctr.ofG (L := [some (.ref k), some (.int x1), some (.ref k2)]) hX (by decide) (Nat.le_of_ble_eq_true rfl) rfl (fun F hF hl hR => ?_)
  subst hl
  unfold f_X5_addEncore at h
  refine g_aload_n hF (dck_at tX5_addEncore 0 rfl) rfl ?_
  refine gf_X5_40 hF (td_m hS hk) (td_kd hk) (td_ln hk) (dck_at tX5_addEncore 1 rfl) ?_
  refine g_iconst (v := 4) hF (dck_at tX5_addEncore 2 rfl) (by decide) ?_
  refine g_icmp_ge hF 64 (dck_at tX5_addEncore 3 rfl) (by decide) (fun hc5 => ?_) (fun hc5 => ?_)
  · replace h := ite_t hc5 h
    cases h
    exact g_vret hF hR (dck_at tX5_addEncore 40 rfl)
  · replace h := ite_f hc5 h
    refine g_aload_n hF (dck_at tX5_addEncore 4 rfl) rfl ?_
    refine gf_X5_21 hF (td_m hS hk) (td_kd hk) (td_ln hk) (t := (k + 4)) rfl (dck_at tX5_addEncore 5 rfl) ?_
    refine g_aload_n hF (dck_at tX5_addEncore 6 rfl) rfl ?_
    refine gf_X5_40 hF (td_m hS hk) (td_kd hk) (td_ln hk) (dck_at tX5_addEncore 7 rfl) ?_
    refine g_iload_n hF (dck_at tX5_addEncore 8 rfl) rfl ?_
    obtain ⟨hg17, h⟩ := gd h
    refine g_is hF (ar_m hS (td_a3 hk)) (td_a3 hk).1 (td_a3 hk).2.1 hg17 (dck_at tX5_addEncore 9 rfl) ?_
    show G X F 18 _ _ _
    refine g_aload_n hF (dck_at tX5_addEncore 10 rfl) rfl ?_
    refine gf_X5_24 hF (td_m hS hk) (td_kd hk) (td_ln hk) (t := (k + 5)) rfl (dck_at tX5_addEncore 11 rfl) ?_
    refine g_aload_n hF (dck_at tX5_addEncore 12 rfl) rfl ?_
    refine gf_X5_40 hF (td_m hS hk) (td_kd hk) (td_ln hk) (dck_at tX5_addEncore 13 rfl) ?_
    refine g_aload_n hF (dck_at tX5_addEncore 14 rfl) rfl ?_
    refine g_iconst (v := 0) hF (dck_at tX5_addEncore 15 rfl) (by decide) ?_
    refine g_iac (j := 0) hF (ar_m hS hk2) hk2.1 hk2.2.1 (by decide) (by decide) (dck_at tX5_addEncore 16 rfl) ?_
    show G X F 29 _ _ _
    obtain ⟨hg29, h⟩ := gd h
    refine g_is hF (ar_m hS (td_a4 hk)) (td_a4 hk).1 (td_a4 hk).2.1 hg29 (dck_at tX5_addEncore 17 rfl) ?_
    refine g_aload_n hF (dck_at tX5_addEncore 18 rfl) rfl ?_
    refine gf_X5_27 hF (td_m hS hk) (td_kd hk) (td_ln hk) (t := (k + 6)) rfl (dck_at tX5_addEncore 19 rfl) ?_
    refine g_aload_n hF (dck_at tX5_addEncore 20 rfl) rfl ?_
    refine gf_X5_40 hF (td_m hS hk) (td_kd hk) (td_ln hk) (dck_at tX5_addEncore 21 rfl) ?_
    refine g_aload_n hF (dck_at tX5_addEncore 22 rfl) rfl ?_
    refine g_iconst (v := 1) hF (dck_at tX5_addEncore 23 rfl) (by decide) ?_
    show G X F 40 _ _ _
    refine g_iac (j := 1) hF (ar_m hS hk2) hk2.1 hk2.2.1 (by decide) (by decide) (dck_at tX5_addEncore 24 rfl) ?_
    obtain ⟨hg41, h⟩ := gd h
    refine g_is hF (ar_m hS (td_a5 hk)) (td_a5 hk).1 (td_a5 hk).2.1 hg41 (dck_at tX5_addEncore 25 rfl) ?_
    refine g_aload_n hF (dck_at tX5_addEncore 26 rfl) rfl ?_
    refine gf_X5_30 hF (td_m hS hk) (td_kd hk) (td_ln hk) (t := (k + 7)) rfl (dck_at tX5_addEncore 27 rfl) ?_
    refine g_aload_n hF (dck_at tX5_addEncore 28 rfl) rfl ?_
    refine gf_X5_40 hF (td_m hS hk) (td_kd hk) (td_ln hk) (dck_at tX5_addEncore 29 rfl) ?_
    refine g_aload_n hF (dck_at tX5_addEncore 30 rfl) rfl ?_
    show G X F 51 _ _ _
    refine g_iconst (v := 2) hF (dck_at tX5_addEncore 31 rfl) (by decide) ?_
    refine g_iac (j := 2) hF (ar_m hS hk2) hk2.1 hk2.2.1 (by decide) (by decide) (dck_at tX5_addEncore 32 rfl) ?_
    obtain ⟨hg53, h⟩ := gd h
    refine g_is hF (ar_m hS (td_a6 hk)) (td_a6 hk).1 (td_a6 hk).2.1 hg53 (dck_at tX5_addEncore 33 rfl) ?_
    refine g_aload_n hF (dck_at tX5_addEncore 34 rfl) rfl ?_
    refine g_dup hF (dck_at tX5_addEncore 35 rfl) rfl ?_
    refine gf_X5_40 hF (td_m hS hk) (td_kd hk) (td_ln hk) (dck_at tX5_addEncore 36 rfl) ?_
    refine g_iconst (v := 1) hF (dck_at tX5_addEncore 37 rfl) (by decide) ?_
    show G X F 60 _ _ _
    refine g_iadd hF (dck_at tX5_addEncore 38 rfl) ?_
    refine pf_X5_40 hF (td_m hS hk) (td_kd hk) (td_ln hk) (dck_at tX5_addEncore 39 rfl) ?_
    cases h
    exact g_vret hF hR (dck_at tX5_addEncore 40 rfl)

def tbX5_carryOut : List (Nat × Instr × Nat) := [(0, .iload_n 1, 1), (1, .tableswitch 94 0 5 #[39, 46, 55, 64, 74, 84], 39), (40, .aload_n 0, 1), (41, .invokevirtual 33, 3), (44, .goto 56, 3), (47, .aload_n 0, 1), (48, .iload_n 2, 1), (49, .aload_n 3, 1), (50, .invokevirtual 62, 3), (53, .goto 47, 3), (56, .aload_n 0, 1), (57, .iload_n 2, 1), (58, .aload_n 3, 1), (59, .invokevirtual 66, 3), (62, .goto 38, 3), (65, .aload_n 0, 1), (66, .aload_n 3, 1), (67, .iconst 0, 1), (68, .iaload, 1), (69, .putfield 43, 3), (72, .goto 28, 3), (75, .aload_n 0, 1), (76, .aload_n 3, 1), (77, .iconst 0, 1), (78, .iaload, 1), (79, .putfield 46, 3), (82, .goto 18, 3), (85, .aload_n 0, 1), (86, .aload_n 3, 1), (87, .iconst 0, 1), (88, .iaload, 1), (89, .putfield 49, 3), (92, .goto 8, 3), (95, .aload_n 0, 1), (96, .iconst 0, 1), (97, .putfield 36, 3), (100, .return_, 1)]
theorem tX5_carryOut : dck cX5_carryOut tbX5_carryOut = true := by decide +kernel
def f_X5_carryOut (N : Nat) (M : Mem) (k : Nat) (x1 : Int32) (x2 : Int32) (k3 : Nat) : Option Mem := (if x1 = 0 then (f_X5_beAsAtFirst N M k).bind fun q41 => some q41 else (if x1 = 1 then (f_X5_addClapper N M k x2 k3).bind fun q50 => some q50 else (if x1 = 2 then (f_X5_addEncore N M k x2 k3).bind fun q59 => some q59 else (if x1 = 3 then some (up2 M k 9 (M k3 0)) else (if x1 = 4 then some (up2 M k 10 (M k3 0)) else (if x1 = 5 then some (up2 M k 11 (M k3 0)) else some (up2 M k 7 (0 : Int32))))))))
set_option maxHeartbeats 4000000 in
set_option maxRecDepth 100000 in
theorem c_X5_carryOut {X : Cx} {l : Launch} (hX : CxOk X) (hS : SC X) {N : Nat} {M : Mem} {k : Nat} {x1 : Int32} {x2 : Int32} {k3 : Nat} (hk : td k) (hk3 : ar 3 k3) {M' : Mem} (h : f_X5_carryOut N M k x1 x2 k3 = some M') : Ctr X l yX5_carryOut cX5_carryOut 4 none 2 [.ref k, .int x1, .int x2, .ref k3] M none M' := by
  refine Ctr.ofG (L := [some (.ref k), some (.int x1), some (.int x2), some (.ref k3)]) hX (by decide) (Nat.le_of_ble_eq_true rfl) rfl (fun F hF hl hR => ?_)
  subst hl
  unfold f_X5_carryOut at h
  refine g_iload_n hF (dck_at tX5_carryOut 0 rfl) rfl ?_
  by_cases hc1_0 : x1 = 0
  · replace h := ite_t hc1_0 h
    refine g_swIn hF 40 0 hc1_0 (dck_at tX5_carryOut 1 rfl) (by decide) (by decide) rfl (by decide) ?_
    refine g_aload_n hF (dck_at tX5_carryOut 2 rfl) rfl ?_
    obtain ⟨q41, e41, h⟩ := bd h
    refine g_callV hF (as := []) (k := k) rfl (by decide) wm_X5_33 wi_X5_beAsAtFirst we_X5_beAsAtFirst wc_X5_beAsAtFirst wn_X5 hyX5_beAsAtFirst (by decide) (td_m hS hk) (td_kd hk) (c_X5_beAsAtFirst hF.2.2.2.2.2.2.2.1 hS hk e41) (by decide) rfl rfl rfl rfl (dck_at tX5_carryOut 3 rfl) ?_
    show G X F 44 _ [] q41
    refine g_goto hF 100 (dck_at tX5_carryOut 4 rfl) (by decide) ?_
    cases h
    exact g_vret hF hR (dck_at tX5_carryOut 36 rfl)
  replace h := ite_f hc1_0 h
  by_cases hc1_1 : x1 = 1
  · replace h := ite_t hc1_1 h
    refine g_swIn hF 47 1 hc1_1 (dck_at tX5_carryOut 1 rfl) (by decide) (by decide) rfl (by decide) ?_
    refine g_aload_n hF (dck_at tX5_carryOut 5 rfl) rfl ?_
    refine g_iload_n hF (dck_at tX5_carryOut 6 rfl) rfl ?_
    refine g_aload_n hF (dck_at tX5_carryOut 7 rfl) rfl ?_
    obtain ⟨q50, e50, h⟩ := bd h
    refine g_callV hF (as := [.int x2, .ref k3]) (k := k) rfl (by decide) wm_X5_62 wi_X5_addClapper we_X5_addClapper wc_X5_addClapper wn_X5 hyX5_addClapper (by decide) (td_m hS hk) (td_kd hk) (c_X5_addClapper hF.2.2.2.2.2.2.2.1 hS hk hk3 e50) (by decide) rfl rfl rfl rfl (dck_at tX5_carryOut 8 rfl) ?_
    show G X F 53 _ [] q50
    refine g_goto hF 100 (dck_at tX5_carryOut 9 rfl) (by decide) ?_
    cases h
    exact g_vret hF hR (dck_at tX5_carryOut 36 rfl)
  replace h := ite_f hc1_1 h
  by_cases hc1_2 : x1 = 2
  · replace h := ite_t hc1_2 h
    refine g_swIn hF 56 2 hc1_2 (dck_at tX5_carryOut 1 rfl) (by decide) (by decide) rfl (by decide) ?_
    refine g_aload_n hF (dck_at tX5_carryOut 10 rfl) rfl ?_
    refine g_iload_n hF (dck_at tX5_carryOut 11 rfl) rfl ?_
    refine g_aload_n hF (dck_at tX5_carryOut 12 rfl) rfl ?_
    obtain ⟨q59, e59, h⟩ := bd h
    refine g_callV hF (as := [.int x2, .ref k3]) (k := k) rfl (by decide) wm_X5_66 wi_X5_addEncore we_X5_addEncore wc_X5_addEncore wn_X5 hyX5_addEncore (by decide) (td_m hS hk) (td_kd hk) (c_X5_addEncore hF.2.2.2.2.2.2.2.1 hS hk hk3 e59) (by decide) rfl rfl rfl rfl (dck_at tX5_carryOut 13 rfl) ?_
    show G X F 62 _ [] q59
    refine g_goto hF 100 (dck_at tX5_carryOut 14 rfl) (by decide) ?_
    cases h
    exact g_vret hF hR (dck_at tX5_carryOut 36 rfl)
  replace h := ite_f hc1_2 h
  by_cases hc1_3 : x1 = 3
  · replace h := ite_t hc1_3 h
    refine g_swIn hF 65 3 hc1_3 (dck_at tX5_carryOut 1 rfl) (by decide) (by decide) rfl (by decide) ?_
    refine g_aload_n hF (dck_at tX5_carryOut 15 rfl) rfl ?_
    refine g_aload_n hF (dck_at tX5_carryOut 16 rfl) rfl ?_
    refine g_iconst (v := 0) hF (dck_at tX5_carryOut 17 rfl) (by decide) ?_
    refine g_iac (j := 0) hF (ar_m hS hk3) hk3.1 hk3.2.1 (by decide) (by decide) (dck_at tX5_carryOut 18 rfl) ?_
    refine pf_X5_43 hF (td_m hS hk) (td_kd hk) (td_ln hk) (dck_at tX5_carryOut 19 rfl) ?_
    refine g_goto hF 100 (dck_at tX5_carryOut 20 rfl) (by decide) ?_
    cases h
    exact g_vret hF hR (dck_at tX5_carryOut 36 rfl)
  replace h := ite_f hc1_3 h
  by_cases hc1_4 : x1 = 4
  · replace h := ite_t hc1_4 h
    refine g_swIn hF 75 4 hc1_4 (dck_at tX5_carryOut 1 rfl) (by decide) (by decide) rfl (by decide) ?_
    refine g_aload_n hF (dck_at tX5_carryOut 21 rfl) rfl ?_
    refine g_aload_n hF (dck_at tX5_carryOut 22 rfl) rfl ?_
    refine g_iconst (v := 0) hF (dck_at tX5_carryOut 23 rfl) (by decide) ?_
    refine g_iac (j := 0) hF (ar_m hS hk3) hk3.1 hk3.2.1 (by decide) (by decide) (dck_at tX5_carryOut 24 rfl) ?_
    refine pf_X5_46 hF (td_m hS hk) (td_kd hk) (td_ln hk) (dck_at tX5_carryOut 25 rfl) ?_
    refine g_goto hF 100 (dck_at tX5_carryOut 26 rfl) (by decide) ?_
    cases h
    exact g_vret hF hR (dck_at tX5_carryOut 36 rfl)
  replace h := ite_f hc1_4 h
  by_cases hc1_5 : x1 = 5
  · replace h := ite_t hc1_5 h
    refine g_swIn hF 85 5 hc1_5 (dck_at tX5_carryOut 1 rfl) (by decide) (by decide) rfl (by decide) ?_
    refine g_aload_n hF (dck_at tX5_carryOut 27 rfl) rfl ?_
    refine g_aload_n hF (dck_at tX5_carryOut 28 rfl) rfl ?_
    refine g_iconst (v := 0) hF (dck_at tX5_carryOut 29 rfl) (by decide) ?_
    refine g_iac (j := 0) hF (ar_m hS hk3) hk3.1 hk3.2.1 (by decide) (by decide) (dck_at tX5_carryOut 30 rfl) ?_
    refine pf_X5_49 hF (td_m hS hk) (td_kd hk) (td_ln hk) (dck_at tX5_carryOut 31 rfl) ?_
    refine g_goto hF 100 (dck_at tX5_carryOut 32 rfl) (by decide) ?_
    cases h
    exact g_vret hF hR (dck_at tX5_carryOut 36 rfl)
  replace h := ite_f hc1_5 h
  refine g_swOut hF 95 (dck_at tX5_carryOut 1 rfl) (by have q0 := lv_neT hc1_0 (a := 0) rfl; have q1 := lv_neT hc1_1 (a := 1) rfl; have q2 := lv_neT hc1_2 (a := 2) rfl; have q3 := lv_neT hc1_3 (a := 3) rfl; have q4 := lv_neT hc1_4 (a := 4) rfl; have q5 := lv_neT hc1_5 (a := 5) rfl; omega) (by decide) ?_
  refine g_aload_n hF (dck_at tX5_carryOut 33 rfl) rfl ?_
  refine g_iconst (v := 0) hF (dck_at tX5_carryOut 34 rfl) (by decide) ?_
  refine pf_X5_36 hF (td_m hS hk) (td_kd hk) (td_ln hk) (dck_at tX5_carryOut 35 rfl) ?_
  cases h
  exact g_vret hF hR (dck_at tX5_carryOut 36 rfl)

def tbX5_hasClapper : List (Nat × Instr × Nat) := [(0, .iload_n 1, 1), (1, .ifCond .lt 15, 3), (4, .iload_n 1, 1), (5, .aload_n 0, 1), (6, .getfield 36, 3), (9, .if_icmp .ge 7, 3), (12, .iconst 1, 1), (13, .goto 4, 3), (16, .iconst 0, 1), (17, .ireturn, 1)]
theorem tX5_hasClapper : dck cX5_hasClapper tbX5_hasClapper = true := by decide +kernel
def f_X5_hasClapper (N : Nat) (M : Mem) (k : Nat) (x1 : Int32) : Option Int32 := (if x1 < 0 then some (0 : Int32) else (if (M k 7) ≤ x1 then some (0 : Int32) else some (1 : Int32)))
set_option maxHeartbeats 4000000 in
set_option maxRecDepth 100000 in
theorem c_X5_hasClapper {X : Cx} {l : Launch} (hX : CxOk X) (hS : SC X) {N : Nat} {M : Mem} {k : Nat} {x1 : Int32} (hk : td k) {r : Int32} (h : f_X5_hasClapper N M k x1 = some r) : Ctr X l yX5_hasClapper cX5_hasClapper 2 (some .boolean) 1 [.ref k, .int x1] M (some (.int r)) M := by
  refine Ctr.ofG (L := [some (.ref k), some (.int x1)]) hX (by decide) (Nat.le_of_ble_eq_true rfl) rfl (fun F hF hl hR => ?_)
  subst hl
  unfold f_X5_hasClapper at h
  refine g_iload_n hF (dck_at tX5_hasClapper 0 rfl) rfl ?_
  refine g_if_lt hF 16 (dck_at tX5_hasClapper 1 rfl) (by decide) (fun hc1 => ?_) (fun hc1 => ?_)
  · replace h := ite_t hc1 h
    refine g_iconst (v := 0) hF (dck_at tX5_hasClapper 8 rfl) (by decide) ?_
    cases h
    exact g_zret hF hR rfl (dck_at tX5_hasClapper 9 rfl)
  · replace h := ite_f hc1 h
    refine g_iload_n hF (dck_at tX5_hasClapper 2 rfl) rfl ?_
    refine g_aload_n hF (dck_at tX5_hasClapper 3 rfl) rfl ?_
    refine gf_X5_36 hF (td_m hS hk) (td_kd hk) (td_ln hk) (dck_at tX5_hasClapper 4 rfl) ?_
    refine g_icmp_ge hF 16 (dck_at tX5_hasClapper 5 rfl) (by decide) (fun hc9 => ?_) (fun hc9 => ?_)
    · replace h := ite_t hc9 h
      refine g_iconst (v := 0) hF (dck_at tX5_hasClapper 8 rfl) (by decide) ?_
      cases h
      exact g_zret hF hR rfl (dck_at tX5_hasClapper 9 rfl)
    · replace h := ite_f hc9 h
      refine g_iconst (v := 1) hF (dck_at tX5_hasClapper 6 rfl) (by decide) ?_
      refine g_goto hF 17 (dck_at tX5_hasClapper 7 rfl) (by decide) ?_
      cases h
      exact g_zret hF hR rfl (dck_at tX5_hasClapper 9 rfl)

def tbX5_minutesOf : List (Nat × Instr × Nat) := [(0, .iload_n 1, 1), (1, .ifCond .ne 5, 3), (4, .iconst 1, 1), (5, .ireturn, 1), (6, .aload_n 0, 1), (7, .iload_n 1, 1), (8, .iconst 2, 1), (9, .isub, 1), (10, .invokevirtual 58, 3), (13, .ifCond .eq 14, 3), (16, .aload_n 0, 1), (17, .getfield 24, 3), (20, .iload_n 1, 1), (21, .iconst 2, 1), (22, .isub, 1), (23, .iaload, 1), (24, .goto 4, 3), (27, .iconst 0, 1), (28, .ireturn, 1)]
theorem tX5_minutesOf : dck cX5_minutesOf tbX5_minutesOf = true := by decide +kernel
def f_X5_minutesOf (N : Nat) (M : Mem) (k : Nat) (x1 : Int32) : Option Int32 := (if x1 = 0 then some (1 : Int32) else (f_X5_hasEncore N M k (x1 - (2 : Int32))).bind fun q10 => (if q10 = 0 then some (0 : Int32) else if inb (x1 - (2 : Int32)) 4 = true then some (M (k + 5) (x1 - (2 : Int32)).toNatClampNeg) else none))
set_option maxHeartbeats 4000000 in
set_option maxRecDepth 100000 in
theorem c_X5_minutesOf {X : Cx} {l : Launch} (hX : CxOk X) (hS : SC X) {N : Nat} {M : Mem} {k : Nat} {x1 : Int32} (hk : td k) {r : Int32} (h : f_X5_minutesOf N M k x1 = some r) : Ctr X l yX5_minutesOf cX5_minutesOf 2 (some .int) 2 [.ref k, .int x1] M (some (.int r)) M := by
  refine Ctr.ofG (L := [some (.ref k), some (.int x1)]) hX (by decide) (Nat.le_of_ble_eq_true rfl) rfl (fun F hF hl hR => ?_)
  subst hl
  unfold f_X5_minutesOf at h
  refine g_iload_n hF (dck_at tX5_minutesOf 0 rfl) rfl ?_
  refine g_if_ne hF 6 (dck_at tX5_minutesOf 1 rfl) (by decide) (fun hc1 => ?_) (fun hc1 => ?_)
  · replace h := ite_f hc1 h
    refine g_aload_n hF (dck_at tX5_minutesOf 4 rfl) rfl ?_
    refine g_iload_n hF (dck_at tX5_minutesOf 5 rfl) rfl ?_
    refine g_iconst (v := 2) hF (dck_at tX5_minutesOf 6 rfl) (by decide) ?_
    refine g_isub hF (dck_at tX5_minutesOf 7 rfl) ?_
    obtain ⟨q10, e10, h⟩ := bd h
    refine g_callV hF (as := [.int (x1 - (2 : Int32))]) (k := k) rfl (by decide) wm_X5_58 wi_X5_hasEncore we_X5_hasEncore wc_X5_hasEncore wn_X5 hyX5_hasEncore (by decide) (td_m hS hk) (td_kd hk) (c_X5_hasEncore hF.2.2.2.2.2.2.2.1 hS hk e10) (by decide) rfl rfl rfl rfl (dck_at tX5_minutesOf 8 rfl) ?_
    show G X F 13 _ [.int q10] M
    refine g_if_eq hF 27 (dck_at tX5_minutesOf 9 rfl) (by decide) (fun hc13 => ?_) (fun hc13 => ?_)
    · replace h := ite_t hc13 h
      refine g_iconst (v := 0) hF (dck_at tX5_minutesOf 17 rfl) (by decide) ?_
      cases h
      exact g_iret hF hR (dck_at tX5_minutesOf 18 rfl)
    · replace h := ite_f hc13 h
      refine g_aload_n hF (dck_at tX5_minutesOf 10 rfl) rfl ?_
      refine gf_X5_24 hF (td_m hS hk) (td_kd hk) (td_ln hk) (t := (k + 5)) rfl (dck_at tX5_minutesOf 11 rfl) ?_
      refine g_iload_n hF (dck_at tX5_minutesOf 12 rfl) rfl ?_
      refine g_iconst (v := 2) hF (dck_at tX5_minutesOf 13 rfl) (by decide) ?_
      refine g_isub hF (dck_at tX5_minutesOf 14 rfl) ?_
      obtain ⟨hg23, h⟩ := gd h
      refine g_ia hF (ar_m hS (td_a4 hk)) (td_a4 hk).1 (td_a4 hk).2.1 hg23 (dck_at tX5_minutesOf 15 rfl) ?_
      show G X F 24 _ _ _
      refine g_goto hF 28 (dck_at tX5_minutesOf 16 rfl) (by decide) ?_
      cases h
      exact g_iret hF hR (dck_at tX5_minutesOf 18 rfl)
  · replace h := ite_t hc1 h
    refine g_iconst (v := 1) hF (dck_at tX5_minutesOf 2 rfl) (by decide) ?_
    cases h
    exact g_iret hF hR (dck_at tX5_minutesOf 3 rfl)

def tbX5_sumOver : List (Nat × Instr × Nat) := [(0, .iconst 0, 1), (1, .istore_n 3, 1), (2, .iconst 0, 1), (3, .istore 4, 2), (5, .iload 4, 2), (7, .aload_n 0, 1), (8, .getfield 40, 3), (11, .if_icmp .ge 25, 3), (14, .iload_n 2, 1), (15, .iload 4, 2), (17, .ishr, 1), (18, .iconst 1, 1), (19, .iand, 1), (20, .ifCond .eq 10, 3), (23, .iload_n 3, 1), (24, .aload_n 1, 1), (25, .iload 4, 2), (27, .iaload, 1), (28, .iadd, 1), (29, .istore_n 3, 1), (30, .iinc 4 1, 3), (33, .goto (-28), 3), (36, .iload_n 3, 1), (37, .ireturn, 1)]
theorem tX5_sumOver : dck cX5_sumOver tbX5_sumOver = true := by decide +kernel
def f_X5_sumOver_L5 (N : Nat) (M : Mem) (k : Nat) (y1 : Nat) (x2 : Int32) : Nat → Int32 → Int32 → Option (Int32 × Int32)
  | 0, _, _ => none
  | n + 1, x3, x4 => (if (M k 8) ≤ x4 then some (x3, x4) else (if ((x2 >>> (x4 &&& 31)) &&& (1 : Int32)) = 0 then f_X5_sumOver_L5 N M k y1 x2 n x3 (x4 + (1 : Int32)) else if inb x4 4 = true then f_X5_sumOver_L5 N M k y1 x2 n (x3 + (M y1 x4.toNatClampNeg)) (x4 + (1 : Int32)) else none))
def f_X5_sumOver (N : Nat) (M : Mem) (k : Nat) (k1 : Nat) (x2 : Int32) : Option Int32 := (f_X5_sumOver_L5 N M k k1 x2 N (0 : Int32) (0 : Int32)).bind fun o5 => some o5.1
set_option maxHeartbeats 4000000 in
set_option maxRecDepth 100000 in
theorem g_X5_sumOver_L5 {X : Cx} {F : Fx} (hS : SC X) (hF : FK X F cX5_sumOver RX5 5 1) (N : Nat) (M : Mem) (k : Nat) (y1 : Nat) (x2 : Int32) (hk : td k) (hy1 : ar 4 y1) : ∀ (n : Nat) (x3 : Int32) (x4 : Int32) (o : Int32 × Int32), f_X5_sumOver_L5 N M k y1 x2 n x3 x4 = some o → G X F 36 [none, none, none, some (.int o.1), none] [] M → G X F 5 [some (.ref k), some (.ref y1), some (.int x2), some (.int x3), some (.int x4)] [] M := by
  intro n
  induction n with
  | zero =>
    intro x3 x4 o h K
    cases h
  | succ n ih =>
    intro x3 x4 o h K
    rw [f_X5_sumOver_L5] at h
    refine g_iload hF (dck_at tX5_sumOver 4 rfl) rfl ?_
    refine g_aload_n hF (dck_at tX5_sumOver 5 rfl) rfl ?_
    refine gf_X5_40 hF (td_m hS hk) (td_kd hk) (td_ln hk) (dck_at tX5_sumOver 6 rfl) ?_
    refine g_icmp_ge hF 36 (dck_at tX5_sumOver 7 rfl) (by decide) (fun hc11 => ?_) (fun hc11 => ?_)
    · replace h := ite_t hc11 h
      refine g_msk [false, false, false, true, false] (L' := [none, none, none, some (.int x3), none]) rfl ?_
      cases h
      exact K
    · replace h := ite_f hc11 h
      refine g_iload_n hF (dck_at tX5_sumOver 8 rfl) rfl ?_
      refine g_iload hF (dck_at tX5_sumOver 9 rfl) rfl ?_
      refine g_ishr hF (dck_at tX5_sumOver 10 rfl) ?_
      refine g_iconst (v := 1) hF (dck_at tX5_sumOver 11 rfl) (by decide) ?_
      refine g_iand hF (dck_at tX5_sumOver 12 rfl) ?_
      refine g_if_eq hF 30 (dck_at tX5_sumOver 13 rfl) (by decide) (fun hc20 => ?_) (fun hc20 => ?_)
      · replace h := ite_t hc20 h
        refine g_iinc (v := 1) (L' := [some (.ref k), some (.ref y1), some (.int x2), some (.int x3), some (.int (x4 + (1 : Int32)))]) hF (dck_at tX5_sumOver 20 rfl) rfl (by decide) rfl ?_
        refine g_goto hF 5 (dck_at tX5_sumOver 21 rfl) (by decide) ?_
        exact ih _ _ _ h K
      · replace h := ite_f hc20 h
        refine g_iload_n hF (dck_at tX5_sumOver 14 rfl) rfl ?_
        refine g_aload_n hF (dck_at tX5_sumOver 15 rfl) rfl ?_
        refine g_iload hF (dck_at tX5_sumOver 16 rfl) rfl ?_
        obtain ⟨hg27, h⟩ := gd h
        refine g_ia hF (ar_m hS hy1) hy1.1 hy1.2.1 hg27 (dck_at tX5_sumOver 17 rfl) ?_
        refine g_iadd hF (dck_at tX5_sumOver 18 rfl) ?_
        refine g_istore_n (L' := [some (.ref k), some (.ref y1), some (.int x2), some (.int (x3 + (M y1 x4.toNatClampNeg))), some (.int x4)]) hF (dck_at tX5_sumOver 19 rfl) (Nat.le_of_ble_eq_true rfl) rfl ?_
        show G X F 30 _ _ _
        refine g_iinc (v := 1) (L' := [some (.ref k), some (.ref y1), some (.int x2), some (.int (x3 + (M y1 x4.toNatClampNeg))), some (.int (x4 + (1 : Int32)))]) hF (dck_at tX5_sumOver 20 rfl) rfl (by decide) rfl ?_
        refine g_goto hF 5 (dck_at tX5_sumOver 21 rfl) (by decide) ?_
        exact ih _ _ _ h K
set_option maxHeartbeats 4000000 in
set_option maxRecDepth 100000 in
theorem c_X5_sumOver {X : Cx} {l : Launch} (hX : CxOk X) (hS : SC X) {N : Nat} {M : Mem} {k : Nat} {k1 : Nat} {x2 : Int32} (hk : td k) (hk1 : ar 4 k1) {r : Int32} (h : f_X5_sumOver N M k k1 x2 = some r) : Ctr X l yX5_sumOver cX5_sumOver 5 (some .int) 1 [.ref k, .ref k1, .int x2] M (some (.int r)) M := by
  refine Ctr.ofG (L := [some (.ref k), some (.ref k1), some (.int x2), none, none]) hX (by decide) (Nat.le_of_ble_eq_true rfl) rfl (fun F hF hl hR => ?_)
  subst hl
  unfold f_X5_sumOver at h
  refine g_iconst (v := 0) hF (dck_at tX5_sumOver 0 rfl) (by decide) ?_
  refine g_istore_n (L' := [some (.ref k), some (.ref k1), some (.int x2), some (.int (0 : Int32)), none]) hF (dck_at tX5_sumOver 1 rfl) (Nat.le_of_ble_eq_true rfl) rfl ?_
  refine g_iconst (v := 0) hF (dck_at tX5_sumOver 2 rfl) (by decide) ?_
  refine g_istore (L' := [some (.ref k), some (.ref k1), some (.int x2), some (.int (0 : Int32)), some (.int (0 : Int32))]) hF (dck_at tX5_sumOver 3 rfl) (Nat.le_of_ble_eq_true rfl) rfl ?_
  obtain ⟨o5, e5, h⟩ := bd h
  refine g_X5_sumOver_L5 hS hF N _ _ _ _ hk hk1 N _ _ _ e5 ?_
  refine g_iload_n hF (dck_at tX5_sumOver 22 rfl) rfl ?_
  cases h
  exact g_iret hF hR (dck_at tX5_sumOver 23 rfl)

def tbX6_isUnder : List (Nat × Instr × Nat) := [(0, .iload_n 1, 1), (1, .istore_n 3, 1), (2, .iconst 0, 1), (3, .istore 4, 2), (5, .iload 4, 2), (7, .aload_n 0, 1), (8, .arraylength, 1), (9, .if_icmp .ge 32, 3), (12, .iload_n 3, 1), (13, .iload_n 2, 1), (14, .if_icmp .ne 5, 3), (17, .iconst 1, 1), (18, .ireturn, 1), (19, .iload_n 3, 1), (20, .ifCond .lt 9, 3), (23, .iload_n 3, 1), (24, .aload_n 0, 1), (25, .arraylength, 1), (26, .if_icmp .lt 5, 3), (29, .iconst 0, 1), (30, .ireturn, 1), (31, .aload_n 0, 1), (32, .iload_n 3, 1), (33, .iaload, 1), (34, .istore_n 3, 1), (35, .iinc 4 1, 3), (38, .goto (-33), 3), (41, .iconst 0, 1), (42, .ireturn, 1)]
theorem tX6_isUnder : dck cX6_isUnder tbX6_isUnder = true := by decide +kernel
def f_X6_isUnder_L5 (N : Nat) (M : Mem) (y0 : Nat) (x2 : Int32) : Nat → Int32 → Int32 → Option ((Int32 × Int32) ⊕ (Int32))
  | 0, _, _ => none
  | n + 1, x3, x4 => (if (Int32.ofNat (tN y0)) ≤ x4 then some (.inl (x3, x4)) else (if x3 = x2 then some (.inr (1 : Int32)) else (if x3 < 0 then some (.inr (0 : Int32)) else (if x3 < (Int32.ofNat (tN y0)) then if inb x3 (tN y0) = true then f_X6_isUnder_L5 N M y0 x2 n (tV y0 x3.toNatClampNeg) (x4 + (1 : Int32)) else none else some (.inr (0 : Int32))))))
def f_X6_isUnder (N : Nat) (M : Mem) (k0 : Nat) (x1 : Int32) (x2 : Int32) : Option Int32 := bS (f_X6_isUnder_L5 N M k0 x2 N x1 (0 : Int32)) (fun o5 => some (0 : Int32))
set_option maxHeartbeats 4000000 in
set_option maxRecDepth 100000 in
theorem g_X6_isUnder_L5 {X : Cx} {F : Fx} (hF : FK X F cX6_isUnder RX6 5 1) (N : Nat) (M : Mem) (y0 : Nat) (x2 : Int32) (hy0 : y0 < 5) : ∀ (n : Nat) (x3 : Int32) (x4 : Int32) (o : ((Int32 × Int32) ⊕ (Int32))), f_X6_isUnder_L5 N M y0 x2 n x3 x4 = some o → (∀ a, o = .inl a → G X F 41 [none, none, none, none, none] [] M) → (∀ b, o = .inr b → FR X F (some .boolean) (some (.int b)) M) → G X F 5 [some (.ref (1060 + y0)), none, some (.int x2), some (.int x3), some (.int x4)] [] M := by
  intro n
  induction n with
  | zero =>
    intro x3 x4 o h K hRr
    cases h
  | succ n ih =>
    intro x3 x4 o h K hRr
    rw [f_X6_isUnder_L5] at h
    refine g_iload hF (dck_at tX6_isUnder 4 rfl) rfl ?_
    refine g_aload_n hF (dck_at tX6_isUnder 5 rfl) rfl ?_
    refine g_tlen hF hy0 rfl (dck_at tX6_isUnder 6 rfl) ?_
    refine g_icmp_ge hF 41 (dck_at tX6_isUnder 7 rfl) (by decide) (fun hc9 => ?_) (fun hc9 => ?_)
    · replace h := ite_t hc9 h
      refine g_msk [false, true, false, false, false] (L' := [none, none, none, none, none]) rfl ?_
      cases h
      exact K _ rfl
    · replace h := ite_f hc9 h
      refine g_iload_n hF (dck_at tX6_isUnder 8 rfl) rfl ?_
      refine g_iload_n hF (dck_at tX6_isUnder 9 rfl) rfl ?_
      refine g_icmp_ne hF 19 (dck_at tX6_isUnder 10 rfl) (by decide) (fun hc14 => ?_) (fun hc14 => ?_)
      · replace h := ite_f hc14 h
        refine g_iload_n hF (dck_at tX6_isUnder 13 rfl) rfl ?_
        refine g_if_lt hF 29 (dck_at tX6_isUnder 14 rfl) (by decide) (fun hc20 => ?_) (fun hc20 => ?_)
        · replace h := ite_t hc20 h
          refine g_iconst (v := 0) hF (dck_at tX6_isUnder 19 rfl) (by decide) ?_
          cases h
          exact g_zret hF (hRr _ rfl) rfl (dck_at tX6_isUnder 20 rfl)
        · replace h := ite_f hc20 h
          refine g_iload_n hF (dck_at tX6_isUnder 15 rfl) rfl ?_
          refine g_aload_n hF (dck_at tX6_isUnder 16 rfl) rfl ?_
          refine g_tlen hF hy0 rfl (dck_at tX6_isUnder 17 rfl) ?_
          refine g_icmp_lt hF 31 (dck_at tX6_isUnder 18 rfl) (by decide) (fun hc26 => ?_) (fun hc26 => ?_)
          · replace h := ite_t hc26 h
            refine g_aload_n hF (dck_at tX6_isUnder 21 rfl) rfl ?_
            refine g_iload_n hF (dck_at tX6_isUnder 22 rfl) rfl ?_
            obtain ⟨hg33, h⟩ := gd h
            refine g_ti hF hy0 (inb_in hg33) (dck_at tX6_isUnder 23 rfl) ?_
            refine g_istore_n (L' := [some (.ref (1060 + y0)), none, some (.int x2), some (.int (tV y0 x3.toNatClampNeg)), some (.int x4)]) hF (dck_at tX6_isUnder 24 rfl) (Nat.le_of_ble_eq_true rfl) rfl ?_
            refine g_iinc (v := 1) (L' := [some (.ref (1060 + y0)), none, some (.int x2), some (.int (tV y0 x3.toNatClampNeg)), some (.int (x4 + (1 : Int32)))]) hF (dck_at tX6_isUnder 25 rfl) rfl (by decide) rfl ?_
            refine g_goto hF 5 (dck_at tX6_isUnder 26 rfl) (by decide) ?_
            exact ih _ _ _ h K hRr
          · replace h := ite_f hc26 h
            refine g_iconst (v := 0) hF (dck_at tX6_isUnder 19 rfl) (by decide) ?_
            cases h
            exact g_zret hF (hRr _ rfl) rfl (dck_at tX6_isUnder 20 rfl)
      · replace h := ite_t hc14 h
        refine g_iconst (v := 1) hF (dck_at tX6_isUnder 11 rfl) (by decide) ?_
        cases h
        exact g_zret hF (hRr _ rfl) rfl (dck_at tX6_isUnder 12 rfl)
set_option maxHeartbeats 4000000 in
set_option maxRecDepth 100000 in
theorem c_X6_isUnder {X : Cx} {l : Launch} (hX : CxOk X) {N : Nat} {M : Mem} {k0 : Nat} {x1 : Int32} {x2 : Int32} (hk0 : k0 < 5) {r : Int32} (h : f_X6_isUnder N M k0 x1 x2 = some r) : Ctr X l yX6_isUnder cX6_isUnder 5 (some .boolean) 1 [.ref (1060 + k0), .int x1, .int x2] M (some (.int r)) M := by
  refine Ctr.ofG (L := [some (.ref (1060 + k0)), some (.int x1), some (.int x2), none, none]) hX (by decide) (Nat.le_of_ble_eq_true rfl) rfl (fun F hF hl hR => ?_)
  subst hl
  unfold f_X6_isUnder at h
  refine g_iload_n hF (dck_at tX6_isUnder 0 rfl) rfl ?_
  refine g_istore_n (L' := [some (.ref (1060 + k0)), some (.int x1), some (.int x2), some (.int x1), none]) hF (dck_at tX6_isUnder 1 rfl) (Nat.le_of_ble_eq_true rfl) rfl ?_
  refine g_iconst (v := 0) hF (dck_at tX6_isUnder 2 rfl) (by decide) ?_
  refine g_istore (L' := [some (.ref (1060 + k0)), some (.int x1), some (.int x2), some (.int x1), some (.int (0 : Int32))]) hF (dck_at tX6_isUnder 3 rfl) (Nat.le_of_ble_eq_true rfl) rfl ?_
  refine g_msk [true, false, true, true, true] (L' := [some (.ref (1060 + k0)), none, some (.int x2), some (.int x1), some (.int (0 : Int32))]) rfl ?_
  obtain ⟨v5, e5, h⟩ := bS_s h
  refine g_X6_isUnder_L5 hF N _ _ _ hk0 N _ _ _ e5 (fun o5 ea => ?_) (fun b eb => ?_)
  · replace h := h.1 o5 ea
    refine g_iconst (v := 0) hF (dck_at tX6_isUnder 27 rfl) (by decide) ?_
    cases h
    exact g_zret hF hR rfl (dck_at tX6_isUnder 28 rfl)
  · have eb2 := h.2 b eb
    subst eb2
    exact hR

def tbX6_power : List (Nat × Instr × Nat) := [(0, .lconst 1, 1), (1, .lstore_n 2, 1), (2, .iconst 0, 1), (3, .istore 4, 2), (5, .iload 4, 2), (7, .iload_n 1, 1), (8, .if_icmp .ge 14, 3), (11, .lload_n 2, 1), (12, .iload_n 0, 1), (13, .i2l, 1), (14, .lmul, 1), (15, .lstore_n 2, 1), (16, .iinc 4 1, 3), (19, .goto (-14), 3), (22, .lload_n 2, 1), (23, .lreturn, 1)]
theorem tX6_power : dck cX6_power tbX6_power = true := by decide +kernel
def f_X6_power_L5 (N : Nat) (M : Mem) (x0 : Int32) (x1 : Int32) : Nat → Int64 → Int32 → Option (Int64 × Int32)
  | 0, _, _ => none
  | n + 1, x2, x4 => (if x1 ≤ x4 then some (x2, x4) else f_X6_power_L5 N M x0 x1 n (x2 * x0.toInt64) (x4 + (1 : Int32)))
def f_X6_power (N : Nat) (M : Mem) (x0 : Int32) (x1 : Int32) : Option Int64 := (f_X6_power_L5 N M x0 x1 N (1 : Int64) (0 : Int32)).bind fun o5 => some o5.1
set_option maxHeartbeats 4000000 in
set_option maxRecDepth 100000 in
theorem g_X6_power_L5 {X : Cx} {F : Fx} (hF : FK X F cX6_power RX6 5 1) (N : Nat) (M : Mem) (x0 : Int32) (x1 : Int32) : ∀ (n : Nat) (x2 : Int64) (x4 : Int32) (o : Int64 × Int32), f_X6_power_L5 N M x0 x1 n x2 x4 = some o → G X F 22 [none, none, some (.long o.1), none, none] [] M → G X F 5 [some (.int x0), some (.int x1), some (.long x2), none, some (.int x4)] [] M := by
  intro n
  induction n with
  | zero =>
    intro x2 x4 o h K
    cases h
  | succ n ih =>
    intro x2 x4 o h K
    rw [f_X6_power_L5] at h
    refine g_iload hF (dck_at tX6_power 4 rfl) rfl ?_
    refine g_iload_n hF (dck_at tX6_power 5 rfl) rfl ?_
    refine g_icmp_ge hF 22 (dck_at tX6_power 6 rfl) (by decide) (fun hc8 => ?_) (fun hc8 => ?_)
    · replace h := ite_t hc8 h
      refine g_msk [false, false, true, true, false] (L' := [none, none, some (.long x2), none, none]) rfl ?_
      cases h
      exact K
    · replace h := ite_f hc8 h
      refine g_lload_n hF (dck_at tX6_power 7 rfl) rfl ?_
      refine g_iload_n hF (dck_at tX6_power 8 rfl) rfl ?_
      refine g_i2l hF (dck_at tX6_power 9 rfl) ?_
      refine g_lmul hF (dck_at tX6_power 10 rfl) ?_
      refine g_lstore_n (L' := [some (.int x0), some (.int x1), some (.long (x2 * x0.toInt64)), none, some (.int x4)]) hF (dck_at tX6_power 11 rfl) (Nat.le_of_ble_eq_true rfl) rfl ?_
      refine g_iinc (v := 1) (L' := [some (.int x0), some (.int x1), some (.long (x2 * x0.toInt64)), none, some (.int (x4 + (1 : Int32)))]) hF (dck_at tX6_power 12 rfl) rfl (by decide) rfl ?_
      show G X F 19 _ _ _
      refine g_goto hF 5 (dck_at tX6_power 13 rfl) (by decide) ?_
      exact ih _ _ _ h K
set_option maxHeartbeats 4000000 in
set_option maxRecDepth 100000 in
theorem c_X6_power {X : Cx} {l : Launch} (hX : CxOk X) {N : Nat} {M : Mem} {x0 : Int32} {x1 : Int32} {r : Int64} (h : f_X6_power N M x0 x1 = some r) : Ctr X l yX6_power cX6_power 5 (some .long) 1 [.int x0, .int x1] M (some (.long r)) M := by
  refine Ctr.ofG (L := [some (.int x0), some (.int x1), none, none, none]) hX (by decide) (Nat.le_of_ble_eq_true rfl) rfl (fun F hF hl hR => ?_)
  subst hl
  unfold f_X6_power at h
  refine g_lconst (v := 1) hF (dck_at tX6_power 0 rfl) (by decide) ?_
  refine g_lstore_n (L' := [some (.int x0), some (.int x1), some (.long (1 : Int64)), none, none]) hF (dck_at tX6_power 1 rfl) (Nat.le_of_ble_eq_true rfl) rfl ?_
  refine g_iconst (v := 0) hF (dck_at tX6_power 2 rfl) (by decide) ?_
  refine g_istore (L' := [some (.int x0), some (.int x1), some (.long (1 : Int64)), none, some (.int (0 : Int32))]) hF (dck_at tX6_power 3 rfl) (Nat.le_of_ble_eq_true rfl) rfl ?_
  obtain ⟨o5, e5, h⟩ := bd h
  refine g_X6_power_L5 hF N _ _ _ N _ _ _ e5 ?_
  refine g_lload_n hF (dck_at tX6_power 14 rfl) rfl ?_
  cases h
  exact g_lret hF hR (dck_at tX6_power 15 rfl)

def tbX6_waysToStay : List (Nat × Instr × Nat) := [(0, .lconst 0, 1), (1, .lstore_n 3, 1), (2, .lconst 1, 1), (3, .lstore 5, 2), (5, .iconst 0, 1), (6, .istore 7, 2), (8, .iload 7, 2), (10, .iload_n 0, 1), (11, .if_icmp .gt 55, 3), (14, .iload 7, 2), (16, .iload_n 1, 1), (17, .if_icmp .lt 27, 3), (20, .lload_n 3, 1), (21, .lload 5, 2), (23, .bipush 10, 2), (25, .iload_n 2, 1), (26, .isub, 1), (27, .iload 7, 2), (29, .invokestatic 218, 3), (32, .lmul, 1), (33, .iload_n 2, 1), (34, .iload_n 0, 1), (35, .iload 7, 2), (37, .isub, 1), (38, .invokestatic 218, 3), (41, .lmul, 1), (42, .ladd, 1), (43, .lstore_n 3, 1), (44, .lload 5, 2), (46, .iload_n 0, 1), (47, .iload 7, 2), (49, .isub, 1), (50, .i2l, 1), (51, .lmul, 1), (52, .iload 7, 2), (54, .iconst 1, 1), (55, .iadd, 1), (56, .i2l, 1), (57, .ldiv, 1), (58, .lstore 5, 2), (60, .iinc 7 1, 3), (63, .goto (-55), 3), (66, .lload_n 3, 1), (67, .lreturn, 1)]
theorem tX6_waysToStay : dck cX6_waysToStay tbX6_waysToStay = true := by decide +kernel
def f_X6_waysToStay_L8 (N : Nat) (M : Mem) (x0 : Int32) (x1 : Int32) (x2 : Int32) : Nat → Int64 → Int64 → Int32 → Option (Int64 × Int64 × Int32)
  | 0, _, _, _ => none
  | n + 1, x3, x5, x7 => (if x0 < x7 then some (x3, x5, x7) else ((if x7 < x1 then some x3 else (f_X6_power N M ((10 : Int32) - x2) x7).bind fun q29 => (f_X6_power N M x2 (x0 - x7)).bind fun q38 => some (x3 + ((x5 * q29) * q38))).bind fun o44 => if nz64 ((x7 + (1 : Int32)).toInt64) = true then f_X6_waysToStay_L8 N M x0 x1 x2 n o44 ((x5 * ((x0 - x7).toInt64)) / ((x7 + (1 : Int32)).toInt64)) (x7 + (1 : Int32)) else none))
def f_X6_waysToStay (N : Nat) (M : Mem) (x0 : Int32) (x1 : Int32) (x2 : Int32) : Option Int64 := (f_X6_waysToStay_L8 N M x0 x1 x2 N (0 : Int64) (1 : Int64) (0 : Int32)).bind fun o8 => some o8.1
set_option maxHeartbeats 4000000 in
set_option maxRecDepth 100000 in
theorem g_X6_waysToStay_L8 {X : Cx} {F : Fx} (hF : FK X F cX6_waysToStay RX6 8 2) (N : Nat) (M : Mem) (x0 : Int32) (x1 : Int32) (x2 : Int32) : ∀ (n : Nat) (x3 : Int64) (x5 : Int64) (x7 : Int32) (o : Int64 × Int64 × Int32), f_X6_waysToStay_L8 N M x0 x1 x2 n x3 x5 x7 = some o → G X F 66 [none, none, none, some (.long o.1), none, none, none, none] [] M → G X F 8 [some (.int x0), some (.int x1), some (.int x2), some (.long x3), none, some (.long x5), none, some (.int x7)] [] M := by
  intro n
  induction n with
  | zero =>
    intro x3 x5 x7 o h K
    cases h
  | succ n ih =>
    intro x3 x5 x7 o h K
    rw [f_X6_waysToStay_L8] at h
    refine g_iload hF (dck_at tX6_waysToStay 6 rfl) rfl ?_
    refine g_iload_n hF (dck_at tX6_waysToStay 7 rfl) rfl ?_
    refine g_icmp_gt hF 66 (dck_at tX6_waysToStay 8 rfl) (by decide) (fun hc11 => ?_) (fun hc11 => ?_)
    · replace h := ite_t hc11 h
      refine g_msk [false, false, false, true, true, false, true, false] (L' := [none, none, none, some (.long x3), none, none, none, none]) rfl ?_
      cases h
      exact K
    · replace h := ite_f hc11 h
      refine g_iload hF (dck_at tX6_waysToStay 9 rfl) rfl ?_
      refine g_iload_n hF (dck_at tX6_waysToStay 10 rfl) rfl ?_
      obtain ⟨o44, h44, h⟩ := bd h
      have K44 : G X F 44 [some (.int x0), some (.int x1), some (.int x2), some (.long o44), none, some (.long x5), none, some (.int x7)] [] M := by
        refine g_lload hF (dck_at tX6_waysToStay 28 rfl) rfl ?_
        refine g_iload_n hF (dck_at tX6_waysToStay 29 rfl) rfl ?_
        refine g_iload hF (dck_at tX6_waysToStay 30 rfl) rfl ?_
        refine g_isub hF (dck_at tX6_waysToStay 31 rfl) ?_
        refine g_i2l hF (dck_at tX6_waysToStay 32 rfl) ?_
        refine g_lmul hF (dck_at tX6_waysToStay 33 rfl) ?_
        show G X F 52 _ _ _
        refine g_iload hF (dck_at tX6_waysToStay 34 rfl) rfl ?_
        refine g_iconst (v := 1) hF (dck_at tX6_waysToStay 35 rfl) (by decide) ?_
        refine g_iadd hF (dck_at tX6_waysToStay 36 rfl) ?_
        refine g_i2l hF (dck_at tX6_waysToStay 37 rfl) ?_
        obtain ⟨hg57, h⟩ := gd h
        refine g_ldiv hF (dck_at tX6_waysToStay 38 rfl) (nz64_n hg57) ?_
        refine g_lstore (L' := [some (.int x0), some (.int x1), some (.int x2), some (.long o44), none, some (.long ((x5 * ((x0 - x7).toInt64)) / ((x7 + (1 : Int32)).toInt64))), none, some (.int x7)]) hF (dck_at tX6_waysToStay 39 rfl) (Nat.le_of_ble_eq_true rfl) rfl ?_
        refine g_iinc (v := 1) (L' := [some (.int x0), some (.int x1), some (.int x2), some (.long o44), none, some (.long ((x5 * ((x0 - x7).toInt64)) / ((x7 + (1 : Int32)).toInt64))), none, some (.int (x7 + (1 : Int32)))]) hF (dck_at tX6_waysToStay 40 rfl) rfl (by decide) rfl ?_
        show G X F 63 _ _ _
        refine g_goto hF 8 (dck_at tX6_waysToStay 41 rfl) (by decide) ?_
        exact ih _ _ _ _ h K
      replace h := h44
      refine g_icmp_lt hF 44 (dck_at tX6_waysToStay 11 rfl) (by decide) (fun hc17 => ?_) (fun hc17 => ?_)
      · replace h := ite_t hc17 h
        cases h
        exact K44
      · replace h := ite_f hc17 h
        refine g_lload_n hF (dck_at tX6_waysToStay 12 rfl) rfl ?_
        refine g_lload hF (dck_at tX6_waysToStay 13 rfl) rfl ?_
        refine g_bipush (v := 10) hF (dck_at tX6_waysToStay 14 rfl) (by decide) ?_
        refine g_iload_n hF (dck_at tX6_waysToStay 15 rfl) rfl ?_
        refine g_isub hF (dck_at tX6_waysToStay 16 rfl) ?_
        refine g_iload hF (dck_at tX6_waysToStay 17 rfl) rfl ?_
        show G X F 29 _ _ _
        obtain ⟨q29, e29, h⟩ := bd h
        refine g_callS hF (as := [.int ((10 : Int32) - x2), .int x7]) wm_X6_218 wt_X6_power wc_X6_power wn_X6 hyX6_power (by decide) (c_X6_power hF.2.2.2.2.2.2.2.1 e29) (by decide) rfl rfl rfl rfl (dck_at tX6_waysToStay 18 rfl) ?_
        show G X F 32 _ [.long q29, .long x5, .long x3] M
        refine g_lmul hF (dck_at tX6_waysToStay 19 rfl) ?_
        refine g_iload_n hF (dck_at tX6_waysToStay 20 rfl) rfl ?_
        refine g_iload_n hF (dck_at tX6_waysToStay 21 rfl) rfl ?_
        refine g_iload hF (dck_at tX6_waysToStay 22 rfl) rfl ?_
        refine g_isub hF (dck_at tX6_waysToStay 23 rfl) ?_
        obtain ⟨q38, e38, h⟩ := bd h
        refine g_callS hF (as := [.int x2, .int (x0 - x7)]) wm_X6_218 wt_X6_power wc_X6_power wn_X6 hyX6_power (by decide) (c_X6_power hF.2.2.2.2.2.2.2.1 e38) (by decide) rfl rfl rfl rfl (dck_at tX6_waysToStay 24 rfl) ?_
        show G X F 41 _ [.long q38, .long (x5 * q29), .long x3] M
        show G X F 41 _ _ _
        refine g_lmul hF (dck_at tX6_waysToStay 25 rfl) ?_
        refine g_ladd hF (dck_at tX6_waysToStay 26 rfl) ?_
        refine g_lstore_n (L' := [some (.int x0), some (.int x1), some (.int x2), some (.long (x3 + ((x5 * q29) * q38))), none, some (.long x5), none, some (.int x7)]) hF (dck_at tX6_waysToStay 27 rfl) (Nat.le_of_ble_eq_true rfl) rfl ?_
        cases h
        exact K44
set_option maxHeartbeats 4000000 in
set_option maxRecDepth 100000 in
theorem c_X6_waysToStay {X : Cx} {l : Launch} (hX : CxOk X) {N : Nat} {M : Mem} {x0 : Int32} {x1 : Int32} {x2 : Int32} {r : Int64} (h : f_X6_waysToStay N M x0 x1 x2 = some r) : Ctr X l yX6_waysToStay cX6_waysToStay 8 (some .long) 2 [.int x0, .int x1, .int x2] M (some (.long r)) M := by
  refine Ctr.ofG (L := [some (.int x0), some (.int x1), some (.int x2), none, none, none, none, none]) hX (by decide) (Nat.le_of_ble_eq_true rfl) rfl (fun F hF hl hR => ?_)
  subst hl
  unfold f_X6_waysToStay at h
  refine g_lconst (v := 0) hF (dck_at tX6_waysToStay 0 rfl) (by decide) ?_
  refine g_lstore_n (L' := [some (.int x0), some (.int x1), some (.int x2), some (.long (0 : Int64)), none, none, none, none]) hF (dck_at tX6_waysToStay 1 rfl) (Nat.le_of_ble_eq_true rfl) rfl ?_
  refine g_lconst (v := 1) hF (dck_at tX6_waysToStay 2 rfl) (by decide) ?_
  refine g_lstore (L' := [some (.int x0), some (.int x1), some (.int x2), some (.long (0 : Int64)), none, some (.long (1 : Int64)), none, none]) hF (dck_at tX6_waysToStay 3 rfl) (Nat.le_of_ble_eq_true rfl) rfl ?_
  refine g_iconst (v := 0) hF (dck_at tX6_waysToStay 4 rfl) (by decide) ?_
  refine g_istore (L' := [some (.int x0), some (.int x1), some (.int x2), some (.long (0 : Int64)), none, some (.long (1 : Int64)), none, some (.int (0 : Int32))]) hF (dck_at tX6_waysToStay 5 rfl) (Nat.le_of_ble_eq_true rfl) rfl ?_
  obtain ⟨o8, e8, h⟩ := bd h
  refine g_X6_waysToStay_L8 hF N _ _ _ _ N _ _ _ _ e8 ?_
  refine g_lload_n hF (dck_at tX6_waysToStay 42 rfl) rfl ?_
  cases h
  exact g_lret hF hR (dck_at tX6_waysToStay 43 rfl)

def tbX6_commonDivisor : List (Nat × Instr × Nat) := [(0, .lload_n 0, 1), (1, .lstore 4, 2), (3, .lload_n 2, 1), (4, .lstore 6, 2), (6, .iconst 0, 1), (7, .istore 8, 2), (9, .iload 8, 2), (11, .bipush 100, 2), (13, .if_icmp .ge 31, 3), (16, .lload 6, 2), (18, .lconst 0, 1), (19, .lcmp, 1), (20, .ifCond .eq 24, 3), (23, .lload 4, 2), (25, .lload 6, 2), (27, .lrem, 1), (28, .lstore 9, 2), (30, .lload 6, 2), (32, .lstore 4, 2), (34, .lload 9, 2), (36, .lstore 6, 2), (38, .iinc 8 1, 3), (41, .goto (-32), 3), (44, .lload 4, 2), (46, .lreturn, 1)]
theorem tX6_commonDivisor : dck cX6_commonDivisor tbX6_commonDivisor = true := by decide +kernel
def f_X6_commonDivisor_L9 (N : Nat) (M : Mem) : Nat → Int64 → Int64 → Int32 → Option (Int64 × Int64 × Int32)
  | 0, _, _, _ => none
  | n + 1, x4, x6, x8 => (if (100 : Int32) ≤ x8 then some (x4, x6, x8) else (if (lg_cmp x6 (0 : Int64)) = 0 then some (x4, x6, x8) else if nz64 x6 = true then f_X6_commonDivisor_L9 N M n x6 (x4 - x4 / x6 * x6) (x8 + (1 : Int32)) else none))
def f_X6_commonDivisor (N : Nat) (M : Mem) (x0 : Int64) (x2 : Int64) : Option Int64 := (f_X6_commonDivisor_L9 N M N x0 x2 (0 : Int32)).bind fun o9 => some o9.1
set_option maxHeartbeats 4000000 in
set_option maxRecDepth 100000 in
theorem g_X6_commonDivisor_L9 {X : Cx} {F : Fx} (hF : FK X F cX6_commonDivisor RX6 11 1) (N : Nat) (M : Mem) : ∀ (n : Nat) (x4 : Int64) (x6 : Int64) (x8 : Int32) (o : Int64 × Int64 × Int32), f_X6_commonDivisor_L9 N M n x4 x6 x8 = some o → G X F 44 [none, none, none, none, some (.long o.1), none, none, none, none, none, none] [] M → G X F 9 [none, none, none, none, some (.long x4), none, some (.long x6), none, some (.int x8), none, none] [] M := by
  intro n
  induction n with
  | zero =>
    intro x4 x6 x8 o h K
    cases h
  | succ n ih =>
    intro x4 x6 x8 o h K
    rw [f_X6_commonDivisor_L9] at h
    refine g_iload hF (dck_at tX6_commonDivisor 6 rfl) rfl ?_
    refine g_bipush (v := 100) hF (dck_at tX6_commonDivisor 7 rfl) (by decide) ?_
    refine g_icmp_ge hF 44 (dck_at tX6_commonDivisor 8 rfl) (by decide) (fun hc13 => ?_) (fun hc13 => ?_)
    · replace h := ite_t hc13 h
      refine g_msk [true, true, true, true, true, true, false, true, false, true, true] (L' := [none, none, none, none, some (.long x4), none, none, none, none, none, none]) rfl ?_
      cases h
      exact K
    · replace h := ite_f hc13 h
      refine g_lload hF (dck_at tX6_commonDivisor 9 rfl) rfl ?_
      refine g_lconst (v := 0) hF (dck_at tX6_commonDivisor 10 rfl) (by decide) ?_
      refine g_lcmp hF (dck_at tX6_commonDivisor 11 rfl) ?_
      refine g_if_eq hF 44 (dck_at tX6_commonDivisor 12 rfl) (by decide) (fun hc20 => ?_) (fun hc20 => ?_)
      · replace h := ite_t hc20 h
        refine g_msk [true, true, true, true, true, true, false, true, false, true, true] (L' := [none, none, none, none, some (.long x4), none, none, none, none, none, none]) rfl ?_
        cases h
        exact K
      · replace h := ite_f hc20 h
        refine g_lload hF (dck_at tX6_commonDivisor 13 rfl) rfl ?_
        refine g_lload hF (dck_at tX6_commonDivisor 14 rfl) rfl ?_
        obtain ⟨hg27, h⟩ := gd h
        refine g_lrem hF (dck_at tX6_commonDivisor 15 rfl) (nz64_n hg27) ?_
        refine g_lstore (L' := [none, none, none, none, some (.long x4), none, some (.long x6), none, some (.int x8), some (.long (x4 - x4 / x6 * x6)), none]) hF (dck_at tX6_commonDivisor 16 rfl) (Nat.le_of_ble_eq_true rfl) rfl ?_
        refine g_lload hF (dck_at tX6_commonDivisor 17 rfl) rfl ?_
        refine g_lstore (L' := [none, none, none, none, some (.long x6), none, some (.long x6), none, some (.int x8), some (.long (x4 - x4 / x6 * x6)), none]) hF (dck_at tX6_commonDivisor 18 rfl) (Nat.le_of_ble_eq_true rfl) rfl ?_
        show G X F 34 _ _ _
        refine g_lload hF (dck_at tX6_commonDivisor 19 rfl) rfl ?_
        refine g_lstore (L' := [none, none, none, none, some (.long x6), none, some (.long (x4 - x4 / x6 * x6)), none, some (.int x8), some (.long (x4 - x4 / x6 * x6)), none]) hF (dck_at tX6_commonDivisor 20 rfl) (Nat.le_of_ble_eq_true rfl) rfl ?_
        refine g_iinc (v := 1) (L' := [none, none, none, none, some (.long x6), none, some (.long (x4 - x4 / x6 * x6)), none, some (.int (x8 + (1 : Int32))), some (.long (x4 - x4 / x6 * x6)), none]) hF (dck_at tX6_commonDivisor 21 rfl) rfl (by decide) rfl ?_
        refine g_goto hF 9 (dck_at tX6_commonDivisor 22 rfl) (by decide) ?_
        refine g_msk [true, true, true, true, true, true, true, true, true, false, true] (L' := [none, none, none, none, some (.long x6), none, some (.long (x4 - x4 / x6 * x6)), none, some (.int (x8 + (1 : Int32))), none, none]) rfl ?_
        exact ih _ _ _ _ h K
set_option maxHeartbeats 4000000 in
set_option maxRecDepth 100000 in
theorem c_X6_commonDivisor {X : Cx} {l : Launch} (hX : CxOk X) {N : Nat} {M : Mem} {x0 : Int64} {x2 : Int64} {r : Int64} (h : f_X6_commonDivisor N M x0 x2 = some r) : Ctr X l yX6_commonDivisor cX6_commonDivisor 11 (some .long) 1 [.long x0, .long x2] M (some (.long r)) M := by
  refine Ctr.ofG (L := [some (.long x0), none, some (.long x2), none, none, none, none, none, none, none, none]) hX (by decide) (Nat.le_of_ble_eq_true rfl) rfl (fun F hF hl hR => ?_)
  subst hl
  unfold f_X6_commonDivisor at h
  refine g_lload_n hF (dck_at tX6_commonDivisor 0 rfl) rfl ?_
  refine g_lstore (L' := [some (.long x0), none, some (.long x2), none, some (.long x0), none, none, none, none, none, none]) hF (dck_at tX6_commonDivisor 1 rfl) (Nat.le_of_ble_eq_true rfl) rfl ?_
  refine g_lload_n hF (dck_at tX6_commonDivisor 2 rfl) rfl ?_
  refine g_lstore (L' := [some (.long x0), none, some (.long x2), none, some (.long x0), none, some (.long x2), none, none, none, none]) hF (dck_at tX6_commonDivisor 3 rfl) (Nat.le_of_ble_eq_true rfl) rfl ?_
  refine g_iconst (v := 0) hF (dck_at tX6_commonDivisor 4 rfl) (by decide) ?_
  refine g_istore (L' := [some (.long x0), none, some (.long x2), none, some (.long x0), none, some (.long x2), none, some (.int (0 : Int32)), none, none]) hF (dck_at tX6_commonDivisor 5 rfl) (Nat.le_of_ble_eq_true rfl) rfl ?_
  refine g_msk [false, true, false, true, true, true, true, true, true, true, true] (L' := [none, none, none, none, some (.long x0), none, some (.long x2), none, some (.int (0 : Int32)), none, none]) rfl ?_
  obtain ⟨o9, e9, h⟩ := bd h
  refine g_X6_commonDivisor_L9 hF N _ N _ _ _ _ e9 ?_
  refine g_lload hF (dck_at tX6_commonDivisor 23 rfl) rfl ?_
  cases h
  exact g_lret hF hR (dck_at tX6_commonDivisor 24 rfl)
