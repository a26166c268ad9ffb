def tbX7_in : List (Nat × Instr × Nat) := [(0, .iload_n 0, 1), (1, .iload_n 1, 1), (2, .if_icmp .lt 12, 3), (5, .iload_n 0, 1), (6, .iload_n 2, 1), (7, .if_icmp .gt 7, 3), (10, .iconst 1, 1), (11, .goto 4, 3), (14, .iconst 0, 1), (15, .ireturn, 1)]
theorem tX7_in : dck cX7_in tbX7_in = true := by decide +kernel
def f_X7_in (N : Nat) (M : Mem) (x0 : Int32) (x1 : Int32) (x2 : Int32) : Option Int32 := (if x0 < x1 then some (0 : Int32) else (if x2 < x0 then some (0 : Int32) else some (1 : Int32)))
set_option maxHeartbeats 4000000 in
set_option maxRecDepth 100000 in
theorem c_X7_in {X : Cx} {l : Launch} (hX : CxOk X) {N : Nat} {M : Mem} {x0 : Int32} {x1 : Int32} {x2 : Int32} {r : Int32} (h : f_X7_in N M x0 x1 x2 = some r) : Ctr X l yX7_in cX7_in 3 (some .boolean) 1 [.int x0, .int x1, .int x2] M (some (.int r)) M := by
  refine Ctr.ofG (L := [some (.int x0), some (.int x1), some (.int x2)]) hX (by decide) (Nat.le_of_ble_eq_true rfl) rfl (fun F hF hl hR => ?_)
  subst hl
  unfold f_X7_in at h
  refine g_iload_n hF (dck_at tX7_in 0 rfl) rfl ?_
  refine g_iload_n hF (dck_at tX7_in 1 rfl) rfl ?_
  refine g_icmp_lt hF 14 (dck_at tX7_in 2 rfl) (by decide) (fun hc2 => ?_) (fun hc2 => ?_)
  · replace h := ite_t hc2 h
    refine g_iconst (v := 0) hF (dck_at tX7_in 8 rfl) (by decide) ?_
    cases h
    exact g_zret hF hR rfl (dck_at tX7_in 9 rfl)
  · replace h := ite_f hc2 h
    refine g_iload_n hF (dck_at tX7_in 3 rfl) rfl ?_
    refine g_iload_n hF (dck_at tX7_in 4 rfl) rfl ?_
    refine g_icmp_gt hF 14 (dck_at tX7_in 5 rfl) (by decide) (fun hc7 => ?_) (fun hc7 => ?_)
    · replace h := ite_t hc7 h
      refine g_iconst (v := 0) hF (dck_at tX7_in 8 rfl) (by decide) ?_
      cases h
      exact g_zret hF hR rfl (dck_at tX7_in 9 rfl)
    · replace h := ite_f hc7 h
      refine g_iconst (v := 1) hF (dck_at tX7_in 6 rfl) (by decide) ?_
      refine g_goto hF 15 (dck_at tX7_in 7 rfl) (by decide) ?_
      cases h
      exact g_zret hF hR rfl (dck_at tX7_in 9 rfl)

def tbX7_isClapper : List (Nat × Instr × Nat) := [(0, .iload_n 1, 1), (1, .iconst 0, 1), (2, .aload_n 0, 1), (3, .getfield 13, 3), (6, .iconst 0, 1), (7, .iaload, 1), (8, .iconst 1, 1), (9, .isub, 1), (10, .invokestatic 53, 3), (13, .ireturn, 1)]
theorem tX7_isClapper : dck cX7_isClapper tbX7_isClapper = true := by decide +kernel
def f_X7_isClapper (N : Nat) (M : Mem) (x1 : Int32) : Option Int32 := (f_X7_in N M x1 (0 : Int32) ((M 72 0) - (1 : Int32))).bind fun q10 => if zok q10 = true then some q10 else none
set_option maxHeartbeats 4000000 in
set_option maxRecDepth 100000 in
theorem c_X7_isClapper {X : Cx} {l : Launch} (hX : CxOk X) (hM : SM X) {N : Nat} {M : Mem} {x1 : Int32} {r : Int32} (h : f_X7_isClapper N M x1 = some r) : Ctr X l yX7_isClapper cX7_isClapper 2 (some .boolean) 2 [.ref 70, .int x1] M (some (.int r)) M := by
  refine Ctr.ofG (L := [some (.ref 70), some (.int x1)]) hX (by decide) (Nat.le_of_ble_eq_true rfl) rfl (fun F hF hl hR => ?_)
  subst hl
  unfold f_X7_isClapper at h
  refine g_iload_n hF (dck_at tX7_isClapper 0 rfl) rfl ?_
  refine g_iconst (v := 0) hF (dck_at tX7_isClapper 1 rfl) (by decide) ?_
  refine g_aload_n hF (dck_at tX7_isClapper 2 rfl) rfl ?_
  refine gf_X7_13 hF (hM 70 (by decide) (by decide)) kdc_70 lnc_70 (dck_at tX7_isClapper 3 rfl) ?_
  refine g_iconst (v := 0) hF (dck_at tX7_isClapper 4 rfl) (by decide) ?_
  refine g_iac (j := 0) hF (hM 72 (by decide) (by decide)) kdc_72 lnc_72 (by decide) (by decide) (dck_at tX7_isClapper 5 rfl) ?_
  show G X F 8 _ _ _
  refine g_iconst (v := 1) hF (dck_at tX7_isClapper 6 rfl) (by decide) ?_
  refine g_isub hF (dck_at tX7_isClapper 7 rfl) ?_
  obtain ⟨q10, e10, h⟩ := bd h
  refine g_callS hF (as := [.int x1, .int (0 : Int32), .int ((M 72 0) - (1 : Int32))]) wm_X7_53 wt_X7_in wc_X7_in wn_X7 hyX7_in (by decide) (c_X7_in hF.2.2.2.2.2.2.2.1 e10) (by decide) rfl rfl rfl rfl (dck_at tX7_isClapper 8 rfl) ?_
  show G X F 13 _ [.int q10] M
  obtain ⟨hz13, h⟩ := gd h
  cases h
  exact g_zret hF hR (zok_n hz13) (dck_at tX7_isClapper 9 rfl)

def tbX7_isEncore : List (Nat × Instr × Nat) := [(0, .iload_n 1, 1), (1, .iconst 0, 1), (2, .aload_n 0, 1), (3, .getfield 13, 3), (6, .iconst 1, 1), (7, .iaload, 1), (8, .iconst 1, 1), (9, .isub, 1), (10, .invokestatic 53, 3), (13, .ireturn, 1)]
theorem tX7_isEncore : dck cX7_isEncore tbX7_isEncore = true := by decide +kernel
def f_X7_isEncore (N : Nat) (M : Mem) (x1 : Int32) : Option Int32 := (f_X7_in N M x1 (0 : Int32) ((M 72 1) - (1 : Int32))).bind fun q10 => if zok q10 = true then some q10 else none
set_option maxHeartbeats 4000000 in
set_option maxRecDepth 100000 in
theorem c_X7_isEncore {X : Cx} {l : Launch} (hX : CxOk X) (hM : SM X) {N : Nat} {M : Mem} {x1 : Int32} {r : Int32} (h : f_X7_isEncore N M x1 = some r) : Ctr X l yX7_isEncore cX7_isEncore 2 (some .boolean) 2 [.ref 70, .int x1] M (some (.int r)) M := by
  refine Ctr.ofG (L := [some (.ref 70), some (.int x1)]) hX (by decide) (Nat.le_of_ble_eq_true rfl) rfl (fun F hF hl hR => ?_)
  subst hl
  unfold f_X7_isEncore at h
  refine g_iload_n hF (dck_at tX7_isEncore 0 rfl) rfl ?_
  refine g_iconst (v := 0) hF (dck_at tX7_isEncore 1 rfl) (by decide) ?_
  refine g_aload_n hF (dck_at tX7_isEncore 2 rfl) rfl ?_
  refine gf_X7_13 hF (hM 70 (by decide) (by decide)) kdc_70 lnc_70 (dck_at tX7_isEncore 3 rfl) ?_
  refine g_iconst (v := 1) hF (dck_at tX7_isEncore 4 rfl) (by decide) ?_
  refine g_iac (j := 1) hF (hM 72 (by decide) (by decide)) kdc_72 lnc_72 (by decide) (by decide) (dck_at tX7_isEncore 5 rfl) ?_
  show G X F 8 _ _ _
  refine g_iconst (v := 1) hF (dck_at tX7_isEncore 6 rfl) (by decide) ?_
  refine g_isub hF (dck_at tX7_isEncore 7 rfl) ?_
  obtain ⟨q10, e10, h⟩ := bd h
  refine g_callS hF (as := [.int x1, .int (0 : Int32), .int ((M 72 1) - (1 : Int32))]) wm_X7_53 wt_X7_in wc_X7_in wn_X7 hyX7_in (by decide) (c_X7_in hF.2.2.2.2.2.2.2.1 e10) (by decide) rfl rfl rfl rfl (dck_at tX7_isEncore 8 rfl) ?_
  show G X F 13 _ [.int q10] M
  obtain ⟨hz13, h⟩ := gd h
  cases h
  exact g_zret hF hR (zok_n hz13) (dck_at tX7_isEncore 9 rfl)

def tbX7_write : List (Nat × Instr × Nat) := [(0, .iload_n 1, 1), (1, .iconst 0, 1), (2, .sipush 255, 3), (5, .invokestatic 53, 3), (8, .ifCond .ne 6, 3), (11, .bipush (-3), 2), (13, .ireturn, 1), (14, .aload_n 0, 1), (15, .getfield 57, 3), (18, .sipush 160, 3), (21, .if_icmp .ne 6, 3), (24, .bipush (-5), 2), (26, .ireturn, 1), (27, .aload_n 0, 1), (28, .getfield 7, 3), (31, .aload_n 0, 1), (32, .getfield 57, 3), (35, .iload_n 1, 1), (36, .iastore, 1), (37, .aload_n 0, 1), (38, .dup, 1), (39, .getfield 57, 3), (42, .iconst 1, 1), (43, .iadd, 1), (44, .putfield 57, 3), (47, .aload_n 0, 1), (48, .getfield 57, 3), (51, .ireturn, 1)]
theorem tX7_write : dck cX7_write tbX7_write = true := by decide +kernel
def f_X7_write (N : Nat) (M : Mem) (x1 : Int32) : Option (Int32 × Mem) := (f_X7_in N M x1 (0 : Int32) (255 : Int32)).bind fun q5 => (if q5 = 0 then some ((-3 : Int32), M) else (if (M 70 1) = (160 : Int32) then some ((-5 : Int32), M) else if inb (M 70 1) 160 = true then some ((up2 (up2 M 71 (M 70 1).toNatClampNeg x1) 70 1 (((up2 M 71 (M 70 1).toNatClampNeg x1) 70 1) + (1 : Int32))) 70 1, (up2 (up2 M 71 (M 70 1).toNatClampNeg x1) 70 1 (((up2 M 71 (M 70 1).toNatClampNeg x1) 70 1) + (1 : Int32)))) else none))
set_option maxHeartbeats 4000000 in
set_option maxRecDepth 100000 in
theorem c_X7_write {X : Cx} {l : Launch} (hX : CxOk X) (hM : SM X) {N : Nat} {M : Mem} {x1 : Int32} {r : Int32} {M' : Mem} (h : f_X7_write N M x1 = some (r, M')) : Ctr X l yX7_write cX7_write 2 (some .int) 2 [.ref 70, .int x1] M (some (.int r)) M' := by
  refine Ctr.ofG (L := [some (.ref 70), some (.int x1)]) hX (by decide) (Nat.le_of_ble_eq_true rfl) rfl (fun F hF hl hR => ?_)
  subst hl
  unfold f_X7_write at h
  refine g_iload_n hF (dck_at tX7_write 0 rfl) rfl ?_
  refine g_iconst (v := 0) hF (dck_at tX7_write 1 rfl) (by decide) ?_
  refine g_sipush (v := 255) hF (dck_at tX7_write 2 rfl) (by decide) ?_
  obtain ⟨q5, e5, h⟩ := bd h
  refine g_callS hF (as := [.int x1, .int (0 : Int32), .int (255 : Int32)]) wm_X7_53 wt_X7_in wc_X7_in wn_X7 hyX7_in (by decide) (c_X7_in hF.2.2.2.2.2.2.2.1 e5) (by decide) rfl rfl rfl rfl (dck_at tX7_write 3 rfl) ?_
  show G X F 8 _ [.int q5] M
  refine g_if_ne hF 14 (dck_at tX7_write 4 rfl) (by decide) (fun hc8 => ?_) (fun hc8 => ?_)
  · replace h := ite_f hc8 h
    refine g_aload_n hF (dck_at tX7_write 7 rfl) rfl ?_
    refine gf_X7_57 hF (hM 70 (by decide) (by decide)) kdc_70 lnc_70 (dck_at tX7_write 8 rfl) ?_
    refine g_sipush (v := 160) hF (dck_at tX7_write 9 rfl) (by decide) ?_
    refine g_icmp_ne hF 27 (dck_at tX7_write 10 rfl) (by decide) (fun hc21 => ?_) (fun hc21 => ?_)
    · replace h := ite_f hc21 h
      refine g_aload_n hF (dck_at tX7_write 13 rfl) rfl ?_
      refine gf_X7_7 hF (hM 70 (by decide) (by decide)) kdc_70 lnc_70 (dck_at tX7_write 14 rfl) ?_
      refine g_aload_n hF (dck_at tX7_write 15 rfl) rfl ?_
      refine gf_X7_57 hF (hM 70 (by decide) (by decide)) kdc_70 lnc_70 (dck_at tX7_write 16 rfl) ?_
      refine g_iload_n hF (dck_at tX7_write 17 rfl) rfl ?_
      obtain ⟨hg36, h⟩ := gd h
      refine g_is hF (hM 71 (by decide) (by decide)) kdc_71 lnc_71 hg36 (dck_at tX7_write 18 rfl) ?_
      show G X F 37 _ _ _
      refine g_aload_n hF (dck_at tX7_write 19 rfl) rfl ?_
      refine g_dup hF (dck_at tX7_write 20 rfl) rfl ?_
      refine gf_X7_57 hF (hM 70 (by decide) (by decide)) kdc_70 lnc_70 (dck_at tX7_write 21 rfl) ?_
      refine g_iconst (v := 1) hF (dck_at tX7_write 22 rfl) (by decide) ?_
      refine g_iadd hF (dck_at tX7_write 23 rfl) ?_
      refine pf_X7_57 hF (hM 70 (by decide) (by decide)) kdc_70 lnc_70 (dck_at tX7_write 24 rfl) ?_
      refine g_aload_n hF (dck_at tX7_write 25 rfl) rfl ?_
      show G X F 48 _ _ _
      refine gf_X7_57 hF (hM 70 (by decide) (by decide)) kdc_70 lnc_70 (dck_at tX7_write 26 rfl) ?_
      cases h
      exact g_iret hF hR (dck_at tX7_write 27 rfl)
    · replace h := ite_t hc21 h
      refine g_bipush (v := -5) hF (dck_at tX7_write 11 rfl) (by decide) ?_
      cases h
      exact g_iret hF hR (dck_at tX7_write 12 rfl)
  · replace h := ite_t hc8 h
    refine g_bipush (v := -3) hF (dck_at tX7_write 5 rfl) (by decide) ?_
    cases h
    exact g_iret hF hR (dck_at tX7_write 6 rfl)

def tbX7_erase : List (Nat × Instr × Nat) := [(0, .aload_n 0, 1), (1, .getfield 57, 3), (4, .istore_n 1, 1), (5, .aload_n 0, 1), (6, .iconst 0, 1), (7, .putfield 57, 3), (10, .iload_n 1, 1), (11, .ireturn, 1)]
theorem tX7_erase : dck cX7_erase tbX7_erase = true := by decide +kernel
def f_X7_erase (N : Nat) (M : Mem) : Option (Int32 × Mem) := some (M 70 1, (up2 M 70 1 (0 : Int32)))
set_option maxHeartbeats 4000000 in
set_option maxRecDepth 100000 in
theorem c_X7_erase {X : Cx} {l : Launch} (hX : CxOk X) (hM : SM X) {N : Nat} {M : Mem} {r : Int32} {M' : Mem} (h : f_X7_erase N M = some (r, M')) : Ctr X l yX7_erase cX7_erase 2 (some .int) 1 [.ref 70] M (some (.int r)) M' := by
  refine Ctr.ofG (L := [some (.ref 70), none]) hX (by decide) (Nat.le_of_ble_eq_true rfl) rfl (fun F hF hl hR => ?_)
  subst hl
  unfold f_X7_erase at h
  refine g_aload_n hF (dck_at tX7_erase 0 rfl) rfl ?_
  refine gf_X7_57 hF (hM 70 (by decide) (by decide)) kdc_70 lnc_70 (dck_at tX7_erase 1 rfl) ?_
  refine g_istore_n (L' := [some (.ref 70), some (.int (M 70 1))]) hF (dck_at tX7_erase 2 rfl) (Nat.le_of_ble_eq_true rfl) rfl ?_
  refine g_aload_n hF (dck_at tX7_erase 3 rfl) rfl ?_
  refine g_iconst (v := 0) hF (dck_at tX7_erase 4 rfl) (by decide) ?_
  refine pf_X7_57 hF (hM 70 (by decide) (by decide)) kdc_70 lnc_70 (dck_at tX7_erase 5 rfl) ?_
  show G X F 10 _ _ _
  refine g_iload_n hF (dck_at tX7_erase 6 rfl) rfl ?_
  cases h
  exact g_iret hF hR (dck_at tX7_erase 7 rfl)

def tbX7_letterAt : List (Nat × Instr × Nat) := [(0, .iload_n 1, 1), (1, .aload_n 0, 1), (2, .getfield 57, 3), (5, .if_icmp .ge 12, 3), (8, .aload_n 0, 1), (9, .getfield 7, 3), (12, .iload_n 1, 1), (13, .iaload, 1), (14, .goto 4, 3), (17, .iconst (-1), 1), (18, .ireturn, 1)]
theorem tX7_letterAt : dck cX7_letterAt tbX7_letterAt = true := by decide +kernel
def f_X7_letterAt (N : Nat) (M : Mem) (x1 : Int32) : Option Int32 := (if (M 70 1) ≤ x1 then some (-1 : Int32) else if inb x1 160 = true then some (M 71 x1.toNatClampNeg) else none)
set_option maxHeartbeats 4000000 in
set_option maxRecDepth 100000 in
theorem c_X7_letterAt {X : Cx} {l : Launch} (hX : CxOk X) (hM : SM X) {N : Nat} {M : Mem} {x1 : Int32} {r : Int32} (h : f_X7_letterAt N M x1 = some r) : Ctr X l yX7_letterAt cX7_letterAt 2 (some .int) 1 [.ref 70, .int x1] M (some (.int r)) M := by
  refine Ctr.ofG (L := [some (.ref 70), some (.int x1)]) hX (by decide) (Nat.le_of_ble_eq_true rfl) rfl (fun F hF hl hR => ?_)
  subst hl
  unfold f_X7_letterAt at h
  refine g_iload_n hF (dck_at tX7_letterAt 0 rfl) rfl ?_
  refine g_aload_n hF (dck_at tX7_letterAt 1 rfl) rfl ?_
  refine gf_X7_57 hF (hM 70 (by decide) (by decide)) kdc_70 lnc_70 (dck_at tX7_letterAt 2 rfl) ?_
  refine g_icmp_ge hF 17 (dck_at tX7_letterAt 3 rfl) (by decide) (fun hc5 => ?_) (fun hc5 => ?_)
  · replace h := ite_t hc5 h
    refine g_iconst (v := -1) hF (dck_at tX7_letterAt 9 rfl) (by decide) ?_
    cases h
    exact g_iret hF hR (dck_at tX7_letterAt 10 rfl)
  · replace h := ite_f hc5 h
    refine g_aload_n hF (dck_at tX7_letterAt 4 rfl) rfl ?_
    refine gf_X7_7 hF (hM 70 (by decide) (by decide)) kdc_70 lnc_70 (dck_at tX7_letterAt 5 rfl) ?_
    refine g_iload_n hF (dck_at tX7_letterAt 6 rfl) rfl ?_
    obtain ⟨hg13, h⟩ := gd h
    refine g_ia hF (hM 71 (by decide) (by decide)) kdc_71 lnc_71 hg13 (dck_at tX7_letterAt 7 rfl) ?_
    refine g_goto hF 18 (dck_at tX7_letterAt 8 rfl) (by decide) ?_
    cases h
    exact g_iret hF hR (dck_at tX7_letterAt 10 rfl)

def tbX7_isLetter : List (Nat × Instr × Nat) := [(0, .iload_n 0, 1), (1, .bipush 97, 2), (3, .bipush 122, 2), (5, .invokestatic 53, 3), (8, .ireturn, 1)]
theorem tX7_isLetter : dck cX7_isLetter tbX7_isLetter = true := by decide +kernel
def f_X7_isLetter (N : Nat) (M : Mem) (x0 : Int32) : Option Int32 := (f_X7_in N M x0 (97 : Int32) (122 : Int32)).bind fun q5 => if zok q5 = true then some q5 else none
set_option maxHeartbeats 4000000 in
set_option maxRecDepth 100000 in
theorem c_X7_isLetter {X : Cx} {l : Launch} (hX : CxOk X) {N : Nat} {M : Mem} {x0 : Int32} {r : Int32} (h : f_X7_isLetter N M x0 = some r) : Ctr X l yX7_isLetter cX7_isLetter 1 (some .boolean) 2 [.int x0] M (some (.int r)) M := by
  refine Ctr.ofG (L := [some (.int x0)]) hX (by decide) (Nat.le_of_ble_eq_true rfl) rfl (fun F hF hl hR => ?_)
  subst hl
  unfold f_X7_isLetter at h
  refine g_iload_n hF (dck_at tX7_isLetter 0 rfl) rfl ?_
  refine g_bipush (v := 97) hF (dck_at tX7_isLetter 1 rfl) (by decide) ?_
  refine g_bipush (v := 122) hF (dck_at tX7_isLetter 2 rfl) (by decide) ?_
  obtain ⟨q5, e5, h⟩ := bd h
  refine g_callS hF (as := [.int x0, .int (97 : Int32), .int (122 : Int32)]) wm_X7_53 wt_X7_in wc_X7_in wn_X7 hyX7_in (by decide) (c_X7_in hF.2.2.2.2.2.2.2.1 e5) (by decide) rfl rfl rfl rfl (dck_at tX7_isLetter 3 rfl) ?_
  show G X F 8 _ [.int q5] M
  obtain ⟨hz8, h⟩ := gd h
  cases h
  exact g_zret hF hR (zok_n hz8) (dck_at tX7_isLetter 4 rfl)

def tbX7_isDigit : List (Nat × Instr × Nat) := [(0, .iload_n 0, 1), (1, .bipush 48, 2), (3, .bipush 57, 2), (5, .invokestatic 53, 3), (8, .ireturn, 1)]
theorem tX7_isDigit : dck cX7_isDigit tbX7_isDigit = true := by decide +kernel
def f_X7_isDigit (N : Nat) (M : Mem) (x0 : Int32) : Option Int32 := (f_X7_in N M x0 (48 : Int32) (57 : Int32)).bind fun q5 => if zok q5 = true then some q5 else none
set_option maxHeartbeats 4000000 in
set_option maxRecDepth 100000 in
theorem c_X7_isDigit {X : Cx} {l : Launch} (hX : CxOk X) {N : Nat} {M : Mem} {x0 : Int32} {r : Int32} (h : f_X7_isDigit N M x0 = some r) : Ctr X l yX7_isDigit cX7_isDigit 1 (some .boolean) 2 [.int x0] M (some (.int r)) M := by
  refine Ctr.ofG (L := [some (.int x0)]) hX (by decide) (Nat.le_of_ble_eq_true rfl) rfl (fun F hF hl hR => ?_)
  subst hl
  unfold f_X7_isDigit at h
  refine g_iload_n hF (dck_at tX7_isDigit 0 rfl) rfl ?_
  refine g_bipush (v := 48) hF (dck_at tX7_isDigit 1 rfl) (by decide) ?_
  refine g_bipush (v := 57) hF (dck_at tX7_isDigit 2 rfl) (by decide) ?_
  obtain ⟨q5, e5, h⟩ := bd h
  refine g_callS hF (as := [.int x0, .int (48 : Int32), .int (57 : Int32)]) wm_X7_53 wt_X7_in wc_X7_in wn_X7 hyX7_in (by decide) (c_X7_in hF.2.2.2.2.2.2.2.1 e5) (by decide) rfl rfl rfl rfl (dck_at tX7_isDigit 3 rfl) ?_
  show G X F 8 _ [.int q5] M
  obtain ⟨hz8, h⟩ := gd h
  cases h
  exact g_zret hF hR (zok_n hz8) (dck_at tX7_isDigit 4 rfl)

def tbX7_token : List (Nat × Instr × Nat) := [(0, .aload_n 0, 1), (1, .aload_n 0, 1), (2, .getfield 61, 3), (5, .invokevirtual 64, 3), (8, .bipush 32, 2), (10, .if_icmp .ne 16, 3), (13, .aload_n 0, 1), (14, .dup, 1), (15, .getfield 61, 3), (18, .iconst 1, 1), (19, .iadd, 1), (20, .putfield 61, 3), (23, .goto (-23), 3), (26, .aload_n 0, 1), (27, .aload_n 0, 1), (28, .getfield 61, 3), (31, .putfield 68, 3), (34, .aload_n 0, 1), (35, .aload_n 0, 1), (36, .getfield 61, 3), (39, .invokevirtual 64, 3), (42, .istore_n 1, 1), (43, .aload_n 0, 1), (44, .iload_n 1, 1), (45, .ifCond .ge 7, 3), (48, .iconst 0, 1), (49, .goto 26, 3), (52, .iload_n 1, 1), (53, .invokestatic 71, 3), (56, .ifCond .eq 7, 3), (59, .iconst 1, 1), (60, .goto 15, 3), (63, .iload_n 1, 1), (64, .invokestatic 75, 3), (67, .ifCond .eq 7, 3), (70, .iconst 2, 1), (71, .goto 4, 3), (74, .iconst 3, 1), (75, .putfield 78, 3), (78, .aload_n 0, 1), (79, .iconst 0, 1), (80, .putfield 81, 3), (83, .aload_n 0, 1), (84, .getfield 78, 3), (87, .iconst 1, 1), (88, .if_icmp .ne 30, 3), (91, .aload_n 0, 1), (92, .aload_n 0, 1), (93, .getfield 61, 3), (96, .invokevirtual 64, 3), (99, .invokestatic 71, 3), (102, .ifCond .eq 16, 3), (105, .aload_n 0, 1), (106, .dup, 1), (107, .getfield 61, 3), (110, .iconst 1, 1), (111, .iadd, 1), (112, .putfield 61, 3), (115, .goto (-32), 3), (118, .aload_n 0, 1), (119, .getfield 78, 3), (122, .iconst 2, 1), (123, .if_icmp .ne 72, 3), (126, .aload_n 0, 1), (127, .aload_n 0, 1), (128, .getfield 61, 3), (131, .invokevirtual 64, 3), (134, .invokestatic 75, 3), (137, .ifCond .eq 58, 3), (140, .aload_n 0, 1), (141, .aload_n 0, 1), (142, .getfield 61, 3), (145, .aload_n 0, 1), (146, .getfield 68, 3), (149, .isub, 1), (150, .iconst 2, 1), (151, .if_icmp .ge 26, 3), (154, .bipush 10, 2), (156, .aload_n 0, 1), (157, .getfield 81, 3), (160, .imul, 1), (161, .aload_n 0, 1), (162, .getfield 7, 3), (165, .aload_n 0, 1), (166, .getfield 61, 3), (169, .iaload, 1), (170, .iadd, 1), (171, .bipush 48, 2), (173, .isub, 1), (174, .goto 5, 3), (177, .bipush 100, 2), (179, .putfield 81, 3), (182, .aload_n 0, 1), (183, .dup, 1), (184, .getfield 61, 3), (187, .iconst 1, 1), (188, .iadd, 1), (189, .putfield 61, 3), (192, .goto (-74), 3), (195, .aload_n 0, 1), (196, .dup, 1), (197, .getfield 61, 3), (200, .aload_n 0, 1), (201, .getfield 78, 3), (204, .iconst 3, 1), (205, .if_icmp .ne 7, 3), (208, .iconst 1, 1), (209, .goto 4, 3), (212, .iconst 0, 1), (213, .iadd, 1), (214, .putfield 61, 3), (217, .return_, 1)]
theorem tX7_token : dck cX7_token tbX7_token = true := by decide +kernel
def f_X7_token_L0 (N : Nat) : Nat → Mem → Option (Mem)
  | 0, _ => none
  | n + 1, M => (f_X7_letterAt N M (M 70 13)).bind fun q5 => (if q5 = (32 : Int32) then f_X7_token_L0 N n (up2 M 70 13 ((M 70 13) + (1 : Int32))) else some M)
def f_X7_token_L83 (N : Nat) : Nat → Mem → Option (Mem)
  | 0, _ => none
  | n + 1, M => (if (M 70 11) = (1 : Int32) then (f_X7_letterAt N M (M 70 13)).bind fun q96 => (f_X7_isLetter N M q96).bind fun q99 => (if q99 = 0 then some M else f_X7_token_L83 N n (up2 M 70 13 ((M 70 13) + (1 : Int32)))) else some M)
def f_X7_token_L118 (N : Nat) : Nat → Mem → Option (Mem)
  | 0, _ => none
  | n + 1, M => (if (M 70 11) = (2 : Int32) then (f_X7_letterAt N M (M 70 13)).bind fun q131 => (f_X7_isDigit N M q131).bind fun q134 => (if q134 = 0 then some M else ((if (2 : Int32) ≤ ((M 70 13) - (M 70 12)) then some (100 : Int32) else if inb (M 70 13) 160 = true then some ((((10 : Int32) * (M 70 14)) + (M 71 (M 70 13).toNatClampNeg)) - (48 : Int32)) else none).bind fun o179 => f_X7_token_L118 N n (up2 (up2 M 70 14 o179) 70 13 (((up2 M 70 14 o179) 70 13) + (1 : Int32))))) else some M)
def f_X7_token (N : Nat) (M : Mem) : Option Mem := (f_X7_token_L0 N N M).bind fun o0 => (f_X7_letterAt N (up2 o0 70 12 (o0 70 13)) ((up2 o0 70 12 (o0 70 13)) 70 13)).bind fun q39 => ((if 0 ≤ q39 then (f_X7_isLetter N (up2 o0 70 12 (o0 70 13)) q39).bind fun q53 => (if q53 = 0 then (f_X7_isDigit N (up2 o0 70 12 (o0 70 13)) q39).bind fun q64 => (if q64 = 0 then some (3 : Int32) else some (2 : Int32)) else some (1 : Int32)) else some (0 : Int32)).bind fun o75 => (f_X7_token_L83 N N (up2 (up2 (up2 o0 70 12 (o0 70 13)) 70 11 o75) 70 14 (0 : Int32))).bind fun o83 => (f_X7_token_L118 N N o83).bind fun o118 => (if (o118 70 11) = (3 : Int32) then some (up2 o118 70 13 ((o118 70 13) + (1 : Int32))) else some (up2 o118 70 13 ((o118 70 13) + (0 : Int32)))))
set_option maxHeartbeats 4000000 in
set_option maxRecDepth 100000 in
theorem g_X7_token_L0 {X : Cx} {F : Fx} (hM : SM X) (hF : FK X F cX7_token RX7 2 3) (N : Nat) : ∀ (n : Nat) (M : Mem) (o : Mem), f_X7_token_L0 N n M = some o → G X F 26 [some (.ref 70), none] [] o → G X F 0 [some (.ref 70), none] [] M := by
  intro n
  induction n with
  | zero =>
    intro M o h K
    cases h
  | succ n ih =>
    intro M o h K
    rw [f_X7_token_L0] at h
    refine g_aload_n hF (dck_at tX7_token 0 rfl) rfl ?_
    refine g_aload_n hF (dck_at tX7_token 1 rfl) rfl ?_
    refine gf_X7_61 hF (hM 70 (by decide) (by decide)) kdc_70 lnc_70 (dck_at tX7_token 2 rfl) ?_
    obtain ⟨q5, e5, h⟩ := bd h
    refine g_callV hF (as := [.int (M 70 13)]) (k := 70) rfl (by decide) wm_X7_64 wi_X7_letterAt we_X7_letterAt wc_X7_letterAt wn_X7 hyX7_letterAt (by decide) (hM 70 (by decide) (by decide)) kdc_70 (c_X7_letterAt hF.2.2.2.2.2.2.2.1 hM e5) (by decide) rfl rfl rfl rfl (dck_at tX7_token 3 rfl) ?_
    show G X F 8 _ [.int q5] M
    refine g_bipush (v := 32) hF (dck_at tX7_token 4 rfl) (by decide) ?_
    refine g_icmp_ne hF 26 (dck_at tX7_token 5 rfl) (by decide) (fun hc10 => ?_) (fun hc10 => ?_)
    · replace h := ite_f hc10 h
      cases h
      exact K
    · replace h := ite_t hc10 h
      refine g_aload_n hF (dck_at tX7_token 6 rfl) rfl ?_
      refine g_dup hF (dck_at tX7_token 7 rfl) rfl ?_
      refine gf_X7_61 hF (hM 70 (by decide) (by decide)) kdc_70 lnc_70 (dck_at tX7_token 8 rfl) ?_
      refine g_iconst (v := 1) hF (dck_at tX7_token 9 rfl) (by decide) ?_
      refine g_iadd hF (dck_at tX7_token 10 rfl) ?_
      refine pf_X7_61 hF (hM 70 (by decide) (by decide)) kdc_70 lnc_70 (dck_at tX7_token 11 rfl) ?_
      show G X F 23 _ _ _
      refine g_goto hF 0 (dck_at tX7_token 12 rfl) (by decide) ?_
      exact ih _ _ h K
set_option maxHeartbeats 4000000 in
set_option maxRecDepth 100000 in
theorem g_X7_token_L83 {X : Cx} {F : Fx} (hM : SM X) (hF : FK X F cX7_token RX7 2 3) (N : Nat) : ∀ (n : Nat) (M : Mem) (o : Mem), f_X7_token_L83 N n M = some o → G X F 118 [some (.ref 70), none] [] o → G X F 83 [some (.ref 70), none] [] M := by
  intro n
  induction n with
  | zero =>
    intro M o h K
    cases h
  | succ n ih =>
    intro M o h K
    rw [f_X7_token_L83] at h
    refine g_aload_n hF (dck_at tX7_token 42 rfl) rfl ?_
    refine gf_X7_78 hF (hM 70 (by decide) (by decide)) kdc_70 lnc_70 (dck_at tX7_token 43 rfl) ?_
    refine g_iconst (v := 1) hF (dck_at tX7_token 44 rfl) (by decide) ?_
    refine g_icmp_ne hF 118 (dck_at tX7_token 45 rfl) (by decide) (fun hc88 => ?_) (fun hc88 => ?_)
    · replace h := ite_f hc88 h
      cases h
      exact K
    · replace h := ite_t hc88 h
      refine g_aload_n hF (dck_at tX7_token 46 rfl) rfl ?_
      refine g_aload_n hF (dck_at tX7_token 47 rfl) rfl ?_
      refine gf_X7_61 hF (hM 70 (by decide) (by decide)) kdc_70 lnc_70 (dck_at tX7_token 48 rfl) ?_
      obtain ⟨q96, e96, h⟩ := bd h
      refine g_callV hF (as := [.int (M 70 13)]) (k := 70) rfl (by decide) wm_X7_64 wi_X7_letterAt we_X7_letterAt wc_X7_letterAt wn_X7 hyX7_letterAt (by decide) (hM 70 (by decide) (by decide)) kdc_70 (c_X7_letterAt hF.2.2.2.2.2.2.2.1 hM e96) (by decide) rfl rfl rfl rfl (dck_at tX7_token 49 rfl) ?_
      show G X F 99 _ [.int q96] M
      obtain ⟨q99, e99, h⟩ := bd h
      refine g_callS hF (as := [.int q96]) wm_X7_71 wt_X7_isLetter wc_X7_isLetter wn_X7 hyX7_isLetter (by decide) (c_X7_isLetter hF.2.2.2.2.2.2.2.1 e99) (by decide) rfl rfl rfl rfl (dck_at tX7_token 50 rfl) ?_
      show G X F 102 _ [.int q99] M
      refine g_if_eq hF 118 (dck_at tX7_token 51 rfl) (by decide) (fun hc102 => ?_) (fun hc102 => ?_)
      · replace h := ite_t hc102 h
        cases h
        exact K
      · replace h := ite_f hc102 h
        refine g_aload_n hF (dck_at tX7_token 52 rfl) rfl ?_
        refine g_dup hF (dck_at tX7_token 53 rfl) rfl ?_
        refine gf_X7_61 hF (hM 70 (by decide) (by decide)) kdc_70 lnc_70 (dck_at tX7_token 54 rfl) ?_
        refine g_iconst (v := 1) hF (dck_at tX7_token 55 rfl) (by decide) ?_
        refine g_iadd hF (dck_at tX7_token 56 rfl) ?_
        refine pf_X7_61 hF (hM 70 (by decide) (by decide)) kdc_70 lnc_70 (dck_at tX7_token 57 rfl) ?_
        show G X F 115 _ _ _
        refine g_goto hF 83 (dck_at tX7_token 58 rfl) (by decide) ?_
        exact ih _ _ h K
set_option maxHeartbeats 4000000 in
set_option maxRecDepth 100000 in
theorem g_X7_token_L118 {X : Cx} {F : Fx} (hM : SM X) (hF : FK X F cX7_token RX7 2 3) (N : Nat) : ∀ (n : Nat) (M : Mem) (o : Mem), f_X7_token_L118 N n M = some o → G X F 195 [some (.ref 70), none] [] o → G X F 118 [some (.ref 70), none] [] M := by
  intro n
  induction n with
  | zero =>
    intro M o h K
    cases h
  | succ n ih =>
    intro M o h K
    rw [f_X7_token_L118] at h
    refine g_aload_n hF (dck_at tX7_token 59 rfl) rfl ?_
    refine gf_X7_78 hF (hM 70 (by decide) (by decide)) kdc_70 lnc_70 (dck_at tX7_token 60 rfl) ?_
    refine g_iconst (v := 2) hF (dck_at tX7_token 61 rfl) (by decide) ?_
    refine g_icmp_ne hF 195 (dck_at tX7_token 62 rfl) (by decide) (fun hc123 => ?_) (fun hc123 => ?_)
    · replace h := ite_f hc123 h
      cases h
      exact K
    · replace h := ite_t hc123 h
      refine g_aload_n hF (dck_at tX7_token 63 rfl) rfl ?_
      refine g_aload_n hF (dck_at tX7_token 64 rfl) rfl ?_
      refine gf_X7_61 hF (hM 70 (by decide) (by decide)) kdc_70 lnc_70 (dck_at tX7_token 65 rfl) ?_
      obtain ⟨q131, e131, h⟩ := bd h
      refine g_callV hF (as := [.int (M 70 13)]) (k := 70) rfl (by decide) wm_X7_64 wi_X7_letterAt we_X7_letterAt wc_X7_letterAt wn_X7 hyX7_letterAt (by decide) (hM 70 (by decide) (by decide)) kdc_70 (c_X7_letterAt hF.2.2.2.2.2.2.2.1 hM e131) (by decide) rfl rfl rfl rfl (dck_at tX7_token 66 rfl) ?_
      show G X F 134 _ [.int q131] M
      obtain ⟨q134, e134, h⟩ := bd h
      refine g_callS hF (as := [.int q131]) wm_X7_75 wt_X7_isDigit wc_X7_isDigit wn_X7 hyX7_isDigit (by decide) (c_X7_isDigit hF.2.2.2.2.2.2.2.1 e134) (by decide) rfl rfl rfl rfl (dck_at tX7_token 67 rfl) ?_
      show G X F 137 _ [.int q134] M
      refine g_if_eq hF 195 (dck_at tX7_token 68 rfl) (by decide) (fun hc137 => ?_) (fun hc137 => ?_)
      · replace h := ite_t hc137 h
        cases h
        exact K
      · replace h := ite_f hc137 h
        refine g_aload_n hF (dck_at tX7_token 69 rfl) rfl ?_
        refine g_aload_n hF (dck_at tX7_token 70 rfl) rfl ?_
        refine gf_X7_61 hF (hM 70 (by decide) (by decide)) kdc_70 lnc_70 (dck_at tX7_token 71 rfl) ?_
        refine g_aload_n hF (dck_at tX7_token 72 rfl) rfl ?_
        refine gf_X7_68 hF (hM 70 (by decide) (by decide)) kdc_70 lnc_70 (dck_at tX7_token 73 rfl) ?_
        refine g_isub hF (dck_at tX7_token 74 rfl) ?_
        show G X F 150 _ _ _
        refine g_iconst (v := 2) hF (dck_at tX7_token 75 rfl) (by decide) ?_
        obtain ⟨o179, h179, h⟩ := bd h
        have K179 : G X F 179 [some (.ref 70), none] [.int o179, .ref 70] M := by
          refine pf_X7_81 hF (hM 70 (by decide) (by decide)) kdc_70 lnc_70 (dck_at tX7_token 91 rfl) ?_
          refine g_aload_n hF (dck_at tX7_token 92 rfl) rfl ?_
          refine g_dup hF (dck_at tX7_token 93 rfl) rfl ?_
          refine gf_X7_61 hF (hM 70 (by decide) (by decide)) kdc_70 lnc_70 (dck_at tX7_token 94 rfl) ?_
          refine g_iconst (v := 1) hF (dck_at tX7_token 95 rfl) (by decide) ?_
          refine g_iadd hF (dck_at tX7_token 96 rfl) ?_
          show G X F 189 _ _ _
          refine pf_X7_61 hF (hM 70 (by decide) (by decide)) kdc_70 lnc_70 (dck_at tX7_token 97 rfl) ?_
          refine g_goto hF 118 (dck_at tX7_token 98 rfl) (by decide) ?_
          exact ih _ _ h K
        replace h := h179
        refine g_icmp_ge hF 177 (dck_at tX7_token 76 rfl) (by decide) (fun hc151 => ?_) (fun hc151 => ?_)
        · replace h := ite_t hc151 h
          refine g_bipush (v := 100) hF (dck_at tX7_token 90 rfl) (by decide) ?_
          cases h
          exact K179
        · replace h := ite_f hc151 h
          refine g_bipush (v := 10) hF (dck_at tX7_token 77 rfl) (by decide) ?_
          refine g_aload_n hF (dck_at tX7_token 78 rfl) rfl ?_
          refine gf_X7_81 hF (hM 70 (by decide) (by decide)) kdc_70 lnc_70 (dck_at tX7_token 79 rfl) ?_
          refine g_imul hF (dck_at tX7_token 80 rfl) ?_
          refine g_aload_n hF (dck_at tX7_token 81 rfl) rfl ?_
          refine gf_X7_7 hF (hM 70 (by decide) (by decide)) kdc_70 lnc_70 (dck_at tX7_token 82 rfl) ?_
          show G X F 165 _ _ _
          refine g_aload_n hF (dck_at tX7_token 83 rfl) rfl ?_
          refine gf_X7_61 hF (hM 70 (by decide) (by decide)) kdc_70 lnc_70 (dck_at tX7_token 84 rfl) ?_
          obtain ⟨hg169, h⟩ := gd h
          refine g_ia hF (hM 71 (by decide) (by decide)) kdc_71 lnc_71 hg169 (dck_at tX7_token 85 rfl) ?_
          refine g_iadd hF (dck_at tX7_token 86 rfl) ?_
          refine g_bipush (v := 48) hF (dck_at tX7_token 87 rfl) (by decide) ?_
          refine g_isub hF (dck_at tX7_token 88 rfl) ?_
          refine g_goto hF 179 (dck_at tX7_token 89 rfl) (by decide) ?_
          cases h
          exact K179
set_option maxHeartbeats 4000000 in
set_option maxRecDepth 100000 in
theorem c_X7_token {X : Cx} {l : Launch} (hX : CxOk X) (hM : SM X) {N : Nat} {M : Mem} {M' : Mem} (h : f_X7_token N M = some M') : Ctr X l yX7_token cX7_token 2 none 3 [.ref 70] M none M' := by
  refine Ctr.ofG (L := [some (.ref 70), none]) hX (by decide) (Nat.le_of_ble_eq_true rfl) rfl (fun F hF hl hR => ?_)
  subst hl
  unfold f_X7_token at h
  obtain ⟨o0, e0, h⟩ := bd h
  refine g_X7_token_L0 hM hF N N _ _ e0 ?_
  refine g_aload_n hF (dck_at tX7_token 13 rfl) rfl ?_
  refine g_aload_n hF (dck_at tX7_token 14 rfl) rfl ?_
  refine gf_X7_61 hF (hM 70 (by decide) (by decide)) kdc_70 lnc_70 (dck_at tX7_token 15 rfl) ?_
  refine pf_X7_68 hF (hM 70 (by decide) (by decide)) kdc_70 lnc_70 (dck_at tX7_token 16 rfl) ?_
  refine g_aload_n hF (dck_at tX7_token 17 rfl) rfl ?_
  refine g_aload_n hF (dck_at tX7_token 18 rfl) rfl ?_
  show G X F 36 _ _ _
  refine gf_X7_61 hF (hM 70 (by decide) (by decide)) kdc_70 lnc_70 (dck_at tX7_token 19 rfl) ?_
  obtain ⟨q39, e39, h⟩ := bd h
  refine g_callV hF (as := [.int ((up2 o0 70 12 (o0 70 13)) 70 13)]) (k := 70) rfl (by decide) wm_X7_64 wi_X7_letterAt we_X7_letterAt wc_X7_letterAt wn_X7 hyX7_letterAt (by decide) (hM 70 (by decide) (by decide)) kdc_70 (c_X7_letterAt hF.2.2.2.2.2.2.2.1 hM e39) (by decide) rfl rfl rfl rfl (dck_at tX7_token 20 rfl) ?_
  show G X F 42 _ [.int q39] (up2 o0 70 12 (o0 70 13))
  refine g_istore_n (L' := [some (.ref 70), some (.int q39)]) hF (dck_at tX7_token 21 rfl) (Nat.le_of_ble_eq_true rfl) rfl ?_
  refine g_aload_n hF (dck_at tX7_token 22 rfl) rfl ?_
  refine g_iload_n hF (dck_at tX7_token 23 rfl) rfl ?_
  obtain ⟨o75, h75, h⟩ := bd h
  have K75 : G X F 75 [some (.ref 70), none] [.int o75, .ref 70] (up2 o0 70 12 (o0 70 13)) := by
    refine pf_X7_78 hF (hM 70 (by decide) (by decide)) kdc_70 lnc_70 (dck_at tX7_token 38 rfl) ?_
    refine g_aload_n hF (dck_at tX7_token 39 rfl) rfl ?_
    refine g_iconst (v := 0) hF (dck_at tX7_token 40 rfl) (by decide) ?_
    refine pf_X7_81 hF (hM 70 (by decide) (by decide)) kdc_70 lnc_70 (dck_at tX7_token 41 rfl) ?_
    obtain ⟨o83, e83, h⟩ := bd h
    refine g_X7_token_L83 hM hF N N _ _ e83 ?_
    obtain ⟨o118, e118, h⟩ := bd h
    refine g_X7_token_L118 hM hF N N _ _ e118 ?_
    refine g_aload_n hF (dck_at tX7_token 99 rfl) rfl ?_
    refine g_dup hF (dck_at tX7_token 100 rfl) rfl ?_
    refine gf_X7_61 hF (hM 70 (by decide) (by decide)) kdc_70 lnc_70 (dck_at tX7_token 101 rfl) ?_
    refine g_aload_n hF (dck_at tX7_token 102 rfl) rfl ?_
    refine gf_X7_78 hF (hM 70 (by decide) (by decide)) kdc_70 lnc_70 (dck_at tX7_token 103 rfl) ?_
    refine g_iconst (v := 3) hF (dck_at tX7_token 104 rfl) (by decide) ?_
    show G X F 205 _ _ _
    refine g_icmp_ne hF 212 (dck_at tX7_token 105 rfl) (by decide) (fun hc205 => ?_) (fun hc205 => ?_)
    · replace h := ite_f hc205 h
      refine g_iconst (v := 0) hF (dck_at tX7_token 108 rfl) (by decide) ?_
      refine g_iadd hF (dck_at tX7_token 109 rfl) ?_
      refine pf_X7_61 hF (hM 70 (by decide) (by decide)) kdc_70 lnc_70 (dck_at tX7_token 110 rfl) ?_
      cases h
      exact g_vret hF hR (dck_at tX7_token 111 rfl)
    · replace h := ite_t hc205 h
      refine g_iconst (v := 1) hF (dck_at tX7_token 106 rfl) (by decide) ?_
      refine g_goto hF 213 (dck_at tX7_token 107 rfl) (by decide) ?_
      refine g_iadd hF (dck_at tX7_token 109 rfl) ?_
      refine pf_X7_61 hF (hM 70 (by decide) (by decide)) kdc_70 lnc_70 (dck_at tX7_token 110 rfl) ?_
      cases h
      exact g_vret hF hR (dck_at tX7_token 111 rfl)
  replace h := h75
  refine g_if_ge hF 52 (dck_at tX7_token 24 rfl) (by decide) (fun hc45 => ?_) (fun hc45 => ?_)
  · replace h := ite_t hc45 h
    refine g_iload_n hF (dck_at tX7_token 27 rfl) rfl ?_
    obtain ⟨q53, e53, h⟩ := bd h
    refine g_callS hF (as := [.int q39]) wm_X7_71 wt_X7_isLetter wc_X7_isLetter wn_X7 hyX7_isLetter (by decide) (c_X7_isLetter hF.2.2.2.2.2.2.2.1 e53) (by decide) rfl rfl rfl rfl (dck_at tX7_token 28 rfl) ?_
    show G X F 56 _ [.int q53, .ref 70] (up2 o0 70 12 (o0 70 13))
    refine g_if_eq hF 63 (dck_at tX7_token 29 rfl) (by decide) (fun hc56 => ?_) (fun hc56 => ?_)
    · replace h := ite_t hc56 h
      refine g_iload_n hF (dck_at tX7_token 32 rfl) rfl ?_
      obtain ⟨q64, e64, h⟩ := bd h
      refine g_callS hF (as := [.int q39]) wm_X7_75 wt_X7_isDigit wc_X7_isDigit wn_X7 hyX7_isDigit (by decide) (c_X7_isDigit hF.2.2.2.2.2.2.2.1 e64) (by decide) rfl rfl rfl rfl (dck_at tX7_token 33 rfl) ?_
      show G X F 67 _ [.int q64, .ref 70] (up2 o0 70 12 (o0 70 13))
      refine g_if_eq hF 74 (dck_at tX7_token 34 rfl) (by decide) (fun hc67 => ?_) (fun hc67 => ?_)
      · replace h := ite_t hc67 h
        refine g_iconst (v := 3) hF (dck_at tX7_token 37 rfl) (by decide) ?_
        cases h
        refine g_msk [true, false] (L' := [some (.ref 70), none]) rfl ?_
        exact K75
      · replace h := ite_f hc67 h
        refine g_iconst (v := 2) hF (dck_at tX7_token 35 rfl) (by decide) ?_
        refine g_goto hF 75 (dck_at tX7_token 36 rfl) (by decide) ?_
        cases h
        refine g_msk [true, false] (L' := [some (.ref 70), none]) rfl ?_
        exact K75
    · replace h := ite_f hc56 h
      refine g_iconst (v := 1) hF (dck_at tX7_token 30 rfl) (by decide) ?_
      refine g_goto hF 75 (dck_at tX7_token 31 rfl) (by decide) ?_
      cases h
      refine g_msk [true, false] (L' := [some (.ref 70), none]) rfl ?_
      exact K75
  · replace h := ite_f hc45 h
    refine g_iconst (v := 0) hF (dck_at tX7_token 25 rfl) (by decide) ?_
    refine g_goto hF 75 (dck_at tX7_token 26 rfl) (by decide) ?_
    cases h
    refine g_msk [true, false] (L' := [some (.ref 70), none]) rfl ?_
    exact K75

def tbX7_isWord : List (Nat × Instr × Nat) := [(0, .aload_n 0, 1), (1, .getfield 78, 3), (4, .iconst 1, 1), (5, .if_icmp .ne 21, 3), (8, .aload_n 0, 1), (9, .getfield 61, 3), (12, .aload_n 0, 1), (13, .getfield 68, 3), (16, .isub, 1), (17, .bipush 10, 2), (19, .if_icmp .ge 7, 3), (22, .iconst 1, 1), (23, .goto 4, 3), (26, .iconst 0, 1), (27, .istore 10, 2), (29, .iconst 0, 1), (30, .istore 11, 2), (32, .iload 11, 2), (34, .bipush 9, 2), (36, .if_icmp .ge 155, 3), (39, .iload 10, 2), (41, .ifCond .eq 150, 3), (44, .iload 11, 2), (46, .ifCond .ne 7, 3), (49, .iload_n 1, 1), (50, .goto 82, 3), (53, .iload 11, 2), (55, .iconst 1, 1), (56, .if_icmp .ne 7, 3), (59, .iload_n 2, 1), (60, .goto 72, 3), (63, .iload 11, 2), (65, .iconst 2, 1), (66, .if_icmp .ne 7, 3), (69, .iload_n 3, 1), (70, .goto 62, 3), (73, .iload 11, 2), (75, .iconst 3, 1), (76, .if_icmp .ne 8, 3), (79, .iload 4, 2), (81, .goto 51, 3), (84, .iload 11, 2), (86, .iconst 4, 1), (87, .if_icmp .ne 8, 3), (90, .iload 5, 2), (92, .goto 40, 3), (95, .iload 11, 2), (97, .iconst 5, 1), (98, .if_icmp .ne 8, 3), (101, .iload 6, 2), (103, .goto 29, 3), (106, .iload 11, 2), (108, .bipush 6, 2), (110, .if_icmp .ne 8, 3), (113, .iload 7, 2), (115, .goto 17, 3), (118, .iload 11, 2), (120, .bipush 7, 2), (122, .if_icmp .ne 8, 3), (125, .iload 8, 2), (127, .goto 5, 3), (130, .iload 9, 2), (132, .istore 12, 2), (134, .aload_n 0, 1), (135, .getfield 68, 3), (138, .iload 11, 2), (140, .iadd, 1), (141, .aload_n 0, 1), (142, .getfield 61, 3), (145, .if_icmp .ge 28, 3), (148, .aload_n 0, 1), (149, .getfield 7, 3), (152, .aload_n 0, 1), (153, .getfield 68, 3), (156, .iload 11, 2), (158, .iadd, 1), (159, .iaload, 1), (160, .iload 12, 2), (162, .if_icmp .ne 7, 3), (165, .iconst 1, 1), (166, .goto 17, 3), (169, .iconst 0, 1), (170, .goto 13, 3), (173, .iload 12, 2), (175, .ifCond .ne 7, 3), (178, .iconst 1, 1), (179, .goto 4, 3), (182, .iconst 0, 1), (183, .istore 10, 2), (185, .iinc 11 1, 3), (188, .goto (-156), 3), (191, .iload 10, 2), (193, .ireturn, 1)]
theorem tX7_isWord : dck cX7_isWord tbX7_isWord = true := by decide +kernel
def f_X7_isWord_L32 (N : Nat) (M : Mem) (x1 : Int32) (x2 : Int32) (x3 : Int32) (x4 : Int32) (x5 : Int32) (x6 : Int32) (x7 : Int32) (x8 : Int32) (x9 : Int32) : Nat → Int32 → Int32 → Option (Int32 × Int32)
  | 0, _, _ => none
  | n + 1, x10, x11 => (if (9 : Int32) ≤ x11 then some (x10, x11) else (if x10 = 0 then some (x10, x11) else (if (M 70 13) ≤ ((M 70 12) + x11) then (if (if x11 = 0 then x1 else (if x11 = (1 : Int32) then x2 else (if x11 = (2 : Int32) then x3 else (if x11 = (3 : Int32) then x4 else (if x11 = (4 : Int32) then x5 else (if x11 = (5 : Int32) then x6 else (if x11 = (6 : Int32) then x7 else (if x11 = (7 : Int32) then x8 else x9)))))))) = 0 then f_X7_isWord_L32 N M x1 x2 x3 x4 x5 x6 x7 x8 x9 n (1 : Int32) (x11 + (1 : Int32)) else f_X7_isWord_L32 N M x1 x2 x3 x4 x5 x6 x7 x8 x9 n (0 : Int32) (x11 + (1 : Int32))) else if inb ((M 70 12) + x11) 160 = true then (if (M 71 ((M 70 12) + x11).toNatClampNeg) = (if x11 = 0 then x1 else (if x11 = (1 : Int32) then x2 else (if x11 = (2 : Int32) then x3 else (if x11 = (3 : Int32) then x4 else (if x11 = (4 : Int32) then x5 else (if x11 = (5 : Int32) then x6 else (if x11 = (6 : Int32) then x7 else (if x11 = (7 : Int32) then x8 else x9)))))))) then f_X7_isWord_L32 N M x1 x2 x3 x4 x5 x6 x7 x8 x9 n (1 : Int32) (x11 + (1 : Int32)) else f_X7_isWord_L32 N M x1 x2 x3 x4 x5 x6 x7 x8 x9 n (0 : Int32) (x11 + (1 : Int32))) else none)))
def f_X7_isWord (N : Nat) (M : Mem) (x1 : Int32) (x2 : Int32) (x3 : Int32) (x4 : Int32) (x5 : Int32) (x6 : Int32) (x7 : Int32) (x8 : Int32) (x9 : Int32) : Option Int32 := (f_X7_isWord_L32 N M x1 x2 x3 x4 x5 x6 x7 x8 x9 N (if (M 70 11) = (1 : Int32) then (if (10 : Int32) ≤ ((M 70 13) - (M 70 12)) then (0 : Int32) else (1 : Int32)) else (0 : Int32)) (0 : Int32)).bind fun o32 => if zok o32.1 = true then some o32.1 else none
set_option maxHeartbeats 4000000 in
set_option maxRecDepth 100000 in
theorem g_X7_isWord_L32 {X : Cx} {F : Fx} (hM : SM X) (hF : FK X F cX7_isWord RX7 13 1) (N : Nat) (M : Mem) (x1 : Int32) (x2 : Int32) (x3 : Int32) (x4 : Int32) (x5 : Int32) (x6 : Int32) (x7 : Int32) (x8 : Int32) (x9 : Int32) : ∀ (n : Nat) (x10 : Int32) (x11 : Int32) (o : Int32 × Int32), f_X7_isWord_L32 N M x1 x2 x3 x4 x5 x6 x7 x8 x9 n x10 x11 = some o → G X F 191 [none, none, none, none, none, none, none, none, none, none, some (.int o.1), none, none] [] M → G X F 32 [some (.ref 70), some (.int x1), some (.int x2), some (.int x3), some (.int x4), some (.int x5), some (.int x6), some (.int x7), some (.int x8), some (.int x9), some (.int x10), some (.int x11), none] [] M := by
  intro n
  induction n with
  | zero =>
    intro x10 x11 o h K
    cases h
  | succ n ih =>
    intro x10 x11 o h K
    rw [f_X7_isWord_L32] at h
    refine g_iload hF (dck_at tX7_isWord 17 rfl) rfl ?_
    refine g_bipush (v := 9) hF (dck_at tX7_isWord 18 rfl) (by decide) ?_
    refine g_icmp_ge hF 191 (dck_at tX7_isWord 19 rfl) (by decide) (fun hc36 => ?_) (fun hc36 => ?_)
    · replace h := ite_t hc36 h
      refine g_msk [false, false, false, false, false, false, false, false, false, false, true, false, true] (L' := [none, none, none, none, none, none, none, none, none, none, some (.int x10), none, none]) rfl ?_
      cases h
      exact K
    · replace h := ite_f hc36 h
      refine g_iload hF (dck_at tX7_isWord 20 rfl) rfl ?_
      refine g_if_eq hF 191 (dck_at tX7_isWord 21 rfl) (by decide) (fun hc41 => ?_) (fun hc41 => ?_)
      · replace h := ite_t hc41 h
        refine g_msk [false, false, false, false, false, false, false, false, false, false, true, false, true] (L' := [none, none, none, none, none, none, none, none, none, none, some (.int x10), none, none]) rfl ?_
        cases h
        exact K
      · replace h := ite_f hc41 h
        refine g_iload hF (dck_at tX7_isWord 22 rfl) rfl ?_
        have K132 : G X F 132 [some (.ref 70), some (.int x1), some (.int x2), some (.int x3), some (.int x4), some (.int x5), some (.int x6), some (.int x7), some (.int x8), some (.int x9), none, some (.int x11), none] [.int (if x11 = 0 then x1 else (if x11 = (1 : Int32) then x2 else (if x11 = (2 : Int32) then x3 else (if x11 = (3 : Int32) then x4 else (if x11 = (4 : Int32) then x5 else (if x11 = (5 : Int32) then x6 else (if x11 = (6 : Int32) then x7 else (if x11 = (7 : Int32) then x8 else x9))))))))] M := by
          refine g_istore (L' := [some (.ref 70), some (.int x1), some (.int x2), some (.int x3), some (.int x4), some (.int x5), some (.int x6), some (.int x7), some (.int x8), some (.int x9), none, some (.int x11), some (.int (if x11 = 0 then x1 else (if x11 = (1 : Int32) then x2 else (if x11 = (2 : Int32) then x3 else (if x11 = (3 : Int32) then x4 else (if x11 = (4 : Int32) then x5 else (if x11 = (5 : Int32) then x6 else (if x11 = (6 : Int32) then x7 else (if x11 = (7 : Int32) then x8 else x9)))))))))]) hF (dck_at tX7_isWord 62 rfl) (Nat.le_of_ble_eq_true rfl) rfl ?_
          refine g_aload_n hF (dck_at tX7_isWord 63 rfl) rfl ?_
          refine gf_X7_68 hF (hM 70 (by decide) (by decide)) kdc_70 lnc_70 (dck_at tX7_isWord 64 rfl) ?_
          refine g_iload hF (dck_at tX7_isWord 65 rfl) rfl ?_
          refine g_iadd hF (dck_at tX7_isWord 66 rfl) ?_
          refine g_aload_n hF (dck_at tX7_isWord 67 rfl) rfl ?_
          show G X F 142 _ _ _
          refine gf_X7_61 hF (hM 70 (by decide) (by decide)) kdc_70 lnc_70 (dck_at tX7_isWord 68 rfl) ?_
          refine g_icmp_ge hF 173 (dck_at tX7_isWord 69 rfl) (by decide) (fun hc145 => ?_) (fun hc145 => ?_)
          · replace h := ite_t hc145 h
            refine g_iload hF (dck_at tX7_isWord 83 rfl) rfl ?_
            refine g_if_ne hF 182 (dck_at tX7_isWord 84 rfl) (by decide) (fun hc175 => ?_) (fun hc175 => ?_)
            · replace h := ite_f hc175 h
              refine g_iconst (v := 0) hF (dck_at tX7_isWord 87 rfl) (by decide) ?_
              refine g_istore (L' := [some (.ref 70), some (.int x1), some (.int x2), some (.int x3), some (.int x4), some (.int x5), some (.int x6), some (.int x7), some (.int x8), some (.int x9), some (.int (0 : Int32)), some (.int x11), some (.int (if x11 = 0 then x1 else (if x11 = (1 : Int32) then x2 else (if x11 = (2 : Int32) then x3 else (if x11 = (3 : Int32) then x4 else (if x11 = (4 : Int32) then x5 else (if x11 = (5 : Int32) then x6 else (if x11 = (6 : Int32) then x7 else (if x11 = (7 : Int32) then x8 else x9)))))))))]) hF (dck_at tX7_isWord 88 rfl) (Nat.le_of_ble_eq_true rfl) rfl ?_
              refine g_iinc (v := 1) (L' := [some (.ref 70), some (.int x1), some (.int x2), some (.int x3), some (.int x4), some (.int x5), some (.int x6), some (.int x7), some (.int x8), some (.int x9), some (.int (0 : Int32)), some (.int (x11 + (1 : Int32))), some (.int (if x11 = 0 then x1 else (if x11 = (1 : Int32) then x2 else (if x11 = (2 : Int32) then x3 else (if x11 = (3 : Int32) then x4 else (if x11 = (4 : Int32) then x5 else (if x11 = (5 : Int32) then x6 else (if x11 = (6 : Int32) then x7 else (if x11 = (7 : Int32) then x8 else x9)))))))))]) hF (dck_at tX7_isWord 89 rfl) rfl (by decide) rfl ?_
              refine g_goto hF 32 (dck_at tX7_isWord 90 rfl) (by decide) ?_
              refine g_msk [true, true, true, true, true, true, true, true, true, true, true, true, false] (L' := [some (.ref 70), some (.int x1), some (.int x2), some (.int x3), some (.int x4), some (.int x5), some (.int x6), some (.int x7), some (.int x8), some (.int x9), some (.int (0 : Int32)), some (.int (x11 + (1 : Int32))), none]) rfl ?_
              exact ih _ _ _ h K
            · replace h := ite_t hc175 h
              refine g_iconst (v := 1) hF (dck_at tX7_isWord 85 rfl) (by decide) ?_
              refine g_goto hF 183 (dck_at tX7_isWord 86 rfl) (by decide) ?_
              refine g_istore (L' := [some (.ref 70), some (.int x1), some (.int x2), some (.int x3), some (.int x4), some (.int x5), some (.int x6), some (.int x7), some (.int x8), some (.int x9), some (.int (1 : Int32)), some (.int x11), some (.int (if x11 = 0 then x1 else (if x11 = (1 : Int32) then x2 else (if x11 = (2 : Int32) then x3 else (if x11 = (3 : Int32) then x4 else (if x11 = (4 : Int32) then x5 else (if x11 = (5 : Int32) then x6 else (if x11 = (6 : Int32) then x7 else (if x11 = (7 : Int32) then x8 else x9)))))))))]) hF (dck_at tX7_isWord 88 rfl) (Nat.le_of_ble_eq_true rfl) rfl ?_
              refine g_iinc (v := 1) (L' := [some (.ref 70), some (.int x1), some (.int x2), some (.int x3), some (.int x4), some (.int x5), some (.int x6), some (.int x7), some (.int x8), some (.int x9), some (.int (1 : Int32)), some (.int (x11 + (1 : Int32))), some (.int (if x11 = 0 then x1 else (if x11 = (1 : Int32) then x2 else (if x11 = (2 : Int32) then x3 else (if x11 = (3 : Int32) then x4 else (if x11 = (4 : Int32) then x5 else (if x11 = (5 : Int32) then x6 else (if x11 = (6 : Int32) then x7 else (if x11 = (7 : Int32) then x8 else x9)))))))))]) hF (dck_at tX7_isWord 89 rfl) rfl (by decide) rfl ?_
              refine g_goto hF 32 (dck_at tX7_isWord 90 rfl) (by decide) ?_
              refine g_msk [true, true, true, true, true, true, true, true, true, true, true, true, false] (L' := [some (.ref 70), some (.int x1), some (.int x2), some (.int x3), some (.int x4), some (.int x5), some (.int x6), some (.int x7), some (.int x8), some (.int x9), some (.int (1 : Int32)), some (.int (x11 + (1 : Int32))), none]) rfl ?_
              exact ih _ _ _ h K
          · replace h := ite_f hc145 h
            refine g_aload_n hF (dck_at tX7_isWord 70 rfl) rfl ?_
            refine gf_X7_7 hF (hM 70 (by decide) (by decide)) kdc_70 lnc_70 (dck_at tX7_isWord 71 rfl) ?_
            refine g_aload_n hF (dck_at tX7_isWord 72 rfl) rfl ?_
            refine gf_X7_68 hF (hM 70 (by decide) (by decide)) kdc_70 lnc_70 (dck_at tX7_isWord 73 rfl) ?_
            refine g_iload hF (dck_at tX7_isWord 74 rfl) rfl ?_
            refine g_iadd hF (dck_at tX7_isWord 75 rfl) ?_
            show G X F 159 _ _ _
            obtain ⟨hg159, h⟩ := gd h
            refine g_ia hF (hM 71 (by decide) (by decide)) kdc_71 lnc_71 hg159 (dck_at tX7_isWord 76 rfl) ?_
            refine g_iload hF (dck_at tX7_isWord 77 rfl) rfl ?_
            refine g_icmp_ne hF 169 (dck_at tX7_isWord 78 rfl) (by decide) (fun hc162 => ?_) (fun hc162 => ?_)
            · replace h := ite_f hc162 h
              refine g_iconst (v := 0) hF (dck_at tX7_isWord 81 rfl) (by decide) ?_
              refine g_goto hF 183 (dck_at tX7_isWord 82 rfl) (by decide) ?_
              refine g_istore (L' := [some (.ref 70), some (.int x1), some (.int x2), some (.int x3), some (.int x4), some (.int x5), some (.int x6), some (.int x7), some (.int x8), some (.int x9), some (.int (0 : Int32)), some (.int x11), some (.int (if x11 = 0 then x1 else (if x11 = (1 : Int32) then x2 else (if x11 = (2 : Int32) then x3 else (if x11 = (3 : Int32) then x4 else (if x11 = (4 : Int32) then x5 else (if x11 = (5 : Int32) then x6 else (if x11 = (6 : Int32) then x7 else (if x11 = (7 : Int32) then x8 else x9)))))))))]) hF (dck_at tX7_isWord 88 rfl) (Nat.le_of_ble_eq_true rfl) rfl ?_
              refine g_iinc (v := 1) (L' := [some (.ref 70), some (.int x1), some (.int x2), some (.int x3), some (.int x4), some (.int x5), some (.int x6), some (.int x7), some (.int x8), some (.int x9), some (.int (0 : Int32)), some (.int (x11 + (1 : Int32))), some (.int (if x11 = 0 then x1 else (if x11 = (1 : Int32) then x2 else (if x11 = (2 : Int32) then x3 else (if x11 = (3 : Int32) then x4 else (if x11 = (4 : Int32) then x5 else (if x11 = (5 : Int32) then x6 else (if x11 = (6 : Int32) then x7 else (if x11 = (7 : Int32) then x8 else x9)))))))))]) hF (dck_at tX7_isWord 89 rfl) rfl (by decide) rfl ?_
              refine g_goto hF 32 (dck_at tX7_isWord 90 rfl) (by decide) ?_
              refine g_msk [true, true, true, true, true, true, true, true, true, true, true, true, false] (L' := [some (.ref 70), some (.int x1), some (.int x2), some (.int x3), some (.int x4), some (.int x5), some (.int x6), some (.int x7), some (.int x8), some (.int x9), some (.int (0 : Int32)), some (.int (x11 + (1 : Int32))), none]) rfl ?_
              exact ih _ _ _ h K
            · replace h := ite_t hc162 h
              refine g_iconst (v := 1) hF (dck_at tX7_isWord 79 rfl) (by decide) ?_
              refine g_goto hF 183 (dck_at tX7_isWord 80 rfl) (by decide) ?_
              refine g_istore (L' := [some (.ref 70), some (.int x1), some (.int x2), some (.int x3), some (.int x4), some (.int x5), some (.int x6), some (.int x7), some (.int x8), some (.int x9), some (.int (1 : Int32)), some (.int x11), some (.int (if x11 = 0 then x1 else (if x11 = (1 : Int32) then x2 else (if x11 = (2 : Int32) then x3 else (if x11 = (3 : Int32) then x4 else (if x11 = (4 : Int32) then x5 else (if x11 = (5 : Int32) then x6 else (if x11 = (6 : Int32) then x7 else (if x11 = (7 : Int32) then x8 else x9)))))))))]) hF (dck_at tX7_isWord 88 rfl) (Nat.le_of_ble_eq_true rfl) rfl ?_
              refine g_iinc (v := 1) (L' := [some (.ref 70), some (.int x1), some (.int x2), some (.int x3), some (.int x4), some (.int x5), some (.int x6), some (.int x7), some (.int x8), some (.int x9), some (.int (1 : Int32)), some (.int (x11 + (1 : Int32))), some (.int (if x11 = 0 then x1 else (if x11 = (1 : Int32) then x2 else (if x11 = (2 : Int32) then x3 else (if x11 = (3 : Int32) then x4 else (if x11 = (4 : Int32) then x5 else (if x11 = (5 : Int32) then x6 else (if x11 = (6 : Int32) then x7 else (if x11 = (7 : Int32) then x8 else x9)))))))))]) hF (dck_at tX7_isWord 89 rfl) rfl (by decide) rfl ?_
              refine g_goto hF 32 (dck_at tX7_isWord 90 rfl) (by decide) ?_
              refine g_msk [true, true, true, true, true, true, true, true, true, true, true, true, false] (L' := [some (.ref 70), some (.int x1), some (.int x2), some (.int x3), some (.int x4), some (.int x5), some (.int x6), some (.int x7), some (.int x8), some (.int x9), some (.int (1 : Int32)), some (.int (x11 + (1 : Int32))), none]) rfl ?_
              exact ih _ _ _ h K
        refine g_if_ne hF 53 (dck_at tX7_isWord 23 rfl) (by decide) (fun hc46 => ?_) (fun hc46 => ?_)
        · refine g_iload hF (dck_at tX7_isWord 26 rfl) rfl ?_
          refine g_iconst (v := 1) hF (dck_at tX7_isWord 27 rfl) (by decide) ?_
          refine g_icmp_ne hF 63 (dck_at tX7_isWord 28 rfl) (by decide) (fun hc56 => ?_) (fun hc56 => ?_)
          · refine g_iload hF (dck_at tX7_isWord 31 rfl) rfl ?_
            refine g_iconst (v := 2) hF (dck_at tX7_isWord 32 rfl) (by decide) ?_
            refine g_icmp_ne hF 73 (dck_at tX7_isWord 33 rfl) (by decide) (fun hc66 => ?_) (fun hc66 => ?_)
            · refine g_iload hF (dck_at tX7_isWord 36 rfl) rfl ?_
              refine g_iconst (v := 3) hF (dck_at tX7_isWord 37 rfl) (by decide) ?_
              refine g_icmp_ne hF 84 (dck_at tX7_isWord 38 rfl) (by decide) (fun hc76 => ?_) (fun hc76 => ?_)
              · refine g_iload hF (dck_at tX7_isWord 41 rfl) rfl ?_
                refine g_iconst (v := 4) hF (dck_at tX7_isWord 42 rfl) (by decide) ?_
                refine g_icmp_ne hF 95 (dck_at tX7_isWord 43 rfl) (by decide) (fun hc87 => ?_) (fun hc87 => ?_)
                · refine g_iload hF (dck_at tX7_isWord 46 rfl) rfl ?_
                  refine g_iconst (v := 5) hF (dck_at tX7_isWord 47 rfl) (by decide) ?_
                  refine g_icmp_ne hF 106 (dck_at tX7_isWord 48 rfl) (by decide) (fun hc98 => ?_) (fun hc98 => ?_)
                  · refine g_iload hF (dck_at tX7_isWord 51 rfl) rfl ?_
                    refine g_bipush (v := 6) hF (dck_at tX7_isWord 52 rfl) (by decide) ?_
                    refine g_icmp_ne hF 118 (dck_at tX7_isWord 53 rfl) (by decide) (fun hc110 => ?_) (fun hc110 => ?_)
                    · refine g_iload hF (dck_at tX7_isWord 56 rfl) rfl ?_
                      refine g_bipush (v := 7) hF (dck_at tX7_isWord 57 rfl) (by decide) ?_
                      refine g_icmp_ne hF 130 (dck_at tX7_isWord 58 rfl) (by decide) (fun hc122 => ?_) (fun hc122 => ?_)
                      · refine g_iload hF (dck_at tX7_isWord 61 rfl) rfl ?_
                        refine g_msk [true, true, true, true, true, true, true, true, true, true, false, true, true] (L' := [some (.ref 70), some (.int x1), some (.int x2), some (.int x3), some (.int x4), some (.int x5), some (.int x6), some (.int x7), some (.int x8), some (.int x9), none, some (.int x11), none]) rfl ?_
                        simp only [if_neg hc46, if_neg hc56, if_neg hc66, if_neg hc76, if_neg hc87, if_neg hc98, if_neg hc110, if_neg hc122] at K132
                        exact K132
                      · refine g_iload hF (dck_at tX7_isWord 59 rfl) rfl ?_
                        refine g_goto hF 132 (dck_at tX7_isWord 60 rfl) (by decide) ?_
                        refine g_msk [true, true, true, true, true, true, true, true, true, true, false, true, true] (L' := [some (.ref 70), some (.int x1), some (.int x2), some (.int x3), some (.int x4), some (.int x5), some (.int x6), some (.int x7), some (.int x8), some (.int x9), none, some (.int x11), none]) rfl ?_
                        simp only [if_neg hc46, if_neg hc56, if_neg hc66, if_neg hc76, if_neg hc87, if_neg hc98, if_neg hc110, if_pos hc122] at K132
                        exact K132
                    · refine g_iload hF (dck_at tX7_isWord 54 rfl) rfl ?_
                      refine g_goto hF 132 (dck_at tX7_isWord 55 rfl) (by decide) ?_
                      refine g_msk [true, true, true, true, true, true, true, true, true, true, false, true, true] (L' := [some (.ref 70), some (.int x1), some (.int x2), some (.int x3), some (.int x4), some (.int x5), some (.int x6), some (.int x7), some (.int x8), some (.int x9), none, some (.int x11), none]) rfl ?_
                      simp only [if_neg hc46, if_neg hc56, if_neg hc66, if_neg hc76, if_neg hc87, if_neg hc98, if_pos hc110] at K132
                      exact K132
                  · refine g_iload hF (dck_at tX7_isWord 49 rfl) rfl ?_
                    refine g_goto hF 132 (dck_at tX7_isWord 50 rfl) (by decide) ?_
                    refine g_msk [true, true, true, true, true, true, true, true, true, true, false, true, true] (L' := [some (.ref 70), some (.int x1), some (.int x2), some (.int x3), some (.int x4), some (.int x5), some (.int x6), some (.int x7), some (.int x8), some (.int x9), none, some (.int x11), none]) rfl ?_
                    simp only [if_neg hc46, if_neg hc56, if_neg hc66, if_neg hc76, if_neg hc87, if_pos hc98] at K132
                    exact K132
                · refine g_iload hF (dck_at tX7_isWord 44 rfl) rfl ?_
                  refine g_goto hF 132 (dck_at tX7_isWord 45 rfl) (by decide) ?_
                  refine g_msk [true, true, true, true, true, true, true, true, true, true, false, true, true] (L' := [some (.ref 70), some (.int x1), some (.int x2), some (.int x3), some (.int x4), some (.int x5), some (.int x6), some (.int x7), some (.int x8), some (.int x9), none, some (.int x11), none]) rfl ?_
                  simp only [if_neg hc46, if_neg hc56, if_neg hc66, if_neg hc76, if_pos hc87] at K132
                  exact K132
              · refine g_iload hF (dck_at tX7_isWord 39 rfl) rfl ?_
                refine g_goto hF 132 (dck_at tX7_isWord 40 rfl) (by decide) ?_
                refine g_msk [true, true, true, true, true, true, true, true, true, true, false, true, true] (L' := [some (.ref 70), some (.int x1), some (.int x2), some (.int x3), some (.int x4), some (.int x5), some (.int x6), some (.int x7), some (.int x8), some (.int x9), none, some (.int x11), none]) rfl ?_
                simp only [if_neg hc46, if_neg hc56, if_neg hc66, if_pos hc76] at K132
                exact K132
            · refine g_iload_n hF (dck_at tX7_isWord 34 rfl) rfl ?_
              refine g_goto hF 132 (dck_at tX7_isWord 35 rfl) (by decide) ?_
              refine g_msk [true, true, true, true, true, true, true, true, true, true, false, true, true] (L' := [some (.ref 70), some (.int x1), some (.int x2), some (.int x3), some (.int x4), some (.int x5), some (.int x6), some (.int x7), some (.int x8), some (.int x9), none, some (.int x11), none]) rfl ?_
              simp only [if_neg hc46, if_neg hc56, if_pos hc66] at K132
              exact K132
          · refine g_iload_n hF (dck_at tX7_isWord 29 rfl) rfl ?_
            refine g_goto hF 132 (dck_at tX7_isWord 30 rfl) (by decide) ?_
            refine g_msk [true, true, true, true, true, true, true, true, true, true, false, true, true] (L' := [some (.ref 70), some (.int x1), some (.int x2), some (.int x3), some (.int x4), some (.int x5), some (.int x6), some (.int x7), some (.int x8), some (.int x9), none, some (.int x11), none]) rfl ?_
            simp only [if_neg hc46, if_pos hc56] at K132
            exact K132
        · refine g_iload_n hF (dck_at tX7_isWord 24 rfl) rfl ?_
          refine g_goto hF 132 (dck_at tX7_isWord 25 rfl) (by decide) ?_
          refine g_msk [true, true, true, true, true, true, true, true, true, true, false, true, true] (L' := [some (.ref 70), some (.int x1), some (.int x2), some (.int x3), some (.int x4), some (.int x5), some (.int x6), some (.int x7), some (.int x8), some (.int x9), none, some (.int x11), none]) rfl ?_
          simp only [if_pos hc46] at K132
          exact K132
set_option maxHeartbeats 4000000 in
set_option maxRecDepth 100000 in
theorem c_X7_isWord {X : Cx} {l : Launch} (hX : CxOk X) (hM : SM X) {N : Nat} {M : Mem} {x1 : Int32} {x2 : Int32} {x3 : Int32} {x4 : Int32} {x5 : Int32} {x6 : Int32} {x7 : Int32} {x8 : Int32} {x9 : Int32} {r : Int32} (h : f_X7_isWord N M x1 x2 x3 x4 x5 x6 x7 x8 x9 = some r) : Ctr X l yX7_isWord cX7_isWord 13 (some .boolean) 1 [.ref 70, .int x1, .int x2, .int x3, .int x4, .int x5, .int x6, .int x7, .int x8, .int x9] M (some (.int r)) M := by
  refine Ctr.ofG (L := [some (.ref 70), some (.int x1), some (.int x2), some (.int x3), some (.int x4), some (.int x5), some (.int x6), some (.int x7), some (.int x8), some (.int x9), none, none, none]) hX (by decide) (Nat.le_of_ble_eq_true rfl) rfl (fun F hF hl hR => ?_)
  subst hl
  unfold f_X7_isWord at h
  refine g_aload_n hF (dck_at tX7_isWord 0 rfl) rfl ?_
  refine gf_X7_78 hF (hM 70 (by decide) (by decide)) kdc_70 lnc_70 (dck_at tX7_isWord 1 rfl) ?_
  refine g_iconst (v := 1) hF (dck_at tX7_isWord 2 rfl) (by decide) ?_
  have K27 : G X F 27 [some (.ref 70), some (.int x1), some (.int x2), some (.int x3), some (.int x4), some (.int x5), some (.int x6), some (.int x7), some (.int x8), some (.int x9), none, none, none] [.int (if (M 70 11) = (1 : Int32) then (if (10 : Int32) ≤ ((M 70 13) - (M 70 12)) then (0 : Int32) else (1 : Int32)) else (0 : Int32))] M := by
    refine g_istore (L' := [some (.ref 70), some (.int x1), some (.int x2), some (.int x3), some (.int x4), some (.int x5), some (.int x6), some (.int x7), some (.int x8), some (.int x9), some (.int (if (M 70 11) = (1 : Int32) then (if (10 : Int32) ≤ ((M 70 13) - (M 70 12)) then (0 : Int32) else (1 : Int32)) else (0 : Int32))), none, none]) hF (dck_at tX7_isWord 14 rfl) (Nat.le_of_ble_eq_true rfl) rfl ?_
    refine g_iconst (v := 0) hF (dck_at tX7_isWord 15 rfl) (by decide) ?_
    refine g_istore (L' := [some (.ref 70), some (.int x1), some (.int x2), some (.int x3), some (.int x4), some (.int x5), some (.int x6), some (.int x7), some (.int x8), some (.int x9), some (.int (if (M 70 11) = (1 : Int32) then (if (10 : Int32) ≤ ((M 70 13) - (M 70 12)) then (0 : Int32) else (1 : Int32)) else (0 : Int32))), some (.int (0 : Int32)), none]) hF (dck_at tX7_isWord 16 rfl) (Nat.le_of_ble_eq_true rfl) rfl ?_
    obtain ⟨o32, e32, h⟩ := bd h
    refine g_X7_isWord_L32 hM hF N _ _ _ _ _ _ _ _ _ _ N _ _ _ e32 ?_
    refine g_iload hF (dck_at tX7_isWord 91 rfl) rfl ?_
    obtain ⟨hz193, h⟩ := gd h
    cases h
    exact g_zret hF hR (zok_n hz193) (dck_at tX7_isWord 92 rfl)
  refine g_icmp_ne hF 26 (dck_at tX7_isWord 3 rfl) (by decide) (fun hc5 => ?_) (fun hc5 => ?_)
  · refine g_iconst (v := 0) hF (dck_at tX7_isWord 13 rfl) (by decide) ?_
    simp only [if_neg hc5] at K27
    exact K27
  · refine g_aload_n hF (dck_at tX7_isWord 4 rfl) rfl ?_
    refine gf_X7_61 hF (hM 70 (by decide) (by decide)) kdc_70 lnc_70 (dck_at tX7_isWord 5 rfl) ?_
    refine g_aload_n hF (dck_at tX7_isWord 6 rfl) rfl ?_
    refine gf_X7_68 hF (hM 70 (by decide) (by decide)) kdc_70 lnc_70 (dck_at tX7_isWord 7 rfl) ?_
    refine g_isub hF (dck_at tX7_isWord 8 rfl) ?_
    refine g_bipush (v := 10) hF (dck_at tX7_isWord 9 rfl) (by decide) ?_
    show G X F 19 _ _ _
    refine g_icmp_ge hF 26 (dck_at tX7_isWord 10 rfl) (by decide) (fun hc19 => ?_) (fun hc19 => ?_)
    · refine g_iconst (v := 0) hF (dck_at tX7_isWord 13 rfl) (by decide) ?_
      simp only [if_pos hc5, if_pos hc19] at K27
      exact K27
    · refine g_iconst (v := 1) hF (dck_at tX7_isWord 11 rfl) (by decide) ?_
      refine g_goto hF 27 (dck_at tX7_isWord 12 rfl) (by decide) ?_
      simp only [if_pos hc5, if_neg hc19] at K27
      exact K27

def tbX7_number : List (Nat × Instr × Nat) := [(0, .aload_n 0, 1), (1, .invokevirtual 84, 3), (4, .aload_n 0, 1), (5, .getfield 16, 3), (8, .iload_n 1, 1), (9, .aload_n 0, 1), (10, .getfield 81, 3), (13, .iastore, 1), (14, .aload_n 0, 1), (15, .getfield 78, 3), (18, .iconst 2, 1), (19, .if_icmp .ne 19, 3), (22, .aload_n 0, 1), (23, .getfield 81, 3), (26, .iload_n 2, 1), (27, .iload_n 3, 1), (28, .invokestatic 53, 3), (31, .ifCond .eq 7, 3), (34, .iconst 1, 1), (35, .goto 4, 3), (38, .iconst 0, 1), (39, .ireturn, 1)]
theorem tX7_number : dck cX7_number tbX7_number = true := by decide +kernel
def f_X7_number (N : Nat) (M : Mem) (x1 : Int32) (x2 : Int32) (x3 : Int32) : Option (Int32 × Mem) := (f_X7_token N M).bind fun q1 => if inb x1 45 = true then (if ((up2 q1 73 x1.toNatClampNeg (q1 70 14)) 70 11) = (2 : Int32) then (f_X7_in N (up2 q1 73 x1.toNatClampNeg (q1 70 14)) ((up2 q1 73 x1.toNatClampNeg (q1 70 14)) 70 14) x2 x3).bind fun q28 => (if q28 = 0 then some ((0 : Int32), (up2 q1 73 x1.toNatClampNeg (q1 70 14))) else some ((1 : Int32), (up2 q1 73 x1.toNatClampNeg (q1 70 14)))) else some ((0 : Int32), (up2 q1 73 x1.toNatClampNeg (q1 70 14)))) else none
set_option maxHeartbeats 4000000 in
set_option maxRecDepth 100000 in
theorem c_X7_number {X : Cx} {l : Launch} (hX : CxOk X) (hM : SM X) {N : Nat} {M : Mem} {x1 : Int32} {x2 : Int32} {x3 : Int32} {r : Int32} {M' : Mem} (h : f_X7_number N M x1 x2 x3 = some (r, M')) : Ctr X l yX7_number cX7_number 4 (some .boolean) 4 [.ref 70, .int x1, .int x2, .int x3] M (some (.int r)) M' := by
  refine Ctr.ofG (L := [some (.ref 70), some (.int x1), some (.int x2), some (.int x3)]) hX (by decide) (Nat.le_of_ble_eq_true rfl) rfl (fun F hF hl hR => ?_)
  subst hl
  unfold f_X7_number at h
  refine g_aload_n hF (dck_at tX7_number 0 rfl) rfl ?_
  obtain ⟨q1, e1, h⟩ := bd h
  refine g_callV hF (as := []) (k := 70) rfl (by decide) wm_X7_84 wi_X7_token we_X7_token wc_X7_token wn_X7 hyX7_token (by decide) (hM 70 (by decide) (by decide)) kdc_70 (c_X7_token hF.2.2.2.2.2.2.2.1 hM e1) (by decide) rfl rfl rfl rfl (dck_at tX7_number 1 rfl) ?_
  show G X F 4 _ [] q1
  refine g_aload_n hF (dck_at tX7_number 2 rfl) rfl ?_
  refine gf_X7_16 hF (hM 70 (by decide) (by decide)) kdc_70 lnc_70 (dck_at tX7_number 3 rfl) ?_
  refine g_iload_n hF (dck_at tX7_number 4 rfl) rfl ?_
  refine g_aload_n hF (dck_at tX7_number 5 rfl) rfl ?_
  show G X F 10 _ _ _
  refine gf_X7_81 hF (hM 70 (by decide) (by decide)) kdc_70 lnc_70 (dck_at tX7_number 6 rfl) ?_
  obtain ⟨hg13, h⟩ := gd h
  refine g_is hF (hM 73 (by decide) (by decide)) kdc_73 lnc_73 hg13 (dck_at tX7_number 7 rfl) ?_
  refine g_aload_n hF (dck_at tX7_number 8 rfl) rfl ?_
  refine gf_X7_78 hF (hM 70 (by decide) (by decide)) kdc_70 lnc_70 (dck_at tX7_number 9 rfl) ?_
  refine g_iconst (v := 2) hF (dck_at tX7_number 10 rfl) (by decide) ?_
  refine g_icmp_ne hF 38 (dck_at tX7_number 11 rfl) (by decide) (fun hc19 => ?_) (fun hc19 => ?_)
  · replace h := ite_f hc19 h
    refine g_iconst (v := 0) hF (dck_at tX7_number 20 rfl) (by decide) ?_
    cases h
    exact g_zret hF hR rfl (dck_at tX7_number 21 rfl)
  · replace h := ite_t hc19 h
    refine g_aload_n hF (dck_at tX7_number 12 rfl) rfl ?_
    refine gf_X7_81 hF (hM 70 (by decide) (by decide)) kdc_70 lnc_70 (dck_at tX7_number 13 rfl) ?_
    refine g_iload_n hF (dck_at tX7_number 14 rfl) rfl ?_
    refine g_iload_n hF (dck_at tX7_number 15 rfl) rfl ?_
    obtain ⟨q28, e28, h⟩ := bd h
    refine g_callS hF (as := [.int ((up2 q1 73 x1.toNatClampNeg (q1 70 14)) 70 14), .int x2, .int x3]) wm_X7_53 wt_X7_in wc_X7_in wn_X7 hyX7_in (by decide) (c_X7_in hF.2.2.2.2.2.2.2.1 e28) (by decide) rfl rfl rfl rfl (dck_at tX7_number 16 rfl) ?_
    show G X F 31 _ [.int q28] (up2 q1 73 x1.toNatClampNeg (q1 70 14))
    refine g_if_eq hF 38 (dck_at tX7_number 17 rfl) (by decide) (fun hc31 => ?_) (fun hc31 => ?_)
    · replace h := ite_t hc31 h
      refine g_iconst (v := 0) hF (dck_at tX7_number 20 rfl) (by decide) ?_
      cases h
      exact g_zret hF hR rfl (dck_at tX7_number 21 rfl)
    · replace h := ite_f hc31 h
      refine g_iconst (v := 1) hF (dck_at tX7_number 18 rfl) (by decide) ?_
      refine g_goto hF 39 (dck_at tX7_number 19 rfl) (by decide) ?_
      cases h
      exact g_zret hF hR rfl (dck_at tX7_number 21 rfl)

def tbX7_forgets : List (Nat × Instr × Nat) := [(0, .iconst 0, 1), (1, .istore_n 1, 1), (2, .iload_n 1, 1), (3, .bipush 45, 2), (5, .if_icmp .ge 45, 3), (8, .aload_n 0, 1), (9, .getfield 16, 3), (12, .iload_n 1, 1), (13, .iload_n 1, 1), (14, .iconst 2, 1), (15, .if_icmp .ne 8, 3), (18, .bipush 10, 2), (20, .goto 23, 3), (23, .iload_n 1, 1), (24, .iconst 3, 1), (25, .if_icmp .ne 8, 3), (28, .bipush 60, 2), (30, .goto 13, 3), (33, .iload_n 1, 1), (34, .iconst 4, 1), (35, .if_icmp .ne 7, 3), (38, .iconst 1, 1), (39, .goto 4, 3), (42, .iconst 0, 1), (43, .iastore, 1), (44, .iinc 1 1, 3), (47, .goto (-45), 3), (50, .return_, 1)]
theorem tX7_forgets : dck cX7_forgets tbX7_forgets = true := by decide +kernel
def f_X7_forgets_L2 (N : Nat) : Nat → Int32 → Mem → Option (Int32 × Mem)
  | 0, _, _ => none
  | n + 1, x1, M => (if (45 : Int32) ≤ x1 then some (x1, M) else (if x1 = (2 : Int32) then if inb x1 45 = true then f_X7_forgets_L2 N n (x1 + (1 : Int32)) (up2 M 73 x1.toNatClampNeg (10 : Int32)) else none else (if x1 = (3 : Int32) then if inb x1 45 = true then f_X7_forgets_L2 N n (x1 + (1 : Int32)) (up2 M 73 x1.toNatClampNeg (60 : Int32)) else none else (if x1 = (4 : Int32) then if inb x1 45 = true then f_X7_forgets_L2 N n (x1 + (1 : Int32)) (up2 M 73 x1.toNatClampNeg (1 : Int32)) else none else if inb x1 45 = true then f_X7_forgets_L2 N n (x1 + (1 : Int32)) (up2 M 73 x1.toNatClampNeg (0 : Int32)) else none))))
def f_X7_forgets (N : Nat) (M : Mem) : Option Mem := (f_X7_forgets_L2 N N (0 : Int32) M).bind fun o2 => some o2.2
set_option maxHeartbeats 4000000 in
set_option maxRecDepth 100000 in
theorem g_X7_forgets_L2 {X : Cx} {F : Fx} (hM : SM X) (hF : FK X F cX7_forgets RX7 2 1) (N : Nat) : ∀ (n : Nat) (x1 : Int32) (M : Mem) (o : Int32 × Mem), f_X7_forgets_L2 N n x1 M = some o → G X F 50 [none, none] [] o.2 → G X F 2 [some (.ref 70), some (.int x1)] [] M := by
  intro n
  induction n with
  | zero =>
    intro x1 M o h K
    cases h
  | succ n ih =>
    intro x1 M o h K
    rw [f_X7_forgets_L2] at h
    refine g_iload_n hF (dck_at tX7_forgets 2 rfl) rfl ?_
    refine g_bipush (v := 45) hF (dck_at tX7_forgets 3 rfl) (by decide) ?_
    refine g_icmp_ge hF 50 (dck_at tX7_forgets 4 rfl) (by decide) (fun hc5 => ?_) (fun hc5 => ?_)
    · replace h := ite_t hc5 h
      refine g_msk [false, false] (L' := [none, none]) rfl ?_
      cases h
      exact K
    · replace h := ite_f hc5 h
      refine g_aload_n hF (dck_at tX7_forgets 5 rfl) rfl ?_
      refine gf_X7_16 hF (hM 70 (by decide) (by decide)) kdc_70 lnc_70 (dck_at tX7_forgets 6 rfl) ?_
      refine g_iload_n hF (dck_at tX7_forgets 7 rfl) rfl ?_
      refine g_iload_n hF (dck_at tX7_forgets 8 rfl) rfl ?_
      refine g_iconst (v := 2) hF (dck_at tX7_forgets 9 rfl) (by decide) ?_
      refine g_icmp_ne hF 23 (dck_at tX7_forgets 10 rfl) (by decide) (fun hc15 => ?_) (fun hc15 => ?_)
      · replace h := ite_f hc15 h
        refine g_iload_n hF (dck_at tX7_forgets 13 rfl) rfl ?_
        refine g_iconst (v := 3) hF (dck_at tX7_forgets 14 rfl) (by decide) ?_
        refine g_icmp_ne hF 33 (dck_at tX7_forgets 15 rfl) (by decide) (fun hc25 => ?_) (fun hc25 => ?_)
        · replace h := ite_f hc25 h
          refine g_iload_n hF (dck_at tX7_forgets 18 rfl) rfl ?_
          refine g_iconst (v := 4) hF (dck_at tX7_forgets 19 rfl) (by decide) ?_
          refine g_icmp_ne hF 42 (dck_at tX7_forgets 20 rfl) (by decide) (fun hc35 => ?_) (fun hc35 => ?_)
          · replace h := ite_f hc35 h
            refine g_iconst (v := 0) hF (dck_at tX7_forgets 23 rfl) (by decide) ?_
            obtain ⟨hg43, h⟩ := gd h
            refine g_is hF (hM 73 (by decide) (by decide)) kdc_73 lnc_73 hg43 (dck_at tX7_forgets 24 rfl) ?_
            refine g_iinc (v := 1) (L' := [some (.ref 70), some (.int (x1 + (1 : Int32)))]) hF (dck_at tX7_forgets 25 rfl) rfl (by decide) rfl ?_
            refine g_goto hF 2 (dck_at tX7_forgets 26 rfl) (by decide) ?_
            exact ih _ _ _ h K
          · replace h := ite_t hc35 h
            refine g_iconst (v := 1) hF (dck_at tX7_forgets 21 rfl) (by decide) ?_
            refine g_goto hF 43 (dck_at tX7_forgets 22 rfl) (by decide) ?_
            obtain ⟨hg43, h⟩ := gd h
            refine g_is hF (hM 73 (by decide) (by decide)) kdc_73 lnc_73 hg43 (dck_at tX7_forgets 24 rfl) ?_
            refine g_iinc (v := 1) (L' := [some (.ref 70), some (.int (x1 + (1 : Int32)))]) hF (dck_at tX7_forgets 25 rfl) rfl (by decide) rfl ?_
            refine g_goto hF 2 (dck_at tX7_forgets 26 rfl) (by decide) ?_
            exact ih _ _ _ h K
        · replace h := ite_t hc25 h
          refine g_bipush (v := 60) hF (dck_at tX7_forgets 16 rfl) (by decide) ?_
          refine g_goto hF 43 (dck_at tX7_forgets 17 rfl) (by decide) ?_
          obtain ⟨hg43, h⟩ := gd h
          refine g_is hF (hM 73 (by decide) (by decide)) kdc_73 lnc_73 hg43 (dck_at tX7_forgets 24 rfl) ?_
          refine g_iinc (v := 1) (L' := [some (.ref 70), some (.int (x1 + (1 : Int32)))]) hF (dck_at tX7_forgets 25 rfl) rfl (by decide) rfl ?_
          refine g_goto hF 2 (dck_at tX7_forgets 26 rfl) (by decide) ?_
          exact ih _ _ _ h K
      · replace h := ite_t hc15 h
        refine g_bipush (v := 10) hF (dck_at tX7_forgets 11 rfl) (by decide) ?_
        refine g_goto hF 43 (dck_at tX7_forgets 12 rfl) (by decide) ?_
        obtain ⟨hg43, h⟩ := gd h
        refine g_is hF (hM 73 (by decide) (by decide)) kdc_73 lnc_73 hg43 (dck_at tX7_forgets 24 rfl) ?_
        refine g_iinc (v := 1) (L' := [some (.ref 70), some (.int (x1 + (1 : Int32)))]) hF (dck_at tX7_forgets 25 rfl) rfl (by decide) rfl ?_
        refine g_goto hF 2 (dck_at tX7_forgets 26 rfl) (by decide) ?_
        exact ih _ _ _ h K
set_option maxHeartbeats 4000000 in
set_option maxRecDepth 100000 in
theorem c_X7_forgets {X : Cx} {l : Launch} (hX : CxOk X) (hM : SM X) {N : Nat} {M : Mem} {M' : Mem} (h : f_X7_forgets N M = some M') : Ctr X l yX7_forgets cX7_forgets 2 none 1 [.ref 70] M none M' := by
  refine Ctr.ofG (L := [some (.ref 70), none]) hX (by decide) (Nat.le_of_ble_eq_true rfl) rfl (fun F hF hl hR => ?_)
  subst hl
  unfold f_X7_forgets at h
  refine g_iconst (v := 0) hF (dck_at tX7_forgets 0 rfl) (by decide) ?_
  refine g_istore_n (L' := [some (.ref 70), some (.int (0 : Int32))]) hF (dck_at tX7_forgets 1 rfl) (Nat.le_of_ble_eq_true rfl) rfl ?_
  obtain ⟨o2, e2, h⟩ := bd h
  refine g_X7_forgets_L2 hM hF N N _ _ _ e2 ?_
  cases h
  exact g_vret hF hR (dck_at tX7_forgets 27 rfl)

def tbX7_readsClapper : List (Nat × Instr × Nat) := [(0, .aload_n 0, 1), (1, .getfield 16, 3), (4, .iconst 0, 1), (5, .iaload, 1), (6, .istore_n 2, 1), (7, .iload_n 2, 1), (8, .bipush 8, 2), (10, .if_icmp .eq 31, 3), (13, .aload_n 0, 1), (14, .bipush 13, 2), (16, .iload_n 2, 1), (17, .iadd, 1), (18, .iconst 0, 1), (19, .bipush 20, 2), (21, .invokevirtual 87, 3), (24, .ifCond .eq 17, 3), (27, .aload_n 0, 1), (28, .bipush 21, 2), (30, .iload_n 2, 1), (31, .iadd, 1), (32, .iconst 1, 1), (33, .bipush 99, 2), (35, .invokevirtual 87, 3), (38, .ifCond .ne 5, 3), (41, .iconst 0, 1), (42, .ireturn, 1), (43, .aload_n 0, 1), (44, .getfield 16, 3), (47, .iconst 5, 1), (48, .iload_n 2, 1), (49, .iadd, 1), (50, .iload_n 1, 1), (51, .iastore, 1), (52, .aload_n 0, 1), (53, .getfield 16, 3), (56, .iconst 0, 1), (57, .dup2, 1), (58, .iaload, 1), (59, .iconst 1, 1), (60, .iadd, 1), (61, .iastore, 1), (62, .iconst 1, 1), (63, .ireturn, 1)]
theorem tX7_readsClapper : dck cX7_readsClapper tbX7_readsClapper = true := by decide +kernel
def f_X7_readsClapper (N : Nat) (M : Mem) (x1 : Int32) : Option (Int32 × Mem) := (if (M 73 0) = (8 : Int32) then some ((0 : Int32), M) else (f_X7_number N M ((13 : Int32) + (M 73 0)) (0 : Int32) (20 : Int32)).bind fun q21 => (if q21.1 = 0 then some ((0 : Int32), q21.2) else (f_X7_number N q21.2 ((21 : Int32) + (M 73 0)) (1 : Int32) (99 : Int32)).bind fun q35 => (if q35.1 = 0 then some ((0 : Int32), q35.2) else if inb ((5 : Int32) + (M 73 0)) 45 = true then some ((1 : Int32), (up2 (up2 q35.2 73 ((5 : Int32) + (M 73 0)).toNatClampNeg x1) 73 0 (((up2 q35.2 73 ((5 : Int32) + (M 73 0)).toNatClampNeg x1) 73 0) + (1 : Int32)))) else none)))
set_option maxHeartbeats 4000000 in
set_option maxRecDepth 100000 in
theorem c_X7_readsClapper {X : Cx} {l : Launch} (hX : CxOk X) (hM : SM X) {N : Nat} {M : Mem} {x1 : Int32} {r : Int32} {M' : Mem} (h : f_X7_readsClapper N M x1 = some (r, M')) : Ctr X l yX7_readsClapper cX7_readsClapper 3 (some .boolean) 5 [.ref 70, .int x1] M (some (.int r)) M' := by
  refine Ctr.ofG (L := [some (.ref 70), some (.int x1), none]) hX (by decide) (Nat.le_of_ble_eq_true rfl) rfl (fun F hF hl hR => ?_)
  subst hl
  unfold f_X7_readsClapper at h
  refine g_aload_n hF (dck_at tX7_readsClapper 0 rfl) rfl ?_
  refine gf_X7_16 hF (hM 70 (by decide) (by decide)) kdc_70 lnc_70 (dck_at tX7_readsClapper 1 rfl) ?_
  refine g_iconst (v := 0) hF (dck_at tX7_readsClapper 2 rfl) (by decide) ?_
  refine g_iac (j := 0) hF (hM 73 (by decide) (by decide)) kdc_73 lnc_73 (by decide) (by decide) (dck_at tX7_readsClapper 3 rfl) ?_
  refine g_istore_n (L' := [some (.ref 70), some (.int x1), some (.int (M 73 0))]) hF (dck_at tX7_readsClapper 4 rfl) (Nat.le_of_ble_eq_true rfl) rfl ?_
  refine g_iload_n hF (dck_at tX7_readsClapper 5 rfl) rfl ?_
  show G X F 8 _ _ _
  refine g_bipush (v := 8) hF (dck_at tX7_readsClapper 6 rfl) (by decide) ?_
  refine g_icmp_eq hF 41 (dck_at tX7_readsClapper 7 rfl) (by decide) (fun hc10 => ?_) (fun hc10 => ?_)
  · replace h := ite_t hc10 h
    refine g_iconst (v := 0) hF (dck_at tX7_readsClapper 24 rfl) (by decide) ?_
    cases h
    exact g_zret hF hR rfl (dck_at tX7_readsClapper 25 rfl)
  · replace h := ite_f hc10 h
    refine g_aload_n hF (dck_at tX7_readsClapper 8 rfl) rfl ?_
    refine g_bipush (v := 13) hF (dck_at tX7_readsClapper 9 rfl) (by decide) ?_
    refine g_iload_n hF (dck_at tX7_readsClapper 10 rfl) rfl ?_
    refine g_iadd hF (dck_at tX7_readsClapper 11 rfl) ?_
    refine g_iconst (v := 0) hF (dck_at tX7_readsClapper 12 rfl) (by decide) ?_
    refine g_bipush (v := 20) hF (dck_at tX7_readsClapper 13 rfl) (by decide) ?_
    show G X F 21 _ _ _
    obtain ⟨q21, e21, h⟩ := bd h
    refine g_callV hF (as := [.int ((13 : Int32) + (M 73 0)), .int (0 : Int32), .int (20 : Int32)]) (k := 70) rfl (by decide) wm_X7_87 wi_X7_number we_X7_number wc_X7_number wn_X7 hyX7_number (by decide) (hM 70 (by decide) (by decide)) kdc_70 (c_X7_number hF.2.2.2.2.2.2.2.1 hM e21) (by decide) rfl rfl rfl rfl (dck_at tX7_readsClapper 14 rfl) ?_
    show G X F 24 _ [.int q21.1] q21.2
    refine g_if_eq hF 41 (dck_at tX7_readsClapper 15 rfl) (by decide) (fun hc24 => ?_) (fun hc24 => ?_)
    · replace h := ite_t hc24 h
      refine g_iconst (v := 0) hF (dck_at tX7_readsClapper 24 rfl) (by decide) ?_
      cases h
      exact g_zret hF hR rfl (dck_at tX7_readsClapper 25 rfl)
    · replace h := ite_f hc24 h
      refine g_aload_n hF (dck_at tX7_readsClapper 16 rfl) rfl ?_
      refine g_bipush (v := 21) hF (dck_at tX7_readsClapper 17 rfl) (by decide) ?_
      refine g_iload_n hF (dck_at tX7_readsClapper 18 rfl) rfl ?_
      refine g_iadd hF (dck_at tX7_readsClapper 19 rfl) ?_
      refine g_iconst (v := 1) hF (dck_at tX7_readsClapper 20 rfl) (by decide) ?_
      refine g_bipush (v := 99) hF (dck_at tX7_readsClapper 21 rfl) (by decide) ?_
      show G X F 35 _ _ _
      obtain ⟨q35, e35, h⟩ := bd h
      refine g_callV hF (as := [.int ((21 : Int32) + (M 73 0)), .int (1 : Int32), .int (99 : Int32)]) (k := 70) rfl (by decide) wm_X7_87 wi_X7_number we_X7_number wc_X7_number wn_X7 hyX7_number (by decide) (hM 70 (by decide) (by decide)) kdc_70 (c_X7_number hF.2.2.2.2.2.2.2.1 hM e35) (by decide) rfl rfl rfl rfl (dck_at tX7_readsClapper 22 rfl) ?_
      show G X F 38 _ [.int q35.1] q35.2
      refine g_if_ne hF 43 (dck_at tX7_readsClapper 23 rfl) (by decide) (fun hc38 => ?_) (fun hc38 => ?_)
      · replace h := ite_f hc38 h
        refine g_aload_n hF (dck_at tX7_readsClapper 26 rfl) rfl ?_
        refine gf_X7_16 hF (hM 70 (by decide) (by decide)) kdc_70 lnc_70 (dck_at tX7_readsClapper 27 rfl) ?_
        refine g_iconst (v := 5) hF (dck_at tX7_readsClapper 28 rfl) (by decide) ?_
        refine g_iload_n hF (dck_at tX7_readsClapper 29 rfl) rfl ?_
        refine g_iadd hF (dck_at tX7_readsClapper 30 rfl) ?_
        refine g_iload_n hF (dck_at tX7_readsClapper 31 rfl) rfl ?_
        show G X F 51 _ _ _
        obtain ⟨hg51, h⟩ := gd h
        refine g_is hF (hM 73 (by decide) (by decide)) kdc_73 lnc_73 hg51 (dck_at tX7_readsClapper 32 rfl) ?_
        refine g_aload_n hF (dck_at tX7_readsClapper 33 rfl) rfl ?_
        refine gf_X7_16 hF (hM 70 (by decide) (by decide)) kdc_70 lnc_70 (dck_at tX7_readsClapper 34 rfl) ?_
        refine g_iconst (v := 0) hF (dck_at tX7_readsClapper 35 rfl) (by decide) ?_
        refine g_dup2 hF (dck_at tX7_readsClapper 36 rfl) rfl rfl ?_
        refine g_iac (j := 0) hF (hM 73 (by decide) (by decide)) kdc_73 lnc_73 (by decide) (by decide) (dck_at tX7_readsClapper 37 rfl) ?_
        refine g_iconst (v := 1) hF (dck_at tX7_readsClapper 38 rfl) (by decide) ?_
        show G X F 60 _ _ _
        refine g_iadd hF (dck_at tX7_readsClapper 39 rfl) ?_
        refine g_isc (j := 0) hF (hM 73 (by decide) (by decide)) kdc_73 lnc_73 (by decide) (by decide) (dck_at tX7_readsClapper 40 rfl) ?_
        refine g_iconst (v := 1) hF (dck_at tX7_readsClapper 41 rfl) (by decide) ?_
        cases h
        exact g_zret hF hR rfl (dck_at tX7_readsClapper 42 rfl)
      · replace h := ite_t hc38 h
        refine g_iconst (v := 0) hF (dck_at tX7_readsClapper 24 rfl) (by decide) ?_
        cases h
        exact g_zret hF hR rfl (dck_at tX7_readsClapper 25 rfl)

def tbX7_readsEncore : List (Nat × Instr × Nat) := [(0, .aload_n 0, 1), (1, .getfield 16, 3), (4, .iconst 1, 1), (5, .iaload, 1), (6, .istore_n 2, 1), (7, .iload_n 2, 1), (8, .iconst 4, 1), (9, .if_icmp .eq 45, 3), (12, .aload_n 0, 1), (13, .bipush 33, 2), (15, .iload_n 2, 1), (16, .iadd, 1), (17, .iconst 1, 1), (18, .bipush 9, 2), (20, .invokevirtual 87, 3), (23, .ifCond .eq 31, 3), (26, .aload_n 0, 1), (27, .bipush 37, 2), (29, .iload_n 2, 1), (30, .iadd, 1), (31, .iconst 1, 1), (32, .bipush 9, 2), (34, .invokevirtual 87, 3), (37, .ifCond .eq 17, 3), (40, .aload_n 0, 1), (41, .bipush 41, 2), (43, .iload_n 2, 1), (44, .iadd, 1), (45, .iconst 0, 1), (46, .bipush 30, 2), (48, .invokevirtual 87, 3), (51, .ifCond .ne 5, 3), (54, .iconst 0, 1), (55, .ireturn, 1), (56, .aload_n 0, 1), (57, .getfield 16, 3), (60, .bipush 29, 2), (62, .iload_n 2, 1), (63, .iadd, 1), (64, .iload_n 1, 1), (65, .iastore, 1), (66, .aload_n 0, 1), (67, .getfield 16, 3), (70, .iconst 1, 1), (71, .dup2, 1), (72, .iaload, 1), (73, .iconst 1, 1), (74, .iadd, 1), (75, .iastore, 1), (76, .iconst 1, 1), (77, .ireturn, 1)]
theorem tX7_readsEncore : dck cX7_readsEncore tbX7_readsEncore = true := by decide +kernel
def f_X7_readsEncore (N : Nat) (M : Mem) (x1 : Int32) : Option (Int32 × Mem) := (if (M 73 1) = (4 : Int32) then some ((0 : Int32), M) else (f_X7_number N M ((33 : Int32) + (M 73 1)) (1 : Int32) (9 : Int32)).bind fun q20 => (if q20.1 = 0 then some ((0 : Int32), q20.2) else (f_X7_number N q20.2 ((37 : Int32) + (M 73 1)) (1 : Int32) (9 : Int32)).bind fun q34 => (if q34.1 = 0 then some ((0 : Int32), q34.2) else (f_X7_number N q34.2 ((41 : Int32) + (M 73 1)) (0 : Int32) (30 : Int32)).bind fun q48 => (if q48.1 = 0 then some ((0 : Int32), q48.2) else if inb ((29 : Int32) + (M 73 1)) 45 = true then some ((1 : Int32), (up2 (up2 q48.2 73 ((29 : Int32) + (M 73 1)).toNatClampNeg x1) 73 1 (((up2 q48.2 73 ((29 : Int32) + (M 73 1)).toNatClampNeg x1) 73 1) + (1 : Int32)))) else none))))
set_option maxHeartbeats 4000000 in
set_option maxRecDepth 100000 in
theorem c_X7_readsEncore {X : Cx} {l : Launch} (hX : CxOk X) (hM : SM X) {N : Nat} {M : Mem} {x1 : Int32} {r : Int32} {M' : Mem} (h : f_X7_readsEncore N M x1 = some (r, M')) : Ctr X l yX7_readsEncore cX7_readsEncore 3 (some .boolean) 5 [.ref 70, .int x1] M (some (.int r)) M' := by
  refine Ctr.ofG (L := [some (.ref 70), some (.int x1), none]) hX (by decide) (Nat.le_of_ble_eq_true rfl) rfl (fun F hF hl hR => ?_)
  subst hl
  unfold f_X7_readsEncore at h
  refine g_aload_n hF (dck_at tX7_readsEncore 0 rfl) rfl ?_
  refine gf_X7_16 hF (hM 70 (by decide) (by decide)) kdc_70 lnc_70 (dck_at tX7_readsEncore 1 rfl) ?_
  refine g_iconst (v := 1) hF (dck_at tX7_readsEncore 2 rfl) (by decide) ?_
  refine g_iac (j := 1) hF (hM 73 (by decide) (by decide)) kdc_73 lnc_73 (by decide) (by decide) (dck_at tX7_readsEncore 3 rfl) ?_
  refine g_istore_n (L' := [some (.ref 70), some (.int x1), some (.int (M 73 1))]) hF (dck_at tX7_readsEncore 4 rfl) (Nat.le_of_ble_eq_true rfl) rfl ?_
  refine g_iload_n hF (dck_at tX7_readsEncore 5 rfl) rfl ?_
  show G X F 8 _ _ _
  refine g_iconst (v := 4) hF (dck_at tX7_readsEncore 6 rfl) (by decide) ?_
  refine g_icmp_eq hF 54 (dck_at tX7_readsEncore 7 rfl) (by decide) (fun hc9 => ?_) (fun hc9 => ?_)
  · replace h := ite_t hc9 h
    refine g_iconst (v := 0) hF (dck_at tX7_readsEncore 32 rfl) (by decide) ?_
    cases h
    exact g_zret hF hR rfl (dck_at tX7_readsEncore 33 rfl)
  · replace h := ite_f hc9 h
    refine g_aload_n hF (dck_at tX7_readsEncore 8 rfl) rfl ?_
    refine g_bipush (v := 33) hF (dck_at tX7_readsEncore 9 rfl) (by decide) ?_
    refine g_iload_n hF (dck_at tX7_readsEncore 10 rfl) rfl ?_
    refine g_iadd hF (dck_at tX7_readsEncore 11 rfl) ?_
    refine g_iconst (v := 1) hF (dck_at tX7_readsEncore 12 rfl) (by decide) ?_
    refine g_bipush (v := 9) hF (dck_at tX7_readsEncore 13 rfl) (by decide) ?_
    show G X F 20 _ _ _
    obtain ⟨q20, e20, h⟩ := bd h
    refine g_callV hF (as := [.int ((33 : Int32) + (M 73 1)), .int (1 : Int32), .int (9 : Int32)]) (k := 70) rfl (by decide) wm_X7_87 wi_X7_number we_X7_number wc_X7_number wn_X7 hyX7_number (by decide) (hM 70 (by decide) (by decide)) kdc_70 (c_X7_number hF.2.2.2.2.2.2.2.1 hM e20) (by decide) rfl rfl rfl rfl (dck_at tX7_readsEncore 14 rfl) ?_
    show G X F 23 _ [.int q20.1] q20.2
    refine g_if_eq hF 54 (dck_at tX7_readsEncore 15 rfl) (by decide) (fun hc23 => ?_) (fun hc23 => ?_)
    · replace h := ite_t hc23 h
      refine g_iconst (v := 0) hF (dck_at tX7_readsEncore 32 rfl) (by decide) ?_
      cases h
      exact g_zret hF hR rfl (dck_at tX7_readsEncore 33 rfl)
    · replace h := ite_f hc23 h
      refine g_aload_n hF (dck_at tX7_readsEncore 16 rfl) rfl ?_
      refine g_bipush (v := 37) hF (dck_at tX7_readsEncore 17 rfl) (by decide) ?_
      refine g_iload_n hF (dck_at tX7_readsEncore 18 rfl) rfl ?_
      refine g_iadd hF (dck_at tX7_readsEncore 19 rfl) ?_
      refine g_iconst (v := 1) hF (dck_at tX7_readsEncore 20 rfl) (by decide) ?_
      refine g_bipush (v := 9) hF (dck_at tX7_readsEncore 21 rfl) (by decide) ?_
      show G X F 34 _ _ _
      obtain ⟨q34, e34, h⟩ := bd h
      refine g_callV hF (as := [.int ((37 : Int32) + (M 73 1)), .int (1 : Int32), .int (9 : Int32)]) (k := 70) rfl (by decide) wm_X7_87 wi_X7_number we_X7_number wc_X7_number wn_X7 hyX7_number (by decide) (hM 70 (by decide) (by decide)) kdc_70 (c_X7_number hF.2.2.2.2.2.2.2.1 hM e34) (by decide) rfl rfl rfl rfl (dck_at tX7_readsEncore 22 rfl) ?_
      show G X F 37 _ [.int q34.1] q34.2
      refine g_if_eq hF 54 (dck_at tX7_readsEncore 23 rfl) (by decide) (fun hc37 => ?_) (fun hc37 => ?_)
      · replace h := ite_t hc37 h
        refine g_iconst (v := 0) hF (dck_at tX7_readsEncore 32 rfl) (by decide) ?_
        cases h
        exact g_zret hF hR rfl (dck_at tX7_readsEncore 33 rfl)
      · replace h := ite_f hc37 h
        refine g_aload_n hF (dck_at tX7_readsEncore 24 rfl) rfl ?_
        refine g_bipush (v := 41) hF (dck_at tX7_readsEncore 25 rfl) (by decide) ?_
        refine g_iload_n hF (dck_at tX7_readsEncore 26 rfl) rfl ?_
        refine g_iadd hF (dck_at tX7_readsEncore 27 rfl) ?_
        refine g_iconst (v := 0) hF (dck_at tX7_readsEncore 28 rfl) (by decide) ?_
        refine g_bipush (v := 30) hF (dck_at tX7_readsEncore 29 rfl) (by decide) ?_
        show G X F 48 _ _ _
        obtain ⟨q48, e48, h⟩ := bd h
        refine g_callV hF (as := [.int ((41 : Int32) + (M 73 1)), .int (0 : Int32), .int (30 : Int32)]) (k := 70) rfl (by decide) wm_X7_87 wi_X7_number we_X7_number wc_X7_number wn_X7 hyX7_number (by decide) (hM 70 (by decide) (by decide)) kdc_70 (c_X7_number hF.2.2.2.2.2.2.2.1 hM e48) (by decide) rfl rfl rfl rfl (dck_at tX7_readsEncore 30 rfl) ?_
        show G X F 51 _ [.int q48.1] q48.2
        refine g_if_ne hF 56 (dck_at tX7_readsEncore 31 rfl) (by decide) (fun hc51 => ?_) (fun hc51 => ?_)
        · replace h := ite_f hc51 h
          refine g_aload_n hF (dck_at tX7_readsEncore 34 rfl) rfl ?_
          refine gf_X7_16 hF (hM 70 (by decide) (by decide)) kdc_70 lnc_70 (dck_at tX7_readsEncore 35 rfl) ?_
          refine g_bipush (v := 29) hF (dck_at tX7_readsEncore 36 rfl) (by decide) ?_
          refine g_iload_n hF (dck_at tX7_readsEncore 37 rfl) rfl ?_
          refine g_iadd hF (dck_at tX7_readsEncore 38 rfl) ?_
          refine g_iload_n hF (dck_at tX7_readsEncore 39 rfl) rfl ?_
          show G X F 65 _ _ _
          obtain ⟨hg65, h⟩ := gd h
          refine g_is hF (hM 73 (by decide) (by decide)) kdc_73 lnc_73 hg65 (dck_at tX7_readsEncore 40 rfl) ?_
          refine g_aload_n hF (dck_at tX7_readsEncore 41 rfl) rfl ?_
          refine gf_X7_16 hF (hM 70 (by decide) (by decide)) kdc_70 lnc_70 (dck_at tX7_readsEncore 42 rfl) ?_
          refine g_iconst (v := 1) hF (dck_at tX7_readsEncore 43 rfl) (by decide) ?_
          refine g_dup2 hF (dck_at tX7_readsEncore 44 rfl) rfl rfl ?_
          refine g_iac (j := 1) hF (hM 73 (by decide) (by decide)) kdc_73 lnc_73 (by decide) (by decide) (dck_at tX7_readsEncore 45 rfl) ?_
          refine g_iconst (v := 1) hF (dck_at tX7_readsEncore 46 rfl) (by decide) ?_
          show G X F 74 _ _ _
          refine g_iadd hF (dck_at tX7_readsEncore 47 rfl) ?_
          refine g_isc (j := 1) hF (hM 73 (by decide) (by decide)) kdc_73 lnc_73 (by decide) (by decide) (dck_at tX7_readsEncore 48 rfl) ?_
          refine g_iconst (v := 1) hF (dck_at tX7_readsEncore 49 rfl) (by decide) ?_
          cases h
          exact g_zret hF hR rfl (dck_at tX7_readsEncore 50 rfl)
        · replace h := ite_t hc51 h
          refine g_iconst (v := 0) hF (dck_at tX7_readsEncore 32 rfl) (by decide) ?_
          cases h
          exact g_zret hF hR rfl (dck_at tX7_readsEncore 33 rfl)

def tbX7_readsClause : List (Nat × Instr × Nat) := [(0, .aload_n 0, 1), (1, .bipush 104, 2), (3, .bipush 97, 2), (5, .bipush 108, 2), (7, .bipush 108, 2), (9, .iconst 0, 1), (10, .iconst 0, 1), (11, .iconst 0, 1), (12, .iconst 0, 1), (13, .iconst 0, 1), (14, .invokevirtual 90, 3), (17, .ifCond .eq 9, 3), (20, .aload_n 0, 1), (21, .invokevirtual 47, 3), (24, .iconst 1, 1), (25, .ireturn, 1), (26, .aload_n 0, 1), (27, .bipush 101, 2), (29, .bipush 109, 2), (31, .bipush 112, 2), (33, .bipush 116, 2), (35, .bipush 121, 2), (37, .iconst 0, 1), (38, .iconst 0, 1), (39, .iconst 0, 1), (40, .iconst 0, 1), (41, .invokevirtual 90, 3), (44, .ifCond .eq 12, 3), (47, .aload_n 0, 1), (48, .getfield 16, 3), (51, .iconst 0, 1), (52, .iconst 0, 1), (53, .iastore, 1), (54, .iconst 1, 1), (55, .ireturn, 1), (56, .aload_n 0, 1), (57, .bipush 103, 2), (59, .bipush 117, 2), (61, .bipush 101, 2), (63, .bipush 115, 2), (65, .bipush 116, 2), (67, .iconst 0, 1), (68, .iconst 0, 1), (69, .iconst 0, 1), (70, .iconst 0, 1), (71, .invokevirtual 90, 3), (74, .ifCond .eq 9, 3), (77, .aload_n 0, 1), (78, .iconst 0, 1), (79, .invokevirtual 94, 3), (82, .ireturn, 1), (83, .aload_n 0, 1), (84, .bipush 102, 2), (86, .bipush 97, 2), (88, .bipush 110, 2), (90, .iconst 0, 1), (91, .iconst 0, 1), (92, .iconst 0, 1), (93, .iconst 0, 1), (94, .iconst 0, 1), (95, .iconst 0, 1), (96, .invokevirtual 90, 3), (99, .ifCond .eq 9, 3), (102, .aload_n 0, 1), (103, .iconst 1, 1), (104, .invokevirtual 94, 3), (107, .ireturn, 1), (108, .aload_n 0, 1), (109, .bipush 115, 2), (111, .bipush 108, 2), (113, .bipush 101, 2), (115, .bipush 101, 2), (117, .bipush 112, 2), (119, .bipush 101, 2), (121, .bipush 114, 2), (123, .iconst 0, 1), (124, .iconst 0, 1), (125, .invokevirtual 90, 3), (128, .ifCond .eq 9, 3), (131, .aload_n 0, 1), (132, .iconst 2, 1), (133, .invokevirtual 94, 3), (136, .ireturn, 1), (137, .aload_n 0, 1), (138, .bipush 115, 2), (140, .bipush 104, 2), (142, .bipush 111, 2), (144, .bipush 117, 2), (146, .bipush 116, 2), (148, .bipush 101, 2), (150, .bipush 114, 2), (152, .iconst 0, 1), (153, .iconst 0, 1), (154, .invokevirtual 90, 3), (157, .ifCond .eq 9, 3), (160, .aload_n 0, 1), (161, .iconst 3, 1), (162, .invokevirtual 94, 3), (165, .ireturn, 1), (166, .aload_n 0, 1), (167, .bipush 112, 2), (169, .bipush 108, 2), (171, .bipush 97, 2), (173, .bipush 105, 2), (175, .bipush 110, 2), (177, .iconst 0, 1), (178, .iconst 0, 1), (179, .iconst 0, 1), (180, .iconst 0, 1), (181, .invokevirtual 90, 3), (184, .ifCond .eq 9, 3), (187, .aload_n 0, 1), (188, .iconst 0, 1), (189, .invokevirtual 97, 3), (192, .ireturn, 1), (193, .aload_n 0, 1), (194, .bipush 113, 2), (196, .bipush 117, 2), (198, .bipush 105, 2), (200, .bipush 101, 2), (202, .bipush 116, 2), (204, .iconst 0, 1), (205, .iconst 0, 1), (206, .iconst 0, 1), (207, .iconst 0, 1), (208, .invokevirtual 90, 3), (211, .ifCond .eq 9, 3), (214, .aload_n 0, 1), (215, .iconst 1, 1), (216, .invokevirtual 97, 3), (219, .ireturn, 1), (220, .aload_n 0, 1), (221, .bipush 98, 2), (223, .bipush 114, 2), (225, .bipush 105, 2), (227, .bipush 108, 2), (229, .bipush 108, 2), (231, .bipush 105, 2), (233, .bipush 97, 2), (235, .bipush 110, 2), (237, .bipush 116, 2), (239, .invokevirtual 90, 3), (242, .ifCond .eq 9, 3), (245, .aload_n 0, 1), (246, .iconst 2, 1), (247, .invokevirtual 97, 3), (250, .ireturn, 1), (251, .aload_n 0, 1), (252, .bipush 107, 2), (254, .bipush 110, 2), (256, .bipush 111, 2), (258, .bipush 119, 2), (260, .bipush 110, 2), (262, .iconst 0, 1), (263, .iconst 0, 1), (264, .iconst 0, 1), (265, .iconst 0, 1), (266, .invokevirtual 90, 3), (269, .ifCond .eq 9, 3), (272, .aload_n 0, 1), (273, .iconst 3, 1), (274, .invokevirtual 97, 3), (277, .ireturn, 1), (278, .aload_n 0, 1), (279, .bipush 97, 2), (281, .bipush 114, 2), (283, .bipush 109, 2), (285, .iconst 0, 1), (286, .iconst 0, 1), (287, .iconst 0, 1), (288, .iconst 0, 1), (289, .iconst 0, 1), (290, .iconst 0, 1), (291, .invokevirtual 90, 3), (294, .ifCond .eq 12, 3), (297, .aload_n 0, 1), (298, .iconst 2, 1), (299, .iconst 0, 1), (300, .bipush 30, 2), (302, .invokevirtual 87, 3), (305, .ireturn, 1), (306, .aload_n 0, 1), (307, .bipush 99, 2), (309, .bipush 108, 2), (311, .bipush 111, 2), (313, .bipush 115, 2), (315, .bipush 101, 2), (317, .iconst 0, 1), (318, .iconst 0, 1), (319, .iconst 0, 1), (320, .iconst 0, 1), (321, .invokevirtual 90, 3), (324, .ifCond .eq 12, 3), (327, .aload_n 0, 1), (328, .iconst 3, 1), (329, .iconst 0, 1), (330, .bipush 99, 2), (332, .invokevirtual 87, 3), (335, .ireturn, 1), (336, .aload_n 0, 1), (337, .bipush 104, 2), (339, .bipush 105, 2), (341, .bipush 114, 2), (343, .bipush 101, 2), (345, .iconst 0, 1), (346, .iconst 0, 1), (347, .iconst 0, 1), (348, .iconst 0, 1), (349, .iconst 0, 1), (350, .invokevirtual 90, 3), (353, .ifCond .eq 18, 3), (356, .aload_n 0, 1), (357, .iconst 4, 1), (358, .iconst 0, 1), (359, .bipush 9, 2), (361, .invokevirtual 87, 3), (364, .ifCond .eq 7, 3), (367, .iconst 1, 1), (368, .goto 4, 3), (371, .iconst 0, 1), (372, .ireturn, 1)]
theorem tX7_readsClause : dck cX7_readsClause tbX7_readsClause = true := by decide +kernel
def f_X7_readsClause (N : Nat) (M : Mem) : Option (Int32 × Mem) := (f_X7_isWord N M (104 : Int32) (97 : Int32) (108 : Int32) (108 : Int32) (0 : Int32) (0 : Int32) (0 : Int32) (0 : Int32) (0 : Int32)).bind fun q14 => (if q14 = 0 then (f_X7_isWord N M (101 : Int32) (109 : Int32) (112 : Int32) (116 : Int32) (121 : Int32) (0 : Int32) (0 : Int32) (0 : Int32) (0 : Int32)).bind fun q41 => (if q41 = 0 then (f_X7_isWord N M (103 : Int32) (117 : Int32) (101 : Int32) (115 : Int32) (116 : Int32) (0 : Int32) (0 : Int32) (0 : Int32) (0 : Int32)).bind fun q71 => (if q71 = 0 then (f_X7_isWord N M (102 : Int32) (97 : Int32) (110 : Int32) (0 : Int32) (0 : Int32) (0 : Int32) (0 : Int32) (0 : Int32) (0 : Int32)).bind fun q96 => (if q96 = 0 then (f_X7_isWord N M (115 : Int32) (108 : Int32) (101 : Int32) (101 : Int32) (112 : Int32) (101 : Int32) (114 : Int32) (0 : Int32) (0 : Int32)).bind fun q125 => (if q125 = 0 then (f_X7_isWord N M (115 : Int32) (104 : Int32) (111 : Int32) (117 : Int32) (116 : Int32) (101 : Int32) (114 : Int32) (0 : Int32) (0 : Int32)).bind fun q154 => (if q154 = 0 then (f_X7_isWord N M (112 : Int32) (108 : Int32) (97 : Int32) (105 : Int32) (110 : Int32) (0 : Int32) (0 : Int32) (0 : Int32) (0 : Int32)).bind fun q181 => (if q181 = 0 then (f_X7_isWord N M (113 : Int32) (117 : Int32) (105 : Int32) (101 : Int32) (116 : Int32) (0 : Int32) (0 : Int32) (0 : Int32) (0 : Int32)).bind fun q208 => (if q208 = 0 then (f_X7_isWord N M (98 : Int32) (114 : Int32) (105 : Int32) (108 : Int32) (108 : Int32) (105 : Int32) (97 : Int32) (110 : Int32) (116 : Int32)).bind fun q239 => (if q239 = 0 then (f_X7_isWord N M (107 : Int32) (110 : Int32) (111 : Int32) (119 : Int32) (110 : Int32) (0 : Int32) (0 : Int32) (0 : Int32) (0 : Int32)).bind fun q266 => (if q266 = 0 then (f_X7_isWord N M (97 : Int32) (114 : Int32) (109 : Int32) (0 : Int32) (0 : Int32) (0 : Int32) (0 : Int32) (0 : Int32) (0 : Int32)).bind fun q291 => (if q291 = 0 then (f_X7_isWord N M (99 : Int32) (108 : Int32) (111 : Int32) (115 : Int32) (101 : Int32) (0 : Int32) (0 : Int32) (0 : Int32) (0 : Int32)).bind fun q321 => (if q321 = 0 then (f_X7_isWord N M (104 : Int32) (105 : Int32) (114 : Int32) (101 : Int32) (0 : Int32) (0 : Int32) (0 : Int32) (0 : Int32) (0 : Int32)).bind fun q350 => (if q350 = 0 then some ((0 : Int32), M) else (f_X7_number N M (4 : Int32) (0 : Int32) (9 : Int32)).bind fun q361 => (if q361.1 = 0 then some ((0 : Int32), q361.2) else some ((1 : Int32), q361.2))) else (f_X7_number N M (3 : Int32) (0 : Int32) (99 : Int32)).bind fun q332 => if zok q332.1 = true then some (q332.1, q332.2) else none) else (f_X7_number N M (2 : Int32) (0 : Int32) (30 : Int32)).bind fun q302 => if zok q302.1 = true then some (q302.1, q302.2) else none) else (f_X7_readsEncore N M (3 : Int32)).bind fun q274 => if zok q274.1 = true then some (q274.1, q274.2) else none) else (f_X7_readsEncore N M (2 : Int32)).bind fun q247 => if zok q247.1 = true then some (q247.1, q247.2) else none) else (f_X7_readsEncore N M (1 : Int32)).bind fun q216 => if zok q216.1 = true then some (q216.1, q216.2) else none) else (f_X7_readsEncore N M (0 : Int32)).bind fun q189 => if zok q189.1 = true then some (q189.1, q189.2) else none) else (f_X7_readsClapper N M (3 : Int32)).bind fun q162 => if zok q162.1 = true then some (q162.1, q162.2) else none) else (f_X7_readsClapper N M (2 : Int32)).bind fun q133 => if zok q133.1 = true then some (q133.1, q133.2) else none) else (f_X7_readsClapper N M (1 : Int32)).bind fun q104 => if zok q104.1 = true then some (q104.1, q104.2) else none) else (f_X7_readsClapper N M (0 : Int32)).bind fun q79 => if zok q79.1 = true then some (q79.1, q79.2) else none) else some ((1 : Int32), (up2 M 73 0 (0 : Int32)))) else (f_X7_forgets N M).bind fun q21 => some ((1 : Int32), q21))
set_option maxHeartbeats 4000000 in
set_option maxRecDepth 100000 in
theorem c_X7_readsClause {X : Cx} {l : Launch} (hX : CxOk X) (hM : SM X) {N : Nat} {M : Mem} {r : Int32} {M' : Mem} (h : f_X7_readsClause N M = some (r, M')) : Ctr X l yX7_readsClause cX7_readsClause 1 (some .boolean) 6 [.ref 70] M (some (.int r)) M' := by
  refine Ctr.ofG (L := [some (.ref 70)]) hX (by decide) (Nat.le_of_ble_eq_true rfl) rfl (fun F hF hl hR => ?_)
  subst hl
  unfold f_X7_readsClause at h
  refine g_aload_n hF (dck_at tX7_readsClause 0 rfl) rfl ?_
  refine g_bipush (v := 104) hF (dck_at tX7_readsClause 1 rfl) (by decide) ?_
  refine g_bipush (v := 97) hF (dck_at tX7_readsClause 2 rfl) (by decide) ?_
  refine g_bipush (v := 108) hF (dck_at tX7_readsClause 3 rfl) (by decide) ?_
  refine g_bipush (v := 108) hF (dck_at tX7_readsClause 4 rfl) (by decide) ?_
  refine g_iconst (v := 0) hF (dck_at tX7_readsClause 5 rfl) (by decide) ?_
  show G X F 10 _ _ _
  refine g_iconst (v := 0) hF (dck_at tX7_readsClause 6 rfl) (by decide) ?_
  refine g_iconst (v := 0) hF (dck_at tX7_readsClause 7 rfl) (by decide) ?_
  refine g_iconst (v := 0) hF (dck_at tX7_readsClause 8 rfl) (by decide) ?_
  refine g_iconst (v := 0) hF (dck_at tX7_readsClause 9 rfl) (by decide) ?_
  obtain ⟨q14, e14, h⟩ := bd h
  refine g_callV hF (as := [.int (104 : Int32), .int (97 : Int32), .int (108 : Int32), .int (108 : Int32), .int (0 : Int32), .int (0 : Int32), .int (0 : Int32), .int (0 : Int32), .int (0 : Int32)]) (k := 70) rfl (by decide) wm_X7_90 wi_X7_isWord we_X7_isWord wc_X7_isWord wn_X7 hyX7_isWord (by decide) (hM 70 (by decide) (by decide)) kdc_70 (c_X7_isWord hF.2.2.2.2.2.2.2.1 hM e14) (by decide) rfl rfl rfl rfl (dck_at tX7_readsClause 10 rfl) ?_
  show G X F 17 _ [.int q14] M
  refine g_if_eq hF 26 (dck_at tX7_readsClause 11 rfl) (by decide) (fun hc17 => ?_) (fun hc17 => ?_)
  · replace h := ite_t hc17 h
    refine g_aload_n hF (dck_at tX7_readsClause 16 rfl) rfl ?_
    refine g_bipush (v := 101) hF (dck_at tX7_readsClause 17 rfl) (by decide) ?_
    refine g_bipush (v := 109) hF (dck_at tX7_readsClause 18 rfl) (by decide) ?_
    refine g_bipush (v := 112) hF (dck_at tX7_readsClause 19 rfl) (by decide) ?_
    refine g_bipush (v := 116) hF (dck_at tX7_readsClause 20 rfl) (by decide) ?_
    refine g_bipush (v := 121) hF (dck_at tX7_readsClause 21 rfl) (by decide) ?_
    show G X F 37 _ _ _
    refine g_iconst (v := 0) hF (dck_at tX7_readsClause 22 rfl) (by decide) ?_
    refine g_iconst (v := 0) hF (dck_at tX7_readsClause 23 rfl) (by decide) ?_
    refine g_iconst (v := 0) hF (dck_at tX7_readsClause 24 rfl) (by decide) ?_
    refine g_iconst (v := 0) hF (dck_at tX7_readsClause 25 rfl) (by decide) ?_
    obtain ⟨q41, e41, h⟩ := bd h
    refine g_callV hF (as := [.int (101 : Int32), .int (109 : Int32), .int (112 : Int32), .int (116 : Int32), .int (121 : Int32), .int (0 : Int32), .int (0 : Int32), .int (0 : Int32), .int (0 : Int32)]) (k := 70) rfl (by decide) wm_X7_90 wi_X7_isWord we_X7_isWord wc_X7_isWord wn_X7 hyX7_isWord (by decide) (hM 70 (by decide) (by decide)) kdc_70 (c_X7_isWord hF.2.2.2.2.2.2.2.1 hM e41) (by decide) rfl rfl rfl rfl (dck_at tX7_readsClause 26 rfl) ?_
    show G X F 44 _ [.int q41] M
    refine g_if_eq hF 56 (dck_at tX7_readsClause 27 rfl) (by decide) (fun hc44 => ?_) (fun hc44 => ?_)
    · replace h := ite_t hc44 h
      refine g_aload_n hF (dck_at tX7_readsClause 35 rfl) rfl ?_
      refine g_bipush (v := 103) hF (dck_at tX7_readsClause 36 rfl) (by decide) ?_
      refine g_bipush (v := 117) hF (dck_at tX7_readsClause 37 rfl) (by decide) ?_
      refine g_bipush (v := 101) hF (dck_at tX7_readsClause 38 rfl) (by decide) ?_
      refine g_bipush (v := 115) hF (dck_at tX7_readsClause 39 rfl) (by decide) ?_
      refine g_bipush (v := 116) hF (dck_at tX7_readsClause 40 rfl) (by decide) ?_
      show G X F 67 _ _ _
      refine g_iconst (v := 0) hF (dck_at tX7_readsClause 41 rfl) (by decide) ?_
      refine g_iconst (v := 0) hF (dck_at tX7_readsClause 42 rfl) (by decide) ?_
      refine g_iconst (v := 0) hF (dck_at tX7_readsClause 43 rfl) (by decide) ?_
      refine g_iconst (v := 0) hF (dck_at tX7_readsClause 44 rfl) (by decide) ?_
      obtain ⟨q71, e71, h⟩ := bd h
      refine g_callV hF (as := [.int (103 : Int32), .int (117 : Int32), .int (101 : Int32), .int (115 : Int32), .int (116 : Int32), .int (0 : Int32), .int (0 : Int32), .int (0 : Int32), .int (0 : Int32)]) (k := 70) rfl (by decide) wm_X7_90 wi_X7_isWord we_X7_isWord wc_X7_isWord wn_X7 hyX7_isWord (by decide) (hM 70 (by decide) (by decide)) kdc_70 (c_X7_isWord hF.2.2.2.2.2.2.2.1 hM e71) (by decide) rfl rfl rfl rfl (dck_at tX7_readsClause 45 rfl) ?_
      show G X F 74 _ [.int q71] M
      refine g_if_eq hF 83 (dck_at tX7_readsClause 46 rfl) (by decide) (fun hc74 => ?_) (fun hc74 => ?_)
      · replace h := ite_t hc74 h
        refine g_aload_n hF (dck_at tX7_readsClause 51 rfl) rfl ?_
        refine g_bipush (v := 102) hF (dck_at tX7_readsClause 52 rfl) (by decide) ?_
        refine g_bipush (v := 97) hF (dck_at tX7_readsClause 53 rfl) (by decide) ?_
        refine g_bipush (v := 110) hF (dck_at tX7_readsClause 54 rfl) (by decide) ?_
        refine g_iconst (v := 0) hF (dck_at tX7_readsClause 55 rfl) (by decide) ?_
        refine g_iconst (v := 0) hF (dck_at tX7_readsClause 56 rfl) (by decide) ?_
        show G X F 92 _ _ _
        refine g_iconst (v := 0) hF (dck_at tX7_readsClause 57 rfl) (by decide) ?_
        refine g_iconst (v := 0) hF (dck_at tX7_readsClause 58 rfl) (by decide) ?_
        refine g_iconst (v := 0) hF (dck_at tX7_readsClause 59 rfl) (by decide) ?_
        refine g_iconst (v := 0) hF (dck_at tX7_readsClause 60 rfl) (by decide) ?_
        obtain ⟨q96, e96, h⟩ := bd h
        refine g_callV hF (as := [.int (102 : Int32), .int (97 : Int32), .int (110 : Int32), .int (0 : Int32), .int (0 : Int32), .int (0 : Int32), .int (0 : Int32), .int (0 : Int32), .int (0 : Int32)]) (k := 70) rfl (by decide) wm_X7_90 wi_X7_isWord we_X7_isWord wc_X7_isWord wn_X7 hyX7_isWord (by decide) (hM 70 (by decide) (by decide)) kdc_70 (c_X7_isWord hF.2.2.2.2.2.2.2.1 hM e96) (by decide) rfl rfl rfl rfl (dck_at tX7_readsClause 61 rfl) ?_
        show G X F 99 _ [.int q96] M
        refine g_if_eq hF 108 (dck_at tX7_readsClause 62 rfl) (by decide) (fun hc99 => ?_) (fun hc99 => ?_)
        · replace h := ite_t hc99 h
          refine g_aload_n hF (dck_at tX7_readsClause 67 rfl) rfl ?_
          refine g_bipush (v := 115) hF (dck_at tX7_readsClause 68 rfl) (by decide) ?_
          refine g_bipush (v := 108) hF (dck_at tX7_readsClause 69 rfl) (by decide) ?_
          refine g_bipush (v := 101) hF (dck_at tX7_readsClause 70 rfl) (by decide) ?_
          refine g_bipush (v := 101) hF (dck_at tX7_readsClause 71 rfl) (by decide) ?_
          refine g_bipush (v := 112) hF (dck_at tX7_readsClause 72 rfl) (by decide) ?_
          show G X F 119 _ _ _
          refine g_bipush (v := 101) hF (dck_at tX7_readsClause 73 rfl) (by decide) ?_
          refine g_bipush (v := 114) hF (dck_at tX7_readsClause 74 rfl) (by decide) ?_
          refine g_iconst (v := 0) hF (dck_at tX7_readsClause 75 rfl) (by decide) ?_
          refine g_iconst (v := 0) hF (dck_at tX7_readsClause 76 rfl) (by decide) ?_
          obtain ⟨q125, e125, h⟩ := bd h
          refine g_callV hF (as := [.int (115 : Int32), .int (108 : Int32), .int (101 : Int32), .int (101 : Int32), .int (112 : Int32), .int (101 : Int32), .int (114 : Int32), .int (0 : Int32), .int (0 : Int32)]) (k := 70) rfl (by decide) wm_X7_90 wi_X7_isWord we_X7_isWord wc_X7_isWord wn_X7 hyX7_isWord (by decide) (hM 70 (by decide) (by decide)) kdc_70 (c_X7_isWord hF.2.2.2.2.2.2.2.1 hM e125) (by decide) rfl rfl rfl rfl (dck_at tX7_readsClause 77 rfl) ?_
          show G X F 128 _ [.int q125] M
          refine g_if_eq hF 137 (dck_at tX7_readsClause 78 rfl) (by decide) (fun hc128 => ?_) (fun hc128 => ?_)
          · replace h := ite_t hc128 h
            refine g_aload_n hF (dck_at tX7_readsClause 83 rfl) rfl ?_
            refine g_bipush (v := 115) hF (dck_at tX7_readsClause 84 rfl) (by decide) ?_
            refine g_bipush (v := 104) hF (dck_at tX7_readsClause 85 rfl) (by decide) ?_
            refine g_bipush (v := 111) hF (dck_at tX7_readsClause 86 rfl) (by decide) ?_
            refine g_bipush (v := 117) hF (dck_at tX7_readsClause 87 rfl) (by decide) ?_
            refine g_bipush (v := 116) hF (dck_at tX7_readsClause 88 rfl) (by decide) ?_
            show G X F 148 _ _ _
            refine g_bipush (v := 101) hF (dck_at tX7_readsClause 89 rfl) (by decide) ?_
            refine g_bipush (v := 114) hF (dck_at tX7_readsClause 90 rfl) (by decide) ?_
            refine g_iconst (v := 0) hF (dck_at tX7_readsClause 91 rfl) (by decide) ?_
            refine g_iconst (v := 0) hF (dck_at tX7_readsClause 92 rfl) (by decide) ?_
            obtain ⟨q154, e154, h⟩ := bd h
            refine g_callV hF (as := [.int (115 : Int32), .int (104 : Int32), .int (111 : Int32), .int (117 : Int32), .int (116 : Int32), .int (101 : Int32), .int (114 : Int32), .int (0 : Int32), .int (0 : Int32)]) (k := 70) rfl (by decide) wm_X7_90 wi_X7_isWord we_X7_isWord wc_X7_isWord wn_X7 hyX7_isWord (by decide) (hM 70 (by decide) (by decide)) kdc_70 (c_X7_isWord hF.2.2.2.2.2.2.2.1 hM e154) (by decide) rfl rfl rfl rfl (dck_at tX7_readsClause 93 rfl) ?_
            show G X F 157 _ [.int q154] M
            refine g_if_eq hF 166 (dck_at tX7_readsClause 94 rfl) (by decide) (fun hc157 => ?_) (fun hc157 => ?_)
            · replace h := ite_t hc157 h
              refine g_aload_n hF (dck_at tX7_readsClause 99 rfl) rfl ?_
              refine g_bipush (v := 112) hF (dck_at tX7_readsClause 100 rfl) (by decide) ?_
              refine g_bipush (v := 108) hF (dck_at tX7_readsClause 101 rfl) (by decide) ?_
              refine g_bipush (v := 97) hF (dck_at tX7_readsClause 102 rfl) (by decide) ?_
              refine g_bipush (v := 105) hF (dck_at tX7_readsClause 103 rfl) (by decide) ?_
              refine g_bipush (v := 110) hF (dck_at tX7_readsClause 104 rfl) (by decide) ?_
              show G X F 177 _ _ _
              refine g_iconst (v := 0) hF (dck_at tX7_readsClause 105 rfl) (by decide) ?_
              refine g_iconst (v := 0) hF (dck_at tX7_readsClause 106 rfl) (by decide) ?_
              refine g_iconst (v := 0) hF (dck_at tX7_readsClause 107 rfl) (by decide) ?_
              refine g_iconst (v := 0) hF (dck_at tX7_readsClause 108 rfl) (by decide) ?_
              obtain ⟨q181, e181, h⟩ := bd h
              refine g_callV hF (as := [.int (112 : Int32), .int (108 : Int32), .int (97 : Int32), .int (105 : Int32), .int (110 : Int32), .int (0 : Int32), .int (0 : Int32), .int (0 : Int32), .int (0 : Int32)]) (k := 70) rfl (by decide) wm_X7_90 wi_X7_isWord we_X7_isWord wc_X7_isWord wn_X7 hyX7_isWord (by decide) (hM 70 (by decide) (by decide)) kdc_70 (c_X7_isWord hF.2.2.2.2.2.2.2.1 hM e181) (by decide) rfl rfl rfl rfl (dck_at tX7_readsClause 109 rfl) ?_
              show G X F 184 _ [.int q181] M
              refine g_if_eq hF 193 (dck_at tX7_readsClause 110 rfl) (by decide) (fun hc184 => ?_) (fun hc184 => ?_)
              · replace h := ite_t hc184 h
                refine g_aload_n hF (dck_at tX7_readsClause 115 rfl) rfl ?_
                refine g_bipush (v := 113) hF (dck_at tX7_readsClause 116 rfl) (by decide) ?_
                refine g_bipush (v := 117) hF (dck_at tX7_readsClause 117 rfl) (by decide) ?_
                refine g_bipush (v := 105) hF (dck_at tX7_readsClause 118 rfl) (by decide) ?_
                refine g_bipush (v := 101) hF (dck_at tX7_readsClause 119 rfl) (by decide) ?_
                refine g_bipush (v := 116) hF (dck_at tX7_readsClause 120 rfl) (by decide) ?_
                show G X F 204 _ _ _
                refine g_iconst (v := 0) hF (dck_at tX7_readsClause 121 rfl) (by decide) ?_
                refine g_iconst (v := 0) hF (dck_at tX7_readsClause 122 rfl) (by decide) ?_
                refine g_iconst (v := 0) hF (dck_at tX7_readsClause 123 rfl) (by decide) ?_
                refine g_iconst (v := 0) hF (dck_at tX7_readsClause 124 rfl) (by decide) ?_
                obtain ⟨q208, e208, h⟩ := bd h
                refine g_callV hF (as := [.int (113 : Int32), .int (117 : Int32), .int (105 : Int32), .int (101 : Int32), .int (116 : Int32), .int (0 : Int32), .int (0 : Int32), .int (0 : Int32), .int (0 : Int32)]) (k := 70) rfl (by decide) wm_X7_90 wi_X7_isWord we_X7_isWord wc_X7_isWord wn_X7 hyX7_isWord (by decide) (hM 70 (by decide) (by decide)) kdc_70 (c_X7_isWord hF.2.2.2.2.2.2.2.1 hM e208) (by decide) rfl rfl rfl rfl (dck_at tX7_readsClause 125 rfl) ?_
                show G X F 211 _ [.int q208] M
                refine g_if_eq hF 220 (dck_at tX7_readsClause 126 rfl) (by decide) (fun hc211 => ?_) (fun hc211 => ?_)
                · replace h := ite_t hc211 h
                  refine g_aload_n hF (dck_at tX7_readsClause 131 rfl) rfl ?_
                  refine g_bipush (v := 98) hF (dck_at tX7_readsClause 132 rfl) (by decide) ?_
                  refine g_bipush (v := 114) hF (dck_at tX7_readsClause 133 rfl) (by decide) ?_
                  refine g_bipush (v := 105) hF (dck_at tX7_readsClause 134 rfl) (by decide) ?_
                  refine g_bipush (v := 108) hF (dck_at tX7_readsClause 135 rfl) (by decide) ?_
                  refine g_bipush (v := 108) hF (dck_at tX7_readsClause 136 rfl) (by decide) ?_
                  show G X F 231 _ _ _
                  refine g_bipush (v := 105) hF (dck_at tX7_readsClause 137 rfl) (by decide) ?_
                  refine g_bipush (v := 97) hF (dck_at tX7_readsClause 138 rfl) (by decide) ?_
                  refine g_bipush (v := 110) hF (dck_at tX7_readsClause 139 rfl) (by decide) ?_
                  refine g_bipush (v := 116) hF (dck_at tX7_readsClause 140 rfl) (by decide) ?_
                  obtain ⟨q239, e239, h⟩ := bd h
                  refine g_callV hF (as := [.int (98 : Int32), .int (114 : Int32), .int (105 : Int32), .int (108 : Int32), .int (108 : Int32), .int (105 : Int32), .int (97 : Int32), .int (110 : Int32), .int (116 : Int32)]) (k := 70) rfl (by decide) wm_X7_90 wi_X7_isWord we_X7_isWord wc_X7_isWord wn_X7 hyX7_isWord (by decide) (hM 70 (by decide) (by decide)) kdc_70 (c_X7_isWord hF.2.2.2.2.2.2.2.1 hM e239) (by decide) rfl rfl rfl rfl (dck_at tX7_readsClause 141 rfl) ?_
                  show G X F 242 _ [.int q239] M
                  refine g_if_eq hF 251 (dck_at tX7_readsClause 142 rfl) (by decide) (fun hc242 => ?_) (fun hc242 => ?_)
                  · replace h := ite_t hc242 h
                    refine g_aload_n hF (dck_at tX7_readsClause 147 rfl) rfl ?_
                    refine g_bipush (v := 107) hF (dck_at tX7_readsClause 148 rfl) (by decide) ?_
                    refine g_bipush (v := 110) hF (dck_at tX7_readsClause 149 rfl) (by decide) ?_
                    refine g_bipush (v := 111) hF (dck_at tX7_readsClause 150 rfl) (by decide) ?_
                    refine g_bipush (v := 119) hF (dck_at tX7_readsClause 151 rfl) (by decide) ?_
                    refine g_bipush (v := 110) hF (dck_at tX7_readsClause 152 rfl) (by decide) ?_
                    show G X F 262 _ _ _
                    refine g_iconst (v := 0) hF (dck_at tX7_readsClause 153 rfl) (by decide) ?_
                    refine g_iconst (v := 0) hF (dck_at tX7_readsClause 154 rfl) (by decide) ?_
                    refine g_iconst (v := 0) hF (dck_at tX7_readsClause 155 rfl) (by decide) ?_
                    refine g_iconst (v := 0) hF (dck_at tX7_readsClause 156 rfl) (by decide) ?_
                    obtain ⟨q266, e266, h⟩ := bd h
                    refine g_callV hF (as := [.int (107 : Int32), .int (110 : Int32), .int (111 : Int32), .int (119 : Int32), .int (110 : Int32), .int (0 : Int32), .int (0 : Int32), .int (0 : Int32), .int (0 : Int32)]) (k := 70) rfl (by decide) wm_X7_90 wi_X7_isWord we_X7_isWord wc_X7_isWord wn_X7 hyX7_isWord (by decide) (hM 70 (by decide) (by decide)) kdc_70 (c_X7_isWord hF.2.2.2.2.2.2.2.1 hM e266) (by decide) rfl rfl rfl rfl (dck_at tX7_readsClause 157 rfl) ?_
                    show G X F 269 _ [.int q266] M
                    refine g_if_eq hF 278 (dck_at tX7_readsClause 158 rfl) (by decide) (fun hc269 => ?_) (fun hc269 => ?_)
                    · replace h := ite_t hc269 h
                      refine g_aload_n hF (dck_at tX7_readsClause 163 rfl) rfl ?_
                      refine g_bipush (v := 97) hF (dck_at tX7_readsClause 164 rfl) (by decide) ?_
                      refine g_bipush (v := 114) hF (dck_at tX7_readsClause 165 rfl) (by decide) ?_
                      refine g_bipush (v := 109) hF (dck_at tX7_readsClause 166 rfl) (by decide) ?_
                      refine g_iconst (v := 0) hF (dck_at tX7_readsClause 167 rfl) (by decide) ?_
                      refine g_iconst (v := 0) hF (dck_at tX7_readsClause 168 rfl) (by decide) ?_
                      show G X F 287 _ _ _
                      refine g_iconst (v := 0) hF (dck_at tX7_readsClause 169 rfl) (by decide) ?_
                      refine g_iconst (v := 0) hF (dck_at tX7_readsClause 170 rfl) (by decide) ?_
                      refine g_iconst (v := 0) hF (dck_at tX7_readsClause 171 rfl) (by decide) ?_
                      refine g_iconst (v := 0) hF (dck_at tX7_readsClause 172 rfl) (by decide) ?_
                      obtain ⟨q291, e291, h⟩ := bd h
                      refine g_callV hF (as := [.int (97 : Int32), .int (114 : Int32), .int (109 : Int32), .int (0 : Int32), .int (0 : Int32), .int (0 : Int32), .int (0 : Int32), .int (0 : Int32), .int (0 : Int32)]) (k := 70) rfl (by decide) wm_X7_90 wi_X7_isWord we_X7_isWord wc_X7_isWord wn_X7 hyX7_isWord (by decide) (hM 70 (by decide) (by decide)) kdc_70 (c_X7_isWord hF.2.2.2.2.2.2.2.1 hM e291) (by decide) rfl rfl rfl rfl (dck_at tX7_readsClause 173 rfl) ?_
                      show G X F 294 _ [.int q291] M
                      refine g_if_eq hF 306 (dck_at tX7_readsClause 174 rfl) (by decide) (fun hc294 => ?_) (fun hc294 => ?_)
                      · replace h := ite_t hc294 h
                        refine g_aload_n hF (dck_at tX7_readsClause 181 rfl) rfl ?_
                        refine g_bipush (v := 99) hF (dck_at tX7_readsClause 182 rfl) (by decide) ?_
                        refine g_bipush (v := 108) hF (dck_at tX7_readsClause 183 rfl) (by decide) ?_
                        refine g_bipush (v := 111) hF (dck_at tX7_readsClause 184 rfl) (by decide) ?_
                        refine g_bipush (v := 115) hF (dck_at tX7_readsClause 185 rfl) (by decide) ?_
                        refine g_bipush (v := 101) hF (dck_at tX7_readsClause 186 rfl) (by decide) ?_
                        show G X F 317 _ _ _
                        refine g_iconst (v := 0) hF (dck_at tX7_readsClause 187 rfl) (by decide) ?_
                        refine g_iconst (v := 0) hF (dck_at tX7_readsClause 188 rfl) (by decide) ?_
                        refine g_iconst (v := 0) hF (dck_at tX7_readsClause 189 rfl) (by decide) ?_
                        refine g_iconst (v := 0) hF (dck_at tX7_readsClause 190 rfl) (by decide) ?_
                        obtain ⟨q321, e321, h⟩ := bd h
                        refine g_callV hF (as := [.int (99 : Int32), .int (108 : Int32), .int (111 : Int32), .int (115 : Int32), .int (101 : Int32), .int (0 : Int32), .int (0 : Int32), .int (0 : Int32), .int (0 : Int32)]) (k := 70) rfl (by decide) wm_X7_90 wi_X7_isWord we_X7_isWord wc_X7_isWord wn_X7 hyX7_isWord (by decide) (hM 70 (by decide) (by decide)) kdc_70 (c_X7_isWord hF.2.2.2.2.2.2.2.1 hM e321) (by decide) rfl rfl rfl rfl (dck_at tX7_readsClause 191 rfl) ?_
                        show G X F 324 _ [.int q321] M
                        refine g_if_eq hF 336 (dck_at tX7_readsClause 192 rfl) (by decide) (fun hc324 => ?_) (fun hc324 => ?_)
                        · replace h := ite_t hc324 h
                          refine g_aload_n hF (dck_at tX7_readsClause 199 rfl) rfl ?_
                          refine g_bipush (v := 104) hF (dck_at tX7_readsClause 200 rfl) (by decide) ?_
                          refine g_bipush (v := 105) hF (dck_at tX7_readsClause 201 rfl) (by decide) ?_
                          refine g_bipush (v := 114) hF (dck_at tX7_readsClause 202 rfl) (by decide) ?_
                          refine g_bipush (v := 101) hF (dck_at tX7_readsClause 203 rfl) (by decide) ?_
                          refine g_iconst (v := 0) hF (dck_at tX7_readsClause 204 rfl) (by decide) ?_
                          show G X F 346 _ _ _
                          refine g_iconst (v := 0) hF (dck_at tX7_readsClause 205 rfl) (by decide) ?_
                          refine g_iconst (v := 0) hF (dck_at tX7_readsClause 206 rfl) (by decide) ?_
                          refine g_iconst (v := 0) hF (dck_at tX7_readsClause 207 rfl) (by decide) ?_
                          refine g_iconst (v := 0) hF (dck_at tX7_readsClause 208 rfl) (by decide) ?_
                          obtain ⟨q350, e350, h⟩ := bd h
                          refine g_callV hF (as := [.int (104 : Int32), .int (105 : Int32), .int (114 : Int32), .int (101 : Int32), .int (0 : Int32), .int (0 : Int32), .int (0 : Int32), .int (0 : Int32), .int (0 : Int32)]) (k := 70) rfl (by decide) wm_X7_90 wi_X7_isWord we_X7_isWord wc_X7_isWord wn_X7 hyX7_isWord (by decide) (hM 70 (by decide) (by decide)) kdc_70 (c_X7_isWord hF.2.2.2.2.2.2.2.1 hM e350) (by decide) rfl rfl rfl rfl (dck_at tX7_readsClause 209 rfl) ?_
                          show G X F 353 _ [.int q350] M
                          refine g_if_eq hF 371 (dck_at tX7_readsClause 210 rfl) (by decide) (fun hc353 => ?_) (fun hc353 => ?_)
                          · replace h := ite_t hc353 h
                            refine g_iconst (v := 0) hF (dck_at tX7_readsClause 219 rfl) (by decide) ?_
                            cases h
                            exact g_zret hF hR rfl (dck_at tX7_readsClause 220 rfl)
                          · replace h := ite_f hc353 h
                            refine g_aload_n hF (dck_at tX7_readsClause 211 rfl) rfl ?_
                            refine g_iconst (v := 4) hF (dck_at tX7_readsClause 212 rfl) (by decide) ?_
                            refine g_iconst (v := 0) hF (dck_at tX7_readsClause 213 rfl) (by decide) ?_
                            refine g_bipush (v := 9) hF (dck_at tX7_readsClause 214 rfl) (by decide) ?_
                            obtain ⟨q361, e361, h⟩ := bd h
                            refine g_callV hF (as := [.int (4 : Int32), .int (0 : Int32), .int (9 : Int32)]) (k := 70) rfl (by decide) wm_X7_87 wi_X7_number we_X7_number wc_X7_number wn_X7 hyX7_number (by decide) (hM 70 (by decide) (by decide)) kdc_70 (c_X7_number hF.2.2.2.2.2.2.2.1 hM e361) (by decide) rfl rfl rfl rfl (dck_at tX7_readsClause 215 rfl) ?_
                            show G X F 364 _ [.int q361.1] q361.2
                            refine g_if_eq hF 371 (dck_at tX7_readsClause 216 rfl) (by decide) (fun hc364 => ?_) (fun hc364 => ?_)
                            · replace h := ite_t hc364 h
                              refine g_iconst (v := 0) hF (dck_at tX7_readsClause 219 rfl) (by decide) ?_
                              cases h
                              exact g_zret hF hR rfl (dck_at tX7_readsClause 220 rfl)
                            · replace h := ite_f hc364 h
                              refine g_iconst (v := 1) hF (dck_at tX7_readsClause 217 rfl) (by decide) ?_
                              refine g_goto hF 372 (dck_at tX7_readsClause 218 rfl) (by decide) ?_
                              cases h
                              exact g_zret hF hR rfl (dck_at tX7_readsClause 220 rfl)
                        · replace h := ite_f hc324 h
                          refine g_aload_n hF (dck_at tX7_readsClause 193 rfl) rfl ?_
                          refine g_iconst (v := 3) hF (dck_at tX7_readsClause 194 rfl) (by decide) ?_
                          refine g_iconst (v := 0) hF (dck_at tX7_readsClause 195 rfl) (by decide) ?_
                          refine g_bipush (v := 99) hF (dck_at tX7_readsClause 196 rfl) (by decide) ?_
                          obtain ⟨q332, e332, h⟩ := bd h
                          refine g_callV hF (as := [.int (3 : Int32), .int (0 : Int32), .int (99 : Int32)]) (k := 70) rfl (by decide) wm_X7_87 wi_X7_number we_X7_number wc_X7_number wn_X7 hyX7_number (by decide) (hM 70 (by decide) (by decide)) kdc_70 (c_X7_number hF.2.2.2.2.2.2.2.1 hM e332) (by decide) rfl rfl rfl rfl (dck_at tX7_readsClause 197 rfl) ?_
                          show G X F 335 _ [.int q332.1] q332.2
                          obtain ⟨hz335, h⟩ := gd h
                          cases h
                          exact g_zret hF hR (zok_n hz335) (dck_at tX7_readsClause 198 rfl)
                      · replace h := ite_f hc294 h
                        refine g_aload_n hF (dck_at tX7_readsClause 175 rfl) rfl ?_
                        refine g_iconst (v := 2) hF (dck_at tX7_readsClause 176 rfl) (by decide) ?_
                        refine g_iconst (v := 0) hF (dck_at tX7_readsClause 177 rfl) (by decide) ?_
                        refine g_bipush (v := 30) hF (dck_at tX7_readsClause 178 rfl) (by decide) ?_
                        obtain ⟨q302, e302, h⟩ := bd h
                        refine g_callV hF (as := [.int (2 : Int32), .int (0 : Int32), .int (30 : Int32)]) (k := 70) rfl (by decide) wm_X7_87 wi_X7_number we_X7_number wc_X7_number wn_X7 hyX7_number (by decide) (hM 70 (by decide) (by decide)) kdc_70 (c_X7_number hF.2.2.2.2.2.2.2.1 hM e302) (by decide) rfl rfl rfl rfl (dck_at tX7_readsClause 179 rfl) ?_
                        show G X F 305 _ [.int q302.1] q302.2
                        obtain ⟨hz305, h⟩ := gd h
                        cases h
                        exact g_zret hF hR (zok_n hz305) (dck_at tX7_readsClause 180 rfl)
                    · replace h := ite_f hc269 h
                      refine g_aload_n hF (dck_at tX7_readsClause 159 rfl) rfl ?_
                      refine g_iconst (v := 3) hF (dck_at tX7_readsClause 160 rfl) (by decide) ?_
                      obtain ⟨q274, e274, h⟩ := bd h
                      refine g_callV hF (as := [.int (3 : Int32)]) (k := 70) rfl (by decide) wm_X7_97 wi_X7_readsEncore we_X7_readsEncore wc_X7_readsEncore wn_X7 hyX7_readsEncore (by decide) (hM 70 (by decide) (by decide)) kdc_70 (c_X7_readsEncore hF.2.2.2.2.2.2.2.1 hM e274) (by decide) rfl rfl rfl rfl (dck_at tX7_readsClause 161 rfl) ?_
                      show G X F 277 _ [.int q274.1] q274.2
                      obtain ⟨hz277, h⟩ := gd h
                      cases h
                      exact g_zret hF hR (zok_n hz277) (dck_at tX7_readsClause 162 rfl)
                  · replace h := ite_f hc242 h
                    refine g_aload_n hF (dck_at tX7_readsClause 143 rfl) rfl ?_
                    refine g_iconst (v := 2) hF (dck_at tX7_readsClause 144 rfl) (by decide) ?_
                    obtain ⟨q247, e247, h⟩ := bd h
                    refine g_callV hF (as := [.int (2 : Int32)]) (k := 70) rfl (by decide) wm_X7_97 wi_X7_readsEncore we_X7_readsEncore wc_X7_readsEncore wn_X7 hyX7_readsEncore (by decide) (hM 70 (by decide) (by decide)) kdc_70 (c_X7_readsEncore hF.2.2.2.2.2.2.2.1 hM e247) (by decide) rfl rfl rfl rfl (dck_at tX7_readsClause 145 rfl) ?_
                    show G X F 250 _ [.int q247.1] q247.2
                    obtain ⟨hz250, h⟩ := gd h
                    cases h
                    exact g_zret hF hR (zok_n hz250) (dck_at tX7_readsClause 146 rfl)
                · replace h := ite_f hc211 h
                  refine g_aload_n hF (dck_at tX7_readsClause 127 rfl) rfl ?_
                  refine g_iconst (v := 1) hF (dck_at tX7_readsClause 128 rfl) (by decide) ?_
                  obtain ⟨q216, e216, h⟩ := bd h
                  refine g_callV hF (as := [.int (1 : Int32)]) (k := 70) rfl (by decide) wm_X7_97 wi_X7_readsEncore we_X7_readsEncore wc_X7_readsEncore wn_X7 hyX7_readsEncore (by decide) (hM 70 (by decide) (by decide)) kdc_70 (c_X7_readsEncore hF.2.2.2.2.2.2.2.1 hM e216) (by decide) rfl rfl rfl rfl (dck_at tX7_readsClause 129 rfl) ?_
                  show G X F 219 _ [.int q216.1] q216.2
                  obtain ⟨hz219, h⟩ := gd h
                  cases h
                  exact g_zret hF hR (zok_n hz219) (dck_at tX7_readsClause 130 rfl)
              · replace h := ite_f hc184 h
                refine g_aload_n hF (dck_at tX7_readsClause 111 rfl) rfl ?_
                refine g_iconst (v := 0) hF (dck_at tX7_readsClause 112 rfl) (by decide) ?_
                obtain ⟨q189, e189, h⟩ := bd h
                refine g_callV hF (as := [.int (0 : Int32)]) (k := 70) rfl (by decide) wm_X7_97 wi_X7_readsEncore we_X7_readsEncore wc_X7_readsEncore wn_X7 hyX7_readsEncore (by decide) (hM 70 (by decide) (by decide)) kdc_70 (c_X7_readsEncore hF.2.2.2.2.2.2.2.1 hM e189) (by decide) rfl rfl rfl rfl (dck_at tX7_readsClause 113 rfl) ?_
                show G X F 192 _ [.int q189.1] q189.2
                obtain ⟨hz192, h⟩ := gd h
                cases h
                exact g_zret hF hR (zok_n hz192) (dck_at tX7_readsClause 114 rfl)
            · replace h := ite_f hc157 h
              refine g_aload_n hF (dck_at tX7_readsClause 95 rfl) rfl ?_
              refine g_iconst (v := 3) hF (dck_at tX7_readsClause 96 rfl) (by decide) ?_
              obtain ⟨q162, e162, h⟩ := bd h
              refine g_callV hF (as := [.int (3 : Int32)]) (k := 70) rfl (by decide) wm_X7_94 wi_X7_readsClapper we_X7_readsClapper wc_X7_readsClapper wn_X7 hyX7_readsClapper (by decide) (hM 70 (by decide) (by decide)) kdc_70 (c_X7_readsClapper hF.2.2.2.2.2.2.2.1 hM e162) (by decide) rfl rfl rfl rfl (dck_at tX7_readsClause 97 rfl) ?_
              show G X F 165 _ [.int q162.1] q162.2
              obtain ⟨hz165, h⟩ := gd h
              cases h
              exact g_zret hF hR (zok_n hz165) (dck_at tX7_readsClause 98 rfl)
          · replace h := ite_f hc128 h
            refine g_aload_n hF (dck_at tX7_readsClause 79 rfl) rfl ?_
            refine g_iconst (v := 2) hF (dck_at tX7_readsClause 80 rfl) (by decide) ?_
            obtain ⟨q133, e133, h⟩ := bd h
            refine g_callV hF (as := [.int (2 : Int32)]) (k := 70) rfl (by decide) wm_X7_94 wi_X7_readsClapper we_X7_readsClapper wc_X7_readsClapper wn_X7 hyX7_readsClapper (by decide) (hM 70 (by decide) (by decide)) kdc_70 (c_X7_readsClapper hF.2.2.2.2.2.2.2.1 hM e133) (by decide) rfl rfl rfl rfl (dck_at tX7_readsClause 81 rfl) ?_
            show G X F 136 _ [.int q133.1] q133.2
            obtain ⟨hz136, h⟩ := gd h
            cases h
            exact g_zret hF hR (zok_n hz136) (dck_at tX7_readsClause 82 rfl)
        · replace h := ite_f hc99 h
          refine g_aload_n hF (dck_at tX7_readsClause 63 rfl) rfl ?_
          refine g_iconst (v := 1) hF (dck_at tX7_readsClause 64 rfl) (by decide) ?_
          obtain ⟨q104, e104, h⟩ := bd h
          refine g_callV hF (as := [.int (1 : Int32)]) (k := 70) rfl (by decide) wm_X7_94 wi_X7_readsClapper we_X7_readsClapper wc_X7_readsClapper wn_X7 hyX7_readsClapper (by decide) (hM 70 (by decide) (by decide)) kdc_70 (c_X7_readsClapper hF.2.2.2.2.2.2.2.1 hM e104) (by decide) rfl rfl rfl rfl (dck_at tX7_readsClause 65 rfl) ?_
          show G X F 107 _ [.int q104.1] q104.2
          obtain ⟨hz107, h⟩ := gd h
          cases h
          exact g_zret hF hR (zok_n hz107) (dck_at tX7_readsClause 66 rfl)
      · replace h := ite_f hc74 h
        refine g_aload_n hF (dck_at tX7_readsClause 47 rfl) rfl ?_
        refine g_iconst (v := 0) hF (dck_at tX7_readsClause 48 rfl) (by decide) ?_
        obtain ⟨q79, e79, h⟩ := bd h
        refine g_callV hF (as := [.int (0 : Int32)]) (k := 70) rfl (by decide) wm_X7_94 wi_X7_readsClapper we_X7_readsClapper wc_X7_readsClapper wn_X7 hyX7_readsClapper (by decide) (hM 70 (by decide) (by decide)) kdc_70 (c_X7_readsClapper hF.2.2.2.2.2.2.2.1 hM e79) (by decide) rfl rfl rfl rfl (dck_at tX7_readsClause 49 rfl) ?_
        show G X F 82 _ [.int q79.1] q79.2
        obtain ⟨hz82, h⟩ := gd h
        cases h
        exact g_zret hF hR (zok_n hz82) (dck_at tX7_readsClause 50 rfl)
    · replace h := ite_f hc44 h
      refine g_aload_n hF (dck_at tX7_readsClause 28 rfl) rfl ?_
      refine gf_X7_16 hF (hM 70 (by decide) (by decide)) kdc_70 lnc_70 (dck_at tX7_readsClause 29 rfl) ?_
      refine g_iconst (v := 0) hF (dck_at tX7_readsClause 30 rfl) (by decide) ?_
      refine g_iconst (v := 0) hF (dck_at tX7_readsClause 31 rfl) (by decide) ?_
      refine g_isc (j := 0) hF (hM 73 (by decide) (by decide)) kdc_73 lnc_73 (by decide) (by decide) (dck_at tX7_readsClause 32 rfl) ?_
      refine g_iconst (v := 1) hF (dck_at tX7_readsClause 33 rfl) (by decide) ?_
      show G X F 55 _ _ _
      cases h
      exact g_zret hF hR rfl (dck_at tX7_readsClause 34 rfl)
  · replace h := ite_f hc17 h
    refine g_aload_n hF (dck_at tX7_readsClause 12 rfl) rfl ?_
    obtain ⟨q21, e21, h⟩ := bd h
    refine g_callV hF (as := []) (k := 70) rfl (by decide) wm_X7_47 wi_X7_forgets we_X7_forgets wc_X7_forgets wn_X7 hyX7_forgets (by decide) (hM 70 (by decide) (by decide)) kdc_70 (c_X7_forgets hF.2.2.2.2.2.2.2.1 hM e21) (by decide) rfl rfl rfl rfl (dck_at tX7_readsClause 13 rfl) ?_
    show G X F 24 _ [] q21
    refine g_iconst (v := 1) hF (dck_at tX7_readsClause 14 rfl) (by decide) ?_
    cases h
    exact g_zret hF hR rfl (dck_at tX7_readsClause 15 rfl)

def tbX7_reads : List (Nat × Instr × Nat) := [(0, .iconst 0, 1), (1, .istore_n 1, 1), (2, .iload_n 1, 1), (3, .bipush 45, 2), (5, .if_icmp .ge 21, 3), (8, .aload_n 0, 1), (9, .getfield 16, 3), (12, .iload_n 1, 1), (13, .aload_n 0, 1), (14, .getfield 13, 3), (17, .iload_n 1, 1), (18, .iaload, 1), (19, .iastore, 1), (20, .iinc 1 1, 3), (23, .goto (-21), 3), (26, .aload_n 0, 1), (27, .iconst 0, 1), (28, .putfield 61, 3), (31, .iconst 0, 1), (32, .istore_n 1, 1), (33, .iconst 1, 1), (34, .istore_n 2, 1), (35, .iload_n 2, 1), (36, .ifCond .eq 70, 3), (39, .aload_n 0, 1), (40, .invokevirtual 84, 3), (43, .aload_n 0, 1), (44, .invokevirtual 100, 3), (47, .ifCond .ne 5, 3), (50, .iconst (-1), 1), (51, .ireturn, 1), (52, .iinc 1 1, 3), (55, .aload_n 0, 1), (56, .invokevirtual 84, 3), (59, .aload_n 0, 1), (60, .getfield 78, 3), (63, .ifCond .eq 7, 3), (66, .iconst 1, 1), (67, .goto 4, 3), (70, .iconst 0, 1), (71, .istore_n 2, 1), (72, .iload_n 2, 1), (73, .ifCond .eq (-38), 3), (76, .aload_n 0, 1), (77, .getfield 78, 3), (80, .iconst 3, 1), (81, .if_icmp .ne 23, 3), (84, .aload_n 0, 1), (85, .getfield 7, 3), (88, .aload_n 0, 1), (89, .getfield 68, 3), (92, .iaload, 1), (93, .bipush 59, 2), (95, .if_icmp .ne 9, 3), (98, .iload_n 1, 1), (99, .bipush 14, 2), (101, .if_icmp .ne (-66), 3), (104, .iconst (-1), 1), (105, .ireturn, 1), (106, .iload_n 1, 1), (107, .ireturn, 1)]
theorem tX7_reads : dck cX7_reads tbX7_reads = true := by decide +kernel
def f_X7_reads_L2 (N : Nat) : Nat → Int32 → Mem → Option (Int32 × Mem)
  | 0, _, _ => none
  | n + 1, x1, M => (if (45 : Int32) ≤ x1 then some (x1, M) else if inb x1 45 = true then if inb x1 45 = true then f_X7_reads_L2 N n (x1 + (1 : Int32)) (up2 M 73 x1.toNatClampNeg (M 72 x1.toNatClampNeg)) else none else none)
def f_X7_reads_L35 (N : Nat) : Nat → Int32 → Int32 → Mem → Option ((Int32 × Int32 × Mem) ⊕ (Int32 × Mem))
  | 0, _, _, _ => none
  | n + 1, x1, x2, M => (if x2 = 0 then some (.inl (x1, x2, M)) else (f_X7_token N M).bind fun q40 => (f_X7_readsClause N q40).bind fun q44 => (if q44.1 = 0 then some (.inr ((-1 : Int32), q44.2)) else (f_X7_token N q44.2).bind fun q56 => (if (if (q56 70 11) = 0 then (0 : Int32) else (1 : Int32)) = 0 then f_X7_reads_L35 N n (x1 + (1 : Int32)) (if (q56 70 11) = 0 then (0 : Int32) else (1 : Int32)) q56 else (if (q56 70 11) = (3 : Int32) then if inb (q56 70 12) 160 = true then (if (q56 71 (q56 70 12).toNatClampNeg) = (59 : Int32) then (if (x1 + (1 : Int32)) = (14 : Int32) then some (.inr ((-1 : Int32), q56)) else f_X7_reads_L35 N n (x1 + (1 : Int32)) (if (q56 70 11) = 0 then (0 : Int32) else (1 : Int32)) q56) else some (.inr ((-1 : Int32), q56))) else none else some (.inr ((-1 : Int32), q56))))))
def f_X7_reads (N : Nat) (M : Mem) : Option (Int32 × Mem) := (f_X7_reads_L2 N N (0 : Int32) M).bind fun o2 => bS (f_X7_reads_L35 N N (0 : Int32) (1 : Int32) (up2 o2.2 70 13 (0 : Int32))) (fun o35 => some (o35.1, o35.2.2))
set_option maxHeartbeats 4000000 in
set_option maxRecDepth 100000 in
theorem g_X7_reads_L2 {X : Cx} {F : Fx} (hM : SM X) (hF : FK X F cX7_reads RX7 3 7) (N : Nat) : ∀ (n : Nat) (x1 : Int32) (M : Mem) (o : Int32 × Mem), f_X7_reads_L2 N n x1 M = some o → G X F 26 [some (.ref 70), none, none] [] o.2 → G X F 2 [some (.ref 70), some (.int x1), none] [] M := by
  intro n
  induction n with
  | zero =>
    intro x1 M o h K
    cases h
  | succ n ih =>
    intro x1 M o h K
    rw [f_X7_reads_L2] at h
    refine g_iload_n hF (dck_at tX7_reads 2 rfl) rfl ?_
    refine g_bipush (v := 45) hF (dck_at tX7_reads 3 rfl) (by decide) ?_
    refine g_icmp_ge hF 26 (dck_at tX7_reads 4 rfl) (by decide) (fun hc5 => ?_) (fun hc5 => ?_)
    · replace h := ite_t hc5 h
      refine g_msk [true, false, true] (L' := [some (.ref 70), none, none]) rfl ?_
      cases h
      exact K
    · replace h := ite_f hc5 h
      refine g_aload_n hF (dck_at tX7_reads 5 rfl) rfl ?_
      refine gf_X7_16 hF (hM 70 (by decide) (by decide)) kdc_70 lnc_70 (dck_at tX7_reads 6 rfl) ?_
      refine g_iload_n hF (dck_at tX7_reads 7 rfl) rfl ?_
      refine g_aload_n hF (dck_at tX7_reads 8 rfl) rfl ?_
      refine gf_X7_13 hF (hM 70 (by decide) (by decide)) kdc_70 lnc_70 (dck_at tX7_reads 9 rfl) ?_
      refine g_iload_n hF (dck_at tX7_reads 10 rfl) rfl ?_
      show G X F 18 _ _ _
      obtain ⟨hg18, h⟩ := gd h
      refine g_ia hF (hM 72 (by decide) (by decide)) kdc_72 lnc_72 hg18 (dck_at tX7_reads 11 rfl) ?_
      obtain ⟨hg19, h⟩ := gd h
      refine g_is hF (hM 73 (by decide) (by decide)) kdc_73 lnc_73 hg19 (dck_at tX7_reads 12 rfl) ?_
      refine g_iinc (v := 1) (L' := [some (.ref 70), some (.int (x1 + (1 : Int32))), none]) hF (dck_at tX7_reads 13 rfl) rfl (by decide) rfl ?_
      refine g_goto hF 2 (dck_at tX7_reads 14 rfl) (by decide) ?_
      exact ih _ _ _ h K
set_option maxHeartbeats 4000000 in
set_option maxRecDepth 100000 in
theorem g_X7_reads_L35 {X : Cx} {F : Fx} (hM : SM X) (hF : FK X F cX7_reads RX7 3 7) (N : Nat) : ∀ (n : Nat) (x1 : Int32) (x2 : Int32) (M : Mem) (o : ((Int32 × Int32 × Mem) ⊕ (Int32 × Mem))), f_X7_reads_L35 N n x1 x2 M = some o → (∀ a, o = .inl a → G X F 106 [none, some (.int a.1), none] [] a.2.2) → (∀ b, o = .inr b → FR X F (some .int) (some (.int b.1)) b.2) → G X F 35 [some (.ref 70), some (.int x1), some (.int x2)] [] M := by
  intro n
  induction n with
  | zero =>
    intro x1 x2 M o h K hRr
    cases h
  | succ n ih =>
    intro x1 x2 M o h K hRr
    rw [f_X7_reads_L35] at h
    refine g_iload_n hF (dck_at tX7_reads 22 rfl) rfl ?_
    refine g_if_eq hF 106 (dck_at tX7_reads 23 rfl) (by decide) (fun hc36 => ?_) (fun hc36 => ?_)
    · replace h := ite_t hc36 h
      refine g_msk [false, true, false] (L' := [none, some (.int x1), none]) rfl ?_
      cases h
      exact K _ rfl
    · replace h := ite_f hc36 h
      refine g_aload_n hF (dck_at tX7_reads 24 rfl) rfl ?_
      obtain ⟨q40, e40, h⟩ := bd h
      refine g_callV hF (as := []) (k := 70) rfl (by decide) wm_X7_84 wi_X7_token we_X7_token wc_X7_token wn_X7 hyX7_token (by decide) (hM 70 (by decide) (by decide)) kdc_70 (c_X7_token hF.2.2.2.2.2.2.2.1 hM e40) (by decide) rfl rfl rfl rfl (dck_at tX7_reads 25 rfl) ?_
      show G X F 43 _ [] q40
      refine g_aload_n hF (dck_at tX7_reads 26 rfl) rfl ?_
      obtain ⟨q44, e44, h⟩ := bd h
      refine g_callV hF (as := []) (k := 70) rfl (by decide) wm_X7_100 wi_X7_readsClause we_X7_readsClause wc_X7_readsClause wn_X7 hyX7_readsClause (by decide) (hM 70 (by decide) (by decide)) kdc_70 (c_X7_readsClause hF.2.2.2.2.2.2.2.1 hM e44) (by decide) rfl rfl rfl rfl (dck_at tX7_reads 27 rfl) ?_
      show G X F 47 _ [.int q44.1] q44.2
      refine g_if_ne hF 52 (dck_at tX7_reads 28 rfl) (by decide) (fun hc47 => ?_) (fun hc47 => ?_)
      · replace h := ite_f hc47 h
        refine g_iinc (v := 1) (L' := [some (.ref 70), some (.int (x1 + (1 : Int32))), some (.int x2)]) hF (dck_at tX7_reads 31 rfl) rfl (by decide) rfl ?_
        refine g_aload_n hF (dck_at tX7_reads 32 rfl) rfl ?_
        obtain ⟨q56, e56, h⟩ := bd h
        refine g_callV hF (as := []) (k := 70) rfl (by decide) wm_X7_84 wi_X7_token we_X7_token wc_X7_token wn_X7 hyX7_token (by decide) (hM 70 (by decide) (by decide)) kdc_70 (c_X7_token hF.2.2.2.2.2.2.2.1 hM e56) (by decide) rfl rfl rfl rfl (dck_at tX7_reads 33 rfl) ?_
        show G X F 59 _ [] q56
        refine g_aload_n hF (dck_at tX7_reads 34 rfl) rfl ?_
        refine gf_X7_78 hF (hM 70 (by decide) (by decide)) kdc_70 lnc_70 (dck_at tX7_reads 35 rfl) ?_
        have K71 : G X F 71 [some (.ref 70), some (.int (x1 + (1 : Int32))), none] [.int (if (q56 70 11) = 0 then (0 : Int32) else (1 : Int32))] q56 := by
          refine g_istore_n (L' := [some (.ref 70), some (.int (x1 + (1 : Int32))), some (.int (if (q56 70 11) = 0 then (0 : Int32) else (1 : Int32)))]) hF (dck_at tX7_reads 40 rfl) (Nat.le_of_ble_eq_true rfl) rfl ?_
          refine g_iload_n hF (dck_at tX7_reads 41 rfl) rfl ?_
          refine g_if_eq hF 35 (dck_at tX7_reads 42 rfl) (by decide) (fun hc73 => ?_) (fun hc73 => ?_)
          · replace h := ite_t hc73 h
            exact ih _ _ _ _ h K hRr
          · replace h := ite_f hc73 h
            refine g_aload_n hF (dck_at tX7_reads 43 rfl) rfl ?_
            refine gf_X7_78 hF (hM 70 (by decide) (by decide)) kdc_70 lnc_70 (dck_at tX7_reads 44 rfl) ?_
            refine g_iconst (v := 3) hF (dck_at tX7_reads 45 rfl) (by decide) ?_
            refine g_icmp_ne hF 104 (dck_at tX7_reads 46 rfl) (by decide) (fun hc81 => ?_) (fun hc81 => ?_)
            · replace h := ite_f hc81 h
              refine g_iconst (v := -1) hF (dck_at tX7_reads 57 rfl) (by decide) ?_
              cases h
              exact g_iret hF (hRr _ rfl) (dck_at tX7_reads 58 rfl)
            · replace h := ite_t hc81 h
              refine g_aload_n hF (dck_at tX7_reads 47 rfl) rfl ?_
              refine gf_X7_7 hF (hM 70 (by decide) (by decide)) kdc_70 lnc_70 (dck_at tX7_reads 48 rfl) ?_
              refine g_aload_n hF (dck_at tX7_reads 49 rfl) rfl ?_
              refine gf_X7_68 hF (hM 70 (by decide) (by decide)) kdc_70 lnc_70 (dck_at tX7_reads 50 rfl) ?_
              obtain ⟨hg92, h⟩ := gd h
              refine g_ia hF (hM 71 (by decide) (by decide)) kdc_71 lnc_71 hg92 (dck_at tX7_reads 51 rfl) ?_
              refine g_bipush (v := 59) hF (dck_at tX7_reads 52 rfl) (by decide) ?_
              show G X F 95 _ _ _
              refine g_icmp_ne hF 104 (dck_at tX7_reads 53 rfl) (by decide) (fun hc95 => ?_) (fun hc95 => ?_)
              · replace h := ite_f hc95 h
                refine g_iconst (v := -1) hF (dck_at tX7_reads 57 rfl) (by decide) ?_
                cases h
                exact g_iret hF (hRr _ rfl) (dck_at tX7_reads 58 rfl)
              · replace h := ite_t hc95 h
                refine g_iload_n hF (dck_at tX7_reads 54 rfl) rfl ?_
                refine g_bipush (v := 14) hF (dck_at tX7_reads 55 rfl) (by decide) ?_
                refine g_icmp_ne hF 35 (dck_at tX7_reads 56 rfl) (by decide) (fun hc101 => ?_) (fun hc101 => ?_)
                · replace h := ite_f hc101 h
                  exact ih _ _ _ _ h K hRr
                · replace h := ite_t hc101 h
                  refine g_iconst (v := -1) hF (dck_at tX7_reads 57 rfl) (by decide) ?_
                  cases h
                  exact g_iret hF (hRr _ rfl) (dck_at tX7_reads 58 rfl)
        refine g_if_eq hF 70 (dck_at tX7_reads 36 rfl) (by decide) (fun hc63 => ?_) (fun hc63 => ?_)
        · refine g_iconst (v := 0) hF (dck_at tX7_reads 39 rfl) (by decide) ?_
          refine g_msk [true, true, false] (L' := [some (.ref 70), some (.int (x1 + (1 : Int32))), none]) rfl ?_
          simp only [if_pos hc63] at K71
          exact K71
        · refine g_iconst (v := 1) hF (dck_at tX7_reads 37 rfl) (by decide) ?_
          refine g_goto hF 71 (dck_at tX7_reads 38 rfl) (by decide) ?_
          refine g_msk [true, true, false] (L' := [some (.ref 70), some (.int (x1 + (1 : Int32))), none]) rfl ?_
          simp only [if_neg hc63] at K71
          exact K71
      · replace h := ite_t hc47 h
        refine g_iconst (v := -1) hF (dck_at tX7_reads 29 rfl) (by decide) ?_
        cases h
        exact g_iret hF (hRr _ rfl) (dck_at tX7_reads 30 rfl)
set_option maxHeartbeats 4000000 in
set_option maxRecDepth 100000 in
theorem c_X7_reads {X : Cx} {l : Launch} (hX : CxOk X) (hM : SM X) {N : Nat} {M : Mem} {r : Int32} {M' : Mem} (h : f_X7_reads N M = some (r, M')) : Ctr X l yX7_reads cX7_reads 3 (some .int) 7 [.ref 70] M (some (.int r)) M' := by
  refine Ctr.ofG (L := [some (.ref 70), none, none]) hX (by decide) (Nat.le_of_ble_eq_true rfl) rfl (fun F hF hl hR => ?_)
  subst hl
  unfold f_X7_reads at h
  refine g_iconst (v := 0) hF (dck_at tX7_reads 0 rfl) (by decide) ?_
  refine g_istore_n (L' := [some (.ref 70), some (.int (0 : Int32)), none]) hF (dck_at tX7_reads 1 rfl) (Nat.le_of_ble_eq_true rfl) rfl ?_
  obtain ⟨o2, e2, h⟩ := bd h
  refine g_X7_reads_L2 hM hF N N _ _ _ e2 ?_
  refine g_aload_n hF (dck_at tX7_reads 15 rfl) rfl ?_
  refine g_iconst (v := 0) hF (dck_at tX7_reads 16 rfl) (by decide) ?_
  refine pf_X7_61 hF (hM 70 (by decide) (by decide)) kdc_70 lnc_70 (dck_at tX7_reads 17 rfl) ?_
  refine g_iconst (v := 0) hF (dck_at tX7_reads 18 rfl) (by decide) ?_
  refine g_istore_n (L' := [some (.ref 70), some (.int (0 : Int32)), none]) hF (dck_at tX7_reads 19 rfl) (Nat.le_of_ble_eq_true rfl) rfl ?_
  refine g_iconst (v := 1) hF (dck_at tX7_reads 20 rfl) (by decide) ?_
  show G X F 34 _ _ _
  refine g_istore_n (L' := [some (.ref 70), some (.int (0 : Int32)), some (.int (1 : Int32))]) hF (dck_at tX7_reads 21 rfl) (Nat.le_of_ble_eq_true rfl) rfl ?_
  obtain ⟨v35, e35, h⟩ := bS_s h
  refine g_X7_reads_L35 hM hF N N _ _ _ _ e35 (fun o35 ea => ?_) (fun b eb => ?_)
  · replace h := h.1 o35 ea
    refine g_iload_n hF (dck_at tX7_reads 59 rfl) rfl ?_
    cases h
    exact g_iret hF hR (dck_at tX7_reads 60 rfl)
  · have eb2 := h.2 b eb
    subst eb2
    exact hR

def tbX7_begins : List (Nat × Instr × Nat) := [(0, .iconst 0, 1), (1, .istore_n 1, 1), (2, .iload_n 1, 1), (3, .bipush 14, 2), (5, .if_icmp .ge 51, 3), (8, .aload_n 0, 1), (9, .getfield 19, 3), (12, .iload_n 1, 1), (13, .iload_n 1, 1), (14, .iconst 1, 1), (15, .if_icmp .ne 12, 3), (18, .aload_n 0, 1), (19, .getfield 13, 3), (22, .iconst 2, 1), (23, .iaload, 1), (24, .goto 25, 3), (27, .iload_n 1, 1), (28, .bipush 6, 2), (30, .if_icmp .ge 7, 3), (33, .iconst 0, 1), (34, .goto 15, 3), (37, .aload_n 0, 1), (38, .getfield 13, 3), (41, .bipush 13, 2), (43, .iload_n 1, 1), (44, .iadd, 1), (45, .bipush 6, 2), (47, .isub, 1), (48, .iaload, 1), (49, .iastore, 1), (50, .iinc 1 1, 3), (53, .goto (-51), 3), (56, .aload_n 0, 1), (57, .iconst 0, 1), (58, .putfield 104, 3), (61, .aload_n 0, 1), (62, .iconst 0, 1), (63, .putfield 107, 3), (66, .aload_n 0, 1), (67, .getfield 28, 3), (70, .iconst 0, 1), (71, .iconst 0, 1), (72, .bastore, 1), (73, .aload_n 0, 1), (74, .getfield 28, 3), (77, .iconst 1, 1), (78, .iconst 0, 1), (79, .bastore, 1), (80, .return_, 1)]
theorem tX7_begins : dck cX7_begins tbX7_begins = true := by decide +kernel
def f_X7_begins_L2 (N : Nat) : Nat → Int32 → Mem → Option (Int32 × Mem)
  | 0, _, _ => none
  | n + 1, x1, M => (if (14 : Int32) ≤ x1 then some (x1, M) else (if x1 = (1 : Int32) then if inb x1 14 = true then f_X7_begins_L2 N n (x1 + (1 : Int32)) (up2 M 74 x1.toNatClampNeg (M 72 2)) else none else (if (6 : Int32) ≤ x1 then if inb (((13 : Int32) + x1) - (6 : Int32)) 45 = true then if inb x1 14 = true then f_X7_begins_L2 N n (x1 + (1 : Int32)) (up2 M 74 x1.toNatClampNeg (M 72 (((13 : Int32) + x1) - (6 : Int32)).toNatClampNeg)) else none else none else if inb x1 14 = true then f_X7_begins_L2 N n (x1 + (1 : Int32)) (up2 M 74 x1.toNatClampNeg (0 : Int32)) else none)))
def f_X7_begins (N : Nat) (M : Mem) : Option Mem := (f_X7_begins_L2 N N (0 : Int32) M).bind fun o2 => some (up2 (up2 (up2 (up2 o2.2 70 6 (0 : Int32)) 70 10 (0 : Int32)) 77 0 (vp_nar .boolean (0 : Int32))) 77 1 (vp_nar .boolean (0 : Int32)))
set_option maxHeartbeats 4000000 in
set_option maxRecDepth 100000 in
theorem g_X7_begins_L2 {X : Cx} {F : Fx} (hM : SM X) (hF : FK X F cX7_begins RX7 2 1) (N : Nat) : ∀ (n : Nat) (x1 : Int32) (M : Mem) (o : Int32 × Mem), f_X7_begins_L2 N n x1 M = some o → G X F 56 [some (.ref 70), none] [] o.2 → G X F 2 [some (.ref 70), some (.int x1)] [] M := by
  intro n
  induction n with
  | zero =>
    intro x1 M o h K
    cases h
  | succ n ih =>
    intro x1 M o h K
    rw [f_X7_begins_L2] at h
    refine g_iload_n hF (dck_at tX7_begins 2 rfl) rfl ?_
    refine g_bipush (v := 14) hF (dck_at tX7_begins 3 rfl) (by decide) ?_
    refine g_icmp_ge hF 56 (dck_at tX7_begins 4 rfl) (by decide) (fun hc5 => ?_) (fun hc5 => ?_)
    · replace h := ite_t hc5 h
      refine g_msk [true, false] (L' := [some (.ref 70), none]) rfl ?_
      cases h
      exact K
    · replace h := ite_f hc5 h
      refine g_aload_n hF (dck_at tX7_begins 5 rfl) rfl ?_
      refine gf_X7_19 hF (hM 70 (by decide) (by decide)) kdc_70 lnc_70 (dck_at tX7_begins 6 rfl) ?_
      refine g_iload_n hF (dck_at tX7_begins 7 rfl) rfl ?_
      refine g_iload_n hF (dck_at tX7_begins 8 rfl) rfl ?_
      refine g_iconst (v := 1) hF (dck_at tX7_begins 9 rfl) (by decide) ?_
      refine g_icmp_ne hF 27 (dck_at tX7_begins 10 rfl) (by decide) (fun hc15 => ?_) (fun hc15 => ?_)
      · replace h := ite_f hc15 h
        refine g_iload_n hF (dck_at tX7_begins 16 rfl) rfl ?_
        refine g_bipush (v := 6) hF (dck_at tX7_begins 17 rfl) (by decide) ?_
        refine g_icmp_ge hF 37 (dck_at tX7_begins 18 rfl) (by decide) (fun hc30 => ?_) (fun hc30 => ?_)
        · replace h := ite_t hc30 h
          refine g_aload_n hF (dck_at tX7_begins 21 rfl) rfl ?_
          refine gf_X7_13 hF (hM 70 (by decide) (by decide)) kdc_70 lnc_70 (dck_at tX7_begins 22 rfl) ?_
          refine g_bipush (v := 13) hF (dck_at tX7_begins 23 rfl) (by decide) ?_
          refine g_iload_n hF (dck_at tX7_begins 24 rfl) rfl ?_
          refine g_iadd hF (dck_at tX7_begins 25 rfl) ?_
          refine g_bipush (v := 6) hF (dck_at tX7_begins 26 rfl) (by decide) ?_
          show G X F 47 _ _ _
          refine g_isub hF (dck_at tX7_begins 27 rfl) ?_
          obtain ⟨hg48, h⟩ := gd h
          refine g_ia hF (hM 72 (by decide) (by decide)) kdc_72 lnc_72 hg48 (dck_at tX7_begins 28 rfl) ?_
          obtain ⟨hg49, h⟩ := gd h
          refine g_is hF (hM 74 (by decide) (by decide)) kdc_74 lnc_74 hg49 (dck_at tX7_begins 29 rfl) ?_
          refine g_iinc (v := 1) (L' := [some (.ref 70), some (.int (x1 + (1 : Int32)))]) hF (dck_at tX7_begins 30 rfl) rfl (by decide) rfl ?_
          refine g_goto hF 2 (dck_at tX7_begins 31 rfl) (by decide) ?_
          exact ih _ _ _ h K
        · replace h := ite_f hc30 h
          refine g_iconst (v := 0) hF (dck_at tX7_begins 19 rfl) (by decide) ?_
          refine g_goto hF 49 (dck_at tX7_begins 20 rfl) (by decide) ?_
          obtain ⟨hg49, h⟩ := gd h
          refine g_is hF (hM 74 (by decide) (by decide)) kdc_74 lnc_74 hg49 (dck_at tX7_begins 29 rfl) ?_
          refine g_iinc (v := 1) (L' := [some (.ref 70), some (.int (x1 + (1 : Int32)))]) hF (dck_at tX7_begins 30 rfl) rfl (by decide) rfl ?_
          refine g_goto hF 2 (dck_at tX7_begins 31 rfl) (by decide) ?_
          exact ih _ _ _ h K
      · replace h := ite_t hc15 h
        refine g_aload_n hF (dck_at tX7_begins 11 rfl) rfl ?_
        refine gf_X7_13 hF (hM 70 (by decide) (by decide)) kdc_70 lnc_70 (dck_at tX7_begins 12 rfl) ?_
        refine g_iconst (v := 2) hF (dck_at tX7_begins 13 rfl) (by decide) ?_
        refine g_iac (j := 2) hF (hM 72 (by decide) (by decide)) kdc_72 lnc_72 (by decide) (by decide) (dck_at tX7_begins 14 rfl) ?_
        refine g_goto hF 49 (dck_at tX7_begins 15 rfl) (by decide) ?_
        obtain ⟨hg49, h⟩ := gd h
        refine g_is hF (hM 74 (by decide) (by decide)) kdc_74 lnc_74 hg49 (dck_at tX7_begins 29 rfl) ?_
        refine g_iinc (v := 1) (L' := [some (.ref 70), some (.int (x1 + (1 : Int32)))]) hF (dck_at tX7_begins 30 rfl) rfl (by decide) rfl ?_
        refine g_goto hF 2 (dck_at tX7_begins 31 rfl) (by decide) ?_
        exact ih _ _ _ h K
set_option maxHeartbeats 4000000 in
set_option maxRecDepth 100000 in
theorem c_X7_begins {X : Cx} {l : Launch} (hX : CxOk X) (hM : SM X) {N : Nat} {M : Mem} {M' : Mem} (h : f_X7_begins N M = some M') : Ctr X l yX7_begins cX7_begins 2 none 1 [.ref 70] M none M' := by
  refine Ctr.ofG (L := [some (.ref 70), none]) hX (by decide) (Nat.le_of_ble_eq_true rfl) rfl (fun F hF hl hR => ?_)
  subst hl
  unfold f_X7_begins at h
  refine g_iconst (v := 0) hF (dck_at tX7_begins 0 rfl) (by decide) ?_
  refine g_istore_n (L' := [some (.ref 70), some (.int (0 : Int32))]) hF (dck_at tX7_begins 1 rfl) (Nat.le_of_ble_eq_true rfl) rfl ?_
  obtain ⟨o2, e2, h⟩ := bd h
  refine g_X7_begins_L2 hM hF N N _ _ _ e2 ?_
  refine g_aload_n hF (dck_at tX7_begins 32 rfl) rfl ?_
  refine g_iconst (v := 0) hF (dck_at tX7_begins 33 rfl) (by decide) ?_
  refine pf_X7_104 hF (hM 70 (by decide) (by decide)) kdc_70 lnc_70 (dck_at tX7_begins 34 rfl) ?_
  refine g_aload_n hF (dck_at tX7_begins 35 rfl) rfl ?_
  refine g_iconst (v := 0) hF (dck_at tX7_begins 36 rfl) (by decide) ?_
  refine pf_X7_107 hF (hM 70 (by decide) (by decide)) kdc_70 lnc_70 (dck_at tX7_begins 37 rfl) ?_
  show G X F 66 _ _ _
  refine g_aload_n hF (dck_at tX7_begins 38 rfl) rfl ?_
  refine gf_X7_28 hF (hM 70 (by decide) (by decide)) kdc_70 lnc_70 (dck_at tX7_begins 39 rfl) ?_
  refine g_iconst (v := 0) hF (dck_at tX7_begins 40 rfl) (by decide) ?_
  refine g_iconst (v := 0) hF (dck_at tX7_begins 41 rfl) (by decide) ?_
  refine g_zsc (j := 0) hF (hM 77 (by decide) (by decide)) kdc_77 lnc_77 (by decide) (by decide) (dck_at tX7_begins 42 rfl) ?_
  refine g_aload_n hF (dck_at tX7_begins 43 rfl) rfl ?_
  refine gf_X7_28 hF (hM 70 (by decide) (by decide)) kdc_70 lnc_70 (dck_at tX7_begins 44 rfl) ?_
  show G X F 77 _ _ _
  refine g_iconst (v := 1) hF (dck_at tX7_begins 45 rfl) (by decide) ?_
  refine g_iconst (v := 0) hF (dck_at tX7_begins 46 rfl) (by decide) ?_
  refine g_zsc (j := 1) hF (hM 77 (by decide) (by decide)) kdc_77 lnc_77 (by decide) (by decide) (dck_at tX7_begins 47 rfl) ?_
  cases h
  exact g_vret hF hR (dck_at tX7_begins 48 rfl)

def tbX7_fault : List (Nat × Instr × Nat) := [(0, .aload_n 0, 1), (1, .invokevirtual 110, 3), (4, .iconst (-1), 1), (5, .if_icmp .ne 10, 3), (8, .aload_n 0, 1), (9, .getfield 68, 3), (12, .goto 4, 3), (15, .iconst (-1), 1), (16, .ireturn, 1)]
theorem tX7_fault : dck cX7_fault tbX7_fault = true := by decide +kernel
def f_X7_fault (N : Nat) (M : Mem) : Option (Int32 × Mem) := (f_X7_reads N M).bind fun q1 => (if q1.1 = (-1 : Int32) then some (q1.2 70 12, q1.2) else some ((-1 : Int32), q1.2))
set_option maxHeartbeats 4000000 in
set_option maxRecDepth 100000 in
theorem c_X7_fault {X : Cx} {l : Launch} (hX : CxOk X) (hM : SM X) {N : Nat} {M : Mem} {r : Int32} {M' : Mem} (h : f_X7_fault N M = some (r, M')) : Ctr X l yX7_fault cX7_fault 1 (some .int) 8 [.ref 70] M (some (.int r)) M' := by
  refine Ctr.ofG (L := [some (.ref 70)]) hX (by decide) (Nat.le_of_ble_eq_true rfl) rfl (fun F hF hl hR => ?_)
  subst hl
  unfold f_X7_fault at h
  refine g_aload_n hF (dck_at tX7_fault 0 rfl) rfl ?_
  obtain ⟨q1, e1, h⟩ := bd h
  refine g_callV hF (as := []) (k := 70) rfl (by decide) wm_X7_110 wi_X7_reads we_X7_reads wc_X7_reads wn_X7 hyX7_reads (by decide) (hM 70 (by decide) (by decide)) kdc_70 (c_X7_reads hF.2.2.2.2.2.2.2.1 hM e1) (by decide) rfl rfl rfl rfl (dck_at tX7_fault 1 rfl) ?_
  show G X F 4 _ [.int q1.1] q1.2
  refine g_iconst (v := -1) hF (dck_at tX7_fault 2 rfl) (by decide) ?_
  refine g_icmp_ne hF 15 (dck_at tX7_fault 3 rfl) (by decide) (fun hc5 => ?_) (fun hc5 => ?_)
  · replace h := ite_f hc5 h
    refine g_iconst (v := -1) hF (dck_at tX7_fault 7 rfl) (by decide) ?_
    cases h
    exact g_iret hF hR (dck_at tX7_fault 8 rfl)
  · replace h := ite_t hc5 h
    refine g_aload_n hF (dck_at tX7_fault 4 rfl) rfl ?_
    refine gf_X7_68 hF (hM 70 (by decide) (by decide)) kdc_70 lnc_70 (dck_at tX7_fault 5 rfl) ?_
    refine g_goto hF 16 (dck_at tX7_fault 6 rfl) (by decide) ?_
    cases h
    exact g_iret hF hR (dck_at tX7_fault 8 rfl)

def tbX7_hall : List (Nat × Instr × Nat) := [(0, .aload_n 0, 1), (1, .invokevirtual 110, 3), (4, .istore_n 1, 1), (5, .iload_n 1, 1), (6, .iconst (-1), 1), (7, .if_icmp .ne 6, 3), (10, .bipush (-4), 2), (12, .ireturn, 1), (13, .iconst 0, 1), (14, .istore_n 2, 1), (15, .iload_n 2, 1), (16, .bipush 45, 2), (18, .if_icmp .ge 21, 3), (21, .aload_n 0, 1), (22, .getfield 13, 3), (25, .iload_n 2, 1), (26, .aload_n 0, 1), (27, .getfield 16, 3), (30, .iload_n 2, 1), (31, .iaload, 1), (32, .iastore, 1), (33, .iinc 2 1, 3), (36, .goto (-21), 3), (39, .aload_n 0, 1), (40, .invokevirtual 50, 3), (43, .aload_n 0, 1), (44, .iconst 0, 1), (45, .putfield 57, 3), (48, .iload_n 1, 1), (49, .ireturn, 1)]
theorem tX7_hall : dck cX7_hall tbX7_hall = true := by decide +kernel
def f_X7_hall_L15 (N : Nat) (x1 : Int32) : Nat → Int32 → Mem → Option (Int32 × Mem)
  | 0, _, _ => none
  | n + 1, x2, M => (if (45 : Int32) ≤ x2 then some (x2, M) else if inb x2 45 = true then if inb x2 45 = true then f_X7_hall_L15 N x1 n (x2 + (1 : Int32)) (up2 M 72 x2.toNatClampNeg (M 73 x2.toNatClampNeg)) else none else none)
def f_X7_hall (N : Nat) (M : Mem) : Option (Int32 × Mem) := (f_X7_reads N M).bind fun q1 => (if q1.1 = (-1 : Int32) then some ((-4 : Int32), q1.2) else (f_X7_hall_L15 N q1.1 N (0 : Int32) q1.2).bind fun o15 => (f_X7_begins N o15.2).bind fun q40 => some (q1.1, (up2 q40 70 1 (0 : Int32))))
set_option maxHeartbeats 4000000 in
set_option maxRecDepth 100000 in
theorem g_X7_hall_L15 {X : Cx} {F : Fx} (hM : SM X) (hF : FK X F cX7_hall RX7 3 8) (N : Nat) (x1 : Int32) : ∀ (n : Nat) (x2 : Int32) (M : Mem) (o : Int32 × Mem), f_X7_hall_L15 N x1 n x2 M = some o → G X F 39 [some (.ref 70), some (.int x1), none] [] o.2 → G X F 15 [some (.ref 70), some (.int x1), some (.int x2)] [] M := by
  intro n
  induction n with
  | zero =>
    intro x2 M o h K
    cases h
  | succ n ih =>
    intro x2 M o h K
    rw [f_X7_hall_L15] at h
    refine g_iload_n hF (dck_at tX7_hall 10 rfl) rfl ?_
    refine g_bipush (v := 45) hF (dck_at tX7_hall 11 rfl) (by decide) ?_
    refine g_icmp_ge hF 39 (dck_at tX7_hall 12 rfl) (by decide) (fun hc18 => ?_) (fun hc18 => ?_)
    · replace h := ite_t hc18 h
      refine g_msk [true, true, false] (L' := [some (.ref 70), some (.int x1), none]) rfl ?_
      cases h
      exact K
    · replace h := ite_f hc18 h
      refine g_aload_n hF (dck_at tX7_hall 13 rfl) rfl ?_
      refine gf_X7_13 hF (hM 70 (by decide) (by decide)) kdc_70 lnc_70 (dck_at tX7_hall 14 rfl) ?_
      refine g_iload_n hF (dck_at tX7_hall 15 rfl) rfl ?_
      refine g_aload_n hF (dck_at tX7_hall 16 rfl) rfl ?_
      refine gf_X7_16 hF (hM 70 (by decide) (by decide)) kdc_70 lnc_70 (dck_at tX7_hall 17 rfl) ?_
      refine g_iload_n hF (dck_at tX7_hall 18 rfl) rfl ?_
      show G X F 31 _ _ _
      obtain ⟨hg31, h⟩ := gd h
      refine g_ia hF (hM 73 (by decide) (by decide)) kdc_73 lnc_73 hg31 (dck_at tX7_hall 19 rfl) ?_
      obtain ⟨hg32, h⟩ := gd h
      refine g_is hF (hM 72 (by decide) (by decide)) kdc_72 lnc_72 hg32 (dck_at tX7_hall 20 rfl) ?_
      refine g_iinc (v := 1) (L' := [some (.ref 70), some (.int x1), some (.int (x2 + (1 : Int32)))]) hF (dck_at tX7_hall 21 rfl) rfl (by decide) rfl ?_
      refine g_goto hF 15 (dck_at tX7_hall 22 rfl) (by decide) ?_
      exact ih _ _ _ h K
set_option maxHeartbeats 4000000 in
set_option maxRecDepth 100000 in
theorem c_X7_hall {X : Cx} {l : Launch} (hX : CxOk X) (hM : SM X) {N : Nat} {M : Mem} {r : Int32} {M' : Mem} (h : f_X7_hall N M = some (r, M')) : Ctr X l yX7_hall cX7_hall 3 (some .int) 8 [.ref 70] M (some (.int r)) M' := by
  refine Ctr.ofG (L := [some (.ref 70), none, none]) hX (by decide) (Nat.le_of_ble_eq_true rfl) rfl (fun F hF hl hR => ?_)
  subst hl
  unfold f_X7_hall at h
  refine g_aload_n hF (dck_at tX7_hall 0 rfl) rfl ?_
  obtain ⟨q1, e1, h⟩ := bd h
  refine g_callV hF (as := []) (k := 70) rfl (by decide) wm_X7_110 wi_X7_reads we_X7_reads wc_X7_reads wn_X7 hyX7_reads (by decide) (hM 70 (by decide) (by decide)) kdc_70 (c_X7_reads hF.2.2.2.2.2.2.2.1 hM e1) (by decide) rfl rfl rfl rfl (dck_at tX7_hall 1 rfl) ?_
  show G X F 4 _ [.int q1.1] q1.2
  refine g_istore_n (L' := [some (.ref 70), some (.int q1.1), none]) hF (dck_at tX7_hall 2 rfl) (Nat.le_of_ble_eq_true rfl) rfl ?_
  refine g_iload_n hF (dck_at tX7_hall 3 rfl) rfl ?_
  refine g_iconst (v := -1) hF (dck_at tX7_hall 4 rfl) (by decide) ?_
  refine g_icmp_ne hF 13 (dck_at tX7_hall 5 rfl) (by decide) (fun hc7 => ?_) (fun hc7 => ?_)
  · replace h := ite_f hc7 h
    refine g_iconst (v := 0) hF (dck_at tX7_hall 8 rfl) (by decide) ?_
    refine g_istore_n (L' := [some (.ref 70), some (.int q1.1), some (.int (0 : Int32))]) hF (dck_at tX7_hall 9 rfl) (Nat.le_of_ble_eq_true rfl) rfl ?_
    obtain ⟨o15, e15, h⟩ := bd h
    refine g_X7_hall_L15 hM hF N _ N _ _ _ e15 ?_
    refine g_aload_n hF (dck_at tX7_hall 23 rfl) rfl ?_
    obtain ⟨q40, e40, h⟩ := bd h
    refine g_callV hF (as := []) (k := 70) rfl (by decide) wm_X7_50 wi_X7_begins we_X7_begins wc_X7_begins wn_X7 hyX7_begins (by decide) (hM 70 (by decide) (by decide)) kdc_70 (c_X7_begins hF.2.2.2.2.2.2.2.1 hM e40) (by decide) rfl rfl rfl rfl (dck_at tX7_hall 24 rfl) ?_
    show G X F 43 _ [] q40
    refine g_aload_n hF (dck_at tX7_hall 25 rfl) rfl ?_
    refine g_iconst (v := 0) hF (dck_at tX7_hall 26 rfl) (by decide) ?_
    refine pf_X7_57 hF (hM 70 (by decide) (by decide)) kdc_70 lnc_70 (dck_at tX7_hall 27 rfl) ?_
    refine g_iload_n hF (dck_at tX7_hall 28 rfl) rfl ?_
    show G X F 49 _ _ _
    cases h
    exact g_iret hF hR (dck_at tX7_hall 29 rfl)
  · replace h := ite_t hc7 h
    refine g_bipush (v := -4) hF (dck_at tX7_hall 6 rfl) (by decide) ?_
    cases h
    exact g_iret hF hR (dck_at tX7_hall 7 rfl)

def tbX7_isThere : List (Nat × Instr × Nat) := [(0, .aload_n 0, 1), (1, .iload_n 1, 1), (2, .invokevirtual 114, 3), (5, .ifCond .eq 25, 3), (8, .aload_n 0, 1), (9, .getfield 13, 3), (12, .bipush 21, 2), (14, .iload_n 1, 1), (15, .iadd, 1), (16, .iaload, 1), (17, .aload_n 0, 1), (18, .getfield 19, 3), (21, .iconst 0, 1), (22, .iaload, 1), (23, .if_icmp .le 7, 3), (26, .iconst 1, 1), (27, .goto 4, 3), (30, .iconst 0, 1), (31, .ireturn, 1)]
theorem tX7_isThere : dck cX7_isThere tbX7_isThere = true := by decide +kernel
def f_X7_isThere (N : Nat) (M : Mem) (x1 : Int32) : Option Int32 := (f_X7_isClapper N M x1).bind fun q2 => (if q2 = 0 then some (0 : Int32) else if inb ((21 : Int32) + x1) 45 = true then (if (M 72 ((21 : Int32) + x1).toNatClampNeg) ≤ (M 74 0) then some (0 : Int32) else some (1 : Int32)) else none)
set_option maxHeartbeats 4000000 in
set_option maxRecDepth 100000 in
theorem c_X7_isThere {X : Cx} {l : Launch} (hX : CxOk X) (hM : SM X) {N : Nat} {M : Mem} {x1 : Int32} {r : Int32} (h : f_X7_isThere N M x1 = some r) : Ctr X l yX7_isThere cX7_isThere 2 (some .boolean) 3 [.ref 70, .int x1] M (some (.int r)) M := by
  refine Ctr.ofG (L := [some (.ref 70), some (.int x1)]) hX (by decide) (Nat.le_of_ble_eq_true rfl) rfl (fun F hF hl hR => ?_)
  subst hl
  unfold f_X7_isThere at h
  refine g_aload_n hF (dck_at tX7_isThere 0 rfl) rfl ?_
  refine g_iload_n hF (dck_at tX7_isThere 1 rfl) rfl ?_
  obtain ⟨q2, e2, h⟩ := bd h
  refine g_callV hF (as := [.int x1]) (k := 70) rfl (by decide) wm_X7_114 wi_X7_isClapper we_X7_isClapper wc_X7_isClapper wn_X7 hyX7_isClapper (by decide) (hM 70 (by decide) (by decide)) kdc_70 (c_X7_isClapper hF.2.2.2.2.2.2.2.1 hM e2) (by decide) rfl rfl rfl rfl (dck_at tX7_isThere 2 rfl) ?_
  show G X F 5 _ [.int q2] M
  refine g_if_eq hF 30 (dck_at tX7_isThere 3 rfl) (by decide) (fun hc5 => ?_) (fun hc5 => ?_)
  · replace h := ite_t hc5 h
    refine g_iconst (v := 0) hF (dck_at tX7_isThere 17 rfl) (by decide) ?_
    cases h
    exact g_zret hF hR rfl (dck_at tX7_isThere 18 rfl)
  · replace h := ite_f hc5 h
    refine g_aload_n hF (dck_at tX7_isThere 4 rfl) rfl ?_
    refine gf_X7_13 hF (hM 70 (by decide) (by decide)) kdc_70 lnc_70 (dck_at tX7_isThere 5 rfl) ?_
    refine g_bipush (v := 21) hF (dck_at tX7_isThere 6 rfl) (by decide) ?_
    refine g_iload_n hF (dck_at tX7_isThere 7 rfl) rfl ?_
    refine g_iadd hF (dck_at tX7_isThere 8 rfl) ?_
    obtain ⟨hg16, h⟩ := gd h
    refine g_ia hF (hM 72 (by decide) (by decide)) kdc_72 lnc_72 hg16 (dck_at tX7_isThere 9 rfl) ?_
    show G X F 17 _ _ _
    refine g_aload_n hF (dck_at tX7_isThere 10 rfl) rfl ?_
    refine gf_X7_19 hF (hM 70 (by decide) (by decide)) kdc_70 lnc_70 (dck_at tX7_isThere 11 rfl) ?_
    refine g_iconst (v := 0) hF (dck_at tX7_isThere 12 rfl) (by decide) ?_
    refine g_iac (j := 0) hF (hM 74 (by decide) (by decide)) kdc_74 lnc_74 (by decide) (by decide) (dck_at tX7_isThere 13 rfl) ?_
    refine g_icmp_le hF 30 (dck_at tX7_isThere 14 rfl) (by decide) (fun hc23 => ?_) (fun hc23 => ?_)
    · replace h := ite_t hc23 h
      refine g_iconst (v := 0) hF (dck_at tX7_isThere 17 rfl) (by decide) ?_
      cases h
      exact g_zret hF hR rfl (dck_at tX7_isThere 18 rfl)
    · replace h := ite_f hc23 h
      refine g_iconst (v := 1) hF (dck_at tX7_isThere 15 rfl) (by decide) ?_
      refine g_goto hF 31 (dck_at tX7_isThere 16 rfl) (by decide) ?_
      cases h
      exact g_zret hF hR rfl (dck_at tX7_isThere 18 rfl)

def tbX7_claps : List (Nat × Instr × Nat) := [(0, .aload_n 0, 1), (1, .iload_n 1, 1), (2, .invokevirtual 117, 3), (5, .ifCond .eq 19, 3), (8, .aload_n 0, 1), (9, .getfield 19, 3), (12, .bipush 6, 2), (14, .iload_n 1, 1), (15, .iadd, 1), (16, .iaload, 1), (17, .ifCond .le 7, 3), (20, .iconst 1, 1), (21, .goto 4, 3), (24, .iconst 0, 1), (25, .ireturn, 1)]
theorem tX7_claps : dck cX7_claps tbX7_claps = true := by decide +kernel
def f_X7_claps (N : Nat) (M : Mem) (x1 : Int32) : Option Int32 := (f_X7_isThere N M x1).bind fun q2 => (if q2 = 0 then some (0 : Int32) else if inb ((6 : Int32) + x1) 14 = true then (if (M 74 ((6 : Int32) + x1).toNatClampNeg) ≤ 0 then some (0 : Int32) else some (1 : Int32)) else none)
set_option maxHeartbeats 4000000 in
set_option maxRecDepth 100000 in
theorem c_X7_claps {X : Cx} {l : Launch} (hX : CxOk X) (hM : SM X) {N : Nat} {M : Mem} {x1 : Int32} {r : Int32} (h : f_X7_claps N M x1 = some r) : Ctr X l yX7_claps cX7_claps 2 (some .boolean) 4 [.ref 70, .int x1] M (some (.int r)) M := by
  refine Ctr.ofG (L := [some (.ref 70), some (.int x1)]) hX (by decide) (Nat.le_of_ble_eq_true rfl) rfl (fun F hF hl hR => ?_)
  subst hl
  unfold f_X7_claps at h
  refine g_aload_n hF (dck_at tX7_claps 0 rfl) rfl ?_
  refine g_iload_n hF (dck_at tX7_claps 1 rfl) rfl ?_
  obtain ⟨q2, e2, h⟩ := bd h
  refine g_callV hF (as := [.int x1]) (k := 70) rfl (by decide) wm_X7_117 wi_X7_isThere we_X7_isThere wc_X7_isThere wn_X7 hyX7_isThere (by decide) (hM 70 (by decide) (by decide)) kdc_70 (c_X7_isThere hF.2.2.2.2.2.2.2.1 hM e2) (by decide) rfl rfl rfl rfl (dck_at tX7_claps 2 rfl) ?_
  show G X F 5 _ [.int q2] M
  refine g_if_eq hF 24 (dck_at tX7_claps 3 rfl) (by decide) (fun hc5 => ?_) (fun hc5 => ?_)
  · replace h := ite_t hc5 h
    refine g_iconst (v := 0) hF (dck_at tX7_claps 13 rfl) (by decide) ?_
    cases h
    exact g_zret hF hR rfl (dck_at tX7_claps 14 rfl)
  · replace h := ite_f hc5 h
    refine g_aload_n hF (dck_at tX7_claps 4 rfl) rfl ?_
    refine gf_X7_19 hF (hM 70 (by decide) (by decide)) kdc_70 lnc_70 (dck_at tX7_claps 5 rfl) ?_
    refine g_bipush (v := 6) hF (dck_at tX7_claps 6 rfl) (by decide) ?_
    refine g_iload_n hF (dck_at tX7_claps 7 rfl) rfl ?_
    refine g_iadd hF (dck_at tX7_claps 8 rfl) ?_
    obtain ⟨hg16, h⟩ := gd h
    refine g_ia hF (hM 74 (by decide) (by decide)) kdc_74 lnc_74 hg16 (dck_at tX7_claps 9 rfl) ?_
    show G X F 17 _ _ _
    refine g_if_le hF 24 (dck_at tX7_claps 10 rfl) (by decide) (fun hc17 => ?_) (fun hc17 => ?_)
    · replace h := ite_t hc17 h
      refine g_iconst (v := 0) hF (dck_at tX7_claps 13 rfl) (by decide) ?_
      cases h
      exact g_zret hF hR rfl (dck_at tX7_claps 14 rfl)
    · replace h := ite_f hc17 h
      refine g_iconst (v := 1) hF (dck_at tX7_claps 11 rfl) (by decide) ?_
      refine g_goto hF 25 (dck_at tX7_claps 12 rfl) (by decide) ?_
      cases h
      exact g_zret hF hR rfl (dck_at tX7_claps 14 rfl)

def tbX7_noise : List (Nat × Instr × Nat) := [(0, .iconst 0, 1), (1, .istore_n 1, 1), (2, .iconst 0, 1), (3, .istore_n 2, 1), (4, .iload_n 2, 1), (5, .aload_n 0, 1), (6, .getfield 13, 3), (9, .iconst 0, 1), (10, .iaload, 1), (11, .if_icmp .ge 33, 3), (14, .iload_n 1, 1), (15, .aload_n 0, 1), (16, .iload_n 2, 1), (17, .invokevirtual 120, 3), (20, .ifCond .eq 15, 3), (23, .aload_n 0, 1), (24, .getfield 19, 3), (27, .bipush 6, 2), (29, .iload_n 2, 1), (30, .iadd, 1), (31, .iaload, 1), (32, .goto 4, 3), (35, .iconst 0, 1), (36, .iadd, 1), (37, .istore_n 1, 1), (38, .iinc 2 1, 3), (41, .goto (-37), 3), (44, .iload_n 1, 1), (45, .ireturn, 1)]
theorem tX7_noise : dck cX7_noise tbX7_noise = true := by decide +kernel
def f_X7_noise_L4 (N : Nat) (M : Mem) : Nat → Int32 → Int32 → Option (Int32 × Int32)
  | 0, _, _ => none
  | n + 1, x1, x2 => (if (M 72 0) ≤ x2 then some (x1, x2) else (f_X7_claps N M x2).bind fun q17 => (if q17 = 0 then f_X7_noise_L4 N M n (x1 + (0 : Int32)) (x2 + (1 : Int32)) else if inb ((6 : Int32) + x2) 14 = true then f_X7_noise_L4 N M n (x1 + (M 74 ((6 : Int32) + x2).toNatClampNeg)) (x2 + (1 : Int32)) else none))
def f_X7_noise (N : Nat) (M : Mem) : Option Int32 := (f_X7_noise_L4 N M N (0 : Int32) (0 : Int32)).bind fun o4 => some o4.1
set_option maxHeartbeats 4000000 in
set_option maxRecDepth 100000 in
theorem g_X7_noise_L4 {X : Cx} {F : Fx} (hM : SM X) (hF : FK X F cX7_noise RX7 3 5) (N : Nat) (M : Mem) : ∀ (n : Nat) (x1 : Int32) (x2 : Int32) (o : Int32 × Int32), f_X7_noise_L4 N M n x1 x2 = some o → G X F 44 [none, some (.int o.1), none] [] M → G X F 4 [some (.ref 70), some (.int x1), some (.int x2)] [] M := by
  intro n
  induction n with
  | zero =>
    intro x1 x2 o h K
    cases h
  | succ n ih =>
    intro x1 x2 o h K
    rw [f_X7_noise_L4] at h
    refine g_iload_n hF (dck_at tX7_noise 4 rfl) rfl ?_
    refine g_aload_n hF (dck_at tX7_noise 5 rfl) rfl ?_
    refine gf_X7_13 hF (hM 70 (by decide) (by decide)) kdc_70 lnc_70 (dck_at tX7_noise 6 rfl) ?_
    refine g_iconst (v := 0) hF (dck_at tX7_noise 7 rfl) (by decide) ?_
    refine g_iac (j := 0) hF (hM 72 (by decide) (by decide)) kdc_72 lnc_72 (by decide) (by decide) (dck_at tX7_noise 8 rfl) ?_
    refine g_icmp_ge hF 44 (dck_at tX7_noise 9 rfl) (by decide) (fun hc11 => ?_) (fun hc11 => ?_)
    · replace h := ite_t hc11 h
      refine g_msk [false, true, false] (L' := [none, some (.int x1), none]) rfl ?_
      cases h
      exact K
    · replace h := ite_f hc11 h
      refine g_iload_n hF (dck_at tX7_noise 10 rfl) rfl ?_
      refine g_aload_n hF (dck_at tX7_noise 11 rfl) rfl ?_
      refine g_iload_n hF (dck_at tX7_noise 12 rfl) rfl ?_
      obtain ⟨q17, e17, h⟩ := bd h
      refine g_callV hF (as := [.int x2]) (k := 70) rfl (by decide) wm_X7_120 wi_X7_claps we_X7_claps wc_X7_claps wn_X7 hyX7_claps (by decide) (hM 70 (by decide) (by decide)) kdc_70 (c_X7_claps hF.2.2.2.2.2.2.2.1 hM e17) (by decide) rfl rfl rfl rfl (dck_at tX7_noise 13 rfl) ?_
      show G X F 20 _ [.int q17, .int x1] M
      refine g_if_eq hF 35 (dck_at tX7_noise 14 rfl) (by decide) (fun hc20 => ?_) (fun hc20 => ?_)
      · replace h := ite_t hc20 h
        refine g_iconst (v := 0) hF (dck_at tX7_noise 22 rfl) (by decide) ?_
        refine g_iadd hF (dck_at tX7_noise 23 rfl) ?_
        refine g_istore_n (L' := [some (.ref 70), some (.int (x1 + (0 : Int32))), some (.int x2)]) hF (dck_at tX7_noise 24 rfl) (Nat.le_of_ble_eq_true rfl) rfl ?_
        refine g_iinc (v := 1) (L' := [some (.ref 70), some (.int (x1 + (0 : Int32))), some (.int (x2 + (1 : Int32)))]) hF (dck_at tX7_noise 25 rfl) rfl (by decide) rfl ?_
        refine g_goto hF 4 (dck_at tX7_noise 26 rfl) (by decide) ?_
        exact ih _ _ _ h K
      · replace h := ite_f hc20 h
        refine g_aload_n hF (dck_at tX7_noise 15 rfl) rfl ?_
        refine gf_X7_19 hF (hM 70 (by decide) (by decide)) kdc_70 lnc_70 (dck_at tX7_noise 16 rfl) ?_
        refine g_bipush (v := 6) hF (dck_at tX7_noise 17 rfl) (by decide) ?_
        refine g_iload_n hF (dck_at tX7_noise 18 rfl) rfl ?_
        refine g_iadd hF (dck_at tX7_noise 19 rfl) ?_
        obtain ⟨hg31, h⟩ := gd h
        refine g_ia hF (hM 74 (by decide) (by decide)) kdc_74 lnc_74 hg31 (dck_at tX7_noise 20 rfl) ?_
        show G X F 32 _ _ _
        refine g_goto hF 36 (dck_at tX7_noise 21 rfl) (by decide) ?_
        refine g_iadd hF (dck_at tX7_noise 23 rfl) ?_
        refine g_istore_n (L' := [some (.ref 70), some (.int (x1 + (M 74 ((6 : Int32) + x2).toNatClampNeg))), some (.int x2)]) hF (dck_at tX7_noise 24 rfl) (Nat.le_of_ble_eq_true rfl) rfl ?_
        refine g_iinc (v := 1) (L' := [some (.ref 70), some (.int (x1 + (M 74 ((6 : Int32) + x2).toNatClampNeg))), some (.int (x2 + (1 : Int32)))]) hF (dck_at tX7_noise 25 rfl) rfl (by decide) rfl ?_
        refine g_goto hF 4 (dck_at tX7_noise 26 rfl) (by decide) ?_
        exact ih _ _ _ h K
set_option maxHeartbeats 4000000 in
set_option maxRecDepth 100000 in
theorem c_X7_noise {X : Cx} {l : Launch} (hX : CxOk X) (hM : SM X) {N : Nat} {M : Mem} {r : Int32} (h : f_X7_noise N M = some r) : Ctr X l yX7_noise cX7_noise 3 (some .int) 5 [.ref 70] M (some (.int r)) M := by
  refine Ctr.ofG (L := [some (.ref 70), none, none]) hX (by decide) (Nat.le_of_ble_eq_true rfl) rfl (fun F hF hl hR => ?_)
  subst hl
  unfold f_X7_noise at h
  refine g_iconst (v := 0) hF (dck_at tX7_noise 0 rfl) (by decide) ?_
  refine g_istore_n (L' := [some (.ref 70), some (.int (0 : Int32)), none]) hF (dck_at tX7_noise 1 rfl) (Nat.le_of_ble_eq_true rfl) rfl ?_
  refine g_iconst (v := 0) hF (dck_at tX7_noise 2 rfl) (by decide) ?_
  refine g_istore_n (L' := [some (.ref 70), some (.int (0 : Int32)), some (.int (0 : Int32))]) hF (dck_at tX7_noise 3 rfl) (Nat.le_of_ble_eq_true rfl) rfl ?_
  obtain ⟨o4, e4, h⟩ := bd h
  refine g_X7_noise_L4 hM hF N _ N _ _ _ e4 ?_
  refine g_iload_n hF (dck_at tX7_noise 27 rfl) rfl ?_
  cases h
  exact g_iret hF hR (dck_at tX7_noise 28 rfl)

def tbX7_thereNow : List (Nat × Instr × Nat) := [(0, .iconst 0, 1), (1, .istore_n 1, 1), (2, .iconst 0, 1), (3, .istore_n 2, 1), (4, .iload_n 2, 1), (5, .aload_n 0, 1), (6, .getfield 13, 3), (9, .iconst 0, 1), (10, .iaload, 1), (11, .if_icmp .ge 27, 3), (14, .iload_n 1, 1), (15, .aload_n 0, 1), (16, .iload_n 2, 1), (17, .invokevirtual 117, 3), (20, .ifCond .eq 9, 3), (23, .iconst 1, 1), (24, .iload_n 2, 1), (25, .ishl, 1), (26, .goto 4, 3), (29, .iconst 0, 1), (30, .ior, 1), (31, .istore_n 1, 1), (32, .iinc 2 1, 3), (35, .goto (-31), 3), (38, .iload_n 1, 1), (39, .ireturn, 1)]
theorem tX7_thereNow : dck cX7_thereNow tbX7_thereNow = true := by decide +kernel
def f_X7_thereNow_L4 (N : Nat) (M : Mem) : Nat → Int32 → Int32 → Option (Int32 × Int32)
  | 0, _, _ => none
  | n + 1, x1, x2 => (if (M 72 0) ≤ x2 then some (x1, x2) else (f_X7_isThere N M x2).bind fun q17 => (if q17 = 0 then f_X7_thereNow_L4 N M n (x1 ||| (0 : Int32)) (x2 + (1 : Int32)) else f_X7_thereNow_L4 N M n (x1 ||| ((1 : Int32) <<< (x2 &&& 31))) (x2 + (1 : Int32))))
def f_X7_thereNow (N : Nat) (M : Mem) : Option Int32 := (f_X7_thereNow_L4 N M N (0 : Int32) (0 : Int32)).bind fun o4 => some o4.1
set_option maxHeartbeats 4000000 in
set_option maxRecDepth 100000 in
theorem g_X7_thereNow_L4 {X : Cx} {F : Fx} (hM : SM X) (hF : FK X F cX7_thereNow RX7 3 4) (N : Nat) (M : Mem) : ∀ (n : Nat) (x1 : Int32) (x2 : Int32) (o : Int32 × Int32), f_X7_thereNow_L4 N M n x1 x2 = some o → G X F 38 [none, some (.int o.1), none] [] M → G X F 4 [some (.ref 70), some (.int x1), some (.int x2)] [] M := by
  intro n
  induction n with
  | zero =>
    intro x1 x2 o h K
    cases h
  | succ n ih =>
    intro x1 x2 o h K
    rw [f_X7_thereNow_L4] at h
    refine g_iload_n hF (dck_at tX7_thereNow 4 rfl) rfl ?_
    refine g_aload_n hF (dck_at tX7_thereNow 5 rfl) rfl ?_
    refine gf_X7_13 hF (hM 70 (by decide) (by decide)) kdc_70 lnc_70 (dck_at tX7_thereNow 6 rfl) ?_
    refine g_iconst (v := 0) hF (dck_at tX7_thereNow 7 rfl) (by decide) ?_
    refine g_iac (j := 0) hF (hM 72 (by decide) (by decide)) kdc_72 lnc_72 (by decide) (by decide) (dck_at tX7_thereNow 8 rfl) ?_
    refine g_icmp_ge hF 38 (dck_at tX7_thereNow 9 rfl) (by decide) (fun hc11 => ?_) (fun hc11 => ?_)
    · replace h := ite_t hc11 h
      refine g_msk [false, true, false] (L' := [none, some (.int x1), none]) rfl ?_
      cases h
      exact K
    · replace h := ite_f hc11 h
      refine g_iload_n hF (dck_at tX7_thereNow 10 rfl) rfl ?_
      refine g_aload_n hF (dck_at tX7_thereNow 11 rfl) rfl ?_
      refine g_iload_n hF (dck_at tX7_thereNow 12 rfl) rfl ?_
      obtain ⟨q17, e17, h⟩ := bd h
      refine g_callV hF (as := [.int x2]) (k := 70) rfl (by decide) wm_X7_117 wi_X7_isThere we_X7_isThere wc_X7_isThere wn_X7 hyX7_isThere (by decide) (hM 70 (by decide) (by decide)) kdc_70 (c_X7_isThere hF.2.2.2.2.2.2.2.1 hM e17) (by decide) rfl rfl rfl rfl (dck_at tX7_thereNow 13 rfl) ?_
      show G X F 20 _ [.int q17, .int x1] M
      refine g_if_eq hF 29 (dck_at tX7_thereNow 14 rfl) (by decide) (fun hc20 => ?_) (fun hc20 => ?_)
      · replace h := ite_t hc20 h
        refine g_iconst (v := 0) hF (dck_at tX7_thereNow 19 rfl) (by decide) ?_
        refine g_ior hF (dck_at tX7_thereNow 20 rfl) ?_
        refine g_istore_n (L' := [some (.ref 70), some (.int (x1 ||| (0 : Int32))), some (.int x2)]) hF (dck_at tX7_thereNow 21 rfl) (Nat.le_of_ble_eq_true rfl) rfl ?_
        refine g_iinc (v := 1) (L' := [some (.ref 70), some (.int (x1 ||| (0 : Int32))), some (.int (x2 + (1 : Int32)))]) hF (dck_at tX7_thereNow 22 rfl) rfl (by decide) rfl ?_
        refine g_goto hF 4 (dck_at tX7_thereNow 23 rfl) (by decide) ?_
        exact ih _ _ _ h K
      · replace h := ite_f hc20 h
        refine g_iconst (v := 1) hF (dck_at tX7_thereNow 15 rfl) (by decide) ?_
        refine g_iload_n hF (dck_at tX7_thereNow 16 rfl) rfl ?_
        refine g_ishl hF (dck_at tX7_thereNow 17 rfl) ?_
        refine g_goto hF 30 (dck_at tX7_thereNow 18 rfl) (by decide) ?_
        refine g_ior hF (dck_at tX7_thereNow 20 rfl) ?_
        refine g_istore_n (L' := [some (.ref 70), some (.int (x1 ||| ((1 : Int32) <<< (x2 &&& 31)))), some (.int x2)]) hF (dck_at tX7_thereNow 21 rfl) (Nat.le_of_ble_eq_true rfl) rfl ?_
        refine g_iinc (v := 1) (L' := [some (.ref 70), some (.int (x1 ||| ((1 : Int32) <<< (x2 &&& 31)))), some (.int (x2 + (1 : Int32)))]) hF (dck_at tX7_thereNow 22 rfl) rfl (by decide) rfl ?_
        refine g_goto hF 4 (dck_at tX7_thereNow 23 rfl) (by decide) ?_
        exact ih _ _ _ h K
set_option maxHeartbeats 4000000 in
set_option maxRecDepth 100000 in
theorem c_X7_thereNow {X : Cx} {l : Launch} (hX : CxOk X) (hM : SM X) {N : Nat} {M : Mem} {r : Int32} (h : f_X7_thereNow N M = some r) : Ctr X l yX7_thereNow cX7_thereNow 3 (some .int) 4 [.ref 70] M (some (.int r)) M := by
  refine Ctr.ofG (L := [some (.ref 70), none, none]) hX (by decide) (Nat.le_of_ble_eq_true rfl) rfl (fun F hF hl hR => ?_)
  subst hl
  unfold f_X7_thereNow at h
  refine g_iconst (v := 0) hF (dck_at tX7_thereNow 0 rfl) (by decide) ?_
  refine g_istore_n (L' := [some (.ref 70), some (.int (0 : Int32)), none]) hF (dck_at tX7_thereNow 1 rfl) (Nat.le_of_ble_eq_true rfl) rfl ?_
  refine g_iconst (v := 0) hF (dck_at tX7_thereNow 2 rfl) (by decide) ?_
  refine g_istore_n (L' := [some (.ref 70), some (.int (0 : Int32)), some (.int (0 : Int32))]) hF (dck_at tX7_thereNow 3 rfl) (Nat.le_of_ble_eq_true rfl) rfl ?_
  obtain ⟨o4, e4, h⟩ := bd h
  refine g_X7_thereNow_L4 hM hF N _ N _ _ _ e4 ?_
  refine g_iload_n hF (dck_at tX7_thereNow 24 rfl) rfl ?_
  cases h
  exact g_iret hF hR (dck_at tX7_thereNow 25 rfl)

def tbX7_ones : List (Nat × Instr × Nat) := [(0, .iconst 0, 1), (1, .istore_n 1, 1), (2, .iconst 0, 1), (3, .istore_n 2, 1), (4, .iload_n 2, 1), (5, .bipush 8, 2), (7, .if_icmp .ge 17, 3), (10, .iload_n 1, 1), (11, .iload_n 0, 1), (12, .iload_n 2, 1), (13, .ishr, 1), (14, .iconst 1, 1), (15, .iand, 1), (16, .iadd, 1), (17, .istore_n 1, 1), (18, .iinc 2 1, 3), (21, .goto (-17), 3), (24, .iload_n 1, 1), (25, .ireturn, 1)]
theorem tX7_ones : dck cX7_ones tbX7_ones = true := by decide +kernel
def f_X7_ones_L4 (N : Nat) (M : Mem) (x0 : Int32) : Nat → Int32 → Int32 → Option (Int32 × Int32)
  | 0, _, _ => none
  | n + 1, x1, x2 => (if (8 : Int32) ≤ x2 then some (x1, x2) else f_X7_ones_L4 N M x0 n (x1 + ((x0 >>> (x2 &&& 31)) &&& (1 : Int32))) (x2 + (1 : Int32)))
def f_X7_ones (N : Nat) (M : Mem) (x0 : Int32) : Option Int32 := (f_X7_ones_L4 N M x0 N (0 : Int32) (0 : Int32)).bind fun o4 => some o4.1
set_option maxHeartbeats 4000000 in
set_option maxRecDepth 100000 in
theorem g_X7_ones_L4 {X : Cx} {F : Fx} (hF : FK X F cX7_ones RX7 3 1) (N : Nat) (M : Mem) (x0 : Int32) : ∀ (n : Nat) (x1 : Int32) (x2 : Int32) (o : Int32 × Int32), f_X7_ones_L4 N M x0 n x1 x2 = some o → G X F 24 [none, some (.int o.1), none] [] M → G X F 4 [some (.int x0), some (.int x1), some (.int x2)] [] M := by
  intro n
  induction n with
  | zero =>
    intro x1 x2 o h K
    cases h
  | succ n ih =>
    intro x1 x2 o h K
    rw [f_X7_ones_L4] at h
    refine g_iload_n hF (dck_at tX7_ones 4 rfl) rfl ?_
    refine g_bipush (v := 8) hF (dck_at tX7_ones 5 rfl) (by decide) ?_
    refine g_icmp_ge hF 24 (dck_at tX7_ones 6 rfl) (by decide) (fun hc7 => ?_) (fun hc7 => ?_)
    · replace h := ite_t hc7 h
      refine g_msk [false, true, false] (L' := [none, some (.int x1), none]) rfl ?_
      cases h
      exact K
    · replace h := ite_f hc7 h
      refine g_iload_n hF (dck_at tX7_ones 7 rfl) rfl ?_
      refine g_iload_n hF (dck_at tX7_ones 8 rfl) rfl ?_
      refine g_iload_n hF (dck_at tX7_ones 9 rfl) rfl ?_
      refine g_ishr hF (dck_at tX7_ones 10 rfl) ?_
      refine g_iconst (v := 1) hF (dck_at tX7_ones 11 rfl) (by decide) ?_
      refine g_iand hF (dck_at tX7_ones 12 rfl) ?_
      show G X F 16 _ _ _
      refine g_iadd hF (dck_at tX7_ones 13 rfl) ?_
      refine g_istore_n (L' := [some (.int x0), some (.int (x1 + ((x0 >>> (x2 &&& 31)) &&& (1 : Int32)))), some (.int x2)]) hF (dck_at tX7_ones 14 rfl) (Nat.le_of_ble_eq_true rfl) rfl ?_
      refine g_iinc (v := 1) (L' := [some (.int x0), some (.int (x1 + ((x0 >>> (x2 &&& 31)) &&& (1 : Int32)))), some (.int (x2 + (1 : Int32)))]) hF (dck_at tX7_ones 15 rfl) rfl (by decide) rfl ?_
      refine g_goto hF 4 (dck_at tX7_ones 16 rfl) (by decide) ?_
      exact ih _ _ _ h K
set_option maxHeartbeats 4000000 in
set_option maxRecDepth 100000 in
theorem c_X7_ones {X : Cx} {l : Launch} (hX : CxOk X) {N : Nat} {M : Mem} {x0 : Int32} {r : Int32} (h : f_X7_ones N M x0 = some r) : Ctr X l yX7_ones cX7_ones 3 (some .int) 1 [.int x0] M (some (.int r)) M := by
  refine Ctr.ofG (L := [some (.int x0), none, none]) hX (by decide) (Nat.le_of_ble_eq_true rfl) rfl (fun F hF hl hR => ?_)
  subst hl
  unfold f_X7_ones at h
  refine g_iconst (v := 0) hF (dck_at tX7_ones 0 rfl) (by decide) ?_
  refine g_istore_n (L' := [some (.int x0), some (.int (0 : Int32)), none]) hF (dck_at tX7_ones 1 rfl) (Nat.le_of_ble_eq_true rfl) rfl ?_
  refine g_iconst (v := 0) hF (dck_at tX7_ones 2 rfl) (by decide) ?_
  refine g_istore_n (L' := [some (.int x0), some (.int (0 : Int32)), some (.int (0 : Int32))]) hF (dck_at tX7_ones 3 rfl) (Nat.le_of_ble_eq_true rfl) rfl ?_
  obtain ⟨o4, e4, h⟩ := bd h
  refine g_X7_ones_L4 hF N _ _ N _ _ _ e4 ?_
  refine g_iload_n hF (dck_at tX7_ones 17 rfl) rfl ?_
  cases h
  exact g_iret hF hR (dck_at tX7_ones 18 rfl)

def tbX7_clapper : List (Nat × Instr × Nat) := [(0, .aload_n 0, 1), (1, .iload_n 1, 1), (2, .invokevirtual 114, 3), (5, .ifCond .ne 6, 3), (8, .bipush (-2), 2), (10, .ireturn, 1), (11, .iload_n 2, 1), (12, .tableswitch 107 0 5 #[40, 49, 59, 69, 83, 97], 40), (52, .aload_n 0, 1), (53, .getfield 13, 3), (56, .iconst 5, 1), (57, .iload_n 1, 1), (58, .iadd, 1), (59, .iaload, 1), (60, .ireturn, 1), (61, .aload_n 0, 1), (62, .getfield 19, 3), (65, .bipush 6, 2), (67, .iload_n 1, 1), (68, .iadd, 1), (69, .iaload, 1), (70, .ireturn, 1), (71, .aload_n 0, 1), (72, .getfield 13, 3), (75, .bipush 21, 2), (77, .iload_n 1, 1), (78, .iadd, 1), (79, .iaload, 1), (80, .ireturn, 1), (81, .aload_n 0, 1), (82, .iload_n 1, 1), (83, .invokevirtual 117, 3), (86, .ifCond .eq 7, 3), (89, .iconst 1, 1), (90, .goto 4, 3), (93, .iconst 0, 1), (94, .ireturn, 1), (95, .aload_n 0, 1), (96, .iload_n 1, 1), (97, .invokevirtual 120, 3), (100, .ifCond .eq 7, 3), (103, .iconst 1, 1), (104, .goto 4, 3), (107, .iconst 0, 1), (108, .ireturn, 1), (109, .aload_n 0, 1), (110, .getfield 13, 3), (113, .bipush 13, 2), (115, .iload_n 1, 1), (116, .iadd, 1), (117, .iaload, 1), (118, .ireturn, 1), (119, .bipush (-3), 2), (121, .ireturn, 1)]
theorem tX7_clapper : dck cX7_clapper tbX7_clapper = true := by decide +kernel
def f_X7_clapper (N : Nat) (M : Mem) (x1 : Int32) (x2 : Int32) : Option Int32 := (f_X7_isClapper N M x1).bind fun q2 => (if q2 = 0 then some (-2 : Int32) else (if x2 = 0 then if inb ((5 : Int32) + x1) 45 = true then some (M 72 ((5 : Int32) + x1).toNatClampNeg) else none else (if x2 = 1 then if inb ((6 : Int32) + x1) 14 = true then some (M 74 ((6 : Int32) + x1).toNatClampNeg) else none else (if x2 = 2 then if inb ((21 : Int32) + x1) 45 = true then some (M 72 ((21 : Int32) + x1).toNatClampNeg) else none else (if x2 = 3 then (f_X7_isThere N M x1).bind fun q83 => (if q83 = 0 then some (0 : Int32) else some (1 : Int32)) else (if x2 = 4 then (f_X7_claps N M x1).bind fun q97 => (if q97 = 0 then some (0 : Int32) else some (1 : Int32)) else (if x2 = 5 then if inb ((13 : Int32) + x1) 45 = true then some (M 72 ((13 : Int32) + x1).toNatClampNeg) else none else some (-3 : Int32))))))))
set_option maxHeartbeats 4000000 in
set_option maxRecDepth 100000 in
theorem c_X7_clapper {X : Cx} {l : Launch} (hX : CxOk X) (hM : SM X) {N : Nat} {M : Mem} {x1 : Int32} {x2 : Int32} {r : Int32} (h : f_X7_clapper N M x1 x2 = some r) : Ctr X l yX7_clapper cX7_clapper 3 (some .int) 5 [.ref 70, .int x1, .int x2] M (some (.int r)) M := by
  refine Ctr.ofG (L := [some (.ref 70), some (.int x1), some (.int x2)]) hX (by decide) (Nat.le_of_ble_eq_true rfl) rfl (fun F hF hl hR => ?_)
  subst hl
  unfold f_X7_clapper at h
  refine g_aload_n hF (dck_at tX7_clapper 0 rfl) rfl ?_
  refine g_iload_n hF (dck_at tX7_clapper 1 rfl) rfl ?_
  obtain ⟨q2, e2, h⟩ := bd h
  refine g_callV hF (as := [.int x1]) (k := 70) rfl (by decide) wm_X7_114 wi_X7_isClapper we_X7_isClapper wc_X7_isClapper wn_X7 hyX7_isClapper (by decide) (hM 70 (by decide) (by decide)) kdc_70 (c_X7_isClapper hF.2.2.2.2.2.2.2.1 hM e2) (by decide) rfl rfl rfl rfl (dck_at tX7_clapper 2 rfl) ?_
  show G X F 5 _ [.int q2] M
  refine g_if_ne hF 11 (dck_at tX7_clapper 3 rfl) (by decide) (fun hc5 => ?_) (fun hc5 => ?_)
  · replace h := ite_f hc5 h
    refine g_iload_n hF (dck_at tX7_clapper 6 rfl) rfl ?_
    by_cases hc12_0 : x2 = 0
    · replace h := ite_t hc12_0 h
      refine g_swIn hF 52 0 hc12_0 (dck_at tX7_clapper 7 rfl) (by decide) (by decide) rfl (by decide) ?_
      refine g_aload_n hF (dck_at tX7_clapper 8 rfl) rfl ?_
      refine gf_X7_13 hF (hM 70 (by decide) (by decide)) kdc_70 lnc_70 (dck_at tX7_clapper 9 rfl) ?_
      refine g_iconst (v := 5) hF (dck_at tX7_clapper 10 rfl) (by decide) ?_
      refine g_iload_n hF (dck_at tX7_clapper 11 rfl) rfl ?_
      refine g_iadd hF (dck_at tX7_clapper 12 rfl) ?_
      obtain ⟨hg59, h⟩ := gd h
      refine g_ia hF (hM 72 (by decide) (by decide)) kdc_72 lnc_72 hg59 (dck_at tX7_clapper 13 rfl) ?_
      show G X F 60 _ _ _
      cases h
      exact g_iret hF hR (dck_at tX7_clapper 14 rfl)
    replace h := ite_f hc12_0 h
    by_cases hc12_1 : x2 = 1
    · replace h := ite_t hc12_1 h
      refine g_swIn hF 61 1 hc12_1 (dck_at tX7_clapper 7 rfl) (by decide) (by decide) rfl (by decide) ?_
      refine g_aload_n hF (dck_at tX7_clapper 15 rfl) rfl ?_
      refine gf_X7_19 hF (hM 70 (by decide) (by decide)) kdc_70 lnc_70 (dck_at tX7_clapper 16 rfl) ?_
      refine g_bipush (v := 6) hF (dck_at tX7_clapper 17 rfl) (by decide) ?_
      refine g_iload_n hF (dck_at tX7_clapper 18 rfl) rfl ?_
      refine g_iadd hF (dck_at tX7_clapper 19 rfl) ?_
      obtain ⟨hg69, h⟩ := gd h
      refine g_ia hF (hM 74 (by decide) (by decide)) kdc_74 lnc_74 hg69 (dck_at tX7_clapper 20 rfl) ?_
      show G X F 70 _ _ _
      cases h
      exact g_iret hF hR (dck_at tX7_clapper 21 rfl)
    replace h := ite_f hc12_1 h
    by_cases hc12_2 : x2 = 2
    · replace h := ite_t hc12_2 h
      refine g_swIn hF 71 2 hc12_2 (dck_at tX7_clapper 7 rfl) (by decide) (by decide) rfl (by decide) ?_
      refine g_aload_n hF (dck_at tX7_clapper 22 rfl) rfl ?_
      refine gf_X7_13 hF (hM 70 (by decide) (by decide)) kdc_70 lnc_70 (dck_at tX7_clapper 23 rfl) ?_
      refine g_bipush (v := 21) hF (dck_at tX7_clapper 24 rfl) (by decide) ?_
      refine g_iload_n hF (dck_at tX7_clapper 25 rfl) rfl ?_
      refine g_iadd hF (dck_at tX7_clapper 26 rfl) ?_
      obtain ⟨hg79, h⟩ := gd h
      refine g_ia hF (hM 72 (by decide) (by decide)) kdc_72 lnc_72 hg79 (dck_at tX7_clapper 27 rfl) ?_
      show G X F 80 _ _ _
      cases h
      exact g_iret hF hR (dck_at tX7_clapper 28 rfl)
    replace h := ite_f hc12_2 h
    by_cases hc12_3 : x2 = 3
    · replace h := ite_t hc12_3 h
      refine g_swIn hF 81 3 hc12_3 (dck_at tX7_clapper 7 rfl) (by decide) (by decide) rfl (by decide) ?_
      refine g_aload_n hF (dck_at tX7_clapper 29 rfl) rfl ?_
      refine g_iload_n hF (dck_at tX7_clapper 30 rfl) rfl ?_
      obtain ⟨q83, e83, h⟩ := bd h
      refine g_callV hF (as := [.int x1]) (k := 70) rfl (by decide) wm_X7_117 wi_X7_isThere we_X7_isThere wc_X7_isThere wn_X7 hyX7_isThere (by decide) (hM 70 (by decide) (by decide)) kdc_70 (c_X7_isThere hF.2.2.2.2.2.2.2.1 hM e83) (by decide) rfl rfl rfl rfl (dck_at tX7_clapper 31 rfl) ?_
      show G X F 86 _ [.int q83] M
      refine g_if_eq hF 93 (dck_at tX7_clapper 32 rfl) (by decide) (fun hc86 => ?_) (fun hc86 => ?_)
      · replace h := ite_t hc86 h
        refine g_iconst (v := 0) hF (dck_at tX7_clapper 35 rfl) (by decide) ?_
        cases h
        exact g_iret hF hR (dck_at tX7_clapper 36 rfl)
      · replace h := ite_f hc86 h
        refine g_iconst (v := 1) hF (dck_at tX7_clapper 33 rfl) (by decide) ?_
        refine g_goto hF 94 (dck_at tX7_clapper 34 rfl) (by decide) ?_
        cases h
        exact g_iret hF hR (dck_at tX7_clapper 36 rfl)
    replace h := ite_f hc12_3 h
    by_cases hc12_4 : x2 = 4
    · replace h := ite_t hc12_4 h
      refine g_swIn hF 95 4 hc12_4 (dck_at tX7_clapper 7 rfl) (by decide) (by decide) rfl (by decide) ?_
      refine g_aload_n hF (dck_at tX7_clapper 37 rfl) rfl ?_
      refine g_iload_n hF (dck_at tX7_clapper 38 rfl) rfl ?_
      obtain ⟨q97, e97, h⟩ := bd h
      refine g_callV hF (as := [.int x1]) (k := 70) rfl (by decide) wm_X7_120 wi_X7_claps we_X7_claps wc_X7_claps wn_X7 hyX7_claps (by decide) (hM 70 (by decide) (by decide)) kdc_70 (c_X7_claps hF.2.2.2.2.2.2.2.1 hM e97) (by decide) rfl rfl rfl rfl (dck_at tX7_clapper 39 rfl) ?_
      show G X F 100 _ [.int q97] M
      refine g_if_eq hF 107 (dck_at tX7_clapper 40 rfl) (by decide) (fun hc100 => ?_) (fun hc100 => ?_)
      · replace h := ite_t hc100 h
        refine g_iconst (v := 0) hF (dck_at tX7_clapper 43 rfl) (by decide) ?_
        cases h
        exact g_iret hF hR (dck_at tX7_clapper 44 rfl)
      · replace h := ite_f hc100 h
        refine g_iconst (v := 1) hF (dck_at tX7_clapper 41 rfl) (by decide) ?_
        refine g_goto hF 108 (dck_at tX7_clapper 42 rfl) (by decide) ?_
        cases h
        exact g_iret hF hR (dck_at tX7_clapper 44 rfl)
    replace h := ite_f hc12_4 h
    by_cases hc12_5 : x2 = 5
    · replace h := ite_t hc12_5 h
      refine g_swIn hF 109 5 hc12_5 (dck_at tX7_clapper 7 rfl) (by decide) (by decide) rfl (by decide) ?_
      refine g_aload_n hF (dck_at tX7_clapper 45 rfl) rfl ?_
      refine gf_X7_13 hF (hM 70 (by decide) (by decide)) kdc_70 lnc_70 (dck_at tX7_clapper 46 rfl) ?_
      refine g_bipush (v := 13) hF (dck_at tX7_clapper 47 rfl) (by decide) ?_
      refine g_iload_n hF (dck_at tX7_clapper 48 rfl) rfl ?_
      refine g_iadd hF (dck_at tX7_clapper 49 rfl) ?_
      obtain ⟨hg117, h⟩ := gd h
      refine g_ia hF (hM 72 (by decide) (by decide)) kdc_72 lnc_72 hg117 (dck_at tX7_clapper 50 rfl) ?_
      show G X F 118 _ _ _
      cases h
      exact g_iret hF hR (dck_at tX7_clapper 51 rfl)
    replace h := ite_f hc12_5 h
    refine g_swOut hF 119 (dck_at tX7_clapper 7 rfl) (by have q0 := lv_neT hc12_0 (a := 0) rfl; have q1 := lv_neT hc12_1 (a := 1) rfl; have q2 := lv_neT hc12_2 (a := 2) rfl; have q3 := lv_neT hc12_3 (a := 3) rfl; have q4 := lv_neT hc12_4 (a := 4) rfl; have q5 := lv_neT hc12_5 (a := 5) rfl; omega) (by decide) ?_
    refine g_bipush (v := -3) hF (dck_at tX7_clapper 52 rfl) (by decide) ?_
    cases h
    exact g_iret hF hR (dck_at tX7_clapper 53 rfl)
  · replace h := ite_t hc5 h
    refine g_bipush (v := -2) hF (dck_at tX7_clapper 4 rfl) (by decide) ?_
    cases h
    exact g_iret hF hR (dck_at tX7_clapper 5 rfl)

def tbX7_encore : List (Nat × Instr × Nat) := [(0, .aload_n 0, 1), (1, .iload_n 1, 1), (2, .invokevirtual 123, 3), (5, .ifCond .ne 6, 3), (8, .bipush (-2), 2), (10, .ireturn, 1), (11, .iload_n 2, 1), (12, .iconst 0, 1), (13, .iconst 4, 1), (14, .invokestatic 53, 3), (17, .ifCond .ne 6, 3), (20, .bipush (-3), 2), (22, .ireturn, 1), (23, .iload_n 2, 1), (24, .iconst 4, 1), (25, .if_icmp .ge 19, 3), (28, .aload_n 0, 1), (29, .getfield 13, 3), (32, .bipush 29, 2), (34, .iconst 4, 1), (35, .iload_n 2, 1), (36, .imul, 1), (37, .iadd, 1), (38, .iload_n 1, 1), (39, .iadd, 1), (40, .iaload, 1), (41, .goto 13, 3), (44, .aload_n 0, 1), (45, .getfield 19, 3), (48, .iconst 5, 1), (49, .iaload, 1), (50, .iload_n 1, 1), (51, .ishr, 1), (52, .iconst 1, 1), (53, .iand, 1), (54, .ireturn, 1)]
theorem tX7_encore : dck cX7_encore tbX7_encore = true := by decide +kernel
def f_X7_encore (N : Nat) (M : Mem) (x1 : Int32) (x2 : Int32) : Option Int32 := (f_X7_isEncore N M x1).bind fun q2 => (if q2 = 0 then some (-2 : Int32) else (f_X7_in N M x2 (0 : Int32) (4 : Int32)).bind fun q14 => (if q14 = 0 then some (-3 : Int32) else (if (4 : Int32) ≤ x2 then some (((M 74 5) >>> (x1 &&& 31)) &&& (1 : Int32)) else if inb (((29 : Int32) + ((4 : Int32) * x2)) + x1) 45 = true then some (M 72 (((29 : Int32) + ((4 : Int32) * x2)) + x1).toNatClampNeg) else none)))
set_option maxHeartbeats 4000000 in
set_option maxRecDepth 100000 in
theorem c_X7_encore {X : Cx} {l : Launch} (hX : CxOk X) (hM : SM X) {N : Nat} {M : Mem} {x1 : Int32} {x2 : Int32} {r : Int32} (h : f_X7_encore N M x1 x2 = some r) : Ctr X l yX7_encore cX7_encore 3 (some .int) 3 [.ref 70, .int x1, .int x2] M (some (.int r)) M := by
  refine Ctr.ofG (L := [some (.ref 70), some (.int x1), some (.int x2)]) hX (by decide) (Nat.le_of_ble_eq_true rfl) rfl (fun F hF hl hR => ?_)
  subst hl
  unfold f_X7_encore at h
  refine g_aload_n hF (dck_at tX7_encore 0 rfl) rfl ?_
  refine g_iload_n hF (dck_at tX7_encore 1 rfl) rfl ?_
  obtain ⟨q2, e2, h⟩ := bd h
  refine g_callV hF (as := [.int x1]) (k := 70) rfl (by decide) wm_X7_123 wi_X7_isEncore we_X7_isEncore wc_X7_isEncore wn_X7 hyX7_isEncore (by decide) (hM 70 (by decide) (by decide)) kdc_70 (c_X7_isEncore hF.2.2.2.2.2.2.2.1 hM e2) (by decide) rfl rfl rfl rfl (dck_at tX7_encore 2 rfl) ?_
  show G X F 5 _ [.int q2] M
  refine g_if_ne hF 11 (dck_at tX7_encore 3 rfl) (by decide) (fun hc5 => ?_) (fun hc5 => ?_)
  · replace h := ite_f hc5 h
    refine g_iload_n hF (dck_at tX7_encore 6 rfl) rfl ?_
    refine g_iconst (v := 0) hF (dck_at tX7_encore 7 rfl) (by decide) ?_
    refine g_iconst (v := 4) hF (dck_at tX7_encore 8 rfl) (by decide) ?_
    obtain ⟨q14, e14, h⟩ := bd h
    refine g_callS hF (as := [.int x2, .int (0 : Int32), .int (4 : Int32)]) wm_X7_53 wt_X7_in wc_X7_in wn_X7 hyX7_in (by decide) (c_X7_in hF.2.2.2.2.2.2.2.1 e14) (by decide) rfl rfl rfl rfl (dck_at tX7_encore 9 rfl) ?_
    show G X F 17 _ [.int q14] M
    refine g_if_ne hF 23 (dck_at tX7_encore 10 rfl) (by decide) (fun hc17 => ?_) (fun hc17 => ?_)
    · replace h := ite_f hc17 h
      refine g_iload_n hF (dck_at tX7_encore 13 rfl) rfl ?_
      refine g_iconst (v := 4) hF (dck_at tX7_encore 14 rfl) (by decide) ?_
      refine g_icmp_ge hF 44 (dck_at tX7_encore 15 rfl) (by decide) (fun hc25 => ?_) (fun hc25 => ?_)
      · replace h := ite_t hc25 h
        refine g_aload_n hF (dck_at tX7_encore 27 rfl) rfl ?_
        refine gf_X7_19 hF (hM 70 (by decide) (by decide)) kdc_70 lnc_70 (dck_at tX7_encore 28 rfl) ?_
        refine g_iconst (v := 5) hF (dck_at tX7_encore 29 rfl) (by decide) ?_
        refine g_iac (j := 5) hF (hM 74 (by decide) (by decide)) kdc_74 lnc_74 (by decide) (by decide) (dck_at tX7_encore 30 rfl) ?_
        refine g_iload_n hF (dck_at tX7_encore 31 rfl) rfl ?_
        refine g_ishr hF (dck_at tX7_encore 32 rfl) ?_
        show G X F 52 _ _ _
        refine g_iconst (v := 1) hF (dck_at tX7_encore 33 rfl) (by decide) ?_
        refine g_iand hF (dck_at tX7_encore 34 rfl) ?_
        cases h
        exact g_iret hF hR (dck_at tX7_encore 35 rfl)
      · replace h := ite_f hc25 h
        refine g_aload_n hF (dck_at tX7_encore 16 rfl) rfl ?_
        refine gf_X7_13 hF (hM 70 (by decide) (by decide)) kdc_70 lnc_70 (dck_at tX7_encore 17 rfl) ?_
        refine g_bipush (v := 29) hF (dck_at tX7_encore 18 rfl) (by decide) ?_
        refine g_iconst (v := 4) hF (dck_at tX7_encore 19 rfl) (by decide) ?_
        refine g_iload_n hF (dck_at tX7_encore 20 rfl) rfl ?_
        refine g_imul hF (dck_at tX7_encore 21 rfl) ?_
        show G X F 37 _ _ _
        refine g_iadd hF (dck_at tX7_encore 22 rfl) ?_
        refine g_iload_n hF (dck_at tX7_encore 23 rfl) rfl ?_
        refine g_iadd hF (dck_at tX7_encore 24 rfl) ?_
        obtain ⟨hg40, h⟩ := gd h
        refine g_ia hF (hM 72 (by decide) (by decide)) kdc_72 lnc_72 hg40 (dck_at tX7_encore 25 rfl) ?_
        refine g_goto hF 54 (dck_at tX7_encore 26 rfl) (by decide) ?_
        cases h
        exact g_iret hF hR (dck_at tX7_encore 35 rfl)
    · replace h := ite_t hc17 h
      refine g_bipush (v := -3) hF (dck_at tX7_encore 11 rfl) (by decide) ?_
      cases h
      exact g_iret hF hR (dck_at tX7_encore 12 rfl)
  · replace h := ite_t hc5 h
    refine g_bipush (v := -2) hF (dck_at tX7_encore 4 rfl) (by decide) ?_
    cases h
    exact g_iret hF hR (dck_at tX7_encore 5 rfl)

def tbX7_wasKnown : List (Nat × Instr × Nat) := [(0, .iconst 0, 1), (1, .istore_n 1, 1), (2, .iconst 0, 1), (3, .istore_n 2, 1), (4, .iload_n 2, 1), (5, .aload_n 0, 1), (6, .getfield 13, 3), (9, .iconst 1, 1), (10, .iaload, 1), (11, .if_icmp .ge 46, 3), (14, .iload_n 1, 1), (15, .ifCond .ne 30, 3), (18, .aload_n 0, 1), (19, .getfield 13, 3), (22, .bipush 29, 2), (24, .iload_n 2, 1), (25, .iadd, 1), (26, .iaload, 1), (27, .iconst 3, 1), (28, .if_icmp .ne 21, 3), (31, .aload_n 0, 1), (32, .getfield 19, 3), (35, .iconst 5, 1), (36, .iaload, 1), (37, .iload_n 2, 1), (38, .ishr, 1), (39, .iconst 1, 1), (40, .iand, 1), (41, .iconst 1, 1), (42, .if_icmp .ne 7, 3), (45, .iconst 1, 1), (46, .goto 4, 3), (49, .iconst 0, 1), (50, .istore_n 1, 1), (51, .iinc 2 1, 3), (54, .goto (-50), 3), (57, .iload_n 1, 1), (58, .ireturn, 1)]
theorem tX7_wasKnown : dck cX7_wasKnown tbX7_wasKnown = true := by decide +kernel
def f_X7_wasKnown_L4 (N : Nat) (M : Mem) : Nat → Int32 → Int32 → Option (Int32 × Int32)
  | 0, _, _ => none
  | n + 1, x1, x2 => (if (M 72 1) ≤ x2 then some (x1, x2) else (if x1 = 0 then if inb ((29 : Int32) + x2) 45 = true then (if (M 72 ((29 : Int32) + x2).toNatClampNeg) = (3 : Int32) then (if (((M 74 5) >>> (x2 &&& 31)) &&& (1 : Int32)) = (1 : Int32) then f_X7_wasKnown_L4 N M n (1 : Int32) (x2 + (1 : Int32)) else f_X7_wasKnown_L4 N M n (0 : Int32) (x2 + (1 : Int32))) else f_X7_wasKnown_L4 N M n (0 : Int32) (x2 + (1 : Int32))) else none else f_X7_wasKnown_L4 N M n (1 : Int32) (x2 + (1 : Int32))))
def f_X7_wasKnown (N : Nat) (M : Mem) : Option Int32 := (f_X7_wasKnown_L4 N M N (0 : Int32) (0 : Int32)).bind fun o4 => if zok o4.1 = true then some o4.1 else none
set_option maxHeartbeats 4000000 in
set_option maxRecDepth 100000 in
theorem g_X7_wasKnown_L4 {X : Cx} {F : Fx} (hM : SM X) (hF : FK X F cX7_wasKnown RX7 3 1) (N : Nat) (M : Mem) : ∀ (n : Nat) (x1 : Int32) (x2 : Int32) (o : Int32 × Int32), f_X7_wasKnown_L4 N M n x1 x2 = some o → G X F 57 [none, some (.int o.1), none] [] M → G X F 4 [some (.ref 70), some (.int x1), some (.int x2)] [] M := by
  intro n
  induction n with
  | zero =>
    intro x1 x2 o h K
    cases h
  | succ n ih =>
    intro x1 x2 o h K
    rw [f_X7_wasKnown_L4] at h
    refine g_iload_n hF (dck_at tX7_wasKnown 4 rfl) rfl ?_
    refine g_aload_n hF (dck_at tX7_wasKnown 5 rfl) rfl ?_
    refine gf_X7_13 hF (hM 70 (by decide) (by decide)) kdc_70 lnc_70 (dck_at tX7_wasKnown 6 rfl) ?_
    refine g_iconst (v := 1) hF (dck_at tX7_wasKnown 7 rfl) (by decide) ?_
    refine g_iac (j := 1) hF (hM 72 (by decide) (by decide)) kdc_72 lnc_72 (by decide) (by decide) (dck_at tX7_wasKnown 8 rfl) ?_
    refine g_icmp_ge hF 57 (dck_at tX7_wasKnown 9 rfl) (by decide) (fun hc11 => ?_) (fun hc11 => ?_)
    · replace h := ite_t hc11 h
      refine g_msk [false, true, false] (L' := [none, some (.int x1), none]) rfl ?_
      cases h
      exact K
    · replace h := ite_f hc11 h
      refine g_iload_n hF (dck_at tX7_wasKnown 10 rfl) rfl ?_
      refine g_if_ne hF 45 (dck_at tX7_wasKnown 11 rfl) (by decide) (fun hc15 => ?_) (fun hc15 => ?_)
      · replace h := ite_f hc15 h
        refine g_iconst (v := 1) hF (dck_at tX7_wasKnown 30 rfl) (by decide) ?_
        refine g_goto hF 50 (dck_at tX7_wasKnown 31 rfl) (by decide) ?_
        refine g_istore_n (L' := [some (.ref 70), some (.int (1 : Int32)), some (.int x2)]) hF (dck_at tX7_wasKnown 33 rfl) (Nat.le_of_ble_eq_true rfl) rfl ?_
        refine g_iinc (v := 1) (L' := [some (.ref 70), some (.int (1 : Int32)), some (.int (x2 + (1 : Int32)))]) hF (dck_at tX7_wasKnown 34 rfl) rfl (by decide) rfl ?_
        refine g_goto hF 4 (dck_at tX7_wasKnown 35 rfl) (by decide) ?_
        exact ih _ _ _ h K
      · replace h := ite_t hc15 h
        refine g_aload_n hF (dck_at tX7_wasKnown 12 rfl) rfl ?_
        refine gf_X7_13 hF (hM 70 (by decide) (by decide)) kdc_70 lnc_70 (dck_at tX7_wasKnown 13 rfl) ?_
        refine g_bipush (v := 29) hF (dck_at tX7_wasKnown 14 rfl) (by decide) ?_
        refine g_iload_n hF (dck_at tX7_wasKnown 15 rfl) rfl ?_
        refine g_iadd hF (dck_at tX7_wasKnown 16 rfl) ?_
        obtain ⟨hg26, h⟩ := gd h
        refine g_ia hF (hM 72 (by decide) (by decide)) kdc_72 lnc_72 hg26 (dck_at tX7_wasKnown 17 rfl) ?_
        show G X F 27 _ _ _
        refine g_iconst (v := 3) hF (dck_at tX7_wasKnown 18 rfl) (by decide) ?_
        refine g_icmp_ne hF 49 (dck_at tX7_wasKnown 19 rfl) (by decide) (fun hc28 => ?_) (fun hc28 => ?_)
        · replace h := ite_f hc28 h
          refine g_iconst (v := 0) hF (dck_at tX7_wasKnown 32 rfl) (by decide) ?_
          refine g_istore_n (L' := [some (.ref 70), some (.int (0 : Int32)), some (.int x2)]) hF (dck_at tX7_wasKnown 33 rfl) (Nat.le_of_ble_eq_true rfl) rfl ?_
          refine g_iinc (v := 1) (L' := [some (.ref 70), some (.int (0 : Int32)), some (.int (x2 + (1 : Int32)))]) hF (dck_at tX7_wasKnown 34 rfl) rfl (by decide) rfl ?_
          refine g_goto hF 4 (dck_at tX7_wasKnown 35 rfl) (by decide) ?_
          exact ih _ _ _ h K
        · replace h := ite_t hc28 h
          refine g_aload_n hF (dck_at tX7_wasKnown 20 rfl) rfl ?_
          refine gf_X7_19 hF (hM 70 (by decide) (by decide)) kdc_70 lnc_70 (dck_at tX7_wasKnown 21 rfl) ?_
          refine g_iconst (v := 5) hF (dck_at tX7_wasKnown 22 rfl) (by decide) ?_
          refine g_iac (j := 5) hF (hM 74 (by decide) (by decide)) kdc_74 lnc_74 (by decide) (by decide) (dck_at tX7_wasKnown 23 rfl) ?_
          refine g_iload_n hF (dck_at tX7_wasKnown 24 rfl) rfl ?_
          refine g_ishr hF (dck_at tX7_wasKnown 25 rfl) ?_
          show G X F 39 _ _ _
          refine g_iconst (v := 1) hF (dck_at tX7_wasKnown 26 rfl) (by decide) ?_
          refine g_iand hF (dck_at tX7_wasKnown 27 rfl) ?_
          refine g_iconst (v := 1) hF (dck_at tX7_wasKnown 28 rfl) (by decide) ?_
          refine g_icmp_ne hF 49 (dck_at tX7_wasKnown 29 rfl) (by decide) (fun hc42 => ?_) (fun hc42 => ?_)
          · replace h := ite_f hc42 h
            refine g_iconst (v := 0) hF (dck_at tX7_wasKnown 32 rfl) (by decide) ?_
            refine g_istore_n (L' := [some (.ref 70), some (.int (0 : Int32)), some (.int x2)]) hF (dck_at tX7_wasKnown 33 rfl) (Nat.le_of_ble_eq_true rfl) rfl ?_
            refine g_iinc (v := 1) (L' := [some (.ref 70), some (.int (0 : Int32)), some (.int (x2 + (1 : Int32)))]) hF (dck_at tX7_wasKnown 34 rfl) rfl (by decide) rfl ?_
            refine g_goto hF 4 (dck_at tX7_wasKnown 35 rfl) (by decide) ?_
            exact ih _ _ _ h K
          · replace h := ite_t hc42 h
            refine g_iconst (v := 1) hF (dck_at tX7_wasKnown 30 rfl) (by decide) ?_
            refine g_goto hF 50 (dck_at tX7_wasKnown 31 rfl) (by decide) ?_
            refine g_istore_n (L' := [some (.ref 70), some (.int (1 : Int32)), some (.int x2)]) hF (dck_at tX7_wasKnown 33 rfl) (Nat.le_of_ble_eq_true rfl) rfl ?_
            refine g_iinc (v := 1) (L' := [some (.ref 70), some (.int (1 : Int32)), some (.int (x2 + (1 : Int32)))]) hF (dck_at tX7_wasKnown 34 rfl) rfl (by decide) rfl ?_
            refine g_goto hF 4 (dck_at tX7_wasKnown 35 rfl) (by decide) ?_
            exact ih _ _ _ h K
set_option maxHeartbeats 4000000 in
set_option maxRecDepth 100000 in
theorem c_X7_wasKnown {X : Cx} {l : Launch} (hX : CxOk X) (hM : SM X) {N : Nat} {M : Mem} {r : Int32} (h : f_X7_wasKnown N M = some r) : Ctr X l yX7_wasKnown cX7_wasKnown 3 (some .boolean) 1 [.ref 70] M (some (.int r)) M := by
  refine Ctr.ofG (L := [some (.ref 70), none, none]) hX (by decide) (Nat.le_of_ble_eq_true rfl) rfl (fun F hF hl hR => ?_)
  subst hl
  unfold f_X7_wasKnown at h
  refine g_iconst (v := 0) hF (dck_at tX7_wasKnown 0 rfl) (by decide) ?_
  refine g_istore_n (L' := [some (.ref 70), some (.int (0 : Int32)), none]) hF (dck_at tX7_wasKnown 1 rfl) (Nat.le_of_ble_eq_true rfl) rfl ?_
  refine g_iconst (v := 0) hF (dck_at tX7_wasKnown 2 rfl) (by decide) ?_
  refine g_istore_n (L' := [some (.ref 70), some (.int (0 : Int32)), some (.int (0 : Int32))]) hF (dck_at tX7_wasKnown 3 rfl) (Nat.le_of_ble_eq_true rfl) rfl ?_
  obtain ⟨o4, e4, h⟩ := bd h
  refine g_X7_wasKnown_L4 hM hF N _ N _ _ _ e4 ?_
  refine g_iload_n hF (dck_at tX7_wasKnown 36 rfl) rfl ?_
  obtain ⟨hz58, h⟩ := gd h
  cases h
  exact g_zret hF hR (zok_n hz58) (dck_at tX7_wasKnown 37 rfl)

def tbX7_loses : List (Nat × Instr × Nat) := [(0, .aload_n 0, 1), (1, .iload_n 1, 1), (2, .invokevirtual 120, 3), (5, .ifCond .ne 5, 3), (8, .iconst 0, 1), (9, .ireturn, 1), (10, .aload_n 0, 1), (11, .getfield 13, 3), (14, .iconst 5, 1), (15, .iload_n 1, 1), (16, .iadd, 1), (17, .iaload, 1), (18, .istore_n 2, 1), (19, .aload_n 0, 1), (20, .iload_n 1, 1), (21, .iconst 1, 1), (22, .isub, 1), (23, .invokevirtual 114, 3), (26, .ifCond .eq 7, 3), (29, .iconst 1, 1), (30, .goto 4, 3), (33, .iconst 0, 1), (34, .aload_n 0, 1), (35, .iload_n 1, 1), (36, .iconst 1, 1), (37, .iadd, 1), (38, .invokevirtual 114, 3), (41, .ifCond .eq 7, 3), (44, .iconst 1, 1), (45, .goto 4, 3), (48, .iconst 0, 1), (49, .iadd, 1), (50, .istore_n 3, 1), (51, .aload_n 0, 1), (52, .iload_n 1, 1), (53, .iconst 1, 1), (54, .isub, 1), (55, .invokevirtual 120, 3), (58, .ifCond .eq 7, 3), (61, .iconst 1, 1), (62, .goto 4, 3), (65, .iconst 0, 1), (66, .aload_n 0, 1), (67, .iload_n 1, 1), (68, .iconst 1, 1), (69, .iadd, 1), (70, .invokevirtual 120, 3), (73, .ifCond .eq 7, 3), (76, .iconst 1, 1), (77, .goto 4, 3), (80, .iconst 0, 1), (81, .iadd, 1), (82, .istore 4, 2), (84, .iload_n 2, 1), (85, .iconst 2, 1), (86, .if_icmp .ne 30, 3), (89, .aload_n 0, 1), (90, .getfield 19, 3), (93, .bipush 6, 2), (95, .iload_n 1, 1), (96, .iadd, 1), (97, .iaload, 1), (98, .iconst 2, 1), (99, .if_icmp .ge 15, 3), (102, .aload_n 0, 1), (103, .getfield 19, 3), (106, .bipush 6, 2), (108, .iload_n 1, 1), (109, .iadd, 1), (110, .iaload, 1), (111, .goto 4, 3), (114, .iconst 2, 1), (115, .ireturn, 1), (116, .iload_n 2, 1), (117, .ifCond .ne 21, 3), (120, .iload_n 3, 1), (121, .ifCond .le 13, 3), (124, .iload 4, 2), (126, .iload_n 3, 1), (127, .if_icmp .ne 7, 3), (130, .iconst 1, 1), (131, .goto 37, 3), (134, .iconst 0, 1), (135, .goto 33, 3), (138, .iload_n 2, 1), (139, .iconst 1, 1), (140, .if_icmp .ne 16, 3), (143, .iload 4, 2), (145, .ifCond .le 7, 3), (148, .iconst 1, 1), (149, .goto 19, 3), (152, .iconst 0, 1), (153, .goto 15, 3), (156, .aload_n 0, 1), (157, .invokevirtual 126, 3), (160, .ifCond .ne 7, 3), (163, .iconst 1, 1), (164, .goto 4, 3), (167, .iconst 0, 1), (168, .istore 5, 2), (170, .iload 5, 2), (172, .ifCond .eq 7, 3), (175, .iconst 0, 1), (176, .goto 4, 3), (179, .iconst 1, 1), (180, .ireturn, 1)]
theorem tX7_loses : dck cX7_loses tbX7_loses = true := by decide +kernel
def f_X7_loses (N : Nat) (M : Mem) (x1 : Int32) : Option Int32 := (f_X7_claps N M x1).bind fun q2 => (if q2 = 0 then some (0 : Int32) else if inb ((5 : Int32) + x1) 45 = true then (f_X7_isClapper N M (x1 - (1 : Int32))).bind fun q23 => (f_X7_isClapper N M (x1 + (1 : Int32))).bind fun q38 => (f_X7_claps N M (x1 - (1 : Int32))).bind fun q55 => (f_X7_claps N M (x1 + (1 : Int32))).bind fun q70 => (if (M 72 ((5 : Int32) + x1).toNatClampNeg) = (2 : Int32) then if inb ((6 : Int32) + x1) 14 = true then (if (2 : Int32) ≤ (M 74 ((6 : Int32) + x1).toNatClampNeg) then some (2 : Int32) else if inb ((6 : Int32) + x1) 14 = true then some (M 74 ((6 : Int32) + x1).toNatClampNeg) else none) else none else ((if (M 72 ((5 : Int32) + x1).toNatClampNeg) = 0 then (if ((if q23 = 0 then (0 : Int32) else (1 : Int32)) + (if q38 = 0 then (0 : Int32) else (1 : Int32))) ≤ 0 then some (0 : Int32) else (if ((if q55 = 0 then (0 : Int32) else (1 : Int32)) + (if q70 = 0 then (0 : Int32) else (1 : Int32))) = ((if q23 = 0 then (0 : Int32) else (1 : Int32)) + (if q38 = 0 then (0 : Int32) else (1 : Int32))) then some (1 : Int32) else some (0 : Int32))) else (if (M 72 ((5 : Int32) + x1).toNatClampNeg) = (1 : Int32) then (if ((if q55 = 0 then (0 : Int32) else (1 : Int32)) + (if q70 = 0 then (0 : Int32) else (1 : Int32))) ≤ 0 then some (0 : Int32) else some (1 : Int32)) else (f_X7_wasKnown N M).bind fun q157 => (if q157 = 0 then some (1 : Int32) else some (0 : Int32)))).bind fun o168 => (if o168 = 0 then some (1 : Int32) else some (0 : Int32)))) else none)
set_option maxHeartbeats 4000000 in
set_option maxRecDepth 100000 in
theorem c_X7_loses {X : Cx} {l : Launch} (hX : CxOk X) (hM : SM X) {N : Nat} {M : Mem} {x1 : Int32} {r : Int32} (h : f_X7_loses N M x1 = some r) : Ctr X l yX7_loses cX7_loses 6 (some .int) 5 [.ref 70, .int x1] M (some (.int r)) M := by
  refine Ctr.ofG (L := [some (.ref 70), some (.int x1), none, none, none, none]) hX (by decide) (Nat.le_of_ble_eq_true rfl) rfl (fun F hF hl hR => ?_)
  subst hl
  unfold f_X7_loses at h
  refine g_aload_n hF (dck_at tX7_loses 0 rfl) rfl ?_
  refine g_iload_n hF (dck_at tX7_loses 1 rfl) rfl ?_
  obtain ⟨q2, e2, h⟩ := bd h
  refine g_callV hF (as := [.int x1]) (k := 70) rfl (by decide) wm_X7_120 wi_X7_claps we_X7_claps wc_X7_claps wn_X7 hyX7_claps (by decide) (hM 70 (by decide) (by decide)) kdc_70 (c_X7_claps hF.2.2.2.2.2.2.2.1 hM e2) (by decide) rfl rfl rfl rfl (dck_at tX7_loses 2 rfl) ?_
  show G X F 5 _ [.int q2] M
  refine g_if_ne hF 10 (dck_at tX7_loses 3 rfl) (by decide) (fun hc5 => ?_) (fun hc5 => ?_)
  · replace h := ite_f hc5 h
    refine g_aload_n hF (dck_at tX7_loses 6 rfl) rfl ?_
    refine gf_X7_13 hF (hM 70 (by decide) (by decide)) kdc_70 lnc_70 (dck_at tX7_loses 7 rfl) ?_
    refine g_iconst (v := 5) hF (dck_at tX7_loses 8 rfl) (by decide) ?_
    refine g_iload_n hF (dck_at tX7_loses 9 rfl) rfl ?_
    refine g_iadd hF (dck_at tX7_loses 10 rfl) ?_
    obtain ⟨hg17, h⟩ := gd h
    refine g_ia hF (hM 72 (by decide) (by decide)) kdc_72 lnc_72 hg17 (dck_at tX7_loses 11 rfl) ?_
    show G X F 18 _ _ _
    refine g_istore_n (L' := [some (.ref 70), some (.int x1), some (.int (M 72 ((5 : Int32) + x1).toNatClampNeg)), none, none, none]) hF (dck_at tX7_loses 12 rfl) (Nat.le_of_ble_eq_true rfl) rfl ?_
    refine g_aload_n hF (dck_at tX7_loses 13 rfl) rfl ?_
    refine g_iload_n hF (dck_at tX7_loses 14 rfl) rfl ?_
    refine g_iconst (v := 1) hF (dck_at tX7_loses 15 rfl) (by decide) ?_
    refine g_isub hF (dck_at tX7_loses 16 rfl) ?_
    obtain ⟨q23, e23, h⟩ := bd h
    refine g_callV hF (as := [.int (x1 - (1 : Int32))]) (k := 70) rfl (by decide) wm_X7_114 wi_X7_isClapper we_X7_isClapper wc_X7_isClapper wn_X7 hyX7_isClapper (by decide) (hM 70 (by decide) (by decide)) kdc_70 (c_X7_isClapper hF.2.2.2.2.2.2.2.1 hM e23) (by decide) rfl rfl rfl rfl (dck_at tX7_loses 17 rfl) ?_
    show G X F 26 _ [.int q23] M
    have K34 : G X F 34 [some (.ref 70), some (.int x1), some (.int (M 72 ((5 : Int32) + x1).toNatClampNeg)), none, none, none] [.int (if q23 = 0 then (0 : Int32) else (1 : Int32))] M := by
      refine g_aload_n hF (dck_at tX7_loses 22 rfl) rfl ?_
      refine g_iload_n hF (dck_at tX7_loses 23 rfl) rfl ?_
      refine g_iconst (v := 1) hF (dck_at tX7_loses 24 rfl) (by decide) ?_
      refine g_iadd hF (dck_at tX7_loses 25 rfl) ?_
      obtain ⟨q38, e38, h⟩ := bd h
      refine g_callV hF (as := [.int (x1 + (1 : Int32))]) (k := 70) rfl (by decide) wm_X7_114 wi_X7_isClapper we_X7_isClapper wc_X7_isClapper wn_X7 hyX7_isClapper (by decide) (hM 70 (by decide) (by decide)) kdc_70 (c_X7_isClapper hF.2.2.2.2.2.2.2.1 hM e38) (by decide) rfl rfl rfl rfl (dck_at tX7_loses 26 rfl) ?_
      show G X F 41 _ [.int q38, .int (if q23 = 0 then (0 : Int32) else (1 : Int32))] M
      have K49 : G X F 49 [some (.ref 70), some (.int x1), some (.int (M 72 ((5 : Int32) + x1).toNatClampNeg)), none, none, none] [.int (if q38 = 0 then (0 : Int32) else (1 : Int32)), .int (if q23 = 0 then (0 : Int32) else (1 : Int32))] M := by
        refine g_iadd hF (dck_at tX7_loses 31 rfl) ?_
        refine g_istore_n (L' := [some (.ref 70), some (.int x1), some (.int (M 72 ((5 : Int32) + x1).toNatClampNeg)), some (.int ((if q23 = 0 then (0 : Int32) else (1 : Int32)) + (if q38 = 0 then (0 : Int32) else (1 : Int32)))), none, none]) hF (dck_at tX7_loses 32 rfl) (Nat.le_of_ble_eq_true rfl) rfl ?_
        refine g_aload_n hF (dck_at tX7_loses 33 rfl) rfl ?_
        refine g_iload_n hF (dck_at tX7_loses 34 rfl) rfl ?_
        refine g_iconst (v := 1) hF (dck_at tX7_loses 35 rfl) (by decide) ?_
        refine g_isub hF (dck_at tX7_loses 36 rfl) ?_
        show G X F 55 _ _ _
        obtain ⟨q55, e55, h⟩ := bd h
        refine g_callV hF (as := [.int (x1 - (1 : Int32))]) (k := 70) rfl (by decide) wm_X7_120 wi_X7_claps we_X7_claps wc_X7_claps wn_X7 hyX7_claps (by decide) (hM 70 (by decide) (by decide)) kdc_70 (c_X7_claps hF.2.2.2.2.2.2.2.1 hM e55) (by decide) rfl rfl rfl rfl (dck_at tX7_loses 37 rfl) ?_
        show G X F 58 _ [.int q55] M
        have K66 : G X F 66 [some (.ref 70), some (.int x1), some (.int (M 72 ((5 : Int32) + x1).toNatClampNeg)), some (.int ((if q23 = 0 then (0 : Int32) else (1 : Int32)) + (if q38 = 0 then (0 : Int32) else (1 : Int32)))), none, none] [.int (if q55 = 0 then (0 : Int32) else (1 : Int32))] M := by
          refine g_aload_n hF (dck_at tX7_loses 42 rfl) rfl ?_
          refine g_iload_n hF (dck_at tX7_loses 43 rfl) rfl ?_
          refine g_iconst (v := 1) hF (dck_at tX7_loses 44 rfl) (by decide) ?_
          refine g_iadd hF (dck_at tX7_loses 45 rfl) ?_
          obtain ⟨q70, e70, h⟩ := bd h
          refine g_callV hF (as := [.int (x1 + (1 : Int32))]) (k := 70) rfl (by decide) wm_X7_120 wi_X7_claps we_X7_claps wc_X7_claps wn_X7 hyX7_claps (by decide) (hM 70 (by decide) (by decide)) kdc_70 (c_X7_claps hF.2.2.2.2.2.2.2.1 hM e70) (by decide) rfl rfl rfl rfl (dck_at tX7_loses 46 rfl) ?_
          show G X F 73 _ [.int q70, .int (if q55 = 0 then (0 : Int32) else (1 : Int32))] M
          have K81 : G X F 81 [some (.ref 70), some (.int x1), some (.int (M 72 ((5 : Int32) + x1).toNatClampNeg)), some (.int ((if q23 = 0 then (0 : Int32) else (1 : Int32)) + (if q38 = 0 then (0 : Int32) else (1 : Int32)))), none, none] [.int (if q70 = 0 then (0 : Int32) else (1 : Int32)), .int (if q55 = 0 then (0 : Int32) else (1 : Int32))] M := by
            refine g_iadd hF (dck_at tX7_loses 51 rfl) ?_
            refine g_istore (L' := [some (.ref 70), some (.int x1), some (.int (M 72 ((5 : Int32) + x1).toNatClampNeg)), some (.int ((if q23 = 0 then (0 : Int32) else (1 : Int32)) + (if q38 = 0 then (0 : Int32) else (1 : Int32)))), some (.int ((if q55 = 0 then (0 : Int32) else (1 : Int32)) + (if q70 = 0 then (0 : Int32) else (1 : Int32)))), none]) hF (dck_at tX7_loses 52 rfl) (Nat.le_of_ble_eq_true rfl) rfl ?_
            refine g_iload_n hF (dck_at tX7_loses 53 rfl) rfl ?_
            refine g_iconst (v := 2) hF (dck_at tX7_loses 54 rfl) (by decide) ?_
            refine g_icmp_ne hF 116 (dck_at tX7_loses 55 rfl) (by decide) (fun hc86 => ?_) (fun hc86 => ?_)
            · replace h := ite_f hc86 h
              refine g_iload_n hF (dck_at tX7_loses 73 rfl) rfl ?_
              obtain ⟨o168, h168, h⟩ := bd h
              have K168 : G X F 168 [none, none, none, none, none, none] [.int o168] M := by
                refine g_istore (L' := [none, none, none, none, none, some (.int o168)]) hF (dck_at tX7_loses 99 rfl) (Nat.le_of_ble_eq_true rfl) rfl ?_
                refine g_iload hF (dck_at tX7_loses 100 rfl) rfl ?_
                refine g_if_eq hF 179 (dck_at tX7_loses 101 rfl) (by decide) (fun hc172 => ?_) (fun hc172 => ?_)
                · replace h := ite_t hc172 h
                  refine g_iconst (v := 1) hF (dck_at tX7_loses 104 rfl) (by decide) ?_
                  cases h
                  exact g_iret hF hR (dck_at tX7_loses 105 rfl)
                · replace h := ite_f hc172 h
                  refine g_iconst (v := 0) hF (dck_at tX7_loses 102 rfl) (by decide) ?_
                  refine g_goto hF 180 (dck_at tX7_loses 103 rfl) (by decide) ?_
                  cases h
                  exact g_iret hF hR (dck_at tX7_loses 105 rfl)
              replace h := h168
              refine g_if_ne hF 138 (dck_at tX7_loses 74 rfl) (by decide) (fun hc117 => ?_) (fun hc117 => ?_)
              · replace h := ite_f hc117 h
                refine g_iload_n hF (dck_at tX7_loses 84 rfl) rfl ?_
                refine g_iconst (v := 1) hF (dck_at tX7_loses 85 rfl) (by decide) ?_
                refine g_icmp_ne hF 156 (dck_at tX7_loses 86 rfl) (by decide) (fun hc140 => ?_) (fun hc140 => ?_)
                · replace h := ite_f hc140 h
                  refine g_aload_n hF (dck_at tX7_loses 93 rfl) rfl ?_
                  obtain ⟨q157, e157, h⟩ := bd h
                  refine g_callV hF (as := []) (k := 70) rfl (by decide) wm_X7_126 wi_X7_wasKnown we_X7_wasKnown wc_X7_wasKnown wn_X7 hyX7_wasKnown (by decide) (hM 70 (by decide) (by decide)) kdc_70 (c_X7_wasKnown hF.2.2.2.2.2.2.2.1 hM e157) (by decide) rfl rfl rfl rfl (dck_at tX7_loses 94 rfl) ?_
                  show G X F 160 _ [.int q157] M
                  refine g_if_ne hF 167 (dck_at tX7_loses 95 rfl) (by decide) (fun hc160 => ?_) (fun hc160 => ?_)
                  · replace h := ite_f hc160 h
                    refine g_iconst (v := 0) hF (dck_at tX7_loses 98 rfl) (by decide) ?_
                    cases h
                    refine g_msk [false, false, false, false, false, true] (L' := [none, none, none, none, none, none]) rfl ?_
                    exact K168
                  · replace h := ite_t hc160 h
                    refine g_iconst (v := 1) hF (dck_at tX7_loses 96 rfl) (by decide) ?_
                    refine g_goto hF 168 (dck_at tX7_loses 97 rfl) (by decide) ?_
                    cases h
                    refine g_msk [false, false, false, false, false, true] (L' := [none, none, none, none, none, none]) rfl ?_
                    exact K168
                · replace h := ite_t hc140 h
                  refine g_iload hF (dck_at tX7_loses 87 rfl) rfl ?_
                  refine g_if_le hF 152 (dck_at tX7_loses 88 rfl) (by decide) (fun hc145 => ?_) (fun hc145 => ?_)
                  · replace h := ite_t hc145 h
                    refine g_iconst (v := 0) hF (dck_at tX7_loses 91 rfl) (by decide) ?_
                    refine g_goto hF 168 (dck_at tX7_loses 92 rfl) (by decide) ?_
                    cases h
                    refine g_msk [false, false, false, false, false, true] (L' := [none, none, none, none, none, none]) rfl ?_
                    exact K168
                  · replace h := ite_f hc145 h
                    refine g_iconst (v := 1) hF (dck_at tX7_loses 89 rfl) (by decide) ?_
                    refine g_goto hF 168 (dck_at tX7_loses 90 rfl) (by decide) ?_
                    cases h
                    refine g_msk [false, false, false, false, false, true] (L' := [none, none, none, none, none, none]) rfl ?_
                    exact K168
              · replace h := ite_t hc117 h
                refine g_iload_n hF (dck_at tX7_loses 75 rfl) rfl ?_
                refine g_if_le hF 134 (dck_at tX7_loses 76 rfl) (by decide) (fun hc121 => ?_) (fun hc121 => ?_)
                · replace h := ite_t hc121 h
                  refine g_iconst (v := 0) hF (dck_at tX7_loses 82 rfl) (by decide) ?_
                  refine g_goto hF 168 (dck_at tX7_loses 83 rfl) (by decide) ?_
                  cases h
                  refine g_msk [false, false, false, false, false, true] (L' := [none, none, none, none, none, none]) rfl ?_
                  exact K168
                · replace h := ite_f hc121 h
                  refine g_iload hF (dck_at tX7_loses 77 rfl) rfl ?_
                  refine g_iload_n hF (dck_at tX7_loses 78 rfl) rfl ?_
                  refine g_icmp_ne hF 134 (dck_at tX7_loses 79 rfl) (by decide) (fun hc127 => ?_) (fun hc127 => ?_)
                  · replace h := ite_f hc127 h
                    refine g_iconst (v := 0) hF (dck_at tX7_loses 82 rfl) (by decide) ?_
                    refine g_goto hF 168 (dck_at tX7_loses 83 rfl) (by decide) ?_
                    cases h
                    refine g_msk [false, false, false, false, false, true] (L' := [none, none, none, none, none, none]) rfl ?_
                    exact K168
                  · replace h := ite_t hc127 h
                    refine g_iconst (v := 1) hF (dck_at tX7_loses 80 rfl) (by decide) ?_
                    refine g_goto hF 168 (dck_at tX7_loses 81 rfl) (by decide) ?_
                    cases h
                    refine g_msk [false, false, false, false, false, true] (L' := [none, none, none, none, none, none]) rfl ?_
                    exact K168
            · replace h := ite_t hc86 h
              refine g_aload_n hF (dck_at tX7_loses 56 rfl) rfl ?_
              refine gf_X7_19 hF (hM 70 (by decide) (by decide)) kdc_70 lnc_70 (dck_at tX7_loses 57 rfl) ?_
              refine g_bipush (v := 6) hF (dck_at tX7_loses 58 rfl) (by decide) ?_
              refine g_iload_n hF (dck_at tX7_loses 59 rfl) rfl ?_
              refine g_iadd hF (dck_at tX7_loses 60 rfl) ?_
              obtain ⟨hg97, h⟩ := gd h
              refine g_ia hF (hM 74 (by decide) (by decide)) kdc_74 lnc_74 hg97 (dck_at tX7_loses 61 rfl) ?_
              show G X F 98 _ _ _
              refine g_iconst (v := 2) hF (dck_at tX7_loses 62 rfl) (by decide) ?_
              refine g_icmp_ge hF 114 (dck_at tX7_loses 63 rfl) (by decide) (fun hc99 => ?_) (fun hc99 => ?_)
              · replace h := ite_t hc99 h
                refine g_iconst (v := 2) hF (dck_at tX7_loses 71 rfl) (by decide) ?_
                cases h
                exact g_iret hF hR (dck_at tX7_loses 72 rfl)
              · replace h := ite_f hc99 h
                refine g_aload_n hF (dck_at tX7_loses 64 rfl) rfl ?_
                refine gf_X7_19 hF (hM 70 (by decide) (by decide)) kdc_70 lnc_70 (dck_at tX7_loses 65 rfl) ?_
                refine g_bipush (v := 6) hF (dck_at tX7_loses 66 rfl) (by decide) ?_
                refine g_iload_n hF (dck_at tX7_loses 67 rfl) rfl ?_
                refine g_iadd hF (dck_at tX7_loses 68 rfl) ?_
                obtain ⟨hg110, h⟩ := gd h
                refine g_ia hF (hM 74 (by decide) (by decide)) kdc_74 lnc_74 hg110 (dck_at tX7_loses 69 rfl) ?_
                show G X F 111 _ _ _
                refine g_goto hF 115 (dck_at tX7_loses 70 rfl) (by decide) ?_
                cases h
                exact g_iret hF hR (dck_at tX7_loses 72 rfl)
          refine g_if_eq hF 80 (dck_at tX7_loses 47 rfl) (by decide) (fun hc73 => ?_) (fun hc73 => ?_)
          · refine g_iconst (v := 0) hF (dck_at tX7_loses 50 rfl) (by decide) ?_
            simp only [if_pos hc73] at K81
            exact K81
          · refine g_iconst (v := 1) hF (dck_at tX7_loses 48 rfl) (by decide) ?_
            refine g_goto hF 81 (dck_at tX7_loses 49 rfl) (by decide) ?_
            simp only [if_neg hc73] at K81
            exact K81
        refine g_if_eq hF 65 (dck_at tX7_loses 38 rfl) (by decide) (fun hc58 => ?_) (fun hc58 => ?_)
        · refine g_iconst (v := 0) hF (dck_at tX7_loses 41 rfl) (by decide) ?_
          simp only [if_pos hc58] at K66
          exact K66
        · refine g_iconst (v := 1) hF (dck_at tX7_loses 39 rfl) (by decide) ?_
          refine g_goto hF 66 (dck_at tX7_loses 40 rfl) (by decide) ?_
          simp only [if_neg hc58] at K66
          exact K66
      refine g_if_eq hF 48 (dck_at tX7_loses 27 rfl) (by decide) (fun hc41 => ?_) (fun hc41 => ?_)
      · refine g_iconst (v := 0) hF (dck_at tX7_loses 30 rfl) (by decide) ?_
        simp only [if_pos hc41] at K49
        exact K49
      · refine g_iconst (v := 1) hF (dck_at tX7_loses 28 rfl) (by decide) ?_
        refine g_goto hF 49 (dck_at tX7_loses 29 rfl) (by decide) ?_
        simp only [if_neg hc41] at K49
        exact K49
    refine g_if_eq hF 33 (dck_at tX7_loses 18 rfl) (by decide) (fun hc26 => ?_) (fun hc26 => ?_)
    · refine g_iconst (v := 0) hF (dck_at tX7_loses 21 rfl) (by decide) ?_
      simp only [if_pos hc26] at K34
      exact K34
    · refine g_iconst (v := 1) hF (dck_at tX7_loses 19 rfl) (by decide) ?_
      refine g_goto hF 34 (dck_at tX7_loses 20 rfl) (by decide) ?_
      simp only [if_neg hc26] at K34
      exact K34
  · replace h := ite_t hc5 h
    refine g_iconst (v := 0) hF (dck_at tX7_loses 4 rfl) (by decide) ?_
    cases h
    exact g_iret hF hR (dck_at tX7_loses 5 rfl)

def tbX7_as : List (Nat × Instr × Nat) := [(0, .aload_n 0, 1), (1, .iload_n 1, 1), (2, .invokevirtual 114, 3), (5, .ifCond .ne 6, 3), (8, .bipush (-2), 2), (10, .ireturn, 1), (11, .iload_n 2, 1), (12, .iconst 0, 1), (13, .iconst 4, 1), (14, .invokestatic 53, 3), (17, .ifCond .ne 6, 3), (20, .bipush (-3), 2), (22, .ireturn, 1), (23, .aload_n 0, 1), (24, .getfield 13, 3), (27, .iconst 5, 1), (28, .iload_n 1, 1), (29, .iadd, 1), (30, .iaload, 1), (31, .istore_n 3, 1), (32, .iload_n 2, 1), (33, .ifCond .eq 40, 3), (36, .iload_n 3, 1), (37, .iconst 2, 1), (38, .if_icmp .ne 11, 3), (41, .iload_n 2, 1), (42, .iconst 3, 1), (43, .if_icmp .ne 34, 3), (46, .goto 27, 3), (49, .iload_n 2, 1), (50, .iconst 1, 1), (51, .if_icmp .eq 22, 3), (54, .iload_n 2, 1), (55, .iconst 2, 1), (56, .if_icmp .ne 7, 3), (59, .iload_n 3, 1), (60, .ifCond .ne 13, 3), (63, .iload_n 2, 1), (64, .iconst 4, 1), (65, .if_icmp .ne 12, 3), (68, .iload_n 3, 1), (69, .iconst 3, 1), (70, .if_icmp .ne 7, 3), (73, .iconst 1, 1), (74, .goto 4, 3), (77, .iconst 0, 1), (78, .istore 4, 2), (80, .iload 4, 2), (82, .ifCond .eq 11, 3), (85, .aload_n 0, 1), (86, .iload_n 1, 1), (87, .invokevirtual 129, 3), (90, .goto 5, 3), (93, .bipush (-4), 2), (95, .ireturn, 1)]
theorem tX7_as : dck cX7_as tbX7_as = true := by decide +kernel
def f_X7_as (N : Nat) (M : Mem) (x1 : Int32) (x2 : Int32) : Option Int32 := (f_X7_isClapper N M x1).bind fun q2 => (if q2 = 0 then some (-2 : Int32) else (f_X7_in N M x2 (0 : Int32) (4 : Int32)).bind fun q14 => (if q14 = 0 then some (-3 : Int32) else if inb ((5 : Int32) + x1) 45 = true then (if (if x2 = 0 then (1 : Int32) else (if (M 72 ((5 : Int32) + x1).toNatClampNeg) = (2 : Int32) then (if x2 = (3 : Int32) then (1 : Int32) else (0 : Int32)) else (if x2 = (1 : Int32) then (1 : Int32) else (if x2 = (2 : Int32) then (if (M 72 ((5 : Int32) + x1).toNatClampNeg) = 0 then (if x2 = (4 : Int32) then (if (M 72 ((5 : Int32) + x1).toNatClampNeg) = (3 : Int32) then (1 : Int32) else (0 : Int32)) else (0 : Int32)) else (1 : Int32)) else (if x2 = (4 : Int32) then (if (M 72 ((5 : Int32) + x1).toNatClampNeg) = (3 : Int32) then (1 : Int32) else (0 : Int32)) else (0 : Int32)))))) = 0 then some (-4 : Int32) else (f_X7_loses N M x1).bind fun q87 => some q87) else none))
set_option maxHeartbeats 4000000 in
set_option maxRecDepth 100000 in
theorem c_X7_as {X : Cx} {l : Launch} (hX : CxOk X) (hM : SM X) {N : Nat} {M : Mem} {x1 : Int32} {x2 : Int32} {r : Int32} (h : f_X7_as N M x1 x2 = some r) : Ctr X l yX7_as cX7_as 5 (some .int) 6 [.ref 70, .int x1, .int x2] M (some (.int r)) M := by
  refine Ctr.ofG (L := [some (.ref 70), some (.int x1), some (.int x2), none, none]) hX (by decide) (Nat.le_of_ble_eq_true rfl) rfl (fun F hF hl hR => ?_)
  subst hl
  unfold f_X7_as at h
  refine g_aload_n hF (dck_at tX7_as 0 rfl) rfl ?_
  refine g_iload_n hF (dck_at tX7_as 1 rfl) rfl ?_
  obtain ⟨q2, e2, h⟩ := bd h
  refine g_callV hF (as := [.int x1]) (k := 70) rfl (by decide) wm_X7_114 wi_X7_isClapper we_X7_isClapper wc_X7_isClapper wn_X7 hyX7_isClapper (by decide) (hM 70 (by decide) (by decide)) kdc_70 (c_X7_isClapper hF.2.2.2.2.2.2.2.1 hM e2) (by decide) rfl rfl rfl rfl (dck_at tX7_as 2 rfl) ?_
  show G X F 5 _ [.int q2] M
  refine g_if_ne hF 11 (dck_at tX7_as 3 rfl) (by decide) (fun hc5 => ?_) (fun hc5 => ?_)
  · replace h := ite_f hc5 h
    refine g_iload_n hF (dck_at tX7_as 6 rfl) rfl ?_
    refine g_iconst (v := 0) hF (dck_at tX7_as 7 rfl) (by decide) ?_
    refine g_iconst (v := 4) hF (dck_at tX7_as 8 rfl) (by decide) ?_
    obtain ⟨q14, e14, h⟩ := bd h
    refine g_callS hF (as := [.int x2, .int (0 : Int32), .int (4 : Int32)]) wm_X7_53 wt_X7_in wc_X7_in wn_X7 hyX7_in (by decide) (c_X7_in hF.2.2.2.2.2.2.2.1 e14) (by decide) rfl rfl rfl rfl (dck_at tX7_as 9 rfl) ?_
    show G X F 17 _ [.int q14] M
    refine g_if_ne hF 23 (dck_at tX7_as 10 rfl) (by decide) (fun hc17 => ?_) (fun hc17 => ?_)
    · replace h := ite_f hc17 h
      refine g_aload_n hF (dck_at tX7_as 13 rfl) rfl ?_
      refine gf_X7_13 hF (hM 70 (by decide) (by decide)) kdc_70 lnc_70 (dck_at tX7_as 14 rfl) ?_
      refine g_iconst (v := 5) hF (dck_at tX7_as 15 rfl) (by decide) ?_
      refine g_iload_n hF (dck_at tX7_as 16 rfl) rfl ?_
      refine g_iadd hF (dck_at tX7_as 17 rfl) ?_
      obtain ⟨hg30, h⟩ := gd h
      refine g_ia hF (hM 72 (by decide) (by decide)) kdc_72 lnc_72 hg30 (dck_at tX7_as 18 rfl) ?_
      show G X F 31 _ _ _
      refine g_istore_n (L' := [some (.ref 70), some (.int x1), some (.int x2), some (.int (M 72 ((5 : Int32) + x1).toNatClampNeg)), none]) hF (dck_at tX7_as 19 rfl) (Nat.le_of_ble_eq_true rfl) rfl ?_
      refine g_iload_n hF (dck_at tX7_as 20 rfl) rfl ?_
      have K78 : G X F 78 [some (.ref 70), some (.int x1), none, none, none] [.int (if x2 = 0 then (1 : Int32) else (if (M 72 ((5 : Int32) + x1).toNatClampNeg) = (2 : Int32) then (if x2 = (3 : Int32) then (1 : Int32) else (0 : Int32)) else (if x2 = (1 : Int32) then (1 : Int32) else (if x2 = (2 : Int32) then (if (M 72 ((5 : Int32) + x1).toNatClampNeg) = 0 then (if x2 = (4 : Int32) then (if (M 72 ((5 : Int32) + x1).toNatClampNeg) = (3 : Int32) then (1 : Int32) else (0 : Int32)) else (0 : Int32)) else (1 : Int32)) else (if x2 = (4 : Int32) then (if (M 72 ((5 : Int32) + x1).toNatClampNeg) = (3 : Int32) then (1 : Int32) else (0 : Int32)) else (0 : Int32))))))] M := by
        refine g_istore (L' := [some (.ref 70), some (.int x1), none, none, some (.int (if x2 = 0 then (1 : Int32) else (if (M 72 ((5 : Int32) + x1).toNatClampNeg) = (2 : Int32) then (if x2 = (3 : Int32) then (1 : Int32) else (0 : Int32)) else (if x2 = (1 : Int32) then (1 : Int32) else (if x2 = (2 : Int32) then (if (M 72 ((5 : Int32) + x1).toNatClampNeg) = 0 then (if x2 = (4 : Int32) then (if (M 72 ((5 : Int32) + x1).toNatClampNeg) = (3 : Int32) then (1 : Int32) else (0 : Int32)) else (0 : Int32)) else (1 : Int32)) else (if x2 = (4 : Int32) then (if (M 72 ((5 : Int32) + x1).toNatClampNeg) = (3 : Int32) then (1 : Int32) else (0 : Int32)) else (0 : Int32)))))))]) hF (dck_at tX7_as 46 rfl) (Nat.le_of_ble_eq_true rfl) rfl ?_
        refine g_iload hF (dck_at tX7_as 47 rfl) rfl ?_
        refine g_if_eq hF 93 (dck_at tX7_as 48 rfl) (by decide) (fun hc82 => ?_) (fun hc82 => ?_)
        · replace h := ite_t hc82 h
          refine g_bipush (v := -4) hF (dck_at tX7_as 53 rfl) (by decide) ?_
          cases h
          exact g_iret hF hR (dck_at tX7_as 54 rfl)
        · replace h := ite_f hc82 h
          refine g_aload_n hF (dck_at tX7_as 49 rfl) rfl ?_
          refine g_iload_n hF (dck_at tX7_as 50 rfl) rfl ?_
          obtain ⟨q87, e87, h⟩ := bd h
          refine g_callV hF (as := [.int x1]) (k := 70) rfl (by decide) wm_X7_129 wi_X7_loses we_X7_loses wc_X7_loses wn_X7 hyX7_loses (by decide) (hM 70 (by decide) (by decide)) kdc_70 (c_X7_loses hF.2.2.2.2.2.2.2.1 hM e87) (by decide) rfl rfl rfl rfl (dck_at tX7_as 51 rfl) ?_
          show G X F 90 _ [.int q87] M
          refine g_goto hF 95 (dck_at tX7_as 52 rfl) (by decide) ?_
          cases h
          exact g_iret hF hR (dck_at tX7_as 54 rfl)
      refine g_if_eq hF 73 (dck_at tX7_as 21 rfl) (by decide) (fun hc33 => ?_) (fun hc33 => ?_)
      · refine g_iconst (v := 1) hF (dck_at tX7_as 43 rfl) (by decide) ?_
        refine g_goto hF 78 (dck_at tX7_as 44 rfl) (by decide) ?_
        refine g_msk [true, true, false, false, true] (L' := [some (.ref 70), some (.int x1), none, none, none]) rfl ?_
        simp only [if_pos hc33] at K78
        exact K78
      · refine g_iload_n hF (dck_at tX7_as 22 rfl) rfl ?_
        refine g_iconst (v := 2) hF (dck_at tX7_as 23 rfl) (by decide) ?_
        refine g_icmp_ne hF 49 (dck_at tX7_as 24 rfl) (by decide) (fun hc38 => ?_) (fun hc38 => ?_)
        · refine g_iload_n hF (dck_at tX7_as 29 rfl) rfl ?_
          refine g_iconst (v := 1) hF (dck_at tX7_as 30 rfl) (by decide) ?_
          refine g_icmp_eq hF 73 (dck_at tX7_as 31 rfl) (by decide) (fun hc51 => ?_) (fun hc51 => ?_)
          · refine g_iconst (v := 1) hF (dck_at tX7_as 43 rfl) (by decide) ?_
            refine g_goto hF 78 (dck_at tX7_as 44 rfl) (by decide) ?_
            refine g_msk [true, true, false, false, true] (L' := [some (.ref 70), some (.int x1), none, none, none]) rfl ?_
            simp only [if_neg hc33, if_neg hc38, if_pos hc51] at K78
            exact K78
          · refine g_iload_n hF (dck_at tX7_as 32 rfl) rfl ?_
            refine g_iconst (v := 2) hF (dck_at tX7_as 33 rfl) (by decide) ?_
            refine g_icmp_ne hF 63 (dck_at tX7_as 34 rfl) (by decide) (fun hc56 => ?_) (fun hc56 => ?_)
            · refine g_iload_n hF (dck_at tX7_as 37 rfl) rfl ?_
              refine g_iconst (v := 4) hF (dck_at tX7_as 38 rfl) (by decide) ?_
              refine g_icmp_ne hF 77 (dck_at tX7_as 39 rfl) (by decide) (fun hc65 => ?_) (fun hc65 => ?_)
              · refine g_iconst (v := 0) hF (dck_at tX7_as 45 rfl) (by decide) ?_
                refine g_msk [true, true, false, false, true] (L' := [some (.ref 70), some (.int x1), none, none, none]) rfl ?_
                simp only [if_neg hc33, if_neg hc38, if_neg hc51, if_neg hc56, if_neg hc65] at K78
                exact K78
              · refine g_iload_n hF (dck_at tX7_as 40 rfl) rfl ?_
                refine g_iconst (v := 3) hF (dck_at tX7_as 41 rfl) (by decide) ?_
                refine g_icmp_ne hF 77 (dck_at tX7_as 42 rfl) (by decide) (fun hc70 => ?_) (fun hc70 => ?_)
                · refine g_iconst (v := 0) hF (dck_at tX7_as 45 rfl) (by decide) ?_
                  refine g_msk [true, true, false, false, true] (L' := [some (.ref 70), some (.int x1), none, none, none]) rfl ?_
                  simp only [if_neg hc33, if_neg hc38, if_neg hc51, if_neg hc56, if_pos hc65, if_neg hc70] at K78
                  exact K78
                · refine g_iconst (v := 1) hF (dck_at tX7_as 43 rfl) (by decide) ?_
                  refine g_goto hF 78 (dck_at tX7_as 44 rfl) (by decide) ?_
                  refine g_msk [true, true, false, false, true] (L' := [some (.ref 70), some (.int x1), none, none, none]) rfl ?_
                  simp only [if_neg hc33, if_neg hc38, if_neg hc51, if_neg hc56, if_pos hc65, if_pos hc70] at K78
                  exact K78
            · refine g_iload_n hF (dck_at tX7_as 35 rfl) rfl ?_
              refine g_if_ne hF 73 (dck_at tX7_as 36 rfl) (by decide) (fun hc60 => ?_) (fun hc60 => ?_)
              · refine g_iconst (v := 1) hF (dck_at tX7_as 43 rfl) (by decide) ?_
                refine g_goto hF 78 (dck_at tX7_as 44 rfl) (by decide) ?_
                refine g_msk [true, true, false, false, true] (L' := [some (.ref 70), some (.int x1), none, none, none]) rfl ?_
                simp only [if_neg hc33, if_neg hc38, if_neg hc51, if_pos hc56, if_neg hc60] at K78
                exact K78
              · refine g_iload_n hF (dck_at tX7_as 37 rfl) rfl ?_
                refine g_iconst (v := 4) hF (dck_at tX7_as 38 rfl) (by decide) ?_
                refine g_icmp_ne hF 77 (dck_at tX7_as 39 rfl) (by decide) (fun hc65 => ?_) (fun hc65 => ?_)
                · refine g_iconst (v := 0) hF (dck_at tX7_as 45 rfl) (by decide) ?_
                  refine g_msk [true, true, false, false, true] (L' := [some (.ref 70), some (.int x1), none, none, none]) rfl ?_
                  simp only [if_neg hc33, if_neg hc38, if_neg hc51, if_pos hc56, if_pos hc60, if_neg hc65] at K78
                  exact K78
                · refine g_iload_n hF (dck_at tX7_as 40 rfl) rfl ?_
                  refine g_iconst (v := 3) hF (dck_at tX7_as 41 rfl) (by decide) ?_
                  refine g_icmp_ne hF 77 (dck_at tX7_as 42 rfl) (by decide) (fun hc70 => ?_) (fun hc70 => ?_)
                  · refine g_iconst (v := 0) hF (dck_at tX7_as 45 rfl) (by decide) ?_
                    refine g_msk [true, true, false, false, true] (L' := [some (.ref 70), some (.int x1), none, none, none]) rfl ?_
                    simp only [if_neg hc33, if_neg hc38, if_neg hc51, if_pos hc56, if_pos hc60, if_pos hc65, if_neg hc70] at K78
                    exact K78
                  · refine g_iconst (v := 1) hF (dck_at tX7_as 43 rfl) (by decide) ?_
                    refine g_goto hF 78 (dck_at tX7_as 44 rfl) (by decide) ?_
                    refine g_msk [true, true, false, false, true] (L' := [some (.ref 70), some (.int x1), none, none, none]) rfl ?_
                    simp only [if_neg hc33, if_neg hc38, if_neg hc51, if_pos hc56, if_pos hc60, if_pos hc65, if_pos hc70] at K78
                    exact K78
        · refine g_iload_n hF (dck_at tX7_as 25 rfl) rfl ?_
          refine g_iconst (v := 3) hF (dck_at tX7_as 26 rfl) (by decide) ?_
          refine g_icmp_ne hF 77 (dck_at tX7_as 27 rfl) (by decide) (fun hc43 => ?_) (fun hc43 => ?_)
          · refine g_iconst (v := 0) hF (dck_at tX7_as 45 rfl) (by decide) ?_
            refine g_msk [true, true, false, false, true] (L' := [some (.ref 70), some (.int x1), none, none, none]) rfl ?_
            simp only [if_neg hc33, if_pos hc38, if_neg hc43] at K78
            exact K78
          · refine g_goto hF 73 (dck_at tX7_as 28 rfl) (by decide) ?_
            refine g_iconst (v := 1) hF (dck_at tX7_as 43 rfl) (by decide) ?_
            refine g_goto hF 78 (dck_at tX7_as 44 rfl) (by decide) ?_
            refine g_msk [true, true, false, false, true] (L' := [some (.ref 70), some (.int x1), none, none, none]) rfl ?_
            simp only [if_neg hc33, if_pos hc38, if_pos hc43] at K78
            exact K78
    · replace h := ite_t hc17 h
      refine g_bipush (v := -3) hF (dck_at tX7_as 11 rfl) (by decide) ?_
      cases h
      exact g_iret hF hR (dck_at tX7_as 12 rfl)
  · replace h := ite_t hc5 h
    refine g_bipush (v := -2) hF (dck_at tX7_as 4 rfl) (by decide) ?_
    cases h
    exact g_iret hF hR (dck_at tX7_as 5 rfl)

def tbX7_behind : List (Nat × Instr × Nat) := [(0, .iload_n 0, 1), (1, .ifCond .ne 17, 3), (4, .iload_n 1, 1), (5, .ifCond .le 9, 3), (8, .iload_n 1, 1), (9, .iconst 2, 1), (10, .iadd, 1), (11, .goto 30, 3), (14, .iload_n 1, 1), (15, .goto 26, 3), (18, .iload_n 0, 1), (19, .iconst 1, 1), (20, .if_icmp .ne 9, 3), (23, .iload_n 1, 1), (24, .iconst 2, 1), (25, .idiv, 1), (26, .goto 15, 3), (29, .iload_n 0, 1), (30, .iconst 2, 1), (31, .if_icmp .ne 9, 3), (34, .iload_n 1, 1), (35, .iconst 5, 1), (36, .iadd, 1), (37, .goto 4, 3), (40, .iload_n 2, 1), (41, .istore_n 3, 1), (42, .iload_n 3, 1), (43, .bipush 40, 2), (45, .if_icmp .le 8, 3), (48, .bipush 40, 2), (50, .goto 4, 3), (53, .iload_n 3, 1), (54, .ireturn, 1)]
theorem tX7_behind : dck cX7_behind tbX7_behind = true := by decide +kernel
def f_X7_behind (N : Nat) (M : Mem) (x0 : Int32) (x1 : Int32) (x2 : Int32) : Option Int32 := (if (if x0 = 0 then (if x1 ≤ 0 then x1 else (x1 + (2 : Int32))) else (if x0 = (1 : Int32) then (x1 / (2 : Int32)) else (if x0 = (2 : Int32) then (x1 + (5 : Int32)) else x2))) ≤ (40 : Int32) then some (if x0 = 0 then (if x1 ≤ 0 then x1 else (x1 + (2 : Int32))) else (if x0 = (1 : Int32) then (x1 / (2 : Int32)) else (if x0 = (2 : Int32) then (x1 + (5 : Int32)) else x2))) else some (40 : Int32))
set_option maxHeartbeats 4000000 in
set_option maxRecDepth 100000 in
theorem c_X7_behind {X : Cx} {l : Launch} (hX : CxOk X) {N : Nat} {M : Mem} {x0 : Int32} {x1 : Int32} {x2 : Int32} {r : Int32} (h : f_X7_behind N M x0 x1 x2 = some r) : Ctr X l yX7_behind cX7_behind 4 (some .int) 1 [.int x0, .int x1, .int x2] M (some (.int r)) M := by
  refine Ctr.ofG (L := [some (.int x0), some (.int x1), some (.int x2), none]) hX (by decide) (Nat.le_of_ble_eq_true rfl) rfl (fun F hF hl hR => ?_)
  subst hl
  unfold f_X7_behind at h
  refine g_iload_n hF (dck_at tX7_behind 0 rfl) rfl ?_
  have K41 : G X F 41 [none, none, none, none] [.int (if x0 = 0 then (if x1 ≤ 0 then x1 else (x1 + (2 : Int32))) else (if x0 = (1 : Int32) then (x1 / (2 : Int32)) else (if x0 = (2 : Int32) then (x1 + (5 : Int32)) else x2)))] M := by
    refine g_istore_n (L' := [none, none, none, some (.int (if x0 = 0 then (if x1 ≤ 0 then x1 else (x1 + (2 : Int32))) else (if x0 = (1 : Int32) then (x1 / (2 : Int32)) else (if x0 = (2 : Int32) then (x1 + (5 : Int32)) else x2))))]) hF (dck_at tX7_behind 25 rfl) (Nat.le_of_ble_eq_true rfl) rfl ?_
    refine g_iload_n hF (dck_at tX7_behind 26 rfl) rfl ?_
    refine g_bipush (v := 40) hF (dck_at tX7_behind 27 rfl) (by decide) ?_
    refine g_icmp_le hF 53 (dck_at tX7_behind 28 rfl) (by decide) (fun hc45 => ?_) (fun hc45 => ?_)
    · replace h := ite_t hc45 h
      refine g_iload_n hF (dck_at tX7_behind 31 rfl) rfl ?_
      cases h
      exact g_iret hF hR (dck_at tX7_behind 32 rfl)
    · replace h := ite_f hc45 h
      refine g_bipush (v := 40) hF (dck_at tX7_behind 29 rfl) (by decide) ?_
      refine g_goto hF 54 (dck_at tX7_behind 30 rfl) (by decide) ?_
      cases h
      exact g_iret hF hR (dck_at tX7_behind 32 rfl)
  refine g_if_ne hF 18 (dck_at tX7_behind 1 rfl) (by decide) (fun hc1 => ?_) (fun hc1 => ?_)
  · refine g_iload_n hF (dck_at tX7_behind 10 rfl) rfl ?_
    refine g_iconst (v := 1) hF (dck_at tX7_behind 11 rfl) (by decide) ?_
    refine g_icmp_ne hF 29 (dck_at tX7_behind 12 rfl) (by decide) (fun hc20 => ?_) (fun hc20 => ?_)
    · refine g_iload_n hF (dck_at tX7_behind 17 rfl) rfl ?_
      refine g_iconst (v := 2) hF (dck_at tX7_behind 18 rfl) (by decide) ?_
      refine g_icmp_ne hF 40 (dck_at tX7_behind 19 rfl) (by decide) (fun hc31 => ?_) (fun hc31 => ?_)
      · refine g_iload_n hF (dck_at tX7_behind 24 rfl) rfl ?_
        refine g_msk [false, false, false, true] (L' := [none, none, none, none]) rfl ?_
        simp only [if_neg hc1, if_neg hc20, if_neg hc31] at K41
        exact K41
      · refine g_iload_n hF (dck_at tX7_behind 20 rfl) rfl ?_
        refine g_iconst (v := 5) hF (dck_at tX7_behind 21 rfl) (by decide) ?_
        refine g_iadd hF (dck_at tX7_behind 22 rfl) ?_
        refine g_goto hF 41 (dck_at tX7_behind 23 rfl) (by decide) ?_
        refine g_msk [false, false, false, true] (L' := [none, none, none, none]) rfl ?_
        simp only [if_neg hc1, if_neg hc20, if_pos hc31] at K41
        exact K41
    · refine g_iload_n hF (dck_at tX7_behind 13 rfl) rfl ?_
      refine g_iconst (v := 2) hF (dck_at tX7_behind 14 rfl) (by decide) ?_
      refine g_idiv hF (dck_at tX7_behind 15 rfl) (by decide) ?_
      refine g_goto hF 41 (dck_at tX7_behind 16 rfl) (by decide) ?_
      refine g_msk [false, false, false, true] (L' := [none, none, none, none]) rfl ?_
      simp only [if_neg hc1, if_pos hc20] at K41
      exact K41
  · refine g_iload_n hF (dck_at tX7_behind 2 rfl) rfl ?_
    refine g_if_le hF 14 (dck_at tX7_behind 3 rfl) (by decide) (fun hc5 => ?_) (fun hc5 => ?_)
    · refine g_iload_n hF (dck_at tX7_behind 8 rfl) rfl ?_
      refine g_goto hF 41 (dck_at tX7_behind 9 rfl) (by decide) ?_
      refine g_msk [false, false, false, true] (L' := [none, none, none, none]) rfl ?_
      simp only [if_pos hc1, if_pos hc5] at K41
      exact K41
    · refine g_iload_n hF (dck_at tX7_behind 4 rfl) rfl ?_
      refine g_iconst (v := 2) hF (dck_at tX7_behind 5 rfl) (by decide) ?_
      refine g_iadd hF (dck_at tX7_behind 6 rfl) ?_
      refine g_goto hF 41 (dck_at tX7_behind 7 rfl) (by decide) ?_
      refine g_msk [false, false, false, true] (L' := [none, none, none, none]) rfl ?_
      simp only [if_pos hc1, if_neg hc5] at K41
      exact K41

def tbX7_encoreAs : List (Nat × Instr × Nat) := [(0, .aload_n 0, 1), (1, .iload_n 1, 1), (2, .invokevirtual 123, 3), (5, .ifCond .ne 6, 3), (8, .bipush (-2), 2), (10, .ireturn, 1), (11, .iload_n 2, 1), (12, .iconst 0, 1), (13, .iconst 4, 1), (14, .invokestatic 53, 3), (17, .ifCond .ne 6, 3), (20, .bipush (-3), 2), (22, .ireturn, 1), (23, .aload_n 0, 1), (24, .getfield 13, 3), (27, .bipush 29, 2), (29, .iload_n 1, 1), (30, .iadd, 1), (31, .iaload, 1), (32, .istore_n 3, 1), (33, .iload_n 2, 1), (34, .ifCond .eq 40, 3), (37, .iload_n 3, 1), (38, .iconst 1, 1), (39, .if_icmp .ne 11, 3), (42, .iload_n 2, 1), (43, .iconst 2, 1), (44, .if_icmp .ne 34, 3), (47, .goto 27, 3), (50, .iload_n 2, 1), (51, .iconst 1, 1), (52, .if_icmp .eq 22, 3), (55, .iload_n 2, 1), (56, .iconst 3, 1), (57, .if_icmp .ne 7, 3), (60, .iload_n 3, 1), (61, .ifCond .ne 13, 3), (64, .iload_n 2, 1), (65, .iconst 4, 1), (66, .if_icmp .ne 12, 3), (69, .iload_n 3, 1), (70, .iconst 3, 1), (71, .if_icmp .ne 7, 3), (74, .iconst 1, 1), (75, .goto 4, 3), (78, .iconst 0, 1), (79, .istore 4, 2), (81, .iload 4, 2), (83, .ifCond .eq 14, 3), (86, .iload_n 3, 1), (87, .bipush 7, 2), (89, .bipush 9, 2), (91, .invokestatic 132, 3), (94, .goto 5, 3), (97, .bipush (-4), 2), (99, .ireturn, 1)]
theorem tX7_encoreAs : dck cX7_encoreAs tbX7_encoreAs = true := by decide +kernel
def f_X7_encoreAs (N : Nat) (M : Mem) (x1 : Int32) (x2 : Int32) : Option Int32 := (f_X7_isEncore N M x1).bind fun q2 => (if q2 = 0 then some (-2 : Int32) else (f_X7_in N M x2 (0 : Int32) (4 : Int32)).bind fun q14 => (if q14 = 0 then some (-3 : Int32) else if inb ((29 : Int32) + x1) 45 = true then (if (if x2 = 0 then (1 : Int32) else (if (M 72 ((29 : Int32) + x1).toNatClampNeg) = (1 : Int32) then (if x2 = (2 : Int32) then (1 : Int32) else (0 : Int32)) else (if x2 = (1 : Int32) then (1 : Int32) else (if x2 = (3 : Int32) then (if (M 72 ((29 : Int32) + x1).toNatClampNeg) = 0 then (if x2 = (4 : Int32) then (if (M 72 ((29 : Int32) + x1).toNatClampNeg) = (3 : Int32) then (1 : Int32) else (0 : Int32)) else (0 : Int32)) else (1 : Int32)) else (if x2 = (4 : Int32) then (if (M 72 ((29 : Int32) + x1).toNatClampNeg) = (3 : Int32) then (1 : Int32) else (0 : Int32)) else (0 : Int32)))))) = 0 then some (-4 : Int32) else (f_X7_behind N M (M 72 ((29 : Int32) + x1).toNatClampNeg) (7 : Int32) (9 : Int32)).bind fun q91 => some q91) else none))
set_option maxHeartbeats 4000000 in
set_option maxRecDepth 100000 in
theorem c_X7_encoreAs {X : Cx} {l : Launch} (hX : CxOk X) (hM : SM X) {N : Nat} {M : Mem} {x1 : Int32} {x2 : Int32} {r : Int32} (h : f_X7_encoreAs N M x1 x2 = some r) : Ctr X l yX7_encoreAs cX7_encoreAs 5 (some .int) 3 [.ref 70, .int x1, .int x2] M (some (.int r)) M := by
  refine Ctr.ofG (L := [some (.ref 70), some (.int x1), some (.int x2), none, none]) hX (by decide) (Nat.le_of_ble_eq_true rfl) rfl (fun F hF hl hR => ?_)
  subst hl
  unfold f_X7_encoreAs at h
  refine g_aload_n hF (dck_at tX7_encoreAs 0 rfl) rfl ?_
  refine g_iload_n hF (dck_at tX7_encoreAs 1 rfl) rfl ?_
  obtain ⟨q2, e2, h⟩ := bd h
  refine g_callV hF (as := [.int x1]) (k := 70) rfl (by decide) wm_X7_123 wi_X7_isEncore we_X7_isEncore wc_X7_isEncore wn_X7 hyX7_isEncore (by decide) (hM 70 (by decide) (by decide)) kdc_70 (c_X7_isEncore hF.2.2.2.2.2.2.2.1 hM e2) (by decide) rfl rfl rfl rfl (dck_at tX7_encoreAs 2 rfl) ?_
  show G X F 5 _ [.int q2] M
  refine g_if_ne hF 11 (dck_at tX7_encoreAs 3 rfl) (by decide) (fun hc5 => ?_) (fun hc5 => ?_)
  · replace h := ite_f hc5 h
    refine g_iload_n hF (dck_at tX7_encoreAs 6 rfl) rfl ?_
    refine g_iconst (v := 0) hF (dck_at tX7_encoreAs 7 rfl) (by decide) ?_
    refine g_iconst (v := 4) hF (dck_at tX7_encoreAs 8 rfl) (by decide) ?_
    obtain ⟨q14, e14, h⟩ := bd h
    refine g_callS hF (as := [.int x2, .int (0 : Int32), .int (4 : Int32)]) wm_X7_53 wt_X7_in wc_X7_in wn_X7 hyX7_in (by decide) (c_X7_in hF.2.2.2.2.2.2.2.1 e14) (by decide) rfl rfl rfl rfl (dck_at tX7_encoreAs 9 rfl) ?_
    show G X F 17 _ [.int q14] M
    refine g_if_ne hF 23 (dck_at tX7_encoreAs 10 rfl) (by decide) (fun hc17 => ?_) (fun hc17 => ?_)
    · replace h := ite_f hc17 h
      refine g_aload_n hF (dck_at tX7_encoreAs 13 rfl) rfl ?_
      refine gf_X7_13 hF (hM 70 (by decide) (by decide)) kdc_70 lnc_70 (dck_at tX7_encoreAs 14 rfl) ?_
      refine g_bipush (v := 29) hF (dck_at tX7_encoreAs 15 rfl) (by decide) ?_
      refine g_iload_n hF (dck_at tX7_encoreAs 16 rfl) rfl ?_
      refine g_iadd hF (dck_at tX7_encoreAs 17 rfl) ?_
      obtain ⟨hg31, h⟩ := gd h
      refine g_ia hF (hM 72 (by decide) (by decide)) kdc_72 lnc_72 hg31 (dck_at tX7_encoreAs 18 rfl) ?_
      show G X F 32 _ _ _
      refine g_istore_n (L' := [some (.ref 70), some (.int x1), some (.int x2), some (.int (M 72 ((29 : Int32) + x1).toNatClampNeg)), none]) hF (dck_at tX7_encoreAs 19 rfl) (Nat.le_of_ble_eq_true rfl) rfl ?_
      refine g_iload_n hF (dck_at tX7_encoreAs 20 rfl) rfl ?_
      have K79 : G X F 79 [none, none, none, some (.int (M 72 ((29 : Int32) + x1).toNatClampNeg)), none] [.int (if x2 = 0 then (1 : Int32) else (if (M 72 ((29 : Int32) + x1).toNatClampNeg) = (1 : Int32) then (if x2 = (2 : Int32) then (1 : Int32) else (0 : Int32)) else (if x2 = (1 : Int32) then (1 : Int32) else (if x2 = (3 : Int32) then (if (M 72 ((29 : Int32) + x1).toNatClampNeg) = 0 then (if x2 = (4 : Int32) then (if (M 72 ((29 : Int32) + x1).toNatClampNeg) = (3 : Int32) then (1 : Int32) else (0 : Int32)) else (0 : Int32)) else (1 : Int32)) else (if x2 = (4 : Int32) then (if (M 72 ((29 : Int32) + x1).toNatClampNeg) = (3 : Int32) then (1 : Int32) else (0 : Int32)) else (0 : Int32))))))] M := by
        refine g_istore (L' := [none, none, none, some (.int (M 72 ((29 : Int32) + x1).toNatClampNeg)), some (.int (if x2 = 0 then (1 : Int32) else (if (M 72 ((29 : Int32) + x1).toNatClampNeg) = (1 : Int32) then (if x2 = (2 : Int32) then (1 : Int32) else (0 : Int32)) else (if x2 = (1 : Int32) then (1 : Int32) else (if x2 = (3 : Int32) then (if (M 72 ((29 : Int32) + x1).toNatClampNeg) = 0 then (if x2 = (4 : Int32) then (if (M 72 ((29 : Int32) + x1).toNatClampNeg) = (3 : Int32) then (1 : Int32) else (0 : Int32)) else (0 : Int32)) else (1 : Int32)) else (if x2 = (4 : Int32) then (if (M 72 ((29 : Int32) + x1).toNatClampNeg) = (3 : Int32) then (1 : Int32) else (0 : Int32)) else (0 : Int32)))))))]) hF (dck_at tX7_encoreAs 46 rfl) (Nat.le_of_ble_eq_true rfl) rfl ?_
        refine g_iload hF (dck_at tX7_encoreAs 47 rfl) rfl ?_
        refine g_if_eq hF 97 (dck_at tX7_encoreAs 48 rfl) (by decide) (fun hc83 => ?_) (fun hc83 => ?_)
        · replace h := ite_t hc83 h
          refine g_bipush (v := -4) hF (dck_at tX7_encoreAs 54 rfl) (by decide) ?_
          cases h
          exact g_iret hF hR (dck_at tX7_encoreAs 55 rfl)
        · replace h := ite_f hc83 h
          refine g_iload_n hF (dck_at tX7_encoreAs 49 rfl) rfl ?_
          refine g_bipush (v := 7) hF (dck_at tX7_encoreAs 50 rfl) (by decide) ?_
          refine g_bipush (v := 9) hF (dck_at tX7_encoreAs 51 rfl) (by decide) ?_
          obtain ⟨q91, e91, h⟩ := bd h
          refine g_callS hF (as := [.int (M 72 ((29 : Int32) + x1).toNatClampNeg), .int (7 : Int32), .int (9 : Int32)]) wm_X7_132 wt_X7_behind wc_X7_behind wn_X7 hyX7_behind (by decide) (c_X7_behind hF.2.2.2.2.2.2.2.1 e91) (by decide) rfl rfl rfl rfl (dck_at tX7_encoreAs 52 rfl) ?_
          show G X F 94 _ [.int q91] M
          refine g_goto hF 99 (dck_at tX7_encoreAs 53 rfl) (by decide) ?_
          cases h
          exact g_iret hF hR (dck_at tX7_encoreAs 55 rfl)
      refine g_if_eq hF 74 (dck_at tX7_encoreAs 21 rfl) (by decide) (fun hc34 => ?_) (fun hc34 => ?_)
      · refine g_iconst (v := 1) hF (dck_at tX7_encoreAs 43 rfl) (by decide) ?_
        refine g_goto hF 79 (dck_at tX7_encoreAs 44 rfl) (by decide) ?_
        refine g_msk [false, false, false, true, true] (L' := [none, none, none, some (.int (M 72 ((29 : Int32) + x1).toNatClampNeg)), none]) rfl ?_
        simp only [if_pos hc34] at K79
        exact K79
      · refine g_iload_n hF (dck_at tX7_encoreAs 22 rfl) rfl ?_
        refine g_iconst (v := 1) hF (dck_at tX7_encoreAs 23 rfl) (by decide) ?_
        refine g_icmp_ne hF 50 (dck_at tX7_encoreAs 24 rfl) (by decide) (fun hc39 => ?_) (fun hc39 => ?_)
        · refine g_iload_n hF (dck_at tX7_encoreAs 29 rfl) rfl ?_
          refine g_iconst (v := 1) hF (dck_at tX7_encoreAs 30 rfl) (by decide) ?_
          refine g_icmp_eq hF 74 (dck_at tX7_encoreAs 31 rfl) (by decide) (fun hc52 => ?_) (fun hc52 => ?_)
          · refine g_iconst (v := 1) hF (dck_at tX7_encoreAs 43 rfl) (by decide) ?_
            refine g_goto hF 79 (dck_at tX7_encoreAs 44 rfl) (by decide) ?_
            refine g_msk [false, false, false, true, true] (L' := [none, none, none, some (.int (M 72 ((29 : Int32) + x1).toNatClampNeg)), none]) rfl ?_
            simp only [if_neg hc34, if_neg hc39, if_pos hc52] at K79
            exact K79
          · refine g_iload_n hF (dck_at tX7_encoreAs 32 rfl) rfl ?_
            refine g_iconst (v := 3) hF (dck_at tX7_encoreAs 33 rfl) (by decide) ?_
            refine g_icmp_ne hF 64 (dck_at tX7_encoreAs 34 rfl) (by decide) (fun hc57 => ?_) (fun hc57 => ?_)
            · refine g_iload_n hF (dck_at tX7_encoreAs 37 rfl) rfl ?_
              refine g_iconst (v := 4) hF (dck_at tX7_encoreAs 38 rfl) (by decide) ?_
              refine g_icmp_ne hF 78 (dck_at tX7_encoreAs 39 rfl) (by decide) (fun hc66 => ?_) (fun hc66 => ?_)
              · refine g_iconst (v := 0) hF (dck_at tX7_encoreAs 45 rfl) (by decide) ?_
                refine g_msk [false, false, false, true, true] (L' := [none, none, none, some (.int (M 72 ((29 : Int32) + x1).toNatClampNeg)), none]) rfl ?_
                simp only [if_neg hc34, if_neg hc39, if_neg hc52, if_neg hc57, if_neg hc66] at K79
                exact K79
              · refine g_iload_n hF (dck_at tX7_encoreAs 40 rfl) rfl ?_
                refine g_iconst (v := 3) hF (dck_at tX7_encoreAs 41 rfl) (by decide) ?_
                refine g_icmp_ne hF 78 (dck_at tX7_encoreAs 42 rfl) (by decide) (fun hc71 => ?_) (fun hc71 => ?_)
                · refine g_iconst (v := 0) hF (dck_at tX7_encoreAs 45 rfl) (by decide) ?_
                  refine g_msk [false, false, false, true, true] (L' := [none, none, none, some (.int (M 72 ((29 : Int32) + x1).toNatClampNeg)), none]) rfl ?_
                  simp only [if_neg hc34, if_neg hc39, if_neg hc52, if_neg hc57, if_pos hc66, if_neg hc71] at K79
                  exact K79
                · refine g_iconst (v := 1) hF (dck_at tX7_encoreAs 43 rfl) (by decide) ?_
                  refine g_goto hF 79 (dck_at tX7_encoreAs 44 rfl) (by decide) ?_
                  refine g_msk [false, false, false, true, true] (L' := [none, none, none, some (.int (M 72 ((29 : Int32) + x1).toNatClampNeg)), none]) rfl ?_
                  simp only [if_neg hc34, if_neg hc39, if_neg hc52, if_neg hc57, if_pos hc66, if_pos hc71] at K79
                  exact K79
            · refine g_iload_n hF (dck_at tX7_encoreAs 35 rfl) rfl ?_
              refine g_if_ne hF 74 (dck_at tX7_encoreAs 36 rfl) (by decide) (fun hc61 => ?_) (fun hc61 => ?_)
              · refine g_iconst (v := 1) hF (dck_at tX7_encoreAs 43 rfl) (by decide) ?_
                refine g_goto hF 79 (dck_at tX7_encoreAs 44 rfl) (by decide) ?_
                refine g_msk [false, false, false, true, true] (L' := [none, none, none, some (.int (M 72 ((29 : Int32) + x1).toNatClampNeg)), none]) rfl ?_
                simp only [if_neg hc34, if_neg hc39, if_neg hc52, if_pos hc57, if_neg hc61] at K79
                exact K79
              · refine g_iload_n hF (dck_at tX7_encoreAs 37 rfl) rfl ?_
                refine g_iconst (v := 4) hF (dck_at tX7_encoreAs 38 rfl) (by decide) ?_
                refine g_icmp_ne hF 78 (dck_at tX7_encoreAs 39 rfl) (by decide) (fun hc66 => ?_) (fun hc66 => ?_)
                · refine g_iconst (v := 0) hF (dck_at tX7_encoreAs 45 rfl) (by decide) ?_
                  refine g_msk [false, false, false, true, true] (L' := [none, none, none, some (.int (M 72 ((29 : Int32) + x1).toNatClampNeg)), none]) rfl ?_
                  simp only [if_neg hc34, if_neg hc39, if_neg hc52, if_pos hc57, if_pos hc61, if_neg hc66] at K79
                  exact K79
                · refine g_iload_n hF (dck_at tX7_encoreAs 40 rfl) rfl ?_
                  refine g_iconst (v := 3) hF (dck_at tX7_encoreAs 41 rfl) (by decide) ?_
                  refine g_icmp_ne hF 78 (dck_at tX7_encoreAs 42 rfl) (by decide) (fun hc71 => ?_) (fun hc71 => ?_)
                  · refine g_iconst (v := 0) hF (dck_at tX7_encoreAs 45 rfl) (by decide) ?_
                    refine g_msk [false, false, false, true, true] (L' := [none, none, none, some (.int (M 72 ((29 : Int32) + x1).toNatClampNeg)), none]) rfl ?_
                    simp only [if_neg hc34, if_neg hc39, if_neg hc52, if_pos hc57, if_pos hc61, if_pos hc66, if_neg hc71] at K79
                    exact K79
                  · refine g_iconst (v := 1) hF (dck_at tX7_encoreAs 43 rfl) (by decide) ?_
                    refine g_goto hF 79 (dck_at tX7_encoreAs 44 rfl) (by decide) ?_
                    refine g_msk [false, false, false, true, true] (L' := [none, none, none, some (.int (M 72 ((29 : Int32) + x1).toNatClampNeg)), none]) rfl ?_
                    simp only [if_neg hc34, if_neg hc39, if_neg hc52, if_pos hc57, if_pos hc61, if_pos hc66, if_pos hc71] at K79
                    exact K79
        · refine g_iload_n hF (dck_at tX7_encoreAs 25 rfl) rfl ?_
          refine g_iconst (v := 2) hF (dck_at tX7_encoreAs 26 rfl) (by decide) ?_
          refine g_icmp_ne hF 78 (dck_at tX7_encoreAs 27 rfl) (by decide) (fun hc44 => ?_) (fun hc44 => ?_)
          · refine g_iconst (v := 0) hF (dck_at tX7_encoreAs 45 rfl) (by decide) ?_
            refine g_msk [false, false, false, true, true] (L' := [none, none, none, some (.int (M 72 ((29 : Int32) + x1).toNatClampNeg)), none]) rfl ?_
            simp only [if_neg hc34, if_pos hc39, if_neg hc44] at K79
            exact K79
          · refine g_goto hF 74 (dck_at tX7_encoreAs 28 rfl) (by decide) ?_
            refine g_iconst (v := 1) hF (dck_at tX7_encoreAs 43 rfl) (by decide) ?_
            refine g_goto hF 79 (dck_at tX7_encoreAs 44 rfl) (by decide) ?_
            refine g_msk [false, false, false, true, true] (L' := [none, none, none, some (.int (M 72 ((29 : Int32) + x1).toNatClampNeg)), none]) rfl ?_
            simp only [if_neg hc34, if_pos hc39, if_pos hc44] at K79
            exact K79
    · replace h := ite_t hc17 h
      refine g_bipush (v := -3) hF (dck_at tX7_encoreAs 11 rfl) (by decide) ?_
      cases h
      exact g_iret hF hR (dck_at tX7_encoreAs 12 rfl)
  · replace h := ite_t hc5 h
    refine g_bipush (v := -2) hF (dck_at tX7_encoreAs 4 rfl) (by decide) ?_
    cases h
    exact g_iret hF hR (dck_at tX7_encoreAs 5 rfl)

def tbX7_lacks : List (Nat × Instr × Nat) := [(0, .iload_n 1, 1), (1, .iconst 0, 1), (2, .iconst 5, 1), (3, .invokestatic 53, 3), (6, .ifCond .ne 6, 3), (9, .bipush (-3), 2), (11, .ireturn, 1), (12, .iload_n 1, 1), (13, .iconst 2, 1), (14, .if_icmp .ge 22, 3), (17, .iload_n 1, 1), (18, .iconst 1, 1), (19, .if_icmp .ne 15, 3), (22, .aload_n 0, 1), (23, .invokevirtual 136, 3), (26, .ifCond .ne 8, 3), (29, .bipush (-4), 2), (31, .goto 4, 3), (34, .iconst 0, 1), (35, .ireturn, 1), (36, .iload_n 1, 1), (37, .iconst 2, 1), (38, .isub, 1), (39, .istore_n 2, 1), (40, .aload_n 0, 1), (41, .iload_n 2, 1), (42, .invokevirtual 123, 3), (45, .ifCond .ne 6, 3), (48, .bipush (-2), 2), (50, .ireturn, 1), (51, .aload_n 0, 1), (52, .getfield 19, 3), (55, .iconst 5, 1), (56, .iaload, 1), (57, .iload_n 2, 1), (58, .ishr, 1), (59, .iconst 1, 1), (60, .iand, 1), (61, .iconst 1, 1), (62, .if_icmp .eq 28, 3), (65, .aload_n 0, 1), (66, .invokevirtual 136, 3), (69, .ifCond .eq 21, 3), (72, .aload_n 0, 1), (73, .getfield 19, 3), (76, .iconst 1, 1), (77, .iaload, 1), (78, .aload_n 0, 1), (79, .getfield 13, 3), (82, .bipush 37, 2), (84, .iload_n 2, 1), (85, .iadd, 1), (86, .iaload, 1), (87, .if_icmp .ge 8, 3), (90, .bipush (-4), 2), (92, .goto 4, 3), (95, .iconst 0, 1), (96, .ireturn, 1)]
theorem tX7_lacks : dck cX7_lacks tbX7_lacks = true := by decide +kernel
def f_X7_lacks (N : Nat) (M : Mem) (x1 : Int32) : Option Int32 := (f_X7_in N M x1 (0 : Int32) (5 : Int32)).bind fun q3 => (if q3 = 0 then some (-3 : Int32) else (if (2 : Int32) ≤ x1 then (f_X7_isEncore N M (x1 - (2 : Int32))).bind fun q42 => (if q42 = 0 then some (-2 : Int32) else (if (((M 74 5) >>> ((x1 - (2 : Int32)) &&& 31)) &&& (1 : Int32)) = (1 : Int32) then some (-4 : Int32) else (f_X7_noise N M).bind fun q66 => (if q66 = 0 then some (-4 : Int32) else if inb ((37 : Int32) + (x1 - (2 : Int32))) 45 = true then (if (M 72 ((37 : Int32) + (x1 - (2 : Int32))).toNatClampNeg) ≤ (M 74 1) then some (0 : Int32) else some (-4 : Int32)) else none))) else (if x1 = (1 : Int32) then (f_X7_noise N M).bind fun q23 => (if q23 = 0 then some (-4 : Int32) else some (0 : Int32)) else some (0 : Int32))))
set_option maxHeartbeats 4000000 in
set_option maxRecDepth 100000 in
theorem c_X7_lacks {X : Cx} {l : Launch} (hX : CxOk X) (hM : SM X) {N : Nat} {M : Mem} {x1 : Int32} {r : Int32} (h : f_X7_lacks N M x1 = some r) : Ctr X l yX7_lacks cX7_lacks 3 (some .int) 6 [.ref 70, .int x1] M (some (.int r)) M := by
  refine Ctr.ofG (L := [some (.ref 70), some (.int x1), none]) hX (by decide) (Nat.le_of_ble_eq_true rfl) rfl (fun F hF hl hR => ?_)
  subst hl
  unfold f_X7_lacks at h
  refine g_iload_n hF (dck_at tX7_lacks 0 rfl) rfl ?_
  refine g_iconst (v := 0) hF (dck_at tX7_lacks 1 rfl) (by decide) ?_
  refine g_iconst (v := 5) hF (dck_at tX7_lacks 2 rfl) (by decide) ?_
  obtain ⟨q3, e3, h⟩ := bd h
  refine g_callS hF (as := [.int x1, .int (0 : Int32), .int (5 : Int32)]) wm_X7_53 wt_X7_in wc_X7_in wn_X7 hyX7_in (by decide) (c_X7_in hF.2.2.2.2.2.2.2.1 e3) (by decide) rfl rfl rfl rfl (dck_at tX7_lacks 3 rfl) ?_
  show G X F 6 _ [.int q3] M
  refine g_if_ne hF 12 (dck_at tX7_lacks 4 rfl) (by decide) (fun hc6 => ?_) (fun hc6 => ?_)
  · replace h := ite_f hc6 h
    refine g_iload_n hF (dck_at tX7_lacks 7 rfl) rfl ?_
    refine g_iconst (v := 2) hF (dck_at tX7_lacks 8 rfl) (by decide) ?_
    refine g_icmp_ge hF 36 (dck_at tX7_lacks 9 rfl) (by decide) (fun hc14 => ?_) (fun hc14 => ?_)
    · replace h := ite_t hc14 h
      refine g_iload_n hF (dck_at tX7_lacks 20 rfl) rfl ?_
      refine g_iconst (v := 2) hF (dck_at tX7_lacks 21 rfl) (by decide) ?_
      refine g_isub hF (dck_at tX7_lacks 22 rfl) ?_
      refine g_istore_n (L' := [some (.ref 70), some (.int x1), some (.int (x1 - (2 : Int32)))]) hF (dck_at tX7_lacks 23 rfl) (Nat.le_of_ble_eq_true rfl) rfl ?_
      refine g_aload_n hF (dck_at tX7_lacks 24 rfl) rfl ?_
      refine g_iload_n hF (dck_at tX7_lacks 25 rfl) rfl ?_
      show G X F 42 _ _ _
      obtain ⟨q42, e42, h⟩ := bd h
      refine g_callV hF (as := [.int (x1 - (2 : Int32))]) (k := 70) rfl (by decide) wm_X7_123 wi_X7_isEncore we_X7_isEncore wc_X7_isEncore wn_X7 hyX7_isEncore (by decide) (hM 70 (by decide) (by decide)) kdc_70 (c_X7_isEncore hF.2.2.2.2.2.2.2.1 hM e42) (by decide) rfl rfl rfl rfl (dck_at tX7_lacks 26 rfl) ?_
      show G X F 45 _ [.int q42] M
      refine g_if_ne hF 51 (dck_at tX7_lacks 27 rfl) (by decide) (fun hc45 => ?_) (fun hc45 => ?_)
      · replace h := ite_f hc45 h
        refine g_aload_n hF (dck_at tX7_lacks 30 rfl) rfl ?_
        refine gf_X7_19 hF (hM 70 (by decide) (by decide)) kdc_70 lnc_70 (dck_at tX7_lacks 31 rfl) ?_
        refine g_iconst (v := 5) hF (dck_at tX7_lacks 32 rfl) (by decide) ?_
        refine g_iac (j := 5) hF (hM 74 (by decide) (by decide)) kdc_74 lnc_74 (by decide) (by decide) (dck_at tX7_lacks 33 rfl) ?_
        refine g_iload_n hF (dck_at tX7_lacks 34 rfl) rfl ?_
        refine g_ishr hF (dck_at tX7_lacks 35 rfl) ?_
        show G X F 59 _ _ _
        refine g_iconst (v := 1) hF (dck_at tX7_lacks 36 rfl) (by decide) ?_
        refine g_iand hF (dck_at tX7_lacks 37 rfl) ?_
        refine g_iconst (v := 1) hF (dck_at tX7_lacks 38 rfl) (by decide) ?_
        refine g_icmp_eq hF 90 (dck_at tX7_lacks 39 rfl) (by decide) (fun hc62 => ?_) (fun hc62 => ?_)
        · replace h := ite_t hc62 h
          refine g_bipush (v := -4) hF (dck_at tX7_lacks 54 rfl) (by decide) ?_
          refine g_goto hF 96 (dck_at tX7_lacks 55 rfl) (by decide) ?_
          cases h
          exact g_iret hF hR (dck_at tX7_lacks 57 rfl)
        · replace h := ite_f hc62 h
          refine g_aload_n hF (dck_at tX7_lacks 40 rfl) rfl ?_
          obtain ⟨q66, e66, h⟩ := bd h
          refine g_callV hF (as := []) (k := 70) rfl (by decide) wm_X7_136 wi_X7_noise we_X7_noise wc_X7_noise wn_X7 hyX7_noise (by decide) (hM 70 (by decide) (by decide)) kdc_70 (c_X7_noise hF.2.2.2.2.2.2.2.1 hM e66) (by decide) rfl rfl rfl rfl (dck_at tX7_lacks 41 rfl) ?_
          show G X F 69 _ [.int q66] M
          refine g_if_eq hF 90 (dck_at tX7_lacks 42 rfl) (by decide) (fun hc69 => ?_) (fun hc69 => ?_)
          · replace h := ite_t hc69 h
            refine g_bipush (v := -4) hF (dck_at tX7_lacks 54 rfl) (by decide) ?_
            refine g_goto hF 96 (dck_at tX7_lacks 55 rfl) (by decide) ?_
            cases h
            exact g_iret hF hR (dck_at tX7_lacks 57 rfl)
          · replace h := ite_f hc69 h
            refine g_aload_n hF (dck_at tX7_lacks 43 rfl) rfl ?_
            refine gf_X7_19 hF (hM 70 (by decide) (by decide)) kdc_70 lnc_70 (dck_at tX7_lacks 44 rfl) ?_
            refine g_iconst (v := 1) hF (dck_at tX7_lacks 45 rfl) (by decide) ?_
            refine g_iac (j := 1) hF (hM 74 (by decide) (by decide)) kdc_74 lnc_74 (by decide) (by decide) (dck_at tX7_lacks 46 rfl) ?_
            refine g_aload_n hF (dck_at tX7_lacks 47 rfl) rfl ?_
            refine gf_X7_13 hF (hM 70 (by decide) (by decide)) kdc_70 lnc_70 (dck_at tX7_lacks 48 rfl) ?_
            show G X F 82 _ _ _
            refine g_bipush (v := 37) hF (dck_at tX7_lacks 49 rfl) (by decide) ?_
            refine g_iload_n hF (dck_at tX7_lacks 50 rfl) rfl ?_
            refine g_iadd hF (dck_at tX7_lacks 51 rfl) ?_
            obtain ⟨hg86, h⟩ := gd h
            refine g_ia hF (hM 72 (by decide) (by decide)) kdc_72 lnc_72 hg86 (dck_at tX7_lacks 52 rfl) ?_
            refine g_icmp_ge hF 95 (dck_at tX7_lacks 53 rfl) (by decide) (fun hc87 => ?_) (fun hc87 => ?_)
            · replace h := ite_t hc87 h
              refine g_iconst (v := 0) hF (dck_at tX7_lacks 56 rfl) (by decide) ?_
              cases h
              exact g_iret hF hR (dck_at tX7_lacks 57 rfl)
            · replace h := ite_f hc87 h
              refine g_bipush (v := -4) hF (dck_at tX7_lacks 54 rfl) (by decide) ?_
              refine g_goto hF 96 (dck_at tX7_lacks 55 rfl) (by decide) ?_
              cases h
              exact g_iret hF hR (dck_at tX7_lacks 57 rfl)
      · replace h := ite_t hc45 h
        refine g_bipush (v := -2) hF (dck_at tX7_lacks 28 rfl) (by decide) ?_
        cases h
        exact g_iret hF hR (dck_at tX7_lacks 29 rfl)
    · replace h := ite_f hc14 h
      refine g_iload_n hF (dck_at tX7_lacks 10 rfl) rfl ?_
      refine g_iconst (v := 1) hF (dck_at tX7_lacks 11 rfl) (by decide) ?_
      refine g_icmp_ne hF 34 (dck_at tX7_lacks 12 rfl) (by decide) (fun hc19 => ?_) (fun hc19 => ?_)
      · replace h := ite_f hc19 h
        refine g_iconst (v := 0) hF (dck_at tX7_lacks 18 rfl) (by decide) ?_
        cases h
        exact g_iret hF hR (dck_at tX7_lacks 19 rfl)
      · replace h := ite_t hc19 h
        refine g_aload_n hF (dck_at tX7_lacks 13 rfl) rfl ?_
        obtain ⟨q23, e23, h⟩ := bd h
        refine g_callV hF (as := []) (k := 70) rfl (by decide) wm_X7_136 wi_X7_noise we_X7_noise wc_X7_noise wn_X7 hyX7_noise (by decide) (hM 70 (by decide) (by decide)) kdc_70 (c_X7_noise hF.2.2.2.2.2.2.2.1 hM e23) (by decide) rfl rfl rfl rfl (dck_at tX7_lacks 14 rfl) ?_
        show G X F 26 _ [.int q23] M
        refine g_if_ne hF 34 (dck_at tX7_lacks 15 rfl) (by decide) (fun hc26 => ?_) (fun hc26 => ?_)
        · replace h := ite_f hc26 h
          refine g_iconst (v := 0) hF (dck_at tX7_lacks 18 rfl) (by decide) ?_
          cases h
          exact g_iret hF hR (dck_at tX7_lacks 19 rfl)
        · replace h := ite_t hc26 h
          refine g_bipush (v := -4) hF (dck_at tX7_lacks 16 rfl) (by decide) ?_
          refine g_goto hF 35 (dck_at tX7_lacks 17 rfl) (by decide) ?_
          cases h
          exact g_iret hF hR (dck_at tX7_lacks 19 rfl)
  · replace h := ite_t hc6 h
    refine g_bipush (v := -3) hF (dck_at tX7_lacks 5 rfl) (by decide) ?_
    cases h
    exact g_iret hF hR (dck_at tX7_lacks 6 rfl)

def tbX7_can : List (Nat × Instr × Nat) := [(0, .aload_n 0, 1), (1, .iload_n 1, 1), (2, .invokevirtual 139, 3), (5, .istore_n 2, 1), (6, .iload_n 2, 1), (7, .ifCond .ne 7, 3), (10, .iconst 1, 1), (11, .goto 14, 3), (14, .iload_n 2, 1), (15, .bipush (-4), 2), (17, .if_icmp .ne 7, 3), (20, .iconst 0, 1), (21, .goto 4, 3), (24, .iload_n 2, 1), (25, .ireturn, 1)]
theorem tX7_can : dck cX7_can tbX7_can = true := by decide +kernel
def f_X7_can (N : Nat) (M : Mem) (x1 : Int32) : Option Int32 := (f_X7_lacks N M x1).bind fun q2 => (if q2 = 0 then some (1 : Int32) else (if q2 = (-4 : Int32) then some (0 : Int32) else some q2))
set_option maxHeartbeats 4000000 in
set_option maxRecDepth 100000 in
theorem c_X7_can {X : Cx} {l : Launch} (hX : CxOk X) (hM : SM X) {N : Nat} {M : Mem} {x1 : Int32} {r : Int32} (h : f_X7_can N M x1 = some r) : Ctr X l yX7_can cX7_can 3 (some .int) 7 [.ref 70, .int x1] M (some (.int r)) M := by
  refine Ctr.ofG (L := [some (.ref 70), some (.int x1), none]) hX (by decide) (Nat.le_of_ble_eq_true rfl) rfl (fun F hF hl hR => ?_)
  subst hl
  unfold f_X7_can at h
  refine g_aload_n hF (dck_at tX7_can 0 rfl) rfl ?_
  refine g_iload_n hF (dck_at tX7_can 1 rfl) rfl ?_
  obtain ⟨q2, e2, h⟩ := bd h
  refine g_callV hF (as := [.int x1]) (k := 70) rfl (by decide) wm_X7_139 wi_X7_lacks we_X7_lacks wc_X7_lacks wn_X7 hyX7_lacks (by decide) (hM 70 (by decide) (by decide)) kdc_70 (c_X7_lacks hF.2.2.2.2.2.2.2.1 hM e2) (by decide) rfl rfl rfl rfl (dck_at tX7_can 2 rfl) ?_
  show G X F 5 _ [.int q2] M
  refine g_istore_n (L' := [some (.ref 70), some (.int x1), some (.int q2)]) hF (dck_at tX7_can 3 rfl) (Nat.le_of_ble_eq_true rfl) rfl ?_
  refine g_iload_n hF (dck_at tX7_can 4 rfl) rfl ?_
  refine g_if_ne hF 14 (dck_at tX7_can 5 rfl) (by decide) (fun hc7 => ?_) (fun hc7 => ?_)
  · replace h := ite_f hc7 h
    refine g_iload_n hF (dck_at tX7_can 8 rfl) rfl ?_
    refine g_bipush (v := -4) hF (dck_at tX7_can 9 rfl) (by decide) ?_
    refine g_icmp_ne hF 24 (dck_at tX7_can 10 rfl) (by decide) (fun hc17 => ?_) (fun hc17 => ?_)
    · replace h := ite_f hc17 h
      refine g_iload_n hF (dck_at tX7_can 13 rfl) rfl ?_
      cases h
      exact g_iret hF hR (dck_at tX7_can 14 rfl)
    · replace h := ite_t hc17 h
      refine g_iconst (v := 0) hF (dck_at tX7_can 11 rfl) (by decide) ?_
      refine g_goto hF 25 (dck_at tX7_can 12 rfl) (by decide) ?_
      cases h
      exact g_iret hF hR (dck_at tX7_can 14 rfl)
  · replace h := ite_t hc7 h
    refine g_iconst (v := 1) hF (dck_at tX7_can 6 rfl) (by decide) ?_
    refine g_goto hF 25 (dck_at tX7_can 7 rfl) (by decide) ?_
    cases h
    exact g_iret hF hR (dck_at tX7_can 14 rfl)

def tbX7_minute : List (Nat × Instr × Nat) := [(0, .aload_n 0, 1), (1, .getfield 19, 3), (4, .iconst 3, 1), (5, .dup2, 1), (6, .iaload, 1), (7, .aload_n 0, 1), (8, .getfield 19, 3), (11, .iconst 0, 1), (12, .iaload, 1), (13, .aload_n 0, 1), (14, .getfield 13, 3), (17, .iconst 3, 1), (18, .iaload, 1), (19, .if_icmp .lt 14, 3), (22, .iconst 2, 1), (23, .aload_n 0, 1), (24, .getfield 13, 3), (27, .iconst 4, 1), (28, .iaload, 1), (29, .imul, 1), (30, .goto 9, 3), (33, .aload_n 0, 1), (34, .getfield 13, 3), (37, .iconst 4, 1), (38, .iaload, 1), (39, .iadd, 1), (40, .iastore, 1), (41, .aload_n 0, 1), (42, .getfield 19, 3), (45, .iconst 0, 1), (46, .dup2, 1), (47, .iaload, 1), (48, .iconst 1, 1), (49, .iadd, 1), (50, .iastore, 1), (51, .return_, 1)]
theorem tX7_minute : dck cX7_minute tbX7_minute = true := by decide +kernel
def f_X7_minute (N : Nat) (M : Mem) : Option Mem := some (up2 (up2 M 74 3 ((M 74 3) + (if (M 74 0) < (M 72 3) then (M 72 4) else ((2 : Int32) * (M 72 4))))) 74 0 (((up2 M 74 3 ((M 74 3) + (if (M 74 0) < (M 72 3) then (M 72 4) else ((2 : Int32) * (M 72 4))))) 74 0) + (1 : Int32)))
set_option maxHeartbeats 4000000 in
set_option maxRecDepth 100000 in
theorem c_X7_minute {X : Cx} {l : Launch} (hX : CxOk X) (hM : SM X) {N : Nat} {M : Mem} {M' : Mem} (h : f_X7_minute N M = some M') : Ctr X l yX7_minute cX7_minute 1 none 1 [.ref 70] M none M' := by
  refine Ctr.ofG (L := [some (.ref 70)]) hX (by decide) (Nat.le_of_ble_eq_true rfl) rfl (fun F hF hl hR => ?_)
  subst hl
  unfold f_X7_minute at h
  refine g_aload_n hF (dck_at tX7_minute 0 rfl) rfl ?_
  refine gf_X7_19 hF (hM 70 (by decide) (by decide)) kdc_70 lnc_70 (dck_at tX7_minute 1 rfl) ?_
  refine g_iconst (v := 3) hF (dck_at tX7_minute 2 rfl) (by decide) ?_
  refine g_dup2 hF (dck_at tX7_minute 3 rfl) rfl rfl ?_
  refine g_iac (j := 3) hF (hM 74 (by decide) (by decide)) kdc_74 lnc_74 (by decide) (by decide) (dck_at tX7_minute 4 rfl) ?_
  refine g_aload_n hF (dck_at tX7_minute 5 rfl) rfl ?_
  show G X F 8 _ _ _
  refine gf_X7_19 hF (hM 70 (by decide) (by decide)) kdc_70 lnc_70 (dck_at tX7_minute 6 rfl) ?_
  refine g_iconst (v := 0) hF (dck_at tX7_minute 7 rfl) (by decide) ?_
  refine g_iac (j := 0) hF (hM 74 (by decide) (by decide)) kdc_74 lnc_74 (by decide) (by decide) (dck_at tX7_minute 8 rfl) ?_
  refine g_aload_n hF (dck_at tX7_minute 9 rfl) rfl ?_
  refine gf_X7_13 hF (hM 70 (by decide) (by decide)) kdc_70 lnc_70 (dck_at tX7_minute 10 rfl) ?_
  refine g_iconst (v := 3) hF (dck_at tX7_minute 11 rfl) (by decide) ?_
  refine g_iac (j := 3) hF (hM 72 (by decide) (by decide)) kdc_72 lnc_72 (by decide) (by decide) (dck_at tX7_minute 12 rfl) ?_
  show G X F 19 _ _ _
  have K39 : G X F 39 [some (.ref 70)] [.int (if (M 74 0) < (M 72 3) then (M 72 4) else ((2 : Int32) * (M 72 4))), .int (M 74 3), .int (3 : Int32), .ref 74] M := by
    refine g_iadd hF (dck_at tX7_minute 25 rfl) ?_
    refine g_isc (j := 3) hF (hM 74 (by decide) (by decide)) kdc_74 lnc_74 (by decide) (by decide) (dck_at tX7_minute 26 rfl) ?_
    refine g_aload_n hF (dck_at tX7_minute 27 rfl) rfl ?_
    refine gf_X7_19 hF (hM 70 (by decide) (by decide)) kdc_70 lnc_70 (dck_at tX7_minute 28 rfl) ?_
    refine g_iconst (v := 0) hF (dck_at tX7_minute 29 rfl) (by decide) ?_
    refine g_dup2 hF (dck_at tX7_minute 30 rfl) rfl rfl ?_
    show G X F 47 _ _ _
    refine g_iac (j := 0) hF (hM 74 (by decide) (by decide)) kdc_74 lnc_74 (by decide) (by decide) (dck_at tX7_minute 31 rfl) ?_
    refine g_iconst (v := 1) hF (dck_at tX7_minute 32 rfl) (by decide) ?_
    refine g_iadd hF (dck_at tX7_minute 33 rfl) ?_
    refine g_isc (j := 0) hF (hM 74 (by decide) (by decide)) kdc_74 lnc_74 (by decide) (by decide) (dck_at tX7_minute 34 rfl) ?_
    cases h
    exact g_vret hF hR (dck_at tX7_minute 35 rfl)
  refine g_icmp_lt hF 33 (dck_at tX7_minute 13 rfl) (by decide) (fun hc19 => ?_) (fun hc19 => ?_)
  · refine g_aload_n hF (dck_at tX7_minute 21 rfl) rfl ?_
    refine gf_X7_13 hF (hM 70 (by decide) (by decide)) kdc_70 lnc_70 (dck_at tX7_minute 22 rfl) ?_
    refine g_iconst (v := 4) hF (dck_at tX7_minute 23 rfl) (by decide) ?_
    refine g_iac (j := 4) hF (hM 72 (by decide) (by decide)) kdc_72 lnc_72 (by decide) (by decide) (dck_at tX7_minute 24 rfl) ?_
    simp only [if_pos hc19] at K39
    exact K39
  · refine g_iconst (v := 2) hF (dck_at tX7_minute 14 rfl) (by decide) ?_
    refine g_aload_n hF (dck_at tX7_minute 15 rfl) rfl ?_
    refine gf_X7_13 hF (hM 70 (by decide) (by decide)) kdc_70 lnc_70 (dck_at tX7_minute 16 rfl) ?_
    refine g_iconst (v := 4) hF (dck_at tX7_minute 17 rfl) (by decide) ?_
    refine g_iac (j := 4) hF (hM 72 (by decide) (by decide)) kdc_72 lnc_72 (by decide) (by decide) (dck_at tX7_minute 18 rfl) ?_
    refine g_imul hF (dck_at tX7_minute 19 rfl) ?_
    show G X F 30 _ _ _
    refine g_goto hF 39 (dck_at tX7_minute 20 rfl) (by decide) ?_
    simp only [if_neg hc19] at K39
    exact K39

def tbX7_waitsOne : List (Nat × Instr × Nat) := [(0, .iconst 0, 1), (1, .istore_n 1, 1), (2, .iconst 0, 1), (3, .istore_n 2, 1), (4, .iload_n 2, 1), (5, .aload_n 0, 1), (6, .getfield 13, 3), (9, .iconst 0, 1), (10, .iaload, 1), (11, .if_icmp .ge 21, 3), (14, .iload_n 1, 1), (15, .aload_n 0, 1), (16, .iload_n 2, 1), (17, .invokevirtual 129, 3), (20, .iconst 2, 1), (21, .iload_n 2, 1), (22, .imul, 1), (23, .ishl, 1), (24, .ior, 1), (25, .istore_n 1, 1), (26, .iinc 2 1, 3), (29, .goto (-25), 3), (32, .iconst 0, 1), (33, .istore_n 2, 1), (34, .iload_n 2, 1), (35, .aload_n 0, 1), (36, .getfield 13, 3), (39, .iconst 0, 1), (40, .iaload, 1), (41, .if_icmp .ge 28, 3), (44, .aload_n 0, 1), (45, .getfield 19, 3), (48, .bipush 6, 2), (50, .iload_n 2, 1), (51, .iadd, 1), (52, .dup2, 1), (53, .iaload, 1), (54, .iload_n 1, 1), (55, .iconst 2, 1), (56, .iload_n 2, 1), (57, .imul, 1), (58, .ishr, 1), (59, .iconst 3, 1), (60, .iand, 1), (61, .isub, 1), (62, .iastore, 1), (63, .iinc 2 1, 3), (66, .goto (-32), 3), (69, .aload_n 0, 1), (70, .invokevirtual 142, 3), (73, .return_, 1)]
theorem tX7_waitsOne : dck cX7_waitsOne tbX7_waitsOne = true := by decide +kernel
def f_X7_waitsOne_L4 (N : Nat) (M : Mem) : Nat → Int32 → Int32 → Option (Int32 × Int32)
  | 0, _, _ => none
  | n + 1, x1, x2 => (if (M 72 0) ≤ x2 then some (x1, x2) else (f_X7_loses N M x2).bind fun q17 => f_X7_waitsOne_L4 N M n (x1 ||| (q17 <<< (((2 : Int32) * x2) &&& 31))) (x2 + (1 : Int32)))
def f_X7_waitsOne_L34 (N : Nat) (x1 : Int32) : Nat → Int32 → Mem → Option (Int32 × Mem)
  | 0, _, _ => none
  | n + 1, x2, M => (if (M 72 0) ≤ x2 then some (x2, M) else if inb ((6 : Int32) + x2) 14 = true then if inb ((6 : Int32) + x2) 14 = true then f_X7_waitsOne_L34 N x1 n (x2 + (1 : Int32)) (up2 M 74 ((6 : Int32) + x2).toNatClampNeg ((M 74 ((6 : Int32) + x2).toNatClampNeg) - ((x1 >>> (((2 : Int32) * x2) &&& 31)) &&& (3 : Int32)))) else none else none)
def f_X7_waitsOne (N : Nat) (M : Mem) : Option Mem := (f_X7_waitsOne_L4 N M N (0 : Int32) (0 : Int32)).bind fun o4 => (f_X7_waitsOne_L34 N o4.1 N (0 : Int32) M).bind fun o34 => (f_X7_minute N o34.2).bind fun q70 => some q70
set_option maxHeartbeats 4000000 in
set_option maxRecDepth 100000 in
theorem g_X7_waitsOne_L4 {X : Cx} {F : Fx} (hM : SM X) (hF : FK X F cX7_waitsOne RX7 3 6) (N : Nat) (M : Mem) : ∀ (n : Nat) (x1 : Int32) (x2 : Int32) (o : Int32 × Int32), f_X7_waitsOne_L4 N M n x1 x2 = some o → G X F 32 [some (.ref 70), some (.int o.1), none] [] M → G X F 4 [some (.ref 70), some (.int x1), some (.int x2)] [] M := by
  intro n
  induction n with
  | zero =>
    intro x1 x2 o h K
    cases h
  | succ n ih =>
    intro x1 x2 o h K
    rw [f_X7_waitsOne_L4] at h
    refine g_iload_n hF (dck_at tX7_waitsOne 4 rfl) rfl ?_
    refine g_aload_n hF (dck_at tX7_waitsOne 5 rfl) rfl ?_
    refine gf_X7_13 hF (hM 70 (by decide) (by decide)) kdc_70 lnc_70 (dck_at tX7_waitsOne 6 rfl) ?_
    refine g_iconst (v := 0) hF (dck_at tX7_waitsOne 7 rfl) (by decide) ?_
    refine g_iac (j := 0) hF (hM 72 (by decide) (by decide)) kdc_72 lnc_72 (by decide) (by decide) (dck_at tX7_waitsOne 8 rfl) ?_
    refine g_icmp_ge hF 32 (dck_at tX7_waitsOne 9 rfl) (by decide) (fun hc11 => ?_) (fun hc11 => ?_)
    · replace h := ite_t hc11 h
      refine g_msk [true, true, false] (L' := [some (.ref 70), some (.int x1), none]) rfl ?_
      cases h
      exact K
    · replace h := ite_f hc11 h
      refine g_iload_n hF (dck_at tX7_waitsOne 10 rfl) rfl ?_
      refine g_aload_n hF (dck_at tX7_waitsOne 11 rfl) rfl ?_
      refine g_iload_n hF (dck_at tX7_waitsOne 12 rfl) rfl ?_
      obtain ⟨q17, e17, h⟩ := bd h
      refine g_callV hF (as := [.int x2]) (k := 70) rfl (by decide) wm_X7_129 wi_X7_loses we_X7_loses wc_X7_loses wn_X7 hyX7_loses (by decide) (hM 70 (by decide) (by decide)) kdc_70 (c_X7_loses hF.2.2.2.2.2.2.2.1 hM e17) (by decide) rfl rfl rfl rfl (dck_at tX7_waitsOne 13 rfl) ?_
      show G X F 20 _ [.int q17, .int x1] M
      refine g_iconst (v := 2) hF (dck_at tX7_waitsOne 14 rfl) (by decide) ?_
      refine g_iload_n hF (dck_at tX7_waitsOne 15 rfl) rfl ?_
      show G X F 22 _ _ _
      refine g_imul hF (dck_at tX7_waitsOne 16 rfl) ?_
      refine g_ishl hF (dck_at tX7_waitsOne 17 rfl) ?_
      refine g_ior hF (dck_at tX7_waitsOne 18 rfl) ?_
      refine g_istore_n (L' := [some (.ref 70), some (.int (x1 ||| (q17 <<< (((2 : Int32) * x2) &&& 31)))), some (.int x2)]) hF (dck_at tX7_waitsOne 19 rfl) (Nat.le_of_ble_eq_true rfl) rfl ?_
      refine g_iinc (v := 1) (L' := [some (.ref 70), some (.int (x1 ||| (q17 <<< (((2 : Int32) * x2) &&& 31)))), some (.int (x2 + (1 : Int32)))]) hF (dck_at tX7_waitsOne 20 rfl) rfl (by decide) rfl ?_
      refine g_goto hF 4 (dck_at tX7_waitsOne 21 rfl) (by decide) ?_
      exact ih _ _ _ h K
set_option maxHeartbeats 4000000 in
set_option maxRecDepth 100000 in
theorem g_X7_waitsOne_L34 {X : Cx} {F : Fx} (hM : SM X) (hF : FK X F cX7_waitsOne RX7 3 6) (N : Nat) (x1 : Int32) : ∀ (n : Nat) (x2 : Int32) (M : Mem) (o : Int32 × Mem), f_X7_waitsOne_L34 N x1 n x2 M = some o → G X F 69 [some (.ref 70), none, none] [] o.2 → G X F 34 [some (.ref 70), some (.int x1), some (.int x2)] [] M := by
  intro n
  induction n with
  | zero =>
    intro x2 M o h K
    cases h
  | succ n ih =>
    intro x2 M o h K
    rw [f_X7_waitsOne_L34] at h
    refine g_iload_n hF (dck_at tX7_waitsOne 24 rfl) rfl ?_
    refine g_aload_n hF (dck_at tX7_waitsOne 25 rfl) rfl ?_
    refine gf_X7_13 hF (hM 70 (by decide) (by decide)) kdc_70 lnc_70 (dck_at tX7_waitsOne 26 rfl) ?_
    refine g_iconst (v := 0) hF (dck_at tX7_waitsOne 27 rfl) (by decide) ?_
    refine g_iac (j := 0) hF (hM 72 (by decide) (by decide)) kdc_72 lnc_72 (by decide) (by decide) (dck_at tX7_waitsOne 28 rfl) ?_
    refine g_icmp_ge hF 69 (dck_at tX7_waitsOne 29 rfl) (by decide) (fun hc41 => ?_) (fun hc41 => ?_)
    · replace h := ite_t hc41 h
      refine g_msk [true, false, false] (L' := [some (.ref 70), none, none]) rfl ?_
      cases h
      exact K
    · replace h := ite_f hc41 h
      refine g_aload_n hF (dck_at tX7_waitsOne 30 rfl) rfl ?_
      refine gf_X7_19 hF (hM 70 (by decide) (by decide)) kdc_70 lnc_70 (dck_at tX7_waitsOne 31 rfl) ?_
      refine g_bipush (v := 6) hF (dck_at tX7_waitsOne 32 rfl) (by decide) ?_
      refine g_iload_n hF (dck_at tX7_waitsOne 33 rfl) rfl ?_
      refine g_iadd hF (dck_at tX7_waitsOne 34 rfl) ?_
      refine g_dup2 hF (dck_at tX7_waitsOne 35 rfl) rfl rfl ?_
      show G X F 53 _ _ _
      obtain ⟨hg53, h⟩ := gd h
      refine g_ia hF (hM 74 (by decide) (by decide)) kdc_74 lnc_74 hg53 (dck_at tX7_waitsOne 36 rfl) ?_
      refine g_iload_n hF (dck_at tX7_waitsOne 37 rfl) rfl ?_
      refine g_iconst (v := 2) hF (dck_at tX7_waitsOne 38 rfl) (by decide) ?_
      refine g_iload_n hF (dck_at tX7_waitsOne 39 rfl) rfl ?_
      refine g_imul hF (dck_at tX7_waitsOne 40 rfl) ?_
      refine g_ishr hF (dck_at tX7_waitsOne 41 rfl) ?_
      refine g_iconst (v := 3) hF (dck_at tX7_waitsOne 42 rfl) (by decide) ?_
      show G X F 60 _ _ _
      refine g_iand hF (dck_at tX7_waitsOne 43 rfl) ?_
      refine g_isub hF (dck_at tX7_waitsOne 44 rfl) ?_
      obtain ⟨hg62, h⟩ := gd h
      refine g_is hF (hM 74 (by decide) (by decide)) kdc_74 lnc_74 hg62 (dck_at tX7_waitsOne 45 rfl) ?_
      refine g_iinc (v := 1) (L' := [some (.ref 70), some (.int x1), some (.int (x2 + (1 : Int32)))]) hF (dck_at tX7_waitsOne 46 rfl) rfl (by decide) rfl ?_
      refine g_goto hF 34 (dck_at tX7_waitsOne 47 rfl) (by decide) ?_
      exact ih _ _ _ h K
set_option maxHeartbeats 4000000 in
set_option maxRecDepth 100000 in
theorem c_X7_waitsOne {X : Cx} {l : Launch} (hX : CxOk X) (hM : SM X) {N : Nat} {M : Mem} {M' : Mem} (h : f_X7_waitsOne N M = some M') : Ctr X l yX7_waitsOne cX7_waitsOne 3 none 6 [.ref 70] M none M' := by
  refine Ctr.ofG (L := [some (.ref 70), none, none]) hX (by decide) (Nat.le_of_ble_eq_true rfl) rfl (fun F hF hl hR => ?_)
  subst hl
  unfold f_X7_waitsOne at h
  refine g_iconst (v := 0) hF (dck_at tX7_waitsOne 0 rfl) (by decide) ?_
  refine g_istore_n (L' := [some (.ref 70), some (.int (0 : Int32)), none]) hF (dck_at tX7_waitsOne 1 rfl) (Nat.le_of_ble_eq_true rfl) rfl ?_
  refine g_iconst (v := 0) hF (dck_at tX7_waitsOne 2 rfl) (by decide) ?_
  refine g_istore_n (L' := [some (.ref 70), some (.int (0 : Int32)), some (.int (0 : Int32))]) hF (dck_at tX7_waitsOne 3 rfl) (Nat.le_of_ble_eq_true rfl) rfl ?_
  obtain ⟨o4, e4, h⟩ := bd h
  refine g_X7_waitsOne_L4 hM hF N _ N _ _ _ e4 ?_
  refine g_iconst (v := 0) hF (dck_at tX7_waitsOne 22 rfl) (by decide) ?_
  refine g_istore_n (L' := [some (.ref 70), some (.int o4.1), some (.int (0 : Int32))]) hF (dck_at tX7_waitsOne 23 rfl) (Nat.le_of_ble_eq_true rfl) rfl ?_
  obtain ⟨o34, e34, h⟩ := bd h
  refine g_X7_waitsOne_L34 hM hF N _ N _ _ _ e34 ?_
  refine g_aload_n hF (dck_at tX7_waitsOne 48 rfl) rfl ?_
  obtain ⟨q70, e70, h⟩ := bd h
  refine g_callV hF (as := []) (k := 70) rfl (by decide) wm_X7_142 wi_X7_minute we_X7_minute wc_X7_minute wn_X7 hyX7_minute (by decide) (hM 70 (by decide) (by decide)) kdc_70 (c_X7_minute hF.2.2.2.2.2.2.2.1 hM e70) (by decide) rfl rfl rfl rfl (dck_at tX7_waitsOne 49 rfl) ?_
  show G X F 73 _ [] q70
  cases h
  exact g_vret hF hR (dck_at tX7_waitsOne 50 rfl)

def tbX7_bows : List (Nat × Instr × Nat) := [(0, .aload_n 0, 1), (1, .invokevirtual 126, 3), (4, .ifCond .ne 13, 3), (7, .aload_n 0, 1), (8, .getfield 19, 3), (11, .iconst 2, 1), (12, .iaload, 1), (13, .iconst 4, 1), (14, .if_icmp .le 7, 3), (17, .iconst 0, 1), (18, .goto 11, 3), (21, .iconst 4, 1), (22, .aload_n 0, 1), (23, .getfield 19, 3), (26, .iconst 2, 1), (27, .iaload, 1), (28, .isub, 1), (29, .istore_n 1, 1), (30, .iconst 0, 1), (31, .istore_n 2, 1), (32, .iload_n 2, 1), (33, .aload_n 0, 1), (34, .getfield 13, 3), (37, .iconst 0, 1), (38, .iaload, 1), (39, .if_icmp .ge 62, 3), (42, .aload_n 0, 1), (43, .iload_n 2, 1), (44, .invokevirtual 120, 3), (47, .ifCond .eq 17, 3), (50, .aload_n 0, 1), (51, .getfield 19, 3), (54, .bipush 6, 2), (56, .iload_n 2, 1), (57, .iadd, 1), (58, .iaload, 1), (59, .iload_n 1, 1), (60, .iadd, 1), (61, .goto 12, 3), (64, .aload_n 0, 1), (65, .getfield 19, 3), (68, .bipush 6, 2), (70, .iload_n 2, 1), (71, .iadd, 1), (72, .iaload, 1), (73, .istore_n 3, 1), (74, .aload_n 0, 1), (75, .getfield 19, 3), (78, .bipush 6, 2), (80, .iload_n 2, 1), (81, .iadd, 1), (82, .iload_n 3, 1), (83, .bipush 40, 2), (85, .if_icmp .le 8, 3), (88, .bipush 40, 2), (90, .goto 4, 3), (93, .iload_n 3, 1), (94, .iastore, 1), (95, .iinc 2 1, 3), (98, .goto (-66), 3), (101, .aload_n 0, 1), (102, .getfield 19, 3), (105, .iconst 2, 1), (106, .dup2, 1), (107, .iaload, 1), (108, .iconst 1, 1), (109, .iadd, 1), (110, .iastore, 1), (111, .return_, 1)]
theorem tX7_bows : dck cX7_bows tbX7_bows = true := by decide +kernel
def f_X7_bows_L32 (N : Nat) (x1 : Int32) : Nat → Int32 → Mem → Option (Int32 × Mem)
  | 0, _, _ => none
  | n + 1, x2, M => (if (M 72 0) ≤ x2 then some (x2, M) else (f_X7_claps N M x2).bind fun q44 => ((if q44 = 0 then if inb ((6 : Int32) + x2) 14 = true then some (M 74 ((6 : Int32) + x2).toNatClampNeg) else none else if inb ((6 : Int32) + x2) 14 = true then some ((M 74 ((6 : Int32) + x2).toNatClampNeg) + x1) else none).bind fun o73 => (if o73 ≤ (40 : Int32) then if inb ((6 : Int32) + x2) 14 = true then f_X7_bows_L32 N x1 n (x2 + (1 : Int32)) (up2 M 74 ((6 : Int32) + x2).toNatClampNeg o73) else none else if inb ((6 : Int32) + x2) 14 = true then f_X7_bows_L32 N x1 n (x2 + (1 : Int32)) (up2 M 74 ((6 : Int32) + x2).toNatClampNeg (40 : Int32)) else none)))
def f_X7_bows (N : Nat) (M : Mem) : Option Mem := (f_X7_wasKnown N M).bind fun q1 => (f_X7_bows_L32 N (if q1 = 0 then (if (M 74 2) ≤ (4 : Int32) then ((4 : Int32) - (M 74 2)) else (0 : Int32)) else (0 : Int32)) N (0 : Int32) M).bind fun o32 => some (up2 o32.2 74 2 ((o32.2 74 2) + (1 : Int32)))
set_option maxHeartbeats 4000000 in
set_option maxRecDepth 100000 in
theorem g_X7_bows_L32 {X : Cx} {F : Fx} (hM : SM X) (hF : FK X F cX7_bows RX7 4 5) (N : Nat) (x1 : Int32) : ∀ (n : Nat) (x2 : Int32) (M : Mem) (o : Int32 × Mem), f_X7_bows_L32 N x1 n x2 M = some o → G X F 101 [some (.ref 70), none, none, none] [] o.2 → G X F 32 [some (.ref 70), some (.int x1), some (.int x2), none] [] M := by
  intro n
  induction n with
  | zero =>
    intro x2 M o h K
    cases h
  | succ n ih =>
    intro x2 M o h K
    rw [f_X7_bows_L32] at h
    refine g_iload_n hF (dck_at tX7_bows 20 rfl) rfl ?_
    refine g_aload_n hF (dck_at tX7_bows 21 rfl) rfl ?_
    refine gf_X7_13 hF (hM 70 (by decide) (by decide)) kdc_70 lnc_70 (dck_at tX7_bows 22 rfl) ?_
    refine g_iconst (v := 0) hF (dck_at tX7_bows 23 rfl) (by decide) ?_
    refine g_iac (j := 0) hF (hM 72 (by decide) (by decide)) kdc_72 lnc_72 (by decide) (by decide) (dck_at tX7_bows 24 rfl) ?_
    refine g_icmp_ge hF 101 (dck_at tX7_bows 25 rfl) (by decide) (fun hc39 => ?_) (fun hc39 => ?_)
    · replace h := ite_t hc39 h
      refine g_msk [true, false, false, true] (L' := [some (.ref 70), none, none, none]) rfl ?_
      cases h
      exact K
    · replace h := ite_f hc39 h
      refine g_aload_n hF (dck_at tX7_bows 26 rfl) rfl ?_
      refine g_iload_n hF (dck_at tX7_bows 27 rfl) rfl ?_
      obtain ⟨q44, e44, h⟩ := bd h
      refine g_callV hF (as := [.int x2]) (k := 70) rfl (by decide) wm_X7_120 wi_X7_claps we_X7_claps wc_X7_claps wn_X7 hyX7_claps (by decide) (hM 70 (by decide) (by decide)) kdc_70 (c_X7_claps hF.2.2.2.2.2.2.2.1 hM e44) (by decide) rfl rfl rfl rfl (dck_at tX7_bows 28 rfl) ?_
      show G X F 47 _ [.int q44] M
      obtain ⟨o73, h73, h⟩ := bd h
      have K73 : G X F 73 [some (.ref 70), some (.int x1), some (.int x2), none] [.int o73] M := by
        refine g_istore_n (L' := [some (.ref 70), some (.int x1), some (.int x2), some (.int o73)]) hF (dck_at tX7_bows 45 rfl) (Nat.le_of_ble_eq_true rfl) rfl ?_
        refine g_aload_n hF (dck_at tX7_bows 46 rfl) rfl ?_
        refine gf_X7_19 hF (hM 70 (by decide) (by decide)) kdc_70 lnc_70 (dck_at tX7_bows 47 rfl) ?_
        refine g_bipush (v := 6) hF (dck_at tX7_bows 48 rfl) (by decide) ?_
        refine g_iload_n hF (dck_at tX7_bows 49 rfl) rfl ?_
        refine g_iadd hF (dck_at tX7_bows 50 rfl) ?_
        show G X F 82 _ _ _
        refine g_iload_n hF (dck_at tX7_bows 51 rfl) rfl ?_
        refine g_bipush (v := 40) hF (dck_at tX7_bows 52 rfl) (by decide) ?_
        refine g_icmp_le hF 93 (dck_at tX7_bows 53 rfl) (by decide) (fun hc85 => ?_) (fun hc85 => ?_)
        · replace h := ite_t hc85 h
          refine g_iload_n hF (dck_at tX7_bows 56 rfl) rfl ?_
          obtain ⟨hg94, h⟩ := gd h
          refine g_is hF (hM 74 (by decide) (by decide)) kdc_74 lnc_74 hg94 (dck_at tX7_bows 57 rfl) ?_
          refine g_iinc (v := 1) (L' := [some (.ref 70), some (.int x1), some (.int (x2 + (1 : Int32))), some (.int o73)]) hF (dck_at tX7_bows 58 rfl) rfl (by decide) rfl ?_
          refine g_goto hF 32 (dck_at tX7_bows 59 rfl) (by decide) ?_
          refine g_msk [true, true, true, false] (L' := [some (.ref 70), some (.int x1), some (.int (x2 + (1 : Int32))), none]) rfl ?_
          exact ih _ _ _ h K
        · replace h := ite_f hc85 h
          refine g_bipush (v := 40) hF (dck_at tX7_bows 54 rfl) (by decide) ?_
          refine g_goto hF 94 (dck_at tX7_bows 55 rfl) (by decide) ?_
          obtain ⟨hg94, h⟩ := gd h
          refine g_is hF (hM 74 (by decide) (by decide)) kdc_74 lnc_74 hg94 (dck_at tX7_bows 57 rfl) ?_
          refine g_iinc (v := 1) (L' := [some (.ref 70), some (.int x1), some (.int (x2 + (1 : Int32))), some (.int o73)]) hF (dck_at tX7_bows 58 rfl) rfl (by decide) rfl ?_
          refine g_goto hF 32 (dck_at tX7_bows 59 rfl) (by decide) ?_
          refine g_msk [true, true, true, false] (L' := [some (.ref 70), some (.int x1), some (.int (x2 + (1 : Int32))), none]) rfl ?_
          exact ih _ _ _ h K
      replace h := h73
      refine g_if_eq hF 64 (dck_at tX7_bows 29 rfl) (by decide) (fun hc47 => ?_) (fun hc47 => ?_)
      · replace h := ite_t hc47 h
        refine g_aload_n hF (dck_at tX7_bows 39 rfl) rfl ?_
        refine gf_X7_19 hF (hM 70 (by decide) (by decide)) kdc_70 lnc_70 (dck_at tX7_bows 40 rfl) ?_
        refine g_bipush (v := 6) hF (dck_at tX7_bows 41 rfl) (by decide) ?_
        refine g_iload_n hF (dck_at tX7_bows 42 rfl) rfl ?_
        refine g_iadd hF (dck_at tX7_bows 43 rfl) ?_
        obtain ⟨hg72, h⟩ := gd h
        refine g_ia hF (hM 74 (by decide) (by decide)) kdc_74 lnc_74 hg72 (dck_at tX7_bows 44 rfl) ?_
        cases h
        exact K73
      · replace h := ite_f hc47 h
        refine g_aload_n hF (dck_at tX7_bows 30 rfl) rfl ?_
        refine gf_X7_19 hF (hM 70 (by decide) (by decide)) kdc_70 lnc_70 (dck_at tX7_bows 31 rfl) ?_
        refine g_bipush (v := 6) hF (dck_at tX7_bows 32 rfl) (by decide) ?_
        refine g_iload_n hF (dck_at tX7_bows 33 rfl) rfl ?_
        refine g_iadd hF (dck_at tX7_bows 34 rfl) ?_
        obtain ⟨hg58, h⟩ := gd h
        refine g_ia hF (hM 74 (by decide) (by decide)) kdc_74 lnc_74 hg58 (dck_at tX7_bows 35 rfl) ?_
        show G X F 59 _ _ _
        refine g_iload_n hF (dck_at tX7_bows 36 rfl) rfl ?_
        refine g_iadd hF (dck_at tX7_bows 37 rfl) ?_
        refine g_goto hF 73 (dck_at tX7_bows 38 rfl) (by decide) ?_
        cases h
        exact K73
set_option maxHeartbeats 4000000 in
set_option maxRecDepth 100000 in
theorem c_X7_bows {X : Cx} {l : Launch} (hX : CxOk X) (hM : SM X) {N : Nat} {M : Mem} {M' : Mem} (h : f_X7_bows N M = some M') : Ctr X l yX7_bows cX7_bows 4 none 5 [.ref 70] M none M' := by
  refine Ctr.ofG (L := [some (.ref 70), none, none, none]) hX (by decide) (Nat.le_of_ble_eq_true rfl) rfl (fun F hF hl hR => ?_)
  subst hl
  unfold f_X7_bows at h
  refine g_aload_n hF (dck_at tX7_bows 0 rfl) rfl ?_
  obtain ⟨q1, e1, h⟩ := bd h
  refine g_callV hF (as := []) (k := 70) rfl (by decide) wm_X7_126 wi_X7_wasKnown we_X7_wasKnown wc_X7_wasKnown wn_X7 hyX7_wasKnown (by decide) (hM 70 (by decide) (by decide)) kdc_70 (c_X7_wasKnown hF.2.2.2.2.2.2.2.1 hM e1) (by decide) rfl rfl rfl rfl (dck_at tX7_bows 1 rfl) ?_
  show G X F 4 _ [.int q1] M
  have K29 : G X F 29 [some (.ref 70), none, none, none] [.int (if q1 = 0 then (if (M 74 2) ≤ (4 : Int32) then ((4 : Int32) - (M 74 2)) else (0 : Int32)) else (0 : Int32))] M := by
    refine g_istore_n (L' := [some (.ref 70), some (.int (if q1 = 0 then (if (M 74 2) ≤ (4 : Int32) then ((4 : Int32) - (M 74 2)) else (0 : Int32)) else (0 : Int32))), none, none]) hF (dck_at tX7_bows 17 rfl) (Nat.le_of_ble_eq_true rfl) rfl ?_
    refine g_iconst (v := 0) hF (dck_at tX7_bows 18 rfl) (by decide) ?_
    refine g_istore_n (L' := [some (.ref 70), some (.int (if q1 = 0 then (if (M 74 2) ≤ (4 : Int32) then ((4 : Int32) - (M 74 2)) else (0 : Int32)) else (0 : Int32))), some (.int (0 : Int32)), none]) hF (dck_at tX7_bows 19 rfl) (Nat.le_of_ble_eq_true rfl) rfl ?_
    obtain ⟨o32, e32, h⟩ := bd h
    refine g_X7_bows_L32 hM hF N _ N _ _ _ e32 ?_
    refine g_aload_n hF (dck_at tX7_bows 60 rfl) rfl ?_
    refine gf_X7_19 hF (hM 70 (by decide) (by decide)) kdc_70 lnc_70 (dck_at tX7_bows 61 rfl) ?_
    refine g_iconst (v := 2) hF (dck_at tX7_bows 62 rfl) (by decide) ?_
    refine g_dup2 hF (dck_at tX7_bows 63 rfl) rfl rfl ?_
    refine g_iac (j := 2) hF (hM 74 (by decide) (by decide)) kdc_74 lnc_74 (by decide) (by decide) (dck_at tX7_bows 64 rfl) ?_
    refine g_iconst (v := 1) hF (dck_at tX7_bows 65 rfl) (by decide) ?_
    show G X F 109 _ _ _
    refine g_iadd hF (dck_at tX7_bows 66 rfl) ?_
    refine g_isc (j := 2) hF (hM 74 (by decide) (by decide)) kdc_74 lnc_74 (by decide) (by decide) (dck_at tX7_bows 67 rfl) ?_
    cases h
    exact g_vret hF hR (dck_at tX7_bows 68 rfl)
  refine g_if_ne hF 17 (dck_at tX7_bows 2 rfl) (by decide) (fun hc4 => ?_) (fun hc4 => ?_)
  · refine g_iconst (v := 0) hF (dck_at tX7_bows 9 rfl) (by decide) ?_
    refine g_goto hF 29 (dck_at tX7_bows 10 rfl) (by decide) ?_
    simp only [if_neg hc4] at K29
    exact K29
  · refine g_aload_n hF (dck_at tX7_bows 3 rfl) rfl ?_
    refine gf_X7_19 hF (hM 70 (by decide) (by decide)) kdc_70 lnc_70 (dck_at tX7_bows 4 rfl) ?_
    refine g_iconst (v := 2) hF (dck_at tX7_bows 5 rfl) (by decide) ?_
    refine g_iac (j := 2) hF (hM 74 (by decide) (by decide)) kdc_74 lnc_74 (by decide) (by decide) (dck_at tX7_bows 6 rfl) ?_
    refine g_iconst (v := 4) hF (dck_at tX7_bows 7 rfl) (by decide) ?_
    refine g_icmp_le hF 21 (dck_at tX7_bows 8 rfl) (by decide) (fun hc14 => ?_) (fun hc14 => ?_)
    · refine g_iconst (v := 4) hF (dck_at tX7_bows 11 rfl) (by decide) ?_
      refine g_aload_n hF (dck_at tX7_bows 12 rfl) rfl ?_
      refine gf_X7_19 hF (hM 70 (by decide) (by decide)) kdc_70 lnc_70 (dck_at tX7_bows 13 rfl) ?_
      refine g_iconst (v := 2) hF (dck_at tX7_bows 14 rfl) (by decide) ?_
      refine g_iac (j := 2) hF (hM 74 (by decide) (by decide)) kdc_74 lnc_74 (by decide) (by decide) (dck_at tX7_bows 15 rfl) ?_
      refine g_isub hF (dck_at tX7_bows 16 rfl) ?_
      simp only [if_pos hc4, if_pos hc14] at K29
      exact K29
    · refine g_iconst (v := 0) hF (dck_at tX7_bows 9 rfl) (by decide) ?_
      refine g_goto hF 29 (dck_at tX7_bows 10 rfl) (by decide) ?_
      simp only [if_pos hc4, if_neg hc14] at K29
      exact K29

def tbX7_plays : List (Nat × Instr × Nat) := [(0, .iconst 0, 1), (1, .istore_n 2, 1), (2, .iload_n 2, 1), (3, .aload_n 0, 1), (4, .getfield 13, 3), (7, .bipush 33, 2), (9, .iload_n 1, 1), (10, .iadd, 1), (11, .iaload, 1), (12, .if_icmp .ge 13, 3), (15, .aload_n 0, 1), (16, .invokevirtual 142, 3), (19, .iinc 2 1, 3), (22, .goto (-20), 3), (25, .aload_n 0, 1), (26, .getfield 19, 3), (29, .iconst 1, 1), (30, .dup2, 1), (31, .iaload, 1), (32, .aload_n 0, 1), (33, .getfield 13, 3), (36, .bipush 37, 2), (38, .iload_n 1, 1), (39, .iadd, 1), (40, .iaload, 1), (41, .isub, 1), (42, .iastore, 1), (43, .aload_n 0, 1), (44, .getfield 19, 3), (47, .iconst 5, 1), (48, .dup2, 1), (49, .iaload, 1), (50, .iconst 1, 1), (51, .iload_n 1, 1), (52, .ishl, 1), (53, .ior, 1), (54, .iastore, 1), (55, .iconst 0, 1), (56, .istore_n 2, 1), (57, .iload_n 2, 1), (58, .aload_n 0, 1), (59, .getfield 13, 3), (62, .iconst 0, 1), (63, .iaload, 1), (64, .if_icmp .ge 68, 3), (67, .aload_n 0, 1), (68, .getfield 19, 3), (71, .bipush 6, 2), (73, .iload_n 2, 1), (74, .iadd, 1), (75, .aload_n 0, 1), (76, .iload_n 2, 1), (77, .invokevirtual 117, 3), (80, .ifCond .eq 36, 3), (83, .aload_n 0, 1), (84, .getfield 13, 3), (87, .bipush 29, 2), (89, .iload_n 1, 1), (90, .iadd, 1), (91, .iaload, 1), (92, .aload_n 0, 1), (93, .getfield 19, 3), (96, .bipush 6, 2), (98, .iload_n 2, 1), (99, .iadd, 1), (100, .iaload, 1), (101, .aload_n 0, 1), (102, .getfield 13, 3), (105, .bipush 13, 2), (107, .iload_n 2, 1), (108, .iadd, 1), (109, .iaload, 1), (110, .invokestatic 132, 3), (113, .goto 12, 3), (116, .aload_n 0, 1), (117, .getfield 19, 3), (120, .bipush 6, 2), (122, .iload_n 2, 1), (123, .iadd, 1), (124, .iaload, 1), (125, .iastore, 1), (126, .iinc 2 1, 3), (129, .goto (-72), 3), (132, .aload_n 0, 1), (133, .getfield 19, 3), (136, .iconst 4, 1), (137, .dup2, 1), (138, .iaload, 1), (139, .aload_n 0, 1), (140, .getfield 13, 3), (143, .bipush 41, 2), (145, .iload_n 1, 1), (146, .iadd, 1), (147, .iaload, 1), (148, .aload_n 0, 1), (149, .invokevirtual 145, 3), (152, .invokestatic 148, 3), (155, .imul, 1), (156, .iadd, 1), (157, .iastore, 1), (158, .return_, 1)]
theorem tX7_plays : dck cX7_plays tbX7_plays = true := by decide +kernel
def f_X7_plays_L2 (N : Nat) (x1 : Int32) : Nat → Int32 → Mem → Option (Int32 × Mem)
  | 0, _, _ => none
  | n + 1, x2, M => if inb ((33 : Int32) + x1) 45 = true then (if (M 72 ((33 : Int32) + x1).toNatClampNeg) ≤ x2 then some (x2, M) else (f_X7_minute N M).bind fun q16 => f_X7_plays_L2 N x1 n (x2 + (1 : Int32)) q16) else none
def f_X7_plays_L57 (N : Nat) (x1 : Int32) : Nat → Int32 → Mem → Option (Int32 × Mem)
  | 0, _, _ => none
  | n + 1, x2, M => (if (M 72 0) ≤ x2 then some (x2, M) else (f_X7_isThere N M x2).bind fun q77 => (if q77 = 0 then if inb ((6 : Int32) + x2) 14 = true then if inb ((6 : Int32) + x2) 14 = true then f_X7_plays_L57 N x1 n (x2 + (1 : Int32)) (up2 M 74 ((6 : Int32) + x2).toNatClampNeg (M 74 ((6 : Int32) + x2).toNatClampNeg)) else none else none else if inb ((29 : Int32) + x1) 45 = true then if inb ((6 : Int32) + x2) 14 = true then if inb ((13 : Int32) + x2) 45 = true then (f_X7_behind N M (M 72 ((29 : Int32) + x1).toNatClampNeg) (M 74 ((6 : Int32) + x2).toNatClampNeg) (M 72 ((13 : Int32) + x2).toNatClampNeg)).bind fun q110 => if inb ((6 : Int32) + x2) 14 = true then f_X7_plays_L57 N x1 n (x2 + (1 : Int32)) (up2 M 74 ((6 : Int32) + x2).toNatClampNeg q110) else none else none else none else none))
def f_X7_plays (N : Nat) (M : Mem) (x1 : Int32) : Option Mem := (f_X7_plays_L2 N x1 N (0 : Int32) M).bind fun o2 => if inb ((37 : Int32) + x1) 45 = true then (f_X7_plays_L57 N x1 N (0 : Int32) (up2 (up2 o2.2 74 1 ((o2.2 74 1) - (o2.2 72 ((37 : Int32) + x1).toNatClampNeg))) 74 5 (((up2 o2.2 74 1 ((o2.2 74 1) - (o2.2 72 ((37 : Int32) + x1).toNatClampNeg))) 74 5) ||| ((1 : Int32) <<< (x1 &&& 31))))).bind fun o57 => if inb ((41 : Int32) + x1) 45 = true then (f_X7_thereNow N o57.2).bind fun q149 => (f_X7_ones N o57.2 q149).bind fun q152 => some (up2 o57.2 74 4 ((o57.2 74 4) + ((o57.2 72 ((41 : Int32) + x1).toNatClampNeg) * q152))) else none else none
set_option maxHeartbeats 4000000 in
set_option maxRecDepth 100000 in
theorem g_X7_plays_L2 {X : Cx} {F : Fx} (hM : SM X) (hF : FK X F cX7_plays RX7 3 5) (N : Nat) (x1 : Int32) : ∀ (n : Nat) (x2 : Int32) (M : Mem) (o : Int32 × Mem), f_X7_plays_L2 N x1 n x2 M = some o → G X F 25 [some (.ref 70), some (.int x1), none] [] o.2 → G X F 2 [some (.ref 70), some (.int x1), some (.int x2)] [] M := by
  intro n
  induction n with
  | zero =>
    intro x2 M o h K
    cases h
  | succ n ih =>
    intro x2 M o h K
    rw [f_X7_plays_L2] at h
    refine g_iload_n hF (dck_at tX7_plays 2 rfl) rfl ?_
    refine g_aload_n hF (dck_at tX7_plays 3 rfl) rfl ?_
    refine gf_X7_13 hF (hM 70 (by decide) (by decide)) kdc_70 lnc_70 (dck_at tX7_plays 4 rfl) ?_
    refine g_bipush (v := 33) hF (dck_at tX7_plays 5 rfl) (by decide) ?_
    refine g_iload_n hF (dck_at tX7_plays 6 rfl) rfl ?_
    refine g_iadd hF (dck_at tX7_plays 7 rfl) ?_
    show G X F 11 _ _ _
    obtain ⟨hg11, h⟩ := gd h
    refine g_ia hF (hM 72 (by decide) (by decide)) kdc_72 lnc_72 hg11 (dck_at tX7_plays 8 rfl) ?_
    refine g_icmp_ge hF 25 (dck_at tX7_plays 9 rfl) (by decide) (fun hc12 => ?_) (fun hc12 => ?_)
    · replace h := ite_t hc12 h
      refine g_msk [true, true, false] (L' := [some (.ref 70), some (.int x1), none]) rfl ?_
      cases h
      exact K
    · replace h := ite_f hc12 h
      refine g_aload_n hF (dck_at tX7_plays 10 rfl) rfl ?_
      obtain ⟨q16, e16, h⟩ := bd h
      refine g_callV hF (as := []) (k := 70) rfl (by decide) wm_X7_142 wi_X7_minute we_X7_minute wc_X7_minute wn_X7 hyX7_minute (by decide) (hM 70 (by decide) (by decide)) kdc_70 (c_X7_minute hF.2.2.2.2.2.2.2.1 hM e16) (by decide) rfl rfl rfl rfl (dck_at tX7_plays 11 rfl) ?_
      show G X F 19 _ [] q16
      refine g_iinc (v := 1) (L' := [some (.ref 70), some (.int x1), some (.int (x2 + (1 : Int32)))]) hF (dck_at tX7_plays 12 rfl) rfl (by decide) rfl ?_
      refine g_goto hF 2 (dck_at tX7_plays 13 rfl) (by decide) ?_
      exact ih _ _ _ h K
set_option maxHeartbeats 4000000 in
set_option maxRecDepth 100000 in
theorem g_X7_plays_L57 {X : Cx} {F : Fx} (hM : SM X) (hF : FK X F cX7_plays RX7 3 5) (N : Nat) (x1 : Int32) : ∀ (n : Nat) (x2 : Int32) (M : Mem) (o : Int32 × Mem), f_X7_plays_L57 N x1 n x2 M = some o → G X F 132 [some (.ref 70), some (.int x1), none] [] o.2 → G X F 57 [some (.ref 70), some (.int x1), some (.int x2)] [] M := by
  intro n
  induction n with
  | zero =>
    intro x2 M o h K
    cases h
  | succ n ih =>
    intro x2 M o h K
    rw [f_X7_plays_L57] at h
    refine g_iload_n hF (dck_at tX7_plays 39 rfl) rfl ?_
    refine g_aload_n hF (dck_at tX7_plays 40 rfl) rfl ?_
    refine gf_X7_13 hF (hM 70 (by decide) (by decide)) kdc_70 lnc_70 (dck_at tX7_plays 41 rfl) ?_
    refine g_iconst (v := 0) hF (dck_at tX7_plays 42 rfl) (by decide) ?_
    refine g_iac (j := 0) hF (hM 72 (by decide) (by decide)) kdc_72 lnc_72 (by decide) (by decide) (dck_at tX7_plays 43 rfl) ?_
    refine g_icmp_ge hF 132 (dck_at tX7_plays 44 rfl) (by decide) (fun hc64 => ?_) (fun hc64 => ?_)
    · replace h := ite_t hc64 h
      refine g_msk [true, true, false] (L' := [some (.ref 70), some (.int x1), none]) rfl ?_
      cases h
      exact K
    · replace h := ite_f hc64 h
      refine g_aload_n hF (dck_at tX7_plays 45 rfl) rfl ?_
      refine gf_X7_19 hF (hM 70 (by decide) (by decide)) kdc_70 lnc_70 (dck_at tX7_plays 46 rfl) ?_
      refine g_bipush (v := 6) hF (dck_at tX7_plays 47 rfl) (by decide) ?_
      refine g_iload_n hF (dck_at tX7_plays 48 rfl) rfl ?_
      refine g_iadd hF (dck_at tX7_plays 49 rfl) ?_
      refine g_aload_n hF (dck_at tX7_plays 50 rfl) rfl ?_
      show G X F 76 _ _ _
      refine g_iload_n hF (dck_at tX7_plays 51 rfl) rfl ?_
      obtain ⟨q77, e77, h⟩ := bd h
      refine g_callV hF (as := [.int x2]) (k := 70) rfl (by decide) wm_X7_117 wi_X7_isThere we_X7_isThere wc_X7_isThere wn_X7 hyX7_isThere (by decide) (hM 70 (by decide) (by decide)) kdc_70 (c_X7_isThere hF.2.2.2.2.2.2.2.1 hM e77) (by decide) rfl rfl rfl rfl (dck_at tX7_plays 52 rfl) ?_
      show G X F 80 _ [.int q77, .int ((6 : Int32) + x2), .ref 74] M
      refine g_if_eq hF 116 (dck_at tX7_plays 53 rfl) (by decide) (fun hc80 => ?_) (fun hc80 => ?_)
      · replace h := ite_t hc80 h
        refine g_aload_n hF (dck_at tX7_plays 74 rfl) rfl ?_
        refine gf_X7_19 hF (hM 70 (by decide) (by decide)) kdc_70 lnc_70 (dck_at tX7_plays 75 rfl) ?_
        refine g_bipush (v := 6) hF (dck_at tX7_plays 76 rfl) (by decide) ?_
        refine g_iload_n hF (dck_at tX7_plays 77 rfl) rfl ?_
        refine g_iadd hF (dck_at tX7_plays 78 rfl) ?_
        obtain ⟨hg124, h⟩ := gd h
        refine g_ia hF (hM 74 (by decide) (by decide)) kdc_74 lnc_74 hg124 (dck_at tX7_plays 79 rfl) ?_
        show G X F 125 _ _ _
        obtain ⟨hg125, h⟩ := gd h
        refine g_is hF (hM 74 (by decide) (by decide)) kdc_74 lnc_74 hg125 (dck_at tX7_plays 80 rfl) ?_
        refine g_iinc (v := 1) (L' := [some (.ref 70), some (.int x1), some (.int (x2 + (1 : Int32)))]) hF (dck_at tX7_plays 81 rfl) rfl (by decide) rfl ?_
        refine g_goto hF 57 (dck_at tX7_plays 82 rfl) (by decide) ?_
        exact ih _ _ _ h K
      · replace h := ite_f hc80 h
        refine g_aload_n hF (dck_at tX7_plays 54 rfl) rfl ?_
        refine gf_X7_13 hF (hM 70 (by decide) (by decide)) kdc_70 lnc_70 (dck_at tX7_plays 55 rfl) ?_
        refine g_bipush (v := 29) hF (dck_at tX7_plays 56 rfl) (by decide) ?_
        refine g_iload_n hF (dck_at tX7_plays 57 rfl) rfl ?_
        refine g_iadd hF (dck_at tX7_plays 58 rfl) ?_
        obtain ⟨hg91, h⟩ := gd h
        refine g_ia hF (hM 72 (by decide) (by decide)) kdc_72 lnc_72 hg91 (dck_at tX7_plays 59 rfl) ?_
        show G X F 92 _ _ _
        refine g_aload_n hF (dck_at tX7_plays 60 rfl) rfl ?_
        refine gf_X7_19 hF (hM 70 (by decide) (by decide)) kdc_70 lnc_70 (dck_at tX7_plays 61 rfl) ?_
        refine g_bipush (v := 6) hF (dck_at tX7_plays 62 rfl) (by decide) ?_
        refine g_iload_n hF (dck_at tX7_plays 63 rfl) rfl ?_
        refine g_iadd hF (dck_at tX7_plays 64 rfl) ?_
        obtain ⟨hg100, h⟩ := gd h
        refine g_ia hF (hM 74 (by decide) (by decide)) kdc_74 lnc_74 hg100 (dck_at tX7_plays 65 rfl) ?_
        refine g_aload_n hF (dck_at tX7_plays 66 rfl) rfl ?_
        show G X F 102 _ _ _
        refine gf_X7_13 hF (hM 70 (by decide) (by decide)) kdc_70 lnc_70 (dck_at tX7_plays 67 rfl) ?_
        refine g_bipush (v := 13) hF (dck_at tX7_plays 68 rfl) (by decide) ?_
        refine g_iload_n hF (dck_at tX7_plays 69 rfl) rfl ?_
        refine g_iadd hF (dck_at tX7_plays 70 rfl) ?_
        obtain ⟨hg109, h⟩ := gd h
        refine g_ia hF (hM 72 (by decide) (by decide)) kdc_72 lnc_72 hg109 (dck_at tX7_plays 71 rfl) ?_
        obtain ⟨q110, e110, h⟩ := bd h
        refine g_callS hF (as := [.int (M 72 ((29 : Int32) + x1).toNatClampNeg), .int (M 74 ((6 : Int32) + x2).toNatClampNeg), .int (M 72 ((13 : Int32) + x2).toNatClampNeg)]) wm_X7_132 wt_X7_behind wc_X7_behind wn_X7 hyX7_behind (by decide) (c_X7_behind hF.2.2.2.2.2.2.2.1 e110) (by decide) rfl rfl rfl rfl (dck_at tX7_plays 72 rfl) ?_
        show G X F 113 _ [.int q110, .int ((6 : Int32) + x2), .ref 74] M
        refine g_goto hF 125 (dck_at tX7_plays 73 rfl) (by decide) ?_
        obtain ⟨hg125, h⟩ := gd h
        refine g_is hF (hM 74 (by decide) (by decide)) kdc_74 lnc_74 hg125 (dck_at tX7_plays 80 rfl) ?_
        refine g_iinc (v := 1) (L' := [some (.ref 70), some (.int x1), some (.int (x2 + (1 : Int32)))]) hF (dck_at tX7_plays 81 rfl) rfl (by decide) rfl ?_
        refine g_goto hF 57 (dck_at tX7_plays 82 rfl) (by decide) ?_
        exact ih _ _ _ h K
set_option maxHeartbeats 4000000 in
set_option maxRecDepth 100000 in
theorem c_X7_plays {X : Cx} {l : Launch} (hX : CxOk X) (hM : SM X) {N : Nat} {M : Mem} {x1 : Int32} {M' : Mem} (h : f_X7_plays N M x1 = some M') : Ctr X l yX7_plays cX7_plays 3 none 5 [.ref 70, .int x1] M none M' := by
  refine Ctr.ofG (L := [some (.ref 70), some (.int x1), none]) hX (by decide) (Nat.le_of_ble_eq_true rfl) rfl (fun F hF hl hR => ?_)
  subst hl
  unfold f_X7_plays at h
  refine g_iconst (v := 0) hF (dck_at tX7_plays 0 rfl) (by decide) ?_
  refine g_istore_n (L' := [some (.ref 70), some (.int x1), some (.int (0 : Int32))]) hF (dck_at tX7_plays 1 rfl) (Nat.le_of_ble_eq_true rfl) rfl ?_
  obtain ⟨o2, e2, h⟩ := bd h
  refine g_X7_plays_L2 hM hF N _ N _ _ _ e2 ?_
  refine g_aload_n hF (dck_at tX7_plays 14 rfl) rfl ?_
  refine gf_X7_19 hF (hM 70 (by decide) (by decide)) kdc_70 lnc_70 (dck_at tX7_plays 15 rfl) ?_
  refine g_iconst (v := 1) hF (dck_at tX7_plays 16 rfl) (by decide) ?_
  refine g_dup2 hF (dck_at tX7_plays 17 rfl) rfl rfl ?_
  refine g_iac (j := 1) hF (hM 74 (by decide) (by decide)) kdc_74 lnc_74 (by decide) (by decide) (dck_at tX7_plays 18 rfl) ?_
  refine g_aload_n hF (dck_at tX7_plays 19 rfl) rfl ?_
  show G X F 33 _ _ _
  refine gf_X7_13 hF (hM 70 (by decide) (by decide)) kdc_70 lnc_70 (dck_at tX7_plays 20 rfl) ?_
  refine g_bipush (v := 37) hF (dck_at tX7_plays 21 rfl) (by decide) ?_
  refine g_iload_n hF (dck_at tX7_plays 22 rfl) rfl ?_
  refine g_iadd hF (dck_at tX7_plays 23 rfl) ?_
  obtain ⟨hg40, h⟩ := gd h
  refine g_ia hF (hM 72 (by decide) (by decide)) kdc_72 lnc_72 hg40 (dck_at tX7_plays 24 rfl) ?_
  refine g_isub hF (dck_at tX7_plays 25 rfl) ?_
  refine g_isc (j := 1) hF (hM 74 (by decide) (by decide)) kdc_74 lnc_74 (by decide) (by decide) (dck_at tX7_plays 26 rfl) ?_
  show G X F 43 _ _ _
  refine g_aload_n hF (dck_at tX7_plays 27 rfl) rfl ?_
  refine gf_X7_19 hF (hM 70 (by decide) (by decide)) kdc_70 lnc_70 (dck_at tX7_plays 28 rfl) ?_
  refine g_iconst (v := 5) hF (dck_at tX7_plays 29 rfl) (by decide) ?_
  refine g_dup2 hF (dck_at tX7_plays 30 rfl) rfl rfl ?_
  refine g_iac (j := 5) hF (hM 74 (by decide) (by decide)) kdc_74 lnc_74 (by decide) (by decide) (dck_at tX7_plays 31 rfl) ?_
  refine g_iconst (v := 1) hF (dck_at tX7_plays 32 rfl) (by decide) ?_
  refine g_iload_n hF (dck_at tX7_plays 33 rfl) rfl ?_
  show G X F 52 _ _ _
  refine g_ishl hF (dck_at tX7_plays 34 rfl) ?_
  refine g_ior hF (dck_at tX7_plays 35 rfl) ?_
  refine g_isc (j := 5) hF (hM 74 (by decide) (by decide)) kdc_74 lnc_74 (by decide) (by decide) (dck_at tX7_plays 36 rfl) ?_
  refine g_iconst (v := 0) hF (dck_at tX7_plays 37 rfl) (by decide) ?_
  refine g_istore_n (L' := [some (.ref 70), some (.int x1), some (.int (0 : Int32))]) hF (dck_at tX7_plays 38 rfl) (Nat.le_of_ble_eq_true rfl) rfl ?_
  obtain ⟨o57, e57, h⟩ := bd h
  refine g_X7_plays_L57 hM hF N _ N _ _ _ e57 ?_
  refine g_aload_n hF (dck_at tX7_plays 83 rfl) rfl ?_
  refine gf_X7_19 hF (hM 70 (by decide) (by decide)) kdc_70 lnc_70 (dck_at tX7_plays 84 rfl) ?_
  refine g_iconst (v := 4) hF (dck_at tX7_plays 85 rfl) (by decide) ?_
  refine g_dup2 hF (dck_at tX7_plays 86 rfl) rfl rfl ?_
  refine g_iac (j := 4) hF (hM 74 (by decide) (by decide)) kdc_74 lnc_74 (by decide) (by decide) (dck_at tX7_plays 87 rfl) ?_
  refine g_aload_n hF (dck_at tX7_plays 88 rfl) rfl ?_
  show G X F 140 _ _ _
  refine gf_X7_13 hF (hM 70 (by decide) (by decide)) kdc_70 lnc_70 (dck_at tX7_plays 89 rfl) ?_
  refine g_bipush (v := 41) hF (dck_at tX7_plays 90 rfl) (by decide) ?_
  refine g_iload_n hF (dck_at tX7_plays 91 rfl) rfl ?_
  refine g_iadd hF (dck_at tX7_plays 92 rfl) ?_
  obtain ⟨hg147, h⟩ := gd h
  refine g_ia hF (hM 72 (by decide) (by decide)) kdc_72 lnc_72 hg147 (dck_at tX7_plays 93 rfl) ?_
  refine g_aload_n hF (dck_at tX7_plays 94 rfl) rfl ?_
  obtain ⟨q149, e149, h⟩ := bd h
  refine g_callV hF (as := []) (k := 70) rfl (by decide) wm_X7_145 wi_X7_thereNow we_X7_thereNow wc_X7_thereNow wn_X7 hyX7_thereNow (by decide) (hM 70 (by decide) (by decide)) kdc_70 (c_X7_thereNow hF.2.2.2.2.2.2.2.1 hM e149) (by decide) rfl rfl rfl rfl (dck_at tX7_plays 95 rfl) ?_
  show G X F 152 _ [.int q149, .int (o57.2 72 ((41 : Int32) + x1).toNatClampNeg), .int (o57.2 74 4), .int (4 : Int32), .ref 74] o57.2
  show G X F 152 _ _ _
  obtain ⟨q152, e152, h⟩ := bd h
  refine g_callS hF (as := [.int q149]) wm_X7_148 wt_X7_ones wc_X7_ones wn_X7 hyX7_ones (by decide) (c_X7_ones hF.2.2.2.2.2.2.2.1 e152) (by decide) rfl rfl rfl rfl (dck_at tX7_plays 96 rfl) ?_
  show G X F 155 _ [.int q152, .int (o57.2 72 ((41 : Int32) + x1).toNatClampNeg), .int (o57.2 74 4), .int (4 : Int32), .ref 74] o57.2
  refine g_imul hF (dck_at tX7_plays 97 rfl) ?_
  refine g_iadd hF (dck_at tX7_plays 98 rfl) ?_
  refine g_isc (j := 4) hF (hM 74 (by decide) (by decide)) kdc_74 lnc_74 (by decide) (by decide) (dck_at tX7_plays 99 rfl) ?_
  cases h
  exact g_vret hF hR (dck_at tX7_plays 100 rfl)

def tbX7_steps : List (Nat × Instr × Nat) := [(0, .iload_n 1, 1), (1, .ifCond .ne 10, 3), (4, .aload_n 0, 1), (5, .invokevirtual 151, 3), (8, .goto 22, 3), (11, .iload_n 1, 1), (12, .iconst 1, 1), (13, .if_icmp .ne 10, 3), (16, .aload_n 0, 1), (17, .invokevirtual 154, 3), (20, .goto 10, 3), (23, .aload_n 0, 1), (24, .iload_n 1, 1), (25, .iconst 2, 1), (26, .isub, 1), (27, .invokevirtual 157, 3), (30, .return_, 1)]
theorem tX7_steps : dck cX7_steps tbX7_steps = true := by decide +kernel
def f_X7_steps (N : Nat) (M : Mem) (x1 : Int32) : Option Mem := (if x1 = 0 then (f_X7_waitsOne N M).bind fun q5 => some q5 else (if x1 = (1 : Int32) then (f_X7_bows N M).bind fun q17 => some q17 else (f_X7_plays N M (x1 - (2 : Int32))).bind fun q27 => some q27))
set_option maxHeartbeats 4000000 in
set_option maxRecDepth 100000 in
theorem c_X7_steps {X : Cx} {l : Launch} (hX : CxOk X) (hM : SM X) {N : Nat} {M : Mem} {x1 : Int32} {M' : Mem} (h : f_X7_steps N M x1 = some M') : Ctr X l yX7_steps cX7_steps 2 none 7 [.ref 70, .int x1] M none M' := by
  refine Ctr.ofG (L := [some (.ref 70), some (.int x1)]) hX (by decide) (Nat.le_of_ble_eq_true rfl) rfl (fun F hF hl hR => ?_)
  subst hl
  unfold f_X7_steps at h
  refine g_iload_n hF (dck_at tX7_steps 0 rfl) rfl ?_
  refine g_if_ne hF 11 (dck_at tX7_steps 1 rfl) (by decide) (fun hc1 => ?_) (fun hc1 => ?_)
  · replace h := ite_f hc1 h
    refine g_iload_n hF (dck_at tX7_steps 5 rfl) rfl ?_
    refine g_iconst (v := 1) hF (dck_at tX7_steps 6 rfl) (by decide) ?_
    refine g_icmp_ne hF 23 (dck_at tX7_steps 7 rfl) (by decide) (fun hc13 => ?_) (fun hc13 => ?_)
    · replace h := ite_f hc13 h
      refine g_aload_n hF (dck_at tX7_steps 11 rfl) rfl ?_
      refine g_iload_n hF (dck_at tX7_steps 12 rfl) rfl ?_
      refine g_iconst (v := 2) hF (dck_at tX7_steps 13 rfl) (by decide) ?_
      refine g_isub hF (dck_at tX7_steps 14 rfl) ?_
      obtain ⟨q27, e27, h⟩ := bd h
      refine g_callV hF (as := [.int (x1 - (2 : Int32))]) (k := 70) rfl (by decide) wm_X7_157 wi_X7_plays we_X7_plays wc_X7_plays wn_X7 hyX7_plays (by decide) (hM 70 (by decide) (by decide)) kdc_70 (c_X7_plays hF.2.2.2.2.2.2.2.1 hM e27) (by decide) rfl rfl rfl rfl (dck_at tX7_steps 15 rfl) ?_
      show G X F 30 _ [] q27
      cases h
      exact g_vret hF hR (dck_at tX7_steps 16 rfl)
    · replace h := ite_t hc13 h
      refine g_aload_n hF (dck_at tX7_steps 8 rfl) rfl ?_
      obtain ⟨q17, e17, h⟩ := bd h
      refine g_callV hF (as := []) (k := 70) rfl (by decide) wm_X7_154 wi_X7_bows we_X7_bows wc_X7_bows wn_X7 hyX7_bows (by decide) (hM 70 (by decide) (by decide)) kdc_70 (c_X7_bows hF.2.2.2.2.2.2.2.1 hM e17) (by decide) rfl rfl rfl rfl (dck_at tX7_steps 9 rfl) ?_
      show G X F 20 _ [] q17
      refine g_goto hF 30 (dck_at tX7_steps 10 rfl) (by decide) ?_
      cases h
      exact g_vret hF hR (dck_at tX7_steps 16 rfl)
  · replace h := ite_t hc1 h
    refine g_aload_n hF (dck_at tX7_steps 2 rfl) rfl ?_
    obtain ⟨q5, e5, h⟩ := bd h
    refine g_callV hF (as := []) (k := 70) rfl (by decide) wm_X7_151 wi_X7_waitsOne we_X7_waitsOne wc_X7_waitsOne wn_X7 hyX7_waitsOne (by decide) (hM 70 (by decide) (by decide)) kdc_70 (c_X7_waitsOne hF.2.2.2.2.2.2.2.1 hM e5) (by decide) rfl rfl rfl rfl (dck_at tX7_steps 3 rfl) ?_
    show G X F 8 _ [] q5
    refine g_goto hF 30 (dck_at tX7_steps 4 rfl) (by decide) ?_
    cases h
    exact g_vret hF hR (dck_at tX7_steps 16 rfl)

def tbX7_does : List (Nat × Instr × Nat) := [(0, .aload_n 0, 1), (1, .iload_n 1, 1), (2, .invokevirtual 139, 3), (5, .istore_n 2, 1), (6, .iload_n 2, 1), (7, .ifCond .eq 5, 3), (10, .iload_n 2, 1), (11, .ireturn, 1), (12, .iload_n 1, 1), (13, .ifCond .ne 7, 3), (16, .iconst 1, 1), (17, .goto 23, 3), (20, .iload_n 1, 1), (21, .iconst 1, 1), (22, .if_icmp .ne 7, 3), (25, .iconst 0, 1), (26, .goto 14, 3), (29, .aload_n 0, 1), (30, .getfield 13, 3), (33, .bipush 33, 2), (35, .iload_n 1, 1), (36, .iadd, 1), (37, .iconst 2, 1), (38, .isub, 1), (39, .iaload, 1), (40, .istore_n 3, 1), (41, .aload_n 0, 1), (42, .getfield 19, 3), (45, .iconst 0, 1), (46, .iaload, 1), (47, .iload_n 3, 1), (48, .iadd, 1), (49, .sipush 999, 3), (52, .if_icmp .le 6, 3), (55, .bipush (-5), 2), (57, .ireturn, 1), (58, .aload_n 0, 1), (59, .getfield 104, 3), (62, .bipush 8, 2), (64, .if_icmp .ne 46, 3), (67, .iconst 0, 1), (68, .istore 4, 2), (70, .iload 4, 2), (72, .bipush 98, 2), (74, .if_icmp .ge 26, 3), (77, .aload_n 0, 1), (78, .getfield 22, 3), (81, .iload 4, 2), (83, .aload_n 0, 1), (84, .getfield 22, 3), (87, .iload 4, 2), (89, .bipush 14, 2), (91, .iadd, 1), (92, .iaload, 1), (93, .iastore, 1), (94, .iinc 4 1, 3), (97, .goto (-27), 3), (100, .aload_n 0, 1), (101, .dup, 1), (102, .getfield 104, 3), (105, .iconst 1, 1), (106, .isub, 1), (107, .putfield 104, 3), (110, .iconst 0, 1), (111, .istore 4, 2), (113, .iload 4, 2), (115, .bipush 14, 2), (117, .if_icmp .ge 31, 3), (120, .aload_n 0, 1), (121, .getfield 22, 3), (124, .bipush 14, 2), (126, .aload_n 0, 1), (127, .getfield 104, 3), (130, .imul, 1), (131, .iload 4, 2), (133, .iadd, 1), (134, .aload_n 0, 1), (135, .getfield 19, 3), (138, .iload 4, 2), (140, .iaload, 1), (141, .iastore, 1), (142, .iinc 4 1, 3), (145, .goto (-32), 3), (148, .aload_n 0, 1), (149, .dup, 1), (150, .getfield 104, 3), (153, .iconst 1, 1), (154, .iadd, 1), (155, .putfield 104, 3), (158, .aload_n 0, 1), (159, .iload_n 1, 1), (160, .invokevirtual 161, 3), (163, .aload_n 0, 1), (164, .invokevirtual 136, 3), (167, .ireturn, 1)]
theorem tX7_does : dck cX7_does tbX7_does = true := by decide +kernel
def f_X7_does_L70 (N : Nat) (x1 : Int32) : Nat → Int32 → Mem → Option (Int32 × Mem)
  | 0, _, _ => none
  | n + 1, x4, M => (if (98 : Int32) ≤ x4 then some (x4, M) else if inb (x4 + (14 : Int32)) 112 = true then if inb x4 112 = true then f_X7_does_L70 N x1 n (x4 + (1 : Int32)) (up2 M 75 x4.toNatClampNeg (M 75 (x4 + (14 : Int32)).toNatClampNeg)) else none else none)
def f_X7_does_L113 (N : Nat) (x1 : Int32) : Nat → Int32 → Mem → Option (Int32 × Mem)
  | 0, _, _ => none
  | n + 1, x4, M => (if (14 : Int32) ≤ x4 then some (x4, M) else if inb x4 14 = true then if inb (((14 : Int32) * (M 70 6)) + x4) 112 = true then f_X7_does_L113 N x1 n (x4 + (1 : Int32)) (up2 M 75 (((14 : Int32) * (M 70 6)) + x4).toNatClampNeg (M 74 x4.toNatClampNeg)) else none else none)
def f_X7_does (N : Nat) (M : Mem) (x1 : Int32) : Option (Int32 × Mem) := (f_X7_lacks N M x1).bind fun q2 => (if q2 = 0 then ((if x1 = 0 then some (1 : Int32) else (if x1 = (1 : Int32) then some (0 : Int32) else if inb (((33 : Int32) + x1) - (2 : Int32)) 45 = true then some (M 72 (((33 : Int32) + x1) - (2 : Int32)).toNatClampNeg) else none)).bind fun o40 => (if ((M 74 0) + o40) ≤ (999 : Int32) then ((if (M 70 6) = (8 : Int32) then (f_X7_does_L70 N x1 N (0 : Int32) M).bind fun o70 => some (up2 o70.2 70 6 ((o70.2 70 6) - (1 : Int32))) else some M).bind fun o110 => (f_X7_does_L113 N x1 N (0 : Int32) o110).bind fun o113 => (f_X7_steps N (up2 o113.2 70 6 ((o113.2 70 6) + (1 : Int32))) x1).bind fun q160 => (f_X7_noise N q160).bind fun q164 => some (q164, q160)) else some ((-5 : Int32), M))) else some (q2, M))
set_option maxHeartbeats 4000000 in
set_option maxRecDepth 100000 in
theorem g_X7_does_L70 {X : Cx} {F : Fx} (hM : SM X) (hF : FK X F cX7_does RX7 5 8) (N : Nat) (x1 : Int32) : ∀ (n : Nat) (x4 : Int32) (M : Mem) (o : Int32 × Mem), f_X7_does_L70 N x1 n x4 M = some o → G X F 100 [some (.ref 70), some (.int x1), none, none, none] [] o.2 → G X F 70 [some (.ref 70), some (.int x1), none, none, some (.int x4)] [] M := by
  intro n
  induction n with
  | zero =>
    intro x4 M o h K
    cases h
  | succ n ih =>
    intro x4 M o h K
    rw [f_X7_does_L70] at h
    refine g_iload hF (dck_at tX7_does 42 rfl) rfl ?_
    refine g_bipush (v := 98) hF (dck_at tX7_does 43 rfl) (by decide) ?_
    refine g_icmp_ge hF 100 (dck_at tX7_does 44 rfl) (by decide) (fun hc74 => ?_) (fun hc74 => ?_)
    · replace h := ite_t hc74 h
      refine g_msk [true, true, true, true, false] (L' := [some (.ref 70), some (.int x1), none, none, none]) rfl ?_
      cases h
      exact K
    · replace h := ite_f hc74 h
      refine g_aload_n hF (dck_at tX7_does 45 rfl) rfl ?_
      refine gf_X7_22 hF (hM 70 (by decide) (by decide)) kdc_70 lnc_70 (dck_at tX7_does 46 rfl) ?_
      refine g_iload hF (dck_at tX7_does 47 rfl) rfl ?_
      refine g_aload_n hF (dck_at tX7_does 48 rfl) rfl ?_
      refine gf_X7_22 hF (hM 70 (by decide) (by decide)) kdc_70 lnc_70 (dck_at tX7_does 49 rfl) ?_
      refine g_iload hF (dck_at tX7_does 50 rfl) rfl ?_
      show G X F 89 _ _ _
      refine g_bipush (v := 14) hF (dck_at tX7_does 51 rfl) (by decide) ?_
      refine g_iadd hF (dck_at tX7_does 52 rfl) ?_
      obtain ⟨hg92, h⟩ := gd h
      refine g_ia hF (hM 75 (by decide) (by decide)) kdc_75 lnc_75 hg92 (dck_at tX7_does 53 rfl) ?_
      obtain ⟨hg93, h⟩ := gd h
      refine g_is hF (hM 75 (by decide) (by decide)) kdc_75 lnc_75 hg93 (dck_at tX7_does 54 rfl) ?_
      refine g_iinc (v := 1) (L' := [some (.ref 70), some (.int x1), none, none, some (.int (x4 + (1 : Int32)))]) hF (dck_at tX7_does 55 rfl) rfl (by decide) rfl ?_
      refine g_goto hF 70 (dck_at tX7_does 56 rfl) (by decide) ?_
      exact ih _ _ _ h K
set_option maxHeartbeats 4000000 in
set_option maxRecDepth 100000 in
theorem g_X7_does_L113 {X : Cx} {F : Fx} (hM : SM X) (hF : FK X F cX7_does RX7 5 8) (N : Nat) (x1 : Int32) : ∀ (n : Nat) (x4 : Int32) (M : Mem) (o : Int32 × Mem), f_X7_does_L113 N x1 n x4 M = some o → G X F 148 [some (.ref 70), some (.int x1), none, none, none] [] o.2 → G X F 113 [some (.ref 70), some (.int x1), none, none, some (.int x4)] [] M := by
  intro n
  induction n with
  | zero =>
    intro x4 M o h K
    cases h
  | succ n ih =>
    intro x4 M o h K
    rw [f_X7_does_L113] at h
    refine g_iload hF (dck_at tX7_does 65 rfl) rfl ?_
    refine g_bipush (v := 14) hF (dck_at tX7_does 66 rfl) (by decide) ?_
    refine g_icmp_ge hF 148 (dck_at tX7_does 67 rfl) (by decide) (fun hc117 => ?_) (fun hc117 => ?_)
    · replace h := ite_t hc117 h
      refine g_msk [true, true, true, true, false] (L' := [some (.ref 70), some (.int x1), none, none, none]) rfl ?_
      cases h
      exact K
    · replace h := ite_f hc117 h
      refine g_aload_n hF (dck_at tX7_does 68 rfl) rfl ?_
      refine gf_X7_22 hF (hM 70 (by decide) (by decide)) kdc_70 lnc_70 (dck_at tX7_does 69 rfl) ?_
      refine g_bipush (v := 14) hF (dck_at tX7_does 70 rfl) (by decide) ?_
      refine g_aload_n hF (dck_at tX7_does 71 rfl) rfl ?_
      refine gf_X7_104 hF (hM 70 (by decide) (by decide)) kdc_70 lnc_70 (dck_at tX7_does 72 rfl) ?_
      refine g_imul hF (dck_at tX7_does 73 rfl) ?_
      show G X F 131 _ _ _
      refine g_iload hF (dck_at tX7_does 74 rfl) rfl ?_
      refine g_iadd hF (dck_at tX7_does 75 rfl) ?_
      refine g_aload_n hF (dck_at tX7_does 76 rfl) rfl ?_
      refine gf_X7_19 hF (hM 70 (by decide) (by decide)) kdc_70 lnc_70 (dck_at tX7_does 77 rfl) ?_
      refine g_iload hF (dck_at tX7_does 78 rfl) rfl ?_
      obtain ⟨hg140, h⟩ := gd h
      refine g_ia hF (hM 74 (by decide) (by decide)) kdc_74 lnc_74 hg140 (dck_at tX7_does 79 rfl) ?_
      obtain ⟨hg141, h⟩ := gd h
      refine g_is hF (hM 75 (by decide) (by decide)) kdc_75 lnc_75 hg141 (dck_at tX7_does 80 rfl) ?_
      show G X F 142 _ _ _
      refine g_iinc (v := 1) (L' := [some (.ref 70), some (.int x1), none, none, some (.int (x4 + (1 : Int32)))]) hF (dck_at tX7_does 81 rfl) rfl (by decide) rfl ?_
      refine g_goto hF 113 (dck_at tX7_does 82 rfl) (by decide) ?_
      exact ih _ _ _ h K
set_option maxHeartbeats 4000000 in
set_option maxRecDepth 100000 in
theorem c_X7_does {X : Cx} {l : Launch} (hX : CxOk X) (hM : SM X) {N : Nat} {M : Mem} {x1 : Int32} {r : Int32} {M' : Mem} (h : f_X7_does N M x1 = some (r, M')) : Ctr X l yX7_does cX7_does 5 (some .int) 8 [.ref 70, .int x1] M (some (.int r)) M' := by
  refine Ctr.ofG (L := [some (.ref 70), some (.int x1), none, none, none]) hX (by decide) (Nat.le_of_ble_eq_true rfl) rfl (fun F hF hl hR => ?_)
  subst hl
  unfold f_X7_does at h
  refine g_aload_n hF (dck_at tX7_does 0 rfl) rfl ?_
  refine g_iload_n hF (dck_at tX7_does 1 rfl) rfl ?_
  obtain ⟨q2, e2, h⟩ := bd h
  refine g_callV hF (as := [.int x1]) (k := 70) rfl (by decide) wm_X7_139 wi_X7_lacks we_X7_lacks wc_X7_lacks wn_X7 hyX7_lacks (by decide) (hM 70 (by decide) (by decide)) kdc_70 (c_X7_lacks hF.2.2.2.2.2.2.2.1 hM e2) (by decide) rfl rfl rfl rfl (dck_at tX7_does 2 rfl) ?_
  show G X F 5 _ [.int q2] M
  refine g_istore_n (L' := [some (.ref 70), some (.int x1), some (.int q2), none, none]) hF (dck_at tX7_does 3 rfl) (Nat.le_of_ble_eq_true rfl) rfl ?_
  refine g_iload_n hF (dck_at tX7_does 4 rfl) rfl ?_
  refine g_if_eq hF 12 (dck_at tX7_does 5 rfl) (by decide) (fun hc7 => ?_) (fun hc7 => ?_)
  · replace h := ite_t hc7 h
    refine g_iload_n hF (dck_at tX7_does 8 rfl) rfl ?_
    obtain ⟨o40, h40, h⟩ := bd h
    have K40 : G X F 40 [some (.ref 70), some (.int x1), none, none, none] [.int o40] M := by
      refine g_istore_n (L' := [some (.ref 70), some (.int x1), none, some (.int o40), none]) hF (dck_at tX7_does 25 rfl) (Nat.le_of_ble_eq_true rfl) rfl ?_
      refine g_aload_n hF (dck_at tX7_does 26 rfl) rfl ?_
      refine gf_X7_19 hF (hM 70 (by decide) (by decide)) kdc_70 lnc_70 (dck_at tX7_does 27 rfl) ?_
      refine g_iconst (v := 0) hF (dck_at tX7_does 28 rfl) (by decide) ?_
      refine g_iac (j := 0) hF (hM 74 (by decide) (by decide)) kdc_74 lnc_74 (by decide) (by decide) (dck_at tX7_does 29 rfl) ?_
      refine g_iload_n hF (dck_at tX7_does 30 rfl) rfl ?_
      show G X F 48 _ _ _
      refine g_iadd hF (dck_at tX7_does 31 rfl) ?_
      refine g_sipush (v := 999) hF (dck_at tX7_does 32 rfl) (by decide) ?_
      refine g_icmp_le hF 58 (dck_at tX7_does 33 rfl) (by decide) (fun hc52 => ?_) (fun hc52 => ?_)
      · replace h := ite_t hc52 h
        refine g_aload_n hF (dck_at tX7_does 36 rfl) rfl ?_
        refine gf_X7_104 hF (hM 70 (by decide) (by decide)) kdc_70 lnc_70 (dck_at tX7_does 37 rfl) ?_
        refine g_bipush (v := 8) hF (dck_at tX7_does 38 rfl) (by decide) ?_
        obtain ⟨o110, h110, h⟩ := bd h
        have K110 : G X F 110 [some (.ref 70), some (.int x1), none, none, none] [] o110 := by
          refine g_iconst (v := 0) hF (dck_at tX7_does 63 rfl) (by decide) ?_
          refine g_istore (L' := [some (.ref 70), some (.int x1), none, none, some (.int (0 : Int32))]) hF (dck_at tX7_does 64 rfl) (Nat.le_of_ble_eq_true rfl) rfl ?_
          obtain ⟨o113, e113, h⟩ := bd h
          refine g_X7_does_L113 hM hF N _ N _ _ _ e113 ?_
          refine g_aload_n hF (dck_at tX7_does 83 rfl) rfl ?_
          refine g_dup hF (dck_at tX7_does 84 rfl) rfl ?_
          refine gf_X7_104 hF (hM 70 (by decide) (by decide)) kdc_70 lnc_70 (dck_at tX7_does 85 rfl) ?_
          refine g_iconst (v := 1) hF (dck_at tX7_does 86 rfl) (by decide) ?_
          refine g_iadd hF (dck_at tX7_does 87 rfl) ?_
          refine pf_X7_104 hF (hM 70 (by decide) (by decide)) kdc_70 lnc_70 (dck_at tX7_does 88 rfl) ?_
          show G X F 158 _ _ _
          refine g_aload_n hF (dck_at tX7_does 89 rfl) rfl ?_
          refine g_iload_n hF (dck_at tX7_does 90 rfl) rfl ?_
          obtain ⟨q160, e160, h⟩ := bd h
          refine g_callV hF (as := [.int x1]) (k := 70) rfl (by decide) wm_X7_161 wi_X7_steps we_X7_steps wc_X7_steps wn_X7 hyX7_steps (by decide) (hM 70 (by decide) (by decide)) kdc_70 (c_X7_steps hF.2.2.2.2.2.2.2.1 hM e160) (by decide) rfl rfl rfl rfl (dck_at tX7_does 91 rfl) ?_
          show G X F 163 _ [] q160
          refine g_aload_n hF (dck_at tX7_does 92 rfl) rfl ?_
          obtain ⟨q164, e164, h⟩ := bd h
          refine g_callV hF (as := []) (k := 70) rfl (by decide) wm_X7_136 wi_X7_noise we_X7_noise wc_X7_noise wn_X7 hyX7_noise (by decide) (hM 70 (by decide) (by decide)) kdc_70 (c_X7_noise hF.2.2.2.2.2.2.2.1 hM e164) (by decide) rfl rfl rfl rfl (dck_at tX7_does 93 rfl) ?_
          show G X F 167 _ [.int q164] q160
          cases h
          exact g_iret hF hR (dck_at tX7_does 94 rfl)
        replace h := h110
        refine g_icmp_ne hF 110 (dck_at tX7_does 39 rfl) (by decide) (fun hc64 => ?_) (fun hc64 => ?_)
        · replace h := ite_f hc64 h
          cases h
          refine g_msk [true, true, true, false, true] (L' := [some (.ref 70), some (.int x1), none, none, none]) rfl ?_
          exact K110
        · replace h := ite_t hc64 h
          refine g_iconst (v := 0) hF (dck_at tX7_does 40 rfl) (by decide) ?_
          refine g_istore (L' := [some (.ref 70), some (.int x1), none, some (.int o40), some (.int (0 : Int32))]) hF (dck_at tX7_does 41 rfl) (Nat.le_of_ble_eq_true rfl) rfl ?_
          refine g_msk [true, true, true, false, true] (L' := [some (.ref 70), some (.int x1), none, none, some (.int (0 : Int32))]) rfl ?_
          obtain ⟨o70, e70, h⟩ := bd h
          refine g_X7_does_L70 hM hF N _ N _ _ _ e70 ?_
          refine g_aload_n hF (dck_at tX7_does 57 rfl) rfl ?_
          refine g_dup hF (dck_at tX7_does 58 rfl) rfl ?_
          refine gf_X7_104 hF (hM 70 (by decide) (by decide)) kdc_70 lnc_70 (dck_at tX7_does 59 rfl) ?_
          refine g_iconst (v := 1) hF (dck_at tX7_does 60 rfl) (by decide) ?_
          refine g_isub hF (dck_at tX7_does 61 rfl) ?_
          refine pf_X7_104 hF (hM 70 (by decide) (by decide)) kdc_70 lnc_70 (dck_at tX7_does 62 rfl) ?_
          cases h
          exact K110
      · replace h := ite_f hc52 h
        refine g_bipush (v := -5) hF (dck_at tX7_does 34 rfl) (by decide) ?_
        cases h
        exact g_iret hF hR (dck_at tX7_does 35 rfl)
    replace h := h40
    refine g_if_ne hF 20 (dck_at tX7_does 9 rfl) (by decide) (fun hc13 => ?_) (fun hc13 => ?_)
    · replace h := ite_f hc13 h
      refine g_iload_n hF (dck_at tX7_does 12 rfl) rfl ?_
      refine g_iconst (v := 1) hF (dck_at tX7_does 13 rfl) (by decide) ?_
      refine g_icmp_ne hF 29 (dck_at tX7_does 14 rfl) (by decide) (fun hc22 => ?_) (fun hc22 => ?_)
      · replace h := ite_f hc22 h
        refine g_aload_n hF (dck_at tX7_does 17 rfl) rfl ?_
        refine gf_X7_13 hF (hM 70 (by decide) (by decide)) kdc_70 lnc_70 (dck_at tX7_does 18 rfl) ?_
        refine g_bipush (v := 33) hF (dck_at tX7_does 19 rfl) (by decide) ?_
        refine g_iload_n hF (dck_at tX7_does 20 rfl) rfl ?_
        refine g_iadd hF (dck_at tX7_does 21 rfl) ?_
        refine g_iconst (v := 2) hF (dck_at tX7_does 22 rfl) (by decide) ?_
        show G X F 38 _ _ _
        refine g_isub hF (dck_at tX7_does 23 rfl) ?_
        obtain ⟨hg39, h⟩ := gd h
        refine g_ia hF (hM 72 (by decide) (by decide)) kdc_72 lnc_72 hg39 (dck_at tX7_does 24 rfl) ?_
        cases h
        refine g_msk [true, true, false, true, true] (L' := [some (.ref 70), some (.int x1), none, none, none]) rfl ?_
        exact K40
      · replace h := ite_t hc22 h
        refine g_iconst (v := 0) hF (dck_at tX7_does 15 rfl) (by decide) ?_
        refine g_goto hF 40 (dck_at tX7_does 16 rfl) (by decide) ?_
        cases h
        refine g_msk [true, true, false, true, true] (L' := [some (.ref 70), some (.int x1), none, none, none]) rfl ?_
        exact K40
    · replace h := ite_t hc13 h
      refine g_iconst (v := 1) hF (dck_at tX7_does 10 rfl) (by decide) ?_
      refine g_goto hF 40 (dck_at tX7_does 11 rfl) (by decide) ?_
      cases h
      refine g_msk [true, true, false, true, true] (L' := [some (.ref 70), some (.int x1), none, none, none]) rfl ?_
      exact K40
  · replace h := ite_f hc7 h
    refine g_iload_n hF (dck_at tX7_does 6 rfl) rfl ?_
    cases h
    exact g_iret hF hR (dck_at tX7_does 7 rfl)

def tbX7_undo : List (Nat × Instr × Nat) := [(0, .aload_n 0, 1), (1, .getfield 104, 3), (4, .ifCond .ne 6, 3), (7, .bipush (-4), 2), (9, .ireturn, 1), (10, .aload_n 0, 1), (11, .dup, 1), (12, .getfield 104, 3), (15, .iconst 1, 1), (16, .isub, 1), (17, .putfield 104, 3), (20, .iconst 0, 1), (21, .istore_n 1, 1), (22, .iload_n 1, 1), (23, .bipush 14, 2), (25, .if_icmp .ge 29, 3), (28, .aload_n 0, 1), (29, .getfield 19, 3), (32, .iload_n 1, 1), (33, .aload_n 0, 1), (34, .getfield 22, 3), (37, .bipush 14, 2), (39, .aload_n 0, 1), (40, .getfield 104, 3), (43, .imul, 1), (44, .iload_n 1, 1), (45, .iadd, 1), (46, .iaload, 1), (47, .iastore, 1), (48, .iinc 1 1, 3), (51, .goto (-29), 3), (54, .aload_n 0, 1), (55, .getfield 104, 3), (58, .ireturn, 1)]
theorem tX7_undo : dck cX7_undo tbX7_undo = true := by decide +kernel
def f_X7_undo_L22 (N : Nat) : Nat → Int32 → Mem → Option (Int32 × Mem)
  | 0, _, _ => none
  | n + 1, x1, M => (if (14 : Int32) ≤ x1 then some (x1, M) else if inb (((14 : Int32) * (M 70 6)) + x1) 112 = true then if inb x1 14 = true then f_X7_undo_L22 N n (x1 + (1 : Int32)) (up2 M 74 x1.toNatClampNeg (M 75 (((14 : Int32) * (M 70 6)) + x1).toNatClampNeg)) else none else none)
def f_X7_undo (N : Nat) (M : Mem) : Option (Int32 × Mem) := (if (M 70 6) = 0 then some ((-4 : Int32), M) else (f_X7_undo_L22 N N (0 : Int32) (up2 M 70 6 ((M 70 6) - (1 : Int32)))).bind fun o22 => some (o22.2 70 6, o22.2))
set_option maxHeartbeats 4000000 in
set_option maxRecDepth 100000 in
theorem g_X7_undo_L22 {X : Cx} {F : Fx} (hM : SM X) (hF : FK X F cX7_undo RX7 2 1) (N : Nat) : ∀ (n : Nat) (x1 : Int32) (M : Mem) (o : Int32 × Mem), f_X7_undo_L22 N n x1 M = some o → G X F 54 [some (.ref 70), none] [] o.2 → G X F 22 [some (.ref 70), some (.int x1)] [] M := by
  intro n
  induction n with
  | zero =>
    intro x1 M o h K
    cases h
  | succ n ih =>
    intro x1 M o h K
    rw [f_X7_undo_L22] at h
    refine g_iload_n hF (dck_at tX7_undo 13 rfl) rfl ?_
    refine g_bipush (v := 14) hF (dck_at tX7_undo 14 rfl) (by decide) ?_
    refine g_icmp_ge hF 54 (dck_at tX7_undo 15 rfl) (by decide) (fun hc25 => ?_) (fun hc25 => ?_)
    · replace h := ite_t hc25 h
      refine g_msk [true, false] (L' := [some (.ref 70), none]) rfl ?_
      cases h
      exact K
    · replace h := ite_f hc25 h
      refine g_aload_n hF (dck_at tX7_undo 16 rfl) rfl ?_
      refine gf_X7_19 hF (hM 70 (by decide) (by decide)) kdc_70 lnc_70 (dck_at tX7_undo 17 rfl) ?_
      refine g_iload_n hF (dck_at tX7_undo 18 rfl) rfl ?_
      refine g_aload_n hF (dck_at tX7_undo 19 rfl) rfl ?_
      refine gf_X7_22 hF (hM 70 (by decide) (by decide)) kdc_70 lnc_70 (dck_at tX7_undo 20 rfl) ?_
      refine g_bipush (v := 14) hF (dck_at tX7_undo 21 rfl) (by decide) ?_
      show G X F 39 _ _ _
      refine g_aload_n hF (dck_at tX7_undo 22 rfl) rfl ?_
      refine gf_X7_104 hF (hM 70 (by decide) (by decide)) kdc_70 lnc_70 (dck_at tX7_undo 23 rfl) ?_
      refine g_imul hF (dck_at tX7_undo 24 rfl) ?_
      refine g_iload_n hF (dck_at tX7_undo 25 rfl) rfl ?_
      refine g_iadd hF (dck_at tX7_undo 26 rfl) ?_
      obtain ⟨hg46, h⟩ := gd h
      refine g_ia hF (hM 75 (by decide) (by decide)) kdc_75 lnc_75 hg46 (dck_at tX7_undo 27 rfl) ?_
      obtain ⟨hg47, h⟩ := gd h
      refine g_is hF (hM 74 (by decide) (by decide)) kdc_74 lnc_74 hg47 (dck_at tX7_undo 28 rfl) ?_
      show G X F 48 _ _ _
      refine g_iinc (v := 1) (L' := [some (.ref 70), some (.int (x1 + (1 : Int32)))]) hF (dck_at tX7_undo 29 rfl) rfl (by decide) rfl ?_
      refine g_goto hF 22 (dck_at tX7_undo 30 rfl) (by decide) ?_
      exact ih _ _ _ h K
set_option maxHeartbeats 4000000 in
set_option maxRecDepth 100000 in
theorem c_X7_undo {X : Cx} {l : Launch} (hX : CxOk X) (hM : SM X) {N : Nat} {M : Mem} {r : Int32} {M' : Mem} (h : f_X7_undo N M = some (r, M')) : Ctr X l yX7_undo cX7_undo 2 (some .int) 1 [.ref 70] M (some (.int r)) M' := by
  refine Ctr.ofG (L := [some (.ref 70), none]) hX (by decide) (Nat.le_of_ble_eq_true rfl) rfl (fun F hF hl hR => ?_)
  subst hl
  unfold f_X7_undo at h
  refine g_aload_n hF (dck_at tX7_undo 0 rfl) rfl ?_
  refine gf_X7_104 hF (hM 70 (by decide) (by decide)) kdc_70 lnc_70 (dck_at tX7_undo 1 rfl) ?_
  refine g_if_ne hF 10 (dck_at tX7_undo 2 rfl) (by decide) (fun hc4 => ?_) (fun hc4 => ?_)
  · replace h := ite_f hc4 h
    refine g_aload_n hF (dck_at tX7_undo 5 rfl) rfl ?_
    refine g_dup hF (dck_at tX7_undo 6 rfl) rfl ?_
    refine gf_X7_104 hF (hM 70 (by decide) (by decide)) kdc_70 lnc_70 (dck_at tX7_undo 7 rfl) ?_
    refine g_iconst (v := 1) hF (dck_at tX7_undo 8 rfl) (by decide) ?_
    refine g_isub hF (dck_at tX7_undo 9 rfl) ?_
    refine pf_X7_104 hF (hM 70 (by decide) (by decide)) kdc_70 lnc_70 (dck_at tX7_undo 10 rfl) ?_
    show G X F 20 _ _ _
    refine g_iconst (v := 0) hF (dck_at tX7_undo 11 rfl) (by decide) ?_
    refine g_istore_n (L' := [some (.ref 70), some (.int (0 : Int32))]) hF (dck_at tX7_undo 12 rfl) (Nat.le_of_ble_eq_true rfl) rfl ?_
    obtain ⟨o22, e22, h⟩ := bd h
    refine g_X7_undo_L22 hM hF N N _ _ _ e22 ?_
    refine g_aload_n hF (dck_at tX7_undo 31 rfl) rfl ?_
    refine gf_X7_104 hF (hM 70 (by decide) (by decide)) kdc_70 lnc_70 (dck_at tX7_undo 32 rfl) ?_
    cases h
    exact g_iret hF hR (dck_at tX7_undo 33 rfl)
  · replace h := ite_t hc4 h
    refine g_bipush (v := -4) hF (dck_at tX7_undo 3 rfl) (by decide) ?_
    cases h
    exact g_iret hF hR (dck_at tX7_undo 4 rfl)

def tbX7_keep : List (Nat × Instr × Nat) := [(0, .iload_n 1, 1), (1, .iconst 0, 1), (2, .iconst 1, 1), (3, .invokestatic 53, 3), (6, .ifCond .ne 6, 3), (9, .bipush (-2), 2), (11, .ireturn, 1), (12, .iconst 0, 1), (13, .istore_n 2, 1), (14, .iload_n 2, 1), (15, .bipush 14, 2), (17, .if_icmp .ge 26, 3), (20, .aload_n 0, 1), (21, .getfield 25, 3), (24, .bipush 14, 2), (26, .iload_n 1, 1), (27, .imul, 1), (28, .iload_n 2, 1), (29, .iadd, 1), (30, .aload_n 0, 1), (31, .getfield 19, 3), (34, .iload_n 2, 1), (35, .iaload, 1), (36, .iastore, 1), (37, .iinc 2 1, 3), (40, .goto (-26), 3), (43, .aload_n 0, 1), (44, .getfield 28, 3), (47, .iload_n 1, 1), (48, .iconst 1, 1), (49, .bastore, 1), (50, .aload_n 0, 1), (51, .getfield 19, 3), (54, .iconst 0, 1), (55, .iaload, 1), (56, .ireturn, 1)]
theorem tX7_keep : dck cX7_keep tbX7_keep = true := by decide +kernel
def f_X7_keep_L14 (N : Nat) (x1 : Int32) : Nat → Int32 → Mem → Option (Int32 × Mem)
  | 0, _, _ => none
  | n + 1, x2, M => (if (14 : Int32) ≤ x2 then some (x2, M) else if inb x2 14 = true then if inb (((14 : Int32) * x1) + x2) 28 = true then f_X7_keep_L14 N x1 n (x2 + (1 : Int32)) (up2 M 76 (((14 : Int32) * x1) + x2).toNatClampNeg (M 74 x2.toNatClampNeg)) else none else none)
def f_X7_keep (N : Nat) (M : Mem) (x1 : Int32) : Option (Int32 × Mem) := (f_X7_in N M x1 (0 : Int32) (1 : Int32)).bind fun q3 => (if q3 = 0 then some ((-2 : Int32), M) else (f_X7_keep_L14 N x1 N (0 : Int32) M).bind fun o14 => if inb x1 2 = true then some ((up2 o14.2 77 x1.toNatClampNeg (vp_nar .boolean (1 : Int32))) 74 0, (up2 o14.2 77 x1.toNatClampNeg (vp_nar .boolean (1 : Int32)))) else none)
set_option maxHeartbeats 4000000 in
set_option maxRecDepth 100000 in
theorem g_X7_keep_L14 {X : Cx} {F : Fx} (hM : SM X) (hF : FK X F cX7_keep RX7 3 2) (N : Nat) (x1 : Int32) : ∀ (n : Nat) (x2 : Int32) (M : Mem) (o : Int32 × Mem), f_X7_keep_L14 N x1 n x2 M = some o → G X F 43 [some (.ref 70), some (.int x1), none] [] o.2 → G X F 14 [some (.ref 70), some (.int x1), some (.int x2)] [] M := by
  intro n
  induction n with
  | zero =>
    intro x2 M o h K
    cases h
  | succ n ih =>
    intro x2 M o h K
    rw [f_X7_keep_L14] at h
    refine g_iload_n hF (dck_at tX7_keep 9 rfl) rfl ?_
    refine g_bipush (v := 14) hF (dck_at tX7_keep 10 rfl) (by decide) ?_
    refine g_icmp_ge hF 43 (dck_at tX7_keep 11 rfl) (by decide) (fun hc17 => ?_) (fun hc17 => ?_)
    · replace h := ite_t hc17 h
      refine g_msk [true, true, false] (L' := [some (.ref 70), some (.int x1), none]) rfl ?_
      cases h
      exact K
    · replace h := ite_f hc17 h
      refine g_aload_n hF (dck_at tX7_keep 12 rfl) rfl ?_
      refine gf_X7_25 hF (hM 70 (by decide) (by decide)) kdc_70 lnc_70 (dck_at tX7_keep 13 rfl) ?_
      refine g_bipush (v := 14) hF (dck_at tX7_keep 14 rfl) (by decide) ?_
      refine g_iload_n hF (dck_at tX7_keep 15 rfl) rfl ?_
      refine g_imul hF (dck_at tX7_keep 16 rfl) ?_
      refine g_iload_n hF (dck_at tX7_keep 17 rfl) rfl ?_
      show G X F 29 _ _ _
      refine g_iadd hF (dck_at tX7_keep 18 rfl) ?_
      refine g_aload_n hF (dck_at tX7_keep 19 rfl) rfl ?_
      refine gf_X7_19 hF (hM 70 (by decide) (by decide)) kdc_70 lnc_70 (dck_at tX7_keep 20 rfl) ?_
      refine g_iload_n hF (dck_at tX7_keep 21 rfl) rfl ?_
      obtain ⟨hg35, h⟩ := gd h
      refine g_ia hF (hM 74 (by decide) (by decide)) kdc_74 lnc_74 hg35 (dck_at tX7_keep 22 rfl) ?_
      obtain ⟨hg36, h⟩ := gd h
      refine g_is hF (hM 76 (by decide) (by decide)) kdc_76 lnc_76 hg36 (dck_at tX7_keep 23 rfl) ?_
      refine g_iinc (v := 1) (L' := [some (.ref 70), some (.int x1), some (.int (x2 + (1 : Int32)))]) hF (dck_at tX7_keep 24 rfl) rfl (by decide) rfl ?_
      show G X F 40 _ _ _
      refine g_goto hF 14 (dck_at tX7_keep 25 rfl) (by decide) ?_
      exact ih _ _ _ h K
set_option maxHeartbeats 4000000 in
set_option maxRecDepth 100000 in
theorem c_X7_keep {X : Cx} {l : Launch} (hX : CxOk X) (hM : SM X) {N : Nat} {M : Mem} {x1 : Int32} {r : Int32} {M' : Mem} (h : f_X7_keep N M x1 = some (r, M')) : Ctr X l yX7_keep cX7_keep 3 (some .int) 2 [.ref 70, .int x1] M (some (.int r)) M' := by
  refine Ctr.ofG (L := [some (.ref 70), some (.int x1), none]) hX (by decide) (Nat.le_of_ble_eq_true rfl) rfl (fun F hF hl hR => ?_)
  subst hl
  unfold f_X7_keep at h
  refine g_iload_n hF (dck_at tX7_keep 0 rfl) rfl ?_
  refine g_iconst (v := 0) hF (dck_at tX7_keep 1 rfl) (by decide) ?_
  refine g_iconst (v := 1) hF (dck_at tX7_keep 2 rfl) (by decide) ?_
  obtain ⟨q3, e3, h⟩ := bd h
  refine g_callS hF (as := [.int x1, .int (0 : Int32), .int (1 : Int32)]) wm_X7_53 wt_X7_in wc_X7_in wn_X7 hyX7_in (by decide) (c_X7_in hF.2.2.2.2.2.2.2.1 e3) (by decide) rfl rfl rfl rfl (dck_at tX7_keep 3 rfl) ?_
  show G X F 6 _ [.int q3] M
  refine g_if_ne hF 12 (dck_at tX7_keep 4 rfl) (by decide) (fun hc6 => ?_) (fun hc6 => ?_)
  · replace h := ite_f hc6 h
    refine g_iconst (v := 0) hF (dck_at tX7_keep 7 rfl) (by decide) ?_
    refine g_istore_n (L' := [some (.ref 70), some (.int x1), some (.int (0 : Int32))]) hF (dck_at tX7_keep 8 rfl) (Nat.le_of_ble_eq_true rfl) rfl ?_
    obtain ⟨o14, e14, h⟩ := bd h
    refine g_X7_keep_L14 hM hF N _ N _ _ _ e14 ?_
    refine g_aload_n hF (dck_at tX7_keep 26 rfl) rfl ?_
    refine gf_X7_28 hF (hM 70 (by decide) (by decide)) kdc_70 lnc_70 (dck_at tX7_keep 27 rfl) ?_
    refine g_iload_n hF (dck_at tX7_keep 28 rfl) rfl ?_
    refine g_iconst (v := 1) hF (dck_at tX7_keep 29 rfl) (by decide) ?_
    obtain ⟨hg49, h⟩ := gd h
    refine g_zs hF (hM 77 (by decide) (by decide)) kdc_77 lnc_77 hg49 (dck_at tX7_keep 30 rfl) ?_
    refine g_aload_n hF (dck_at tX7_keep 31 rfl) rfl ?_
    show G X F 51 _ _ _
    refine gf_X7_19 hF (hM 70 (by decide) (by decide)) kdc_70 lnc_70 (dck_at tX7_keep 32 rfl) ?_
    refine g_iconst (v := 0) hF (dck_at tX7_keep 33 rfl) (by decide) ?_
    refine g_iac (j := 0) hF (hM 74 (by decide) (by decide)) kdc_74 lnc_74 (by decide) (by decide) (dck_at tX7_keep 34 rfl) ?_
    cases h
    exact g_iret hF hR (dck_at tX7_keep 35 rfl)
  · replace h := ite_t hc6 h
    refine g_bipush (v := -2) hF (dck_at tX7_keep 5 rfl) (by decide) ?_
    cases h
    exact g_iret hF hR (dck_at tX7_keep 6 rfl)

def tbX7_back : List (Nat × Instr × Nat) := [(0, .iload_n 1, 1), (1, .iconst 0, 1), (2, .iconst 1, 1), (3, .invokestatic 53, 3), (6, .ifCond .ne 6, 3), (9, .bipush (-2), 2), (11, .ireturn, 1), (12, .aload_n 0, 1), (13, .getfield 28, 3), (16, .iload_n 1, 1), (17, .baload, 1), (18, .ifCond .ne 6, 3), (21, .bipush (-4), 2), (23, .ireturn, 1), (24, .iconst 0, 1), (25, .istore_n 2, 1), (26, .iload_n 2, 1), (27, .bipush 14, 2), (29, .if_icmp .ge 26, 3), (32, .aload_n 0, 1), (33, .getfield 19, 3), (36, .iload_n 2, 1), (37, .aload_n 0, 1), (38, .getfield 25, 3), (41, .bipush 14, 2), (43, .iload_n 1, 1), (44, .imul, 1), (45, .iload_n 2, 1), (46, .iadd, 1), (47, .iaload, 1), (48, .iastore, 1), (49, .iinc 2 1, 3), (52, .goto (-26), 3), (55, .aload_n 0, 1), (56, .iconst 0, 1), (57, .putfield 104, 3), (60, .aload_n 0, 1), (61, .getfield 19, 3), (64, .iconst 0, 1), (65, .iaload, 1), (66, .ireturn, 1)]
theorem tX7_back : dck cX7_back tbX7_back = true := by decide +kernel
def f_X7_back_L26 (N : Nat) (x1 : Int32) : Nat → Int32 → Mem → Option (Int32 × Mem)
  | 0, _, _ => none
  | n + 1, x2, M => (if (14 : Int32) ≤ x2 then some (x2, M) else if inb (((14 : Int32) * x1) + x2) 28 = true then if inb x2 14 = true then f_X7_back_L26 N x1 n (x2 + (1 : Int32)) (up2 M 74 x2.toNatClampNeg (M 76 (((14 : Int32) * x1) + x2).toNatClampNeg)) else none else none)
def f_X7_back (N : Nat) (M : Mem) (x1 : Int32) : Option (Int32 × Mem) := (f_X7_in N M x1 (0 : Int32) (1 : Int32)).bind fun q3 => (if q3 = 0 then some ((-2 : Int32), M) else if inb x1 2 = true then (if (M 77 x1.toNatClampNeg) = 0 then some ((-4 : Int32), M) else (f_X7_back_L26 N x1 N (0 : Int32) M).bind fun o26 => some ((up2 o26.2 70 6 (0 : Int32)) 74 0, (up2 o26.2 70 6 (0 : Int32)))) else none)
set_option maxHeartbeats 4000000 in
set_option maxRecDepth 100000 in
theorem g_X7_back_L26 {X : Cx} {F : Fx} (hM : SM X) (hF : FK X F cX7_back RX7 3 2) (N : Nat) (x1 : Int32) : ∀ (n : Nat) (x2 : Int32) (M : Mem) (o : Int32 × Mem), f_X7_back_L26 N x1 n x2 M = some o → G X F 55 [some (.ref 70), none, none] [] o.2 → G X F 26 [some (.ref 70), some (.int x1), some (.int x2)] [] M := by
  intro n
  induction n with
  | zero =>
    intro x2 M o h K
    cases h
  | succ n ih =>
    intro x2 M o h K
    rw [f_X7_back_L26] at h
    refine g_iload_n hF (dck_at tX7_back 16 rfl) rfl ?_
    refine g_bipush (v := 14) hF (dck_at tX7_back 17 rfl) (by decide) ?_
    refine g_icmp_ge hF 55 (dck_at tX7_back 18 rfl) (by decide) (fun hc29 => ?_) (fun hc29 => ?_)
    · replace h := ite_t hc29 h
      refine g_msk [true, false, false] (L' := [some (.ref 70), none, none]) rfl ?_
      cases h
      exact K
    · replace h := ite_f hc29 h
      refine g_aload_n hF (dck_at tX7_back 19 rfl) rfl ?_
      refine gf_X7_19 hF (hM 70 (by decide) (by decide)) kdc_70 lnc_70 (dck_at tX7_back 20 rfl) ?_
      refine g_iload_n hF (dck_at tX7_back 21 rfl) rfl ?_
      refine g_aload_n hF (dck_at tX7_back 22 rfl) rfl ?_
      refine gf_X7_25 hF (hM 70 (by decide) (by decide)) kdc_70 lnc_70 (dck_at tX7_back 23 rfl) ?_
      refine g_bipush (v := 14) hF (dck_at tX7_back 24 rfl) (by decide) ?_
      show G X F 43 _ _ _
      refine g_iload_n hF (dck_at tX7_back 25 rfl) rfl ?_
      refine g_imul hF (dck_at tX7_back 26 rfl) ?_
      refine g_iload_n hF (dck_at tX7_back 27 rfl) rfl ?_
      refine g_iadd hF (dck_at tX7_back 28 rfl) ?_
      obtain ⟨hg47, h⟩ := gd h
      refine g_ia hF (hM 76 (by decide) (by decide)) kdc_76 lnc_76 hg47 (dck_at tX7_back 29 rfl) ?_
      obtain ⟨hg48, h⟩ := gd h
      refine g_is hF (hM 74 (by decide) (by decide)) kdc_74 lnc_74 hg48 (dck_at tX7_back 30 rfl) ?_
      refine g_iinc (v := 1) (L' := [some (.ref 70), some (.int x1), some (.int (x2 + (1 : Int32)))]) hF (dck_at tX7_back 31 rfl) rfl (by decide) rfl ?_
      show G X F 52 _ _ _
      refine g_goto hF 26 (dck_at tX7_back 32 rfl) (by decide) ?_
      exact ih _ _ _ h K
set_option maxHeartbeats 4000000 in
set_option maxRecDepth 100000 in
theorem c_X7_back {X : Cx} {l : Launch} (hX : CxOk X) (hM : SM X) {N : Nat} {M : Mem} {x1 : Int32} {r : Int32} {M' : Mem} (h : f_X7_back N M x1 = some (r, M')) : Ctr X l yX7_back cX7_back 3 (some .int) 2 [.ref 70, .int x1] M (some (.int r)) M' := by
  refine Ctr.ofG (L := [some (.ref 70), some (.int x1), none]) hX (by decide) (Nat.le_of_ble_eq_true rfl) rfl (fun F hF hl hR => ?_)
  subst hl
  unfold f_X7_back at h
  refine g_iload_n hF (dck_at tX7_back 0 rfl) rfl ?_
  refine g_iconst (v := 0) hF (dck_at tX7_back 1 rfl) (by decide) ?_
  refine g_iconst (v := 1) hF (dck_at tX7_back 2 rfl) (by decide) ?_
  obtain ⟨q3, e3, h⟩ := bd h
  refine g_callS hF (as := [.int x1, .int (0 : Int32), .int (1 : Int32)]) wm_X7_53 wt_X7_in wc_X7_in wn_X7 hyX7_in (by decide) (c_X7_in hF.2.2.2.2.2.2.2.1 e3) (by decide) rfl rfl rfl rfl (dck_at tX7_back 3 rfl) ?_
  show G X F 6 _ [.int q3] M
  refine g_if_ne hF 12 (dck_at tX7_back 4 rfl) (by decide) (fun hc6 => ?_) (fun hc6 => ?_)
  · replace h := ite_f hc6 h
    refine g_aload_n hF (dck_at tX7_back 7 rfl) rfl ?_
    refine gf_X7_28 hF (hM 70 (by decide) (by decide)) kdc_70 lnc_70 (dck_at tX7_back 8 rfl) ?_
    refine g_iload_n hF (dck_at tX7_back 9 rfl) rfl ?_
    obtain ⟨hg17, h⟩ := gd h
    refine g_za hF (hM 77 (by decide) (by decide)) kdc_77 lnc_77 hg17 (dck_at tX7_back 10 rfl) ?_
    refine g_if_ne hF 24 (dck_at tX7_back 11 rfl) (by decide) (fun hc18 => ?_) (fun hc18 => ?_)
    · replace h := ite_f hc18 h
      refine g_iconst (v := 0) hF (dck_at tX7_back 14 rfl) (by decide) ?_
      refine g_istore_n (L' := [some (.ref 70), some (.int x1), some (.int (0 : Int32))]) hF (dck_at tX7_back 15 rfl) (Nat.le_of_ble_eq_true rfl) rfl ?_
      obtain ⟨o26, e26, h⟩ := bd h
      refine g_X7_back_L26 hM hF N _ N _ _ _ e26 ?_
      refine g_aload_n hF (dck_at tX7_back 33 rfl) rfl ?_
      refine g_iconst (v := 0) hF (dck_at tX7_back 34 rfl) (by decide) ?_
      refine pf_X7_104 hF (hM 70 (by decide) (by decide)) kdc_70 lnc_70 (dck_at tX7_back 35 rfl) ?_
      refine g_aload_n hF (dck_at tX7_back 36 rfl) rfl ?_
      refine gf_X7_19 hF (hM 70 (by decide) (by decide)) kdc_70 lnc_70 (dck_at tX7_back 37 rfl) ?_
      refine g_iconst (v := 0) hF (dck_at tX7_back 38 rfl) (by decide) ?_
      show G X F 65 _ _ _
      refine g_iac (j := 0) hF (hM 74 (by decide) (by decide)) kdc_74 lnc_74 (by decide) (by decide) (dck_at tX7_back 39 rfl) ?_
      cases h
      exact g_iret hF hR (dck_at tX7_back 40 rfl)
    · replace h := ite_t hc18 h
      refine g_bipush (v := -4) hF (dck_at tX7_back 12 rfl) (by decide) ?_
      cases h
      exact g_iret hF hR (dck_at tX7_back 13 rfl)
  · replace h := ite_t hc6 h
    refine g_bipush (v := -2) hF (dck_at tX7_back 5 rfl) (by decide) ?_
    cases h
    exact g_iret hF hR (dck_at tX7_back 6 rfl)

def tbX7_holds : List (Nat × Instr × Nat) := [(0, .iconst 0, 1), (1, .istore_n 1, 1), (2, .iload_n 1, 1), (3, .bipush 14, 2), (5, .if_icmp .ge 21, 3), (8, .aload_n 0, 1), (9, .getfield 35, 3), (12, .iload_n 1, 1), (13, .aload_n 0, 1), (14, .getfield 19, 3), (17, .iload_n 1, 1), (18, .iaload, 1), (19, .iastore, 1), (20, .iinc 1 1, 3), (23, .goto (-21), 3), (26, .return_, 1)]
theorem tX7_holds : dck cX7_holds tbX7_holds = true := by decide +kernel
def f_X7_holds_L2 (N : Nat) : Nat → Int32 → Mem → Option (Int32 × Mem)
  | 0, _, _ => none
  | n + 1, x1, M => (if (14 : Int32) ≤ x1 then some (x1, M) else if inb x1 14 = true then if inb x1 14 = true then f_X7_holds_L2 N n (x1 + (1 : Int32)) (up2 M 79 x1.toNatClampNeg (M 74 x1.toNatClampNeg)) else none else none)
def f_X7_holds (N : Nat) (M : Mem) : Option Mem := (f_X7_holds_L2 N N (0 : Int32) M).bind fun o2 => some o2.2
set_option maxHeartbeats 4000000 in
set_option maxRecDepth 100000 in
theorem g_X7_holds_L2 {X : Cx} {F : Fx} (hM : SM X) (hF : FK X F cX7_holds RX7 2 1) (N : Nat) : ∀ (n : Nat) (x1 : Int32) (M : Mem) (o : Int32 × Mem), f_X7_holds_L2 N n x1 M = some o → G X F 26 [none, none] [] o.2 → G X F 2 [some (.ref 70), some (.int x1)] [] M := by
  intro n
  induction n with
  | zero =>
    intro x1 M o h K
    cases h
  | succ n ih =>
    intro x1 M o h K
    rw [f_X7_holds_L2] at h
    refine g_iload_n hF (dck_at tX7_holds 2 rfl) rfl ?_
    refine g_bipush (v := 14) hF (dck_at tX7_holds 3 rfl) (by decide) ?_
    refine g_icmp_ge hF 26 (dck_at tX7_holds 4 rfl) (by decide) (fun hc5 => ?_) (fun hc5 => ?_)
    · replace h := ite_t hc5 h
      refine g_msk [false, false] (L' := [none, none]) rfl ?_
      cases h
      exact K
    · replace h := ite_f hc5 h
      refine g_aload_n hF (dck_at tX7_holds 5 rfl) rfl ?_
      refine gf_X7_35 hF (hM 70 (by decide) (by decide)) kdc_70 lnc_70 (dck_at tX7_holds 6 rfl) ?_
      refine g_iload_n hF (dck_at tX7_holds 7 rfl) rfl ?_
      refine g_aload_n hF (dck_at tX7_holds 8 rfl) rfl ?_
      refine gf_X7_19 hF (hM 70 (by decide) (by decide)) kdc_70 lnc_70 (dck_at tX7_holds 9 rfl) ?_
      refine g_iload_n hF (dck_at tX7_holds 10 rfl) rfl ?_
      show G X F 18 _ _ _
      obtain ⟨hg18, h⟩ := gd h
      refine g_ia hF (hM 74 (by decide) (by decide)) kdc_74 lnc_74 hg18 (dck_at tX7_holds 11 rfl) ?_
      obtain ⟨hg19, h⟩ := gd h
      refine g_is hF (hM 79 (by decide) (by decide)) kdc_79 lnc_79 hg19 (dck_at tX7_holds 12 rfl) ?_
      refine g_iinc (v := 1) (L' := [some (.ref 70), some (.int (x1 + (1 : Int32)))]) hF (dck_at tX7_holds 13 rfl) rfl (by decide) rfl ?_
      refine g_goto hF 2 (dck_at tX7_holds 14 rfl) (by decide) ?_
      exact ih _ _ _ h K
set_option maxHeartbeats 4000000 in
set_option maxRecDepth 100000 in
theorem c_X7_holds {X : Cx} {l : Launch} (hX : CxOk X) (hM : SM X) {N : Nat} {M : Mem} {M' : Mem} (h : f_X7_holds N M = some M') : Ctr X l yX7_holds cX7_holds 2 none 1 [.ref 70] M none M' := by
  refine Ctr.ofG (L := [some (.ref 70), none]) hX (by decide) (Nat.le_of_ble_eq_true rfl) rfl (fun F hF hl hR => ?_)
  subst hl
  unfold f_X7_holds at h
  refine g_iconst (v := 0) hF (dck_at tX7_holds 0 rfl) (by decide) ?_
  refine g_istore_n (L' := [some (.ref 70), some (.int (0 : Int32))]) hF (dck_at tX7_holds 1 rfl) (Nat.le_of_ble_eq_true rfl) rfl ?_
  obtain ⟨o2, e2, h⟩ := bd h
  refine g_X7_holds_L2 hM hF N N _ _ _ e2 ?_
  cases h
  exact g_vret hF hR (dck_at tX7_holds 15 rfl)

def tbX7_lets : List (Nat × Instr × Nat) := [(0, .iconst 0, 1), (1, .istore_n 1, 1), (2, .iload_n 1, 1), (3, .bipush 14, 2), (5, .if_icmp .ge 21, 3), (8, .aload_n 0, 1), (9, .getfield 19, 3), (12, .iload_n 1, 1), (13, .aload_n 0, 1), (14, .getfield 35, 3), (17, .iload_n 1, 1), (18, .iaload, 1), (19, .iastore, 1), (20, .iinc 1 1, 3), (23, .goto (-21), 3), (26, .return_, 1)]
theorem tX7_lets : dck cX7_lets tbX7_lets = true := by decide +kernel
def f_X7_lets_L2 (N : Nat) : Nat → Int32 → Mem → Option (Int32 × Mem)
  | 0, _, _ => none
  | n + 1, x1, M => (if (14 : Int32) ≤ x1 then some (x1, M) else if inb x1 14 = true then if inb x1 14 = true then f_X7_lets_L2 N n (x1 + (1 : Int32)) (up2 M 74 x1.toNatClampNeg (M 79 x1.toNatClampNeg)) else none else none)
def f_X7_lets (N : Nat) (M : Mem) : Option Mem := (f_X7_lets_L2 N N (0 : Int32) M).bind fun o2 => some o2.2
set_option maxHeartbeats 4000000 in
set_option maxRecDepth 100000 in
theorem g_X7_lets_L2 {X : Cx} {F : Fx} (hM : SM X) (hF : FK X F cX7_lets RX7 2 1) (N : Nat) : ∀ (n : Nat) (x1 : Int32) (M : Mem) (o : Int32 × Mem), f_X7_lets_L2 N n x1 M = some o → G X F 26 [none, none] [] o.2 → G X F 2 [some (.ref 70), some (.int x1)] [] M := by
  intro n
  induction n with
  | zero =>
    intro x1 M o h K
    cases h
  | succ n ih =>
    intro x1 M o h K
    rw [f_X7_lets_L2] at h
    refine g_iload_n hF (dck_at tX7_lets 2 rfl) rfl ?_
    refine g_bipush (v := 14) hF (dck_at tX7_lets 3 rfl) (by decide) ?_
    refine g_icmp_ge hF 26 (dck_at tX7_lets 4 rfl) (by decide) (fun hc5 => ?_) (fun hc5 => ?_)
    · replace h := ite_t hc5 h
      refine g_msk [false, false] (L' := [none, none]) rfl ?_
      cases h
      exact K
    · replace h := ite_f hc5 h
      refine g_aload_n hF (dck_at tX7_lets 5 rfl) rfl ?_
      refine gf_X7_19 hF (hM 70 (by decide) (by decide)) kdc_70 lnc_70 (dck_at tX7_lets 6 rfl) ?_
      refine g_iload_n hF (dck_at tX7_lets 7 rfl) rfl ?_
      refine g_aload_n hF (dck_at tX7_lets 8 rfl) rfl ?_
      refine gf_X7_35 hF (hM 70 (by decide) (by decide)) kdc_70 lnc_70 (dck_at tX7_lets 9 rfl) ?_
      refine g_iload_n hF (dck_at tX7_lets 10 rfl) rfl ?_
      show G X F 18 _ _ _
      obtain ⟨hg18, h⟩ := gd h
      refine g_ia hF (hM 79 (by decide) (by decide)) kdc_79 lnc_79 hg18 (dck_at tX7_lets 11 rfl) ?_
      obtain ⟨hg19, h⟩ := gd h
      refine g_is hF (hM 74 (by decide) (by decide)) kdc_74 lnc_74 hg19 (dck_at tX7_lets 12 rfl) ?_
      refine g_iinc (v := 1) (L' := [some (.ref 70), some (.int (x1 + (1 : Int32)))]) hF (dck_at tX7_lets 13 rfl) rfl (by decide) rfl ?_
      refine g_goto hF 2 (dck_at tX7_lets 14 rfl) (by decide) ?_
      exact ih _ _ _ h K
set_option maxHeartbeats 4000000 in
set_option maxRecDepth 100000 in
theorem c_X7_lets {X : Cx} {l : Launch} (hX : CxOk X) (hM : SM X) {N : Nat} {M : Mem} {M' : Mem} (h : f_X7_lets N M = some M') : Ctr X l yX7_lets cX7_lets 2 none 1 [.ref 70] M none M' := by
  refine Ctr.ofG (L := [some (.ref 70), none]) hX (by decide) (Nat.le_of_ble_eq_true rfl) rfl (fun F hF hl hR => ?_)
  subst hl
  unfold f_X7_lets at h
  refine g_iconst (v := 0) hF (dck_at tX7_lets 0 rfl) (by decide) ?_
  refine g_istore_n (L' := [some (.ref 70), some (.int (0 : Int32))]) hF (dck_at tX7_lets 1 rfl) (Nat.le_of_ble_eq_true rfl) rfl ?_
  obtain ⟨o2, e2, h⟩ := bd h
  refine g_X7_lets_L2 hM hF N N _ _ _ e2 ?_
  cases h
  exact g_vret hF hR (dck_at tX7_lets 15 rfl)

def tbX7_till : List (Nat × Instr × Nat) := [(0, .aload_n 0, 1), (1, .invokevirtual 164, 3), (4, .iconst 0, 1), (5, .istore_n 1, 1), (6, .aload_n 0, 1), (7, .invokevirtual 136, 3), (10, .ifCond .le 13, 3), (13, .aload_n 0, 1), (14, .invokevirtual 151, 3), (17, .iinc 1 1, 3), (20, .goto (-14), 3), (23, .aload_n 0, 1), (24, .invokevirtual 167, 3), (27, .iload_n 1, 1), (28, .ireturn, 1)]
theorem tX7_till : dck cX7_till tbX7_till = true := by decide +kernel
def f_X7_till_L6 (N : Nat) : Nat → Int32 → Mem → Option (Int32 × Mem)
  | 0, _, _ => none
  | n + 1, x1, M => (f_X7_noise N M).bind fun q7 => (if q7 ≤ 0 then some (x1, M) else (f_X7_waitsOne N M).bind fun q14 => f_X7_till_L6 N n (x1 + (1 : Int32)) q14)
def f_X7_till (N : Nat) (M : Mem) : Option (Int32 × Mem) := (f_X7_holds N M).bind fun q1 => (f_X7_till_L6 N N (0 : Int32) q1).bind fun o6 => (f_X7_lets N o6.2).bind fun q24 => some (o6.1, q24)
set_option maxHeartbeats 4000000 in
set_option maxRecDepth 100000 in
theorem g_X7_till_L6 {X : Cx} {F : Fx} (hM : SM X) (hF : FK X F cX7_till RX7 2 7) (N : Nat) : ∀ (n : Nat) (x1 : Int32) (M : Mem) (o : Int32 × Mem), f_X7_till_L6 N n x1 M = some o → G X F 23 [some (.ref 70), some (.int o.1)] [] o.2 → G X F 6 [some (.ref 70), some (.int x1)] [] M := by
  intro n
  induction n with
  | zero =>
    intro x1 M o h K
    cases h
  | succ n ih =>
    intro x1 M o h K
    rw [f_X7_till_L6] at h
    refine g_aload_n hF (dck_at tX7_till 4 rfl) rfl ?_
    obtain ⟨q7, e7, h⟩ := bd h
    refine g_callV hF (as := []) (k := 70) rfl (by decide) wm_X7_136 wi_X7_noise we_X7_noise wc_X7_noise wn_X7 hyX7_noise (by decide) (hM 70 (by decide) (by decide)) kdc_70 (c_X7_noise hF.2.2.2.2.2.2.2.1 hM e7) (by decide) rfl rfl rfl rfl (dck_at tX7_till 5 rfl) ?_
    show G X F 10 _ [.int q7] M
    refine g_if_le hF 23 (dck_at tX7_till 6 rfl) (by decide) (fun hc10 => ?_) (fun hc10 => ?_)
    · replace h := ite_t hc10 h
      cases h
      exact K
    · replace h := ite_f hc10 h
      refine g_aload_n hF (dck_at tX7_till 7 rfl) rfl ?_
      obtain ⟨q14, e14, h⟩ := bd h
      refine g_callV hF (as := []) (k := 70) rfl (by decide) wm_X7_151 wi_X7_waitsOne we_X7_waitsOne wc_X7_waitsOne wn_X7 hyX7_waitsOne (by decide) (hM 70 (by decide) (by decide)) kdc_70 (c_X7_waitsOne hF.2.2.2.2.2.2.2.1 hM e14) (by decide) rfl rfl rfl rfl (dck_at tX7_till 8 rfl) ?_
      show G X F 17 _ [] q14
      refine g_iinc (v := 1) (L' := [some (.ref 70), some (.int (x1 + (1 : Int32)))]) hF (dck_at tX7_till 9 rfl) rfl (by decide) rfl ?_
      refine g_goto hF 6 (dck_at tX7_till 10 rfl) (by decide) ?_
      exact ih _ _ _ h K
set_option maxHeartbeats 4000000 in
set_option maxRecDepth 100000 in
theorem c_X7_till {X : Cx} {l : Launch} (hX : CxOk X) (hM : SM X) {N : Nat} {M : Mem} {r : Int32} {M' : Mem} (h : f_X7_till N M = some (r, M')) : Ctr X l yX7_till cX7_till 2 (some .int) 7 [.ref 70] M (some (.int r)) M' := by
  refine Ctr.ofG (L := [some (.ref 70), none]) hX (by decide) (Nat.le_of_ble_eq_true rfl) rfl (fun F hF hl hR => ?_)
  subst hl
  unfold f_X7_till at h
  refine g_aload_n hF (dck_at tX7_till 0 rfl) rfl ?_
  obtain ⟨q1, e1, h⟩ := bd h
  refine g_callV hF (as := []) (k := 70) rfl (by decide) wm_X7_164 wi_X7_holds we_X7_holds wc_X7_holds wn_X7 hyX7_holds (by decide) (hM 70 (by decide) (by decide)) kdc_70 (c_X7_holds hF.2.2.2.2.2.2.2.1 hM e1) (by decide) rfl rfl rfl rfl (dck_at tX7_till 1 rfl) ?_
  show G X F 4 _ [] q1
  refine g_iconst (v := 0) hF (dck_at tX7_till 2 rfl) (by decide) ?_
  refine g_istore_n (L' := [some (.ref 70), some (.int (0 : Int32))]) hF (dck_at tX7_till 3 rfl) (Nat.le_of_ble_eq_true rfl) rfl ?_
  obtain ⟨o6, e6, h⟩ := bd h
  refine g_X7_till_L6 hM hF N N _ _ _ e6 ?_
  refine g_aload_n hF (dck_at tX7_till 11 rfl) rfl ?_
  obtain ⟨q24, e24, h⟩ := bd h
  refine g_callV hF (as := []) (k := 70) rfl (by decide) wm_X7_167 wi_X7_lets we_X7_lets wc_X7_lets wn_X7 hyX7_lets (by decide) (hM 70 (by decide) (by decide)) kdc_70 (c_X7_lets hF.2.2.2.2.2.2.2.1 hM e24) (by decide) rfl rfl rfl rfl (dck_at tX7_till 12 rfl) ?_
  show G X F 27 _ [] q24
  refine g_iload_n hF (dck_at tX7_till 13 rfl) rfl ?_
  cases h
  exact g_iret hF hR (dck_at tX7_till 14 rfl)

def tbX7_behindWaits : List (Nat × Instr × Nat) := [(0, .aload_n 0, 1), (1, .invokevirtual 164, 3), (4, .iconst 0, 1), (5, .istore_n 3, 1), (6, .iload_n 3, 1), (7, .iload_n 1, 1), (8, .if_icmp .ge 13, 3), (11, .aload_n 0, 1), (12, .invokevirtual 151, 3), (15, .iinc 3 1, 3), (18, .goto (-12), 3), (21, .iload_n 2, 1), (22, .ifCond .eq 10, 3), (25, .aload_n 0, 1), (26, .invokevirtual 136, 3), (29, .goto 7, 3), (32, .aload_n 0, 1), (33, .invokevirtual 145, 3), (36, .istore_n 3, 1), (37, .aload_n 0, 1), (38, .invokevirtual 167, 3), (41, .iload_n 3, 1), (42, .ireturn, 1)]
theorem tX7_behindWaits : dck cX7_behindWaits tbX7_behindWaits = true := by decide +kernel
def f_X7_behindWaits_L6 (N : Nat) (x1 : Int32) (x2 : Int32) : Nat → Int32 → Mem → Option (Int32 × Mem)
  | 0, _, _ => none
  | n + 1, x3, M => (if x1 ≤ x3 then some (x3, M) else (f_X7_waitsOne N M).bind fun q12 => f_X7_behindWaits_L6 N x1 x2 n (x3 + (1 : Int32)) q12)
def f_X7_behindWaits (N : Nat) (M : Mem) (x1 : Int32) (x2 : Int32) : Option (Int32 × Mem) := (f_X7_holds N M).bind fun q1 => (f_X7_behindWaits_L6 N x1 x2 N (0 : Int32) q1).bind fun o6 => ((if x2 = 0 then (f_X7_thereNow N o6.2).bind fun q33 => some q33 else (f_X7_noise N o6.2).bind fun q26 => some q26).bind fun o36 => (f_X7_lets N o6.2).bind fun q38 => some (o36, q38))
set_option maxHeartbeats 4000000 in
set_option maxRecDepth 100000 in
theorem g_X7_behindWaits_L6 {X : Cx} {F : Fx} (hM : SM X) (hF : FK X F cX7_behindWaits RX7 4 7) (N : Nat) (x1 : Int32) (x2 : Int32) : ∀ (n : Nat) (x3 : Int32) (M : Mem) (o : Int32 × Mem), f_X7_behindWaits_L6 N x1 x2 n x3 M = some o → G X F 21 [some (.ref 70), none, some (.int x2), none] [] o.2 → G X F 6 [some (.ref 70), some (.int x1), some (.int x2), some (.int x3)] [] M := by
  intro n
  induction n with
  | zero =>
    intro x3 M o h K
    cases h
  | succ n ih =>
    intro x3 M o h K
    rw [f_X7_behindWaits_L6] at h
    refine g_iload_n hF (dck_at tX7_behindWaits 4 rfl) rfl ?_
    refine g_iload_n hF (dck_at tX7_behindWaits 5 rfl) rfl ?_
    refine g_icmp_ge hF 21 (dck_at tX7_behindWaits 6 rfl) (by decide) (fun hc8 => ?_) (fun hc8 => ?_)
    · replace h := ite_t hc8 h
      refine g_msk [true, false, true, false] (L' := [some (.ref 70), none, some (.int x2), none]) rfl ?_
      cases h
      exact K
    · replace h := ite_f hc8 h
      refine g_aload_n hF (dck_at tX7_behindWaits 7 rfl) rfl ?_
      obtain ⟨q12, e12, h⟩ := bd h
      refine g_callV hF (as := []) (k := 70) rfl (by decide) wm_X7_151 wi_X7_waitsOne we_X7_waitsOne wc_X7_waitsOne wn_X7 hyX7_waitsOne (by decide) (hM 70 (by decide) (by decide)) kdc_70 (c_X7_waitsOne hF.2.2.2.2.2.2.2.1 hM e12) (by decide) rfl rfl rfl rfl (dck_at tX7_behindWaits 8 rfl) ?_
      show G X F 15 _ [] q12
      refine g_iinc (v := 1) (L' := [some (.ref 70), some (.int x1), some (.int x2), some (.int (x3 + (1 : Int32)))]) hF (dck_at tX7_behindWaits 9 rfl) rfl (by decide) rfl ?_
      refine g_goto hF 6 (dck_at tX7_behindWaits 10 rfl) (by decide) ?_
      exact ih _ _ _ h K
set_option maxHeartbeats 4000000 in
set_option maxRecDepth 100000 in
theorem c_X7_behindWaits {X : Cx} {l : Launch} (hX : CxOk X) (hM : SM X) {N : Nat} {M : Mem} {x1 : Int32} {x2 : Int32} {r : Int32} {M' : Mem} (h : f_X7_behindWaits N M x1 x2 = some (r, M')) : Ctr X l yX7_behindWaits cX7_behindWaits 4 (some .int) 7 [.ref 70, .int x1, .int x2] M (some (.int r)) M' := by
  refine Ctr.ofG (L := [some (.ref 70), some (.int x1), some (.int x2), none]) hX (by decide) (Nat.le_of_ble_eq_true rfl) rfl (fun F hF hl hR => ?_)
  subst hl
  unfold f_X7_behindWaits at h
  refine g_aload_n hF (dck_at tX7_behindWaits 0 rfl) rfl ?_
  obtain ⟨q1, e1, h⟩ := bd h
  refine g_callV hF (as := []) (k := 70) rfl (by decide) wm_X7_164 wi_X7_holds we_X7_holds wc_X7_holds wn_X7 hyX7_holds (by decide) (hM 70 (by decide) (by decide)) kdc_70 (c_X7_holds hF.2.2.2.2.2.2.2.1 hM e1) (by decide) rfl rfl rfl rfl (dck_at tX7_behindWaits 1 rfl) ?_
  show G X F 4 _ [] q1
  refine g_iconst (v := 0) hF (dck_at tX7_behindWaits 2 rfl) (by decide) ?_
  refine g_istore_n (L' := [some (.ref 70), some (.int x1), some (.int x2), some (.int (0 : Int32))]) hF (dck_at tX7_behindWaits 3 rfl) (Nat.le_of_ble_eq_true rfl) rfl ?_
  obtain ⟨o6, e6, h⟩ := bd h
  refine g_X7_behindWaits_L6 hM hF N _ _ N _ _ _ e6 ?_
  refine g_iload_n hF (dck_at tX7_behindWaits 11 rfl) rfl ?_
  obtain ⟨o36, h36, h⟩ := bd h
  have K36 : G X F 36 [some (.ref 70), none, none, none] [.int o36] o6.2 := by
    refine g_istore_n (L' := [some (.ref 70), none, none, some (.int o36)]) hF (dck_at tX7_behindWaits 18 rfl) (Nat.le_of_ble_eq_true rfl) rfl ?_
    refine g_aload_n hF (dck_at tX7_behindWaits 19 rfl) rfl ?_
    obtain ⟨q38, e38, h⟩ := bd h
    refine g_callV hF (as := []) (k := 70) rfl (by decide) wm_X7_167 wi_X7_lets we_X7_lets wc_X7_lets wn_X7 hyX7_lets (by decide) (hM 70 (by decide) (by decide)) kdc_70 (c_X7_lets hF.2.2.2.2.2.2.2.1 hM e38) (by decide) rfl rfl rfl rfl (dck_at tX7_behindWaits 20 rfl) ?_
    show G X F 41 _ [] q38
    refine g_iload_n hF (dck_at tX7_behindWaits 21 rfl) rfl ?_
    cases h
    exact g_iret hF hR (dck_at tX7_behindWaits 22 rfl)
  replace h := h36
  refine g_if_eq hF 32 (dck_at tX7_behindWaits 12 rfl) (by decide) (fun hc22 => ?_) (fun hc22 => ?_)
  · replace h := ite_t hc22 h
    refine g_aload_n hF (dck_at tX7_behindWaits 16 rfl) rfl ?_
    obtain ⟨q33, e33, h⟩ := bd h
    refine g_callV hF (as := []) (k := 70) rfl (by decide) wm_X7_145 wi_X7_thereNow we_X7_thereNow wc_X7_thereNow wn_X7 hyX7_thereNow (by decide) (hM 70 (by decide) (by decide)) kdc_70 (c_X7_thereNow hF.2.2.2.2.2.2.2.1 hM e33) (by decide) rfl rfl rfl rfl (dck_at tX7_behindWaits 17 rfl) ?_
    show G X F 36 _ [.int q33] o6.2
    cases h
    refine g_msk [true, true, false, true] (L' := [some (.ref 70), none, none, none]) rfl ?_
    exact K36
  · replace h := ite_f hc22 h
    refine g_aload_n hF (dck_at tX7_behindWaits 13 rfl) rfl ?_
    obtain ⟨q26, e26, h⟩ := bd h
    refine g_callV hF (as := []) (k := 70) rfl (by decide) wm_X7_136 wi_X7_noise we_X7_noise wc_X7_noise wn_X7 hyX7_noise (by decide) (hM 70 (by decide) (by decide)) kdc_70 (c_X7_noise hF.2.2.2.2.2.2.2.1 hM e26) (by decide) rfl rfl rfl rfl (dck_at tX7_behindWaits 14 rfl) ?_
    show G X F 29 _ [.int q26] o6.2
    refine g_goto hF 36 (dck_at tX7_behindWaits 15 rfl) (by decide) ?_
    cases h
    refine g_msk [true, true, false, true] (L' := [some (.ref 70), none, none, none]) rfl ?_
    exact K36

def tbX7_there : List (Nat × Instr × Nat) := [(0, .iload_n 1, 1), (1, .iconst 0, 1), (2, .bipush 99, 2), (4, .invokestatic 53, 3), (7, .ifCond .eq 12, 3), (10, .aload_n 0, 1), (11, .iload_n 1, 1), (12, .iconst 0, 1), (13, .invokevirtual 170, 3), (16, .goto 5, 3), (19, .bipush (-3), 2), (21, .ireturn, 1)]
theorem tX7_there : dck cX7_there tbX7_there = true := by decide +kernel
def f_X7_there (N : Nat) (M : Mem) (x1 : Int32) : Option (Int32 × Mem) := (f_X7_in N M x1 (0 : Int32) (99 : Int32)).bind fun q4 => (if q4 = 0 then some ((-3 : Int32), M) else (f_X7_behindWaits N M x1 (0 : Int32)).bind fun q13 => some (q13.1, q13.2))
set_option maxHeartbeats 4000000 in
set_option maxRecDepth 100000 in
theorem c_X7_there {X : Cx} {l : Launch} (hX : CxOk X) (hM : SM X) {N : Nat} {M : Mem} {x1 : Int32} {r : Int32} {M' : Mem} (h : f_X7_there N M x1 = some (r, M')) : Ctr X l yX7_there cX7_there 2 (some .int) 8 [.ref 70, .int x1] M (some (.int r)) M' := by
  refine Ctr.ofG (L := [some (.ref 70), some (.int x1)]) hX (by decide) (Nat.le_of_ble_eq_true rfl) rfl (fun F hF hl hR => ?_)
  subst hl
  unfold f_X7_there at h
  refine g_iload_n hF (dck_at tX7_there 0 rfl) rfl ?_
  refine g_iconst (v := 0) hF (dck_at tX7_there 1 rfl) (by decide) ?_
  refine g_bipush (v := 99) hF (dck_at tX7_there 2 rfl) (by decide) ?_
  obtain ⟨q4, e4, h⟩ := bd h
  refine g_callS hF (as := [.int x1, .int (0 : Int32), .int (99 : Int32)]) wm_X7_53 wt_X7_in wc_X7_in wn_X7 hyX7_in (by decide) (c_X7_in hF.2.2.2.2.2.2.2.1 e4) (by decide) rfl rfl rfl rfl (dck_at tX7_there 3 rfl) ?_
  show G X F 7 _ [.int q4] M
  refine g_if_eq hF 19 (dck_at tX7_there 4 rfl) (by decide) (fun hc7 => ?_) (fun hc7 => ?_)
  · replace h := ite_t hc7 h
    refine g_bipush (v := -3) hF (dck_at tX7_there 10 rfl) (by decide) ?_
    cases h
    exact g_iret hF hR (dck_at tX7_there 11 rfl)
  · replace h := ite_f hc7 h
    refine g_aload_n hF (dck_at tX7_there 5 rfl) rfl ?_
    refine g_iload_n hF (dck_at tX7_there 6 rfl) rfl ?_
    refine g_iconst (v := 0) hF (dck_at tX7_there 7 rfl) (by decide) ?_
    obtain ⟨q13, e13, h⟩ := bd h
    refine g_callV hF (as := [.int x1, .int (0 : Int32)]) (k := 70) rfl (by decide) wm_X7_170 wi_X7_behindWaits we_X7_behindWaits wc_X7_behindWaits wn_X7 hyX7_behindWaits (by decide) (hM 70 (by decide) (by decide)) kdc_70 (c_X7_behindWaits hF.2.2.2.2.2.2.2.1 hM e13) (by decide) rfl rfl rfl rfl (dck_at tX7_there 8 rfl) ?_
    show G X F 16 _ [.int q13.1] q13.2
    refine g_goto hF 21 (dck_at tX7_there 9 rfl) (by decide) ?_
    cases h
    exact g_iret hF hR (dck_at tX7_there 11 rfl)

def tbX7_sound : List (Nat × Instr × Nat) := [(0, .iload_n 1, 1), (1, .iconst 0, 1), (2, .bipush 99, 2), (4, .invokestatic 53, 3), (7, .ifCond .eq 12, 3), (10, .aload_n 0, 1), (11, .iload_n 1, 1), (12, .iconst 1, 1), (13, .invokevirtual 170, 3), (16, .goto 5, 3), (19, .bipush (-3), 2), (21, .ireturn, 1)]
theorem tX7_sound : dck cX7_sound tbX7_sound = true := by decide +kernel
def f_X7_sound (N : Nat) (M : Mem) (x1 : Int32) : Option (Int32 × Mem) := (f_X7_in N M x1 (0 : Int32) (99 : Int32)).bind fun q4 => (if q4 = 0 then some ((-3 : Int32), M) else (f_X7_behindWaits N M x1 (1 : Int32)).bind fun q13 => some (q13.1, q13.2))
set_option maxHeartbeats 4000000 in
set_option maxRecDepth 100000 in
theorem c_X7_sound {X : Cx} {l : Launch} (hX : CxOk X) (hM : SM X) {N : Nat} {M : Mem} {x1 : Int32} {r : Int32} {M' : Mem} (h : f_X7_sound N M x1 = some (r, M')) : Ctr X l yX7_sound cX7_sound 2 (some .int) 8 [.ref 70, .int x1] M (some (.int r)) M' := by
  refine Ctr.ofG (L := [some (.ref 70), some (.int x1)]) hX (by decide) (Nat.le_of_ble_eq_true rfl) rfl (fun F hF hl hR => ?_)
  subst hl
  unfold f_X7_sound at h
  refine g_iload_n hF (dck_at tX7_sound 0 rfl) rfl ?_
  refine g_iconst (v := 0) hF (dck_at tX7_sound 1 rfl) (by decide) ?_
  refine g_bipush (v := 99) hF (dck_at tX7_sound 2 rfl) (by decide) ?_
  obtain ⟨q4, e4, h⟩ := bd h
  refine g_callS hF (as := [.int x1, .int (0 : Int32), .int (99 : Int32)]) wm_X7_53 wt_X7_in wc_X7_in wn_X7 hyX7_in (by decide) (c_X7_in hF.2.2.2.2.2.2.2.1 e4) (by decide) rfl rfl rfl rfl (dck_at tX7_sound 3 rfl) ?_
  show G X F 7 _ [.int q4] M
  refine g_if_eq hF 19 (dck_at tX7_sound 4 rfl) (by decide) (fun hc7 => ?_) (fun hc7 => ?_)
  · replace h := ite_t hc7 h
    refine g_bipush (v := -3) hF (dck_at tX7_sound 10 rfl) (by decide) ?_
    cases h
    exact g_iret hF hR (dck_at tX7_sound 11 rfl)
  · replace h := ite_f hc7 h
    refine g_aload_n hF (dck_at tX7_sound 5 rfl) rfl ?_
    refine g_iload_n hF (dck_at tX7_sound 6 rfl) rfl ?_
    refine g_iconst (v := 1) hF (dck_at tX7_sound 7 rfl) (by decide) ?_
    obtain ⟨q13, e13, h⟩ := bd h
    refine g_callV hF (as := [.int x1, .int (1 : Int32)]) (k := 70) rfl (by decide) wm_X7_170 wi_X7_behindWaits we_X7_behindWaits wc_X7_behindWaits wn_X7 hyX7_behindWaits (by decide) (hM 70 (by decide) (by decide)) kdc_70 (c_X7_behindWaits hF.2.2.2.2.2.2.2.1 hM e13) (by decide) rfl rfl rfl rfl (dck_at tX7_sound 8 rfl) ?_
    show G X F 16 _ [.int q13.1] q13.2
    refine g_goto hF 21 (dck_at tX7_sound 9 rfl) (by decide) ?_
    cases h
    exact g_iret hF hR (dck_at tX7_sound 11 rfl)

def tbX7_comesBack : List (Nat × Instr × Nat) := [(0, .iconst 0, 1), (1, .istore_n 2, 1), (2, .iload_n 2, 1), (3, .bipush 14, 2), (5, .if_icmp .ge 26, 3), (8, .aload_n 0, 1), (9, .getfield 19, 3), (12, .iload_n 2, 1), (13, .aload_n 0, 1), (14, .getfield 38, 3), (17, .bipush 14, 2), (19, .iload_n 1, 1), (20, .imul, 1), (21, .iload_n 2, 1), (22, .iadd, 1), (23, .iaload, 1), (24, .iastore, 1), (25, .iinc 2 1, 3), (28, .goto (-26), 3), (31, .return_, 1)]
theorem tX7_comesBack : dck cX7_comesBack tbX7_comesBack = true := by decide +kernel
def f_X7_comesBack_L2 (N : Nat) (x1 : Int32) : Nat → Int32 → Mem → Option (Int32 × Mem)
  | 0, _, _ => none
  | n + 1, x2, M => (if (14 : Int32) ≤ x2 then some (x2, M) else if inb (((14 : Int32) * x1) + x2) 98 = true then if inb x2 14 = true then f_X7_comesBack_L2 N x1 n (x2 + (1 : Int32)) (up2 M 74 x2.toNatClampNeg (M 80 (((14 : Int32) * x1) + x2).toNatClampNeg)) else none else none)
def f_X7_comesBack (N : Nat) (M : Mem) (x1 : Int32) : Option Mem := (f_X7_comesBack_L2 N x1 N (0 : Int32) M).bind fun o2 => some o2.2
set_option maxHeartbeats 4000000 in
set_option maxRecDepth 100000 in
theorem g_X7_comesBack_L2 {X : Cx} {F : Fx} (hM : SM X) (hF : FK X F cX7_comesBack RX7 3 1) (N : Nat) (x1 : Int32) : ∀ (n : Nat) (x2 : Int32) (M : Mem) (o : Int32 × Mem), f_X7_comesBack_L2 N x1 n x2 M = some o → G X F 31 [none, none, none] [] o.2 → G X F 2 [some (.ref 70), some (.int x1), some (.int x2)] [] M := by
  intro n
  induction n with
  | zero =>
    intro x2 M o h K
    cases h
  | succ n ih =>
    intro x2 M o h K
    rw [f_X7_comesBack_L2] at h
    refine g_iload_n hF (dck_at tX7_comesBack 2 rfl) rfl ?_
    refine g_bipush (v := 14) hF (dck_at tX7_comesBack 3 rfl) (by decide) ?_
    refine g_icmp_ge hF 31 (dck_at tX7_comesBack 4 rfl) (by decide) (fun hc5 => ?_) (fun hc5 => ?_)
    · replace h := ite_t hc5 h
      refine g_msk [false, false, false] (L' := [none, none, none]) rfl ?_
      cases h
      exact K
    · replace h := ite_f hc5 h
      refine g_aload_n hF (dck_at tX7_comesBack 5 rfl) rfl ?_
      refine gf_X7_19 hF (hM 70 (by decide) (by decide)) kdc_70 lnc_70 (dck_at tX7_comesBack 6 rfl) ?_
      refine g_iload_n hF (dck_at tX7_comesBack 7 rfl) rfl ?_
      refine g_aload_n hF (dck_at tX7_comesBack 8 rfl) rfl ?_
      refine gf_X7_38 hF (hM 70 (by decide) (by decide)) kdc_70 lnc_70 (dck_at tX7_comesBack 9 rfl) ?_
      refine g_bipush (v := 14) hF (dck_at tX7_comesBack 10 rfl) (by decide) ?_
      show G X F 19 _ _ _
      refine g_iload_n hF (dck_at tX7_comesBack 11 rfl) rfl ?_
      refine g_imul hF (dck_at tX7_comesBack 12 rfl) ?_
      refine g_iload_n hF (dck_at tX7_comesBack 13 rfl) rfl ?_
      refine g_iadd hF (dck_at tX7_comesBack 14 rfl) ?_
      obtain ⟨hg23, h⟩ := gd h
      refine g_ia hF (hM 80 (by decide) (by decide)) kdc_80 lnc_80 hg23 (dck_at tX7_comesBack 15 rfl) ?_
      obtain ⟨hg24, h⟩ := gd h
      refine g_is hF (hM 74 (by decide) (by decide)) kdc_74 lnc_74 hg24 (dck_at tX7_comesBack 16 rfl) ?_
      refine g_iinc (v := 1) (L' := [some (.ref 70), some (.int x1), some (.int (x2 + (1 : Int32)))]) hF (dck_at tX7_comesBack 17 rfl) rfl (by decide) rfl ?_
      show G X F 28 _ _ _
      refine g_goto hF 2 (dck_at tX7_comesBack 18 rfl) (by decide) ?_
      exact ih _ _ _ h K
set_option maxHeartbeats 4000000 in
set_option maxRecDepth 100000 in
theorem c_X7_comesBack {X : Cx} {l : Launch} (hX : CxOk X) (hM : SM X) {N : Nat} {M : Mem} {x1 : Int32} {M' : Mem} (h : f_X7_comesBack N M x1 = some M') : Ctr X l yX7_comesBack cX7_comesBack 3 none 1 [.ref 70, .int x1] M none M' := by
  refine Ctr.ofG (L := [some (.ref 70), some (.int x1), none]) hX (by decide) (Nat.le_of_ble_eq_true rfl) rfl (fun F hF hl hR => ?_)
  subst hl
  unfold f_X7_comesBack at h
  refine g_iconst (v := 0) hF (dck_at tX7_comesBack 0 rfl) (by decide) ?_
  refine g_istore_n (L' := [some (.ref 70), some (.int x1), some (.int (0 : Int32))]) hF (dck_at tX7_comesBack 1 rfl) (Nat.le_of_ble_eq_true rfl) rfl ?_
  obtain ⟨o2, e2, h⟩ := bd h
  refine g_X7_comesBack_L2 hM hF N _ N _ _ _ e2 ?_
  cases h
  exact g_vret hF hR (dck_at tX7_comesBack 19 rfl)

def tbX7_goesOn : List (Nat × Instr × Nat) := [(0, .iconst 0, 1), (1, .istore_n 2, 1), (2, .iload_n 2, 1), (3, .bipush 14, 2), (5, .if_icmp .ge 26, 3), (8, .aload_n 0, 1), (9, .getfield 38, 3), (12, .bipush 14, 2), (14, .iload_n 1, 1), (15, .imul, 1), (16, .iload_n 2, 1), (17, .iadd, 1), (18, .aload_n 0, 1), (19, .getfield 19, 3), (22, .iload_n 2, 1), (23, .iaload, 1), (24, .iastore, 1), (25, .iinc 2 1, 3), (28, .goto (-26), 3), (31, .return_, 1)]
theorem tX7_goesOn : dck cX7_goesOn tbX7_goesOn = true := by decide +kernel
def f_X7_goesOn_L2 (N : Nat) (x1 : Int32) : Nat → Int32 → Mem → Option (Int32 × Mem)
  | 0, _, _ => none
  | n + 1, x2, M => (if (14 : Int32) ≤ x2 then some (x2, M) else if inb x2 14 = true then if inb (((14 : Int32) * x1) + x2) 98 = true then f_X7_goesOn_L2 N x1 n (x2 + (1 : Int32)) (up2 M 80 (((14 : Int32) * x1) + x2).toNatClampNeg (M 74 x2.toNatClampNeg)) else none else none)
def f_X7_goesOn (N : Nat) (M : Mem) (x1 : Int32) : Option Mem := (f_X7_goesOn_L2 N x1 N (0 : Int32) M).bind fun o2 => some o2.2
set_option maxHeartbeats 4000000 in
set_option maxRecDepth 100000 in
theorem g_X7_goesOn_L2 {X : Cx} {F : Fx} (hM : SM X) (hF : FK X F cX7_goesOn RX7 3 1) (N : Nat) (x1 : Int32) : ∀ (n : Nat) (x2 : Int32) (M : Mem) (o : Int32 × Mem), f_X7_goesOn_L2 N x1 n x2 M = some o → G X F 31 [none, none, none] [] o.2 → G X F 2 [some (.ref 70), some (.int x1), some (.int x2)] [] M := by
  intro n
  induction n with
  | zero =>
    intro x2 M o h K
    cases h
  | succ n ih =>
    intro x2 M o h K
    rw [f_X7_goesOn_L2] at h
    refine g_iload_n hF (dck_at tX7_goesOn 2 rfl) rfl ?_
    refine g_bipush (v := 14) hF (dck_at tX7_goesOn 3 rfl) (by decide) ?_
    refine g_icmp_ge hF 31 (dck_at tX7_goesOn 4 rfl) (by decide) (fun hc5 => ?_) (fun hc5 => ?_)
    · replace h := ite_t hc5 h
      refine g_msk [false, false, false] (L' := [none, none, none]) rfl ?_
      cases h
      exact K
    · replace h := ite_f hc5 h
      refine g_aload_n hF (dck_at tX7_goesOn 5 rfl) rfl ?_
      refine gf_X7_38 hF (hM 70 (by decide) (by decide)) kdc_70 lnc_70 (dck_at tX7_goesOn 6 rfl) ?_
      refine g_bipush (v := 14) hF (dck_at tX7_goesOn 7 rfl) (by decide) ?_
      refine g_iload_n hF (dck_at tX7_goesOn 8 rfl) rfl ?_
      refine g_imul hF (dck_at tX7_goesOn 9 rfl) ?_
      refine g_iload_n hF (dck_at tX7_goesOn 10 rfl) rfl ?_
      show G X F 17 _ _ _
      refine g_iadd hF (dck_at tX7_goesOn 11 rfl) ?_
      refine g_aload_n hF (dck_at tX7_goesOn 12 rfl) rfl ?_
      refine gf_X7_19 hF (hM 70 (by decide) (by decide)) kdc_70 lnc_70 (dck_at tX7_goesOn 13 rfl) ?_
      refine g_iload_n hF (dck_at tX7_goesOn 14 rfl) rfl ?_
      obtain ⟨hg23, h⟩ := gd h
      refine g_ia hF (hM 74 (by decide) (by decide)) kdc_74 lnc_74 hg23 (dck_at tX7_goesOn 15 rfl) ?_
      obtain ⟨hg24, h⟩ := gd h
      refine g_is hF (hM 80 (by decide) (by decide)) kdc_80 lnc_80 hg24 (dck_at tX7_goesOn 16 rfl) ?_
      refine g_iinc (v := 1) (L' := [some (.ref 70), some (.int x1), some (.int (x2 + (1 : Int32)))]) hF (dck_at tX7_goesOn 17 rfl) rfl (by decide) rfl ?_
      show G X F 28 _ _ _
      refine g_goto hF 2 (dck_at tX7_goesOn 18 rfl) (by decide) ?_
      exact ih _ _ _ h K
set_option maxHeartbeats 4000000 in
set_option maxRecDepth 100000 in
theorem c_X7_goesOn {X : Cx} {l : Launch} (hX : CxOk X) (hM : SM X) {N : Nat} {M : Mem} {x1 : Int32} {M' : Mem} (h : f_X7_goesOn N M x1 = some M') : Ctr X l yX7_goesOn cX7_goesOn 3 none 1 [.ref 70, .int x1] M none M' := by
  refine Ctr.ofG (L := [some (.ref 70), some (.int x1), none]) hX (by decide) (Nat.le_of_ble_eq_true rfl) rfl (fun F hF hl hR => ?_)
  subst hl
  unfold f_X7_goesOn at h
  refine g_iconst (v := 0) hF (dck_at tX7_goesOn 0 rfl) (by decide) ?_
  refine g_istore_n (L' := [some (.ref 70), some (.int x1), some (.int (0 : Int32))]) hF (dck_at tX7_goesOn 1 rfl) (Nat.le_of_ble_eq_true rfl) rfl ?_
  obtain ⟨o2, e2, h⟩ := bd h
  refine g_X7_goesOn_L2 hM hF N _ N _ _ _ e2 ?_
  cases h
  exact g_vret hF hR (dck_at tX7_goesOn 19 rfl)

def tbX7_seeks : List (Nat × Instr × Nat) := [(0, .aload_n 0, 1), (1, .iconst 0, 1), (2, .putfield 174, 3), (5, .aload_n 0, 1), (6, .iconst 0, 1), (7, .putfield 177, 3), (10, .aload_n 0, 1), (11, .getfield 19, 3), (14, .iconst 4, 1), (15, .iaload, 1), (16, .aload_n 0, 1), (17, .getfield 19, 3), (20, .iconst 3, 1), (21, .iaload, 1), (22, .isub, 1), (23, .istore_n 1, 1), (24, .aload_n 0, 1), (25, .iconst 0, 1), (26, .invokevirtual 180, 3), (29, .iconst 0, 1), (30, .istore_n 2, 1), (31, .aload_n 0, 1), (32, .getfield 41, 3), (35, .iconst 0, 1), (36, .iconst 0, 1), (37, .iastore, 1), (38, .iload_n 2, 1), (39, .ifCond .lt 185, 3), (42, .aload_n 0, 1), (43, .getfield 41, 3), (46, .iload_n 2, 1), (47, .dup2, 1), (48, .iaload, 1), (49, .iconst 1, 1), (50, .iadd, 1), (51, .iastore, 1), (52, .aload_n 0, 1), (53, .getfield 41, 3), (56, .iload_n 2, 1), (57, .iaload, 1), (58, .aload_n 0, 1), (59, .getfield 13, 3), (62, .iconst 1, 1), (63, .iaload, 1), (64, .iconst 1, 1), (65, .iadd, 1), (66, .if_icmp .le 18, 3), (69, .iinc 2 (-1), 3), (72, .iload_n 2, 1), (73, .ifCond .lt (-35), 3), (76, .aload_n 0, 1), (77, .iload_n 2, 1), (78, .invokevirtual 183, 3), (81, .goto (-43), 3), (84, .aload_n 0, 1), (85, .aload_n 0, 1), (86, .getfield 41, 3), (89, .iload_n 2, 1), (90, .iaload, 1), (91, .invokevirtual 139, 3), (94, .ifCond .ne (-56), 3), (97, .aload_n 0, 1), (98, .aload_n 0, 1), (99, .getfield 41, 3), (102, .iload_n 2, 1), (103, .iaload, 1), (104, .invokevirtual 161, 3), (107, .aload_n 0, 1), (108, .getfield 19, 3), (111, .iconst 4, 1), (112, .iaload, 1), (113, .aload_n 0, 1), (114, .getfield 19, 3), (117, .iconst 3, 1), (118, .iaload, 1), (119, .isub, 1), (120, .iload_n 1, 1), (121, .isub, 1), (122, .istore_n 3, 1), (123, .iload_n 3, 1), (124, .aload_n 0, 1), (125, .getfield 177, 3), (128, .if_icmp .gt 21, 3), (131, .iload_n 3, 1), (132, .aload_n 0, 1), (133, .getfield 177, 3), (136, .if_icmp .ne 54, 3), (139, .iload_n 2, 1), (140, .iconst 1, 1), (141, .iadd, 1), (142, .aload_n 0, 1), (143, .getfield 174, 3), (146, .if_icmp .ge 44, 3), (149, .aload_n 0, 1), (150, .iload_n 3, 1), (151, .putfield 177, 3), (154, .aload_n 0, 1), (155, .iload_n 2, 1), (156, .iconst 1, 1), (157, .iadd, 1), (158, .putfield 174, 3), (161, .iconst 0, 1), (162, .istore 4, 2), (164, .iload 4, 2), (166, .iload_n 2, 1), (167, .if_icmp .gt 23, 3), (170, .aload_n 0, 1), (171, .getfield 44, 3), (174, .iload 4, 2), (176, .aload_n 0, 1), (177, .getfield 41, 3), (180, .iload 4, 2), (182, .iaload, 1), (183, .iastore, 1), (184, .iinc 4 1, 3), (187, .goto (-23), 3), (190, .iload_n 2, 1), (191, .iconst 1, 1), (192, .iadd, 1), (193, .bipush 6, 2), (195, .if_icmp .ge 21, 3), (198, .iinc 2 1, 3), (201, .aload_n 0, 1), (202, .iload_n 2, 1), (203, .invokevirtual 180, 3), (206, .aload_n 0, 1), (207, .getfield 41, 3), (210, .iload_n 2, 1), (211, .iconst 0, 1), (212, .iastore, 1), (213, .goto 8, 3), (216, .aload_n 0, 1), (217, .iload_n 2, 1), (218, .invokevirtual 183, 3), (221, .goto (-183), 3), (224, .return_, 1)]
theorem tX7_seeks : dck cX7_seeks tbX7_seeks = true := by decide +kernel
def f_X7_seeks_L164 (N : Nat) (x1 : Int32) (x2 : Int32) : Nat → Int32 → Mem → Option (Int32 × Mem)
  | 0, _, _ => none
  | n + 1, x4, M => (if x2 < x4 then some (x4, M) else if inb x4 6 = true then if inb x4 6 = true then f_X7_seeks_L164 N x1 x2 n (x4 + (1 : Int32)) (up2 M 82 x4.toNatClampNeg (M 81 x4.toNatClampNeg)) else none else none)
def f_X7_seeks_L38 (N : Nat) (x1 : Int32) : Nat → Int32 → Mem → Option (Int32 × Mem)
  | 0, _, _ => none
  | n + 1, x2, M => (if x2 < 0 then some (x2, M) else if inb x2 6 = true then if inb x2 6 = true then if inb x2 6 = true then (if ((up2 M 81 x2.toNatClampNeg ((M 81 x2.toNatClampNeg) + (1 : Int32))) 81 x2.toNatClampNeg) ≤ (((up2 M 81 x2.toNatClampNeg ((M 81 x2.toNatClampNeg) + (1 : Int32))) 72 1) + (1 : Int32)) then if inb x2 6 = true then (f_X7_lacks N (up2 M 81 x2.toNatClampNeg ((M 81 x2.toNatClampNeg) + (1 : Int32))) ((up2 M 81 x2.toNatClampNeg ((M 81 x2.toNatClampNeg) + (1 : Int32))) 81 x2.toNatClampNeg)).bind fun q91 => (if q91 = 0 then if inb x2 6 = true then (f_X7_steps N (up2 M 81 x2.toNatClampNeg ((M 81 x2.toNatClampNeg) + (1 : Int32))) ((up2 M 81 x2.toNatClampNeg ((M 81 x2.toNatClampNeg) + (1 : Int32))) 81 x2.toNatClampNeg)).bind fun q104 => ((if (q104 70 20) < (((q104 74 4) - (q104 74 3)) - x1) then (f_X7_seeks_L164 N x1 x2 N (0 : Int32) (up2 (up2 q104 70 20 (((q104 74 4) - (q104 74 3)) - x1)) 70 19 (x2 + (1 : Int32)))).bind fun o164 => some o164.2 else (if (((q104 74 4) - (q104 74 3)) - x1) = (q104 70 20) then (if (q104 70 19) ≤ (x2 + (1 : Int32)) then some q104 else (f_X7_seeks_L164 N x1 x2 N (0 : Int32) (up2 (up2 q104 70 20 (((q104 74 4) - (q104 74 3)) - x1)) 70 19 (x2 + (1 : Int32)))).bind fun o164 => some o164.2) else some q104)).bind fun o190 => (if (6 : Int32) ≤ (x2 + (1 : Int32)) then (f_X7_comesBack N o190 x2).bind fun q218 => f_X7_seeks_L38 N x1 n x2 q218 else (f_X7_goesOn N o190 (x2 + (1 : Int32))).bind fun q203 => if inb (x2 + (1 : Int32)) 6 = true then f_X7_seeks_L38 N x1 n (x2 + (1 : Int32)) (up2 q203 81 (x2 + (1 : Int32)).toNatClampNeg (0 : Int32)) else none)) else none else f_X7_seeks_L38 N x1 n x2 (up2 M 81 x2.toNatClampNeg ((M 81 x2.toNatClampNeg) + (1 : Int32)))) else none else (if (x2 + (-1 : Int32)) < 0 then f_X7_seeks_L38 N x1 n (x2 + (-1 : Int32)) (up2 M 81 x2.toNatClampNeg ((M 81 x2.toNatClampNeg) + (1 : Int32))) else (f_X7_comesBack N (up2 M 81 x2.toNatClampNeg ((M 81 x2.toNatClampNeg) + (1 : Int32))) (x2 + (-1 : Int32))).bind fun q78 => f_X7_seeks_L38 N x1 n (x2 + (-1 : Int32)) q78)) else none else none else none)
def f_X7_seeks (N : Nat) (M : Mem) : Option Mem := (f_X7_goesOn N (up2 (up2 M 70 19 (0 : Int32)) 70 20 (0 : Int32)) (0 : Int32)).bind fun q26 => (f_X7_seeks_L38 N (((up2 (up2 M 70 19 (0 : Int32)) 70 20 (0 : Int32)) 74 4) - ((up2 (up2 M 70 19 (0 : Int32)) 70 20 (0 : Int32)) 74 3)) N (0 : Int32) (up2 q26 81 0 (0 : Int32))).bind fun o38 => some o38.2
set_option maxHeartbeats 4000000 in
set_option maxRecDepth 100000 in
theorem g_X7_seeks_L164 {X : Cx} {F : Fx} (hM : SM X) (hF : FK X F cX7_seeks RX7 5 8) (N : Nat) (x1 : Int32) (x2 : Int32) : ∀ (n : Nat) (x4 : Int32) (M : Mem) (o : Int32 × Mem), f_X7_seeks_L164 N x1 x2 n x4 M = some o → G X F 190 [some (.ref 70), some (.int x1), some (.int x2), none, none] [] o.2 → G X F 164 [some (.ref 70), some (.int x1), some (.int x2), none, some (.int x4)] [] M := by
  intro n
  induction n with
  | zero =>
    intro x4 M o h K
    cases h
  | succ n ih =>
    intro x4 M o h K
    rw [f_X7_seeks_L164] at h
    refine g_iload hF (dck_at tX7_seeks 103 rfl) rfl ?_
    refine g_iload_n hF (dck_at tX7_seeks 104 rfl) rfl ?_
    refine g_icmp_gt hF 190 (dck_at tX7_seeks 105 rfl) (by decide) (fun hc167 => ?_) (fun hc167 => ?_)
    · replace h := ite_t hc167 h
      refine g_msk [true, true, true, true, false] (L' := [some (.ref 70), some (.int x1), some (.int x2), none, none]) rfl ?_
      cases h
      exact K
    · replace h := ite_f hc167 h
      refine g_aload_n hF (dck_at tX7_seeks 106 rfl) rfl ?_
      refine gf_X7_44 hF (hM 70 (by decide) (by decide)) kdc_70 lnc_70 (dck_at tX7_seeks 107 rfl) ?_
      refine g_iload hF (dck_at tX7_seeks 108 rfl) rfl ?_
      refine g_aload_n hF (dck_at tX7_seeks 109 rfl) rfl ?_
      refine gf_X7_41 hF (hM 70 (by decide) (by decide)) kdc_70 lnc_70 (dck_at tX7_seeks 110 rfl) ?_
      refine g_iload hF (dck_at tX7_seeks 111 rfl) rfl ?_
      show G X F 182 _ _ _
      obtain ⟨hg182, h⟩ := gd h
      refine g_ia hF (hM 81 (by decide) (by decide)) kdc_81 lnc_81 hg182 (dck_at tX7_seeks 112 rfl) ?_
      obtain ⟨hg183, h⟩ := gd h
      refine g_is hF (hM 82 (by decide) (by decide)) kdc_82 lnc_82 hg183 (dck_at tX7_seeks 113 rfl) ?_
      refine g_iinc (v := 1) (L' := [some (.ref 70), some (.int x1), some (.int x2), none, some (.int (x4 + (1 : Int32)))]) hF (dck_at tX7_seeks 114 rfl) rfl (by decide) rfl ?_
      refine g_goto hF 164 (dck_at tX7_seeks 115 rfl) (by decide) ?_
      exact ih _ _ _ h K
set_option maxHeartbeats 4000000 in
set_option maxRecDepth 100000 in
theorem g_X7_seeks_L38 {X : Cx} {F : Fx} (hM : SM X) (hF : FK X F cX7_seeks RX7 5 8) (N : Nat) (x1 : Int32) : ∀ (n : Nat) (x2 : Int32) (M : Mem) (o : Int32 × Mem), f_X7_seeks_L38 N x1 n x2 M = some o → G X F 224 [none, none, none, none, none] [] o.2 → G X F 38 [some (.ref 70), some (.int x1), some (.int x2), none, none] [] M := by
  intro n
  induction n with
  | zero =>
    intro x2 M o h K
    cases h
  | succ n ih =>
    intro x2 M o h K
    rw [f_X7_seeks_L38] at h
    refine g_iload_n hF (dck_at tX7_seeks 26 rfl) rfl ?_
    refine g_if_lt hF 224 (dck_at tX7_seeks 27 rfl) (by decide) (fun hc39 => ?_) (fun hc39 => ?_)
    · replace h := ite_t hc39 h
      refine g_msk [false, false, false, true, true] (L' := [none, none, none, none, none]) rfl ?_
      cases h
      exact K
    · replace h := ite_f hc39 h
      refine g_aload_n hF (dck_at tX7_seeks 28 rfl) rfl ?_
      refine gf_X7_41 hF (hM 70 (by decide) (by decide)) kdc_70 lnc_70 (dck_at tX7_seeks 29 rfl) ?_
      refine g_iload_n hF (dck_at tX7_seeks 30 rfl) rfl ?_
      refine g_dup2 hF (dck_at tX7_seeks 31 rfl) rfl rfl ?_
      obtain ⟨hg48, h⟩ := gd h
      refine g_ia hF (hM 81 (by decide) (by decide)) kdc_81 lnc_81 hg48 (dck_at tX7_seeks 32 rfl) ?_
      refine g_iconst (v := 1) hF (dck_at tX7_seeks 33 rfl) (by decide) ?_
      show G X F 50 _ _ _
      refine g_iadd hF (dck_at tX7_seeks 34 rfl) ?_
      obtain ⟨hg51, h⟩ := gd h
      refine g_is hF (hM 81 (by decide) (by decide)) kdc_81 lnc_81 hg51 (dck_at tX7_seeks 35 rfl) ?_
      refine g_aload_n hF (dck_at tX7_seeks 36 rfl) rfl ?_
      refine gf_X7_41 hF (hM 70 (by decide) (by decide)) kdc_70 lnc_70 (dck_at tX7_seeks 37 rfl) ?_
      refine g_iload_n hF (dck_at tX7_seeks 38 rfl) rfl ?_
      obtain ⟨hg57, h⟩ := gd h
      refine g_ia hF (hM 81 (by decide) (by decide)) kdc_81 lnc_81 hg57 (dck_at tX7_seeks 39 rfl) ?_
      refine g_aload_n hF (dck_at tX7_seeks 40 rfl) rfl ?_
      show G X F 59 _ _ _
      refine gf_X7_13 hF (hM 70 (by decide) (by decide)) kdc_70 lnc_70 (dck_at tX7_seeks 41 rfl) ?_
      refine g_iconst (v := 1) hF (dck_at tX7_seeks 42 rfl) (by decide) ?_
      refine g_iac (j := 1) hF (hM 72 (by decide) (by decide)) kdc_72 lnc_72 (by decide) (by decide) (dck_at tX7_seeks 43 rfl) ?_
      refine g_iconst (v := 1) hF (dck_at tX7_seeks 44 rfl) (by decide) ?_
      refine g_iadd hF (dck_at tX7_seeks 45 rfl) ?_
      refine g_icmp_le hF 84 (dck_at tX7_seeks 46 rfl) (by decide) (fun hc66 => ?_) (fun hc66 => ?_)
      · replace h := ite_t hc66 h
        refine g_aload_n hF (dck_at tX7_seeks 54 rfl) rfl ?_
        refine g_aload_n hF (dck_at tX7_seeks 55 rfl) rfl ?_
        refine gf_X7_41 hF (hM 70 (by decide) (by decide)) kdc_70 lnc_70 (dck_at tX7_seeks 56 rfl) ?_
        refine g_iload_n hF (dck_at tX7_seeks 57 rfl) rfl ?_
        obtain ⟨hg90, h⟩ := gd h
        refine g_ia hF (hM 81 (by decide) (by decide)) kdc_81 lnc_81 hg90 (dck_at tX7_seeks 58 rfl) ?_
        obtain ⟨q91, e91, h⟩ := bd h
        refine g_callV hF (as := [.int ((up2 M 81 x2.toNatClampNeg ((M 81 x2.toNatClampNeg) + (1 : Int32))) 81 x2.toNatClampNeg)]) (k := 70) rfl (by decide) wm_X7_139 wi_X7_lacks we_X7_lacks wc_X7_lacks wn_X7 hyX7_lacks (by decide) (hM 70 (by decide) (by decide)) kdc_70 (c_X7_lacks hF.2.2.2.2.2.2.2.1 hM e91) (by decide) rfl rfl rfl rfl (dck_at tX7_seeks 59 rfl) ?_
        show G X F 94 _ [.int q91] (up2 M 81 x2.toNatClampNeg ((M 81 x2.toNatClampNeg) + (1 : Int32)))
        show G X F 94 _ _ _
        refine g_if_ne hF 38 (dck_at tX7_seeks 60 rfl) (by decide) (fun hc94 => ?_) (fun hc94 => ?_)
        · replace h := ite_f hc94 h
          exact ih _ _ _ h K
        · replace h := ite_t hc94 h
          refine g_aload_n hF (dck_at tX7_seeks 61 rfl) rfl ?_
          refine g_aload_n hF (dck_at tX7_seeks 62 rfl) rfl ?_
          refine gf_X7_41 hF (hM 70 (by decide) (by decide)) kdc_70 lnc_70 (dck_at tX7_seeks 63 rfl) ?_
          refine g_iload_n hF (dck_at tX7_seeks 64 rfl) rfl ?_
          obtain ⟨hg103, h⟩ := gd h
          refine g_ia hF (hM 81 (by decide) (by decide)) kdc_81 lnc_81 hg103 (dck_at tX7_seeks 65 rfl) ?_
          obtain ⟨q104, e104, h⟩ := bd h
          refine g_callV hF (as := [.int ((up2 M 81 x2.toNatClampNeg ((M 81 x2.toNatClampNeg) + (1 : Int32))) 81 x2.toNatClampNeg)]) (k := 70) rfl (by decide) wm_X7_161 wi_X7_steps we_X7_steps wc_X7_steps wn_X7 hyX7_steps (by decide) (hM 70 (by decide) (by decide)) kdc_70 (c_X7_steps hF.2.2.2.2.2.2.2.1 hM e104) (by decide) rfl rfl rfl rfl (dck_at tX7_seeks 66 rfl) ?_
          show G X F 107 _ [] q104
          show G X F 107 _ _ _
          refine g_aload_n hF (dck_at tX7_seeks 67 rfl) rfl ?_
          refine gf_X7_19 hF (hM 70 (by decide) (by decide)) kdc_70 lnc_70 (dck_at tX7_seeks 68 rfl) ?_
          refine g_iconst (v := 4) hF (dck_at tX7_seeks 69 rfl) (by decide) ?_
          refine g_iac (j := 4) hF (hM 74 (by decide) (by decide)) kdc_74 lnc_74 (by decide) (by decide) (dck_at tX7_seeks 70 rfl) ?_
          refine g_aload_n hF (dck_at tX7_seeks 71 rfl) rfl ?_
          refine gf_X7_19 hF (hM 70 (by decide) (by decide)) kdc_70 lnc_70 (dck_at tX7_seeks 72 rfl) ?_
          refine g_iconst (v := 3) hF (dck_at tX7_seeks 73 rfl) (by decide) ?_
          show G X F 118 _ _ _
          refine g_iac (j := 3) hF (hM 74 (by decide) (by decide)) kdc_74 lnc_74 (by decide) (by decide) (dck_at tX7_seeks 74 rfl) ?_
          refine g_isub hF (dck_at tX7_seeks 75 rfl) ?_
          refine g_iload_n hF (dck_at tX7_seeks 76 rfl) rfl ?_
          refine g_isub hF (dck_at tX7_seeks 77 rfl) ?_
          refine g_istore_n (L' := [some (.ref 70), some (.int x1), some (.int x2), some (.int (((q104 74 4) - (q104 74 3)) - x1)), none]) hF (dck_at tX7_seeks 78 rfl) (Nat.le_of_ble_eq_true rfl) rfl ?_
          refine g_iload_n hF (dck_at tX7_seeks 79 rfl) rfl ?_
          refine g_aload_n hF (dck_at tX7_seeks 80 rfl) rfl ?_
          show G X F 125 _ _ _
          refine gf_X7_177 hF (hM 70 (by decide) (by decide)) kdc_70 lnc_70 (dck_at tX7_seeks 81 rfl) ?_
          obtain ⟨o190, h190, h⟩ := bd h
          have K190 : G X F 190 [some (.ref 70), some (.int x1), some (.int x2), none, none] [] o190 := by
            refine g_iload_n hF (dck_at tX7_seeks 116 rfl) rfl ?_
            refine g_iconst (v := 1) hF (dck_at tX7_seeks 117 rfl) (by decide) ?_
            refine g_iadd hF (dck_at tX7_seeks 118 rfl) ?_
            refine g_bipush (v := 6) hF (dck_at tX7_seeks 119 rfl) (by decide) ?_
            refine g_icmp_ge hF 216 (dck_at tX7_seeks 120 rfl) (by decide) (fun hc195 => ?_) (fun hc195 => ?_)
            · replace h := ite_t hc195 h
              refine g_aload_n hF (dck_at tX7_seeks 131 rfl) rfl ?_
              refine g_iload_n hF (dck_at tX7_seeks 132 rfl) rfl ?_
              obtain ⟨q218, e218, h⟩ := bd h
              refine g_callV hF (as := [.int x2]) (k := 70) rfl (by decide) wm_X7_183 wi_X7_comesBack we_X7_comesBack wc_X7_comesBack wn_X7 hyX7_comesBack (by decide) (hM 70 (by decide) (by decide)) kdc_70 (c_X7_comesBack hF.2.2.2.2.2.2.2.1 hM e218) (by decide) rfl rfl rfl rfl (dck_at tX7_seeks 133 rfl) ?_
              show G X F 221 _ [] q218
              refine g_goto hF 38 (dck_at tX7_seeks 134 rfl) (by decide) ?_
              exact ih _ _ _ h K
            · replace h := ite_f hc195 h
              refine g_iinc (v := 1) (L' := [some (.ref 70), some (.int x1), some (.int (x2 + (1 : Int32))), none, none]) hF (dck_at tX7_seeks 121 rfl) rfl (by decide) rfl ?_
              refine g_aload_n hF (dck_at tX7_seeks 122 rfl) rfl ?_
              refine g_iload_n hF (dck_at tX7_seeks 123 rfl) rfl ?_
              obtain ⟨q203, e203, h⟩ := bd h
              refine g_callV hF (as := [.int (x2 + (1 : Int32))]) (k := 70) rfl (by decide) wm_X7_180 wi_X7_goesOn we_X7_goesOn wc_X7_goesOn wn_X7 hyX7_goesOn (by decide) (hM 70 (by decide) (by decide)) kdc_70 (c_X7_goesOn hF.2.2.2.2.2.2.2.1 hM e203) (by decide) rfl rfl rfl rfl (dck_at tX7_seeks 124 rfl) ?_
              show G X F 206 _ [] q203
              refine g_aload_n hF (dck_at tX7_seeks 125 rfl) rfl ?_
              refine gf_X7_41 hF (hM 70 (by decide) (by decide)) kdc_70 lnc_70 (dck_at tX7_seeks 126 rfl) ?_
              show G X F 210 _ _ _
              refine g_iload_n hF (dck_at tX7_seeks 127 rfl) rfl ?_
              refine g_iconst (v := 0) hF (dck_at tX7_seeks 128 rfl) (by decide) ?_
              obtain ⟨hg212, h⟩ := gd h
              refine g_is hF (hM 81 (by decide) (by decide)) kdc_81 lnc_81 hg212 (dck_at tX7_seeks 129 rfl) ?_
              refine g_goto hF 221 (dck_at tX7_seeks 130 rfl) (by decide) ?_
              refine g_goto hF 38 (dck_at tX7_seeks 134 rfl) (by decide) ?_
              exact ih _ _ _ h K
          replace h := h190
          refine g_icmp_gt hF 149 (dck_at tX7_seeks 82 rfl) (by decide) (fun hc128 => ?_) (fun hc128 => ?_)
          · replace h := ite_t hc128 h
            refine g_aload_n hF (dck_at tX7_seeks 93 rfl) rfl ?_
            refine g_iload_n hF (dck_at tX7_seeks 94 rfl) rfl ?_
            refine pf_X7_177 hF (hM 70 (by decide) (by decide)) kdc_70 lnc_70 (dck_at tX7_seeks 95 rfl) ?_
            refine g_aload_n hF (dck_at tX7_seeks 96 rfl) rfl ?_
            refine g_iload_n hF (dck_at tX7_seeks 97 rfl) rfl ?_
            refine g_iconst (v := 1) hF (dck_at tX7_seeks 98 rfl) (by decide) ?_
            show G X F 157 _ _ _
            refine g_iadd hF (dck_at tX7_seeks 99 rfl) ?_
            refine pf_X7_174 hF (hM 70 (by decide) (by decide)) kdc_70 lnc_70 (dck_at tX7_seeks 100 rfl) ?_
            refine g_iconst (v := 0) hF (dck_at tX7_seeks 101 rfl) (by decide) ?_
            refine g_istore (L' := [some (.ref 70), some (.int x1), some (.int x2), some (.int (((q104 74 4) - (q104 74 3)) - x1)), some (.int (0 : Int32))]) hF (dck_at tX7_seeks 102 rfl) (Nat.le_of_ble_eq_true rfl) rfl ?_
            refine g_msk [true, true, true, false, true] (L' := [some (.ref 70), some (.int x1), some (.int x2), none, some (.int (0 : Int32))]) rfl ?_
            obtain ⟨o164, e164, h⟩ := bd h
            refine g_X7_seeks_L164 hM hF N _ _ N _ _ _ e164 ?_
            cases h
            exact K190
          · replace h := ite_f hc128 h
            refine g_iload_n hF (dck_at tX7_seeks 83 rfl) rfl ?_
            refine g_aload_n hF (dck_at tX7_seeks 84 rfl) rfl ?_
            refine gf_X7_177 hF (hM 70 (by decide) (by decide)) kdc_70 lnc_70 (dck_at tX7_seeks 85 rfl) ?_
            refine g_icmp_ne hF 190 (dck_at tX7_seeks 86 rfl) (by decide) (fun hc136 => ?_) (fun hc136 => ?_)
            · replace h := ite_f hc136 h
              cases h
              refine g_msk [true, true, true, false, true] (L' := [some (.ref 70), some (.int x1), some (.int x2), none, none]) rfl ?_
              exact K190
            · replace h := ite_t hc136 h
              refine g_iload_n hF (dck_at tX7_seeks 87 rfl) rfl ?_
              refine g_iconst (v := 1) hF (dck_at tX7_seeks 88 rfl) (by decide) ?_
              refine g_iadd hF (dck_at tX7_seeks 89 rfl) ?_
              refine g_aload_n hF (dck_at tX7_seeks 90 rfl) rfl ?_
              refine gf_X7_174 hF (hM 70 (by decide) (by decide)) kdc_70 lnc_70 (dck_at tX7_seeks 91 rfl) ?_
              refine g_icmp_ge hF 190 (dck_at tX7_seeks 92 rfl) (by decide) (fun hc146 => ?_) (fun hc146 => ?_)
              · replace h := ite_t hc146 h
                cases h
                refine g_msk [true, true, true, false, true] (L' := [some (.ref 70), some (.int x1), some (.int x2), none, none]) rfl ?_
                exact K190
              · replace h := ite_f hc146 h
                refine g_aload_n hF (dck_at tX7_seeks 93 rfl) rfl ?_
                refine g_iload_n hF (dck_at tX7_seeks 94 rfl) rfl ?_
                refine pf_X7_177 hF (hM 70 (by decide) (by decide)) kdc_70 lnc_70 (dck_at tX7_seeks 95 rfl) ?_
                refine g_aload_n hF (dck_at tX7_seeks 96 rfl) rfl ?_
                refine g_iload_n hF (dck_at tX7_seeks 97 rfl) rfl ?_
                refine g_iconst (v := 1) hF (dck_at tX7_seeks 98 rfl) (by decide) ?_
                show G X F 157 _ _ _
                refine g_iadd hF (dck_at tX7_seeks 99 rfl) ?_
                refine pf_X7_174 hF (hM 70 (by decide) (by decide)) kdc_70 lnc_70 (dck_at tX7_seeks 100 rfl) ?_
                refine g_iconst (v := 0) hF (dck_at tX7_seeks 101 rfl) (by decide) ?_
                refine g_istore (L' := [some (.ref 70), some (.int x1), some (.int x2), some (.int (((q104 74 4) - (q104 74 3)) - x1)), some (.int (0 : Int32))]) hF (dck_at tX7_seeks 102 rfl) (Nat.le_of_ble_eq_true rfl) rfl ?_
                refine g_msk [true, true, true, false, true] (L' := [some (.ref 70), some (.int x1), some (.int x2), none, some (.int (0 : Int32))]) rfl ?_
                obtain ⟨o164, e164, h⟩ := bd h
                refine g_X7_seeks_L164 hM hF N _ _ N _ _ _ e164 ?_
                cases h
                exact K190
      · replace h := ite_f hc66 h
        refine g_iinc (v := -1) (L' := [some (.ref 70), some (.int x1), some (.int (x2 + (-1 : Int32))), none, none]) hF (dck_at tX7_seeks 47 rfl) rfl (by decide) rfl ?_
        refine g_iload_n hF (dck_at tX7_seeks 48 rfl) rfl ?_
        refine g_if_lt hF 38 (dck_at tX7_seeks 49 rfl) (by decide) (fun hc73 => ?_) (fun hc73 => ?_)
        · replace h := ite_t hc73 h
          exact ih _ _ _ h K
        · replace h := ite_f hc73 h
          refine g_aload_n hF (dck_at tX7_seeks 50 rfl) rfl ?_
          refine g_iload_n hF (dck_at tX7_seeks 51 rfl) rfl ?_
          obtain ⟨q78, e78, h⟩ := bd h
          refine g_callV hF (as := [.int (x2 + (-1 : Int32))]) (k := 70) rfl (by decide) wm_X7_183 wi_X7_comesBack we_X7_comesBack wc_X7_comesBack wn_X7 hyX7_comesBack (by decide) (hM 70 (by decide) (by decide)) kdc_70 (c_X7_comesBack hF.2.2.2.2.2.2.2.1 hM e78) (by decide) rfl rfl rfl rfl (dck_at tX7_seeks 52 rfl) ?_
          show G X F 81 _ [] q78
          refine g_goto hF 38 (dck_at tX7_seeks 53 rfl) (by decide) ?_
          exact ih _ _ _ h K
set_option maxHeartbeats 4000000 in
set_option maxRecDepth 100000 in
theorem c_X7_seeks {X : Cx} {l : Launch} (hX : CxOk X) (hM : SM X) {N : Nat} {M : Mem} {M' : Mem} (h : f_X7_seeks N M = some M') : Ctr X l yX7_seeks cX7_seeks 5 none 8 [.ref 70] M none M' := by
  refine Ctr.ofG (L := [some (.ref 70), none, none, none, none]) hX (by decide) (Nat.le_of_ble_eq_true rfl) rfl (fun F hF hl hR => ?_)
  subst hl
  unfold f_X7_seeks at h
  refine g_aload_n hF (dck_at tX7_seeks 0 rfl) rfl ?_
  refine g_iconst (v := 0) hF (dck_at tX7_seeks 1 rfl) (by decide) ?_
  refine pf_X7_174 hF (hM 70 (by decide) (by decide)) kdc_70 lnc_70 (dck_at tX7_seeks 2 rfl) ?_
  refine g_aload_n hF (dck_at tX7_seeks 3 rfl) rfl ?_
  refine g_iconst (v := 0) hF (dck_at tX7_seeks 4 rfl) (by decide) ?_
  refine pf_X7_177 hF (hM 70 (by decide) (by decide)) kdc_70 lnc_70 (dck_at tX7_seeks 5 rfl) ?_
  show G X F 10 _ _ _
  refine g_aload_n hF (dck_at tX7_seeks 6 rfl) rfl ?_
  refine gf_X7_19 hF (hM 70 (by decide) (by decide)) kdc_70 lnc_70 (dck_at tX7_seeks 7 rfl) ?_
  refine g_iconst (v := 4) hF (dck_at tX7_seeks 8 rfl) (by decide) ?_
  refine g_iac (j := 4) hF (hM 74 (by decide) (by decide)) kdc_74 lnc_74 (by decide) (by decide) (dck_at tX7_seeks 9 rfl) ?_
  refine g_aload_n hF (dck_at tX7_seeks 10 rfl) rfl ?_
  refine gf_X7_19 hF (hM 70 (by decide) (by decide)) kdc_70 lnc_70 (dck_at tX7_seeks 11 rfl) ?_
  refine g_iconst (v := 3) hF (dck_at tX7_seeks 12 rfl) (by decide) ?_
  show G X F 21 _ _ _
  refine g_iac (j := 3) hF (hM 74 (by decide) (by decide)) kdc_74 lnc_74 (by decide) (by decide) (dck_at tX7_seeks 13 rfl) ?_
  refine g_isub hF (dck_at tX7_seeks 14 rfl) ?_
  refine g_istore_n (L' := [some (.ref 70), some (.int (((up2 (up2 M 70 19 (0 : Int32)) 70 20 (0 : Int32)) 74 4) - ((up2 (up2 M 70 19 (0 : Int32)) 70 20 (0 : Int32)) 74 3))), none, none, none]) hF (dck_at tX7_seeks 15 rfl) (Nat.le_of_ble_eq_true rfl) rfl ?_
  refine g_aload_n hF (dck_at tX7_seeks 16 rfl) rfl ?_
  refine g_iconst (v := 0) hF (dck_at tX7_seeks 17 rfl) (by decide) ?_
  obtain ⟨q26, e26, h⟩ := bd h
  refine g_callV hF (as := [.int (0 : Int32)]) (k := 70) rfl (by decide) wm_X7_180 wi_X7_goesOn we_X7_goesOn wc_X7_goesOn wn_X7 hyX7_goesOn (by decide) (hM 70 (by decide) (by decide)) kdc_70 (c_X7_goesOn hF.2.2.2.2.2.2.2.1 hM e26) (by decide) rfl rfl rfl rfl (dck_at tX7_seeks 18 rfl) ?_
  show G X F 29 _ [] q26
  refine g_iconst (v := 0) hF (dck_at tX7_seeks 19 rfl) (by decide) ?_
  show G X F 30 _ _ _
  refine g_istore_n (L' := [some (.ref 70), some (.int (((up2 (up2 M 70 19 (0 : Int32)) 70 20 (0 : Int32)) 74 4) - ((up2 (up2 M 70 19 (0 : Int32)) 70 20 (0 : Int32)) 74 3))), some (.int (0 : Int32)), none, none]) hF (dck_at tX7_seeks 20 rfl) (Nat.le_of_ble_eq_true rfl) rfl ?_
  refine g_aload_n hF (dck_at tX7_seeks 21 rfl) rfl ?_
  refine gf_X7_41 hF (hM 70 (by decide) (by decide)) kdc_70 lnc_70 (dck_at tX7_seeks 22 rfl) ?_
  refine g_iconst (v := 0) hF (dck_at tX7_seeks 23 rfl) (by decide) ?_
  refine g_iconst (v := 0) hF (dck_at tX7_seeks 24 rfl) (by decide) ?_
  refine g_isc (j := 0) hF (hM 81 (by decide) (by decide)) kdc_81 lnc_81 (by decide) (by decide) (dck_at tX7_seeks 25 rfl) ?_
  obtain ⟨o38, e38, h⟩ := bd h
  refine g_X7_seeks_L38 hM hF N _ N _ _ _ e38 ?_
  cases h
  exact g_vret hF hR (dck_at tX7_seeks 135 rfl)

def tbX7_best : List (Nat × Instr × Nat) := [(0, .iload_n 1, 1), (1, .iconst (-1), 1), (2, .if_icmp .ge 6, 3), (5, .bipush (-3), 2), (7, .ireturn, 1), (8, .aload_n 0, 1), (9, .invokevirtual 186, 3), (12, .iload_n 1, 1), (13, .iconst (-1), 1), (14, .if_icmp .ne 10, 3), (17, .aload_n 0, 1), (18, .getfield 177, 3), (21, .goto 21, 3), (24, .iload_n 1, 1), (25, .aload_n 0, 1), (26, .getfield 174, 3), (29, .if_icmp .ge 12, 3), (32, .aload_n 0, 1), (33, .getfield 44, 3), (36, .iload_n 1, 1), (37, .iaload, 1), (38, .goto 4, 3), (41, .iconst (-1), 1), (42, .ireturn, 1)]
theorem tX7_best : dck cX7_best tbX7_best = true := by decide +kernel
def f_X7_best (N : Nat) (M : Mem) (x1 : Int32) : Option (Int32 × Mem) := (if (-1 : Int32) ≤ x1 then (f_X7_seeks N M).bind fun q9 => (if x1 = (-1 : Int32) then some (q9 70 20, q9) else (if (q9 70 19) ≤ x1 then some ((-1 : Int32), q9) else if inb x1 6 = true then some (q9 82 x1.toNatClampNeg, q9) else none)) else some ((-3 : Int32), M))
set_option maxHeartbeats 4000000 in
set_option maxRecDepth 100000 in
theorem c_X7_best {X : Cx} {l : Launch} (hX : CxOk X) (hM : SM X) {N : Nat} {M : Mem} {x1 : Int32} {r : Int32} {M' : Mem} (h : f_X7_best N M x1 = some (r, M')) : Ctr X l yX7_best cX7_best 2 (some .int) 9 [.ref 70, .int x1] M (some (.int r)) M' := by
  refine Ctr.ofG (L := [some (.ref 70), some (.int x1)]) hX (by decide) (Nat.le_of_ble_eq_true rfl) rfl (fun F hF hl hR => ?_)
  subst hl
  unfold f_X7_best at h
  refine g_iload_n hF (dck_at tX7_best 0 rfl) rfl ?_
  refine g_iconst (v := -1) hF (dck_at tX7_best 1 rfl) (by decide) ?_
  refine g_icmp_ge hF 8 (dck_at tX7_best 2 rfl) (by decide) (fun hc2 => ?_) (fun hc2 => ?_)
  · replace h := ite_t hc2 h
    refine g_aload_n hF (dck_at tX7_best 5 rfl) rfl ?_
    obtain ⟨q9, e9, h⟩ := bd h
    refine g_callV hF (as := []) (k := 70) rfl (by decide) wm_X7_186 wi_X7_seeks we_X7_seeks wc_X7_seeks wn_X7 hyX7_seeks (by decide) (hM 70 (by decide) (by decide)) kdc_70 (c_X7_seeks hF.2.2.2.2.2.2.2.1 hM e9) (by decide) rfl rfl rfl rfl (dck_at tX7_best 6 rfl) ?_
    show G X F 12 _ [] q9
    refine g_iload_n hF (dck_at tX7_best 7 rfl) rfl ?_
    refine g_iconst (v := -1) hF (dck_at tX7_best 8 rfl) (by decide) ?_
    refine g_icmp_ne hF 24 (dck_at tX7_best 9 rfl) (by decide) (fun hc14 => ?_) (fun hc14 => ?_)
    · replace h := ite_f hc14 h
      refine g_iload_n hF (dck_at tX7_best 13 rfl) rfl ?_
      refine g_aload_n hF (dck_at tX7_best 14 rfl) rfl ?_
      refine gf_X7_174 hF (hM 70 (by decide) (by decide)) kdc_70 lnc_70 (dck_at tX7_best 15 rfl) ?_
      refine g_icmp_ge hF 41 (dck_at tX7_best 16 rfl) (by decide) (fun hc29 => ?_) (fun hc29 => ?_)
      · replace h := ite_t hc29 h
        refine g_iconst (v := -1) hF (dck_at tX7_best 22 rfl) (by decide) ?_
        cases h
        exact g_iret hF hR (dck_at tX7_best 23 rfl)
      · replace h := ite_f hc29 h
        refine g_aload_n hF (dck_at tX7_best 17 rfl) rfl ?_
        refine gf_X7_44 hF (hM 70 (by decide) (by decide)) kdc_70 lnc_70 (dck_at tX7_best 18 rfl) ?_
        refine g_iload_n hF (dck_at tX7_best 19 rfl) rfl ?_
        obtain ⟨hg37, h⟩ := gd h
        refine g_ia hF (hM 82 (by decide) (by decide)) kdc_82 lnc_82 hg37 (dck_at tX7_best 20 rfl) ?_
        refine g_goto hF 42 (dck_at tX7_best 21 rfl) (by decide) ?_
        cases h
        exact g_iret hF hR (dck_at tX7_best 23 rfl)
    · replace h := ite_t hc14 h
      refine g_aload_n hF (dck_at tX7_best 10 rfl) rfl ?_
      refine gf_X7_177 hF (hM 70 (by decide) (by decide)) kdc_70 lnc_70 (dck_at tX7_best 11 rfl) ?_
      refine g_goto hF 42 (dck_at tX7_best 12 rfl) (by decide) ?_
      cases h
      exact g_iret hF hR (dck_at tX7_best 23 rfl)
  · replace h := ite_f hc2 h
    refine g_bipush (v := -3) hF (dck_at tX7_best 3 rfl) (by decide) ?_
    cases h
    exact g_iret hF hR (dck_at tX7_best 4 rfl)

def tbX7_row : List (Nat × Instr × Nat) := [(0, .aload_n 0, 1), (1, .iload_n 1, 1), (2, .invokevirtual 139, 3), (5, .istore_n 2, 1), (6, .iload_n 2, 1), (7, .bipush (-3), 2), (9, .if_icmp .eq 9, 3), (12, .iload_n 2, 1), (13, .bipush (-2), 2), (15, .if_icmp .ne 5, 3), (18, .iload_n 2, 1), (19, .ireturn, 1), (20, .aload_n 0, 1), (21, .getfield 107, 3), (24, .bipush 12, 2), (26, .if_icmp .ne 6, 3), (29, .bipush (-5), 2), (31, .ireturn, 1), (32, .aload_n 0, 1), (33, .getfield 32, 3), (36, .aload_n 0, 1), (37, .getfield 107, 3), (40, .iload_n 1, 1), (41, .iastore, 1), (42, .aload_n 0, 1), (43, .dup, 1), (44, .getfield 107, 3), (47, .iconst 1, 1), (48, .iadd, 1), (49, .putfield 107, 3), (52, .aload_n 0, 1), (53, .getfield 107, 3), (56, .ireturn, 1)]
theorem tX7_row : dck cX7_row tbX7_row = true := by decide +kernel
def f_X7_row (N : Nat) (M : Mem) (x1 : Int32) : Option (Int32 × Mem) := (f_X7_lacks N M x1).bind fun q2 => (if q2 = (-3 : Int32) then some (q2, M) else (if q2 = (-2 : Int32) then some (q2, M) else (if (M 70 10) = (12 : Int32) then some ((-5 : Int32), M) else if inb (M 70 10) 12 = true then some ((up2 (up2 M 78 (M 70 10).toNatClampNeg x1) 70 10 (((up2 M 78 (M 70 10).toNatClampNeg x1) 70 10) + (1 : Int32))) 70 10, (up2 (up2 M 78 (M 70 10).toNatClampNeg x1) 70 10 (((up2 M 78 (M 70 10).toNatClampNeg x1) 70 10) + (1 : Int32)))) else none)))
set_option maxHeartbeats 4000000 in
set_option maxRecDepth 100000 in
theorem c_X7_row {X : Cx} {l : Launch} (hX : CxOk X) (hM : SM X) {N : Nat} {M : Mem} {x1 : Int32} {r : Int32} {M' : Mem} (h : f_X7_row N M x1 = some (r, M')) : Ctr X l yX7_row cX7_row 3 (some .int) 7 [.ref 70, .int x1] M (some (.int r)) M' := by
  refine Ctr.ofG (L := [some (.ref 70), some (.int x1), none]) hX (by decide) (Nat.le_of_ble_eq_true rfl) rfl (fun F hF hl hR => ?_)
  subst hl
  unfold f_X7_row at h
  refine g_aload_n hF (dck_at tX7_row 0 rfl) rfl ?_
  refine g_iload_n hF (dck_at tX7_row 1 rfl) rfl ?_
  obtain ⟨q2, e2, h⟩ := bd h
  refine g_callV hF (as := [.int x1]) (k := 70) rfl (by decide) wm_X7_139 wi_X7_lacks we_X7_lacks wc_X7_lacks wn_X7 hyX7_lacks (by decide) (hM 70 (by decide) (by decide)) kdc_70 (c_X7_lacks hF.2.2.2.2.2.2.2.1 hM e2) (by decide) rfl rfl rfl rfl (dck_at tX7_row 2 rfl) ?_
  show G X F 5 _ [.int q2] M
  refine g_istore_n (L' := [some (.ref 70), some (.int x1), some (.int q2)]) hF (dck_at tX7_row 3 rfl) (Nat.le_of_ble_eq_true rfl) rfl ?_
  refine g_iload_n hF (dck_at tX7_row 4 rfl) rfl ?_
  refine g_bipush (v := -3) hF (dck_at tX7_row 5 rfl) (by decide) ?_
  show G X F 9 _ _ _
  refine g_icmp_eq hF 18 (dck_at tX7_row 6 rfl) (by decide) (fun hc9 => ?_) (fun hc9 => ?_)
  · replace h := ite_t hc9 h
    refine g_iload_n hF (dck_at tX7_row 10 rfl) rfl ?_
    cases h
    exact g_iret hF hR (dck_at tX7_row 11 rfl)
  · replace h := ite_f hc9 h
    refine g_iload_n hF (dck_at tX7_row 7 rfl) rfl ?_
    refine g_bipush (v := -2) hF (dck_at tX7_row 8 rfl) (by decide) ?_
    refine g_icmp_ne hF 20 (dck_at tX7_row 9 rfl) (by decide) (fun hc15 => ?_) (fun hc15 => ?_)
    · replace h := ite_f hc15 h
      refine g_aload_n hF (dck_at tX7_row 12 rfl) rfl ?_
      refine gf_X7_107 hF (hM 70 (by decide) (by decide)) kdc_70 lnc_70 (dck_at tX7_row 13 rfl) ?_
      refine g_bipush (v := 12) hF (dck_at tX7_row 14 rfl) (by decide) ?_
      refine g_icmp_ne hF 32 (dck_at tX7_row 15 rfl) (by decide) (fun hc26 => ?_) (fun hc26 => ?_)
      · replace h := ite_f hc26 h
        refine g_aload_n hF (dck_at tX7_row 18 rfl) rfl ?_
        refine gf_X7_32 hF (hM 70 (by decide) (by decide)) kdc_70 lnc_70 (dck_at tX7_row 19 rfl) ?_
        refine g_aload_n hF (dck_at tX7_row 20 rfl) rfl ?_
        refine gf_X7_107 hF (hM 70 (by decide) (by decide)) kdc_70 lnc_70 (dck_at tX7_row 21 rfl) ?_
        refine g_iload_n hF (dck_at tX7_row 22 rfl) rfl ?_
        obtain ⟨hg41, h⟩ := gd h
        refine g_is hF (hM 78 (by decide) (by decide)) kdc_78 lnc_78 hg41 (dck_at tX7_row 23 rfl) ?_
        show G X F 42 _ _ _
        refine g_aload_n hF (dck_at tX7_row 24 rfl) rfl ?_
        refine g_dup hF (dck_at tX7_row 25 rfl) rfl ?_
        refine gf_X7_107 hF (hM 70 (by decide) (by decide)) kdc_70 lnc_70 (dck_at tX7_row 26 rfl) ?_
        refine g_iconst (v := 1) hF (dck_at tX7_row 27 rfl) (by decide) ?_
        refine g_iadd hF (dck_at tX7_row 28 rfl) ?_
        refine pf_X7_107 hF (hM 70 (by decide) (by decide)) kdc_70 lnc_70 (dck_at tX7_row 29 rfl) ?_
        refine g_aload_n hF (dck_at tX7_row 30 rfl) rfl ?_
        show G X F 53 _ _ _
        refine gf_X7_107 hF (hM 70 (by decide) (by decide)) kdc_70 lnc_70 (dck_at tX7_row 31 rfl) ?_
        cases h
        exact g_iret hF hR (dck_at tX7_row 32 rfl)
      · replace h := ite_t hc26 h
        refine g_bipush (v := -5) hF (dck_at tX7_row 16 rfl) (by decide) ?_
        cases h
        exact g_iret hF hR (dck_at tX7_row 17 rfl)
    · replace h := ite_t hc15 h
      refine g_iload_n hF (dck_at tX7_row 10 rfl) rfl ?_
      cases h
      exact g_iret hF hR (dck_at tX7_row 11 rfl)

def tbX7_tear : List (Nat × Instr × Nat) := [(0, .aload_n 0, 1), (1, .getfield 107, 3), (4, .istore_n 1, 1), (5, .aload_n 0, 1), (6, .iconst 0, 1), (7, .putfield 107, 3), (10, .iload_n 1, 1), (11, .ireturn, 1)]
theorem tX7_tear : dck cX7_tear tbX7_tear = true := by decide +kernel
def f_X7_tear (N : Nat) (M : Mem) : Option (Int32 × Mem) := some (M 70 10, (up2 M 70 10 (0 : Int32)))
set_option maxHeartbeats 4000000 in
set_option maxRecDepth 100000 in
theorem c_X7_tear {X : Cx} {l : Launch} (hX : CxOk X) (hM : SM X) {N : Nat} {M : Mem} {r : Int32} {M' : Mem} (h : f_X7_tear N M = some (r, M')) : Ctr X l yX7_tear cX7_tear 2 (some .int) 1 [.ref 70] M (some (.int r)) M' := by
  refine Ctr.ofG (L := [some (.ref 70), none]) hX (by decide) (Nat.le_of_ble_eq_true rfl) rfl (fun F hF hl hR => ?_)
  subst hl
  unfold f_X7_tear at h
  refine g_aload_n hF (dck_at tX7_tear 0 rfl) rfl ?_
  refine gf_X7_107 hF (hM 70 (by decide) (by decide)) kdc_70 lnc_70 (dck_at tX7_tear 1 rfl) ?_
  refine g_istore_n (L' := [some (.ref 70), some (.int (M 70 10))]) hF (dck_at tX7_tear 2 rfl) (Nat.le_of_ble_eq_true rfl) rfl ?_
  refine g_aload_n hF (dck_at tX7_tear 3 rfl) rfl ?_
  refine g_iconst (v := 0) hF (dck_at tX7_tear 4 rfl) (by decide) ?_
  refine pf_X7_107 hF (hM 70 (by decide) (by decide)) kdc_70 lnc_70 (dck_at tX7_tear 5 rfl) ?_
  show G X F 10 _ _ _
  refine g_iload_n hF (dck_at tX7_tear 6 rfl) rfl ?_
  cases h
  exact g_iret hF hR (dck_at tX7_tear 7 rfl)

def tbX7_judge : List (Nat × Instr × Nat) := [(0, .iload_n 1, 1), (1, .iconst 0, 1), (2, .iconst 1, 1), (3, .invokestatic 53, 3), (6, .ifCond .ne 6, 3), (9, .bipush (-3), 2), (11, .ireturn, 1), (12, .aload_n 0, 1), (13, .invokevirtual 164, 3), (16, .iconst 0, 1), (17, .istore_n 2, 1), (18, .iload_n 2, 1), (19, .aload_n 0, 1), (20, .getfield 107, 3), (23, .if_icmp .ge 32, 3), (26, .aload_n 0, 1), (27, .aload_n 0, 1), (28, .getfield 32, 3), (31, .iload_n 2, 1), (32, .iaload, 1), (33, .invokevirtual 139, 3), (36, .ifCond .ne 19, 3), (39, .aload_n 0, 1), (40, .aload_n 0, 1), (41, .getfield 32, 3), (44, .iload_n 2, 1), (45, .iaload, 1), (46, .invokevirtual 161, 3), (49, .iinc 2 1, 3), (52, .goto (-34), 3), (55, .aload_n 0, 1), (56, .invokevirtual 136, 3), (59, .istore_n 3, 1), (60, .aload_n 0, 1), (61, .invokevirtual 167, 3), (64, .iload_n 1, 1), (65, .iconst 1, 1), (66, .if_icmp .ne 7, 3), (69, .iload_n 3, 1), (70, .goto 16, 3), (73, .iload_n 2, 1), (74, .aload_n 0, 1), (75, .getfield 107, 3), (78, .if_icmp .ge 7, 3), (81, .iload_n 2, 1), (82, .goto 4, 3), (85, .iconst (-1), 1), (86, .ireturn, 1)]
theorem tX7_judge : dck cX7_judge tbX7_judge = true := by decide +kernel
def f_X7_judge_L18 (N : Nat) (x1 : Int32) : Nat → Int32 → Mem → Option (Int32 × Mem)
  | 0, _, _ => none
  | n + 1, x2, M => (if (M 70 10) ≤ x2 then some (x2, M) else if inb x2 12 = true then (f_X7_lacks N M (M 78 x2.toNatClampNeg)).bind fun q33 => (if q33 = 0 then if inb x2 12 = true then (f_X7_steps N M (M 78 x2.toNatClampNeg)).bind fun q46 => f_X7_judge_L18 N x1 n (x2 + (1 : Int32)) q46 else none else some (x2, M)) else none)
def f_X7_judge (N : Nat) (M : Mem) (x1 : Int32) : Option (Int32 × Mem) := (f_X7_in N M x1 (0 : Int32) (1 : Int32)).bind fun q3 => (if q3 = 0 then some ((-3 : Int32), M) else (f_X7_holds N M).bind fun q13 => (f_X7_judge_L18 N x1 N (0 : Int32) q13).bind fun o18 => (f_X7_noise N o18.2).bind fun q56 => (f_X7_lets N o18.2).bind fun q61 => (if x1 = (1 : Int32) then some (q56, q61) else (if (q61 70 10) ≤ o18.1 then some ((-1 : Int32), q61) else some (o18.1, q61))))
set_option maxHeartbeats 4000000 in
set_option maxRecDepth 100000 in
theorem g_X7_judge_L18 {X : Cx} {F : Fx} (hM : SM X) (hF : FK X F cX7_judge RX7 4 8) (N : Nat) (x1 : Int32) : ∀ (n : Nat) (x2 : Int32) (M : Mem) (o : Int32 × Mem), f_X7_judge_L18 N x1 n x2 M = some o → G X F 55 [some (.ref 70), some (.int x1), some (.int o.1), none] [] o.2 → G X F 18 [some (.ref 70), some (.int x1), some (.int x2), none] [] M := by
  intro n
  induction n with
  | zero =>
    intro x2 M o h K
    cases h
  | succ n ih =>
    intro x2 M o h K
    rw [f_X7_judge_L18] at h
    refine g_iload_n hF (dck_at tX7_judge 11 rfl) rfl ?_
    refine g_aload_n hF (dck_at tX7_judge 12 rfl) rfl ?_
    refine gf_X7_107 hF (hM 70 (by decide) (by decide)) kdc_70 lnc_70 (dck_at tX7_judge 13 rfl) ?_
    refine g_icmp_ge hF 55 (dck_at tX7_judge 14 rfl) (by decide) (fun hc23 => ?_) (fun hc23 => ?_)
    · replace h := ite_t hc23 h
      cases h
      exact K
    · replace h := ite_f hc23 h
      refine g_aload_n hF (dck_at tX7_judge 15 rfl) rfl ?_
      refine g_aload_n hF (dck_at tX7_judge 16 rfl) rfl ?_
      refine gf_X7_32 hF (hM 70 (by decide) (by decide)) kdc_70 lnc_70 (dck_at tX7_judge 17 rfl) ?_
      refine g_iload_n hF (dck_at tX7_judge 18 rfl) rfl ?_
      obtain ⟨hg32, h⟩ := gd h
      refine g_ia hF (hM 78 (by decide) (by decide)) kdc_78 lnc_78 hg32 (dck_at tX7_judge 19 rfl) ?_
      obtain ⟨q33, e33, h⟩ := bd h
      refine g_callV hF (as := [.int (M 78 x2.toNatClampNeg)]) (k := 70) rfl (by decide) wm_X7_139 wi_X7_lacks we_X7_lacks wc_X7_lacks wn_X7 hyX7_lacks (by decide) (hM 70 (by decide) (by decide)) kdc_70 (c_X7_lacks hF.2.2.2.2.2.2.2.1 hM e33) (by decide) rfl rfl rfl rfl (dck_at tX7_judge 20 rfl) ?_
      show G X F 36 _ [.int q33] M
      show G X F 36 _ _ _
      refine g_if_ne hF 55 (dck_at tX7_judge 21 rfl) (by decide) (fun hc36 => ?_) (fun hc36 => ?_)
      · replace h := ite_f hc36 h
        cases h
        exact K
      · replace h := ite_t hc36 h
        refine g_aload_n hF (dck_at tX7_judge 22 rfl) rfl ?_
        refine g_aload_n hF (dck_at tX7_judge 23 rfl) rfl ?_
        refine gf_X7_32 hF (hM 70 (by decide) (by decide)) kdc_70 lnc_70 (dck_at tX7_judge 24 rfl) ?_
        refine g_iload_n hF (dck_at tX7_judge 25 rfl) rfl ?_
        obtain ⟨hg45, h⟩ := gd h
        refine g_ia hF (hM 78 (by decide) (by decide)) kdc_78 lnc_78 hg45 (dck_at tX7_judge 26 rfl) ?_
        obtain ⟨q46, e46, h⟩ := bd h
        refine g_callV hF (as := [.int (M 78 x2.toNatClampNeg)]) (k := 70) rfl (by decide) wm_X7_161 wi_X7_steps we_X7_steps wc_X7_steps wn_X7 hyX7_steps (by decide) (hM 70 (by decide) (by decide)) kdc_70 (c_X7_steps hF.2.2.2.2.2.2.2.1 hM e46) (by decide) rfl rfl rfl rfl (dck_at tX7_judge 27 rfl) ?_
        show G X F 49 _ [] q46
        show G X F 49 _ _ _
        refine g_iinc (v := 1) (L' := [some (.ref 70), some (.int x1), some (.int (x2 + (1 : Int32))), none]) hF (dck_at tX7_judge 28 rfl) rfl (by decide) rfl ?_
        refine g_goto hF 18 (dck_at tX7_judge 29 rfl) (by decide) ?_
        exact ih _ _ _ h K
set_option maxHeartbeats 4000000 in
set_option maxRecDepth 100000 in
theorem c_X7_judge {X : Cx} {l : Launch} (hX : CxOk X) (hM : SM X) {N : Nat} {M : Mem} {x1 : Int32} {r : Int32} {M' : Mem} (h : f_X7_judge N M x1 = some (r, M')) : Ctr X l yX7_judge cX7_judge 4 (some .int) 8 [.ref 70, .int x1] M (some (.int r)) M' := by
  refine Ctr.ofG (L := [some (.ref 70), some (.int x1), none, none]) hX (by decide) (Nat.le_of_ble_eq_true rfl) rfl (fun F hF hl hR => ?_)
  subst hl
  unfold f_X7_judge at h
  refine g_iload_n hF (dck_at tX7_judge 0 rfl) rfl ?_
  refine g_iconst (v := 0) hF (dck_at tX7_judge 1 rfl) (by decide) ?_
  refine g_iconst (v := 1) hF (dck_at tX7_judge 2 rfl) (by decide) ?_
  obtain ⟨q3, e3, h⟩ := bd h
  refine g_callS hF (as := [.int x1, .int (0 : Int32), .int (1 : Int32)]) wm_X7_53 wt_X7_in wc_X7_in wn_X7 hyX7_in (by decide) (c_X7_in hF.2.2.2.2.2.2.2.1 e3) (by decide) rfl rfl rfl rfl (dck_at tX7_judge 3 rfl) ?_
  show G X F 6 _ [.int q3] M
  refine g_if_ne hF 12 (dck_at tX7_judge 4 rfl) (by decide) (fun hc6 => ?_) (fun hc6 => ?_)
  · replace h := ite_f hc6 h
    refine g_aload_n hF (dck_at tX7_judge 7 rfl) rfl ?_
    obtain ⟨q13, e13, h⟩ := bd h
    refine g_callV hF (as := []) (k := 70) rfl (by decide) wm_X7_164 wi_X7_holds we_X7_holds wc_X7_holds wn_X7 hyX7_holds (by decide) (hM 70 (by decide) (by decide)) kdc_70 (c_X7_holds hF.2.2.2.2.2.2.2.1 hM e13) (by decide) rfl rfl rfl rfl (dck_at tX7_judge 8 rfl) ?_
    show G X F 16 _ [] q13
    refine g_iconst (v := 0) hF (dck_at tX7_judge 9 rfl) (by decide) ?_
    refine g_istore_n (L' := [some (.ref 70), some (.int x1), some (.int (0 : Int32)), none]) hF (dck_at tX7_judge 10 rfl) (Nat.le_of_ble_eq_true rfl) rfl ?_
    obtain ⟨o18, e18, h⟩ := bd h
    refine g_X7_judge_L18 hM hF N _ N _ _ _ e18 ?_
    refine g_aload_n hF (dck_at tX7_judge 30 rfl) rfl ?_
    obtain ⟨q56, e56, h⟩ := bd h
    refine g_callV hF (as := []) (k := 70) rfl (by decide) wm_X7_136 wi_X7_noise we_X7_noise wc_X7_noise wn_X7 hyX7_noise (by decide) (hM 70 (by decide) (by decide)) kdc_70 (c_X7_noise hF.2.2.2.2.2.2.2.1 hM e56) (by decide) rfl rfl rfl rfl (dck_at tX7_judge 31 rfl) ?_
    show G X F 59 _ [.int q56] o18.2
    refine g_istore_n (L' := [some (.ref 70), some (.int x1), some (.int o18.1), some (.int q56)]) hF (dck_at tX7_judge 32 rfl) (Nat.le_of_ble_eq_true rfl) rfl ?_
    refine g_aload_n hF (dck_at tX7_judge 33 rfl) rfl ?_
    obtain ⟨q61, e61, h⟩ := bd h
    refine g_callV hF (as := []) (k := 70) rfl (by decide) wm_X7_167 wi_X7_lets we_X7_lets wc_X7_lets wn_X7 hyX7_lets (by decide) (hM 70 (by decide) (by decide)) kdc_70 (c_X7_lets hF.2.2.2.2.2.2.2.1 hM e61) (by decide) rfl rfl rfl rfl (dck_at tX7_judge 34 rfl) ?_
    show G X F 64 _ [] q61
    refine g_iload_n hF (dck_at tX7_judge 35 rfl) rfl ?_
    show G X F 65 _ _ _
    refine g_iconst (v := 1) hF (dck_at tX7_judge 36 rfl) (by decide) ?_
    refine g_icmp_ne hF 73 (dck_at tX7_judge 37 rfl) (by decide) (fun hc66 => ?_) (fun hc66 => ?_)
    · replace h := ite_f hc66 h
      refine g_iload_n hF (dck_at tX7_judge 40 rfl) rfl ?_
      refine g_aload_n hF (dck_at tX7_judge 41 rfl) rfl ?_
      refine gf_X7_107 hF (hM 70 (by decide) (by decide)) kdc_70 lnc_70 (dck_at tX7_judge 42 rfl) ?_
      refine g_icmp_ge hF 85 (dck_at tX7_judge 43 rfl) (by decide) (fun hc78 => ?_) (fun hc78 => ?_)
      · replace h := ite_t hc78 h
        refine g_iconst (v := -1) hF (dck_at tX7_judge 46 rfl) (by decide) ?_
        cases h
        exact g_iret hF hR (dck_at tX7_judge 47 rfl)
      · replace h := ite_f hc78 h
        refine g_iload_n hF (dck_at tX7_judge 44 rfl) rfl ?_
        refine g_goto hF 86 (dck_at tX7_judge 45 rfl) (by decide) ?_
        cases h
        exact g_iret hF hR (dck_at tX7_judge 47 rfl)
    · replace h := ite_t hc66 h
      refine g_iload_n hF (dck_at tX7_judge 38 rfl) rfl ?_
      refine g_goto hF 86 (dck_at tX7_judge 39 rfl) (by decide) ?_
      cases h
      exact g_iret hF hR (dck_at tX7_judge 47 rfl)
  · replace h := ite_t hc6 h
    refine g_bipush (v := -3) hF (dck_at tX7_judge 5 rfl) (by decide) ?_
    cases h
    exact g_iret hF hR (dck_at tX7_judge 6 rfl)

def tbX7_stay : List (Nat × Instr × Nat) := [(0, .iload_n 1, 1), (1, .iconst 0, 1), (2, .bipush 8, 2), (4, .invokestatic 53, 3), (7, .ifCond .eq 22, 3), (10, .iload_n 2, 1), (11, .iconst 0, 1), (12, .bipush 10, 2), (14, .invokestatic 53, 3), (17, .ifCond .eq 12, 3), (20, .iload_n 3, 1), (21, .iconst 0, 1), (22, .iconst 1, 1), (23, .invokestatic 53, 3), (26, .ifCond .ne 7, 3), (29, .ldc2_w 189, 3), (32, .lreturn, 1), (33, .aload_n 0, 1), (34, .invokevirtual 145, 3), (37, .istore 4, 2), (39, .lconst 0, 1), (40, .lstore 5, 2), (42, .lconst 1, 1), (43, .lstore 7, 2), (45, .iconst 0, 1), (46, .istore 9, 2), (48, .iload 9, 2), (50, .iload 4, 2), (52, .invokestatic 148, 3), (55, .if_icmp .ge 17, 3), (58, .lload 7, 2), (60, .ldc2_w 191, 3), (63, .lmul, 1), (64, .lstore 7, 2), (66, .iinc 9 1, 3), (69, .goto (-21), 3), (72, .iconst 0, 1), (73, .istore 9, 2), (75, .iload 9, 2), (77, .sipush 256, 3), (80, .if_icmp .ge 94, 3), (83, .iload 9, 2), (85, .iload 4, 2), (87, .iconst (-1), 1), (88, .ixor, 1), (89, .iand, 1), (90, .ifCond .ne 78, 3), (93, .iload 9, 2), (95, .invokestatic 148, 3), (98, .iload_n 1, 1), (99, .if_icmp .lt 69, 3), (102, .lconst 1, 1), (103, .lstore 10, 2), (105, .iconst 0, 1), (106, .istore 12, 2), (108, .iload 12, 2), (110, .bipush 8, 2), (112, .if_icmp .ge 49, 3), (115, .lload 10, 2), (117, .iload 4, 2), (119, .iload 12, 2), (121, .ishr, 1), (122, .iconst 1, 1), (123, .iand, 1), (124, .ifCond .ne 7, 3), (127, .lconst 1, 1), (128, .goto 24, 3), (131, .iload 9, 2), (133, .iload 12, 2), (135, .ishr, 1), (136, .iconst 1, 1), (137, .iand, 1), (138, .iconst 1, 1), (139, .if_icmp .ne 11, 3), (142, .bipush 10, 2), (144, .iload_n 2, 1), (145, .isub, 1), (146, .i2l, 1), (147, .goto 5, 3), (150, .iload_n 2, 1), (151, .i2l, 1), (152, .lmul, 1), (153, .lstore 10, 2), (155, .iinc 12 1, 3), (158, .goto (-50), 3), (161, .lload 5, 2), (163, .lload 10, 2), (165, .ladd, 1), (166, .lstore 5, 2), (168, .iinc 9 1, 3), (171, .goto (-96), 3), (174, .lload 5, 2), (176, .lstore 9, 2), (178, .lload 7, 2), (180, .lstore 11, 2), (182, .lload 11, 2), (184, .lconst 0, 1), (185, .lcmp, 1), (186, .ifCond .eq 21, 3), (189, .lload 9, 2), (191, .lload 11, 2), (193, .lrem, 1), (194, .lstore 13, 2), (196, .lload 11, 2), (198, .lstore 9, 2), (200, .lload 13, 2), (202, .lstore 11, 2), (204, .goto (-22), 3), (207, .iload_n 3, 1), (208, .ifCond .ne 11, 3), (211, .lload 5, 2), (213, .lload 9, 2), (215, .ldiv, 1), (216, .goto 8, 3), (219, .lload 7, 2), (221, .lload 9, 2), (223, .ldiv, 1), (224, .lreturn, 1)]
theorem tX7_stay : dck cX7_stay tbX7_stay = true := by decide +kernel
def f_X7_stay_L48 (N : Nat) (M : Mem) (x1 : Int32) (x2 : Int32) (x3 : Int32) (x4 : Int32) : Nat → Int64 → Int32 → Option (Int64 × Int32)
  | 0, _, _ => none
  | n + 1, x7, x9 => (f_X7_ones N M x4).bind fun q52 => (if q52 ≤ x9 then some (x7, x9) else f_X7_stay_L48 N M x1 x2 x3 x4 n (x7 * (10 : Int64)) (x9 + (1 : Int32)))
def f_X7_stay_L108 (N : Nat) (M : Mem) (x1 : Int32) (x2 : Int32) (x3 : Int32) (x4 : Int32) (x5 : Int64) (x7 : Int64) (x9 : Int32) : Nat → Int64 → Int32 → Option (Int64 × Int32)
  | 0, _, _ => none
  | n + 1, x10, x12 => (if (8 : Int32) ≤ x12 then some (x10, x12) else (if ((x4 >>> (x12 &&& 31)) &&& (1 : Int32)) = 0 then f_X7_stay_L108 N M x1 x2 x3 x4 x5 x7 x9 n (x10 * (1 : Int64)) (x12 + (1 : Int32)) else (if ((x9 >>> (x12 &&& 31)) &&& (1 : Int32)) = (1 : Int32) then f_X7_stay_L108 N M x1 x2 x3 x4 x5 x7 x9 n (x10 * (((10 : Int32) - x2).toInt64)) (x12 + (1 : Int32)) else f_X7_stay_L108 N M x1 x2 x3 x4 x5 x7 x9 n (x10 * x2.toInt64) (x12 + (1 : Int32)))))
def f_X7_stay_L75 (N : Nat) (M : Mem) (x1 : Int32) (x2 : Int32) (x3 : Int32) (x4 : Int32) (x7 : Int64) : Nat → Int64 → Int32 → Option (Int64 × Int32)
  | 0, _, _ => none
  | n + 1, x5, x9 => (if (256 : Int32) ≤ x9 then some (x5, x9) else (if (x9 &&& (x4 ^^^ (-1 : Int32))) = 0 then (f_X7_ones N M x9).bind fun q95 => (if q95 < x1 then f_X7_stay_L75 N M x1 x2 x3 x4 x7 n x5 (x9 + (1 : Int32)) else (f_X7_stay_L108 N M x1 x2 x3 x4 x5 x7 x9 N (1 : Int64) (0 : Int32)).bind fun o108 => f_X7_stay_L75 N M x1 x2 x3 x4 x7 n (x5 + o108.1) (x9 + (1 : Int32))) else f_X7_stay_L75 N M x1 x2 x3 x4 x7 n x5 (x9 + (1 : Int32))))
def f_X7_stay_L182 (N : Nat) (M : Mem) (x3 : Int32) (x5 : Int64) (x7 : Int64) : Nat → Int64 → Int64 → Option (Int64 × Int64)
  | 0, _, _ => none
  | n + 1, x9, x11 => (if (lg_cmp x11 (0 : Int64)) = 0 then some (x9, x11) else if nz64 x11 = true then f_X7_stay_L182 N M x3 x5 x7 n x11 (x9 - x9 / x11 * x11) else none)
def f_X7_stay (N : Nat) (M : Mem) (x1 : Int32) (x2 : Int32) (x3 : Int32) : Option Int64 := (f_X7_in N M x1 (0 : Int32) (8 : Int32)).bind fun q4 => (if q4 = 0 then some (-3 : Int64) else (f_X7_in N M x2 (0 : Int32) (10 : Int32)).bind fun q14 => (if q14 = 0 then some (-3 : Int64) else (f_X7_in N M x3 (0 : Int32) (1 : Int32)).bind fun q23 => (if q23 = 0 then some (-3 : Int64) else (f_X7_thereNow N M).bind fun q34 => (f_X7_stay_L48 N M x1 x2 x3 q34 N (1 : Int64) (0 : Int32)).bind fun o48 => (f_X7_stay_L75 N M x1 x2 x3 q34 o48.1 N (0 : Int64) (0 : Int32)).bind fun o75 => (f_X7_stay_L182 N M x3 o75.1 o48.1 N o75.1 o48.1).bind fun o182 => (if x3 = 0 then if nz64 o182.1 = true then some (o75.1 / o182.1) else none else if nz64 o182.1 = true then some (o48.1 / o182.1) else none))))
set_option maxHeartbeats 4000000 in
set_option maxRecDepth 100000 in
theorem g_X7_stay_L48 {X : Cx} {F : Fx} (hM : SM X) (hF : FK X F cX7_stay RX7 15 5) (N : Nat) (M : Mem) (x1 : Int32) (x2 : Int32) (x3 : Int32) (x4 : Int32) : ∀ (n : Nat) (x7 : Int64) (x9 : Int32) (o : Int64 × Int32), f_X7_stay_L48 N M x1 x2 x3 x4 n x7 x9 = some o → G X F 72 [none, some (.int x1), some (.int x2), some (.int x3), some (.int x4), some (.long (0 : Int64)), none, some (.long o.1), none, none, none, none, none, none, none] [] M → G X F 48 [none, some (.int x1), some (.int x2), some (.int x3), some (.int x4), some (.long (0 : Int64)), none, some (.long x7), none, some (.int x9), none, none, none, none, none] [] M := by
  intro n
  induction n with
  | zero =>
    intro x7 x9 o h K
    cases h
  | succ n ih =>
    intro x7 x9 o h K
    rw [f_X7_stay_L48] at h
    refine g_iload hF (dck_at tX7_stay 26 rfl) rfl ?_
    refine g_iload hF (dck_at tX7_stay 27 rfl) rfl ?_
    obtain ⟨q52, e52, h⟩ := bd h
    refine g_callS hF (as := [.int x4]) wm_X7_148 wt_X7_ones wc_X7_ones wn_X7 hyX7_ones (by decide) (c_X7_ones hF.2.2.2.2.2.2.2.1 e52) (by decide) rfl rfl rfl rfl (dck_at tX7_stay 28 rfl) ?_
    show G X F 55 _ [.int q52, .int x9] M
    refine g_icmp_ge hF 72 (dck_at tX7_stay 29 rfl) (by decide) (fun hc55 => ?_) (fun hc55 => ?_)
    · replace h := ite_t hc55 h
      refine g_msk [true, true, true, true, true, true, true, true, true, false, true, true, true, true, true] (L' := [none, some (.int x1), some (.int x2), some (.int x3), some (.int x4), some (.long (0 : Int64)), none, some (.long x7), none, none, none, none, none, none, none]) rfl ?_
      cases h
      exact K
    · replace h := ite_f hc55 h
      refine g_lload hF (dck_at tX7_stay 30 rfl) rfl ?_
      refine g_ldc2 hF wk_X7_191 (dck_at tX7_stay 31 rfl) ?_
      refine g_lmul hF (dck_at tX7_stay 32 rfl) ?_
      refine g_lstore (L' := [none, some (.int x1), some (.int x2), some (.int x3), some (.int x4), some (.long (0 : Int64)), none, some (.long (x7 * (10 : Int64))), none, some (.int x9), none, none, none, none, none]) hF (dck_at tX7_stay 33 rfl) (Nat.le_of_ble_eq_true rfl) rfl ?_
      refine g_iinc (v := 1) (L' := [none, some (.int x1), some (.int x2), some (.int x3), some (.int x4), some (.long (0 : Int64)), none, some (.long (x7 * (10 : Int64))), none, some (.int (x9 + (1 : Int32))), none, none, none, none, none]) hF (dck_at tX7_stay 34 rfl) rfl (by decide) rfl ?_
      refine g_goto hF 48 (dck_at tX7_stay 35 rfl) (by decide) ?_
      exact ih _ _ _ h K
set_option maxHeartbeats 4000000 in
set_option maxRecDepth 100000 in
theorem g_X7_stay_L108 {X : Cx} {F : Fx} (hM : SM X) (hF : FK X F cX7_stay RX7 15 5) (N : Nat) (M : Mem) (x1 : Int32) (x2 : Int32) (x3 : Int32) (x4 : Int32) (x5 : Int64) (x7 : Int64) (x9 : Int32) : ∀ (n : Nat) (x10 : Int64) (x12 : Int32) (o : Int64 × Int32), f_X7_stay_L108 N M x1 x2 x3 x4 x5 x7 x9 n x10 x12 = some o → G X F 161 [none, some (.int x1), some (.int x2), some (.int x3), some (.int x4), some (.long x5), none, some (.long x7), none, some (.int x9), some (.long o.1), none, none, none, none] [] M → G X F 108 [none, some (.int x1), some (.int x2), some (.int x3), some (.int x4), some (.long x5), none, some (.long x7), none, some (.int x9), some (.long x10), none, some (.int x12), none, none] [] M := by
  intro n
  induction n with
  | zero =>
    intro x10 x12 o h K
    cases h
  | succ n ih =>
    intro x10 x12 o h K
    rw [f_X7_stay_L108] at h
    refine g_iload hF (dck_at tX7_stay 55 rfl) rfl ?_
    refine g_bipush (v := 8) hF (dck_at tX7_stay 56 rfl) (by decide) ?_
    refine g_icmp_ge hF 161 (dck_at tX7_stay 57 rfl) (by decide) (fun hc112 => ?_) (fun hc112 => ?_)
    · replace h := ite_t hc112 h
      refine g_msk [true, true, true, true, true, true, true, true, true, true, true, true, false, true, true] (L' := [none, some (.int x1), some (.int x2), some (.int x3), some (.int x4), some (.long x5), none, some (.long x7), none, some (.int x9), some (.long x10), none, none, none, none]) rfl ?_
      cases h
      exact K
    · replace h := ite_f hc112 h
      refine g_lload hF (dck_at tX7_stay 58 rfl) rfl ?_
      refine g_iload hF (dck_at tX7_stay 59 rfl) rfl ?_
      refine g_iload hF (dck_at tX7_stay 60 rfl) rfl ?_
      refine g_ishr hF (dck_at tX7_stay 61 rfl) ?_
      refine g_iconst (v := 1) hF (dck_at tX7_stay 62 rfl) (by decide) ?_
      refine g_iand hF (dck_at tX7_stay 63 rfl) ?_
      show G X F 124 _ _ _
      refine g_if_ne hF 131 (dck_at tX7_stay 64 rfl) (by decide) (fun hc124 => ?_) (fun hc124 => ?_)
      · replace h := ite_f hc124 h
        refine g_iload hF (dck_at tX7_stay 67 rfl) rfl ?_
        refine g_iload hF (dck_at tX7_stay 68 rfl) rfl ?_
        refine g_ishr hF (dck_at tX7_stay 69 rfl) ?_
        refine g_iconst (v := 1) hF (dck_at tX7_stay 70 rfl) (by decide) ?_
        refine g_iand hF (dck_at tX7_stay 71 rfl) ?_
        refine g_iconst (v := 1) hF (dck_at tX7_stay 72 rfl) (by decide) ?_
        show G X F 139 _ _ _
        refine g_icmp_ne hF 150 (dck_at tX7_stay 73 rfl) (by decide) (fun hc139 => ?_) (fun hc139 => ?_)
        · replace h := ite_f hc139 h
          refine g_iload_n hF (dck_at tX7_stay 79 rfl) rfl ?_
          refine g_i2l hF (dck_at tX7_stay 80 rfl) ?_
          refine g_lmul hF (dck_at tX7_stay 81 rfl) ?_
          refine g_lstore (L' := [none, some (.int x1), some (.int x2), some (.int x3), some (.int x4), some (.long x5), none, some (.long x7), none, some (.int x9), some (.long (x10 * x2.toInt64)), none, some (.int x12), none, none]) hF (dck_at tX7_stay 82 rfl) (Nat.le_of_ble_eq_true rfl) rfl ?_
          refine g_iinc (v := 1) (L' := [none, some (.int x1), some (.int x2), some (.int x3), some (.int x4), some (.long x5), none, some (.long x7), none, some (.int x9), some (.long (x10 * x2.toInt64)), none, some (.int (x12 + (1 : Int32))), none, none]) hF (dck_at tX7_stay 83 rfl) rfl (by decide) rfl ?_
          refine g_goto hF 108 (dck_at tX7_stay 84 rfl) (by decide) ?_
          exact ih _ _ _ h K
        · replace h := ite_t hc139 h
          refine g_bipush (v := 10) hF (dck_at tX7_stay 74 rfl) (by decide) ?_
          refine g_iload_n hF (dck_at tX7_stay 75 rfl) rfl ?_
          refine g_isub hF (dck_at tX7_stay 76 rfl) ?_
          refine g_i2l hF (dck_at tX7_stay 77 rfl) ?_
          refine g_goto hF 152 (dck_at tX7_stay 78 rfl) (by decide) ?_
          refine g_lmul hF (dck_at tX7_stay 81 rfl) ?_
          refine g_lstore (L' := [none, some (.int x1), some (.int x2), some (.int x3), some (.int x4), some (.long x5), none, some (.long x7), none, some (.int x9), some (.long (x10 * (((10 : Int32) - x2).toInt64))), none, some (.int x12), none, none]) hF (dck_at tX7_stay 82 rfl) (Nat.le_of_ble_eq_true rfl) rfl ?_
          refine g_iinc (v := 1) (L' := [none, some (.int x1), some (.int x2), some (.int x3), some (.int x4), some (.long x5), none, some (.long x7), none, some (.int x9), some (.long (x10 * (((10 : Int32) - x2).toInt64))), none, some (.int (x12 + (1 : Int32))), none, none]) hF (dck_at tX7_stay 83 rfl) rfl (by decide) rfl ?_
          refine g_goto hF 108 (dck_at tX7_stay 84 rfl) (by decide) ?_
          exact ih _ _ _ h K
      · replace h := ite_t hc124 h
        refine g_lconst (v := 1) hF (dck_at tX7_stay 65 rfl) (by decide) ?_
        refine g_goto hF 152 (dck_at tX7_stay 66 rfl) (by decide) ?_
        refine g_lmul hF (dck_at tX7_stay 81 rfl) ?_
        refine g_lstore (L' := [none, some (.int x1), some (.int x2), some (.int x3), some (.int x4), some (.long x5), none, some (.long x7), none, some (.int x9), some (.long (x10 * (1 : Int64))), none, some (.int x12), none, none]) hF (dck_at tX7_stay 82 rfl) (Nat.le_of_ble_eq_true rfl) rfl ?_
        refine g_iinc (v := 1) (L' := [none, some (.int x1), some (.int x2), some (.int x3), some (.int x4), some (.long x5), none, some (.long x7), none, some (.int x9), some (.long (x10 * (1 : Int64))), none, some (.int (x12 + (1 : Int32))), none, none]) hF (dck_at tX7_stay 83 rfl) rfl (by decide) rfl ?_
        refine g_goto hF 108 (dck_at tX7_stay 84 rfl) (by decide) ?_
        exact ih _ _ _ h K
set_option maxHeartbeats 4000000 in
set_option maxRecDepth 100000 in
theorem g_X7_stay_L75 {X : Cx} {F : Fx} (hM : SM X) (hF : FK X F cX7_stay RX7 15 5) (N : Nat) (M : Mem) (x1 : Int32) (x2 : Int32) (x3 : Int32) (x4 : Int32) (x7 : Int64) : ∀ (n : Nat) (x5 : Int64) (x9 : Int32) (o : Int64 × Int32), f_X7_stay_L75 N M x1 x2 x3 x4 x7 n x5 x9 = some o → G X F 174 [none, none, none, some (.int x3), none, some (.long o.1), none, some (.long x7), none, none, none, none, none, none, none] [] M → G X F 75 [none, some (.int x1), some (.int x2), some (.int x3), some (.int x4), some (.long x5), none, some (.long x7), none, some (.int x9), none, none, none, none, none] [] M := by
  intro n
  induction n with
  | zero =>
    intro x5 x9 o h K
    cases h
  | succ n ih =>
    intro x5 x9 o h K
    rw [f_X7_stay_L75] at h
    refine g_iload hF (dck_at tX7_stay 38 rfl) rfl ?_
    refine g_sipush (v := 256) hF (dck_at tX7_stay 39 rfl) (by decide) ?_
    refine g_icmp_ge hF 174 (dck_at tX7_stay 40 rfl) (by decide) (fun hc80 => ?_) (fun hc80 => ?_)
    · replace h := ite_t hc80 h
      refine g_msk [true, false, false, true, false, true, true, true, true, false, true, true, true, true, true] (L' := [none, none, none, some (.int x3), none, some (.long x5), none, some (.long x7), none, none, none, none, none, none, none]) rfl ?_
      cases h
      exact K
    · replace h := ite_f hc80 h
      refine g_iload hF (dck_at tX7_stay 41 rfl) rfl ?_
      refine g_iload hF (dck_at tX7_stay 42 rfl) rfl ?_
      refine g_iconst (v := -1) hF (dck_at tX7_stay 43 rfl) (by decide) ?_
      refine g_ixor hF (dck_at tX7_stay 44 rfl) ?_
      refine g_iand hF (dck_at tX7_stay 45 rfl) ?_
      refine g_if_ne hF 168 (dck_at tX7_stay 46 rfl) (by decide) (fun hc90 => ?_) (fun hc90 => ?_)
      · replace h := ite_f hc90 h
        refine g_iinc (v := 1) (L' := [none, some (.int x1), some (.int x2), some (.int x3), some (.int x4), some (.long x5), none, some (.long x7), none, some (.int (x9 + (1 : Int32))), none, none, none, none, none]) hF (dck_at tX7_stay 89 rfl) rfl (by decide) rfl ?_
        refine g_goto hF 75 (dck_at tX7_stay 90 rfl) (by decide) ?_
        exact ih _ _ _ h K
      · replace h := ite_t hc90 h
        refine g_iload hF (dck_at tX7_stay 47 rfl) rfl ?_
        obtain ⟨q95, e95, h⟩ := bd h
        refine g_callS hF (as := [.int x9]) wm_X7_148 wt_X7_ones wc_X7_ones wn_X7 hyX7_ones (by decide) (c_X7_ones hF.2.2.2.2.2.2.2.1 e95) (by decide) rfl rfl rfl rfl (dck_at tX7_stay 48 rfl) ?_
        show G X F 98 _ [.int q95] M
        refine g_iload_n hF (dck_at tX7_stay 49 rfl) rfl ?_
        refine g_icmp_lt hF 168 (dck_at tX7_stay 50 rfl) (by decide) (fun hc99 => ?_) (fun hc99 => ?_)
        · replace h := ite_t hc99 h
          refine g_iinc (v := 1) (L' := [none, some (.int x1), some (.int x2), some (.int x3), some (.int x4), some (.long x5), none, some (.long x7), none, some (.int (x9 + (1 : Int32))), none, none, none, none, none]) hF (dck_at tX7_stay 89 rfl) rfl (by decide) rfl ?_
          refine g_goto hF 75 (dck_at tX7_stay 90 rfl) (by decide) ?_
          exact ih _ _ _ h K
        · replace h := ite_f hc99 h
          refine g_lconst (v := 1) hF (dck_at tX7_stay 51 rfl) (by decide) ?_
          refine g_lstore (L' := [none, some (.int x1), some (.int x2), some (.int x3), some (.int x4), some (.long x5), none, some (.long x7), none, some (.int x9), some (.long (1 : Int64)), none, none, none, none]) hF (dck_at tX7_stay 52 rfl) (Nat.le_of_ble_eq_true rfl) rfl ?_
          refine g_iconst (v := 0) hF (dck_at tX7_stay 53 rfl) (by decide) ?_
          refine g_istore (L' := [none, some (.int x1), some (.int x2), some (.int x3), some (.int x4), some (.long x5), none, some (.long x7), none, some (.int x9), some (.long (1 : Int64)), none, some (.int (0 : Int32)), none, none]) hF (dck_at tX7_stay 54 rfl) (Nat.le_of_ble_eq_true rfl) rfl ?_
          obtain ⟨o108, e108, h⟩ := bd h
          refine g_X7_stay_L108 hM hF N _ _ _ _ _ _ _ _ N _ _ _ e108 ?_
          refine g_lload hF (dck_at tX7_stay 85 rfl) rfl ?_
          refine g_lload hF (dck_at tX7_stay 86 rfl) rfl ?_
          refine g_ladd hF (dck_at tX7_stay 87 rfl) ?_
          refine g_lstore (L' := [none, some (.int x1), some (.int x2), some (.int x3), some (.int x4), some (.long (x5 + o108.1)), none, some (.long x7), none, some (.int x9), some (.long o108.1), none, none, none, none]) hF (dck_at tX7_stay 88 rfl) (Nat.le_of_ble_eq_true rfl) rfl ?_
          refine g_iinc (v := 1) (L' := [none, some (.int x1), some (.int x2), some (.int x3), some (.int x4), some (.long (x5 + o108.1)), none, some (.long x7), none, some (.int (x9 + (1 : Int32))), some (.long o108.1), none, none, none, none]) hF (dck_at tX7_stay 89 rfl) rfl (by decide) rfl ?_
          refine g_goto hF 75 (dck_at tX7_stay 90 rfl) (by decide) ?_
          refine g_msk [true, true, true, true, true, true, true, true, true, true, false, true, true, true, true] (L' := [none, some (.int x1), some (.int x2), some (.int x3), some (.int x4), some (.long (x5 + o108.1)), none, some (.long x7), none, some (.int (x9 + (1 : Int32))), none, none, none, none, none]) rfl ?_
          exact ih _ _ _ h K
set_option maxHeartbeats 4000000 in
set_option maxRecDepth 100000 in
theorem g_X7_stay_L182 {X : Cx} {F : Fx} (hM : SM X) (hF : FK X F cX7_stay RX7 15 5) (N : Nat) (M : Mem) (x3 : Int32) (x5 : Int64) (x7 : Int64) : ∀ (n : Nat) (x9 : Int64) (x11 : Int64) (o : Int64 × Int64), f_X7_stay_L182 N M x3 x5 x7 n x9 x11 = some o → G X F 207 [none, none, none, some (.int x3), none, some (.long x5), none, some (.long x7), none, some (.long o.1), none, none, none, none, none] [] M → G X F 182 [none, none, none, some (.int x3), none, some (.long x5), none, some (.long x7), none, some (.long x9), none, some (.long x11), none, none, none] [] M := by
  intro n
  induction n with
  | zero =>
    intro x9 x11 o h K
    cases h
  | succ n ih =>
    intro x9 x11 o h K
    rw [f_X7_stay_L182] at h
    refine g_lload hF (dck_at tX7_stay 95 rfl) rfl ?_
    refine g_lconst (v := 0) hF (dck_at tX7_stay 96 rfl) (by decide) ?_
    refine g_lcmp hF (dck_at tX7_stay 97 rfl) ?_
    refine g_if_eq hF 207 (dck_at tX7_stay 98 rfl) (by decide) (fun hc186 => ?_) (fun hc186 => ?_)
    · replace h := ite_t hc186 h
      refine g_msk [true, true, true, true, true, true, true, true, true, true, true, false, true, true, true] (L' := [none, none, none, some (.int x3), none, some (.long x5), none, some (.long x7), none, some (.long x9), none, none, none, none, none]) rfl ?_
      cases h
      exact K
    · replace h := ite_f hc186 h
      refine g_lload hF (dck_at tX7_stay 99 rfl) rfl ?_
      refine g_lload hF (dck_at tX7_stay 100 rfl) rfl ?_
      obtain ⟨hg193, h⟩ := gd h
      refine g_lrem hF (dck_at tX7_stay 101 rfl) (nz64_n hg193) ?_
      refine g_lstore (L' := [none, none, none, some (.int x3), none, some (.long x5), none, some (.long x7), none, some (.long x9), none, some (.long x11), none, some (.long (x9 - x9 / x11 * x11)), none]) hF (dck_at tX7_stay 102 rfl) (Nat.le_of_ble_eq_true rfl) rfl ?_
      refine g_lload hF (dck_at tX7_stay 103 rfl) rfl ?_
      refine g_lstore (L' := [none, none, none, some (.int x3), none, some (.long x5), none, some (.long x7), none, some (.long x11), none, some (.long x11), none, some (.long (x9 - x9 / x11 * x11)), none]) hF (dck_at tX7_stay 104 rfl) (Nat.le_of_ble_eq_true rfl) rfl ?_
      show G X F 200 _ _ _
      refine g_lload hF (dck_at tX7_stay 105 rfl) rfl ?_
      refine g_lstore (L' := [none, none, none, some (.int x3), none, some (.long x5), none, some (.long x7), none, some (.long x11), none, some (.long (x9 - x9 / x11 * x11)), none, some (.long (x9 - x9 / x11 * x11)), none]) hF (dck_at tX7_stay 106 rfl) (Nat.le_of_ble_eq_true rfl) rfl ?_
      refine g_goto hF 182 (dck_at tX7_stay 107 rfl) (by decide) ?_
      refine g_msk [true, true, true, true, true, true, true, true, true, true, true, true, true, false, true] (L' := [none, none, none, some (.int x3), none, some (.long x5), none, some (.long x7), none, some (.long x11), none, some (.long (x9 - x9 / x11 * x11)), none, none, none]) rfl ?_
      exact ih _ _ _ h K
set_option maxHeartbeats 4000000 in
set_option maxRecDepth 100000 in
theorem c_X7_stay {X : Cx} {l : Launch} (hX : CxOk X) (hM : SM X) {N : Nat} {M : Mem} {x1 : Int32} {x2 : Int32} {x3 : Int32} {r : Int64} (h : f_X7_stay N M x1 x2 x3 = some r) : Ctr X l yX7_stay cX7_stay 15 (some .long) 5 [.ref 70, .int x1, .int x2, .int x3] M (some (.long r)) M := by
  refine Ctr.ofG (L := [some (.ref 70), some (.int x1), some (.int x2), some (.int x3), none, none, none, none, none, none, none, none, none, none, none]) hX (by decide) (Nat.le_of_ble_eq_true rfl) rfl (fun F hF hl hR => ?_)
  subst hl
  unfold f_X7_stay at h
  refine g_iload_n hF (dck_at tX7_stay 0 rfl) rfl ?_
  refine g_iconst (v := 0) hF (dck_at tX7_stay 1 rfl) (by decide) ?_
  refine g_bipush (v := 8) hF (dck_at tX7_stay 2 rfl) (by decide) ?_
  obtain ⟨q4, e4, h⟩ := bd h
  refine g_callS hF (as := [.int x1, .int (0 : Int32), .int (8 : Int32)]) wm_X7_53 wt_X7_in wc_X7_in wn_X7 hyX7_in (by decide) (c_X7_in hF.2.2.2.2.2.2.2.1 e4) (by decide) rfl rfl rfl rfl (dck_at tX7_stay 3 rfl) ?_
  show G X F 7 _ [.int q4] M
  refine g_if_eq hF 29 (dck_at tX7_stay 4 rfl) (by decide) (fun hc7 => ?_) (fun hc7 => ?_)
  · replace h := ite_t hc7 h
    refine g_ldc2 hF wk_X7_189 (dck_at tX7_stay 15 rfl) ?_
    cases h
    exact g_lret hF hR (dck_at tX7_stay 16 rfl)
  · replace h := ite_f hc7 h
    refine g_iload_n hF (dck_at tX7_stay 5 rfl) rfl ?_
    refine g_iconst (v := 0) hF (dck_at tX7_stay 6 rfl) (by decide) ?_
    refine g_bipush (v := 10) hF (dck_at tX7_stay 7 rfl) (by decide) ?_
    obtain ⟨q14, e14, h⟩ := bd h
    refine g_callS hF (as := [.int x2, .int (0 : Int32), .int (10 : Int32)]) wm_X7_53 wt_X7_in wc_X7_in wn_X7 hyX7_in (by decide) (c_X7_in hF.2.2.2.2.2.2.2.1 e14) (by decide) rfl rfl rfl rfl (dck_at tX7_stay 8 rfl) ?_
    show G X F 17 _ [.int q14] M
    refine g_if_eq hF 29 (dck_at tX7_stay 9 rfl) (by decide) (fun hc17 => ?_) (fun hc17 => ?_)
    · replace h := ite_t hc17 h
      refine g_ldc2 hF wk_X7_189 (dck_at tX7_stay 15 rfl) ?_
      cases h
      exact g_lret hF hR (dck_at tX7_stay 16 rfl)
    · replace h := ite_f hc17 h
      refine g_iload_n hF (dck_at tX7_stay 10 rfl) rfl ?_
      refine g_iconst (v := 0) hF (dck_at tX7_stay 11 rfl) (by decide) ?_
      refine g_iconst (v := 1) hF (dck_at tX7_stay 12 rfl) (by decide) ?_
      obtain ⟨q23, e23, h⟩ := bd h
      refine g_callS hF (as := [.int x3, .int (0 : Int32), .int (1 : Int32)]) wm_X7_53 wt_X7_in wc_X7_in wn_X7 hyX7_in (by decide) (c_X7_in hF.2.2.2.2.2.2.2.1 e23) (by decide) rfl rfl rfl rfl (dck_at tX7_stay 13 rfl) ?_
      show G X F 26 _ [.int q23] M
      refine g_if_ne hF 33 (dck_at tX7_stay 14 rfl) (by decide) (fun hc26 => ?_) (fun hc26 => ?_)
      · replace h := ite_f hc26 h
        refine g_aload_n hF (dck_at tX7_stay 17 rfl) rfl ?_
        obtain ⟨q34, e34, h⟩ := bd h
        refine g_callV hF (as := []) (k := 70) rfl (by decide) wm_X7_145 wi_X7_thereNow we_X7_thereNow wc_X7_thereNow wn_X7 hyX7_thereNow (by decide) (hM 70 (by decide) (by decide)) kdc_70 (c_X7_thereNow hF.2.2.2.2.2.2.2.1 hM e34) (by decide) rfl rfl rfl rfl (dck_at tX7_stay 18 rfl) ?_
        show G X F 37 _ [.int q34] M
        refine g_istore (L' := [some (.ref 70), some (.int x1), some (.int x2), some (.int x3), some (.int q34), none, none, none, none, none, none, none, none, none, none]) hF (dck_at tX7_stay 19 rfl) (Nat.le_of_ble_eq_true rfl) rfl ?_
        refine g_lconst (v := 0) hF (dck_at tX7_stay 20 rfl) (by decide) ?_
        refine g_lstore (L' := [some (.ref 70), some (.int x1), some (.int x2), some (.int x3), some (.int q34), some (.long (0 : Int64)), none, none, none, none, none, none, none, none, none]) hF (dck_at tX7_stay 21 rfl) (Nat.le_of_ble_eq_true rfl) rfl ?_
        refine g_lconst (v := 1) hF (dck_at tX7_stay 22 rfl) (by decide) ?_
        show G X F 43 _ _ _
        refine g_lstore (L' := [some (.ref 70), some (.int x1), some (.int x2), some (.int x3), some (.int q34), some (.long (0 : Int64)), none, some (.long (1 : Int64)), none, none, none, none, none, none, none]) hF (dck_at tX7_stay 23 rfl) (Nat.le_of_ble_eq_true rfl) rfl ?_
        refine g_iconst (v := 0) hF (dck_at tX7_stay 24 rfl) (by decide) ?_
        refine g_istore (L' := [some (.ref 70), some (.int x1), some (.int x2), some (.int x3), some (.int q34), some (.long (0 : Int64)), none, some (.long (1 : Int64)), none, some (.int (0 : Int32)), none, none, none, none, none]) hF (dck_at tX7_stay 25 rfl) (Nat.le_of_ble_eq_true rfl) rfl ?_
        refine g_msk [false, true, true, true, true, true, true, true, true, true, true, true, true, true, true] (L' := [none, some (.int x1), some (.int x2), some (.int x3), some (.int q34), some (.long (0 : Int64)), none, some (.long (1 : Int64)), none, some (.int (0 : Int32)), none, none, none, none, none]) rfl ?_
        obtain ⟨o48, e48, h⟩ := bd h
        refine g_X7_stay_L48 hM hF N _ _ _ _ _ N _ _ _ e48 ?_
        refine g_iconst (v := 0) hF (dck_at tX7_stay 36 rfl) (by decide) ?_
        refine g_istore (L' := [none, some (.int x1), some (.int x2), some (.int x3), some (.int q34), some (.long (0 : Int64)), none, some (.long o48.1), none, some (.int (0 : Int32)), none, none, none, none, none]) hF (dck_at tX7_stay 37 rfl) (Nat.le_of_ble_eq_true rfl) rfl ?_
        obtain ⟨o75, e75, h⟩ := bd h
        refine g_X7_stay_L75 hM hF N _ _ _ _ _ _ N _ _ _ e75 ?_
        refine g_lload hF (dck_at tX7_stay 91 rfl) rfl ?_
        refine g_lstore (L' := [none, none, none, some (.int x3), none, some (.long o75.1), none, some (.long o48.1), none, some (.long o75.1), none, none, none, none, none]) hF (dck_at tX7_stay 92 rfl) (Nat.le_of_ble_eq_true rfl) rfl ?_
        refine g_lload hF (dck_at tX7_stay 93 rfl) rfl ?_
        refine g_lstore (L' := [none, none, none, some (.int x3), none, some (.long o75.1), none, some (.long o48.1), none, some (.long o75.1), none, some (.long o48.1), none, none, none]) hF (dck_at tX7_stay 94 rfl) (Nat.le_of_ble_eq_true rfl) rfl ?_
        obtain ⟨o182, e182, h⟩ := bd h
        refine g_X7_stay_L182 hM hF N _ _ _ _ N _ _ _ e182 ?_
        refine g_iload_n hF (dck_at tX7_stay 108 rfl) rfl ?_
        refine g_if_ne hF 219 (dck_at tX7_stay 109 rfl) (by decide) (fun hc208 => ?_) (fun hc208 => ?_)
        · replace h := ite_f hc208 h
          refine g_lload hF (dck_at tX7_stay 114 rfl) rfl ?_
          refine g_lload hF (dck_at tX7_stay 115 rfl) rfl ?_
          obtain ⟨hg223, h⟩ := gd h
          refine g_ldiv hF (dck_at tX7_stay 116 rfl) (nz64_n hg223) ?_
          cases h
          exact g_lret hF hR (dck_at tX7_stay 117 rfl)
        · replace h := ite_t hc208 h
          refine g_lload hF (dck_at tX7_stay 110 rfl) rfl ?_
          refine g_lload hF (dck_at tX7_stay 111 rfl) rfl ?_
          obtain ⟨hg215, h⟩ := gd h
          refine g_ldiv hF (dck_at tX7_stay 112 rfl) (nz64_n hg215) ?_
          refine g_goto hF 224 (dck_at tX7_stay 113 rfl) (by decide) ?_
          cases h
          exact g_lret hF hR (dck_at tX7_stay 117 rfl)
      · replace h := ite_t hc26 h
        refine g_ldc2 hF wk_X7_189 (dck_at tX7_stay 15 rfl) ?_
        cases h
        exact g_lret hF hR (dck_at tX7_stay 16 rfl)

def tbX7_gone : List (Nat × Instr × Nat) := [(0, .iload_n 1, 1), (1, .iconst 0, 1), (2, .sipush 400, 3), (5, .invokestatic 53, 3), (8, .ifCond .eq 12, 3), (11, .iload_n 2, 1), (12, .iconst 0, 1), (13, .iconst 1, 1), (14, .invokestatic 53, 3), (17, .ifCond .ne 6, 3), (20, .bipush (-3), 2), (22, .ireturn, 1), (23, .iconst 0, 1), (24, .istore_n 3, 1), (25, .iconst (-1), 1), (26, .istore 4, 2), (28, .sipush 255, 3), (31, .istore 5, 2), (33, .iload 5, 2), (35, .ifCond .lt 144, 3), (38, .iconst 0, 1), (39, .istore 6, 2), (41, .iconst 1, 1), (42, .istore 7, 2), (44, .iconst 0, 1), (45, .istore 8, 2), (47, .iload 8, 2), (49, .bipush 8, 2), (51, .if_icmp .ge 77, 3), (54, .iload 5, 2), (56, .iload 8, 2), (58, .ishr, 1), (59, .iconst 1, 1), (60, .iand, 1), (61, .iconst 1, 1), (62, .if_icmp .ne 7, 3), (65, .iconst 1, 1), (66, .goto 4, 3), (69, .iconst 0, 1), (70, .istore 9, 2), (72, .iload 7, 2), (74, .ifCond .eq 21, 3), (77, .iload 9, 2), (79, .ifCond .eq 12, 3), (82, .aload_n 0, 1), (83, .iload 8, 2), (85, .invokevirtual 120, 3), (88, .ifCond .eq 7, 3), (91, .iconst 1, 1), (92, .goto 4, 3), (95, .iconst 0, 1), (96, .istore 7, 2), (98, .iload 6, 2), (100, .iload 9, 2), (102, .ifCond .eq 16, 3), (105, .aload_n 0, 1), (106, .getfield 19, 3), (109, .bipush 6, 2), (111, .iload 8, 2), (113, .iadd, 1), (114, .iaload, 1), (115, .goto 4, 3), (118, .iconst 0, 1), (119, .iadd, 1), (120, .istore 6, 2), (122, .iinc 8 1, 3), (125, .goto (-78), 3), (128, .iload 7, 2), (130, .ifCond .eq 13, 3), (133, .iload 6, 2), (135, .iload_n 1, 1), (136, .if_icmp .ne 7, 3), (139, .iconst 1, 1), (140, .goto 4, 3), (143, .iconst 0, 1), (144, .istore 7, 2), (146, .iload_n 3, 1), (147, .iload 7, 2), (149, .ifCond .eq 7, 3), (152, .iconst 1, 1), (153, .goto 4, 3), (156, .iconst 0, 1), (157, .iadd, 1), (158, .istore_n 3, 1), (159, .iload 7, 2), (161, .ifCond .eq 8, 3), (164, .iload 5, 2), (166, .goto 5, 3), (169, .iload 4, 2), (171, .istore 4, 2), (173, .iinc 5 (-1), 3), (176, .goto (-143), 3), (179, .iload_n 2, 1), (180, .ifCond .ne 7, 3), (183, .iload_n 3, 1), (184, .goto 5, 3), (187, .iload 4, 2), (189, .ireturn, 1)]
theorem tX7_gone : dck cX7_gone tbX7_gone = true := by decide +kernel
def f_X7_gone_L47 (N : Nat) (M : Mem) (x1 : Int32) (x2 : Int32) (x3 : Int32) (x4 : Int32) (x5 : Int32) : Nat → Int32 → Int32 → Int32 → Option (Int32 × Int32 × Int32)
  | 0, _, _, _ => none
  | n + 1, x6, x7, x8 => (if (8 : Int32) ≤ x8 then some (x6, x7, x8) else ((if x7 = 0 then some (0 : Int32) else (if (if ((x5 >>> (x8 &&& 31)) &&& (1 : Int32)) = (1 : Int32) then (1 : Int32) else (0 : Int32)) = 0 then some (1 : Int32) else (f_X7_claps N M x8).bind fun q85 => (if q85 = 0 then some (0 : Int32) else some (1 : Int32)))).bind fun o96 => (if (if ((x5 >>> (x8 &&& 31)) &&& (1 : Int32)) = (1 : Int32) then (1 : Int32) else (0 : Int32)) = 0 then f_X7_gone_L47 N M x1 x2 x3 x4 x5 n (x6 + (0 : Int32)) o96 (x8 + (1 : Int32)) else if inb ((6 : Int32) + x8) 14 = true then f_X7_gone_L47 N M x1 x2 x3 x4 x5 n (x6 + (M 74 ((6 : Int32) + x8).toNatClampNeg)) o96 (x8 + (1 : Int32)) else none)))
def f_X7_gone_L33 (N : Nat) (M : Mem) (x1 : Int32) (x2 : Int32) : Nat → Int32 → Int32 → Int32 → Option (Int32 × Int32 × Int32)
  | 0, _, _, _ => none
  | n + 1, x3, x4, x5 => (if x5 < 0 then some (x3, x4, x5) else (f_X7_gone_L47 N M x1 x2 x3 x4 x5 N (0 : Int32) (1 : Int32) (0 : Int32)).bind fun o47 => (if (if o47.2.1 = 0 then (0 : Int32) else (if o47.1 = x1 then (1 : Int32) else (0 : Int32))) = 0 then f_X7_gone_L33 N M x1 x2 n (x3 + (if (if o47.2.1 = 0 then (0 : Int32) else (if o47.1 = x1 then (1 : Int32) else (0 : Int32))) = 0 then (0 : Int32) else (1 : Int32))) x4 (x5 + (-1 : Int32)) else f_X7_gone_L33 N M x1 x2 n (x3 + (if (if o47.2.1 = 0 then (0 : Int32) else (if o47.1 = x1 then (1 : Int32) else (0 : Int32))) = 0 then (0 : Int32) else (1 : Int32))) x5 (x5 + (-1 : Int32))))
def f_X7_gone (N : Nat) (M : Mem) (x1 : Int32) (x2 : Int32) : Option Int32 := (f_X7_in N M x1 (0 : Int32) (400 : Int32)).bind fun q5 => (if q5 = 0 then some (-3 : Int32) else (f_X7_in N M x2 (0 : Int32) (1 : Int32)).bind fun q14 => (if q14 = 0 then some (-3 : Int32) else (f_X7_gone_L33 N M x1 x2 N (0 : Int32) (-1 : Int32) (255 : Int32)).bind fun o33 => (if x2 = 0 then some o33.1 else some o33.2.1)))
set_option maxHeartbeats 4000000 in
set_option maxRecDepth 100000 in
theorem g_X7_gone_L47 {X : Cx} {F : Fx} (hM : SM X) (hF : FK X F cX7_gone RX7 10 5) (N : Nat) (M : Mem) (x1 : Int32) (x2 : Int32) (x3 : Int32) (x4 : Int32) (x5 : Int32) : ∀ (n : Nat) (x6 : Int32) (x7 : Int32) (x8 : Int32) (o : Int32 × Int32 × Int32), f_X7_gone_L47 N M x1 x2 x3 x4 x5 n x6 x7 x8 = some o → G X F 128 [some (.ref 70), some (.int x1), some (.int x2), some (.int x3), some (.int x4), some (.int x5), some (.int o.1), some (.int o.2.1), none, none] [] M → G X F 47 [some (.ref 70), some (.int x1), some (.int x2), some (.int x3), some (.int x4), some (.int x5), some (.int x6), some (.int x7), some (.int x8), none] [] M := by
  intro n
  induction n with
  | zero =>
    intro x6 x7 x8 o h K
    cases h
  | succ n ih =>
    intro x6 x7 x8 o h K
    rw [f_X7_gone_L47] at h
    refine g_iload hF (dck_at tX7_gone 26 rfl) rfl ?_
    refine g_bipush (v := 8) hF (dck_at tX7_gone 27 rfl) (by decide) ?_
    refine g_icmp_ge hF 128 (dck_at tX7_gone 28 rfl) (by decide) (fun hc51 => ?_) (fun hc51 => ?_)
    · replace h := ite_t hc51 h
      refine g_msk [true, true, true, true, true, true, true, true, false, true] (L' := [some (.ref 70), some (.int x1), some (.int x2), some (.int x3), some (.int x4), some (.int x5), some (.int x6), some (.int x7), none, none]) rfl ?_
      cases h
      exact K
    · replace h := ite_f hc51 h
      refine g_iload hF (dck_at tX7_gone 29 rfl) rfl ?_
      refine g_iload hF (dck_at tX7_gone 30 rfl) rfl ?_
      refine g_ishr hF (dck_at tX7_gone 31 rfl) ?_
      refine g_iconst (v := 1) hF (dck_at tX7_gone 32 rfl) (by decide) ?_
      refine g_iand hF (dck_at tX7_gone 33 rfl) ?_
      refine g_iconst (v := 1) hF (dck_at tX7_gone 34 rfl) (by decide) ?_
      show G X F 62 _ _ _
      have K70 : G X F 70 [some (.ref 70), some (.int x1), some (.int x2), some (.int x3), some (.int x4), some (.int x5), some (.int x6), some (.int x7), some (.int x8), none] [.int (if ((x5 >>> (x8 &&& 31)) &&& (1 : Int32)) = (1 : Int32) then (1 : Int32) else (0 : Int32))] M := by
        refine g_istore (L' := [some (.ref 70), some (.int x1), some (.int x2), some (.int x3), some (.int x4), some (.int x5), some (.int x6), some (.int x7), some (.int x8), some (.int (if ((x5 >>> (x8 &&& 31)) &&& (1 : Int32)) = (1 : Int32) then (1 : Int32) else (0 : Int32)))]) hF (dck_at tX7_gone 39 rfl) (Nat.le_of_ble_eq_true rfl) rfl ?_
        refine g_iload hF (dck_at tX7_gone 40 rfl) rfl ?_
        obtain ⟨o96, h96, h⟩ := bd h
        have K96 : G X F 96 [some (.ref 70), some (.int x1), some (.int x2), some (.int x3), some (.int x4), some (.int x5), some (.int x6), none, some (.int x8), some (.int (if ((x5 >>> (x8 &&& 31)) &&& (1 : Int32)) = (1 : Int32) then (1 : Int32) else (0 : Int32)))] [.int o96] M := by
          refine g_istore (L' := [some (.ref 70), some (.int x1), some (.int x2), some (.int x3), some (.int x4), some (.int x5), some (.int x6), some (.int o96), some (.int x8), some (.int (if ((x5 >>> (x8 &&& 31)) &&& (1 : Int32)) = (1 : Int32) then (1 : Int32) else (0 : Int32)))]) hF (dck_at tX7_gone 51 rfl) (Nat.le_of_ble_eq_true rfl) rfl ?_
          refine g_iload hF (dck_at tX7_gone 52 rfl) rfl ?_
          refine g_iload hF (dck_at tX7_gone 53 rfl) rfl ?_
          refine g_if_eq hF 118 (dck_at tX7_gone 54 rfl) (by decide) (fun hc102 => ?_) (fun hc102 => ?_)
          · replace h := ite_t hc102 h
            refine g_iconst (v := 0) hF (dck_at tX7_gone 62 rfl) (by decide) ?_
            refine g_iadd hF (dck_at tX7_gone 63 rfl) ?_
            refine g_istore (L' := [some (.ref 70), some (.int x1), some (.int x2), some (.int x3), some (.int x4), some (.int x5), some (.int (x6 + (0 : Int32))), some (.int o96), some (.int x8), some (.int (if ((x5 >>> (x8 &&& 31)) &&& (1 : Int32)) = (1 : Int32) then (1 : Int32) else (0 : Int32)))]) hF (dck_at tX7_gone 64 rfl) (Nat.le_of_ble_eq_true rfl) rfl ?_
            refine g_iinc (v := 1) (L' := [some (.ref 70), some (.int x1), some (.int x2), some (.int x3), some (.int x4), some (.int x5), some (.int (x6 + (0 : Int32))), some (.int o96), some (.int (x8 + (1 : Int32))), some (.int (if ((x5 >>> (x8 &&& 31)) &&& (1 : Int32)) = (1 : Int32) then (1 : Int32) else (0 : Int32)))]) hF (dck_at tX7_gone 65 rfl) rfl (by decide) rfl ?_
            refine g_goto hF 47 (dck_at tX7_gone 66 rfl) (by decide) ?_
            refine g_msk [true, true, true, true, true, true, true, true, true, false] (L' := [some (.ref 70), some (.int x1), some (.int x2), some (.int x3), some (.int x4), some (.int x5), some (.int (x6 + (0 : Int32))), some (.int o96), some (.int (x8 + (1 : Int32))), none]) rfl ?_
            exact ih _ _ _ _ h K
          · replace h := ite_f hc102 h
            refine g_aload_n hF (dck_at tX7_gone 55 rfl) rfl ?_
            refine gf_X7_19 hF (hM 70 (by decide) (by decide)) kdc_70 lnc_70 (dck_at tX7_gone 56 rfl) ?_
            refine g_bipush (v := 6) hF (dck_at tX7_gone 57 rfl) (by decide) ?_
            refine g_iload hF (dck_at tX7_gone 58 rfl) rfl ?_
            refine g_iadd hF (dck_at tX7_gone 59 rfl) ?_
            obtain ⟨hg114, h⟩ := gd h
            refine g_ia hF (hM 74 (by decide) (by decide)) kdc_74 lnc_74 hg114 (dck_at tX7_gone 60 rfl) ?_
            show G X F 115 _ _ _
            refine g_goto hF 119 (dck_at tX7_gone 61 rfl) (by decide) ?_
            refine g_iadd hF (dck_at tX7_gone 63 rfl) ?_
            refine g_istore (L' := [some (.ref 70), some (.int x1), some (.int x2), some (.int x3), some (.int x4), some (.int x5), some (.int (x6 + (M 74 ((6 : Int32) + x8).toNatClampNeg))), some (.int o96), some (.int x8), some (.int (if ((x5 >>> (x8 &&& 31)) &&& (1 : Int32)) = (1 : Int32) then (1 : Int32) else (0 : Int32)))]) hF (dck_at tX7_gone 64 rfl) (Nat.le_of_ble_eq_true rfl) rfl ?_
            refine g_iinc (v := 1) (L' := [some (.ref 70), some (.int x1), some (.int x2), some (.int x3), some (.int x4), some (.int x5), some (.int (x6 + (M 74 ((6 : Int32) + x8).toNatClampNeg))), some (.int o96), some (.int (x8 + (1 : Int32))), some (.int (if ((x5 >>> (x8 &&& 31)) &&& (1 : Int32)) = (1 : Int32) then (1 : Int32) else (0 : Int32)))]) hF (dck_at tX7_gone 65 rfl) rfl (by decide) rfl ?_
            refine g_goto hF 47 (dck_at tX7_gone 66 rfl) (by decide) ?_
            refine g_msk [true, true, true, true, true, true, true, true, true, false] (L' := [some (.ref 70), some (.int x1), some (.int x2), some (.int x3), some (.int x4), some (.int x5), some (.int (x6 + (M 74 ((6 : Int32) + x8).toNatClampNeg))), some (.int o96), some (.int (x8 + (1 : Int32))), none]) rfl ?_
            exact ih _ _ _ _ h K
        replace h := h96
        refine g_if_eq hF 95 (dck_at tX7_gone 41 rfl) (by decide) (fun hc74 => ?_) (fun hc74 => ?_)
        · replace h := ite_t hc74 h
          refine g_iconst (v := 0) hF (dck_at tX7_gone 50 rfl) (by decide) ?_
          cases h
          refine g_msk [true, true, true, true, true, true, true, false, true, true] (L' := [some (.ref 70), some (.int x1), some (.int x2), some (.int x3), some (.int x4), some (.int x5), some (.int x6), none, some (.int x8), some (.int (if ((x5 >>> (x8 &&& 31)) &&& (1 : Int32)) = (1 : Int32) then (1 : Int32) else (0 : Int32)))]) rfl ?_
          exact K96
        · replace h := ite_f hc74 h
          refine g_iload hF (dck_at tX7_gone 42 rfl) rfl ?_
          refine g_if_eq hF 91 (dck_at tX7_gone 43 rfl) (by decide) (fun hc79 => ?_) (fun hc79 => ?_)
          · replace h := ite_t hc79 h
            refine g_iconst (v := 1) hF (dck_at tX7_gone 48 rfl) (by decide) ?_
            refine g_goto hF 96 (dck_at tX7_gone 49 rfl) (by decide) ?_
            cases h
            refine g_msk [true, true, true, true, true, true, true, false, true, true] (L' := [some (.ref 70), some (.int x1), some (.int x2), some (.int x3), some (.int x4), some (.int x5), some (.int x6), none, some (.int x8), some (.int (if ((x5 >>> (x8 &&& 31)) &&& (1 : Int32)) = (1 : Int32) then (1 : Int32) else (0 : Int32)))]) rfl ?_
            exact K96
          · replace h := ite_f hc79 h
            refine g_aload_n hF (dck_at tX7_gone 44 rfl) rfl ?_
            refine g_iload hF (dck_at tX7_gone 45 rfl) rfl ?_
            obtain ⟨q85, e85, h⟩ := bd h
            refine g_callV hF (as := [.int x8]) (k := 70) rfl (by decide) wm_X7_120 wi_X7_claps we_X7_claps wc_X7_claps wn_X7 hyX7_claps (by decide) (hM 70 (by decide) (by decide)) kdc_70 (c_X7_claps hF.2.2.2.2.2.2.2.1 hM e85) (by decide) rfl rfl rfl rfl (dck_at tX7_gone 46 rfl) ?_
            show G X F 88 _ [.int q85] M
            refine g_if_eq hF 95 (dck_at tX7_gone 47 rfl) (by decide) (fun hc88 => ?_) (fun hc88 => ?_)
            · replace h := ite_t hc88 h
              refine g_iconst (v := 0) hF (dck_at tX7_gone 50 rfl) (by decide) ?_
              cases h
              refine g_msk [true, true, true, true, true, true, true, false, true, true] (L' := [some (.ref 70), some (.int x1), some (.int x2), some (.int x3), some (.int x4), some (.int x5), some (.int x6), none, some (.int x8), some (.int (if ((x5 >>> (x8 &&& 31)) &&& (1 : Int32)) = (1 : Int32) then (1 : Int32) else (0 : Int32)))]) rfl ?_
              exact K96
            · replace h := ite_f hc88 h
              refine g_iconst (v := 1) hF (dck_at tX7_gone 48 rfl) (by decide) ?_
              refine g_goto hF 96 (dck_at tX7_gone 49 rfl) (by decide) ?_
              cases h
              refine g_msk [true, true, true, true, true, true, true, false, true, true] (L' := [some (.ref 70), some (.int x1), some (.int x2), some (.int x3), some (.int x4), some (.int x5), some (.int x6), none, some (.int x8), some (.int (if ((x5 >>> (x8 &&& 31)) &&& (1 : Int32)) = (1 : Int32) then (1 : Int32) else (0 : Int32)))]) rfl ?_
              exact K96
      refine g_icmp_ne hF 69 (dck_at tX7_gone 35 rfl) (by decide) (fun hc62 => ?_) (fun hc62 => ?_)
      · refine g_iconst (v := 0) hF (dck_at tX7_gone 38 rfl) (by decide) ?_
        simp only [if_neg hc62] at K70
        exact K70
      · refine g_iconst (v := 1) hF (dck_at tX7_gone 36 rfl) (by decide) ?_
        refine g_goto hF 70 (dck_at tX7_gone 37 rfl) (by decide) ?_
        simp only [if_pos hc62] at K70
        exact K70
set_option maxHeartbeats 4000000 in
set_option maxRecDepth 100000 in
theorem g_X7_gone_L33 {X : Cx} {F : Fx} (hM : SM X) (hF : FK X F cX7_gone RX7 10 5) (N : Nat) (M : Mem) (x1 : Int32) (x2 : Int32) : ∀ (n : Nat) (x3 : Int32) (x4 : Int32) (x5 : Int32) (o : Int32 × Int32 × Int32), f_X7_gone_L33 N M x1 x2 n x3 x4 x5 = some o → G X F 179 [none, none, some (.int x2), some (.int o.1), some (.int o.2.1), none, none, none, none, none] [] M → G X F 33 [some (.ref 70), some (.int x1), some (.int x2), some (.int x3), some (.int x4), some (.int x5), none, none, none, none] [] M := by
  intro n
  induction n with
  | zero =>
    intro x3 x4 x5 o h K
    cases h
  | succ n ih =>
    intro x3 x4 x5 o h K
    rw [f_X7_gone_L33] at h
    refine g_iload hF (dck_at tX7_gone 18 rfl) rfl ?_
    refine g_if_lt hF 179 (dck_at tX7_gone 19 rfl) (by decide) (fun hc35 => ?_) (fun hc35 => ?_)
    · replace h := ite_t hc35 h
      refine g_msk [false, false, true, true, true, false, true, true, true, true] (L' := [none, none, some (.int x2), some (.int x3), some (.int x4), none, none, none, none, none]) rfl ?_
      cases h
      exact K
    · replace h := ite_f hc35 h
      refine g_iconst (v := 0) hF (dck_at tX7_gone 20 rfl) (by decide) ?_
      refine g_istore (L' := [some (.ref 70), some (.int x1), some (.int x2), some (.int x3), some (.int x4), some (.int x5), some (.int (0 : Int32)), none, none, none]) hF (dck_at tX7_gone 21 rfl) (Nat.le_of_ble_eq_true rfl) rfl ?_
      refine g_iconst (v := 1) hF (dck_at tX7_gone 22 rfl) (by decide) ?_
      refine g_istore (L' := [some (.ref 70), some (.int x1), some (.int x2), some (.int x3), some (.int x4), some (.int x5), some (.int (0 : Int32)), some (.int (1 : Int32)), none, none]) hF (dck_at tX7_gone 23 rfl) (Nat.le_of_ble_eq_true rfl) rfl ?_
      refine g_iconst (v := 0) hF (dck_at tX7_gone 24 rfl) (by decide) ?_
      refine g_istore (L' := [some (.ref 70), some (.int x1), some (.int x2), some (.int x3), some (.int x4), some (.int x5), some (.int (0 : Int32)), some (.int (1 : Int32)), some (.int (0 : Int32)), none]) hF (dck_at tX7_gone 25 rfl) (Nat.le_of_ble_eq_true rfl) rfl ?_
      obtain ⟨o47, e47, h⟩ := bd h
      refine g_X7_gone_L47 hM hF N _ _ _ _ _ _ N _ _ _ _ e47 ?_
      refine g_iload hF (dck_at tX7_gone 67 rfl) rfl ?_
      have K144 : G X F 144 [some (.ref 70), some (.int x1), some (.int x2), some (.int x3), some (.int x4), some (.int x5), none, none, none, none] [.int (if o47.2.1 = 0 then (0 : Int32) else (if o47.1 = x1 then (1 : Int32) else (0 : Int32)))] M := by
        refine g_istore (L' := [some (.ref 70), some (.int x1), some (.int x2), some (.int x3), some (.int x4), some (.int x5), none, some (.int (if o47.2.1 = 0 then (0 : Int32) else (if o47.1 = x1 then (1 : Int32) else (0 : Int32)))), none, none]) hF (dck_at tX7_gone 75 rfl) (Nat.le_of_ble_eq_true rfl) rfl ?_
        refine g_iload_n hF (dck_at tX7_gone 76 rfl) rfl ?_
        refine g_iload hF (dck_at tX7_gone 77 rfl) rfl ?_
        have K157 : G X F 157 [some (.ref 70), some (.int x1), some (.int x2), none, some (.int x4), some (.int x5), none, some (.int (if o47.2.1 = 0 then (0 : Int32) else (if o47.1 = x1 then (1 : Int32) else (0 : Int32)))), none, none] [.int (if (if o47.2.1 = 0 then (0 : Int32) else (if o47.1 = x1 then (1 : Int32) else (0 : Int32))) = 0 then (0 : Int32) else (1 : Int32)), .int x3] M := by
          refine g_iadd hF (dck_at tX7_gone 82 rfl) ?_
          refine g_istore_n (L' := [some (.ref 70), some (.int x1), some (.int x2), some (.int (x3 + (if (if o47.2.1 = 0 then (0 : Int32) else (if o47.1 = x1 then (1 : Int32) else (0 : Int32))) = 0 then (0 : Int32) else (1 : Int32)))), some (.int x4), some (.int x5), none, some (.int (if o47.2.1 = 0 then (0 : Int32) else (if o47.1 = x1 then (1 : Int32) else (0 : Int32)))), none, none]) hF (dck_at tX7_gone 83 rfl) (Nat.le_of_ble_eq_true rfl) rfl ?_
          refine g_iload hF (dck_at tX7_gone 84 rfl) rfl ?_
          refine g_if_eq hF 169 (dck_at tX7_gone 85 rfl) (by decide) (fun hc161 => ?_) (fun hc161 => ?_)
          · replace h := ite_t hc161 h
            refine g_iload hF (dck_at tX7_gone 88 rfl) rfl ?_
            refine g_istore (L' := [some (.ref 70), some (.int x1), some (.int x2), some (.int (x3 + (if (if o47.2.1 = 0 then (0 : Int32) else (if o47.1 = x1 then (1 : Int32) else (0 : Int32))) = 0 then (0 : Int32) else (1 : Int32)))), some (.int x4), some (.int x5), none, some (.int (if o47.2.1 = 0 then (0 : Int32) else (if o47.1 = x1 then (1 : Int32) else (0 : Int32)))), none, none]) hF (dck_at tX7_gone 89 rfl) (Nat.le_of_ble_eq_true rfl) rfl ?_
            refine g_iinc (v := -1) (L' := [some (.ref 70), some (.int x1), some (.int x2), some (.int (x3 + (if (if o47.2.1 = 0 then (0 : Int32) else (if o47.1 = x1 then (1 : Int32) else (0 : Int32))) = 0 then (0 : Int32) else (1 : Int32)))), some (.int x4), some (.int (x5 + (-1 : Int32))), none, some (.int (if o47.2.1 = 0 then (0 : Int32) else (if o47.1 = x1 then (1 : Int32) else (0 : Int32)))), none, none]) hF (dck_at tX7_gone 90 rfl) rfl (by decide) rfl ?_
            refine g_goto hF 33 (dck_at tX7_gone 91 rfl) (by decide) ?_
            refine g_msk [true, true, true, true, true, true, true, false, true, true] (L' := [some (.ref 70), some (.int x1), some (.int x2), some (.int (x3 + (if (if o47.2.1 = 0 then (0 : Int32) else (if o47.1 = x1 then (1 : Int32) else (0 : Int32))) = 0 then (0 : Int32) else (1 : Int32)))), some (.int x4), some (.int (x5 + (-1 : Int32))), none, none, none, none]) rfl ?_
            exact ih _ _ _ _ h K
          · replace h := ite_f hc161 h
            refine g_iload hF (dck_at tX7_gone 86 rfl) rfl ?_
            refine g_goto hF 171 (dck_at tX7_gone 87 rfl) (by decide) ?_
            refine g_istore (L' := [some (.ref 70), some (.int x1), some (.int x2), some (.int (x3 + (if (if o47.2.1 = 0 then (0 : Int32) else (if o47.1 = x1 then (1 : Int32) else (0 : Int32))) = 0 then (0 : Int32) else (1 : Int32)))), some (.int x5), some (.int x5), none, some (.int (if o47.2.1 = 0 then (0 : Int32) else (if o47.1 = x1 then (1 : Int32) else (0 : Int32)))), none, none]) hF (dck_at tX7_gone 89 rfl) (Nat.le_of_ble_eq_true rfl) rfl ?_
            refine g_iinc (v := -1) (L' := [some (.ref 70), some (.int x1), some (.int x2), some (.int (x3 + (if (if o47.2.1 = 0 then (0 : Int32) else (if o47.1 = x1 then (1 : Int32) else (0 : Int32))) = 0 then (0 : Int32) else (1 : Int32)))), some (.int x5), some (.int (x5 + (-1 : Int32))), none, some (.int (if o47.2.1 = 0 then (0 : Int32) else (if o47.1 = x1 then (1 : Int32) else (0 : Int32)))), none, none]) hF (dck_at tX7_gone 90 rfl) rfl (by decide) rfl ?_
            refine g_goto hF 33 (dck_at tX7_gone 91 rfl) (by decide) ?_
            refine g_msk [true, true, true, true, true, true, true, false, true, true] (L' := [some (.ref 70), some (.int x1), some (.int x2), some (.int (x3 + (if (if o47.2.1 = 0 then (0 : Int32) else (if o47.1 = x1 then (1 : Int32) else (0 : Int32))) = 0 then (0 : Int32) else (1 : Int32)))), some (.int x5), some (.int (x5 + (-1 : Int32))), none, none, none, none]) rfl ?_
            exact ih _ _ _ _ h K
        refine g_if_eq hF 156 (dck_at tX7_gone 78 rfl) (by decide) (fun hc149 => ?_) (fun hc149 => ?_)
        · refine g_iconst (v := 0) hF (dck_at tX7_gone 81 rfl) (by decide) ?_
          refine g_msk [true, true, true, false, true, true, true, true, true, true] (L' := [some (.ref 70), some (.int x1), some (.int x2), none, some (.int x4), some (.int x5), none, some (.int (if o47.2.1 = 0 then (0 : Int32) else (if o47.1 = x1 then (1 : Int32) else (0 : Int32)))), none, none]) rfl ?_
          simp only [if_pos hc149] at K157
          exact K157
        · refine g_iconst (v := 1) hF (dck_at tX7_gone 79 rfl) (by decide) ?_
          refine g_goto hF 157 (dck_at tX7_gone 80 rfl) (by decide) ?_
          refine g_msk [true, true, true, false, true, true, true, true, true, true] (L' := [some (.ref 70), some (.int x1), some (.int x2), none, some (.int x4), some (.int x5), none, some (.int (if o47.2.1 = 0 then (0 : Int32) else (if o47.1 = x1 then (1 : Int32) else (0 : Int32)))), none, none]) rfl ?_
          simp only [if_neg hc149] at K157
          exact K157
      refine g_if_eq hF 143 (dck_at tX7_gone 68 rfl) (by decide) (fun hc130 => ?_) (fun hc130 => ?_)
      · refine g_iconst (v := 0) hF (dck_at tX7_gone 74 rfl) (by decide) ?_
        refine g_msk [true, true, true, true, true, true, false, false, true, true] (L' := [some (.ref 70), some (.int x1), some (.int x2), some (.int x3), some (.int x4), some (.int x5), none, none, none, none]) rfl ?_
        simp only [if_pos hc130] at K144
        exact K144
      · refine g_iload hF (dck_at tX7_gone 69 rfl) rfl ?_
        refine g_iload_n hF (dck_at tX7_gone 70 rfl) rfl ?_
        refine g_icmp_ne hF 143 (dck_at tX7_gone 71 rfl) (by decide) (fun hc136 => ?_) (fun hc136 => ?_)
        · refine g_iconst (v := 0) hF (dck_at tX7_gone 74 rfl) (by decide) ?_
          refine g_msk [true, true, true, true, true, true, false, false, true, true] (L' := [some (.ref 70), some (.int x1), some (.int x2), some (.int x3), some (.int x4), some (.int x5), none, none, none, none]) rfl ?_
          simp only [if_neg hc130, if_neg hc136] at K144
          exact K144
        · refine g_iconst (v := 1) hF (dck_at tX7_gone 72 rfl) (by decide) ?_
          refine g_goto hF 144 (dck_at tX7_gone 73 rfl) (by decide) ?_
          refine g_msk [true, true, true, true, true, true, false, false, true, true] (L' := [some (.ref 70), some (.int x1), some (.int x2), some (.int x3), some (.int x4), some (.int x5), none, none, none, none]) rfl ?_
          simp only [if_neg hc130, if_pos hc136] at K144
          exact K144
set_option maxHeartbeats 4000000 in
set_option maxRecDepth 100000 in
theorem c_X7_gone {X : Cx} {l : Launch} (hX : CxOk X) (hM : SM X) {N : Nat} {M : Mem} {x1 : Int32} {x2 : Int32} {r : Int32} (h : f_X7_gone N M x1 x2 = some r) : Ctr X l yX7_gone cX7_gone 10 (some .int) 5 [.ref 70, .int x1, .int x2] M (some (.int r)) M := by
  refine Ctr.ofG (L := [some (.ref 70), some (.int x1), some (.int x2), none, none, none, none, none, none, none]) hX (by decide) (Nat.le_of_ble_eq_true rfl) rfl (fun F hF hl hR => ?_)
  subst hl
  unfold f_X7_gone at h
  refine g_iload_n hF (dck_at tX7_gone 0 rfl) rfl ?_
  refine g_iconst (v := 0) hF (dck_at tX7_gone 1 rfl) (by decide) ?_
  refine g_sipush (v := 400) hF (dck_at tX7_gone 2 rfl) (by decide) ?_
  obtain ⟨q5, e5, h⟩ := bd h
  refine g_callS hF (as := [.int x1, .int (0 : Int32), .int (400 : Int32)]) wm_X7_53 wt_X7_in wc_X7_in wn_X7 hyX7_in (by decide) (c_X7_in hF.2.2.2.2.2.2.2.1 e5) (by decide) rfl rfl rfl rfl (dck_at tX7_gone 3 rfl) ?_
  show G X F 8 _ [.int q5] M
  refine g_if_eq hF 20 (dck_at tX7_gone 4 rfl) (by decide) (fun hc8 => ?_) (fun hc8 => ?_)
  · replace h := ite_t hc8 h
    refine g_bipush (v := -3) hF (dck_at tX7_gone 10 rfl) (by decide) ?_
    cases h
    exact g_iret hF hR (dck_at tX7_gone 11 rfl)
  · replace h := ite_f hc8 h
    refine g_iload_n hF (dck_at tX7_gone 5 rfl) rfl ?_
    refine g_iconst (v := 0) hF (dck_at tX7_gone 6 rfl) (by decide) ?_
    refine g_iconst (v := 1) hF (dck_at tX7_gone 7 rfl) (by decide) ?_
    obtain ⟨q14, e14, h⟩ := bd h
    refine g_callS hF (as := [.int x2, .int (0 : Int32), .int (1 : Int32)]) wm_X7_53 wt_X7_in wc_X7_in wn_X7 hyX7_in (by decide) (c_X7_in hF.2.2.2.2.2.2.2.1 e14) (by decide) rfl rfl rfl rfl (dck_at tX7_gone 8 rfl) ?_
    show G X F 17 _ [.int q14] M
    refine g_if_ne hF 23 (dck_at tX7_gone 9 rfl) (by decide) (fun hc17 => ?_) (fun hc17 => ?_)
    · replace h := ite_f hc17 h
      refine g_iconst (v := 0) hF (dck_at tX7_gone 12 rfl) (by decide) ?_
      refine g_istore_n (L' := [some (.ref 70), some (.int x1), some (.int x2), some (.int (0 : Int32)), none, none, none, none, none, none]) hF (dck_at tX7_gone 13 rfl) (Nat.le_of_ble_eq_true rfl) rfl ?_
      refine g_iconst (v := -1) hF (dck_at tX7_gone 14 rfl) (by decide) ?_
      refine g_istore (L' := [some (.ref 70), some (.int x1), some (.int x2), some (.int (0 : Int32)), some (.int (-1 : Int32)), none, none, none, none, none]) hF (dck_at tX7_gone 15 rfl) (Nat.le_of_ble_eq_true rfl) rfl ?_
      refine g_sipush (v := 255) hF (dck_at tX7_gone 16 rfl) (by decide) ?_
      refine g_istore (L' := [some (.ref 70), some (.int x1), some (.int x2), some (.int (0 : Int32)), some (.int (-1 : Int32)), some (.int (255 : Int32)), none, none, none, none]) hF (dck_at tX7_gone 17 rfl) (Nat.le_of_ble_eq_true rfl) rfl ?_
      obtain ⟨o33, e33, h⟩ := bd h
      refine g_X7_gone_L33 hM hF N _ _ _ N _ _ _ _ e33 ?_
      refine g_iload_n hF (dck_at tX7_gone 92 rfl) rfl ?_
      refine g_if_ne hF 187 (dck_at tX7_gone 93 rfl) (by decide) (fun hc180 => ?_) (fun hc180 => ?_)
      · replace h := ite_f hc180 h
        refine g_iload hF (dck_at tX7_gone 96 rfl) rfl ?_
        cases h
        exact g_iret hF hR (dck_at tX7_gone 97 rfl)
      · replace h := ite_t hc180 h
        refine g_iload_n hF (dck_at tX7_gone 94 rfl) rfl ?_
        refine g_goto hF 189 (dck_at tX7_gone 95 rfl) (by decide) ?_
        cases h
        exact g_iret hF hR (dck_at tX7_gone 97 rfl)
    · replace h := ite_t hc17 h
      refine g_bipush (v := -3) hF (dck_at tX7_gone 10 rfl) (by decide) ?_
      cases h
      exact g_iret hF hR (dck_at tX7_gone 11 rfl)

def tbX7_prepared : List (Nat × Instr × Nat) := [(0, .iload_n 1, 1), (1, .iconst 0, 1), (2, .iconst 1, 1), (3, .invokestatic 53, 3), (6, .ifCond .ne 6, 3), (9, .bipush (-3), 2), (11, .ireturn, 1), (12, .iconst 0, 1), (13, .istore_n 2, 1), (14, .iconst 0, 1), (15, .istore_n 3, 1), (16, .iconst 0, 1), (17, .istore 4, 2), (19, .iload 4, 2), (21, .iconst 1, 1), (22, .aload_n 0, 1), (23, .getfield 13, 3), (26, .iconst 1, 1), (27, .iaload, 1), (28, .ishl, 1), (29, .if_icmp .ge 149, 3), (32, .iconst 0, 1), (33, .istore 5, 2), (35, .iconst 0, 1), (36, .istore 6, 2), (38, .iconst 0, 1), (39, .istore 7, 2), (41, .iload 7, 2), (43, .aload_n 0, 1), (44, .getfield 13, 3), (47, .iconst 1, 1), (48, .iaload, 1), (49, .if_icmp .ge 75, 3), (52, .iload 4, 2), (54, .iload 7, 2), (56, .ishr, 1), (57, .iconst 1, 1), (58, .iand, 1), (59, .iconst 1, 1), (60, .if_icmp .ne 7, 3), (63, .iconst 1, 1), (64, .goto 4, 3), (67, .iconst 0, 1), (68, .istore 8, 2), (70, .iload 5, 2), (72, .iload 8, 2), (74, .ifCond .eq 16, 3), (77, .aload_n 0, 1), (78, .getfield 13, 3), (81, .bipush 37, 2), (83, .iload 7, 2), (85, .iadd, 1), (86, .iaload, 1), (87, .goto 4, 3), (90, .iconst 0, 1), (91, .iadd, 1), (92, .istore 5, 2), (94, .iload 6, 2), (96, .iload 8, 2), (98, .ifCond .eq 16, 3), (101, .aload_n 0, 1), (102, .getfield 13, 3), (105, .bipush 41, 2), (107, .iload 7, 2), (109, .iadd, 1), (110, .iaload, 1), (111, .goto 4, 3), (114, .iconst 0, 1), (115, .iadd, 1), (116, .istore 6, 2), (118, .iinc 7 1, 3), (121, .goto (-80), 3), (124, .iload 5, 2), (126, .aload_n 0, 1), (127, .getfield 19, 3), (130, .iconst 1, 1), (131, .iaload, 1), (132, .if_icmp .gt 13, 3), (135, .iload 6, 2), (137, .iload_n 2, 1), (138, .if_icmp .le 7, 3), (141, .iconst 1, 1), (142, .goto 4, 3), (145, .iconst 0, 1), (146, .istore 7, 2), (148, .iload 7, 2), (150, .ifCond .eq 8, 3), (153, .iload 4, 2), (155, .goto 4, 3), (158, .iload_n 3, 1), (159, .istore_n 3, 1), (160, .iload 7, 2), (162, .ifCond .eq 8, 3), (165, .iload 6, 2), (167, .goto 4, 3), (170, .iload_n 2, 1), (171, .istore_n 2, 1), (172, .iinc 4 1, 3), (175, .goto (-156), 3), (178, .iload_n 1, 1), (179, .ifCond .ne 7, 3), (182, .iload_n 2, 1), (183, .goto 4, 3), (186, .iload_n 3, 1), (187, .ireturn, 1)]
theorem tX7_prepared : dck cX7_prepared tbX7_prepared = true := by decide +kernel
def f_X7_prepared_L41 (N : Nat) (M : Mem) (x1 : Int32) (x2 : Int32) (x3 : Int32) (x4 : Int32) : Nat → Int32 → Int32 → Int32 → Option (Int32 × Int32 × Int32)
  | 0, _, _, _ => none
  | n + 1, x5, x6, x7 => (if (M 72 1) ≤ x7 then some (x5, x6, x7) else ((if (if ((x4 >>> (x7 &&& 31)) &&& (1 : Int32)) = (1 : Int32) then (1 : Int32) else (0 : Int32)) = 0 then some (0 : Int32) else if inb ((37 : Int32) + x7) 45 = true then some (M 72 ((37 : Int32) + x7).toNatClampNeg) else none).bind fun o91 => (if (if ((x4 >>> (x7 &&& 31)) &&& (1 : Int32)) = (1 : Int32) then (1 : Int32) else (0 : Int32)) = 0 then f_X7_prepared_L41 N M x1 x2 x3 x4 n (x5 + o91) (x6 + (0 : Int32)) (x7 + (1 : Int32)) else if inb ((41 : Int32) + x7) 45 = true then f_X7_prepared_L41 N M x1 x2 x3 x4 n (x5 + o91) (x6 + (M 72 ((41 : Int32) + x7).toNatClampNeg)) (x7 + (1 : Int32)) else none)))
def f_X7_prepared_L19 (N : Nat) (M : Mem) (x1 : Int32) : Nat → Int32 → Int32 → Int32 → Option (Int32 × Int32 × Int32)
  | 0, _, _, _ => none
  | n + 1, x2, x3, x4 => (if ((1 : Int32) <<< ((M 72 1) &&& 31)) ≤ x4 then some (x2, x3, x4) else (f_X7_prepared_L41 N M x1 x2 x3 x4 N (0 : Int32) (0 : Int32) (0 : Int32)).bind fun o41 => (if (if (M 74 1) < o41.1 then (0 : Int32) else (if o41.2.1 ≤ x2 then (0 : Int32) else (1 : Int32))) = 0 then f_X7_prepared_L19 N M x1 n x2 (if (if (M 74 1) < o41.1 then (0 : Int32) else (if o41.2.1 ≤ x2 then (0 : Int32) else (1 : Int32))) = 0 then x3 else x4) (x4 + (1 : Int32)) else f_X7_prepared_L19 N M x1 n o41.2.1 (if (if (M 74 1) < o41.1 then (0 : Int32) else (if o41.2.1 ≤ x2 then (0 : Int32) else (1 : Int32))) = 0 then x3 else x4) (x4 + (1 : Int32))))
def f_X7_prepared (N : Nat) (M : Mem) (x1 : Int32) : Option Int32 := (f_X7_in N M x1 (0 : Int32) (1 : Int32)).bind fun q3 => (if q3 = 0 then some (-3 : Int32) else (f_X7_prepared_L19 N M x1 N (0 : Int32) (0 : Int32) (0 : Int32)).bind fun o19 => (if x1 = 0 then some o19.1 else some o19.2.1))
set_option maxHeartbeats 4000000 in
set_option maxRecDepth 100000 in
theorem g_X7_prepared_L41 {X : Cx} {F : Fx} (hM : SM X) (hF : FK X F cX7_prepared RX7 9 2) (N : Nat) (M : Mem) (x1 : Int32) (x2 : Int32) (x3 : Int32) (x4 : Int32) : ∀ (n : Nat) (x5 : Int32) (x6 : Int32) (x7 : Int32) (o : Int32 × Int32 × Int32), f_X7_prepared_L41 N M x1 x2 x3 x4 n x5 x6 x7 = some o → G X F 124 [some (.ref 70), some (.int x1), some (.int x2), some (.int x3), some (.int x4), some (.int o.1), some (.int o.2.1), none, none] [] M → G X F 41 [some (.ref 70), some (.int x1), some (.int x2), some (.int x3), some (.int x4), some (.int x5), some (.int x6), some (.int x7), none] [] M := by
  intro n
  induction n with
  | zero =>
    intro x5 x6 x7 o h K
    cases h
  | succ n ih =>
    intro x5 x6 x7 o h K
    rw [f_X7_prepared_L41] at h
    refine g_iload hF (dck_at tX7_prepared 27 rfl) rfl ?_
    refine g_aload_n hF (dck_at tX7_prepared 28 rfl) rfl ?_
    refine gf_X7_13 hF (hM 70 (by decide) (by decide)) kdc_70 lnc_70 (dck_at tX7_prepared 29 rfl) ?_
    refine g_iconst (v := 1) hF (dck_at tX7_prepared 30 rfl) (by decide) ?_
    refine g_iac (j := 1) hF (hM 72 (by decide) (by decide)) kdc_72 lnc_72 (by decide) (by decide) (dck_at tX7_prepared 31 rfl) ?_
    refine g_icmp_ge hF 124 (dck_at tX7_prepared 32 rfl) (by decide) (fun hc49 => ?_) (fun hc49 => ?_)
    · replace h := ite_t hc49 h
      refine g_msk [true, true, true, true, true, true, true, false, true] (L' := [some (.ref 70), some (.int x1), some (.int x2), some (.int x3), some (.int x4), some (.int x5), some (.int x6), none, none]) rfl ?_
      cases h
      exact K
    · replace h := ite_f hc49 h
      refine g_iload hF (dck_at tX7_prepared 33 rfl) rfl ?_
      refine g_iload hF (dck_at tX7_prepared 34 rfl) rfl ?_
      refine g_ishr hF (dck_at tX7_prepared 35 rfl) ?_
      refine g_iconst (v := 1) hF (dck_at tX7_prepared 36 rfl) (by decide) ?_
      refine g_iand hF (dck_at tX7_prepared 37 rfl) ?_
      refine g_iconst (v := 1) hF (dck_at tX7_prepared 38 rfl) (by decide) ?_
      show G X F 60 _ _ _
      have K68 : G X F 68 [some (.ref 70), some (.int x1), some (.int x2), some (.int x3), some (.int x4), some (.int x5), some (.int x6), some (.int x7), none] [.int (if ((x4 >>> (x7 &&& 31)) &&& (1 : Int32)) = (1 : Int32) then (1 : Int32) else (0 : Int32))] M := by
        refine g_istore (L' := [some (.ref 70), some (.int x1), some (.int x2), some (.int x3), some (.int x4), some (.int x5), some (.int x6), some (.int x7), some (.int (if ((x4 >>> (x7 &&& 31)) &&& (1 : Int32)) = (1 : Int32) then (1 : Int32) else (0 : Int32)))]) hF (dck_at tX7_prepared 43 rfl) (Nat.le_of_ble_eq_true rfl) rfl ?_
        refine g_iload hF (dck_at tX7_prepared 44 rfl) rfl ?_
        refine g_iload hF (dck_at tX7_prepared 45 rfl) rfl ?_
        obtain ⟨o91, h91, h⟩ := bd h
        have K91 : G X F 91 [some (.ref 70), some (.int x1), some (.int x2), some (.int x3), some (.int x4), none, some (.int x6), some (.int x7), some (.int (if ((x4 >>> (x7 &&& 31)) &&& (1 : Int32)) = (1 : Int32) then (1 : Int32) else (0 : Int32)))] [.int o91, .int x5] M := by
          refine g_iadd hF (dck_at tX7_prepared 55 rfl) ?_
          refine g_istore (L' := [some (.ref 70), some (.int x1), some (.int x2), some (.int x3), some (.int x4), some (.int (x5 + o91)), some (.int x6), some (.int x7), some (.int (if ((x4 >>> (x7 &&& 31)) &&& (1 : Int32)) = (1 : Int32) then (1 : Int32) else (0 : Int32)))]) hF (dck_at tX7_prepared 56 rfl) (Nat.le_of_ble_eq_true rfl) rfl ?_
          refine g_iload hF (dck_at tX7_prepared 57 rfl) rfl ?_
          refine g_iload hF (dck_at tX7_prepared 58 rfl) rfl ?_
          refine g_if_eq hF 114 (dck_at tX7_prepared 59 rfl) (by decide) (fun hc98 => ?_) (fun hc98 => ?_)
          · replace h := ite_t hc98 h
            refine g_iconst (v := 0) hF (dck_at tX7_prepared 67 rfl) (by decide) ?_
            refine g_iadd hF (dck_at tX7_prepared 68 rfl) ?_
            refine g_istore (L' := [some (.ref 70), some (.int x1), some (.int x2), some (.int x3), some (.int x4), some (.int (x5 + o91)), some (.int (x6 + (0 : Int32))), some (.int x7), some (.int (if ((x4 >>> (x7 &&& 31)) &&& (1 : Int32)) = (1 : Int32) then (1 : Int32) else (0 : Int32)))]) hF (dck_at tX7_prepared 69 rfl) (Nat.le_of_ble_eq_true rfl) rfl ?_
            refine g_iinc (v := 1) (L' := [some (.ref 70), some (.int x1), some (.int x2), some (.int x3), some (.int x4), some (.int (x5 + o91)), some (.int (x6 + (0 : Int32))), some (.int (x7 + (1 : Int32))), some (.int (if ((x4 >>> (x7 &&& 31)) &&& (1 : Int32)) = (1 : Int32) then (1 : Int32) else (0 : Int32)))]) hF (dck_at tX7_prepared 70 rfl) rfl (by decide) rfl ?_
            refine g_goto hF 41 (dck_at tX7_prepared 71 rfl) (by decide) ?_
            refine g_msk [true, true, true, true, true, true, true, true, false] (L' := [some (.ref 70), some (.int x1), some (.int x2), some (.int x3), some (.int x4), some (.int (x5 + o91)), some (.int (x6 + (0 : Int32))), some (.int (x7 + (1 : Int32))), none]) rfl ?_
            exact ih _ _ _ _ h K
          · replace h := ite_f hc98 h
            refine g_aload_n hF (dck_at tX7_prepared 60 rfl) rfl ?_
            refine gf_X7_13 hF (hM 70 (by decide) (by decide)) kdc_70 lnc_70 (dck_at tX7_prepared 61 rfl) ?_
            refine g_bipush (v := 41) hF (dck_at tX7_prepared 62 rfl) (by decide) ?_
            refine g_iload hF (dck_at tX7_prepared 63 rfl) rfl ?_
            refine g_iadd hF (dck_at tX7_prepared 64 rfl) ?_
            obtain ⟨hg110, h⟩ := gd h
            refine g_ia hF (hM 72 (by decide) (by decide)) kdc_72 lnc_72 hg110 (dck_at tX7_prepared 65 rfl) ?_
            show G X F 111 _ _ _
            refine g_goto hF 115 (dck_at tX7_prepared 66 rfl) (by decide) ?_
            refine g_iadd hF (dck_at tX7_prepared 68 rfl) ?_
            refine g_istore (L' := [some (.ref 70), some (.int x1), some (.int x2), some (.int x3), some (.int x4), some (.int (x5 + o91)), some (.int (x6 + (M 72 ((41 : Int32) + x7).toNatClampNeg))), some (.int x7), some (.int (if ((x4 >>> (x7 &&& 31)) &&& (1 : Int32)) = (1 : Int32) then (1 : Int32) else (0 : Int32)))]) hF (dck_at tX7_prepared 69 rfl) (Nat.le_of_ble_eq_true rfl) rfl ?_
            refine g_iinc (v := 1) (L' := [some (.ref 70), some (.int x1), some (.int x2), some (.int x3), some (.int x4), some (.int (x5 + o91)), some (.int (x6 + (M 72 ((41 : Int32) + x7).toNatClampNeg))), some (.int (x7 + (1 : Int32))), some (.int (if ((x4 >>> (x7 &&& 31)) &&& (1 : Int32)) = (1 : Int32) then (1 : Int32) else (0 : Int32)))]) hF (dck_at tX7_prepared 70 rfl) rfl (by decide) rfl ?_
            refine g_goto hF 41 (dck_at tX7_prepared 71 rfl) (by decide) ?_
            refine g_msk [true, true, true, true, true, true, true, true, false] (L' := [some (.ref 70), some (.int x1), some (.int x2), some (.int x3), some (.int x4), some (.int (x5 + o91)), some (.int (x6 + (M 72 ((41 : Int32) + x7).toNatClampNeg))), some (.int (x7 + (1 : Int32))), none]) rfl ?_
            exact ih _ _ _ _ h K
        replace h := h91
        refine g_if_eq hF 90 (dck_at tX7_prepared 46 rfl) (by decide) (fun hc74 => ?_) (fun hc74 => ?_)
        · replace h := ite_t hc74 h
          refine g_iconst (v := 0) hF (dck_at tX7_prepared 54 rfl) (by decide) ?_
          cases h
          refine g_msk [true, true, true, true, true, false, true, true, true] (L' := [some (.ref 70), some (.int x1), some (.int x2), some (.int x3), some (.int x4), none, some (.int x6), some (.int x7), some (.int (if ((x4 >>> (x7 &&& 31)) &&& (1 : Int32)) = (1 : Int32) then (1 : Int32) else (0 : Int32)))]) rfl ?_
          exact K91
        · replace h := ite_f hc74 h
          refine g_aload_n hF (dck_at tX7_prepared 47 rfl) rfl ?_
          refine gf_X7_13 hF (hM 70 (by decide) (by decide)) kdc_70 lnc_70 (dck_at tX7_prepared 48 rfl) ?_
          refine g_bipush (v := 37) hF (dck_at tX7_prepared 49 rfl) (by decide) ?_
          refine g_iload hF (dck_at tX7_prepared 50 rfl) rfl ?_
          refine g_iadd hF (dck_at tX7_prepared 51 rfl) ?_
          obtain ⟨hg86, h⟩ := gd h
          refine g_ia hF (hM 72 (by decide) (by decide)) kdc_72 lnc_72 hg86 (dck_at tX7_prepared 52 rfl) ?_
          show G X F 87 _ _ _
          refine g_goto hF 91 (dck_at tX7_prepared 53 rfl) (by decide) ?_
          cases h
          refine g_msk [true, true, true, true, true, false, true, true, true] (L' := [some (.ref 70), some (.int x1), some (.int x2), some (.int x3), some (.int x4), none, some (.int x6), some (.int x7), some (.int (if ((x4 >>> (x7 &&& 31)) &&& (1 : Int32)) = (1 : Int32) then (1 : Int32) else (0 : Int32)))]) rfl ?_
          exact K91
      refine g_icmp_ne hF 67 (dck_at tX7_prepared 39 rfl) (by decide) (fun hc60 => ?_) (fun hc60 => ?_)
      · refine g_iconst (v := 0) hF (dck_at tX7_prepared 42 rfl) (by decide) ?_
        simp only [if_neg hc60] at K68
        exact K68
      · refine g_iconst (v := 1) hF (dck_at tX7_prepared 40 rfl) (by decide) ?_
        refine g_goto hF 68 (dck_at tX7_prepared 41 rfl) (by decide) ?_
        simp only [if_pos hc60] at K68
        exact K68
set_option maxHeartbeats 4000000 in
set_option maxRecDepth 100000 in
theorem g_X7_prepared_L19 {X : Cx} {F : Fx} (hM : SM X) (hF : FK X F cX7_prepared RX7 9 2) (N : Nat) (M : Mem) (x1 : Int32) : ∀ (n : Nat) (x2 : Int32) (x3 : Int32) (x4 : Int32) (o : Int32 × Int32 × Int32), f_X7_prepared_L19 N M x1 n x2 x3 x4 = some o → G X F 178 [none, some (.int x1), some (.int o.1), some (.int o.2.1), none, none, none, none, none] [] M → G X F 19 [some (.ref 70), some (.int x1), some (.int x2), some (.int x3), some (.int x4), none, none, none, none] [] M := by
  intro n
  induction n with
  | zero =>
    intro x2 x3 x4 o h K
    cases h
  | succ n ih =>
    intro x2 x3 x4 o h K
    rw [f_X7_prepared_L19] at h
    refine g_iload hF (dck_at tX7_prepared 13 rfl) rfl ?_
    refine g_iconst (v := 1) hF (dck_at tX7_prepared 14 rfl) (by decide) ?_
    refine g_aload_n hF (dck_at tX7_prepared 15 rfl) rfl ?_
    refine gf_X7_13 hF (hM 70 (by decide) (by decide)) kdc_70 lnc_70 (dck_at tX7_prepared 16 rfl) ?_
    refine g_iconst (v := 1) hF (dck_at tX7_prepared 17 rfl) (by decide) ?_
    refine g_iac (j := 1) hF (hM 72 (by decide) (by decide)) kdc_72 lnc_72 (by decide) (by decide) (dck_at tX7_prepared 18 rfl) ?_
    show G X F 28 _ _ _
    refine g_ishl hF (dck_at tX7_prepared 19 rfl) ?_
    refine g_icmp_ge hF 178 (dck_at tX7_prepared 20 rfl) (by decide) (fun hc29 => ?_) (fun hc29 => ?_)
    · replace h := ite_t hc29 h
      refine g_msk [false, true, true, true, false, true, true, true, true] (L' := [none, some (.int x1), some (.int x2), some (.int x3), none, none, none, none, none]) rfl ?_
      cases h
      exact K
    · replace h := ite_f hc29 h
      refine g_iconst (v := 0) hF (dck_at tX7_prepared 21 rfl) (by decide) ?_
      refine g_istore (L' := [some (.ref 70), some (.int x1), some (.int x2), some (.int x3), some (.int x4), some (.int (0 : Int32)), none, none, none]) hF (dck_at tX7_prepared 22 rfl) (Nat.le_of_ble_eq_true rfl) rfl ?_
      refine g_iconst (v := 0) hF (dck_at tX7_prepared 23 rfl) (by decide) ?_
      refine g_istore (L' := [some (.ref 70), some (.int x1), some (.int x2), some (.int x3), some (.int x4), some (.int (0 : Int32)), some (.int (0 : Int32)), none, none]) hF (dck_at tX7_prepared 24 rfl) (Nat.le_of_ble_eq_true rfl) rfl ?_
      refine g_iconst (v := 0) hF (dck_at tX7_prepared 25 rfl) (by decide) ?_
      refine g_istore (L' := [some (.ref 70), some (.int x1), some (.int x2), some (.int x3), some (.int x4), some (.int (0 : Int32)), some (.int (0 : Int32)), some (.int (0 : Int32)), none]) hF (dck_at tX7_prepared 26 rfl) (Nat.le_of_ble_eq_true rfl) rfl ?_
      obtain ⟨o41, e41, h⟩ := bd h
      refine g_X7_prepared_L41 hM hF N _ _ _ _ _ N _ _ _ _ e41 ?_
      refine g_iload hF (dck_at tX7_prepared 72 rfl) rfl ?_
      refine g_aload_n hF (dck_at tX7_prepared 73 rfl) rfl ?_
      refine gf_X7_19 hF (hM 70 (by decide) (by decide)) kdc_70 lnc_70 (dck_at tX7_prepared 74 rfl) ?_
      refine g_iconst (v := 1) hF (dck_at tX7_prepared 75 rfl) (by decide) ?_
      refine g_iac (j := 1) hF (hM 74 (by decide) (by decide)) kdc_74 lnc_74 (by decide) (by decide) (dck_at tX7_prepared 76 rfl) ?_
      have K146 : G X F 146 [some (.ref 70), some (.int x1), some (.int x2), some (.int x3), some (.int x4), none, some (.int o41.2.1), none, none] [.int (if (M 74 1) < o41.1 then (0 : Int32) else (if o41.2.1 ≤ x2 then (0 : Int32) else (1 : Int32)))] M := by
        refine g_istore (L' := [some (.ref 70), some (.int x1), some (.int x2), some (.int x3), some (.int x4), none, some (.int o41.2.1), some (.int (if (M 74 1) < o41.1 then (0 : Int32) else (if o41.2.1 ≤ x2 then (0 : Int32) else (1 : Int32)))), none]) hF (dck_at tX7_prepared 84 rfl) (Nat.le_of_ble_eq_true rfl) rfl ?_
        refine g_iload hF (dck_at tX7_prepared 85 rfl) rfl ?_
        have K159 : G X F 159 [some (.ref 70), some (.int x1), some (.int x2), none, some (.int x4), none, some (.int o41.2.1), some (.int (if (M 74 1) < o41.1 then (0 : Int32) else (if o41.2.1 ≤ x2 then (0 : Int32) else (1 : Int32)))), none] [.int (if (if (M 74 1) < o41.1 then (0 : Int32) else (if o41.2.1 ≤ x2 then (0 : Int32) else (1 : Int32))) = 0 then x3 else x4)] M := by
          refine g_istore_n (L' := [some (.ref 70), some (.int x1), some (.int x2), some (.int (if (if (M 74 1) < o41.1 then (0 : Int32) else (if o41.2.1 ≤ x2 then (0 : Int32) else (1 : Int32))) = 0 then x3 else x4)), some (.int x4), none, some (.int o41.2.1), some (.int (if (M 74 1) < o41.1 then (0 : Int32) else (if o41.2.1 ≤ x2 then (0 : Int32) else (1 : Int32)))), none]) hF (dck_at tX7_prepared 90 rfl) (Nat.le_of_ble_eq_true rfl) rfl ?_
          refine g_iload hF (dck_at tX7_prepared 91 rfl) rfl ?_
          refine g_if_eq hF 170 (dck_at tX7_prepared 92 rfl) (by decide) (fun hc162 => ?_) (fun hc162 => ?_)
          · replace h := ite_t hc162 h
            refine g_iload_n hF (dck_at tX7_prepared 95 rfl) rfl ?_
            refine g_istore_n (L' := [some (.ref 70), some (.int x1), some (.int x2), some (.int (if (if (M 74 1) < o41.1 then (0 : Int32) else (if o41.2.1 ≤ x2 then (0 : Int32) else (1 : Int32))) = 0 then x3 else x4)), some (.int x4), none, some (.int o41.2.1), some (.int (if (M 74 1) < o41.1 then (0 : Int32) else (if o41.2.1 ≤ x2 then (0 : Int32) else (1 : Int32)))), none]) hF (dck_at tX7_prepared 96 rfl) (Nat.le_of_ble_eq_true rfl) rfl ?_
            refine g_iinc (v := 1) (L' := [some (.ref 70), some (.int x1), some (.int x2), some (.int (if (if (M 74 1) < o41.1 then (0 : Int32) else (if o41.2.1 ≤ x2 then (0 : Int32) else (1 : Int32))) = 0 then x3 else x4)), some (.int (x4 + (1 : Int32))), none, some (.int o41.2.1), some (.int (if (M 74 1) < o41.1 then (0 : Int32) else (if o41.2.1 ≤ x2 then (0 : Int32) else (1 : Int32)))), none]) hF (dck_at tX7_prepared 97 rfl) rfl (by decide) rfl ?_
            refine g_goto hF 19 (dck_at tX7_prepared 98 rfl) (by decide) ?_
            refine g_msk [true, true, true, true, true, true, false, false, true] (L' := [some (.ref 70), some (.int x1), some (.int x2), some (.int (if (if (M 74 1) < o41.1 then (0 : Int32) else (if o41.2.1 ≤ x2 then (0 : Int32) else (1 : Int32))) = 0 then x3 else x4)), some (.int (x4 + (1 : Int32))), none, none, none, none]) rfl ?_
            exact ih _ _ _ _ h K
          · replace h := ite_f hc162 h
            refine g_iload hF (dck_at tX7_prepared 93 rfl) rfl ?_
            refine g_goto hF 171 (dck_at tX7_prepared 94 rfl) (by decide) ?_
            refine g_istore_n (L' := [some (.ref 70), some (.int x1), some (.int o41.2.1), some (.int (if (if (M 74 1) < o41.1 then (0 : Int32) else (if o41.2.1 ≤ x2 then (0 : Int32) else (1 : Int32))) = 0 then x3 else x4)), some (.int x4), none, some (.int o41.2.1), some (.int (if (M 74 1) < o41.1 then (0 : Int32) else (if o41.2.1 ≤ x2 then (0 : Int32) else (1 : Int32)))), none]) hF (dck_at tX7_prepared 96 rfl) (Nat.le_of_ble_eq_true rfl) rfl ?_
            refine g_iinc (v := 1) (L' := [some (.ref 70), some (.int x1), some (.int o41.2.1), some (.int (if (if (M 74 1) < o41.1 then (0 : Int32) else (if o41.2.1 ≤ x2 then (0 : Int32) else (1 : Int32))) = 0 then x3 else x4)), some (.int (x4 + (1 : Int32))), none, some (.int o41.2.1), some (.int (if (M 74 1) < o41.1 then (0 : Int32) else (if o41.2.1 ≤ x2 then (0 : Int32) else (1 : Int32)))), none]) hF (dck_at tX7_prepared 97 rfl) rfl (by decide) rfl ?_
            refine g_goto hF 19 (dck_at tX7_prepared 98 rfl) (by decide) ?_
            refine g_msk [true, true, true, true, true, true, false, false, true] (L' := [some (.ref 70), some (.int x1), some (.int o41.2.1), some (.int (if (if (M 74 1) < o41.1 then (0 : Int32) else (if o41.2.1 ≤ x2 then (0 : Int32) else (1 : Int32))) = 0 then x3 else x4)), some (.int (x4 + (1 : Int32))), none, none, none, none]) rfl ?_
            exact ih _ _ _ _ h K
        refine g_if_eq hF 158 (dck_at tX7_prepared 86 rfl) (by decide) (fun hc150 => ?_) (fun hc150 => ?_)
        · refine g_iload_n hF (dck_at tX7_prepared 89 rfl) rfl ?_
          refine g_msk [true, true, true, false, true, true, true, true, true] (L' := [some (.ref 70), some (.int x1), some (.int x2), none, some (.int x4), none, some (.int o41.2.1), some (.int (if (M 74 1) < o41.1 then (0 : Int32) else (if o41.2.1 ≤ x2 then (0 : Int32) else (1 : Int32)))), none]) rfl ?_
          simp only [if_pos hc150] at K159
          exact K159
        · refine g_iload hF (dck_at tX7_prepared 87 rfl) rfl ?_
          refine g_goto hF 159 (dck_at tX7_prepared 88 rfl) (by decide) ?_
          refine g_msk [true, true, true, false, true, true, true, true, true] (L' := [some (.ref 70), some (.int x1), some (.int x2), none, some (.int x4), none, some (.int o41.2.1), some (.int (if (M 74 1) < o41.1 then (0 : Int32) else (if o41.2.1 ≤ x2 then (0 : Int32) else (1 : Int32)))), none]) rfl ?_
          simp only [if_neg hc150] at K159
          exact K159
      refine g_icmp_gt hF 145 (dck_at tX7_prepared 77 rfl) (by decide) (fun hc132 => ?_) (fun hc132 => ?_)
      · refine g_iconst (v := 0) hF (dck_at tX7_prepared 83 rfl) (by decide) ?_
        refine g_msk [true, true, true, true, true, false, true, true, true] (L' := [some (.ref 70), some (.int x1), some (.int x2), some (.int x3), some (.int x4), none, some (.int o41.2.1), none, none]) rfl ?_
        simp only [if_pos hc132] at K146
        exact K146
      · refine g_iload hF (dck_at tX7_prepared 78 rfl) rfl ?_
        refine g_iload_n hF (dck_at tX7_prepared 79 rfl) rfl ?_
        refine g_icmp_le hF 145 (dck_at tX7_prepared 80 rfl) (by decide) (fun hc138 => ?_) (fun hc138 => ?_)
        · refine g_iconst (v := 0) hF (dck_at tX7_prepared 83 rfl) (by decide) ?_
          refine g_msk [true, true, true, true, true, false, true, true, true] (L' := [some (.ref 70), some (.int x1), some (.int x2), some (.int x3), some (.int x4), none, some (.int o41.2.1), none, none]) rfl ?_
          simp only [if_neg hc132, if_pos hc138] at K146
          exact K146
        · refine g_iconst (v := 1) hF (dck_at tX7_prepared 81 rfl) (by decide) ?_
          refine g_goto hF 146 (dck_at tX7_prepared 82 rfl) (by decide) ?_
          refine g_msk [true, true, true, true, true, false, true, true, true] (L' := [some (.ref 70), some (.int x1), some (.int x2), some (.int x3), some (.int x4), none, some (.int o41.2.1), none, none]) rfl ?_
          simp only [if_neg hc132, if_neg hc138] at K146
          exact K146
set_option maxHeartbeats 4000000 in
set_option maxRecDepth 100000 in
theorem c_X7_prepared {X : Cx} {l : Launch} (hX : CxOk X) (hM : SM X) {N : Nat} {M : Mem} {x1 : Int32} {r : Int32} (h : f_X7_prepared N M x1 = some r) : Ctr X l yX7_prepared cX7_prepared 9 (some .int) 2 [.ref 70, .int x1] M (some (.int r)) M := by
  refine Ctr.ofG (L := [some (.ref 70), some (.int x1), none, none, none, none, none, none, none]) hX (by decide) (Nat.le_of_ble_eq_true rfl) rfl (fun F hF hl hR => ?_)
  subst hl
  unfold f_X7_prepared at h
  refine g_iload_n hF (dck_at tX7_prepared 0 rfl) rfl ?_
  refine g_iconst (v := 0) hF (dck_at tX7_prepared 1 rfl) (by decide) ?_
  refine g_iconst (v := 1) hF (dck_at tX7_prepared 2 rfl) (by decide) ?_
  obtain ⟨q3, e3, h⟩ := bd h
  refine g_callS hF (as := [.int x1, .int (0 : Int32), .int (1 : Int32)]) wm_X7_53 wt_X7_in wc_X7_in wn_X7 hyX7_in (by decide) (c_X7_in hF.2.2.2.2.2.2.2.1 e3) (by decide) rfl rfl rfl rfl (dck_at tX7_prepared 3 rfl) ?_
  show G X F 6 _ [.int q3] M
  refine g_if_ne hF 12 (dck_at tX7_prepared 4 rfl) (by decide) (fun hc6 => ?_) (fun hc6 => ?_)
  · replace h := ite_f hc6 h
    refine g_iconst (v := 0) hF (dck_at tX7_prepared 7 rfl) (by decide) ?_
    refine g_istore_n (L' := [some (.ref 70), some (.int x1), some (.int (0 : Int32)), none, none, none, none, none, none]) hF (dck_at tX7_prepared 8 rfl) (Nat.le_of_ble_eq_true rfl) rfl ?_
    refine g_iconst (v := 0) hF (dck_at tX7_prepared 9 rfl) (by decide) ?_
    refine g_istore_n (L' := [some (.ref 70), some (.int x1), some (.int (0 : Int32)), some (.int (0 : Int32)), none, none, none, none, none]) hF (dck_at tX7_prepared 10 rfl) (Nat.le_of_ble_eq_true rfl) rfl ?_
    refine g_iconst (v := 0) hF (dck_at tX7_prepared 11 rfl) (by decide) ?_
    refine g_istore (L' := [some (.ref 70), some (.int x1), some (.int (0 : Int32)), some (.int (0 : Int32)), some (.int (0 : Int32)), none, none, none, none]) hF (dck_at tX7_prepared 12 rfl) (Nat.le_of_ble_eq_true rfl) rfl ?_
    obtain ⟨o19, e19, h⟩ := bd h
    refine g_X7_prepared_L19 hM hF N _ _ N _ _ _ _ e19 ?_
    refine g_iload_n hF (dck_at tX7_prepared 99 rfl) rfl ?_
    refine g_if_ne hF 186 (dck_at tX7_prepared 100 rfl) (by decide) (fun hc179 => ?_) (fun hc179 => ?_)
    · replace h := ite_f hc179 h
      refine g_iload_n hF (dck_at tX7_prepared 103 rfl) rfl ?_
      cases h
      exact g_iret hF hR (dck_at tX7_prepared 104 rfl)
    · replace h := ite_t hc179 h
      refine g_iload_n hF (dck_at tX7_prepared 101 rfl) rfl ?_
      refine g_goto hF 187 (dck_at tX7_prepared 102 rfl) (by decide) ?_
      cases h
      exact g_iret hF hR (dck_at tX7_prepared 104 rfl)
  · replace h := ite_t hc6 h
    refine g_bipush (v := -3) hF (dck_at tX7_prepared 5 rfl) (by decide) ?_
    cases h
    exact g_iret hF hR (dck_at tX7_prepared 6 rfl)

def tbX7_other : List (Nat × Instr × Nat) := [(0, .iload_n 1, 1), (1, .iconst 0, 1), (2, .bipush 30, 2), (4, .invokestatic 53, 3), (7, .ifCond .ne 6, 3), (10, .bipush (-3), 2), (12, .ireturn, 1), (13, .aload_n 0, 1), (14, .getfield 19, 3), (17, .iconst 1, 1), (18, .iaload, 1), (19, .istore_n 2, 1), (20, .aload_n 0, 1), (21, .getfield 19, 3), (24, .iconst 1, 1), (25, .iload_n 1, 1), (26, .iastore, 1), (27, .aload_n 0, 1), (28, .invokevirtual 186, 3), (31, .aload_n 0, 1), (32, .getfield 19, 3), (35, .iconst 1, 1), (36, .iload_n 2, 1), (37, .iastore, 1), (38, .aload_n 0, 1), (39, .getfield 177, 3), (42, .ireturn, 1)]
theorem tX7_other : dck cX7_other tbX7_other = true := by decide +kernel
def f_X7_other (N : Nat) (M : Mem) (x1 : Int32) : Option (Int32 × Mem) := (f_X7_in N M x1 (0 : Int32) (30 : Int32)).bind fun q4 => (if q4 = 0 then some ((-3 : Int32), M) else (f_X7_seeks N (up2 M 74 1 x1)).bind fun q28 => some ((up2 q28 74 1 (M 74 1)) 70 20, (up2 q28 74 1 (M 74 1))))
set_option maxHeartbeats 4000000 in
set_option maxRecDepth 100000 in
theorem c_X7_other {X : Cx} {l : Launch} (hX : CxOk X) (hM : SM X) {N : Nat} {M : Mem} {x1 : Int32} {r : Int32} {M' : Mem} (h : f_X7_other N M x1 = some (r, M')) : Ctr X l yX7_other cX7_other 3 (some .int) 9 [.ref 70, .int x1] M (some (.int r)) M' := by
  refine Ctr.ofG (L := [some (.ref 70), some (.int x1), none]) hX (by decide) (Nat.le_of_ble_eq_true rfl) rfl (fun F hF hl hR => ?_)
  subst hl
  unfold f_X7_other at h
  refine g_iload_n hF (dck_at tX7_other 0 rfl) rfl ?_
  refine g_iconst (v := 0) hF (dck_at tX7_other 1 rfl) (by decide) ?_
  refine g_bipush (v := 30) hF (dck_at tX7_other 2 rfl) (by decide) ?_
  obtain ⟨q4, e4, h⟩ := bd h
  refine g_callS hF (as := [.int x1, .int (0 : Int32), .int (30 : Int32)]) wm_X7_53 wt_X7_in wc_X7_in wn_X7 hyX7_in (by decide) (c_X7_in hF.2.2.2.2.2.2.2.1 e4) (by decide) rfl rfl rfl rfl (dck_at tX7_other 3 rfl) ?_
  show G X F 7 _ [.int q4] M
  refine g_if_ne hF 13 (dck_at tX7_other 4 rfl) (by decide) (fun hc7 => ?_) (fun hc7 => ?_)
  · replace h := ite_f hc7 h
    refine g_aload_n hF (dck_at tX7_other 7 rfl) rfl ?_
    refine gf_X7_19 hF (hM 70 (by decide) (by decide)) kdc_70 lnc_70 (dck_at tX7_other 8 rfl) ?_
    refine g_iconst (v := 1) hF (dck_at tX7_other 9 rfl) (by decide) ?_
    refine g_iac (j := 1) hF (hM 74 (by decide) (by decide)) kdc_74 lnc_74 (by decide) (by decide) (dck_at tX7_other 10 rfl) ?_
    refine g_istore_n (L' := [some (.ref 70), some (.int x1), some (.int (M 74 1))]) hF (dck_at tX7_other 11 rfl) (Nat.le_of_ble_eq_true rfl) rfl ?_
    refine g_aload_n hF (dck_at tX7_other 12 rfl) rfl ?_
    show G X F 21 _ _ _
    refine gf_X7_19 hF (hM 70 (by decide) (by decide)) kdc_70 lnc_70 (dck_at tX7_other 13 rfl) ?_
    refine g_iconst (v := 1) hF (dck_at tX7_other 14 rfl) (by decide) ?_
    refine g_iload_n hF (dck_at tX7_other 15 rfl) rfl ?_
    refine g_isc (j := 1) hF (hM 74 (by decide) (by decide)) kdc_74 lnc_74 (by decide) (by decide) (dck_at tX7_other 16 rfl) ?_
    refine g_aload_n hF (dck_at tX7_other 17 rfl) rfl ?_
    obtain ⟨q28, e28, h⟩ := bd h
    refine g_callV hF (as := []) (k := 70) rfl (by decide) wm_X7_186 wi_X7_seeks we_X7_seeks wc_X7_seeks wn_X7 hyX7_seeks (by decide) (hM 70 (by decide) (by decide)) kdc_70 (c_X7_seeks hF.2.2.2.2.2.2.2.1 hM e28) (by decide) rfl rfl rfl rfl (dck_at tX7_other 18 rfl) ?_
    show G X F 31 _ [] q28
    refine g_aload_n hF (dck_at tX7_other 19 rfl) rfl ?_
    show G X F 32 _ _ _
    refine gf_X7_19 hF (hM 70 (by decide) (by decide)) kdc_70 lnc_70 (dck_at tX7_other 20 rfl) ?_
    refine g_iconst (v := 1) hF (dck_at tX7_other 21 rfl) (by decide) ?_
    refine g_iload_n hF (dck_at tX7_other 22 rfl) rfl ?_
    refine g_isc (j := 1) hF (hM 74 (by decide) (by decide)) kdc_74 lnc_74 (by decide) (by decide) (dck_at tX7_other 23 rfl) ?_
    refine g_aload_n hF (dck_at tX7_other 24 rfl) rfl ?_
    refine gf_X7_177 hF (hM 70 (by decide) (by decide)) kdc_70 lnc_70 (dck_at tX7_other 25 rfl) ?_
    cases h
    exact g_iret hF hR (dck_at tX7_other 26 rfl)
  · replace h := ite_t hc7 h
    refine g_bipush (v := -3) hF (dck_at tX7_other 5 rfl) (by decide) ?_
    cases h
    exact g_iret hF hR (dck_at tX7_other 6 rfl)

def tbX7_count : List (Nat × Instr × Nat) := [(0, .iload_n 1, 1), (1, .tableswitch 148 0 12 #[67, 74, 81, 88, 93, 100, 107, 114, 121, 126, 133, 138, 143], 67), (68, .aload_n 0, 1), (69, .getfield 13, 3), (72, .iconst 0, 1), (73, .iaload, 1), (74, .ireturn, 1), (75, .aload_n 0, 1), (76, .getfield 13, 3), (79, .iconst 1, 1), (80, .iaload, 1), (81, .ireturn, 1), (82, .aload_n 0, 1), (83, .getfield 19, 3), (86, .iconst 0, 1), (87, .iaload, 1), (88, .ireturn, 1), (89, .aload_n 0, 1), (90, .invokevirtual 136, 3), (93, .ireturn, 1), (94, .aload_n 0, 1), (95, .getfield 19, 3), (98, .iconst 1, 1), (99, .iaload, 1), (100, .ireturn, 1), (101, .aload_n 0, 1), (102, .getfield 19, 3), (105, .iconst 2, 1), (106, .iaload, 1), (107, .ireturn, 1), (108, .aload_n 0, 1), (109, .getfield 19, 3), (112, .iconst 3, 1), (113, .iaload, 1), (114, .ireturn, 1), (115, .aload_n 0, 1), (116, .getfield 19, 3), (119, .iconst 4, 1), (120, .iaload, 1), (121, .ireturn, 1), (122, .aload_n 0, 1), (123, .invokevirtual 145, 3), (126, .ireturn, 1), (127, .aload_n 0, 1), (128, .getfield 19, 3), (131, .iconst 5, 1), (132, .iaload, 1), (133, .ireturn, 1), (134, .aload_n 0, 1), (135, .getfield 107, 3), (138, .ireturn, 1), (139, .aload_n 0, 1), (140, .getfield 104, 3), (143, .ireturn, 1), (144, .aload_n 0, 1), (145, .getfield 57, 3), (148, .ireturn, 1), (149, .bipush (-3), 2), (151, .ireturn, 1)]
theorem tX7_count : dck cX7_count tbX7_count = true := by decide +kernel
def f_X7_count (N : Nat) (M : Mem) (x1 : Int32) : Option Int32 := (if x1 = 0 then some (M 72 0) else (if x1 = 1 then some (M 72 1) else (if x1 = 2 then some (M 74 0) else (if x1 = 3 then (f_X7_noise N M).bind fun q90 => some q90 else (if x1 = 4 then some (M 74 1) else (if x1 = 5 then some (M 74 2) else (if x1 = 6 then some (M 74 3) else (if x1 = 7 then some (M 74 4) else (if x1 = 8 then (f_X7_thereNow N M).bind fun q123 => some q123 else (if x1 = 9 then some (M 74 5) else (if x1 = 10 then some (M 70 10) else (if x1 = 11 then some (M 70 6) else (if x1 = 12 then some (M 70 1) else some (-3 : Int32))))))))))))))
set_option maxHeartbeats 4000000 in
set_option maxRecDepth 100000 in
theorem c_X7_count {X : Cx} {l : Launch} (hX : CxOk X) (hM : SM X) {N : Nat} {M : Mem} {x1 : Int32} {r : Int32} (h : f_X7_count N M x1 = some r) : Ctr X l yX7_count cX7_count 2 (some .int) 6 [.ref 70, .int x1] M (some (.int r)) M := by
  refine Ctr.ofG (L := [some (.ref 70), some (.int x1)]) hX (by decide) (Nat.le_of_ble_eq_true rfl) rfl (fun F hF hl hR => ?_)
  subst hl
  unfold f_X7_count at h
  refine g_iload_n hF (dck_at tX7_count 0 rfl) rfl ?_
  by_cases hc1_0 : x1 = 0
  · replace h := ite_t hc1_0 h
    refine g_swIn hF 68 0 hc1_0 (dck_at tX7_count 1 rfl) (by decide) (by decide) rfl (by decide) ?_
    refine g_aload_n hF (dck_at tX7_count 2 rfl) rfl ?_
    refine gf_X7_13 hF (hM 70 (by decide) (by decide)) kdc_70 lnc_70 (dck_at tX7_count 3 rfl) ?_
    refine g_iconst (v := 0) hF (dck_at tX7_count 4 rfl) (by decide) ?_
    refine g_iac (j := 0) hF (hM 72 (by decide) (by decide)) kdc_72 lnc_72 (by decide) (by decide) (dck_at tX7_count 5 rfl) ?_
    cases h
    exact g_iret hF hR (dck_at tX7_count 6 rfl)
  replace h := ite_f hc1_0 h
  by_cases hc1_1 : x1 = 1
  · replace h := ite_t hc1_1 h
    refine g_swIn hF 75 1 hc1_1 (dck_at tX7_count 1 rfl) (by decide) (by decide) rfl (by decide) ?_
    refine g_aload_n hF (dck_at tX7_count 7 rfl) rfl ?_
    refine gf_X7_13 hF (hM 70 (by decide) (by decide)) kdc_70 lnc_70 (dck_at tX7_count 8 rfl) ?_
    refine g_iconst (v := 1) hF (dck_at tX7_count 9 rfl) (by decide) ?_
    refine g_iac (j := 1) hF (hM 72 (by decide) (by decide)) kdc_72 lnc_72 (by decide) (by decide) (dck_at tX7_count 10 rfl) ?_
    cases h
    exact g_iret hF hR (dck_at tX7_count 11 rfl)
  replace h := ite_f hc1_1 h
  by_cases hc1_2 : x1 = 2
  · replace h := ite_t hc1_2 h
    refine g_swIn hF 82 2 hc1_2 (dck_at tX7_count 1 rfl) (by decide) (by decide) rfl (by decide) ?_
    refine g_aload_n hF (dck_at tX7_count 12 rfl) rfl ?_
    refine gf_X7_19 hF (hM 70 (by decide) (by decide)) kdc_70 lnc_70 (dck_at tX7_count 13 rfl) ?_
    refine g_iconst (v := 0) hF (dck_at tX7_count 14 rfl) (by decide) ?_
    refine g_iac (j := 0) hF (hM 74 (by decide) (by decide)) kdc_74 lnc_74 (by decide) (by decide) (dck_at tX7_count 15 rfl) ?_
    cases h
    exact g_iret hF hR (dck_at tX7_count 16 rfl)
  replace h := ite_f hc1_2 h
  by_cases hc1_3 : x1 = 3
  · replace h := ite_t hc1_3 h
    refine g_swIn hF 89 3 hc1_3 (dck_at tX7_count 1 rfl) (by decide) (by decide) rfl (by decide) ?_
    refine g_aload_n hF (dck_at tX7_count 17 rfl) rfl ?_
    obtain ⟨q90, e90, h⟩ := bd h
    refine g_callV hF (as := []) (k := 70) rfl (by decide) wm_X7_136 wi_X7_noise we_X7_noise wc_X7_noise wn_X7 hyX7_noise (by decide) (hM 70 (by decide) (by decide)) kdc_70 (c_X7_noise hF.2.2.2.2.2.2.2.1 hM e90) (by decide) rfl rfl rfl rfl (dck_at tX7_count 18 rfl) ?_
    show G X F 93 _ [.int q90] M
    cases h
    exact g_iret hF hR (dck_at tX7_count 19 rfl)
  replace h := ite_f hc1_3 h
  by_cases hc1_4 : x1 = 4
  · replace h := ite_t hc1_4 h
    refine g_swIn hF 94 4 hc1_4 (dck_at tX7_count 1 rfl) (by decide) (by decide) rfl (by decide) ?_
    refine g_aload_n hF (dck_at tX7_count 20 rfl) rfl ?_
    refine gf_X7_19 hF (hM 70 (by decide) (by decide)) kdc_70 lnc_70 (dck_at tX7_count 21 rfl) ?_
    refine g_iconst (v := 1) hF (dck_at tX7_count 22 rfl) (by decide) ?_
    refine g_iac (j := 1) hF (hM 74 (by decide) (by decide)) kdc_74 lnc_74 (by decide) (by decide) (dck_at tX7_count 23 rfl) ?_
    cases h
    exact g_iret hF hR (dck_at tX7_count 24 rfl)
  replace h := ite_f hc1_4 h
  by_cases hc1_5 : x1 = 5
  · replace h := ite_t hc1_5 h
    refine g_swIn hF 101 5 hc1_5 (dck_at tX7_count 1 rfl) (by decide) (by decide) rfl (by decide) ?_
    refine g_aload_n hF (dck_at tX7_count 25 rfl) rfl ?_
    refine gf_X7_19 hF (hM 70 (by decide) (by decide)) kdc_70 lnc_70 (dck_at tX7_count 26 rfl) ?_
    refine g_iconst (v := 2) hF (dck_at tX7_count 27 rfl) (by decide) ?_
    refine g_iac (j := 2) hF (hM 74 (by decide) (by decide)) kdc_74 lnc_74 (by decide) (by decide) (dck_at tX7_count 28 rfl) ?_
    cases h
    exact g_iret hF hR (dck_at tX7_count 29 rfl)
  replace h := ite_f hc1_5 h
  by_cases hc1_6 : x1 = 6
  · replace h := ite_t hc1_6 h
    refine g_swIn hF 108 6 hc1_6 (dck_at tX7_count 1 rfl) (by decide) (by decide) rfl (by decide) ?_
    refine g_aload_n hF (dck_at tX7_count 30 rfl) rfl ?_
    refine gf_X7_19 hF (hM 70 (by decide) (by decide)) kdc_70 lnc_70 (dck_at tX7_count 31 rfl) ?_
    refine g_iconst (v := 3) hF (dck_at tX7_count 32 rfl) (by decide) ?_
    refine g_iac (j := 3) hF (hM 74 (by decide) (by decide)) kdc_74 lnc_74 (by decide) (by decide) (dck_at tX7_count 33 rfl) ?_
    cases h
    exact g_iret hF hR (dck_at tX7_count 34 rfl)
  replace h := ite_f hc1_6 h
  by_cases hc1_7 : x1 = 7
  · replace h := ite_t hc1_7 h
    refine g_swIn hF 115 7 hc1_7 (dck_at tX7_count 1 rfl) (by decide) (by decide) rfl (by decide) ?_
    refine g_aload_n hF (dck_at tX7_count 35 rfl) rfl ?_
    refine gf_X7_19 hF (hM 70 (by decide) (by decide)) kdc_70 lnc_70 (dck_at tX7_count 36 rfl) ?_
    refine g_iconst (v := 4) hF (dck_at tX7_count 37 rfl) (by decide) ?_
    refine g_iac (j := 4) hF (hM 74 (by decide) (by decide)) kdc_74 lnc_74 (by decide) (by decide) (dck_at tX7_count 38 rfl) ?_
    cases h
    exact g_iret hF hR (dck_at tX7_count 39 rfl)
  replace h := ite_f hc1_7 h
  by_cases hc1_8 : x1 = 8
  · replace h := ite_t hc1_8 h
    refine g_swIn hF 122 8 hc1_8 (dck_at tX7_count 1 rfl) (by decide) (by decide) rfl (by decide) ?_
    refine g_aload_n hF (dck_at tX7_count 40 rfl) rfl ?_
    obtain ⟨q123, e123, h⟩ := bd h
    refine g_callV hF (as := []) (k := 70) rfl (by decide) wm_X7_145 wi_X7_thereNow we_X7_thereNow wc_X7_thereNow wn_X7 hyX7_thereNow (by decide) (hM 70 (by decide) (by decide)) kdc_70 (c_X7_thereNow hF.2.2.2.2.2.2.2.1 hM e123) (by decide) rfl rfl rfl rfl (dck_at tX7_count 41 rfl) ?_
    show G X F 126 _ [.int q123] M
    cases h
    exact g_iret hF hR (dck_at tX7_count 42 rfl)
  replace h := ite_f hc1_8 h
  by_cases hc1_9 : x1 = 9
  · replace h := ite_t hc1_9 h
    refine g_swIn hF 127 9 hc1_9 (dck_at tX7_count 1 rfl) (by decide) (by decide) rfl (by decide) ?_
    refine g_aload_n hF (dck_at tX7_count 43 rfl) rfl ?_
    refine gf_X7_19 hF (hM 70 (by decide) (by decide)) kdc_70 lnc_70 (dck_at tX7_count 44 rfl) ?_
    refine g_iconst (v := 5) hF (dck_at tX7_count 45 rfl) (by decide) ?_
    refine g_iac (j := 5) hF (hM 74 (by decide) (by decide)) kdc_74 lnc_74 (by decide) (by decide) (dck_at tX7_count 46 rfl) ?_
    cases h
    exact g_iret hF hR (dck_at tX7_count 47 rfl)
  replace h := ite_f hc1_9 h
  by_cases hc1_10 : x1 = 10
  · replace h := ite_t hc1_10 h
    refine g_swIn hF 134 10 hc1_10 (dck_at tX7_count 1 rfl) (by decide) (by decide) rfl (by decide) ?_
    refine g_aload_n hF (dck_at tX7_count 48 rfl) rfl ?_
    refine gf_X7_107 hF (hM 70 (by decide) (by decide)) kdc_70 lnc_70 (dck_at tX7_count 49 rfl) ?_
    cases h
    exact g_iret hF hR (dck_at tX7_count 50 rfl)
  replace h := ite_f hc1_10 h
  by_cases hc1_11 : x1 = 11
  · replace h := ite_t hc1_11 h
    refine g_swIn hF 139 11 hc1_11 (dck_at tX7_count 1 rfl) (by decide) (by decide) rfl (by decide) ?_
    refine g_aload_n hF (dck_at tX7_count 51 rfl) rfl ?_
    refine gf_X7_104 hF (hM 70 (by decide) (by decide)) kdc_70 lnc_70 (dck_at tX7_count 52 rfl) ?_
    cases h
    exact g_iret hF hR (dck_at tX7_count 53 rfl)
  replace h := ite_f hc1_11 h
  by_cases hc1_12 : x1 = 12
  · replace h := ite_t hc1_12 h
    refine g_swIn hF 144 12 hc1_12 (dck_at tX7_count 1 rfl) (by decide) (by decide) rfl (by decide) ?_
    refine g_aload_n hF (dck_at tX7_count 54 rfl) rfl ?_
    refine gf_X7_57 hF (hM 70 (by decide) (by decide)) kdc_70 lnc_70 (dck_at tX7_count 55 rfl) ?_
    cases h
    exact g_iret hF hR (dck_at tX7_count 56 rfl)
  replace h := ite_f hc1_12 h
  refine g_swOut hF 149 (dck_at tX7_count 1 rfl) (by have q0 := lv_neT hc1_0 (a := 0) rfl; have q1 := lv_neT hc1_1 (a := 1) rfl; have q2 := lv_neT hc1_2 (a := 2) rfl; have q3 := lv_neT hc1_3 (a := 3) rfl; have q4 := lv_neT hc1_4 (a := 4) rfl; have q5 := lv_neT hc1_5 (a := 5) rfl; have q6 := lv_neT hc1_6 (a := 6) rfl; have q7 := lv_neT hc1_7 (a := 7) rfl; have q8 := lv_neT hc1_8 (a := 8) rfl; have q9 := lv_neT hc1_9 (a := 9) rfl; have q10 := lv_neT hc1_10 (a := 10) rfl; have q11 := lv_neT hc1_11 (a := 11) rfl; have q12 := lv_neT hc1_12 (a := 12) rfl; omega) (by decide) ?_
  refine g_bipush (v := -3) hF (dck_at tX7_count 57 rfl) (by decide) ?_
  cases h
  exact g_iret hF hR (dck_at tX7_count 58 rfl)
