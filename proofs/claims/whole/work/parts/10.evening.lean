def tbX1_isThere : List (Nat × Instr × Nat) := [(0, .aload_n 0, 1), (1, .getfield 34, 3), (4, .iload_n 1, 1), (5, .ishr, 1), (6, .iconst 1, 1), (7, .iand, 1), (8, .ifCond .eq 7, 3), (11, .iconst 1, 1), (12, .goto 4, 3), (15, .iconst 0, 1), (16, .ireturn, 1)]
theorem tX1_isThere : dck cX1_isThere tbX1_isThere = true := by decide +kernel
def f_X1_isThere (N : Nat) (M : Mem) (k : Nat) (x1 : Int32) : Option Int32 := (if (((M k 1) >>> (x1 &&& 31)) &&& (1 : Int32)) = 0 then some (0 : Int32) else some (1 : Int32))
set_option maxHeartbeats 4000000 in
set_option maxRecDepth 100000 in
theorem c_X1_isThere {X : Cx} {l : Launch} (hX : CxOk X) (hS : SC X) {N : Nat} {M : Mem} {k : Nat} {x1 : Int32} (hk : ev k) {r : Int32} (h : f_X1_isThere N M k x1 = some r) : Ctr X l yX1_isThere cX1_isThere 2 (some .boolean) 1 [.ref k, .int x1] M (some (.int r)) M := by
  refine Ctr.ofG (L := [some (.ref k), some (.int x1)]) hX (by decide) (Nat.le_of_ble_eq_true rfl) rfl (fun F hF hl hR => ?_)
  subst hl
  unfold f_X1_isThere at h
  refine g_aload_n hF (dck_at tX1_isThere 0 rfl) rfl ?_
  refine gf_X1_34 hF (ev_m hS hk) (ev_kd hk) (ev_ln hk) (dck_at tX1_isThere 1 rfl) ?_
  refine g_iload_n hF (dck_at tX1_isThere 2 rfl) rfl ?_
  refine g_ishr hF (dck_at tX1_isThere 3 rfl) ?_
  refine g_iconst (v := 1) hF (dck_at tX1_isThere 4 rfl) (by decide) ?_
  refine g_iand hF (dck_at tX1_isThere 5 rfl) ?_
  show G X F 8 _ _ _
  refine g_if_eq hF 15 (dck_at tX1_isThere 6 rfl) (by decide) (fun hc8 => ?_) (fun hc8 => ?_)
  · replace h := ite_t hc8 h
    refine g_iconst (v := 0) hF (dck_at tX1_isThere 9 rfl) (by decide) ?_
    cases h
    exact g_zret hF hR rfl (dck_at tX1_isThere 10 rfl)
  · replace h := ite_f hc8 h
    refine g_iconst (v := 1) hF (dck_at tX1_isThere 7 rfl) (by decide) ?_
    refine g_goto hF 16 (dck_at tX1_isThere 8 rfl) (by decide) ?_
    cases h
    exact g_zret hF hR rfl (dck_at tX1_isThere 10 rfl)

def tbX1_isClapping : List (Nat × Instr × Nat) := [(0, .aload_n 0, 1), (1, .getfield 34, 3), (4, .iload_n 1, 1), (5, .ishr, 1), (6, .iconst 1, 1), (7, .iand, 1), (8, .ifCond .eq 16, 3), (11, .aload_n 0, 1), (12, .getfield 9, 3), (15, .iload_n 1, 1), (16, .iaload, 1), (17, .ifCond .le 7, 3), (20, .iconst 1, 1), (21, .goto 4, 3), (24, .iconst 0, 1), (25, .ireturn, 1)]
theorem tX1_isClapping : dck cX1_isClapping tbX1_isClapping = true := by decide +kernel
def f_X1_isClapping (N : Nat) (M : Mem) (k : Nat) (x1 : Int32) : Option Int32 := (if (((M k 1) >>> (x1 &&& 31)) &&& (1 : Int32)) = 0 then some (0 : Int32) else if inb x1 8 = true then (if (M (k + 1) x1.toNatClampNeg) ≤ 0 then some (0 : Int32) else some (1 : Int32)) else none)
set_option maxHeartbeats 4000000 in
set_option maxRecDepth 100000 in
theorem c_X1_isClapping {X : Cx} {l : Launch} (hX : CxOk X) (hS : SC X) {N : Nat} {M : Mem} {k : Nat} {x1 : Int32} (hk : ev k) {r : Int32} (h : f_X1_isClapping N M k x1 = some r) : Ctr X l yX1_isClapping cX1_isClapping 2 (some .boolean) 1 [.ref k, .int x1] M (some (.int r)) M := by
  refine Ctr.ofG (L := [some (.ref k), some (.int x1)]) hX (by decide) (Nat.le_of_ble_eq_true rfl) rfl (fun F hF hl hR => ?_)
  subst hl
  unfold f_X1_isClapping at h
  refine g_aload_n hF (dck_at tX1_isClapping 0 rfl) rfl ?_
  refine gf_X1_34 hF (ev_m hS hk) (ev_kd hk) (ev_ln hk) (dck_at tX1_isClapping 1 rfl) ?_
  refine g_iload_n hF (dck_at tX1_isClapping 2 rfl) rfl ?_
  refine g_ishr hF (dck_at tX1_isClapping 3 rfl) ?_
  refine g_iconst (v := 1) hF (dck_at tX1_isClapping 4 rfl) (by decide) ?_
  refine g_iand hF (dck_at tX1_isClapping 5 rfl) ?_
  show G X F 8 _ _ _
  refine g_if_eq hF 24 (dck_at tX1_isClapping 6 rfl) (by decide) (fun hc8 => ?_) (fun hc8 => ?_)
  · replace h := ite_t hc8 h
    refine g_iconst (v := 0) hF (dck_at tX1_isClapping 14 rfl) (by decide) ?_
    cases h
    exact g_zret hF hR rfl (dck_at tX1_isClapping 15 rfl)
  · replace h := ite_f hc8 h
    refine g_aload_n hF (dck_at tX1_isClapping 7 rfl) rfl ?_
    refine gf_X1_9 hF (ev_m hS hk) (ev_kd hk) (ev_ln hk) (t := (k + 1)) rfl (dck_at tX1_isClapping 8 rfl) ?_
    refine g_iload_n hF (dck_at tX1_isClapping 9 rfl) rfl ?_
    obtain ⟨hg16, h⟩ := gd h
    refine g_ia hF (ev_mz hS hk) (ev_kz hk) (ev_lz hk) hg16 (dck_at tX1_isClapping 10 rfl) ?_
    refine g_if_le hF 24 (dck_at tX1_isClapping 11 rfl) (by decide) (fun hc17 => ?_) (fun hc17 => ?_)
    · replace h := ite_t hc17 h
      refine g_iconst (v := 0) hF (dck_at tX1_isClapping 14 rfl) (by decide) ?_
      cases h
      exact g_zret hF hR rfl (dck_at tX1_isClapping 15 rfl)
    · replace h := ite_f hc17 h
      refine g_iconst (v := 1) hF (dck_at tX1_isClapping 12 rfl) (by decide) ?_
      refine g_goto hF 25 (dck_at tX1_isClapping 13 rfl) (by decide) ?_
      cases h
      exact g_zret hF hR rfl (dck_at tX1_isClapping 15 rfl)

def tbX1_wasPlayed : List (Nat × Instr × Nat) := [(0, .aload_n 0, 1), (1, .getfield 44, 3), (4, .iload_n 1, 1), (5, .ishr, 1), (6, .iconst 1, 1), (7, .iand, 1), (8, .ifCond .eq 7, 3), (11, .iconst 1, 1), (12, .goto 4, 3), (15, .iconst 0, 1), (16, .ireturn, 1)]
theorem tX1_wasPlayed : dck cX1_wasPlayed tbX1_wasPlayed = true := by decide +kernel
def f_X1_wasPlayed (N : Nat) (M : Mem) (k : Nat) (x1 : Int32) : Option Int32 := (if (((M k 4) >>> (x1 &&& 31)) &&& (1 : Int32)) = 0 then some (0 : Int32) else some (1 : Int32))
set_option maxHeartbeats 4000000 in
set_option maxRecDepth 100000 in
theorem c_X1_wasPlayed {X : Cx} {l : Launch} (hX : CxOk X) (hS : SC X) {N : Nat} {M : Mem} {k : Nat} {x1 : Int32} (hk : ev k) {r : Int32} (h : f_X1_wasPlayed N M k x1 = some r) : Ctr X l yX1_wasPlayed cX1_wasPlayed 2 (some .boolean) 1 [.ref k, .int x1] M (some (.int r)) M := by
  refine Ctr.ofG (L := [some (.ref k), some (.int x1)]) hX (by decide) (Nat.le_of_ble_eq_true rfl) rfl (fun F hF hl hR => ?_)
  subst hl
  unfold f_X1_wasPlayed at h
  refine g_aload_n hF (dck_at tX1_wasPlayed 0 rfl) rfl ?_
  refine gf_X1_44 hF (ev_m hS hk) (ev_kd hk) (ev_ln hk) (dck_at tX1_wasPlayed 1 rfl) ?_
  refine g_iload_n hF (dck_at tX1_wasPlayed 2 rfl) rfl ?_
  refine g_ishr hF (dck_at tX1_wasPlayed 3 rfl) ?_
  refine g_iconst (v := 1) hF (dck_at tX1_wasPlayed 4 rfl) (by decide) ?_
  refine g_iand hF (dck_at tX1_wasPlayed 5 rfl) ?_
  show G X F 8 _ _ _
  refine g_if_eq hF 15 (dck_at tX1_wasPlayed 6 rfl) (by decide) (fun hc8 => ?_) (fun hc8 => ?_)
  · replace h := ite_t hc8 h
    refine g_iconst (v := 0) hF (dck_at tX1_wasPlayed 9 rfl) (by decide) ?_
    cases h
    exact g_zret hF hR rfl (dck_at tX1_wasPlayed 10 rfl)
  · replace h := ite_f hc8 h
    refine g_iconst (v := 1) hF (dck_at tX1_wasPlayed 7 rfl) (by decide) ?_
    refine g_goto hF 16 (dck_at tX1_wasPlayed 8 rfl) (by decide) ?_
    cases h
    exact g_zret hF hR rfl (dck_at tX1_wasPlayed 10 rfl)

def tbX1_whoClaps : List (Nat × Instr × Nat) := [(0, .iconst 0, 1), (1, .istore_n 1, 1), (2, .iconst 0, 1), (3, .istore_n 2, 1), (4, .iload_n 2, 1), (5, .aload_n 0, 1), (6, .getfield 15, 3), (9, .getfield 30, 3), (12, .if_icmp .ge 23, 3), (15, .aload_n 0, 1), (16, .iload_n 2, 1), (17, .invokevirtual 60, 3), (20, .ifCond .eq 9, 3), (23, .iload_n 1, 1), (24, .iconst 1, 1), (25, .iload_n 2, 1), (26, .ishl, 1), (27, .ior, 1), (28, .istore_n 1, 1), (29, .iinc 2 1, 3), (32, .goto (-28), 3), (35, .iload_n 1, 1), (36, .ireturn, 1)]
theorem tX1_whoClaps : dck cX1_whoClaps tbX1_whoClaps = true := by decide +kernel
def f_X1_whoClaps_L4 (N : Nat) (M : Mem) (k : Nat) : Nat → Int32 → Int32 → Option (Int32 × Int32)
  | 0, _, _ => none
  | n + 1, x1, x2 => (if (M 1 7) ≤ x2 then some (x1, x2) else (f_X1_isClapping N M k x2).bind fun q17 => (if q17 = 0 then f_X1_whoClaps_L4 N M k n x1 (x2 + (1 : Int32)) else f_X1_whoClaps_L4 N M k n (x1 ||| ((1 : Int32) <<< (x2 &&& 31))) (x2 + (1 : Int32))))
def f_X1_whoClaps (N : Nat) (M : Mem) (k : Nat) : Option Int32 := (f_X1_whoClaps_L4 N M k N (0 : Int32) (0 : Int32)).bind fun o4 => some o4.1
set_option maxHeartbeats 4000000 in
set_option maxRecDepth 100000 in
theorem g_X1_whoClaps_L4 {X : Cx} {F : Fx} (hS : SC X) (hF : FK X F cX1_whoClaps RX1 3 2) (N : Nat) (M : Mem) (k : Nat) (hk : ev k) : ∀ (n : Nat) (x1 : Int32) (x2 : Int32) (o : Int32 × Int32), f_X1_whoClaps_L4 N M k n x1 x2 = some o → G X F 35 [none, some (.int o.1), none] [] M → G X F 4 [some (.ref k), some (.int x1), some (.int x2)] [] M := by
  intro n
  induction n with
  | zero =>
    intro x1 x2 o h K
    cases h
  | succ n ih =>
    intro x1 x2 o h K
    rw [f_X1_whoClaps_L4] at h
    refine g_iload_n hF (dck_at tX1_whoClaps 4 rfl) rfl ?_
    refine g_aload_n hF (dck_at tX1_whoClaps 5 rfl) rfl ?_
    refine gf_X1_15 hF (ev_m hS hk) (ev_kd hk) (ev_ln hk) (dck_at tX1_whoClaps 6 rfl) ?_
    refine gf_X1_30 hF (hS 1 (by decide)) kdc_1 lnc_1 (dck_at tX1_whoClaps 7 rfl) ?_
    refine g_icmp_ge hF 35 (dck_at tX1_whoClaps 8 rfl) (by decide) (fun hc12 => ?_) (fun hc12 => ?_)
    · replace h := ite_t hc12 h
      refine g_msk [false, true, false] (L' := [none, some (.int x1), none]) rfl ?_
      cases h
      exact K
    · replace h := ite_f hc12 h
      refine g_aload_n hF (dck_at tX1_whoClaps 9 rfl) rfl ?_
      refine g_iload_n hF (dck_at tX1_whoClaps 10 rfl) rfl ?_
      obtain ⟨q17, e17, h⟩ := bd h
      refine g_callV hF (as := [.int x2]) (k := k) rfl (by decide) wm_X1_60 wi_X1_isClapping we_X1_isClapping wc_X1_isClapping wn_X1 hyX1_isClapping (by decide) (ev_m hS hk) (ev_kd hk) (c_X1_isClapping hF.2.2.2.2.2.2.2.1 hS hk e17) (by decide) rfl rfl rfl rfl (dck_at tX1_whoClaps 11 rfl) ?_
      show G X F 20 _ [.int q17] M
      refine g_if_eq hF 29 (dck_at tX1_whoClaps 12 rfl) (by decide) (fun hc20 => ?_) (fun hc20 => ?_)
      · replace h := ite_t hc20 h
        refine g_iinc (v := 1) (L' := [some (.ref k), some (.int x1), some (.int (x2 + (1 : Int32)))]) hF (dck_at tX1_whoClaps 19 rfl) rfl (by decide) rfl ?_
        refine g_goto hF 4 (dck_at tX1_whoClaps 20 rfl) (by decide) ?_
        exact ih _ _ _ h K
      · replace h := ite_f hc20 h
        refine g_iload_n hF (dck_at tX1_whoClaps 13 rfl) rfl ?_
        refine g_iconst (v := 1) hF (dck_at tX1_whoClaps 14 rfl) (by decide) ?_
        refine g_iload_n hF (dck_at tX1_whoClaps 15 rfl) rfl ?_
        refine g_ishl hF (dck_at tX1_whoClaps 16 rfl) ?_
        refine g_ior hF (dck_at tX1_whoClaps 17 rfl) ?_
        refine g_istore_n (L' := [some (.ref k), some (.int (x1 ||| ((1 : Int32) <<< (x2 &&& 31)))), some (.int x2)]) hF (dck_at tX1_whoClaps 18 rfl) (Nat.le_of_ble_eq_true rfl) rfl ?_
        show G X F 29 _ _ _
        refine g_iinc (v := 1) (L' := [some (.ref k), some (.int (x1 ||| ((1 : Int32) <<< (x2 &&& 31)))), some (.int (x2 + (1 : Int32)))]) hF (dck_at tX1_whoClaps 19 rfl) rfl (by decide) rfl ?_
        refine g_goto hF 4 (dck_at tX1_whoClaps 20 rfl) (by decide) ?_
        exact ih _ _ _ h K
set_option maxHeartbeats 4000000 in
set_option maxRecDepth 100000 in
theorem c_X1_whoClaps {X : Cx} {l : Launch} (hX : CxOk X) (hS : SC X) {N : Nat} {M : Mem} {k : Nat} (hk : ev k) {r : Int32} (h : f_X1_whoClaps N M k = some r) : Ctr X l yX1_whoClaps cX1_whoClaps 3 (some .int) 2 [.ref k] M (some (.int r)) M := by
  refine Ctr.ofG (L := [some (.ref k), none, none]) hX (by decide) (Nat.le_of_ble_eq_true rfl) rfl (fun F hF hl hR => ?_)
  subst hl
  unfold f_X1_whoClaps at h
  refine g_iconst (v := 0) hF (dck_at tX1_whoClaps 0 rfl) (by decide) ?_
  refine g_istore_n (L' := [some (.ref k), some (.int (0 : Int32)), none]) hF (dck_at tX1_whoClaps 1 rfl) (Nat.le_of_ble_eq_true rfl) rfl ?_
  refine g_iconst (v := 0) hF (dck_at tX1_whoClaps 2 rfl) (by decide) ?_
  refine g_istore_n (L' := [some (.ref k), some (.int (0 : Int32)), some (.int (0 : Int32))]) hF (dck_at tX1_whoClaps 3 rfl) (Nat.le_of_ble_eq_true rfl) rfl ?_
  obtain ⟨o4, e4, h⟩ := bd h
  refine g_X1_whoClaps_L4 hS hF N _ _ hk N _ _ _ e4 ?_
  refine g_iload_n hF (dck_at tX1_whoClaps 21 rfl) rfl ?_
  cases h
  exact g_iret hF hR (dck_at tX1_whoClaps 22 rfl)

def tbX1_zealOf : List (Nat × Instr × Nat) := [(0, .iconst 0, 1), (1, .istore_n 2, 1), (2, .iconst 0, 1), (3, .istore_n 3, 1), (4, .iload_n 3, 1), (5, .aload_n 0, 1), (6, .getfield 15, 3), (9, .getfield 30, 3), (12, .if_icmp .ge 26, 3), (15, .iload_n 1, 1), (16, .iload_n 3, 1), (17, .ishr, 1), (18, .iconst 1, 1), (19, .iand, 1), (20, .ifCond .eq 12, 3), (23, .iload_n 2, 1), (24, .aload_n 0, 1), (25, .getfield 9, 3), (28, .iload_n 3, 1), (29, .iaload, 1), (30, .iadd, 1), (31, .istore_n 2, 1), (32, .iinc 3 1, 3), (35, .goto (-31), 3), (38, .iload_n 2, 1), (39, .ireturn, 1)]
theorem tX1_zealOf : dck cX1_zealOf tbX1_zealOf = true := by decide +kernel
def f_X1_zealOf_L4 (N : Nat) (M : Mem) (k : Nat) (x1 : Int32) : Nat → Int32 → Int32 → Option (Int32 × Int32)
  | 0, _, _ => none
  | n + 1, x2, x3 => (if (M 1 7) ≤ x3 then some (x2, x3) else (if ((x1 >>> (x3 &&& 31)) &&& (1 : Int32)) = 0 then f_X1_zealOf_L4 N M k x1 n x2 (x3 + (1 : Int32)) else if inb x3 8 = true then f_X1_zealOf_L4 N M k x1 n (x2 + (M (k + 1) x3.toNatClampNeg)) (x3 + (1 : Int32)) else none))
def f_X1_zealOf (N : Nat) (M : Mem) (k : Nat) (x1 : Int32) : Option Int32 := (f_X1_zealOf_L4 N M k x1 N (0 : Int32) (0 : Int32)).bind fun o4 => some o4.1
set_option maxHeartbeats 4000000 in
set_option maxRecDepth 100000 in
theorem g_X1_zealOf_L4 {X : Cx} {F : Fx} (hS : SC X) (hF : FK X F cX1_zealOf RX1 4 1) (N : Nat) (M : Mem) (k : Nat) (x1 : Int32) (hk : ev k) : ∀ (n : Nat) (x2 : Int32) (x3 : Int32) (o : Int32 × Int32), f_X1_zealOf_L4 N M k x1 n x2 x3 = some o → G X F 38 [none, none, some (.int o.1), none] [] M → G X F 4 [some (.ref k), some (.int x1), some (.int x2), some (.int x3)] [] M := by
  intro n
  induction n with
  | zero =>
    intro x2 x3 o h K
    cases h
  | succ n ih =>
    intro x2 x3 o h K
    rw [f_X1_zealOf_L4] at h
    refine g_iload_n hF (dck_at tX1_zealOf 4 rfl) rfl ?_
    refine g_aload_n hF (dck_at tX1_zealOf 5 rfl) rfl ?_
    refine gf_X1_15 hF (ev_m hS hk) (ev_kd hk) (ev_ln hk) (dck_at tX1_zealOf 6 rfl) ?_
    refine gf_X1_30 hF (hS 1 (by decide)) kdc_1 lnc_1 (dck_at tX1_zealOf 7 rfl) ?_
    refine g_icmp_ge hF 38 (dck_at tX1_zealOf 8 rfl) (by decide) (fun hc12 => ?_) (fun hc12 => ?_)
    · replace h := ite_t hc12 h
      refine g_msk [false, false, true, false] (L' := [none, none, some (.int x2), none]) rfl ?_
      cases h
      exact K
    · replace h := ite_f hc12 h
      refine g_iload_n hF (dck_at tX1_zealOf 9 rfl) rfl ?_
      refine g_iload_n hF (dck_at tX1_zealOf 10 rfl) rfl ?_
      refine g_ishr hF (dck_at tX1_zealOf 11 rfl) ?_
      refine g_iconst (v := 1) hF (dck_at tX1_zealOf 12 rfl) (by decide) ?_
      refine g_iand hF (dck_at tX1_zealOf 13 rfl) ?_
      refine g_if_eq hF 32 (dck_at tX1_zealOf 14 rfl) (by decide) (fun hc20 => ?_) (fun hc20 => ?_)
      · replace h := ite_t hc20 h
        refine g_iinc (v := 1) (L' := [some (.ref k), some (.int x1), some (.int x2), some (.int (x3 + (1 : Int32)))]) hF (dck_at tX1_zealOf 22 rfl) rfl (by decide) rfl ?_
        refine g_goto hF 4 (dck_at tX1_zealOf 23 rfl) (by decide) ?_
        exact ih _ _ _ h K
      · replace h := ite_f hc20 h
        refine g_iload_n hF (dck_at tX1_zealOf 15 rfl) rfl ?_
        refine g_aload_n hF (dck_at tX1_zealOf 16 rfl) rfl ?_
        refine gf_X1_9 hF (ev_m hS hk) (ev_kd hk) (ev_ln hk) (t := (k + 1)) rfl (dck_at tX1_zealOf 17 rfl) ?_
        refine g_iload_n hF (dck_at tX1_zealOf 18 rfl) rfl ?_
        obtain ⟨hg29, h⟩ := gd h
        refine g_ia hF (ev_mz hS hk) (ev_kz hk) (ev_lz hk) hg29 (dck_at tX1_zealOf 19 rfl) ?_
        refine g_iadd hF (dck_at tX1_zealOf 20 rfl) ?_
        show G X F 31 _ _ _
        refine g_istore_n (L' := [some (.ref k), some (.int x1), some (.int (x2 + (M (k + 1) x3.toNatClampNeg))), some (.int x3)]) hF (dck_at tX1_zealOf 21 rfl) (Nat.le_of_ble_eq_true rfl) rfl ?_
        refine g_iinc (v := 1) (L' := [some (.ref k), some (.int x1), some (.int (x2 + (M (k + 1) x3.toNatClampNeg))), some (.int (x3 + (1 : Int32)))]) hF (dck_at tX1_zealOf 22 rfl) rfl (by decide) rfl ?_
        refine g_goto hF 4 (dck_at tX1_zealOf 23 rfl) (by decide) ?_
        exact ih _ _ _ h K
set_option maxHeartbeats 4000000 in
set_option maxRecDepth 100000 in
theorem c_X1_zealOf {X : Cx} {l : Launch} (hX : CxOk X) (hS : SC X) {N : Nat} {M : Mem} {k : Nat} {x1 : Int32} (hk : ev k) {r : Int32} (h : f_X1_zealOf N M k x1 = some r) : Ctr X l yX1_zealOf cX1_zealOf 4 (some .int) 1 [.ref k, .int x1] M (some (.int r)) M := by
  refine Ctr.ofG (L := [some (.ref k), some (.int x1), none, none]) hX (by decide) (Nat.le_of_ble_eq_true rfl) rfl (fun F hF hl hR => ?_)
  subst hl
  unfold f_X1_zealOf at h
  refine g_iconst (v := 0) hF (dck_at tX1_zealOf 0 rfl) (by decide) ?_
  refine g_istore_n (L' := [some (.ref k), some (.int x1), some (.int (0 : Int32)), none]) hF (dck_at tX1_zealOf 1 rfl) (Nat.le_of_ble_eq_true rfl) rfl ?_
  refine g_iconst (v := 0) hF (dck_at tX1_zealOf 2 rfl) (by decide) ?_
  refine g_istore_n (L' := [some (.ref k), some (.int x1), some (.int (0 : Int32)), some (.int (0 : Int32))]) hF (dck_at tX1_zealOf 3 rfl) (Nat.le_of_ble_eq_true rfl) rfl ?_
  obtain ⟨o4, e4, h⟩ := bd h
  refine g_X1_zealOf_L4 hS hF N _ _ _ hk N _ _ _ e4 ?_
  refine g_iload_n hF (dck_at tX1_zealOf 24 rfl) rfl ?_
  cases h
  exact g_iret hF hR (dck_at tX1_zealOf 25 rfl)

def tbX1_noise : List (Nat × Instr × Nat) := [(0, .aload_n 0, 1), (1, .aload_n 0, 1), (2, .getfield 34, 3), (5, .invokevirtual 64, 3), (8, .ireturn, 1)]
theorem tX1_noise : dck cX1_noise tbX1_noise = true := by decide +kernel
def f_X1_noise (N : Nat) (M : Mem) (k : Nat) : Option Int32 := (f_X1_zealOf N M k (M k 1)).bind fun q5 => some q5
set_option maxHeartbeats 4000000 in
set_option maxRecDepth 100000 in
theorem c_X1_noise {X : Cx} {l : Launch} (hX : CxOk X) (hS : SC X) {N : Nat} {M : Mem} {k : Nat} (hk : ev k) {r : Int32} (h : f_X1_noise N M k = some r) : Ctr X l yX1_noise cX1_noise 1 (some .int) 2 [.ref k] M (some (.int r)) M := by
  refine Ctr.ofG (L := [some (.ref k)]) hX (by decide) (Nat.le_of_ble_eq_true rfl) rfl (fun F hF hl hR => ?_)
  subst hl
  unfold f_X1_noise at h
  refine g_aload_n hF (dck_at tX1_noise 0 rfl) rfl ?_
  refine g_aload_n hF (dck_at tX1_noise 1 rfl) rfl ?_
  refine gf_X1_34 hF (ev_m hS hk) (ev_kd hk) (ev_ln hk) (dck_at tX1_noise 2 rfl) ?_
  obtain ⟨q5, e5, h⟩ := bd h
  refine g_callV hF (as := [.int (M k 1)]) (k := k) rfl (by decide) wm_X1_64 wi_X1_zealOf we_X1_zealOf wc_X1_zealOf wn_X1 hyX1_zealOf (by decide) (ev_m hS hk) (ev_kd hk) (c_X1_zealOf hF.2.2.2.2.2.2.2.1 hS hk e5) (by decide) rfl rfl rfl rfl (dck_at tX1_noise 3 rfl) ?_
  show G X F 8 _ [.int q5] M
  cases h
  exact g_iret hF hR (dck_at tX1_noise 4 rfl)

def tbX1_letPass : List (Nat × Instr × Nat) := [(0, .iconst 0, 1), (1, .istore_n 2, 1), (2, .iload_n 2, 1), (3, .iload_n 1, 1), (4, .if_icmp .ge 61, 3), (7, .aload_n 0, 1), (8, .dup, 1), (9, .getfield 50, 3), (12, .aload_n 0, 1), (13, .getfield 37, 3), (16, .aload_n 0, 1), (17, .getfield 15, 3), (20, .getfield 142, 3), (23, .if_icmp .lt 15, 3), (26, .iconst 2, 1), (27, .aload_n 0, 1), (28, .getfield 15, 3), (31, .getfield 145, 3), (34, .imul, 1), (35, .goto 10, 3), (38, .aload_n 0, 1), (39, .getfield 15, 3), (42, .getfield 145, 3), (45, .iadd, 1), (46, .putfield 50, 3), (49, .aload_n 0, 1), (50, .dup, 1), (51, .getfield 37, 3), (54, .iconst 1, 1), (55, .iadd, 1), (56, .putfield 37, 3), (59, .iinc 2 1, 3), (62, .goto (-60), 3), (65, .iconst 0, 1), (66, .istore_n 2, 1), (67, .iload_n 2, 1), (68, .aload_n 0, 1), (69, .getfield 15, 3), (72, .getfield 30, 3), (75, .if_icmp .ge 39, 3), (78, .aload_n 0, 1), (79, .getfield 15, 3), (82, .getfield 148, 3), (85, .iload_n 2, 1), (86, .iaload, 1), (87, .aload_n 0, 1), (88, .getfield 37, 3), (91, .if_icmp .gt 17, 3), (94, .aload_n 0, 1), (95, .dup, 1), (96, .getfield 34, 3), (99, .iconst 1, 1), (100, .iload_n 2, 1), (101, .ishl, 1), (102, .iconst (-1), 1), (103, .ixor, 1), (104, .iand, 1), (105, .putfield 34, 3), (108, .iinc 2 1, 3), (111, .goto (-44), 3), (114, .return_, 1)]
theorem tX1_letPass : dck cX1_letPass tbX1_letPass = true := by decide +kernel
def f_X1_letPass_L2 (N : Nat) (k : Nat) (x1 : Int32) : Nat → Int32 → Mem → Option (Int32 × Mem)
  | 0, _, _ => none
  | n + 1, x2, M => (if x1 ≤ x2 then some (x2, M) else f_X1_letPass_L2 N k x1 n (x2 + (1 : Int32)) (up2 (up2 M k 6 ((M k 6) + (if (M k 2) < (M 1 10) then (M 1 11) else ((2 : Int32) * (M 1 11))))) k 2 (((up2 M k 6 ((M k 6) + (if (M k 2) < (M 1 10) then (M 1 11) else ((2 : Int32) * (M 1 11))))) k 2) + (1 : Int32))))
def f_X1_letPass_L67 (N : Nat) (k : Nat) : Nat → Int32 → Mem → Option (Int32 × Mem)
  | 0, _, _ => none
  | n + 1, x2, M => (if (M 1 7) ≤ x2 then some (x2, M) else if inb x2 8 = true then (if (M k 2) < (M 4 x2.toNatClampNeg) then f_X1_letPass_L67 N k n (x2 + (1 : Int32)) M else f_X1_letPass_L67 N k n (x2 + (1 : Int32)) (up2 M k 1 ((M k 1) &&& (((1 : Int32) <<< (x2 &&& 31)) ^^^ (-1 : Int32))))) else none)
def f_X1_letPass (N : Nat) (M : Mem) (k : Nat) (x1 : Int32) : Option Mem := (f_X1_letPass_L2 N k x1 N (0 : Int32) M).bind fun o2 => (f_X1_letPass_L67 N k N (0 : Int32) o2.2).bind fun o67 => some o67.2
set_option maxHeartbeats 4000000 in
set_option maxRecDepth 100000 in
theorem g_X1_letPass_L2 {X : Cx} {F : Fx} (hS : SC X) (hF : FK X F cX1_letPass RX1 3 1) (N : Nat) (k : Nat) (x1 : Int32) (hk : ev k) : ∀ (n : Nat) (x2 : Int32) (M : Mem) (o : Int32 × Mem), f_X1_letPass_L2 N k x1 n x2 M = some o → G X F 65 [some (.ref k), none, none] [] o.2 → G X F 2 [some (.ref k), some (.int x1), some (.int x2)] [] M := by
  intro n
  induction n with
  | zero =>
    intro x2 M o h K
    cases h
  | succ n ih =>
    intro x2 M o h K
    rw [f_X1_letPass_L2] at h
    refine g_iload_n hF (dck_at tX1_letPass 2 rfl) rfl ?_
    refine g_iload_n hF (dck_at tX1_letPass 3 rfl) rfl ?_
    refine g_icmp_ge hF 65 (dck_at tX1_letPass 4 rfl) (by decide) (fun hc4 => ?_) (fun hc4 => ?_)
    · replace h := ite_t hc4 h
      refine g_msk [true, false, false] (L' := [some (.ref k), none, none]) rfl ?_
      cases h
      exact K
    · replace h := ite_f hc4 h
      refine g_aload_n hF (dck_at tX1_letPass 5 rfl) rfl ?_
      refine g_dup hF (dck_at tX1_letPass 6 rfl) rfl ?_
      refine gf_X1_50 hF (ev_m hS hk) (ev_kd hk) (ev_ln hk) (dck_at tX1_letPass 7 rfl) ?_
      refine g_aload_n hF (dck_at tX1_letPass 8 rfl) rfl ?_
      refine gf_X1_37 hF (ev_m hS hk) (ev_kd hk) (ev_ln hk) (dck_at tX1_letPass 9 rfl) ?_
      refine g_aload_n hF (dck_at tX1_letPass 10 rfl) rfl ?_
      show G X F 17 _ _ _
      refine gf_X1_15 hF (ev_m hS hk) (ev_kd hk) (ev_ln hk) (dck_at tX1_letPass 11 rfl) ?_
      refine gf_X1_142 hF (hS 1 (by decide)) kdc_1 lnc_1 (dck_at tX1_letPass 12 rfl) ?_
      have K45 : G X F 45 [some (.ref k), some (.int x1), some (.int x2)] [.int (if (M k 2) < (M 1 10) then (M 1 11) else ((2 : Int32) * (M 1 11))), .int (M k 6), .ref k] M := by
        refine g_iadd hF (dck_at tX1_letPass 23 rfl) ?_
        refine pf_X1_50 hF (ev_m hS hk) (ev_kd hk) (ev_ln hk) (dck_at tX1_letPass 24 rfl) ?_
        refine g_aload_n hF (dck_at tX1_letPass 25 rfl) rfl ?_
        refine g_dup hF (dck_at tX1_letPass 26 rfl) rfl ?_
        refine gf_X1_37 hF (ev_m hS hk) (ev_kd hk) (ev_ln hk) (dck_at tX1_letPass 27 rfl) ?_
        refine g_iconst (v := 1) hF (dck_at tX1_letPass 28 rfl) (by decide) ?_
        show G X F 55 _ _ _
        refine g_iadd hF (dck_at tX1_letPass 29 rfl) ?_
        refine pf_X1_37 hF (ev_m hS hk) (ev_kd hk) (ev_ln hk) (dck_at tX1_letPass 30 rfl) ?_
        refine g_iinc (v := 1) (L' := [some (.ref k), some (.int x1), some (.int (x2 + (1 : Int32)))]) hF (dck_at tX1_letPass 31 rfl) rfl (by decide) rfl ?_
        refine g_goto hF 2 (dck_at tX1_letPass 32 rfl) (by decide) ?_
        exact ih _ _ _ h K
      refine g_icmp_lt hF 38 (dck_at tX1_letPass 13 rfl) (by decide) (fun hc23 => ?_) (fun hc23 => ?_)
      · refine g_aload_n hF (dck_at tX1_letPass 20 rfl) rfl ?_
        refine gf_X1_15 hF (ev_m hS hk) (ev_kd hk) (ev_ln hk) (dck_at tX1_letPass 21 rfl) ?_
        refine gf_X1_145 hF (hS 1 (by decide)) kdc_1 lnc_1 (dck_at tX1_letPass 22 rfl) ?_
        simp only [if_pos hc23] at K45
        exact K45
      · refine g_iconst (v := 2) hF (dck_at tX1_letPass 14 rfl) (by decide) ?_
        refine g_aload_n hF (dck_at tX1_letPass 15 rfl) rfl ?_
        refine gf_X1_15 hF (ev_m hS hk) (ev_kd hk) (ev_ln hk) (dck_at tX1_letPass 16 rfl) ?_
        refine gf_X1_145 hF (hS 1 (by decide)) kdc_1 lnc_1 (dck_at tX1_letPass 17 rfl) ?_
        refine g_imul hF (dck_at tX1_letPass 18 rfl) ?_
        refine g_goto hF 45 (dck_at tX1_letPass 19 rfl) (by decide) ?_
        simp only [if_neg hc23] at K45
        exact K45
set_option maxHeartbeats 4000000 in
set_option maxRecDepth 100000 in
theorem g_X1_letPass_L67 {X : Cx} {F : Fx} (hS : SC X) (hF : FK X F cX1_letPass RX1 3 1) (N : Nat) (k : Nat) (hk : ev k) : ∀ (n : Nat) (x2 : Int32) (M : Mem) (o : Int32 × Mem), f_X1_letPass_L67 N k n x2 M = some o → G X F 114 [none, none, none] [] o.2 → G X F 67 [some (.ref k), none, some (.int x2)] [] M := by
  intro n
  induction n with
  | zero =>
    intro x2 M o h K
    cases h
  | succ n ih =>
    intro x2 M o h K
    rw [f_X1_letPass_L67] at h
    refine g_iload_n hF (dck_at tX1_letPass 35 rfl) rfl ?_
    refine g_aload_n hF (dck_at tX1_letPass 36 rfl) rfl ?_
    refine gf_X1_15 hF (ev_m hS hk) (ev_kd hk) (ev_ln hk) (dck_at tX1_letPass 37 rfl) ?_
    refine gf_X1_30 hF (hS 1 (by decide)) kdc_1 lnc_1 (dck_at tX1_letPass 38 rfl) ?_
    refine g_icmp_ge hF 114 (dck_at tX1_letPass 39 rfl) (by decide) (fun hc75 => ?_) (fun hc75 => ?_)
    · replace h := ite_t hc75 h
      refine g_msk [false, true, false] (L' := [none, none, none]) rfl ?_
      cases h
      exact K
    · replace h := ite_f hc75 h
      refine g_aload_n hF (dck_at tX1_letPass 40 rfl) rfl ?_
      refine gf_X1_15 hF (ev_m hS hk) (ev_kd hk) (ev_ln hk) (dck_at tX1_letPass 41 rfl) ?_
      refine gf_X1_148 hF (hS 1 (by decide)) kdc_1 lnc_1 (t := 4) rfl (dck_at tX1_letPass 42 rfl) ?_
      refine g_iload_n hF (dck_at tX1_letPass 43 rfl) rfl ?_
      obtain ⟨hg86, h⟩ := gd h
      refine g_ia hF (hS 4 (by decide)) kdc_4 lnc_4 hg86 (dck_at tX1_letPass 44 rfl) ?_
      refine g_aload_n hF (dck_at tX1_letPass 45 rfl) rfl ?_
      show G X F 88 _ _ _
      refine gf_X1_37 hF (ev_m hS hk) (ev_kd hk) (ev_ln hk) (dck_at tX1_letPass 46 rfl) ?_
      refine g_icmp_gt hF 108 (dck_at tX1_letPass 47 rfl) (by decide) (fun hc91 => ?_) (fun hc91 => ?_)
      · replace h := ite_t hc91 h
        refine g_iinc (v := 1) (L' := [some (.ref k), none, some (.int (x2 + (1 : Int32)))]) hF (dck_at tX1_letPass 58 rfl) rfl (by decide) rfl ?_
        refine g_goto hF 67 (dck_at tX1_letPass 59 rfl) (by decide) ?_
        exact ih _ _ _ h K
      · replace h := ite_f hc91 h
        refine g_aload_n hF (dck_at tX1_letPass 48 rfl) rfl ?_
        refine g_dup hF (dck_at tX1_letPass 49 rfl) rfl ?_
        refine gf_X1_34 hF (ev_m hS hk) (ev_kd hk) (ev_ln hk) (dck_at tX1_letPass 50 rfl) ?_
        refine g_iconst (v := 1) hF (dck_at tX1_letPass 51 rfl) (by decide) ?_
        refine g_iload_n hF (dck_at tX1_letPass 52 rfl) rfl ?_
        refine g_ishl hF (dck_at tX1_letPass 53 rfl) ?_
        show G X F 102 _ _ _
        refine g_iconst (v := -1) hF (dck_at tX1_letPass 54 rfl) (by decide) ?_
        refine g_ixor hF (dck_at tX1_letPass 55 rfl) ?_
        refine g_iand hF (dck_at tX1_letPass 56 rfl) ?_
        refine pf_X1_34 hF (ev_m hS hk) (ev_kd hk) (ev_ln hk) (dck_at tX1_letPass 57 rfl) ?_
        refine g_iinc (v := 1) (L' := [some (.ref k), none, some (.int (x2 + (1 : Int32)))]) hF (dck_at tX1_letPass 58 rfl) rfl (by decide) rfl ?_
        refine g_goto hF 67 (dck_at tX1_letPass 59 rfl) (by decide) ?_
        exact ih _ _ _ h K
set_option maxHeartbeats 4000000 in
set_option maxRecDepth 100000 in
theorem c_X1_letPass {X : Cx} {l : Launch} (hX : CxOk X) (hS : SC X) {N : Nat} {M : Mem} {k : Nat} {x1 : Int32} (hk : ev k) {M' : Mem} (h : f_X1_letPass N M k x1 = some M') : Ctr X l yX1_letPass cX1_letPass 3 none 1 [.ref k, .int x1] M none M' := by
  refine Ctr.ofG (L := [some (.ref k), some (.int x1), none]) hX (by decide) (Nat.le_of_ble_eq_true rfl) rfl (fun F hF hl hR => ?_)
  subst hl
  unfold f_X1_letPass at h
  refine g_iconst (v := 0) hF (dck_at tX1_letPass 0 rfl) (by decide) ?_
  refine g_istore_n (L' := [some (.ref k), some (.int x1), some (.int (0 : Int32))]) hF (dck_at tX1_letPass 1 rfl) (Nat.le_of_ble_eq_true rfl) rfl ?_
  obtain ⟨o2, e2, h⟩ := bd h
  refine g_X1_letPass_L2 hS hF N _ _ hk N _ _ _ e2 ?_
  refine g_iconst (v := 0) hF (dck_at tX1_letPass 33 rfl) (by decide) ?_
  refine g_istore_n (L' := [some (.ref k), none, some (.int (0 : Int32))]) hF (dck_at tX1_letPass 34 rfl) (Nat.le_of_ble_eq_true rfl) rfl ?_
  obtain ⟨o67, e67, h⟩ := bd h
  refine g_X1_letPass_L67 hS hF N _ hk N _ _ _ e67 ?_
  cases h
  exact g_vret hF hR (dck_at tX1_letPass 60 rfl)
