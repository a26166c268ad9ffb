/-! The class's evening, method by method. -/
theorem c_isClapping' {N : Nat} {M : Mem} {t s : Nat → Nat} {k c m n : Nat} (ht : WT t) (hs : WS t s m n) (e1 : M k 1 = nI (thB t s)) (e9 : M (k + 1) c = nI (s (6 + c))) (hc : c < t 0) : f_X1_isClapping N M k (nI c) = some (if clp t s c = true then nI 1 else nI 0) := by
  have h0 := ht.1
  have hb := thB_lt (s := s) ht
  have h1 := hs.2.2.2.2 c hc
  unfold f_X1_isClapping
  simp (disch := omega) only [e1, i0, i1, i8, i31, bt0, tb_th, inb_nI, n_cl, e9, n_le]
  unfold clp
  cases hT : isT t s c with
  | false => simp
  | true =>
    have h8 : c < 8 := by omega
    by_cases hz : s (6 + c) ≤ 0
    · have : ¬ 0 < s (6 + c) := by omega
      simp [h8, hz, this]
    · have : 0 < s (6 + c) := by omega
      simp [h8, hz, this]
theorem c_isClapping {N : Nat} {M : Mem} {t s : Nat → Nat} {k c m n : Nat} (ht : WT t) (hs : WS t s m n) (hE : EC t s M k) (hc : c < t 0) : f_X1_isClapping N M k (nI c) = some (if clp t s c = true then nI 1 else nI 0) := c_isClapping' ht hs hE.1 (hE.2.2.2.2.2.2.2.2 c hc) hc
theorem c_zealOf {N : Nat} (hN : 1000 ≤ N) {M : Mem} {t s : Nat → Nat} {k x : Nat} (ht : WT t) (hT : TC t M 1) (hE : EC t s M k) (hx : x < 256) : f_X1_zealOf N M k (nI x) = some (nI (sumN (fun c => if x.testBit c = true then s (6 + c) else 0) (t 0))) := by
  obtain ⟨e1, e2, e3, e4, e5, e6, e7, e8, e9⟩ := hE
  have h0 := ht.1
  have g0 := hT.1
  unfold f_X1_zealOf
  refine Ok.eq (Ok.bind (lpE (fun n i a => f_X1_zealOf_L4 N M k (nI x) n a i) (t 0) (fun j a => a = nI (sumN (fun c => if x.testBit c = true then s (6 + c) else 0) j)) (fun r => r.1 = nI (sumN (fun c => if x.testBit c = true then s (6 + c) else 0) (t 0))) ?_ ?_ N 0 0 (by omega) rfl (by omega)) (fun a ha => Ok.ret ha))
  · intro n j a hj ha
    left
    refine ⟨_, rfl, ?_⟩
    show f_X1_zealOf_L4 N M k (nI x) (n + 1) a (nI j) = _
    rw [f_X1_zealOf_L4, ha]
    simp (disch := omega) only [g0, i0, i1, i8, i31, bt0, inb_nI, n_cl, e9, n_le, nI_add]
    have h8 : j < 8 := by omega
    have h9 : ¬ t 0 ≤ j := by omega
    rw [if_neg h9, sumN]
    cases hb : x.testBit j with
    | false => simp
    | true => simp [h8]
  · intro n a ha
    show Ok (f_X1_zealOf_L4 N M k (nI x) (n + 1) a (nI (t 0))) _
    rw [f_X1_zealOf_L4]
    simp (disch := omega) only [g0, n_le]
    rw [if_pos (Nat.le_refl _)]
    exact Ok.ret ha
theorem c_noise {N : Nat} (hN : 1000 ≤ N) {M : Mem} {t s : Nat → Nat} {k : Nat} (ht : WT t) (hT : TC t M 1) (hE : EC t s M k) : f_X1_noise N M k = some (nI (nois t s)) := by
  unfold f_X1_noise
  rw [hE.1, c_zealOf hN ht hT hE (thB_lt ht)]
  show some _ = _
  unfold nois
  simp only [tb_th]
theorem c_whoClaps {N : Nat} (hN : 1000 ≤ N) {M : Mem} {t s : Nat → Nat} {k m n : Nat} (ht : WT t) (hs : WS t s m n) (hT : TC t M 1) (hE : EC t s M k) : f_X1_whoClaps N M k = some (nI (clB t s)) := by
  have h0 := ht.1
  have g0 := hT.1
  unfold f_X1_whoClaps
  refine Ok.eq (Ok.bind (lpE (fun n i a => f_X1_whoClaps_L4 N M k n a i) (t 0) (fun j a => a = nI (orB (clp t s) j)) (fun r => r.1 = nI (clB t s)) ?_ ?_ N 0 0 (by omega) rfl (by omega)) (fun a ha => Ok.ret ha))
  · intro n j a hj ha
    left
    refine ⟨_, rfl, ?_⟩
    show f_X1_whoClaps_L4 N M k (n + 1) a (nI j) = _
    rw [f_X1_whoClaps_L4, ha, c_isClapping ht hs hE hj]
    simp (disch := omega) only [g0, i0, i1, i31, n_le, nI_add, x_pow, x_or, orB_or, Option.bind_some]
    have h9 : ¬ t 0 ≤ j := by omega
    rw [if_neg h9, orB]
    cases hb : clp t s j with
    | false => simp
    | true => simp [n_eq]
  · intro n a ha
    show Ok (f_X1_whoClaps_L4 N M k (n + 1) a (nI (t 0))) _
    rw [f_X1_whoClaps_L4]
    simp (disch := omega) only [g0, n_le]
    rw [if_pos (Nat.le_refl _)]
    exact Ok.ret ha
