/-! fault and hall. -/
def readsM (r : Nat × Option (Nat × (Nat → Nat))) (M : Mem) (q : Int32 × Mem) : Prop := (r.2 = none → q.1 = -1 ∧ q.2 70 12 = nI r.1) ∧ (∀ n' t', r.2 = some (n', t') → q.1 = nI n' ∧ MDr t' q.2) ∧ frM M q.2
theorem m_readsL {N : Nat} (hN : 1000 ≤ N) {w : Nat → Nat} {l : Nat} : ∀ (f g n p : Nat) (t : Nat → Nat) (M : Mem), f + n = 14 → 1 ≤ f → f + 1 < g → WT t → tM w l M → M 70 13 = nI p → p ≤ l → MDr t M →
    Ok (bS (f_X7_reads_L35 N g (nI n) 1 M) (fun o35 => some (o35.1, o35.2.2))) (readsM (pt w l f n t p) M) := by
  intro f
  induction f with
  | zero => intro g n p t M _ h; omega
  | succ f ih =>
    intro g n p t M hn _ hg ht hX h13 hp hD
    obtain ⟨g, rfl⟩ : ∃ k, g = k + 2 := ⟨g - 2, by omega⟩
    have hl := hX.2.1
    rw [f_X7_reads_L35, if_neg (by decide)]
    obtain ⟨M1, hM1, k11, k12, k13, k14, hF1⟩ := m_token (N := N) hN hX h13 hp
    rw [hM1]
    simp only [Option.bind_some]
    have hX1 : tM w l M1 := hX.of (hF1 _ _ (by omega)) (fun b => hF1 _ _ (by omega))
    have hD1 : MDr t M1 := fun j hj => by rw [hF1 _ _ (by omega)]; exact hD j hj
    obtain ⟨⟨r, M2⟩, hr, a1, a2, a3⟩ := m_readsClause (N := N) hN ht hX1 hp k11 k12 k13 hD1
    rw [hr]
    have hle := pc_le (w := w) (t := t) hp
    have hok := fun t' => pc_ok (w := w) (t' := t') ht hp
    dsimp only at a1 a2 a3
    clear hr
    obtain ⟨⟨z, o⟩, hpc⟩ : ∃ P, pc w l t p = P := ⟨_, rfl⟩
    rw [hpc] at a1 a2 hle hok
    dsimp only at a1 a2 hle hok
    simp only [Option.bind_some]
    have hfr2 : frM M M2 := fun a b q1 q2 => by rw [a3 a b q1 q2, hF1 a b q1]
    cases o with
    | none =>
      obtain ⟨b1, b2⟩ := a1 rfl
      rw [if_pos b1, pt_none hpc]
      exact Ok.ret ⟨fun _ => ⟨rfl, b2⟩, fun n' t' q => (by cases q), hfr2⟩
    | some t' =>
      obtain ⟨b1, b2, b3⟩ := a2 t' rfl
      obtain ⟨w1, w2⟩ := hok t' rfl
      rw [b1, if_neg (by decide)]
      have hX2 : tM w l M2 := hX.of (hfr2 _ _ (by omega) (by omega)) (fun b => hfr2 _ _ (by omega) (by omega))
      obtain ⟨M3, hM3, j11, j12, j13, j14, hF3⟩ := m_token (N := N) hN hX2 b2 w2
      rw [hM3]
      simp only [Option.bind_some]
      have hsl := sk_le (w := w) w2
      have hX3 : tM w l M3 := hX2.of (hF3 _ _ (by omega)) (fun b => hF3 _ _ (by omega))
      have hD3 : MDr t' M3 := fun j hj => by rw [hF3 _ _ (by omega)]; exact b3 j hj
      have hfr3 : frM M M3 := fun a b q1 q2 => by rw [hF3 a b q1, hfr2 a b q1 q2]
      have h3 := srt_le w l (sk w l z)
      simp only [j11, nI_1]
      by_cases c1 : l ≤ sk w l z
      · have s0 : srt w l (sk w l z) = 0 := by unfold srt; rw [if_pos c1]
        rw [pt_end hpc c1, s0]
        have e0 : (if nI 0 = 0 then (0 : Int32) else 1) = 0 := rfl
        rw [e0, if_pos rfl, f_X7_reads_L35, if_pos rfl]
        refine Ok.ret ⟨fun q => (by cases q), fun n' t'' q => ?_, hfr3⟩
        have h3 : (n + 1, t') = (n', t'') := Option.some.inj q
        injection h3 with e1 e2
        subst e1
        subst e2
        exact ⟨rfl, hD3⟩
      · have s0 : srt w l (sk w l z) ≠ 0 := by
          unfold srt
          rw [if_neg c1]
          split
          · omega
          · split <;> omega
        have e0 : (if nI (srt w l (sk w l z)) = 0 then (0 : Int32) else 1) = 1 := if_neg (by show ¬ nI _ = nI 0; rw [n_eq (by omega) (by omega)]; exact s0)
        rw [e0, if_neg (by decide)]
        have hwl := hX3.2.2.2 (sk w l z) (by omega)
        by_cases s3 : srt w l (sk w l z) = 3
        · have hin : inb (nI (sk w l z)) 160 = true := by rw [inb_nI (by omega)]; simp; omega
          rw [if_pos (by rw [s3]; rfl), j12, if_pos hin, n_cl (by omega), hX3.2.2.1 _ (by omega)]
          by_cases c2 : w (sk w l z) = 59
          · rw [if_pos (by show nI _ = nI 59; rw [c2])]
            by_cases c3 : n + 1 = 14
            · rw [if_pos (by show nI (n + 1) = nI 14; rw [c3]), pt_bad hpc c1 (fun q => q.2 c3)]
              exact Ok.ret ⟨fun _ => ⟨rfl, j12⟩, fun n' t' q => (by cases q), hfr3⟩
            · rw [if_neg (by show ¬ nI (n + 1) = nI 14; rw [n_eq (by omega) (by omega)]; exact c3), pt_go hpc c1 ⟨c2, c3⟩]
              have hat : atE w l (sk w l z) = sk w l z + 1 := by unfold atE; rw [if_neg (by omega), if_neg (by omega), if_pos s3]
              rw [hat] at j13
              refine (ih (g + 1) (n + 1) (sk w l z + 1) t' M3 (by omega) (by omega) (by omega) w1 hX3 j13 (by omega) hD3).mono ?_
              rintro q ⟨d1, d2, d3⟩
              exact ⟨d1, d2, fun a b q1 q2 => by rw [d3 a b q1 q2, hfr3 a b q1 q2]⟩
          · rw [if_neg (by show ¬ nI _ = nI 59; rw [n_eq (by omega) (by omega)]; exact c2), pt_bad hpc c1 (fun q => c2 q.1)]
            exact Ok.ret ⟨fun _ => ⟨rfl, j12⟩, fun n' t' q => (by cases q), hfr3⟩
        · have c2 : w (sk w l z) ≠ 59 := by
            intro q
            apply s3
            unfold srt isR
            rw [if_neg c1, q]
            rfl
          rw [if_neg (by show ¬ nI _ = nI 3; rw [n_eq (by omega) (by omega)]; exact s3), pt_bad hpc c1 (fun q => c2 q.1)]
          exact Ok.ret ⟨fun _ => ⟨rfl, j12⟩, fun n' t' q => (by cases q), hfr3⟩
theorem m_reads {N : Nat} (hN : 1000 ≤ N) {M : Mem} {w t : Nat → Nat} {l : Nat} (ht : WT t) (hX : tM w l M) (hT : MT t M) : Ok (f_X7_reads N M) (readsM (pt w l 14 0 t 0) M) := by
  unfold f_X7_reads
  refine Ok.bind (lpE (fun n i a => f_X7_reads_L2 N n i a) 45 (fun j M' => (∀ i, i < j → M' 73 i = nI (t i)) ∧ ∀ a b, a ≠ 73 → M' a b = M a b) (fun r => MDr t r.2 ∧ ∀ a b, a ≠ 73 → r.2 a b = M a b) ?_ ?_ N 0 M (by omega) ⟨fun i hi => by omega, fun _ _ _ => rfl⟩ (by omega)) ?_
  · intro f j M' hj ⟨h1, h3⟩
    left
    refine ⟨up2 M' 73 j (nI (t j)), ⟨fun i hi => ?_, fun a b ha => by rw [up2_k ha]; exact h3 a b ha⟩, ?_⟩
    · by_cases q : i = j
      · subst q; rw [up2_same]
      · rw [up2_j q]; exact h1 i (by omega)
    · show f_X7_reads_L2 N (f + 1) (nI j) M' = _
      have g : M' 72 j = nI (t j) := by rw [h3 _ _ (by omega)]; exact hT j hj
      rw [f_X7_reads_L2]
      simp (disch := omega) only [i1, i45, n_le, inb_nI, n_cl, nI_add, g]
      rw [if_neg (by omega)]
      simp [hj]
  · intro f M' h
    show Ok (f_X7_reads_L2 N (f + 1) (nI 45) M') _
    rw [f_X7_reads_L2, if_pos (by show nI 45 ≤ nI 45; rw [n_le (by omega) (by omega)]; omega)]
    exact Ok.ret h
  rintro ⟨r, M1⟩ ⟨h1, h2⟩
  dsimp only at h1 h2 ⊢
  obtain ⟨M2, hM2⟩ : ∃ q, q = up2 M1 70 13 0 := ⟨_, rfl⟩
  rw [← hM2]
  have hF2 : ∀ a b, ¬ (a = 70 ∧ b = 13) → M2 a b = M1 a b := fun a b q => by rw [hM2]; unfold up2; rw [if_neg q]
  refine (m_readsL hN 14 N 0 0 t M2 (by omega) (by omega) (by omega) ht (hX.of (by rw [hF2 _ _ (by omega), h2 _ _ (by omega)]) (fun b => by rw [hF2 _ _ (by omega), h2 _ _ (by omega)])) (by rw [hM2, up2_same]; rfl) (by omega) (fun j hj => by rw [hF2 _ _ (by omega)]; exact h1 j hj)).mono ?_
  rintro q ⟨d1, d2, d3⟩
  exact ⟨d1, d2, fun a b q1 q2 => by rw [d3 a b q1 q2, hF2 a b (by omega), h2 a b q2]⟩
theorem tC_of {n : Nat} {A : Ab} {nx : Nat} {M : Mem} (hB : RB n A) (hC : RC A nx M) : tC (aW A) (aL A) M := ⟨hC.ps.2.2.1.1, hB.2.2.1, hC.ps.2.2.1.2, hB.2.2.2.1⟩
theorem tM_of {n : Nat} {A : Ab} {M : Mem} (hB : RB n A) (hM : RM A M) : tM (aW A) (aL A) M := ⟨hM.ps.2.2.1.1, hB.2.2.1, hM.ps.2.2.1.2, hB.2.2.2.1⟩
theorem frC.rc {A : Ab} {nx : Nat} {M M' : Mem} (h : frC M M') (hC : RC A nx M) : RC A nx M' := hC.of (fun a b q => h a b (by unfold supC at q; omega) (by unfold supC at q; omega) (by unfold supC at q; omega))
theorem frM.rm {A : Ab} {M M' : Mem} (h : frM M M') (hM : RM A M) : RM A M' := hM.of (fun a b q => h a b (by unfold supM at q; omega) (by unfold supM at q; omega))
theorem k_fault {N n nx : Nat} (hN : 1000 ≤ N) {M : Mem} {A : Ab} (hB : RB n A) (hC : RC A nx M) (hM : RM A M) : Ok (f_X6_fault N M) (fun q => Ok (f_X7_fault N q.2) (fun q' => q.1 = q'.1 ∧ Good n q'.2)) := by
  unfold f_X6_fault
  refine Ok.bind (c_findFault hN hB.1 (tC_of hB hC) hC.1) ?_
  rintro ⟨r1, M1⟩ ⟨a1, a2, a3⟩
  dsimp only at a1 a2 a3 ⊢
  refine Ok.ret ?_
  dsimp only
  have hM1 : RM A M1 := hM.kp (fun a b q => a3 a b (by omega) (by omega) (by omega))
  have hC1 := a3.rc hC
  unfold f_X7_fault
  refine Ok.bind (m_reads hN hB.1 (tM_of hB hM1) hM1.1) ?_
  rintro ⟨r2, M2⟩ ⟨b1, b2, b3⟩
  dsimp only at b1 b2 b3 ⊢
  have hG : Good n M2 := ⟨A, nx, hB, hC1.km (fun a b q => b3 a b (by omega) (by omega)), b3.rm hM1⟩
  cases hp : (pt (aW A) (aL A) 14 0 (aT A) 0).2 with
  | none =>
    obtain ⟨c1, c2⟩ := a1 hp
    obtain ⟨d1, d2⟩ := b1 hp
    rw [if_pos d1]
    exact Ok.ret ⟨by rw [c1, d2], hG⟩
  | some v =>
    obtain ⟨n', t'⟩ := v
    obtain ⟨c1, c2, c3, c4, c5⟩ := a2 n' t' hp
    obtain ⟨d1, d2⟩ := b2 n' t' hp
    rw [if_neg (by rw [d1]; exact nI_ne_m1 (by omega))]
    exact Ok.ret ⟨c1, hG⟩
/-- the evening as it begins -/
def beg (t : Nat → Nat) : Nat → Nat := fun j => if j = 1 then t 2 else if 6 ≤ j then t (7 + j) else 0
theorem WS.beg {t : Nat → Nat} (ht : WT t) : WS t (beg t) 999 0 := by
  refine ⟨by show 0 ≤ 999; omega, ht.2.2.1, by show 0 ≤ 0; omega, by show 0 < 16; omega, fun c hc => ?_⟩
  show (if 6 + c = 1 then t 2 else if 6 ≤ 6 + c then t (7 + (6 + c)) else 0) ≤ 40
  rw [if_neg (by omega), if_pos (by omega), show 7 + (6 + c) = 13 + c by omega]
  have := (ht.2.2.2.2.2.1 c hc).2.1
  omega
theorem thB_beg {t : Nat → Nat} (ht : WT t) : thB t (beg t) = 2 ^ t 0 - 1 := by
  unfold thB
  have : ∀ n, n ≤ t 0 → orB (isT t (beg t)) n = 2 ^ n - 1 := by
    intro n
    induction n with
    | zero => intro _; rfl
    | succ n ih =>
      intro hn
      have hT : isT t (beg t) n = true := by
        unfold isT
        have := (ht.2.2.2.2.2.1 n (by omega)).2.2.1
        have h0 : beg t 0 = 0 := rfl
        rw [h0]
        simp
        omega
      rw [orB, ih (by omega), hT, if_pos rfl, Nat.pow_succ]
      have := Nat.two_pow_pos n
      omega
  exact this (t 0) (Nat.le_refl _)
theorem knw_beg {t : Nat → Nat} : knw t (beg t) = false := by
  unfold knw
  cases hq : anyN (fun e => decide (t (29 + e) = 3) && (beg t 5).testBit e) (t 1) with
  | false => rfl
  | true =>
    obtain ⟨i, _, h2⟩ := (anyN_iff _ _).mp hq
    have h0 : beg t 5 = 0 := rfl
    rw [h0] at h2
    simp at h2
theorem c_begin {N : Nat} {M : Mem} {t : Nat → Nat} (ht : WT t) (hT : TC t M 1) : Ok (f_X1_begin N M 21) (fun M' => EC t (beg t) M' 21 ∧ ∀ a b, a ≠ 21 → a ≠ 22 → M' a b = M a b) := by
  have h0 := ht.1
  unfold f_X1_begin
  have g7 : cp2 M 3 (21 + 1) 8 1 7 = nI (t 0) := by rw [cp2_k (by decide)]; exact hT.1
  have hq : 2 ^ t 0 ≤ 256 := Nat.pow_le_pow_right (n := 2) (j := 8) (by decide) (by omega)
  have hr : 1 ≤ 2 ^ t 0 := Nat.two_pow_pos _
  have hv : (1 : Int32) <<< (nI (t 0) &&& 31) - 1 = nI (2 ^ t 0 - 1) := by
    show nI 1 <<< (nI (t 0) &&& nI 31) - nI 1 = _
    rw [x_pow (by omega), n_sub (by omega)]
  rw [g7, hv]
  have g9 : up2 (up2 (cp2 M 3 (21 + 1) 8) 21 1 (nI (2 ^ t 0 - 1))) 21 2 0 1 9 = nI (t 2) := by rw [up2_k (by decide), up2_k (by decide), cp2_k (by decide)]; exact hT.2.2.1
  rw [g9]
  refine Ok.ret ⟨EC.mk ?_ ⟨?_, ?_, ?_, ?_, ?_, ?_, ?_, ?_⟩, fun a b q1 q2 => ?_⟩
  · rw [thB_beg ht, up2_j (by decide), up2_j (by decide), up2_j (by decide), up2_j (by decide), up2_j (by decide), up2_j (by decide), up2_j (by decide), up2_same]
  · rw [up2_j (by decide), up2_j (by decide), up2_j (by decide), up2_j (by decide), up2_j (by decide), up2_j (by decide), up2_same]; rfl
  · rw [up2_j (by decide), up2_j (by decide), up2_j (by decide), up2_j (by decide), up2_j (by decide), up2_same]; rfl
  · rw [up2_j (by decide), up2_j (by decide), up2_j (by decide), up2_j (by decide), up2_same]; rfl
  · rw [up2_j (by decide), up2_j (by decide), up2_j (by decide), up2_same]; rfl
  · rw [up2_j (by decide), up2_j (by decide), up2_same]; rfl
  · rw [up2_j (by decide), up2_same]; rfl
  · rw [up2_same, knw_beg]; rfl
  · intro c hc
    rw [up2_k (by decide), up2_k (by decide), up2_k (by decide), up2_k (by decide), up2_k (by decide), up2_k (by decide), up2_k (by decide), up2_k (by decide), cp2_in (by omega)]
    show M 3 c = nI (if 6 + c = 1 then t 2 else if 6 ≤ 6 + c then t (7 + (6 + c)) else 0)
    rw [if_neg (by omega), if_pos (by omega), show 7 + (6 + c) = 13 + c by omega]
    exact hT.2.2.2.2.2.2.1 c hc
  · rw [up2_k q1, up2_k q1, up2_k q1, up2_k q1, up2_k q1, up2_k q1, up2_k q1, up2_k q1, cp2_k q2]
theorem m_begins {N : Nat} (hN : 1000 ≤ N) {M : Mem} {t : Nat → Nat} (hT : MT t M) : Ok (f_X7_begins N M) (fun M' => MS (beg t) M' ∧ M' 70 6 = nI 0 ∧ M' 70 10 = nI 0 ∧ M' 77 0 = nI 0 ∧ M' 77 1 = nI 0 ∧ ∀ a b, a ≠ 74 → a ≠ 77 → ¬ (a = 70 ∧ (b = 6 ∨ b = 10)) → M' a b = M a b) := by
  unfold f_X7_begins
  refine Ok.bind (lpE (fun n i a => f_X7_begins_L2 N n i a) 14 (fun j M' => (∀ i, i < j → M' 74 i = nI (beg t i)) ∧ ∀ a b, a ≠ 74 → M' a b = M a b) (fun r => MS (beg t) r.2 ∧ ∀ a b, a ≠ 74 → r.2 a b = M a b) ?_ ?_ N 0 M (by omega) ⟨fun i hi => by omega, fun _ _ _ => rfl⟩ (by omega)) ?_
  · intro f j M' hj ⟨h1, h3⟩
    left
    refine ⟨up2 M' 74 j (nI (beg t j)), ⟨fun i hi => ?_, fun a b ha => by rw [up2_k ha]; exact h3 a b ha⟩, ?_⟩
    · by_cases q : i = j
      · subst q; rw [up2_same]
      · rw [up2_j q]; exact h1 i (by omega)
    · show f_X7_begins_L2 N (f + 1) (nI j) M' = _
      have g2 : M' 72 2 = nI (t 2) := by rw [h3 _ _ (by omega)]; exact hT 2 (by omega)
      have e1 : nI 13 + nI j - nI 6 = nI (7 + j) := by rw [nI_add, n_sub (by omega)]; congr 1; omega
      have g7 : M' 72 (7 + j) = nI (t (7 + j)) := by rw [h3 _ _ (by omega)]; exact hT (7 + j) (by omega)
      have h45 : 7 + j < 45 := by omega
      rw [f_X7_begins_L2]
      simp (disch := omega) only [i0, i1, i6, i13, i14, n_le, n_eq, e1, inb_nI, n_cl, g2, g7]
      rw [if_neg (by omega)]
      unfold beg
      by_cases q1 : j = 1
      · simp [q1, nI_add]
      · by_cases q6 : 6 ≤ j
        · simp [q1, q6, hj, h45, nI_add]
        · simp [q1, q6, hj, nI_add]
  · intro f M' h
    show Ok (f_X7_begins_L2 N (f + 1) (nI 14) M') _
    rw [f_X7_begins_L2, if_pos (by show nI 14 ≤ nI 14; rw [n_le (by omega) (by omega)]; omega)]
    exact Ok.ret h
  rintro ⟨r, M1⟩ ⟨h1, h2⟩
  dsimp only at h1 h2 ⊢
  rw [vpb0]
  refine Ok.ret ⟨fun j hj => ?_, ?_, ?_, ?_, ?_, fun a b q1 q2 q3 => ?_⟩
  · rw [up2_k (by decide), up2_k (by decide), up2_k (by decide), up2_k (by decide)]; exact h1 j hj
  · rw [up2_k (by decide), up2_k (by decide), up2_j (by decide), up2_same]; rfl
  · rw [up2_k (by decide), up2_k (by decide), up2_same]; rfl
  · rw [up2_j (by decide), up2_same]
  · rw [up2_same]
  · rw [up2_k q2, up2_k q2]
    have : up2 (up2 M1 70 6 0) 70 10 0 a b = M1 a b := by unfold up2; rw [if_neg (by omega), if_neg (by omega)]
    rw [this, h2 a b q1]
theorem k_hall {N n nx : Nat} (hN : 1000 ≤ N) {M : Mem} {A : Ab} (hB : RB n A) (hC : RC A nx M) (hM : RM A M) : Ok (f_X6_hall N M) (fun q => Ok (f_X7_hall N q.2) (fun q' => q.1 = q'.1 ∧ Good n q'.2)) := by
  unfold f_X6_hall
  refine Ok.bind (c_findFault hN hB.1 (tC_of hB hC) hC.1) ?_
  rintro ⟨r1, M1⟩ ⟨a1, a2, a3⟩
  dsimp only at a1 a2 a3 ⊢
  have hC1 := a3.rc hC
  have hM1 : RM A M1 := hM.kp (fun a b q => a3 a b (by omega) (by omega) (by omega))
  cases hp : (pt (aW A) (aL A) 14 0 (aT A) 0).2 with
  | none =>
    obtain ⟨c1, c2⟩ := a1 hp
    have hl := hB.2.2.1
    rw [if_neg (by rw [c1]; exact nI_ne_m1 (by omega))]
    refine Ok.ret ?_
    dsimp only
    unfold f_X7_hall
    refine Ok.bind (m_reads hN hB.1 (tM_of hB hM1) hM1.1) ?_
    rintro ⟨r2, M2⟩ ⟨b1, b2, b3⟩
    dsimp only at b1 b2 b3 ⊢
    obtain ⟨d1, d2⟩ := b1 hp
    rw [if_pos d1]
    exact Ok.ret ⟨rfl, A, nx, hB, hC1.km (fun a b q => b3 a b (by omega) (by omega)), b3.rm hM1⟩
  | some v =>
    obtain ⟨n', t'⟩ := v
    obtain ⟨c1, c2, c3, c4, c5⟩ := a2 n' t' hp
    rw [if_pos c1]
    obtain ⟨e1, e2, e3, e4, e5, e6⟩ := hC1.ps
    refine Ok.bind (d_copy c4 c3 (Or.inr (by omega))) ?_
    rintro M2 ⟨f1, f2⟩
    obtain ⟨M3, hM3⟩ : ∃ q, q = up2 M2 9 1 0 := ⟨_, rfl⟩
    rw [← hM3]
    have hF3 : ∀ a b, ¬ (a = 9 ∧ b = 1) → M3 a b = M2 a b := fun a b q => by rw [hM3]; unfold up2; rw [if_neg q]
    have hT3 : TC t' M3 1 := f1.of (fun a b q1 q2 => hF3 a b (by omega))
    refine Ok.bind (P := fun M6 => EC t' (beg t') M6 21 ∧ M6 0 9 = nI 0 ∧ M6 43 0 = nI 0 ∧ M6 62 0 = nI 0 ∧ M6 62 1 = nI 0 ∧ ∀ a b, a ≠ 21 → a ≠ 22 → ¬ (a = 0 ∧ b = 9) → ¬ (a = 43 ∧ b = 0) → a ≠ 62 → M6 a b = M3 a b) ?_ ?_
    · unfold f_X6_beginAnew
      refine Ok.bind (c_begin c4 hT3) ?_
      rintro M4 ⟨g1, g2⟩
      obtain ⟨M5, hM5⟩ : ∃ q, q = up2 (up2 M4 0 9 0) 43 0 0 := ⟨_, rfl⟩
      rw [← hM5]
      obtain ⟨N', rfl⟩ : ∃ k, N = k + 3 := ⟨N - 3, by omega⟩
      have hL : f_X6_beginAnew_L22 (N' + 3) (N' + 3) 0 M5 = some (nI 2, up2 (up2 M5 62 0 (nI 0)) 62 1 (nI 0)) := by
        show f_X6_beginAnew_L22 (N' + 3) (N' + 3) (nI 0) M5 = _
        rw [f_X6_beginAnew_L22, if_neg (by decide), if_pos (by decide), nI_1, vpb0, n_cl (by omega), f_X6_beginAnew_L22, if_neg (by decide), if_pos (by decide), nI_1, vpb0, n_cl (by omega), f_X6_beginAnew_L22, if_pos (by decide)]
      rw [hL]
      simp only [Option.bind_some]
      refine Ok.ret ⟨g1.of (fun a b q1 q2 => ?_), ?_, ?_, ?_, ?_, fun a b q1 q2 q3 q4 q5 => ?_⟩
      · rw [up2_k (by omega), up2_k (by omega), hM5, up2_k (by omega), up2_k (by omega)]
      · rw [up2_k (by decide), up2_k (by decide), hM5, up2_k (by decide), up2_same]; rfl
      · rw [up2_k (by decide), up2_k (by decide), hM5, up2_same]; rfl
      · rw [up2_j (by decide), up2_same]
      · rw [up2_same]
      · rw [up2_k q5, up2_k q5, hM5]
        have : up2 (up2 M4 0 9 0) 43 0 0 a b = M4 a b := by unfold up2; rw [if_neg q4, if_neg q3]
        rw [this, g2 a b q1 q2]
    rintro M6 ⟨g1, g2, g3, g4, g5, g6⟩
    have hz : ∀ a b, 10 ≤ a → a ≠ 21 → a ≠ 22 → a ≠ 43 → a ≠ 62 → M6 a b = M1 a b := fun a b q1 q2 q3 q4 q5 => by rw [g6 a b q2 q3 (by omega) (by omega) q5, hF3 a b (by omega), f2 a b (by omega)]
    have h92 : M6 9 2 = nI n' := by rw [g6 _ _ (by omega) (by omega) (by omega) (by omega) (by omega), hF3 _ _ (by omega), f2 _ _ (by omega)]; exact c2
    have h91 : M6 9 1 = nI 0 := by rw [g6 _ _ (by omega) (by omega) (by omega) (by omega) (by omega), hM3, up2_same]; rfl
    refine Ok.ret ?_
    dsimp only
    rw [h92]
    have hM6 : RM A M6 := hM1.kp (fun a b q => hz a b (by omega) (by omega) (by omega) (by omega) (by omega))
    unfold f_X7_hall
    refine Ok.bind (m_reads hN hB.1 (tM_of hB hM6) hM6.1) ?_
    rintro ⟨r2, M7⟩ ⟨b1, b2, b3⟩
    dsimp only at b1 b2 b3 ⊢
    obtain ⟨d1, d2⟩ := b2 n' t' hp
    rw [if_neg (by rw [d1]; exact nI_ne_m1 (by omega))]
    refine Ok.bind (lpE (fun n i a => f_X7_hall_L15 N r2 n i a) 45 (fun j M' => (∀ i, i < j → M' 72 i = nI (t' i)) ∧ ∀ a b, a ≠ 72 → M' a b = M7 a b) (fun r => MT t' r.2 ∧ ∀ a b, a ≠ 72 → r.2 a b = M7 a b) ?_ ?_ N 0 M7 (by omega) ⟨fun i hi => by omega, fun _ _ _ => rfl⟩ (by omega)) ?_
    · intro f j M' hj ⟨h1, h3⟩
      left
      refine ⟨up2 M' 72 j (nI (t' j)), ⟨fun i hi => ?_, fun a b ha => by rw [up2_k ha]; exact h3 a b ha⟩, ?_⟩
      · by_cases q : i = j
        · subst q; rw [up2_same]
        · rw [up2_j q]; exact h1 i (by omega)
      · show f_X7_hall_L15 N r2 (f + 1) (nI j) M' = _
        have g : M' 73 j = nI (t' j) := by rw [h3 _ _ (by omega)]; exact d2 j hj
        rw [f_X7_hall_L15]
        simp (disch := omega) only [i1, i45, n_le, inb_nI, n_cl, nI_add, g]
        rw [if_neg (by omega)]
        simp [hj]
    · intro f M' h
      show Ok (f_X7_hall_L15 N r2 (f + 1) (nI 45) M') _
      rw [f_X7_hall_L15, if_pos (by show nI 45 ≤ nI 45; rw [n_le (by omega) (by omega)]; omega)]
      exact Ok.ret h
    rintro ⟨r3, M8⟩ ⟨h1, h2⟩
    dsimp only at h1 h2 ⊢
    refine Ok.bind (m_begins hN h1) ?_
    rintro M9 ⟨k1, k2, k3, k4, k5, k6⟩
    obtain ⟨M10, hM10⟩ : ∃ q, q = up2 M9 70 1 0 := ⟨_, rfl⟩
    rw [← hM10]
    have hF10 : ∀ a b, ¬ (a = 70 ∧ b = 1) → M10 a b = M9 a b := fun a b q => by rw [hM10]; unfold up2; rw [if_neg q]
    have hlow : ∀ a b, a < 70 → M10 a b = M6 a b := fun a b q => by rw [hF10 a b (by omega), k6 a b (by omega) (by omega) (by omega), h2 a b (by omega), b3 a b (by omega) (by omega)]
    refine Ok.ret ⟨d1.symm, (t', beg t', aW A, 0, aR A, 0, aH A, 0, (fun _ => false), aI A), nx, ?_, ?_, ?_⟩
    · exact ⟨c4, (WS.beg c4).mono (by omega) (by omega), Nat.zero_le _, fun i hi => absurd hi (Nat.not_lt_zero i), Nat.zero_le _, fun i hi => absurd hi (Nat.not_lt_zero i), Nat.zero_le _, fun i hi => absurd hi (Nat.not_lt_zero i), fun k hk q => (by cases q)⟩
    · refine RC.mk (hT3.of (fun a b q1 q2 => ?_)) (g1.of (fun a b q1 q2 => hlow a b (by omega))) ⟨?_, fun i hi => absurd hi (Nat.not_lt_zero i)⟩ ⟨?_, fun i hi => absurd hi (Nat.not_lt_zero i)⟩ ⟨?_, ?_, e5.2.2.1, fun i hi => absurd hi (Nat.not_lt_zero i)⟩ (fun k hk => ⟨?_, fun q => (by cases q)⟩)
      · show M10 a b = M3 a b
        rw [hlow a b (by omega), g6 a b (by omega) (by omega) (by omega) (by omega) (by omega)]
      · show M10 9 1 = nI 0; rw [hlow _ _ (by omega)]; exact h91
      · show M10 0 9 = nI 0; rw [hlow _ _ (by omega)]; exact g2
      · show M10 43 0 = nI 0; rw [hlow _ _ (by omega)]; exact g3
      · show M10 43 1 = nI nx; rw [hlow _ _ (by omega), g6 _ _ (by omega) (by omega) (by omega) (by omega) (by omega), hF3 _ _ (by omega), f2 _ _ (by omega)]; exact e5.2.1
      · show M10 62 k = nI 0
        rw [hlow _ _ (by omega)]
        rcases (show k = 0 ∨ k = 1 by omega) with rfl | rfl
        · exact g4
        · exact g5
    · refine RM.mk (fun j hj => ?_) (fun j hj => ?_) ⟨?_, fun i hi => absurd hi (Nat.not_lt_zero i)⟩ ⟨?_, fun i hi => absurd hi (Nat.not_lt_zero i)⟩ ⟨?_, fun i hi => absurd hi (Nat.not_lt_zero i)⟩ (fun k hk => ⟨?_, fun q => (by cases q)⟩)
      · show M10 72 j = nI (t' j); rw [hF10 _ _ (by omega), k6 _ _ (by omega) (by omega) (by omega)]; exact h1 j hj
      · show M10 74 j = nI (beg t' j); rw [hF10 _ _ (by omega)]; exact k1 j hj
      · show M10 70 1 = nI 0; rw [hM10, up2_same]; rfl
      · show M10 70 10 = nI 0; rw [hF10 _ _ (by omega)]; exact k3
      · show M10 70 6 = nI 0; rw [hF10 _ _ (by omega)]; exact k2
      · show M10 77 k = nI 0
        rw [hF10 _ _ (by omega)]
        rcases (show k = 0 ∨ k = 1 by omega) with rfl | rfl
        · exact k4
        · exact k5
