/-! How the model reads clauses. -/
def MDr (t : Nat → Nat) (M : Mem) : Prop := ∀ j, j < 45 → M 73 j = nI (t j)
def frM (M M' : Mem) : Prop := ∀ a b, ¬ (a = 70 ∧ 11 ≤ b ∧ b ≤ 14) → a ≠ 73 → M' a b = M a b
def pcc (w : Nat → Nat) (l : Nat) (t : Nat → Nat) (a e c : Nat) : Nat × Option (Nat → Nat) := if room t (dD c) = false then (a, none) else
    match fstU (nbad w l e (dD c)) (hM (dD c)) with
    | some i => (sk w l (nps w l e i), none)
    | none => (nps w l e (hM (dD c)), some (carry t (dD c) (dK c) (fun i => nV w l (nps w l e i))))
theorem pc_none {w : Nat → Nat} {l p : Nat} {t : Nat → Nat} (h : fstU (isW w (sk w l p) (le w l (sk w l p))) 13 = none) : pc w l t p = (sk w l p, none) := by unfold pc; rw [h]
theorem pc_some {w : Nat → Nat} {l p c : Nat} {t : Nat → Nat} (h : fstU (isW w (sk w l p) (le w l (sk w l p))) 13 = some c) : pc w l t p = pcc w l t (sk w l p) (le w l (sk w l p)) c := by unfold pc pcc; rw [h]; rfl
def rcTo (r : Nat × Option (Nat → Nat)) (M : Mem) (q : Int32 × Mem) : Prop := (r.2 = none → q.1 = 0 ∧ q.2 70 12 = nI r.1) ∧ (∀ t', r.2 = some t' → q.1 = 1 ∧ q.2 70 13 = nI r.1 ∧ MDr t' q.2) ∧ frM M q.2
theorem rcTo.no {z : Nat} {M M' : Mem} (h : M' 70 12 = nI z) (hF : frM M M') : rcTo (z, none) M (0, M') := ⟨fun _ => ⟨rfl, h⟩, fun t' q => (by cases q), hF⟩
theorem rcTo.yes {z : Nat} {t : Nat → Nat} {M M' : Mem} (h : M' 70 13 = nI z) (hD : MDr t M') (hF : frM M M') : rcTo (z, some t) M (1, M') := ⟨fun q => (by cases q), fun t' q => (by have h2 := Option.some.inj q; rw [← h2]; exact ⟨rfl, h, hD⟩), hF⟩
theorem fst1 (P : Nat → Bool) : fstU P 1 = if P 0 = true then some 0 else none := rfl
theorem fst2 (P : Nat → Bool) : fstU P 2 = if P 0 = true then some 0 else if P 1 = true then some 1 else none := by
  show (match fstU P 1 with | some i => some i | none => if P 1 = true then some 1 else none) = _
  rw [fst1]
  cases P 0 <;> rfl
theorem fst3 (P : Nat → Bool) : fstU P 3 = if P 0 = true then some 0 else if P 1 = true then some 1 else if P 2 = true then some 2 else none := by
  show (match fstU P 2 with | some i => some i | none => if P 2 = true then some 2 else none) = _
  rw [fst2]
  cases P 0 <;> cases P 1 <;> rfl
theorem m_clapper {N : Nat} (hN : 1000 ≤ N) {M : Mem} {w t : Nat → Nat} {l a e c : Nat} (ht : WT t) (hX : tM w l M) (hel : e ≤ l) (hd : dD c = 1) (h12 : M 70 12 = nI a) (h13 : M 70 13 = nI e) (hD : MDr t M) :
    Ok (f_X7_readsClapper N M (nI (dK c))) (rcTo (pcc w l t a e c) M) := by
  have h0 := ht.1
  have hl := hX.2.1
  unfold f_X7_readsClapper pcc
  rw [hd, hD 0 (by omega)]
  unfold room
  rw [if_pos rfl]
  by_cases h8 : t 0 = 8
  · rw [if_pos (by rw [h8]; rfl), decide_eq_false (by omega), if_pos rfl]
    exact Ok.ret (rcTo.no h12 (fun _ _ _ _ => rfl))
  · rw [if_neg (by show ¬ nI (t 0) = nI 8; rw [n_eq (by omega) (by omega)]; exact h8), decide_eq_true (show t 0 < 8 by omega), if_neg (by decide)]
    have e13 : (13 : Int32) + nI (t 0) = nI (13 + t 0) := nI_add 13 (t 0)
    have e21 : (21 : Int32) + nI (t 0) = nI (21 + t 0) := nI_add 21 (t 0)
    have e5 : (5 : Int32) + nI (t 0) = nI (5 + t 0) := nI_add 5 (t 0)
    have hin5 : inb (nI (5 + t 0)) 45 = true := by rw [inb_nI (by omega)]; simp; omega
    rw [e13, e21, e5, show hM 1 = 2 from rfl, fst2]
    obtain ⟨⟨q1, M1⟩, hq1, r1, r2, r3, r4⟩ := m_number (N := N) (lo := 0) (hi := 20) hN hX h13 hel (show 13 + t 0 < 45 by omega) (by omega) (by omega)
    have hq1' : f_X7_number N M (nI (13 + t 0)) 0 20 = some (q1, M1) := hq1
    dsimp only at r1 r2 r3 r4
    rw [hq1', r2]
    simp only [Option.bind_some]
    have n0 : nbad w l e 1 0 = !nOk w l e 0 20 := rfl
    rw [n0]
    have hfr1 : frM M M1 := fun x b c1 c2 => r4 x b c1 (by omega)
    cases hok1 : nOk w l e 0 20 with
    | false =>
      rw [if_pos (show (if false = true then (1 : Int32) else 0) = 0 from rfl)]
      exact Ok.ret (rcTo.no r1 hfr1)
    | true =>
      rw [if_neg (show ¬ (if true = true then (1 : Int32) else 0) = 0 by decide), if_neg (show ¬ ((!true) = true) by decide)]
      obtain ⟨k13, kv0⟩ := r3 hok1
      have hX1 : tM w l M1 := hX.of (r4 _ _ (by omega) (by omega)) (fun b => r4 _ _ (by omega) (by omega))
      obtain ⟨⟨q2, M2⟩, hq2, s1, s2, s3, s4⟩ := m_number (N := N) (lo := 1) (hi := 99) hN hX1 k13 (nE_le hel) (show 21 + t 0 < 45 by omega) (by omega) (by omega)
      have hq2' : f_X7_number N M1 (nI (21 + t 0)) 1 99 = some (q2, M2) := hq2
      dsimp only at s1 s2 s3 s4
      rw [hq2', s2]
      simp only [Option.bind_some]
      have n1 : nbad w l e 1 1 = !nOk w l (nE w l e) 1 99 := rfl
      rw [n1]
      have hfr2 : frM M M2 := fun x b c1 c2 => by rw [s4 x b c1 (by omega), r4 x b c1 (by omega)]
      cases hok2 : nOk w l (nE w l e) 1 99 with
      | false =>
        rw [if_pos (show (if false = true then (1 : Int32) else 0) = 0 from rfl)]
        exact Ok.ret (rcTo.no s1 hfr2)
      | true =>
        rw [if_neg (show ¬ (if true = true then (1 : Int32) else 0) = 0 by decide), if_neg (show ¬ ((!true) = true) by decide), if_pos hin5, n_cl (by omega)]
        obtain ⟨j13, kv1⟩ := s3 hok2
        have g0 : up2 M2 73 (5 + t 0) (nI (dK c)) 73 0 = nI (t 0) := by rw [up2_j (by omega), s4 _ _ (by omega) (by omega), r4 _ _ (by omega) (by omega)]; exact hD 0 (by omega)
        rw [g0, nI_1]
        obtain ⟨M9, hM9⟩ : ∃ q, q = up2 (up2 M2 73 (5 + t 0) (nI (dK c))) 73 0 (nI (t 0 + 1)) := ⟨_, rfl⟩
        rw [← hM9]
        have hF9 : ∀ x b, x ≠ 73 → M9 x b = M2 x b := fun x b q => by rw [hM9, up2_k q, up2_k q]
        refine Ok.ret (rcTo.yes ?_ ?_ (fun x b c1 c2 => by rw [hF9 x b c2, hfr2 x b c1 c2]))
        · rw [hF9 _ _ (by omega)]; exact j13
        · intro j hj
          show M9 73 j = nI (addC t (dK c) (fun i => nV w l (nps w l e i)) j)
          by_cases c0 : j = 0
          · rw [c0, addC_0, hM9, up2_same]
          · rw [hM9, up2_j c0]
            by_cases c5 : j = 5 + t 0
            · rw [addC_k c5, c5, up2_same]
            · rw [up2_j c5]
              by_cases c21 : j = 21 + t 0
              · rw [addC_t c21, c21]; exact kv1
              · by_cases c13 : j = 13 + t 0
                · rw [addC_z c13, c13, s4 _ _ (by omega) (by omega)]; exact kv0
                · rw [addC_o c0 c5 c13 c21, s4 _ _ (by omega) (by omega), r4 _ _ (by omega) (by omega)]; exact hD j hj
theorem m_encoreR {N : Nat} (hN : 1000 ≤ N) {M : Mem} {w t : Nat → Nat} {l a e c : Nat} (ht : WT t) (hX : tM w l M) (hel : e ≤ l) (hd : dD c = 2) (h12 : M 70 12 = nI a) (h13 : M 70 13 = nI e) (hD : MDr t M) :
    Ok (f_X7_readsEncore N M (nI (dK c))) (rcTo (pcc w l t a e c) M) := by
  have h0 := ht.2.1
  have hl := hX.2.1
  unfold f_X7_readsEncore pcc
  rw [hd, hD 1 (by omega)]
  unfold room
  rw [if_neg (show ¬ (2 : Nat) = 1 by decide), if_pos (show (2 : Nat) = 2 from rfl)]
  by_cases h8 : t 1 = 4
  · rw [if_pos (by rw [h8]; rfl), decide_eq_false (by omega), if_pos rfl]
    exact Ok.ret (rcTo.no h12 (fun _ _ _ _ => rfl))
  · rw [if_neg (by show ¬ nI (t 1) = nI 4; rw [n_eq (by omega) (by omega)]; exact h8), decide_eq_true (show t 1 < 4 by omega), if_neg (by decide)]
    have e33 : (33 : Int32) + nI (t 1) = nI (33 + t 1) := nI_add 33 (t 1)
    have e37 : (37 : Int32) + nI (t 1) = nI (37 + t 1) := nI_add 37 (t 1)
    have e41 : (41 : Int32) + nI (t 1) = nI (41 + t 1) := nI_add 41 (t 1)
    have e29 : (29 : Int32) + nI (t 1) = nI (29 + t 1) := nI_add 29 (t 1)
    have hin5 : inb (nI (29 + t 1)) 45 = true := by rw [inb_nI (by omega)]; simp; omega
    rw [e33, e37, e41, e29, show hM 2 = 3 from rfl, fst3]
    obtain ⟨⟨q1, M1⟩, hq1, r1, r2, r3, r4⟩ := m_number (N := N) (lo := 1) (hi := 9) hN hX h13 hel (show 33 + t 1 < 45 by omega) (by omega) (by omega)
    have hq1' : f_X7_number N M (nI (33 + t 1)) 1 9 = some (q1, M1) := hq1
    dsimp only at r1 r2 r3 r4
    rw [hq1', r2]
    simp only [Option.bind_some]
    have n0 : nbad w l e 2 0 = !nOk w l e 1 9 := rfl
    rw [n0]
    have hfr1 : frM M M1 := fun x b c1 c2 => r4 x b c1 (by omega)
    cases hok1 : nOk w l e 1 9 with
    | false =>
      rw [if_pos (show (if false = true then (1 : Int32) else 0) = 0 from rfl)]
      exact Ok.ret (rcTo.no r1 hfr1)
    | true =>
      rw [if_neg (show ¬ (if true = true then (1 : Int32) else 0) = 0 by decide), if_neg (show ¬ ((!true) = true) by decide)]
      obtain ⟨k13, kv0⟩ := r3 hok1
      have hX1 : tM w l M1 := hX.of (r4 _ _ (by omega) (by omega)) (fun b => r4 _ _ (by omega) (by omega))
      obtain ⟨⟨q2, M2⟩, hq2, s1, s2, s3, s4⟩ := m_number (N := N) (lo := 1) (hi := 9) hN hX1 k13 (nE_le hel) (show 37 + t 1 < 45 by omega) (by omega) (by omega)
      have hq2' : f_X7_number N M1 (nI (37 + t 1)) 1 9 = some (q2, M2) := hq2
      dsimp only at s1 s2 s3 s4
      rw [hq2', s2]
      simp only [Option.bind_some]
      have n1 : nbad w l e 2 1 = !nOk w l (nE w l e) 1 9 := rfl
      rw [n1]
      have hfr2 : frM M M2 := fun x b c1 c2 => by rw [s4 x b c1 (by omega), r4 x b c1 (by omega)]
      cases hok2 : nOk w l (nE w l e) 1 9 with
      | false =>
        rw [if_pos (show (if false = true then (1 : Int32) else 0) = 0 from rfl)]
        exact Ok.ret (rcTo.no s1 hfr2)
      | true =>
        rw [if_neg (show ¬ (if true = true then (1 : Int32) else 0) = 0 by decide), if_neg (show ¬ ((!true) = true) by decide)]
        obtain ⟨j13, kv1⟩ := s3 hok2
        have hX2 : tM w l M2 := hX1.of (s4 _ _ (by omega) (by omega)) (fun b => s4 _ _ (by omega) (by omega))
        obtain ⟨⟨q3, M3⟩, hq3, u1, u2, u3, u4⟩ := m_number (N := N) (lo := 0) (hi := 30) hN hX2 j13 (nE_le (nE_le hel)) (show 41 + t 1 < 45 by omega) (by omega) (by omega)
        have hq3' : f_X7_number N M2 (nI (41 + t 1)) 0 30 = some (q3, M3) := hq3
        dsimp only at u1 u2 u3 u4
        rw [hq3', u2]
        simp only [Option.bind_some]
        have n2 : nbad w l e 2 2 = !nOk w l (nE w l (nE w l e)) 0 30 := rfl
        rw [n2]
        have hfr3 : frM M M3 := fun x b c1 c2 => by rw [u4 x b c1 (by omega), hfr2 x b c1 c2]
        cases hok3 : nOk w l (nE w l (nE w l e)) 0 30 with
        | false =>
          rw [if_pos (show (if false = true then (1 : Int32) else 0) = 0 from rfl)]
          exact Ok.ret (rcTo.no u1 hfr3)
        | true =>
          rw [if_neg (show ¬ (if true = true then (1 : Int32) else 0) = 0 by decide), if_neg (show ¬ ((!true) = true) by decide), if_pos hin5, n_cl (by omega)]
          obtain ⟨v13, kv2⟩ := u3 hok3
          have g0 : up2 M3 73 (29 + t 1) (nI (dK c)) 73 1 = nI (t 1) := by rw [up2_j (by omega), u4 _ _ (by omega) (by omega), s4 _ _ (by omega) (by omega), r4 _ _ (by omega) (by omega)]; exact hD 1 (by omega)
          rw [g0, nI_1]
          obtain ⟨M9, hM9⟩ : ∃ q, q = up2 (up2 M3 73 (29 + t 1) (nI (dK c))) 73 1 (nI (t 1 + 1)) := ⟨_, rfl⟩
          rw [← hM9]
          have hF9 : ∀ x b, x ≠ 73 → M9 x b = M3 x b := fun x b q => by rw [hM9, up2_k q, up2_k q]
          refine Ok.ret (rcTo.yes ?_ ?_ (fun x b c1 c2 => by rw [hF9 x b c2, hfr3 x b c1 c2]))
          · rw [hF9 _ _ (by omega)]; exact v13
          · intro j hj
            show M9 73 j = nI (addE t (dK c) (fun i => nV w l (nps w l e i)) j)
            by_cases c0 : j = 1
            · rw [c0, addE_0, hM9, up2_same]
            · rw [hM9, up2_j c0]
              by_cases c5 : j = 29 + t 1
              · rw [addE_k c5, c5, up2_same]
              · rw [up2_j c5]
                by_cases c41 : j = 41 + t 1
                · rw [addE_w c41, c41]; exact kv2
                · by_cases c37 : j = 37 + t 1
                  · rw [addE_t c37, c37, u4 _ _ (by omega) (by omega)]; exact kv1
                  · by_cases c33 : j = 33 + t 1
                    · rw [addE_m c33, c33, u4 _ _ (by omega) (by omega), s4 _ _ (by omega) (by omega)]; exact kv0
                    · rw [addE_o c0 c5 c33 c37 c41, u4 _ _ (by omega) (by omega), s4 _ _ (by omega) (by omega), r4 _ _ (by omega) (by omega)]; exact hD j hj
/-- arm, close, hire: one number at a place -/
theorem m_one {N : Nat} (hN : 1000 ≤ N) {M : Mem} {w t : Nat → Nat} {l a e c pl hi : Nat} (hX : tM w l M) (hel : e ≤ l) (hpl : pl < 45) (hhi : hi < 100) (hcar : ∀ v, carry t (dD c) (dK c) v = put t pl (v 0)) (hr : room t (dD c) = true) (hh : hM (dD c) = 1) (hb : bL (dD c) 0 = 0) (hb2 : bH (dD c) 0 = hi) (h13 : M 70 13 = nI e) (hD : MDr t M) :
    Ok (f_X7_number N M (nI pl) (nI 0) (nI hi)) (fun q => rcTo (pcc w l t a e c) M q) := by
  refine (m_number (N := N) (lo := 0) (hi := hi) hN hX h13 hel hpl (by omega) hhi).mono ?_
  rintro ⟨q1, M1⟩ ⟨r1, r2, r3, r4⟩
  dsimp only at r1 r2 r3 r4
  unfold pcc
  rw [hr, if_neg (by decide), hh, fst1, hcar]
  have n0 : nbad w l e (dD c) 0 = !nOk w l e 0 hi := by unfold nbad; rw [hb, hb2]; rfl
  rw [n0]
  have hfr1 : frM M M1 := fun x b c1 c2 => r4 x b c1 (by omega)
  cases hok : nOk w l e 0 hi with
  | false =>
    rw [hok] at r2
    rw [r2]
    exact rcTo.no r1 hfr1
  | true =>
    rw [hok] at r2
    rw [r2]
    obtain ⟨k13, kv⟩ := r3 hok
    refine rcTo.yes k13 (fun j hj => ?_) hfr1
    by_cases q : j = pl
    · rw [q, put_s]; exact kv
    · rw [put_o q, r4 _ _ (by omega) (by omega)]; exact hD j hj
theorem m_forgets {N : Nat} (hN : 1000 ≤ N) {M : Mem} : Ok (f_X7_forgets N M) (fun M' => MDr t0F M' ∧ ∀ a b, a ≠ 73 → M' a b = M a b) := by
  unfold f_X7_forgets
  refine Ok.bind (lpE (fun n i a => f_X7_forgets_L2 N n i a) 45 (fun j M' => (∀ i, i < j → M' 73 i = nI (t0F i)) ∧ ∀ a b, a ≠ 73 → M' a b = M a b) (fun r => MDr t0F r.2 ∧ ∀ a b, a ≠ 73 → r.2 a b = M a b) ?_ ?_ N 0 M (by omega) ⟨fun i hi => by omega, fun _ _ _ => rfl⟩ (by omega)) (fun a h => Ok.ret h)
  · intro f j M' hj ⟨h1, h3⟩
    left
    refine ⟨up2 M' 73 j (nI (t0F j)), ⟨fun i hi => ?_, fun a b ha => by rw [up2_k ha]; exact h3 a b ha⟩, ?_⟩
    · by_cases q : i = j
      · subst q; rw [up2_same]
      · rw [up2_j q]; exact h1 i (by omega)
    · show f_X7_forgets_L2 N (f + 1) (nI j) M' = _
      rw [f_X7_forgets_L2]
      simp (disch := omega) only [i0, i1, i2, i3, i4, i10, i45, i60, n_le, n_eq, inb_nI, n_cl, nI_add]
      rw [if_neg (by omega)]
      unfold t0F
      by_cases q2 : j = 2
      · simp [q2]
      · by_cases q3 : j = 3
        · simp [q3]
        · by_cases q4 : j = 4
          · simp [q4]
          · simp [q2, q3, q4, hj]
  · intro f M' h
    show Ok (f_X7_forgets_L2 N (f + 1) (nI 45) M') _
    rw [f_X7_forgets_L2, if_pos (by show nI 45 ≤ nI 45; rw [n_le (by omega) (by omega)]; omega)]
    exact Ok.ret h
