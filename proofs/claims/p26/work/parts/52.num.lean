/-! Numbers of the text, clauses; how the class reads them. -/
def valN (w : Nat → Nat) (a : Nat) : Nat → Nat
  | 0 => 0
  | n + 1 => valN w a n * 10 + (w (a + n) - 48)
def nE (w : Nat → Nat) (l p : Nat) : Nat := de w l (sk w l p)
def nV (w : Nat → Nat) (l p : Nat) : Nat := valN w (sk w l p) (nE w l p - sk w l p)
def nOk (w : Nat → Nat) (l p lo hi : Nat) : Bool := decide (sk w l p < nE w l p) && (decide (nE w l p - sk w l p ≤ 2) && (decide (lo ≤ nV w l p) && decide (nV w l p ≤ hi)))
theorem nE_le {w : Nat → Nat} {l p : Nat} (h : p ≤ l) : nE w l p ≤ l := adv_le' (adv_le' h)
theorem sk_le {w : Nat → Nat} {l p : Nat} (h : p ≤ l) : sk w l p ≤ l := adv_le' h
theorem nE_ge {w : Nat → Nat} {l p : Nat} : sk w l p ≤ nE w l p := adv_ge'
theorem dig {w : Nat → Nat} {l p i : Nat} (h1 : sk w l p ≤ i) (h2 : i < nE w l p) : 48 ≤ w i ∧ w i ≤ 57 := by
  have := adv_in' (P := isR w 48 57) h1 h2
  unfold isR at this
  simpa using this
theorem c_readNumber {N : Nat} (hN : 1000 ≤ N) {M : Mem} {w : Nat → Nat} {l p i lo hi : Nat} (hT : tC w l M) (h6 : M 9 6 = nI p) (hp : p ≤ l) (hi3 : i < 3) (hlo : lo < 1000) (hhi : hi < 1000) :
    Ok (f_X4_readNumber N M (nI i) (nI lo) (nI hi)) (fun q => q.1 = (if nOk w l p lo hi = true then 1 else 0) ∧ (nOk w l p lo hi = true → q.2 9 6 = nI (nE w l p) ∧ q.2 19 i = nI (nV w l p)) ∧ (nOk w l p lo hi = false → q.2 9 6 = nI (sk w l p)) ∧ ∀ a b, ¬ (a = 9 ∧ b = 6) → ¬ (a = 19 ∧ b = i) → q.2 a b = M a b) := by
  have hl := hT.2.1
  unfold f_X4_readNumber
  refine Ok.bind (c_skip hN hT h6 hp) ?_
  rintro M1 ⟨g6, hF1⟩
  have hT1 : tC w l M1 := hT.of (hF1 _ _ (by omega)) (fun b => hF1 _ _ (by omega))
  have hsl := sk_le (w := w) hp
  have hel := nE_le (w := w) hp
  have hge := nE_ge (w := w) (l := l) (p := p)
  have hrow : f_X4_endOfRow N M1 48 57 = some (nI (nE w l p)) := c_endOfRow (lo := 48) (hi := 57) hN hT1 g6 hsl (by omega) (by omega)
  rw [hrow]
  simp only [Option.bind_some]
  rw [g6]
  by_cases q1 : sk w l p < nE w l p
  · rw [if_neg (by rw [n_eq (by omega) (by omega)]; omega), n_sub hge]
    by_cases q2 : nE w l p - sk w l p ≤ 2
    · rw [if_pos (by show nI _ ≤ nI 2; rw [n_le (by omega) (by omega)]; exact q2)]
      refine Ok.bind (P := fun o => o.1 = nI (nV w l p)) ?_ ?_
      · have main : ∀ (n f j : Nat), nE w l p - (sk w l p + j) = n → sk w l p + j ≤ nE w l p → n < f → Ok (f_X4_readNumber_L45 N M1 (nI i) (nI lo) (nI hi) (nI (nE w l p)) f (nI (valN w (sk w l p) j)) (nI (sk w l p + j))) (fun o => o.1 = nI (nV w l p)) := by
          intro n
          induction n with
          | zero =>
            intro f j h1 h2 h3
            obtain ⟨f, rfl⟩ : ∃ g, f = g + 1 := ⟨f - 1, by omega⟩
            rw [f_X4_readNumber_L45, if_pos (by rw [n_le (by omega) (by omega)]; omega)]
            refine Ok.ret ?_
            show nI (valN w (sk w l p) j) = _
            unfold nV
            rw [show nE w l p - sk w l p = j by omega]
          | succ n ih =>
            intro f j h1 h2 h3
            obtain ⟨f, rfl⟩ : ∃ g, f = g + 1 := ⟨f - 1, by omega⟩
            have hin : inb (nI (sk w l p + j)) 160 = true := by rw [inb_nI (by omega)]; simp; omega
            have hd := dig (w := w) (l := l) (p := p) (i := sk w l p + j) (by omega) (by omega)
            have e1 : nI (valN w (sk w l p) j) * 10 + nI (w (sk w l p + j)) - 48 = nI (valN w (sk w l p) (j + 1)) := by
              show nI (valN w (sk w l p) j) * nI 10 + nI (w (sk w l p + j)) - nI 48 = _
              rw [pk_mul, nI_add, n_sub (by omega), valN]
              congr 1
              omega
            rw [f_X4_readNumber_L45, if_neg (by rw [n_le (by omega) (by omega)]; omega), if_pos hin, n_cl (by omega), hT1.2.2.1 _ (by omega), e1, nI_1]
            exact ih f (j + 1) (by omega) (by omega) (by omega)
        exact main _ N 0 rfl (by omega) (by omega)
      rintro ⟨o1, o2⟩ ho
      dsimp only at ho ⊢
      rw [ho]
      have hv : nV w l p < 1000 := by
        unfold nV
        have hd0 := dig (w := w) (l := l) (p := p) (i := sk w l p) (by omega) q1
        rcases (show nE w l p - sk w l p = 1 ∨ nE w l p - sk w l p = 2 by omega) with h | h
        · rw [h]; simp only [valN, Nat.add_zero]; omega
        · have hd1 := dig (w := w) (l := l) (p := p) (i := sk w l p + 1) (by omega) (by omega)
          rw [h]; simp only [valN, Nat.add_zero]; omega
      by_cases q3 : lo ≤ nV w l p
      · rw [if_neg (by rw [n_lt (by omega) (by omega)]; omega)]
        by_cases q4 : nV w l p ≤ hi
        · have hok : nOk w l p lo hi = true := by unfold nOk; simp [q1, q2, q3, q4]
          have hin : inb (nI i) 3 = true := by rw [inb_nI (by omega)]; simp; omega
          rw [if_pos (by rw [n_le (by omega) (by omega)]; exact q4), if_pos hin, n_cl (by omega)]
          refine Ok.ret ⟨by rw [hok]; rfl, fun _ => ⟨by show up2 (up2 M1 19 i (nI (nV w l p))) 9 6 (nI (nE w l p)) 9 6 = _; rw [up2_same], ?_⟩, fun q => (by rw [hok] at q; cases q), fun a b c1 c2 => ?_⟩
          · show up2 (up2 M1 19 i (nI (nV w l p))) 9 6 (nI (nE w l p)) 19 i = _
            rw [up2_k (by decide), up2_same]
          · show up2 (up2 M1 19 i (nI (nV w l p))) 9 6 (nI (nE w l p)) a b = _
            unfold up2
            rw [if_neg c1, if_neg c2]
            exact hF1 a b c1
        · have hok : nOk w l p lo hi = false := by unfold nOk; simp [q1, q2, q3, q4]
          rw [if_neg (by rw [n_le (by omega) (by omega)]; exact q4)]
          exact Ok.ret ⟨by rw [hok]; rfl, fun q => (by rw [hok] at q; cases q), fun _ => g6, fun a b c1 _ => hF1 a b c1⟩
      · have hok : nOk w l p lo hi = false := by unfold nOk; simp [q1, q2, q3]
        rw [if_pos (by rw [n_lt (by omega) (by omega)]; omega)]
        exact Ok.ret ⟨by rw [hok]; rfl, fun q => (by rw [hok] at q; cases q), fun _ => g6, fun a b c1 _ => hF1 a b c1⟩
    · have hok : nOk w l p lo hi = false := by unfold nOk; simp [q1, q2]
      rw [if_neg (by show ¬ nI _ ≤ nI 2; rw [n_le (by omega) (by omega)]; exact q2)]
      exact Ok.ret ⟨by rw [hok]; rfl, fun q => (by rw [hok] at q; cases q), fun _ => g6, fun a b c1 _ => hF1 a b c1⟩
  · have hok : nOk w l p lo hi = false := by unfold nOk; simp [q1]
    rw [if_pos (by rw [show nE w l p = sk w l p by omega])]
    exact Ok.ret ⟨by rw [hok]; rfl, fun q => (by rw [hok] at q; cases q), fun _ => g6, fun a b c1 _ => hF1 a b c1⟩
def dD (c : Nat) : Nat := [0, 1, 1, 1, 1, 2, 2, 2, 2, 3, 4, 5, 6].getD c 0
def dK (c : Nat) : Nat := [0, 0, 1, 2, 3, 0, 1, 2, 3, 0, 0, 0, 0].getD c 0
def hM (d : Nat) : Nat := [0, 2, 3, 1, 1, 1, 0].getD d 0
def bL (d i : Nat) : Nat := [0, 0, 0, 0, 1, 0, 1, 1, 0, 0, 0, 0, 0, 0, 0, 0, 0, 0, 0, 0, 0].getD (3 * d + i) 0
def bH (d i : Nat) : Nat := [0, 0, 0, 20, 99, 0, 9, 9, 30, 30, 0, 0, 99, 0, 0, 9, 0, 0, 0, 0, 0].getD (3 * d + i) 0
theorem tab_d : ∀ c, c < 13 → cDeeds.getD c 0 = nI (dD c) ∧ cKinds.getD c 0 = nI (dK c) ∧ dD c ≤ 6 ∧ dK c ≤ 3 := by decide +kernel
theorem tab_n : ∀ d, d < 7 → inb (nI d) (tN 2) = true ∧ tV 2 d = nI (hM d) ∧ hM d ≤ 3 := by decide +kernel
theorem tab_b : ∀ d, d < 7 → ∀ i, i < 3 → inb (nI d * 3 + nI i) (tN 3) = true ∧ inb (nI d * 3 + nI i) (tN 4) = true ∧ tV 3 (nI d * 3 + nI i).toNatClampNeg = nI (bL d i) ∧ tV 4 (nI d * 3 + nI i).toNatClampNeg = nI (bH d i) ∧ bL d i < 1000 ∧ bH d i < 1000 := by decide +kernel
def nps (w : Nat → Nat) (l e : Nat) : Nat → Nat
  | 0 => e
  | i + 1 => nE w l (nps w l e i)
theorem nps_le {w : Nat → Nat} {l e : Nat} (h : e ≤ l) : ∀ i, nps w l e i ≤ l
  | 0 => h
  | i + 1 => nE_le (nps_le h i)
abbrev nbad (w : Nat → Nat) (l e d : Nat) (i : Nat) : Bool := !nOk w l (nps w l e i) (bL d i) (bH d i)
theorem fstU_none {P : Nat → Bool} : ∀ {n : Nat}, fstU P n = none → ∀ i, i < n → P i = false
  | 0, _, i, h => by omega
  | n + 1, h, i, hi => by
    rw [fstU] at h
    cases hq : fstU P n with
    | some k => rw [hq] at h; cases h
    | none =>
      rw [hq] at h
      by_cases q : i = n
      · subst q
        cases hP : P i with
        | false => rfl
        | true => simp [hP] at h
      · exact fstU_none hq i (by omega)
theorem fstU_some {P : Nat → Bool} {j : Nat} (hj : P j = true) (h : ∀ i, i < j → P i = false) : ∀ n, j < n → fstU P n = some j := by
  have h0 : ∀ n, n ≤ j → fstU P n = none := by
    intro n
    induction n with
    | zero => intro _; rfl
    | succ n ih => intro hn; rw [fstU, ih (by omega), h n (by omega)]; rfl
  intro n
  induction n with
  | zero => intro h; omega
  | succ n ih =>
    intro hn
    rw [fstU]
    by_cases q : j = n
    · subst q; rw [h0 j (Nat.le_refl _), hj]; rfl
    · rw [ih (by omega)]
theorem fstU_is {P : Nat → Bool} : ∀ {n j : Nat}, fstU P n = some j → j < n ∧ P j = true ∧ ∀ i, i < j → P i = false
  | 0, j, h => by simp [fstU] at h
  | n + 1, j, h => by
    rw [fstU] at h
    cases hq : fstU P n with
    | some k =>
      rw [hq] at h
      have := fstU_is hq
      cases h
      exact ⟨by omega, this.2⟩
    | none =>
      rw [hq] at h
      cases hP : P n with
      | false => simp [hP] at h
      | true =>
        simp [hP] at h
        subst h
        exact ⟨by omega, hP, fun i hi => fstU_none hq i hi⟩
theorem c_numbers {N : Nat} (hN : 1000 ≤ N) {M : Mem} {w : Nat → Nat} {l e c : Nat} (hT : tC w l M) (h6 : M 9 6 = nI e) (he : e ≤ l) (hc : c < 13) :
    Ok (f_X4_readClause_L46 N c N 0 M) (fun r => (∀ i, fstU (nbad w l e (dD c)) (hM (dD c)) = some i → ∃ M', r = .inr (0, M') ∧ M' 9 6 = nI (sk w l (nps w l e i)) ∧ ∀ a b, ¬ (a = 9 ∧ b = 6) → a ≠ 19 → M' a b = M a b) ∧ (fstU (nbad w l e (dD c)) (hM (dD c)) = none → ∃ y M', r = .inl (y, M') ∧ M' 9 6 = nI (nps w l e (hM (dD c))) ∧ (∀ i, i < hM (dD c) → M' 19 i = nI (nV w l (nps w l e i))) ∧ ∀ a b, ¬ (a = 9 ∧ b = 6) → a ≠ 19 → M' a b = M a b)) := by
  obtain ⟨t1, -, t3, -⟩ := tab_d c hc
  obtain ⟨n1, n2, n3⟩ := tab_n (dD c) (by omega)
  have hcl : (nI (dD c)).toNatClampNeg = dD c := n_cl (by omega)
  refine lpE (fun n i a => f_X4_readClause_L46 N c n i a) (hM (dD c)) (fun j M' => (∀ i, i < j → nOk w l (nps w l e i) (bL (dD c) i) (bH (dD c) i) = true) ∧ M' 9 6 = nI (nps w l e j) ∧ (∀ i, i < j → M' 19 i = nI (nV w l (nps w l e i))) ∧ ∀ a b, ¬ (a = 9 ∧ b = 6) → a ≠ 19 → M' a b = M a b) _ ?_ ?_ N 0 M (by omega) ⟨fun i hi => by omega, h6, fun i hi => by omega, fun _ _ _ _ => rfl⟩ (by omega)
  · intro f j M' hj ⟨h1, h2, h3, h4⟩
    obtain ⟨b1, b2, b3, b4, b5, b6⟩ := tab_b (dD c) (by omega) j (by omega)
    have hT' : tC w l M' := hT.of (h4 _ _ (by omega) (by omega)) (fun b => h4 _ _ (by omega) (by omega))
    obtain ⟨⟨q1, M2⟩, hq, r1, r2, r3, r4⟩ := c_readNumber (N := N) hN hT' h2 (nps_le he j) (show j < 3 by omega) b5 b6
    dsimp only at r1 r2 r3 r4
    show (∃ a', _ ∧ f_X4_readClause_L46 N c (f + 1) (nI j) M' = _) ∨ Ok (f_X4_readClause_L46 N c (f + 1) (nI j) M') _
    rw [f_X4_readClause_L46, t1, if_pos n1, hcl, n2, if_neg (by rw [n_le (by omega) (by omega)]; omega), if_pos b1, if_pos b2, b3, b4, hq, nI_1]
    simp only [Option.bind_some]
    rw [r1]
    cases hok : nOk w l (nps w l e j) (bL (dD c) j) (bH (dD c) j) with
    | false =>
      right
      rw [if_pos (show (if false = true then (1 : Int32) else 0) = 0 from rfl)]
      have hfst : fstU (nbad w l e (dD c)) (hM (dD c)) = some j := fstU_some (by unfold nbad; rw [hok]; rfl) (fun i hi => by unfold nbad; rw [h1 i hi]; rfl) _ hj
      refine Ok.ret ⟨fun i hi => ?_, fun q => by rw [hfst] at q; cases q⟩
      rw [hfst] at hi
      cases hi
      exact ⟨M2, rfl, r3 hok, fun a b q1 q2 => by rw [r4 a b q1 (by omega), h4 a b q1 q2]⟩
    | true =>
      left
      rw [if_neg (show ¬ (if true = true then (1 : Int32) else 0) = 0 by decide)]
      refine ⟨M2, ⟨fun i hi => ?_, (r2 hok).1, fun i hi => ?_, fun a b q1 q2 => by rw [r4 a b q1 (by omega), h4 a b q1 q2]⟩, rfl⟩
      · by_cases q : i = j
        · subst q; exact hok
        · exact h1 i (by omega)
      · by_cases q : i = j
        · subst q; exact (r2 hok).2
        · rw [r4 _ _ (by omega) (by omega)]; exact h3 i (by omega)
  · intro f M' ⟨h1, h2, h3, h4⟩
    show Ok (f_X4_readClause_L46 N c (f + 1) (nI (hM (dD c))) M') _
    rw [f_X4_readClause_L46, t1, if_pos n1, hcl, n2, if_pos (by rw [n_le (by omega) (by omega)]; omega)]
    have hfst : fstU (nbad w l e (dD c)) (hM (dD c)) = none := by
      cases hq : fstU (nbad w l e (dD c)) (hM (dD c)) with
      | none => rfl
      | some i =>
        have := fstU_is hq
        have h5 := this.2.1
        unfold nbad at h5
        rw [h1 i this.1] at h5
        cases h5
    exact Ok.ret ⟨fun i hi => (by rw [hfst] at hi; cases hi), fun _ => ⟨_, M', rfl, h2, h3, h4⟩⟩
