/-! How the model reads words, numbers, clappers and encores. -/
def okX (w xs : Nat → Nat) (a e k : Nat) : Bool := if a + k < e then decide (w (a + k) = xs k) else decide (xs k = 0)
theorem allN_mono {P : Nat → Bool} {j : Nat} (h : allN P j = false) : ∀ n, j ≤ n → allN P n = false := by
  intro n hn
  cases hq : allN P n with
  | false => rfl
  | true =>
    have := (allN_iff P n).mp hq
    have h2 : allN P j = true := (allN_iff P j).mpr (fun i hi => this i (by omega))
    rw [h] at h2; cases h2
theorem m_isWord {N : Nat} (hN : 1000 ≤ N) {M : Mem} {w xs : Nat → Nat} {l a e s : Nat} (hX : tM w l M) (h11 : M 70 11 = nI s) (hs : s ≤ 3) (h12 : M 70 12 = nI a) (h13 : M 70 13 = nI e) (hae : a ≤ e) (hel : s = 1 → e ≤ l) (he : e ≤ 161) (hxs : ∀ k, xs k < 1000) :
    f_X7_isWord N M (nI (xs 0)) (nI (xs 1)) (nI (xs 2)) (nI (xs 3)) (nI (xs 4)) (nI (xs 5)) (nI (xs 6)) (nI (xs 7)) (nI (xs 8)) = some (if (decide (s = 1) && (decide (e - a < 10) && allN (okX w xs a e) 9)) = true then 1 else 0) := by
  have hl := hX.2.1
  unfold f_X7_isWord
  rw [h11, h12, h13, n_sub hae]
  obtain ⟨f, hf⟩ : ∃ f, N = f + 1 := ⟨N - 1, by omega⟩
  have zero : f_X7_isWord_L32 N M (nI (xs 0)) (nI (xs 1)) (nI (xs 2)) (nI (xs 3)) (nI (xs 4)) (nI (xs 5)) (nI (xs 6)) (nI (xs 7)) (nI (xs 8)) N 0 0 = some (0, 0) := by
    have : ∀ g, f_X7_isWord_L32 N M (nI (xs 0)) (nI (xs 1)) (nI (xs 2)) (nI (xs 3)) (nI (xs 4)) (nI (xs 5)) (nI (xs 6)) (nI (xs 7)) (nI (xs 8)) (g + 1) 0 0 = some (0, 0) := fun g => by
      rw [f_X7_isWord_L32, if_neg (by decide), if_pos rfl]
    have h2 := this f
    rwa [← hf] at h2
  by_cases h1 : s = 1
  · have hel := hel h1
    rw [if_pos (by rw [h1]; rfl), decide_eq_true h1, Bool.true_and]
    by_cases h10 : e - a < 10
    · rw [if_neg (by show ¬ nI 10 ≤ nI _; rw [n_le (by omega) (by omega)]; omega), decide_eq_true h10, Bool.true_and]
      have hlp : Ok (f_X7_isWord_L32 N M (nI (xs 0)) (nI (xs 1)) (nI (xs 2)) (nI (xs 3)) (nI (xs 4)) (nI (xs 5)) (nI (xs 6)) (nI (xs 7)) (nI (xs 8)) N 1 0) (fun r => r.1 = (if allN (okX w xs a e) 9 = true then 1 else 0)) := by
        refine lpE (fun n i q => f_X7_isWord_L32 N M (nI (xs 0)) (nI (xs 1)) (nI (xs 2)) (nI (xs 3)) (nI (xs 4)) (nI (xs 5)) (nI (xs 6)) (nI (xs 7)) (nI (xs 8)) n q i) 9 (fun j q => q = (if allN (okX w xs a e) j = true then (1 : Int32) else 0)) _ ?_ ?_ N 0 1 (by omega) rfl (by omega)
        · intro g j q hj hq
          show (∃ a', _ ∧ f_X7_isWord_L32 N M (nI (xs 0)) (nI (xs 1)) (nI (xs 2)) (nI (xs 3)) (nI (xs 4)) (nI (xs 5)) (nI (xs 6)) (nI (xs 7)) (nI (xs 8)) (g + 1) q (nI j) = _) ∨ Ok (f_X7_isWord_L32 N M (nI (xs 0)) (nI (xs 1)) (nI (xs 2)) (nI (xs 3)) (nI (xs 4)) (nI (xs 5)) (nI (xs 6)) (nI (xs 7)) (nI (xs 8)) (g + 1) q (nI j)) _
          have hdue : (if nI j = 0 then nI (xs 0) else (if nI j = 1 then nI (xs 1) else (if nI j = 2 then nI (xs 2) else (if nI j = 3 then nI (xs 3) else (if nI j = 4 then nI (xs 4) else (if nI j = 5 then nI (xs 5) else (if nI j = 6 then nI (xs 6) else (if nI j = 7 then nI (xs 7) else nI (xs 8))))))))) = nI (xs j) := by
            rcases (show j = 0 ∨ j = 1 ∨ j = 2 ∨ j = 3 ∨ j = 4 ∨ j = 5 ∨ j = 6 ∨ j = 7 ∨ j = 8 by omega) with rfl | rfl | rfl | rfl | rfl | rfl | rfl | rfl | rfl <;> rfl
          have hx := hxs j
          have hst : f_X7_isWord_L32 N M (nI (xs 0)) (nI (xs 1)) (nI (xs 2)) (nI (xs 3)) (nI (xs 4)) (nI (xs 5)) (nI (xs 6)) (nI (xs 7)) (nI (xs 8)) (g + 1) q (nI j) = if q = 0 then some (q, nI j) else f_X7_isWord_L32 N M (nI (xs 0)) (nI (xs 1)) (nI (xs 2)) (nI (xs 3)) (nI (xs 4)) (nI (xs 5)) (nI (xs 6)) (nI (xs 7)) (nI (xs 8)) g (if okX w xs a e j = true then 1 else 0) (nI (j + 1)) := by
            rw [f_X7_isWord_L32, if_neg (by show ¬ nI 9 ≤ nI j; rw [n_le (by omega) (by omega)]; omega), hdue, h12, h13, nI_add, nI_1]
            by_cases hq0 : q = 0
            · rw [if_pos hq0, if_pos hq0]
            · rw [if_neg hq0, if_neg hq0]
              unfold okX
              by_cases q1 : a + j < e
              · have hin : inb (nI (a + j)) 160 = true := by rw [inb_nI (by omega)]; simp; omega
                have hw := hX.2.2.2 (a + j) (by omega)
                rw [if_neg (by rw [n_le (by omega) (by omega)]; omega), if_pos hin, n_cl (by omega), hX.2.2.1 _ (by omega), if_pos q1]
                by_cases q2 : w (a + j) = xs j
                · rw [if_pos (by rw [q2])]; simp [q2]
                · rw [if_neg (by rw [n_eq (by omega) (by omega)]; exact q2)]; simp [q2]
              · rw [if_pos (by rw [n_le (by omega) (by omega)]; omega), if_neg q1]
                by_cases q2 : xs j = 0
                · rw [if_pos (by rw [q2]; rfl)]; simp [q2]
                · rw [if_neg (by show ¬ nI (xs j) = nI 0; rw [n_eq (by omega) (by omega)]; exact q2)]; simp [q2]
          rw [hst]
          cases hal : allN (okX w xs a e) j with
          | false =>
            right
            rw [hal] at hq
            rw [hq, if_pos (show (if false = true then (1 : Int32) else 0) = 0 from rfl)]
            refine Ok.ret ?_
            show (if false = true then (1 : Int32) else 0) = _
            rw [allN_mono hal 9 (by omega)]
          | true =>
            left
            rw [hal] at hq
            rw [hq, if_neg (show ¬ (if true = true then (1 : Int32) else 0) = 0 by decide)]
            refine ⟨(if okX w xs a e j = true then 1 else 0), ?_, rfl⟩
            rw [allN, hal, Bool.true_and]
        · intro g q hq
          show Ok (f_X7_isWord_L32 N M (nI (xs 0)) (nI (xs 1)) (nI (xs 2)) (nI (xs 3)) (nI (xs 4)) (nI (xs 5)) (nI (xs 6)) (nI (xs 7)) (nI (xs 8)) (g + 1) q (nI 9)) _
          rw [f_X7_isWord_L32, if_pos (by show nI 9 ≤ nI 9; rw [n_le (by omega) (by omega)]; omega)]
          exact Ok.ret hq
      obtain ⟨r, hr, hr1⟩ := hlp
      rw [hr]
      simp only [Option.bind_some]
      rw [hr1]
      cases allN (okX w xs a e) 9 <;> rfl
    · rw [if_pos (by show nI 10 ≤ nI _; rw [n_le (by omega) (by omega)]; omega), zero, decide_eq_false h10]
      rfl
  · rw [if_neg (by show ¬ nI s = nI 1; rw [n_eq (by omega) (by omega)]; exact h1), zero, decide_eq_false h1]
    rfl
theorem wB_0 : ∀ c, c < 13 → ∀ k, k < 10 → wN c ≤ k → wB c k = 0 := by decide +kernel
theorem wB_b : ∀ c, c < 13 → ∀ k, k < 10 → wB c k < 1000 := by decide +kernel
theorem srt1 {w : Nat → Nat} {l a : Nat} (ha : a ≤ l) : srt w l a = 1 ↔ a < le w l a := by
  unfold srt
  constructor
  · intro h
    by_cases q : l ≤ a
    · rw [if_pos q] at h; omega
    · rw [if_neg q] at h
      cases hR : isR w 97 122 a with
      | true =>
        unfold le
        rw [adv_yes (by omega) hR]
        have := adv_ge' (P := isR w 97 122) (l := l) (p := a + 1)
        omega
      | false => rw [hR, if_neg (by decide)] at h; split at h <;> omega
  · intro h
    have h1 : le w l a ≤ l := adv_le' ha
    rw [if_neg (by omega), if_pos (adv_in' (Nat.le_refl a) h)]
theorem srt2 {w : Nat → Nat} {l a : Nat} (ha : a ≤ l) : srt w l a = 2 ↔ a < de w l a := by
  unfold srt
  constructor
  · intro h
    by_cases q : l ≤ a
    · rw [if_pos q] at h; omega
    · rw [if_neg q] at h
      cases hR : isR w 48 57 a with
      | true =>
        unfold de
        rw [adv_yes (by omega) hR]
        have := adv_ge' (P := isR w 48 57) (l := l) (p := a + 1)
        omega
      | false =>
        rw [hR, if_neg (show ¬ (false = true) by decide)] at h
        split at h <;> omega
  · intro h
    have h1 : de w l a ≤ l := adv_le' ha
    have h2 := adv_in' (P := isR w 48 57) (Nat.le_refl a) h
    have h3 : isR w 97 122 a = false := by
      unfold isR at h2 ⊢
      simp only [Bool.and_eq_true, decide_eq_true_iff] at h2
      simp
      omega
    rw [if_neg (by omega), h3, if_neg (by decide), if_pos h2]
theorem atE_le {w : Nat → Nat} {l a : Nat} (ha : a ≤ l) : a ≤ atE w l a ∧ atE w l a ≤ l := by
  unfold atE
  have h1 : a ≤ le w l a := adv_ge'
  have h2 : a ≤ de w l a := adv_ge'
  have h3 : le w l a ≤ l := adv_le' ha
  have h4 : de w l a ≤ l := adv_le' ha
  split
  · omega
  · split
    · omega
    · split
      · next h =>
        unfold srt at h
        have : ¬ l ≤ a := fun q => by rw [if_pos q] at h; omega
        omega
      · omega
/-- behind the token of a word: whether it is word c -/
theorem m_isW {N : Nat} (hN : 1000 ≤ N) {M : Mem} {w : Nat → Nat} {l a : Nat} (hX : tM w l M) (ha : a ≤ l) (h11 : M 70 11 = nI (srt w l a)) (h12 : M 70 12 = nI a) (h13 : M 70 13 = nI (atE w l a)) (c : Nat) (hc : c < 13) :
    f_X7_isWord N M (nI (wB c 0)) (nI (wB c 1)) (nI (wB c 2)) (nI (wB c 3)) (nI (wB c 4)) (nI (wB c 5)) (nI (wB c 6)) (nI (wB c 7)) (nI (wB c 8)) = some (if isW w a (le w l a) c = true then 1 else 0) := by
  have hat := atE_le (w := w) ha
  have hl := hX.2.1
  obtain ⟨xs, hxs⟩ : ∃ xs : Nat → Nat, xs = fun k => if k < 10 then wB c k else 0 := ⟨_, rfl⟩
  have hx9 : ∀ k, k < 10 → xs k = wB c k := fun k hk => by rw [hxs]; exact if_pos hk
  have hb : ∀ k, xs k < 1000 := fun k => by
    rw [hxs]
    dsimp only
    split
    · exact wB_b c hc k (by omega)
    · omega
  have h := m_isWord (xs := xs) hN hX h11 (srt_le w l a) h12 h13 hat.1 (fun _ => hat.2) (by omega) hb
  rw [hx9 0 (by omega), hx9 1 (by omega), hx9 2 (by omega), hx9 3 (by omega), hx9 4 (by omega), hx9 5 (by omega), hx9 6 (by omega), hx9 7 (by omega), hx9 8 (by omega)] at h
  rw [h]
  congr 1
  have hwn := wN_ok c hc
  have key : (decide (srt w l a = 1) && (decide (atE w l a - a < 10) && allN (okX w xs a (atE w l a)) 9)) = isW w a (le w l a) c := by
    rw [Bool.eq_iff_iff]
    unfold isW
    simp only [Bool.and_eq_true, decide_eq_true_iff, allN_iff]
    constructor
    · rintro ⟨s1, s2, s3⟩
      have he : atE w l a = le w l a := by unfold atE; rw [if_pos s1]
      rw [he] at s2 s3
      have hlen : le w l a - a = wN c := by
        rcases Nat.lt_trichotomy (le w l a - a) (wN c) with q | q | q
        · have := s3 (le w l a - a) (by omega)
          unfold okX at this
          have h2 : ¬ a + (le w l a - a) < le w l a := by have := hat.1; omega
          rw [if_neg h2, decide_eq_true_iff, hx9 _ (by omega)] at this
          have := wB_ok c hc (le w l a - a) q
          omega
        · exact q
        · have := s3 (wN c) (by omega)
          unfold okX at this
          rw [if_pos (by omega), decide_eq_true_iff, hx9 _ (by omega), wB_0 c hc _ (by omega) (by omega)] at this
          have h5 := adv_in' (P := isR w 97 122) (l := l) (p := a) (i := a + wN c) (by omega) (show a + wN c < le w l a by omega)
          unfold isR at h5
          simp only [Bool.and_eq_true, decide_eq_true_iff] at h5
          omega
      refine ⟨hlen, fun i hi => ?_⟩
      have := s3 i (by omega)
      unfold okX at this
      rw [if_pos (by omega), decide_eq_true_iff, hx9 _ (by omega)] at this
      exact this
    · rintro ⟨s1, s2⟩
      have s3 : srt w l a = 1 := (srt1 ha).mpr (by omega)
      have he : atE w l a = le w l a := by unfold atE; rw [if_pos s3]
      refine ⟨s3, by rw [he]; omega, fun i hi => ?_⟩
      rw [he]
      unfold okX
      by_cases q : i < wN c
      · rw [if_pos (by omega), decide_eq_true_iff, hx9 _ (by omega)]
        exact s2 i q
      · rw [if_neg (by omega), decide_eq_true_iff, hx9 _ (by omega)]
        exact wB_0 c hc i (by omega) (by omega)
  rw [key]
theorem m_in {N : Nat} {M : Mem} {v lo hi : Nat} (hv : v < 1000) (hlo : lo < 1000) (hhi : hi < 1000) : f_X7_in N M (nI v) (nI lo) (nI hi) = some (if lo ≤ v ∧ v ≤ hi then 1 else 0) := by
  unfold f_X7_in
  by_cases h1 : v < lo
  · rw [if_pos (by rw [n_lt (by omega) (by omega)]; exact h1), if_neg (by omega)]
  · rw [if_neg (by rw [n_lt (by omega) (by omega)]; exact h1)]
    by_cases h2 : hi < v
    · rw [if_pos (by rw [n_lt (by omega) (by omega)]; exact h2), if_neg (by omega)]
    · rw [if_neg (by rw [n_lt (by omega) (by omega)]; exact h2), if_pos (by omega)]
theorem m_number {N : Nat} (hN : 1000 ≤ N) {M : Mem} {w : Nat → Nat} {l p pl lo hi : Nat} (hX : tM w l M) (h13 : M 70 13 = nI p) (hp : p ≤ l) (hpl : pl < 45) (hlo : lo < 1000) (hhi : hi < 100) :
    Ok (f_X7_number N M (nI pl) (nI lo) (nI hi)) (fun q => q.2 70 12 = nI (sk w l p) ∧ q.1 = (if nOk w l p lo hi = true then 1 else 0) ∧ (nOk w l p lo hi = true → q.2 70 13 = nI (nE w l p) ∧ q.2 73 pl = nI (nV w l p)) ∧ ∀ a b, ¬ (a = 70 ∧ 11 ≤ b ∧ b ≤ 14) → ¬ (a = 73 ∧ b = pl) → q.2 a b = M a b) := by
  have hl := hX.2.1
  have hsl := sk_le (w := w) hp
  have hin : inb (nI pl) 45 = true := by rw [inb_nI (by omega)]; simp; omega
  unfold f_X7_number
  refine Ok.bind (m_token hN hX h13 hp) ?_
  rintro M1 ⟨k11, k12, k13, k14, hF⟩
  rw [if_pos hin, n_cl (by omega)]
  obtain ⟨M2, hM2⟩ : ∃ q, q = up2 M1 73 pl (M1 70 14) := ⟨_, rfl⟩
  rw [← hM2]
  have hF2 : ∀ a b, ¬ (a = 73 ∧ b = pl) → M2 a b = M1 a b := fun a b q => by rw [hM2]; unfold up2; rw [if_neg q]
  have g11 : M2 70 11 = nI (srt w l (sk w l p)) := by rw [hF2 _ _ (by omega)]; exact k11
  have g12 : M2 70 12 = nI (sk w l p) := by rw [hF2 _ _ (by omega)]; exact k12
  have g14 : M2 70 14 = M1 70 14 := hF2 _ _ (by omega)
  have hfr : ∀ a b, ¬ (a = 70 ∧ 11 ≤ b ∧ b ≤ 14) → ¬ (a = 73 ∧ b = pl) → M2 a b = M a b := fun a b q1 q2 => by rw [hF2 a b q2, hF a b q1]
  have h3 := srt_le w l (sk w l p)
  rw [g11, g14, k14]
  by_cases s2 : srt w l (sk w l p) = 2
  · have hlt := (srt2 hsl).mp s2
    have hge := nE_ge (w := w) (l := l) (p := p)
    have hel := nE_le (w := w) hp
    have e1 : nE w l p = de w l (sk w l p) := rfl
    rw [if_pos (by rw [s2]; rfl), if_pos s2]
    by_cases h2 : nE w l p - sk w l p ≤ 2
    · have hv : vD w (sk w l p) (de w l (sk w l p) - sk w l p) = nV w l p := by unfold vD nV; rw [← e1, if_pos h2]
      have hv3 : nV w l p < 1000 := by
        unfold nV
        have hd0 := dig (w := w) (l := l) (p := p) (i := sk w l p) (by omega) (by omega)
        rcases (show nE w l p - sk w l p = 1 ∨ nE w l p - sk w l p = 2 by omega) with h | h
        · rw [h]; simp only [valN, Nat.add_zero]; omega
        · have hd1 := dig (w := w) (l := l) (p := p) (i := sk w l p + 1) (by omega) (by omega)
          rw [h]; simp only [valN, Nat.add_zero]; omega
      rw [hv, m_in hv3 hlo (by omega)]
      simp only [Option.bind_some]
      by_cases hok : lo ≤ nV w l p ∧ nV w l p ≤ hi
      · have hn : nOk w l p lo hi = true := by
          unfold nOk
          have : sk w l p < nE w l p := by omega
          simp [this, h2, hok]
        rw [if_pos hok, if_neg (by decide)]
        refine Ok.ret ⟨g12, by rw [hn]; rfl, fun _ => ⟨?_, ?_⟩, hfr⟩
        · show M2 70 13 = _
          rw [hF2 _ _ (by omega), k13]
          unfold atE
          rw [if_neg (by omega), if_pos s2]; rfl
        · show M2 73 pl = _
          rw [hM2, up2_same, k14, if_pos s2, hv]
      · have hn : nOk w l p lo hi = false := by
          unfold nOk
          simp
          omega
        rw [if_neg hok, if_pos rfl]
        exact Ok.ret ⟨g12, by rw [hn]; rfl, fun q => (by rw [hn] at q; cases q), hfr⟩
    · have hv : vD w (sk w l p) (de w l (sk w l p) - sk w l p) = 100 := by unfold vD; rw [← e1, if_neg h2]
      have hn : nOk w l p lo hi = false := by
        unfold nOk
        simp [h2]
      rw [hv, m_in (by omega) hlo (by omega)]
      simp only [Option.bind_some]
      rw [if_neg (show ¬ (lo ≤ 100 ∧ 100 ≤ hi) by omega), if_pos rfl]
      exact Ok.ret ⟨g12, by rw [hn]; rfl, fun q => (by rw [hn] at q; cases q), hfr⟩
  · have hn : nOk w l p lo hi = false := by
      have : ¬ sk w l p < nE w l p := fun q => s2 ((srt2 hsl).mpr q)
      unfold nOk
      simp [this]
    rw [if_neg (by show ¬ nI _ = nI 2; rw [n_eq (by omega) (by omega)]; exact s2)]
    exact Ok.ret ⟨g12, by rw [hn]; rfl, fun q => (by rw [hn] at q; cases q), hfr⟩
