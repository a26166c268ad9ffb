/-! How the model reads a clause, and the whole text. -/
theorem w_uniq : ∀ c, c < 13 → ∀ d, d < 13 → (wN c = wN d ∧ ∀ i, i < 9 → i < wN c → wB c i = wB d i) → c = d := by decide +kernel
theorem isW_uniq {w : Nat → Nat} {a e c d : Nat} (hc : c < 13) (hd : d < 13) (h1 : isW w a e c = true) (h2 : isW w a e d = true) : c = d := by
  unfold isW at h1 h2
  simp only [Bool.and_eq_true, decide_eq_true_iff, allN_iff] at h1 h2
  refine w_uniq c hc d hd ⟨by omega, fun i _ hi => ?_⟩
  rw [← h1.2 i hi, ← h2.2 i (by omega)]
theorem rcTo.z {r : Nat × Option (Nat → Nat)} {M : Mem} {q : Int32 × Mem} (h : rcTo r M q) : q.1 = 0 ∨ q.1 = 1 := by
  cases hr : r.2 with
  | none => exact Or.inl (h.1 hr).1
  | some t => exact Or.inr (h.2.1 t hr).1
theorem rcTo_zk {r : Nat × Option (Nat → Nat)} {M : Mem} {x : Option (Int32 × Mem)} (h : Ok x (rcTo r M)) : Ok (x.bind fun q => if zok q.1 = true then some (q.1, q.2) else none) (rcTo r M) := by
  refine Ok.bind h (fun q hq => ?_)
  rcases hq.z with h0 | h0
  · rw [h0, if_pos (by decide)]; have : (0, q.2) = q := by rw [← h0]
    rw [this]; exact Ok.ret hq
  · rw [h0, if_pos (by decide)]; have : (1, q.2) = q := by rw [← h0]
    rw [this]; exact Ok.ret hq
theorem rcTo.z01 {r : Nat × Option (Nat → Nat)} {M : Mem} {x : Option (Int32 × Mem)} (h : Ok x (rcTo r M)) : Ok (x.bind fun q => if q.1 = 0 then some ((0 : Int32), q.2) else some (1, q.2)) (rcTo r M) := by
  refine Ok.bind h (fun q hq => ?_)
  rcases hq.z with h0 | h0
  · rw [if_pos h0]; have : (0, q.2) = q := by rw [← h0]
    rw [this]; exact Ok.ret hq
  · rw [if_neg (by rw [h0]; decide)]; have : (1, q.2) = q := by rw [← h0]
    rw [this]; exact Ok.ret hq
theorem m_readsClause {N : Nat} (hN : 1000 ≤ N) {M : Mem} {w t : Nat → Nat} {l p : Nat} (ht : WT t) (hX : tM w l M) (hp : p ≤ l) (h11 : M 70 11 = nI (srt w l (sk w l p))) (h12 : M 70 12 = nI (sk w l p)) (h13 : M 70 13 = nI (atE w l (sk w l p))) (hD : MDr t M) :
    Ok (f_X7_readsClause N M) (rcTo (pc w l t p) M) := by
  have hsl := sk_le (w := w) hp
  have hel := le_le (w := w) hp
  obtain ⟨a, ha⟩ : ∃ a, a = sk w l p := ⟨_, rfl⟩
  obtain ⟨e, he⟩ : ∃ e, e = le w l a := ⟨_, rfl⟩
  rw [← ha] at h11 h12 h13 hsl hel
  rw [← he] at hel
  have w0 : f_X7_isWord N M 104 97 108 108 0 0 0 0 0 = some (if isW w a e 0 = true then 1 else 0) := by rw [he]; exact m_isW hN hX hsl h11 h12 h13 0 (by omega)
  have w1 : f_X7_isWord N M 103 117 101 115 116 0 0 0 0 = some (if isW w a e 1 = true then 1 else 0) := by rw [he]; exact m_isW hN hX hsl h11 h12 h13 1 (by omega)
  have w2 : f_X7_isWord N M 102 97 110 0 0 0 0 0 0 = some (if isW w a e 2 = true then 1 else 0) := by rw [he]; exact m_isW hN hX hsl h11 h12 h13 2 (by omega)
  have w3 : f_X7_isWord N M 115 108 101 101 112 101 114 0 0 = some (if isW w a e 3 = true then 1 else 0) := by rw [he]; exact m_isW hN hX hsl h11 h12 h13 3 (by omega)
  have w4 : f_X7_isWord N M 115 104 111 117 116 101 114 0 0 = some (if isW w a e 4 = true then 1 else 0) := by rw [he]; exact m_isW hN hX hsl h11 h12 h13 4 (by omega)
  have w5 : f_X7_isWord N M 112 108 97 105 110 0 0 0 0 = some (if isW w a e 5 = true then 1 else 0) := by rw [he]; exact m_isW hN hX hsl h11 h12 h13 5 (by omega)
  have w6 : f_X7_isWord N M 113 117 105 101 116 0 0 0 0 = some (if isW w a e 6 = true then 1 else 0) := by rw [he]; exact m_isW hN hX hsl h11 h12 h13 6 (by omega)
  have w7 : f_X7_isWord N M 98 114 105 108 108 105 97 110 116 = some (if isW w a e 7 = true then 1 else 0) := by rw [he]; exact m_isW hN hX hsl h11 h12 h13 7 (by omega)
  have w8 : f_X7_isWord N M 107 110 111 119 110 0 0 0 0 = some (if isW w a e 8 = true then 1 else 0) := by rw [he]; exact m_isW hN hX hsl h11 h12 h13 8 (by omega)
  have w9 : f_X7_isWord N M 97 114 109 0 0 0 0 0 0 = some (if isW w a e 9 = true then 1 else 0) := by rw [he]; exact m_isW hN hX hsl h11 h12 h13 9 (by omega)
  have w10 : f_X7_isWord N M 99 108 111 115 101 0 0 0 0 = some (if isW w a e 10 = true then 1 else 0) := by rw [he]; exact m_isW hN hX hsl h11 h12 h13 10 (by omega)
  have w11 : f_X7_isWord N M 104 105 114 101 0 0 0 0 0 = some (if isW w a e 11 = true then 1 else 0) := by rw [he]; exact m_isW hN hX hsl h11 h12 h13 11 (by omega)
  have w12 : f_X7_isWord N M 101 109 112 116 121 0 0 0 0 = some (if isW w a e 12 = true then 1 else 0) := by rw [he]; exact m_isW hN hX hsl h11 h12 h13 12 (by omega)
  unfold f_X7_readsClause
  rw [w0, w12, w1, w2, w3, w4, w5, w6, w7, w8, w9, w10, w11]
  simp only [Option.bind_some]
  clear w0 w1 w2 w3 w4 w5 w6 w7 w8 w9 w10 w11 w12
  have t01 : ¬ (if true = true then (1 : Int32) else 0) = 0 := by decide
  have f01 : (if false = true then (1 : Int32) else 0) = 0 := rfl
  cases hf : fstU (isW w a e) 13 with
  | none =>
    rw [ha, he, ha] at hf
    rw [pc_none hf]
    rw [← ha, ← he] at hf
    have hno := fstU_none hf
    rw [hno 0 (by omega), hno 12 (by omega), hno 1 (by omega), hno 2 (by omega), hno 3 (by omega), hno 4 (by omega), hno 5 (by omega), hno 6 (by omega), hno 7 (by omega), hno 8 (by omega), hno 9 (by omega), hno 10 (by omega), hno 11 (by omega)]
    simp only [if_pos f01]
    rw [← ha]
    exact Ok.ret (rcTo.no h12 (fun _ _ _ _ => rfl))
  | some c =>
    obtain ⟨hc, hcw, -⟩ := fstU_is hf
    have hoth : ∀ d, d < 13 → d ≠ c → isW w a e d = false := fun d hd hne => by
      cases hq : isW w a e d with
      | false => rfl
      | true => exact absurd (isW_uniq hd hc hq hcw) hne
    rw [ha, he, ha] at hf
    rw [pc_some hf, ← ha, ← he]
    clear hf
    have hlt : a < e := by
      unfold isW at hcw
      simp only [Bool.and_eq_true, decide_eq_true_iff] at hcw
      have := (wN_ok c hc).2.1
      omega
    have s1 : srt w l a = 1 := (srt1 hsl).mpr (by rw [← he]; exact hlt)
    have g13 : M 70 13 = nI e := by rw [h13]; unfold atE; rw [if_pos s1, he]
    rcases (show c = 0 ∨ c = 1 ∨ c = 2 ∨ c = 3 ∨ c = 4 ∨ c = 5 ∨ c = 6 ∨ c = 7 ∨ c = 8 ∨ c = 9 ∨ c = 10 ∨ c = 11 ∨ c = 12 by omega) with rfl | rfl | rfl | rfl | rfl | rfl | rfl | rfl | rfl | rfl | rfl | rfl | rfl
    · rw [hcw]
      simp only [if_pos f01, if_neg t01]
      refine Ok.bind (m_forgets hN) ?_
      rintro M1 ⟨h1, h2⟩
      exact Ok.ret (rcTo.yes (t := t0F) (by rw [h2 _ _ (by omega)]; exact g13) h1 (fun x b _ q => h2 x b q))
    · rw [hoth 0 (by omega) (by omega), hoth 12 (by omega) (by omega), hcw]
      simp only [if_pos f01, if_neg t01]
      exact rcTo_zk (m_clapper (c := 1) hN ht hX hel rfl h12 g13 hD)
    · rw [hoth 0 (by omega) (by omega), hoth 12 (by omega) (by omega), hoth 1 (by omega) (by omega), hcw]
      simp only [if_pos f01, if_neg t01]
      exact rcTo_zk (m_clapper (c := 2) hN ht hX hel rfl h12 g13 hD)
    · rw [hoth 0 (by omega) (by omega), hoth 12 (by omega) (by omega), hoth 1 (by omega) (by omega), hoth 2 (by omega) (by omega), hcw]
      simp only [if_pos f01, if_neg t01]
      exact rcTo_zk (m_clapper (c := 3) hN ht hX hel rfl h12 g13 hD)
    · rw [hoth 0 (by omega) (by omega), hoth 12 (by omega) (by omega), hoth 1 (by omega) (by omega), hoth 2 (by omega) (by omega), hoth 3 (by omega) (by omega), hcw]
      simp only [if_pos f01, if_neg t01]
      exact rcTo_zk (m_clapper (c := 4) hN ht hX hel rfl h12 g13 hD)
    · rw [hoth 0 (by omega) (by omega), hoth 12 (by omega) (by omega), hoth 1 (by omega) (by omega), hoth 2 (by omega) (by omega), hoth 3 (by omega) (by omega), hoth 4 (by omega) (by omega), hcw]
      simp only [if_pos f01, if_neg t01]
      exact rcTo_zk (m_encoreR (c := 5) hN ht hX hel rfl h12 g13 hD)
    · rw [hoth 0 (by omega) (by omega), hoth 12 (by omega) (by omega), hoth 1 (by omega) (by omega), hoth 2 (by omega) (by omega), hoth 3 (by omega) (by omega), hoth 4 (by omega) (by omega), hoth 5 (by omega) (by omega), hcw]
      simp only [if_pos f01, if_neg t01]
      exact rcTo_zk (m_encoreR (c := 6) hN ht hX hel rfl h12 g13 hD)
    · rw [hoth 0 (by omega) (by omega), hoth 12 (by omega) (by omega), hoth 1 (by omega) (by omega), hoth 2 (by omega) (by omega), hoth 3 (by omega) (by omega), hoth 4 (by omega) (by omega), hoth 5 (by omega) (by omega), hoth 6 (by omega) (by omega), hcw]
      simp only [if_pos f01, if_neg t01]
      exact rcTo_zk (m_encoreR (c := 7) hN ht hX hel rfl h12 g13 hD)
    · rw [hoth 0 (by omega) (by omega), hoth 12 (by omega) (by omega), hoth 1 (by omega) (by omega), hoth 2 (by omega) (by omega), hoth 3 (by omega) (by omega), hoth 4 (by omega) (by omega), hoth 5 (by omega) (by omega), hoth 6 (by omega) (by omega), hoth 7 (by omega) (by omega), hcw]
      simp only [if_pos f01, if_neg t01]
      exact rcTo_zk (m_encoreR (c := 8) hN ht hX hel rfl h12 g13 hD)
    · rw [hoth 0 (by omega) (by omega), hoth 12 (by omega) (by omega), hoth 1 (by omega) (by omega), hoth 2 (by omega) (by omega), hoth 3 (by omega) (by omega), hoth 4 (by omega) (by omega), hoth 5 (by omega) (by omega), hoth 6 (by omega) (by omega), hoth 7 (by omega) (by omega), hoth 8 (by omega) (by omega), hcw]
      simp only [if_pos f01, if_neg t01]
      exact rcTo_zk (m_one (c := 9) (pl := 2) (hi := 30) hN hX hel (by omega) (by omega) (fun _ => rfl) rfl rfl rfl rfl g13 hD)
    · rw [hoth 0 (by omega) (by omega), hoth 12 (by omega) (by omega), hoth 1 (by omega) (by omega), hoth 2 (by omega) (by omega), hoth 3 (by omega) (by omega), hoth 4 (by omega) (by omega), hoth 5 (by omega) (by omega), hoth 6 (by omega) (by omega), hoth 7 (by omega) (by omega), hoth 8 (by omega) (by omega), hoth 9 (by omega) (by omega), hcw]
      simp only [if_pos f01, if_neg t01]
      exact rcTo_zk (m_one (c := 10) (pl := 3) (hi := 99) hN hX hel (by omega) (by omega) (fun _ => rfl) rfl rfl rfl rfl g13 hD)
    · rw [hoth 0 (by omega) (by omega), hoth 12 (by omega) (by omega), hoth 1 (by omega) (by omega), hoth 2 (by omega) (by omega), hoth 3 (by omega) (by omega), hoth 4 (by omega) (by omega), hoth 5 (by omega) (by omega), hoth 6 (by omega) (by omega), hoth 7 (by omega) (by omega), hoth 8 (by omega) (by omega), hoth 9 (by omega) (by omega), hoth 10 (by omega) (by omega), hcw]
      simp only [if_pos f01, if_neg t01]
      exact rcTo.z01 (m_one (c := 11) (pl := 4) (hi := 9) hN hX hel (by omega) (by omega) (fun _ => rfl) rfl rfl rfl rfl g13 hD)
    · rw [hoth 0 (by omega) (by omega), hcw]
      simp only [if_pos f01, if_neg t01]
      refine Ok.ret (rcTo.yes (t := put t 0 0) (by rw [up2_k (by decide)]; exact g13) (fun j hj => ?_) (fun x b _ q => up2_k q))
      by_cases q : j = 0
      · rw [q, put_s, up2_same]; rfl
      · rw [put_o q, up2_j q]; exact hD j hj
