/-! The model's search: its walk. -/
def FM (t s0 : Nat → Nat) (k : Nat) (s : Nat → Nat) (p : List Nat) (x : Nat) : List (Int32 × List Nat) := if canS t s x = true then (gn s0 (stepS t s x), p ++ [x]) :: rwM t s0 k (stepS t s x) (p ++ [x]) else []
theorem rwM_s (t s0 : Nat → Nat) (k : Nat) (s : Nat → Nat) (p : List Nat) : rwM t s0 (k + 1) s p = secs (FM t s0 k s p) 5 := rfl
def MD (N : Nat) (t s0 : Nat → Nat) (x1 : Int32) (Q : Int32 × Mem → Prop) (k : Nat) : Prop := ∀ (r d j : Nat) (s : Nat → Nat) (anc : Nat → Nat → Nat) (p : List Nat) (b : Int32 × List Nat) (M : Mem) (m n f : Nat),
  d + k = 5 → j + r = 6 → 1 ≤ r → p.length = d → WS t s m n → m + 9 * (k + 1) < 1000000 → n + (k + 1) < 1000000 →
  MT t M → MS s M → anc d = s → (∀ d', d' ≤ d → ∀ i, i < 14 → M 80 (14 * d' + i) = nI (anc d' i)) → (∀ i, i < d → M 81 i = nI (p.getD i 0)) → M 81 d = nI j → bM ((secs (FM t s0 k s p) j).foldl up b) M →
  r * (1 + CC k) ≤ f →
  (∀ (f' : Nat) (M' : Mem), f ≤ f' + r * (1 + CC k) → Fm M M' → bM ((secs (FM t s0 k s p) 5).foldl up b) M' → (∀ d', d' < d → ∀ i, i < 14 → M' 80 (14 * d' + i) = nI (anc d' i)) → (∀ i, i < d → M' 81 i = nI (p.getD i 0)) → MS (if d = 0 then s else anc (d - 1)) M' → Ok (f_X7_seeks_L38 N x1 f' (nI d + -1) M') Q) →
  Ok (f_X7_seeks_L38 N x1 f (nI d) M) Q
theorem md_step {N : Nat} (hN : 1000 ≤ N) {t s0 : Nat → Nat} (ht : WT t) {x1 : Int32} (hx1 : x1 = nI (s0 4) - nI (s0 3)) {Q : Int32 × Mem → Prop} {k : Nat} (IH : ∀ k', k = k' + 1 → MD N t s0 x1 Q k') : MD N t s0 x1 Q k := by
  intro r
  induction r with
  | zero => intro d j s anc p b M m n f _ _ h; omega
  | succ r ihr =>
    intro d j s anc p b M m n f hdk hjr _ hp hs hm hn hT hS hanc h80 h81 h81d hb hf K
    have h1 := ht.2.1
    obtain ⟨g, rfl⟩ : ∃ g, f = g + 1 := ⟨f - 1, by have := Nat.le_trans (Nat.le_mul_of_pos_right (r + 1) (show 0 < 1 + CC k by omega)) hf; omega⟩
    have hmul : (r + 1) * (1 + CC k) = r * (1 + CC k) + (1 + CC k) := Nat.succ_mul _ _
    have hin : inb (nI d) 6 = true := by rw [inb_nI (by omega)]; simp; omega
    have hcl : (nI d).toNatClampNeg = d := n_cl (by omega)
    rw [f_X7_seeks_L38, if_neg (nI_pos (by omega)), if_pos hin, if_pos hin, if_pos hin, hcl, h81d, nI_1]
    obtain ⟨M1, hM1⟩ : ∃ q, q = up2 M 81 d (nI (j + 1)) := ⟨_, rfl⟩
    rw [← hM1]
    have hF1 : ∀ a c, ¬ (a = 81 ∧ c = d) → M1 a c = M a c := fun a c q => by rw [hM1]; unfold up2; rw [if_neg q]
    have g81 : M1 81 d = nI (j + 1) := by rw [hM1, up2_same]
    have hT1 : MT t M1 := hT.of (fun c => hF1 _ _ (by omega))
    have hS1 : MS s M1 := hS.of (fun c => hF1 _ _ (by omega))
    have g72 : M1 72 1 = nI (t 1) := hT1 1 (by omega)
    have hFm1 : Fm M M1 := fun a c q1 q2 q3 q4 q5 => hF1 a c (by omega)
    simp only [g81, g72, nI_1, if_pos hin]
    by_cases hle : j ≤ t 1
    · rw [if_pos (by rw [n_le (by omega) (by omega)]; omega)]
      have hstp : isStep t (j + 1) = true := by unfold isStep; simp; omega
      rw [m_lacks hN ht hs (by omega) hT1 hS1 (show j + 1 ≤ 5 by omega), if_pos hstp]
      simp only [Option.bind_some]
      have hsec : secs (FM t s0 k s p) (j + 1) = secs (FM t s0 k s p) j ++ FM t s0 k s p (j + 1) := rfl
      cases hcn : canS t s (j + 1) with
      | false =>
        rw [if_neg (show ¬ (if false = true then (0 : Int32) else -4) = 0 by decide)]
        have hFj : FM t s0 k s p (j + 1) = [] := by unfold FM; rw [hcn]; rfl
        refine ihr d (j + 1) s anc p b M1 m n g hdk (by omega) (by omega) hp hs hm hn hT1 hS1 hanc (fun d' hd' i hi => by rw [hF1 _ _ (by omega)]; exact h80 d' hd' i hi) (fun i hi => by rw [hF1 _ _ (by omega)]; exact h81 i hi) g81 ?_ (by omega) ?_
        · rw [hsec, hFj, List.append_nil]
          exact hb.of (fun a c q => hF1 a c (by omega))
        · intro f' M' q1 q2 q3 q4 q5 q6
          exact K f' M' (by omega) (hFm1.t q2) q3 q4 q5 q6
      | true =>
        rw [if_pos (show (if true = true then (0 : Int32) else -4) = 0 from rfl)]
        have hFj : FM t s0 k s p (j + 1) = (gn s0 (stepS t s (j + 1)), p ++ [j + 1]) :: rwM t s0 k (stepS t s (j + 1)) (p ++ [j + 1]) := by unfold FM; rw [if_pos hcn]
        have hws := WS.step ht hs hcn
        have hp4 : (p ++ [j + 1]).length = d + 1 := by simp [hp]
        refine Ok.bind (m_steps hN ht hs (by omega) (by omega) hT1 hS1 hcn (by omega)) ?_
        rintro M2 ⟨hS2, hF2⟩
        have h812 : ∀ i, i < d + 1 → M2 81 i = nI ((p ++ [j + 1]).getD i 0) := by
          intro i hi
          rw [hF2 _ _ (by omega), getD_snoc]
          by_cases q : i = d
          · rw [if_neg (by omega), if_pos (by omega), q, g81]
          · rw [if_pos (by omega), hF1 _ _ (by omega)]; exact h81 i (by omega)
        refine Ok.bind (m_look1 (b := (secs (FM t s0 k s p) j).foldl up b) hN (by omega) hx1 hp4 hS2 h812 (bM.of (M' := M2) hb (fun a c q => by rw [hF2 _ _ (by omega), hF1 a c (by omega)]))) ?_
        rintro M3 ⟨hb3, hF3⟩
        have h803 : ∀ d', d' ≤ d → ∀ i, i < 14 → M3 80 (14 * d' + i) = nI (anc d' i) := fun d' hd' i hi => by rw [hF3 _ _ (by omega) (by omega), hF2 _ _ (by omega), hF1 _ _ (by omega)]; exact h80 d' hd' i hi
        have h813 : ∀ i, i < d + 1 → M3 81 i = nI ((p ++ [j + 1]).getD i 0) := fun i hi => by rw [hF3 _ _ (by omega) (by omega)]; exact h812 i hi
        have hS3 : MS (stepS t s (j + 1)) M3 := hS2.of (fun c => hF3 _ _ (by omega) (by omega))
        have hT3 : MT t M3 := hT1.of (fun c => by rw [hF3 _ _ (by omega) (by omega), hF2 _ _ (by omega)])
        have hFm3 : Fm M M3 := fun a c q1 q2 q3 q4 q5 => by rw [hF3 a c q4 q5, hF2 a c q1, hF1 a c (by omega)]
        have hgp : ∀ i, i < d → (p ++ [j + 1]).getD i 0 = p.getD i 0 := fun i hi => by rw [getD_snoc, if_pos (by omega)]
        have hgd : (p ++ [j + 1]).getD d 0 = j + 1 := by rw [getD_snoc, if_neg (by omega), if_pos (by omega)]
        have cont : ∀ (f' : Nat) (M' : Mem), g ≤ f' + CC k → Fm M M' → bM ((secs (FM t s0 k s p) (j + 1)).foldl up b) M' → (∀ d', d' ≤ d → ∀ i, i < 14 → M' 80 (14 * d' + i) = nI (anc d' i)) → (∀ i, i < d + 1 → M' 81 i = nI ((p ++ [j + 1]).getD i 0)) → MS s M' → Ok (f_X7_seeks_L38 N x1 f' (nI d) M') Q := by
          intro f' M' q1 q2 q3 q4 q5 q6
          refine ihr d (j + 1) s anc p b M' m n f' hdk (by omega) (by omega) hp hs hm hn (hT.of (fun c => q2 _ _ (by omega) (by omega) (by omega) (by omega) (by omega))) q6 hanc q4 (fun i hi => by rw [q5 i (by omega), hgp i hi]) (by rw [q5 d (by omega), hgd]) q3 (by omega) ?_
          intro f'' M'' w1 w2 w3 w4 w5 w6
          exact K f'' M'' (by omega) (q2.t w2) w3 w4 w5 w6
        by_cases h6 : d = 5
        · have hk0 : k = 0 := by omega
          rw [if_pos (by show nI 6 ≤ nI (d + 1); rw [n_le (by omega) (by omega)]; omega)]
          refine Ok.bind (m_comesBack hN (by omega)) ?_
          rintro M4 ⟨h4, hF4⟩
          refine cont g M4 (by omega) (fun a c q1 q2 q3 q4 q5 => by rw [hF4 a c q1]; exact hFm3 a c q1 q2 q3 q4 q5) ?_ (fun d' hd' i hi => by rw [hF4 _ _ (by omega)]; exact h803 d' hd' i hi) (fun i hi => by rw [hF4 _ _ (by omega)]; exact h813 i hi) (fun i hi => ?_)
          · have : FM t s0 k s p (j + 1) = [(gn s0 (stepS t s (j + 1)), p ++ [j + 1])] := by rw [hFj, hk0]; rfl
            rw [hsec, this, List.foldl_append]
            exact hb3.of (fun a c q => hF4 a c (by omega))
          · rw [h4 i hi, h803 d (by omega) i hi, hanc]
        · rw [if_neg (by show ¬ nI 6 ≤ nI (d + 1); rw [n_le (by omega) (by omega)]; omega)]
          obtain ⟨k', rfl⟩ : ∃ k', k = k' + 1 := ⟨k - 1, by omega⟩
          have hin1 : inb (nI (d + 1)) 6 = true := by rw [inb_nI (by omega)]; simp; omega
          refine Ok.bind (m_goesOn hN (by omega)) ?_
          rintro M4 ⟨h4, h4', hF4⟩
          rw [if_pos hin1, n_cl (show d + 1 < 2147483648 by omega)]
          obtain ⟨M5, hM5⟩ : ∃ q, q = up2 M4 81 (d + 1) 0 := ⟨_, rfl⟩
          rw [← hM5]
          have hF5 : ∀ a c, ¬ (a = 81 ∧ c = d + 1) → M5 a c = M4 a c := fun a c q => by rw [hM5]; unfold up2; rw [if_neg q]
          have hCC : 6 * (1 + CC k') = CC (k' + 1) := rfl
          have hFm5 : Fm M M5 := fun a c q1 q2 q3 q4 q5 => by rw [hF5 a c (by omega), hF4 a c q2]; exact hFm3 a c q1 q2 q3 q4 q5
          refine IH k' rfl 6 (d + 1) 0 (stepS t s (j + 1)) (fun i => if i = d + 1 then stepS t s (j + 1) else anc i) (p ++ [j + 1]) (up ((secs (FM t s0 (k' + 1) s p) j).foldl up b) (gn s0 (stepS t s (j + 1)), p ++ [j + 1])) M5 (m + 9) (n + 1) g (by omega) (by omega) (by omega) hp4 hws (by omega) (by omega) (hT3.of (fun c => by rw [hF5 _ _ (by omega), hF4 _ _ (by omega)])) (hS3.of (fun c => by rw [hF5 _ _ (by omega), hF4 _ _ (by omega)])) (if_pos rfl) ?_ ?_ (by rw [hM5, up2_same]; rfl) ?_ ?_ ?_
          · intro d' hd' i hi
            rw [hF5 _ _ (by omega)]
            by_cases q : d' = d + 1
            · rw [if_pos q, q, h4 i hi]; exact hS3 i hi
            · rw [if_neg q, h4' _ (by omega)]; exact h803 d' (by omega) i hi
          · intro i hi
            rw [hF5 _ _ (by omega), hF4 _ _ (by omega)]; exact h813 i hi
          · exact hb3.of (fun a c q => by rw [hF5 _ _ (by omega), hF4 _ _ (by omega)])
          · rw [hCC]; have := hf; rw [hmul] at this; omega
          · intro f' M' q1 q2 q3 q4 q5 q6
            rw [hCC] at q1
            rw [pk_m1]
            have q6' : MS s M' := by
              rw [if_neg (by omega), show d + 1 - 1 = d by omega, if_neg (by omega), hanc] at q6
              exact q6
            refine cont f' M' q1 (hFm5.t q2) ?_ (fun d' hd' i hi => ?_) q5 q6'
            · rw [hsec, hFj, List.foldl_append, List.foldl_cons, rwM_s]
              exact q3
            · rw [q4 d' (by omega) i hi, if_neg (by omega)]
    · have hsec : secs (FM t s0 k s p) 5 = secs (FM t s0 k s p) j := by
        refine secs_tail (fun x hx => ?_) 5 (by omega)
        have : canS t s x = false := by
          cases hq : canS t s x with
          | false => rfl
          | true => have := (can_enc hq (by omega)).1; omega
        unfold FM
        rw [this]; rfl
      rw [if_neg (by rw [n_le (by omega) (by omega)]; omega)]
      by_cases hd0 : d = 0
      · subst hd0
        rw [if_pos (by decide)]
        refine K g M1 (by omega) hFm1 ?_ (fun d' hd' => by omega) (fun i hi => by omega) hS1
        rw [hsec]
        exact hb.of (fun a c q => hF1 a c (by omega))
      · obtain ⟨e, rfl⟩ : ∃ e, d = e + 1 := ⟨d - 1, by omega⟩
        rw [pk_m1, if_neg (nI_pos (by omega))]
        refine Ok.bind (m_comesBack hN (by omega)) ?_
        rintro M4 ⟨h4, hF4⟩
        have K' := K g M4 (by omega) (fun a c q1 q2 q3 q4 q5 => by rw [hF4 a c q1]; exact hFm1 a c q1 q2 q3 q4 q5) (by rw [hsec]; exact hb.of (fun a c q => by rw [hF4 _ _ (by omega), hF1 a c (by omega)])) (fun d' hd' i hi => by rw [hF4 _ _ (by omega), hF1 _ _ (by omega)]; exact h80 d' (by omega) i hi) (fun i hi => by rw [hF4 _ _ (by omega), hF1 _ _ (by omega)]; exact h81 i hi) (by
          rw [if_neg (by omega), show e + 1 - 1 = e by omega]
          intro i hi
          rw [h4 i hi, hF1 _ _ (by omega)]
          exact h80 e (by omega) i hi)
        rw [pk_m1] at K'
        exact K'
theorem m_deep {N : Nat} (hN : 1000 ≤ N) {t s0 : Nat → Nat} (ht : WT t) {x1 : Int32} (hx1 : x1 = nI (s0 4) - nI (s0 3)) {Q : Int32 × Mem → Prop} : ∀ k, MD N t s0 x1 Q k
  | 0 => md_step hN ht hx1 (fun k' h => by omega)
  | k + 1 => md_step hN ht hx1 (fun k' h => by
      have : k' = k := by omega
      subst this
      exact m_deep hN ht hx1 k')
theorem m_seeks {N n : Nat} (hN : 1000000 ≤ N) (hn : n < 1000) {M : Mem} {t s : Nat → Nat} (ht : WT t) (hs : WS t s 999 n) (hT : MT t M) (hS : MS s M) :
    Ok (f_X7_seeks N M) (fun M' => bM ((rwM t s 6 s []).foldl up (0, [])) M' ∧ MS s M' ∧ Fm M M') := by
  unfold f_X7_seeks
  have g4 : up2 (up2 M 70 19 0) 70 20 0 74 4 = nI (s 4) := by rw [up2_k (by decide), up2_k (by decide)]; exact hS 4 (by omega)
  have g3 : up2 (up2 M 70 19 0) 70 20 0 74 3 = nI (s 3) := by rw [up2_k (by decide), up2_k (by decide)]; exact hS 3 (by omega)
  rw [g4, g3]
  obtain ⟨M1, hM1⟩ : ∃ q, q = up2 (up2 M 70 19 0) 70 20 0 := ⟨_, rfl⟩
  rw [← hM1]
  have hF1 : ∀ a c, ¬ (a = 70 ∧ (c = 19 ∨ c = 20)) → M1 a c = M a c := fun a c q => by rw [hM1]; unfold up2; rw [if_neg (by omega), if_neg (by omega)]
  refine Ok.bind (m_goesOn (d := 0) (by omega) (by omega)) ?_
  rintro M2 ⟨h2, h2', hF2⟩
  obtain ⟨M3, hM3⟩ : ∃ q, q = up2 M2 81 0 0 := ⟨_, rfl⟩
  rw [← hM3]
  have hF3 : ∀ a c, ¬ (a = 81 ∧ c = 0) → M3 a c = M2 a c := fun a c q => by rw [hM3]; unfold up2; rw [if_neg q]
  have hcc : CC 5 = 9330 := rfl
  refine Ok.bind (P := fun q => bM ((rwM t s 6 s []).foldl up (0, [])) q.2 ∧ MS s q.2 ∧ Fm M q.2) ?_ (fun a h => Ok.ret h)
  refine m_deep (by omega) ht rfl 5 6 0 0 s (fun _ => s) [] (0, []) M3 999 n N (by omega) (by omega) (by omega) rfl hs (by omega) (by omega) (hT.of (fun c => by rw [hF3 _ _ (by omega), hF2 _ _ (by omega), hF1 _ _ (by omega)])) (hS.of (fun c => by rw [hF3 _ _ (by omega), hF2 _ _ (by omega), hF1 _ _ (by omega)])) rfl ?_ (fun i hi => by omega) (by rw [hM3, up2_same]; rfl) ?_ (by omega) ?_
  · intro d' hd' i hi
    have : d' = 0 := by omega
    subst this
    rw [hF3 _ _ (by omega), h2 i hi, hF1 _ _ (by omega)]
    exact hS i hi
  · refine ⟨?_, ?_, by simp [secs], fun i hi => ?_⟩
    · rw [hF3 _ _ (by omega), hF2 _ _ (by omega), hM1, up2_same]; rfl
    · rw [hF3 _ _ (by omega), hF2 _ _ (by omega), hM1, up2_j (by decide), up2_same]; rfl
    · exact absurd hi (Nat.not_lt_zero i)
  · intro f' M' q1 q2 q3 q4 q5 q6
    obtain ⟨g, rfl⟩ : ∃ g, f' = g + 1 := ⟨f' - 1, by omega⟩
    rw [f_X7_seeks_L38, if_pos (by decide)]
    refine Ok.ret ⟨q3, q6, fun a c w1 w2 w3 w4 w5 => ?_⟩
    show M' a c = M a c
    rw [q2 a c w1 w2 w3 w4 w5, hF3 _ _ (by omega), hF2 _ _ w2, hF1 a c w5]
