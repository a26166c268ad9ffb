/-! The whole text, on the class's side. -/
theorem le_le {w : Nat → Nat} {l p : Nat} (h : p ≤ l) : le w l (sk w l p) ≤ l := adv_le' (adv_le' h)
theorem pc_ok {w : Nat → Nat} {l p : Nat} {t t' : Nat → Nat} (ht : WT t) (hp : p ≤ l) (h : (pc w l t p).2 = some t') : WT t' ∧ (pc w l t p).1 ≤ l := by
  unfold pc at h ⊢
  cases hf : fstU (isW w (sk w l p) (le w l (sk w l p))) 13 with
  | none => rw [hf] at h; cases h
  | some c =>
    rw [hf] at h
    dsimp only at h ⊢
    have hc := (fstU_is hf).1
    obtain ⟨-, -, t3, t4⟩ := tab_d c hc
    cases hr : room t (dD c) with
    | false => rw [hr, if_pos rfl] at h; cases h
    | true =>
      rw [hr, if_neg (by decide)] at h
      rw [if_neg (by decide)]
      cases hg : fstU (nbad w l (le w l (sk w l p)) (dD c)) (hM (dD c)) with
      | some i => rw [hg] at h; cases h
      | none =>
        rw [hg] at h
        dsimp only at h ⊢
        refine ⟨?_, nps_le (le_le hp) _⟩
        have h2 := Option.some.inj h
        rw [← h2]
        refine wt_carry ht hr t3 t4 (fun i hi => ?_)
        have := fstU_none hg i hi
        unfold nbad nOk at this
        simp only [Bool.not_eq_false', Bool.and_eq_true, decide_eq_true_iff] at this
        exact this.2.2
theorem c_room {N : Nat} {M : Mem} {t : Nat → Nat} {d : Nat} (ht : WT t) (hT : TC t M 10) (hd : d ≤ 6) : f_X5_hasRoomFor N M 10 (nI d) = some (if room t d = true then 1 else 0) := by
  have h0 := ht.1
  have h1 := ht.2.1
  unfold f_X5_hasRoomFor room
  by_cases q1 : d = 1
  · subst q1
    rw [if_pos (show nI 1 = (1 : Int32) from rfl), if_pos rfl, hT.1]
    by_cases q : t 0 < 8
    · rw [if_neg (by show ¬ nI 8 ≤ nI (t 0); rw [n_le (by omega) (by omega)]; omega)]; simp [q]
    · rw [if_pos (by show nI 8 ≤ nI (t 0); rw [n_le (by omega) (by omega)]; omega)]; simp [q]
  · rw [if_neg (by show ¬ nI d = nI 1; rw [n_eq (by omega) (by omega)]; exact q1), if_neg q1]
    by_cases q2 : d = 2
    · subst q2
      rw [if_pos (show nI 2 = (2 : Int32) from rfl), if_pos rfl, hT.2.1]
      by_cases q : t 1 < 4
      · rw [if_neg (by show ¬ nI 4 ≤ nI (t 1); rw [n_le (by omega) (by omega)]; omega)]; simp [q]
      · rw [if_pos (by show nI 4 ≤ nI (t 1); rw [n_le (by omega) (by omega)]; omega)]; simp [q]
    · rw [if_neg (by show ¬ nI d = nI 2; rw [n_eq (by omega) (by omega)]; exact q2), if_neg q2]; rfl
def frC (M M' : Mem) : Prop := ∀ a b, ¬ (a = 9 ∧ (b = 2 ∨ b = 6)) → (a < 10 ∨ 17 < a) → a ≠ 19 → M' a b = M a b
theorem c_readClause {N : Nat} (hN : 1000 ≤ N) {M : Mem} {w t : Nat → Nat} {l p : Nat} (ht : WT t) (hX : tC w l M) (h6 : M 9 6 = nI p) (hp : p ≤ l) (hT : TC t M 10) :
    Ok (f_X4_readClause N M) (fun q => ((pc w l t p).2 = none → q.1 = 0 ∧ q.2 9 6 = nI (pc w l t p).1) ∧ (∀ t', (pc w l t p).2 = some t' → q.1 = 1 ∧ q.2 9 6 = nI (pc w l t p).1 ∧ TC t' q.2 10) ∧ ∀ a b, ¬ (a = 9 ∧ b = 6) → (a < 10 ∨ 17 < a) → a ≠ 19 → q.2 a b = M a b) := by
  have hl := hX.2.1
  unfold f_X4_readClause
  refine Ok.bind (c_skip hN hX h6 hp) ?_
  rintro M1 ⟨g6, hF1⟩
  have hX1 : tC w l M1 := hX.of (hF1 _ _ (by omega)) (fun b => hF1 _ _ (by omega))
  have hT1 : TC t M1 10 := hT.of (fun a b q1 q2 => hF1 a b (by omega))
  have hsl := sk_le (w := w) hp
  have hel := le_le (w := w) hp
  have hge : sk w l p ≤ le w l (sk w l p) := adv_ge'
  have hrow : f_X4_endOfRow N M1 97 122 = some (nI (le w l (sk w l p))) := c_endOfRow (lo := 97) (hi := 122) hN hX1 g6 hsl (by omega) (by omega)
  rw [hrow]
  simp only [Option.bind_some]
  rw [c_clause hN hX1 g6 hge hel]
  simp only [Option.bind_some]
  unfold pc
  cases hf : fstU (isW w (sk w l p) (le w l (sk w l p))) 13 with
  | none => exact Ok.ret ⟨fun _ => ⟨rfl, g6⟩, fun t' q => (by cases q), fun a b q1 q2 q3 => hF1 a b q1⟩
  | some c =>
    have hc := (fstU_is hf).1
    obtain ⟨t1, t2, t3, t4⟩ := tab_d c hc
    dsimp only
    unfold mq
    dsimp only
    rw [if_pos hc, t1, t2, c_room ht hT1 t3]
    simp only [Option.bind_some]
    cases hr : room t (dD c) with
    | false => exact Ok.ret ⟨fun _ => ⟨rfl, g6⟩, fun t' q => (by cases q), fun a b q1 q2 q3 => hF1 a b q1⟩
    | true =>
      rw [if_neg (show ¬ (if true = true then (1 : Int32) else 0) = 0 by decide), if_neg (by decide)]
      obtain ⟨M2, hM2⟩ : ∃ q, q = up2 M1 9 6 (nI (le w l (sk w l p))) := ⟨_, rfl⟩
      rw [← hM2]
      have hF2 : ∀ a b, ¬ (a = 9 ∧ b = 6) → M2 a b = M1 a b := fun a b q => by rw [hM2]; unfold up2; rw [if_neg q]
      have hX2 : tC w l M2 := hX1.of (hF2 _ _ (by omega)) (fun b => hF2 _ _ (by omega))
      obtain ⟨r, hr2, k1, k2⟩ := c_numbers (N := N) hN hX2 (by rw [hM2, up2_same]) hel hc
      rw [hr2]
      cases hg : fstU (nbad w l (le w l (sk w l p)) (dD c)) (hM (dD c)) with
      | some i =>
        obtain ⟨M3, e1, e2, e3⟩ := k1 i hg
        rw [e1]
        exact Ok.ret ⟨fun _ => ⟨rfl, e2⟩, fun t' q => (by cases q), fun a b q1 q2 q3 => by show M3 a b = M a b; rw [e3 a b q1 q3, hF2 a b q1, hF1 a b q1]⟩
      | none =>
        obtain ⟨y, M3, e1, e2, e3, e4⟩ := k2 hg
        rw [e1]
        have hT3 : TC t M3 10 := hT1.of (fun a b q1 q2 => by rw [e4 a b (by omega) (by omega), hF2 a b (by omega)])
        show Ok ((f_X5_carryOut N M3 10 (nI (dD c)) (nI (dK c)) 19).bind fun q112 => some (1, q112)) _
        refine Ok.bind (c_carry (k := dK c) (v := fun i => nV w l (nps w l (le w l (sk w l p)) i)) ht hT3 hr t3 e3) ?_
        rintro M4 ⟨f1, f2⟩
        refine Ok.ret ⟨fun q => (by cases q), fun t' q => ?_, fun a b q1 q2 q3 => by show M4 a b = M a b; rw [f2 a b q2, e4 a b q1 q3, hF2 a b q1, hF1 a b q1]⟩
        have h2 := Option.some.inj q
        rw [← h2]
        exact ⟨rfl, by show M4 9 6 = _; rw [f2 _ _ (by omega)]; exact e2, f1⟩
theorem pt_none {w : Nat → Nat} {l f n p q : Nat} {t : Nat → Nat} (h : pc w l t p = (q, none)) : pt w l (f + 1) n t p = (q, none) := by rw [pt_s, h]; rfl
theorem pt_end {w : Nat → Nat} {l f n p q : Nat} {t t' : Nat → Nat} (h : pc w l t p = (q, some t')) (h2 : l ≤ sk w l q) : pt w l (f + 1) n t p = (sk w l q, some (n + 1, t')) := by rw [pt_s, h]; exact if_pos h2
theorem pt_go {w : Nat → Nat} {l f n p q : Nat} {t t' : Nat → Nat} (h : pc w l t p = (q, some t')) (h2 : ¬ l ≤ sk w l q) (h3 : w (sk w l q) = 59 ∧ n + 1 ≠ 14) : pt w l (f + 1) n t p = pt w l f (n + 1) t' (sk w l q + 1) := by rw [pt_s, h]; exact (if_neg h2).trans (if_pos h3)
theorem pt_bad {w : Nat → Nat} {l f n p q : Nat} {t t' : Nat → Nat} (h : pc w l t p = (q, some t')) (h2 : ¬ l ≤ sk w l q) (h3 : ¬ (w (sk w l q) = 59 ∧ n + 1 ≠ 14)) : pt w l (f + 1) n t p = (sk w l q, none) := by rw [pt_s, h]; exact (if_neg h2).trans (if_neg h3)
theorem pc_le {w : Nat → Nat} {l p : Nat} {t : Nat → Nat} (hp : p ≤ l) : (pc w l t p).1 ≤ l := by
  unfold pc
  cases hf : fstU (isW w (sk w l p) (le w l (sk w l p))) 13 with
  | none => exact sk_le hp
  | some c =>
    dsimp only
    split
    · exact sk_le hp
    · cases hg2 : fstU (nbad w l (le w l (sk w l p)) (dD c)) (hM (dD c)) with
      | some i => exact sk_le (nps_le (le_le hp) i)
      | none => exact nps_le (le_le hp) _
def readsTo (l : Nat) (r : Nat × Option (Nat × (Nat → Nat))) (M : Mem) (q : Int32 × Mem) : Prop := (r.2 = none → q.1 = nI r.1 ∧ r.1 ≤ l) ∧ (∀ n' t', r.2 = some (n', t') → q.1 = -1 ∧ q.2 9 2 = nI n' ∧ TC t' q.2 10 ∧ WT t' ∧ n' ≤ 14) ∧ frC M q.2
theorem c_reads {N : Nat} (hN : 1000 ≤ N) {w : Nat → Nat} {l : Nat} : ∀ (f g n p : Nat) (t : Nat → Nat) (M : Mem), f + n = 14 → f < g → WT t → tC w l M → M 9 6 = nI p → p ≤ l → M 9 2 = nI n → TC t M 10 →
    Ok (bS (f_X4_findFault_L18 N g M) (fun o18 => some (o18 9 6, o18))) (readsTo l (pt w l f n t p) M) := by
  intro f
  induction f with
  | zero =>
    intro g n p t M hn hg ht hX h6 hp h2 hT
    obtain ⟨g, rfl⟩ : ∃ k, g = k + 1 := ⟨g - 1, by omega⟩
    have h14 : n = 14 := by omega
    rw [f_X4_findFault_L18, h2, if_pos (by show nI 14 ≤ nI n; rw [h14, n_le (by omega) (by omega)]; omega)]
    exact Ok.ret ⟨fun _ => ⟨h6, hp⟩, fun n' t' q => (by cases q), fun _ _ _ _ _ => rfl⟩
  | succ f ih =>
    intro g n p t M hn hg ht hX h6 hp h2 hT
    obtain ⟨g, rfl⟩ : ∃ k, g = k + 1 := ⟨g - 1, by omega⟩
    have hl := hX.2.1
    rw [f_X4_findFault_L18, h2, if_neg (by show ¬ nI 14 ≤ nI n; rw [n_le (by omega) (by omega)]; omega)]
    obtain ⟨⟨r, M1⟩, hr, k1, k2, k3⟩ := c_readClause (N := N) hN ht hX h6 hp hT
    have hle := pc_le (w := w) (t := t) hp
    have hok := fun t' => pc_ok (w := w) (t' := t') ht hp
    dsimp only at k1 k2 k3
    rw [hr]
    clear hr
    obtain ⟨⟨z, o⟩, hpc⟩ : ∃ P, pc w l t p = P := ⟨_, rfl⟩
    rw [hpc] at k1 k2 hle hok
    dsimp only at k1 k2 hle hok
    simp only [Option.bind_some]
    cases o with
    | none =>
      obtain ⟨a1, a2⟩ := k1 rfl
      rw [if_pos a1, pt_none hpc]
      exact Ok.ret ⟨fun _ => ⟨a2, hle⟩, fun n' t' q => (by cases q), fun a b q1 q2 q3 => k3 a b (by omega) q2 q3⟩
    | some t' =>
      obtain ⟨a1, a2, a3⟩ := k2 t' rfl
      obtain ⟨w1, w2⟩ := hok t' rfl
      rw [a1, if_neg (by decide)]
      have g2 : M1 9 2 = nI n := by rw [k3 _ _ (by omega) (by omega) (by omega)]; exact h2
      rw [g2, nI_1]
      obtain ⟨M2, hM2⟩ : ∃ q, q = up2 M1 9 2 (nI (n + 1)) := ⟨_, rfl⟩
      rw [← hM2]
      have hF2 : ∀ a b, ¬ (a = 9 ∧ b = 2) → M2 a b = M1 a b := fun a b q => by rw [hM2]; unfold up2; rw [if_neg q]
      have hX2 : tC w l M2 := hX.of (by rw [hF2 _ _ (by omega), k3 _ _ (by omega) (by omega) (by omega)]) (fun b => by rw [hF2 _ _ (by omega), k3 _ _ (by omega) (by omega) (by omega)])
      obtain ⟨M3, hM3, g6, hF3⟩ := c_skip (N := N) hN hX2 (show M2 9 6 = nI z by rw [hF2 _ _ (by omega)]; exact a2) w2
      rw [hM3]
      simp only [Option.bind_some]
      have hX3 : tC w l M3 := hX2.of (hF3 _ _ (by omega)) (fun b => hF3 _ _ (by omega))
      have hsl := sk_le (w := w) w2
      have g22 : M3 9 2 = nI (n + 1) := by rw [hF3 _ _ (by omega), hM2, up2_same]
      have hT3 : TC t' M3 10 := a3.of (fun a b q1 q2 => by rw [hF3 a b (by omega), hF2 a b (by omega)])
      have hfr3 : frC M M3 := fun a b q1 q2 q3 => by rw [hF3 a b (by omega), hF2 a b (by omega), k3 a b (by omega) q2 q3]
      rw [g6, hX3.1, g22]
      by_cases c1 : l ≤ sk w l z
      · rw [pt_end hpc c1, if_neg (by rw [n_lt (by omega) (by omega)]; omega)]
        refine Ok.ret ⟨fun q => (by cases q), fun n' t'' q => ?_, hfr3⟩
        have h3 : (n + 1, t') = (n', t'') := Option.some.inj q
        injection h3 with e1 e2
        subst e1
        subst e2
        exact ⟨rfl, g22, hT3, w1, by omega⟩
      · have hin : inb (nI (sk w l z)) 160 = true := by rw [inb_nI (by omega)]; simp; omega
        have hwl := hX3.2.2.2 (sk w l z) (by omega)
        rw [if_pos (by rw [n_lt (by omega) (by omega)]; omega), if_pos hin, n_cl (by omega), hX3.2.2.1 _ (by omega), nI_1]
        by_cases c2 : w (sk w l z) = 59
        · rw [if_pos (by show nI _ = nI 59; rw [c2])]
          by_cases c3 : n + 1 = 14
          · rw [if_pos (by show nI (n + 1) = nI 14; rw [c3]), pt_bad hpc c1 (fun q => q.2 c3)]
            exact Ok.ret ⟨fun _ => ⟨rfl, hsl⟩, fun n' t' q => (by cases q), hfr3⟩
          · rw [if_neg (by show ¬ nI (n + 1) = nI 14; rw [n_eq (by omega) (by omega)]; exact c3), pt_go hpc c1 ⟨c2, c3⟩]
            obtain ⟨M4, hM4⟩ : ∃ q, q = up2 M3 9 6 (nI (sk w l z + 1)) := ⟨_, rfl⟩
            rw [← hM4]
            have hF4 : ∀ a b, ¬ (a = 9 ∧ b = 6) → M4 a b = M3 a b := fun a b q => by rw [hM4]; unfold up2; rw [if_neg q]
            refine (ih g (n + 1) (sk w l z + 1) t' M4 (by omega) (by omega) w1 (hX3.of (hF4 _ _ (by omega)) (fun b => hF4 _ _ (by omega))) (by rw [hM4, up2_same]) (by omega) (by rw [hF4 _ _ (by omega)]; exact g22) (hT3.of (fun a b q1 q2 => hF4 a b (by omega)))).mono ?_
            rintro q ⟨b1, b2, b3⟩
            exact ⟨b1, b2, fun a b q1 q2 q3 => by rw [b3 a b q1 q2 q3, hF4 a b (by omega), hfr3 a b q1 q2 q3]⟩
        · rw [if_neg (by show ¬ nI _ = nI 59; rw [n_eq (by omega) (by omega)]; exact c2), pt_bad hpc c1 (fun q => c2 q.1)]
          exact Ok.ret ⟨fun _ => ⟨rfl, hsl⟩, fun n' t' q => (by cases q), hfr3⟩
theorem c_findFault {N : Nat} (hN : 1000 ≤ N) {M : Mem} {w t : Nat → Nat} {l : Nat} (ht : WT t) (hX : tC w l M) (hT : TC t M 1) :
    Ok (f_X4_findFault N M 1) (readsTo l (pt w l 14 0 t 0) M) := by
  unfold f_X4_findFault
  refine Ok.bind (d_copy ht hT (Or.inl (by omega))) ?_
  rintro M1 ⟨h1, h2⟩
  obtain ⟨M2, hM2⟩ : ∃ q, q = up2 (up2 M1 9 6 0) 9 2 0 := ⟨_, rfl⟩
  rw [← hM2]
  have hF2 : ∀ a b, ¬ (a = 9 ∧ (b = 2 ∨ b = 6)) → M2 a b = M1 a b := fun a b q => by rw [hM2]; unfold up2; rw [if_neg (by omega), if_neg (by omega)]
  refine (c_reads hN 14 N 0 0 t M2 (by omega) (by omega) ht (hX.of (by rw [hF2 _ _ (by omega), h2 _ _ (by omega)]) (fun b => by rw [hF2 _ _ (by omega), h2 _ _ (by omega)])) (by rw [hM2, up2_j (by decide), up2_same]; rfl) (by omega) (by rw [hM2, up2_same]; rfl) (h1.of (fun a b q1 q2 => hF2 a b (by omega)))).mono ?_
  rintro q ⟨b1, b2, b3⟩
  exact ⟨b1, b2, fun a b q1 q2 q3 => by rw [b3 a b q1 q2 q3, hF2 a b q1, h2 a b (by omega)]⟩
