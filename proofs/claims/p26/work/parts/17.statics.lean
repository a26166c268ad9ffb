/-! What stands before the law begins: constants, their texts, tables. -/
def fz : List Cond := flatC (Jvm.Cond.and given_1 narrow_1)
section ST
variable {args : Array Value} {s : State}
theorem fz_at (h : (Jvm.Cond.and given_1 narrow_1).before args s = true) {c : Cond} (n : Nat) (hn : fz[n]? = some c) : c.before args s = true := flat_of_before _ h c (List.mem_of_getElem? hn)
theorem fz_run (h : (Jvm.Cond.and given_1 narrow_1).before args s = true) {N p : Nat} {f : Nat → Cond} (hr : (List.range N).map f = (fz.drop p).take N) (j : Nat) (hj : j < N) : (f j).before args s = true := flat_of_before _ h _ (va_run hr j hj)
theorem st1_of {A : Nat → Prop} {tc ts : Term} {dd kk : Int32} {n : Nat} {bs : Nat → Int32} (hA : ∀ a : Nat, a < s.heap.size → ¬ A a) (hn : n < 2 ^ 31) (e1 : (Cond.exactly tc RX0).before args s = true) (e2 : (Cond.eq (.field tc RX0 "word" "Ljava/lang/String;") ts).before args s = true) (e3 : (Cond.eq (.field tc RX0 "deed" "I") (.int dd)).before args s = true) (e4 : (Cond.eq (.field tc RX0 "kind" "I") (.int kk)).before args s = true) (e5 : (Cond.exactly ts "java/lang/String").before args s = true) (e6 : (Cond.eq (.field ts "java/lang/String" "coder" "B") (.int 0)).before args s = true) (e7 : (Cond.arrayOf (.field ts "java/lang/String" "value" "[B") .byte).before args s = true) (e8 : (Cond.eq (.length (.field ts "java/lang/String" "value" "[B")) (.int (Int32.ofNat n))).before args s = true) (e9 : ∀ j, j < n → (Cond.eq (.elem (.field ts "java/lang/String" "value" "[B") (.int (Int32.ofNat j))) (.int (bs j))).before args s = true) : ∃ q : Nat × Nat × Nat, tc.eval args s none [] s = some (.ref q.1) ∧ va_O RX0 q.1 A s s.heap ∧ va_OF RX0 "word" "Ljava/lang/String;" (.ref q.2.1) q.1 A s s.heap ∧ va_OF RX0 "deed" "I" (.int dd) q.1 A s s.heap ∧ va_OF RX0 "kind" "I" (.int kk) q.1 A s s.heap ∧ va_O "java/lang/String" q.2.1 A s s.heap ∧ va_OF "java/lang/String" "coder" "B" (.int 0) q.2.1 A s s.heap ∧ va_OF "java/lang/String" "value" "[B" (.ref q.2.2) q.2.1 A s s.heap ∧ va_T .byte q.2.2 n (fun j => .int (bs j)) A s s.heap := by
  obtain ⟨a, c, cell, k, q1, q2, q3, q4, q5, q6, -⟩ := Cond.exactly_spec e1
  obtain ⟨a', c', cell', k', r1, r2, r3, r4, r5, r6, -⟩ := Cond.exactly_spec e5
  obtain ⟨t, ht, hT⟩ := va_Tof (f := fun j => .int (bs j)) (A := A) hn e7 (va_eqt e8) (fun j hj => va_eqt (e9 j hj)) hA
  exact ⟨(a, a', t), q1, ⟨cell, q3, q5, by rw [q6]; exact q2, hA a (Array.getElem?_eq_some_iff.mp q3).1⟩, vk_OFof q1 (va_eqv e2 r1) hA, vk_OFof q1 (va_eqt e3) hA, vk_OFof q1 (va_eqt e4) hA, ⟨cell', r3, r5, by rw [r6]; exact r2, hA a' (Array.getElem?_eq_some_iff.mp r3).1⟩, vk_OFof r1 (va_eqt e6) hA, vk_OFof r1 ht hA, hT⟩
theorem st2_of {A : Nat → Prop} {nm : String} {n : Nat} {bs : Nat → Int32} (hA : ∀ a : Nat, a < s.heap.size → ¬ A a) (hn : n < 2 ^ 31) (hl : (Cond.laysStatic RX6 nm "[I").before args s = true) (hi : (Cond.initialized RX6).before args s = true) (e7 : (Cond.arrayOf (.static RX6 nm "[I") .int).before args s = true) (e8 : (Cond.eq (.length (.static RX6 nm "[I")) (.int (Int32.ofNat n))).before args s = true) (e9 : ∀ j, j < n → (Cond.eq (.elem (.static RX6 nm "[I") (.int (Int32.ofNat j))) (.int (bs j))).before args s = true) : ∃ t : Nat, va_Z RX6 nm "[I" (.ref t) A s s.heap ∧ va_T .int t n (fun j => .int (bs j)) A s s.heap := by
  obtain ⟨t, ht, hT⟩ := va_Tof (f := fun j => .int (bs j)) (A := A) hn e7 (va_eqt e8) (fun j hj => va_eqt (e9 j hj)) hA
  exact ⟨t, va_Zof hl hi ht hA, hT⟩
end ST

def cNm : List String := ["HALL", "GUEST_COMES", "FAN_COMES", "SLEEPER_COMES", "SHOUTER_COMES", "PLAIN_ONE", "QUIET_ONE", "BRILLIANT_ONE", "KNOWN_ONE", "ARM", "CLOSE", "HIRE", "EMPTY"]
def tcl (i : Nat) : Term := .static RX0 (cNm.getD i "") "LWhichEncore$Clause;"
def cEn : List Nat := [76, 82, 85, 88, 91, 94, 97, 100, 103, 106, 109, 112, 115]
def tst (i : Nat) : Term := .string RX0 (cEn.getD i 0)
set_option maxRecDepth 100000 in
set_option maxHeartbeats 4000000 in
theorem st1_all {args : Array Value} {s : State} {A : Nat → Prop} (hg : (Jvm.Cond.and given_1 narrow_1).before args s = true) (hA : ∀ a : Nat, a < s.heap.size → ¬ A a) (i : Nat) (hi : i < 13) : ∃ q : Nat × Nat × Nat, (tcl i).eval args s none [] s = some (.ref q.1) ∧ va_O RX0 q.1 A s s.heap ∧ va_OF RX0 "word" "Ljava/lang/String;" (.ref q.2.1) q.1 A s s.heap ∧ va_OF RX0 "deed" "I" (.int (cDeeds.getD i 0)) q.1 A s s.heap ∧ va_OF RX0 "kind" "I" (.int (cKinds.getD i 0)) q.1 A s s.heap ∧ va_O "java/lang/String" q.2.1 A s s.heap ∧ va_OF "java/lang/String" "coder" "B" (.int 0) q.2.1 A s s.heap ∧ va_OF "java/lang/String" "value" "[B" (.ref q.2.2) q.2.1 A s s.heap ∧ va_T .byte q.2.2 (cN i) (fun j => .int (cB i j)) A s s.heap := by
  match i, hi with
  | 0, _ => exact st1_of (tc := tcl 0) (ts := tst 0) (n := 4) (bs := cB 0) hA (by decide) (fz_at hg 101 (by decide +kernel)) (fz_at hg 103 (by decide +kernel)) (fz_at hg 104 (by decide +kernel)) (fz_at hg 105 (by decide +kernel)) (fz_at hg 258 (by decide +kernel)) (fz_at hg 259 (by decide +kernel)) (fz_at hg 260 (by decide +kernel)) (fz_at hg 261 (by decide +kernel)) (fun j hj => fz_run hg (N := 4) (p := 262) (f := fun j => Cond.eq (.elem (.field (tst 0) "java/lang/String" "value" "[B") (.int (Int32.ofNat j))) (.int (cB 0 j))) (by decide +kernel) j hj)
  | 1, _ => exact st1_of (tc := tcl 1) (ts := tst 1) (n := 5) (bs := cB 1) hA (by decide) (fz_at hg 106 (by decide +kernel)) (fz_at hg 108 (by decide +kernel)) (fz_at hg 109 (by decide +kernel)) (fz_at hg 110 (by decide +kernel)) (fz_at hg 266 (by decide +kernel)) (fz_at hg 267 (by decide +kernel)) (fz_at hg 268 (by decide +kernel)) (fz_at hg 269 (by decide +kernel)) (fun j hj => fz_run hg (N := 5) (p := 270) (f := fun j => Cond.eq (.elem (.field (tst 1) "java/lang/String" "value" "[B") (.int (Int32.ofNat j))) (.int (cB 1 j))) (by decide +kernel) j hj)
  | 2, _ => exact st1_of (tc := tcl 2) (ts := tst 2) (n := 3) (bs := cB 2) hA (by decide) (fz_at hg 112 (by decide +kernel)) (fz_at hg 114 (by decide +kernel)) (fz_at hg 115 (by decide +kernel)) (fz_at hg 116 (by decide +kernel)) (fz_at hg 276 (by decide +kernel)) (fz_at hg 277 (by decide +kernel)) (fz_at hg 278 (by decide +kernel)) (fz_at hg 279 (by decide +kernel)) (fun j hj => fz_run hg (N := 3) (p := 280) (f := fun j => Cond.eq (.elem (.field (tst 2) "java/lang/String" "value" "[B") (.int (Int32.ofNat j))) (.int (cB 2 j))) (by decide +kernel) j hj)
  | 3, _ => exact st1_of (tc := tcl 3) (ts := tst 3) (n := 7) (bs := cB 3) hA (by decide) (fz_at hg 119 (by decide +kernel)) (fz_at hg 121 (by decide +kernel)) (fz_at hg 122 (by decide +kernel)) (fz_at hg 123 (by decide +kernel)) (fz_at hg 285 (by decide +kernel)) (fz_at hg 286 (by decide +kernel)) (fz_at hg 287 (by decide +kernel)) (fz_at hg 288 (by decide +kernel)) (fun j hj => fz_run hg (N := 7) (p := 289) (f := fun j => Cond.eq (.elem (.field (tst 3) "java/lang/String" "value" "[B") (.int (Int32.ofNat j))) (.int (cB 3 j))) (by decide +kernel) j hj)
  | 4, _ => exact st1_of (tc := tcl 4) (ts := tst 4) (n := 7) (bs := cB 4) hA (by decide) (fz_at hg 127 (by decide +kernel)) (fz_at hg 129 (by decide +kernel)) (fz_at hg 130 (by decide +kernel)) (fz_at hg 131 (by decide +kernel)) (fz_at hg 299 (by decide +kernel)) (fz_at hg 300 (by decide +kernel)) (fz_at hg 301 (by decide +kernel)) (fz_at hg 302 (by decide +kernel)) (fun j hj => fz_run hg (N := 7) (p := 303) (f := fun j => Cond.eq (.elem (.field (tst 4) "java/lang/String" "value" "[B") (.int (Int32.ofNat j))) (.int (cB 4 j))) (by decide +kernel) j hj)
  | 5, _ => exact st1_of (tc := tcl 5) (ts := tst 5) (n := 5) (bs := cB 5) hA (by decide) (fz_at hg 136 (by decide +kernel)) (fz_at hg 138 (by decide +kernel)) (fz_at hg 139 (by decide +kernel)) (fz_at hg 140 (by decide +kernel)) (fz_at hg 314 (by decide +kernel)) (fz_at hg 315 (by decide +kernel)) (fz_at hg 316 (by decide +kernel)) (fz_at hg 317 (by decide +kernel)) (fun j hj => fz_run hg (N := 5) (p := 318) (f := fun j => Cond.eq (.elem (.field (tst 5) "java/lang/String" "value" "[B") (.int (Int32.ofNat j))) (.int (cB 5 j))) (by decide +kernel) j hj)
  | 6, _ => exact st1_of (tc := tcl 6) (ts := tst 6) (n := 5) (bs := cB 6) hA (by decide) (fz_at hg 146 (by decide +kernel)) (fz_at hg 148 (by decide +kernel)) (fz_at hg 149 (by decide +kernel)) (fz_at hg 150 (by decide +kernel)) (fz_at hg 328 (by decide +kernel)) (fz_at hg 329 (by decide +kernel)) (fz_at hg 330 (by decide +kernel)) (fz_at hg 331 (by decide +kernel)) (fun j hj => fz_run hg (N := 5) (p := 332) (f := fun j => Cond.eq (.elem (.field (tst 6) "java/lang/String" "value" "[B") (.int (Int32.ofNat j))) (.int (cB 6 j))) (by decide +kernel) j hj)
  | 7, _ => exact st1_of (tc := tcl 7) (ts := tst 7) (n := 9) (bs := cB 7) hA (by decide) (fz_at hg 157 (by decide +kernel)) (fz_at hg 159 (by decide +kernel)) (fz_at hg 160 (by decide +kernel)) (fz_at hg 161 (by decide +kernel)) (fz_at hg 343 (by decide +kernel)) (fz_at hg 344 (by decide +kernel)) (fz_at hg 345 (by decide +kernel)) (fz_at hg 346 (by decide +kernel)) (fun j hj => fz_run hg (N := 9) (p := 347) (f := fun j => Cond.eq (.elem (.field (tst 7) "java/lang/String" "value" "[B") (.int (Int32.ofNat j))) (.int (cB 7 j))) (by decide +kernel) j hj)
  | 8, _ => exact st1_of (tc := tcl 8) (ts := tst 8) (n := 5) (bs := cB 8) hA (by decide) (fz_at hg 169 (by decide +kernel)) (fz_at hg 171 (by decide +kernel)) (fz_at hg 172 (by decide +kernel)) (fz_at hg 173 (by decide +kernel)) (fz_at hg 363 (by decide +kernel)) (fz_at hg 364 (by decide +kernel)) (fz_at hg 365 (by decide +kernel)) (fz_at hg 366 (by decide +kernel)) (fun j hj => fz_run hg (N := 5) (p := 367) (f := fun j => Cond.eq (.elem (.field (tst 8) "java/lang/String" "value" "[B") (.int (Int32.ofNat j))) (.int (cB 8 j))) (by decide +kernel) j hj)
  | 9, _ => exact st1_of (tc := tcl 9) (ts := tst 9) (n := 3) (bs := cB 9) hA (by decide) (fz_at hg 182 (by decide +kernel)) (fz_at hg 184 (by decide +kernel)) (fz_at hg 185 (by decide +kernel)) (fz_at hg 186 (by decide +kernel)) (fz_at hg 380 (by decide +kernel)) (fz_at hg 381 (by decide +kernel)) (fz_at hg 382 (by decide +kernel)) (fz_at hg 383 (by decide +kernel)) (fun j hj => fz_run hg (N := 3) (p := 384) (f := fun j => Cond.eq (.elem (.field (tst 9) "java/lang/String" "value" "[B") (.int (Int32.ofNat j))) (.int (cB 9 j))) (by decide +kernel) j hj)
  | 10, _ => exact st1_of (tc := tcl 10) (ts := tst 10) (n := 5) (bs := cB 10) hA (by decide) (fz_at hg 196 (by decide +kernel)) (fz_at hg 198 (by decide +kernel)) (fz_at hg 199 (by decide +kernel)) (fz_at hg 200 (by decide +kernel)) (fz_at hg 396 (by decide +kernel)) (fz_at hg 397 (by decide +kernel)) (fz_at hg 398 (by decide +kernel)) (fz_at hg 399 (by decide +kernel)) (fun j hj => fz_run hg (N := 5) (p := 400) (f := fun j => Cond.eq (.elem (.field (tst 10) "java/lang/String" "value" "[B") (.int (Int32.ofNat j))) (.int (cB 10 j))) (by decide +kernel) j hj)
  | 11, _ => exact st1_of (tc := tcl 11) (ts := tst 11) (n := 4) (bs := cB 11) hA (by decide) (fz_at hg 211 (by decide +kernel)) (fz_at hg 213 (by decide +kernel)) (fz_at hg 214 (by decide +kernel)) (fz_at hg 215 (by decide +kernel)) (fz_at hg 415 (by decide +kernel)) (fz_at hg 416 (by decide +kernel)) (fz_at hg 417 (by decide +kernel)) (fz_at hg 418 (by decide +kernel)) (fun j hj => fz_run hg (N := 4) (p := 419) (f := fun j => Cond.eq (.elem (.field (tst 11) "java/lang/String" "value" "[B") (.int (Int32.ofNat j))) (.int (cB 11 j))) (by decide +kernel) j hj)
  | 12, _ => exact st1_of (tc := tcl 12) (ts := tst 12) (n := 5) (bs := cB 12) hA (by decide) (fz_at hg 227 (by decide +kernel)) (fz_at hg 229 (by decide +kernel)) (fz_at hg 230 (by decide +kernel)) (fz_at hg 231 (by decide +kernel)) (fz_at hg 434 (by decide +kernel)) (fz_at hg 435 (by decide +kernel)) (fz_at hg 436 (by decide +kernel)) (fz_at hg 437 (by decide +kernel)) (fun j hj => fz_run hg (N := 5) (p := 438) (f := fun j => Cond.eq (.elem (.field (tst 12) "java/lang/String" "value" "[B") (.int (Int32.ofNat j))) (.int (cB 12 j))) (by decide +kernel) j hj)
  | i + 13, h => exact absurd h (by omega)
set_option maxRecDepth 100000 in
set_option maxHeartbeats 4000000 in
theorem st2_all {args : Array Value} {s : State} {A : Nat → Prop} (hts : ∀ w ∈ lw_tbl, w.before args s = true) (hg : (Jvm.Cond.and given_1 narrow_1).before args s = true) (hA : ∀ a : Nat, a < s.heap.size → ¬ A a) (i : Nat) (hi : i < 5) : ∃ t : Nat, va_Z RX6 (tNames.getD i "") "[I" (.ref t) A s s.heap ∧ va_T .int t (tN i) (fun j => .int (tV i j)) A s s.heap := by
  match i, hi with
  | 0, _ => exact st2_of (n := 5) (bs := tV 0) hA (by decide) (hts _ (List.mem_of_getElem? (i := 486) (by decide +kernel))) (hts _ (List.mem_of_getElem? (i := 52) (by decide +kernel))) (fz_at hg 86 (by decide +kernel)) (fz_at hg 87 (by decide +kernel)) (fun j hj => fz_run hg (N := 5) (p := 88) (f := fun j => Cond.eq (.elem (.static RX6 "OVER_CLAPPERS" "[I") (.int (Int32.ofNat j))) (.int (tV 0 j))) (by decide +kernel) j hj)
  | 1, _ => exact st2_of (n := 5) (bs := tV 1) hA (by decide) (hts _ (List.mem_of_getElem? (i := 511) (by decide +kernel))) (hts _ (List.mem_of_getElem? (i := 52) (by decide +kernel))) (fz_at hg 94 (by decide +kernel)) (fz_at hg 95 (by decide +kernel)) (fun j hj => fz_run hg (N := 5) (p := 96) (f := fun j => Cond.eq (.elem (.static RX6 "OVER_ENCORES" "[I") (.int (Int32.ofNat j))) (.int (tV 1 j))) (by decide +kernel) j hj)
  | 2, _ => exact st2_of (n := 7) (bs := tV 2) hA (by decide) (hts _ (List.mem_of_getElem? (i := 423) (by decide +kernel))) (hts _ (List.mem_of_getElem? (i := 52) (by decide +kernel))) (fz_at hg 28 (by decide +kernel)) (fz_at hg 29 (by decide +kernel)) (fun j hj => fz_run hg (N := 7) (p := 30) (f := fun j => Cond.eq (.elem (.static RX6 "HOW_MANY_NUMBERS" "[I") (.int (Int32.ofNat j))) (.int (tV 2 j))) (by decide +kernel) j hj)
  | 3, _ => exact st2_of (n := 21) (bs := tV 3) hA (by decide) (hts _ (List.mem_of_getElem? (i := 425) (by decide +kernel))) (hts _ (List.mem_of_getElem? (i := 52) (by decide +kernel))) (fz_at hg 38 (by decide +kernel)) (fz_at hg 39 (by decide +kernel)) (fun j hj => fz_run hg (N := 21) (p := 40) (f := fun j => Cond.eq (.elem (.static RX6 "LOWEST" "[I") (.int (Int32.ofNat j))) (.int (tV 3 j))) (by decide +kernel) j hj)
  | 4, _ => exact st2_of (n := 21) (bs := tV 4) hA (by decide) (hts _ (List.mem_of_getElem? (i := 427) (by decide +kernel))) (hts _ (List.mem_of_getElem? (i := 52) (by decide +kernel))) (fz_at hg 62 (by decide +kernel)) (fz_at hg 63 (by decide +kernel)) (fun j hj => fz_run hg (N := 21) (p := 64) (f := fun j => Cond.eq (.elem (.static RX6 "HIGHEST" "[I") (.int (Int32.ofNat j))) (.int (tV 4 j))) (by decide +kernel) j hj)
  | i + 5, h => exact absurd h (by omega)
set_option maxRecDepth 100000 in
set_option maxHeartbeats 4000000 in
theorem statics {args : Array Value} {s : State} (D : va_G) (hts : ∀ w ∈ lw_tbl, w.before args s = true) (hg : (Jvm.Cond.and given_1 narrow_1).before args s = true) : ∃ X0 : Cx, xD X0 = D ∧ xb X0 = s.heap.size ∧ ∀ h sz, s.heap.size ≤ h → s.heap.size ≤ sz → Zs X0 h sz s := by
  have hA : ∀ a : Nat, a < s.heap.size → ¬ (fun q => s.heap.size ≤ q) a := fun a h z => absurd z (by omega)
  obtain ⟨f, hf⟩ := Classical.axiomOfChoice (r := fun i (q : Nat × Nat × Nat) => i < 13 → _) (fun i => by
    by_cases hi : i < 13
    · obtain ⟨q, hq⟩ := st1_all (A := fun q => s.heap.size ≤ q) hg hA i hi
      exact ⟨q, fun _ => hq⟩
    · exact ⟨(0, 0, 0), fun h => absurd h hi⟩)
  obtain ⟨g, hgg⟩ := Classical.axiomOfChoice (r := fun i (q : Nat) => i < 5 → _) (fun i => by
    by_cases hi : i < 5
    · obtain ⟨q, hq⟩ := st2_all (A := fun q => s.heap.size ≤ q) hts hg hA i hi
      exact ⟨q, fun _ => hq⟩
    · exact ⟨0, fun h => absurd h hi⟩)
  obtain ⟨v, hv, cell, c1, c2, c3, c4, c5, c6, c7⟩ := va_Tof (ty := .object RX0) (N := 13) (tm := .static RX0 "$VALUES" "[LWhichEncore$Clause;") (f := fun j => .ref (f j).1) (A := fun q => s.heap.size ≤ q) (by decide) (fz_at hg 6 (by decide +kernel)) (va_eqt (fz_at hg 7 (by decide +kernel))) (fun j hj => va_eqv (fz_run hg (N := 13) (p := 9) (f := fun j => Cond.eq (.elem (.static RX0 "$VALUES" "[LWhichEncore$Clause;") (.int (Int32.ofNat j))) (tcl j)) (by decide +kernel) j hj) (hf j hj).1) hA
  obtain ⟨a2, c8, cell2, k2, d1, d2, d3, d4, d5, d6, -⟩ := Cond.exactly_spec (fz_at hg (c := Cond.exactly (.static RX0 "$VALUES" "[LWhichEncore$Clause;") "[LWhichEncore$Clause;") 5 (by decide +kernel))
  cases hv.symm.trans d1
  cases c1.symm.trans d3
  have hsz13 : cell.slots.size = 13 := by
    obtain ⟨t3, cell3, ht3, hat, hv3⟩ := Term.length_spec (va_eqt (fz_at hg (c := Cond.eq (.length (.static RX0 "$VALUES" "[LWhichEncore$Clause;")) (.int 13)) 7 (by decide +kernel)))
    cases hv.symm.trans ht3
    cases c1.symm.trans (State.arrayAt?_spec hat).1
    have hall := fz_at hg (c := Cond.all (.static RX0 "$VALUES" "[LWhichEncore$Clause;") (Cond.le (.index 0) (.int 12))) 8 (by decide +kernel)
    have hall2 : (Cond.all (.static RX0 "$VALUES" "[LWhichEncore$Clause;") (Cond.le (.index 0) (.int 12))).value args s none s [] = some true := by
      simpa [Cond.before, Cond.holds] using hall
    have hel := Cond.all_elim hv hat hall2
    rcases Nat.lt_or_ge 13 cell.slots.size with h | h
    · have h2 := hel 13 h
      exact absurd h2 (by simp [Cond.value, Term.eval]; decide)
    · omega
  have hfm : ∃ u : Nat, va_Z "jdk/internal/util/Preconditions" "SIOOBE_FORMATTER" "Ljava/util/function/BiFunction;" .null (fun q => s.heap.size ≤ q) s s.heap ∨ va_Z "jdk/internal/util/Preconditions" "SIOOBE_FORMATTER" "Ljava/util/function/BiFunction;" (.ref u) (fun q => s.heap.size ≤ q) s s.heap := by
    rcases va_Zqof (A := fun q => s.heap.size ≤ q) (hts _ (List.mem_of_getElem? (i := 395) (by decide +kernel))) (hts _ (List.mem_of_getElem? (i := 64) (by decide +kernel))) (fz_at hg (c := Cond.isRef (.static "jdk/internal/util/Preconditions" "SIOOBE_FORMATTER" "Ljava/util/function/BiFunction;")) 23 (by decide +kernel)) hA with h | ⟨u, h⟩
    · exact ⟨0, Or.inl h⟩
    · exact ⟨u, Or.inr h⟩
  obtain ⟨u, hu⟩ := hfm
  have hao : va_AO RX0 s := va_AO.of (hts _ (List.mem_of_getElem? (i := 163) (by decide +kernel)))
  obtain ⟨comp, cA, kA, o1, o2, o3, o4, o5⟩ := Cond.arrayOver_spec (va_AO.use (A := args) hao)
  have hcA : cell.cls = cA := by
    have h9 : s.vm.findClass "[LWhichEncore$Clause;" = some cA := o5
    exact d6.trans (Option.some.inj (d2.symm.trans h9))
  refine ⟨(D, fun _ => cA, fun k => if 1000 ≤ k ∧ k < 1013 then (f (k - 1000)).1 else if 1020 ≤ k ∧ k < 1033 then (f (k - 1020)).2.1 else if 1040 ≤ k ∧ k < 1053 then (f (k - 1040)).2.2 else if 1060 ≤ k ∧ k < 1065 then g (k - 1060) else if k = 1070 then v else u, [], s.heap.size), rfl, rfl, fun h sz hh hs => ⟨va_AO.of (hts _ (List.mem_of_getElem? (i := 246) (by decide +kernel))), ⟨hh, hs⟩, ⟨⟨?_, ?_, ?_, ?_, ?_, ?_⟩, ?_, ?_, ?_, ?_⟩, va_Nw.of rfl (hts _ (List.mem_of_getElem? (i := 146) (by decide +kernel)))⟩⟩
  · exact va_Zof (hts _ (List.mem_of_getElem? (i := 156) (by decide +kernel))) (hts _ (List.mem_of_getElem? (i := 56) (by decide +kernel))) hv hA
  · refine ⟨cell, c1, c2.1, c3, hcA, ?_⟩
    apply Array.ext
    · rw [hsz13, arrV_size]
    · intro i h1 h2
      have hi : i < 13 := by omega
      have e1 := c6 i hi
      rw [Array.getElem?_eq_getElem h1] at e1
      have e2 := arrV_read cA (N := 13) (vF (D, fun _ => cA, fun k => if 1000 ≤ k ∧ k < 1013 then (f (k - 1000)).1 else if 1020 ≤ k ∧ k < 1033 then (f (k - 1020)).2.1 else if 1040 ≤ k ∧ k < 1053 then (f (k - 1040)).2.2 else if 1060 ≤ k ∧ k < 1065 then g (k - 1060) else if k = 1070 then v else u, [], s.heap.size)) hi
      rw [Array.getElem?_eq_getElem h2] at e2
      have e3 := Option.some.inj e1
      have e4 := Option.some.inj e2
      rw [e3, e4]
      show Value.ref (f i).1 = Value.ref (ite _ _ _)
      rw [if_pos ⟨by omega, by omega⟩, Nat.add_sub_cancel_left]
  · exact c7
  · exact fun n z => ⟨fun k h => (by cases h), kA, o3, comp, o4⟩
  · exact ⟨kA, comp, o3, o4, o1, o5⟩
  · exact va_Nw.of rfl (hts _ (List.mem_of_getElem? (i := 162) (by decide +kernel)))
  · intro i hi
    obtain ⟨-, b1, b2, b3, b4, b5, b6, b7, b8⟩ := hf i hi
    unfold St1
    have x1 : ∀ k : Nat, k = 1000 + i → (if 1000 ≤ k ∧ k < 1013 then (f (k - 1000)).1 else if 1020 ≤ k ∧ k < 1033 then (f (k - 1020)).2.1 else if 1040 ≤ k ∧ k < 1053 then (f (k - 1040)).2.2 else if 1060 ≤ k ∧ k < 1065 then g (k - 1060) else if k = 1070 then v else u) = (f i).1 := by
      rintro k rfl
      rw [if_pos ⟨by omega, by omega⟩, Nat.add_sub_cancel_left]
    have x2 : ∀ k : Nat, k = 1020 + i → (if 1000 ≤ k ∧ k < 1013 then (f (k - 1000)).1 else if 1020 ≤ k ∧ k < 1033 then (f (k - 1020)).2.1 else if 1040 ≤ k ∧ k < 1053 then (f (k - 1040)).2.2 else if 1060 ≤ k ∧ k < 1065 then g (k - 1060) else if k = 1070 then v else u) = (f i).2.1 := by
      rintro k rfl
      rw [if_neg (by omega), if_pos ⟨by omega, by omega⟩, Nat.add_sub_cancel_left]
    have x3 : ∀ k : Nat, k = 1040 + i → (if 1000 ≤ k ∧ k < 1013 then (f (k - 1000)).1 else if 1020 ≤ k ∧ k < 1033 then (f (k - 1020)).2.1 else if 1040 ≤ k ∧ k < 1053 then (f (k - 1040)).2.2 else if 1060 ≤ k ∧ k < 1065 then g (k - 1060) else if k = 1070 then v else u) = (f i).2.2 := by
      rintro k rfl
      rw [if_neg (by omega), if_neg (by omega), if_pos ⟨by omega, by omega⟩, Nat.add_sub_cancel_left]
    dsimp only [xad, xA, xb]
    rw [x1 _ rfl, x2 _ rfl, x3 _ rfl]
    exact ⟨b1, b2, b3, b4, b5, b6, b7, b8⟩
  · intro i hi
    obtain ⟨b1, b2⟩ := hgg i hi
    unfold St2
    have x4 : ∀ k : Nat, k = 1060 + i → (if 1000 ≤ k ∧ k < 1013 then (f (k - 1000)).1 else if 1020 ≤ k ∧ k < 1033 then (f (k - 1020)).2.1 else if 1040 ≤ k ∧ k < 1053 then (f (k - 1040)).2.2 else if 1060 ≤ k ∧ k < 1065 then g (k - 1060) else if k = 1070 then v else u) = g i := by
      rintro k rfl
      rw [if_neg (by omega), if_neg (by omega), if_neg (by omega), if_pos ⟨by omega, by omega⟩, Nat.add_sub_cancel_left]
    dsimp only [xad, xA, xb]
    rw [x4 _ rfl]
    exact ⟨b1, b2⟩
  · exact ⟨va_Zof (hts _ (List.mem_of_getElem? (i := 379) (by decide +kernel))) (hts _ (List.mem_of_getElem? (i := 62) (by decide +kernel))) (va_eqi (fz_at hg 22 (by decide +kernel))) hA, hu⟩
  · exact ⟨va_Nw.of rfl (hts _ (List.mem_of_getElem? (i := 590) (by decide +kernel))), va_Nw.of rfl (hts _ (List.mem_of_getElem? (i := 422) (by decide +kernel))), va_Nw.of rfl (hts _ (List.mem_of_getElem? (i := 424) (by decide +kernel))), va_Nw.of rfl (hts _ (List.mem_of_getElem? (i := 426) (by decide +kernel)))⟩
