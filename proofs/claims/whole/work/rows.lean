section
-- ===== PART A: goes FIRST, ahead of the names: the tables' words, and 'selects' of the private methods out of them =====
/-- a private method of a class that the tables say can be made, by its rows of tables_1 -/
def lw_okq (q : MethodName × Nat) : Prop := (q.1.cls ≠ "java/lang/invoke/MethodHandle" ∧ q.1.cls ≠ "java/lang/invoke/VarHandle") ∧ Cond.instantiable q.1.cls q.2 ∈ tables_1 ∧ Cond.privateMethod q.1 ∈ tables_1 ∧ Cond.instanceMethod q.1 ∈ tables_1
theorem lw_p0 : lw_okq (⟨"WhichEncore$Text", "readClause", "()Z"⟩, 7) := ⟨⟨by decide +kernel, by decide +kernel⟩, List.mem_of_getElem? (i := 94) (by decide +kernel), List.mem_of_getElem? (i := 300) (by decide +kernel), List.mem_of_getElem? (i := 301) (by decide +kernel)⟩
theorem lw_p1 : lw_okq (⟨"WhichEncore$Text", "skipBlanks", "()V"⟩, 7) := ⟨⟨by decide +kernel, by decide +kernel⟩, List.mem_of_getElem? (i := 94) (by decide +kernel), List.mem_of_getElem? (i := 304) (by decide +kernel), List.mem_of_getElem? (i := 305) (by decide +kernel)⟩
theorem lw_p2 : lw_okq (⟨"WhichEncore$Text", "endOfRow", "(CC)I"⟩, 7) := ⟨⟨by decide +kernel, by decide +kernel⟩, List.mem_of_getElem? (i := 94) (by decide +kernel), List.mem_of_getElem? (i := 308) (by decide +kernel), List.mem_of_getElem? (i := 309) (by decide +kernel)⟩
theorem lw_p3 : lw_okq (⟨"WhichEncore$Text", "clauseUpTo", "(I)LWhichEncore$Clause;"⟩, 7) := ⟨⟨by decide +kernel, by decide +kernel⟩, List.mem_of_getElem? (i := 94) (by decide +kernel), List.mem_of_getElem? (i := 312) (by decide +kernel), List.mem_of_getElem? (i := 313) (by decide +kernel)⟩
theorem lw_p4 : lw_okq (⟨"WhichEncore$Text", "isWordUpTo", "(Ljava/lang/String;I)Z"⟩, 7) := ⟨⟨by decide +kernel, by decide +kernel⟩, List.mem_of_getElem? (i := 94) (by decide +kernel), List.mem_of_getElem? (i := 316) (by decide +kernel), List.mem_of_getElem? (i := 317) (by decide +kernel)⟩
theorem lw_p5 : lw_okq (⟨"WhichEncore$Text", "readNumber", "(III)Z"⟩, 7) := ⟨⟨by decide +kernel, by decide +kernel⟩, List.mem_of_getElem? (i := 94) (by decide +kernel), List.mem_of_getElem? (i := 378) (by decide +kernel), List.mem_of_getElem? (i := 379) (by decide +kernel)⟩
theorem lw_p6 : lw_okq (⟨"WhichEncore$Told", "addClapper", "(I[I)V"⟩, 12) := ⟨⟨by decide +kernel, by decide +kernel⟩, List.mem_of_getElem? (i := 26) (by decide +kernel), List.mem_of_getElem? (i := 386) (by decide +kernel), List.mem_of_getElem? (i := 387) (by decide +kernel)⟩
theorem lw_p7 : lw_okq (⟨"WhichEncore$Told", "addEncore", "(I[I)V"⟩, 12) := ⟨⟨by decide +kernel, by decide +kernel⟩, List.mem_of_getElem? (i := 26) (by decide +kernel), List.mem_of_getElem? (i := 390) (by decide +kernel), List.mem_of_getElem? (i := 391) (by decide +kernel)⟩
theorem lw_p8 : lw_okq (⟨"WhichEncore", "beginAnew", "()V"⟩, 10) := ⟨⟨by decide +kernel, by decide +kernel⟩, List.mem_of_getElem? (i := 18) (by decide +kernel), List.mem_of_getElem? (i := 399) (by decide +kernel), List.mem_of_getElem? (i := 400) (by decide +kernel)⟩
theorem lw_p9 : lw_okq (⟨"WhichEncore$Evening", "whoIsBeside", "(I)I"⟩, 10) := ⟨⟨by decide +kernel, by decide +kernel⟩, List.mem_of_getElem? (i := 141) (by decide +kernel), List.mem_of_getElem? (i := 449) (by decide +kernel), List.mem_of_getElem? (i := 450) (by decide +kernel)⟩
theorem lw_p10 : lw_okq (⟨"WhichEncore", "refusalOf", "(I)I"⟩, 10) := ⟨⟨by decide +kernel, by decide +kernel⟩, List.mem_of_getElem? (i := 18) (by decide +kernel), List.mem_of_getElem? (i := 470) (by decide +kernel), List.mem_of_getElem? (i := 471) (by decide +kernel)⟩
theorem lw_p11 : lw_okq (⟨"WhichEncore$Evening", "isReady", "(I)Z"⟩, 10) := ⟨⟨by decide +kernel, by decide +kernel⟩, List.mem_of_getElem? (i := 141) (by decide +kernel), List.mem_of_getElem? (i := 478) (by decide +kernel), List.mem_of_getElem? (i := 479) (by decide +kernel)⟩
theorem lw_p12 : lw_okq (⟨"WhichEncore$Evening", "waitOne", "()V"⟩, 10) := ⟨⟨by decide +kernel, by decide +kernel⟩, List.mem_of_getElem? (i := 141) (by decide +kernel), List.mem_of_getElem? (i := 514) (by decide +kernel), List.mem_of_getElem? (i := 515) (by decide +kernel)⟩
theorem lw_p13 : lw_okq (⟨"WhichEncore$Evening", "letPass", "(I)V"⟩, 10) := ⟨⟨by decide +kernel, by decide +kernel⟩, List.mem_of_getElem? (i := 141) (by decide +kernel), List.mem_of_getElem? (i := 520) (by decide +kernel), List.mem_of_getElem? (i := 521) (by decide +kernel)⟩
theorem lw_p14 : lw_okq (⟨"WhichEncore$Evening", "bowOnce", "()V"⟩, 10) := ⟨⟨by decide +kernel, by decide +kernel⟩, List.mem_of_getElem? (i := 141) (by decide +kernel), List.mem_of_getElem? (i := 524) (by decide +kernel), List.mem_of_getElem? (i := 525) (by decide +kernel)⟩
theorem lw_p15 : lw_okq (⟨"WhichEncore$Evening", "play", "(I)V"⟩, 10) := ⟨⟨by decide +kernel, by decide +kernel⟩, List.mem_of_getElem? (i := 141) (by decide +kernel), List.mem_of_getElem? (i := 535) (by decide +kernel), List.mem_of_getElem? (i := 536) (by decide +kernel)⟩
def lw_privs_1 : List (MethodName × Nat) := [(⟨"WhichEncore$Text", "readClause", "()Z"⟩, 7), (⟨"WhichEncore$Text", "skipBlanks", "()V"⟩, 7), (⟨"WhichEncore$Text", "endOfRow", "(CC)I"⟩, 7), (⟨"WhichEncore$Text", "clauseUpTo", "(I)LWhichEncore$Clause;"⟩, 7), (⟨"WhichEncore$Text", "isWordUpTo", "(Ljava/lang/String;I)Z"⟩, 7), (⟨"WhichEncore$Text", "readNumber", "(III)Z"⟩, 7), (⟨"WhichEncore$Told", "addClapper", "(I[I)V"⟩, 12), (⟨"WhichEncore$Told", "addEncore", "(I[I)V"⟩, 12), (⟨"WhichEncore", "beginAnew", "()V"⟩, 10), (⟨"WhichEncore$Evening", "whoIsBeside", "(I)I"⟩, 10), (⟨"WhichEncore", "refusalOf", "(I)I"⟩, 10), (⟨"WhichEncore$Evening", "isReady", "(I)Z"⟩, 10), (⟨"WhichEncore$Evening", "waitOne", "()V"⟩, 10), (⟨"WhichEncore$Evening", "letPass", "(I)V"⟩, 10), (⟨"WhichEncore$Evening", "bowOnce", "()V"⟩, 10), (⟨"WhichEncore$Evening", "play", "(I)V"⟩, 10)]
theorem lw_r1 : ∀ q ∈ lw_privs_1, lw_okq q := List.forall_mem_cons.mpr ⟨lw_p0, List.forall_mem_cons.mpr ⟨lw_p1, List.forall_mem_cons.mpr ⟨lw_p2, List.forall_mem_cons.mpr ⟨lw_p3, List.forall_mem_cons.mpr ⟨lw_p4, List.forall_mem_cons.mpr ⟨lw_p5, List.forall_mem_cons.mpr ⟨lw_p6, List.forall_mem_cons.mpr ⟨lw_p7, List.forall_mem_cons.mpr ⟨lw_p8, List.forall_mem_cons.mpr ⟨lw_p9, List.forall_mem_cons.mpr ⟨lw_p10, List.forall_mem_cons.mpr ⟨lw_p11, List.forall_mem_cons.mpr ⟨lw_p12, List.forall_mem_cons.mpr ⟨lw_p13, List.forall_mem_cons.mpr ⟨lw_p14, List.forall_mem_cons.mpr ⟨lw_p15, fun _ h => absurd h List.not_mem_nil⟩⟩⟩⟩⟩⟩⟩⟩⟩⟩⟩⟩⟩⟩⟩⟩
theorem lw_p16 : lw_okq (⟨"WhichEncore", "foretellWaits", "(I)V"⟩, 10) := ⟨⟨by decide +kernel, by decide +kernel⟩, List.mem_of_getElem? (i := 18) (by decide +kernel), List.mem_of_getElem? (i := 573) (by decide +kernel), List.mem_of_getElem? (i := 574) (by decide +kernel)⟩
theorem lw_p17 : lw_okq (⟨"WhichEncore$Search", "lookDeeper", "(I)V"⟩, 5) := ⟨⟨by decide +kernel, by decide +kernel⟩, List.mem_of_getElem? (i := 189) (by decide +kernel), List.mem_of_getElem? (i := 590) (by decide +kernel), List.mem_of_getElem? (i := 591) (by decide +kernel)⟩
theorem lw_p18 : lw_okq (⟨"WhichEncore$Search", "isWorthATry", "(II)Z"⟩, 5) := ⟨⟨by decide +kernel, by decide +kernel⟩, List.mem_of_getElem? (i := 189) (by decide +kernel), List.mem_of_getElem? (i := 594) (by decide +kernel), List.mem_of_getElem? (i := 595) (by decide +kernel)⟩
theorem lw_p19 : lw_okq (⟨"WhichEncore$Search", "lookBehind", "(II)V"⟩, 5) := ⟨⟨by decide +kernel, by decide +kernel⟩, List.mem_of_getElem? (i := 189) (by decide +kernel), List.mem_of_getElem? (i := 600) (by decide +kernel), List.mem_of_getElem? (i := 601) (by decide +kernel)⟩
theorem lw_p20 : lw_okq (⟨"WhichEncore$Search", "compare", "(I)V"⟩, 5) := ⟨⟨by decide +kernel, by decide +kernel⟩, List.mem_of_getElem? (i := 189) (by decide +kernel), List.mem_of_getElem? (i := 605) (by decide +kernel), List.mem_of_getElem? (i := 606) (by decide +kernel)⟩
theorem lw_p21 : lw_okq (⟨"WhichEncoreModel", "forgets", "()V"⟩, 21) := ⟨⟨by decide +kernel, by decide +kernel⟩, List.mem_of_getElem? (i := 658) (by decide +kernel), List.mem_of_getElem? (i := 664) (by decide +kernel), List.mem_of_getElem? (i := 665) (by decide +kernel)⟩
theorem lw_p22 : lw_okq (⟨"WhichEncoreModel", "begins", "()V"⟩, 21) := ⟨⟨by decide +kernel, by decide +kernel⟩, List.mem_of_getElem? (i := 658) (by decide +kernel), List.mem_of_getElem? (i := 668) (by decide +kernel), List.mem_of_getElem? (i := 669) (by decide +kernel)⟩
theorem lw_p23 : lw_okq (⟨"WhichEncoreModel", "reads", "()I"⟩, 21) := ⟨⟨by decide +kernel, by decide +kernel⟩, List.mem_of_getElem? (i := 658) (by decide +kernel), List.mem_of_getElem? (i := 751) (by decide +kernel), List.mem_of_getElem? (i := 752) (by decide +kernel)⟩
theorem lw_p24 : lw_okq (⟨"WhichEncoreModel", "token", "()V"⟩, 21) := ⟨⟨by decide +kernel, by decide +kernel⟩, List.mem_of_getElem? (i := 658) (by decide +kernel), List.mem_of_getElem? (i := 755) (by decide +kernel), List.mem_of_getElem? (i := 756) (by decide +kernel)⟩
theorem lw_p25 : lw_okq (⟨"WhichEncoreModel", "letterAt", "(I)I"⟩, 21) := ⟨⟨by decide +kernel, by decide +kernel⟩, List.mem_of_getElem? (i := 658) (by decide +kernel), List.mem_of_getElem? (i := 759) (by decide +kernel), List.mem_of_getElem? (i := 760) (by decide +kernel)⟩
theorem lw_p26 : lw_okq (⟨"WhichEncoreModel", "readsClause", "()Z"⟩, 21) := ⟨⟨by decide +kernel, by decide +kernel⟩, List.mem_of_getElem? (i := 658) (by decide +kernel), List.mem_of_getElem? (i := 769) (by decide +kernel), List.mem_of_getElem? (i := 770) (by decide +kernel)⟩
theorem lw_p27 : lw_okq (⟨"WhichEncoreModel", "isWord", "(IIIIIIIII)Z"⟩, 21) := ⟨⟨by decide +kernel, by decide +kernel⟩, List.mem_of_getElem? (i := 658) (by decide +kernel), List.mem_of_getElem? (i := 773) (by decide +kernel), List.mem_of_getElem? (i := 774) (by decide +kernel)⟩
theorem lw_p28 : lw_okq (⟨"WhichEncoreModel", "readsClapper", "(I)Z"⟩, 21) := ⟨⟨by decide +kernel, by decide +kernel⟩, List.mem_of_getElem? (i := 658) (by decide +kernel), List.mem_of_getElem? (i := 777) (by decide +kernel), List.mem_of_getElem? (i := 778) (by decide +kernel)⟩
theorem lw_p29 : lw_okq (⟨"WhichEncoreModel", "number", "(III)Z"⟩, 21) := ⟨⟨by decide +kernel, by decide +kernel⟩, List.mem_of_getElem? (i := 658) (by decide +kernel), List.mem_of_getElem? (i := 781) (by decide +kernel), List.mem_of_getElem? (i := 782) (by decide +kernel)⟩
theorem lw_p30 : lw_okq (⟨"WhichEncoreModel", "readsEncore", "(I)Z"⟩, 21) := ⟨⟨by decide +kernel, by decide +kernel⟩, List.mem_of_getElem? (i := 658) (by decide +kernel), List.mem_of_getElem? (i := 785) (by decide +kernel), List.mem_of_getElem? (i := 786) (by decide +kernel)⟩
theorem lw_p31 : lw_okq (⟨"WhichEncoreModel", "isClapper", "(I)Z"⟩, 21) := ⟨⟨by decide +kernel, by decide +kernel⟩, List.mem_of_getElem? (i := 658) (by decide +kernel), List.mem_of_getElem? (i := 797) (by decide +kernel), List.mem_of_getElem? (i := 798) (by decide +kernel)⟩
def lw_privs_2 : List (MethodName × Nat) := [(⟨"WhichEncore", "foretellWaits", "(I)V"⟩, 10), (⟨"WhichEncore$Search", "lookDeeper", "(I)V"⟩, 5), (⟨"WhichEncore$Search", "isWorthATry", "(II)Z"⟩, 5), (⟨"WhichEncore$Search", "lookBehind", "(II)V"⟩, 5), (⟨"WhichEncore$Search", "compare", "(I)V"⟩, 5), (⟨"WhichEncoreModel", "forgets", "()V"⟩, 21), (⟨"WhichEncoreModel", "begins", "()V"⟩, 21), (⟨"WhichEncoreModel", "reads", "()I"⟩, 21), (⟨"WhichEncoreModel", "token", "()V"⟩, 21), (⟨"WhichEncoreModel", "letterAt", "(I)I"⟩, 21), (⟨"WhichEncoreModel", "readsClause", "()Z"⟩, 21), (⟨"WhichEncoreModel", "isWord", "(IIIIIIIII)Z"⟩, 21), (⟨"WhichEncoreModel", "readsClapper", "(I)Z"⟩, 21), (⟨"WhichEncoreModel", "number", "(III)Z"⟩, 21), (⟨"WhichEncoreModel", "readsEncore", "(I)Z"⟩, 21), (⟨"WhichEncoreModel", "isClapper", "(I)Z"⟩, 21)]
theorem lw_r2 : ∀ q ∈ lw_privs_2, lw_okq q := List.forall_mem_cons.mpr ⟨lw_p16, List.forall_mem_cons.mpr ⟨lw_p17, List.forall_mem_cons.mpr ⟨lw_p18, List.forall_mem_cons.mpr ⟨lw_p19, List.forall_mem_cons.mpr ⟨lw_p20, List.forall_mem_cons.mpr ⟨lw_p21, List.forall_mem_cons.mpr ⟨lw_p22, List.forall_mem_cons.mpr ⟨lw_p23, List.forall_mem_cons.mpr ⟨lw_p24, List.forall_mem_cons.mpr ⟨lw_p25, List.forall_mem_cons.mpr ⟨lw_p26, List.forall_mem_cons.mpr ⟨lw_p27, List.forall_mem_cons.mpr ⟨lw_p28, List.forall_mem_cons.mpr ⟨lw_p29, List.forall_mem_cons.mpr ⟨lw_p30, List.forall_mem_cons.mpr ⟨lw_p31, fun _ h => absurd h List.not_mem_nil⟩⟩⟩⟩⟩⟩⟩⟩⟩⟩⟩⟩⟩⟩⟩⟩
theorem lw_p32 : lw_okq (⟨"WhichEncoreModel", "isThere", "(I)Z"⟩, 21) := ⟨⟨by decide +kernel, by decide +kernel⟩, List.mem_of_getElem? (i := 658) (by decide +kernel), List.mem_of_getElem? (i := 801) (by decide +kernel), List.mem_of_getElem? (i := 802) (by decide +kernel)⟩
theorem lw_p33 : lw_okq (⟨"WhichEncoreModel", "claps", "(I)Z"⟩, 21) := ⟨⟨by decide +kernel, by decide +kernel⟩, List.mem_of_getElem? (i := 658) (by decide +kernel), List.mem_of_getElem? (i := 805) (by decide +kernel), List.mem_of_getElem? (i := 806) (by decide +kernel)⟩
theorem lw_p34 : lw_okq (⟨"WhichEncoreModel", "isEncore", "(I)Z"⟩, 21) := ⟨⟨by decide +kernel, by decide +kernel⟩, List.mem_of_getElem? (i := 658) (by decide +kernel), List.mem_of_getElem? (i := 813) (by decide +kernel), List.mem_of_getElem? (i := 814) (by decide +kernel)⟩
theorem lw_p35 : lw_okq (⟨"WhichEncoreModel", "loses", "(I)I"⟩, 21) := ⟨⟨by decide +kernel, by decide +kernel⟩, List.mem_of_getElem? (i := 658) (by decide +kernel), List.mem_of_getElem? (i := 821) (by decide +kernel), List.mem_of_getElem? (i := 822) (by decide +kernel)⟩
theorem lw_p36 : lw_okq (⟨"WhichEncoreModel", "wasKnown", "()Z"⟩, 21) := ⟨⟨by decide +kernel, by decide +kernel⟩, List.mem_of_getElem? (i := 658) (by decide +kernel), List.mem_of_getElem? (i := 825) (by decide +kernel), List.mem_of_getElem? (i := 826) (by decide +kernel)⟩
theorem lw_p37 : lw_okq (⟨"WhichEncoreModel", "lacks", "(I)I"⟩, 21) := ⟨⟨by decide +kernel, by decide +kernel⟩, List.mem_of_getElem? (i := 658) (by decide +kernel), List.mem_of_getElem? (i := 840) (by decide +kernel), List.mem_of_getElem? (i := 841) (by decide +kernel)⟩
theorem lw_p38 : lw_okq (⟨"WhichEncoreModel", "noise", "()I"⟩, 21) := ⟨⟨by decide +kernel, by decide +kernel⟩, List.mem_of_getElem? (i := 658) (by decide +kernel), List.mem_of_getElem? (i := 844) (by decide +kernel), List.mem_of_getElem? (i := 845) (by decide +kernel)⟩
theorem lw_p39 : lw_okq (⟨"WhichEncoreModel", "steps", "(I)V"⟩, 21) := ⟨⟨by decide +kernel, by decide +kernel⟩, List.mem_of_getElem? (i := 658) (by decide +kernel), List.mem_of_getElem? (i := 852) (by decide +kernel), List.mem_of_getElem? (i := 853) (by decide +kernel)⟩
theorem lw_p40 : lw_okq (⟨"WhichEncoreModel", "waitsOne", "()V"⟩, 21) := ⟨⟨by decide +kernel, by decide +kernel⟩, List.mem_of_getElem? (i := 658) (by decide +kernel), List.mem_of_getElem? (i := 856) (by decide +kernel), List.mem_of_getElem? (i := 857) (by decide +kernel)⟩
theorem lw_p41 : lw_okq (⟨"WhichEncoreModel", "minute", "()V"⟩, 21) := ⟨⟨by decide +kernel, by decide +kernel⟩, List.mem_of_getElem? (i := 658) (by decide +kernel), List.mem_of_getElem? (i := 860) (by decide +kernel), List.mem_of_getElem? (i := 861) (by decide +kernel)⟩
theorem lw_p42 : lw_okq (⟨"WhichEncoreModel", "bows", "()V"⟩, 21) := ⟨⟨by decide +kernel, by decide +kernel⟩, List.mem_of_getElem? (i := 658) (by decide +kernel), List.mem_of_getElem? (i := 864) (by decide +kernel), List.mem_of_getElem? (i := 865) (by decide +kernel)⟩
theorem lw_p43 : lw_okq (⟨"WhichEncoreModel", "plays", "(I)V"⟩, 21) := ⟨⟨by decide +kernel, by decide +kernel⟩, List.mem_of_getElem? (i := 658) (by decide +kernel), List.mem_of_getElem? (i := 868) (by decide +kernel), List.mem_of_getElem? (i := 869) (by decide +kernel)⟩
theorem lw_p44 : lw_okq (⟨"WhichEncoreModel", "thereNow", "()I"⟩, 21) := ⟨⟨by decide +kernel, by decide +kernel⟩, List.mem_of_getElem? (i := 658) (by decide +kernel), List.mem_of_getElem? (i := 872) (by decide +kernel), List.mem_of_getElem? (i := 873) (by decide +kernel)⟩
theorem lw_p45 : lw_okq (⟨"WhichEncoreModel", "holds", "()V"⟩, 21) := ⟨⟨by decide +kernel, by decide +kernel⟩, List.mem_of_getElem? (i := 658) (by decide +kernel), List.mem_of_getElem? (i := 895) (by decide +kernel), List.mem_of_getElem? (i := 896) (by decide +kernel)⟩
theorem lw_p46 : lw_okq (⟨"WhichEncoreModel", "lets", "()V"⟩, 21) := ⟨⟨by decide +kernel, by decide +kernel⟩, List.mem_of_getElem? (i := 658) (by decide +kernel), List.mem_of_getElem? (i := 899) (by decide +kernel), List.mem_of_getElem? (i := 900) (by decide +kernel)⟩
theorem lw_p47 : lw_okq (⟨"WhichEncoreModel", "behindWaits", "(IZ)I"⟩, 21) := ⟨⟨by decide +kernel, by decide +kernel⟩, List.mem_of_getElem? (i := 658) (by decide +kernel), List.mem_of_getElem? (i := 907) (by decide +kernel), List.mem_of_getElem? (i := 908) (by decide +kernel)⟩
def lw_privs_3 : List (MethodName × Nat) := [(⟨"WhichEncoreModel", "isThere", "(I)Z"⟩, 21), (⟨"WhichEncoreModel", "claps", "(I)Z"⟩, 21), (⟨"WhichEncoreModel", "isEncore", "(I)Z"⟩, 21), (⟨"WhichEncoreModel", "loses", "(I)I"⟩, 21), (⟨"WhichEncoreModel", "wasKnown", "()Z"⟩, 21), (⟨"WhichEncoreModel", "lacks", "(I)I"⟩, 21), (⟨"WhichEncoreModel", "noise", "()I"⟩, 21), (⟨"WhichEncoreModel", "steps", "(I)V"⟩, 21), (⟨"WhichEncoreModel", "waitsOne", "()V"⟩, 21), (⟨"WhichEncoreModel", "minute", "()V"⟩, 21), (⟨"WhichEncoreModel", "bows", "()V"⟩, 21), (⟨"WhichEncoreModel", "plays", "(I)V"⟩, 21), (⟨"WhichEncoreModel", "thereNow", "()I"⟩, 21), (⟨"WhichEncoreModel", "holds", "()V"⟩, 21), (⟨"WhichEncoreModel", "lets", "()V"⟩, 21), (⟨"WhichEncoreModel", "behindWaits", "(IZ)I"⟩, 21)]
theorem lw_r3 : ∀ q ∈ lw_privs_3, lw_okq q := List.forall_mem_cons.mpr ⟨lw_p32, List.forall_mem_cons.mpr ⟨lw_p33, List.forall_mem_cons.mpr ⟨lw_p34, List.forall_mem_cons.mpr ⟨lw_p35, List.forall_mem_cons.mpr ⟨lw_p36, List.forall_mem_cons.mpr ⟨lw_p37, List.forall_mem_cons.mpr ⟨lw_p38, List.forall_mem_cons.mpr ⟨lw_p39, List.forall_mem_cons.mpr ⟨lw_p40, List.forall_mem_cons.mpr ⟨lw_p41, List.forall_mem_cons.mpr ⟨lw_p42, List.forall_mem_cons.mpr ⟨lw_p43, List.forall_mem_cons.mpr ⟨lw_p44, List.forall_mem_cons.mpr ⟨lw_p45, List.forall_mem_cons.mpr ⟨lw_p46, List.forall_mem_cons.mpr ⟨lw_p47, fun _ h => absurd h List.not_mem_nil⟩⟩⟩⟩⟩⟩⟩⟩⟩⟩⟩⟩⟩⟩⟩⟩
theorem lw_p48 : lw_okq (⟨"WhichEncoreModel", "seeks", "()V"⟩, 21) := ⟨⟨by decide +kernel, by decide +kernel⟩, List.mem_of_getElem? (i := 658) (by decide +kernel), List.mem_of_getElem? (i := 919) (by decide +kernel), List.mem_of_getElem? (i := 920) (by decide +kernel)⟩
theorem lw_p49 : lw_okq (⟨"WhichEncoreModel", "goesOn", "(I)V"⟩, 21) := ⟨⟨by decide +kernel, by decide +kernel⟩, List.mem_of_getElem? (i := 658) (by decide +kernel), List.mem_of_getElem? (i := 923) (by decide +kernel), List.mem_of_getElem? (i := 924) (by decide +kernel)⟩
theorem lw_p50 : lw_okq (⟨"WhichEncoreModel", "comesBack", "(I)V"⟩, 21) := ⟨⟨by decide +kernel, by decide +kernel⟩, List.mem_of_getElem? (i := 658) (by decide +kernel), List.mem_of_getElem? (i := 927) (by decide +kernel), List.mem_of_getElem? (i := 928) (by decide +kernel)⟩
def lw_privs_4 : List (MethodName × Nat) := [(⟨"WhichEncoreModel", "seeks", "()V"⟩, 21), (⟨"WhichEncoreModel", "goesOn", "(I)V"⟩, 21), (⟨"WhichEncoreModel", "comesBack", "(I)V"⟩, 21)]
theorem lw_r4 : ∀ q ∈ lw_privs_4, lw_okq q := List.forall_mem_cons.mpr ⟨lw_p48, List.forall_mem_cons.mpr ⟨lw_p49, List.forall_mem_cons.mpr ⟨lw_p50, fun _ h => absurd h List.not_mem_nil⟩⟩⟩
def lw_privs : List (MethodName × Nat) := lw_privs_1 ++ (lw_privs_2 ++ (lw_privs_3 ++ (lw_privs_4)))
def lw_tbl : List Cond := k2_sels lw_privs ++ tables_1
theorem lw_privs_ok : ∀ q ∈ lw_privs, lw_okq q := by
  show ∀ q ∈ lw_privs_1 ++ (lw_privs_2 ++ (lw_privs_3 ++ (lw_privs_4))), lw_okq q
  exact List.forall_mem_append.mpr ⟨lw_r1, List.forall_mem_append.mpr ⟨lw_r2, List.forall_mem_append.mpr ⟨lw_r3, lw_r4⟩⟩⟩
-- ===== end of PART A; then your names; then what follows =====
end
section
def RX0 : String := "WhichEncore$Clause"
def TX0 : u_T := fun k => match k with
  | _ => ("", "", "", false)
def tyX0 : Nat → FieldType := fun k => match k with
  | _ => .int
abbrev wsX00 : List Cond := u_ws RX0 TX0 0
theorem nmX0 : ∀ a, a < 0 → ∀ b, b < 0 → a ≠ b → (TX0 a).2.1 ≠ (TX0 b).2.1 := by decide +kernel
theorem tyX0_ok : ∀ k, k < 0 → parseFieldDescriptor (TX0 k).2.2.1 = some (tyX0 k) := by decide +kernel
abbrev cX0_values : ByteArray := prog_2_method_1_code
def yX0_values : MethodName := ⟨RX0, "values", "()[LWhichEncore$Clause;"⟩
def RX1 : String := "WhichEncore$Evening"
def TX1 : u_T := fun k => match k with
  | 0 => ("WhichEncore$Evening", "zeal", "[I", true)
  | 1 => ("WhichEncore$Evening", "there", "I", false)
  | 2 => ("WhichEncore$Evening", "minute", "I", false)
  | 3 => ("WhichEncore$Evening", "arm", "I", false)
  | 4 => ("WhichEncore$Evening", "played", "I", false)
  | 5 => ("WhichEncore$Evening", "bows", "I", false)
  | 6 => ("WhichEncore$Evening", "paid", "I", false)
  | 7 => ("WhichEncore$Evening", "fame", "I", false)
  | 8 => ("WhichEncore$Evening", "knownPlayed", "Z", false)
  | _ => ("WhichEncore$Evening", "told", "LWhichEncore$Told;", true)
def tyX1 : Nat → FieldType := fun k => match k with
  | 0 => .array .int
  | 1 => .int
  | 2 => .int
  | 3 => .int
  | 4 => .int
  | 5 => .int
  | 6 => .int
  | 7 => .int
  | 8 => .boolean
  | _ => .object "WhichEncore$Told"
abbrev wsX10 : List Cond := u_ws RX1 TX1 10
theorem nmX1 : ∀ a, a < 10 → ∀ b, b < 10 → a ≠ b → (TX1 a).2.1 ≠ (TX1 b).2.1 := by decide +kernel
theorem tyX1_ok : ∀ k, k < 10 → parseFieldDescriptor (TX1 k).2.2.1 = some (tyX1 k) := by decide +kernel
abbrev cX1_init : ByteArray := prog_3_method_1_code
def yX1_init : MethodName := ⟨RX1, "<init>", "(LWhichEncore$Told;)V"⟩
abbrev cX1_begin : ByteArray := prog_3_method_2_code
def yX1_begin : MethodName := ⟨RX1, "begin", "()V"⟩
abbrev cX1_copyFrom : ByteArray := prog_3_method_3_code
def yX1_copyFrom : MethodName := ⟨RX1, "copyFrom", "(LWhichEncore$Evening;)V"⟩
abbrev cX1_isThere : ByteArray := prog_3_method_4_code
def yX1_isThere : MethodName := ⟨RX1, "isThere", "(I)Z"⟩
abbrev cX1_isClapping : ByteArray := prog_3_method_5_code
def yX1_isClapping : MethodName := ⟨RX1, "isClapping", "(I)Z"⟩
abbrev cX1_wasPlayed : ByteArray := prog_3_method_6_code
def yX1_wasPlayed : MethodName := ⟨RX1, "wasPlayed", "(I)Z"⟩
abbrev cX1_whoClaps : ByteArray := prog_3_method_7_code
def yX1_whoClaps : MethodName := ⟨RX1, "whoClaps", "()I"⟩
abbrev cX1_zealOf : ByteArray := prog_3_method_8_code
def yX1_zealOf : MethodName := ⟨RX1, "zealOf", "(I)I"⟩
abbrev cX1_noise : ByteArray := prog_3_method_9_code
def yX1_noise : MethodName := ⟨RX1, "noise", "()I"⟩
abbrev cX1_lessByWait : ByteArray := prog_3_method_10_code
def yX1_lessByWait : MethodName := ⟨RX1, "lessByWait", "(II)I"⟩
abbrev cX1_isPossible : ByteArray := prog_3_method_11_code
def yX1_isPossible : MethodName := ⟨RX1, "isPossible", "(I)Z"⟩
abbrev cX1_moreByBow : ByteArray := prog_3_method_12_code
def yX1_moreByBow : MethodName := ⟨RX1, "moreByBow", "()I"⟩
abbrev cX1_take : ByteArray := prog_3_method_13_code
def yX1_take : MethodName := ⟨RX1, "take", "(I)V"⟩
abbrev cX1_isReady : ByteArray := prog_3_method_14_code
def yX1_isReady : MethodName := ⟨RX1, "isReady", "(I)Z"⟩
abbrev cX1_waitOne : ByteArray := prog_3_method_15_code
def yX1_waitOne : MethodName := ⟨RX1, "waitOne", "()V"⟩
abbrev cX1_bowOnce : ByteArray := prog_3_method_16_code
def yX1_bowOnce : MethodName := ⟨RX1, "bowOnce", "()V"⟩
abbrev cX1_play : ByteArray := prog_3_method_17_code
def yX1_play : MethodName := ⟨RX1, "play", "(I)V"⟩
abbrev cX1_letPass : ByteArray := prog_3_method_18_code
def yX1_letPass : MethodName := ⟨RX1, "letPass", "(I)V"⟩
abbrev cX1_whoIsBeside : ByteArray := prog_3_method_19_code
def yX1_whoIsBeside : MethodName := ⟨RX1, "whoIsBeside", "(I)I"⟩
def RX2 : String := "WhichEncore$Past"
def TX2 : u_T := fun k => match k with
  | 0 => ("WhichEncore$Past", "size", "I", false)
  | 1 => ("WhichEncore$Past", "next", "I", false)
  | _ => ("WhichEncore$Past", "ring", "[LWhichEncore$Evening;", true)
def tyX2 : Nat → FieldType := fun k => match k with
  | 0 => .int
  | 1 => .int
  | _ => .array (.object "WhichEncore$Evening")
abbrev wsX20 : List Cond := u_ws RX2 TX2 3
theorem nmX2 : ∀ a, a < 3 → ∀ b, b < 3 → a ≠ b → (TX2 a).2.1 ≠ (TX2 b).2.1 := by decide +kernel
theorem tyX2_ok : ∀ k, k < 3 → parseFieldDescriptor (TX2 k).2.2.1 = some (tyX2 k) := by decide +kernel
abbrev cX2_init : ByteArray := prog_4_method_1_code
def yX2_init : MethodName := ⟨RX2, "<init>", "(LWhichEncore$Told;)V"⟩
abbrev cX2_remember : ByteArray := prog_4_method_2_code
def yX2_remember : MethodName := ⟨RX2, "remember", "(LWhichEncore$Evening;)V"⟩
abbrev cX2_recall : ByteArray := prog_4_method_3_code
def yX2_recall : MethodName := ⟨RX2, "recall", "(LWhichEncore$Evening;)Z"⟩
def RX3 : String := "WhichEncore$Search"
def TX3 : u_T := fun k => match k with
  | 0 => ("WhichEncore$Search", "bestGrowth", "I", false)
  | 1 => ("WhichEncore$Search", "bestLength", "I", false)
  | 2 => ("WhichEncore$Search", "bestSteps", "[I", true)
  | 3 => ("WhichEncore$Search", "steps", "[I", true)
  | _ => ("WhichEncore$Search", "levels", "[LWhichEncore$Evening;", true)
def tyX3 : Nat → FieldType := fun k => match k with
  | 0 => .int
  | 1 => .int
  | 2 => .array .int
  | 3 => .array .int
  | _ => .array (.object "WhichEncore$Evening")
abbrev wsX30 : List Cond := u_ws RX3 TX3 5
theorem nmX3 : ∀ a, a < 5 → ∀ b, b < 5 → a ≠ b → (TX3 a).2.1 ≠ (TX3 b).2.1 := by decide +kernel
theorem tyX3_ok : ∀ k, k < 5 → parseFieldDescriptor (TX3 k).2.2.1 = some (tyX3 k) := by decide +kernel
abbrev cX3_init : ByteArray := prog_5_method_1_code
def yX3_init : MethodName := ⟨RX3, "<init>", "(LWhichEncore$Told;)V"⟩
abbrev cX3_lookFrom : ByteArray := prog_5_method_2_code
def yX3_lookFrom : MethodName := ⟨RX3, "lookFrom", "(LWhichEncore$Evening;I)V"⟩
abbrev cX3_lookDeeper : ByteArray := prog_5_method_3_code
def yX3_lookDeeper : MethodName := ⟨RX3, "lookDeeper", "(I)V"⟩
abbrev cX3_lookBehind : ByteArray := prog_5_method_4_code
def yX3_lookBehind : MethodName := ⟨RX3, "lookBehind", "(II)V"⟩
abbrev cX3_isWorthATry : ByteArray := prog_5_method_5_code
def yX3_isWorthATry : MethodName := ⟨RX3, "isWorthATry", "(II)Z"⟩
abbrev cX3_compare : ByteArray := prog_5_method_6_code
def yX3_compare : MethodName := ⟨RX3, "compare", "(I)V"⟩
def RX4 : String := "WhichEncore$Text"
def TX4 : u_T := fun k => match k with
  | 0 => ("WhichEncore$Text", "draft", "LWhichEncore$Told;", true)
  | 1 => ("WhichEncore$Text", "length", "I", false)
  | 2 => ("WhichEncore$Text", "clauses", "I", false)
  | 3 => ("WhichEncore$Text", "letters", "[C", true)
  | 4 => ("WhichEncore$Text", "numbers", "[I", true)
  | 5 => ("WhichEncore$Text", "allClauses", "[LWhichEncore$Clause;", true)
  | _ => ("WhichEncore$Text", "place", "I", false)
def tyX4 : Nat → FieldType := fun k => match k with
  | 0 => .object "WhichEncore$Told"
  | 1 => .int
  | 2 => .int
  | 3 => .array .char
  | 4 => .array .int
  | 5 => .array (.object "WhichEncore$Clause")
  | _ => .int
abbrev wsX40 : List Cond := u_ws RX4 TX4 7
theorem nmX4 : ∀ a, a < 7 → ∀ b, b < 7 → a ≠ b → (TX4 a).2.1 ≠ (TX4 b).2.1 := by decide +kernel
theorem tyX4_ok : ∀ k, k < 7 → parseFieldDescriptor (TX4 k).2.2.1 = some (tyX4 k) := by decide +kernel
abbrev cX4_init : ByteArray := prog_6_method_1_code
def yX4_init : MethodName := ⟨RX4, "<init>", "()V"⟩
abbrev cX4_append : ByteArray := prog_6_method_2_code
def yX4_append : MethodName := ⟨RX4, "append", "(I)Z"⟩
abbrev cX4_findFault : ByteArray := prog_6_method_3_code
def yX4_findFault : MethodName := ⟨RX4, "findFault", "(LWhichEncore$Told;)I"⟩
abbrev cX4_readClause : ByteArray := prog_6_method_4_code
def yX4_readClause : MethodName := ⟨RX4, "readClause", "()Z"⟩
abbrev cX4_readNumber : ByteArray := prog_6_method_5_code
def yX4_readNumber : MethodName := ⟨RX4, "readNumber", "(III)Z"⟩
abbrev cX4_skipBlanks : ByteArray := prog_6_method_6_code
def yX4_skipBlanks : MethodName := ⟨RX4, "skipBlanks", "()V"⟩
abbrev cX4_endOfRow : ByteArray := prog_6_method_7_code
def yX4_endOfRow : MethodName := ⟨RX4, "endOfRow", "(CC)I"⟩
abbrev cX4_clauseUpTo : ByteArray := prog_6_method_8_code
def yX4_clauseUpTo : MethodName := ⟨RX4, "clauseUpTo", "(I)LWhichEncore$Clause;"⟩
abbrev cX4_isWordUpTo : ByteArray := prog_6_method_9_code
def yX4_isWordUpTo : MethodName := ⟨RX4, "isWordUpTo", "(Ljava/lang/String;I)Z"⟩
def RX5 : String := "WhichEncore$Told"
def TX5 : u_T := fun k => match k with
  | 0 => ("WhichEncore$Told", "clapperKind", "[I", true)
  | 1 => ("WhichEncore$Told", "came", "[I", true)
  | 2 => ("WhichEncore$Told", "train", "[I", true)
  | 3 => ("WhichEncore$Told", "encoreKind", "[I", true)
  | 4 => ("WhichEncore$Told", "minutes", "[I", true)
  | 5 => ("WhichEncore$Told", "takesArm", "[I", true)
  | 6 => ("WhichEncore$Told", "worth", "[I", true)
  | 7 => ("WhichEncore$Told", "clappers", "I", false)
  | 8 => ("WhichEncore$Told", "encores", "I", false)
  | 9 => ("WhichEncore$Told", "arm", "I", false)
  | 10 => ("WhichEncore$Told", "close", "I", false)
  | _ => ("WhichEncore$Told", "hire", "I", false)
def tyX5 : Nat → FieldType := fun k => match k with
  | 0 => .array .int
  | 1 => .array .int
  | 2 => .array .int
  | 3 => .array .int
  | 4 => .array .int
  | 5 => .array .int
  | 6 => .array .int
  | 7 => .int
  | 8 => .int
  | 9 => .int
  | 10 => .int
  | _ => .int
abbrev wsX50 : List Cond := u_ws RX5 TX5 12
theorem nmX5 : ∀ a, a < 12 → ∀ b, b < 12 → a ≠ b → (TX5 a).2.1 ≠ (TX5 b).2.1 := by decide +kernel
theorem tyX5_ok : ∀ k, k < 12 → parseFieldDescriptor (TX5 k).2.2.1 = some (tyX5 k) := by decide +kernel
abbrev cX5_init : ByteArray := prog_7_method_1_code
def yX5_init : MethodName := ⟨RX5, "<init>", "()V"⟩
abbrev cX5_beAsAtFirst : ByteArray := prog_7_method_2_code
def yX5_beAsAtFirst : MethodName := ⟨RX5, "beAsAtFirst", "()V"⟩
abbrev cX5_copyFrom : ByteArray := prog_7_method_3_code
def yX5_copyFrom : MethodName := ⟨RX5, "copyFrom", "(LWhichEncore$Told;)V"⟩
abbrev cX5_hasClapper : ByteArray := prog_7_method_4_code
def yX5_hasClapper : MethodName := ⟨RX5, "hasClapper", "(I)Z"⟩
abbrev cX5_hasEncore : ByteArray := prog_7_method_5_code
def yX5_hasEncore : MethodName := ⟨RX5, "hasEncore", "(I)Z"⟩
abbrev cX5_minutesOf : ByteArray := prog_7_method_6_code
def yX5_minutesOf : MethodName := ⟨RX5, "minutesOf", "(I)I"⟩
abbrev cX5_sumOver : ByteArray := prog_7_method_7_code
def yX5_sumOver : MethodName := ⟨RX5, "sumOver", "([II)I"⟩
abbrev cX5_hasRoomFor : ByteArray := prog_7_method_8_code
def yX5_hasRoomFor : MethodName := ⟨RX5, "hasRoomFor", "(I)Z"⟩
abbrev cX5_carryOut : ByteArray := prog_7_method_9_code
def yX5_carryOut : MethodName := ⟨RX5, "carryOut", "(II[I)V"⟩
abbrev cX5_addClapper : ByteArray := prog_7_method_10_code
def yX5_addClapper : MethodName := ⟨RX5, "addClapper", "(I[I)V"⟩
abbrev cX5_addEncore : ByteArray := prog_7_method_11_code
def yX5_addEncore : MethodName := ⟨RX5, "addEncore", "(I[I)V"⟩
def RX6 : String := "WhichEncore"
def TX6 : u_T := fun k => match k with
  | 0 => ("WhichEncore", "told", "LWhichEncore$Told;", true)
  | 1 => ("WhichEncore", "text", "LWhichEncore$Text;", true)
  | 2 => ("WhichEncore", "now", "LWhichEncore$Evening;", true)
  | 3 => ("WhichEncore", "foretold", "LWhichEncore$Evening;", true)
  | 4 => ("WhichEncore", "search", "LWhichEncore$Search;", true)
  | 5 => ("WhichEncore", "past", "LWhichEncore$Past;", true)
  | 6 => ("WhichEncore", "kept", "[LWhichEncore$Evening;", true)
  | 7 => ("WhichEncore", "isKept", "[Z", true)
  | 8 => ("WhichEncore", "rowSteps", "[I", true)
  | _ => ("WhichEncore", "rowLength", "I", false)
def tyX6 : Nat → FieldType := fun k => match k with
  | 0 => .object "WhichEncore$Told"
  | 1 => .object "WhichEncore$Text"
  | 2 => .object "WhichEncore$Evening"
  | 3 => .object "WhichEncore$Evening"
  | 4 => .object "WhichEncore$Search"
  | 5 => .object "WhichEncore$Past"
  | 6 => .array (.object "WhichEncore$Evening")
  | 7 => .array .boolean
  | 8 => .array .int
  | _ => .int
abbrev wsX60 : List Cond := u_ws RX6 TX6 10
theorem nmX6 : ∀ a, a < 10 → ∀ b, b < 10 → a ≠ b → (TX6 a).2.1 ≠ (TX6 b).2.1 := by decide +kernel
theorem tyX6_ok : ∀ k, k < 10 → parseFieldDescriptor (TX6 k).2.2.1 = some (tyX6 k) := by decide +kernel
abbrev cX6_init : ByteArray := prog_1_method_1_code
def yX6_init : MethodName := ⟨RX6, "<init>", "()V"⟩
abbrev cX6_write : ByteArray := prog_1_method_2_code
def yX6_write : MethodName := ⟨RX6, "write", "(I)I"⟩
abbrev cX6_erase : ByteArray := prog_1_method_3_code
def yX6_erase : MethodName := ⟨RX6, "erase", "()I"⟩
abbrev cX6_fault : ByteArray := prog_1_method_4_code
def yX6_fault : MethodName := ⟨RX6, "fault", "()I"⟩
abbrev cX6_hall : ByteArray := prog_1_method_5_code
def yX6_hall : MethodName := ⟨RX6, "hall", "()I"⟩
abbrev cX6_clapper : ByteArray := prog_1_method_6_code
def yX6_clapper : MethodName := ⟨RX6, "clapper", "(II)I"⟩
abbrev cX6_encore : ByteArray := prog_1_method_7_code
def yX6_encore : MethodName := ⟨RX6, "encore", "(II)I"⟩
abbrev cX6_as : ByteArray := prog_1_method_8_code
def yX6_as : MethodName := ⟨RX6, "as", "(II)I"⟩
abbrev cX6_encoreAs : ByteArray := prog_1_method_9_code
def yX6_encoreAs : MethodName := ⟨RX6, "encoreAs", "(II)I"⟩
abbrev cX6_can : ByteArray := prog_1_method_10_code
def yX6_can : MethodName := ⟨RX6, "can", "(I)I"⟩
abbrev cX6_does : ByteArray := prog_1_method_11_code
def yX6_does : MethodName := ⟨RX6, "does", "(I)I"⟩
abbrev cX6_undo : ByteArray := prog_1_method_12_code
def yX6_undo : MethodName := ⟨RX6, "undo", "()I"⟩
abbrev cX6_keep : ByteArray := prog_1_method_13_code
def yX6_keep : MethodName := ⟨RX6, "keep", "(I)I"⟩
abbrev cX6_back : ByteArray := prog_1_method_14_code
def yX6_back : MethodName := ⟨RX6, "back", "(I)I"⟩
abbrev cX6_till : ByteArray := prog_1_method_15_code
def yX6_till : MethodName := ⟨RX6, "till", "()I"⟩
abbrev cX6_there : ByteArray := prog_1_method_16_code
def yX6_there : MethodName := ⟨RX6, "there", "(I)I"⟩
abbrev cX6_sound : ByteArray := prog_1_method_17_code
def yX6_sound : MethodName := ⟨RX6, "sound", "(I)I"⟩
abbrev cX6_best : ByteArray := prog_1_method_18_code
def yX6_best : MethodName := ⟨RX6, "best", "(I)I"⟩
abbrev cX6_row : ByteArray := prog_1_method_19_code
def yX6_row : MethodName := ⟨RX6, "row", "(I)I"⟩
abbrev cX6_tear : ByteArray := prog_1_method_20_code
def yX6_tear : MethodName := ⟨RX6, "tear", "()I"⟩
abbrev cX6_judge : ByteArray := prog_1_method_21_code
def yX6_judge : MethodName := ⟨RX6, "judge", "(I)I"⟩
abbrev cX6_stay : ByteArray := prog_1_method_22_code
def yX6_stay : MethodName := ⟨RX6, "stay", "(III)J"⟩
abbrev cX6_gone : ByteArray := prog_1_method_23_code
def yX6_gone : MethodName := ⟨RX6, "gone", "(II)I"⟩
abbrev cX6_prepared : ByteArray := prog_1_method_24_code
def yX6_prepared : MethodName := ⟨RX6, "prepared", "(I)I"⟩
abbrev cX6_other : ByteArray := prog_1_method_25_code
def yX6_other : MethodName := ⟨RX6, "other", "(I)I"⟩
abbrev cX6_count : ByteArray := prog_1_method_26_code
def yX6_count : MethodName := ⟨RX6, "count", "(I)I"⟩
abbrev cX6_beginAnew : ByteArray := prog_1_method_27_code
def yX6_beginAnew : MethodName := ⟨RX6, "beginAnew", "()V"⟩
abbrev cX6_refusalOf : ByteArray := prog_1_method_28_code
def yX6_refusalOf : MethodName := ⟨RX6, "refusalOf", "(I)I"⟩
abbrev cX6_foretellWaits : ByteArray := prog_1_method_29_code
def yX6_foretellWaits : MethodName := ⟨RX6, "foretellWaits", "(I)V"⟩
abbrev cX6_isUnder : ByteArray := prog_1_method_30_code
def yX6_isUnder : MethodName := ⟨RX6, "isUnder", "([III)Z"⟩
abbrev cX6_zealBehind : ByteArray := prog_1_method_31_code
def yX6_zealBehind : MethodName := ⟨RX6, "zealBehind", "(III)I"⟩
abbrev cX6_waysToStay : ByteArray := prog_1_method_32_code
def yX6_waysToStay : MethodName := ⟨RX6, "waysToStay", "(III)J"⟩
abbrev cX6_power : ByteArray := prog_1_method_33_code
def yX6_power : MethodName := ⟨RX6, "power", "(II)J"⟩
abbrev cX6_commonDivisor : ByteArray := prog_1_method_34_code
def yX6_commonDivisor : MethodName := ⟨RX6, "commonDivisor", "(JJ)J"⟩
def RX7 : String := "WhichEncoreModel"
def TX7 : u_T := fun k => match k with
  | 0 => ("WhichEncoreModel", "text", "[I", true)
  | 1 => ("WhichEncoreModel", "typed", "I", false)
  | 2 => ("WhichEncoreModel", "told", "[I", true)
  | 3 => ("WhichEncoreModel", "draft", "[I", true)
  | 4 => ("WhichEncoreModel", "s", "[I", true)
  | 5 => ("WhichEncoreModel", "past", "[I", true)
  | 6 => ("WhichEncoreModel", "known", "I", false)
  | 7 => ("WhichEncoreModel", "images", "[I", true)
  | 8 => ("WhichEncoreModel", "kept", "[Z", true)
  | 9 => ("WhichEncoreModel", "row", "[I", true)
  | 10 => ("WhichEncoreModel", "many", "I", false)
  | 11 => ("WhichEncoreModel", "sort", "I", false)
  | 12 => ("WhichEncoreModel", "start", "I", false)
  | 13 => ("WhichEncoreModel", "at", "I", false)
  | 14 => ("WhichEncoreModel", "value", "I", false)
  | 15 => ("WhichEncoreModel", "held", "[I", true)
  | 16 => ("WhichEncoreModel", "evenings", "[I", true)
  | 17 => ("WhichEncoreModel", "tried", "[I", true)
  | 18 => ("WhichEncoreModel", "bestRow", "[I", true)
  | 19 => ("WhichEncoreModel", "bestMany", "I", false)
  | _ => ("WhichEncoreModel", "bestBy", "I", false)
def tyX7 : Nat → FieldType := fun k => match k with
  | 0 => .array .int
  | 1 => .int
  | 2 => .array .int
  | 3 => .array .int
  | 4 => .array .int
  | 5 => .array .int
  | 6 => .int
  | 7 => .array .int
  | 8 => .array .boolean
  | 9 => .array .int
  | 10 => .int
  | 11 => .int
  | 12 => .int
  | 13 => .int
  | 14 => .int
  | 15 => .array .int
  | 16 => .array .int
  | 17 => .array .int
  | 18 => .array .int
  | 19 => .int
  | _ => .int
abbrev wsX70 : List Cond := u_ws RX7 TX7 21
theorem nmX7 : ∀ a, a < 21 → ∀ b, b < 21 → a ≠ b → (TX7 a).2.1 ≠ (TX7 b).2.1 := by decide +kernel
theorem tyX7_ok : ∀ k, k < 21 → parseFieldDescriptor (TX7 k).2.2.1 = some (tyX7 k) := by decide +kernel
abbrev cX7_init : ByteArray := prog_9_method_1_code
def yX7_init : MethodName := ⟨RX7, "<init>", "()V"⟩
abbrev cX7_in : ByteArray := prog_9_method_3_code
def yX7_in : MethodName := ⟨RX7, "in", "(III)Z"⟩
abbrev cX7_isClapper : ByteArray := prog_9_method_4_code
def yX7_isClapper : MethodName := ⟨RX7, "isClapper", "(I)Z"⟩
abbrev cX7_isEncore : ByteArray := prog_9_method_5_code
def yX7_isEncore : MethodName := ⟨RX7, "isEncore", "(I)Z"⟩
abbrev cX7_write : ByteArray := prog_9_method_6_code
def yX7_write : MethodName := ⟨RX7, "write", "(I)I"⟩
abbrev cX7_erase : ByteArray := prog_9_method_7_code
def yX7_erase : MethodName := ⟨RX7, "erase", "()I"⟩
abbrev cX7_letterAt : ByteArray := prog_9_method_8_code
def yX7_letterAt : MethodName := ⟨RX7, "letterAt", "(I)I"⟩
abbrev cX7_isLetter : ByteArray := prog_9_method_9_code
def yX7_isLetter : MethodName := ⟨RX7, "isLetter", "(I)Z"⟩
abbrev cX7_isDigit : ByteArray := prog_9_method_10_code
def yX7_isDigit : MethodName := ⟨RX7, "isDigit", "(I)Z"⟩
abbrev cX7_token : ByteArray := prog_9_method_11_code
def yX7_token : MethodName := ⟨RX7, "token", "()V"⟩
abbrev cX7_isWord : ByteArray := prog_9_method_12_code
def yX7_isWord : MethodName := ⟨RX7, "isWord", "(IIIIIIIII)Z"⟩
abbrev cX7_number : ByteArray := prog_9_method_13_code
def yX7_number : MethodName := ⟨RX7, "number", "(III)Z"⟩
abbrev cX7_forgets : ByteArray := prog_9_method_14_code
def yX7_forgets : MethodName := ⟨RX7, "forgets", "()V"⟩
abbrev cX7_readsClapper : ByteArray := prog_9_method_15_code
def yX7_readsClapper : MethodName := ⟨RX7, "readsClapper", "(I)Z"⟩
abbrev cX7_readsEncore : ByteArray := prog_9_method_16_code
def yX7_readsEncore : MethodName := ⟨RX7, "readsEncore", "(I)Z"⟩
abbrev cX7_readsClause : ByteArray := prog_9_method_17_code
def yX7_readsClause : MethodName := ⟨RX7, "readsClause", "()Z"⟩
abbrev cX7_reads : ByteArray := prog_9_method_18_code
def yX7_reads : MethodName := ⟨RX7, "reads", "()I"⟩
abbrev cX7_begins : ByteArray := prog_9_method_19_code
def yX7_begins : MethodName := ⟨RX7, "begins", "()V"⟩
abbrev cX7_fault : ByteArray := prog_9_method_20_code
def yX7_fault : MethodName := ⟨RX7, "fault", "()I"⟩
abbrev cX7_hall : ByteArray := prog_9_method_21_code
def yX7_hall : MethodName := ⟨RX7, "hall", "()I"⟩
abbrev cX7_isThere : ByteArray := prog_9_method_22_code
def yX7_isThere : MethodName := ⟨RX7, "isThere", "(I)Z"⟩
abbrev cX7_claps : ByteArray := prog_9_method_23_code
def yX7_claps : MethodName := ⟨RX7, "claps", "(I)Z"⟩
abbrev cX7_noise : ByteArray := prog_9_method_24_code
def yX7_noise : MethodName := ⟨RX7, "noise", "()I"⟩
abbrev cX7_thereNow : ByteArray := prog_9_method_25_code
def yX7_thereNow : MethodName := ⟨RX7, "thereNow", "()I"⟩
abbrev cX7_ones : ByteArray := prog_9_method_26_code
def yX7_ones : MethodName := ⟨RX7, "ones", "(I)I"⟩
abbrev cX7_clapper : ByteArray := prog_9_method_27_code
def yX7_clapper : MethodName := ⟨RX7, "clapper", "(II)I"⟩
abbrev cX7_encore : ByteArray := prog_9_method_28_code
def yX7_encore : MethodName := ⟨RX7, "encore", "(II)I"⟩
abbrev cX7_wasKnown : ByteArray := prog_9_method_29_code
def yX7_wasKnown : MethodName := ⟨RX7, "wasKnown", "()Z"⟩
abbrev cX7_loses : ByteArray := prog_9_method_30_code
def yX7_loses : MethodName := ⟨RX7, "loses", "(I)I"⟩
abbrev cX7_as : ByteArray := prog_9_method_31_code
def yX7_as : MethodName := ⟨RX7, "as", "(II)I"⟩
abbrev cX7_behind : ByteArray := prog_9_method_32_code
def yX7_behind : MethodName := ⟨RX7, "behind", "(III)I"⟩
abbrev cX7_encoreAs : ByteArray := prog_9_method_33_code
def yX7_encoreAs : MethodName := ⟨RX7, "encoreAs", "(II)I"⟩
abbrev cX7_lacks : ByteArray := prog_9_method_34_code
def yX7_lacks : MethodName := ⟨RX7, "lacks", "(I)I"⟩
abbrev cX7_can : ByteArray := prog_9_method_35_code
def yX7_can : MethodName := ⟨RX7, "can", "(I)I"⟩
abbrev cX7_minute : ByteArray := prog_9_method_36_code
def yX7_minute : MethodName := ⟨RX7, "minute", "()V"⟩
abbrev cX7_waitsOne : ByteArray := prog_9_method_37_code
def yX7_waitsOne : MethodName := ⟨RX7, "waitsOne", "()V"⟩
abbrev cX7_bows : ByteArray := prog_9_method_38_code
def yX7_bows : MethodName := ⟨RX7, "bows", "()V"⟩
abbrev cX7_plays : ByteArray := prog_9_method_39_code
def yX7_plays : MethodName := ⟨RX7, "plays", "(I)V"⟩
abbrev cX7_steps : ByteArray := prog_9_method_40_code
def yX7_steps : MethodName := ⟨RX7, "steps", "(I)V"⟩
abbrev cX7_does : ByteArray := prog_9_method_41_code
def yX7_does : MethodName := ⟨RX7, "does", "(I)I"⟩
abbrev cX7_undo : ByteArray := prog_9_method_42_code
def yX7_undo : MethodName := ⟨RX7, "undo", "()I"⟩
abbrev cX7_keep : ByteArray := prog_9_method_43_code
def yX7_keep : MethodName := ⟨RX7, "keep", "(I)I"⟩
abbrev cX7_back : ByteArray := prog_9_method_44_code
def yX7_back : MethodName := ⟨RX7, "back", "(I)I"⟩
abbrev cX7_holds : ByteArray := prog_9_method_45_code
def yX7_holds : MethodName := ⟨RX7, "holds", "()V"⟩
abbrev cX7_lets : ByteArray := prog_9_method_46_code
def yX7_lets : MethodName := ⟨RX7, "lets", "()V"⟩
abbrev cX7_till : ByteArray := prog_9_method_47_code
def yX7_till : MethodName := ⟨RX7, "till", "()I"⟩
abbrev cX7_behindWaits : ByteArray := prog_9_method_48_code
def yX7_behindWaits : MethodName := ⟨RX7, "behindWaits", "(IZ)I"⟩
abbrev cX7_there : ByteArray := prog_9_method_49_code
def yX7_there : MethodName := ⟨RX7, "there", "(I)I"⟩
abbrev cX7_sound : ByteArray := prog_9_method_50_code
def yX7_sound : MethodName := ⟨RX7, "sound", "(I)I"⟩
abbrev cX7_comesBack : ByteArray := prog_9_method_51_code
def yX7_comesBack : MethodName := ⟨RX7, "comesBack", "(I)V"⟩
abbrev cX7_goesOn : ByteArray := prog_9_method_52_code
def yX7_goesOn : MethodName := ⟨RX7, "goesOn", "(I)V"⟩
abbrev cX7_seeks : ByteArray := prog_9_method_53_code
def yX7_seeks : MethodName := ⟨RX7, "seeks", "()V"⟩
abbrev cX7_best : ByteArray := prog_9_method_54_code
def yX7_best : MethodName := ⟨RX7, "best", "(I)I"⟩
abbrev cX7_row : ByteArray := prog_9_method_55_code
def yX7_row : MethodName := ⟨RX7, "row", "(I)I"⟩
abbrev cX7_tear : ByteArray := prog_9_method_56_code
def yX7_tear : MethodName := ⟨RX7, "tear", "()I"⟩
abbrev cX7_judge : ByteArray := prog_9_method_57_code
def yX7_judge : MethodName := ⟨RX7, "judge", "(I)I"⟩
abbrev cX7_stay : ByteArray := prog_9_method_58_code
def yX7_stay : MethodName := ⟨RX7, "stay", "(III)J"⟩
abbrev cX7_gone : ByteArray := prog_9_method_59_code
def yX7_gone : MethodName := ⟨RX7, "gone", "(II)I"⟩
abbrev cX7_prepared : ByteArray := prog_9_method_60_code
def yX7_prepared : MethodName := ⟨RX7, "prepared", "(I)I"⟩
abbrev cX7_other : ByteArray := prog_9_method_61_code
def yX7_other : MethodName := ⟨RX7, "other", "(I)I"⟩
abbrev cX7_count : ByteArray := prog_9_method_62_code
def yX7_count : MethodName := ⟨RX7, "count", "(I)I"⟩
def RJx8e188 : String := "java/lang/Cloneable"
def TJx8e188 : u_T := fun k => match k with
  | _ => ("", "", "", false)
def tyJx8e188 : Nat → FieldType := fun k => match k with
  | _ => .int
abbrev wsJx8e1880 : List Cond := u_ws RJx8e188 TJx8e188 0
theorem nmJx8e188 : ∀ a, a < 0 → ∀ b, b < 0 → a ≠ b → (TJx8e188 a).2.1 ≠ (TJx8e188 b).2.1 := by decide +kernel
theorem tyJx8e188_ok : ∀ k, k < 0 → parseFieldDescriptor (TJx8e188 k).2.2.1 = some (tyJx8e188 k) := by decide +kernel
def RJx29ce0 : String := "java/lang/Enum"
def TJx29ce0 : u_T := fun k => match k with
  | _ => ("", "", "", false)
def tyJx29ce0 : Nat → FieldType := fun k => match k with
  | _ => .int
abbrev wsJx29ce00 : List Cond := u_ws RJx29ce0 TJx29ce0 0
theorem nmJx29ce0 : ∀ a, a < 0 → ∀ b, b < 0 → a ≠ b → (TJx29ce0 a).2.1 ≠ (TJx29ce0 b).2.1 := by decide +kernel
theorem tyJx29ce0_ok : ∀ k, k < 0 → parseFieldDescriptor (TJx29ce0 k).2.2.1 = some (tyJx29ce0 k) := by decide +kernel
def RJ6 : String := "java/lang/Integer"
def TJ6 : u_T := fun k => match k with
  | _ => ("", "", "", false)
def tyJ6 : Nat → FieldType := fun k => match k with
  | _ => .int
abbrev wsJ60 : List Cond := u_ws RJ6 TJ6 0
theorem nmJ6 : ∀ a, a < 0 → ∀ b, b < 0 → a ≠ b → (TJ6 a).2.1 ≠ (TJ6 b).2.1 := by decide +kernel
theorem tyJ6_ok : ∀ k, k < 0 → parseFieldDescriptor (TJ6 k).2.2.1 = some (tyJ6 k) := by decide +kernel
abbrev cJ6_bitCount_0f7a4 : ByteArray := prog_12_method_49_code
def yJ6_bitCount_0f7a4 : MethodName := ⟨RJ6, "bitCount", "(I)I"⟩
def RJ9 : String := "java/lang/Math"
def TJ9 : u_T := fun k => match k with
  | _ => ("", "", "", false)
def tyJ9 : Nat → FieldType := fun k => match k with
  | _ => .int
abbrev wsJ90 : List Cond := u_ws RJ9 TJ9 0
theorem nmJ9 : ∀ a, a < 0 → ∀ b, b < 0 → a ≠ b → (TJ9 a).2.1 ≠ (TJ9 b).2.1 := by decide +kernel
theorem tyJ9_ok : ∀ k, k < 0 → parseFieldDescriptor (TJ9 k).2.2.1 = some (tyJ9 k) := by decide +kernel
abbrev cJ9_max_7cf53 : ByteArray := prog_13_method_65_code
def yJ9_max_7cf53 : MethodName := ⟨RJ9, "max", "(II)I"⟩
abbrev cJ9_min_7cf53 : ByteArray := prog_13_method_69_code
def yJ9_min_7cf53 : MethodName := ⟨RJ9, "min", "(II)I"⟩
def RJ0 : String := "java/lang/String"
def TJ0 : u_T := fun k => match k with
  | _ => ("", "", "", false)
def tyJ0 : Nat → FieldType := fun k => match k with
  | _ => .int
abbrev wsJ00 : List Cond := u_ws RJ0 TJ0 0
theorem nmJ0 : ∀ a, a < 0 → ∀ b, b < 0 → a ≠ b → (TJ0 a).2.1 ≠ (TJ0 b).2.1 := by decide +kernel
theorem tyJ0_ok : ∀ k, k < 0 → parseFieldDescriptor (TJ0 k).2.2.1 = some (tyJ0 k) := by decide +kernel
abbrev cJ0_length_8abf5 : ByteArray := prog_14_method_54_code
def yJ0_length_8abf5 : MethodName := ⟨RJ0, "length", "()I"⟩
abbrev cJ0_charAt_5068e : ByteArray := prog_14_method_56_code
def yJ0_charAt_5068e : MethodName := ⟨RJ0, "charAt", "(I)C"⟩
abbrev cJ0_coder_7d493 : ByteArray := prog_14_method_152_code
def yJ0_coder_7d493 : MethodName := ⟨RJ0, "coder", "()B"⟩
abbrev cJ0_isLatin1_aae02 : ByteArray := prog_14_method_154_code
def yJ0_isLatin1_aae02 : MethodName := ⟨RJ0, "isLatin1", "()Z"⟩
abbrev cJ0_checkIndex_df160 : ByteArray := prog_14_method_155_code
def yJ0_checkIndex_df160 : MethodName := ⟨RJ0, "checkIndex", "(II)V"⟩
def RJ1 : String := "java/lang/StringLatin1"
def TJ1 : u_T := fun k => match k with
  | _ => ("", "", "", false)
def tyJ1 : Nat → FieldType := fun k => match k with
  | _ => .int
abbrev wsJ10 : List Cond := u_ws RJ1 TJ1 0
theorem nmJ1 : ∀ a, a < 0 → ∀ b, b < 0 → a ≠ b → (TJ1 a).2.1 ≠ (TJ1 b).2.1 := by decide +kernel
theorem tyJ1_ok : ∀ k, k < 0 → parseFieldDescriptor (TJ1 k).2.2.1 = some (tyJ1 k) := by decide +kernel
abbrev cJ1_charAt_3b067 : ByteArray := prog_15_method_2_code
def yJ1_charAt_3b067 : MethodName := ⟨RJ1, "charAt", "([BI)C"⟩
def RJ2 : String := "java/lang/StringUTF16"
def TJ2 : u_T := fun k => match k with
  | _ => ("", "", "", false)
def tyJ2 : Nat → FieldType := fun k => match k with
  | _ => .int
abbrev wsJ20 : List Cond := u_ws RJ2 TJ2 0
theorem nmJ2 : ∀ a, a < 0 → ∀ b, b < 0 → a ≠ b → (TJ2 a).2.1 ≠ (TJ2 b).2.1 := by decide +kernel
theorem tyJ2_ok : ∀ k, k < 0 → parseFieldDescriptor (TJ2 k).2.2.1 = some (tyJ2 k) := by decide +kernel
abbrev cJ2_getChar_3b067 : ByteArray := prog_16_method_5_code
def yJ2_getChar_3b067 : MethodName := ⟨RJ2, "getChar", "([BI)C"⟩
abbrev cJ2_length_9d52b : ByteArray := prog_16_method_6_code
def yJ2_length_9d52b : MethodName := ⟨RJ2, "length", "([B)I"⟩
abbrev cJ2_charAt_3b067 : ByteArray := prog_16_method_83_code
def yJ2_charAt_3b067 : MethodName := ⟨RJ2, "charAt", "([BI)C"⟩
abbrev cJ2_checkIndex_2214a : ByteArray := prog_16_method_91_code
def yJ2_checkIndex_2214a : MethodName := ⟨RJ2, "checkIndex", "(I[B)V"⟩
def RJ10 : String := "java/lang/System"
def TJ10 : u_T := fun k => match k with
  | _ => ("", "", "", false)
def tyJ10 : Nat → FieldType := fun k => match k with
  | _ => .int
abbrev wsJ100 : List Cond := u_ws RJ10 TJ10 0
theorem nmJ10 : ∀ a, a < 0 → ∀ b, b < 0 → a ≠ b → (TJ10 a).2.1 ≠ (TJ10 b).2.1 := by decide +kernel
theorem tyJ10_ok : ∀ k, k < 0 → parseFieldDescriptor (TJ10 k).2.2.1 = some (tyJ10 k) := by decide +kernel
def RJ3 : String := "jdk/internal/util/Preconditions"
def TJ3 : u_T := fun k => match k with
  | _ => ("", "", "", false)
def tyJ3 : Nat → FieldType := fun k => match k with
  | _ => .int
abbrev wsJ30 : List Cond := u_ws RJ3 TJ3 0
theorem nmJ3 : ∀ a, a < 0 → ∀ b, b < 0 → a ≠ b → (TJ3 a).2.1 ≠ (TJ3 b).2.1 := by decide +kernel
theorem tyJ3_ok : ∀ k, k < 0 → parseFieldDescriptor (TJ3 k).2.2.1 = some (tyJ3 k) := by decide +kernel
abbrev cJ3_checkIndex_8e157 : ByteArray := prog_18_method_11_code
def yJ3_checkIndex_8e157 : MethodName := ⟨RJ3, "checkIndex", "(IILjava/util/function/BiFunction;)I"⟩
def RL : String := "WhichEncoreLaw"
abbrev cL_law : ByteArray := code
def yL_law : MethodName := ⟨RL, "law", "([I)Z"⟩
end
section
/-! The world of both programs: cells by number, their whole numbers in one memory. -/
abbrev Mem : Type := Nat → Nat → Int32
def up2 (M : Mem) (k j : Nat) (v : Int32) : Mem := fun a b => if a = k ∧ b = j then v else M a b
abbrev Cx : Type := va_G × (Nat → ClassId) × (Nat → Nat) × List Nat
abbrev xD (X : Cx) : va_G := X.1
abbrev xca (X : Cx) : Nat → ClassId := X.2.1
abbrev xad (X : Cx) : Nat → Nat := X.2.2.1
abbrev xcs (X : Cx) : List Nat := X.2.2.2
abbrev classes : List vw_C := [(RX1, TX1, 10), (RX2, TX2, 3), (RX3, TX3, 5), (RX4, TX4, 7), (RX5, TX5, 12), (RX6, TX6, 10), (RX7, TX7, 21)]
/-- the kinds of the cells: 0 .. 6 an object of that class, 20 ints, 21 chars, 22 booleans, 23 evenings, 24 clauses -/
def kdL : List Nat := [5, 4, 20, 20, 20, 20, 20, 20, 20, 3, 4, 20, 20, 20, 20, 20, 20, 20, 21, 20, 24, 0, 20, 0, 20, 2, 20, 20, 23, 0, 20, 0, 20, 0, 20, 0, 20, 0, 20, 0, 20, 0, 20, 1, 23, 0, 20, 0, 20, 0, 20, 0, 20, 0, 20, 0, 20, 0, 20, 0, 20, 23, 22, 20, 0, 20, 0, 20, 99, 99, 6, 20, 20, 20, 20, 20, 20, 22, 20, 20, 20, 20, 20]
def lnL : List Nat := [10, 12, 8, 8, 8, 4, 4, 4, 4, 7, 12, 8, 8, 8, 4, 4, 4, 4, 160, 3, 13, 10, 8, 10, 8, 5, 6, 6, 7, 10, 8, 10, 8, 10, 8, 10, 8, 10, 8, 10, 8, 10, 8, 3, 8, 10, 8, 10, 8, 10, 8, 10, 8, 10, 8, 10, 8, 10, 8, 10, 8, 2, 2, 12, 10, 8, 10, 8, 0, 0, 21, 160, 45, 45, 14, 112, 28, 2, 12, 14, 98, 6, 6]
def kd (k : Nat) : Nat := kdL.getD k 99
def ln (k : Nat) : Nat := lnL.getD k 0
/-- the cell that field j of an object (of class ci, cell k) holds; none: a whole number -/
def rfc (ci j k : Nat) : Option Nat := match ci with
  | 0 => if j = 0 then some (k + 1) else if j = 9 then some 1 else none
  | 1 => if j = 2 then some 44 else none
  | 2 => if j = 2 then some 26 else if j = 3 then some 27 else if j = 4 then some 28 else none
  | 3 => if j = 0 then some 10 else if j = 3 then some 18 else if j = 4 then some 19 else if j = 5 then some 20 else none
  | 4 => if j < 7 then some (k + 1 + j) else none
  | 5 => if j = 0 then some 1 else if j = 1 then some 9 else if j = 2 then some 21 else if j = 3 then some 23 else if j = 4 then some 25 else if j = 5 then some 43 else if j = 6 then some 61 else if j = 7 then some 62 else if j = 8 then some 63 else none
  | _ => if j = 0 then some 71 else if j = 2 then some 72 else if j = 3 then some 73 else if j = 4 then some 74 else if j = 5 then some 75 else if j = 7 then some 76 else if j = 8 then some 77 else if j = 9 then some 78 else if j = 15 then some 79 else if j = 16 then some 80 else if j = 17 then some 81 else if j = 18 then some 82 else none
/-- the cell that place i of a row of references holds -/
def rae (k i : Nat) : Nat := if k = 28 then 29 + 2 * i else if k = 44 then 45 + 2 * i else if k = 61 then 64 + 2 * i else 1000 + i
def vfld (X : Cx) (M : Mem) (k j : Nat) : Value := match rfc (kd k) j k with
  | some t => .ref (xad X t)
  | none => .int (M k j)
def ce (X : Cx) (M : Mem) (k : Nat) : va_E :=
  if kd k < 20 then .inr (kd k, (List.range (ln k)).map (vfld X M k))
  else if kd k < 23 then .inl (xca X k, ln k, .inl (M k))
  else .inl (xca X k, ln k, .inr (.inr (.inr (.inr (fun i => some (xad X (rae k i)))))))
def wl (X : Cx) (M : Mem) : va_W := (xcs X).map (fun k => (xad X k, ce X M k))
def xA (X : Cx) : Nat → Prop := fun q => ∃ k, k ∈ xcs X ∧ q = xad X k
def CxOk (X : Cx) : Prop := (∀ i j, i ∈ xcs X → j ∈ xcs X → xad X i = xad X j → i = j) ∧ va_nd (xcs X) = true
theorem wl_at {X : Cx} {k : Nat} (hk : k ∈ xcs X) (M : Mem) : ∃ p : Nat, (wl X M)[p]? = some (xad X k, ce X M k) := by
  obtain ⟨p, hp⟩ := List.getElem?_of_mem hk
  exact ⟨p, by simp [wl, hp]⟩
theorem wl_of {X : Cx} {M : Mem} {p : Nat} {q : Nat × va_E} (h : (wl X M)[p]? = some q) : ∃ k, (xcs X)[p]? = some k ∧ q = (xad X k, ce X M k) := by
  unfold wl at h
  rw [List.getElem?_map] at h
  cases hk : (xcs X)[p]? with
  | none => rw [hk] at h; cases h
  | some k => rw [hk] at h; exact ⟨k, rfl, (Option.some.inj h).symm⟩
theorem wl_D {X : Cx} (h : CxOk X) (M : Mem) : va_D (xA X) (wl X M) := by
  refine ⟨fun i j a b hi hj hab => ?_, fun k q hk => ?_⟩
  · obtain ⟨x, hx, rfl⟩ := wl_of hi
    obtain ⟨y, hy, rfl⟩ := wl_of hj
    have hxy : x = y := h.1 x y (List.mem_of_getElem? hx) (List.mem_of_getElem? hy) hab
    subst hxy
    exact va_nd_inj _ h.2 _ _ _ hx hy
  · obtain ⟨x, hx, rfl⟩ := wl_of hk
    exact ⟨x, List.mem_of_getElem? hx, rfl⟩
theorem wl_set {X : Cx} (h : CxOk X) {M M' : Mem} {p k : Nat} {e : va_E} (hp : (wl X M)[p]? = some (xad X k, ce X M k)) (hk : k ∈ xcs X) (he : ce X M' k = e) (ho : ∀ j, j ≠ k → ce X M' j = ce X M j) : (wl X M).set p (xad X k, e) = wl X M' := by
  apply List.ext_getElem?
  intro i
  have hl := (List.getElem?_eq_some_iff.mp hp).1
  by_cases hi : p = i
  · subst hi
    rw [List.getElem?_set_self hl]
    obtain ⟨x, hx, hxe⟩ := wl_of hp
    have hxk : x = k := h.1 x k (List.mem_of_getElem? hx) hk (congrArg Prod.fst hxe).symm
    subst hxk
    simp [wl, hx, he]
  · rw [List.getElem?_set_ne hi]
    unfold wl
    rw [List.getElem?_map, List.getElem?_map]
    cases hx : (xcs X)[i]? with
    | none => rfl
    | some x =>
      have hne : x ≠ k := by
        intro hxk
        subst hxk
        obtain ⟨y, hy, hye⟩ := wl_of hp
        have hyx : y = x := h.1 y x (List.mem_of_getElem? hy) hk (congrArg Prod.fst hye).symm
        subst hyx
        exact hi (va_nd_inj _ h.2 _ _ _ hy hx)
      simp [ho x hne]
theorem up2_row (M : Mem) (k j : Nat) (v : Int32) : (up2 M k j v) k = upd (M k) j v := by
  funext b
  simp [up2, upd]
theorem up2_other (M : Mem) {k a : Nat} (j : Nat) (v : Int32) (h : a ≠ k) : (up2 M k j v) a = M a := by
  funext b
  simp [up2, h]
theorem ce_row {X : Cx} {M M' : Mem} {k : Nat} (h : M' k = M k) : ce X M' k = ce X M k := by
  unfold ce vfld
  rw [h]
theorem ce_obj {X : Cx} {M : Mem} {k ci : Nat} (h : kd k = ci) (hc : ci < 20) : ce X M k = .inr (ci, (List.range (ln k)).map (vfld X M k)) := by
  unfold ce
  rw [h, if_pos hc]
theorem ce_arr {X : Cx} {M : Mem} {k : Nat} (h : 20 ≤ kd k) (h2 : kd k < 23) : ce X M k = .inl (xca X k, ln k, .inl (M k)) := by
  unfold ce
  rw [if_neg (Nat.not_lt.mpr h), if_pos h2]
theorem ce_ref {X : Cx} {M : Mem} {k : Nat} (h : 23 ≤ kd k) : ce X M k = .inl (xca X k, ln k, .inr (.inr (.inr (.inr (fun i => some (xad X (rae k i))))))) := by
  unfold ce
  rw [if_neg (by omega), if_neg (by omega)]
theorem ce_put {X : Cx} {M : Mem} {k ci j : Nat} {v : Int32} (h : kd k = ci) (hc : ci < 20) (hj : j < ln k) (hr : rfc ci j k = none) : ce X (up2 M k j v) k = .inr (ci, ((List.range (ln k)).map (vfld X M k)).set j (.int v)) := by
  rw [ce_obj h hc]
  congr 2
  apply List.ext_getElem?
  intro i
  by_cases hi : j = i
  · subst hi
    rw [List.getElem?_set_self (by simpa using hj)]
    simp [hj, vfld, h, hr, up2]
  · rw [List.getElem?_set_ne hi]
    simp only [List.getElem?_map]
    cases hx : (List.range (ln k))[i]? with
    | none => rfl
    | some x =>
      have hxi : x = i := by
        have := (List.getElem?_eq_some_iff.mp hx).2
        simpa using this.symm
      subst hxi
      simp only [Option.map_some]
      congr 1
      unfold vfld
      rw [h]
      cases rfc ci x k with
      | some t => rfl
      | none => simp [up2]; exact fun e => absurd e.symm hi
/-- what the tables say of the classes and of the rows -/
def kty (k : Nat) : FieldType := if kd k = 20 then .int else if kd k = 21 then .char else if kd k = 22 then .boolean else if kd k = 23 then .object RX1 else .object RX0
def KX (X : Cx) (U : State) : Prop := (∀ (c : Nat) (q : vw_C), classes[c]? = some q → u_Kn U q.1 q.2.1 q.2.2 ((xD X).1 c) ((xD X).2 c)) ∧ ∀ k, k ∈ xcs X → 20 ≤ kd k → ArrOfT U (xca X k) (kty k) ∧ va_RA U (xca X k) (kty k)
theorem KX.moved {X : Cx} {u U : State} (hvm : u.vm.Alike U.vm) (h : KX X u) : KX X U := ⟨fun c q hq => u_Kn_moved hvm (h.1 c q hq), fun k hk h2 => ⟨arrOfT_moved hvm (h.2 k hk h2).1, (h.2 k hk h2).2.moved hvm⟩⟩
theorem KX.k0 {X : Cx} {U : State} (h : KX X U) : va_K (xD X) classes [] U := ⟨h.1, fun k q hq => by simp at hq⟩
theorem KX.k1 {X : Cx} {U : State} (h : KX X U) {k : Nat} (hk : k ∈ xcs X) (h2 : 20 ≤ kd k) {ty : FieldType} (ht : kty k = ty) : va_K (xD X) classes [(xca X k, ty)] U := by
  refine ⟨h.1, fun i q hq => ?_⟩
  have hz : i < 1 := (List.getElem?_eq_some_iff.mp hq).1
  rw [show i = 0 by omega] at hq
  cases hq
  rw [← ht]
  exact h.2 k hk h2
theorem KX.k2 {X : Cx} {U : State} (h : KX X U) {k k' : Nat} (hk : k ∈ xcs X) (h2 : 20 ≤ kd k) (hk' : k' ∈ xcs X) (h2' : 20 ≤ kd k') {ty : FieldType} (ht : kty k = ty) (ht' : kty k' = ty) : va_K (xD X) classes [(xca X k, ty), (xca X k', ty)] U := by
  refine ⟨h.1, fun i q hq => ?_⟩
  have hz : i < 2 := (List.getElem?_eq_some_iff.mp hq).1
  rcases (show i = 0 ∨ i = 1 by omega) with rfl | rfl
  · cases hq
    rw [← ht]
    exact h.2 k hk h2
  · cases hq
    rw [← ht']
    exact h.2 k' hk' h2'
end
section
/-! What never changes: constants, their texts, tables; the invariant; the judgement G over it, and its rows. -/
def cBytes : List (List Int32) := [[104, 97, 108, 108], [103, 117, 101, 115, 116], [102, 97, 110], [115, 108, 101, 101, 112, 101, 114], [115, 104, 111, 117, 116, 101, 114], [112, 108, 97, 105, 110], [113, 117, 105, 101, 116], [98, 114, 105, 108, 108, 105, 97, 110, 116], [107, 110, 111, 119, 110], [97, 114, 109], [99, 108, 111, 115, 101], [104, 105, 114, 101], [101, 109, 112, 116, 121]]
def cDeeds : List Int32 := [0, 1, 1, 1, 1, 2, 2, 2, 2, 3, 4, 5, 6]
def cKinds : List Int32 := [0, 0, 1, 2, 3, 0, 1, 2, 3, 0, 0, 0, 0]
def tNames : List String := ["OVER_CLAPPERS", "OVER_ENCORES", "HOW_MANY_NUMBERS", "LOWEST", "HIGHEST"]
def tTabs : List (List Int32) := [[-1, 0, 1, 0, 2], [-1, 0, 0, 1, 3], [0, 2, 3, 1, 1, 1, 0], [0, 0, 0, 0, 1, 0, 1, 1, 0, 0, 0, 0, 0, 0, 0, 0, 0, 0, 0, 0, 0], [0, 0, 0, 20, 99, 0, 9, 9, 30, 30, 0, 0, 99, 0, 0, 9, 0, 0, 0, 0, 0]]
def cB (i j : Nat) : Int32 := (cBytes.getD i []).getD j 0
def cN (i : Nat) : Nat := (cBytes.getD i []).length
def tV (i j : Nat) : Int32 := (tTabs.getD i []).getD j 0
def tN (i : Nat) : Nat := (tTabs.getD i []).length
def St1 (X : Cx) (i : Nat) (U : State) (H : Heap) : Prop := va_O RX0 (xad X (1000 + i)) (xA X) U H ∧ va_OF RX0 "word" "Ljava/lang/String;" (.ref (xad X (1020 + i))) (xad X (1000 + i)) (xA X) U H ∧ va_OF RX0 "deed" "I" (.int (cDeeds.getD i 0)) (xad X (1000 + i)) (xA X) U H ∧ va_OF RX0 "kind" "I" (.int (cKinds.getD i 0)) (xad X (1000 + i)) (xA X) U H ∧ va_O "java/lang/String" (xad X (1020 + i)) (xA X) U H ∧ va_OF "java/lang/String" "coder" "B" (.int 0) (xad X (1020 + i)) (xA X) U H ∧ va_OF "java/lang/String" "value" "[B" (.ref (xad X (1040 + i))) (xad X (1020 + i)) (xA X) U H ∧ va_T .byte (xad X (1040 + i)) (cN i) (fun j => .int (cB i j)) (xA X) U H
def St2 (X : Cx) (i : Nat) (U : State) (H : Heap) : Prop := va_Z RX6 (tNames.getD i "") "[I" (.ref (xad X (1060 + i))) (xA X) U H ∧ va_T .int (xad X (1060 + i)) (tN i) (fun j => .int (tV i j)) (xA X) U H
def St3 (X : Cx) (U : State) (H : Heap) : Prop := va_Z "java/lang/String" "COMPACT_STRINGS" "Z" (.int 1) (xA X) U H ∧ (va_Z "jdk/internal/util/Preconditions" "SIOOBE_FORMATTER" "Ljava/util/function/BiFunction;" .null (xA X) U H ∨ va_Z "jdk/internal/util/Preconditions" "SIOOBE_FORMATTER" "Ljava/util/function/BiFunction;" (.ref (xad X 1099)) (xA X) U H)
def St4 (U : State) : Prop := va_Nw (.methodLinkNest RX1 130 yX6_zealBehind RX6) U ∧ va_Nw (.fieldLinkNest RX4 72 RX6 "HOW_MANY_NUMBERS" "[I" RX6) U ∧ va_Nw (.fieldLinkNest RX4 75 RX6 "LOWEST" "[I" RX6) U ∧ va_Nw (.fieldLinkNest RX4 78 RX6 "HIGHEST" "[I" RX6) U
def St (X : Cx) (U : State) (H : Heap) : Prop := (∀ i, i < 13 → St1 X i U H) ∧ (∀ i, i < 5 → St2 X i U H) ∧ St3 X U H ∧ St4 U
theorem St.move {X : Cx} {s U : State} {H : Heap} {locs : List Loc} (hW : s.WarmedH U.vm) (hS : va_S (xA X) s.heap H locs) (hU : U.heap = H) (h : St X s s.heap) : St X U U.heap := by
  have hq := hS.2.1
  rw [hU]
  obtain ⟨h1, h2, h3, h4⟩ := h
  refine ⟨fun i hi => ?_, fun i hi => ?_, ?_, ?_⟩
  · obtain ⟨a1, a2, a3, a4, a5, a6, a7, a8⟩ := h1 i hi
    exact ⟨va_O.moved hW.alike (a1.kept hq), va_OF.moved hW.alike (a2.kept hq), va_OF.moved hW.alike (a3.kept hq), va_OF.moved hW.alike (a4.kept hq), va_O.moved hW.alike (a5.kept hq), va_OF.moved hW.alike (a6.kept hq), va_OF.moved hW.alike (a7.kept hq), va_T.moved hW.alike (a8.kept hq)⟩
  · obtain ⟨a1, a2⟩ := h2 i hi
    exact ⟨va_Z.moved hW.alike (a1.kept hq), va_T.moved hW.alike (a2.kept hq)⟩
  · obtain ⟨a1, a2⟩ := h3
    refine ⟨va_Z.moved hW.alike (a1.kept hq), ?_⟩
    rcases a2 with a | a
    · exact Or.inl (va_Z.moved hW.alike (a.kept hq))
    · exact Or.inr (va_Z.moved hW.alike (a.kept hq))
  · obtain ⟨a1, a2, a3, a4⟩ := h4
    exact ⟨a1.warmM hW, a2.warmF hW, a3.warmF hW, a4.warmF hW⟩
def Inv (X : Cx) (M : Mem) (U : State) : Prop := va_P (xD X) classes (wl X M) U.heap ∧ KX X U ∧ St X U U.heap
theorem Inv.blind {X : Cx} {M : Mem} {av : List Value} : FrameBlind (va_Pc av (Inv X M)) := by
  intro a U g mk q
  obtain ⟨q0, q1, q2, q3⟩ := q
  have hW : U.WarmedH (U.calling g mk a).vm := State.WarmedH.refl U
  refine ⟨q0, q1, KX.moved (u := U) (U := U.calling g mk a) (Vm.Alike.refl U.vm) q2, ?_⟩
  exact St.move (s := U) (U := U.calling g mk a) (H := U.heap) (locs := []) hW va_S.rf rfl q3
/-- the good words of the tables -/
def tb : List Cond := lw_tbl.filter goodWord
theorem tb_mem {w : Cond} (i : Nat) (h : lw_tbl[i]? = some w) (g : goodWord w = true) : w ∈ tb := List.mem_filter.mpr ⟨List.mem_of_getElem? h, g⟩
theorem tb_good {w : Cond} (h : w ∈ tb) : (w.onTables && w.keeps) = true ∨ ∃ ty, w = .arrayClass ty := good_of_word (List.mem_filter.mp h).2
theorem tb_in {ws : List Cond} (h : ∀ w ∈ ws, w ∈ tb) : GoodIn tb (ws ++ tb) := by
  intro w hw
  rcases List.mem_append.mp hw with h1 | h1
  · exact ⟨h w h1, tb_good (h w h1)⟩
  · exact ⟨h1, tb_good h1⟩
/-- a frame's surroundings: program, launch, environment, room, the state at its entry, method, arguments, the frames below, the method's own table, code, the end, cells and slots made -/
abbrev Fx : Type := Program × Launch × Env × Room × State × MethodId × Array Value × List Frame × Method × Code × (State → Prop) × Nat × Nat
abbrev fP (F : Fx) : Program := F.1
abbrev fL (F : Fx) : Launch := F.2.1
abbrev fE (F : Fx) : Env := F.2.2.1
abbrev fR (F : Fx) : Room := F.2.2.2.1
abbrev fS (F : Fx) : State := F.2.2.2.2.1
abbrev fM (F : Fx) : MethodId := F.2.2.2.2.2.1
abbrev fA (F : Fx) : Array Value := F.2.2.2.2.2.2.1
abbrev fB (F : Fx) : List Frame := F.2.2.2.2.2.2.2.1
abbrev fT (F : Fx) : Method := F.2.2.2.2.2.2.2.2.1
abbrev fC (F : Fx) : Code := F.2.2.2.2.2.2.2.2.2.1
abbrev fQ (F : Fx) : State → Prop := F.2.2.2.2.2.2.2.2.2.2.1
abbrev fc (F : Fx) : Nat := F.2.2.2.2.2.2.2.2.2.2.2.1
abbrev fs (F : Fx) : Nat := F.2.2.2.2.2.2.2.2.2.2.2.2
abbrev fW (F : Fx) (H : Heap) (locs : List Loc) (g : JFrame) : Prop := W (fP F) (fL F) (fE F) (fR F) (fS F) (fM F) (fA F) (fB F) (fT F) (fC F) H locs (fc F) (fs F) (fQ F) g
def cv (X : Cx) (v : Value) : Value := match v with
  | .ref k => .ref (xad X k)
  | w => w
theorem cv_cat (X : Cx) (v : Value) : (cv X v).category = v.category := by cases v <;> rfl
/-- locals by their places -/
def lz (X : Cx) : Nat → List (Option Value) → List (Nat × Value)
  | _, [] => []
  | i, some v :: t => (i, cv X v) :: lz X (i + 1) t
  | i, none :: t => lz X (i + 1) t
theorem lz_mem {X : Cx} {q : Nat × Value} : ∀ (L : List (Option Value)) (i : Nat), q ∈ lz X i L ↔ ∃ (j : Nat) (v : Value), L[j]? = some (some v) ∧ q = (i + j, cv X v)
  | [], i => by simp [lz]
  | none :: t, i => by
    rw [lz, lz_mem t (i + 1)]
    constructor
    · rintro ⟨j, v, h, rfl⟩
      exact ⟨j + 1, v, by simpa using h, by congr 1; omega⟩
    · rintro ⟨j, v, h, rfl⟩
      cases j with
      | zero => simp at h
      | succ j => exact ⟨j, v, by simpa using h, by congr 1; omega⟩
  | some w :: t, i => by
    rw [lz, List.mem_cons, lz_mem t (i + 1)]
    constructor
    · rintro (rfl | ⟨j, v, h, rfl⟩)
      · exact ⟨0, w, by simp, by simp⟩
      · exact ⟨j + 1, v, by simpa using h, by congr 1; omega⟩
    · rintro ⟨j, v, h, rfl⟩
      cases j with
      | zero =>
        have hw : w = v := by simpa using h
        subst hw
        exact Or.inl (by simp)
      | succ j => exact Or.inr ⟨j, v, by simpa using h, by congr 1; omega⟩
def lvR (X : Cx) (ls : Array Slot) (L : List (Option Value)) : Prop := lv_has ls L.length (lz X 0 L)
theorem lvR.get {X : Cx} {ls : Array Slot} {L : List (Option Value)} (h : lvR X ls L) {i : Nat} {v : Value} (hi : L[i]? = some (some v)) : ls[i]? = some (.val (cv X v)) :=
  h.2.2 (i, cv X v) ((lz_mem L 0).mpr ⟨i, v, hi, by simp⟩)
/-- a store kills a wide value that began one place ahead -/
def kil (L : List (Option Value)) (i : Nat) : List (Option Value) := match i with
  | 0 => L
  | j + 1 => match L[j]? with
    | some (some w) => if w.category = 2 then L.set j none else L
    | _ => L
theorem kil_len (L : List (Option Value)) (i : Nat) : (kil L i).length = L.length := by
  unfold kil
  cases i with
  | zero => rfl
  | succ j =>
    dsimp only
    split
    · split <;> simp
    · rfl
theorem kil_of {L : List (Option Value)} {i j : Nat} {v : Value} (h : (kil L i)[j]? = some (some v)) : L[j]? = some (some v) ∧ ¬ (j + 1 = i ∧ v.category = 2) := by
  unfold kil at h
  cases i with
  | zero => exact ⟨h, fun q => by omega⟩
  | succ k =>
    dsimp only at h
    split at h
    · next w hw =>
      split at h
      · next hc =>
        by_cases hjk : k = j
        · subst hjk
          rw [List.getElem?_set_self (List.getElem?_eq_some_iff.mp hw).1] at h
          cases h
        · rw [List.getElem?_set_ne hjk] at h
          exact ⟨h, fun q => hjk (by omega)⟩
      · next hc =>
        refine ⟨h, fun q => ?_⟩
        have : j = k := by omega
        subst this
        rw [hw] at h
        cases h
        exact hc q.2
    · next hw =>
      refine ⟨h, fun q => ?_⟩
      have : j = k := by omega
      subst this
      exact hw v h
def st1 (L : List (Option Value)) (i : Nat) (v : Value) : List (Option Value) := (kil L i).set i (some v)
def st2 (L : List (Option Value)) (i : Nat) (v : Value) : List (Option Value) := ((kil L i).set (i + 1) none).set i (some v)
theorem lvR.s1 {X : Cx} {ls' : Array Slot} {L : List (Option Value)} {i : Nat} {v : Value} (hi : i < L.length) (h : lv_has ls' L.length ((i, cv X v) :: (lz X 0 L).filter (fun q => !(q.1 == i) && !(q.1 + 1 == i && q.2.category == 2)))) : lvR X ls' (st1 L i v) := by
  have hlen : (st1 L i v).length = L.length := by simp [st1, kil_len]
  refine ⟨by rw [hlen]; exact h.1, h.2.1, fun q hq => h.2.2 q ?_⟩
  obtain ⟨j, w, hj, rfl⟩ := (lz_mem _ 0).mp hq
  unfold st1 at hj
  by_cases hij : i = j
  · subst hij
    rw [List.getElem?_set_self (by rw [kil_len]; exact hi)] at hj
    cases hj
    simp
  · rw [List.getElem?_set_ne hij] at hj
    obtain ⟨h1, h2⟩ := kil_of hj
    refine List.mem_cons_of_mem _ (List.mem_filter.mpr ⟨(lz_mem _ 0).mpr ⟨j, w, h1, rfl⟩, ?_⟩)
    have h3 : ¬ j = i := fun q => hij q.symm
    simp only [Nat.zero_add, cv_cat, Bool.and_eq_true, Bool.not_eq_true', beq_eq_false_iff_ne, ne_eq, h3, not_false_eq_true, true_and, Bool.and_eq_false_iff]
    by_cases h4 : j + 1 = i
    · exact Or.inr fun q => h2 ⟨h4, q⟩
    · exact Or.inl h4
theorem lvR.s2 {X : Cx} {ls' : Array Slot} {L : List (Option Value)} {i : Nat} {v : Value} (hi : i + 1 < L.length) (h : lv_has ls' L.length ((i, cv X v) :: (lz X 0 L).filter (fun q => !(q.1 == i) && (!(q.1 == i + 1) && !(q.1 + 1 == i && q.2.category == 2))))) : lvR X ls' (st2 L i v) := by
  have hlen : (st2 L i v).length = L.length := by simp [st2, kil_len]
  refine ⟨by rw [hlen]; exact h.1, h.2.1, fun q hq => h.2.2 q ?_⟩
  obtain ⟨j, w, hj, rfl⟩ := (lz_mem _ 0).mp hq
  unfold st2 at hj
  by_cases hij : i = j
  · subst hij
    rw [List.getElem?_set_self (by simp [kil_len]; omega)] at hj
    cases hj
    simp
  · rw [List.getElem?_set_ne hij] at hj
    by_cases hij2 : i + 1 = j
    · subst hij2
      rw [List.getElem?_set_self (by rw [kil_len]; exact hi)] at hj
      cases hj
    · rw [List.getElem?_set_ne hij2] at hj
      obtain ⟨h1, h2⟩ := kil_of hj
      refine List.mem_cons_of_mem _ (List.mem_filter.mpr ⟨(lz_mem _ 0).mpr ⟨j, w, h1, rfl⟩, ?_⟩)
      have h3 : ¬ j = i := fun q => hij q.symm
      have h5 : ¬ j = i + 1 := fun q => hij2 q.symm
      simp only [Nat.zero_add, cv_cat, Bool.and_eq_true, Bool.not_eq_true', beq_eq_false_iff_ne, ne_eq, h3, h5, not_false_eq_true, true_and, Bool.and_eq_false_iff]
      by_cases h4 : j + 1 = i
      · exact Or.inr fun q => h2 ⟨h4, q⟩
      · exact Or.inl h4
/-- what holds of the surroundings all along -/
def FK (X : Cx) (F : Fx) (cc : ByteArray) (own : String) (nL d : Nat) : Prop :=
  (fP F).tables.exec = Jvm.exec ∧ (fC F).code = cc ∧ (fC F).maxLocals = nL ∧ (fS F).vm.findClass own = some (fM F).cls ∧ (∀ w ∈ tb, w.before (fA F) (fS F) = true) ∧ KX X (fS F) ∧ St X (fS F) (fS F).heap ∧ CxOk X ∧ d ≤ (fR F).frames ∧ 40 * d ≤ (fR F).locals ∧ fc F ≤ (fR F).cells ∧ fs F ≤ (fR F).slots ∧ (fT F).locks = false
def G (X : Cx) (F : Fx) (pc : Nat) (L : List (Option Value)) (st : List Value) (M : Mem) : Prop :=
  ∀ (H : Heap) (locs : List Loc) (ls : Array Slot), va_P (xD X) classes (wl X M) H → va_S (xA X) (fS F).heap H locs → lvR X ls L → fW F H locs (F0 (fM F) pc ls (st.map (cv X)))
end
section
/-! Rows over G: an instruction a row. -/
def dck (cb : ByteArray) (t : List (Nat × Instr × Nat)) : Bool := t.all (fun q => decide (decode cb q.1 = .ok q.2))
theorem dck_at {cb : ByteArray} {t : List (Nat × Instr × Nat)} (h : dck cb t = true) (i : Nat) {pc n : Nat} {ins : Instr} (hi : t[i]? = some (pc, ins, n)) : decode cb pc = .ok (ins, n) := by
  unfold dck at h
  have h1 := List.all_eq_true.mp h (pc, ins, n) (List.mem_of_getElem? hi)
  simpa only [decide_eq_true_eq] using h1
section GR
variable {X : Cx} {F : Fx} {cc : ByteArray} {own : String} {nL d pc : Nat} {L : List (Option Value)} {st : List Value} {M : Mem}
theorem g_iconst (hF : FK X F cc own nL d) {n : Int} {v : Int32} (dg : decode cc pc = .ok (.iconst n, 1)) (hv : Int32.ofInt n = v) (kk : G X F (pc + 1) L (.int v :: st) M) : G X F pc L st M := fun H locs ls hP hS hl => lv_iconst hF.1 hF.2.1 dg hv (kk H locs ls hP hS hl)
theorem g_bipush (hF : FK X F cc own nL d) {n : Int} {v : Int32} (dg : decode cc pc = .ok (.bipush n, 2)) (hv : (Int8.ofInt n).toInt32 = v) (kk : G X F (pc + 2) L (.int v :: st) M) : G X F pc L st M := fun H locs ls hP hS hl => lv_bipush hF.1 hF.2.1 dg hv (kk H locs ls hP hS hl)
theorem g_sipush (hF : FK X F cc own nL d) {n : Int} {v : Int32} (dg : decode cc pc = .ok (.sipush n, 3)) (hv : (Int16.ofInt n).toInt32 = v) (kk : G X F (pc + 3) L (.int v :: st) M) : G X F pc L st M := fun H locs ls hP hS hl => lv_sipush hF.1 hF.2.1 dg hv (kk H locs ls hP hS hl)
theorem g_lconst (hF : FK X F cc own nL d) {n : Fin 2} {v : Int64} (dg : decode cc pc = .ok (.lconst n, 1)) (hv : Int64.ofNat (n : Nat) = v) (kk : G X F (pc + 1) L (.long v :: st) M) : G X F pc L st M := fun H locs ls hP hS hl => lv_lconst hF.1 hF.2.1 dg hv (kk H locs ls hP hS hl)
theorem g_ldc (hF : FK X F cc own nL d) {index : Nat} {v : Int32} (hw : Cond.constant own index v ∈ tb) (dg : decode cc pc = .ok (.ldc index, 2)) (kk : G X F (pc + 2) L (.int v :: st) M) : G X F pc L st M := fun H locs ls hP hS hl => lv_ldc hF.1 hF.2.1 hF.2.2.2.1 (hF.2.2.2.2.1 _ hw) dg (kk H locs ls hP hS hl)
theorem g_ldc2 (hF : FK X F cc own nL d) {index : Nat} {v : Int64} (hw : Cond.constantLong own index v ∈ tb) (dg : decode cc pc = .ok (.ldc2_w index, 3)) (kk : G X F (pc + 3) L (.long v :: st) M) : G X F pc L st M := fun H locs ls hP hS hl => lv_ldc2 hF.1 hF.2.1 hF.2.2.2.1 (hF.2.2.2.2.1 _ hw) dg (kk H locs ls hP hS hl)
theorem g_null (hF : FK X F cc own nL d) (dg : decode cc pc = .ok (.aconst_null, 1)) (kk : G X F (pc + 1) L (.null :: st) M) : G X F pc L st M := fun H locs ls hP hS hl => lv_null hF.1 hF.2.1 dg (kk H locs ls hP hS hl)
theorem g_iload_n (hF : FK X F cc own nL d) {k : Fin 4} {x : Int32} (dg : decode cc pc = .ok (.iload_n k, 1)) (hx : L[(k : Nat)]? = some (some (.int x))) (kk : G X F (pc + 1) L (.int x :: st) M) : G X F pc L st M := fun H locs ls hP hS hl => lv_iload_n hF.1 hF.2.1 dg rfl (hl.get hx) (kk H locs ls hP hS hl)
theorem g_iload (hF : FK X F cc own nL d) {k : Nat} {x : Int32} (dg : decode cc pc = .ok (.iload k, 2)) (hx : L[k]? = some (some (.int x))) (kk : G X F (pc + 2) L (.int x :: st) M) : G X F pc L st M := fun H locs ls hP hS hl => lv_iload hF.1 hF.2.1 dg (hl.get hx) (kk H locs ls hP hS hl)
theorem g_lload_n (hF : FK X F cc own nL d) {k : Fin 4} {x : Int64} (dg : decode cc pc = .ok (.lload_n k, 1)) (hx : L[(k : Nat)]? = some (some (.long x))) (kk : G X F (pc + 1) L (.long x :: st) M) : G X F pc L st M := fun H locs ls hP hS hl => lv_lload_n hF.1 hF.2.1 dg rfl (hl.get hx) (kk H locs ls hP hS hl)
theorem g_lload (hF : FK X F cc own nL d) {k : Nat} {x : Int64} (dg : decode cc pc = .ok (.lload k, 2)) (hx : L[k]? = some (some (.long x))) (kk : G X F (pc + 2) L (.long x :: st) M) : G X F pc L st M := fun H locs ls hP hS hl => lv_lload hF.1 hF.2.1 dg (hl.get hx) (kk H locs ls hP hS hl)
theorem g_aload_n (hF : FK X F cc own nL d) {k : Fin 4} {x : Nat} (dg : decode cc pc = .ok (.aload_n k, 1)) (hx : L[(k : Nat)]? = some (some (.ref x))) (kk : G X F (pc + 1) L (.ref x :: st) M) : G X F pc L st M := fun H locs ls hP hS hl => lv_aload_n hF.1 hF.2.1 dg rfl (hl.get hx) (kk H locs ls hP hS hl)
theorem g_aload (hF : FK X F cc own nL d) {k : Nat} {x : Nat} (dg : decode cc pc = .ok (.aload k, 2)) (hx : L[k]? = some (some (.ref x))) (kk : G X F (pc + 2) L (.ref x :: st) M) : G X F pc L st M := fun H locs ls hP hS hl => lv_aload hF.1 hF.2.1 dg (hl.get hx) (kk H locs ls hP hS hl)
theorem g_aload_nN (hF : FK X F cc own nL d) {k : Fin 4} (dg : decode cc pc = .ok (.aload_n k, 1)) (hx : L[(k : Nat)]? = some (some .null)) (kk : G X F (pc + 1) L (.null :: st) M) : G X F pc L st M := fun H locs ls hP hS hl => lv_aload_nN hF.1 hF.2.1 dg rfl (hl.get hx) (kk H locs ls hP hS hl)
theorem g_istore_n (hF : FK X F cc own nL d) {k : Fin 4} {x : Int32} {L' : List (Option Value)} (dg : decode cc pc = .ok (.istore_n k, 1)) (hn : (k : Nat) < L.length) (hL : st1 L k (.int x) = L') (kk : G X F (pc + 1) L' st M) : G X F pc L (.int x :: st) M := fun H locs ls hP hS hl => lv_istore_n hF.1 hF.2.1 dg rfl hl hn rfl (fun ls' h' => kk H locs ls' hP hS (hL ▸ lvR.s1 hn h'))
theorem g_istore (hF : FK X F cc own nL d) {k : Nat} {x : Int32} {L' : List (Option Value)} (dg : decode cc pc = .ok (.istore k, 2)) (hn : k < L.length) (hL : st1 L k (.int x) = L') (kk : G X F (pc + 2) L' st M) : G X F pc L (.int x :: st) M := fun H locs ls hP hS hl => lv_istore hF.1 hF.2.1 dg hl hn rfl (fun ls' h' => kk H locs ls' hP hS (hL ▸ lvR.s1 hn h'))
theorem g_astore_n (hF : FK X F cc own nL d) {k : Fin 4} {x : Nat} {L' : List (Option Value)} (dg : decode cc pc = .ok (.astore_n k, 1)) (hn : (k : Nat) < L.length) (hL : st1 L k (.ref x) = L') (kk : G X F (pc + 1) L' st M) : G X F pc L (.ref x :: st) M := fun H locs ls hP hS hl => lv_astore_n hF.1 hF.2.1 dg rfl hl hn rfl (fun ls' h' => kk H locs ls' hP hS (hL ▸ lvR.s1 hn h'))
theorem g_astore (hF : FK X F cc own nL d) {k : Nat} {x : Nat} {L' : List (Option Value)} (dg : decode cc pc = .ok (.astore k, 2)) (hn : k < L.length) (hL : st1 L k (.ref x) = L') (kk : G X F (pc + 2) L' st M) : G X F pc L (.ref x :: st) M := fun H locs ls hP hS hl => lv_astore hF.1 hF.2.1 dg hl hn rfl (fun ls' h' => kk H locs ls' hP hS (hL ▸ lvR.s1 hn h'))
theorem g_astore_nN (hF : FK X F cc own nL d) {k : Fin 4} {L' : List (Option Value)} (dg : decode cc pc = .ok (.astore_n k, 1)) (hn : (k : Nat) < L.length) (hL : st1 L k .null = L') (kk : G X F (pc + 1) L' st M) : G X F pc L (.null :: st) M := fun H locs ls hP hS hl => lv_astore_nN hF.1 hF.2.1 dg rfl hl hn rfl (fun ls' h' => kk H locs ls' hP hS (hL ▸ lvR.s1 (v := .null) hn h'))
theorem g_lstore_n (hF : FK X F cc own nL d) {k : Fin 4} {x : Int64} {L' : List (Option Value)} (dg : decode cc pc = .ok (.lstore_n k, 1)) (hn : (k : Nat) + 1 < L.length) (hL : st2 L k (.long x) = L') (kk : G X F (pc + 1) L' st M) : G X F pc L (.long x :: st) M := fun H locs ls hP hS hl => lv_lstore_n hF.1 hF.2.1 dg rfl hl hn rfl (fun ls' h' => kk H locs ls' hP hS (hL ▸ lvR.s2 hn h'))
theorem g_lstore (hF : FK X F cc own nL d) {k : Nat} {x : Int64} {L' : List (Option Value)} (dg : decode cc pc = .ok (.lstore k, 2)) (hn : k + 1 < L.length) (hL : st2 L k (.long x) = L') (kk : G X F (pc + 2) L' st M) : G X F pc L (.long x :: st) M := fun H locs ls hP hS hl => lv_lstore hF.1 hF.2.1 dg hl hn rfl (fun ls' h' => kk H locs ls' hP hS (hL ▸ lvR.s2 hn h'))
theorem g_iinc (hF : FK X F cc own nL d) {k : Nat} {n : Int} {x v : Int32} {L' : List (Option Value)} (dg : decode cc pc = .ok (.iinc k n, 3)) (hx : L[k]? = some (some (.int x))) (hv : Int32.ofInt n = v) (hL : st1 L k (.int (x + v)) = L') (kk : G X F (pc + 3) L' st M) : G X F pc L st M := by
  intro H locs ls hP hS hl
  have hn : k < L.length := (List.getElem?_eq_some_iff.mp hx).1
  obtain ⟨j, hj⟩ := List.getElem?_of_mem ((lz_mem (X := X) L 0).mpr ⟨k, .int x, hx, rfl⟩)
  rw [Nat.zero_add] at hj
  exact lv_iinc (v := x + v) hF.1 hF.2.1 dg hl hj (by rw [hv]) hn rfl (fun ls' h' => kk H locs ls' hP hS (hL ▸ lvR.s1 hn h'))
theorem g_iadd (hF : FK X F cc own nL d) {x y : Int32} (dg : decode cc pc = .ok (.iadd, 1)) (kk : G X F (pc + 1) L (.int (x + y) :: st) M) : G X F pc L (.int y :: .int x :: st) M := fun H locs ls hP hS hl => lv_iadd hF.1 hF.2.1 dg (kk H locs ls hP hS hl)
theorem g_isub (hF : FK X F cc own nL d) {x y : Int32} (dg : decode cc pc = .ok (.isub, 1)) (kk : G X F (pc + 1) L (.int (x - y) :: st) M) : G X F pc L (.int y :: .int x :: st) M := fun H locs ls hP hS hl => lv_isub hF.1 hF.2.1 dg (kk H locs ls hP hS hl)
theorem g_imul (hF : FK X F cc own nL d) {x y : Int32} (dg : decode cc pc = .ok (.imul, 1)) (kk : G X F (pc + 1) L (.int (x * y) :: st) M) : G X F pc L (.int y :: .int x :: st) M := fun H locs ls hP hS hl => lv_imul hF.1 hF.2.1 dg (kk H locs ls hP hS hl)
theorem g_iand (hF : FK X F cc own nL d) {x y : Int32} (dg : decode cc pc = .ok (.iand, 1)) (kk : G X F (pc + 1) L (.int (x &&& y) :: st) M) : G X F pc L (.int y :: .int x :: st) M := fun H locs ls hP hS hl => lv_iand hF.1 hF.2.1 dg (kk H locs ls hP hS hl)
theorem g_ior (hF : FK X F cc own nL d) {x y : Int32} (dg : decode cc pc = .ok (.ior, 1)) (kk : G X F (pc + 1) L (.int (x ||| y) :: st) M) : G X F pc L (.int y :: .int x :: st) M := fun H locs ls hP hS hl => lv_ior hF.1 hF.2.1 dg (kk H locs ls hP hS hl)
theorem g_ixor (hF : FK X F cc own nL d) {x y : Int32} (dg : decode cc pc = .ok (.ixor, 1)) (kk : G X F (pc + 1) L (.int (x ^^^ y) :: st) M) : G X F pc L (.int y :: .int x :: st) M := fun H locs ls hP hS hl => lv_ixor hF.1 hF.2.1 dg (kk H locs ls hP hS hl)
theorem g_ishl (hF : FK X F cc own nL d) {x y : Int32} (dg : decode cc pc = .ok (.ishl, 1)) (kk : G X F (pc + 1) L (.int (x <<< (y &&& 31)) :: st) M) : G X F pc L (.int y :: .int x :: st) M := fun H locs ls hP hS hl => lv_ishl hF.1 hF.2.1 dg (kk H locs ls hP hS hl)
theorem g_ishr (hF : FK X F cc own nL d) {x y : Int32} (dg : decode cc pc = .ok (.ishr, 1)) (kk : G X F (pc + 1) L (.int (x >>> (y &&& 31)) :: st) M) : G X F pc L (.int y :: .int x :: st) M := fun H locs ls hP hS hl => lv_ishr hF.1 hF.2.1 dg (kk H locs ls hP hS hl)
theorem g_ladd (hF : FK X F cc own nL d) {x y : Int64} (dg : decode cc pc = .ok (.ladd, 1)) (kk : G X F (pc + 1) L (.long (x + y) :: st) M) : G X F pc L (.long y :: .long x :: st) M := fun H locs ls hP hS hl => lv_ladd hF.1 hF.2.1 dg (kk H locs ls hP hS hl)
theorem g_lmul (hF : FK X F cc own nL d) {x y : Int64} (dg : decode cc pc = .ok (.lmul, 1)) (kk : G X F (pc + 1) L (.long (x * y) :: st) M) : G X F pc L (.long y :: .long x :: st) M := fun H locs ls hP hS hl => lv_lmul hF.1 hF.2.1 dg (kk H locs ls hP hS hl)
theorem g_idiv (hF : FK X F cc own nL d) {x y : Int32} (dg : decode cc pc = .ok (.idiv, 1)) (hne : ¬ y = 0) (kk : G X F (pc + 1) L (.int (x / y) :: st) M) : G X F pc L (.int y :: .int x :: st) M := fun H locs ls hP hS hl => lv_idiv hF.1 hF.2.1 dg hne (kk H locs ls hP hS hl)
theorem g_irem (hF : FK X F cc own nL d) {x y : Int32} (dg : decode cc pc = .ok (.irem, 1)) (hne : ¬ y = 0) (kk : G X F (pc + 1) L (.int (x - x / y * y) :: st) M) : G X F pc L (.int y :: .int x :: st) M := fun H locs ls hP hS hl => lv_irem hF.1 hF.2.1 dg hne (kk H locs ls hP hS hl)
theorem g_ldiv (hF : FK X F cc own nL d) {x y : Int64} (dg : decode cc pc = .ok (.ldiv, 1)) (hne : ¬ y = 0) (kk : G X F (pc + 1) L (.long (x / y) :: st) M) : G X F pc L (.long y :: .long x :: st) M := fun H locs ls hP hS hl => lv_ldiv hF.1 hF.2.1 dg hne (kk H locs ls hP hS hl)
theorem g_lrem (hF : FK X F cc own nL d) {x y : Int64} (dg : decode cc pc = .ok (.lrem, 1)) (hne : ¬ y = 0) (kk : G X F (pc + 1) L (.long (x - x / y * y) :: st) M) : G X F pc L (.long y :: .long x :: st) M := fun H locs ls hP hS hl => lv_lrem hF.1 hF.2.1 dg hne (kk H locs ls hP hS hl)
theorem g_iushr (hF : FK X F cc own nL d) {x y : Int32} (dg : decode cc pc = .ok (.iushr, 1)) (kk : G X F (pc + 1) L (.int ((x.toUInt32 >>> (y.toUInt32 &&& Int32.toUInt32 31)).toInt32) :: st) M) : G X F pc L (.int y :: .int x :: st) M := fun H locs ls hP hS hl => lv_iushr hF.1 hF.2.1 dg rfl (kk H locs ls hP hS hl)
theorem g_i2l (hF : FK X F cc own nL d) {x : Int32} (dg : decode cc pc = .ok (.i2l, 1)) (kk : G X F (pc + 1) L (.long x.toInt64 :: st) M) : G X F pc L (.int x :: st) M := fun H locs ls hP hS hl => lv_i2l hF.1 hF.2.1 dg rfl (kk H locs ls hP hS hl)
theorem g_i2c (hF : FK X F cc own nL d) {x : Int32} (dg : decode cc pc = .ok (.i2c, 1)) (kk : G X F (pc + 1) L (.int ((x.toUInt32 % 65536).toInt32) :: st) M) : G X F pc L (.int x :: st) M := fun H locs ls hP hS hl => lv_i2c hF.1 hF.2.1 dg rfl (kk H locs ls hP hS hl)
theorem g_lcmp (hF : FK X F cc own nL d) {x y : Int64} (dg : decode cc pc = .ok (.lcmp, 1)) (kk : G X F (pc + 1) L (.int (lg_cmp x y) :: st) M) : G X F pc L (.long y :: .long x :: st) M := fun H locs ls hP hS hl => W.lcmp hF.1 hF.2.1 dg (kk H locs ls hP hS hl)
theorem g_dup (hF : FK X F cc own nL d) {v : Value} (dg : decode cc pc = .ok (.dup, 1)) (hv : v.category = 1) (kk : G X F (pc + 1) L (v :: v :: st) M) : G X F pc L (v :: st) M := fun H locs ls hP hS hl => lv_dup hF.1 hF.2.1 dg ((cv_cat X v).trans hv) (kk H locs ls hP hS hl)
theorem g_pop (hF : FK X F cc own nL d) {v : Value} (dg : decode cc pc = .ok (.pop, 1)) (hv : v.category = 1) (kk : G X F (pc + 1) L st M) : G X F pc L (v :: st) M := fun H locs ls hP hS hl => lv_pop hF.1 hF.2.1 dg ((cv_cat X v).trans hv) (kk H locs ls hP hS hl)
theorem g_dup2 (hF : FK X F cc own nL d) {v u : Value} (dg : decode cc pc = .ok (.dup2, 1)) (hv : v.category = 1) (hu : u.category = 1) (kk : G X F (pc + 1) L (v :: u :: v :: u :: st) M) : G X F pc L (v :: u :: st) M := fun H locs ls hP hS hl => lv_dup2_11 hF.1 hF.2.1 dg ((cv_cat X v).trans hv) ((cv_cat X u).trans hu) (kk H locs ls hP hS hl)
theorem g_dup_x1 (hF : FK X F cc own nL d) {v u : Value} (dg : decode cc pc = .ok (.dup_x1, 1)) (hv : v.category = 1) (hu : u.category = 1) (kk : G X F (pc + 1) L (v :: u :: v :: st) M) : G X F pc L (v :: u :: st) M := fun H locs ls hP hS hl => lv_dup_x1 hF.1 hF.2.1 dg ((cv_cat X v).trans hv) ((cv_cat X u).trans hu) (kk H locs ls hP hS hl)
theorem g_if_eq (hF : FK X F cc own nL d) {x : Int32} {off : Int} (tgt : Nat) (dg : decode cc pc = .ok (.ifCond .eq off, 3)) (ht : (pc : Int) + off = (tgt : Int)) (kt : x = 0 → G X F tgt L st M) (kf : ¬ x = 0 → G X F (pc + 3) L st M) : G X F pc L (.int x :: st) M := fun H locs ls hP hS hl => lv_if_eq hF.1 hF.2.1 dg ht (fun h => kt h H locs ls hP hS hl) (fun h => kf h H locs ls hP hS hl)
theorem g_icmp_eq (hF : FK X F cc own nL d) {x y : Int32} {off : Int} (tgt : Nat) (dg : decode cc pc = .ok (.if_icmp .eq off, 3)) (ht : (pc : Int) + off = (tgt : Int)) (kt : x = y → G X F tgt L st M) (kf : ¬ x = y → G X F (pc + 3) L st M) : G X F pc L (.int y :: .int x :: st) M := fun H locs ls hP hS hl => lv_icmp_eq hF.1 hF.2.1 dg ht (fun h => kt h H locs ls hP hS hl) (fun h => kf h H locs ls hP hS hl)
theorem g_if_ne (hF : FK X F cc own nL d) {x : Int32} {off : Int} (tgt : Nat) (dg : decode cc pc = .ok (.ifCond .ne off, 3)) (ht : (pc : Int) + off = (tgt : Int)) (kt : ¬ x = 0 → G X F tgt L st M) (kf : x = 0 → G X F (pc + 3) L st M) : G X F pc L (.int x :: st) M := fun H locs ls hP hS hl => lv_if_ne hF.1 hF.2.1 dg ht (fun h => kt h H locs ls hP hS hl) (fun h => kf h H locs ls hP hS hl)
theorem g_icmp_ne (hF : FK X F cc own nL d) {x y : Int32} {off : Int} (tgt : Nat) (dg : decode cc pc = .ok (.if_icmp .ne off, 3)) (ht : (pc : Int) + off = (tgt : Int)) (kt : ¬ x = y → G X F tgt L st M) (kf : x = y → G X F (pc + 3) L st M) : G X F pc L (.int y :: .int x :: st) M := fun H locs ls hP hS hl => lv_icmp_ne hF.1 hF.2.1 dg ht (fun h => kt h H locs ls hP hS hl) (fun h => kf h H locs ls hP hS hl)
theorem g_if_lt (hF : FK X F cc own nL d) {x : Int32} {off : Int} (tgt : Nat) (dg : decode cc pc = .ok (.ifCond .lt off, 3)) (ht : (pc : Int) + off = (tgt : Int)) (kt : x < 0 → G X F tgt L st M) (kf : ¬ x < 0 → G X F (pc + 3) L st M) : G X F pc L (.int x :: st) M := fun H locs ls hP hS hl => lv_if_lt hF.1 hF.2.1 dg ht (fun h => kt h H locs ls hP hS hl) (fun h => kf h H locs ls hP hS hl)
theorem g_icmp_lt (hF : FK X F cc own nL d) {x y : Int32} {off : Int} (tgt : Nat) (dg : decode cc pc = .ok (.if_icmp .lt off, 3)) (ht : (pc : Int) + off = (tgt : Int)) (kt : x < y → G X F tgt L st M) (kf : ¬ x < y → G X F (pc + 3) L st M) : G X F pc L (.int y :: .int x :: st) M := fun H locs ls hP hS hl => lv_icmp_lt hF.1 hF.2.1 dg ht (fun h => kt h H locs ls hP hS hl) (fun h => kf h H locs ls hP hS hl)
theorem g_if_ge (hF : FK X F cc own nL d) {x : Int32} {off : Int} (tgt : Nat) (dg : decode cc pc = .ok (.ifCond .ge off, 3)) (ht : (pc : Int) + off = (tgt : Int)) (kt : 0 ≤ x → G X F tgt L st M) (kf : ¬ 0 ≤ x → G X F (pc + 3) L st M) : G X F pc L (.int x :: st) M := fun H locs ls hP hS hl => lv_if_ge hF.1 hF.2.1 dg ht (fun h => kt h H locs ls hP hS hl) (fun h => kf h H locs ls hP hS hl)
theorem g_icmp_ge (hF : FK X F cc own nL d) {x y : Int32} {off : Int} (tgt : Nat) (dg : decode cc pc = .ok (.if_icmp .ge off, 3)) (ht : (pc : Int) + off = (tgt : Int)) (kt : y ≤ x → G X F tgt L st M) (kf : ¬ y ≤ x → G X F (pc + 3) L st M) : G X F pc L (.int y :: .int x :: st) M := fun H locs ls hP hS hl => lv_icmp_ge hF.1 hF.2.1 dg ht (fun h => kt h H locs ls hP hS hl) (fun h => kf h H locs ls hP hS hl)
theorem g_if_gt (hF : FK X F cc own nL d) {x : Int32} {off : Int} (tgt : Nat) (dg : decode cc pc = .ok (.ifCond .gt off, 3)) (ht : (pc : Int) + off = (tgt : Int)) (kt : 0 < x → G X F tgt L st M) (kf : ¬ 0 < x → G X F (pc + 3) L st M) : G X F pc L (.int x :: st) M := fun H locs ls hP hS hl => lv_if_gt hF.1 hF.2.1 dg ht (fun h => kt h H locs ls hP hS hl) (fun h => kf h H locs ls hP hS hl)
theorem g_icmp_gt (hF : FK X F cc own nL d) {x y : Int32} {off : Int} (tgt : Nat) (dg : decode cc pc = .ok (.if_icmp .gt off, 3)) (ht : (pc : Int) + off = (tgt : Int)) (kt : y < x → G X F tgt L st M) (kf : ¬ y < x → G X F (pc + 3) L st M) : G X F pc L (.int y :: .int x :: st) M := fun H locs ls hP hS hl => lv_icmp_gt hF.1 hF.2.1 dg ht (fun h => kt h H locs ls hP hS hl) (fun h => kf h H locs ls hP hS hl)
theorem g_if_le (hF : FK X F cc own nL d) {x : Int32} {off : Int} (tgt : Nat) (dg : decode cc pc = .ok (.ifCond .le off, 3)) (ht : (pc : Int) + off = (tgt : Int)) (kt : x ≤ 0 → G X F tgt L st M) (kf : ¬ x ≤ 0 → G X F (pc + 3) L st M) : G X F pc L (.int x :: st) M := fun H locs ls hP hS hl => lv_if_le hF.1 hF.2.1 dg ht (fun h => kt h H locs ls hP hS hl) (fun h => kf h H locs ls hP hS hl)
theorem g_icmp_le (hF : FK X F cc own nL d) {x y : Int32} {off : Int} (tgt : Nat) (dg : decode cc pc = .ok (.if_icmp .le off, 3)) (ht : (pc : Int) + off = (tgt : Int)) (kt : x ≤ y → G X F tgt L st M) (kf : ¬ x ≤ y → G X F (pc + 3) L st M) : G X F pc L (.int y :: .int x :: st) M := fun H locs ls hP hS hl => lv_icmp_le hF.1 hF.2.1 dg ht (fun h => kt h H locs ls hP hS hl) (fun h => kf h H locs ls hP hS hl)
theorem g_goto (hF : FK X F cc own nL d) {off : Int} (tgt : Nat) (dg : decode cc pc = .ok (.goto off, 3)) (ht : (pc : Int) + off = (tgt : Int)) (kk : G X F tgt L st M) : G X F pc L st M := fun H locs ls hP hS hl => lv_goto hF.1 hF.2.1 dg ht (kk H locs ls hP hS hl)
theorem g_ifnull (hF : FK X F cc own nL d) {x : Nat} {off : Int} (dg : decode cc pc = .ok (.ifnull off, 3)) (kk : G X F (pc + 3) L st M) : G X F pc L (.ref x :: st) M := fun H locs ls hP hS hl => lv_ifnull hF.1 hF.2.1 dg (kk H locs ls hP hS hl)
theorem g_ifnullN (hF : FK X F cc own nL d) {off : Int} (tgt : Nat) (dg : decode cc pc = .ok (.ifnull off, 3)) (ht : (pc : Int) + off = (tgt : Int)) (kk : G X F tgt L st M) : G X F pc L (.null :: st) M := fun H locs ls hP hS hl => lv_ifnullN hF.1 hF.2.1 dg ht (kk H locs ls hP hS hl)
theorem g_swIn (hF : FK X F cc own nL d) {dflt lo hi : Int} {offs : Array Int} {len : Nat} {x : Int32} {off : Int} (tgt : Nat) (v : Int32) (hx : x = v) (dg : decode cc pc = .ok (.tableswitch dflt lo hi offs, len)) (h1 : ¬ v.toInt < lo) (h2 : ¬ hi < v.toInt) (ho : offs[(v.toInt - lo).toNat]? = some off) (ht : (pc : Int) + off = (tgt : Int)) (kk : G X F tgt L st M) : G X F pc L (.int x :: st) M := by
  subst hx
  exact fun H locs ls hP hS hl => lv_tableIn hF.1 hF.2.1 dg h1 h2 ho ht (kk H locs ls hP hS hl)
theorem g_swOut (hF : FK X F cc own nL d) {dflt lo hi : Int} {offs : Array Int} {len : Nat} {x : Int32} (tgt : Nat) (dg : decode cc pc = .ok (.tableswitch dflt lo hi offs, len)) (h : x.toInt < lo ∨ hi < x.toInt) (ht : (pc : Int) + dflt = (tgt : Int)) (kk : G X F tgt L st M) : G X F pc L (.int x :: st) M := fun H locs ls hP hS hl => lv_tableOut hF.1 hF.2.1 dg h ht (kk H locs ls hP hS hl)
theorem g_get (hF : FK X F cc own nL d) {ref C : String} {T : u_T} {N ci index k j : Nat} {v : Value} (hin : ∀ w ∈ u_ws C T N, w ∈ tb) (hc : classes[ci]? = some (C, T, N)) (hci : ci < 20) (hk : k ∈ xcs X) (hkd : kd k = ci) (hN : ln k = N) (hj : j < N) (hw : Cond.fieldLink own index ref (T j).2.1 (T j).2.2.1 ∈ tb) (href : (T j).1 = ref) (hv : vfld X M k j = cv X v) (dg : decode cc pc = .ok (.getfield index, 3)) (kk : G X F (pc + 3) L (v :: st) M) : G X F pc L (.ref k :: st) M := by
  intro H locs ls hP hS hl
  obtain ⟨p, hp⟩ := wl_at hk M
  rw [ce_obj hkd hci] at hp
  exact va_get (D := xD X) (ci := ci) (C := C) (T := T) (N := N) hF.1 hF.2.1 hF.2.2.2.2.1 hin hF.2.2.2.1 hF.2.2.2.2.2.1.k0 hP p hp hc j hj (hF.2.2.2.2.1 _ hw) (fun x h => by rw [href] at h; exact h) (v := cv X v) (by rw [← hv]; simp [hN, hj]) dg (kk H locs ls hP hS hl)
theorem g_put (hF : FK X F cc own nL d) {ref C : String} {T : u_T} {N ci index k j : Nat} {v : Int32} {ty : FieldType} (hin : ∀ w ∈ u_ws C T N, w ∈ tb) (ty0 : Nat → FieldType) (hty : ∀ k, k < N → parseFieldDescriptor (T k).2.2.1 = some (ty0 k)) (hnm : ∀ a, a < N → ∀ b, b < N → a ≠ b → (T a).2.1 ≠ (T b).2.1) (hc : classes[ci]? = some (C, T, N)) (hci : ci < 20) (hk : k ∈ xcs X) (hkd : kd k = ci) (hN : ln k = N) (hj : j < N) (hw : Cond.fieldLink own index ref (T j).2.1 (T j).2.2.1 ∈ tb) (href : (T j).1 = ref) (hfin : (T j).2.2.2 = false) (hd : parseFieldDescriptor (T j).2.2.1 = some ty) (hr : rfc ci j k = none) (hn : narrow ty (.int v) = .int v) (hfit : fits ty (.int v) = true) (dg : decode cc pc = .ok (.putfield index, 3)) (kk : G X F (pc + 3) L st (up2 M k j v)) : G X F pc L (.int v :: .ref k :: st) M := by
  intro H locs ls hP hS hl
  obtain ⟨p, hp0⟩ := wl_at hk M
  have hp := hp0
  rw [ce_obj hkd hci] at hp
  refine va_put (D := xD X) (ci := ci) (C := C) (T := T) (N := N) (v := .int v) (ty := ty) hF.1 hF.2.1 hF.2.2.2.2.1 hin ty0 hty hnm hF.2.2.2.1 hF.2.2.2.2.2.1.k0 hP (wl_D hF.2.2.2.2.2.2.2.1 M) hS p hp hc j hj (hF.2.2.2.2.1 _ hw) (fun x h => by rw [href] at h; exact h) hfin hd hn hfit (by simpa [hN] using hj) dg (fun H1 locs1 hP1 hD1 hS1 => ?_)
  rw [wl_set hF.2.2.2.2.2.2.2.1 hp0 hk (ce_put hkd hci (by rw [hN]; exact hj) hr) (fun a ha => ce_row (up2_other M j v ha))] at hP1
  exact kk H1 locs1 ls hP1 hS1 hl
theorem g_iald (hF : FK X F cc own nL d) {k : Nat} {i : Int32} (hk : k ∈ xcs X) (hkd : kd k = 20) (hi : vp_in i (ln k)) (dg : decode cc pc = .ok (.iaload, 1)) (kk : G X F (pc + 1) L (.int (M k i.toNatClampNeg) :: st) M) : G X F pc L (.int i :: .ref k :: st) M := by
  intro H locs ls hP hS hl
  obtain ⟨p, hp⟩ := wl_at hk M
  rw [ce_arr (by rw [hkd]; omega) (by rw [hkd]; omega)] at hp
  exact va_iald hF.1 hF.2.1 (hF.2.2.2.2.2.1.k1 hk (by rw [hkd]; omega) (ty := .int) (by simp [kty, hkd])) hP p 0 hp rfl hi dg (kk H locs ls hP hS hl)
theorem g_cald (hF : FK X F cc own nL d) {k : Nat} {i : Int32} (hk : k ∈ xcs X) (hkd : kd k = 21) (hi : vp_in i (ln k)) (dg : decode cc pc = .ok (.caload, 1)) (kk : G X F (pc + 1) L (.int (M k i.toNatClampNeg) :: st) M) : G X F pc L (.int i :: .ref k :: st) M := by
  intro H locs ls hP hS hl
  obtain ⟨p, hp⟩ := wl_at hk M
  rw [ce_arr (by rw [hkd]; omega) (by rw [hkd]; omega)] at hp
  exact va_cald hF.1 hF.2.1 (hF.2.2.2.2.2.1.k1 hk (by rw [hkd]; omega) (ty := .char) (by simp [kty, hkd])) hP p 0 hp rfl hi dg (kk H locs ls hP hS hl)
theorem g_zald (hF : FK X F cc own nL d) {k : Nat} {i : Int32} (hk : k ∈ xcs X) (hkd : kd k = 22) (hi : vp_in i (ln k)) (dg : decode cc pc = .ok (.baload, 1)) (kk : G X F (pc + 1) L (.int (M k i.toNatClampNeg) :: st) M) : G X F pc L (.int i :: .ref k :: st) M := by
  intro H locs ls hP hS hl
  obtain ⟨p, hp⟩ := wl_at hk M
  rw [ce_arr (by rw [hkd]; omega) (by rw [hkd]; omega)] at hp
  exact va_zald hF.1 hF.2.1 (hF.2.2.2.2.2.1.k1 hk (by rw [hkd]; omega) (ty := .boolean) (by simp [kty, hkd])) hP p 0 hp rfl hi dg (kk H locs ls hP hS hl)
theorem g_iast (hF : FK X F cc own nL d) {k : Nat} {i v : Int32} (hk : k ∈ xcs X) (hkd : kd k = 20) (hi : vp_in i (ln k)) (dg : decode cc pc = .ok (.iastore, 1)) (kk : G X F (pc + 1) L st (up2 M k i.toNatClampNeg v)) : G X F pc L (.int v :: .int i :: .ref k :: st) M := by
  intro H locs ls hP hS hl
  obtain ⟨p, hp0⟩ := wl_at hk M
  have hp := hp0
  rw [ce_arr (by rw [hkd]; omega) (by rw [hkd]; omega)] at hp
  refine va_iast hF.1 hF.2.1 (hF.2.2.2.2.2.1.k1 hk (by rw [hkd]; omega) (ty := .int) (by simp [kty, hkd])) hP (wl_D hF.2.2.2.2.2.2.2.1 M) hS p 0 hp rfl hi dg (fun H1 locs1 hP1 hD1 hS1 => ?_)
  rw [wl_set hF.2.2.2.2.2.2.2.1 hp0 hk (M' := up2 M k i.toNatClampNeg v) (by rw [ce_arr (by rw [hkd]; omega) (by rw [hkd]; omega), up2_row]) (fun a ha => ce_row (up2_other M _ _ ha))] at hP1
  exact kk H1 locs1 ls hP1 hS1 hl
theorem g_cast (hF : FK X F cc own nL d) {k : Nat} {i v : Int32} (hk : k ∈ xcs X) (hkd : kd k = 21) (hi : vp_in i (ln k)) (dg : decode cc pc = .ok (.castore, 1)) (kk : G X F (pc + 1) L st (up2 M k i.toNatClampNeg (vp_nar .char v))) : G X F pc L (.int v :: .int i :: .ref k :: st) M := by
  intro H locs ls hP hS hl
  obtain ⟨p, hp0⟩ := wl_at hk M
  have hp := hp0
  rw [ce_arr (by rw [hkd]; omega) (by rw [hkd]; omega)] at hp
  refine va_cast hF.1 hF.2.1 (hF.2.2.2.2.2.1.k1 hk (by rw [hkd]; omega) (ty := .char) (by simp [kty, hkd])) hP (wl_D hF.2.2.2.2.2.2.2.1 M) hS p 0 hp rfl hi dg (fun H1 locs1 hP1 hD1 hS1 => ?_)
  rw [wl_set hF.2.2.2.2.2.2.2.1 hp0 hk (M' := up2 M k i.toNatClampNeg (vp_nar .char v)) (by rw [ce_arr (by rw [hkd]; omega) (by rw [hkd]; omega), up2_row]) (fun a ha => ce_row (up2_other M _ _ ha))] at hP1
  exact kk H1 locs1 ls hP1 hS1 hl
theorem g_zast (hF : FK X F cc own nL d) {k : Nat} {i v : Int32} (hk : k ∈ xcs X) (hkd : kd k = 22) (hi : vp_in i (ln k)) (dg : decode cc pc = .ok (.bastore, 1)) (kk : G X F (pc + 1) L st (up2 M k i.toNatClampNeg (vp_nar .boolean v))) : G X F pc L (.int v :: .int i :: .ref k :: st) M := by
  intro H locs ls hP hS hl
  obtain ⟨p, hp0⟩ := wl_at hk M
  have hp := hp0
  rw [ce_arr (by rw [hkd]; omega) (by rw [hkd]; omega)] at hp
  refine va_zast hF.1 hF.2.1 (hF.2.2.2.2.2.1.k1 hk (by rw [hkd]; omega) (ty := .boolean) (by simp [kty, hkd])) hP (wl_D hF.2.2.2.2.2.2.2.1 M) hS p 0 hp rfl hi dg (fun H1 locs1 hP1 hD1 hS1 => ?_)
  rw [wl_set hF.2.2.2.2.2.2.2.1 hp0 hk (M' := up2 M k i.toNatClampNeg (vp_nar .boolean v)) (by rw [ce_arr (by rw [hkd]; omega) (by rw [hkd]; omega), up2_row]) (fun a ha => ce_row (up2_other M _ _ ha))] at hP1
  exact kk H1 locs1 ls hP1 hS1 hl
theorem g_aald (hF : FK X F cc own nL d) {k : Nat} {i : Int32} {C : String} (hk : k ∈ xcs X) (hkd : 23 ≤ kd k) (ht : kty k = .object C) (hi : vp_in i (ln k)) (dg : decode cc pc = .ok (.aaload, 1)) (kk : G X F (pc + 1) L (.ref (rae k i.toNatClampNeg) :: st) M) : G X F pc L (.int i :: .ref k :: st) M := by
  intro H locs ls hP hS hl
  obtain ⟨p, hp⟩ := wl_at hk M
  rw [ce_ref hkd] at hp
  exact va_aldq hF.1 hF.2.1 (hF.2.2.2.2.2.1.k1 hk (by omega) ht) hP p 0 hp rfl hi dg (kk H locs ls hP hS hl)
theorem g_alen (hF : FK X F cc own nL d) {k : Nat} {v : Int32} (hk : k ∈ xcs X) (hkd : 20 ≤ kd k) (hv : Int32.ofNat (ln k) = v) (dg : decode cc pc = .ok (.arraylength, 1)) (kk : G X F (pc + 1) L (.int v :: st) M) : G X F pc L (.ref k :: st) M := by
  intro H locs ls hP hS hl
  obtain ⟨p, hp⟩ := wl_at hk M
  by_cases h2 : kd k < 23
  · rw [ce_arr hkd h2] at hp
    exact va_alen hF.1 hF.2.1 (hF.2.2.2.2.2.1.k1 hk hkd rfl) hP p 0 hp rfl hv dg (kk H locs ls hP hS hl)
  · rw [ce_ref (Nat.not_lt.mp h2)] at hp
    exact va_alen hF.1 hF.2.1 (hF.2.2.2.2.2.1.k1 hk hkd rfl) hP p 0 hp rfl hv dg (kk H locs ls hP hS hl)
end GR
end
section
/-! Contracts, calls, ends, copies, constants. -/
def rmD (d : Nat) : Room := { frames := d, cells := 0, slots := 0, locals := 40 * d }
def Qct (X : Cx) (o : Option Value) (M' : Mem) : Array Value → State → Outcome → State → Prop := fun _ st oc t => oc = .returned (o.map (cv X)) ∧ Inv X M' t ∧ va_F (xA X) st t
/-- a contract: with these arguments, over this memory, the method answers o and leaves that memory -/
def Ctr (X : Cx) (l : Launch) (y : MethodName) (cb : ByteArray) (mL : Nat) (ret : Option FieldType) (d : Nat) (as : List Value) (M : Mem) (o : Option Value) (M' : Mem) : Prop :=
  Met l y (Cond.code y cb mL ret :: tb) (rmD d) (va_Pc (as.map (cv X)) (Inv X M)) (Qct X o M') 0 0 (xA X)
def ent : List Value → List (Option Value)
  | [] => []
  | v :: vs => if v.category = 2 then some v :: none :: ent vs else some v :: ent vs
theorem lz_none (X : Cx) : ∀ (n i : Nat), lz X i (List.replicate n none) = []
  | 0, _ => rfl
  | n + 1, i => by rw [List.replicate_succ, lz]; exact lz_none X n (i + 1)
theorem lz_ent (X : Cx) (n : Nat) : ∀ (as : List Value) (i : Nat), lz X i (ent as ++ List.replicate n none) = lv_args i (as.map (cv X))
  | [], i => by simpa [ent, lv_args] using lz_none X n i
  | v :: vs, i => by
    rw [ent, List.map_cons, lv_args, cv_cat]
    by_cases h : v.category = 2
    · rw [if_pos h, if_pos h, List.cons_append, List.cons_append, lz, lz, lz_ent X n vs]
    · rw [if_neg h, if_neg h, List.cons_append, lz, lz_ent X n vs]
theorem ent_len (X : Cx) : ∀ (as : List Value), (lg_sl (as.map (cv X))).length = (ent as).length
  | [] => rfl
  | v :: vs => by
    have ih := ent_len X vs
    unfold lg_sl at ih ⊢
    rw [List.map_cons, List.flatMap_cons, List.length_append, ih, ent, cv_cat]
    by_cases h : v.category = 2
    · simp [h]; omega
    · simp [h]; omega
def FR (X : Cx) (F : Fx) (ret : Option FieldType) (o : Option Value) (M' : Mem) : Prop := (fT F).sig.returnType = ret ∧ fQ F = MQ (fB F) (Qct X o M') (fA F) (fS F) (fc F) (fs F) (xA X)
theorem Ctr.ofG {X : Cx} {l : Launch} {y : MethodName} {cb : ByteArray} {mL : Nat} {ret : Option FieldType} {d : Nat} {as : List Value} {M : Mem} {o : Option Value} {M' : Mem} {L : List (Option Value)} (hX : CxOk X) (hy : plainName y.cls = true) (hlen : (ent as).length ≤ mL) (hL : ent as ++ List.replicate (mL - (ent as).length) none = L)
    (body : ∀ F : Fx, FK X F cb y.cls mL d → fL F = l → FR X F ret o M' → G X F 0 L [] M) : Ctr X l y cb mL ret d as M o M' := by
  refine Met.ofW (cc := cb) (maxL := mL) (ret := ret) hy rfl ?_
  intro p e s m args below meth c s₁ B hml hv
  obtain ⟨rfl, hP, hK, hSt⟩ := hv
  have hts := atoms_spec (ws := Cond.code y cb mL ret :: tb) B.pre
  have hl := lv_entry (as.map (cv X)) (n := mL) (by rw [ent_len]; exact hlen)
  have hLl : L.length = mL := by rw [← hL]; simp; omega
  have hlv : lvR X ((lg_sl (as.map (cv X)) ++ List.replicate (mL - (lg_sl (as.map (cv X))).length) Slot.unset).toArray) L := by
    unfold lvR
    rw [hLl, ← hL, lz_ent]
    exact hl
  rw [lg_entry_eq]
  exact body (p, l, e, rmD d, s, m, (as.map (cv X)).toArray, below, meth, c, MQ below (Qct X o M') (as.map (cv X)).toArray s 0 0 (xA X), 0, 0) ⟨B.exec, B.bytes, hml, findClass_of_methodNamed B.named, fun w hw => hts w (List.mem_cons_of_mem _ hw), hK, hSt, hX, Nat.le_refl _, Nat.le_refl _, Nat.zero_le _, Nat.zero_le _, B.notSynchronized⟩ rfl ⟨B.returns, rfl⟩ s.heap [] _ hP va_S.rf hlv
section GC
variable {X : Cx} {F : Fx} {cc : ByteArray} {own : String} {nL d pc : Nat} {L : List (Option Value)} {st st0 : List Value} {M M' : Mem}
theorem FK.inv (hF : FK X F cc own nL d) {H : Heap} {locs : List Loc} (hP : va_P (xD X) classes (wl X M) H) (hS : va_S (xA X) (fS F).heap H locs) {U : State} (hU : U.heap = H) (hW : (fS F).WarmedH U.vm) : Inv X M U := ⟨by rw [hU]; exact hP, KX.moved hW.alike hF.2.2.2.2.2.1, St.move hW hS hU hF.2.2.2.2.2.2.1⟩
theorem g_iret (hF : FK X F cc own nL d) {v : Int32} (hR : FR X F (some .int) (some (.int v)) M) (dg : decode cc pc = .ok (.ireturn, 1)) : G X F pc L [.int v] M := by
  intro H locs ls hP hS hl
  unfold fW
  rw [hR.2]
  exact W.iret hF.1 hF.2.1 hR.1 (fun t ht hW => ⟨rfl, hF.inv hP hS ht hW, hS.F ht⟩) hS.2.2 dg (hlocks := hF.2.2.2.2.2.2.2.2.2.2.2.2)
theorem g_zret (hF : FK X F cc own nL d) {v : Int32} {ty : FieldType} (hR : FR X F (some ty) (some (.int v)) M) (hn : narrow ty (.int v) = .int v) (dg : decode cc pc = .ok (.ireturn, 1)) : G X F pc L [.int v] M := by
  intro H locs ls hP hS hl
  unfold fW
  rw [hR.2]
  exact W.zret hF.1 hF.2.1 hR.1 hn (fun t ht hW => ⟨rfl, hF.inv hP hS ht hW, hS.F ht⟩) hS.2.2 dg (hlocks := hF.2.2.2.2.2.2.2.2.2.2.2.2)
theorem g_lret (hF : FK X F cc own nL d) {v : Int64} (hR : FR X F (some .long) (some (.long v)) M) (dg : decode cc pc = .ok (.lreturn, 1)) : G X F pc L [.long v] M := by
  intro H locs ls hP hS hl
  unfold fW
  rw [hR.2]
  exact W.lret hF.1 hF.2.1 hR.1 (fun t ht hW => ⟨rfl, hF.inv hP hS ht hW, hS.F ht⟩) hS.2.2 dg (hlocks := hF.2.2.2.2.2.2.2.2.2.2.2.2)
theorem g_vret (hF : FK X F cc own nL d) (hR : FR X F none none M) (dg : decode cc pc = .ok (.return_, 1)) : G X F pc L [] M := by
  intro H locs ls hP hS hl
  unfold fW
  rw [hR.2]
  exact W.vret hF.1 hF.2.1 hR.1 (fun t ht hW => ⟨rfl, hF.inv hP hS ht hW, hS.F ht⟩) hS.2.2 dg (hlocks := hF.2.2.2.2.2.2.2.2.2.2.2.2)
theorem g_aret (hF : FK X F cc own nL d) {v : Value} {n : String} (hv : v = .null ∨ ∃ a, v = .ref a) (hR : FR X F (some (.object n)) (some v) M) (dg : decode cc pc = .ok (.areturn, 1)) : G X F pc L [v] M := by
  intro H locs ls hP hS hl
  unfold fW
  rw [hR.2]
  have hv' : cv X v = .null ∨ ∃ a, cv X v = .ref a := by
    rcases hv with rfl | ⟨a, rfl⟩
    · exact Or.inl rfl
    · exact Or.inr ⟨_, rfl⟩
  exact W.aret (v := cv X v) hF.1 hF.2.1 hR.1 (Or.inl ⟨n, rfl⟩) hv' (fun t ht hW => ⟨rfl, hF.inv hP hS ht hW, hS.F ht⟩) hS.2.2 dg (hlocks := hF.2.2.2.2.2.2.2.2.2.2.2.2)
/-- behind a call -/
theorem g_run {a : Array Value} {o : Option Value} (hr : ∀ (H : Heap) (locs : List Loc) (ls : Array Slot), va_P (xD X) classes (wl X M) H → va_S (xA X) (fS F).heap H locs → lvR X ls L → va_Run (fP F) (fL F) (fE F) (fR F) (fS F) (fM F) (fA F) (fB F) (fT F) (fC F) H locs (fc F) (fs F) 0 0 (F0 (fM F) pc ls (st0.map (cv X))) (st.map (cv X)) (Qct X o M' a) (xA X)) (kk : G X F (pc + 3) L (o.toList ++ st) M') : G X F pc L st0 M := by
  intro H locs ls hP hS hl T hT XT
  obtain ⟨v, s0, t, T', L', h0, X', hL, e1, e2, ⟨hv, hI, hz, hk⟩, stp⟩ := hr H locs ls hP hS hl T hT XT
  have hv' : v = o.map (cv X) := by injection hv
  subst hv'
  rw [h0] at hz hk
  have hS' : va_S (xA X) (fS F).heap T'.heap (locs ++ L') := ⟨Nat.le_trans hS.1 (by rw [e1]; exact hz), fun q h1 h2 => by rw [e1, hk q (Nat.lt_of_lt_of_le h1 hS.1) h2]; exact hS.2.1 q h1 h2, fun q hq => by
    rcases List.mem_append.mp hq with h | h
    · exact hS.2.2 q h
    · exact hL q h⟩
  obtain ⟨t2, a1, b1⟩ := kk T'.heap (locs ++ L') ls (by rw [e1]; exact hI.1) hS' hl T' rfl X'
  refine ⟨t2, stp t2 ?_, b1⟩
  have he : (o.toList ++ st).map (cv X) = (o.map (cv X)).toList ++ st.map (cv X) := by cases o <;> simp
  rw [he] at a1
  exact a1
theorem tb_gi {ws : List Cond} {w4 : Cond} (h : ∀ w ∈ ws, w ∈ tb) (h4 : w4 ∈ tb) : GoodIn tb (ws ++ (w4 :: tb)) := by
  intro w hw
  have hm : w ∈ tb := by
    rcases List.mem_append.mp hw with h1 | h1
    · exact h w h1
    · rcases List.mem_cons.mp h1 with rfl | h1
      · exact h4
      · exact h1
  exact ⟨hm, tb_good hm⟩
theorem cat_sum (X : Cx) (st : List Value) : ((st.map (cv X)).map fun v => v.category).sum = (st.map fun v => v.category).sum := by
  rw [List.map_map]
  congr 1
  apply List.map_congr_left
  intro v _
  exact cv_cat X v
theorem room_le (hF : FK X F cc own nL d) {d' mL : Nat} (hd : d' + 1 ≤ d) (hm : mL ≤ 21) : (rmD d').frames + 1 ≤ (fR F).frames ∧ 8 + (mL + 11) + (rmD d').locals ≤ (fR F).locals := by
  have h1 := hF.2.2.2.2.2.2.2.2.1
  have h2 := hF.2.2.2.2.2.2.2.2.2.1
  show d' + 1 ≤ _ ∧ 8 + (mL + 11) + 40 * d' ≤ _
  omega
theorem g_callV (hF : FK X F cc own nL d) {y : MethodName} {cb : ByteArray} {mL : Nat} {ret : Option FieldType} {d' : Nat} {as : List Value} {o : Option Value} {C : String} {T : u_T} {N ci index n k : Nat} (hc : classes[ci]? = some (C, T, N)) (hci : ci < 20) (w1 : Cond.methodLink own index y ∈ tb) (w2 : Cond.instanceMethod y ∈ tb) (w3 : Cond.selects C y y ∈ tb) (w4 : Cond.code y cb mL ret ∈ tb) (w5 : Cond.initialized C ∈ tb) (hy : y.cls = C ∧ y.cls ≠ "java/lang/invoke/MethodHandle" ∧ y.cls ≠ "java/lang/invoke/VarHandle" ∧ (parseMethodDescriptor y.desc).map (fun d => d.parameters.length) = some n) (hm : mL ≤ 21) (hk : k ∈ xcs X) (hkd : kd k = ci) (hM : Ctr X (fL F) y cb mL ret d' (.ref k :: as) M o M') (hd : d' + 1 ≤ d) (hn : as.length = n) (hs : st0 = as.reverse ++ .ref k :: st) (hLn : L.length = nL) (hrm : Nat.ble ((st.map fun v => v.category).sum) 8 = true) (dg : decode cc pc = .ok (.invokevirtual index, 3)) (kk : G X F (pc + 3) L (o.toList ++ st) M') : G X F pc L st0 M := by
  refine g_run (a := (Value.ref (xad X k) :: as.map (cv X)).toArray) (fun H locs ls hP hS hl => ?_) kk
  obtain ⟨p, hp⟩ := wl_at hk M
  rw [ce_obj hkd hci] at hp
  refine va_runV (As := as.map (cv X)) (C := C) (b := xad X k) (nL := nL) (cc := cc) (Ts := tb) (own := own) ⟨hF.1, hF.2.1, hF.2.2.1, hF.2.2.2.1, hF.2.2.2.2.1⟩ hM (cwV n hF.2.2.2.2.1 (tb_gi (ws := [.methodLink own index y, .instanceMethod y, .selects C y y, .initialized C]) (fun w hw => by
    simp only [List.mem_cons, List.not_mem_nil, or_false] at hw
    rcases hw with rfl | rfl | rfl | rfl <;> assumption) w4) rfl rfl rfl hy (room_le hF hd hm)) ⟨Inv.blind, ?_, fun U hU hW => ⟨rfl, hF.inv hP hS hU hW⟩⟩ rfl (by rw [List.length_map]; exact hn) (by show ls.size = nL; rw [hl.1]; exact hLn) (by subst hs; simp [cv, F0]) (lv_room (by rw [cat_sum]; exact Nat.le_of_ble_eq_true hrm)) dg ⟨hF.2.2.2.2.2.2.2.2.2.2.1, hF.2.2.2.2.2.2.2.2.2.2.2.1⟩
  exact va_recv hF.2.2.2.2.2.1.k0 hP hc hp
theorem g_callS (hF : FK X F cc own nL d) {y : MethodName} {cb : ByteArray} {mL : Nat} {ret : Option FieldType} {d' : Nat} {as : List Value} {o : Option Value} {index n : Nat} (w1 : Cond.methodLink own index y ∈ tb) (w2 : Cond.static y ∈ tb) (w4 : Cond.code y cb mL ret ∈ tb) (w5 : Cond.initialized y.cls ∈ tb) (hy : y.cls ≠ "java/lang/invoke/MethodHandle" ∧ y.cls ≠ "java/lang/invoke/VarHandle" ∧ (parseMethodDescriptor y.desc).map (fun d => d.parameters.length) = some n) (hm : mL ≤ 21) (hM : Ctr X (fL F) y cb mL ret d' as M o M') (hd : d' + 1 ≤ d) (hn : as.length = n) (hs : st0 = as.reverse ++ st) (hLn : L.length = nL) (hrm : Nat.ble ((st.map fun v => v.category).sum) 8 = true) (dg : decode cc pc = .ok (.invokestatic index, 3)) (kk : G X F (pc + 3) L (o.toList ++ st) M') : G X F pc L st0 M := by
  refine g_run (a := (as.map (cv X)).toArray) (fun H locs ls hP hS hl => ?_) kk
  exact va_runS (As := as.map (cv X)) (nL := nL) (cc := cc) (Ts := tb) (own := own) ⟨hF.1, hF.2.1, hF.2.2.1, hF.2.2.2.1, hF.2.2.2.2.1⟩ hM (va_cwS n hF.2.2.2.2.1 (tb_gi (ws := [.methodLink own index y, .static y, .initialized y.cls]) (fun w hw => by
    simp only [List.mem_cons, List.not_mem_nil, or_false] at hw
    rcases hw with rfl | rfl | rfl <;> assumption) w4) rfl rfl rfl hy (room_le hF hd hm)) ⟨Inv.blind, fun U hU hW => ⟨rfl, hF.inv hP hS hU hW⟩⟩ rfl (by rw [List.length_map]; exact hn) (by show ls.size = nL; rw [hl.1]; exact hLn) (by subst hs; simp [F0]) (lv_room (by rw [cat_sum]; exact Nat.le_of_ble_eq_true hrm)) dg ⟨hF.2.2.2.2.2.2.2.2.2.2.1, hF.2.2.2.2.2.2.2.2.2.2.2.1⟩
theorem g_callSN (hF : FK X F cc own nL d) {y : MethodName} {cb : ByteArray} {mL : Nat} {ret : Option FieldType} {d' : Nat} {as : List Value} {o : Option Value} {index n : Nat} {host : String} (w1 : va_Nw (.methodLinkNest own index y host) (fS F)) (w2 : Cond.static y ∈ tb) (w4 : Cond.code y cb mL ret ∈ tb) (w5 : Cond.initialized y.cls ∈ tb) (hy : y.cls ≠ "java/lang/invoke/MethodHandle" ∧ y.cls ≠ "java/lang/invoke/VarHandle" ∧ (parseMethodDescriptor y.desc).map (fun d => d.parameters.length) = some n) (hm : mL ≤ 21) (hM : Ctr X (fL F) y cb mL ret d' as M o M') (hd : d' + 1 ≤ d) (hn : as.length = n) (hs : st0 = as.reverse ++ st) (hLn : L.length = nL) (hrm : Nat.ble ((st.map fun v => v.category).sum) 8 = true) (dg : decode cc pc = .ok (.invokestatic index, 3)) (kk : G X F (pc + 3) L (o.toList ++ st) M') : G X F pc L st0 M := by
  refine g_run (a := (as.map (cv X)).toArray) (fun H locs ls hP hS hl => ?_) kk
  exact va_runSN (As := as.map (cv X)) (nL := nL) (cc := cc) (Ts := tb) (own := own) (host := host) ⟨hF.1, hF.2.1, hF.2.2.1, hF.2.2.2.1, hF.2.2.2.2.1⟩ hM ⟨va_cnB n hF.2.2.2.2.1 (tb_gi (ws := []) (fun w hw => by cases hw) w4) rfl rfl rfl w1 (hF.2.2.2.2.1 _ w5) hy (room_le hF hd hm), hF.2.2.2.2.1 _ w2, trivial⟩ ⟨Inv.blind, fun U hU hW => ⟨rfl, hF.inv hP hS hU hW⟩⟩ rfl (by rw [List.length_map]; exact hn) (by show ls.size = nL; rw [hl.1]; exact hLn) (by subst hs; simp [F0]) (lv_room (by rw [cat_sum]; exact Nat.le_of_ble_eq_true hrm)) dg ⟨hF.2.2.2.2.2.2.2.2.2.2.1, hF.2.2.2.2.2.2.2.2.2.2.2.1⟩
end GC
end
section
/-! Copies, Math, what is constant. -/
def cp2 (M : Mem) (k0 k1 n : Nat) : Mem := fun a b => if a = k1 ∧ b < n then M k0 b else M a b
theorem cp2_row (M : Mem) (k0 k1 n : Nat) : (cp2 M k0 k1 n) k1 = va_cpy (M k0) (M k1) 0 0 n := by
  funext b
  by_cases h : b < n <;> simp [cp2, va_cpy, h]
theorem cp2_other (M : Mem) {k0 k1 a : Nat} (n : Nat) (h : a ≠ k1) : (cp2 M k0 k1 n) a = M a := by
  funext b
  simp [cp2, h]
section GM
variable {X : Cx} {F : Fx} {cc : ByteArray} {own : String} {nL d pc : Nat} {L : List (Option Value)} {st st0 : List Value} {M M' : Mem}
theorem g_copy (hF : FK X F cc own nL d) {k0 k1 index : Nat} {n : Int32} (w1 : Cond.methodLink own index arraycopyName ∈ tb) (w2 : Cond.native arraycopyName ∈ tb) (w3 : Cond.static arraycopyName ∈ tb) (w5 : Cond.initialized "java/lang/System" ∈ tb) (hk0 : k0 ∈ xcs X) (hd0 : kd k0 = 20) (hk1 : k1 ∈ xcs X) (hd1 : kd k1 = 20) (h3 : ¬ n < 0) (h4 : n.toNatClampNeg ≤ ln k0) (h5 : n.toNatClampNeg ≤ ln k1) (hd : 1 ≤ d) (hLn : L.length = nL) (hrm : Nat.ble ((st.map fun v => v.category).sum) 8 = true) (dg : decode cc pc = .ok (.invokestatic index, 3)) (kk : G X F (pc + 3) L st (cp2 M k0 k1 n.toNatClampNeg)) : G X F pc L (.int n :: .int 0 :: .ref k1 :: .int 0 :: .ref k0 :: st) M := by
  intro H locs ls hP hS hl
  obtain ⟨p0, hp0⟩ := wl_at hk0 M
  obtain ⟨p1, hp1⟩ := wl_at hk1 M
  have hp1' := hp1
  rw [ce_arr (by rw [hd0]; omega) (by rw [hd0]; omega)] at hp0
  rw [ce_arr (by rw [hd1]; omega) (by rw [hd1]; omega)] at hp1
  have hr1 := hF.2.2.2.2.2.2.2.2.1
  have hr2 := hF.2.2.2.2.2.2.2.2.2.1
  have hts := hF.2.2.2.2.1
  have h00 : (0 : Int32).toNatClampNeg = 0 := rfl
  refine va_copyi hF.1 hF.2.1 (by rw [hF.2.2.1, hl.1]; exact hLn.symm) hF.2.2.2.1 (hts _ w1) (hts _ w2) (hts _ w3) (hts _ w5) (hF.2.2.2.2.2.1.k2 hk0 (by rw [hd0]; omega) hk1 (by rw [hd1]; omega) (ty := .int) (by simp [kty, hd0]) (by simp [kty, hd1])) hP (wl_D hF.2.2.2.2.2.2.2.1 M) hS p0 p1 0 1 hp0 hp1 rfl rfl rfl (by decide) (by decide) h3 (by rw [h00]; omega) (by rw [h00]; omega) (fun i _ => rfl) (by omega) ?_ dg (fun H1 locs1 hP1 hD1 hS1 => ?_)
  · rw [cat_sum]
    have h8 := Nat.le_of_ble_eq_true hrm
    have h9 : nativeFrameWords "java/lang/System" "arraycopy" 5 + 11 ≤ 32 := by decide +kernel
    omega
  · rw [h00, wl_set hF.2.2.2.2.2.2.2.1 hp1' hk1 (M' := cp2 M k0 k1 n.toNatClampNeg) (by rw [ce_arr (by rw [hd1]; omega) (by rw [hd1]; omega), cp2_row]) (fun a ha => ce_row (cp2_other M _ ha))] at hP1
    exact kk H1 locs1 ls hP1 hS1 hl
theorem g_mmax (hF : FK X F cc own nL d) {index : Nat} {x y : Int32} (w1 : Cond.methodLink own index Lib.Math.max.name ∈ tb) (w2 : Cond.static Lib.Math.max.name ∈ tb) (w5 : Cond.initialized "java/lang/Math" ∈ tb) (w4 : Cond.code Lib.Math.max.name Lib.Math.max.code 2 (some .int) ∈ tb) (hd : 1 ≤ d) (hLn : L.length = nL) (hrm : Nat.ble ((st.map fun v => v.category).sum) 8 = true) (dg : decode cc pc = .ok (.invokestatic index, 3)) (kk : G X F (pc + 3) L (.int (if x < y then y else x) :: st) M) : G X F pc L (.int y :: .int x :: st) M := by
  intro H locs ls hP hS hl
  have hr1 := hF.2.2.2.2.2.2.2.2.1
  have hr2 := hF.2.2.2.2.2.2.2.2.2.1
  have hts := hF.2.2.2.2.1
  have h8 := Nat.le_of_ble_eq_true hrm
  exact va_mmax hF.1 hF.2.1 (by rw [hF.2.2.1, hl.1]; exact hLn.symm) hF.2.2.2.1 (hts _ w1) (hts _ w2) (hts _ w5) (hts _ w4) (by omega) (by rw [cat_sum]; omega) hF.2.2.2.2.2.2.2.2.2.2.1 hF.2.2.2.2.2.2.2.2.2.2.2.1 dg (kk H locs ls hP hS hl)
theorem g_mmin (hF : FK X F cc own nL d) {index : Nat} {x y : Int32} (w1 : Cond.methodLink own index Lib.Math.min.name ∈ tb) (w2 : Cond.static Lib.Math.min.name ∈ tb) (w5 : Cond.initialized "java/lang/Math" ∈ tb) (w4 : Cond.code Lib.Math.min.name Lib.Math.min.code 2 (some .int) ∈ tb) (hd : 1 ≤ d) (hLn : L.length = nL) (hrm : Nat.ble ((st.map fun v => v.category).sum) 8 = true) (dg : decode cc pc = .ok (.invokestatic index, 3)) (kk : G X F (pc + 3) L (.int (if y < x then y else x) :: st) M) : G X F pc L (.int y :: .int x :: st) M := by
  intro H locs ls hP hS hl
  have hr1 := hF.2.2.2.2.2.2.2.2.1
  have hr2 := hF.2.2.2.2.2.2.2.2.2.1
  have hts := hF.2.2.2.2.1
  have h8 := Nat.le_of_ble_eq_true hrm
  exact va_mmin hF.1 hF.2.1 (by rw [hF.2.2.1, hl.1]; exact hLn.symm) hF.2.2.2.1 (hts _ w1) (hts _ w2) (hts _ w5) (hts _ w4) (by omega) (by rw [cat_sum]; omega) hF.2.2.2.2.2.2.2.2.2.2.1 hF.2.2.2.2.2.2.2.2.2.2.2.1 dg (kk H locs ls hP hS hl)
/-- a table of the class's own (cell 1060 + i) -/
theorem g_gett (hF : FK X F cc RX6 nL d) {index i : Nat} (hi : i < 5) (w1 : Cond.fieldLink RX6 index RX6 (tNames.getD i "") "[I" ∈ tb) (dg : decode cc pc = .ok (.getstatic index, 3)) (kk : G X F (pc + 3) L (.ref (1060 + i) :: st) M) : G X F pc L st M := fun H locs ls hP hS hl =>
  va_gets hF.1 hF.2.1 (hF.2.2.2.2.2.2.1.2.1 i hi).1 hS hF.2.2.2.1 (hF.2.2.2.2.1 _ w1) (fun _ h => h) dg (kk H locs ls hP hS hl)
theorem g_gettN (hF : FK X F cc RX4 nL d) {index i : Nat} (hi : i < 5) (w1 : va_Nw (.fieldLinkNest RX4 index RX6 (tNames.getD i "") "[I" RX6) (fS F)) (dg : decode cc pc = .ok (.getstatic index, 3)) (kk : G X F (pc + 3) L (.ref (1060 + i) :: st) M) : G X F pc L st M := fun H locs ls hP hS hl =>
  va_getsN hF.1 hF.2.1 (hF.2.2.2.2.2.2.1.2.1 i hi).1 hS hF.2.2.2.1 (va_Nw.use rfl w1) (fun _ h => h) dg (kk H locs ls hP hS hl)
theorem g_ti (hF : FK X F cc own nL d) {i : Nat} {j : Int32} (hi : i < 5) (hj : vp_in j (tN i)) (dg : decode cc pc = .ok (.iaload, 1)) (kk : G X F (pc + 1) L (.int (tV i j.toNatClampNeg) :: st) M) : G X F pc L (.int j :: .ref (1060 + i) :: st) M := fun H locs ls hP hS hl =>
  va_ti hF.1 hF.2.1 (hF.2.2.2.2.2.2.1.2.1 i hi).2 hS hj rfl dg (kk H locs ls hP hS hl)
theorem g_tlen (hF : FK X F cc own nL d) {i : Nat} {v : Int32} (hi : i < 5) (hv : Int32.ofNat (tN i) = v) (dg : decode cc pc = .ok (.arraylength, 1)) (kk : G X F (pc + 1) L (.int v :: st) M) : G X F pc L (.ref (1060 + i) :: st) M := fun H locs ls hP hS hl =>
  va_tlen hF.1 hF.2.1 (hF.2.2.2.2.2.2.1.2.1 i hi).2 hS hv dg (kk H locs ls hP hS hl)
/-- a clause's fields (cell 1000 + i), a text's (1020 + i), its letters (1040 + i) -/
theorem g_cword (hF : FK X F cc own nL d) {index i : Nat} (hi : i < 13) (w1 : Cond.fieldLink own index RX0 "word" "Ljava/lang/String;" ∈ tb) (dg : decode cc pc = .ok (.getfield index, 3)) (kk : G X F (pc + 3) L (.ref (1020 + i) :: st) M) : G X F pc L (.ref (1000 + i) :: st) M := fun H locs ls hP hS hl =>
  vk_getf hF.1 hF.2.1 (hF.2.2.2.2.2.2.1.1 i hi).2.1 hS hF.2.2.2.1 (hF.2.2.2.2.1 _ w1) (fun _ h => h) dg (kk H locs ls hP hS hl)
theorem g_cdeed (hF : FK X F cc own nL d) {index i : Nat} (hi : i < 13) (w1 : Cond.fieldLink own index RX0 "deed" "I" ∈ tb) (dg : decode cc pc = .ok (.getfield index, 3)) (kk : G X F (pc + 3) L (.int (cDeeds.getD i 0) :: st) M) : G X F pc L (.ref (1000 + i) :: st) M := fun H locs ls hP hS hl =>
  vk_getf hF.1 hF.2.1 (hF.2.2.2.2.2.2.1.1 i hi).2.2.1 hS hF.2.2.2.1 (hF.2.2.2.2.1 _ w1) (fun _ h => h) dg (kk H locs ls hP hS hl)
theorem g_ckind (hF : FK X F cc own nL d) {index i : Nat} (hi : i < 13) (w1 : Cond.fieldLink own index RX0 "kind" "I" ∈ tb) (dg : decode cc pc = .ok (.getfield index, 3)) (kk : G X F (pc + 3) L (.int (cKinds.getD i 0) :: st) M) : G X F pc L (.ref (1000 + i) :: st) M := fun H locs ls hP hS hl =>
  vk_getf hF.1 hF.2.1 (hF.2.2.2.2.2.2.1.1 i hi).2.2.2.1 hS hF.2.2.2.1 (hF.2.2.2.2.1 _ w1) (fun _ h => h) dg (kk H locs ls hP hS hl)
theorem g_scoder (hF : FK X F cc own nL d) {index i : Nat} (hi : i < 13) (w1 : Cond.fieldLink own index "java/lang/String" "coder" "B" ∈ tb) (dg : decode cc pc = .ok (.getfield index, 3)) (kk : G X F (pc + 3) L (.int 0 :: st) M) : G X F pc L (.ref (1020 + i) :: st) M := fun H locs ls hP hS hl =>
  vk_getf hF.1 hF.2.1 (hF.2.2.2.2.2.2.1.1 i hi).2.2.2.2.2.1 hS hF.2.2.2.1 (hF.2.2.2.2.1 _ w1) (fun _ h => h) dg (kk H locs ls hP hS hl)
theorem g_svalue (hF : FK X F cc own nL d) {index i : Nat} (hi : i < 13) (w1 : Cond.fieldLink own index "java/lang/String" "value" "[B" ∈ tb) (dg : decode cc pc = .ok (.getfield index, 3)) (kk : G X F (pc + 3) L (.ref (1040 + i) :: st) M) : G X F pc L (.ref (1020 + i) :: st) M := fun H locs ls hP hS hl =>
  vk_getf hF.1 hF.2.1 (hF.2.2.2.2.2.2.1.1 i hi).2.2.2.2.2.2.1 hS hF.2.2.2.1 (hF.2.2.2.2.1 _ w1) (fun _ h => h) dg (kk H locs ls hP hS hl)
theorem g_sbyte (hF : FK X F cc own nL d) {i : Nat} {j : Int32} (hi : i < 13) (hj : vp_in j (cN i)) (dg : decode cc pc = .ok (.baload, 1)) (kk : G X F (pc + 1) L (.int (cB i j.toNatClampNeg) :: st) M) : G X F pc L (.int j :: .ref (1040 + i) :: st) M := fun H locs ls hP hS hl =>
  va_tb hF.1 hF.2.1 (hF.2.2.2.2.2.2.1.1 i hi).2.2.2.2.2.2.2 hS hj rfl dg (kk H locs ls hP hS hl)
theorem g_slen (hF : FK X F cc own nL d) {i : Nat} {v : Int32} (hi : i < 13) (hv : Int32.ofNat (cN i) = v) (dg : decode cc pc = .ok (.arraylength, 1)) (kk : G X F (pc + 1) L (.int v :: st) M) : G X F pc L (.ref (1040 + i) :: st) M := fun H locs ls hP hS hl =>
  va_tlen hF.1 hF.2.1 (hF.2.2.2.2.2.2.1.1 i hi).2.2.2.2.2.2.2 hS hv dg (kk H locs ls hP hS hl)
theorem g_scs (hF : FK X F cc own nL d) {index : Nat} (w1 : Cond.fieldLink own index "java/lang/String" "COMPACT_STRINGS" "Z" ∈ tb) (dg : decode cc pc = .ok (.getstatic index, 3)) (kk : G X F (pc + 3) L (.int 1 :: st) M) : G X F pc L st M := fun H locs ls hP hS hl =>
  va_gets hF.1 hF.2.1 hF.2.2.2.2.2.2.1.2.2.1.1 hS hF.2.2.2.1 (hF.2.2.2.2.1 _ w1) (fun _ h => h) dg (kk H locs ls hP hS hl)
theorem g_sfm (hF : FK X F cc own nL d) {index : Nat} (w1 : Cond.fieldLink own index "jdk/internal/util/Preconditions" "SIOOBE_FORMATTER" "Ljava/util/function/BiFunction;" ∈ tb) (dg : decode cc pc = .ok (.getstatic index, 3)) (kk : G X F (pc + 3) L (.null :: st) M) (kr : G X F (pc + 3) L (.ref 1099 :: st) M) : G X F pc L st M := fun H locs ls hP hS hl => by
  rcases hF.2.2.2.2.2.2.1.2.2.1.2 with h | h
  · exact va_gets hF.1 hF.2.1 h hS hF.2.2.2.1 (hF.2.2.2.2.1 _ w1) (fun _ h => h) dg (kk H locs ls hP hS hl)
  · exact va_gets hF.1 hF.2.1 h hS hF.2.2.2.1 (hF.2.2.2.2.1 _ w1) (fun _ h => h) dg (kr H locs ls hP hS hl)
/-- a call on a text -/
theorem g_callVS (hF : FK X F cc own nL d) {y : MethodName} {cb : ByteArray} {mL : Nat} {ret : Option FieldType} {d' : Nat} {as : List Value} {o : Option Value} {index n i : Nat} (hi : i < 13) (w1 : Cond.methodLink own index y ∈ tb) (w2 : Cond.instanceMethod y ∈ tb) (w3 : Cond.selects "java/lang/String" y y ∈ tb) (w4 : Cond.code y cb mL ret ∈ tb) (w5 : Cond.initialized "java/lang/String" ∈ tb) (hy : y.cls = "java/lang/String" ∧ y.cls ≠ "java/lang/invoke/MethodHandle" ∧ y.cls ≠ "java/lang/invoke/VarHandle" ∧ (parseMethodDescriptor y.desc).map (fun d => d.parameters.length) = some n) (hm : mL ≤ 21) (hM : Ctr X (fL F) y cb mL ret d' (.ref (1020 + i) :: as) M o M') (hd : d' + 1 ≤ d) (hn : as.length = n) (hs : st0 = as.reverse ++ .ref (1020 + i) :: st) (hLn : L.length = nL) (hrm : Nat.ble ((st.map fun v => v.category).sum) 8 = true) (dg : decode cc pc = .ok (.invokevirtual index, 3)) (kk : G X F (pc + 3) L (o.toList ++ st) M') : G X F pc L st0 M := by
  refine g_run (a := (Value.ref (xad X (1020 + i)) :: as.map (cv X)).toArray) (fun H locs ls hP hS hl => ?_) kk
  refine va_runV (As := as.map (cv X)) (C := "java/lang/String") (b := xad X (1020 + i)) (nL := nL) (cc := cc) (Ts := tb) (own := own) ⟨hF.1, hF.2.1, hF.2.2.1, hF.2.2.2.1, hF.2.2.2.2.1⟩ hM (cwV n hF.2.2.2.2.1 (tb_gi (ws := [.methodLink own index y, .instanceMethod y, .selects "java/lang/String" y y, .initialized "java/lang/String"]) (fun w hw => by
    simp only [List.mem_cons, List.not_mem_nil, or_false] at hw
    rcases hw with rfl | rfl | rfl | rfl <;> assumption) w4) rfl rfl rfl hy (room_le hF hd hm)) ⟨Inv.blind, ?_, fun U hU hW => ⟨rfl, hF.inv hP hS hU hW⟩⟩ rfl (by rw [List.length_map]; exact hn) (by show ls.size = nL; rw [hl.1]; exact hLn) (by subst hs; simp [cv, F0]) (lv_room (by rw [cat_sum]; exact Nat.le_of_ble_eq_true hrm)) dg ⟨hF.2.2.2.2.2.2.2.2.2.2.1, hF.2.2.2.2.2.2.2.2.2.2.2.1⟩
  obtain ⟨cell, h1, h2, h3, -⟩ := (hF.2.2.2.2.2.2.1.1 i hi).2.2.2.2.1.kept hS.2.1
  exact ⟨cell, h1, h2, h3⟩
end GM
end
