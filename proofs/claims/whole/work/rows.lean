section
-- ===== PART A: goes FIRST, ahead of the names: the tables' words, and 'selects' of the private methods out of them =====
/-- a private method of a class that the tables say can be made, by its rows of tables_1 -/
def lw_okq (q : MethodName × Nat) : Prop := (q.1.cls ≠ "java/lang/invoke/MethodHandle" ∧ q.1.cls ≠ "java/lang/invoke/VarHandle") ∧ Cond.instantiable q.1.cls q.2 ∈ tables_1 ∧ Cond.privateMethod q.1 ∈ tables_1 ∧ Cond.instanceMethod q.1 ∈ tables_1
theorem lw_p0 : lw_okq (⟨"WhichEncore$Text", "readClause", "()Z"⟩, 7) := ⟨⟨by decide +kernel, by decide +kernel⟩, List.mem_of_getElem? (i := 94) (by decide +kernel), List.mem_of_getElem? (i := 300) (by decide +kernel), List.mem_of_getElem? (i := 301) (by decide +kernel)⟩
theorem lw_p1 : lw_okq (⟨"WhichEncore$Text", "skipBlanks", "()V"⟩, 7) := ⟨⟨by decide +kernel, by decide +kernel⟩, List.mem_of_getElem? (i := 94) (by decide +kernel), List.mem_of_getElem? (i := 304) (by decide +kernel), List.mem_of_getElem? (i := 305) (by decide +kernel)⟩
theorem lw_p2 : lw_okq (⟨"WhichEncore$Text", "endOfRow", "(CC)I"⟩, 7) := ⟨⟨by decide +kernel, by decide +kernel⟩, List.mem_of_getElem? (i := 94) (by decide +kernel), List.mem_of_getElem? (i := 308) (by decide +kernel), List.mem_of_getElem? (i := 309) (by decide +kernel)⟩
theorem lw_p3 : lw_okq (⟨"WhichEncore$Text", "clauseUpTo", "(I)LWhichEncore$Clause;"⟩, 7) := ⟨⟨by decide +kernel, by decide +kernel⟩, List.mem_of_getElem? (i := 94) (by decide +kernel), List.mem_of_getElem? (i := 312) (by decide +kernel), List.mem_of_getElem? (i := 313) (by decide +kernel)⟩
theorem lw_p4 : lw_okq (⟨"WhichEncore$Text", "isWordUpTo", "(Ljava/lang/String;I)Z"⟩, 7) := ⟨⟨by decide +kernel, by decide +kernel⟩, List.mem_of_getElem? (i := 94) (by decide +kernel), List.mem_of_getElem? (i := 316) (by decide +kernel), List.mem_of_getElem? (i := 317) (by decide +kernel)⟩
theorem lw_p5 : lw_okq (⟨"WhichEncore$Text", "readNumber", "(III)Z"⟩, 7) := ⟨⟨by decide +kernel, by decide +kernel⟩, List.mem_of_getElem? (i := 94) (by decide +kernel), List.mem_of_getElem? (i := 378) (by decide +kernel), List.mem_of_getElem? (i := 379) (by decide +kernel)⟩
theorem lw_p6 : lw_okq (⟨"WhichEncore$Told", "addClapper", "(I[I)V"⟩, 12) := ⟨⟨by decide +kernel, by decide +kernel⟩, List.mem_of_getElem? (i := 26) (by decide +kernel), List.mem_of_getElem? (i := 386) (by decide +kernel), List.mem_of_getElem? (i := 387) (by decide +kernel)⟩
theorem lw_p7 : lw_okq (⟨"WhichEncore$Told", "addEncore", "(I[I)V"⟩, 12) := ⟨⟨by decide +kernel, by decide +kernel⟩, List.mem_of_getElem? (i := 26) (by decide +kernel), List.mem_of_getElem? (i := 390) (by decide +kernel), List.mem_of_getElem? (i := 391) (by decide +kernel)⟩
theorem lw_p8 : lw_okq (⟨"WhichEncore", "beginAnew", "()V"⟩, 10) := ⟨⟨by decide +kernel, by decide +kernel⟩, List.mem_of_getElem? (i := 18) (by decide +kernel), List.mem_of_getElem? (i := 399) (by decide +kernel), List.mem_of_getElem? (i := 400) (by decide +kernel)⟩
theorem lw_p9 : lw_okq (⟨"WhichEncore$Evening", "whoIsBeside", "(I)I"⟩, 10) := ⟨⟨by decide +kernel, by decide +kernel⟩, List.mem_of_getElem? (i := 141) (by decide +kernel), List.mem_of_getElem? (i := 449) (by decide +kernel), List.mem_of_getElem? (i := 450) (by decide +kernel)⟩
theorem lw_p10 : lw_okq (⟨"WhichEncore", "refusalOf", "(I)I"⟩, 10) := ⟨⟨by decide +kernel, by decide +kernel⟩, List.mem_of_getElem? (i := 18) (by decide +kernel), List.mem_of_getElem? (i := 470) (by decide +kernel), List.mem_of_getElem? (i := 471) (by decide +kernel)⟩
theorem lw_p11 : lw_okq (⟨"WhichEncore$Evening", "isReady", "(I)Z"⟩, 10) := ⟨⟨by decide +kernel, by decide +kernel⟩, List.mem_of_getElem? (i := 141) (by decide +kernel), List.mem_of_getElem? (i := 478) (by decide +kernel), List.mem_of_getElem? (i := 479) (by decide +kernel)⟩
theorem lw_p12 : lw_okq (⟨"WhichEncore$Evening", "waitOne", "()V"⟩, 10) := ⟨⟨by decide +kernel, by decide +kernel⟩, List.mem_of_getElem? (i := 141) (by decide +kernel), List.mem_of_getElem? (i := 514) (by decide +kernel), List.mem_of_getElem? (i := 515) (by decide +kernel)⟩
theorem lw_p13 : lw_okq (⟨"WhichEncore$Evening", "letPass", "(I)V"⟩, 10) := ⟨⟨by decide +kernel, by decide +kernel⟩, List.mem_of_getElem? (i := 141) (by decide +kernel), List.mem_of_getElem? (i := 520) (by decide +kernel), List.mem_of_getElem? (i := 521) (by decide +kernel)⟩
theorem lw_p14 : lw_okq (⟨"WhichEncore$Evening", "bowOnce", "()V"⟩, 10) := ⟨⟨by decide +kernel, by decide +kernel⟩, List.mem_of_getElem? (i := 141) (by decide +kernel), List.mem_of_getElem? (i := 524) (by decide +kernel), List.mem_of_getElem? (i := 525) (by decide +kernel)⟩
theorem lw_p15 : lw_okq (⟨"WhichEncore$Evening", "play", "(I)V"⟩, 10) := ⟨⟨by decide +kernel, by decide +kernel⟩, List.mem_of_getElem? (i := 141) (by decide +kernel), List.mem_of_getElem? (i := 535) (by decide +kernel), List.mem_of_getElem? (i := 536) (by decide +kernel)⟩
def lw_privs_1 : List (MethodName × Nat) := [(⟨"WhichEncore$Text", "readClause", "()Z"⟩, 7), (⟨"WhichEncore$Text", "skipBlanks", "()V"⟩, 7), (⟨"WhichEncore$Text", "endOfRow", "(CC)I"⟩, 7), (⟨"WhichEncore$Text", "clauseUpTo", "(I)LWhichEncore$Clause;"⟩, 7), (⟨"WhichEncore$Text", "isWordUpTo", "(Ljava/lang/String;I)Z"⟩, 7), (⟨"WhichEncore$Text", "readNumber", "(III)Z"⟩, 7), (⟨"WhichEncore$Told", "addClapper", "(I[I)V"⟩, 12), (⟨"WhichEncore$Told", "addEncore", "(I[I)V"⟩, 12), (⟨"WhichEncore", "beginAnew", "()V"⟩, 10), (⟨"WhichEncore$Evening", "whoIsBeside", "(I)I"⟩, 10), (⟨"WhichEncore", "refusalOf", "(I)I"⟩, 10), (⟨"WhichEncore$Evening", "isReady", "(I)Z"⟩, 10), (⟨"WhichEncore$Evening", "waitOne", "()V"⟩, 10), (⟨"WhichEncore$Evening", "letPass", "(I)V"⟩, 10), (⟨"WhichEncore$Evening", "bowOnce", "()V"⟩, 10), (⟨"WhichEncore$Evening", "play", "(I)V"⟩, 10)]
theorem lw_r1 : ∀ q ∈ lw_privs_1, lw_okq q := List.forall_mem_cons.mpr ⟨lw_p0, List.forall_mem_cons.mpr ⟨lw_p1, List.forall_mem_cons.mpr ⟨lw_p2, List.forall_mem_cons.mpr ⟨lw_p3, List.forall_mem_cons.mpr ⟨lw_p4, List.forall_mem_cons.mpr ⟨lw_p5, List.forall_mem_cons.mpr ⟨lw_p6, List.forall_mem_cons.mpr ⟨lw_p7, List.forall_mem_cons.mpr ⟨lw_p8, List.forall_mem_cons.mpr ⟨lw_p9, List.forall_mem_cons.mpr ⟨lw_p10, List.forall_mem_cons.mpr ⟨lw_p11, List.forall_mem_cons.mpr ⟨lw_p12, List.forall_mem_cons.mpr ⟨lw_p13, List.forall_mem_cons.mpr ⟨lw_p14, List.forall_mem_cons.mpr ⟨lw_p15, fun _ h => absurd h List.not_mem_nil⟩⟩⟩⟩⟩⟩⟩⟩⟩⟩⟩⟩⟩⟩⟩⟩
theorem lw_p16 : lw_okq (⟨"WhichEncore", "foretellWaits", "(I)V"⟩, 10) := ⟨⟨by decide +kernel, by decide +kernel⟩, List.mem_of_getElem? (i := 18) (by decide +kernel), List.mem_of_getElem? (i := 573) (by decide +kernel), List.mem_of_getElem? (i := 574) (by decide +kernel)⟩
theorem lw_p17 : lw_okq (⟨"WhichEncore$Search", "lookDeeper", "(I)V"⟩, 5) := ⟨⟨by decide +kernel, by decide +kernel⟩, List.mem_of_getElem? (i := 189) (by decide +kernel), List.mem_of_getElem? (i := 590) (by decide +kernel), List.mem_of_getElem? (i := 591) (by decide +kernel)⟩
theorem lw_p18 : lw_okq (⟨"WhichEncore$Search", "isWorthATry", "(II)Z"⟩, 5) := ⟨⟨by decide +kernel, by decide +kernel⟩, List.mem_of_getElem? (i := 189) (by decide +kernel), List.mem_of_getElem? (i := 594) (by decide +kernel), List.mem_of_getElem? (i := 595) (by decide +kernel)⟩
theorem lw_p19 : lw_okq (⟨"WhichEncore$Search", "lookBehind", "(II)V"⟩, 5) := ⟨⟨by decide +kernel, by decide +kernel⟩, List.mem_of_getElem? (i := 189) (by decide +kernel), List.mem_of_getElem? (i := 600) (by decide +kernel), List.mem_of_getElem? (i := 601) (by decide +kernel)⟩
theorem lw_p20 : lw_okq (⟨"WhichEncore$Search", "compare", "(I)V"⟩, 5) := ⟨⟨by decide +kernel, by decide +kernel⟩, List.mem_of_getElem? (i := 189) (by decide +kernel), List.mem_of_getElem? (i := 605) (by decide +kernel), List.mem_of_getElem? (i := 606) (by decide +kernel)⟩
theorem lw_p21 : lw_okq (⟨"WhichEncoreModel", "forgets", "()V"⟩, 21) := ⟨⟨by decide +kernel, by decide +kernel⟩, List.mem_of_getElem? (i := 658) (by decide +kernel), List.mem_of_getElem? (i := 664) (by decide +kernel), List.mem_of_getElem? (i := 665) (by decide +kernel)⟩
theorem lw_p22 : lw_okq (⟨"WhichEncoreModel", "begins", "()V"⟩, 21) := ⟨⟨by decide +kernel, by decide +kernel⟩, List.mem_of_getElem? (i := 658) (by decide +kernel), List.mem_of_getElem? (i := 668) (by decide +kernel), List.mem_of_getElem? (i := 669) (by decide +kernel)⟩
theorem lw_p23 : lw_okq (⟨"WhichEncoreModel", "reads", "()I"⟩, 21) := ⟨⟨by decide +kernel, by decide +kernel⟩, List.mem_of_getElem? (i := 658) (by decide +kernel), List.mem_of_getElem? (i := 751) (by decide +kernel), List.mem_of_getElem? (i := 752) (by decide +kernel)⟩
theorem lw_p24 : lw_okq (⟨"WhichEncoreModel", "token", "()V"⟩, 21) := ⟨⟨by decide +kernel, by decide +kernel⟩, List.mem_of_getElem? (i := 658) (by decide +kernel), List.mem_of_getElem? (i := 755) (by decide +kernel), List.mem_of_getElem? (i := 756) (by decide +kernel)⟩
theorem lw_p25 : lw_okq (⟨"WhichEncoreModel", "letterAt", "(I)I"⟩, 21) := ⟨⟨by decide +kernel, by decide +kernel⟩, List.mem_of_getElem? (i := 658) (by decide +kernel), List.mem_of_getElem? (i := 759) (by decide +kernel), List.mem_of_getElem? (i := 760) (by decide +kernel)⟩
theorem lw_p26 : lw_okq (⟨"WhichEncoreModel", "readsClause", "()Z"⟩, 21) := ⟨⟨by decide +kernel, by decide +kernel⟩, List.mem_of_getElem? (i := 658) (by decide +kernel), List.mem_of_getElem? (i := 769) (by decide +kernel), List.mem_of_getElem? (i := 770) (by decide +kernel)⟩
theorem lw_p27 : lw_okq (⟨"WhichEncoreModel", "isWord", "(IIIIIIIII)Z"⟩, 21) := ⟨⟨by decide +kernel, by decide +kernel⟩, List.mem_of_getElem? (i := 658) (by decide +kernel), List.mem_of_getElem? (i := 773) (by decide +kernel), List.mem_of_getElem? (i := 774) (by decide +kernel)⟩
theorem lw_p28 : lw_okq (⟨"WhichEncoreModel", "readsClapper", "(I)Z"⟩, 21) := ⟨⟨by decide +kernel, by decide +kernel⟩, List.mem_of_getElem? (i := 658) (by decide +kernel), List.mem_of_getElem? (i := 777) (by decide +kernel), List.mem_of_getElem? (i := 778) (by decide +kernel)⟩
theorem lw_p29 : lw_okq (⟨"WhichEncoreModel", "number", "(III)Z"⟩, 21) := ⟨⟨by decide +kernel, by decide +kernel⟩, List.mem_of_getElem? (i := 658) (by decide +kernel), List.mem_of_getElem? (i := 781) (by decide +kernel), List.mem_of_getElem? (i := 782) (by decide +kernel)⟩
theorem lw_p30 : lw_okq (⟨"WhichEncoreModel", "readsEncore", "(I)Z"⟩, 21) := ⟨⟨by decide +kernel, by decide +kernel⟩, List.mem_of_getElem? (i := 658) (by decide +kernel), List.mem_of_getElem? (i := 785) (by decide +kernel), List.mem_of_getElem? (i := 786) (by decide +kernel)⟩
theorem lw_p31 : lw_okq (⟨"WhichEncoreModel", "isClapper", "(I)Z"⟩, 21) := ⟨⟨by decide +kernel, by decide +kernel⟩, List.mem_of_getElem? (i := 658) (by decide +kernel), List.mem_of_getElem? (i := 797) (by decide +kernel), List.mem_of_getElem? (i := 798) (by decide +kernel)⟩
def lw_privs_2 : List (MethodName × Nat) := [(⟨"WhichEncore", "foretellWaits", "(I)V"⟩, 10), (⟨"WhichEncore$Search", "lookDeeper", "(I)V"⟩, 5), (⟨"WhichEncore$Search", "isWorthATry", "(II)Z"⟩, 5), (⟨"WhichEncore$Search", "lookBehind", "(II)V"⟩, 5), (⟨"WhichEncore$Search", "compare", "(I)V"⟩, 5), (⟨"WhichEncoreModel", "forgets", "()V"⟩, 21), (⟨"WhichEncoreModel", "begins", "()V"⟩, 21), (⟨"WhichEncoreModel", "reads", "()I"⟩, 21), (⟨"WhichEncoreModel", "token", "()V"⟩, 21), (⟨"WhichEncoreModel", "letterAt", "(I)I"⟩, 21), (⟨"WhichEncoreModel", "readsClause", "()Z"⟩, 21), (⟨"WhichEncoreModel", "isWord", "(IIIIIIIII)Z"⟩, 21), (⟨"WhichEncoreModel", "readsClapper", "(I)Z"⟩, 21), (⟨"WhichEncoreModel", "number", "(III)Z"⟩, 21), (⟨"WhichEncoreModel", "readsEncore", "(I)Z"⟩, 21), (⟨"WhichEncoreModel", "isClapper", "(I)Z"⟩, 21)]
theorem lw_r2 : ∀ q ∈ lw_privs_2, lw_okq q := List.forall_mem_cons.mpr ⟨lw_p16, List.forall_mem_cons.mpr ⟨lw_p17, List.forall_mem_cons.mpr ⟨lw_p18, List.forall_mem_cons.mpr ⟨lw_p19, List.forall_mem_cons.mpr ⟨lw_p20, List.forall_mem_cons.mpr ⟨lw_p21, List.forall_mem_cons.mpr ⟨lw_p22, List.forall_mem_cons.mpr ⟨lw_p23, List.forall_mem_cons.mpr ⟨lw_p24, List.forall_mem_cons.mpr ⟨lw_p25, List.forall_mem_cons.mpr ⟨lw_p26, List.forall_mem_cons.mpr ⟨lw_p27, List.forall_mem_cons.mpr ⟨lw_p28, List.forall_mem_cons.mpr ⟨lw_p29, List.forall_mem_cons.mpr ⟨lw_p30, List.forall_mem_cons.mpr ⟨lw_p31, fun _ h => absurd h List.not_mem_nil⟩⟩⟩⟩⟩⟩⟩⟩⟩⟩⟩⟩⟩⟩⟩⟩
theorem lw_p32 : lw_okq (⟨"WhichEncoreModel", "isThere", "(I)Z"⟩, 21) := ⟨⟨by decide +kernel, by decide +kernel⟩, List.mem_of_getElem? (i := 658) (by decide +kernel), List.mem_of_getElem? (i := 801) (by decide +kernel), List.mem_of_getElem? (i := 802) (by decide +kernel)⟩
theorem lw_p33 : lw_okq (⟨"WhichEncoreModel", "claps", "(I)Z"⟩, 21) := ⟨⟨by decide +kernel, by decide +kernel⟩, List.mem_of_getElem? (i := 658) (by decide +kernel), List.mem_of_getElem? (i := 805) (by decide +kernel), List.mem_of_getElem? (i := 806) (by decide +kernel)⟩
theorem lw_p34 : lw_okq (⟨"WhichEncoreModel", "isEncore", "(I)Z"⟩, 21) := ⟨⟨by decide +kernel, by decide +kernel⟩, List.mem_of_getElem? (i := 658) (by decide +kernel), List.mem_of_getElem? (i := 813) (by decide +kernel), List.mem_of_getElem? (i := 814) (by decide +kernel)⟩
theorem lw_p35 : lw_okq (⟨"WhichEncoreModel", "loses", "(I)I"⟩, 21) := ⟨⟨by decide +kernel, by decide +kernel⟩, List.mem_of_getElem? (i := 658) (by decide +kernel), List.mem_of_getElem? (i := 821) (by decide +kernel), List.mem_of_getElem? (i := 822) (by decide +kernel)⟩
theorem lw_p36 : lw_okq (⟨"WhichEncoreModel", "wasKnown", "()Z"⟩, 21) := ⟨⟨by decide +kernel, by decide +kernel⟩, List.mem_of_getElem? (i := 658) (by decide +kernel), List.mem_of_getElem? (i := 825) (by decide +kernel), List.mem_of_getElem? (i := 826) (by decide +kernel)⟩
theorem lw_p37 : lw_okq (⟨"WhichEncoreModel", "lacks", "(I)I"⟩, 21) := ⟨⟨by decide +kernel, by decide +kernel⟩, List.mem_of_getElem? (i := 658) (by decide +kernel), List.mem_of_getElem? (i := 840) (by decide +kernel), List.mem_of_getElem? (i := 841) (by decide +kernel)⟩
theorem lw_p38 : lw_okq (⟨"WhichEncoreModel", "noise", "()I"⟩, 21) := ⟨⟨by decide +kernel, by decide +kernel⟩, List.mem_of_getElem? (i := 658) (by decide +kernel), List.mem_of_getElem? (i := 844) (by decide +kernel), List.mem_of_getElem? (i := 845) (by decide +kernel)⟩
theorem lw_p39 : lw_okq (⟨"WhichEncoreModel", "steps", "(I)V"⟩, 21) := ⟨⟨by decide +kernel, by decide +kernel⟩, List.mem_of_getElem? (i := 658) (by decide +kernel), List.mem_of_getElem? (i := 852) (by decide +kernel), List.mem_of_getElem? (i := 853) (by decide +kernel)⟩
theorem lw_p40 : lw_okq (⟨"WhichEncoreModel", "waitsOne", "()V"⟩, 21) := ⟨⟨by decide +kernel, by decide +kernel⟩, List.mem_of_getElem? (i := 658) (by decide +kernel), List.mem_of_getElem? (i := 856) (by decide +kernel), List.mem_of_getElem? (i := 857) (by decide +kernel)⟩
theorem lw_p41 : lw_okq (⟨"WhichEncoreModel", "minute", "()V"⟩, 21) := ⟨⟨by decide +kernel, by decide +kernel⟩, List.mem_of_getElem? (i := 658) (by decide +kernel), List.mem_of_getElem? (i := 860) (by decide +kernel), List.mem_of_getElem? (i := 861) (by decide +kernel)⟩
theorem lw_p42 : lw_okq (⟨"WhichEncoreModel", "bows", "()V"⟩, 21) := ⟨⟨by decide +kernel, by decide +kernel⟩, List.mem_of_getElem? (i := 658) (by decide +kernel), List.mem_of_getElem? (i := 864) (by decide +kernel), List.mem_of_getElem? (i := 865) (by decide +kernel)⟩
theorem lw_p43 : lw_okq (⟨"WhichEncoreModel", "plays", "(I)V"⟩, 21) := ⟨⟨by decide +kernel, by decide +kernel⟩, List.mem_of_getElem? (i := 658) (by decide +kernel), List.mem_of_getElem? (i := 868) (by decide +kernel), List.mem_of_getElem? (i := 869) (by decide +kernel)⟩
theorem lw_p44 : lw_okq (⟨"WhichEncoreModel", "thereNow", "()I"⟩, 21) := ⟨⟨by decide +kernel, by decide +kernel⟩, List.mem_of_getElem? (i := 658) (by decide +kernel), List.mem_of_getElem? (i := 872) (by decide +kernel), List.mem_of_getElem? (i := 873) (by decide +kernel)⟩
theorem lw_p45 : lw_okq (⟨"WhichEncoreModel", "holds", "()V"⟩, 21) := ⟨⟨by decide +kernel, by decide +kernel⟩, List.mem_of_getElem? (i := 658) (by decide +kernel), List.mem_of_getElem? (i := 895) (by decide +kernel), List.mem_of_getElem? (i := 896) (by decide +kernel)⟩
theorem lw_p46 : lw_okq (⟨"WhichEncoreModel", "lets", "()V"⟩, 21) := ⟨⟨by decide +kernel, by decide +kernel⟩, List.mem_of_getElem? (i := 658) (by decide +kernel), List.mem_of_getElem? (i := 899) (by decide +kernel), List.mem_of_getElem? (i := 900) (by decide +kernel)⟩
theorem lw_p47 : lw_okq (⟨"WhichEncoreModel", "behindWaits", "(IZ)I"⟩, 21) := ⟨⟨by decide +kernel, by decide +kernel⟩, List.mem_of_getElem? (i := 658) (by decide +kernel), List.mem_of_getElem? (i := 907) (by decide +kernel), List.mem_of_getElem? (i := 908) (by decide +kernel)⟩
def lw_privs_3 : List (MethodName × Nat) := [(⟨"WhichEncoreModel", "isThere", "(I)Z"⟩, 21), (⟨"WhichEncoreModel", "claps", "(I)Z"⟩, 21), (⟨"WhichEncoreModel", "isEncore", "(I)Z"⟩, 21), (⟨"WhichEncoreModel", "loses", "(I)I"⟩, 21), (⟨"WhichEncoreModel", "wasKnown", "()Z"⟩, 21), (⟨"WhichEncoreModel", "lacks", "(I)I"⟩, 21), (⟨"WhichEncoreModel", "noise", "()I"⟩, 21), (⟨"WhichEncoreModel", "steps", "(I)V"⟩, 21), (⟨"WhichEncoreModel", "waitsOne", "()V"⟩, 21), (⟨"WhichEncoreModel", "minute", "()V"⟩, 21), (⟨"WhichEncoreModel", "bows", "()V"⟩, 21), (⟨"WhichEncoreModel", "plays", "(I)V"⟩, 21), (⟨"WhichEncoreModel", "thereNow", "()I"⟩, 21), (⟨"WhichEncoreModel", "holds", "()V"⟩, 21), (⟨"WhichEncoreModel", "lets", "()V"⟩, 21), (⟨"WhichEncoreModel", "behindWaits", "(IZ)I"⟩, 21)]
theorem lw_r3 : ∀ q ∈ lw_privs_3, lw_okq q := List.forall_mem_cons.mpr ⟨lw_p32, List.forall_mem_cons.mpr ⟨lw_p33, List.forall_mem_cons.mpr ⟨lw_p34, List.forall_mem_cons.mpr ⟨lw_p35, List.forall_mem_cons.mpr ⟨lw_p36, List.forall_mem_cons.mpr ⟨lw_p37, List.forall_mem_cons.mpr ⟨lw_p38, List.forall_mem_cons.mpr ⟨lw_p39, List.forall_mem_cons.mpr ⟨lw_p40, List.forall_mem_cons.mpr ⟨lw_p41, List.forall_mem_cons.mpr ⟨lw_p42, List.forall_mem_cons.mpr ⟨lw_p43, List.forall_mem_cons.mpr ⟨lw_p44, List.forall_mem_cons.mpr ⟨lw_p45, List.forall_mem_cons.mpr ⟨lw_p46, List.forall_mem_cons.mpr ⟨lw_p47, fun _ h => absurd h List.not_mem_nil⟩⟩⟩⟩⟩⟩⟩⟩⟩⟩⟩⟩⟩⟩⟩⟩
theorem lw_p48 : lw_okq (⟨"WhichEncoreModel", "seeks", "()V"⟩, 21) := ⟨⟨by decide +kernel, by decide +kernel⟩, List.mem_of_getElem? (i := 658) (by decide +kernel), List.mem_of_getElem? (i := 919) (by decide +kernel), List.mem_of_getElem? (i := 920) (by decide +kernel)⟩
theorem lw_p49 : lw_okq (⟨"WhichEncoreModel", "goesOn", "(I)V"⟩, 21) := ⟨⟨by decide +kernel, by decide +kernel⟩, List.mem_of_getElem? (i := 658) (by decide +kernel), List.mem_of_getElem? (i := 923) (by decide +kernel), List.mem_of_getElem? (i := 924) (by decide +kernel)⟩
theorem lw_p50 : lw_okq (⟨"WhichEncoreModel", "comesBack", "(I)V"⟩, 21) := ⟨⟨by decide +kernel, by decide +kernel⟩, List.mem_of_getElem? (i := 658) (by decide +kernel), List.mem_of_getElem? (i := 927) (by decide +kernel), List.mem_of_getElem? (i := 928) (by decide +kernel)⟩
def lw_privs_4 : List (MethodName × Nat) := [(⟨"WhichEncoreModel", "seeks", "()V"⟩, 21), (⟨"WhichEncoreModel", "goesOn", "(I)V"⟩, 21), (⟨"WhichEncoreModel", "comesBack", "(I)V"⟩, 21)]
theorem lw_r4 : ∀ q ∈ lw_privs_4, lw_okq q := List.forall_mem_cons.mpr ⟨lw_p48, List.forall_mem_cons.mpr ⟨lw_p49, List.forall_mem_cons.mpr ⟨lw_p50, fun _ h => absurd h List.not_mem_nil⟩⟩⟩
def lw_privs : List (MethodName × Nat) := lw_privs_1 ++ (lw_privs_2 ++ (lw_privs_3 ++ (lw_privs_4)))
def lw_tbl : List Cond := k2_sels lw_privs ++ tables_1
theorem lw_privs_ok : ∀ q ∈ lw_privs, lw_okq q := by
  show ∀ q ∈ lw_privs_1 ++ (lw_privs_2 ++ (lw_privs_3 ++ (lw_privs_4))), lw_okq q
  exact List.forall_mem_append.mpr ⟨lw_r1, List.forall_mem_append.mpr ⟨lw_r2, List.forall_mem_append.mpr ⟨lw_r3, lw_r4⟩⟩⟩
-- ===== end of PART A; then your names; then what follows =====
end
section
def RX0 : String := "WhichEncore$Clause"
def TX0 : u_T := fun k => match k with
  | _ => ("", "", "", false)
def tyX0 : Nat → FieldType := fun k => match k with
  | _ => .int
abbrev wsX00 : List Cond := u_ws RX0 TX0 0
theorem nmX0 : ∀ a, a < 0 → ∀ b, b < 0 → a ≠ b → (TX0 a).2.1 ≠ (TX0 b).2.1 := by decide +kernel
theorem tyX0_ok : ∀ k, k < 0 → parseFieldDescriptor (TX0 k).2.2.1 = some (tyX0 k) := by decide +kernel
abbrev cX0_values : ByteArray := prog_2_method_1_code
def yX0_values : MethodName := ⟨RX0, "values", "()[LWhichEncore$Clause;"⟩
def RX1 : String := "WhichEncore$Evening"
def TX1 : u_T := fun k => match k with
  | 0 => ("WhichEncore$Evening", "zeal", "[I", true)
  | 1 => ("WhichEncore$Evening", "there", "I", false)
  | 2 => ("WhichEncore$Evening", "minute", "I", false)
  | 3 => ("WhichEncore$Evening", "arm", "I", false)
  | 4 => ("WhichEncore$Evening", "played", "I", false)
  | 5 => ("WhichEncore$Evening", "bows", "I", false)
  | 6 => ("WhichEncore$Evening", "paid", "I", false)
  | 7 => ("WhichEncore$Evening", "fame", "I", false)
  | 8 => ("WhichEncore$Evening", "knownPlayed", "Z", false)
  | _ => ("WhichEncore$Evening", "told", "LWhichEncore$Told;", true)
def tyX1 : Nat → FieldType := fun k => match k with
  | 0 => .array .int
  | 1 => .int
  | 2 => .int
  | 3 => .int
  | 4 => .int
  | 5 => .int
  | 6 => .int
  | 7 => .int
  | 8 => .boolean
  | _ => .object "WhichEncore$Told"
abbrev wsX10 : List Cond := u_ws RX1 TX1 10
theorem nmX1 : ∀ a, a < 10 → ∀ b, b < 10 → a ≠ b → (TX1 a).2.1 ≠ (TX1 b).2.1 := by decide +kernel
theorem tyX1_ok : ∀ k, k < 10 → parseFieldDescriptor (TX1 k).2.2.1 = some (tyX1 k) := by decide +kernel
abbrev cX1_init : ByteArray := prog_3_method_1_code
def yX1_init : MethodName := ⟨RX1, "<init>", "(LWhichEncore$Told;)V"⟩
abbrev cX1_begin : ByteArray := prog_3_method_2_code
def yX1_begin : MethodName := ⟨RX1, "begin", "()V"⟩
abbrev cX1_copyFrom : ByteArray := prog_3_method_3_code
def yX1_copyFrom : MethodName := ⟨RX1, "copyFrom", "(LWhichEncore$Evening;)V"⟩
abbrev cX1_isThere : ByteArray := prog_3_method_4_code
def yX1_isThere : MethodName := ⟨RX1, "isThere", "(I)Z"⟩
abbrev cX1_isClapping : ByteArray := prog_3_method_5_code
def yX1_isClapping : MethodName := ⟨RX1, "isClapping", "(I)Z"⟩
abbrev cX1_wasPlayed : ByteArray := prog_3_method_6_code
def yX1_wasPlayed : MethodName := ⟨RX1, "wasPlayed", "(I)Z"⟩
abbrev cX1_whoClaps : ByteArray := prog_3_method_7_code
def yX1_whoClaps : MethodName := ⟨RX1, "whoClaps", "()I"⟩
abbrev cX1_zealOf : ByteArray := prog_3_method_8_code
def yX1_zealOf : MethodName := ⟨RX1, "zealOf", "(I)I"⟩
abbrev cX1_noise : ByteArray := prog_3_method_9_code
def yX1_noise : MethodName := ⟨RX1, "noise", "()I"⟩
abbrev cX1_lessByWait : ByteArray := prog_3_method_10_code
def yX1_lessByWait : MethodName := ⟨RX1, "lessByWait", "(II)I"⟩
abbrev cX1_isPossible : ByteArray := prog_3_method_11_code
def yX1_isPossible : MethodName := ⟨RX1, "isPossible", "(I)Z"⟩
abbrev cX1_moreByBow : ByteArray := prog_3_method_12_code
def yX1_moreByBow : MethodName := ⟨RX1, "moreByBow", "()I"⟩
abbrev cX1_take : ByteArray := prog_3_method_13_code
def yX1_take : MethodName := ⟨RX1, "take", "(I)V"⟩
abbrev cX1_isReady : ByteArray := prog_3_method_14_code
def yX1_isReady : MethodName := ⟨RX1, "isReady", "(I)Z"⟩
abbrev cX1_waitOne : ByteArray := prog_3_method_15_code
def yX1_waitOne : MethodName := ⟨RX1, "waitOne", "()V"⟩
abbrev cX1_bowOnce : ByteArray := prog_3_method_16_code
def yX1_bowOnce : MethodName := ⟨RX1, "bowOnce", "()V"⟩
abbrev cX1_play : ByteArray := prog_3_method_17_code
def yX1_play : MethodName := ⟨RX1, "play", "(I)V"⟩
abbrev cX1_letPass : ByteArray := prog_3_method_18_code
def yX1_letPass : MethodName := ⟨RX1, "letPass", "(I)V"⟩
abbrev cX1_whoIsBeside : ByteArray := prog_3_method_19_code
def yX1_whoIsBeside : MethodName := ⟨RX1, "whoIsBeside", "(I)I"⟩
def RX2 : String := "WhichEncore$Past"
def TX2 : u_T := fun k => match k with
  | 0 => ("WhichEncore$Past", "size", "I", false)
  | 1 => ("WhichEncore$Past", "next", "I", false)
  | _ => ("WhichEncore$Past", "ring", "[LWhichEncore$Evening;", true)
def tyX2 : Nat → FieldType := fun k => match k with
  | 0 => .int
  | 1 => .int
  | _ => .array (.object "WhichEncore$Evening")
abbrev wsX20 : List Cond := u_ws RX2 TX2 3
theorem nmX2 : ∀ a, a < 3 → ∀ b, b < 3 → a ≠ b → (TX2 a).2.1 ≠ (TX2 b).2.1 := by decide +kernel
theorem tyX2_ok : ∀ k, k < 3 → parseFieldDescriptor (TX2 k).2.2.1 = some (tyX2 k) := by decide +kernel
abbrev cX2_init : ByteArray := prog_4_method_1_code
def yX2_init : MethodName := ⟨RX2, "<init>", "(LWhichEncore$Told;)V"⟩
abbrev cX2_remember : ByteArray := prog_4_method_2_code
def yX2_remember : MethodName := ⟨RX2, "remember", "(LWhichEncore$Evening;)V"⟩
abbrev cX2_recall : ByteArray := prog_4_method_3_code
def yX2_recall : MethodName := ⟨RX2, "recall", "(LWhichEncore$Evening;)Z"⟩
def RX3 : String := "WhichEncore$Search"
def TX3 : u_T := fun k => match k with
  | 0 => ("WhichEncore$Search", "bestGrowth", "I", false)
  | 1 => ("WhichEncore$Search", "bestLength", "I", false)
  | 2 => ("WhichEncore$Search", "bestSteps", "[I", true)
  | 3 => ("WhichEncore$Search", "steps", "[I", true)
  | _ => ("WhichEncore$Search", "levels", "[LWhichEncore$Evening;", true)
def tyX3 : Nat → FieldType := fun k => match k with
  | 0 => .int
  | 1 => .int
  | 2 => .array .int
  | 3 => .array .int
  | _ => .array (.object "WhichEncore$Evening")
abbrev wsX30 : List Cond := u_ws RX3 TX3 5
theorem nmX3 : ∀ a, a < 5 → ∀ b, b < 5 → a ≠ b → (TX3 a).2.1 ≠ (TX3 b).2.1 := by decide +kernel
theorem tyX3_ok : ∀ k, k < 5 → parseFieldDescriptor (TX3 k).2.2.1 = some (tyX3 k) := by decide +kernel
abbrev cX3_init : ByteArray := prog_5_method_1_code
def yX3_init : MethodName := ⟨RX3, "<init>", "(LWhichEncore$Told;)V"⟩
abbrev cX3_lookFrom : ByteArray := prog_5_method_2_code
def yX3_lookFrom : MethodName := ⟨RX3, "lookFrom", "(LWhichEncore$Evening;I)V"⟩
abbrev cX3_lookDeeper : ByteArray := prog_5_method_3_code
def yX3_lookDeeper : MethodName := ⟨RX3, "lookDeeper", "(I)V"⟩
abbrev cX3_lookBehind : ByteArray := prog_5_method_4_code
def yX3_lookBehind : MethodName := ⟨RX3, "lookBehind", "(II)V"⟩
abbrev cX3_isWorthATry : ByteArray := prog_5_method_5_code
def yX3_isWorthATry : MethodName := ⟨RX3, "isWorthATry", "(II)Z"⟩
abbrev cX3_compare : ByteArray := prog_5_method_6_code
def yX3_compare : MethodName := ⟨RX3, "compare", "(I)V"⟩
def RX4 : String := "WhichEncore$Text"
def TX4 : u_T := fun k => match k with
  | 0 => ("WhichEncore$Text", "draft", "LWhichEncore$Told;", true)
  | 1 => ("WhichEncore$Text", "length", "I", false)
  | 2 => ("WhichEncore$Text", "clauses", "I", false)
  | 3 => ("WhichEncore$Text", "letters", "[C", true)
  | 4 => ("WhichEncore$Text", "numbers", "[I", true)
  | 5 => ("WhichEncore$Text", "allClauses", "[LWhichEncore$Clause;", true)
  | _ => ("WhichEncore$Text", "place", "I", false)
def tyX4 : Nat → FieldType := fun k => match k with
  | 0 => .object "WhichEncore$Told"
  | 1 => .int
  | 2 => .int
  | 3 => .array .char
  | 4 => .array .int
  | 5 => .array (.object "WhichEncore$Clause")
  | _ => .int
abbrev wsX40 : List Cond := u_ws RX4 TX4 7
theorem nmX4 : ∀ a, a < 7 → ∀ b, b < 7 → a ≠ b → (TX4 a).2.1 ≠ (TX4 b).2.1 := by decide +kernel
theorem tyX4_ok : ∀ k, k < 7 → parseFieldDescriptor (TX4 k).2.2.1 = some (tyX4 k) := by decide +kernel
abbrev cX4_init : ByteArray := prog_6_method_1_code
def yX4_init : MethodName := ⟨RX4, "<init>", "()V"⟩
abbrev cX4_append : ByteArray := prog_6_method_2_code
def yX4_append : MethodName := ⟨RX4, "append", "(I)Z"⟩
abbrev cX4_findFault : ByteArray := prog_6_method_3_code
def yX4_findFault : MethodName := ⟨RX4, "findFault", "(LWhichEncore$Told;)I"⟩
abbrev cX4_readClause : ByteArray := prog_6_method_4_code
def yX4_readClause : MethodName := ⟨RX4, "readClause", "()Z"⟩
abbrev cX4_readNumber : ByteArray := prog_6_method_5_code
def yX4_readNumber : MethodName := ⟨RX4, "readNumber", "(III)Z"⟩
abbrev cX4_skipBlanks : ByteArray := prog_6_method_6_code
def yX4_skipBlanks : MethodName := ⟨RX4, "skipBlanks", "()V"⟩
abbrev cX4_endOfRow : ByteArray := prog_6_method_7_code
def yX4_endOfRow : MethodName := ⟨RX4, "endOfRow", "(CC)I"⟩
abbrev cX4_clauseUpTo : ByteArray := prog_6_method_8_code
def yX4_clauseUpTo : MethodName := ⟨RX4, "clauseUpTo", "(I)LWhichEncore$Clause;"⟩
abbrev cX4_isWordUpTo : ByteArray := prog_6_method_9_code
def yX4_isWordUpTo : MethodName := ⟨RX4, "isWordUpTo", "(Ljava/lang/String;I)Z"⟩
def RX5 : String := "WhichEncore$Told"
def TX5 : u_T := fun k => match k with
  | 0 => ("WhichEncore$Told", "clapperKind", "[I", true)
  | 1 => ("WhichEncore$Told", "came", "[I", true)
  | 2 => ("WhichEncore$Told", "train", "[I", true)
  | 3 => ("WhichEncore$Told", "encoreKind", "[I", true)
  | 4 => ("WhichEncore$Told", "minutes", "[I", true)
  | 5 => ("WhichEncore$Told", "takesArm", "[I", true)
  | 6 => ("WhichEncore$Told", "worth", "[I", true)
  | 7 => ("WhichEncore$Told", "clappers", "I", false)
  | 8 => ("WhichEncore$Told", "encores", "I", false)
  | 9 => ("WhichEncore$Told", "arm", "I", false)
  | 10 => ("WhichEncore$Told", "close", "I", false)
  | _ => ("WhichEncore$Told", "hire", "I", false)
def tyX5 : Nat → FieldType := fun k => match k with
  | 0 => .array .int
  | 1 => .array .int
  | 2 => .array .int
  | 3 => .array .int
  | 4 => .array .int
  | 5 => .array .int
  | 6 => .array .int
  | 7 => .int
  | 8 => .int
  | 9 => .int
  | 10 => .int
  | _ => .int
abbrev wsX50 : List Cond := u_ws RX5 TX5 12
theorem nmX5 : ∀ a, a < 12 → ∀ b, b < 12 → a ≠ b → (TX5 a).2.1 ≠ (TX5 b).2.1 := by decide +kernel
theorem tyX5_ok : ∀ k, k < 12 → parseFieldDescriptor (TX5 k).2.2.1 = some (tyX5 k) := by decide +kernel
abbrev cX5_init : ByteArray := prog_7_method_1_code
def yX5_init : MethodName := ⟨RX5, "<init>", "()V"⟩
abbrev cX5_beAsAtFirst : ByteArray := prog_7_method_2_code
def yX5_beAsAtFirst : MethodName := ⟨RX5, "beAsAtFirst", "()V"⟩
abbrev cX5_copyFrom : ByteArray := prog_7_method_3_code
def yX5_copyFrom : MethodName := ⟨RX5, "copyFrom", "(LWhichEncore$Told;)V"⟩
abbrev cX5_hasClapper : ByteArray := prog_7_method_4_code
def yX5_hasClapper : MethodName := ⟨RX5, "hasClapper", "(I)Z"⟩
abbrev cX5_hasEncore : ByteArray := prog_7_method_5_code
def yX5_hasEncore : MethodName := ⟨RX5, "hasEncore", "(I)Z"⟩
abbrev cX5_minutesOf : ByteArray := prog_7_method_6_code
def yX5_minutesOf : MethodName := ⟨RX5, "minutesOf", "(I)I"⟩
abbrev cX5_sumOver : ByteArray := prog_7_method_7_code
def yX5_sumOver : MethodName := ⟨RX5, "sumOver", "([II)I"⟩
abbrev cX5_hasRoomFor : ByteArray := prog_7_method_8_code
def yX5_hasRoomFor : MethodName := ⟨RX5, "hasRoomFor", "(I)Z"⟩
abbrev cX5_carryOut : ByteArray := prog_7_method_9_code
def yX5_carryOut : MethodName := ⟨RX5, "carryOut", "(II[I)V"⟩
abbrev cX5_addClapper : ByteArray := prog_7_method_10_code
def yX5_addClapper : MethodName := ⟨RX5, "addClapper", "(I[I)V"⟩
abbrev cX5_addEncore : ByteArray := prog_7_method_11_code
def yX5_addEncore : MethodName := ⟨RX5, "addEncore", "(I[I)V"⟩
def RX6 : String := "WhichEncore"
def TX6 : u_T := fun k => match k with
  | 0 => ("WhichEncore", "told", "LWhichEncore$Told;", true)
  | 1 => ("WhichEncore", "text", "LWhichEncore$Text;", true)
  | 2 => ("WhichEncore", "now", "LWhichEncore$Evening;", true)
  | 3 => ("WhichEncore", "foretold", "LWhichEncore$Evening;", true)
  | 4 => ("WhichEncore", "search", "LWhichEncore$Search;", true)
  | 5 => ("WhichEncore", "past", "LWhichEncore$Past;", true)
  | 6 => ("WhichEncore", "kept", "[LWhichEncore$Evening;", true)
  | 7 => ("WhichEncore", "isKept", "[Z", true)
  | 8 => ("WhichEncore", "rowSteps", "[I", true)
  | _ => ("WhichEncore", "rowLength", "I", false)
def tyX6 : Nat → FieldType := fun k => match k with
  | 0 => .object "WhichEncore$Told"
  | 1 => .object "WhichEncore$Text"
  | 2 => .object "WhichEncore$Evening"
  | 3 => .object "WhichEncore$Evening"
  | 4 => .object "WhichEncore$Search"
  | 5 => .object "WhichEncore$Past"
  | 6 => .array (.object "WhichEncore$Evening")
  | 7 => .array .boolean
  | 8 => .array .int
  | _ => .int
abbrev wsX60 : List Cond := u_ws RX6 TX6 10
theorem nmX6 : ∀ a, a < 10 → ∀ b, b < 10 → a ≠ b → (TX6 a).2.1 ≠ (TX6 b).2.1 := by decide +kernel
theorem tyX6_ok : ∀ k, k < 10 → parseFieldDescriptor (TX6 k).2.2.1 = some (tyX6 k) := by decide +kernel
abbrev cX6_init : ByteArray := prog_1_method_1_code
def yX6_init : MethodName := ⟨RX6, "<init>", "()V"⟩
abbrev cX6_write : ByteArray := prog_1_method_2_code
def yX6_write : MethodName := ⟨RX6, "write", "(I)I"⟩
abbrev cX6_erase : ByteArray := prog_1_method_3_code
def yX6_erase : MethodName := ⟨RX6, "erase", "()I"⟩
abbrev cX6_fault : ByteArray := prog_1_method_4_code
def yX6_fault : MethodName := ⟨RX6, "fault", "()I"⟩
abbrev cX6_hall : ByteArray := prog_1_method_5_code
def yX6_hall : MethodName := ⟨RX6, "hall", "()I"⟩
abbrev cX6_clapper : ByteArray := prog_1_method_6_code
def yX6_clapper : MethodName := ⟨RX6, "clapper", "(II)I"⟩
abbrev cX6_encore : ByteArray := prog_1_method_7_code
def yX6_encore : MethodName := ⟨RX6, "encore", "(II)I"⟩
abbrev cX6_as : ByteArray := prog_1_method_8_code
def yX6_as : MethodName := ⟨RX6, "as", "(II)I"⟩
abbrev cX6_encoreAs : ByteArray := prog_1_method_9_code
def yX6_encoreAs : MethodName := ⟨RX6, "encoreAs", "(II)I"⟩
abbrev cX6_can : ByteArray := prog_1_method_10_code
def yX6_can : MethodName := ⟨RX6, "can", "(I)I"⟩
abbrev cX6_does : ByteArray := prog_1_method_11_code
def yX6_does : MethodName := ⟨RX6, "does", "(I)I"⟩
abbrev cX6_undo : ByteArray := prog_1_method_12_code
def yX6_undo : MethodName := ⟨RX6, "undo", "()I"⟩
abbrev cX6_keep : ByteArray := prog_1_method_13_code
def yX6_keep : MethodName := ⟨RX6, "keep", "(I)I"⟩
abbrev cX6_back : ByteArray := prog_1_method_14_code
def yX6_back : MethodName := ⟨RX6, "back", "(I)I"⟩
abbrev cX6_till : ByteArray := prog_1_method_15_code
def yX6_till : MethodName := ⟨RX6, "till", "()I"⟩
abbrev cX6_there : ByteArray := prog_1_method_16_code
def yX6_there : MethodName := ⟨RX6, "there", "(I)I"⟩
abbrev cX6_sound : ByteArray := prog_1_method_17_code
def yX6_sound : MethodName := ⟨RX6, "sound", "(I)I"⟩
abbrev cX6_best : ByteArray := prog_1_method_18_code
def yX6_best : MethodName := ⟨RX6, "best", "(I)I"⟩
abbrev cX6_row : ByteArray := prog_1_method_19_code
def yX6_row : MethodName := ⟨RX6, "row", "(I)I"⟩
abbrev cX6_tear : ByteArray := prog_1_method_20_code
def yX6_tear : MethodName := ⟨RX6, "tear", "()I"⟩
abbrev cX6_judge : ByteArray := prog_1_method_21_code
def yX6_judge : MethodName := ⟨RX6, "judge", "(I)I"⟩
abbrev cX6_stay : ByteArray := prog_1_method_22_code
def yX6_stay : MethodName := ⟨RX6, "stay", "(III)J"⟩
abbrev cX6_gone : ByteArray := prog_1_method_23_code
def yX6_gone : MethodName := ⟨RX6, "gone", "(II)I"⟩
abbrev cX6_prepared : ByteArray := prog_1_method_24_code
def yX6_prepared : MethodName := ⟨RX6, "prepared", "(I)I"⟩
abbrev cX6_other : ByteArray := prog_1_method_25_code
def yX6_other : MethodName := ⟨RX6, "other", "(I)I"⟩
abbrev cX6_count : ByteArray := prog_1_method_26_code
def yX6_count : MethodName := ⟨RX6, "count", "(I)I"⟩
abbrev cX6_beginAnew : ByteArray := prog_1_method_27_code
def yX6_beginAnew : MethodName := ⟨RX6, "beginAnew", "()V"⟩
abbrev cX6_refusalOf : ByteArray := prog_1_method_28_code
def yX6_refusalOf : MethodName := ⟨RX6, "refusalOf", "(I)I"⟩
abbrev cX6_foretellWaits : ByteArray := prog_1_method_29_code
def yX6_foretellWaits : MethodName := ⟨RX6, "foretellWaits", "(I)V"⟩
abbrev cX6_isUnder : ByteArray := prog_1_method_30_code
def yX6_isUnder : MethodName := ⟨RX6, "isUnder", "([III)Z"⟩
abbrev cX6_zealBehind : ByteArray := prog_1_method_31_code
def yX6_zealBehind : MethodName := ⟨RX6, "zealBehind", "(III)I"⟩
abbrev cX6_waysToStay : ByteArray := prog_1_method_32_code
def yX6_waysToStay : MethodName := ⟨RX6, "waysToStay", "(III)J"⟩
abbrev cX6_power : ByteArray := prog_1_method_33_code
def yX6_power : MethodName := ⟨RX6, "power", "(II)J"⟩
abbrev cX6_commonDivisor : ByteArray := prog_1_method_34_code
def yX6_commonDivisor : MethodName := ⟨RX6, "commonDivisor", "(JJ)J"⟩
def RX7 : String := "WhichEncoreModel"
def TX7 : u_T := fun k => match k with
  | 0 => ("WhichEncoreModel", "text", "[I", true)
  | 1 => ("WhichEncoreModel", "typed", "I", false)
  | 2 => ("WhichEncoreModel", "told", "[I", true)
  | 3 => ("WhichEncoreModel", "draft", "[I", true)
  | 4 => ("WhichEncoreModel", "s", "[I", true)
  | 5 => ("WhichEncoreModel", "past", "[I", true)
  | 6 => ("WhichEncoreModel", "known", "I", false)
  | 7 => ("WhichEncoreModel", "images", "[I", true)
  | 8 => ("WhichEncoreModel", "kept", "[Z", true)
  | 9 => ("WhichEncoreModel", "row", "[I", true)
  | 10 => ("WhichEncoreModel", "many", "I", false)
  | 11 => ("WhichEncoreModel", "sort", "I", false)
  | 12 => ("WhichEncoreModel", "start", "I", false)
  | 13 => ("WhichEncoreModel", "at", "I", false)
  | 14 => ("WhichEncoreModel", "value", "I", false)
  | 15 => ("WhichEncoreModel", "held", "[I", true)
  | 16 => ("WhichEncoreModel", "evenings", "[I", true)
  | 17 => ("WhichEncoreModel", "tried", "[I", true)
  | 18 => ("WhichEncoreModel", "bestRow", "[I", true)
  | 19 => ("WhichEncoreModel", "bestMany", "I", false)
  | _ => ("WhichEncoreModel", "bestBy", "I", false)
def tyX7 : Nat → FieldType := fun k => match k with
  | 0 => .array .int
  | 1 => .int
  | 2 => .array .int
  | 3 => .array .int
  | 4 => .array .int
  | 5 => .array .int
  | 6 => .int
  | 7 => .array .int
  | 8 => .array .boolean
  | 9 => .array .int
  | 10 => .int
  | 11 => .int
  | 12 => .int
  | 13 => .int
  | 14 => .int
  | 15 => .array .int
  | 16 => .array .int
  | 17 => .array .int
  | 18 => .array .int
  | 19 => .int
  | _ => .int
abbrev wsX70 : List Cond := u_ws RX7 TX7 21
theorem nmX7 : ∀ a, a < 21 → ∀ b, b < 21 → a ≠ b → (TX7 a).2.1 ≠ (TX7 b).2.1 := by decide +kernel
theorem tyX7_ok : ∀ k, k < 21 → parseFieldDescriptor (TX7 k).2.2.1 = some (tyX7 k) := by decide +kernel
abbrev cX7_init : ByteArray := prog_9_method_1_code
def yX7_init : MethodName := ⟨RX7, "<init>", "()V"⟩
abbrev cX7_in : ByteArray := prog_9_method_3_code
def yX7_in : MethodName := ⟨RX7, "in", "(III)Z"⟩
abbrev cX7_isClapper : ByteArray := prog_9_method_4_code
def yX7_isClapper : MethodName := ⟨RX7, "isClapper", "(I)Z"⟩
abbrev cX7_isEncore : ByteArray := prog_9_method_5_code
def yX7_isEncore : MethodName := ⟨RX7, "isEncore", "(I)Z"⟩
abbrev cX7_write : ByteArray := prog_9_method_6_code
def yX7_write : MethodName := ⟨RX7, "write", "(I)I"⟩
abbrev cX7_erase : ByteArray := prog_9_method_7_code
def yX7_erase : MethodName := ⟨RX7, "erase", "()I"⟩
abbrev cX7_letterAt : ByteArray := prog_9_method_8_code
def yX7_letterAt : MethodName := ⟨RX7, "letterAt", "(I)I"⟩
abbrev cX7_isLetter : ByteArray := prog_9_method_9_code
def yX7_isLetter : MethodName := ⟨RX7, "isLetter", "(I)Z"⟩
abbrev cX7_isDigit : ByteArray := prog_9_method_10_code
def yX7_isDigit : MethodName := ⟨RX7, "isDigit", "(I)Z"⟩
abbrev cX7_token : ByteArray := prog_9_method_11_code
def yX7_token : MethodName := ⟨RX7, "token", "()V"⟩
abbrev cX7_isWord : ByteArray := prog_9_method_12_code
def yX7_isWord : MethodName := ⟨RX7, "isWord", "(IIIIIIIII)Z"⟩
abbrev cX7_number : ByteArray := prog_9_method_13_code
def yX7_number : MethodName := ⟨RX7, "number", "(III)Z"⟩
abbrev cX7_forgets : ByteArray := prog_9_method_14_code
def yX7_forgets : MethodName := ⟨RX7, "forgets", "()V"⟩
abbrev cX7_readsClapper : ByteArray := prog_9_method_15_code
def yX7_readsClapper : MethodName := ⟨RX7, "readsClapper", "(I)Z"⟩
abbrev cX7_readsEncore : ByteArray := prog_9_method_16_code
def yX7_readsEncore : MethodName := ⟨RX7, "readsEncore", "(I)Z"⟩
abbrev cX7_readsClause : ByteArray := prog_9_method_17_code
def yX7_readsClause : MethodName := ⟨RX7, "readsClause", "()Z"⟩
abbrev cX7_reads : ByteArray := prog_9_method_18_code
def yX7_reads : MethodName := ⟨RX7, "reads", "()I"⟩
abbrev cX7_begins : ByteArray := prog_9_method_19_code
def yX7_begins : MethodName := ⟨RX7, "begins", "()V"⟩
abbrev cX7_fault : ByteArray := prog_9_method_20_code
def yX7_fault : MethodName := ⟨RX7, "fault", "()I"⟩
abbrev cX7_hall : ByteArray := prog_9_method_21_code
def yX7_hall : MethodName := ⟨RX7, "hall", "()I"⟩
abbrev cX7_isThere : ByteArray := prog_9_method_22_code
def yX7_isThere : MethodName := ⟨RX7, "isThere", "(I)Z"⟩
abbrev cX7_claps : ByteArray := prog_9_method_23_code
def yX7_claps : MethodName := ⟨RX7, "claps", "(I)Z"⟩
abbrev cX7_noise : ByteArray := prog_9_method_24_code
def yX7_noise : MethodName := ⟨RX7, "noise", "()I"⟩
abbrev cX7_thereNow : ByteArray := prog_9_method_25_code
def yX7_thereNow : MethodName := ⟨RX7, "thereNow", "()I"⟩
abbrev cX7_ones : ByteArray := prog_9_method_26_code
def yX7_ones : MethodName := ⟨RX7, "ones", "(I)I"⟩
abbrev cX7_clapper : ByteArray := prog_9_method_27_code
def yX7_clapper : MethodName := ⟨RX7, "clapper", "(II)I"⟩
abbrev cX7_encore : ByteArray := prog_9_method_28_code
def yX7_encore : MethodName := ⟨RX7, "encore", "(II)I"⟩
abbrev cX7_wasKnown : ByteArray := prog_9_method_29_code
def yX7_wasKnown : MethodName := ⟨RX7, "wasKnown", "()Z"⟩
abbrev cX7_loses : ByteArray := prog_9_method_30_code
def yX7_loses : MethodName := ⟨RX7, "loses", "(I)I"⟩
abbrev cX7_as : ByteArray := prog_9_method_31_code
def yX7_as : MethodName := ⟨RX7, "as", "(II)I"⟩
abbrev cX7_behind : ByteArray := prog_9_method_32_code
def yX7_behind : MethodName := ⟨RX7, "behind", "(III)I"⟩
abbrev cX7_encoreAs : ByteArray := prog_9_method_33_code
def yX7_encoreAs : MethodName := ⟨RX7, "encoreAs", "(II)I"⟩
abbrev cX7_lacks : ByteArray := prog_9_method_34_code
def yX7_lacks : MethodName := ⟨RX7, "lacks", "(I)I"⟩
abbrev cX7_can : ByteArray := prog_9_method_35_code
def yX7_can : MethodName := ⟨RX7, "can", "(I)I"⟩
abbrev cX7_minute : ByteArray := prog_9_method_36_code
def yX7_minute : MethodName := ⟨RX7, "minute", "()V"⟩
abbrev cX7_waitsOne : ByteArray := prog_9_method_37_code
def yX7_waitsOne : MethodName := ⟨RX7, "waitsOne", "()V"⟩
abbrev cX7_bows : ByteArray := prog_9_method_38_code
def yX7_bows : MethodName := ⟨RX7, "bows", "()V"⟩
abbrev cX7_plays : ByteArray := prog_9_method_39_code
def yX7_plays : MethodName := ⟨RX7, "plays", "(I)V"⟩
abbrev cX7_steps : ByteArray := prog_9_method_40_code
def yX7_steps : MethodName := ⟨RX7, "steps", "(I)V"⟩
abbrev cX7_does : ByteArray := prog_9_method_41_code
def yX7_does : MethodName := ⟨RX7, "does", "(I)I"⟩
abbrev cX7_undo : ByteArray := prog_9_method_42_code
def yX7_undo : MethodName := ⟨RX7, "undo", "()I"⟩
abbrev cX7_keep : ByteArray := prog_9_method_43_code
def yX7_keep : MethodName := ⟨RX7, "keep", "(I)I"⟩
abbrev cX7_back : ByteArray := prog_9_method_44_code
def yX7_back : MethodName := ⟨RX7, "back", "(I)I"⟩
abbrev cX7_holds : ByteArray := prog_9_method_45_code
def yX7_holds : MethodName := ⟨RX7, "holds", "()V"⟩
abbrev cX7_lets : ByteArray := prog_9_method_46_code
def yX7_lets : MethodName := ⟨RX7, "lets", "()V"⟩
abbrev cX7_till : ByteArray := prog_9_method_47_code
def yX7_till : MethodName := ⟨RX7, "till", "()I"⟩
abbrev cX7_behindWaits : ByteArray := prog_9_method_48_code
def yX7_behindWaits : MethodName := ⟨RX7, "behindWaits", "(IZ)I"⟩
abbrev cX7_there : ByteArray := prog_9_method_49_code
def yX7_there : MethodName := ⟨RX7, "there", "(I)I"⟩
abbrev cX7_sound : ByteArray := prog_9_method_50_code
def yX7_sound : MethodName := ⟨RX7, "sound", "(I)I"⟩
abbrev cX7_comesBack : ByteArray := prog_9_method_51_code
def yX7_comesBack : MethodName := ⟨RX7, "comesBack", "(I)V"⟩
abbrev cX7_goesOn : ByteArray := prog_9_method_52_code
def yX7_goesOn : MethodName := ⟨RX7, "goesOn", "(I)V"⟩
abbrev cX7_seeks : ByteArray := prog_9_method_53_code
def yX7_seeks : MethodName := ⟨RX7, "seeks", "()V"⟩
abbrev cX7_best : ByteArray := prog_9_method_54_code
def yX7_best : MethodName := ⟨RX7, "best", "(I)I"⟩
abbrev cX7_row : ByteArray := prog_9_method_55_code
def yX7_row : MethodName := ⟨RX7, "row", "(I)I"⟩
abbrev cX7_tear : ByteArray := prog_9_method_56_code
def yX7_tear : MethodName := ⟨RX7, "tear", "()I"⟩
abbrev cX7_judge : ByteArray := prog_9_method_57_code
def yX7_judge : MethodName := ⟨RX7, "judge", "(I)I"⟩
abbrev cX7_stay : ByteArray := prog_9_method_58_code
def yX7_stay : MethodName := ⟨RX7, "stay", "(III)J"⟩
abbrev cX7_gone : ByteArray := prog_9_method_59_code
def yX7_gone : MethodName := ⟨RX7, "gone", "(II)I"⟩
abbrev cX7_prepared : ByteArray := prog_9_method_60_code
def yX7_prepared : MethodName := ⟨RX7, "prepared", "(I)I"⟩
abbrev cX7_other : ByteArray := prog_9_method_61_code
def yX7_other : MethodName := ⟨RX7, "other", "(I)I"⟩
abbrev cX7_count : ByteArray := prog_9_method_62_code
def yX7_count : MethodName := ⟨RX7, "count", "(I)I"⟩
def RJx8e188 : String := "java/lang/Cloneable"
def TJx8e188 : u_T := fun k => match k with
  | _ => ("", "", "", false)
def tyJx8e188 : Nat → FieldType := fun k => match k with
  | _ => .int
abbrev wsJx8e1880 : List Cond := u_ws RJx8e188 TJx8e188 0
theorem nmJx8e188 : ∀ a, a < 0 → ∀ b, b < 0 → a ≠ b → (TJx8e188 a).2.1 ≠ (TJx8e188 b).2.1 := by decide +kernel
theorem tyJx8e188_ok : ∀ k, k < 0 → parseFieldDescriptor (TJx8e188 k).2.2.1 = some (tyJx8e188 k) := by decide +kernel
def RJx29ce0 : String := "java/lang/Enum"
def TJx29ce0 : u_T := fun k => match k with
  | _ => ("", "", "", false)
def tyJx29ce0 : Nat → FieldType := fun k => match k with
  | _ => .int
abbrev wsJx29ce00 : List Cond := u_ws RJx29ce0 TJx29ce0 0
theorem nmJx29ce0 : ∀ a, a < 0 → ∀ b, b < 0 → a ≠ b → (TJx29ce0 a).2.1 ≠ (TJx29ce0 b).2.1 := by decide +kernel
theorem tyJx29ce0_ok : ∀ k, k < 0 → parseFieldDescriptor (TJx29ce0 k).2.2.1 = some (tyJx29ce0 k) := by decide +kernel
def RJ6 : String := "java/lang/Integer"
def TJ6 : u_T := fun k => match k with
  | _ => ("", "", "", false)
def tyJ6 : Nat → FieldType := fun k => match k with
  | _ => .int
abbrev wsJ60 : List Cond := u_ws RJ6 TJ6 0
theorem nmJ6 : ∀ a, a < 0 → ∀ b, b < 0 → a ≠ b → (TJ6 a).2.1 ≠ (TJ6 b).2.1 := by decide +kernel
theorem tyJ6_ok : ∀ k, k < 0 → parseFieldDescriptor (TJ6 k).2.2.1 = some (tyJ6 k) := by decide +kernel
abbrev cJ6_bitCount_0f7a4 : ByteArray := prog_12_method_49_code
def yJ6_bitCount_0f7a4 : MethodName := ⟨RJ6, "bitCount", "(I)I"⟩
def RJ9 : String := "java/lang/Math"
def TJ9 : u_T := fun k => match k with
  | _ => ("", "", "", false)
def tyJ9 : Nat → FieldType := fun k => match k with
  | _ => .int
abbrev wsJ90 : List Cond := u_ws RJ9 TJ9 0
theorem nmJ9 : ∀ a, a < 0 → ∀ b, b < 0 → a ≠ b → (TJ9 a).2.1 ≠ (TJ9 b).2.1 := by decide +kernel
theorem tyJ9_ok : ∀ k, k < 0 → parseFieldDescriptor (TJ9 k).2.2.1 = some (tyJ9 k) := by decide +kernel
abbrev cJ9_max_7cf53 : ByteArray := prog_13_method_65_code
def yJ9_max_7cf53 : MethodName := ⟨RJ9, "max", "(II)I"⟩
abbrev cJ9_min_7cf53 : ByteArray := prog_13_method_69_code
def yJ9_min_7cf53 : MethodName := ⟨RJ9, "min", "(II)I"⟩
def RJ0 : String := "java/lang/String"
def TJ0 : u_T := fun k => match k with
  | _ => ("", "", "", false)
def tyJ0 : Nat → FieldType := fun k => match k with
  | _ => .int
abbrev wsJ00 : List Cond := u_ws RJ0 TJ0 0
theorem nmJ0 : ∀ a, a < 0 → ∀ b, b < 0 → a ≠ b → (TJ0 a).2.1 ≠ (TJ0 b).2.1 := by decide +kernel
theorem tyJ0_ok : ∀ k, k < 0 → parseFieldDescriptor (TJ0 k).2.2.1 = some (tyJ0 k) := by decide +kernel
abbrev cJ0_length_8abf5 : ByteArray := prog_14_method_54_code
def yJ0_length_8abf5 : MethodName := ⟨RJ0, "length", "()I"⟩
abbrev cJ0_charAt_5068e : ByteArray := prog_14_method_56_code
def yJ0_charAt_5068e : MethodName := ⟨RJ0, "charAt", "(I)C"⟩
abbrev cJ0_coder_7d493 : ByteArray := prog_14_method_152_code
def yJ0_coder_7d493 : MethodName := ⟨RJ0, "coder", "()B"⟩
abbrev cJ0_isLatin1_aae02 : ByteArray := prog_14_method_154_code
def yJ0_isLatin1_aae02 : MethodName := ⟨RJ0, "isLatin1", "()Z"⟩
abbrev cJ0_checkIndex_df160 : ByteArray := prog_14_method_155_code
def yJ0_checkIndex_df160 : MethodName := ⟨RJ0, "checkIndex", "(II)V"⟩
def RJ1 : String := "java/lang/StringLatin1"
def TJ1 : u_T := fun k => match k with
  | _ => ("", "", "", false)
def tyJ1 : Nat → FieldType := fun k => match k with
  | _ => .int
abbrev wsJ10 : List Cond := u_ws RJ1 TJ1 0
theorem nmJ1 : ∀ a, a < 0 → ∀ b, b < 0 → a ≠ b → (TJ1 a).2.1 ≠ (TJ1 b).2.1 := by decide +kernel
theorem tyJ1_ok : ∀ k, k < 0 → parseFieldDescriptor (TJ1 k).2.2.1 = some (tyJ1 k) := by decide +kernel
abbrev cJ1_charAt_3b067 : ByteArray := prog_15_method_2_code
def yJ1_charAt_3b067 : MethodName := ⟨RJ1, "charAt", "([BI)C"⟩
def RJ2 : String := "java/lang/StringUTF16"
def TJ2 : u_T := fun k => match k with
  | _ => ("", "", "", false)
def tyJ2 : Nat → FieldType := fun k => match k with
  | _ => .int
abbrev wsJ20 : List Cond := u_ws RJ2 TJ2 0
theorem nmJ2 : ∀ a, a < 0 → ∀ b, b < 0 → a ≠ b → (TJ2 a).2.1 ≠ (TJ2 b).2.1 := by decide +kernel
theorem tyJ2_ok : ∀ k, k < 0 → parseFieldDescriptor (TJ2 k).2.2.1 = some (tyJ2 k) := by decide +kernel
abbrev cJ2_getChar_3b067 : ByteArray := prog_16_method_5_code
def yJ2_getChar_3b067 : MethodName := ⟨RJ2, "getChar", "([BI)C"⟩
abbrev cJ2_length_9d52b : ByteArray := prog_16_method_6_code
def yJ2_length_9d52b : MethodName := ⟨RJ2, "length", "([B)I"⟩
abbrev cJ2_charAt_3b067 : ByteArray := prog_16_method_83_code
def yJ2_charAt_3b067 : MethodName := ⟨RJ2, "charAt", "([BI)C"⟩
abbrev cJ2_checkIndex_2214a : ByteArray := prog_16_method_91_code
def yJ2_checkIndex_2214a : MethodName := ⟨RJ2, "checkIndex", "(I[B)V"⟩
def RJ10 : String := "java/lang/System"
def TJ10 : u_T := fun k => match k with
  | _ => ("", "", "", false)
def tyJ10 : Nat → FieldType := fun k => match k with
  | _ => .int
abbrev wsJ100 : List Cond := u_ws RJ10 TJ10 0
theorem nmJ10 : ∀ a, a < 0 → ∀ b, b < 0 → a ≠ b → (TJ10 a).2.1 ≠ (TJ10 b).2.1 := by decide +kernel
theorem tyJ10_ok : ∀ k, k < 0 → parseFieldDescriptor (TJ10 k).2.2.1 = some (tyJ10 k) := by decide +kernel
def RJ3 : String := "jdk/internal/util/Preconditions"
def TJ3 : u_T := fun k => match k with
  | _ => ("", "", "", false)
def tyJ3 : Nat → FieldType := fun k => match k with
  | _ => .int
abbrev wsJ30 : List Cond := u_ws RJ3 TJ3 0
theorem nmJ3 : ∀ a, a < 0 → ∀ b, b < 0 → a ≠ b → (TJ3 a).2.1 ≠ (TJ3 b).2.1 := by decide +kernel
theorem tyJ3_ok : ∀ k, k < 0 → parseFieldDescriptor (TJ3 k).2.2.1 = some (tyJ3 k) := by decide +kernel
abbrev cJ3_checkIndex_8e157 : ByteArray := prog_18_method_11_code
def yJ3_checkIndex_8e157 : MethodName := ⟨RJ3, "checkIndex", "(IILjava/util/function/BiFunction;)I"⟩
def RL : String := "WhichEncoreLaw"
abbrev cL_law : ByteArray := code
def yL_law : MethodName := ⟨RL, "law", "([I)Z"⟩
end
section
/-! The world of both programs: cells by number, their whole numbers in one memory. -/
abbrev Mem : Type := Nat → Nat → Int32
def up2 (M : Mem) (k j : Nat) (v : Int32) : Mem := fun a b => if a = k ∧ b = j then v else M a b
abbrev Cx : Type := va_G × (Nat → ClassId) × (Nat → Nat) × List Nat × Nat
abbrev xD (X : Cx) : va_G := X.1
abbrev xca (X : Cx) : Nat → ClassId := X.2.1
abbrev xad (X : Cx) : Nat → Nat := X.2.2.1
abbrev xcs (X : Cx) : List Nat := X.2.2.2.1
abbrev xb (X : Cx) : Nat := X.2.2.2.2
abbrev classes : List vw_C := [(RX1, TX1, 10), (RX2, TX2, 3), (RX3, TX3, 5), (RX4, TX4, 7), (RX5, TX5, 12), (RX6, TX6, 10), (RX7, TX7, 21)]
/-- the kinds of the cells: 0 .. 6 an object of that class, 20 ints, 21 chars, 22 booleans, 23 evenings, 24 clauses -/
def kdL : List Nat := [5, 4, 20, 20, 20, 20, 20, 20, 20, 3, 4, 20, 20, 20, 20, 20, 20, 20, 21, 20, 24, 0, 20, 0, 20, 2, 20, 20, 23, 0, 20, 0, 20, 0, 20, 0, 20, 0, 20, 0, 20, 0, 20, 1, 23, 0, 20, 0, 20, 0, 20, 0, 20, 0, 20, 0, 20, 0, 20, 0, 20, 23, 22, 20, 0, 20, 0, 20, 99, 99, 6, 20, 20, 20, 20, 20, 20, 22, 20, 20, 20, 20, 20]
def lnL : List Nat := [10, 12, 8, 8, 8, 4, 4, 4, 4, 7, 12, 8, 8, 8, 4, 4, 4, 4, 160, 3, 13, 10, 8, 10, 8, 5, 6, 6, 7, 10, 8, 10, 8, 10, 8, 10, 8, 10, 8, 10, 8, 10, 8, 3, 8, 10, 8, 10, 8, 10, 8, 10, 8, 10, 8, 10, 8, 10, 8, 10, 8, 2, 2, 12, 10, 8, 10, 8, 0, 0, 21, 160, 45, 45, 14, 112, 28, 2, 12, 14, 98, 6, 6]
def kd (k : Nat) : Nat := kdL.getD k 99
def ln (k : Nat) : Nat := lnL.getD k 0
/-- the cell that field j of an object (of class ci, cell k) holds; none: a whole number -/
def rfc (ci j k : Nat) : Option Nat := match ci with
  | 0 => if j = 0 then some (k + 1) else if j = 9 then some 1 else none
  | 1 => if j = 2 then some 44 else none
  | 2 => if j = 2 then some 26 else if j = 3 then some 27 else if j = 4 then some 28 else none
  | 3 => if j = 0 then some 10 else if j = 3 then some 18 else if j = 4 then some 19 else if j = 5 then some 20 else none
  | 4 => if j < 7 then some (k + 1 + j) else none
  | 5 => if j = 0 then some 1 else if j = 1 then some 9 else if j = 2 then some 21 else if j = 3 then some 23 else if j = 4 then some 25 else if j = 5 then some 43 else if j = 6 then some 61 else if j = 7 then some 62 else if j = 8 then some 63 else none
  | _ => if j = 0 then some 71 else if j = 2 then some 72 else if j = 3 then some 73 else if j = 4 then some 74 else if j = 5 then some 75 else if j = 7 then some 76 else if j = 8 then some 77 else if j = 9 then some 78 else if j = 15 then some 79 else if j = 16 then some 80 else if j = 17 then some 81 else if j = 18 then some 82 else none
/-- the cell that place i of a row of references holds -/
def rae (k i : Nat) : Nat := if k = 28 then 29 + 2 * i else if k = 44 then 45 + 2 * i else if k = 61 then 64 + 2 * i else 1000 + i
def vfld (X : Cx) (M : Mem) (k j : Nat) : Value := match rfc (kd k) j k with
  | some t => .ref (xad X t)
  | none => .int (M k j)
def ce (X : Cx) (M : Mem) (k : Nat) : va_E :=
  if kd k < 20 then .inr (kd k, (List.range (ln k)).map (vfld X M k))
  else if kd k < 23 then .inl (xca X k, ln k, .inl (M k))
  else .inl (xca X k, ln k, .inr (.inr (.inr (.inr (fun i => some (xad X (rae k i)))))))
def wl (X : Cx) (M : Mem) : va_W := (xcs X).map (fun k => (xad X k, ce X M k))
def xA (X : Cx) : Nat → Prop := fun q => xb X ≤ q
def CxOk (X : Cx) : Prop := (∀ i j, i ∈ xcs X → j ∈ xcs X → xad X i = xad X j → i = j) ∧ va_nd (xcs X) = true ∧ ∀ i, i ∈ xcs X → xb X ≤ xad X i
theorem wl_at {X : Cx} {k : Nat} (hk : k ∈ xcs X) (M : Mem) : ∃ p : Nat, (wl X M)[p]? = some (xad X k, ce X M k) := by
  obtain ⟨p, hp⟩ := List.getElem?_of_mem hk
  exact ⟨p, by simp [wl, hp]⟩
theorem wl_of {X : Cx} {M : Mem} {p : Nat} {q : Nat × va_E} (h : (wl X M)[p]? = some q) : ∃ k, (xcs X)[p]? = some k ∧ q = (xad X k, ce X M k) := by
  unfold wl at h
  rw [List.getElem?_map] at h
  cases hk : (xcs X)[p]? with
  | none => rw [hk] at h; cases h
  | some k => rw [hk] at h; exact ⟨k, rfl, (Option.some.inj h).symm⟩
theorem wl_D {X : Cx} (h : CxOk X) (M : Mem) : va_D (xA X) (wl X M) := by
  refine ⟨fun i j a b hi hj hab => ?_, fun k q hk => ?_⟩
  · obtain ⟨x, hx, rfl⟩ := wl_of hi
    obtain ⟨y, hy, rfl⟩ := wl_of hj
    have hxy : x = y := h.1 x y (List.mem_of_getElem? hx) (List.mem_of_getElem? hy) hab
    subst hxy
    exact va_nd_inj _ h.2.1 _ _ _ hx hy
  · obtain ⟨x, hx, rfl⟩ := wl_of hk
    exact h.2.2 x (List.mem_of_getElem? hx)
theorem wl_set {X : Cx} (h : CxOk X) {M M' : Mem} {p k : Nat} {e : va_E} (hp : (wl X M)[p]? = some (xad X k, ce X M k)) (hk : k ∈ xcs X) (he : ce X M' k = e) (ho : ∀ j, j ≠ k → ce X M' j = ce X M j) : (wl X M).set p (xad X k, e) = wl X M' := by
  apply List.ext_getElem?
  intro i
  have hl := (List.getElem?_eq_some_iff.mp hp).1
  by_cases hi : p = i
  · subst hi
    rw [List.getElem?_set_self hl]
    obtain ⟨x, hx, hxe⟩ := wl_of hp
    have hxk : x = k := h.1 x k (List.mem_of_getElem? hx) hk (congrArg Prod.fst hxe).symm
    subst hxk
    simp [wl, hx, he]
  · rw [List.getElem?_set_ne hi]
    unfold wl
    rw [List.getElem?_map, List.getElem?_map]
    cases hx : (xcs X)[i]? with
    | none => rfl
    | some x =>
      have hne : x ≠ k := by
        intro hxk
        subst hxk
        obtain ⟨y, hy, hye⟩ := wl_of hp
        have hyx : y = x := h.1 y x (List.mem_of_getElem? hy) hk (congrArg Prod.fst hye).symm
        subst hyx
        exact hi (va_nd_inj _ h.2.1 _ _ _ hy hx)
      simp [ho x hne]
theorem up2_row (M : Mem) (k j : Nat) (v : Int32) : (up2 M k j v) k = upd (M k) j v := by
  funext b
  simp [up2, upd]
theorem up2_other (M : Mem) {k a : Nat} (j : Nat) (v : Int32) (h : a ≠ k) : (up2 M k j v) a = M a := by
  funext b
  simp [up2, h]
theorem ce_row {X : Cx} {M M' : Mem} {k : Nat} (h : M' k = M k) : ce X M' k = ce X M k := by
  unfold ce vfld
  rw [h]
theorem ce_obj {X : Cx} {M : Mem} {k ci : Nat} (h : kd k = ci) (hc : ci < 20) : ce X M k = .inr (ci, (List.range (ln k)).map (vfld X M k)) := by
  unfold ce
  rw [h, if_pos hc]
theorem ce_arr {X : Cx} {M : Mem} {k : Nat} (h : 20 ≤ kd k) (h2 : kd k < 23) : ce X M k = .inl (xca X k, ln k, .inl (M k)) := by
  unfold ce
  rw [if_neg (Nat.not_lt.mpr h), if_pos h2]
theorem ce_ref {X : Cx} {M : Mem} {k : Nat} (h : 23 ≤ kd k) : ce X M k = .inl (xca X k, ln k, .inr (.inr (.inr (.inr (fun i => some (xad X (rae k i))))))) := by
  unfold ce
  rw [if_neg (by omega), if_neg (by omega)]
theorem ce_put {X : Cx} {M : Mem} {k ci j : Nat} {v : Int32} (h : kd k = ci) (hc : ci < 20) (hj : j < ln k) (hr : rfc ci j k = none) : ce X (up2 M k j v) k = .inr (ci, ((List.range (ln k)).map (vfld X M k)).set j (.int v)) := by
  rw [ce_obj h hc]
  congr 2
  apply List.ext_getElem?
  intro i
  by_cases hi : j = i
  · subst hi
    rw [List.getElem?_set_self (by simpa using hj)]
    simp [hj, vfld, h, hr, up2]
  · rw [List.getElem?_set_ne hi]
    simp only [List.getElem?_map]
    cases hx : (List.range (ln k))[i]? with
    | none => rfl
    | some x =>
      have hxi : x = i := by
        have := (List.getElem?_eq_some_iff.mp hx).2
        simpa using this.symm
      subst hxi
      simp only [Option.map_some]
      congr 1
      unfold vfld
      rw [h]
      cases rfc ci x k with
      | some t => rfl
      | none => simp [up2]; exact fun e => absurd e.symm hi
/-- what the tables say of the classes and of the rows -/
def kty (k : Nat) : FieldType := if kd k = 20 then .int else if kd k = 21 then .char else if kd k = 22 then .boolean else if kd k = 23 then .object RX1 else .object RX0
def KX (X : Cx) (U : State) : Prop := (∀ (c : Nat) (q : vw_C), classes[c]? = some q → u_Kn U q.1 q.2.1 q.2.2 ((xD X).1 c) ((xD X).2 c)) ∧ ∀ k, k ∈ xcs X → 20 ≤ kd k → ArrOfT U (xca X k) (kty k) ∧ va_RA U (xca X k) (kty k)
theorem KX.moved {X : Cx} {u U : State} (hvm : u.vm.Alike U.vm) (h : KX X u) : KX X U := ⟨fun c q hq => u_Kn_moved hvm (h.1 c q hq), fun k hk h2 => ⟨arrOfT_moved hvm (h.2 k hk h2).1, (h.2 k hk h2).2.moved hvm⟩⟩
theorem KX.k0 {X : Cx} {U : State} (h : KX X U) : va_K (xD X) classes [] U := ⟨h.1, fun k q hq => by simp at hq⟩
theorem KX.k1 {X : Cx} {U : State} (h : KX X U) {k : Nat} (hk : k ∈ xcs X) (h2 : 20 ≤ kd k) {ty : FieldType} (ht : kty k = ty) : va_K (xD X) classes [(xca X k, ty)] U := by
  refine ⟨h.1, fun i q hq => ?_⟩
  have hz : i < 1 := (List.getElem?_eq_some_iff.mp hq).1
  rw [show i = 0 by omega] at hq
  cases hq
  rw [← ht]
  exact h.2 k hk h2
theorem KX.k2 {X : Cx} {U : State} (h : KX X U) {k k' : Nat} (hk : k ∈ xcs X) (h2 : 20 ≤ kd k) (hk' : k' ∈ xcs X) (h2' : 20 ≤ kd k') {ty : FieldType} (ht : kty k = ty) (ht' : kty k' = ty) : va_K (xD X) classes [(xca X k, ty), (xca X k', ty)] U := by
  refine ⟨h.1, fun i q hq => ?_⟩
  have hz : i < 2 := (List.getElem?_eq_some_iff.mp hq).1
  rcases (show i = 0 ∨ i = 1 by omega) with rfl | rfl
  · cases hq
    rw [← ht]
    exact h.2 k hk h2
  · cases hq
    rw [← ht']
    exact h.2 k' hk' h2'
end
section
/-! What never changes: constants, their texts, tables; the invariant; the judgement G over it, and its rows. -/
def cBytes : List (List Int32) := [[104, 97, 108, 108], [103, 117, 101, 115, 116], [102, 97, 110], [115, 108, 101, 101, 112, 101, 114], [115, 104, 111, 117, 116, 101, 114], [112, 108, 97, 105, 110], [113, 117, 105, 101, 116], [98, 114, 105, 108, 108, 105, 97, 110, 116], [107, 110, 111, 119, 110], [97, 114, 109], [99, 108, 111, 115, 101], [104, 105, 114, 101], [101, 109, 112, 116, 121]]
def cDeeds : List Int32 := [0, 1, 1, 1, 1, 2, 2, 2, 2, 3, 4, 5, 6]
def cKinds : List Int32 := [0, 0, 1, 2, 3, 0, 1, 2, 3, 0, 0, 0, 0]
def tNames : List String := ["OVER_CLAPPERS", "OVER_ENCORES", "HOW_MANY_NUMBERS", "LOWEST", "HIGHEST"]
def tTabs : List (List Int32) := [[-1, 0, 1, 0, 2], [-1, 0, 0, 1, 3], [0, 2, 3, 1, 1, 1, 0], [0, 0, 0, 0, 1, 0, 1, 1, 0, 0, 0, 0, 0, 0, 0, 0, 0, 0, 0, 0, 0], [0, 0, 0, 20, 99, 0, 9, 9, 30, 30, 0, 0, 99, 0, 0, 9, 0, 0, 0, 0, 0]]
def cB (i j : Nat) : Int32 := (cBytes.getD i []).getD j 0
def cN (i : Nat) : Nat := (cBytes.getD i []).length
def tV (i j : Nat) : Int32 := (tTabs.getD i []).getD j 0
def tN (i : Nat) : Nat := (tTabs.getD i []).length
def St1 (X : Cx) (i : Nat) (U : State) (H : Heap) : Prop := va_O RX0 (xad X (1000 + i)) (xA X) U H ∧ va_OF RX0 "word" "Ljava/lang/String;" (.ref (xad X (1020 + i))) (xad X (1000 + i)) (xA X) U H ∧ va_OF RX0 "deed" "I" (.int (cDeeds.getD i 0)) (xad X (1000 + i)) (xA X) U H ∧ va_OF RX0 "kind" "I" (.int (cKinds.getD i 0)) (xad X (1000 + i)) (xA X) U H ∧ va_O "java/lang/String" (xad X (1020 + i)) (xA X) U H ∧ va_OF "java/lang/String" "coder" "B" (.int 0) (xad X (1020 + i)) (xA X) U H ∧ va_OF "java/lang/String" "value" "[B" (.ref (xad X (1040 + i))) (xad X (1020 + i)) (xA X) U H ∧ va_T .byte (xad X (1040 + i)) (cN i) (fun j => .int (cB i j)) (xA X) U H
def St2 (X : Cx) (i : Nat) (U : State) (H : Heap) : Prop := va_Z RX6 (tNames.getD i "") "[I" (.ref (xad X (1060 + i))) (xA X) U H ∧ va_T .int (xad X (1060 + i)) (tN i) (fun j => .int (tV i j)) (xA X) U H
def St3 (X : Cx) (U : State) (H : Heap) : Prop := va_Z "java/lang/String" "COMPACT_STRINGS" "Z" (.int 1) (xA X) U H ∧ (va_Z "jdk/internal/util/Preconditions" "SIOOBE_FORMATTER" "Ljava/util/function/BiFunction;" .null (xA X) U H ∨ va_Z "jdk/internal/util/Preconditions" "SIOOBE_FORMATTER" "Ljava/util/function/BiFunction;" (.ref (xad X 1099)) (xA X) U H)
def St4 (U : State) : Prop := va_Nw (.methodLinkNest RX1 130 yX6_zealBehind RX6) U ∧ va_Nw (.fieldLinkNest RX4 72 RX6 "HOW_MANY_NUMBERS" "[I" RX6) U ∧ va_Nw (.fieldLinkNest RX4 75 RX6 "LOWEST" "[I" RX6) U ∧ va_Nw (.fieldLinkNest RX4 78 RX6 "HIGHEST" "[I" RX6) U
def St (X : Cx) (U : State) (H : Heap) : Prop := (∀ i, i < 13 → St1 X i U H) ∧ (∀ i, i < 5 → St2 X i U H) ∧ St3 X U H ∧ St4 U
theorem St.move {X : Cx} {s U : State} {H : Heap} {locs : List Loc} (hW : s.WarmedH U.vm) (hS : va_S (xA X) s.heap H locs) (hU : U.heap = H) (h : St X s s.heap) : St X U U.heap := by
  have hq := hS.2.1
  rw [hU]
  obtain ⟨h1, h2, h3, h4⟩ := h
  refine ⟨fun i hi => ?_, fun i hi => ?_, ?_, ?_⟩
  · obtain ⟨a1, a2, a3, a4, a5, a6, a7, a8⟩ := h1 i hi
    exact ⟨va_O.moved hW.alike (a1.kept hq), va_OF.moved hW.alike (a2.kept hq), va_OF.moved hW.alike (a3.kept hq), va_OF.moved hW.alike (a4.kept hq), va_O.moved hW.alike (a5.kept hq), va_OF.moved hW.alike (a6.kept hq), va_OF.moved hW.alike (a7.kept hq), va_T.moved hW.alike (a8.kept hq)⟩
  · obtain ⟨a1, a2⟩ := h2 i hi
    exact ⟨va_Z.moved hW.alike (a1.kept hq), va_T.moved hW.alike (a2.kept hq)⟩
  · obtain ⟨a1, a2⟩ := h3
    refine ⟨va_Z.moved hW.alike (a1.kept hq), ?_⟩
    rcases a2 with a | a
    · exact Or.inl (va_Z.moved hW.alike (a.kept hq))
    · exact Or.inr (va_Z.moved hW.alike (a.kept hq))
  · obtain ⟨a1, a2, a3, a4⟩ := h4
    exact ⟨a1.warmM hW, a2.warmF hW, a3.warmF hW, a4.warmF hW⟩
def Inv (X : Cx) (M : Mem) (U : State) : Prop := va_P (xD X) classes (wl X M) U.heap ∧ KX X U ∧ St X U U.heap
theorem Inv.blind {X : Cx} {M : Mem} {av : List Value} : FrameBlind (va_Pc av (Inv X M)) := by
  intro a U g mk q
  obtain ⟨q0, q1, q2, q3⟩ := q
  have hW : U.WarmedH (U.calling g mk a).vm := State.WarmedH.refl U
  refine ⟨q0, q1, KX.moved (u := U) (U := U.calling g mk a) (Vm.Alike.refl U.vm) q2, ?_⟩
  exact St.move (s := U) (U := U.calling g mk a) (H := U.heap) (locs := []) hW va_S.rf rfl q3
/-- the good words of the tables -/
def tb : List Cond := lw_tbl.filter goodWord
theorem tb_mem {w : Cond} (i : Nat) (h : lw_tbl[i]? = some w) (g : goodWord w = true) : w ∈ tb := List.mem_filter.mpr ⟨List.mem_of_getElem? h, g⟩
theorem tb_good {w : Cond} (h : w ∈ tb) : (w.onTables && w.keeps) = true ∨ ∃ ty, w = .arrayClass ty := good_of_word (List.mem_filter.mp h).2
theorem tb_in {ws : List Cond} (h : ∀ w ∈ ws, w ∈ tb) : GoodIn tb (ws ++ tb) := by
  intro w hw
  rcases List.mem_append.mp hw with h1 | h1
  · exact ⟨h w h1, tb_good (h w h1)⟩
  · exact ⟨h1, tb_good h1⟩
/-- a frame's surroundings: program, launch, environment, room, the state at its entry, method, arguments, the frames below, the method's own table, code, the end, cells and slots made -/
abbrev Fx : Type := Program × Launch × Env × Room × State × MethodId × Array Value × List Frame × Method × Code × (State → Prop) × Nat × Nat
abbrev fP (F : Fx) : Program := F.1
abbrev fL (F : Fx) : Launch := F.2.1
abbrev fE (F : Fx) : Env := F.2.2.1
abbrev fR (F : Fx) : Room := F.2.2.2.1
abbrev fS (F : Fx) : State := F.2.2.2.2.1
abbrev fM (F : Fx) : MethodId := F.2.2.2.2.2.1
abbrev fA (F : Fx) : Array Value := F.2.2.2.2.2.2.1
abbrev fB (F : Fx) : List Frame := F.2.2.2.2.2.2.2.1
abbrev fT (F : Fx) : Method := F.2.2.2.2.2.2.2.2.1
abbrev fC (F : Fx) : Code := F.2.2.2.2.2.2.2.2.2.1
abbrev fQ (F : Fx) : State → Prop := F.2.2.2.2.2.2.2.2.2.2.1
abbrev fc (F : Fx) : Nat := F.2.2.2.2.2.2.2.2.2.2.2.1
abbrev fs (F : Fx) : Nat := F.2.2.2.2.2.2.2.2.2.2.2.2
abbrev fW (F : Fx) (H : Heap) (locs : List Loc) (g : JFrame) : Prop := W (fP F) (fL F) (fE F) (fR F) (fS F) (fM F) (fA F) (fB F) (fT F) (fC F) H locs (fc F) (fs F) (fQ F) g
def cv (X : Cx) (v : Value) : Value := match v with
  | .ref k => .ref (xad X k)
  | w => w
theorem cv_cat (X : Cx) (v : Value) : (cv X v).category = v.category := by cases v <;> rfl
/-- locals by their places -/
def lz (X : Cx) : Nat → List (Option Value) → List (Nat × Value)
  | _, [] => []
  | i, some v :: t => (i, cv X v) :: lz X (i + 1) t
  | i, none :: t => lz X (i + 1) t
theorem lz_mem {X : Cx} {q : Nat × Value} : ∀ (L : List (Option Value)) (i : Nat), q ∈ lz X i L ↔ ∃ (j : Nat) (v : Value), L[j]? = some (some v) ∧ q = (i + j, cv X v)
  | [], i => by simp [lz]
  | none :: t, i => by
    rw [lz, lz_mem t (i + 1)]
    constructor
    · rintro ⟨j, v, h, rfl⟩
      exact ⟨j + 1, v, by simpa using h, by congr 1; omega⟩
    · rintro ⟨j, v, h, rfl⟩
      cases j with
      | zero => simp at h
      | succ j => exact ⟨j, v, by simpa using h, by congr 1; omega⟩
  | some w :: t, i => by
    rw [lz, List.mem_cons, lz_mem t (i + 1)]
    constructor
    · rintro (rfl | ⟨j, v, h, rfl⟩)
      · exact ⟨0, w, by simp, by simp⟩
      · exact ⟨j + 1, v, by simpa using h, by congr 1; omega⟩
    · rintro ⟨j, v, h, rfl⟩
      cases j with
      | zero =>
        have hw : w = v := by simpa using h
        subst hw
        exact Or.inl (by simp)
      | succ j => exact Or.inr ⟨j, v, by simpa using h, by congr 1; omega⟩
def lvR (X : Cx) (ls : Array Slot) (L : List (Option Value)) : Prop := lv_has ls L.length (lz X 0 L)
theorem lvR.get {X : Cx} {ls : Array Slot} {L : List (Option Value)} (h : lvR X ls L) {i : Nat} {v : Value} (hi : L[i]? = some (some v)) : ls[i]? = some (.val (cv X v)) :=
  h.2.2 (i, cv X v) ((lz_mem L 0).mpr ⟨i, v, hi, by simp⟩)
/-- a store kills a wide value that began one place ahead -/
def kil (L : List (Option Value)) (i : Nat) : List (Option Value) := match i with
  | 0 => L
  | j + 1 => match L[j]? with
    | some (some w) => if w.category = 2 then L.set j none else L
    | _ => L
theorem kil_len (L : List (Option Value)) (i : Nat) : (kil L i).length = L.length := by
  unfold kil
  cases i with
  | zero => rfl
  | succ j =>
    dsimp only
    split
    · split <;> simp
    · rfl
theorem kil_of {L : List (Option Value)} {i j : Nat} {v : Value} (h : (kil L i)[j]? = some (some v)) : L[j]? = some (some v) ∧ ¬ (j + 1 = i ∧ v.category = 2) := by
  unfold kil at h
  cases i with
  | zero => exact ⟨h, fun q => by omega⟩
  | succ k =>
    dsimp only at h
    split at h
    · next w hw =>
      split at h
      · next hc =>
        by_cases hjk : k = j
        · subst hjk
          rw [List.getElem?_set_self (List.getElem?_eq_some_iff.mp hw).1] at h
          cases h
        · rw [List.getElem?_set_ne hjk] at h
          exact ⟨h, fun q => hjk (by omega)⟩
      · next hc =>
        refine ⟨h, fun q => ?_⟩
        have : j = k := by omega
        subst this
        rw [hw] at h
        cases h
        exact hc q.2
    · next hw =>
      refine ⟨h, fun q => ?_⟩
      have : j = k := by omega
      subst this
      exact hw v h
def st1 (L : List (Option Value)) (i : Nat) (v : Value) : List (Option Value) := (kil L i).set i (some v)
def st2 (L : List (Option Value)) (i : Nat) (v : Value) : List (Option Value) := ((kil L i).set (i + 1) none).set i (some v)
theorem lvR.s1 {X : Cx} {ls' : Array Slot} {L : List (Option Value)} {i : Nat} {v : Value} (hi : i < L.length) (h : lv_has ls' L.length ((i, cv X v) :: (lz X 0 L).filter (fun q => !(q.1 == i) && !(q.1 + 1 == i && q.2.category == 2)))) : lvR X ls' (st1 L i v) := by
  have hlen : (st1 L i v).length = L.length := by simp [st1, kil_len]
  refine ⟨by rw [hlen]; exact h.1, h.2.1, fun q hq => h.2.2 q ?_⟩
  obtain ⟨j, w, hj, rfl⟩ := (lz_mem _ 0).mp hq
  unfold st1 at hj
  by_cases hij : i = j
  · subst hij
    rw [List.getElem?_set_self (by rw [kil_len]; exact hi)] at hj
    cases hj
    simp
  · rw [List.getElem?_set_ne hij] at hj
    obtain ⟨h1, h2⟩ := kil_of hj
    refine List.mem_cons_of_mem _ (List.mem_filter.mpr ⟨(lz_mem _ 0).mpr ⟨j, w, h1, rfl⟩, ?_⟩)
    have h3 : ¬ j = i := fun q => hij q.symm
    simp only [Nat.zero_add, cv_cat, Bool.and_eq_true, Bool.not_eq_true', beq_eq_false_iff_ne, ne_eq, h3, not_false_eq_true, true_and, Bool.and_eq_false_iff]
    by_cases h4 : j + 1 = i
    · exact Or.inr fun q => h2 ⟨h4, q⟩
    · exact Or.inl h4
theorem lvR.s2 {X : Cx} {ls' : Array Slot} {L : List (Option Value)} {i : Nat} {v : Value} (hi : i + 1 < L.length) (h : lv_has ls' L.length ((i, cv X v) :: (lz X 0 L).filter (fun q => !(q.1 == i) && (!(q.1 == i + 1) && !(q.1 + 1 == i && q.2.category == 2))))) : lvR X ls' (st2 L i v) := by
  have hlen : (st2 L i v).length = L.length := by simp [st2, kil_len]
  refine ⟨by rw [hlen]; exact h.1, h.2.1, fun q hq => h.2.2 q ?_⟩
  obtain ⟨j, w, hj, rfl⟩ := (lz_mem _ 0).mp hq
  unfold st2 at hj
  by_cases hij : i = j
  · subst hij
    rw [List.getElem?_set_self (by simp [kil_len]; omega)] at hj
    cases hj
    simp
  · rw [List.getElem?_set_ne hij] at hj
    by_cases hij2 : i + 1 = j
    · subst hij2
      rw [List.getElem?_set_self (by rw [kil_len]; exact hi)] at hj
      cases hj
    · rw [List.getElem?_set_ne hij2] at hj
      obtain ⟨h1, h2⟩ := kil_of hj
      refine List.mem_cons_of_mem _ (List.mem_filter.mpr ⟨(lz_mem _ 0).mpr ⟨j, w, h1, rfl⟩, ?_⟩)
      have h3 : ¬ j = i := fun q => hij q.symm
      have h5 : ¬ j = i + 1 := fun q => hij2 q.symm
      simp only [Nat.zero_add, cv_cat, Bool.and_eq_true, Bool.not_eq_true', beq_eq_false_iff_ne, ne_eq, h3, h5, not_false_eq_true, true_and, Bool.and_eq_false_iff]
      by_cases h4 : j + 1 = i
      · exact Or.inr fun q => h2 ⟨h4, q⟩
      · exact Or.inl h4
/-- what holds of the surroundings all along -/
def FK (X : Cx) (F : Fx) (cc : ByteArray) (own : String) (nL d : Nat) : Prop :=
  (fP F).tables.exec = Jvm.exec ∧ (fC F).code = cc ∧ (fC F).maxLocals = nL ∧ (fS F).vm.findClass own = some (fM F).cls ∧ (∀ w ∈ tb, w.before (fA F) (fS F) = true) ∧ KX X (fS F) ∧ St X (fS F) (fS F).heap ∧ CxOk X ∧ d ≤ (fR F).frames ∧ 40 * d ≤ (fR F).locals ∧ fc F ≤ (fR F).cells ∧ fs F ≤ (fR F).slots ∧ (fT F).locks = false
def G (X : Cx) (F : Fx) (pc : Nat) (L : List (Option Value)) (st : List Value) (M : Mem) : Prop :=
  ∀ (H : Heap) (locs : List Loc) (ls : Array Slot), va_P (xD X) classes (wl X M) H → va_S (xA X) (fS F).heap H locs → lvR X ls L → fW F H locs (F0 (fM F) pc ls (st.map (cv X)))
end
section
/-! Rows over G: an instruction a row. -/
def dck (cb : ByteArray) (t : List (Nat × Instr × Nat)) : Bool := t.all (fun q => decide (decode cb q.1 = .ok q.2))
theorem dck_at {cb : ByteArray} {t : List (Nat × Instr × Nat)} (h : dck cb t = true) (i : Nat) {pc n : Nat} {ins : Instr} (hi : t[i]? = some (pc, ins, n)) : decode cb pc = .ok (ins, n) := by
  unfold dck at h
  have h1 := List.all_eq_true.mp h (pc, ins, n) (List.mem_of_getElem? hi)
  simpa only [decide_eq_true_eq] using h1
section GR
variable {X : Cx} {F : Fx} {cc : ByteArray} {own : String} {nL d pc : Nat} {L : List (Option Value)} {st : List Value} {M : Mem}
theorem g_iconst (hF : FK X F cc own nL d) {n : Int} {v : Int32} (dg : decode cc pc = .ok (.iconst n, 1)) (hv : Int32.ofInt n = v) (kk : G X F (pc + 1) L (.int v :: st) M) : G X F pc L st M := fun H locs ls hP hS hl => lv_iconst hF.1 hF.2.1 dg hv (kk H locs ls hP hS hl)
theorem g_bipush (hF : FK X F cc own nL d) {n : Int} {v : Int32} (dg : decode cc pc = .ok (.bipush n, 2)) (hv : (Int8.ofInt n).toInt32 = v) (kk : G X F (pc + 2) L (.int v :: st) M) : G X F pc L st M := fun H locs ls hP hS hl => lv_bipush hF.1 hF.2.1 dg hv (kk H locs ls hP hS hl)
theorem g_sipush (hF : FK X F cc own nL d) {n : Int} {v : Int32} (dg : decode cc pc = .ok (.sipush n, 3)) (hv : (Int16.ofInt n).toInt32 = v) (kk : G X F (pc + 3) L (.int v :: st) M) : G X F pc L st M := fun H locs ls hP hS hl => lv_sipush hF.1 hF.2.1 dg hv (kk H locs ls hP hS hl)
theorem g_lconst (hF : FK X F cc own nL d) {n : Fin 2} {v : Int64} (dg : decode cc pc = .ok (.lconst n, 1)) (hv : Int64.ofNat (n : Nat) = v) (kk : G X F (pc + 1) L (.long v :: st) M) : G X F pc L st M := fun H locs ls hP hS hl => lv_lconst hF.1 hF.2.1 dg hv (kk H locs ls hP hS hl)
theorem g_ldc (hF : FK X F cc own nL d) {index : Nat} {v : Int32} (hw : Cond.constant own index v ∈ tb) (dg : decode cc pc = .ok (.ldc index, 2)) (kk : G X F (pc + 2) L (.int v :: st) M) : G X F pc L st M := fun H locs ls hP hS hl => lv_ldc hF.1 hF.2.1 hF.2.2.2.1 (hF.2.2.2.2.1 _ hw) dg (kk H locs ls hP hS hl)
theorem g_ldc2 (hF : FK X F cc own nL d) {index : Nat} {v : Int64} (hw : Cond.constantLong own index v ∈ tb) (dg : decode cc pc = .ok (.ldc2_w index, 3)) (kk : G X F (pc + 3) L (.long v :: st) M) : G X F pc L st M := fun H locs ls hP hS hl => lv_ldc2 hF.1 hF.2.1 hF.2.2.2.1 (hF.2.2.2.2.1 _ hw) dg (kk H locs ls hP hS hl)
theorem g_ldcw (hF : FK X F cc own nL d) {index : Nat} {v : Int32} (hw : Cond.constant own index v ∈ tb) (dg : decode cc pc = .ok (.ldc_w index, 3)) (kk : G X F (pc + 3) L (.int v :: st) M) : G X F pc L st M := fun H locs ls hP hS hl => lv_ldcw hF.1 hF.2.1 hF.2.2.2.1 (hF.2.2.2.2.1 _ hw) dg (kk H locs ls hP hS hl)
theorem g_null (hF : FK X F cc own nL d) (dg : decode cc pc = .ok (.aconst_null, 1)) (kk : G X F (pc + 1) L (.null :: st) M) : G X F pc L st M := fun H locs ls hP hS hl => lv_null hF.1 hF.2.1 dg (kk H locs ls hP hS hl)
theorem g_iload_n (hF : FK X F cc own nL d) {k : Fin 4} {x : Int32} (dg : decode cc pc = .ok (.iload_n k, 1)) (hx : L[(k : Nat)]? = some (some (.int x))) (kk : G X F (pc + 1) L (.int x :: st) M) : G X F pc L st M := fun H locs ls hP hS hl => lv_iload_n hF.1 hF.2.1 dg rfl (hl.get hx) (kk H locs ls hP hS hl)
theorem g_iload (hF : FK X F cc own nL d) {k : Nat} {x : Int32} (dg : decode cc pc = .ok (.iload k, 2)) (hx : L[k]? = some (some (.int x))) (kk : G X F (pc + 2) L (.int x :: st) M) : G X F pc L st M := fun H locs ls hP hS hl => lv_iload hF.1 hF.2.1 dg (hl.get hx) (kk H locs ls hP hS hl)
theorem g_lload_n (hF : FK X F cc own nL d) {k : Fin 4} {x : Int64} (dg : decode cc pc = .ok (.lload_n k, 1)) (hx : L[(k : Nat)]? = some (some (.long x))) (kk : G X F (pc + 1) L (.long x :: st) M) : G X F pc L st M := fun H locs ls hP hS hl => lv_lload_n hF.1 hF.2.1 dg rfl (hl.get hx) (kk H locs ls hP hS hl)
theorem g_lload (hF : FK X F cc own nL d) {k : Nat} {x : Int64} (dg : decode cc pc = .ok (.lload k, 2)) (hx : L[k]? = some (some (.long x))) (kk : G X F (pc + 2) L (.long x :: st) M) : G X F pc L st M := fun H locs ls hP hS hl => lv_lload hF.1 hF.2.1 dg (hl.get hx) (kk H locs ls hP hS hl)
theorem g_aload_n (hF : FK X F cc own nL d) {k : Fin 4} {x : Nat} (dg : decode cc pc = .ok (.aload_n k, 1)) (hx : L[(k : Nat)]? = some (some (.ref x))) (kk : G X F (pc + 1) L (.ref x :: st) M) : G X F pc L st M := fun H locs ls hP hS hl => lv_aload_n hF.1 hF.2.1 dg rfl (hl.get hx) (kk H locs ls hP hS hl)
theorem g_aload (hF : FK X F cc own nL d) {k : Nat} {x : Nat} (dg : decode cc pc = .ok (.aload k, 2)) (hx : L[k]? = some (some (.ref x))) (kk : G X F (pc + 2) L (.ref x :: st) M) : G X F pc L st M := fun H locs ls hP hS hl => lv_aload hF.1 hF.2.1 dg (hl.get hx) (kk H locs ls hP hS hl)
theorem g_aload_nN (hF : FK X F cc own nL d) {k : Fin 4} (dg : decode cc pc = .ok (.aload_n k, 1)) (hx : L[(k : Nat)]? = some (some .null)) (kk : G X F (pc + 1) L (.null :: st) M) : G X F pc L st M := fun H locs ls hP hS hl => lv_aload_nN hF.1 hF.2.1 dg rfl (hl.get hx) (kk H locs ls hP hS hl)
theorem g_istore_n (hF : FK X F cc own nL d) {k : Fin 4} {x : Int32} {L' : List (Option Value)} (dg : decode cc pc = .ok (.istore_n k, 1)) (hn : (k : Nat) < L.length) (hL : st1 L k (.int x) = L') (kk : G X F (pc + 1) L' st M) : G X F pc L (.int x :: st) M := fun H locs ls hP hS hl => lv_istore_n hF.1 hF.2.1 dg rfl hl hn rfl (fun ls' h' => kk H locs ls' hP hS (hL ▸ lvR.s1 hn h'))
theorem g_istore (hF : FK X F cc own nL d) {k : Nat} {x : Int32} {L' : List (Option Value)} (dg : decode cc pc = .ok (.istore k, 2)) (hn : k < L.length) (hL : st1 L k (.int x) = L') (kk : G X F (pc + 2) L' st M) : G X F pc L (.int x :: st) M := fun H locs ls hP hS hl => lv_istore hF.1 hF.2.1 dg hl hn rfl (fun ls' h' => kk H locs ls' hP hS (hL ▸ lvR.s1 hn h'))
theorem g_astore_n (hF : FK X F cc own nL d) {k : Fin 4} {x : Nat} {L' : List (Option Value)} (dg : decode cc pc = .ok (.astore_n k, 1)) (hn : (k : Nat) < L.length) (hL : st1 L k (.ref x) = L') (kk : G X F (pc + 1) L' st M) : G X F pc L (.ref x :: st) M := fun H locs ls hP hS hl => lv_astore_n hF.1 hF.2.1 dg rfl hl hn rfl (fun ls' h' => kk H locs ls' hP hS (hL ▸ lvR.s1 hn h'))
theorem g_astore (hF : FK X F cc own nL d) {k : Nat} {x : Nat} {L' : List (Option Value)} (dg : decode cc pc = .ok (.astore k, 2)) (hn : k < L.length) (hL : st1 L k (.ref x) = L') (kk : G X F (pc + 2) L' st M) : G X F pc L (.ref x :: st) M := fun H locs ls hP hS hl => lv_astore hF.1 hF.2.1 dg hl hn rfl (fun ls' h' => kk H locs ls' hP hS (hL ▸ lvR.s1 hn h'))
theorem g_astore_nN (hF : FK X F cc own nL d) {k : Fin 4} {L' : List (Option Value)} (dg : decode cc pc = .ok (.astore_n k, 1)) (hn : (k : Nat) < L.length) (hL : st1 L k .null = L') (kk : G X F (pc + 1) L' st M) : G X F pc L (.null :: st) M := fun H locs ls hP hS hl => lv_astore_nN hF.1 hF.2.1 dg rfl hl hn rfl (fun ls' h' => kk H locs ls' hP hS (hL ▸ lvR.s1 (v := .null) hn h'))
theorem g_lstore_n (hF : FK X F cc own nL d) {k : Fin 4} {x : Int64} {L' : List (Option Value)} (dg : decode cc pc = .ok (.lstore_n k, 1)) (hn : (k : Nat) + 1 < L.length) (hL : st2 L k (.long x) = L') (kk : G X F (pc + 1) L' st M) : G X F pc L (.long x :: st) M := fun H locs ls hP hS hl => lv_lstore_n hF.1 hF.2.1 dg rfl hl hn rfl (fun ls' h' => kk H locs ls' hP hS (hL ▸ lvR.s2 hn h'))
theorem g_lstore (hF : FK X F cc own nL d) {k : Nat} {x : Int64} {L' : List (Option Value)} (dg : decode cc pc = .ok (.lstore k, 2)) (hn : k + 1 < L.length) (hL : st2 L k (.long x) = L') (kk : G X F (pc + 2) L' st M) : G X F pc L (.long x :: st) M := fun H locs ls hP hS hl => lv_lstore hF.1 hF.2.1 dg hl hn rfl (fun ls' h' => kk H locs ls' hP hS (hL ▸ lvR.s2 hn h'))
theorem g_iinc (hF : FK X F cc own nL d) {k : Nat} {n : Int} {x v : Int32} {L' : List (Option Value)} (dg : decode cc pc = .ok (.iinc k n, 3)) (hx : L[k]? = some (some (.int x))) (hv : Int32.ofInt n = v) (hL : st1 L k (.int (x + v)) = L') (kk : G X F (pc + 3) L' st M) : G X F pc L st M := by
  intro H locs ls hP hS hl
  have hn : k < L.length := (List.getElem?_eq_some_iff.mp hx).1
  obtain ⟨j, hj⟩ := List.getElem?_of_mem ((lz_mem (X := X) L 0).mpr ⟨k, .int x, hx, rfl⟩)
  rw [Nat.zero_add] at hj
  exact lv_iinc (v := x + v) hF.1 hF.2.1 dg hl hj (by rw [hv]) hn rfl (fun ls' h' => kk H locs ls' hP hS (hL ▸ lvR.s1 hn h'))
theorem g_iadd (hF : FK X F cc own nL d) {x y : Int32} (dg : decode cc pc = .ok (.iadd, 1)) (kk : G X F (pc + 1) L (.int (x + y) :: st) M) : G X F pc L (.int y :: .int x :: st) M := fun H locs ls hP hS hl => lv_iadd hF.1 hF.2.1 dg (kk H locs ls hP hS hl)
theorem g_isub (hF : FK X F cc own nL d) {x y : Int32} (dg : decode cc pc = .ok (.isub, 1)) (kk : G X F (pc + 1) L (.int (x - y) :: st) M) : G X F pc L (.int y :: .int x :: st) M := fun H locs ls hP hS hl => lv_isub hF.1 hF.2.1 dg (kk H locs ls hP hS hl)
theorem g_imul (hF : FK X F cc own nL d) {x y : Int32} (dg : decode cc pc = .ok (.imul, 1)) (kk : G X F (pc + 1) L (.int (x * y) :: st) M) : G X F pc L (.int y :: .int x :: st) M := fun H locs ls hP hS hl => lv_imul hF.1 hF.2.1 dg (kk H locs ls hP hS hl)
theorem g_iand (hF : FK X F cc own nL d) {x y : Int32} (dg : decode cc pc = .ok (.iand, 1)) (kk : G X F (pc + 1) L (.int (x &&& y) :: st) M) : G X F pc L (.int y :: .int x :: st) M := fun H locs ls hP hS hl => lv_iand hF.1 hF.2.1 dg (kk H locs ls hP hS hl)
theorem g_ior (hF : FK X F cc own nL d) {x y : Int32} (dg : decode cc pc = .ok (.ior, 1)) (kk : G X F (pc + 1) L (.int (x ||| y) :: st) M) : G X F pc L (.int y :: .int x :: st) M := fun H locs ls hP hS hl => lv_ior hF.1 hF.2.1 dg (kk H locs ls hP hS hl)
theorem g_ixor (hF : FK X F cc own nL d) {x y : Int32} (dg : decode cc pc = .ok (.ixor, 1)) (kk : G X F (pc + 1) L (.int (x ^^^ y) :: st) M) : G X F pc L (.int y :: .int x :: st) M := fun H locs ls hP hS hl => lv_ixor hF.1 hF.2.1 dg (kk H locs ls hP hS hl)
theorem g_ishl (hF : FK X F cc own nL d) {x y : Int32} (dg : decode cc pc = .ok (.ishl, 1)) (kk : G X F (pc + 1) L (.int (x <<< (y &&& 31)) :: st) M) : G X F pc L (.int y :: .int x :: st) M := fun H locs ls hP hS hl => lv_ishl hF.1 hF.2.1 dg (kk H locs ls hP hS hl)
theorem g_ishr (hF : FK X F cc own nL d) {x y : Int32} (dg : decode cc pc = .ok (.ishr, 1)) (kk : G X F (pc + 1) L (.int (x >>> (y &&& 31)) :: st) M) : G X F pc L (.int y :: .int x :: st) M := fun H locs ls hP hS hl => lv_ishr hF.1 hF.2.1 dg (kk H locs ls hP hS hl)
theorem g_ladd (hF : FK X F cc own nL d) {x y : Int64} (dg : decode cc pc = .ok (.ladd, 1)) (kk : G X F (pc + 1) L (.long (x + y) :: st) M) : G X F pc L (.long y :: .long x :: st) M := fun H locs ls hP hS hl => lv_ladd hF.1 hF.2.1 dg (kk H locs ls hP hS hl)
theorem g_lmul (hF : FK X F cc own nL d) {x y : Int64} (dg : decode cc pc = .ok (.lmul, 1)) (kk : G X F (pc + 1) L (.long (x * y) :: st) M) : G X F pc L (.long y :: .long x :: st) M := fun H locs ls hP hS hl => lv_lmul hF.1 hF.2.1 dg (kk H locs ls hP hS hl)
theorem g_idiv (hF : FK X F cc own nL d) {x y : Int32} (dg : decode cc pc = .ok (.idiv, 1)) (hne : ¬ y = 0) (kk : G X F (pc + 1) L (.int (x / y) :: st) M) : G X F pc L (.int y :: .int x :: st) M := fun H locs ls hP hS hl => lv_idiv hF.1 hF.2.1 dg hne (kk H locs ls hP hS hl)
theorem g_irem (hF : FK X F cc own nL d) {x y : Int32} (dg : decode cc pc = .ok (.irem, 1)) (hne : ¬ y = 0) (kk : G X F (pc + 1) L (.int (x - x / y * y) :: st) M) : G X F pc L (.int y :: .int x :: st) M := fun H locs ls hP hS hl => lv_irem hF.1 hF.2.1 dg hne (kk H locs ls hP hS hl)
theorem g_ldiv (hF : FK X F cc own nL d) {x y : Int64} (dg : decode cc pc = .ok (.ldiv, 1)) (hne : ¬ y = 0) (kk : G X F (pc + 1) L (.long (x / y) :: st) M) : G X F pc L (.long y :: .long x :: st) M := fun H locs ls hP hS hl => lv_ldiv hF.1 hF.2.1 dg hne (kk H locs ls hP hS hl)
theorem g_lrem (hF : FK X F cc own nL d) {x y : Int64} (dg : decode cc pc = .ok (.lrem, 1)) (hne : ¬ y = 0) (kk : G X F (pc + 1) L (.long (x - x / y * y) :: st) M) : G X F pc L (.long y :: .long x :: st) M := fun H locs ls hP hS hl => lv_lrem hF.1 hF.2.1 dg hne (kk H locs ls hP hS hl)
theorem g_iushr (hF : FK X F cc own nL d) {x y : Int32} (dg : decode cc pc = .ok (.iushr, 1)) (kk : G X F (pc + 1) L (.int ((x.toUInt32 >>> (y.toUInt32 &&& Int32.toUInt32 31)).toInt32) :: st) M) : G X F pc L (.int y :: .int x :: st) M := fun H locs ls hP hS hl => lv_iushr hF.1 hF.2.1 dg rfl (kk H locs ls hP hS hl)
theorem g_i2l (hF : FK X F cc own nL d) {x : Int32} (dg : decode cc pc = .ok (.i2l, 1)) (kk : G X F (pc + 1) L (.long x.toInt64 :: st) M) : G X F pc L (.int x :: st) M := fun H locs ls hP hS hl => lv_i2l hF.1 hF.2.1 dg rfl (kk H locs ls hP hS hl)
theorem g_i2c (hF : FK X F cc own nL d) {x : Int32} (dg : decode cc pc = .ok (.i2c, 1)) (kk : G X F (pc + 1) L (.int ((x.toUInt32 % 65536).toInt32) :: st) M) : G X F pc L (.int x :: st) M := fun H locs ls hP hS hl => lv_i2c hF.1 hF.2.1 dg rfl (kk H locs ls hP hS hl)
theorem g_lcmp (hF : FK X F cc own nL d) {x y : Int64} (dg : decode cc pc = .ok (.lcmp, 1)) (kk : G X F (pc + 1) L (.int (lg_cmp x y) :: st) M) : G X F pc L (.long y :: .long x :: st) M := fun H locs ls hP hS hl => W.lcmp hF.1 hF.2.1 dg (kk H locs ls hP hS hl)
theorem g_dup (hF : FK X F cc own nL d) {v : Value} (dg : decode cc pc = .ok (.dup, 1)) (hv : v.category = 1) (kk : G X F (pc + 1) L (v :: v :: st) M) : G X F pc L (v :: st) M := fun H locs ls hP hS hl => lv_dup hF.1 hF.2.1 dg ((cv_cat X v).trans hv) (kk H locs ls hP hS hl)
theorem g_pop (hF : FK X F cc own nL d) {v : Value} (dg : decode cc pc = .ok (.pop, 1)) (hv : v.category = 1) (kk : G X F (pc + 1) L st M) : G X F pc L (v :: st) M := fun H locs ls hP hS hl => lv_pop hF.1 hF.2.1 dg ((cv_cat X v).trans hv) (kk H locs ls hP hS hl)
theorem g_dup2 (hF : FK X F cc own nL d) {v u : Value} (dg : decode cc pc = .ok (.dup2, 1)) (hv : v.category = 1) (hu : u.category = 1) (kk : G X F (pc + 1) L (v :: u :: v :: u :: st) M) : G X F pc L (v :: u :: st) M := fun H locs ls hP hS hl => lv_dup2_11 hF.1 hF.2.1 dg ((cv_cat X v).trans hv) ((cv_cat X u).trans hu) (kk H locs ls hP hS hl)
theorem g_dup_x1 (hF : FK X F cc own nL d) {v u : Value} (dg : decode cc pc = .ok (.dup_x1, 1)) (hv : v.category = 1) (hu : u.category = 1) (kk : G X F (pc + 1) L (v :: u :: v :: st) M) : G X F pc L (v :: u :: st) M := fun H locs ls hP hS hl => lv_dup_x1 hF.1 hF.2.1 dg ((cv_cat X v).trans hv) ((cv_cat X u).trans hu) (kk H locs ls hP hS hl)
theorem g_if_eq (hF : FK X F cc own nL d) {x : Int32} {off : Int} (tgt : Nat) (dg : decode cc pc = .ok (.ifCond .eq off, 3)) (ht : (pc : Int) + off = (tgt : Int)) (kt : x = 0 → G X F tgt L st M) (kf : ¬ x = 0 → G X F (pc + 3) L st M) : G X F pc L (.int x :: st) M := fun H locs ls hP hS hl => lv_if_eq hF.1 hF.2.1 dg ht (fun h => kt h H locs ls hP hS hl) (fun h => kf h H locs ls hP hS hl)
theorem g_icmp_eq (hF : FK X F cc own nL d) {x y : Int32} {off : Int} (tgt : Nat) (dg : decode cc pc = .ok (.if_icmp .eq off, 3)) (ht : (pc : Int) + off = (tgt : Int)) (kt : x = y → G X F tgt L st M) (kf : ¬ x = y → G X F (pc + 3) L st M) : G X F pc L (.int y :: .int x :: st) M := fun H locs ls hP hS hl => lv_icmp_eq hF.1 hF.2.1 dg ht (fun h => kt h H locs ls hP hS hl) (fun h => kf h H locs ls hP hS hl)
theorem g_if_ne (hF : FK X F cc own nL d) {x : Int32} {off : Int} (tgt : Nat) (dg : decode cc pc = .ok (.ifCond .ne off, 3)) (ht : (pc : Int) + off = (tgt : Int)) (kt : ¬ x = 0 → G X F tgt L st M) (kf : x = 0 → G X F (pc + 3) L st M) : G X F pc L (.int x :: st) M := fun H locs ls hP hS hl => lv_if_ne hF.1 hF.2.1 dg ht (fun h => kt h H locs ls hP hS hl) (fun h => kf h H locs ls hP hS hl)
theorem g_icmp_ne (hF : FK X F cc own nL d) {x y : Int32} {off : Int} (tgt : Nat) (dg : decode cc pc = .ok (.if_icmp .ne off, 3)) (ht : (pc : Int) + off = (tgt : Int)) (kt : ¬ x = y → G X F tgt L st M) (kf : x = y → G X F (pc + 3) L st M) : G X F pc L (.int y :: .int x :: st) M := fun H locs ls hP hS hl => lv_icmp_ne hF.1 hF.2.1 dg ht (fun h => kt h H locs ls hP hS hl) (fun h => kf h H locs ls hP hS hl)
theorem g_if_lt (hF : FK X F cc own nL d) {x : Int32} {off : Int} (tgt : Nat) (dg : decode cc pc = .ok (.ifCond .lt off, 3)) (ht : (pc : Int) + off = (tgt : Int)) (kt : x < 0 → G X F tgt L st M) (kf : ¬ x < 0 → G X F (pc + 3) L st M) : G X F pc L (.int x :: st) M := fun H locs ls hP hS hl => lv_if_lt hF.1 hF.2.1 dg ht (fun h => kt h H locs ls hP hS hl) (fun h => kf h H locs ls hP hS hl)
theorem g_icmp_lt (hF : FK X F cc own nL d) {x y : Int32} {off : Int} (tgt : Nat) (dg : decode cc pc = .ok (.if_icmp .lt off, 3)) (ht : (pc : Int) + off = (tgt : Int)) (kt : x < y → G X F tgt L st M) (kf : ¬ x < y → G X F (pc + 3) L st M) : G X F pc L (.int y :: .int x :: st) M := fun H locs ls hP hS hl => lv_icmp_lt hF.1 hF.2.1 dg ht (fun h => kt h H locs ls hP hS hl) (fun h => kf h H locs ls hP hS hl)
theorem g_if_ge (hF : FK X F cc own nL d) {x : Int32} {off : Int} (tgt : Nat) (dg : decode cc pc = .ok (.ifCond .ge off, 3)) (ht : (pc : Int) + off = (tgt : Int)) (kt : 0 ≤ x → G X F tgt L st M) (kf : ¬ 0 ≤ x → G X F (pc + 3) L st M) : G X F pc L (.int x :: st) M := fun H locs ls hP hS hl => lv_if_ge hF.1 hF.2.1 dg ht (fun h => kt h H locs ls hP hS hl) (fun h => kf h H locs ls hP hS hl)
theorem g_icmp_ge (hF : FK X F cc own nL d) {x y : Int32} {off : Int} (tgt : Nat) (dg : decode cc pc = .ok (.if_icmp .ge off, 3)) (ht : (pc : Int) + off = (tgt : Int)) (kt : y ≤ x → G X F tgt L st M) (kf : ¬ y ≤ x → G X F (pc + 3) L st M) : G X F pc L (.int y :: .int x :: st) M := fun H locs ls hP hS hl => lv_icmp_ge hF.1 hF.2.1 dg ht (fun h => kt h H locs ls hP hS hl) (fun h => kf h H locs ls hP hS hl)
theorem g_if_gt (hF : FK X F cc own nL d) {x : Int32} {off : Int} (tgt : Nat) (dg : decode cc pc = .ok (.ifCond .gt off, 3)) (ht : (pc : Int) + off = (tgt : Int)) (kt : 0 < x → G X F tgt L st M) (kf : ¬ 0 < x → G X F (pc + 3) L st M) : G X F pc L (.int x :: st) M := fun H locs ls hP hS hl => lv_if_gt hF.1 hF.2.1 dg ht (fun h => kt h H locs ls hP hS hl) (fun h => kf h H locs ls hP hS hl)
theorem g_icmp_gt (hF : FK X F cc own nL d) {x y : Int32} {off : Int} (tgt : Nat) (dg : decode cc pc = .ok (.if_icmp .gt off, 3)) (ht : (pc : Int) + off = (tgt : Int)) (kt : y < x → G X F tgt L st M) (kf : ¬ y < x → G X F (pc + 3) L st M) : G X F pc L (.int y :: .int x :: st) M := fun H locs ls hP hS hl => lv_icmp_gt hF.1 hF.2.1 dg ht (fun h => kt h H locs ls hP hS hl) (fun h => kf h H locs ls hP hS hl)
theorem g_if_le (hF : FK X F cc own nL d) {x : Int32} {off : Int} (tgt : Nat) (dg : decode cc pc = .ok (.ifCond .le off, 3)) (ht : (pc : Int) + off = (tgt : Int)) (kt : x ≤ 0 → G X F tgt L st M) (kf : ¬ x ≤ 0 → G X F (pc + 3) L st M) : G X F pc L (.int x :: st) M := fun H locs ls hP hS hl => lv_if_le hF.1 hF.2.1 dg ht (fun h => kt h H locs ls hP hS hl) (fun h => kf h H locs ls hP hS hl)
theorem g_icmp_le (hF : FK X F cc own nL d) {x y : Int32} {off : Int} (tgt : Nat) (dg : decode cc pc = .ok (.if_icmp .le off, 3)) (ht : (pc : Int) + off = (tgt : Int)) (kt : x ≤ y → G X F tgt L st M) (kf : ¬ x ≤ y → G X F (pc + 3) L st M) : G X F pc L (.int y :: .int x :: st) M := fun H locs ls hP hS hl => lv_icmp_le hF.1 hF.2.1 dg ht (fun h => kt h H locs ls hP hS hl) (fun h => kf h H locs ls hP hS hl)
theorem g_goto (hF : FK X F cc own nL d) {off : Int} (tgt : Nat) (dg : decode cc pc = .ok (.goto off, 3)) (ht : (pc : Int) + off = (tgt : Int)) (kk : G X F tgt L st M) : G X F pc L st M := fun H locs ls hP hS hl => lv_goto hF.1 hF.2.1 dg ht (kk H locs ls hP hS hl)
theorem g_ifnull (hF : FK X F cc own nL d) {x : Nat} {off : Int} (dg : decode cc pc = .ok (.ifnull off, 3)) (kk : G X F (pc + 3) L st M) : G X F pc L (.ref x :: st) M := fun H locs ls hP hS hl => lv_ifnull hF.1 hF.2.1 dg (kk H locs ls hP hS hl)
theorem g_ifnullN (hF : FK X F cc own nL d) {off : Int} (tgt : Nat) (dg : decode cc pc = .ok (.ifnull off, 3)) (ht : (pc : Int) + off = (tgt : Int)) (kk : G X F tgt L st M) : G X F pc L (.null :: st) M := fun H locs ls hP hS hl => lv_ifnullN hF.1 hF.2.1 dg ht (kk H locs ls hP hS hl)
theorem g_swIn (hF : FK X F cc own nL d) {dflt lo hi : Int} {offs : Array Int} {len : Nat} {x : Int32} {off : Int} (tgt : Nat) (v : Int32) (hx : x = v) (dg : decode cc pc = .ok (.tableswitch dflt lo hi offs, len)) (h1 : ¬ v.toInt < lo) (h2 : ¬ hi < v.toInt) (ho : offs[(v.toInt - lo).toNat]? = some off) (ht : (pc : Int) + off = (tgt : Int)) (kk : G X F tgt L st M) : G X F pc L (.int x :: st) M := by
  subst hx
  exact fun H locs ls hP hS hl => lv_tableIn hF.1 hF.2.1 dg h1 h2 ho ht (kk H locs ls hP hS hl)
theorem g_swOut (hF : FK X F cc own nL d) {dflt lo hi : Int} {offs : Array Int} {len : Nat} {x : Int32} (tgt : Nat) (dg : decode cc pc = .ok (.tableswitch dflt lo hi offs, len)) (h : x.toInt < lo ∨ hi < x.toInt) (ht : (pc : Int) + dflt = (tgt : Int)) (kk : G X F tgt L st M) : G X F pc L (.int x :: st) M := fun H locs ls hP hS hl => lv_tableOut hF.1 hF.2.1 dg h ht (kk H locs ls hP hS hl)
theorem g_get (hF : FK X F cc own nL d) {ref C : String} {T : u_T} {N ci index k j : Nat} {v : Value} (hin : ∀ w ∈ u_ws C T N, w ∈ tb) (hc : classes[ci]? = some (C, T, N)) (hci : ci < 20) (hk : k ∈ xcs X) (hkd : kd k = ci) (hN : ln k = N) (hj : j < N) (hw : Cond.fieldLink own index ref (T j).2.1 (T j).2.2.1 ∈ tb) (href : (T j).1 = ref) (hv : vfld X M k j = cv X v) (dg : decode cc pc = .ok (.getfield index, 3)) (kk : G X F (pc + 3) L (v :: st) M) : G X F pc L (.ref k :: st) M := by
  intro H locs ls hP hS hl
  obtain ⟨p, hp⟩ := wl_at hk M
  rw [ce_obj hkd hci] at hp
  exact va_get (D := xD X) (ci := ci) (C := C) (T := T) (N := N) hF.1 hF.2.1 hF.2.2.2.2.1 hin hF.2.2.2.1 hF.2.2.2.2.2.1.k0 hP p hp hc j hj (hF.2.2.2.2.1 _ hw) (fun x h => by rw [href] at h; exact h) (v := cv X v) (by rw [← hv]; simp [hN, hj]) dg (kk H locs ls hP hS hl)
theorem g_put (hF : FK X F cc own nL d) {ref C : String} {T : u_T} {N ci index k j : Nat} {v : Int32} {ty : FieldType} (hin : ∀ w ∈ u_ws C T N, w ∈ tb) (ty0 : Nat → FieldType) (hty : ∀ k, k < N → parseFieldDescriptor (T k).2.2.1 = some (ty0 k)) (hnm : ∀ a, a < N → ∀ b, b < N → a ≠ b → (T a).2.1 ≠ (T b).2.1) (hc : classes[ci]? = some (C, T, N)) (hci : ci < 20) (hk : k ∈ xcs X) (hkd : kd k = ci) (hN : ln k = N) (hj : j < N) (hw : Cond.fieldLink own index ref (T j).2.1 (T j).2.2.1 ∈ tb) (href : (T j).1 = ref) (hfin : (T j).2.2.2 = false) (hd : parseFieldDescriptor (T j).2.2.1 = some ty) (hr : rfc ci j k = none) (hn : narrow ty (.int v) = .int v) (hfit : fits ty (.int v) = true) (dg : decode cc pc = .ok (.putfield index, 3)) (kk : G X F (pc + 3) L st (up2 M k j v)) : G X F pc L (.int v :: .ref k :: st) M := by
  intro H locs ls hP hS hl
  obtain ⟨p, hp0⟩ := wl_at hk M
  have hp := hp0
  rw [ce_obj hkd hci] at hp
  refine va_put (D := xD X) (ci := ci) (C := C) (T := T) (N := N) (v := .int v) (ty := ty) hF.1 hF.2.1 hF.2.2.2.2.1 hin ty0 hty hnm hF.2.2.2.1 hF.2.2.2.2.2.1.k0 hP (wl_D hF.2.2.2.2.2.2.2.1 M) hS p hp hc j hj (hF.2.2.2.2.1 _ hw) (fun x h => by rw [href] at h; exact h) hfin hd hn hfit (by simpa [hN] using hj) dg (fun H1 locs1 hP1 hD1 hS1 => ?_)
  rw [wl_set hF.2.2.2.2.2.2.2.1 hp0 hk (ce_put hkd hci (by rw [hN]; exact hj) hr) (fun a ha => ce_row (up2_other M j v ha))] at hP1
  exact kk H1 locs1 ls hP1 hS1 hl
theorem g_iald (hF : FK X F cc own nL d) {k : Nat} {i : Int32} (hk : k ∈ xcs X) (hkd : kd k = 20) (hi : vp_in i (ln k)) (dg : decode cc pc = .ok (.iaload, 1)) (kk : G X F (pc + 1) L (.int (M k i.toNatClampNeg) :: st) M) : G X F pc L (.int i :: .ref k :: st) M := by
  intro H locs ls hP hS hl
  obtain ⟨p, hp⟩ := wl_at hk M
  rw [ce_arr (by rw [hkd]; omega) (by rw [hkd]; omega)] at hp
  exact va_iald hF.1 hF.2.1 (hF.2.2.2.2.2.1.k1 hk (by rw [hkd]; omega) (ty := .int) (by simp [kty, hkd])) hP p 0 hp rfl hi dg (kk H locs ls hP hS hl)
theorem g_cald (hF : FK X F cc own nL d) {k : Nat} {i : Int32} (hk : k ∈ xcs X) (hkd : kd k = 21) (hi : vp_in i (ln k)) (dg : decode cc pc = .ok (.caload, 1)) (kk : G X F (pc + 1) L (.int (M k i.toNatClampNeg) :: st) M) : G X F pc L (.int i :: .ref k :: st) M := by
  intro H locs ls hP hS hl
  obtain ⟨p, hp⟩ := wl_at hk M
  rw [ce_arr (by rw [hkd]; omega) (by rw [hkd]; omega)] at hp
  exact va_cald hF.1 hF.2.1 (hF.2.2.2.2.2.1.k1 hk (by rw [hkd]; omega) (ty := .char) (by simp [kty, hkd])) hP p 0 hp rfl hi dg (kk H locs ls hP hS hl)
theorem g_zald (hF : FK X F cc own nL d) {k : Nat} {i : Int32} (hk : k ∈ xcs X) (hkd : kd k = 22) (hi : vp_in i (ln k)) (dg : decode cc pc = .ok (.baload, 1)) (kk : G X F (pc + 1) L (.int (M k i.toNatClampNeg) :: st) M) : G X F pc L (.int i :: .ref k :: st) M := by
  intro H locs ls hP hS hl
  obtain ⟨p, hp⟩ := wl_at hk M
  rw [ce_arr (by rw [hkd]; omega) (by rw [hkd]; omega)] at hp
  exact va_zald hF.1 hF.2.1 (hF.2.2.2.2.2.1.k1 hk (by rw [hkd]; omega) (ty := .boolean) (by simp [kty, hkd])) hP p 0 hp rfl hi dg (kk H locs ls hP hS hl)
theorem g_iast (hF : FK X F cc own nL d) {k : Nat} {i v : Int32} (hk : k ∈ xcs X) (hkd : kd k = 20) (hi : vp_in i (ln k)) (dg : decode cc pc = .ok (.iastore, 1)) (kk : G X F (pc + 1) L st (up2 M k i.toNatClampNeg v)) : G X F pc L (.int v :: .int i :: .ref k :: st) M := by
  intro H locs ls hP hS hl
  obtain ⟨p, hp0⟩ := wl_at hk M
  have hp := hp0
  rw [ce_arr (by rw [hkd]; omega) (by rw [hkd]; omega)] at hp
  refine va_iast hF.1 hF.2.1 (hF.2.2.2.2.2.1.k1 hk (by rw [hkd]; omega) (ty := .int) (by simp [kty, hkd])) hP (wl_D hF.2.2.2.2.2.2.2.1 M) hS p 0 hp rfl hi dg (fun H1 locs1 hP1 hD1 hS1 => ?_)
  rw [wl_set hF.2.2.2.2.2.2.2.1 hp0 hk (M' := up2 M k i.toNatClampNeg v) (by rw [ce_arr (by rw [hkd]; omega) (by rw [hkd]; omega), up2_row]) (fun a ha => ce_row (up2_other M _ _ ha))] at hP1
  exact kk H1 locs1 ls hP1 hS1 hl
theorem g_cast (hF : FK X F cc own nL d) {k : Nat} {i v : Int32} (hk : k ∈ xcs X) (hkd : kd k = 21) (hi : vp_in i (ln k)) (dg : decode cc pc = .ok (.castore, 1)) (kk : G X F (pc + 1) L st (up2 M k i.toNatClampNeg (vp_nar .char v))) : G X F pc L (.int v :: .int i :: .ref k :: st) M := by
  intro H locs ls hP hS hl
  obtain ⟨p, hp0⟩ := wl_at hk M
  have hp := hp0
  rw [ce_arr (by rw [hkd]; omega) (by rw [hkd]; omega)] at hp
  refine va_cast hF.1 hF.2.1 (hF.2.2.2.2.2.1.k1 hk (by rw [hkd]; omega) (ty := .char) (by simp [kty, hkd])) hP (wl_D hF.2.2.2.2.2.2.2.1 M) hS p 0 hp rfl hi dg (fun H1 locs1 hP1 hD1 hS1 => ?_)
  rw [wl_set hF.2.2.2.2.2.2.2.1 hp0 hk (M' := up2 M k i.toNatClampNeg (vp_nar .char v)) (by rw [ce_arr (by rw [hkd]; omega) (by rw [hkd]; omega), up2_row]) (fun a ha => ce_row (up2_other M _ _ ha))] at hP1
  exact kk H1 locs1 ls hP1 hS1 hl
theorem g_zast (hF : FK X F cc own nL d) {k : Nat} {i v : Int32} (hk : k ∈ xcs X) (hkd : kd k = 22) (hi : vp_in i (ln k)) (dg : decode cc pc = .ok (.bastore, 1)) (kk : G X F (pc + 1) L st (up2 M k i.toNatClampNeg (vp_nar .boolean v))) : G X F pc L (.int v :: .int i :: .ref k :: st) M := by
  intro H locs ls hP hS hl
  obtain ⟨p, hp0⟩ := wl_at hk M
  have hp := hp0
  rw [ce_arr (by rw [hkd]; omega) (by rw [hkd]; omega)] at hp
  refine va_zast hF.1 hF.2.1 (hF.2.2.2.2.2.1.k1 hk (by rw [hkd]; omega) (ty := .boolean) (by simp [kty, hkd])) hP (wl_D hF.2.2.2.2.2.2.2.1 M) hS p 0 hp rfl hi dg (fun H1 locs1 hP1 hD1 hS1 => ?_)
  rw [wl_set hF.2.2.2.2.2.2.2.1 hp0 hk (M' := up2 M k i.toNatClampNeg (vp_nar .boolean v)) (by rw [ce_arr (by rw [hkd]; omega) (by rw [hkd]; omega), up2_row]) (fun a ha => ce_row (up2_other M _ _ ha))] at hP1
  exact kk H1 locs1 ls hP1 hS1 hl
theorem g_aald (hF : FK X F cc own nL d) {k : Nat} {i : Int32} {C : String} (hk : k ∈ xcs X) (hkd : 23 ≤ kd k) (ht : kty k = .object C) (hi : vp_in i (ln k)) (dg : decode cc pc = .ok (.aaload, 1)) (kk : G X F (pc + 1) L (.ref (rae k i.toNatClampNeg) :: st) M) : G X F pc L (.int i :: .ref k :: st) M := by
  intro H locs ls hP hS hl
  obtain ⟨p, hp⟩ := wl_at hk M
  rw [ce_ref hkd] at hp
  exact va_aldq hF.1 hF.2.1 (hF.2.2.2.2.2.1.k1 hk (by omega) ht) hP p 0 hp rfl hi dg (kk H locs ls hP hS hl)
theorem g_alen (hF : FK X F cc own nL d) {k : Nat} {v : Int32} (hk : k ∈ xcs X) (hkd : 20 ≤ kd k) (hv : Int32.ofNat (ln k) = v) (dg : decode cc pc = .ok (.arraylength, 1)) (kk : G X F (pc + 1) L (.int v :: st) M) : G X F pc L (.ref k :: st) M := by
  intro H locs ls hP hS hl
  obtain ⟨p, hp⟩ := wl_at hk M
  by_cases h2 : kd k < 23
  · rw [ce_arr hkd h2] at hp
    exact va_alen hF.1 hF.2.1 (hF.2.2.2.2.2.1.k1 hk hkd rfl) hP p 0 hp rfl hv dg (kk H locs ls hP hS hl)
  · rw [ce_ref (Nat.not_lt.mp h2)] at hp
    exact va_alen hF.1 hF.2.1 (hF.2.2.2.2.2.1.k1 hk hkd rfl) hP p 0 hp rfl hv dg (kk H locs ls hP hS hl)
end GR
end
section
/-! Contracts, calls, ends, copies, constants. -/
def rmD (d : Nat) : Room := { frames := d, cells := 0, slots := 0, locals := 40 * d }
def Qct (X : Cx) (o : Option Value) (M' : Mem) : Array Value → State → Outcome → State → Prop := fun _ st oc t => oc = .returned (o.map (cv X)) ∧ Inv X M' t ∧ va_F (xA X) st t
/-- a contract: with these arguments, over this memory, the method answers o and leaves that memory -/
def Ctr (X : Cx) (l : Launch) (y : MethodName) (cb : ByteArray) (mL : Nat) (ret : Option FieldType) (d : Nat) (as : List Value) (M : Mem) (o : Option Value) (M' : Mem) : Prop :=
  Met l y (Cond.code y cb mL ret :: tb) (rmD d) (va_Pc (as.map (cv X)) (Inv X M)) (Qct X o M') 0 0 (xA X)
def ent : List Value → List (Option Value)
  | [] => []
  | v :: vs => if v.category = 2 then some v :: none :: ent vs else some v :: ent vs
theorem lz_none (X : Cx) : ∀ (n i : Nat), lz X i (List.replicate n none) = []
  | 0, _ => rfl
  | n + 1, i => by rw [List.replicate_succ, lz]; exact lz_none X n (i + 1)
theorem lz_ent (X : Cx) (n : Nat) : ∀ (as : List Value) (i : Nat), lz X i (ent as ++ List.replicate n none) = lv_args i (as.map (cv X))
  | [], i => by simpa [ent, lv_args] using lz_none X n i
  | v :: vs, i => by
    rw [ent, List.map_cons, lv_args, cv_cat]
    by_cases h : v.category = 2
    · rw [if_pos h, if_pos h, List.cons_append, List.cons_append, lz, lz, lz_ent X n vs]
    · rw [if_neg h, if_neg h, List.cons_append, lz, lz_ent X n vs]
theorem ent_len (X : Cx) : ∀ (as : List Value), (lg_sl (as.map (cv X))).length = (ent as).length
  | [] => rfl
  | v :: vs => by
    have ih := ent_len X vs
    unfold lg_sl at ih ⊢
    rw [List.map_cons, List.flatMap_cons, List.length_append, ih, ent, cv_cat]
    by_cases h : v.category = 2
    · simp [h]; omega
    · simp [h]; omega
def FR (X : Cx) (F : Fx) (ret : Option FieldType) (o : Option Value) (M' : Mem) : Prop := (fT F).sig.returnType = ret ∧ fQ F = MQ (fB F) (Qct X o M') (fA F) (fS F) (fc F) (fs F) (xA X)
theorem Ctr.ofG {X : Cx} {l : Launch} {y : MethodName} {cb : ByteArray} {mL : Nat} {ret : Option FieldType} {d : Nat} {as : List Value} {M : Mem} {o : Option Value} {M' : Mem} {L : List (Option Value)} (hX : CxOk X) (hy : plainName y.cls = true) (hlen : (ent as).length ≤ mL) (hL : ent as ++ List.replicate (mL - (ent as).length) none = L)
    (body : ∀ F : Fx, FK X F cb y.cls mL d → fL F = l → FR X F ret o M' → G X F 0 L [] M) : Ctr X l y cb mL ret d as M o M' := by
  refine Met.ofW (cc := cb) (maxL := mL) (ret := ret) hy rfl ?_
  intro p e s m args below meth c s₁ B hml hv
  obtain ⟨rfl, hP, hK, hSt⟩ := hv
  have hts := atoms_spec (ws := Cond.code y cb mL ret :: tb) B.pre
  have hl := lv_entry (as.map (cv X)) (n := mL) (by rw [ent_len]; exact hlen)
  have hLl : L.length = mL := by rw [← hL]; simp; omega
  have hlv : lvR X ((lg_sl (as.map (cv X)) ++ List.replicate (mL - (lg_sl (as.map (cv X))).length) Slot.unset).toArray) L := by
    unfold lvR
    rw [hLl, ← hL, lz_ent]
    exact hl
  rw [lg_entry_eq]
  exact body (p, l, e, rmD d, s, m, (as.map (cv X)).toArray, below, meth, c, MQ below (Qct X o M') (as.map (cv X)).toArray s 0 0 (xA X), 0, 0) ⟨B.exec, B.bytes, hml, findClass_of_methodNamed B.named, fun w hw => hts w (List.mem_cons_of_mem _ hw), hK, hSt, hX, Nat.le_refl _, Nat.le_refl _, Nat.zero_le _, Nat.zero_le _, B.notSynchronized⟩ rfl ⟨B.returns, rfl⟩ s.heap [] _ hP va_S.rf hlv
section GC
variable {X : Cx} {F : Fx} {cc : ByteArray} {own : String} {nL d pc : Nat} {L : List (Option Value)} {st st0 : List Value} {M M' : Mem}
theorem FK.inv (hF : FK X F cc own nL d) {H : Heap} {locs : List Loc} (hP : va_P (xD X) classes (wl X M) H) (hS : va_S (xA X) (fS F).heap H locs) {U : State} (hU : U.heap = H) (hW : (fS F).WarmedH U.vm) : Inv X M U := ⟨by rw [hU]; exact hP, KX.moved hW.alike hF.2.2.2.2.2.1, St.move hW hS hU hF.2.2.2.2.2.2.1⟩
theorem g_iret (hF : FK X F cc own nL d) {v : Int32} (hR : FR X F (some .int) (some (.int v)) M) (dg : decode cc pc = .ok (.ireturn, 1)) : G X F pc L [.int v] M := by
  intro H locs ls hP hS hl
  unfold fW
  rw [hR.2]
  exact W.iret hF.1 hF.2.1 hR.1 (fun t ht hW => ⟨rfl, hF.inv hP hS ht hW, hS.F ht⟩) hS.2.2 dg (hlocks := hF.2.2.2.2.2.2.2.2.2.2.2.2)
theorem g_zret (hF : FK X F cc own nL d) {v : Int32} {ty : FieldType} (hR : FR X F (some ty) (some (.int v)) M) (hn : narrow ty (.int v) = .int v) (dg : decode cc pc = .ok (.ireturn, 1)) : G X F pc L [.int v] M := by
  intro H locs ls hP hS hl
  unfold fW
  rw [hR.2]
  exact W.zret hF.1 hF.2.1 hR.1 hn (fun t ht hW => ⟨rfl, hF.inv hP hS ht hW, hS.F ht⟩) hS.2.2 dg (hlocks := hF.2.2.2.2.2.2.2.2.2.2.2.2)
theorem g_lret (hF : FK X F cc own nL d) {v : Int64} (hR : FR X F (some .long) (some (.long v)) M) (dg : decode cc pc = .ok (.lreturn, 1)) : G X F pc L [.long v] M := by
  intro H locs ls hP hS hl
  unfold fW
  rw [hR.2]
  exact W.lret hF.1 hF.2.1 hR.1 (fun t ht hW => ⟨rfl, hF.inv hP hS ht hW, hS.F ht⟩) hS.2.2 dg (hlocks := hF.2.2.2.2.2.2.2.2.2.2.2.2)
theorem g_vret (hF : FK X F cc own nL d) (hR : FR X F none none M) (dg : decode cc pc = .ok (.return_, 1)) : G X F pc L [] M := by
  intro H locs ls hP hS hl
  unfold fW
  rw [hR.2]
  exact W.vret hF.1 hF.2.1 hR.1 (fun t ht hW => ⟨rfl, hF.inv hP hS ht hW, hS.F ht⟩) hS.2.2 dg (hlocks := hF.2.2.2.2.2.2.2.2.2.2.2.2)
theorem g_aret (hF : FK X F cc own nL d) {v : Value} {n : String} (hv : v = .null ∨ ∃ a, v = .ref a) (hR : FR X F (some (.object n)) (some v) M) (dg : decode cc pc = .ok (.areturn, 1)) : G X F pc L [v] M := by
  intro H locs ls hP hS hl
  unfold fW
  rw [hR.2]
  have hv' : cv X v = .null ∨ ∃ a, cv X v = .ref a := by
    rcases hv with rfl | ⟨a, rfl⟩
    · exact Or.inl rfl
    · exact Or.inr ⟨_, rfl⟩
  exact W.aret (v := cv X v) hF.1 hF.2.1 hR.1 (Or.inl ⟨n, rfl⟩) hv' (fun t ht hW => ⟨rfl, hF.inv hP hS ht hW, hS.F ht⟩) hS.2.2 dg (hlocks := hF.2.2.2.2.2.2.2.2.2.2.2.2)
/-- behind a call -/
theorem g_run {a : Array Value} {o : Option Value} (hr : ∀ (H : Heap) (locs : List Loc) (ls : Array Slot), va_P (xD X) classes (wl X M) H → va_S (xA X) (fS F).heap H locs → lvR X ls L → va_Run (fP F) (fL F) (fE F) (fR F) (fS F) (fM F) (fA F) (fB F) (fT F) (fC F) H locs (fc F) (fs F) 0 0 (F0 (fM F) pc ls (st0.map (cv X))) (st.map (cv X)) (Qct X o M' a) (xA X)) (kk : G X F (pc + 3) L (o.toList ++ st) M') : G X F pc L st0 M := by
  intro H locs ls hP hS hl T hT XT
  obtain ⟨v, s0, t, T', L', h0, X', hL, e1, e2, ⟨hv, hI, hz, hk⟩, stp⟩ := hr H locs ls hP hS hl T hT XT
  have hv' : v = o.map (cv X) := by injection hv
  subst hv'
  rw [h0] at hz hk
  have hS' : va_S (xA X) (fS F).heap T'.heap (locs ++ L') := ⟨Nat.le_trans hS.1 (by rw [e1]; exact hz), fun q h1 h2 => by rw [e1, hk q (Nat.lt_of_lt_of_le h1 hS.1) h2]; exact hS.2.1 q h1 h2, fun q hq => by
    rcases List.mem_append.mp hq with h | h
    · exact hS.2.2 q h
    · exact hL q h⟩
  obtain ⟨t2, a1, b1⟩ := kk T'.heap (locs ++ L') ls (by rw [e1]; exact hI.1) hS' hl T' rfl X'
  refine ⟨t2, stp t2 ?_, b1⟩
  have he : (o.toList ++ st).map (cv X) = (o.map (cv X)).toList ++ st.map (cv X) := by cases o <;> simp
  rw [he] at a1
  exact a1
theorem tb_gi {ws : List Cond} {w4 : Cond} (h : ∀ w ∈ ws, w ∈ tb) (h4 : w4 ∈ tb) : GoodIn tb (ws ++ (w4 :: tb)) := by
  intro w hw
  have hm : w ∈ tb := by
    rcases List.mem_append.mp hw with h1 | h1
    · exact h w h1
    · rcases List.mem_cons.mp h1 with rfl | h1
      · exact h4
      · exact h1
  exact ⟨hm, tb_good hm⟩
theorem cat_sum (X : Cx) (st : List Value) : ((st.map (cv X)).map fun v => v.category).sum = (st.map fun v => v.category).sum := by
  rw [List.map_map]
  congr 1
  apply List.map_congr_left
  intro v _
  exact cv_cat X v
theorem room_le (hF : FK X F cc own nL d) {d' mL : Nat} (hd : d' + 1 ≤ d) (hm : mL ≤ 21) : (rmD d').frames + 1 ≤ (fR F).frames ∧ 8 + (mL + 11) + (rmD d').locals ≤ (fR F).locals := by
  have h1 := hF.2.2.2.2.2.2.2.2.1
  have h2 := hF.2.2.2.2.2.2.2.2.2.1
  show d' + 1 ≤ _ ∧ 8 + (mL + 11) + 40 * d' ≤ _
  omega
theorem g_callV (hF : FK X F cc own nL d) {y : MethodName} {cb : ByteArray} {mL : Nat} {ret : Option FieldType} {d' : Nat} {as : List Value} {o : Option Value} {C : String} {T : u_T} {N ci index n k : Nat} (hc : classes[ci]? = some (C, T, N)) (hci : ci < 20) (w1 : Cond.methodLink own index y ∈ tb) (w2 : Cond.instanceMethod y ∈ tb) (w3 : Cond.selects C y y ∈ tb) (w4 : Cond.code y cb mL ret ∈ tb) (w5 : Cond.initialized C ∈ tb) (hy : y.cls = C ∧ y.cls ≠ "java/lang/invoke/MethodHandle" ∧ y.cls ≠ "java/lang/invoke/VarHandle" ∧ (parseMethodDescriptor y.desc).map (fun d => d.parameters.length) = some n) (hm : mL ≤ 21) (hk : k ∈ xcs X) (hkd : kd k = ci) (hM : Ctr X (fL F) y cb mL ret d' (.ref k :: as) M o M') (hd : d' + 1 ≤ d) (hn : as.length = n) (hs : st0 = as.reverse ++ .ref k :: st) (hLn : L.length = nL) (hrm : Nat.ble ((st.map fun v => v.category).sum) 8 = true) (dg : decode cc pc = .ok (.invokevirtual index, 3)) (kk : G X F (pc + 3) L (o.toList ++ st) M') : G X F pc L st0 M := by
  refine g_run (a := (Value.ref (xad X k) :: as.map (cv X)).toArray) (fun H locs ls hP hS hl => ?_) kk
  obtain ⟨p, hp⟩ := wl_at hk M
  rw [ce_obj hkd hci] at hp
  refine va_runV (As := as.map (cv X)) (C := C) (b := xad X k) (nL := nL) (cc := cc) (Ts := tb) (own := own) ⟨hF.1, hF.2.1, hF.2.2.1, hF.2.2.2.1, hF.2.2.2.2.1⟩ hM (cwV n hF.2.2.2.2.1 (tb_gi (ws := [.methodLink own index y, .instanceMethod y, .selects C y y, .initialized C]) (fun w hw => by
    simp only [List.mem_cons, List.not_mem_nil, or_false] at hw
    rcases hw with rfl | rfl | rfl | rfl <;> assumption) w4) rfl rfl rfl hy (room_le hF hd hm)) ⟨Inv.blind, ?_, fun U hU hW => ⟨rfl, hF.inv hP hS hU hW⟩⟩ rfl (by rw [List.length_map]; exact hn) (by show ls.size = nL; rw [hl.1]; exact hLn) (by subst hs; simp [cv, F0]) (lv_room (by rw [cat_sum]; exact Nat.le_of_ble_eq_true hrm)) dg ⟨hF.2.2.2.2.2.2.2.2.2.2.1, hF.2.2.2.2.2.2.2.2.2.2.2.1⟩
  exact va_recv hF.2.2.2.2.2.1.k0 hP hc hp
theorem g_callS (hF : FK X F cc own nL d) {y : MethodName} {cb : ByteArray} {mL : Nat} {ret : Option FieldType} {d' : Nat} {as : List Value} {o : Option Value} {index n : Nat} (w1 : Cond.methodLink own index y ∈ tb) (w2 : Cond.static y ∈ tb) (w4 : Cond.code y cb mL ret ∈ tb) (w5 : Cond.initialized y.cls ∈ tb) (hy : y.cls ≠ "java/lang/invoke/MethodHandle" ∧ y.cls ≠ "java/lang/invoke/VarHandle" ∧ (parseMethodDescriptor y.desc).map (fun d => d.parameters.length) = some n) (hm : mL ≤ 21) (hM : Ctr X (fL F) y cb mL ret d' as M o M') (hd : d' + 1 ≤ d) (hn : as.length = n) (hs : st0 = as.reverse ++ st) (hLn : L.length = nL) (hrm : Nat.ble ((st.map fun v => v.category).sum) 8 = true) (dg : decode cc pc = .ok (.invokestatic index, 3)) (kk : G X F (pc + 3) L (o.toList ++ st) M') : G X F pc L st0 M := by
  refine g_run (a := (as.map (cv X)).toArray) (fun H locs ls hP hS hl => ?_) kk
  exact va_runS (As := as.map (cv X)) (nL := nL) (cc := cc) (Ts := tb) (own := own) ⟨hF.1, hF.2.1, hF.2.2.1, hF.2.2.2.1, hF.2.2.2.2.1⟩ hM (va_cwS n hF.2.2.2.2.1 (tb_gi (ws := [.methodLink own index y, .static y, .initialized y.cls]) (fun w hw => by
    simp only [List.mem_cons, List.not_mem_nil, or_false] at hw
    rcases hw with rfl | rfl | rfl <;> assumption) w4) rfl rfl rfl hy (room_le hF hd hm)) ⟨Inv.blind, fun U hU hW => ⟨rfl, hF.inv hP hS hU hW⟩⟩ rfl (by rw [List.length_map]; exact hn) (by show ls.size = nL; rw [hl.1]; exact hLn) (by subst hs; simp [F0]) (lv_room (by rw [cat_sum]; exact Nat.le_of_ble_eq_true hrm)) dg ⟨hF.2.2.2.2.2.2.2.2.2.2.1, hF.2.2.2.2.2.2.2.2.2.2.2.1⟩
theorem g_callSN (hF : FK X F cc own nL d) {y : MethodName} {cb : ByteArray} {mL : Nat} {ret : Option FieldType} {d' : Nat} {as : List Value} {o : Option Value} {index n : Nat} {host : String} (w1 : va_Nw (.methodLinkNest own index y host) (fS F)) (w2 : Cond.static y ∈ tb) (w4 : Cond.code y cb mL ret ∈ tb) (w5 : Cond.initialized y.cls ∈ tb) (hy : y.cls ≠ "java/lang/invoke/MethodHandle" ∧ y.cls ≠ "java/lang/invoke/VarHandle" ∧ (parseMethodDescriptor y.desc).map (fun d => d.parameters.length) = some n) (hm : mL ≤ 21) (hM : Ctr X (fL F) y cb mL ret d' as M o M') (hd : d' + 1 ≤ d) (hn : as.length = n) (hs : st0 = as.reverse ++ st) (hLn : L.length = nL) (hrm : Nat.ble ((st.map fun v => v.category).sum) 8 = true) (dg : decode cc pc = .ok (.invokestatic index, 3)) (kk : G X F (pc + 3) L (o.toList ++ st) M') : G X F pc L st0 M := by
  refine g_run (a := (as.map (cv X)).toArray) (fun H locs ls hP hS hl => ?_) kk
  exact va_runSN (As := as.map (cv X)) (nL := nL) (cc := cc) (Ts := tb) (own := own) (host := host) ⟨hF.1, hF.2.1, hF.2.2.1, hF.2.2.2.1, hF.2.2.2.2.1⟩ hM ⟨va_cnB n hF.2.2.2.2.1 (tb_gi (ws := []) (fun w hw => by cases hw) w4) rfl rfl rfl w1 (hF.2.2.2.2.1 _ w5) hy (room_le hF hd hm), hF.2.2.2.2.1 _ w2, trivial⟩ ⟨Inv.blind, fun U hU hW => ⟨rfl, hF.inv hP hS hU hW⟩⟩ rfl (by rw [List.length_map]; exact hn) (by show ls.size = nL; rw [hl.1]; exact hLn) (by subst hs; simp [F0]) (lv_room (by rw [cat_sum]; exact Nat.le_of_ble_eq_true hrm)) dg ⟨hF.2.2.2.2.2.2.2.2.2.2.1, hF.2.2.2.2.2.2.2.2.2.2.2.1⟩
end GC
end
section
/-! Copies, Math, what is constant. -/
def cp2 (M : Mem) (k0 k1 n : Nat) : Mem := fun a b => if a = k1 ∧ b < n then M k0 b else M a b
theorem cp2_row (M : Mem) (k0 k1 n : Nat) : (cp2 M k0 k1 n) k1 = va_cpy (M k0) (M k1) 0 0 n := by
  funext b
  by_cases h : b < n <;> simp [cp2, va_cpy, h]
theorem cp2_other (M : Mem) {k0 k1 a : Nat} (n : Nat) (h : a ≠ k1) : (cp2 M k0 k1 n) a = M a := by
  funext b
  simp [cp2, h]
section GM
variable {X : Cx} {F : Fx} {cc : ByteArray} {own : String} {nL d pc : Nat} {L : List (Option Value)} {st st0 : List Value} {M M' : Mem}
theorem g_copy (hF : FK X F cc own nL d) {k0 k1 index : Nat} {n : Int32} (w1 : Cond.methodLink own index arraycopyName ∈ tb) (w2 : Cond.native arraycopyName ∈ tb) (w3 : Cond.static arraycopyName ∈ tb) (w5 : Cond.initialized "java/lang/System" ∈ tb) (hk0 : k0 ∈ xcs X) (hd0 : kd k0 = 20) (hk1 : k1 ∈ xcs X) (hd1 : kd k1 = 20) (h3 : ¬ n < 0) (h4 : n.toNatClampNeg ≤ ln k0) (h5 : n.toNatClampNeg ≤ ln k1) (hd : 1 ≤ d) (hLn : L.length = nL) (hrm : Nat.ble ((st.map fun v => v.category).sum) 8 = true) (dg : decode cc pc = .ok (.invokestatic index, 3)) (kk : G X F (pc + 3) L st (cp2 M k0 k1 n.toNatClampNeg)) : G X F pc L (.int n :: .int 0 :: .ref k1 :: .int 0 :: .ref k0 :: st) M := by
  intro H locs ls hP hS hl
  obtain ⟨p0, hp0⟩ := wl_at hk0 M
  obtain ⟨p1, hp1⟩ := wl_at hk1 M
  have hp1' := hp1
  rw [ce_arr (by rw [hd0]; omega) (by rw [hd0]; omega)] at hp0
  rw [ce_arr (by rw [hd1]; omega) (by rw [hd1]; omega)] at hp1
  have hr1 := hF.2.2.2.2.2.2.2.2.1
  have hr2 := hF.2.2.2.2.2.2.2.2.2.1
  have hts := hF.2.2.2.2.1
  have h00 : (0 : Int32).toNatClampNeg = 0 := rfl
  refine va_copyi hF.1 hF.2.1 (by rw [hF.2.2.1, hl.1]; exact hLn.symm) hF.2.2.2.1 (hts _ w1) (hts _ w2) (hts _ w3) (hts _ w5) (hF.2.2.2.2.2.1.k2 hk0 (by rw [hd0]; omega) hk1 (by rw [hd1]; omega) (ty := .int) (by simp [kty, hd0]) (by simp [kty, hd1])) hP (wl_D hF.2.2.2.2.2.2.2.1 M) hS p0 p1 0 1 hp0 hp1 rfl rfl rfl (by decide) (by decide) h3 (by rw [h00]; omega) (by rw [h00]; omega) (fun i _ => rfl) (by omega) ?_ dg (fun H1 locs1 hP1 hD1 hS1 => ?_)
  · rw [cat_sum]
    have h8 := Nat.le_of_ble_eq_true hrm
    have h9 : nativeFrameWords "java/lang/System" "arraycopy" 5 + 11 ≤ 32 := by decide +kernel
    omega
  · rw [h00, wl_set hF.2.2.2.2.2.2.2.1 hp1' hk1 (M' := cp2 M k0 k1 n.toNatClampNeg) (by rw [ce_arr (by rw [hd1]; omega) (by rw [hd1]; omega), cp2_row]) (fun a ha => ce_row (cp2_other M _ ha))] at hP1
    exact kk H1 locs1 ls hP1 hS1 hl
theorem g_mmax (hF : FK X F cc own nL d) {index : Nat} {x y : Int32} (w1 : Cond.methodLink own index Lib.Math.max.name ∈ tb) (w2 : Cond.static Lib.Math.max.name ∈ tb) (w5 : Cond.initialized "java/lang/Math" ∈ tb) (w4 : Cond.code Lib.Math.max.name Lib.Math.max.code 2 (some .int) ∈ tb) (hd : 1 ≤ d) (hLn : L.length = nL) (hrm : Nat.ble ((st.map fun v => v.category).sum) 8 = true) (dg : decode cc pc = .ok (.invokestatic index, 3)) (kk : G X F (pc + 3) L (.int (if x < y then y else x) :: st) M) : G X F pc L (.int y :: .int x :: st) M := by
  intro H locs ls hP hS hl
  have hr1 := hF.2.2.2.2.2.2.2.2.1
  have hr2 := hF.2.2.2.2.2.2.2.2.2.1
  have hts := hF.2.2.2.2.1
  have h8 := Nat.le_of_ble_eq_true hrm
  exact va_mmax hF.1 hF.2.1 (by rw [hF.2.2.1, hl.1]; exact hLn.symm) hF.2.2.2.1 (hts _ w1) (hts _ w2) (hts _ w5) (hts _ w4) (by omega) (by rw [cat_sum]; omega) hF.2.2.2.2.2.2.2.2.2.2.1 hF.2.2.2.2.2.2.2.2.2.2.2.1 dg (kk H locs ls hP hS hl)
theorem g_mmin (hF : FK X F cc own nL d) {index : Nat} {x y : Int32} (w1 : Cond.methodLink own index Lib.Math.min.name ∈ tb) (w2 : Cond.static Lib.Math.min.name ∈ tb) (w5 : Cond.initialized "java/lang/Math" ∈ tb) (w4 : Cond.code Lib.Math.min.name Lib.Math.min.code 2 (some .int) ∈ tb) (hd : 1 ≤ d) (hLn : L.length = nL) (hrm : Nat.ble ((st.map fun v => v.category).sum) 8 = true) (dg : decode cc pc = .ok (.invokestatic index, 3)) (kk : G X F (pc + 3) L (.int (if y < x then y else x) :: st) M) : G X F pc L (.int y :: .int x :: st) M := by
  intro H locs ls hP hS hl
  have hr1 := hF.2.2.2.2.2.2.2.2.1
  have hr2 := hF.2.2.2.2.2.2.2.2.2.1
  have hts := hF.2.2.2.2.1
  have h8 := Nat.le_of_ble_eq_true hrm
  exact va_mmin hF.1 hF.2.1 (by rw [hF.2.2.1, hl.1]; exact hLn.symm) hF.2.2.2.1 (hts _ w1) (hts _ w2) (hts _ w5) (hts _ w4) (by omega) (by rw [cat_sum]; omega) hF.2.2.2.2.2.2.2.2.2.2.1 hF.2.2.2.2.2.2.2.2.2.2.2.1 dg (kk H locs ls hP hS hl)
/-- a table of the class's own (cell 1060 + i) -/
theorem g_gett (hF : FK X F cc RX6 nL d) {index i : Nat} (hi : i < 5) (w1 : Cond.fieldLink RX6 index RX6 (tNames.getD i "") "[I" ∈ tb) (dg : decode cc pc = .ok (.getstatic index, 3)) (kk : G X F (pc + 3) L (.ref (1060 + i) :: st) M) : G X F pc L st M := fun H locs ls hP hS hl =>
  va_gets hF.1 hF.2.1 (hF.2.2.2.2.2.2.1.2.1 i hi).1 hS hF.2.2.2.1 (hF.2.2.2.2.1 _ w1) (fun _ h => h) dg (kk H locs ls hP hS hl)
theorem g_gettN (hF : FK X F cc RX4 nL d) {index i : Nat} (hi : i < 5) (w1 : va_Nw (.fieldLinkNest RX4 index RX6 (tNames.getD i "") "[I" RX6) (fS F)) (dg : decode cc pc = .ok (.getstatic index, 3)) (kk : G X F (pc + 3) L (.ref (1060 + i) :: st) M) : G X F pc L st M := fun H locs ls hP hS hl =>
  va_getsN hF.1 hF.2.1 (hF.2.2.2.2.2.2.1.2.1 i hi).1 hS hF.2.2.2.1 (va_Nw.use rfl w1) (fun _ h => h) dg (kk H locs ls hP hS hl)
theorem g_ti (hF : FK X F cc own nL d) {i : Nat} {j : Int32} (hi : i < 5) (hj : vp_in j (tN i)) (dg : decode cc pc = .ok (.iaload, 1)) (kk : G X F (pc + 1) L (.int (tV i j.toNatClampNeg) :: st) M) : G X F pc L (.int j :: .ref (1060 + i) :: st) M := fun H locs ls hP hS hl =>
  va_ti hF.1 hF.2.1 (hF.2.2.2.2.2.2.1.2.1 i hi).2 hS hj rfl dg (kk H locs ls hP hS hl)
theorem g_tlen (hF : FK X F cc own nL d) {i : Nat} {v : Int32} (hi : i < 5) (hv : Int32.ofNat (tN i) = v) (dg : decode cc pc = .ok (.arraylength, 1)) (kk : G X F (pc + 1) L (.int v :: st) M) : G X F pc L (.ref (1060 + i) :: st) M := fun H locs ls hP hS hl =>
  va_tlen hF.1 hF.2.1 (hF.2.2.2.2.2.2.1.2.1 i hi).2 hS hv dg (kk H locs ls hP hS hl)
/-- a clause's fields (cell 1000 + i), a text's (1020 + i), its letters (1040 + i) -/
theorem g_cword (hF : FK X F cc own nL d) {index i : Nat} (hi : i < 13) (w1 : Cond.fieldLink own index RX0 "word" "Ljava/lang/String;" ∈ tb) (dg : decode cc pc = .ok (.getfield index, 3)) (kk : G X F (pc + 3) L (.ref (1020 + i) :: st) M) : G X F pc L (.ref (1000 + i) :: st) M := fun H locs ls hP hS hl =>
  vk_getf hF.1 hF.2.1 (hF.2.2.2.2.2.2.1.1 i hi).2.1 hS hF.2.2.2.1 (hF.2.2.2.2.1 _ w1) (fun _ h => h) dg (kk H locs ls hP hS hl)
theorem g_cdeed (hF : FK X F cc own nL d) {index i : Nat} (hi : i < 13) (w1 : Cond.fieldLink own index RX0 "deed" "I" ∈ tb) (dg : decode cc pc = .ok (.getfield index, 3)) (kk : G X F (pc + 3) L (.int (cDeeds.getD i 0) :: st) M) : G X F pc L (.ref (1000 + i) :: st) M := fun H locs ls hP hS hl =>
  vk_getf hF.1 hF.2.1 (hF.2.2.2.2.2.2.1.1 i hi).2.2.1 hS hF.2.2.2.1 (hF.2.2.2.2.1 _ w1) (fun _ h => h) dg (kk H locs ls hP hS hl)
theorem g_ckind (hF : FK X F cc own nL d) {index i : Nat} (hi : i < 13) (w1 : Cond.fieldLink own index RX0 "kind" "I" ∈ tb) (dg : decode cc pc = .ok (.getfield index, 3)) (kk : G X F (pc + 3) L (.int (cKinds.getD i 0) :: st) M) : G X F pc L (.ref (1000 + i) :: st) M := fun H locs ls hP hS hl =>
  vk_getf hF.1 hF.2.1 (hF.2.2.2.2.2.2.1.1 i hi).2.2.2.1 hS hF.2.2.2.1 (hF.2.2.2.2.1 _ w1) (fun _ h => h) dg (kk H locs ls hP hS hl)
theorem g_scoder (hF : FK X F cc own nL d) {index i : Nat} (hi : i < 13) (w1 : Cond.fieldLink own index "java/lang/String" "coder" "B" ∈ tb) (dg : decode cc pc = .ok (.getfield index, 3)) (kk : G X F (pc + 3) L (.int 0 :: st) M) : G X F pc L (.ref (1020 + i) :: st) M := fun H locs ls hP hS hl =>
  vk_getf hF.1 hF.2.1 (hF.2.2.2.2.2.2.1.1 i hi).2.2.2.2.2.1 hS hF.2.2.2.1 (hF.2.2.2.2.1 _ w1) (fun _ h => h) dg (kk H locs ls hP hS hl)
theorem g_svalue (hF : FK X F cc own nL d) {index i : Nat} (hi : i < 13) (w1 : Cond.fieldLink own index "java/lang/String" "value" "[B" ∈ tb) (dg : decode cc pc = .ok (.getfield index, 3)) (kk : G X F (pc + 3) L (.ref (1040 + i) :: st) M) : G X F pc L (.ref (1020 + i) :: st) M := fun H locs ls hP hS hl =>
  vk_getf hF.1 hF.2.1 (hF.2.2.2.2.2.2.1.1 i hi).2.2.2.2.2.2.1 hS hF.2.2.2.1 (hF.2.2.2.2.1 _ w1) (fun _ h => h) dg (kk H locs ls hP hS hl)
theorem g_sbyte (hF : FK X F cc own nL d) {i : Nat} {j : Int32} (hi : i < 13) (hj : vp_in j (cN i)) (dg : decode cc pc = .ok (.baload, 1)) (kk : G X F (pc + 1) L (.int (cB i j.toNatClampNeg) :: st) M) : G X F pc L (.int j :: .ref (1040 + i) :: st) M := fun H locs ls hP hS hl =>
  va_tb hF.1 hF.2.1 (hF.2.2.2.2.2.2.1.1 i hi).2.2.2.2.2.2.2 hS hj rfl dg (kk H locs ls hP hS hl)
theorem g_slen (hF : FK X F cc own nL d) {i : Nat} {v : Int32} (hi : i < 13) (hv : Int32.ofNat (cN i) = v) (dg : decode cc pc = .ok (.arraylength, 1)) (kk : G X F (pc + 1) L (.int v :: st) M) : G X F pc L (.ref (1040 + i) :: st) M := fun H locs ls hP hS hl =>
  va_tlen hF.1 hF.2.1 (hF.2.2.2.2.2.2.1.1 i hi).2.2.2.2.2.2.2 hS hv dg (kk H locs ls hP hS hl)
theorem g_scs (hF : FK X F cc own nL d) {index : Nat} (w1 : Cond.fieldLink own index "java/lang/String" "COMPACT_STRINGS" "Z" ∈ tb) (dg : decode cc pc = .ok (.getstatic index, 3)) (kk : G X F (pc + 3) L (.int 1 :: st) M) : G X F pc L st M := fun H locs ls hP hS hl =>
  va_gets hF.1 hF.2.1 hF.2.2.2.2.2.2.1.2.2.1.1 hS hF.2.2.2.1 (hF.2.2.2.2.1 _ w1) (fun _ h => h) dg (kk H locs ls hP hS hl)
theorem g_sfm (hF : FK X F cc own nL d) {index : Nat} (w1 : Cond.fieldLink own index "jdk/internal/util/Preconditions" "SIOOBE_FORMATTER" "Ljava/util/function/BiFunction;" ∈ tb) (dg : decode cc pc = .ok (.getstatic index, 3)) (kk : G X F (pc + 3) L (.null :: st) M) (kr : G X F (pc + 3) L (.ref 1099 :: st) M) : G X F pc L st M := fun H locs ls hP hS hl => by
  rcases hF.2.2.2.2.2.2.1.2.2.1.2 with h | h
  · exact va_gets hF.1 hF.2.1 h hS hF.2.2.2.1 (hF.2.2.2.2.1 _ w1) (fun _ h => h) dg (kk H locs ls hP hS hl)
  · exact va_gets hF.1 hF.2.1 h hS hF.2.2.2.1 (hF.2.2.2.2.1 _ w1) (fun _ h => h) dg (kr H locs ls hP hS hl)
/-- a call on a text -/
theorem g_callVS (hF : FK X F cc own nL d) {y : MethodName} {cb : ByteArray} {mL : Nat} {ret : Option FieldType} {d' : Nat} {as : List Value} {o : Option Value} {index n i : Nat} (hi : i < 13) (w1 : Cond.methodLink own index y ∈ tb) (w2 : Cond.instanceMethod y ∈ tb) (w3 : Cond.selects "java/lang/String" y y ∈ tb) (w4 : Cond.code y cb mL ret ∈ tb) (w5 : Cond.initialized "java/lang/String" ∈ tb) (hy : y.cls = "java/lang/String" ∧ y.cls ≠ "java/lang/invoke/MethodHandle" ∧ y.cls ≠ "java/lang/invoke/VarHandle" ∧ (parseMethodDescriptor y.desc).map (fun d => d.parameters.length) = some n) (hm : mL ≤ 21) (hM : Ctr X (fL F) y cb mL ret d' (.ref (1020 + i) :: as) M o M') (hd : d' + 1 ≤ d) (hn : as.length = n) (hs : st0 = as.reverse ++ .ref (1020 + i) :: st) (hLn : L.length = nL) (hrm : Nat.ble ((st.map fun v => v.category).sum) 8 = true) (dg : decode cc pc = .ok (.invokevirtual index, 3)) (kk : G X F (pc + 3) L (o.toList ++ st) M') : G X F pc L st0 M := by
  refine g_run (a := (Value.ref (xad X (1020 + i)) :: as.map (cv X)).toArray) (fun H locs ls hP hS hl => ?_) kk
  refine va_runV (As := as.map (cv X)) (C := "java/lang/String") (b := xad X (1020 + i)) (nL := nL) (cc := cc) (Ts := tb) (own := own) ⟨hF.1, hF.2.1, hF.2.2.1, hF.2.2.2.1, hF.2.2.2.2.1⟩ hM (cwV n hF.2.2.2.2.1 (tb_gi (ws := [.methodLink own index y, .instanceMethod y, .selects "java/lang/String" y y, .initialized "java/lang/String"]) (fun w hw => by
    simp only [List.mem_cons, List.not_mem_nil, or_false] at hw
    rcases hw with rfl | rfl | rfl | rfl <;> assumption) w4) rfl rfl rfl hy (room_le hF hd hm)) ⟨Inv.blind, ?_, fun U hU hW => ⟨rfl, hF.inv hP hS hU hW⟩⟩ rfl (by rw [List.length_map]; exact hn) (by show ls.size = nL; rw [hl.1]; exact hLn) (by subst hs; simp [cv, F0]) (lv_room (by rw [cat_sum]; exact Nat.le_of_ble_eq_true hrm)) dg ⟨hF.2.2.2.2.2.2.2.2.2.2.1, hF.2.2.2.2.2.2.2.2.2.2.2.1⟩
  obtain ⟨cell, h1, h2, h3, -⟩ := (hF.2.2.2.2.2.2.1.1 i hi).2.2.2.2.1.kept hS.2.1
  exact ⟨cell, h1, h2, h3⟩
end GM
end
section
/-! Helpers; the words that are used; a row for each field link; a row for each method link. -/
def inb (i : Int32) (n : Nat) : Bool := decide (0 ≤ i) && decide (i.toNatClampNeg < n)
theorem inb_in {i : Int32} {n : Nat} (h : inb i n = true) : vp_in i n := by
  unfold inb at h
  simp only [Bool.and_eq_true, decide_eq_true_eq] at h
  intro q
  rcases q with q | q
  · exact absurd q (Int32.not_lt.mpr h.1)
  · omega
theorem inb_lt {i : Int32} {n : Nat} (h : inb i n = true) : i.toNatClampNeg < n := by
  unfold inb at h
  simp only [Bool.and_eq_true, decide_eq_true_eq] at h
  exact h.2
def zok (v : Int32) : Bool := v == 0 || v == 1
theorem zok_n {v : Int32} (h : zok v = true) : narrow .boolean (.int v) = .int v := by
  unfold zok at h
  simp only [Bool.or_eq_true, beq_iff_eq] at h
  rcases h with rfl | rfl <;> rfl
theorem zok_f {v : Int32} (h : zok v = true) : fits .boolean (.int v) = true := by
  unfold zok at h
  exact h
def nz32 (v : Int32) : Bool := !(v == 0)
def nz64 (v : Int64) : Bool := !(v == 0)
theorem nz32_n {v : Int32} (h : nz32 v = true) : ¬ v = 0 := by simpa [nz32] using h
theorem nz64_n {v : Int64} (h : nz64 v = true) : ¬ v = 0 := by simpa [nz64] using h
theorem gd {α : Type} {c : Bool} {x : Option α} {y : α} (h : (if c = true then x else none) = some y) : c = true ∧ x = some y := by
  cases c
  · simp at h
  · simpa using h
theorem ite_t {α : Type} {c : Prop} [Decidable c] {a b y : α} (hc : c) (h : (if c then a else b) = y) : a = y := by rw [if_pos hc] at h; exact h
theorem ite_f {α : Type} {c : Prop} [Decidable c] {a b y : α} (hc : ¬ c) (h : (if c then a else b) = y) : b = y := by rw [if_neg hc] at h; exact h
theorem bd {α β : Type} {x : Option α} {f : α → Option β} {y : β} (h : x.bind f = some y) : ∃ a, x = some a ∧ f a = some y := by
  cases x with
  | none => cases h
  | some a => exact ⟨a, rfl, h⟩
def bS {α β : Type} (x : Option (α ⊕ β)) (f : α → Option β) : Option β := match x with
  | some (.inl a) => f a
  | some (.inr b) => some b
  | none => none
def bT {α β γ : Type} (x : Option (α ⊕ β)) (f : α → Option (γ ⊕ β)) : Option (γ ⊕ β) := match x with
  | some (.inl a) => f a
  | some (.inr b) => some (.inr b)
  | none => none
theorem bS_s {α β : Type} {x : Option (α ⊕ β)} {f : α → Option β} {y : β} (h : bS x f = some y) : ∃ q, x = some q ∧ (∀ a, q = .inl a → f a = some y) ∧ (∀ b, q = .inr b → b = y) := by
  match x, h with
  | some (.inl a), h => exact ⟨_, rfl, fun a' e => (by cases e; exact h), fun b e => (by cases e)⟩
  | some (.inr b), h => exact ⟨_, rfl, fun a' e => (by cases e), fun b' e => (by cases e; exact Option.some.inj h)⟩
theorem bT_s {α β γ : Type} {x : Option (α ⊕ β)} {f : α → Option (γ ⊕ β)} {y : γ ⊕ β} (h : bT x f = some y) : ∃ q, x = some q ∧ (∀ a, q = .inl a → f a = some y) ∧ (∀ b, q = .inr b → .inr b = y) := by
  match x, h with
  | some (.inl a), h => exact ⟨_, rfl, fun a' e => (by cases e; exact h), fun b e => (by cases e)⟩
  | some (.inr b), h => exact ⟨_, rfl, fun a' e => (by cases e), fun b' e => (by cases e; exact Option.some.inj h)⟩
/-- the evenings, the told ones, rows of whole numbers -/
def ev (k : Nat) : Prop := k ∈ ([21, 23, 29, 31, 33, 35, 37, 39, 41, 45, 47, 49, 51, 53, 55, 57, 59, 64, 66] : List Nat)
def td (k : Nat) : Prop := k ∈ ([1, 10] : List Nat)
def ar (n k : Nat) : Prop := kd k = 20 ∧ ln k = n ∧ k < 68
theorem ev_all : ∀ k ∈ ([21, 23, 29, 31, 33, 35, 37, 39, 41, 45, 47, 49, 51, 53, 55, 57, 59, 64, 66] : List Nat), kd k = 0 ∧ ln k = 10 ∧ k < 68 ∧ kd (k + 1) = 20 ∧ ln (k + 1) = 8 ∧ k + 1 < 68 := by decide +kernel
theorem td_all : ∀ k ∈ ([1, 10] : List Nat), kd k = 4 ∧ ln k = 12 ∧ k < 68 ∧ (ar 8 (k + 1) ∧ ar 8 (k + 2) ∧ ar 8 (k + 3) ∧ ar 4 (k + 4) ∧ ar 4 (k + 5) ∧ ar 4 (k + 6) ∧ ar 4 (k + 7)) := by
  intro k hk
  simp only [List.mem_cons, List.not_mem_nil, or_false] at hk
  rcases hk with rfl | rfl <;> (unfold ar; decide +kernel)
theorem ev_kd {k : Nat} (h : ev k) : kd k = 0 := (ev_all k h).1
theorem ev_ln {k : Nat} (h : ev k) : ln k = 10 := (ev_all k h).2.1
theorem ev_kz {k : Nat} (h : ev k) : kd (k + 1) = 20 := (ev_all k h).2.2.2.1
theorem ev_lz {k : Nat} (h : ev k) : ln (k + 1) = 8 := (ev_all k h).2.2.2.2.1
abbrev SC (X : Cx) : Prop := ∀ c, c < 68 → c ∈ xcs X
abbrev SM (X : Cx) : Prop := ∀ c, 70 ≤ c → c < 83 → c ∈ xcs X
theorem ev_m {X : Cx} (hS : SC X) {k : Nat} (h : ev k) : k ∈ xcs X := hS k (ev_all k h).2.2.1
theorem ev_mz {X : Cx} (hS : SC X) {k : Nat} (h : ev k) : k + 1 ∈ xcs X := hS (k + 1) (ev_all k h).2.2.2.2.2
theorem td_kd {k : Nat} (h : td k) : kd k = 4 := (td_all k h).1
theorem td_ln {k : Nat} (h : td k) : ln k = 12 := (td_all k h).2.1
theorem td_m {X : Cx} (hS : SC X) {k : Nat} (h : td k) : k ∈ xcs X := hS k (td_all k h).2.2.1
theorem td_a0 {k : Nat} (h : td k) : ar 8 (k + 1) := (td_all k h).2.2.2.1
theorem td_a1 {k : Nat} (h : td k) : ar 8 (k + 2) := (td_all k h).2.2.2.2.1
theorem td_a2 {k : Nat} (h : td k) : ar 8 (k + 3) := (td_all k h).2.2.2.2.2.1
theorem td_a3 {k : Nat} (h : td k) : ar 4 (k + 4) := (td_all k h).2.2.2.2.2.2.1
theorem td_a4 {k : Nat} (h : td k) : ar 4 (k + 5) := (td_all k h).2.2.2.2.2.2.2.1
theorem td_a5 {k : Nat} (h : td k) : ar 4 (k + 6) := (td_all k h).2.2.2.2.2.2.2.2.1
theorem td_a6 {k : Nat} (h : td k) : ar 4 (k + 7) := (td_all k h).2.2.2.2.2.2.2.2.2
theorem ar_m {X : Cx} (hS : SC X) {n k : Nat} (h : ar n k) : k ∈ xcs X := hS k h.2.2
theorem ev_lev {i : Int32} (h : inb i 7 = true) : ev (29 + 2 * i.toNatClampNeg) := by
  have h1 := inb_lt h
  generalize i.toNatClampNeg = j at h1
  have h2 : ∀ j, j < 7 → ev (29 + 2 * j) := by unfold ev; decide +kernel
  exact h2 j h1
theorem ev_rin {i : Int32} (h : inb i 8 = true) : ev (45 + 2 * i.toNatClampNeg) := by
  have h1 := inb_lt h
  generalize i.toNatClampNeg = j at h1
  have h2 : ∀ j, j < 8 → ev (45 + 2 * j) := by unfold ev; decide +kernel
  exact h2 j h1
theorem ev_kep {i : Int32} (h : inb i 2 = true) : ev (64 + 2 * i.toNatClampNeg) := by
  have h1 := inb_lt h
  generalize i.toNatClampNeg = j at h1
  have h2 : ∀ j, j < 2 → ev (64 + 2 * j) := by unfold ev; decide +kernel
  exact h2 j h1
theorem kdc_0 : kd 0 = 5 := rfl
theorem lnc_0 : ln 0 = 10 := rfl
theorem kdc_1 : kd 1 = 4 := rfl
theorem lnc_1 : ln 1 = 12 := rfl
theorem kdc_2 : kd 2 = 20 := rfl
theorem lnc_2 : ln 2 = 8 := rfl
theorem kdc_3 : kd 3 = 20 := rfl
theorem lnc_3 : ln 3 = 8 := rfl
theorem kdc_4 : kd 4 = 20 := rfl
theorem lnc_4 : ln 4 = 8 := rfl
theorem kdc_5 : kd 5 = 20 := rfl
theorem lnc_5 : ln 5 = 4 := rfl
theorem kdc_6 : kd 6 = 20 := rfl
theorem lnc_6 : ln 6 = 4 := rfl
theorem kdc_7 : kd 7 = 20 := rfl
theorem lnc_7 : ln 7 = 4 := rfl
theorem kdc_8 : kd 8 = 20 := rfl
theorem lnc_8 : ln 8 = 4 := rfl
theorem kdc_9 : kd 9 = 3 := rfl
theorem lnc_9 : ln 9 = 7 := rfl
theorem kdc_10 : kd 10 = 4 := rfl
theorem lnc_10 : ln 10 = 12 := rfl
theorem kdc_11 : kd 11 = 20 := rfl
theorem lnc_11 : ln 11 = 8 := rfl
theorem kdc_12 : kd 12 = 20 := rfl
theorem lnc_12 : ln 12 = 8 := rfl
theorem kdc_13 : kd 13 = 20 := rfl
theorem lnc_13 : ln 13 = 8 := rfl
theorem kdc_14 : kd 14 = 20 := rfl
theorem lnc_14 : ln 14 = 4 := rfl
theorem kdc_15 : kd 15 = 20 := rfl
theorem lnc_15 : ln 15 = 4 := rfl
theorem kdc_16 : kd 16 = 20 := rfl
theorem lnc_16 : ln 16 = 4 := rfl
theorem kdc_17 : kd 17 = 20 := rfl
theorem lnc_17 : ln 17 = 4 := rfl
theorem kdc_18 : kd 18 = 21 := rfl
theorem lnc_18 : ln 18 = 160 := rfl
theorem kdc_19 : kd 19 = 20 := rfl
theorem lnc_19 : ln 19 = 3 := rfl
theorem kdc_20 : kd 20 = 24 := rfl
theorem lnc_20 : ln 20 = 13 := rfl
theorem kdc_21 : kd 21 = 0 := rfl
theorem lnc_21 : ln 21 = 10 := rfl
theorem kdc_22 : kd 22 = 20 := rfl
theorem lnc_22 : ln 22 = 8 := rfl
theorem kdc_23 : kd 23 = 0 := rfl
theorem lnc_23 : ln 23 = 10 := rfl
theorem kdc_24 : kd 24 = 20 := rfl
theorem lnc_24 : ln 24 = 8 := rfl
theorem kdc_25 : kd 25 = 2 := rfl
theorem lnc_25 : ln 25 = 5 := rfl
theorem kdc_26 : kd 26 = 20 := rfl
theorem lnc_26 : ln 26 = 6 := rfl
theorem kdc_27 : kd 27 = 20 := rfl
theorem lnc_27 : ln 27 = 6 := rfl
theorem kdc_28 : kd 28 = 23 := rfl
theorem lnc_28 : ln 28 = 7 := rfl
theorem kdc_29 : kd 29 = 0 := rfl
theorem lnc_29 : ln 29 = 10 := rfl
theorem kdc_30 : kd 30 = 20 := rfl
theorem lnc_30 : ln 30 = 8 := rfl
theorem kdc_31 : kd 31 = 0 := rfl
theorem lnc_31 : ln 31 = 10 := rfl
theorem kdc_32 : kd 32 = 20 := rfl
theorem lnc_32 : ln 32 = 8 := rfl
theorem kdc_33 : kd 33 = 0 := rfl
theorem lnc_33 : ln 33 = 10 := rfl
theorem kdc_34 : kd 34 = 20 := rfl
theorem lnc_34 : ln 34 = 8 := rfl
theorem kdc_35 : kd 35 = 0 := rfl
theorem lnc_35 : ln 35 = 10 := rfl
theorem kdc_36 : kd 36 = 20 := rfl
theorem lnc_36 : ln 36 = 8 := rfl
theorem kdc_37 : kd 37 = 0 := rfl
theorem lnc_37 : ln 37 = 10 := rfl
theorem kdc_38 : kd 38 = 20 := rfl
theorem lnc_38 : ln 38 = 8 := rfl
theorem kdc_39 : kd 39 = 0 := rfl
theorem lnc_39 : ln 39 = 10 := rfl
theorem kdc_40 : kd 40 = 20 := rfl
theorem lnc_40 : ln 40 = 8 := rfl
theorem kdc_41 : kd 41 = 0 := rfl
theorem lnc_41 : ln 41 = 10 := rfl
theorem kdc_42 : kd 42 = 20 := rfl
theorem lnc_42 : ln 42 = 8 := rfl
theorem kdc_43 : kd 43 = 1 := rfl
theorem lnc_43 : ln 43 = 3 := rfl
theorem kdc_44 : kd 44 = 23 := rfl
theorem lnc_44 : ln 44 = 8 := rfl
theorem kdc_45 : kd 45 = 0 := rfl
theorem lnc_45 : ln 45 = 10 := rfl
theorem kdc_46 : kd 46 = 20 := rfl
theorem lnc_46 : ln 46 = 8 := rfl
theorem kdc_47 : kd 47 = 0 := rfl
theorem lnc_47 : ln 47 = 10 := rfl
theorem kdc_48 : kd 48 = 20 := rfl
theorem lnc_48 : ln 48 = 8 := rfl
theorem kdc_49 : kd 49 = 0 := rfl
theorem lnc_49 : ln 49 = 10 := rfl
theorem kdc_50 : kd 50 = 20 := rfl
theorem lnc_50 : ln 50 = 8 := rfl
theorem kdc_51 : kd 51 = 0 := rfl
theorem lnc_51 : ln 51 = 10 := rfl
theorem kdc_52 : kd 52 = 20 := rfl
theorem lnc_52 : ln 52 = 8 := rfl
theorem kdc_53 : kd 53 = 0 := rfl
theorem lnc_53 : ln 53 = 10 := rfl
theorem kdc_54 : kd 54 = 20 := rfl
theorem lnc_54 : ln 54 = 8 := rfl
theorem kdc_55 : kd 55 = 0 := rfl
theorem lnc_55 : ln 55 = 10 := rfl
theorem kdc_56 : kd 56 = 20 := rfl
theorem lnc_56 : ln 56 = 8 := rfl
theorem kdc_57 : kd 57 = 0 := rfl
theorem lnc_57 : ln 57 = 10 := rfl
theorem kdc_58 : kd 58 = 20 := rfl
theorem lnc_58 : ln 58 = 8 := rfl
theorem kdc_59 : kd 59 = 0 := rfl
theorem lnc_59 : ln 59 = 10 := rfl
theorem kdc_60 : kd 60 = 20 := rfl
theorem lnc_60 : ln 60 = 8 := rfl
theorem kdc_61 : kd 61 = 23 := rfl
theorem lnc_61 : ln 61 = 2 := rfl
theorem kdc_62 : kd 62 = 22 := rfl
theorem lnc_62 : ln 62 = 2 := rfl
theorem kdc_63 : kd 63 = 20 := rfl
theorem lnc_63 : ln 63 = 12 := rfl
theorem kdc_64 : kd 64 = 0 := rfl
theorem lnc_64 : ln 64 = 10 := rfl
theorem kdc_65 : kd 65 = 20 := rfl
theorem lnc_65 : ln 65 = 8 := rfl
theorem kdc_66 : kd 66 = 0 := rfl
theorem lnc_66 : ln 66 = 10 := rfl
theorem kdc_67 : kd 67 = 20 := rfl
theorem lnc_67 : ln 67 = 8 := rfl
theorem kdc_70 : kd 70 = 6 := rfl
theorem lnc_70 : ln 70 = 21 := rfl
theorem kdc_71 : kd 71 = 20 := rfl
theorem lnc_71 : ln 71 = 160 := rfl
theorem kdc_72 : kd 72 = 20 := rfl
theorem lnc_72 : ln 72 = 45 := rfl
theorem kdc_73 : kd 73 = 20 := rfl
theorem lnc_73 : ln 73 = 45 := rfl
theorem kdc_74 : kd 74 = 20 := rfl
theorem lnc_74 : ln 74 = 14 := rfl
theorem kdc_75 : kd 75 = 20 := rfl
theorem lnc_75 : ln 75 = 112 := rfl
theorem kdc_76 : kd 76 = 20 := rfl
theorem lnc_76 : ln 76 = 28 := rfl
theorem kdc_77 : kd 77 = 22 := rfl
theorem lnc_77 : ln 77 = 2 := rfl
theorem kdc_78 : kd 78 = 20 := rfl
theorem lnc_78 : ln 78 = 12 := rfl
theorem kdc_79 : kd 79 = 20 := rfl
theorem lnc_79 : ln 79 = 14 := rfl
theorem kdc_80 : kd 80 = 20 := rfl
theorem lnc_80 : ln 80 = 98 := rfl
theorem kdc_81 : kd 81 = 20 := rfl
theorem lnc_81 : ln 81 = 6 := rfl
theorem kdc_82 : kd 82 = 20 := rfl
theorem lnc_82 : ln 82 = 6 := rfl
theorem evc_21 : ev 21 := by unfold ev; decide
theorem evc_23 : ev 23 := by unfold ev; decide
theorem evc_29 : ev 29 := by unfold ev; decide
theorem evc_31 : ev 31 := by unfold ev; decide
theorem evc_33 : ev 33 := by unfold ev; decide
theorem evc_35 : ev 35 := by unfold ev; decide
theorem evc_37 : ev 37 := by unfold ev; decide
theorem evc_39 : ev 39 := by unfold ev; decide
theorem evc_41 : ev 41 := by unfold ev; decide
theorem evc_45 : ev 45 := by unfold ev; decide
theorem evc_47 : ev 47 := by unfold ev; decide
theorem evc_49 : ev 49 := by unfold ev; decide
theorem evc_51 : ev 51 := by unfold ev; decide
theorem evc_53 : ev 53 := by unfold ev; decide
theorem evc_55 : ev 55 := by unfold ev; decide
theorem evc_57 : ev 57 := by unfold ev; decide
theorem evc_59 : ev 59 := by unfold ev; decide
theorem evc_64 : ev 64 := by unfold ev; decide
theorem evc_66 : ev 66 := by unfold ev; decide
theorem tdc_1 : td 1 := by unfold td; decide
theorem tdc_10 : td 10 := by unfold td; decide
theorem iX1 : ∀ w ∈ u_ws RX1 TX1 10, w ∈ tb := by decide +kernel
theorem iX2 : ∀ w ∈ u_ws RX2 TX2 3, w ∈ tb := by decide +kernel
theorem iX3 : ∀ w ∈ u_ws RX3 TX3 5, w ∈ tb := by decide +kernel
theorem iX4 : ∀ w ∈ u_ws RX4 TX4 7, w ∈ tb := by decide +kernel
theorem iX5 : ∀ w ∈ u_ws RX5 TX5 12, w ∈ tb := by decide +kernel
theorem iX6 : ∀ w ∈ u_ws RX6 TX6 10, w ∈ tb := by decide +kernel
theorem iX7 : ∀ w ∈ u_ws RX7 TX7 21, w ∈ tb := by decide +kernel
section HR
variable {X : Cx} {F : Fx} {cc : ByteArray} {own : String} {nL d pc : Nat} {L : List (Option Value)} {st : List Value} {M : Mem}
theorem g_ia (hF : FK X F cc own nL d) {k n : Nat} {i : Int32} (hk : k ∈ xcs X) (hkd : kd k = 20) (hn : ln k = n) (hi : inb i n = true) (dg : decode cc pc = .ok (.iaload, 1)) (kk : G X F (pc + 1) L (.int (M k i.toNatClampNeg) :: st) M) : G X F pc L (.int i :: .ref k :: st) M := g_iald hF hk hkd (by rw [hn]; exact inb_in hi) dg kk
theorem g_iac (hF : FK X F cc own nL d) {k n j : Nat} {i : Int32} (hk : k ∈ xcs X) (hkd : kd k = 20) (hn : ln k = n) (hi : inb i n = true) (hj : i.toNatClampNeg = j) (dg : decode cc pc = .ok (.iaload, 1)) (kk : G X F (pc + 1) L (.int (M k j) :: st) M) : G X F pc L (.int i :: .ref k :: st) M := g_iald hF hk hkd (by rw [hn]; exact inb_in hi) dg (by rw [hj]; exact kk)
theorem g_ca (hF : FK X F cc own nL d) {k n : Nat} {i : Int32} (hk : k ∈ xcs X) (hkd : kd k = 21) (hn : ln k = n) (hi : inb i n = true) (dg : decode cc pc = .ok (.caload, 1)) (kk : G X F (pc + 1) L (.int (M k i.toNatClampNeg) :: st) M) : G X F pc L (.int i :: .ref k :: st) M := g_cald hF hk hkd (by rw [hn]; exact inb_in hi) dg kk
theorem g_cac (hF : FK X F cc own nL d) {k n j : Nat} {i : Int32} (hk : k ∈ xcs X) (hkd : kd k = 21) (hn : ln k = n) (hi : inb i n = true) (hj : i.toNatClampNeg = j) (dg : decode cc pc = .ok (.caload, 1)) (kk : G X F (pc + 1) L (.int (M k j) :: st) M) : G X F pc L (.int i :: .ref k :: st) M := g_cald hF hk hkd (by rw [hn]; exact inb_in hi) dg (by rw [hj]; exact kk)
theorem g_za (hF : FK X F cc own nL d) {k n : Nat} {i : Int32} (hk : k ∈ xcs X) (hkd : kd k = 22) (hn : ln k = n) (hi : inb i n = true) (dg : decode cc pc = .ok (.baload, 1)) (kk : G X F (pc + 1) L (.int (M k i.toNatClampNeg) :: st) M) : G X F pc L (.int i :: .ref k :: st) M := g_zald hF hk hkd (by rw [hn]; exact inb_in hi) dg kk
theorem g_zac (hF : FK X F cc own nL d) {k n j : Nat} {i : Int32} (hk : k ∈ xcs X) (hkd : kd k = 22) (hn : ln k = n) (hi : inb i n = true) (hj : i.toNatClampNeg = j) (dg : decode cc pc = .ok (.baload, 1)) (kk : G X F (pc + 1) L (.int (M k j) :: st) M) : G X F pc L (.int i :: .ref k :: st) M := g_zald hF hk hkd (by rw [hn]; exact inb_in hi) dg (by rw [hj]; exact kk)
theorem g_is (hF : FK X F cc own nL d) {k n : Nat} {i v : Int32} (hk : k ∈ xcs X) (hkd : kd k = 20) (hn : ln k = n) (hi : inb i n = true) (dg : decode cc pc = .ok (.iastore, 1)) (kk : G X F (pc + 1) L st (up2 M k i.toNatClampNeg v)) : G X F pc L (.int v :: .int i :: .ref k :: st) M := g_iast hF hk hkd (by rw [hn]; exact inb_in hi) dg kk
theorem g_isc (hF : FK X F cc own nL d) {k n j : Nat} {i v : Int32} (hk : k ∈ xcs X) (hkd : kd k = 20) (hn : ln k = n) (hi : inb i n = true) (hj : i.toNatClampNeg = j) (dg : decode cc pc = .ok (.iastore, 1)) (kk : G X F (pc + 1) L st (up2 M k j v)) : G X F pc L (.int v :: .int i :: .ref k :: st) M := g_iast hF hk hkd (by rw [hn]; exact inb_in hi) dg (by rw [hj]; exact kk)
theorem g_cs (hF : FK X F cc own nL d) {k n : Nat} {i v : Int32} (hk : k ∈ xcs X) (hkd : kd k = 21) (hn : ln k = n) (hi : inb i n = true) (dg : decode cc pc = .ok (.castore, 1)) (kk : G X F (pc + 1) L st (up2 M k i.toNatClampNeg (vp_nar .char v))) : G X F pc L (.int v :: .int i :: .ref k :: st) M := g_cast hF hk hkd (by rw [hn]; exact inb_in hi) dg kk
theorem g_csc (hF : FK X F cc own nL d) {k n j : Nat} {i v : Int32} (hk : k ∈ xcs X) (hkd : kd k = 21) (hn : ln k = n) (hi : inb i n = true) (hj : i.toNatClampNeg = j) (dg : decode cc pc = .ok (.castore, 1)) (kk : G X F (pc + 1) L st (up2 M k j (vp_nar .char v))) : G X F pc L (.int v :: .int i :: .ref k :: st) M := g_cast hF hk hkd (by rw [hn]; exact inb_in hi) dg (by rw [hj]; exact kk)
theorem g_zs (hF : FK X F cc own nL d) {k n : Nat} {i v : Int32} (hk : k ∈ xcs X) (hkd : kd k = 22) (hn : ln k = n) (hi : inb i n = true) (dg : decode cc pc = .ok (.bastore, 1)) (kk : G X F (pc + 1) L st (up2 M k i.toNatClampNeg (vp_nar .boolean v))) : G X F pc L (.int v :: .int i :: .ref k :: st) M := g_zast hF hk hkd (by rw [hn]; exact inb_in hi) dg kk
theorem g_zsc (hF : FK X F cc own nL d) {k n j : Nat} {i v : Int32} (hk : k ∈ xcs X) (hkd : kd k = 22) (hn : ln k = n) (hi : inb i n = true) (hj : i.toNatClampNeg = j) (dg : decode cc pc = .ok (.bastore, 1)) (kk : G X F (pc + 1) L st (up2 M k j (vp_nar .boolean v))) : G X F pc L (.int v :: .int i :: .ref k :: st) M := g_zast hF hk hkd (by rw [hn]; exact inb_in hi) dg (by rw [hj]; exact kk)
theorem g_lev (hF : FK X F cc own nL d) {i : Int32} (hS : SC X) (hi : inb i 7 = true) (dg : decode cc pc = .ok (.aaload, 1)) (kk : G X F (pc + 1) L (.ref (29 + 2 * i.toNatClampNeg) :: st) M) : G X F pc L (.int i :: .ref 28 :: st) M := g_aald hF (hS 28 (by decide)) (by decide) rfl (inb_in hi) dg kk
theorem g_rin (hF : FK X F cc own nL d) {i : Int32} (hS : SC X) (hi : inb i 8 = true) (dg : decode cc pc = .ok (.aaload, 1)) (kk : G X F (pc + 1) L (.ref (45 + 2 * i.toNatClampNeg) :: st) M) : G X F pc L (.int i :: .ref 44 :: st) M := g_aald hF (hS 44 (by decide)) (by decide) rfl (inb_in hi) dg kk
theorem g_kep (hF : FK X F cc own nL d) {i : Int32} (hS : SC X) (hi : inb i 2 = true) (dg : decode cc pc = .ok (.aaload, 1)) (kk : G X F (pc + 1) L (.ref (64 + 2 * i.toNatClampNeg) :: st) M) : G X F pc L (.int i :: .ref 61 :: st) M := g_aald hF (hS 61 (by decide)) (by decide) rfl (inb_in hi) dg kk
theorem g_allc (hF : FK X F cc own nL d) {i : Int32} (hS : SC X) (hi : inb i 13 = true) (dg : decode cc pc = .ok (.aaload, 1)) (kk : G X F (pc + 1) L (.ref (1000 + i.toNatClampNeg) :: st) M) : G X F pc L (.int i :: .ref 20 :: st) M := g_aald hF (hS 20 (by decide)) (by decide) rfl (inb_in hi) dg kk
end HR
theorem wf_X5_9 : Cond.fieldLink RX5 9 RX5 "clapperKind" "[I" ∈ tb := tb_mem 86 (by decide +kernel) (by decide +kernel)
theorem gf_X5_9 {X : Cx} {F : Fx} {cc : ByteArray} {nL d pc k : Nat} {L : List (Option Value)} {st : List Value} {M : Mem} (hF : FK X F cc RX5 nL d) (hk : k ∈ xcs X) (hkd : kd k = 4) (hN : ln k = 12) {t : Nat} (ht : k + 1 = t) (dg : decode cc pc = .ok (.getfield 9, 3)) (kk : G X F (pc + 3) L (.ref t :: st) M) : G X F pc L (.ref k :: st) M := g_get hF iX5 rfl (by decide) hk hkd hN (j := 0) (by decide) wf_X5_9 rfl (by subst ht; unfold vfld; rw [hkd]; rfl) dg kk
theorem wf_X6_91 : Cond.fieldLink RX6 91 RX5 "clapperKind" "[I" ∈ tb := tb_mem 87 (by decide +kernel) (by decide +kernel)
theorem gf_X6_91 {X : Cx} {F : Fx} {cc : ByteArray} {nL d pc k : Nat} {L : List (Option Value)} {st : List Value} {M : Mem} (hF : FK X F cc RX6 nL d) (hk : k ∈ xcs X) (hkd : kd k = 4) (hN : ln k = 12) {t : Nat} (ht : k + 1 = t) (dg : decode cc pc = .ok (.getfield 91, 3)) (kk : G X F (pc + 3) L (.ref t :: st) M) : G X F pc L (.ref k :: st) M := g_get hF iX5 rfl (by decide) hk hkd hN (j := 0) (by decide) wf_X6_91 rfl (by subst ht; unfold vfld; rw [hkd]; rfl) dg kk
theorem wf_X1_71 : Cond.fieldLink RX1 71 RX5 "clapperKind" "[I" ∈ tb := tb_mem 88 (by decide +kernel) (by decide +kernel)
theorem gf_X1_71 {X : Cx} {F : Fx} {cc : ByteArray} {nL d pc k : Nat} {L : List (Option Value)} {st : List Value} {M : Mem} (hF : FK X F cc RX1 nL d) (hk : k ∈ xcs X) (hkd : kd k = 4) (hN : ln k = 12) {t : Nat} (ht : k + 1 = t) (dg : decode cc pc = .ok (.getfield 71, 3)) (kk : G X F (pc + 3) L (.ref t :: st) M) : G X F pc L (.ref k :: st) M := g_get hF iX5 rfl (by decide) hk hkd hN (j := 0) (by decide) wf_X1_71 rfl (by subst ht; unfold vfld; rw [hkd]; rfl) dg kk
theorem wf_X5_15 : Cond.fieldLink RX5 15 RX5 "came" "[I" ∈ tb := tb_mem 89 (by decide +kernel) (by decide +kernel)
theorem gf_X5_15 {X : Cx} {F : Fx} {cc : ByteArray} {nL d pc k : Nat} {L : List (Option Value)} {st : List Value} {M : Mem} (hF : FK X F cc RX5 nL d) (hk : k ∈ xcs X) (hkd : kd k = 4) (hN : ln k = 12) {t : Nat} (ht : k + 2 = t) (dg : decode cc pc = .ok (.getfield 15, 3)) (kk : G X F (pc + 3) L (.ref t :: st) M) : G X F pc L (.ref k :: st) M := g_get hF iX5 rfl (by decide) hk hkd hN (j := 1) (by decide) wf_X5_15 rfl (by subst ht; unfold vfld; rw [hkd]; rfl) dg kk
theorem wf_X1_19 : Cond.fieldLink RX1 19 RX5 "came" "[I" ∈ tb := tb_mem 90 (by decide +kernel) (by decide +kernel)
theorem gf_X1_19 {X : Cx} {F : Fx} {cc : ByteArray} {nL d pc k : Nat} {L : List (Option Value)} {st : List Value} {M : Mem} (hF : FK X F cc RX1 nL d) (hk : k ∈ xcs X) (hkd : kd k = 4) (hN : ln k = 12) {t : Nat} (ht : k + 2 = t) (dg : decode cc pc = .ok (.getfield 19, 3)) (kk : G X F (pc + 3) L (.ref t :: st) M) : G X F pc L (.ref k :: st) M := g_get hF iX5 rfl (by decide) hk hkd hN (j := 1) (by decide) wf_X1_19 rfl (by subst ht; unfold vfld; rw [hkd]; rfl) dg kk
theorem wf_X6_106 : Cond.fieldLink RX6 106 RX5 "came" "[I" ∈ tb := tb_mem 91 (by decide +kernel) (by decide +kernel)
theorem gf_X6_106 {X : Cx} {F : Fx} {cc : ByteArray} {nL d pc k : Nat} {L : List (Option Value)} {st : List Value} {M : Mem} (hF : FK X F cc RX6 nL d) (hk : k ∈ xcs X) (hkd : kd k = 4) (hN : ln k = 12) {t : Nat} (ht : k + 2 = t) (dg : decode cc pc = .ok (.getfield 106, 3)) (kk : G X F (pc + 3) L (.ref t :: st) M) : G X F pc L (.ref k :: st) M := g_get hF iX5 rfl (by decide) hk hkd hN (j := 1) (by decide) wf_X6_106 rfl (by subst ht; unfold vfld; rw [hkd]; rfl) dg kk
theorem wf_X5_18 : Cond.fieldLink RX5 18 RX5 "train" "[I" ∈ tb := tb_mem 92 (by decide +kernel) (by decide +kernel)
theorem gf_X5_18 {X : Cx} {F : Fx} {cc : ByteArray} {nL d pc k : Nat} {L : List (Option Value)} {st : List Value} {M : Mem} (hF : FK X F cc RX5 nL d) (hk : k ∈ xcs X) (hkd : kd k = 4) (hN : ln k = 12) {t : Nat} (ht : k + 3 = t) (dg : decode cc pc = .ok (.getfield 18, 3)) (kk : G X F (pc + 3) L (.ref t :: st) M) : G X F pc L (.ref k :: st) M := g_get hF iX5 rfl (by decide) hk hkd hN (j := 2) (by decide) wf_X5_18 rfl (by subst ht; unfold vfld; rw [hkd]; rfl) dg kk
theorem wf_X6_97 : Cond.fieldLink RX6 97 RX5 "train" "[I" ∈ tb := tb_mem 93 (by decide +kernel) (by decide +kernel)
theorem gf_X6_97 {X : Cx} {F : Fx} {cc : ByteArray} {nL d pc k : Nat} {L : List (Option Value)} {st : List Value} {M : Mem} (hF : FK X F cc RX6 nL d) (hk : k ∈ xcs X) (hkd : kd k = 4) (hN : ln k = 12) {t : Nat} (ht : k + 3 = t) (dg : decode cc pc = .ok (.getfield 97, 3)) (kk : G X F (pc + 3) L (.ref t :: st) M) : G X F pc L (.ref k :: st) M := g_get hF iX5 rfl (by decide) hk hkd hN (j := 2) (by decide) wf_X6_97 rfl (by subst ht; unfold vfld; rw [hkd]; rfl) dg kk
theorem wf_X1_148 : Cond.fieldLink RX1 148 RX5 "train" "[I" ∈ tb := tb_mem 94 (by decide +kernel) (by decide +kernel)
theorem gf_X1_148 {X : Cx} {F : Fx} {cc : ByteArray} {nL d pc k : Nat} {L : List (Option Value)} {st : List Value} {M : Mem} (hF : FK X F cc RX1 nL d) (hk : k ∈ xcs X) (hkd : kd k = 4) (hN : ln k = 12) {t : Nat} (ht : k + 3 = t) (dg : decode cc pc = .ok (.getfield 148, 3)) (kk : G X F (pc + 3) L (.ref t :: st) M) : G X F pc L (.ref k :: st) M := g_get hF iX5 rfl (by decide) hk hkd hN (j := 2) (by decide) wf_X1_148 rfl (by subst ht; unfold vfld; rw [hkd]; rfl) dg kk
theorem wf_X5_21 : Cond.fieldLink RX5 21 RX5 "encoreKind" "[I" ∈ tb := tb_mem 95 (by decide +kernel) (by decide +kernel)
theorem gf_X5_21 {X : Cx} {F : Fx} {cc : ByteArray} {nL d pc k : Nat} {L : List (Option Value)} {st : List Value} {M : Mem} (hF : FK X F cc RX5 nL d) (hk : k ∈ xcs X) (hkd : kd k = 4) (hN : ln k = 12) {t : Nat} (ht : k + 4 = t) (dg : decode cc pc = .ok (.getfield 21, 3)) (kk : G X F (pc + 3) L (.ref t :: st) M) : G X F pc L (.ref k :: st) M := g_get hF iX5 rfl (by decide) hk hkd hN (j := 3) (by decide) wf_X5_21 rfl (by subst ht; unfold vfld; rw [hkd]; rfl) dg kk
theorem wf_X6_112 : Cond.fieldLink RX6 112 RX5 "encoreKind" "[I" ∈ tb := tb_mem 96 (by decide +kernel) (by decide +kernel)
theorem gf_X6_112 {X : Cx} {F : Fx} {cc : ByteArray} {nL d pc k : Nat} {L : List (Option Value)} {st : List Value} {M : Mem} (hF : FK X F cc RX6 nL d) (hk : k ∈ xcs X) (hkd : kd k = 4) (hN : ln k = 12) {t : Nat} (ht : k + 4 = t) (dg : decode cc pc = .ok (.getfield 112, 3)) (kk : G X F (pc + 3) L (.ref t :: st) M) : G X F pc L (.ref k :: st) M := g_get hF iX5 rfl (by decide) hk hkd hN (j := 3) (by decide) wf_X6_112 rfl (by subst ht; unfold vfld; rw [hkd]; rfl) dg kk
theorem wf_X1_121 : Cond.fieldLink RX1 121 RX5 "encoreKind" "[I" ∈ tb := tb_mem 97 (by decide +kernel) (by decide +kernel)
theorem gf_X1_121 {X : Cx} {F : Fx} {cc : ByteArray} {nL d pc k : Nat} {L : List (Option Value)} {st : List Value} {M : Mem} (hF : FK X F cc RX1 nL d) (hk : k ∈ xcs X) (hkd : kd k = 4) (hN : ln k = 12) {t : Nat} (ht : k + 4 = t) (dg : decode cc pc = .ok (.getfield 121, 3)) (kk : G X F (pc + 3) L (.ref t :: st) M) : G X F pc L (.ref k :: st) M := g_get hF iX5 rfl (by decide) hk hkd hN (j := 3) (by decide) wf_X1_121 rfl (by subst ht; unfold vfld; rw [hkd]; rfl) dg kk
theorem wf_X5_24 : Cond.fieldLink RX5 24 RX5 "minutes" "[I" ∈ tb := tb_mem 98 (by decide +kernel) (by decide +kernel)
theorem gf_X5_24 {X : Cx} {F : Fx} {cc : ByteArray} {nL d pc k : Nat} {L : List (Option Value)} {st : List Value} {M : Mem} (hF : FK X F cc RX5 nL d) (hk : k ∈ xcs X) (hkd : kd k = 4) (hN : ln k = 12) {t : Nat} (ht : k + 5 = t) (dg : decode cc pc = .ok (.getfield 24, 3)) (kk : G X F (pc + 3) L (.ref t :: st) M) : G X F pc L (.ref k :: st) M := g_get hF iX5 rfl (by decide) hk hkd hN (j := 4) (by decide) wf_X5_24 rfl (by subst ht; unfold vfld; rw [hkd]; rfl) dg kk
theorem wf_X6_115 : Cond.fieldLink RX6 115 RX5 "minutes" "[I" ∈ tb := tb_mem 99 (by decide +kernel) (by decide +kernel)
theorem gf_X6_115 {X : Cx} {F : Fx} {cc : ByteArray} {nL d pc k : Nat} {L : List (Option Value)} {st : List Value} {M : Mem} (hF : FK X F cc RX6 nL d) (hk : k ∈ xcs X) (hkd : kd k = 4) (hN : ln k = 12) {t : Nat} (ht : k + 5 = t) (dg : decode cc pc = .ok (.getfield 115, 3)) (kk : G X F (pc + 3) L (.ref t :: st) M) : G X F pc L (.ref k :: st) M := g_get hF iX5 rfl (by decide) hk hkd hN (j := 4) (by decide) wf_X6_115 rfl (by subst ht; unfold vfld; rw [hkd]; rfl) dg kk
theorem wf_X1_124 : Cond.fieldLink RX1 124 RX5 "minutes" "[I" ∈ tb := tb_mem 100 (by decide +kernel) (by decide +kernel)
theorem gf_X1_124 {X : Cx} {F : Fx} {cc : ByteArray} {nL d pc k : Nat} {L : List (Option Value)} {st : List Value} {M : Mem} (hF : FK X F cc RX1 nL d) (hk : k ∈ xcs X) (hkd : kd k = 4) (hN : ln k = 12) {t : Nat} (ht : k + 5 = t) (dg : decode cc pc = .ok (.getfield 124, 3)) (kk : G X F (pc + 3) L (.ref t :: st) M) : G X F pc L (.ref k :: st) M := g_get hF iX5 rfl (by decide) hk hkd hN (j := 4) (by decide) wf_X1_124 rfl (by subst ht; unfold vfld; rw [hkd]; rfl) dg kk
theorem wf_X5_27 : Cond.fieldLink RX5 27 RX5 "takesArm" "[I" ∈ tb := tb_mem 101 (by decide +kernel) (by decide +kernel)
theorem gf_X5_27 {X : Cx} {F : Fx} {cc : ByteArray} {nL d pc k : Nat} {L : List (Option Value)} {st : List Value} {M : Mem} (hF : FK X F cc RX5 nL d) (hk : k ∈ xcs X) (hkd : kd k = 4) (hN : ln k = 12) {t : Nat} (ht : k + 6 = t) (dg : decode cc pc = .ok (.getfield 27, 3)) (kk : G X F (pc + 3) L (.ref t :: st) M) : G X F pc L (.ref k :: st) M := g_get hF iX5 rfl (by decide) hk hkd hN (j := 5) (by decide) wf_X5_27 rfl (by subst ht; unfold vfld; rw [hkd]; rfl) dg kk
theorem wf_X6_118 : Cond.fieldLink RX6 118 RX5 "takesArm" "[I" ∈ tb := tb_mem 102 (by decide +kernel) (by decide +kernel)
theorem gf_X6_118 {X : Cx} {F : Fx} {cc : ByteArray} {nL d pc k : Nat} {L : List (Option Value)} {st : List Value} {M : Mem} (hF : FK X F cc RX6 nL d) (hk : k ∈ xcs X) (hkd : kd k = 4) (hN : ln k = 12) {t : Nat} (ht : k + 6 = t) (dg : decode cc pc = .ok (.getfield 118, 3)) (kk : G X F (pc + 3) L (.ref t :: st) M) : G X F pc L (.ref k :: st) M := g_get hF iX5 rfl (by decide) hk hkd hN (j := 5) (by decide) wf_X6_118 rfl (by subst ht; unfold vfld; rw [hkd]; rfl) dg kk
theorem wf_X1_106 : Cond.fieldLink RX1 106 RX5 "takesArm" "[I" ∈ tb := tb_mem 103 (by decide +kernel) (by decide +kernel)
theorem gf_X1_106 {X : Cx} {F : Fx} {cc : ByteArray} {nL d pc k : Nat} {L : List (Option Value)} {st : List Value} {M : Mem} (hF : FK X F cc RX1 nL d) (hk : k ∈ xcs X) (hkd : kd k = 4) (hN : ln k = 12) {t : Nat} (ht : k + 6 = t) (dg : decode cc pc = .ok (.getfield 106, 3)) (kk : G X F (pc + 3) L (.ref t :: st) M) : G X F pc L (.ref k :: st) M := g_get hF iX5 rfl (by decide) hk hkd hN (j := 5) (by decide) wf_X1_106 rfl (by subst ht; unfold vfld; rw [hkd]; rfl) dg kk
theorem wf_X5_30 : Cond.fieldLink RX5 30 RX5 "worth" "[I" ∈ tb := tb_mem 104 (by decide +kernel) (by decide +kernel)
theorem gf_X5_30 {X : Cx} {F : Fx} {cc : ByteArray} {nL d pc k : Nat} {L : List (Option Value)} {st : List Value} {M : Mem} (hF : FK X F cc RX5 nL d) (hk : k ∈ xcs X) (hkd : kd k = 4) (hN : ln k = 12) {t : Nat} (ht : k + 7 = t) (dg : decode cc pc = .ok (.getfield 30, 3)) (kk : G X F (pc + 3) L (.ref t :: st) M) : G X F pc L (.ref k :: st) M := g_get hF iX5 rfl (by decide) hk hkd hN (j := 6) (by decide) wf_X5_30 rfl (by subst ht; unfold vfld; rw [hkd]; rfl) dg kk
theorem wf_X6_121 : Cond.fieldLink RX6 121 RX5 "worth" "[I" ∈ tb := tb_mem 105 (by decide +kernel) (by decide +kernel)
theorem gf_X6_121 {X : Cx} {F : Fx} {cc : ByteArray} {nL d pc k : Nat} {L : List (Option Value)} {st : List Value} {M : Mem} (hF : FK X F cc RX6 nL d) (hk : k ∈ xcs X) (hkd : kd k = 4) (hN : ln k = 12) {t : Nat} (ht : k + 7 = t) (dg : decode cc pc = .ok (.getfield 121, 3)) (kk : G X F (pc + 3) L (.ref t :: st) M) : G X F pc L (.ref k :: st) M := g_get hF iX5 rfl (by decide) hk hkd hN (j := 6) (by decide) wf_X6_121 rfl (by subst ht; unfold vfld; rw [hkd]; rfl) dg kk
theorem wf_X1_134 : Cond.fieldLink RX1 134 RX5 "worth" "[I" ∈ tb := tb_mem 106 (by decide +kernel) (by decide +kernel)
theorem gf_X1_134 {X : Cx} {F : Fx} {cc : ByteArray} {nL d pc k : Nat} {L : List (Option Value)} {st : List Value} {M : Mem} (hF : FK X F cc RX1 nL d) (hk : k ∈ xcs X) (hkd : kd k = 4) (hN : ln k = 12) {t : Nat} (ht : k + 7 = t) (dg : decode cc pc = .ok (.getfield 134, 3)) (kk : G X F (pc + 3) L (.ref t :: st) M) : G X F pc L (.ref k :: st) M := g_get hF iX5 rfl (by decide) hk hkd hN (j := 6) (by decide) wf_X1_134 rfl (by subst ht; unfold vfld; rw [hkd]; rfl) dg kk
theorem wf_X5_36 : Cond.fieldLink RX5 36 RX5 "clappers" "I" ∈ tb := tb_mem 107 (by decide +kernel) (by decide +kernel)
theorem gf_X5_36 {X : Cx} {F : Fx} {cc : ByteArray} {nL d pc k : Nat} {L : List (Option Value)} {st : List Value} {M : Mem} (hF : FK X F cc RX5 nL d) (hk : k ∈ xcs X) (hkd : kd k = 4) (hN : ln k = 12) (dg : decode cc pc = .ok (.getfield 36, 3)) (kk : G X F (pc + 3) L (.int (M k 7) :: st) M) : G X F pc L (.ref k :: st) M := g_get hF iX5 rfl (by decide) hk hkd hN (j := 7) (by decide) wf_X5_36 rfl (by unfold vfld; rw [hkd]; rfl) dg kk
theorem pf_X5_36 {X : Cx} {F : Fx} {cc : ByteArray} {nL d pc k : Nat} {L : List (Option Value)} {st : List Value} {M : Mem} (hF : FK X F cc RX5 nL d) (hk : k ∈ xcs X) (hkd : kd k = 4) (hN : ln k = 12) {v : Int32} (dg : decode cc pc = .ok (.putfield 36, 3)) (kk : G X F (pc + 3) L st (up2 M k 7 v)) : G X F pc L (.int v :: .ref k :: st) M := g_put hF (ty := .int) iX5 tyX5 tyX5_ok nmX5 rfl (by decide) hk hkd hN (j := 7) (by decide) wf_X5_36 rfl rfl (by decide +kernel) rfl rfl rfl dg kk
theorem wf_X1_30 : Cond.fieldLink RX1 30 RX5 "clappers" "I" ∈ tb := tb_mem 108 (by decide +kernel) (by decide +kernel)
theorem gf_X1_30 {X : Cx} {F : Fx} {cc : ByteArray} {nL d pc k : Nat} {L : List (Option Value)} {st : List Value} {M : Mem} (hF : FK X F cc RX1 nL d) (hk : k ∈ xcs X) (hkd : kd k = 4) (hN : ln k = 12) (dg : decode cc pc = .ok (.getfield 30, 3)) (kk : G X F (pc + 3) L (.int (M k 7) :: st) M) : G X F pc L (.ref k :: st) M := g_get hF iX5 rfl (by decide) hk hkd hN (j := 7) (by decide) wf_X1_30 rfl (by unfold vfld; rw [hkd]; rfl) dg kk
theorem pf_X1_30 {X : Cx} {F : Fx} {cc : ByteArray} {nL d pc k : Nat} {L : List (Option Value)} {st : List Value} {M : Mem} (hF : FK X F cc RX1 nL d) (hk : k ∈ xcs X) (hkd : kd k = 4) (hN : ln k = 12) {v : Int32} (dg : decode cc pc = .ok (.putfield 30, 3)) (kk : G X F (pc + 3) L st (up2 M k 7 v)) : G X F pc L (.int v :: .ref k :: st) M := g_put hF (ty := .int) iX5 tyX5 tyX5_ok nmX5 rfl (by decide) hk hkd hN (j := 7) (by decide) wf_X1_30 rfl rfl (by decide +kernel) rfl rfl rfl dg kk
theorem wf_X6_236 : Cond.fieldLink RX6 236 RX5 "clappers" "I" ∈ tb := tb_mem 109 (by decide +kernel) (by decide +kernel)
theorem gf_X6_236 {X : Cx} {F : Fx} {cc : ByteArray} {nL d pc k : Nat} {L : List (Option Value)} {st : List Value} {M : Mem} (hF : FK X F cc RX6 nL d) (hk : k ∈ xcs X) (hkd : kd k = 4) (hN : ln k = 12) (dg : decode cc pc = .ok (.getfield 236, 3)) (kk : G X F (pc + 3) L (.int (M k 7) :: st) M) : G X F pc L (.ref k :: st) M := g_get hF iX5 rfl (by decide) hk hkd hN (j := 7) (by decide) wf_X6_236 rfl (by unfold vfld; rw [hkd]; rfl) dg kk
theorem pf_X6_236 {X : Cx} {F : Fx} {cc : ByteArray} {nL d pc k : Nat} {L : List (Option Value)} {st : List Value} {M : Mem} (hF : FK X F cc RX6 nL d) (hk : k ∈ xcs X) (hkd : kd k = 4) (hN : ln k = 12) {v : Int32} (dg : decode cc pc = .ok (.putfield 236, 3)) (kk : G X F (pc + 3) L st (up2 M k 7 v)) : G X F pc L (.int v :: .ref k :: st) M := g_put hF (ty := .int) iX5 tyX5 tyX5_ok nmX5 rfl (by decide) hk hkd hN (j := 7) (by decide) wf_X6_236 rfl rfl (by decide +kernel) rfl rfl rfl dg kk
theorem wf_X5_40 : Cond.fieldLink RX5 40 RX5 "encores" "I" ∈ tb := tb_mem 110 (by decide +kernel) (by decide +kernel)
theorem gf_X5_40 {X : Cx} {F : Fx} {cc : ByteArray} {nL d pc k : Nat} {L : List (Option Value)} {st : List Value} {M : Mem} (hF : FK X F cc RX5 nL d) (hk : k ∈ xcs X) (hkd : kd k = 4) (hN : ln k = 12) (dg : decode cc pc = .ok (.getfield 40, 3)) (kk : G X F (pc + 3) L (.int (M k 8) :: st) M) : G X F pc L (.ref k :: st) M := g_get hF iX5 rfl (by decide) hk hkd hN (j := 8) (by decide) wf_X5_40 rfl (by unfold vfld; rw [hkd]; rfl) dg kk
theorem pf_X5_40 {X : Cx} {F : Fx} {cc : ByteArray} {nL d pc k : Nat} {L : List (Option Value)} {st : List Value} {M : Mem} (hF : FK X F cc RX5 nL d) (hk : k ∈ xcs X) (hkd : kd k = 4) (hN : ln k = 12) {v : Int32} (dg : decode cc pc = .ok (.putfield 40, 3)) (kk : G X F (pc + 3) L st (up2 M k 8 v)) : G X F pc L (.int v :: .ref k :: st) M := g_put hF (ty := .int) iX5 tyX5 tyX5_ok nmX5 rfl (by decide) hk hkd hN (j := 8) (by decide) wf_X5_40 rfl rfl (by decide +kernel) rfl rfl rfl dg kk
theorem wf_X6_229 : Cond.fieldLink RX6 229 RX5 "encores" "I" ∈ tb := tb_mem 111 (by decide +kernel) (by decide +kernel)
theorem gf_X6_229 {X : Cx} {F : Fx} {cc : ByteArray} {nL d pc k : Nat} {L : List (Option Value)} {st : List Value} {M : Mem} (hF : FK X F cc RX6 nL d) (hk : k ∈ xcs X) (hkd : kd k = 4) (hN : ln k = 12) (dg : decode cc pc = .ok (.getfield 229, 3)) (kk : G X F (pc + 3) L (.int (M k 8) :: st) M) : G X F pc L (.ref k :: st) M := g_get hF iX5 rfl (by decide) hk hkd hN (j := 8) (by decide) wf_X6_229 rfl (by unfold vfld; rw [hkd]; rfl) dg kk
theorem pf_X6_229 {X : Cx} {F : Fx} {cc : ByteArray} {nL d pc k : Nat} {L : List (Option Value)} {st : List Value} {M : Mem} (hF : FK X F cc RX6 nL d) (hk : k ∈ xcs X) (hkd : kd k = 4) (hN : ln k = 12) {v : Int32} (dg : decode cc pc = .ok (.putfield 229, 3)) (kk : G X F (pc + 3) L st (up2 M k 8 v)) : G X F pc L (.int v :: .ref k :: st) M := g_put hF (ty := .int) iX5 tyX5 tyX5_ok nmX5 rfl (by decide) hk hkd hN (j := 8) (by decide) wf_X6_229 rfl rfl (by decide +kernel) rfl rfl rfl dg kk
theorem wf_X5_43 : Cond.fieldLink RX5 43 RX5 "arm" "I" ∈ tb := tb_mem 112 (by decide +kernel) (by decide +kernel)
theorem gf_X5_43 {X : Cx} {F : Fx} {cc : ByteArray} {nL d pc k : Nat} {L : List (Option Value)} {st : List Value} {M : Mem} (hF : FK X F cc RX5 nL d) (hk : k ∈ xcs X) (hkd : kd k = 4) (hN : ln k = 12) (dg : decode cc pc = .ok (.getfield 43, 3)) (kk : G X F (pc + 3) L (.int (M k 9) :: st) M) : G X F pc L (.ref k :: st) M := g_get hF iX5 rfl (by decide) hk hkd hN (j := 9) (by decide) wf_X5_43 rfl (by unfold vfld; rw [hkd]; rfl) dg kk
theorem pf_X5_43 {X : Cx} {F : Fx} {cc : ByteArray} {nL d pc k : Nat} {L : List (Option Value)} {st : List Value} {M : Mem} (hF : FK X F cc RX5 nL d) (hk : k ∈ xcs X) (hkd : kd k = 4) (hN : ln k = 12) {v : Int32} (dg : decode cc pc = .ok (.putfield 43, 3)) (kk : G X F (pc + 3) L st (up2 M k 9 v)) : G X F pc L (.int v :: .ref k :: st) M := g_put hF (ty := .int) iX5 tyX5 tyX5_ok nmX5 rfl (by decide) hk hkd hN (j := 9) (by decide) wf_X5_43 rfl rfl (by decide +kernel) rfl rfl rfl dg kk
theorem wf_X1_40 : Cond.fieldLink RX1 40 RX5 "arm" "I" ∈ tb := tb_mem 113 (by decide +kernel) (by decide +kernel)
theorem gf_X1_40 {X : Cx} {F : Fx} {cc : ByteArray} {nL d pc k : Nat} {L : List (Option Value)} {st : List Value} {M : Mem} (hF : FK X F cc RX1 nL d) (hk : k ∈ xcs X) (hkd : kd k = 4) (hN : ln k = 12) (dg : decode cc pc = .ok (.getfield 40, 3)) (kk : G X F (pc + 3) L (.int (M k 9) :: st) M) : G X F pc L (.ref k :: st) M := g_get hF iX5 rfl (by decide) hk hkd hN (j := 9) (by decide) wf_X1_40 rfl (by unfold vfld; rw [hkd]; rfl) dg kk
theorem pf_X1_40 {X : Cx} {F : Fx} {cc : ByteArray} {nL d pc k : Nat} {L : List (Option Value)} {st : List Value} {M : Mem} (hF : FK X F cc RX1 nL d) (hk : k ∈ xcs X) (hkd : kd k = 4) (hN : ln k = 12) {v : Int32} (dg : decode cc pc = .ok (.putfield 40, 3)) (kk : G X F (pc + 3) L st (up2 M k 9 v)) : G X F pc L (.int v :: .ref k :: st) M := g_put hF (ty := .int) iX5 tyX5 tyX5_ok nmX5 rfl (by decide) hk hkd hN (j := 9) (by decide) wf_X1_40 rfl rfl (by decide +kernel) rfl rfl rfl dg kk
theorem wf_X5_46 : Cond.fieldLink RX5 46 RX5 "close" "I" ∈ tb := tb_mem 114 (by decide +kernel) (by decide +kernel)
theorem gf_X5_46 {X : Cx} {F : Fx} {cc : ByteArray} {nL d pc k : Nat} {L : List (Option Value)} {st : List Value} {M : Mem} (hF : FK X F cc RX5 nL d) (hk : k ∈ xcs X) (hkd : kd k = 4) (hN : ln k = 12) (dg : decode cc pc = .ok (.getfield 46, 3)) (kk : G X F (pc + 3) L (.int (M k 10) :: st) M) : G X F pc L (.ref k :: st) M := g_get hF iX5 rfl (by decide) hk hkd hN (j := 10) (by decide) wf_X5_46 rfl (by unfold vfld; rw [hkd]; rfl) dg kk
theorem pf_X5_46 {X : Cx} {F : Fx} {cc : ByteArray} {nL d pc k : Nat} {L : List (Option Value)} {st : List Value} {M : Mem} (hF : FK X F cc RX5 nL d) (hk : k ∈ xcs X) (hkd : kd k = 4) (hN : ln k = 12) {v : Int32} (dg : decode cc pc = .ok (.putfield 46, 3)) (kk : G X F (pc + 3) L st (up2 M k 10 v)) : G X F pc L (.int v :: .ref k :: st) M := g_put hF (ty := .int) iX5 tyX5 tyX5_ok nmX5 rfl (by decide) hk hkd hN (j := 10) (by decide) wf_X5_46 rfl rfl (by decide +kernel) rfl rfl rfl dg kk
theorem wf_X1_142 : Cond.fieldLink RX1 142 RX5 "close" "I" ∈ tb := tb_mem 115 (by decide +kernel) (by decide +kernel)
theorem gf_X1_142 {X : Cx} {F : Fx} {cc : ByteArray} {nL d pc k : Nat} {L : List (Option Value)} {st : List Value} {M : Mem} (hF : FK X F cc RX1 nL d) (hk : k ∈ xcs X) (hkd : kd k = 4) (hN : ln k = 12) (dg : decode cc pc = .ok (.getfield 142, 3)) (kk : G X F (pc + 3) L (.int (M k 10) :: st) M) : G X F pc L (.ref k :: st) M := g_get hF iX5 rfl (by decide) hk hkd hN (j := 10) (by decide) wf_X1_142 rfl (by unfold vfld; rw [hkd]; rfl) dg kk
theorem pf_X1_142 {X : Cx} {F : Fx} {cc : ByteArray} {nL d pc k : Nat} {L : List (Option Value)} {st : List Value} {M : Mem} (hF : FK X F cc RX1 nL d) (hk : k ∈ xcs X) (hkd : kd k = 4) (hN : ln k = 12) {v : Int32} (dg : decode cc pc = .ok (.putfield 142, 3)) (kk : G X F (pc + 3) L st (up2 M k 10 v)) : G X F pc L (.int v :: .ref k :: st) M := g_put hF (ty := .int) iX5 tyX5 tyX5_ok nmX5 rfl (by decide) hk hkd hN (j := 10) (by decide) wf_X1_142 rfl rfl (by decide +kernel) rfl rfl rfl dg kk
theorem wf_X5_49 : Cond.fieldLink RX5 49 RX5 "hire" "I" ∈ tb := tb_mem 116 (by decide +kernel) (by decide +kernel)
theorem gf_X5_49 {X : Cx} {F : Fx} {cc : ByteArray} {nL d pc k : Nat} {L : List (Option Value)} {st : List Value} {M : Mem} (hF : FK X F cc RX5 nL d) (hk : k ∈ xcs X) (hkd : kd k = 4) (hN : ln k = 12) (dg : decode cc pc = .ok (.getfield 49, 3)) (kk : G X F (pc + 3) L (.int (M k 11) :: st) M) : G X F pc L (.ref k :: st) M := g_get hF iX5 rfl (by decide) hk hkd hN (j := 11) (by decide) wf_X5_49 rfl (by unfold vfld; rw [hkd]; rfl) dg kk
theorem pf_X5_49 {X : Cx} {F : Fx} {cc : ByteArray} {nL d pc k : Nat} {L : List (Option Value)} {st : List Value} {M : Mem} (hF : FK X F cc RX5 nL d) (hk : k ∈ xcs X) (hkd : kd k = 4) (hN : ln k = 12) {v : Int32} (dg : decode cc pc = .ok (.putfield 49, 3)) (kk : G X F (pc + 3) L st (up2 M k 11 v)) : G X F pc L (.int v :: .ref k :: st) M := g_put hF (ty := .int) iX5 tyX5 tyX5_ok nmX5 rfl (by decide) hk hkd hN (j := 11) (by decide) wf_X5_49 rfl rfl (by decide +kernel) rfl rfl rfl dg kk
theorem wf_X1_145 : Cond.fieldLink RX1 145 RX5 "hire" "I" ∈ tb := tb_mem 117 (by decide +kernel) (by decide +kernel)
theorem gf_X1_145 {X : Cx} {F : Fx} {cc : ByteArray} {nL d pc k : Nat} {L : List (Option Value)} {st : List Value} {M : Mem} (hF : FK X F cc RX1 nL d) (hk : k ∈ xcs X) (hkd : kd k = 4) (hN : ln k = 12) (dg : decode cc pc = .ok (.getfield 145, 3)) (kk : G X F (pc + 3) L (.int (M k 11) :: st) M) : G X F pc L (.ref k :: st) M := g_get hF iX5 rfl (by decide) hk hkd hN (j := 11) (by decide) wf_X1_145 rfl (by unfold vfld; rw [hkd]; rfl) dg kk
theorem pf_X1_145 {X : Cx} {F : Fx} {cc : ByteArray} {nL d pc k : Nat} {L : List (Option Value)} {st : List Value} {M : Mem} (hF : FK X F cc RX1 nL d) (hk : k ∈ xcs X) (hkd : kd k = 4) (hN : ln k = 12) {v : Int32} (dg : decode cc pc = .ok (.putfield 145, 3)) (kk : G X F (pc + 3) L st (up2 M k 11 v)) : G X F pc L (.int v :: .ref k :: st) M := g_put hF (ty := .int) iX5 tyX5 tyX5_ok nmX5 rfl (by decide) hk hkd hN (j := 11) (by decide) wf_X1_145 rfl rfl (by decide +kernel) rfl rfl rfl dg kk
theorem wf_X0_45 : Cond.fieldLink RX0 45 RX0 "$VALUES" "[LWhichEncore$Clause;" ∈ tb := tb_mem 155 (by decide +kernel) (by decide +kernel)
theorem wf_X4_12 : Cond.fieldLink RX4 12 RX4 "draft" "LWhichEncore$Told;" ∈ tb := tb_mem 165 (by decide +kernel) (by decide +kernel)
theorem gf_X4_12 {X : Cx} {F : Fx} {cc : ByteArray} {nL d pc k : Nat} {L : List (Option Value)} {st : List Value} {M : Mem} (hF : FK X F cc RX4 nL d) (hk : k ∈ xcs X) (hkd : kd k = 3) (hN : ln k = 7) (dg : decode cc pc = .ok (.getfield 12, 3)) (kk : G X F (pc + 3) L (.ref 10 :: st) M) : G X F pc L (.ref k :: st) M := g_get hF iX4 rfl (by decide) hk hkd hN (j := 0) (by decide) wf_X4_12 rfl (by unfold vfld; rw [hkd]; rfl) dg kk
theorem wf_X6_76 : Cond.fieldLink RX6 76 RX4 "draft" "LWhichEncore$Told;" ∈ tb := tb_mem 166 (by decide +kernel) (by decide +kernel)
theorem gf_X6_76 {X : Cx} {F : Fx} {cc : ByteArray} {nL d pc k : Nat} {L : List (Option Value)} {st : List Value} {M : Mem} (hF : FK X F cc RX6 nL d) (hk : k ∈ xcs X) (hkd : kd k = 3) (hN : ln k = 7) (dg : decode cc pc = .ok (.getfield 76, 3)) (kk : G X F (pc + 3) L (.ref 10 :: st) M) : G X F pc L (.ref k :: st) M := g_get hF iX4 rfl (by decide) hk hkd hN (j := 0) (by decide) wf_X6_76 rfl (by unfold vfld; rw [hkd]; rfl) dg kk
theorem wf_X4_36 : Cond.fieldLink RX4 36 RX4 "length" "I" ∈ tb := tb_mem 167 (by decide +kernel) (by decide +kernel)
theorem gf_X4_36 {X : Cx} {F : Fx} {cc : ByteArray} {nL d pc k : Nat} {L : List (Option Value)} {st : List Value} {M : Mem} (hF : FK X F cc RX4 nL d) (hk : k ∈ xcs X) (hkd : kd k = 3) (hN : ln k = 7) (dg : decode cc pc = .ok (.getfield 36, 3)) (kk : G X F (pc + 3) L (.int (M k 1) :: st) M) : G X F pc L (.ref k :: st) M := g_get hF iX4 rfl (by decide) hk hkd hN (j := 1) (by decide) wf_X4_36 rfl (by unfold vfld; rw [hkd]; rfl) dg kk
theorem pf_X4_36 {X : Cx} {F : Fx} {cc : ByteArray} {nL d pc k : Nat} {L : List (Option Value)} {st : List Value} {M : Mem} (hF : FK X F cc RX4 nL d) (hk : k ∈ xcs X) (hkd : kd k = 3) (hN : ln k = 7) {v : Int32} (dg : decode cc pc = .ok (.putfield 36, 3)) (kk : G X F (pc + 3) L st (up2 M k 1 v)) : G X F pc L (.int v :: .ref k :: st) M := g_put hF (ty := .int) iX4 tyX4 tyX4_ok nmX4 rfl (by decide) hk hkd hN (j := 1) (by decide) wf_X4_36 rfl rfl (by decide +kernel) rfl rfl rfl dg kk
theorem wf_X6_68 : Cond.fieldLink RX6 68 RX4 "length" "I" ∈ tb := tb_mem 168 (by decide +kernel) (by decide +kernel)
theorem gf_X6_68 {X : Cx} {F : Fx} {cc : ByteArray} {nL d pc k : Nat} {L : List (Option Value)} {st : List Value} {M : Mem} (hF : FK X F cc RX6 nL d) (hk : k ∈ xcs X) (hkd : kd k = 3) (hN : ln k = 7) (dg : decode cc pc = .ok (.getfield 68, 3)) (kk : G X F (pc + 3) L (.int (M k 1) :: st) M) : G X F pc L (.ref k :: st) M := g_get hF iX4 rfl (by decide) hk hkd hN (j := 1) (by decide) wf_X6_68 rfl (by unfold vfld; rw [hkd]; rfl) dg kk
theorem pf_X6_68 {X : Cx} {F : Fx} {cc : ByteArray} {nL d pc k : Nat} {L : List (Option Value)} {st : List Value} {M : Mem} (hF : FK X F cc RX6 nL d) (hk : k ∈ xcs X) (hkd : kd k = 3) (hN : ln k = 7) {v : Int32} (dg : decode cc pc = .ok (.putfield 68, 3)) (kk : G X F (pc + 3) L st (up2 M k 1 v)) : G X F pc L (.int v :: .ref k :: st) M := g_put hF (ty := .int) iX4 tyX4 tyX4_ok nmX4 rfl (by decide) hk hkd hN (j := 1) (by decide) wf_X6_68 rfl rfl (by decide +kernel) rfl rfl rfl dg kk
theorem wf_X4_47 : Cond.fieldLink RX4 47 RX4 "clauses" "I" ∈ tb := tb_mem 169 (by decide +kernel) (by decide +kernel)
theorem gf_X4_47 {X : Cx} {F : Fx} {cc : ByteArray} {nL d pc k : Nat} {L : List (Option Value)} {st : List Value} {M : Mem} (hF : FK X F cc RX4 nL d) (hk : k ∈ xcs X) (hkd : kd k = 3) (hN : ln k = 7) (dg : decode cc pc = .ok (.getfield 47, 3)) (kk : G X F (pc + 3) L (.int (M k 2) :: st) M) : G X F pc L (.ref k :: st) M := g_get hF iX4 rfl (by decide) hk hkd hN (j := 2) (by decide) wf_X4_47 rfl (by unfold vfld; rw [hkd]; rfl) dg kk
theorem pf_X4_47 {X : Cx} {F : Fx} {cc : ByteArray} {nL d pc k : Nat} {L : List (Option Value)} {st : List Value} {M : Mem} (hF : FK X F cc RX4 nL d) (hk : k ∈ xcs X) (hkd : kd k = 3) (hN : ln k = 7) {v : Int32} (dg : decode cc pc = .ok (.putfield 47, 3)) (kk : G X F (pc + 3) L st (up2 M k 2 v)) : G X F pc L (.int v :: .ref k :: st) M := g_put hF (ty := .int) iX4 tyX4 tyX4_ok nmX4 rfl (by decide) hk hkd hN (j := 2) (by decide) wf_X4_47 rfl rfl (by decide +kernel) rfl rfl rfl dg kk
theorem wf_X6_85 : Cond.fieldLink RX6 85 RX4 "clauses" "I" ∈ tb := tb_mem 170 (by decide +kernel) (by decide +kernel)
theorem gf_X6_85 {X : Cx} {F : Fx} {cc : ByteArray} {nL d pc k : Nat} {L : List (Option Value)} {st : List Value} {M : Mem} (hF : FK X F cc RX6 nL d) (hk : k ∈ xcs X) (hkd : kd k = 3) (hN : ln k = 7) (dg : decode cc pc = .ok (.getfield 85, 3)) (kk : G X F (pc + 3) L (.int (M k 2) :: st) M) : G X F pc L (.ref k :: st) M := g_get hF iX4 rfl (by decide) hk hkd hN (j := 2) (by decide) wf_X6_85 rfl (by unfold vfld; rw [hkd]; rfl) dg kk
theorem pf_X6_85 {X : Cx} {F : Fx} {cc : ByteArray} {nL d pc k : Nat} {L : List (Option Value)} {st : List Value} {M : Mem} (hF : FK X F cc RX6 nL d) (hk : k ∈ xcs X) (hkd : kd k = 3) (hN : ln k = 7) {v : Int32} (dg : decode cc pc = .ok (.putfield 85, 3)) (kk : G X F (pc + 3) L st (up2 M k 2 v)) : G X F pc L (.int v :: .ref k :: st) M := g_put hF (ty := .int) iX4 tyX4 tyX4_ok nmX4 rfl (by decide) hk hkd hN (j := 2) (by decide) wf_X6_85 rfl rfl (by decide +kernel) rfl rfl rfl dg kk
theorem wf_X4_18 : Cond.fieldLink RX4 18 RX4 "letters" "[C" ∈ tb := tb_mem 171 (by decide +kernel) (by decide +kernel)
theorem gf_X4_18 {X : Cx} {F : Fx} {cc : ByteArray} {nL d pc k : Nat} {L : List (Option Value)} {st : List Value} {M : Mem} (hF : FK X F cc RX4 nL d) (hk : k ∈ xcs X) (hkd : kd k = 3) (hN : ln k = 7) (dg : decode cc pc = .ok (.getfield 18, 3)) (kk : G X F (pc + 3) L (.ref 18 :: st) M) : G X F pc L (.ref k :: st) M := g_get hF iX4 rfl (by decide) hk hkd hN (j := 3) (by decide) wf_X4_18 rfl (by unfold vfld; rw [hkd]; rfl) dg kk
theorem wf_X4_22 : Cond.fieldLink RX4 22 RX4 "numbers" "[I" ∈ tb := tb_mem 172 (by decide +kernel) (by decide +kernel)
theorem gf_X4_22 {X : Cx} {F : Fx} {cc : ByteArray} {nL d pc k : Nat} {L : List (Option Value)} {st : List Value} {M : Mem} (hF : FK X F cc RX4 nL d) (hk : k ∈ xcs X) (hkd : kd k = 3) (hN : ln k = 7) (dg : decode cc pc = .ok (.getfield 22, 3)) (kk : G X F (pc + 3) L (.ref 19 :: st) M) : G X F pc L (.ref k :: st) M := g_get hF iX4 rfl (by decide) hk hkd hN (j := 4) (by decide) wf_X4_22 rfl (by unfold vfld; rw [hkd]; rfl) dg kk
theorem wf_X4_32 : Cond.fieldLink RX4 32 RX4 "allClauses" "[LWhichEncore$Clause;" ∈ tb := tb_mem 173 (by decide +kernel) (by decide +kernel)
theorem gf_X4_32 {X : Cx} {F : Fx} {cc : ByteArray} {nL d pc k : Nat} {L : List (Option Value)} {st : List Value} {M : Mem} (hF : FK X F cc RX4 nL d) (hk : k ∈ xcs X) (hkd : kd k = 3) (hN : ln k = 7) (dg : decode cc pc = .ok (.getfield 32, 3)) (kk : G X F (pc + 3) L (.ref 20 :: st) M) : G X F pc L (.ref k :: st) M := g_get hF iX4 rfl (by decide) hk hkd hN (j := 5) (by decide) wf_X4_32 rfl (by unfold vfld; rw [hkd]; rfl) dg kk
theorem wf_X4_44 : Cond.fieldLink RX4 44 RX4 "place" "I" ∈ tb := tb_mem 174 (by decide +kernel) (by decide +kernel)
theorem gf_X4_44 {X : Cx} {F : Fx} {cc : ByteArray} {nL d pc k : Nat} {L : List (Option Value)} {st : List Value} {M : Mem} (hF : FK X F cc RX4 nL d) (hk : k ∈ xcs X) (hkd : kd k = 3) (hN : ln k = 7) (dg : decode cc pc = .ok (.getfield 44, 3)) (kk : G X F (pc + 3) L (.int (M k 6) :: st) M) : G X F pc L (.ref k :: st) M := g_get hF iX4 rfl (by decide) hk hkd hN (j := 6) (by decide) wf_X4_44 rfl (by unfold vfld; rw [hkd]; rfl) dg kk
theorem pf_X4_44 {X : Cx} {F : Fx} {cc : ByteArray} {nL d pc k : Nat} {L : List (Option Value)} {st : List Value} {M : Mem} (hF : FK X F cc RX4 nL d) (hk : k ∈ xcs X) (hkd : kd k = 3) (hN : ln k = 7) {v : Int32} (dg : decode cc pc = .ok (.putfield 44, 3)) (kk : G X F (pc + 3) L st (up2 M k 6 v)) : G X F pc L (.int v :: .ref k :: st) M := g_put hF (ty := .int) iX4 tyX4 tyX4_ok nmX4 rfl (by decide) hk hkd hN (j := 6) (by decide) wf_X4_44 rfl rfl (by decide +kernel) rfl rfl rfl dg kk
theorem wf_X1_9 : Cond.fieldLink RX1 9 RX1 "zeal" "[I" ∈ tb := tb_mem 197 (by decide +kernel) (by decide +kernel)
theorem gf_X1_9 {X : Cx} {F : Fx} {cc : ByteArray} {nL d pc k : Nat} {L : List (Option Value)} {st : List Value} {M : Mem} (hF : FK X F cc RX1 nL d) (hk : k ∈ xcs X) (hkd : kd k = 0) (hN : ln k = 10) {t : Nat} (ht : k + 1 = t) (dg : decode cc pc = .ok (.getfield 9, 3)) (kk : G X F (pc + 3) L (.ref t :: st) M) : G X F pc L (.ref k :: st) M := g_get hF iX1 rfl (by decide) hk hkd hN (j := 0) (by decide) wf_X1_9 rfl (by subst ht; unfold vfld; rw [hkd]; rfl) dg kk
theorem wf_X6_94 : Cond.fieldLink RX6 94 RX1 "zeal" "[I" ∈ tb := tb_mem 198 (by decide +kernel) (by decide +kernel)
theorem gf_X6_94 {X : Cx} {F : Fx} {cc : ByteArray} {nL d pc k : Nat} {L : List (Option Value)} {st : List Value} {M : Mem} (hF : FK X F cc RX6 nL d) (hk : k ∈ xcs X) (hkd : kd k = 0) (hN : ln k = 10) {t : Nat} (ht : k + 1 = t) (dg : decode cc pc = .ok (.getfield 94, 3)) (kk : G X F (pc + 3) L (.ref t :: st) M) : G X F pc L (.ref k :: st) M := g_get hF iX1 rfl (by decide) hk hkd hN (j := 0) (by decide) wf_X6_94 rfl (by subst ht; unfold vfld; rw [hkd]; rfl) dg kk
theorem wf_X1_34 : Cond.fieldLink RX1 34 RX1 "there" "I" ∈ tb := tb_mem 199 (by decide +kernel) (by decide +kernel)
theorem gf_X1_34 {X : Cx} {F : Fx} {cc : ByteArray} {nL d pc k : Nat} {L : List (Option Value)} {st : List Value} {M : Mem} (hF : FK X F cc RX1 nL d) (hk : k ∈ xcs X) (hkd : kd k = 0) (hN : ln k = 10) (dg : decode cc pc = .ok (.getfield 34, 3)) (kk : G X F (pc + 3) L (.int (M k 1) :: st) M) : G X F pc L (.ref k :: st) M := g_get hF iX1 rfl (by decide) hk hkd hN (j := 1) (by decide) wf_X1_34 rfl (by unfold vfld; rw [hkd]; rfl) dg kk
theorem pf_X1_34 {X : Cx} {F : Fx} {cc : ByteArray} {nL d pc k : Nat} {L : List (Option Value)} {st : List Value} {M : Mem} (hF : FK X F cc RX1 nL d) (hk : k ∈ xcs X) (hkd : kd k = 0) (hN : ln k = 10) {v : Int32} (dg : decode cc pc = .ok (.putfield 34, 3)) (kk : G X F (pc + 3) L st (up2 M k 1 v)) : G X F pc L (.int v :: .ref k :: st) M := g_put hF (ty := .int) iX1 tyX1 tyX1_ok nmX1 rfl (by decide) hk hkd hN (j := 1) (by decide) wf_X1_34 rfl rfl (by decide +kernel) rfl rfl rfl dg kk
theorem wf_X6_185 : Cond.fieldLink RX6 185 RX1 "there" "I" ∈ tb := tb_mem 200 (by decide +kernel) (by decide +kernel)
theorem gf_X6_185 {X : Cx} {F : Fx} {cc : ByteArray} {nL d pc k : Nat} {L : List (Option Value)} {st : List Value} {M : Mem} (hF : FK X F cc RX6 nL d) (hk : k ∈ xcs X) (hkd : kd k = 0) (hN : ln k = 10) (dg : decode cc pc = .ok (.getfield 185, 3)) (kk : G X F (pc + 3) L (.int (M k 1) :: st) M) : G X F pc L (.ref k :: st) M := g_get hF iX1 rfl (by decide) hk hkd hN (j := 1) (by decide) wf_X6_185 rfl (by unfold vfld; rw [hkd]; rfl) dg kk
theorem pf_X6_185 {X : Cx} {F : Fx} {cc : ByteArray} {nL d pc k : Nat} {L : List (Option Value)} {st : List Value} {M : Mem} (hF : FK X F cc RX6 nL d) (hk : k ∈ xcs X) (hkd : kd k = 0) (hN : ln k = 10) {v : Int32} (dg : decode cc pc = .ok (.putfield 185, 3)) (kk : G X F (pc + 3) L st (up2 M k 1 v)) : G X F pc L (.int v :: .ref k :: st) M := g_put hF (ty := .int) iX1 tyX1 tyX1_ok nmX1 rfl (by decide) hk hkd hN (j := 1) (by decide) wf_X6_185 rfl rfl (by decide +kernel) rfl rfl rfl dg kk
theorem wf_X1_37 : Cond.fieldLink RX1 37 RX1 "minute" "I" ∈ tb := tb_mem 201 (by decide +kernel) (by decide +kernel)
theorem gf_X1_37 {X : Cx} {F : Fx} {cc : ByteArray} {nL d pc k : Nat} {L : List (Option Value)} {st : List Value} {M : Mem} (hF : FK X F cc RX1 nL d) (hk : k ∈ xcs X) (hkd : kd k = 0) (hN : ln k = 10) (dg : decode cc pc = .ok (.getfield 37, 3)) (kk : G X F (pc + 3) L (.int (M k 2) :: st) M) : G X F pc L (.ref k :: st) M := g_get hF iX1 rfl (by decide) hk hkd hN (j := 2) (by decide) wf_X1_37 rfl (by unfold vfld; rw [hkd]; rfl) dg kk
theorem pf_X1_37 {X : Cx} {F : Fx} {cc : ByteArray} {nL d pc k : Nat} {L : List (Option Value)} {st : List Value} {M : Mem} (hF : FK X F cc RX1 nL d) (hk : k ∈ xcs X) (hkd : kd k = 0) (hN : ln k = 10) {v : Int32} (dg : decode cc pc = .ok (.putfield 37, 3)) (kk : G X F (pc + 3) L st (up2 M k 2 v)) : G X F pc L (.int v :: .ref k :: st) M := g_put hF (ty := .int) iX1 tyX1 tyX1_ok nmX1 rfl (by decide) hk hkd hN (j := 2) (by decide) wf_X1_37 rfl rfl (by decide +kernel) rfl rfl rfl dg kk
theorem wf_X6_156 : Cond.fieldLink RX6 156 RX1 "minute" "I" ∈ tb := tb_mem 202 (by decide +kernel) (by decide +kernel)
theorem gf_X6_156 {X : Cx} {F : Fx} {cc : ByteArray} {nL d pc k : Nat} {L : List (Option Value)} {st : List Value} {M : Mem} (hF : FK X F cc RX6 nL d) (hk : k ∈ xcs X) (hkd : kd k = 0) (hN : ln k = 10) (dg : decode cc pc = .ok (.getfield 156, 3)) (kk : G X F (pc + 3) L (.int (M k 2) :: st) M) : G X F pc L (.ref k :: st) M := g_get hF iX1 rfl (by decide) hk hkd hN (j := 2) (by decide) wf_X6_156 rfl (by unfold vfld; rw [hkd]; rfl) dg kk
theorem pf_X6_156 {X : Cx} {F : Fx} {cc : ByteArray} {nL d pc k : Nat} {L : List (Option Value)} {st : List Value} {M : Mem} (hF : FK X F cc RX6 nL d) (hk : k ∈ xcs X) (hkd : kd k = 0) (hN : ln k = 10) {v : Int32} (dg : decode cc pc = .ok (.putfield 156, 3)) (kk : G X F (pc + 3) L st (up2 M k 2 v)) : G X F pc L (.int v :: .ref k :: st) M := g_put hF (ty := .int) iX1 tyX1 tyX1_ok nmX1 rfl (by decide) hk hkd hN (j := 2) (by decide) wf_X6_156 rfl rfl (by decide +kernel) rfl rfl rfl dg kk
theorem wf_X3_31 : Cond.fieldLink RX3 31 RX1 "arm" "I" ∈ tb := tb_mem 203 (by decide +kernel) (by decide +kernel)
theorem gf_X3_31 {X : Cx} {F : Fx} {cc : ByteArray} {nL d pc k : Nat} {L : List (Option Value)} {st : List Value} {M : Mem} (hF : FK X F cc RX3 nL d) (hk : k ∈ xcs X) (hkd : kd k = 0) (hN : ln k = 10) (dg : decode cc pc = .ok (.getfield 31, 3)) (kk : G X F (pc + 3) L (.int (M k 3) :: st) M) : G X F pc L (.ref k :: st) M := g_get hF iX1 rfl (by decide) hk hkd hN (j := 3) (by decide) wf_X3_31 rfl (by unfold vfld; rw [hkd]; rfl) dg kk
theorem pf_X3_31 {X : Cx} {F : Fx} {cc : ByteArray} {nL d pc k : Nat} {L : List (Option Value)} {st : List Value} {M : Mem} (hF : FK X F cc RX3 nL d) (hk : k ∈ xcs X) (hkd : kd k = 0) (hN : ln k = 10) {v : Int32} (dg : decode cc pc = .ok (.putfield 31, 3)) (kk : G X F (pc + 3) L st (up2 M k 3 v)) : G X F pc L (.int v :: .ref k :: st) M := g_put hF (ty := .int) iX1 tyX1 tyX1_ok nmX1 rfl (by decide) hk hkd hN (j := 3) (by decide) wf_X3_31 rfl rfl (by decide +kernel) rfl rfl rfl dg kk
theorem wf_X1_43 : Cond.fieldLink RX1 43 RX1 "arm" "I" ∈ tb := tb_mem 204 (by decide +kernel) (by decide +kernel)
theorem gf_X1_43 {X : Cx} {F : Fx} {cc : ByteArray} {nL d pc k : Nat} {L : List (Option Value)} {st : List Value} {M : Mem} (hF : FK X F cc RX1 nL d) (hk : k ∈ xcs X) (hkd : kd k = 0) (hN : ln k = 10) (dg : decode cc pc = .ok (.getfield 43, 3)) (kk : G X F (pc + 3) L (.int (M k 3) :: st) M) : G X F pc L (.ref k :: st) M := g_get hF iX1 rfl (by decide) hk hkd hN (j := 3) (by decide) wf_X1_43 rfl (by unfold vfld; rw [hkd]; rfl) dg kk
theorem pf_X1_43 {X : Cx} {F : Fx} {cc : ByteArray} {nL d pc k : Nat} {L : List (Option Value)} {st : List Value} {M : Mem} (hF : FK X F cc RX1 nL d) (hk : k ∈ xcs X) (hkd : kd k = 0) (hN : ln k = 10) {v : Int32} (dg : decode cc pc = .ok (.putfield 43, 3)) (kk : G X F (pc + 3) L st (up2 M k 3 v)) : G X F pc L (.int v :: .ref k :: st) M := g_put hF (ty := .int) iX1 tyX1 tyX1_ok nmX1 rfl (by decide) hk hkd hN (j := 3) (by decide) wf_X1_43 rfl rfl (by decide +kernel) rfl rfl rfl dg kk
theorem wf_X6_188 : Cond.fieldLink RX6 188 RX1 "arm" "I" ∈ tb := tb_mem 205 (by decide +kernel) (by decide +kernel)
theorem gf_X6_188 {X : Cx} {F : Fx} {cc : ByteArray} {nL d pc k : Nat} {L : List (Option Value)} {st : List Value} {M : Mem} (hF : FK X F cc RX6 nL d) (hk : k ∈ xcs X) (hkd : kd k = 0) (hN : ln k = 10) (dg : decode cc pc = .ok (.getfield 188, 3)) (kk : G X F (pc + 3) L (.int (M k 3) :: st) M) : G X F pc L (.ref k :: st) M := g_get hF iX1 rfl (by decide) hk hkd hN (j := 3) (by decide) wf_X6_188 rfl (by unfold vfld; rw [hkd]; rfl) dg kk
theorem pf_X6_188 {X : Cx} {F : Fx} {cc : ByteArray} {nL d pc k : Nat} {L : List (Option Value)} {st : List Value} {M : Mem} (hF : FK X F cc RX6 nL d) (hk : k ∈ xcs X) (hkd : kd k = 0) (hN : ln k = 10) {v : Int32} (dg : decode cc pc = .ok (.putfield 188, 3)) (kk : G X F (pc + 3) L st (up2 M k 3 v)) : G X F pc L (.int v :: .ref k :: st) M := g_put hF (ty := .int) iX1 tyX1 tyX1_ok nmX1 rfl (by decide) hk hkd hN (j := 3) (by decide) wf_X6_188 rfl rfl (by decide +kernel) rfl rfl rfl dg kk
theorem wf_X1_44 : Cond.fieldLink RX1 44 RX1 "played" "I" ∈ tb := tb_mem 206 (by decide +kernel) (by decide +kernel)
theorem gf_X1_44 {X : Cx} {F : Fx} {cc : ByteArray} {nL d pc k : Nat} {L : List (Option Value)} {st : List Value} {M : Mem} (hF : FK X F cc RX1 nL d) (hk : k ∈ xcs X) (hkd : kd k = 0) (hN : ln k = 10) (dg : decode cc pc = .ok (.getfield 44, 3)) (kk : G X F (pc + 3) L (.int (M k 4) :: st) M) : G X F pc L (.ref k :: st) M := g_get hF iX1 rfl (by decide) hk hkd hN (j := 4) (by decide) wf_X1_44 rfl (by unfold vfld; rw [hkd]; rfl) dg kk
theorem pf_X1_44 {X : Cx} {F : Fx} {cc : ByteArray} {nL d pc k : Nat} {L : List (Option Value)} {st : List Value} {M : Mem} (hF : FK X F cc RX1 nL d) (hk : k ∈ xcs X) (hkd : kd k = 0) (hN : ln k = 10) {v : Int32} (dg : decode cc pc = .ok (.putfield 44, 3)) (kk : G X F (pc + 3) L st (up2 M k 4 v)) : G X F pc L (.int v :: .ref k :: st) M := g_put hF (ty := .int) iX1 tyX1 tyX1_ok nmX1 rfl (by decide) hk hkd hN (j := 4) (by decide) wf_X1_44 rfl rfl (by decide +kernel) rfl rfl rfl dg kk
theorem wf_X6_248 : Cond.fieldLink RX6 248 RX1 "played" "I" ∈ tb := tb_mem 207 (by decide +kernel) (by decide +kernel)
theorem gf_X6_248 {X : Cx} {F : Fx} {cc : ByteArray} {nL d pc k : Nat} {L : List (Option Value)} {st : List Value} {M : Mem} (hF : FK X F cc RX6 nL d) (hk : k ∈ xcs X) (hkd : kd k = 0) (hN : ln k = 10) (dg : decode cc pc = .ok (.getfield 248, 3)) (kk : G X F (pc + 3) L (.int (M k 4) :: st) M) : G X F pc L (.ref k :: st) M := g_get hF iX1 rfl (by decide) hk hkd hN (j := 4) (by decide) wf_X6_248 rfl (by unfold vfld; rw [hkd]; rfl) dg kk
theorem pf_X6_248 {X : Cx} {F : Fx} {cc : ByteArray} {nL d pc k : Nat} {L : List (Option Value)} {st : List Value} {M : Mem} (hF : FK X F cc RX6 nL d) (hk : k ∈ xcs X) (hkd : kd k = 0) (hN : ln k = 10) {v : Int32} (dg : decode cc pc = .ok (.putfield 248, 3)) (kk : G X F (pc + 3) L st (up2 M k 4 v)) : G X F pc L (.int v :: .ref k :: st) M := g_put hF (ty := .int) iX1 tyX1 tyX1_ok nmX1 rfl (by decide) hk hkd hN (j := 4) (by decide) wf_X6_248 rfl rfl (by decide +kernel) rfl rfl rfl dg kk
theorem wf_X1_47 : Cond.fieldLink RX1 47 RX1 "bows" "I" ∈ tb := tb_mem 208 (by decide +kernel) (by decide +kernel)
theorem gf_X1_47 {X : Cx} {F : Fx} {cc : ByteArray} {nL d pc k : Nat} {L : List (Option Value)} {st : List Value} {M : Mem} (hF : FK X F cc RX1 nL d) (hk : k ∈ xcs X) (hkd : kd k = 0) (hN : ln k = 10) (dg : decode cc pc = .ok (.getfield 47, 3)) (kk : G X F (pc + 3) L (.int (M k 5) :: st) M) : G X F pc L (.ref k :: st) M := g_get hF iX1 rfl (by decide) hk hkd hN (j := 5) (by decide) wf_X1_47 rfl (by unfold vfld; rw [hkd]; rfl) dg kk
theorem pf_X1_47 {X : Cx} {F : Fx} {cc : ByteArray} {nL d pc k : Nat} {L : List (Option Value)} {st : List Value} {M : Mem} (hF : FK X F cc RX1 nL d) (hk : k ∈ xcs X) (hkd : kd k = 0) (hN : ln k = 10) {v : Int32} (dg : decode cc pc = .ok (.putfield 47, 3)) (kk : G X F (pc + 3) L st (up2 M k 5 v)) : G X F pc L (.int v :: .ref k :: st) M := g_put hF (ty := .int) iX1 tyX1 tyX1_ok nmX1 rfl (by decide) hk hkd hN (j := 5) (by decide) wf_X1_47 rfl rfl (by decide +kernel) rfl rfl rfl dg kk
theorem wf_X6_239 : Cond.fieldLink RX6 239 RX1 "bows" "I" ∈ tb := tb_mem 209 (by decide +kernel) (by decide +kernel)
theorem gf_X6_239 {X : Cx} {F : Fx} {cc : ByteArray} {nL d pc k : Nat} {L : List (Option Value)} {st : List Value} {M : Mem} (hF : FK X F cc RX6 nL d) (hk : k ∈ xcs X) (hkd : kd k = 0) (hN : ln k = 10) (dg : decode cc pc = .ok (.getfield 239, 3)) (kk : G X F (pc + 3) L (.int (M k 5) :: st) M) : G X F pc L (.ref k :: st) M := g_get hF iX1 rfl (by decide) hk hkd hN (j := 5) (by decide) wf_X6_239 rfl (by unfold vfld; rw [hkd]; rfl) dg kk
theorem pf_X6_239 {X : Cx} {F : Fx} {cc : ByteArray} {nL d pc k : Nat} {L : List (Option Value)} {st : List Value} {M : Mem} (hF : FK X F cc RX6 nL d) (hk : k ∈ xcs X) (hkd : kd k = 0) (hN : ln k = 10) {v : Int32} (dg : decode cc pc = .ok (.putfield 239, 3)) (kk : G X F (pc + 3) L st (up2 M k 5 v)) : G X F pc L (.int v :: .ref k :: st) M := g_put hF (ty := .int) iX1 tyX1 tyX1_ok nmX1 rfl (by decide) hk hkd hN (j := 5) (by decide) wf_X6_239 rfl rfl (by decide +kernel) rfl rfl rfl dg kk
theorem wf_X1_50 : Cond.fieldLink RX1 50 RX1 "paid" "I" ∈ tb := tb_mem 210 (by decide +kernel) (by decide +kernel)
theorem gf_X1_50 {X : Cx} {F : Fx} {cc : ByteArray} {nL d pc k : Nat} {L : List (Option Value)} {st : List Value} {M : Mem} (hF : FK X F cc RX1 nL d) (hk : k ∈ xcs X) (hkd : kd k = 0) (hN : ln k = 10) (dg : decode cc pc = .ok (.getfield 50, 3)) (kk : G X F (pc + 3) L (.int (M k 6) :: st) M) : G X F pc L (.ref k :: st) M := g_get hF iX1 rfl (by decide) hk hkd hN (j := 6) (by decide) wf_X1_50 rfl (by unfold vfld; rw [hkd]; rfl) dg kk
theorem pf_X1_50 {X : Cx} {F : Fx} {cc : ByteArray} {nL d pc k : Nat} {L : List (Option Value)} {st : List Value} {M : Mem} (hF : FK X F cc RX1 nL d) (hk : k ∈ xcs X) (hkd : kd k = 0) (hN : ln k = 10) {v : Int32} (dg : decode cc pc = .ok (.putfield 50, 3)) (kk : G X F (pc + 3) L st (up2 M k 6 v)) : G X F pc L (.int v :: .ref k :: st) M := g_put hF (ty := .int) iX1 tyX1 tyX1_ok nmX1 rfl (by decide) hk hkd hN (j := 6) (by decide) wf_X1_50 rfl rfl (by decide +kernel) rfl rfl rfl dg kk
theorem wf_X3_70 : Cond.fieldLink RX3 70 RX1 "paid" "I" ∈ tb := tb_mem 211 (by decide +kernel) (by decide +kernel)
theorem gf_X3_70 {X : Cx} {F : Fx} {cc : ByteArray} {nL d pc k : Nat} {L : List (Option Value)} {st : List Value} {M : Mem} (hF : FK X F cc RX3 nL d) (hk : k ∈ xcs X) (hkd : kd k = 0) (hN : ln k = 10) (dg : decode cc pc = .ok (.getfield 70, 3)) (kk : G X F (pc + 3) L (.int (M k 6) :: st) M) : G X F pc L (.ref k :: st) M := g_get hF iX1 rfl (by decide) hk hkd hN (j := 6) (by decide) wf_X3_70 rfl (by unfold vfld; rw [hkd]; rfl) dg kk
theorem pf_X3_70 {X : Cx} {F : Fx} {cc : ByteArray} {nL d pc k : Nat} {L : List (Option Value)} {st : List Value} {M : Mem} (hF : FK X F cc RX3 nL d) (hk : k ∈ xcs X) (hkd : kd k = 0) (hN : ln k = 10) {v : Int32} (dg : decode cc pc = .ok (.putfield 70, 3)) (kk : G X F (pc + 3) L st (up2 M k 6 v)) : G X F pc L (.int v :: .ref k :: st) M := g_put hF (ty := .int) iX1 tyX1 tyX1_ok nmX1 rfl (by decide) hk hkd hN (j := 6) (by decide) wf_X3_70 rfl rfl (by decide +kernel) rfl rfl rfl dg kk
theorem wf_X6_242 : Cond.fieldLink RX6 242 RX1 "paid" "I" ∈ tb := tb_mem 212 (by decide +kernel) (by decide +kernel)
theorem gf_X6_242 {X : Cx} {F : Fx} {cc : ByteArray} {nL d pc k : Nat} {L : List (Option Value)} {st : List Value} {M : Mem} (hF : FK X F cc RX6 nL d) (hk : k ∈ xcs X) (hkd : kd k = 0) (hN : ln k = 10) (dg : decode cc pc = .ok (.getfield 242, 3)) (kk : G X F (pc + 3) L (.int (M k 6) :: st) M) : G X F pc L (.ref k :: st) M := g_get hF iX1 rfl (by decide) hk hkd hN (j := 6) (by decide) wf_X6_242 rfl (by unfold vfld; rw [hkd]; rfl) dg kk
theorem pf_X6_242 {X : Cx} {F : Fx} {cc : ByteArray} {nL d pc k : Nat} {L : List (Option Value)} {st : List Value} {M : Mem} (hF : FK X F cc RX6 nL d) (hk : k ∈ xcs X) (hkd : kd k = 0) (hN : ln k = 10) {v : Int32} (dg : decode cc pc = .ok (.putfield 242, 3)) (kk : G X F (pc + 3) L st (up2 M k 6 v)) : G X F pc L (.int v :: .ref k :: st) M := g_put hF (ty := .int) iX1 tyX1 tyX1_ok nmX1 rfl (by decide) hk hkd hN (j := 6) (by decide) wf_X6_242 rfl rfl (by decide +kernel) rfl rfl rfl dg kk
theorem wf_X1_53 : Cond.fieldLink RX1 53 RX1 "fame" "I" ∈ tb := tb_mem 213 (by decide +kernel) (by decide +kernel)
theorem gf_X1_53 {X : Cx} {F : Fx} {cc : ByteArray} {nL d pc k : Nat} {L : List (Option Value)} {st : List Value} {M : Mem} (hF : FK X F cc RX1 nL d) (hk : k ∈ xcs X) (hkd : kd k = 0) (hN : ln k = 10) (dg : decode cc pc = .ok (.getfield 53, 3)) (kk : G X F (pc + 3) L (.int (M k 7) :: st) M) : G X F pc L (.ref k :: st) M := g_get hF iX1 rfl (by decide) hk hkd hN (j := 7) (by decide) wf_X1_53 rfl (by unfold vfld; rw [hkd]; rfl) dg kk
theorem pf_X1_53 {X : Cx} {F : Fx} {cc : ByteArray} {nL d pc k : Nat} {L : List (Option Value)} {st : List Value} {M : Mem} (hF : FK X F cc RX1 nL d) (hk : k ∈ xcs X) (hkd : kd k = 0) (hN : ln k = 10) {v : Int32} (dg : decode cc pc = .ok (.putfield 53, 3)) (kk : G X F (pc + 3) L st (up2 M k 7 v)) : G X F pc L (.int v :: .ref k :: st) M := g_put hF (ty := .int) iX1 tyX1 tyX1_ok nmX1 rfl (by decide) hk hkd hN (j := 7) (by decide) wf_X1_53 rfl rfl (by decide +kernel) rfl rfl rfl dg kk
theorem wf_X3_67 : Cond.fieldLink RX3 67 RX1 "fame" "I" ∈ tb := tb_mem 214 (by decide +kernel) (by decide +kernel)
theorem gf_X3_67 {X : Cx} {F : Fx} {cc : ByteArray} {nL d pc k : Nat} {L : List (Option Value)} {st : List Value} {M : Mem} (hF : FK X F cc RX3 nL d) (hk : k ∈ xcs X) (hkd : kd k = 0) (hN : ln k = 10) (dg : decode cc pc = .ok (.getfield 67, 3)) (kk : G X F (pc + 3) L (.int (M k 7) :: st) M) : G X F pc L (.ref k :: st) M := g_get hF iX1 rfl (by decide) hk hkd hN (j := 7) (by decide) wf_X3_67 rfl (by unfold vfld; rw [hkd]; rfl) dg kk
theorem pf_X3_67 {X : Cx} {F : Fx} {cc : ByteArray} {nL d pc k : Nat} {L : List (Option Value)} {st : List Value} {M : Mem} (hF : FK X F cc RX3 nL d) (hk : k ∈ xcs X) (hkd : kd k = 0) (hN : ln k = 10) {v : Int32} (dg : decode cc pc = .ok (.putfield 67, 3)) (kk : G X F (pc + 3) L st (up2 M k 7 v)) : G X F pc L (.int v :: .ref k :: st) M := g_put hF (ty := .int) iX1 tyX1 tyX1_ok nmX1 rfl (by decide) hk hkd hN (j := 7) (by decide) wf_X3_67 rfl rfl (by decide +kernel) rfl rfl rfl dg kk
theorem wf_X6_245 : Cond.fieldLink RX6 245 RX1 "fame" "I" ∈ tb := tb_mem 215 (by decide +kernel) (by decide +kernel)
theorem gf_X6_245 {X : Cx} {F : Fx} {cc : ByteArray} {nL d pc k : Nat} {L : List (Option Value)} {st : List Value} {M : Mem} (hF : FK X F cc RX6 nL d) (hk : k ∈ xcs X) (hkd : kd k = 0) (hN : ln k = 10) (dg : decode cc pc = .ok (.getfield 245, 3)) (kk : G X F (pc + 3) L (.int (M k 7) :: st) M) : G X F pc L (.ref k :: st) M := g_get hF iX1 rfl (by decide) hk hkd hN (j := 7) (by decide) wf_X6_245 rfl (by unfold vfld; rw [hkd]; rfl) dg kk
theorem pf_X6_245 {X : Cx} {F : Fx} {cc : ByteArray} {nL d pc k : Nat} {L : List (Option Value)} {st : List Value} {M : Mem} (hF : FK X F cc RX6 nL d) (hk : k ∈ xcs X) (hkd : kd k = 0) (hN : ln k = 10) {v : Int32} (dg : decode cc pc = .ok (.putfield 245, 3)) (kk : G X F (pc + 3) L st (up2 M k 7 v)) : G X F pc L (.int v :: .ref k :: st) M := g_put hF (ty := .int) iX1 tyX1 tyX1_ok nmX1 rfl (by decide) hk hkd hN (j := 7) (by decide) wf_X6_245 rfl rfl (by decide +kernel) rfl rfl rfl dg kk
theorem wf_X1_56 : Cond.fieldLink RX1 56 RX1 "knownPlayed" "Z" ∈ tb := tb_mem 216 (by decide +kernel) (by decide +kernel)
theorem gf_X1_56 {X : Cx} {F : Fx} {cc : ByteArray} {nL d pc k : Nat} {L : List (Option Value)} {st : List Value} {M : Mem} (hF : FK X F cc RX1 nL d) (hk : k ∈ xcs X) (hkd : kd k = 0) (hN : ln k = 10) (dg : decode cc pc = .ok (.getfield 56, 3)) (kk : G X F (pc + 3) L (.int (M k 8) :: st) M) : G X F pc L (.ref k :: st) M := g_get hF iX1 rfl (by decide) hk hkd hN (j := 8) (by decide) wf_X1_56 rfl (by unfold vfld; rw [hkd]; rfl) dg kk
theorem pf_X1_56 {X : Cx} {F : Fx} {cc : ByteArray} {nL d pc k : Nat} {L : List (Option Value)} {st : List Value} {M : Mem} (hF : FK X F cc RX1 nL d) (hk : k ∈ xcs X) (hkd : kd k = 0) (hN : ln k = 10) {v : Int32} (hz : zok v = true) (dg : decode cc pc = .ok (.putfield 56, 3)) (kk : G X F (pc + 3) L st (up2 M k 8 v)) : G X F pc L (.int v :: .ref k :: st) M := g_put hF (ty := .boolean) iX1 tyX1 tyX1_ok nmX1 rfl (by decide) hk hkd hN (j := 8) (by decide) wf_X1_56 rfl rfl (by decide +kernel) rfl (zok_n hz) (zok_f hz) dg kk
theorem wf_X1_15 : Cond.fieldLink RX1 15 RX1 "told" "LWhichEncore$Told;" ∈ tb := tb_mem 217 (by decide +kernel) (by decide +kernel)
theorem gf_X1_15 {X : Cx} {F : Fx} {cc : ByteArray} {nL d pc k : Nat} {L : List (Option Value)} {st : List Value} {M : Mem} (hF : FK X F cc RX1 nL d) (hk : k ∈ xcs X) (hkd : kd k = 0) (hN : ln k = 10) (dg : decode cc pc = .ok (.getfield 15, 3)) (kk : G X F (pc + 3) L (.ref 1 :: st) M) : G X F pc L (.ref k :: st) M := g_get hF iX1 rfl (by decide) hk hkd hN (j := 9) (by decide) wf_X1_15 rfl (by unfold vfld; rw [hkd]; rfl) dg kk
theorem wf_X3_35 : Cond.fieldLink RX3 35 RX3 "bestGrowth" "I" ∈ tb := tb_mem 248 (by decide +kernel) (by decide +kernel)
theorem gf_X3_35 {X : Cx} {F : Fx} {cc : ByteArray} {nL d pc k : Nat} {L : List (Option Value)} {st : List Value} {M : Mem} (hF : FK X F cc RX3 nL d) (hk : k ∈ xcs X) (hkd : kd k = 2) (hN : ln k = 5) (dg : decode cc pc = .ok (.getfield 35, 3)) (kk : G X F (pc + 3) L (.int (M k 0) :: st) M) : G X F pc L (.ref k :: st) M := g_get hF iX3 rfl (by decide) hk hkd hN (j := 0) (by decide) wf_X3_35 rfl (by unfold vfld; rw [hkd]; rfl) dg kk
theorem pf_X3_35 {X : Cx} {F : Fx} {cc : ByteArray} {nL d pc k : Nat} {L : List (Option Value)} {st : List Value} {M : Mem} (hF : FK X F cc RX3 nL d) (hk : k ∈ xcs X) (hkd : kd k = 2) (hN : ln k = 5) {v : Int32} (dg : decode cc pc = .ok (.putfield 35, 3)) (kk : G X F (pc + 3) L st (up2 M k 0 v)) : G X F pc L (.int v :: .ref k :: st) M := g_put hF (ty := .int) iX3 tyX3 tyX3_ok nmX3 rfl (by decide) hk hkd hN (j := 0) (by decide) wf_X3_35 rfl rfl (by decide +kernel) rfl rfl rfl dg kk
theorem wf_X6_195 : Cond.fieldLink RX6 195 RX3 "bestGrowth" "I" ∈ tb := tb_mem 249 (by decide +kernel) (by decide +kernel)
theorem gf_X6_195 {X : Cx} {F : Fx} {cc : ByteArray} {nL d pc k : Nat} {L : List (Option Value)} {st : List Value} {M : Mem} (hF : FK X F cc RX6 nL d) (hk : k ∈ xcs X) (hkd : kd k = 2) (hN : ln k = 5) (dg : decode cc pc = .ok (.getfield 195, 3)) (kk : G X F (pc + 3) L (.int (M k 0) :: st) M) : G X F pc L (.ref k :: st) M := g_get hF iX3 rfl (by decide) hk hkd hN (j := 0) (by decide) wf_X6_195 rfl (by unfold vfld; rw [hkd]; rfl) dg kk
theorem pf_X6_195 {X : Cx} {F : Fx} {cc : ByteArray} {nL d pc k : Nat} {L : List (Option Value)} {st : List Value} {M : Mem} (hF : FK X F cc RX6 nL d) (hk : k ∈ xcs X) (hkd : kd k = 2) (hN : ln k = 5) {v : Int32} (dg : decode cc pc = .ok (.putfield 195, 3)) (kk : G X F (pc + 3) L st (up2 M k 0 v)) : G X F pc L (.int v :: .ref k :: st) M := g_put hF (ty := .int) iX3 tyX3 tyX3_ok nmX3 rfl (by decide) hk hkd hN (j := 0) (by decide) wf_X6_195 rfl rfl (by decide +kernel) rfl rfl rfl dg kk
theorem wf_X3_38 : Cond.fieldLink RX3 38 RX3 "bestLength" "I" ∈ tb := tb_mem 250 (by decide +kernel) (by decide +kernel)
theorem gf_X3_38 {X : Cx} {F : Fx} {cc : ByteArray} {nL d pc k : Nat} {L : List (Option Value)} {st : List Value} {M : Mem} (hF : FK X F cc RX3 nL d) (hk : k ∈ xcs X) (hkd : kd k = 2) (hN : ln k = 5) (dg : decode cc pc = .ok (.getfield 38, 3)) (kk : G X F (pc + 3) L (.int (M k 1) :: st) M) : G X F pc L (.ref k :: st) M := g_get hF iX3 rfl (by decide) hk hkd hN (j := 1) (by decide) wf_X3_38 rfl (by unfold vfld; rw [hkd]; rfl) dg kk
theorem pf_X3_38 {X : Cx} {F : Fx} {cc : ByteArray} {nL d pc k : Nat} {L : List (Option Value)} {st : List Value} {M : Mem} (hF : FK X F cc RX3 nL d) (hk : k ∈ xcs X) (hkd : kd k = 2) (hN : ln k = 5) {v : Int32} (dg : decode cc pc = .ok (.putfield 38, 3)) (kk : G X F (pc + 3) L st (up2 M k 1 v)) : G X F pc L (.int v :: .ref k :: st) M := g_put hF (ty := .int) iX3 tyX3 tyX3_ok nmX3 rfl (by decide) hk hkd hN (j := 1) (by decide) wf_X3_38 rfl rfl (by decide +kernel) rfl rfl rfl dg kk
theorem wf_X6_198 : Cond.fieldLink RX6 198 RX3 "bestLength" "I" ∈ tb := tb_mem 251 (by decide +kernel) (by decide +kernel)
theorem gf_X6_198 {X : Cx} {F : Fx} {cc : ByteArray} {nL d pc k : Nat} {L : List (Option Value)} {st : List Value} {M : Mem} (hF : FK X F cc RX6 nL d) (hk : k ∈ xcs X) (hkd : kd k = 2) (hN : ln k = 5) (dg : decode cc pc = .ok (.getfield 198, 3)) (kk : G X F (pc + 3) L (.int (M k 1) :: st) M) : G X F pc L (.ref k :: st) M := g_get hF iX3 rfl (by decide) hk hkd hN (j := 1) (by decide) wf_X6_198 rfl (by unfold vfld; rw [hkd]; rfl) dg kk
theorem pf_X6_198 {X : Cx} {F : Fx} {cc : ByteArray} {nL d pc k : Nat} {L : List (Option Value)} {st : List Value} {M : Mem} (hF : FK X F cc RX6 nL d) (hk : k ∈ xcs X) (hkd : kd k = 2) (hN : ln k = 5) {v : Int32} (dg : decode cc pc = .ok (.putfield 198, 3)) (kk : G X F (pc + 3) L st (up2 M k 1 v)) : G X F pc L (.int v :: .ref k :: st) M := g_put hF (ty := .int) iX3 tyX3 tyX3_ok nmX3 rfl (by decide) hk hkd hN (j := 1) (by decide) wf_X6_198 rfl rfl (by decide +kernel) rfl rfl rfl dg kk
theorem wf_X3_9 : Cond.fieldLink RX3 9 RX3 "bestSteps" "[I" ∈ tb := tb_mem 252 (by decide +kernel) (by decide +kernel)
theorem gf_X3_9 {X : Cx} {F : Fx} {cc : ByteArray} {nL d pc k : Nat} {L : List (Option Value)} {st : List Value} {M : Mem} (hF : FK X F cc RX3 nL d) (hk : k ∈ xcs X) (hkd : kd k = 2) (hN : ln k = 5) (dg : decode cc pc = .ok (.getfield 9, 3)) (kk : G X F (pc + 3) L (.ref 26 :: st) M) : G X F pc L (.ref k :: st) M := g_get hF iX3 rfl (by decide) hk hkd hN (j := 2) (by decide) wf_X3_9 rfl (by unfold vfld; rw [hkd]; rfl) dg kk
theorem wf_X6_201 : Cond.fieldLink RX6 201 RX3 "bestSteps" "[I" ∈ tb := tb_mem 253 (by decide +kernel) (by decide +kernel)
theorem gf_X6_201 {X : Cx} {F : Fx} {cc : ByteArray} {nL d pc k : Nat} {L : List (Option Value)} {st : List Value} {M : Mem} (hF : FK X F cc RX6 nL d) (hk : k ∈ xcs X) (hkd : kd k = 2) (hN : ln k = 5) (dg : decode cc pc = .ok (.getfield 201, 3)) (kk : G X F (pc + 3) L (.ref 26 :: st) M) : G X F pc L (.ref k :: st) M := g_get hF iX3 rfl (by decide) hk hkd hN (j := 2) (by decide) wf_X6_201 rfl (by unfold vfld; rw [hkd]; rfl) dg kk
theorem wf_X3_15 : Cond.fieldLink RX3 15 RX3 "steps" "[I" ∈ tb := tb_mem 254 (by decide +kernel) (by decide +kernel)
theorem gf_X3_15 {X : Cx} {F : Fx} {cc : ByteArray} {nL d pc k : Nat} {L : List (Option Value)} {st : List Value} {M : Mem} (hF : FK X F cc RX3 nL d) (hk : k ∈ xcs X) (hkd : kd k = 2) (hN : ln k = 5) (dg : decode cc pc = .ok (.getfield 15, 3)) (kk : G X F (pc + 3) L (.ref 27 :: st) M) : G X F pc L (.ref k :: st) M := g_get hF iX3 rfl (by decide) hk hkd hN (j := 3) (by decide) wf_X3_15 rfl (by unfold vfld; rw [hkd]; rfl) dg kk
theorem wf_X3_20 : Cond.fieldLink RX3 20 RX3 "levels" "[LWhichEncore$Evening;" ∈ tb := tb_mem 255 (by decide +kernel) (by decide +kernel)
theorem gf_X3_20 {X : Cx} {F : Fx} {cc : ByteArray} {nL d pc k : Nat} {L : List (Option Value)} {st : List Value} {M : Mem} (hF : FK X F cc RX3 nL d) (hk : k ∈ xcs X) (hkd : kd k = 2) (hN : ln k = 5) (dg : decode cc pc = .ok (.getfield 20, 3)) (kk : G X F (pc + 3) L (.ref 28 :: st) M) : G X F pc L (.ref k :: st) M := g_get hF iX3 rfl (by decide) hk hkd hN (j := 4) (by decide) wf_X3_20 rfl (by unfold vfld; rw [hkd]; rfl) dg kk
theorem wf_X2_28 : Cond.fieldLink RX2 28 RX2 "size" "I" ∈ tb := tb_mem 275 (by decide +kernel) (by decide +kernel)
theorem gf_X2_28 {X : Cx} {F : Fx} {cc : ByteArray} {nL d pc k : Nat} {L : List (Option Value)} {st : List Value} {M : Mem} (hF : FK X F cc RX2 nL d) (hk : k ∈ xcs X) (hkd : kd k = 1) (hN : ln k = 3) (dg : decode cc pc = .ok (.getfield 28, 3)) (kk : G X F (pc + 3) L (.int (M k 0) :: st) M) : G X F pc L (.ref k :: st) M := g_get hF iX2 rfl (by decide) hk hkd hN (j := 0) (by decide) wf_X2_28 rfl (by unfold vfld; rw [hkd]; rfl) dg kk
theorem pf_X2_28 {X : Cx} {F : Fx} {cc : ByteArray} {nL d pc k : Nat} {L : List (Option Value)} {st : List Value} {M : Mem} (hF : FK X F cc RX2 nL d) (hk : k ∈ xcs X) (hkd : kd k = 1) (hN : ln k = 3) {v : Int32} (dg : decode cc pc = .ok (.putfield 28, 3)) (kk : G X F (pc + 3) L st (up2 M k 0 v)) : G X F pc L (.int v :: .ref k :: st) M := g_put hF (ty := .int) iX2 tyX2 tyX2_ok nmX2 rfl (by decide) hk hkd hN (j := 0) (by decide) wf_X2_28 rfl rfl (by decide +kernel) rfl rfl rfl dg kk
theorem wf_X6_177 : Cond.fieldLink RX6 177 RX2 "size" "I" ∈ tb := tb_mem 276 (by decide +kernel) (by decide +kernel)
theorem gf_X6_177 {X : Cx} {F : Fx} {cc : ByteArray} {nL d pc k : Nat} {L : List (Option Value)} {st : List Value} {M : Mem} (hF : FK X F cc RX6 nL d) (hk : k ∈ xcs X) (hkd : kd k = 1) (hN : ln k = 3) (dg : decode cc pc = .ok (.getfield 177, 3)) (kk : G X F (pc + 3) L (.int (M k 0) :: st) M) : G X F pc L (.ref k :: st) M := g_get hF iX2 rfl (by decide) hk hkd hN (j := 0) (by decide) wf_X6_177 rfl (by unfold vfld; rw [hkd]; rfl) dg kk
theorem pf_X6_177 {X : Cx} {F : Fx} {cc : ByteArray} {nL d pc k : Nat} {L : List (Option Value)} {st : List Value} {M : Mem} (hF : FK X F cc RX6 nL d) (hk : k ∈ xcs X) (hkd : kd k = 1) (hN : ln k = 3) {v : Int32} (dg : decode cc pc = .ok (.putfield 177, 3)) (kk : G X F (pc + 3) L st (up2 M k 0 v)) : G X F pc L (.int v :: .ref k :: st) M := g_put hF (ty := .int) iX2 tyX2 tyX2_ok nmX2 rfl (by decide) hk hkd hN (j := 0) (by decide) wf_X6_177 rfl rfl (by decide +kernel) rfl rfl rfl dg kk
theorem wf_X2_20 : Cond.fieldLink RX2 20 RX2 "next" "I" ∈ tb := tb_mem 277 (by decide +kernel) (by decide +kernel)
theorem gf_X2_20 {X : Cx} {F : Fx} {cc : ByteArray} {nL d pc k : Nat} {L : List (Option Value)} {st : List Value} {M : Mem} (hF : FK X F cc RX2 nL d) (hk : k ∈ xcs X) (hkd : kd k = 1) (hN : ln k = 3) (dg : decode cc pc = .ok (.getfield 20, 3)) (kk : G X F (pc + 3) L (.int (M k 1) :: st) M) : G X F pc L (.ref k :: st) M := g_get hF iX2 rfl (by decide) hk hkd hN (j := 1) (by decide) wf_X2_20 rfl (by unfold vfld; rw [hkd]; rfl) dg kk
theorem pf_X2_20 {X : Cx} {F : Fx} {cc : ByteArray} {nL d pc k : Nat} {L : List (Option Value)} {st : List Value} {M : Mem} (hF : FK X F cc RX2 nL d) (hk : k ∈ xcs X) (hkd : kd k = 1) (hN : ln k = 3) {v : Int32} (dg : decode cc pc = .ok (.putfield 20, 3)) (kk : G X F (pc + 3) L st (up2 M k 1 v)) : G X F pc L (.int v :: .ref k :: st) M := g_put hF (ty := .int) iX2 tyX2 tyX2_ok nmX2 rfl (by decide) hk hkd hN (j := 1) (by decide) wf_X2_20 rfl rfl (by decide +kernel) rfl rfl rfl dg kk
theorem wf_X2_11 : Cond.fieldLink RX2 11 RX2 "ring" "[LWhichEncore$Evening;" ∈ tb := tb_mem 278 (by decide +kernel) (by decide +kernel)
theorem gf_X2_11 {X : Cx} {F : Fx} {cc : ByteArray} {nL d pc k : Nat} {L : List (Option Value)} {st : List Value} {M : Mem} (hF : FK X F cc RX2 nL d) (hk : k ∈ xcs X) (hkd : kd k = 1) (hN : ln k = 3) (dg : decode cc pc = .ok (.getfield 11, 3)) (kk : G X F (pc + 3) L (.ref 44 :: st) M) : G X F pc L (.ref k :: st) M := g_get hF iX2 rfl (by decide) hk hkd hN (j := 2) (by decide) wf_X2_11 rfl (by unfold vfld; rw [hkd]; rfl) dg kk
theorem wf_X6_12 : Cond.fieldLink RX6 12 RX6 "told" "LWhichEncore$Told;" ∈ tb := tb_mem 293 (by decide +kernel) (by decide +kernel)
theorem gf_X6_12 {X : Cx} {F : Fx} {cc : ByteArray} {nL d pc k : Nat} {L : List (Option Value)} {st : List Value} {M : Mem} (hF : FK X F cc RX6 nL d) (hk : k ∈ xcs X) (hkd : kd k = 5) (hN : ln k = 10) (dg : decode cc pc = .ok (.getfield 12, 3)) (kk : G X F (pc + 3) L (.ref 1 :: st) M) : G X F pc L (.ref k :: st) M := g_get hF iX6 rfl (by decide) hk hkd hN (j := 0) (by decide) wf_X6_12 rfl (by unfold vfld; rw [hkd]; rfl) dg kk
theorem wf_X6_19 : Cond.fieldLink RX6 19 RX6 "text" "LWhichEncore$Text;" ∈ tb := tb_mem 294 (by decide +kernel) (by decide +kernel)
theorem gf_X6_19 {X : Cx} {F : Fx} {cc : ByteArray} {nL d pc k : Nat} {L : List (Option Value)} {st : List Value} {M : Mem} (hF : FK X F cc RX6 nL d) (hk : k ∈ xcs X) (hkd : kd k = 5) (hN : ln k = 10) (dg : decode cc pc = .ok (.getfield 19, 3)) (kk : G X F (pc + 3) L (.ref 9 :: st) M) : G X F pc L (.ref k :: st) M := g_get hF iX6 rfl (by decide) hk hkd hN (j := 1) (by decide) wf_X6_19 rfl (by unfold vfld; rw [hkd]; rfl) dg kk
theorem wf_X6_28 : Cond.fieldLink RX6 28 RX6 "now" "LWhichEncore$Evening;" ∈ tb := tb_mem 295 (by decide +kernel) (by decide +kernel)
theorem gf_X6_28 {X : Cx} {F : Fx} {cc : ByteArray} {nL d pc k : Nat} {L : List (Option Value)} {st : List Value} {M : Mem} (hF : FK X F cc RX6 nL d) (hk : k ∈ xcs X) (hkd : kd k = 5) (hN : ln k = 10) (dg : decode cc pc = .ok (.getfield 28, 3)) (kk : G X F (pc + 3) L (.ref 21 :: st) M) : G X F pc L (.ref k :: st) M := g_get hF iX6 rfl (by decide) hk hkd hN (j := 2) (by decide) wf_X6_28 rfl (by unfold vfld; rw [hkd]; rfl) dg kk
theorem wf_X6_32 : Cond.fieldLink RX6 32 RX6 "foretold" "LWhichEncore$Evening;" ∈ tb := tb_mem 296 (by decide +kernel) (by decide +kernel)
theorem gf_X6_32 {X : Cx} {F : Fx} {cc : ByteArray} {nL d pc k : Nat} {L : List (Option Value)} {st : List Value} {M : Mem} (hF : FK X F cc RX6 nL d) (hk : k ∈ xcs X) (hkd : kd k = 5) (hN : ln k = 10) (dg : decode cc pc = .ok (.getfield 32, 3)) (kk : G X F (pc + 3) L (.ref 23 :: st) M) : G X F pc L (.ref k :: st) M := g_get hF iX6 rfl (by decide) hk hkd hN (j := 3) (by decide) wf_X6_32 rfl (by unfold vfld; rw [hkd]; rfl) dg kk
theorem wf_X6_38 : Cond.fieldLink RX6 38 RX6 "search" "LWhichEncore$Search;" ∈ tb := tb_mem 297 (by decide +kernel) (by decide +kernel)
theorem gf_X6_38 {X : Cx} {F : Fx} {cc : ByteArray} {nL d pc k : Nat} {L : List (Option Value)} {st : List Value} {M : Mem} (hF : FK X F cc RX6 nL d) (hk : k ∈ xcs X) (hkd : kd k = 5) (hN : ln k = 10) (dg : decode cc pc = .ok (.getfield 38, 3)) (kk : G X F (pc + 3) L (.ref 25 :: st) M) : G X F pc L (.ref k :: st) M := g_get hF iX6 rfl (by decide) hk hkd hN (j := 4) (by decide) wf_X6_38 rfl (by unfold vfld; rw [hkd]; rfl) dg kk
theorem wf_X6_45 : Cond.fieldLink RX6 45 RX6 "past" "LWhichEncore$Past;" ∈ tb := tb_mem 298 (by decide +kernel) (by decide +kernel)
theorem gf_X6_45 {X : Cx} {F : Fx} {cc : ByteArray} {nL d pc k : Nat} {L : List (Option Value)} {st : List Value} {M : Mem} (hF : FK X F cc RX6 nL d) (hk : k ∈ xcs X) (hkd : kd k = 5) (hN : ln k = 10) (dg : decode cc pc = .ok (.getfield 45, 3)) (kk : G X F (pc + 3) L (.ref 43 :: st) M) : G X F pc L (.ref k :: st) M := g_get hF iX6 rfl (by decide) hk hkd hN (j := 5) (by decide) wf_X6_45 rfl (by unfold vfld; rw [hkd]; rfl) dg kk
theorem wf_X6_49 : Cond.fieldLink RX6 49 RX6 "kept" "[LWhichEncore$Evening;" ∈ tb := tb_mem 299 (by decide +kernel) (by decide +kernel)
theorem gf_X6_49 {X : Cx} {F : Fx} {cc : ByteArray} {nL d pc k : Nat} {L : List (Option Value)} {st : List Value} {M : Mem} (hF : FK X F cc RX6 nL d) (hk : k ∈ xcs X) (hkd : kd k = 5) (hN : ln k = 10) (dg : decode cc pc = .ok (.getfield 49, 3)) (kk : G X F (pc + 3) L (.ref 61 :: st) M) : G X F pc L (.ref k :: st) M := g_get hF iX6 rfl (by decide) hk hkd hN (j := 6) (by decide) wf_X6_49 rfl (by unfold vfld; rw [hkd]; rfl) dg kk
theorem wf_X6_53 : Cond.fieldLink RX6 53 RX6 "isKept" "[Z" ∈ tb := tb_mem 300 (by decide +kernel) (by decide +kernel)
theorem gf_X6_53 {X : Cx} {F : Fx} {cc : ByteArray} {nL d pc k : Nat} {L : List (Option Value)} {st : List Value} {M : Mem} (hF : FK X F cc RX6 nL d) (hk : k ∈ xcs X) (hkd : kd k = 5) (hN : ln k = 10) (dg : decode cc pc = .ok (.getfield 53, 3)) (kk : G X F (pc + 3) L (.ref 62 :: st) M) : G X F pc L (.ref k :: st) M := g_get hF iX6 rfl (by decide) hk hkd hN (j := 7) (by decide) wf_X6_53 rfl (by unfold vfld; rw [hkd]; rfl) dg kk
theorem wf_X6_57 : Cond.fieldLink RX6 57 RX6 "rowSteps" "[I" ∈ tb := tb_mem 301 (by decide +kernel) (by decide +kernel)
theorem gf_X6_57 {X : Cx} {F : Fx} {cc : ByteArray} {nL d pc k : Nat} {L : List (Option Value)} {st : List Value} {M : Mem} (hF : FK X F cc RX6 nL d) (hk : k ∈ xcs X) (hkd : kd k = 5) (hN : ln k = 10) (dg : decode cc pc = .ok (.getfield 57, 3)) (kk : G X F (pc + 3) L (.ref 63 :: st) M) : G X F pc L (.ref k :: st) M := g_get hF iX6 rfl (by decide) hk hkd hN (j := 8) (by decide) wf_X6_57 rfl (by unfold vfld; rw [hkd]; rfl) dg kk
theorem wf_X6_204 : Cond.fieldLink RX6 204 RX6 "rowLength" "I" ∈ tb := tb_mem 302 (by decide +kernel) (by decide +kernel)
theorem gf_X6_204 {X : Cx} {F : Fx} {cc : ByteArray} {nL d pc k : Nat} {L : List (Option Value)} {st : List Value} {M : Mem} (hF : FK X F cc RX6 nL d) (hk : k ∈ xcs X) (hkd : kd k = 5) (hN : ln k = 10) (dg : decode cc pc = .ok (.getfield 204, 3)) (kk : G X F (pc + 3) L (.int (M k 9) :: st) M) : G X F pc L (.ref k :: st) M := g_get hF iX6 rfl (by decide) hk hkd hN (j := 9) (by decide) wf_X6_204 rfl (by unfold vfld; rw [hkd]; rfl) dg kk
theorem pf_X6_204 {X : Cx} {F : Fx} {cc : ByteArray} {nL d pc k : Nat} {L : List (Option Value)} {st : List Value} {M : Mem} (hF : FK X F cc RX6 nL d) (hk : k ∈ xcs X) (hkd : kd k = 5) (hN : ln k = 10) {v : Int32} (dg : decode cc pc = .ok (.putfield 204, 3)) (kk : G X F (pc + 3) L st (up2 M k 9 v)) : G X F pc L (.int v :: .ref k :: st) M := g_put hF (ty := .int) iX6 tyX6 tyX6_ok nmX6 rfl (by decide) hk hkd hN (j := 9) (by decide) wf_X6_204 rfl rfl (by decide +kernel) rfl rfl rfl dg kk
theorem wf_J0_38 : Cond.fieldLink RJ0 38 RJ0 "COMPACT_STRINGS" "Z" ∈ tb := tb_mem 378 (by decide +kernel) (by decide +kernel)
theorem wf_J0_1053 : Cond.fieldLink RJ0 1053 RJ3 "SIOOBE_FORMATTER" "Ljava/util/function/BiFunction;" ∈ tb := tb_mem 394 (by decide +kernel) (by decide +kernel)
theorem wf_J2_44 : Cond.fieldLink RJ2 44 RJ2 "$assertionsDisabled" "Z" ∈ tb := tb_mem 412 (by decide +kernel) (by decide +kernel)
theorem wf_J2_59 : Cond.fieldLink RJ2 59 RJ2 "HI_BYTE_SHIFT" "I" ∈ tb := tb_mem 414 (by decide +kernel) (by decide +kernel)
theorem wf_J2_63 : Cond.fieldLink RJ2 63 RJ2 "LO_BYTE_SHIFT" "I" ∈ tb := tb_mem 416 (by decide +kernel) (by decide +kernel)
theorem wf_X6_127 : Cond.fieldLink RX6 127 RX6 "OVER_CLAPPERS" "[I" ∈ tb := tb_mem 485 (by decide +kernel) (by decide +kernel)
theorem wf_X6_142 : Cond.fieldLink RX6 142 RX6 "OVER_ENCORES" "[I" ∈ tb := tb_mem 510 (by decide +kernel) (by decide +kernel)
theorem wf_X7_7 : Cond.fieldLink RX7 7 RX7 "text" "[I" ∈ tb := tb_mem 722 (by decide +kernel) (by decide +kernel)
theorem gf_X7_7 {X : Cx} {F : Fx} {cc : ByteArray} {nL d pc k : Nat} {L : List (Option Value)} {st : List Value} {M : Mem} (hF : FK X F cc RX7 nL d) (hk : k ∈ xcs X) (hkd : kd k = 6) (hN : ln k = 21) (dg : decode cc pc = .ok (.getfield 7, 3)) (kk : G X F (pc + 3) L (.ref 71 :: st) M) : G X F pc L (.ref k :: st) M := g_get hF iX7 rfl (by decide) hk hkd hN (j := 0) (by decide) wf_X7_7 rfl (by unfold vfld; rw [hkd]; rfl) dg kk
theorem wf_X7_57 : Cond.fieldLink RX7 57 RX7 "typed" "I" ∈ tb := tb_mem 723 (by decide +kernel) (by decide +kernel)
theorem gf_X7_57 {X : Cx} {F : Fx} {cc : ByteArray} {nL d pc k : Nat} {L : List (Option Value)} {st : List Value} {M : Mem} (hF : FK X F cc RX7 nL d) (hk : k ∈ xcs X) (hkd : kd k = 6) (hN : ln k = 21) (dg : decode cc pc = .ok (.getfield 57, 3)) (kk : G X F (pc + 3) L (.int (M k 1) :: st) M) : G X F pc L (.ref k :: st) M := g_get hF iX7 rfl (by decide) hk hkd hN (j := 1) (by decide) wf_X7_57 rfl (by unfold vfld; rw [hkd]; rfl) dg kk
theorem pf_X7_57 {X : Cx} {F : Fx} {cc : ByteArray} {nL d pc k : Nat} {L : List (Option Value)} {st : List Value} {M : Mem} (hF : FK X F cc RX7 nL d) (hk : k ∈ xcs X) (hkd : kd k = 6) (hN : ln k = 21) {v : Int32} (dg : decode cc pc = .ok (.putfield 57, 3)) (kk : G X F (pc + 3) L st (up2 M k 1 v)) : G X F pc L (.int v :: .ref k :: st) M := g_put hF (ty := .int) iX7 tyX7 tyX7_ok nmX7 rfl (by decide) hk hkd hN (j := 1) (by decide) wf_X7_57 rfl rfl (by decide +kernel) rfl rfl rfl dg kk
theorem wf_X7_13 : Cond.fieldLink RX7 13 RX7 "told" "[I" ∈ tb := tb_mem 724 (by decide +kernel) (by decide +kernel)
theorem gf_X7_13 {X : Cx} {F : Fx} {cc : ByteArray} {nL d pc k : Nat} {L : List (Option Value)} {st : List Value} {M : Mem} (hF : FK X F cc RX7 nL d) (hk : k ∈ xcs X) (hkd : kd k = 6) (hN : ln k = 21) (dg : decode cc pc = .ok (.getfield 13, 3)) (kk : G X F (pc + 3) L (.ref 72 :: st) M) : G X F pc L (.ref k :: st) M := g_get hF iX7 rfl (by decide) hk hkd hN (j := 2) (by decide) wf_X7_13 rfl (by unfold vfld; rw [hkd]; rfl) dg kk
theorem wf_X7_16 : Cond.fieldLink RX7 16 RX7 "draft" "[I" ∈ tb := tb_mem 725 (by decide +kernel) (by decide +kernel)
theorem gf_X7_16 {X : Cx} {F : Fx} {cc : ByteArray} {nL d pc k : Nat} {L : List (Option Value)} {st : List Value} {M : Mem} (hF : FK X F cc RX7 nL d) (hk : k ∈ xcs X) (hkd : kd k = 6) (hN : ln k = 21) (dg : decode cc pc = .ok (.getfield 16, 3)) (kk : G X F (pc + 3) L (.ref 73 :: st) M) : G X F pc L (.ref k :: st) M := g_get hF iX7 rfl (by decide) hk hkd hN (j := 3) (by decide) wf_X7_16 rfl (by unfold vfld; rw [hkd]; rfl) dg kk
theorem wf_X7_19 : Cond.fieldLink RX7 19 RX7 "s" "[I" ∈ tb := tb_mem 726 (by decide +kernel) (by decide +kernel)
theorem gf_X7_19 {X : Cx} {F : Fx} {cc : ByteArray} {nL d pc k : Nat} {L : List (Option Value)} {st : List Value} {M : Mem} (hF : FK X F cc RX7 nL d) (hk : k ∈ xcs X) (hkd : kd k = 6) (hN : ln k = 21) (dg : decode cc pc = .ok (.getfield 19, 3)) (kk : G X F (pc + 3) L (.ref 74 :: st) M) : G X F pc L (.ref k :: st) M := g_get hF iX7 rfl (by decide) hk hkd hN (j := 4) (by decide) wf_X7_19 rfl (by unfold vfld; rw [hkd]; rfl) dg kk
theorem wf_X7_22 : Cond.fieldLink RX7 22 RX7 "past" "[I" ∈ tb := tb_mem 727 (by decide +kernel) (by decide +kernel)
theorem gf_X7_22 {X : Cx} {F : Fx} {cc : ByteArray} {nL d pc k : Nat} {L : List (Option Value)} {st : List Value} {M : Mem} (hF : FK X F cc RX7 nL d) (hk : k ∈ xcs X) (hkd : kd k = 6) (hN : ln k = 21) (dg : decode cc pc = .ok (.getfield 22, 3)) (kk : G X F (pc + 3) L (.ref 75 :: st) M) : G X F pc L (.ref k :: st) M := g_get hF iX7 rfl (by decide) hk hkd hN (j := 5) (by decide) wf_X7_22 rfl (by unfold vfld; rw [hkd]; rfl) dg kk
theorem wf_X7_104 : Cond.fieldLink RX7 104 RX7 "known" "I" ∈ tb := tb_mem 728 (by decide +kernel) (by decide +kernel)
theorem gf_X7_104 {X : Cx} {F : Fx} {cc : ByteArray} {nL d pc k : Nat} {L : List (Option Value)} {st : List Value} {M : Mem} (hF : FK X F cc RX7 nL d) (hk : k ∈ xcs X) (hkd : kd k = 6) (hN : ln k = 21) (dg : decode cc pc = .ok (.getfield 104, 3)) (kk : G X F (pc + 3) L (.int (M k 6) :: st) M) : G X F pc L (.ref k :: st) M := g_get hF iX7 rfl (by decide) hk hkd hN (j := 6) (by decide) wf_X7_104 rfl (by unfold vfld; rw [hkd]; rfl) dg kk
theorem pf_X7_104 {X : Cx} {F : Fx} {cc : ByteArray} {nL d pc k : Nat} {L : List (Option Value)} {st : List Value} {M : Mem} (hF : FK X F cc RX7 nL d) (hk : k ∈ xcs X) (hkd : kd k = 6) (hN : ln k = 21) {v : Int32} (dg : decode cc pc = .ok (.putfield 104, 3)) (kk : G X F (pc + 3) L st (up2 M k 6 v)) : G X F pc L (.int v :: .ref k :: st) M := g_put hF (ty := .int) iX7 tyX7 tyX7_ok nmX7 rfl (by decide) hk hkd hN (j := 6) (by decide) wf_X7_104 rfl rfl (by decide +kernel) rfl rfl rfl dg kk
theorem wf_X7_25 : Cond.fieldLink RX7 25 RX7 "images" "[I" ∈ tb := tb_mem 729 (by decide +kernel) (by decide +kernel)
theorem gf_X7_25 {X : Cx} {F : Fx} {cc : ByteArray} {nL d pc k : Nat} {L : List (Option Value)} {st : List Value} {M : Mem} (hF : FK X F cc RX7 nL d) (hk : k ∈ xcs X) (hkd : kd k = 6) (hN : ln k = 21) (dg : decode cc pc = .ok (.getfield 25, 3)) (kk : G X F (pc + 3) L (.ref 76 :: st) M) : G X F pc L (.ref k :: st) M := g_get hF iX7 rfl (by decide) hk hkd hN (j := 7) (by decide) wf_X7_25 rfl (by unfold vfld; rw [hkd]; rfl) dg kk
theorem wf_X7_28 : Cond.fieldLink RX7 28 RX7 "kept" "[Z" ∈ tb := tb_mem 730 (by decide +kernel) (by decide +kernel)
theorem gf_X7_28 {X : Cx} {F : Fx} {cc : ByteArray} {nL d pc k : Nat} {L : List (Option Value)} {st : List Value} {M : Mem} (hF : FK X F cc RX7 nL d) (hk : k ∈ xcs X) (hkd : kd k = 6) (hN : ln k = 21) (dg : decode cc pc = .ok (.getfield 28, 3)) (kk : G X F (pc + 3) L (.ref 77 :: st) M) : G X F pc L (.ref k :: st) M := g_get hF iX7 rfl (by decide) hk hkd hN (j := 8) (by decide) wf_X7_28 rfl (by unfold vfld; rw [hkd]; rfl) dg kk
theorem wf_X7_32 : Cond.fieldLink RX7 32 RX7 "row" "[I" ∈ tb := tb_mem 731 (by decide +kernel) (by decide +kernel)
theorem gf_X7_32 {X : Cx} {F : Fx} {cc : ByteArray} {nL d pc k : Nat} {L : List (Option Value)} {st : List Value} {M : Mem} (hF : FK X F cc RX7 nL d) (hk : k ∈ xcs X) (hkd : kd k = 6) (hN : ln k = 21) (dg : decode cc pc = .ok (.getfield 32, 3)) (kk : G X F (pc + 3) L (.ref 78 :: st) M) : G X F pc L (.ref k :: st) M := g_get hF iX7 rfl (by decide) hk hkd hN (j := 9) (by decide) wf_X7_32 rfl (by unfold vfld; rw [hkd]; rfl) dg kk
theorem wf_X7_107 : Cond.fieldLink RX7 107 RX7 "many" "I" ∈ tb := tb_mem 732 (by decide +kernel) (by decide +kernel)
theorem gf_X7_107 {X : Cx} {F : Fx} {cc : ByteArray} {nL d pc k : Nat} {L : List (Option Value)} {st : List Value} {M : Mem} (hF : FK X F cc RX7 nL d) (hk : k ∈ xcs X) (hkd : kd k = 6) (hN : ln k = 21) (dg : decode cc pc = .ok (.getfield 107, 3)) (kk : G X F (pc + 3) L (.int (M k 10) :: st) M) : G X F pc L (.ref k :: st) M := g_get hF iX7 rfl (by decide) hk hkd hN (j := 10) (by decide) wf_X7_107 rfl (by unfold vfld; rw [hkd]; rfl) dg kk
theorem pf_X7_107 {X : Cx} {F : Fx} {cc : ByteArray} {nL d pc k : Nat} {L : List (Option Value)} {st : List Value} {M : Mem} (hF : FK X F cc RX7 nL d) (hk : k ∈ xcs X) (hkd : kd k = 6) (hN : ln k = 21) {v : Int32} (dg : decode cc pc = .ok (.putfield 107, 3)) (kk : G X F (pc + 3) L st (up2 M k 10 v)) : G X F pc L (.int v :: .ref k :: st) M := g_put hF (ty := .int) iX7 tyX7 tyX7_ok nmX7 rfl (by decide) hk hkd hN (j := 10) (by decide) wf_X7_107 rfl rfl (by decide +kernel) rfl rfl rfl dg kk
theorem wf_X7_78 : Cond.fieldLink RX7 78 RX7 "sort" "I" ∈ tb := tb_mem 733 (by decide +kernel) (by decide +kernel)
theorem gf_X7_78 {X : Cx} {F : Fx} {cc : ByteArray} {nL d pc k : Nat} {L : List (Option Value)} {st : List Value} {M : Mem} (hF : FK X F cc RX7 nL d) (hk : k ∈ xcs X) (hkd : kd k = 6) (hN : ln k = 21) (dg : decode cc pc = .ok (.getfield 78, 3)) (kk : G X F (pc + 3) L (.int (M k 11) :: st) M) : G X F pc L (.ref k :: st) M := g_get hF iX7 rfl (by decide) hk hkd hN (j := 11) (by decide) wf_X7_78 rfl (by unfold vfld; rw [hkd]; rfl) dg kk
theorem pf_X7_78 {X : Cx} {F : Fx} {cc : ByteArray} {nL d pc k : Nat} {L : List (Option Value)} {st : List Value} {M : Mem} (hF : FK X F cc RX7 nL d) (hk : k ∈ xcs X) (hkd : kd k = 6) (hN : ln k = 21) {v : Int32} (dg : decode cc pc = .ok (.putfield 78, 3)) (kk : G X F (pc + 3) L st (up2 M k 11 v)) : G X F pc L (.int v :: .ref k :: st) M := g_put hF (ty := .int) iX7 tyX7 tyX7_ok nmX7 rfl (by decide) hk hkd hN (j := 11) (by decide) wf_X7_78 rfl rfl (by decide +kernel) rfl rfl rfl dg kk
theorem wf_X7_68 : Cond.fieldLink RX7 68 RX7 "start" "I" ∈ tb := tb_mem 734 (by decide +kernel) (by decide +kernel)
theorem gf_X7_68 {X : Cx} {F : Fx} {cc : ByteArray} {nL d pc k : Nat} {L : List (Option Value)} {st : List Value} {M : Mem} (hF : FK X F cc RX7 nL d) (hk : k ∈ xcs X) (hkd : kd k = 6) (hN : ln k = 21) (dg : decode cc pc = .ok (.getfield 68, 3)) (kk : G X F (pc + 3) L (.int (M k 12) :: st) M) : G X F pc L (.ref k :: st) M := g_get hF iX7 rfl (by decide) hk hkd hN (j := 12) (by decide) wf_X7_68 rfl (by unfold vfld; rw [hkd]; rfl) dg kk
theorem pf_X7_68 {X : Cx} {F : Fx} {cc : ByteArray} {nL d pc k : Nat} {L : List (Option Value)} {st : List Value} {M : Mem} (hF : FK X F cc RX7 nL d) (hk : k ∈ xcs X) (hkd : kd k = 6) (hN : ln k = 21) {v : Int32} (dg : decode cc pc = .ok (.putfield 68, 3)) (kk : G X F (pc + 3) L st (up2 M k 12 v)) : G X F pc L (.int v :: .ref k :: st) M := g_put hF (ty := .int) iX7 tyX7 tyX7_ok nmX7 rfl (by decide) hk hkd hN (j := 12) (by decide) wf_X7_68 rfl rfl (by decide +kernel) rfl rfl rfl dg kk
theorem wf_X7_61 : Cond.fieldLink RX7 61 RX7 "at" "I" ∈ tb := tb_mem 735 (by decide +kernel) (by decide +kernel)
theorem gf_X7_61 {X : Cx} {F : Fx} {cc : ByteArray} {nL d pc k : Nat} {L : List (Option Value)} {st : List Value} {M : Mem} (hF : FK X F cc RX7 nL d) (hk : k ∈ xcs X) (hkd : kd k = 6) (hN : ln k = 21) (dg : decode cc pc = .ok (.getfield 61, 3)) (kk : G X F (pc + 3) L (.int (M k 13) :: st) M) : G X F pc L (.ref k :: st) M := g_get hF iX7 rfl (by decide) hk hkd hN (j := 13) (by decide) wf_X7_61 rfl (by unfold vfld; rw [hkd]; rfl) dg kk
theorem pf_X7_61 {X : Cx} {F : Fx} {cc : ByteArray} {nL d pc k : Nat} {L : List (Option Value)} {st : List Value} {M : Mem} (hF : FK X F cc RX7 nL d) (hk : k ∈ xcs X) (hkd : kd k = 6) (hN : ln k = 21) {v : Int32} (dg : decode cc pc = .ok (.putfield 61, 3)) (kk : G X F (pc + 3) L st (up2 M k 13 v)) : G X F pc L (.int v :: .ref k :: st) M := g_put hF (ty := .int) iX7 tyX7 tyX7_ok nmX7 rfl (by decide) hk hkd hN (j := 13) (by decide) wf_X7_61 rfl rfl (by decide +kernel) rfl rfl rfl dg kk
theorem wf_X7_81 : Cond.fieldLink RX7 81 RX7 "value" "I" ∈ tb := tb_mem 736 (by decide +kernel) (by decide +kernel)
theorem gf_X7_81 {X : Cx} {F : Fx} {cc : ByteArray} {nL d pc k : Nat} {L : List (Option Value)} {st : List Value} {M : Mem} (hF : FK X F cc RX7 nL d) (hk : k ∈ xcs X) (hkd : kd k = 6) (hN : ln k = 21) (dg : decode cc pc = .ok (.getfield 81, 3)) (kk : G X F (pc + 3) L (.int (M k 14) :: st) M) : G X F pc L (.ref k :: st) M := g_get hF iX7 rfl (by decide) hk hkd hN (j := 14) (by decide) wf_X7_81 rfl (by unfold vfld; rw [hkd]; rfl) dg kk
theorem pf_X7_81 {X : Cx} {F : Fx} {cc : ByteArray} {nL d pc k : Nat} {L : List (Option Value)} {st : List Value} {M : Mem} (hF : FK X F cc RX7 nL d) (hk : k ∈ xcs X) (hkd : kd k = 6) (hN : ln k = 21) {v : Int32} (dg : decode cc pc = .ok (.putfield 81, 3)) (kk : G X F (pc + 3) L st (up2 M k 14 v)) : G X F pc L (.int v :: .ref k :: st) M := g_put hF (ty := .int) iX7 tyX7 tyX7_ok nmX7 rfl (by decide) hk hkd hN (j := 14) (by decide) wf_X7_81 rfl rfl (by decide +kernel) rfl rfl rfl dg kk
theorem wf_X7_35 : Cond.fieldLink RX7 35 RX7 "held" "[I" ∈ tb := tb_mem 737 (by decide +kernel) (by decide +kernel)
theorem gf_X7_35 {X : Cx} {F : Fx} {cc : ByteArray} {nL d pc k : Nat} {L : List (Option Value)} {st : List Value} {M : Mem} (hF : FK X F cc RX7 nL d) (hk : k ∈ xcs X) (hkd : kd k = 6) (hN : ln k = 21) (dg : decode cc pc = .ok (.getfield 35, 3)) (kk : G X F (pc + 3) L (.ref 79 :: st) M) : G X F pc L (.ref k :: st) M := g_get hF iX7 rfl (by decide) hk hkd hN (j := 15) (by decide) wf_X7_35 rfl (by unfold vfld; rw [hkd]; rfl) dg kk
theorem wf_X7_38 : Cond.fieldLink RX7 38 RX7 "evenings" "[I" ∈ tb := tb_mem 738 (by decide +kernel) (by decide +kernel)
theorem gf_X7_38 {X : Cx} {F : Fx} {cc : ByteArray} {nL d pc k : Nat} {L : List (Option Value)} {st : List Value} {M : Mem} (hF : FK X F cc RX7 nL d) (hk : k ∈ xcs X) (hkd : kd k = 6) (hN : ln k = 21) (dg : decode cc pc = .ok (.getfield 38, 3)) (kk : G X F (pc + 3) L (.ref 80 :: st) M) : G X F pc L (.ref k :: st) M := g_get hF iX7 rfl (by decide) hk hkd hN (j := 16) (by decide) wf_X7_38 rfl (by unfold vfld; rw [hkd]; rfl) dg kk
theorem wf_X7_41 : Cond.fieldLink RX7 41 RX7 "tried" "[I" ∈ tb := tb_mem 739 (by decide +kernel) (by decide +kernel)
theorem gf_X7_41 {X : Cx} {F : Fx} {cc : ByteArray} {nL d pc k : Nat} {L : List (Option Value)} {st : List Value} {M : Mem} (hF : FK X F cc RX7 nL d) (hk : k ∈ xcs X) (hkd : kd k = 6) (hN : ln k = 21) (dg : decode cc pc = .ok (.getfield 41, 3)) (kk : G X F (pc + 3) L (.ref 81 :: st) M) : G X F pc L (.ref k :: st) M := g_get hF iX7 rfl (by decide) hk hkd hN (j := 17) (by decide) wf_X7_41 rfl (by unfold vfld; rw [hkd]; rfl) dg kk
theorem wf_X7_44 : Cond.fieldLink RX7 44 RX7 "bestRow" "[I" ∈ tb := tb_mem 740 (by decide +kernel) (by decide +kernel)
theorem gf_X7_44 {X : Cx} {F : Fx} {cc : ByteArray} {nL d pc k : Nat} {L : List (Option Value)} {st : List Value} {M : Mem} (hF : FK X F cc RX7 nL d) (hk : k ∈ xcs X) (hkd : kd k = 6) (hN : ln k = 21) (dg : decode cc pc = .ok (.getfield 44, 3)) (kk : G X F (pc + 3) L (.ref 82 :: st) M) : G X F pc L (.ref k :: st) M := g_get hF iX7 rfl (by decide) hk hkd hN (j := 18) (by decide) wf_X7_44 rfl (by unfold vfld; rw [hkd]; rfl) dg kk
theorem wf_X7_174 : Cond.fieldLink RX7 174 RX7 "bestMany" "I" ∈ tb := tb_mem 741 (by decide +kernel) (by decide +kernel)
theorem gf_X7_174 {X : Cx} {F : Fx} {cc : ByteArray} {nL d pc k : Nat} {L : List (Option Value)} {st : List Value} {M : Mem} (hF : FK X F cc RX7 nL d) (hk : k ∈ xcs X) (hkd : kd k = 6) (hN : ln k = 21) (dg : decode cc pc = .ok (.getfield 174, 3)) (kk : G X F (pc + 3) L (.int (M k 19) :: st) M) : G X F pc L (.ref k :: st) M := g_get hF iX7 rfl (by decide) hk hkd hN (j := 19) (by decide) wf_X7_174 rfl (by unfold vfld; rw [hkd]; rfl) dg kk
theorem pf_X7_174 {X : Cx} {F : Fx} {cc : ByteArray} {nL d pc k : Nat} {L : List (Option Value)} {st : List Value} {M : Mem} (hF : FK X F cc RX7 nL d) (hk : k ∈ xcs X) (hkd : kd k = 6) (hN : ln k = 21) {v : Int32} (dg : decode cc pc = .ok (.putfield 174, 3)) (kk : G X F (pc + 3) L st (up2 M k 19 v)) : G X F pc L (.int v :: .ref k :: st) M := g_put hF (ty := .int) iX7 tyX7 tyX7_ok nmX7 rfl (by decide) hk hkd hN (j := 19) (by decide) wf_X7_174 rfl rfl (by decide +kernel) rfl rfl rfl dg kk
theorem wf_X7_177 : Cond.fieldLink RX7 177 RX7 "bestBy" "I" ∈ tb := tb_mem 742 (by decide +kernel) (by decide +kernel)
theorem gf_X7_177 {X : Cx} {F : Fx} {cc : ByteArray} {nL d pc k : Nat} {L : List (Option Value)} {st : List Value} {M : Mem} (hF : FK X F cc RX7 nL d) (hk : k ∈ xcs X) (hkd : kd k = 6) (hN : ln k = 21) (dg : decode cc pc = .ok (.getfield 177, 3)) (kk : G X F (pc + 3) L (.int (M k 20) :: st) M) : G X F pc L (.ref k :: st) M := g_get hF iX7 rfl (by decide) hk hkd hN (j := 20) (by decide) wf_X7_177 rfl (by unfold vfld; rw [hkd]; rfl) dg kk
theorem pf_X7_177 {X : Cx} {F : Fx} {cc : ByteArray} {nL d pc k : Nat} {L : List (Option Value)} {st : List Value} {M : Mem} (hF : FK X F cc RX7 nL d) (hk : k ∈ xcs X) (hkd : kd k = 6) (hN : ln k = 21) {v : Int32} (dg : decode cc pc = .ok (.putfield 177, 3)) (kk : G X F (pc + 3) L st (up2 M k 20 v)) : G X F pc L (.int v :: .ref k :: st) M := g_put hF (ty := .int) iX7 tyX7 tyX7_ok nmX7 rfl (by decide) hk hkd hN (j := 20) (by decide) wf_X7_177 rfl rfl (by decide +kernel) rfl rfl rfl dg kk
theorem wf_X4_92 : Cond.fieldLink RX4 92 RX0 "word" "Ljava/lang/String;" ∈ tb := tb_mem 1015 (by decide +kernel) (by decide +kernel)
theorem wf_J0_9 : Cond.fieldLink RJ0 9 RJ0 "value" "[B" ∈ tb := tb_mem 1016 (by decide +kernel) (by decide +kernel)
theorem wf_J0_15 : Cond.fieldLink RJ0 15 RJ0 "coder" "B" ∈ tb := tb_mem 1017 (by decide +kernel) (by decide +kernel)
theorem wf_X4_65 : Cond.fieldLink RX4 65 RX0 "deed" "I" ∈ tb := tb_mem 1018 (by decide +kernel) (by decide +kernel)
theorem wf_X4_85 : Cond.fieldLink RX4 85 RX0 "kind" "I" ∈ tb := tb_mem 1019 (by decide +kernel) (by decide +kernel)
theorem wm_L_9 : Cond.methodLink RL 9 yX6_init ∈ tb := tb_mem 70 (by decide +kernel) (by decide +kernel)
theorem wm_X6_11 : Cond.methodLink RX6 11 yX5_init ∈ tb := tb_mem 78 (by decide +kernel) (by decide +kernel)
theorem wm_X5_33 : Cond.methodLink RX5 33 yX5_beAsAtFirst ∈ tb := tb_mem 82 (by decide +kernel) (by decide +kernel)
theorem wm_X4_11 : Cond.methodLink RX4 11 yX5_init ∈ tb := tb_mem 151 (by decide +kernel) (by decide +kernel)
theorem wm_X4_26 : Cond.methodLink RX4 26 yX0_values ∈ tb := tb_mem 152 (by decide +kernel) (by decide +kernel)
theorem wm_X6_25 : Cond.methodLink RX6 25 yX1_init ∈ tb := tb_mem 193 (by decide +kernel) (by decide +kernel)
theorem wm_X6_37 : Cond.methodLink RX6 37 yX3_init ∈ tb := tb_mem 241 (by decide +kernel) (by decide +kernel)
theorem wm_X3_24 : Cond.methodLink RX3 24 yX1_init ∈ tb := tb_mem 247 (by decide +kernel) (by decide +kernel)
theorem wm_X6_44 : Cond.methodLink RX6 44 yX2_init ∈ tb := tb_mem 269 (by decide +kernel) (by decide +kernel)
theorem wm_X2_17 : Cond.methodLink RX2 17 yX1_init ∈ tb := tb_mem 274 (by decide +kernel) (by decide +kernel)
theorem wm_X6_61 : Cond.methodLink RX6 61 yX1_begin ∈ tb := tb_mem 286 (by decide +kernel) (by decide +kernel)
theorem wm_X1_24 : Cond.methodLink RX1 24 arraycopyName ∈ tb := tb_mem 290 (by decide +kernel) (by decide +kernel)
theorem wm_L_13 : Cond.methodLink RL 13 yX6_write ∈ tb := tb_mem 325 (by decide +kernel) (by decide +kernel)
theorem wm_X6_64 : Cond.methodLink RX6 64 yX4_append ∈ tb := tb_mem 329 (by decide +kernel) (by decide +kernel)
theorem wm_L_18 : Cond.methodLink RL 18 yX6_erase ∈ tb := tb_mem 333 (by decide +kernel) (by decide +kernel)
theorem wm_L_23 : Cond.methodLink RL 23 yX6_fault ∈ tb := tb_mem 337 (by decide +kernel) (by decide +kernel)
theorem wm_X6_72 : Cond.methodLink RX6 72 yX4_findFault ∈ tb := tb_mem 341 (by decide +kernel) (by decide +kernel)
theorem wm_X4_40 : Cond.methodLink RX4 40 yX5_copyFrom ∈ tb := tb_mem 345 (by decide +kernel) (by decide +kernel)
theorem wm_X5_52 : Cond.methodLink RX5 52 arraycopyName ∈ tb := tb_mem 349 (by decide +kernel) (by decide +kernel)
theorem wm_X4_50 : Cond.methodLink RX4 50 yX4_readClause ∈ tb := tb_mem 350 (by decide +kernel) (by decide +kernel)
theorem wm_X4_54 : Cond.methodLink RX4 54 yX4_skipBlanks ∈ tb := tb_mem 354 (by decide +kernel) (by decide +kernel)
theorem wm_X4_57 : Cond.methodLink RX4 57 yX4_endOfRow ∈ tb := tb_mem 358 (by decide +kernel) (by decide +kernel)
theorem wm_X4_61 : Cond.methodLink RX4 61 yX4_clauseUpTo ∈ tb := tb_mem 362 (by decide +kernel) (by decide +kernel)
theorem wm_X4_96 : Cond.methodLink RX4 96 yX4_isWordUpTo ∈ tb := tb_mem 366 (by decide +kernel) (by decide +kernel)
theorem wm_X4_100 : Cond.methodLink RX4 100 yJ0_length_8abf5 ∈ tb := tb_mem 370 (by decide +kernel) (by decide +kernel)
theorem wm_J0_335 : Cond.methodLink RJ0 335 yJ0_coder_7d493 ∈ tb := tb_mem 374 (by decide +kernel) (by decide +kernel)
theorem wm_X4_105 : Cond.methodLink RX4 105 yJ0_charAt_5068e ∈ tb := tb_mem 380 (by decide +kernel) (by decide +kernel)
theorem wm_J0_492 : Cond.methodLink RJ0 492 yJ0_isLatin1_aae02 ∈ tb := tb_mem 384 (by decide +kernel) (by decide +kernel)
theorem wm_J0_495 : Cond.methodLink RJ0 495 yJ1_charAt_3b067 ∈ tb := tb_mem 388 (by decide +kernel) (by decide +kernel)
theorem wm_J1_9 : Cond.methodLink RJ1 9 yJ0_checkIndex_df160 ∈ tb := tb_mem 391 (by decide +kernel) (by decide +kernel)
theorem wm_J0_1059 : Cond.methodLink RJ0 1059 yJ3_checkIndex_8e157 ∈ tb := tb_mem 396 (by decide +kernel) (by decide +kernel)
theorem wm_J0_498 : Cond.methodLink RJ0 498 yJ2_charAt_3b067 ∈ tb := tb_mem 399 (by decide +kernel) (by decide +kernel)
theorem wm_J2_67 : Cond.methodLink RJ2 67 yJ2_checkIndex_2214a ∈ tb := tb_mem 402 (by decide +kernel) (by decide +kernel)
theorem wm_J2_48 : Cond.methodLink RJ2 48 yJ2_length_9d52b ∈ tb := tb_mem 405 (by decide +kernel) (by decide +kernel)
theorem wm_J2_414 : Cond.methodLink RJ2 414 yJ0_checkIndex_df160 ∈ tb := tb_mem 408 (by decide +kernel) (by decide +kernel)
theorem wm_J2_71 : Cond.methodLink RJ2 71 yJ2_getChar_3b067 ∈ tb := tb_mem 409 (by decide +kernel) (by decide +kernel)
theorem wm_X4_68 : Cond.methodLink RX4 68 yX5_hasRoomFor ∈ tb := tb_mem 418 (by decide +kernel) (by decide +kernel)
theorem wm_X4_81 : Cond.methodLink RX4 81 yX4_readNumber ∈ tb := tb_mem 428 (by decide +kernel) (by decide +kernel)
theorem wm_X4_88 : Cond.methodLink RX4 88 yX5_carryOut ∈ tb := tb_mem 432 (by decide +kernel) (by decide +kernel)
theorem wm_X5_62 : Cond.methodLink RX5 62 yX5_addClapper ∈ tb := tb_mem 436 (by decide +kernel) (by decide +kernel)
theorem wm_X5_66 : Cond.methodLink RX5 66 yX5_addEncore ∈ tb := tb_mem 440 (by decide +kernel) (by decide +kernel)
theorem wm_L_27 : Cond.methodLink RL 27 yX6_hall ∈ tb := tb_mem 444 (by decide +kernel) (by decide +kernel)
theorem wm_X6_79 : Cond.methodLink RX6 79 yX5_copyFrom ∈ tb := tb_mem 448 (by decide +kernel) (by decide +kernel)
theorem wm_X6_82 : Cond.methodLink RX6 82 yX6_beginAnew ∈ tb := tb_mem 449 (by decide +kernel) (by decide +kernel)
theorem wm_L_31 : Cond.methodLink RL 31 yX6_clapper ∈ tb := tb_mem 453 (by decide +kernel) (by decide +kernel)
theorem wm_X6_88 : Cond.methodLink RX6 88 yX5_hasClapper ∈ tb := tb_mem 457 (by decide +kernel) (by decide +kernel)
theorem wm_X6_100 : Cond.methodLink RX6 100 yX1_isThere ∈ tb := tb_mem 461 (by decide +kernel) (by decide +kernel)
theorem wm_X6_103 : Cond.methodLink RX6 103 yX1_isClapping ∈ tb := tb_mem 465 (by decide +kernel) (by decide +kernel)
theorem wm_L_36 : Cond.methodLink RL 36 yX6_encore ∈ tb := tb_mem 469 (by decide +kernel) (by decide +kernel)
theorem wm_X6_109 : Cond.methodLink RX6 109 yX5_hasEncore ∈ tb := tb_mem 473 (by decide +kernel) (by decide +kernel)
theorem wm_X6_124 : Cond.methodLink RX6 124 yX1_wasPlayed ∈ tb := tb_mem 477 (by decide +kernel) (by decide +kernel)
theorem wm_L_40 : Cond.methodLink RL 40 yX6_as ∈ tb := tb_mem 481 (by decide +kernel) (by decide +kernel)
theorem wm_X6_130 : Cond.methodLink RX6 130 yX6_isUnder ∈ tb := tb_mem 487 (by decide +kernel) (by decide +kernel)
theorem wm_X6_134 : Cond.methodLink RX6 134 yX1_whoClaps ∈ tb := tb_mem 490 (by decide +kernel) (by decide +kernel)
theorem wm_X1_60 : Cond.methodLink RX1 60 yX1_isClapping ∈ tb := tb_mem 494 (by decide +kernel) (by decide +kernel)
theorem wm_X6_138 : Cond.methodLink RX6 138 yX1_lessByWait ∈ tb := tb_mem 495 (by decide +kernel) (by decide +kernel)
theorem wm_X1_68 : Cond.methodLink RX1 68 yX1_whoIsBeside ∈ tb := tb_mem 499 (by decide +kernel) (by decide +kernel)
theorem wm_X1_74 : Cond.methodLink RX1 74 Lib.Math.min.name ∈ tb := tb_mem 503 (by decide +kernel) (by decide +kernel)
theorem wm_L_44 : Cond.methodLink RL 44 yX6_encoreAs ∈ tb := tb_mem 506 (by decide +kernel) (by decide +kernel)
theorem wm_X6_145 : Cond.methodLink RX6 145 yX6_zealBehind ∈ tb := tb_mem 512 (by decide +kernel) (by decide +kernel)
theorem wm_X6_251 : Cond.methodLink RX6 251 Lib.Math.min.name ∈ tb := tb_mem 515 (by decide +kernel) (by decide +kernel)
theorem wm_L_48 : Cond.methodLink RL 48 yX6_can ∈ tb := tb_mem 516 (by decide +kernel) (by decide +kernel)
theorem wm_X6_149 : Cond.methodLink RX6 149 yX6_refusalOf ∈ tb := tb_mem 520 (by decide +kernel) (by decide +kernel)
theorem wm_X6_153 : Cond.methodLink RX6 153 yX1_isPossible ∈ tb := tb_mem 524 (by decide +kernel) (by decide +kernel)
theorem wm_X1_80 : Cond.methodLink RX1 80 yX1_isReady ∈ tb := tb_mem 528 (by decide +kernel) (by decide +kernel)
theorem wm_X1_96 : Cond.methodLink RX1 96 yX5_hasEncore ∈ tb := tb_mem 532 (by decide +kernel) (by decide +kernel)
theorem wm_X1_103 : Cond.methodLink RX1 103 yX1_wasPlayed ∈ tb := tb_mem 533 (by decide +kernel) (by decide +kernel)
theorem wm_X1_83 : Cond.methodLink RX1 83 yX1_noise ∈ tb := tb_mem 534 (by decide +kernel) (by decide +kernel)
theorem wm_X1_64 : Cond.methodLink RX1 64 yX1_zealOf ∈ tb := tb_mem 538 (by decide +kernel) (by decide +kernel)
theorem wm_L_52 : Cond.methodLink RL 52 yX6_does ∈ tb := tb_mem 542 (by decide +kernel) (by decide +kernel)
theorem wm_X6_159 : Cond.methodLink RX6 159 yX5_minutesOf ∈ tb := tb_mem 546 (by decide +kernel) (by decide +kernel)
theorem wm_X5_58 : Cond.methodLink RX5 58 yX5_hasEncore ∈ tb := tb_mem 550 (by decide +kernel) (by decide +kernel)
theorem wm_X6_162 : Cond.methodLink RX6 162 yX2_remember ∈ tb := tb_mem 551 (by decide +kernel) (by decide +kernel)
theorem wm_X2_24 : Cond.methodLink RX2 24 yX1_copyFrom ∈ tb := tb_mem 555 (by decide +kernel) (by decide +kernel)
theorem wm_X2_31 : Cond.methodLink RX2 31 Lib.Math.min.name ∈ tb := tb_mem 559 (by decide +kernel) (by decide +kernel)
theorem wm_X6_166 : Cond.methodLink RX6 166 yX1_take ∈ tb := tb_mem 560 (by decide +kernel) (by decide +kernel)
theorem wm_X1_90 : Cond.methodLink RX1 90 yX1_waitOne ∈ tb := tb_mem 564 (by decide +kernel) (by decide +kernel)
theorem wm_X1_109 : Cond.methodLink RX1 109 yX1_whoClaps ∈ tb := tb_mem 568 (by decide +kernel) (by decide +kernel)
theorem wm_X1_112 : Cond.methodLink RX1 112 yX1_lessByWait ∈ tb := tb_mem 569 (by decide +kernel) (by decide +kernel)
theorem wm_X1_115 : Cond.methodLink RX1 115 yX1_letPass ∈ tb := tb_mem 570 (by decide +kernel) (by decide +kernel)
theorem wm_X1_93 : Cond.methodLink RX1 93 yX1_bowOnce ∈ tb := tb_mem 574 (by decide +kernel) (by decide +kernel)
theorem wm_X1_118 : Cond.methodLink RX1 118 yX1_moreByBow ∈ tb := tb_mem 578 (by decide +kernel) (by decide +kernel)
theorem wm_X1_87 : Cond.methodLink RX1 87 Lib.Math.max.name ∈ tb := tb_mem 582 (by decide +kernel) (by decide +kernel)
theorem wm_X1_99 : Cond.methodLink RX1 99 yX1_play ∈ tb := tb_mem 585 (by decide +kernel) (by decide +kernel)
theorem wm_X1_127 : Cond.methodLink RX1 127 yX1_isThere ∈ tb := tb_mem 589 (by decide +kernel) (by decide +kernel)
theorem wm_X1_137 : Cond.methodLink RX1 137 yJ6_bitCount_0f7a4 ∈ tb := tb_mem 591 (by decide +kernel) (by decide +kernel)
theorem wm_X6_170 : Cond.methodLink RX6 170 yX1_noise ∈ tb := tb_mem 597 (by decide +kernel) (by decide +kernel)
theorem wm_L_56 : Cond.methodLink RL 56 yX6_undo ∈ tb := tb_mem 598 (by decide +kernel) (by decide +kernel)
theorem wm_X6_173 : Cond.methodLink RX6 173 yX2_recall ∈ tb := tb_mem 602 (by decide +kernel) (by decide +kernel)
theorem wm_L_60 : Cond.methodLink RL 60 yX6_keep ∈ tb := tb_mem 606 (by decide +kernel) (by decide +kernel)
theorem wm_X6_180 : Cond.methodLink RX6 180 yX1_copyFrom ∈ tb := tb_mem 610 (by decide +kernel) (by decide +kernel)
theorem wm_L_64 : Cond.methodLink RL 64 yX6_back ∈ tb := tb_mem 611 (by decide +kernel) (by decide +kernel)
theorem wm_L_68 : Cond.methodLink RL 68 yX6_till ∈ tb := tb_mem 615 (by decide +kernel) (by decide +kernel)
theorem wm_L_72 : Cond.methodLink RL 72 yX6_there ∈ tb := tb_mem 619 (by decide +kernel) (by decide +kernel)
theorem wm_X6_182 : Cond.methodLink RX6 182 yX6_foretellWaits ∈ tb := tb_mem 623 (by decide +kernel) (by decide +kernel)
theorem wm_L_76 : Cond.methodLink RL 76 yX6_sound ∈ tb := tb_mem 627 (by decide +kernel) (by decide +kernel)
theorem wm_L_80 : Cond.methodLink RL 80 yX6_best ∈ tb := tb_mem 631 (by decide +kernel) (by decide +kernel)
theorem wm_X6_191 : Cond.methodLink RX6 191 yX3_lookFrom ∈ tb := tb_mem 635 (by decide +kernel) (by decide +kernel)
theorem wm_X3_27 : Cond.methodLink RX3 27 yX1_copyFrom ∈ tb := tb_mem 639 (by decide +kernel) (by decide +kernel)
theorem wm_X3_41 : Cond.methodLink RX3 41 yX3_lookDeeper ∈ tb := tb_mem 640 (by decide +kernel) (by decide +kernel)
theorem wm_X3_45 : Cond.methodLink RX3 45 yX3_isWorthATry ∈ tb := tb_mem 644 (by decide +kernel) (by decide +kernel)
theorem wm_X3_63 : Cond.methodLink RX3 63 yX1_moreByBow ∈ tb := tb_mem 648 (by decide +kernel) (by decide +kernel)
theorem wm_X3_49 : Cond.methodLink RX3 49 yX1_isPossible ∈ tb := tb_mem 649 (by decide +kernel) (by decide +kernel)
theorem wm_X3_53 : Cond.methodLink RX3 53 yX3_lookBehind ∈ tb := tb_mem 650 (by decide +kernel) (by decide +kernel)
theorem wm_X3_57 : Cond.methodLink RX3 57 yX1_take ∈ tb := tb_mem 654 (by decide +kernel) (by decide +kernel)
theorem wm_X3_60 : Cond.methodLink RX3 60 yX3_compare ∈ tb := tb_mem 655 (by decide +kernel) (by decide +kernel)
theorem wm_X3_73 : Cond.methodLink RX3 73 arraycopyName ∈ tb := tb_mem 659 (by decide +kernel) (by decide +kernel)
theorem wm_L_84 : Cond.methodLink RL 84 yX6_row ∈ tb := tb_mem 660 (by decide +kernel) (by decide +kernel)
theorem wm_L_88 : Cond.methodLink RL 88 yX6_tear ∈ tb := tb_mem 664 (by decide +kernel) (by decide +kernel)
theorem wm_L_92 : Cond.methodLink RL 92 yX6_judge ∈ tb := tb_mem 668 (by decide +kernel) (by decide +kernel)
theorem wm_L_96 : Cond.methodLink RL 96 yX6_stay ∈ tb := tb_mem 672 (by decide +kernel) (by decide +kernel)
theorem wm_X6_209 : Cond.methodLink RX6 209 yJ6_bitCount_0f7a4 ∈ tb := tb_mem 677 (by decide +kernel) (by decide +kernel)
theorem wm_X6_214 : Cond.methodLink RX6 214 yX6_waysToStay ∈ tb := tb_mem 678 (by decide +kernel) (by decide +kernel)
theorem wm_X6_218 : Cond.methodLink RX6 218 yX6_power ∈ tb := tb_mem 681 (by decide +kernel) (by decide +kernel)
theorem wm_X6_222 : Cond.methodLink RX6 222 yX6_commonDivisor ∈ tb := tb_mem 684 (by decide +kernel) (by decide +kernel)
theorem wm_L_101 : Cond.methodLink RL 101 yX6_gone ∈ tb := tb_mem 687 (by decide +kernel) (by decide +kernel)
theorem wm_X6_226 : Cond.methodLink RX6 226 yX1_zealOf ∈ tb := tb_mem 691 (by decide +kernel) (by decide +kernel)
theorem wm_L_105 : Cond.methodLink RL 105 yX6_prepared ∈ tb := tb_mem 692 (by decide +kernel) (by decide +kernel)
theorem wm_X6_232 : Cond.methodLink RX6 232 yX5_sumOver ∈ tb := tb_mem 696 (by decide +kernel) (by decide +kernel)
theorem wm_L_109 : Cond.methodLink RL 109 yX6_other ∈ tb := tb_mem 700 (by decide +kernel) (by decide +kernel)
theorem wm_L_113 : Cond.methodLink RL 113 yX6_count ∈ tb := tb_mem 704 (by decide +kernel) (by decide +kernel)
theorem wm_L_12 : Cond.methodLink RL 12 yX7_init ∈ tb := tb_mem 710 (by decide +kernel) (by decide +kernel)
theorem wm_X7_47 : Cond.methodLink RX7 47 yX7_forgets ∈ tb := tb_mem 714 (by decide +kernel) (by decide +kernel)
theorem wm_X7_50 : Cond.methodLink RX7 50 yX7_begins ∈ tb := tb_mem 718 (by decide +kernel) (by decide +kernel)
theorem wm_L_17 : Cond.methodLink RL 17 yX7_write ∈ tb := tb_mem 786 (by decide +kernel) (by decide +kernel)
theorem wm_X7_53 : Cond.methodLink RX7 53 yX7_in ∈ tb := tb_mem 790 (by decide +kernel) (by decide +kernel)
theorem wm_L_22 : Cond.methodLink RL 22 yX7_erase ∈ tb := tb_mem 793 (by decide +kernel) (by decide +kernel)
theorem wm_L_26 : Cond.methodLink RL 26 yX7_fault ∈ tb := tb_mem 797 (by decide +kernel) (by decide +kernel)
theorem wm_X7_110 : Cond.methodLink RX7 110 yX7_reads ∈ tb := tb_mem 801 (by decide +kernel) (by decide +kernel)
theorem wm_X7_84 : Cond.methodLink RX7 84 yX7_token ∈ tb := tb_mem 805 (by decide +kernel) (by decide +kernel)
theorem wm_X7_64 : Cond.methodLink RX7 64 yX7_letterAt ∈ tb := tb_mem 809 (by decide +kernel) (by decide +kernel)
theorem wm_X7_71 : Cond.methodLink RX7 71 yX7_isLetter ∈ tb := tb_mem 813 (by decide +kernel) (by decide +kernel)
theorem wm_X7_75 : Cond.methodLink RX7 75 yX7_isDigit ∈ tb := tb_mem 816 (by decide +kernel) (by decide +kernel)
theorem wm_X7_100 : Cond.methodLink RX7 100 yX7_readsClause ∈ tb := tb_mem 819 (by decide +kernel) (by decide +kernel)
theorem wm_X7_90 : Cond.methodLink RX7 90 yX7_isWord ∈ tb := tb_mem 823 (by decide +kernel) (by decide +kernel)
theorem wm_X7_94 : Cond.methodLink RX7 94 yX7_readsClapper ∈ tb := tb_mem 827 (by decide +kernel) (by decide +kernel)
theorem wm_X7_87 : Cond.methodLink RX7 87 yX7_number ∈ tb := tb_mem 831 (by decide +kernel) (by decide +kernel)
theorem wm_X7_97 : Cond.methodLink RX7 97 yX7_readsEncore ∈ tb := tb_mem 835 (by decide +kernel) (by decide +kernel)
theorem wm_L_30 : Cond.methodLink RL 30 yX7_hall ∈ tb := tb_mem 839 (by decide +kernel) (by decide +kernel)
theorem wm_L_35 : Cond.methodLink RL 35 yX7_clapper ∈ tb := tb_mem 843 (by decide +kernel) (by decide +kernel)
theorem wm_X7_114 : Cond.methodLink RX7 114 yX7_isClapper ∈ tb := tb_mem 847 (by decide +kernel) (by decide +kernel)
theorem wm_X7_117 : Cond.methodLink RX7 117 yX7_isThere ∈ tb := tb_mem 851 (by decide +kernel) (by decide +kernel)
theorem wm_X7_120 : Cond.methodLink RX7 120 yX7_claps ∈ tb := tb_mem 855 (by decide +kernel) (by decide +kernel)
theorem wm_L_39 : Cond.methodLink RL 39 yX7_encore ∈ tb := tb_mem 859 (by decide +kernel) (by decide +kernel)
theorem wm_X7_123 : Cond.methodLink RX7 123 yX7_isEncore ∈ tb := tb_mem 863 (by decide +kernel) (by decide +kernel)
theorem wm_L_43 : Cond.methodLink RL 43 yX7_as ∈ tb := tb_mem 867 (by decide +kernel) (by decide +kernel)
theorem wm_X7_129 : Cond.methodLink RX7 129 yX7_loses ∈ tb := tb_mem 871 (by decide +kernel) (by decide +kernel)
theorem wm_X7_126 : Cond.methodLink RX7 126 yX7_wasKnown ∈ tb := tb_mem 875 (by decide +kernel) (by decide +kernel)
theorem wm_L_47 : Cond.methodLink RL 47 yX7_encoreAs ∈ tb := tb_mem 879 (by decide +kernel) (by decide +kernel)
theorem wm_X7_132 : Cond.methodLink RX7 132 yX7_behind ∈ tb := tb_mem 883 (by decide +kernel) (by decide +kernel)
theorem wm_L_51 : Cond.methodLink RL 51 yX7_can ∈ tb := tb_mem 886 (by decide +kernel) (by decide +kernel)
theorem wm_X7_139 : Cond.methodLink RX7 139 yX7_lacks ∈ tb := tb_mem 890 (by decide +kernel) (by decide +kernel)
theorem wm_X7_136 : Cond.methodLink RX7 136 yX7_noise ∈ tb := tb_mem 894 (by decide +kernel) (by decide +kernel)
theorem wm_L_55 : Cond.methodLink RL 55 yX7_does ∈ tb := tb_mem 898 (by decide +kernel) (by decide +kernel)
theorem wm_X7_161 : Cond.methodLink RX7 161 yX7_steps ∈ tb := tb_mem 902 (by decide +kernel) (by decide +kernel)
theorem wm_X7_151 : Cond.methodLink RX7 151 yX7_waitsOne ∈ tb := tb_mem 906 (by decide +kernel) (by decide +kernel)
theorem wm_X7_142 : Cond.methodLink RX7 142 yX7_minute ∈ tb := tb_mem 910 (by decide +kernel) (by decide +kernel)
theorem wm_X7_154 : Cond.methodLink RX7 154 yX7_bows ∈ tb := tb_mem 914 (by decide +kernel) (by decide +kernel)
theorem wm_X7_157 : Cond.methodLink RX7 157 yX7_plays ∈ tb := tb_mem 918 (by decide +kernel) (by decide +kernel)
theorem wm_X7_145 : Cond.methodLink RX7 145 yX7_thereNow ∈ tb := tb_mem 922 (by decide +kernel) (by decide +kernel)
theorem wm_X7_148 : Cond.methodLink RX7 148 yX7_ones ∈ tb := tb_mem 926 (by decide +kernel) (by decide +kernel)
theorem wm_L_59 : Cond.methodLink RL 59 yX7_undo ∈ tb := tb_mem 929 (by decide +kernel) (by decide +kernel)
theorem wm_L_63 : Cond.methodLink RL 63 yX7_keep ∈ tb := tb_mem 933 (by decide +kernel) (by decide +kernel)
theorem wm_L_67 : Cond.methodLink RL 67 yX7_back ∈ tb := tb_mem 937 (by decide +kernel) (by decide +kernel)
theorem wm_L_71 : Cond.methodLink RL 71 yX7_till ∈ tb := tb_mem 941 (by decide +kernel) (by decide +kernel)
theorem wm_X7_164 : Cond.methodLink RX7 164 yX7_holds ∈ tb := tb_mem 945 (by decide +kernel) (by decide +kernel)
theorem wm_X7_167 : Cond.methodLink RX7 167 yX7_lets ∈ tb := tb_mem 949 (by decide +kernel) (by decide +kernel)
theorem wm_L_75 : Cond.methodLink RL 75 yX7_there ∈ tb := tb_mem 953 (by decide +kernel) (by decide +kernel)
theorem wm_X7_170 : Cond.methodLink RX7 170 yX7_behindWaits ∈ tb := tb_mem 957 (by decide +kernel) (by decide +kernel)
theorem wm_L_79 : Cond.methodLink RL 79 yX7_sound ∈ tb := tb_mem 961 (by decide +kernel) (by decide +kernel)
theorem wm_L_83 : Cond.methodLink RL 83 yX7_best ∈ tb := tb_mem 965 (by decide +kernel) (by decide +kernel)
theorem wm_X7_186 : Cond.methodLink RX7 186 yX7_seeks ∈ tb := tb_mem 969 (by decide +kernel) (by decide +kernel)
theorem wm_X7_180 : Cond.methodLink RX7 180 yX7_goesOn ∈ tb := tb_mem 973 (by decide +kernel) (by decide +kernel)
theorem wm_X7_183 : Cond.methodLink RX7 183 yX7_comesBack ∈ tb := tb_mem 977 (by decide +kernel) (by decide +kernel)
theorem wm_L_87 : Cond.methodLink RL 87 yX7_row ∈ tb := tb_mem 981 (by decide +kernel) (by decide +kernel)
theorem wm_L_91 : Cond.methodLink RL 91 yX7_tear ∈ tb := tb_mem 985 (by decide +kernel) (by decide +kernel)
theorem wm_L_95 : Cond.methodLink RL 95 yX7_judge ∈ tb := tb_mem 989 (by decide +kernel) (by decide +kernel)
theorem wm_L_100 : Cond.methodLink RL 100 yX7_stay ∈ tb := tb_mem 993 (by decide +kernel) (by decide +kernel)
theorem wm_L_104 : Cond.methodLink RL 104 yX7_gone ∈ tb := tb_mem 999 (by decide +kernel) (by decide +kernel)
theorem wm_L_108 : Cond.methodLink RL 108 yX7_prepared ∈ tb := tb_mem 1003 (by decide +kernel) (by decide +kernel)
theorem wm_L_112 : Cond.methodLink RL 112 yX7_other ∈ tb := tb_mem 1007 (by decide +kernel) (by decide +kernel)
theorem wm_L_116 : Cond.methodLink RL 116 yX7_count ∈ tb := tb_mem 1011 (by decide +kernel) (by decide +kernel)
set_option maxRecDepth 20000 in
theorem wc_X0_values : Cond.code yX0_values cX0_values 0 (some (.array (.object "WhichEncore$Clause"))) ∈ tb := tb_mem 154 rfl (by decide +kernel)
theorem wt_X0_values : Cond.static yX0_values ∈ tb := tb_mem 153 (by decide +kernel) (by decide +kernel)
theorem hyX0_values : yX0_values.cls ≠ "java/lang/invoke/MethodHandle" ∧ yX0_values.cls ≠ "java/lang/invoke/VarHandle" ∧ (parseMethodDescriptor yX0_values.desc).map (fun d => d.parameters.length) = some 0 := ⟨by decide, by decide, by decide +kernel⟩
set_option maxRecDepth 20000 in
theorem wc_X1_init : Cond.code yX1_init cX1_init 2 none ∈ tb := tb_mem 195 rfl (by decide +kernel)
theorem wi_X1_init : Cond.instanceMethod yX1_init ∈ tb := tb_mem 194 (by decide +kernel) (by decide +kernel)
theorem hyX1_init : yX1_init.cls = RX1 ∧ yX1_init.cls ≠ "java/lang/invoke/MethodHandle" ∧ yX1_init.cls ≠ "java/lang/invoke/VarHandle" ∧ (parseMethodDescriptor yX1_init.desc).map (fun d => d.parameters.length) = some 1 := ⟨rfl, by decide, by decide, by decide +kernel⟩
set_option maxRecDepth 20000 in
theorem wc_X1_begin : Cond.code yX1_begin cX1_begin 1 none ∈ tb := tb_mem 289 rfl (by decide +kernel)
theorem wi_X1_begin : Cond.instanceMethod yX1_begin ∈ tb := tb_mem 287 (by decide +kernel) (by decide +kernel)
theorem we_X1_begin : Cond.selects RX1 yX1_begin yX1_begin ∈ tb := tb_mem 288 (by decide +kernel) (by decide +kernel)
theorem hyX1_begin : yX1_begin.cls = RX1 ∧ yX1_begin.cls ≠ "java/lang/invoke/MethodHandle" ∧ yX1_begin.cls ≠ "java/lang/invoke/VarHandle" ∧ (parseMethodDescriptor yX1_begin.desc).map (fun d => d.parameters.length) = some 0 := ⟨rfl, by decide, by decide, by decide +kernel⟩
set_option maxRecDepth 20000 in
theorem wc_X1_copyFrom : Cond.code yX1_copyFrom cX1_copyFrom 2 none ∈ tb := tb_mem 558 rfl (by decide +kernel)
theorem wi_X1_copyFrom : Cond.instanceMethod yX1_copyFrom ∈ tb := tb_mem 556 (by decide +kernel) (by decide +kernel)
theorem we_X1_copyFrom : Cond.selects RX1 yX1_copyFrom yX1_copyFrom ∈ tb := tb_mem 557 (by decide +kernel) (by decide +kernel)
theorem hyX1_copyFrom : yX1_copyFrom.cls = RX1 ∧ yX1_copyFrom.cls ≠ "java/lang/invoke/MethodHandle" ∧ yX1_copyFrom.cls ≠ "java/lang/invoke/VarHandle" ∧ (parseMethodDescriptor yX1_copyFrom.desc).map (fun d => d.parameters.length) = some 1 := ⟨rfl, by decide, by decide, by decide +kernel⟩
set_option maxRecDepth 20000 in
theorem wc_X1_isThere : Cond.code yX1_isThere cX1_isThere 2 (some .boolean) ∈ tb := tb_mem 464 rfl (by decide +kernel)
theorem wi_X1_isThere : Cond.instanceMethod yX1_isThere ∈ tb := tb_mem 462 (by decide +kernel) (by decide +kernel)
theorem we_X1_isThere : Cond.selects RX1 yX1_isThere yX1_isThere ∈ tb := tb_mem 463 (by decide +kernel) (by decide +kernel)
theorem hyX1_isThere : yX1_isThere.cls = RX1 ∧ yX1_isThere.cls ≠ "java/lang/invoke/MethodHandle" ∧ yX1_isThere.cls ≠ "java/lang/invoke/VarHandle" ∧ (parseMethodDescriptor yX1_isThere.desc).map (fun d => d.parameters.length) = some 1 := ⟨rfl, by decide, by decide, by decide +kernel⟩
set_option maxRecDepth 20000 in
theorem wc_X1_isClapping : Cond.code yX1_isClapping cX1_isClapping 2 (some .boolean) ∈ tb := tb_mem 468 rfl (by decide +kernel)
theorem wi_X1_isClapping : Cond.instanceMethod yX1_isClapping ∈ tb := tb_mem 466 (by decide +kernel) (by decide +kernel)
theorem we_X1_isClapping : Cond.selects RX1 yX1_isClapping yX1_isClapping ∈ tb := tb_mem 467 (by decide +kernel) (by decide +kernel)
theorem hyX1_isClapping : yX1_isClapping.cls = RX1 ∧ yX1_isClapping.cls ≠ "java/lang/invoke/MethodHandle" ∧ yX1_isClapping.cls ≠ "java/lang/invoke/VarHandle" ∧ (parseMethodDescriptor yX1_isClapping.desc).map (fun d => d.parameters.length) = some 1 := ⟨rfl, by decide, by decide, by decide +kernel⟩
set_option maxRecDepth 20000 in
theorem wc_X1_wasPlayed : Cond.code yX1_wasPlayed cX1_wasPlayed 2 (some .boolean) ∈ tb := tb_mem 480 rfl (by decide +kernel)
theorem wi_X1_wasPlayed : Cond.instanceMethod yX1_wasPlayed ∈ tb := tb_mem 478 (by decide +kernel) (by decide +kernel)
theorem we_X1_wasPlayed : Cond.selects RX1 yX1_wasPlayed yX1_wasPlayed ∈ tb := tb_mem 479 (by decide +kernel) (by decide +kernel)
theorem hyX1_wasPlayed : yX1_wasPlayed.cls = RX1 ∧ yX1_wasPlayed.cls ≠ "java/lang/invoke/MethodHandle" ∧ yX1_wasPlayed.cls ≠ "java/lang/invoke/VarHandle" ∧ (parseMethodDescriptor yX1_wasPlayed.desc).map (fun d => d.parameters.length) = some 1 := ⟨rfl, by decide, by decide, by decide +kernel⟩
set_option maxRecDepth 20000 in
theorem wc_X1_whoClaps : Cond.code yX1_whoClaps cX1_whoClaps 3 (some .int) ∈ tb := tb_mem 493 rfl (by decide +kernel)
theorem wi_X1_whoClaps : Cond.instanceMethod yX1_whoClaps ∈ tb := tb_mem 491 (by decide +kernel) (by decide +kernel)
theorem we_X1_whoClaps : Cond.selects RX1 yX1_whoClaps yX1_whoClaps ∈ tb := tb_mem 492 (by decide +kernel) (by decide +kernel)
theorem hyX1_whoClaps : yX1_whoClaps.cls = RX1 ∧ yX1_whoClaps.cls ≠ "java/lang/invoke/MethodHandle" ∧ yX1_whoClaps.cls ≠ "java/lang/invoke/VarHandle" ∧ (parseMethodDescriptor yX1_whoClaps.desc).map (fun d => d.parameters.length) = some 0 := ⟨rfl, by decide, by decide, by decide +kernel⟩
set_option maxRecDepth 20000 in
theorem wc_X1_zealOf : Cond.code yX1_zealOf cX1_zealOf 4 (some .int) ∈ tb := tb_mem 541 rfl (by decide +kernel)
theorem wi_X1_zealOf : Cond.instanceMethod yX1_zealOf ∈ tb := tb_mem 539 (by decide +kernel) (by decide +kernel)
theorem we_X1_zealOf : Cond.selects RX1 yX1_zealOf yX1_zealOf ∈ tb := tb_mem 540 (by decide +kernel) (by decide +kernel)
theorem hyX1_zealOf : yX1_zealOf.cls = RX1 ∧ yX1_zealOf.cls ≠ "java/lang/invoke/MethodHandle" ∧ yX1_zealOf.cls ≠ "java/lang/invoke/VarHandle" ∧ (parseMethodDescriptor yX1_zealOf.desc).map (fun d => d.parameters.length) = some 1 := ⟨rfl, by decide, by decide, by decide +kernel⟩
set_option maxRecDepth 20000 in
theorem wc_X1_noise : Cond.code yX1_noise cX1_noise 1 (some .int) ∈ tb := tb_mem 537 rfl (by decide +kernel)
theorem wi_X1_noise : Cond.instanceMethod yX1_noise ∈ tb := tb_mem 535 (by decide +kernel) (by decide +kernel)
theorem we_X1_noise : Cond.selects RX1 yX1_noise yX1_noise ∈ tb := tb_mem 536 (by decide +kernel) (by decide +kernel)
theorem hyX1_noise : yX1_noise.cls = RX1 ∧ yX1_noise.cls ≠ "java/lang/invoke/MethodHandle" ∧ yX1_noise.cls ≠ "java/lang/invoke/VarHandle" ∧ (parseMethodDescriptor yX1_noise.desc).map (fun d => d.parameters.length) = some 0 := ⟨rfl, by decide, by decide, by decide +kernel⟩
set_option maxRecDepth 20000 in
theorem wc_X1_lessByWait : Cond.code yX1_lessByWait cX1_lessByWait 4 (some .int) ∈ tb := tb_mem 498 rfl (by decide +kernel)
theorem wi_X1_lessByWait : Cond.instanceMethod yX1_lessByWait ∈ tb := tb_mem 496 (by decide +kernel) (by decide +kernel)
theorem we_X1_lessByWait : Cond.selects RX1 yX1_lessByWait yX1_lessByWait ∈ tb := tb_mem 497 (by decide +kernel) (by decide +kernel)
theorem hyX1_lessByWait : yX1_lessByWait.cls = RX1 ∧ yX1_lessByWait.cls ≠ "java/lang/invoke/MethodHandle" ∧ yX1_lessByWait.cls ≠ "java/lang/invoke/VarHandle" ∧ (parseMethodDescriptor yX1_lessByWait.desc).map (fun d => d.parameters.length) = some 2 := ⟨rfl, by decide, by decide, by decide +kernel⟩
set_option maxRecDepth 20000 in
theorem wc_X1_isPossible : Cond.code yX1_isPossible cX1_isPossible 2 (some .boolean) ∈ tb := tb_mem 527 rfl (by decide +kernel)
theorem wi_X1_isPossible : Cond.instanceMethod yX1_isPossible ∈ tb := tb_mem 525 (by decide +kernel) (by decide +kernel)
theorem we_X1_isPossible : Cond.selects RX1 yX1_isPossible yX1_isPossible ∈ tb := tb_mem 526 (by decide +kernel) (by decide +kernel)
theorem hyX1_isPossible : yX1_isPossible.cls = RX1 ∧ yX1_isPossible.cls ≠ "java/lang/invoke/MethodHandle" ∧ yX1_isPossible.cls ≠ "java/lang/invoke/VarHandle" ∧ (parseMethodDescriptor yX1_isPossible.desc).map (fun d => d.parameters.length) = some 1 := ⟨rfl, by decide, by decide, by decide +kernel⟩
set_option maxRecDepth 20000 in
theorem wc_X1_moreByBow : Cond.code yX1_moreByBow cX1_moreByBow 1 (some .int) ∈ tb := tb_mem 581 rfl (by decide +kernel)
theorem wi_X1_moreByBow : Cond.instanceMethod yX1_moreByBow ∈ tb := tb_mem 579 (by decide +kernel) (by decide +kernel)
theorem we_X1_moreByBow : Cond.selects RX1 yX1_moreByBow yX1_moreByBow ∈ tb := tb_mem 580 (by decide +kernel) (by decide +kernel)
theorem hyX1_moreByBow : yX1_moreByBow.cls = RX1 ∧ yX1_moreByBow.cls ≠ "java/lang/invoke/MethodHandle" ∧ yX1_moreByBow.cls ≠ "java/lang/invoke/VarHandle" ∧ (parseMethodDescriptor yX1_moreByBow.desc).map (fun d => d.parameters.length) = some 0 := ⟨rfl, by decide, by decide, by decide +kernel⟩
set_option maxRecDepth 20000 in
theorem wc_X1_take : Cond.code yX1_take cX1_take 2 none ∈ tb := tb_mem 563 rfl (by decide +kernel)
theorem wi_X1_take : Cond.instanceMethod yX1_take ∈ tb := tb_mem 561 (by decide +kernel) (by decide +kernel)
theorem we_X1_take : Cond.selects RX1 yX1_take yX1_take ∈ tb := tb_mem 562 (by decide +kernel) (by decide +kernel)
theorem hyX1_take : yX1_take.cls = RX1 ∧ yX1_take.cls ≠ "java/lang/invoke/MethodHandle" ∧ yX1_take.cls ≠ "java/lang/invoke/VarHandle" ∧ (parseMethodDescriptor yX1_take.desc).map (fun d => d.parameters.length) = some 1 := ⟨rfl, by decide, by decide, by decide +kernel⟩
set_option maxRecDepth 20000 in
theorem wc_X1_isReady : Cond.code yX1_isReady cX1_isReady 2 (some .boolean) ∈ tb := tb_mem 531 rfl (by decide +kernel)
theorem wi_X1_isReady : Cond.instanceMethod yX1_isReady ∈ tb := tb_mem 530 (by decide +kernel) (by decide +kernel)
theorem we_X1_isReady : Cond.selects RX1 yX1_isReady yX1_isReady ∈ tb := tb_mem 11 (by decide +kernel) (by decide +kernel)
theorem hyX1_isReady : yX1_isReady.cls = RX1 ∧ yX1_isReady.cls ≠ "java/lang/invoke/MethodHandle" ∧ yX1_isReady.cls ≠ "java/lang/invoke/VarHandle" ∧ (parseMethodDescriptor yX1_isReady.desc).map (fun d => d.parameters.length) = some 1 := ⟨rfl, by decide, by decide, by decide +kernel⟩
set_option maxRecDepth 20000 in
theorem wc_X1_waitOne : Cond.code yX1_waitOne cX1_waitOne 3 none ∈ tb := tb_mem 567 rfl (by decide +kernel)
theorem wi_X1_waitOne : Cond.instanceMethod yX1_waitOne ∈ tb := tb_mem 566 (by decide +kernel) (by decide +kernel)
theorem we_X1_waitOne : Cond.selects RX1 yX1_waitOne yX1_waitOne ∈ tb := tb_mem 12 (by decide +kernel) (by decide +kernel)
theorem hyX1_waitOne : yX1_waitOne.cls = RX1 ∧ yX1_waitOne.cls ≠ "java/lang/invoke/MethodHandle" ∧ yX1_waitOne.cls ≠ "java/lang/invoke/VarHandle" ∧ (parseMethodDescriptor yX1_waitOne.desc).map (fun d => d.parameters.length) = some 0 := ⟨rfl, by decide, by decide, by decide +kernel⟩
set_option maxRecDepth 20000 in
theorem wc_X1_bowOnce : Cond.code yX1_bowOnce cX1_bowOnce 3 none ∈ tb := tb_mem 577 rfl (by decide +kernel)
theorem wi_X1_bowOnce : Cond.instanceMethod yX1_bowOnce ∈ tb := tb_mem 576 (by decide +kernel) (by decide +kernel)
theorem we_X1_bowOnce : Cond.selects RX1 yX1_bowOnce yX1_bowOnce ∈ tb := tb_mem 14 (by decide +kernel) (by decide +kernel)
theorem hyX1_bowOnce : yX1_bowOnce.cls = RX1 ∧ yX1_bowOnce.cls ≠ "java/lang/invoke/MethodHandle" ∧ yX1_bowOnce.cls ≠ "java/lang/invoke/VarHandle" ∧ (parseMethodDescriptor yX1_bowOnce.desc).map (fun d => d.parameters.length) = some 0 := ⟨rfl, by decide, by decide, by decide +kernel⟩
set_option maxRecDepth 20000 in
theorem wc_X1_play : Cond.code yX1_play cX1_play 4 none ∈ tb := tb_mem 588 rfl (by decide +kernel)
theorem wi_X1_play : Cond.instanceMethod yX1_play ∈ tb := tb_mem 587 (by decide +kernel) (by decide +kernel)
theorem we_X1_play : Cond.selects RX1 yX1_play yX1_play ∈ tb := tb_mem 15 (by decide +kernel) (by decide +kernel)
theorem hyX1_play : yX1_play.cls = RX1 ∧ yX1_play.cls ≠ "java/lang/invoke/MethodHandle" ∧ yX1_play.cls ≠ "java/lang/invoke/VarHandle" ∧ (parseMethodDescriptor yX1_play.desc).map (fun d => d.parameters.length) = some 1 := ⟨rfl, by decide, by decide, by decide +kernel⟩
set_option maxRecDepth 20000 in
theorem wc_X1_letPass : Cond.code yX1_letPass cX1_letPass 3 none ∈ tb := tb_mem 573 rfl (by decide +kernel)
theorem wi_X1_letPass : Cond.instanceMethod yX1_letPass ∈ tb := tb_mem 572 (by decide +kernel) (by decide +kernel)
theorem we_X1_letPass : Cond.selects RX1 yX1_letPass yX1_letPass ∈ tb := tb_mem 13 (by decide +kernel) (by decide +kernel)
theorem hyX1_letPass : yX1_letPass.cls = RX1 ∧ yX1_letPass.cls ≠ "java/lang/invoke/MethodHandle" ∧ yX1_letPass.cls ≠ "java/lang/invoke/VarHandle" ∧ (parseMethodDescriptor yX1_letPass.desc).map (fun d => d.parameters.length) = some 1 := ⟨rfl, by decide, by decide, by decide +kernel⟩
set_option maxRecDepth 20000 in
theorem wc_X1_whoIsBeside : Cond.code yX1_whoIsBeside cX1_whoIsBeside 4 (some .int) ∈ tb := tb_mem 502 rfl (by decide +kernel)
theorem wi_X1_whoIsBeside : Cond.instanceMethod yX1_whoIsBeside ∈ tb := tb_mem 501 (by decide +kernel) (by decide +kernel)
theorem we_X1_whoIsBeside : Cond.selects RX1 yX1_whoIsBeside yX1_whoIsBeside ∈ tb := tb_mem 9 (by decide +kernel) (by decide +kernel)
theorem hyX1_whoIsBeside : yX1_whoIsBeside.cls = RX1 ∧ yX1_whoIsBeside.cls ≠ "java/lang/invoke/MethodHandle" ∧ yX1_whoIsBeside.cls ≠ "java/lang/invoke/VarHandle" ∧ (parseMethodDescriptor yX1_whoIsBeside.desc).map (fun d => d.parameters.length) = some 1 := ⟨rfl, by decide, by decide, by decide +kernel⟩
set_option maxRecDepth 20000 in
theorem wc_X2_init : Cond.code yX2_init cX2_init 3 none ∈ tb := tb_mem 271 rfl (by decide +kernel)
theorem wi_X2_init : Cond.instanceMethod yX2_init ∈ tb := tb_mem 270 (by decide +kernel) (by decide +kernel)
theorem hyX2_init : yX2_init.cls = RX2 ∧ yX2_init.cls ≠ "java/lang/invoke/MethodHandle" ∧ yX2_init.cls ≠ "java/lang/invoke/VarHandle" ∧ (parseMethodDescriptor yX2_init.desc).map (fun d => d.parameters.length) = some 1 := ⟨rfl, by decide, by decide, by decide +kernel⟩
set_option maxRecDepth 20000 in
theorem wc_X2_remember : Cond.code yX2_remember cX2_remember 2 none ∈ tb := tb_mem 554 rfl (by decide +kernel)
theorem wi_X2_remember : Cond.instanceMethod yX2_remember ∈ tb := tb_mem 552 (by decide +kernel) (by decide +kernel)
theorem we_X2_remember : Cond.selects RX2 yX2_remember yX2_remember ∈ tb := tb_mem 553 (by decide +kernel) (by decide +kernel)
theorem hyX2_remember : yX2_remember.cls = RX2 ∧ yX2_remember.cls ≠ "java/lang/invoke/MethodHandle" ∧ yX2_remember.cls ≠ "java/lang/invoke/VarHandle" ∧ (parseMethodDescriptor yX2_remember.desc).map (fun d => d.parameters.length) = some 1 := ⟨rfl, by decide, by decide, by decide +kernel⟩
set_option maxRecDepth 20000 in
theorem wc_X2_recall : Cond.code yX2_recall cX2_recall 2 (some .boolean) ∈ tb := tb_mem 605 rfl (by decide +kernel)
theorem wi_X2_recall : Cond.instanceMethod yX2_recall ∈ tb := tb_mem 603 (by decide +kernel) (by decide +kernel)
theorem we_X2_recall : Cond.selects RX2 yX2_recall yX2_recall ∈ tb := tb_mem 604 (by decide +kernel) (by decide +kernel)
theorem hyX2_recall : yX2_recall.cls = RX2 ∧ yX2_recall.cls ≠ "java/lang/invoke/MethodHandle" ∧ yX2_recall.cls ≠ "java/lang/invoke/VarHandle" ∧ (parseMethodDescriptor yX2_recall.desc).map (fun d => d.parameters.length) = some 1 := ⟨rfl, by decide, by decide, by decide +kernel⟩
set_option maxRecDepth 20000 in
theorem wc_X3_init : Cond.code yX3_init cX3_init 3 none ∈ tb := tb_mem 243 rfl (by decide +kernel)
theorem wi_X3_init : Cond.instanceMethod yX3_init ∈ tb := tb_mem 242 (by decide +kernel) (by decide +kernel)
theorem hyX3_init : yX3_init.cls = RX3 ∧ yX3_init.cls ≠ "java/lang/invoke/MethodHandle" ∧ yX3_init.cls ≠ "java/lang/invoke/VarHandle" ∧ (parseMethodDescriptor yX3_init.desc).map (fun d => d.parameters.length) = some 1 := ⟨rfl, by decide, by decide, by decide +kernel⟩
set_option maxRecDepth 20000 in
theorem wc_X3_lookFrom : Cond.code yX3_lookFrom cX3_lookFrom 3 none ∈ tb := tb_mem 638 rfl (by decide +kernel)
theorem wi_X3_lookFrom : Cond.instanceMethod yX3_lookFrom ∈ tb := tb_mem 636 (by decide +kernel) (by decide +kernel)
theorem we_X3_lookFrom : Cond.selects RX3 yX3_lookFrom yX3_lookFrom ∈ tb := tb_mem 637 (by decide +kernel) (by decide +kernel)
theorem hyX3_lookFrom : yX3_lookFrom.cls = RX3 ∧ yX3_lookFrom.cls ≠ "java/lang/invoke/MethodHandle" ∧ yX3_lookFrom.cls ≠ "java/lang/invoke/VarHandle" ∧ (parseMethodDescriptor yX3_lookFrom.desc).map (fun d => d.parameters.length) = some 2 := ⟨rfl, by decide, by decide, by decide +kernel⟩
set_option maxRecDepth 20000 in
theorem wc_X3_lookDeeper : Cond.code yX3_lookDeeper cX3_lookDeeper 3 none ∈ tb := tb_mem 643 rfl (by decide +kernel)
theorem wi_X3_lookDeeper : Cond.instanceMethod yX3_lookDeeper ∈ tb := tb_mem 642 (by decide +kernel) (by decide +kernel)
theorem we_X3_lookDeeper : Cond.selects RX3 yX3_lookDeeper yX3_lookDeeper ∈ tb := tb_mem 17 (by decide +kernel) (by decide +kernel)
theorem hyX3_lookDeeper : yX3_lookDeeper.cls = RX3 ∧ yX3_lookDeeper.cls ≠ "java/lang/invoke/MethodHandle" ∧ yX3_lookDeeper.cls ≠ "java/lang/invoke/VarHandle" ∧ (parseMethodDescriptor yX3_lookDeeper.desc).map (fun d => d.parameters.length) = some 1 := ⟨rfl, by decide, by decide, by decide +kernel⟩
set_option maxRecDepth 20000 in
theorem wc_X3_lookBehind : Cond.code yX3_lookBehind cX3_lookBehind 3 none ∈ tb := tb_mem 653 rfl (by decide +kernel)
theorem wi_X3_lookBehind : Cond.instanceMethod yX3_lookBehind ∈ tb := tb_mem 652 (by decide +kernel) (by decide +kernel)
theorem we_X3_lookBehind : Cond.selects RX3 yX3_lookBehind yX3_lookBehind ∈ tb := tb_mem 19 (by decide +kernel) (by decide +kernel)
theorem hyX3_lookBehind : yX3_lookBehind.cls = RX3 ∧ yX3_lookBehind.cls ≠ "java/lang/invoke/MethodHandle" ∧ yX3_lookBehind.cls ≠ "java/lang/invoke/VarHandle" ∧ (parseMethodDescriptor yX3_lookBehind.desc).map (fun d => d.parameters.length) = some 2 := ⟨rfl, by decide, by decide, by decide +kernel⟩
set_option maxRecDepth 20000 in
theorem wc_X3_isWorthATry : Cond.code yX3_isWorthATry cX3_isWorthATry 3 (some .boolean) ∈ tb := tb_mem 647 rfl (by decide +kernel)
theorem wi_X3_isWorthATry : Cond.instanceMethod yX3_isWorthATry ∈ tb := tb_mem 646 (by decide +kernel) (by decide +kernel)
theorem we_X3_isWorthATry : Cond.selects RX3 yX3_isWorthATry yX3_isWorthATry ∈ tb := tb_mem 18 (by decide +kernel) (by decide +kernel)
theorem hyX3_isWorthATry : yX3_isWorthATry.cls = RX3 ∧ yX3_isWorthATry.cls ≠ "java/lang/invoke/MethodHandle" ∧ yX3_isWorthATry.cls ≠ "java/lang/invoke/VarHandle" ∧ (parseMethodDescriptor yX3_isWorthATry.desc).map (fun d => d.parameters.length) = some 2 := ⟨rfl, by decide, by decide, by decide +kernel⟩
set_option maxRecDepth 20000 in
theorem wc_X3_compare : Cond.code yX3_compare cX3_compare 4 none ∈ tb := tb_mem 658 rfl (by decide +kernel)
theorem wi_X3_compare : Cond.instanceMethod yX3_compare ∈ tb := tb_mem 657 (by decide +kernel) (by decide +kernel)
theorem we_X3_compare : Cond.selects RX3 yX3_compare yX3_compare ∈ tb := tb_mem 20 (by decide +kernel) (by decide +kernel)
theorem hyX3_compare : yX3_compare.cls = RX3 ∧ yX3_compare.cls ≠ "java/lang/invoke/MethodHandle" ∧ yX3_compare.cls ≠ "java/lang/invoke/VarHandle" ∧ (parseMethodDescriptor yX3_compare.desc).map (fun d => d.parameters.length) = some 1 := ⟨rfl, by decide, by decide, by decide +kernel⟩
set_option maxRecDepth 20000 in
theorem wc_X4_init : Cond.code yX4_init cX4_init 1 none ∈ tb := tb_mem 148 rfl (by decide +kernel)
theorem wi_X4_init : Cond.instanceMethod yX4_init ∈ tb := tb_mem 147 (by decide +kernel) (by decide +kernel)
theorem hyX4_init : yX4_init.cls = RX4 ∧ yX4_init.cls ≠ "java/lang/invoke/MethodHandle" ∧ yX4_init.cls ≠ "java/lang/invoke/VarHandle" ∧ (parseMethodDescriptor yX4_init.desc).map (fun d => d.parameters.length) = some 0 := ⟨rfl, by decide, by decide, by decide +kernel⟩
set_option maxRecDepth 20000 in
theorem wc_X4_append : Cond.code yX4_append cX4_append 2 (some .boolean) ∈ tb := tb_mem 332 rfl (by decide +kernel)
theorem wi_X4_append : Cond.instanceMethod yX4_append ∈ tb := tb_mem 330 (by decide +kernel) (by decide +kernel)
theorem we_X4_append : Cond.selects RX4 yX4_append yX4_append ∈ tb := tb_mem 331 (by decide +kernel) (by decide +kernel)
theorem hyX4_append : yX4_append.cls = RX4 ∧ yX4_append.cls ≠ "java/lang/invoke/MethodHandle" ∧ yX4_append.cls ≠ "java/lang/invoke/VarHandle" ∧ (parseMethodDescriptor yX4_append.desc).map (fun d => d.parameters.length) = some 1 := ⟨rfl, by decide, by decide, by decide +kernel⟩
set_option maxRecDepth 20000 in
theorem wc_X4_findFault : Cond.code yX4_findFault cX4_findFault 2 (some .int) ∈ tb := tb_mem 344 rfl (by decide +kernel)
theorem wi_X4_findFault : Cond.instanceMethod yX4_findFault ∈ tb := tb_mem 342 (by decide +kernel) (by decide +kernel)
theorem we_X4_findFault : Cond.selects RX4 yX4_findFault yX4_findFault ∈ tb := tb_mem 343 (by decide +kernel) (by decide +kernel)
theorem hyX4_findFault : yX4_findFault.cls = RX4 ∧ yX4_findFault.cls ≠ "java/lang/invoke/MethodHandle" ∧ yX4_findFault.cls ≠ "java/lang/invoke/VarHandle" ∧ (parseMethodDescriptor yX4_findFault.desc).map (fun d => d.parameters.length) = some 1 := ⟨rfl, by decide, by decide, by decide +kernel⟩
set_option maxRecDepth 20000 in
theorem wc_X4_readClause : Cond.code yX4_readClause cX4_readClause 5 (some .boolean) ∈ tb := tb_mem 353 rfl (by decide +kernel)
theorem wi_X4_readClause : Cond.instanceMethod yX4_readClause ∈ tb := tb_mem 352 (by decide +kernel) (by decide +kernel)
theorem we_X4_readClause : Cond.selects RX4 yX4_readClause yX4_readClause ∈ tb := tb_mem 0 (by decide +kernel) (by decide +kernel)
theorem hyX4_readClause : yX4_readClause.cls = RX4 ∧ yX4_readClause.cls ≠ "java/lang/invoke/MethodHandle" ∧ yX4_readClause.cls ≠ "java/lang/invoke/VarHandle" ∧ (parseMethodDescriptor yX4_readClause.desc).map (fun d => d.parameters.length) = some 0 := ⟨rfl, by decide, by decide, by decide +kernel⟩
set_option maxRecDepth 20000 in
theorem wc_X4_readNumber : Cond.code yX4_readNumber cX4_readNumber 7 (some .boolean) ∈ tb := tb_mem 431 rfl (by decide +kernel)
theorem wi_X4_readNumber : Cond.instanceMethod yX4_readNumber ∈ tb := tb_mem 430 (by decide +kernel) (by decide +kernel)
theorem we_X4_readNumber : Cond.selects RX4 yX4_readNumber yX4_readNumber ∈ tb := tb_mem 5 (by decide +kernel) (by decide +kernel)
theorem hyX4_readNumber : yX4_readNumber.cls = RX4 ∧ yX4_readNumber.cls ≠ "java/lang/invoke/MethodHandle" ∧ yX4_readNumber.cls ≠ "java/lang/invoke/VarHandle" ∧ (parseMethodDescriptor yX4_readNumber.desc).map (fun d => d.parameters.length) = some 3 := ⟨rfl, by decide, by decide, by decide +kernel⟩
set_option maxRecDepth 20000 in
theorem wc_X4_skipBlanks : Cond.code yX4_skipBlanks cX4_skipBlanks 1 none ∈ tb := tb_mem 357 rfl (by decide +kernel)
theorem wi_X4_skipBlanks : Cond.instanceMethod yX4_skipBlanks ∈ tb := tb_mem 356 (by decide +kernel) (by decide +kernel)
theorem we_X4_skipBlanks : Cond.selects RX4 yX4_skipBlanks yX4_skipBlanks ∈ tb := tb_mem 1 (by decide +kernel) (by decide +kernel)
theorem hyX4_skipBlanks : yX4_skipBlanks.cls = RX4 ∧ yX4_skipBlanks.cls ≠ "java/lang/invoke/MethodHandle" ∧ yX4_skipBlanks.cls ≠ "java/lang/invoke/VarHandle" ∧ (parseMethodDescriptor yX4_skipBlanks.desc).map (fun d => d.parameters.length) = some 0 := ⟨rfl, by decide, by decide, by decide +kernel⟩
set_option maxRecDepth 20000 in
theorem wc_X4_endOfRow : Cond.code yX4_endOfRow cX4_endOfRow 4 (some .int) ∈ tb := tb_mem 361 rfl (by decide +kernel)
theorem wi_X4_endOfRow : Cond.instanceMethod yX4_endOfRow ∈ tb := tb_mem 360 (by decide +kernel) (by decide +kernel)
theorem we_X4_endOfRow : Cond.selects RX4 yX4_endOfRow yX4_endOfRow ∈ tb := tb_mem 2 (by decide +kernel) (by decide +kernel)
theorem hyX4_endOfRow : yX4_endOfRow.cls = RX4 ∧ yX4_endOfRow.cls ≠ "java/lang/invoke/MethodHandle" ∧ yX4_endOfRow.cls ≠ "java/lang/invoke/VarHandle" ∧ (parseMethodDescriptor yX4_endOfRow.desc).map (fun d => d.parameters.length) = some 2 := ⟨rfl, by decide, by decide, by decide +kernel⟩
set_option maxRecDepth 20000 in
theorem wc_X4_clauseUpTo : Cond.code yX4_clauseUpTo cX4_clauseUpTo 3 (some (.object "WhichEncore$Clause")) ∈ tb := tb_mem 365 rfl (by decide +kernel)
theorem wi_X4_clauseUpTo : Cond.instanceMethod yX4_clauseUpTo ∈ tb := tb_mem 364 (by decide +kernel) (by decide +kernel)
theorem we_X4_clauseUpTo : Cond.selects RX4 yX4_clauseUpTo yX4_clauseUpTo ∈ tb := tb_mem 3 (by decide +kernel) (by decide +kernel)
theorem hyX4_clauseUpTo : yX4_clauseUpTo.cls = RX4 ∧ yX4_clauseUpTo.cls ≠ "java/lang/invoke/MethodHandle" ∧ yX4_clauseUpTo.cls ≠ "java/lang/invoke/VarHandle" ∧ (parseMethodDescriptor yX4_clauseUpTo.desc).map (fun d => d.parameters.length) = some 1 := ⟨rfl, by decide, by decide, by decide +kernel⟩
set_option maxRecDepth 20000 in
theorem wc_X4_isWordUpTo : Cond.code yX4_isWordUpTo cX4_isWordUpTo 4 (some .boolean) ∈ tb := tb_mem 369 rfl (by decide +kernel)
theorem wi_X4_isWordUpTo : Cond.instanceMethod yX4_isWordUpTo ∈ tb := tb_mem 368 (by decide +kernel) (by decide +kernel)
theorem we_X4_isWordUpTo : Cond.selects RX4 yX4_isWordUpTo yX4_isWordUpTo ∈ tb := tb_mem 4 (by decide +kernel) (by decide +kernel)
theorem hyX4_isWordUpTo : yX4_isWordUpTo.cls = RX4 ∧ yX4_isWordUpTo.cls ≠ "java/lang/invoke/MethodHandle" ∧ yX4_isWordUpTo.cls ≠ "java/lang/invoke/VarHandle" ∧ (parseMethodDescriptor yX4_isWordUpTo.desc).map (fun d => d.parameters.length) = some 2 := ⟨rfl, by decide, by decide, by decide +kernel⟩
set_option maxRecDepth 20000 in
theorem wc_X5_init : Cond.code yX5_init cX5_init 1 none ∈ tb := tb_mem 80 rfl (by decide +kernel)
theorem wi_X5_init : Cond.instanceMethod yX5_init ∈ tb := tb_mem 79 (by decide +kernel) (by decide +kernel)
theorem hyX5_init : yX5_init.cls = RX5 ∧ yX5_init.cls ≠ "java/lang/invoke/MethodHandle" ∧ yX5_init.cls ≠ "java/lang/invoke/VarHandle" ∧ (parseMethodDescriptor yX5_init.desc).map (fun d => d.parameters.length) = some 0 := ⟨rfl, by decide, by decide, by decide +kernel⟩
set_option maxRecDepth 20000 in
theorem wc_X5_beAsAtFirst : Cond.code yX5_beAsAtFirst cX5_beAsAtFirst 1 none ∈ tb := tb_mem 85 rfl (by decide +kernel)
theorem wi_X5_beAsAtFirst : Cond.instanceMethod yX5_beAsAtFirst ∈ tb := tb_mem 83 (by decide +kernel) (by decide +kernel)
theorem we_X5_beAsAtFirst : Cond.selects RX5 yX5_beAsAtFirst yX5_beAsAtFirst ∈ tb := tb_mem 84 (by decide +kernel) (by decide +kernel)
theorem hyX5_beAsAtFirst : yX5_beAsAtFirst.cls = RX5 ∧ yX5_beAsAtFirst.cls ≠ "java/lang/invoke/MethodHandle" ∧ yX5_beAsAtFirst.cls ≠ "java/lang/invoke/VarHandle" ∧ (parseMethodDescriptor yX5_beAsAtFirst.desc).map (fun d => d.parameters.length) = some 0 := ⟨rfl, by decide, by decide, by decide +kernel⟩
set_option maxRecDepth 20000 in
theorem wc_X5_copyFrom : Cond.code yX5_copyFrom cX5_copyFrom 2 none ∈ tb := tb_mem 348 rfl (by decide +kernel)
theorem wi_X5_copyFrom : Cond.instanceMethod yX5_copyFrom ∈ tb := tb_mem 346 (by decide +kernel) (by decide +kernel)
theorem we_X5_copyFrom : Cond.selects RX5 yX5_copyFrom yX5_copyFrom ∈ tb := tb_mem 347 (by decide +kernel) (by decide +kernel)
theorem hyX5_copyFrom : yX5_copyFrom.cls = RX5 ∧ yX5_copyFrom.cls ≠ "java/lang/invoke/MethodHandle" ∧ yX5_copyFrom.cls ≠ "java/lang/invoke/VarHandle" ∧ (parseMethodDescriptor yX5_copyFrom.desc).map (fun d => d.parameters.length) = some 1 := ⟨rfl, by decide, by decide, by decide +kernel⟩
set_option maxRecDepth 20000 in
theorem wc_X5_hasClapper : Cond.code yX5_hasClapper cX5_hasClapper 2 (some .boolean) ∈ tb := tb_mem 460 rfl (by decide +kernel)
theorem wi_X5_hasClapper : Cond.instanceMethod yX5_hasClapper ∈ tb := tb_mem 458 (by decide +kernel) (by decide +kernel)
theorem we_X5_hasClapper : Cond.selects RX5 yX5_hasClapper yX5_hasClapper ∈ tb := tb_mem 459 (by decide +kernel) (by decide +kernel)
theorem hyX5_hasClapper : yX5_hasClapper.cls = RX5 ∧ yX5_hasClapper.cls ≠ "java/lang/invoke/MethodHandle" ∧ yX5_hasClapper.cls ≠ "java/lang/invoke/VarHandle" ∧ (parseMethodDescriptor yX5_hasClapper.desc).map (fun d => d.parameters.length) = some 1 := ⟨rfl, by decide, by decide, by decide +kernel⟩
set_option maxRecDepth 20000 in
theorem wc_X5_hasEncore : Cond.code yX5_hasEncore cX5_hasEncore 2 (some .boolean) ∈ tb := tb_mem 476 rfl (by decide +kernel)
theorem wi_X5_hasEncore : Cond.instanceMethod yX5_hasEncore ∈ tb := tb_mem 474 (by decide +kernel) (by decide +kernel)
theorem we_X5_hasEncore : Cond.selects RX5 yX5_hasEncore yX5_hasEncore ∈ tb := tb_mem 475 (by decide +kernel) (by decide +kernel)
theorem hyX5_hasEncore : yX5_hasEncore.cls = RX5 ∧ yX5_hasEncore.cls ≠ "java/lang/invoke/MethodHandle" ∧ yX5_hasEncore.cls ≠ "java/lang/invoke/VarHandle" ∧ (parseMethodDescriptor yX5_hasEncore.desc).map (fun d => d.parameters.length) = some 1 := ⟨rfl, by decide, by decide, by decide +kernel⟩
set_option maxRecDepth 20000 in
theorem wc_X5_minutesOf : Cond.code yX5_minutesOf cX5_minutesOf 2 (some .int) ∈ tb := tb_mem 549 rfl (by decide +kernel)
theorem wi_X5_minutesOf : Cond.instanceMethod yX5_minutesOf ∈ tb := tb_mem 547 (by decide +kernel) (by decide +kernel)
theorem we_X5_minutesOf : Cond.selects RX5 yX5_minutesOf yX5_minutesOf ∈ tb := tb_mem 548 (by decide +kernel) (by decide +kernel)
theorem hyX5_minutesOf : yX5_minutesOf.cls = RX5 ∧ yX5_minutesOf.cls ≠ "java/lang/invoke/MethodHandle" ∧ yX5_minutesOf.cls ≠ "java/lang/invoke/VarHandle" ∧ (parseMethodDescriptor yX5_minutesOf.desc).map (fun d => d.parameters.length) = some 1 := ⟨rfl, by decide, by decide, by decide +kernel⟩
set_option maxRecDepth 20000 in
theorem wc_X5_sumOver : Cond.code yX5_sumOver cX5_sumOver 5 (some .int) ∈ tb := tb_mem 699 rfl (by decide +kernel)
theorem wi_X5_sumOver : Cond.instanceMethod yX5_sumOver ∈ tb := tb_mem 697 (by decide +kernel) (by decide +kernel)
theorem we_X5_sumOver : Cond.selects RX5 yX5_sumOver yX5_sumOver ∈ tb := tb_mem 698 (by decide +kernel) (by decide +kernel)
theorem hyX5_sumOver : yX5_sumOver.cls = RX5 ∧ yX5_sumOver.cls ≠ "java/lang/invoke/MethodHandle" ∧ yX5_sumOver.cls ≠ "java/lang/invoke/VarHandle" ∧ (parseMethodDescriptor yX5_sumOver.desc).map (fun d => d.parameters.length) = some 2 := ⟨rfl, by decide, by decide, by decide +kernel⟩
set_option maxRecDepth 20000 in
theorem wc_X5_hasRoomFor : Cond.code yX5_hasRoomFor cX5_hasRoomFor 2 (some .boolean) ∈ tb := tb_mem 421 rfl (by decide +kernel)
theorem wi_X5_hasRoomFor : Cond.instanceMethod yX5_hasRoomFor ∈ tb := tb_mem 419 (by decide +kernel) (by decide +kernel)
theorem we_X5_hasRoomFor : Cond.selects RX5 yX5_hasRoomFor yX5_hasRoomFor ∈ tb := tb_mem 420 (by decide +kernel) (by decide +kernel)
theorem hyX5_hasRoomFor : yX5_hasRoomFor.cls = RX5 ∧ yX5_hasRoomFor.cls ≠ "java/lang/invoke/MethodHandle" ∧ yX5_hasRoomFor.cls ≠ "java/lang/invoke/VarHandle" ∧ (parseMethodDescriptor yX5_hasRoomFor.desc).map (fun d => d.parameters.length) = some 1 := ⟨rfl, by decide, by decide, by decide +kernel⟩
set_option maxRecDepth 20000 in
theorem wc_X5_carryOut : Cond.code yX5_carryOut cX5_carryOut 4 none ∈ tb := tb_mem 435 rfl (by decide +kernel)
theorem wi_X5_carryOut : Cond.instanceMethod yX5_carryOut ∈ tb := tb_mem 433 (by decide +kernel) (by decide +kernel)
theorem we_X5_carryOut : Cond.selects RX5 yX5_carryOut yX5_carryOut ∈ tb := tb_mem 434 (by decide +kernel) (by decide +kernel)
theorem hyX5_carryOut : yX5_carryOut.cls = RX5 ∧ yX5_carryOut.cls ≠ "java/lang/invoke/MethodHandle" ∧ yX5_carryOut.cls ≠ "java/lang/invoke/VarHandle" ∧ (parseMethodDescriptor yX5_carryOut.desc).map (fun d => d.parameters.length) = some 3 := ⟨rfl, by decide, by decide, by decide +kernel⟩
set_option maxRecDepth 20000 in
theorem wc_X5_addClapper : Cond.code yX5_addClapper cX5_addClapper 3 none ∈ tb := tb_mem 439 rfl (by decide +kernel)
theorem wi_X5_addClapper : Cond.instanceMethod yX5_addClapper ∈ tb := tb_mem 438 (by decide +kernel) (by decide +kernel)
theorem we_X5_addClapper : Cond.selects RX5 yX5_addClapper yX5_addClapper ∈ tb := tb_mem 6 (by decide +kernel) (by decide +kernel)
theorem hyX5_addClapper : yX5_addClapper.cls = RX5 ∧ yX5_addClapper.cls ≠ "java/lang/invoke/MethodHandle" ∧ yX5_addClapper.cls ≠ "java/lang/invoke/VarHandle" ∧ (parseMethodDescriptor yX5_addClapper.desc).map (fun d => d.parameters.length) = some 2 := ⟨rfl, by decide, by decide, by decide +kernel⟩
set_option maxRecDepth 20000 in
theorem wc_X5_addEncore : Cond.code yX5_addEncore cX5_addEncore 3 none ∈ tb := tb_mem 443 rfl (by decide +kernel)
theorem wi_X5_addEncore : Cond.instanceMethod yX5_addEncore ∈ tb := tb_mem 442 (by decide +kernel) (by decide +kernel)
theorem we_X5_addEncore : Cond.selects RX5 yX5_addEncore yX5_addEncore ∈ tb := tb_mem 7 (by decide +kernel) (by decide +kernel)
theorem hyX5_addEncore : yX5_addEncore.cls = RX5 ∧ yX5_addEncore.cls ≠ "java/lang/invoke/MethodHandle" ∧ yX5_addEncore.cls ≠ "java/lang/invoke/VarHandle" ∧ (parseMethodDescriptor yX5_addEncore.desc).map (fun d => d.parameters.length) = some 2 := ⟨rfl, by decide, by decide, by decide +kernel⟩
set_option maxRecDepth 20000 in
theorem wc_X6_init : Cond.code yX6_init cX6_init 2 none ∈ tb := tb_mem 72 rfl (by decide +kernel)
theorem wi_X6_init : Cond.instanceMethod yX6_init ∈ tb := tb_mem 71 (by decide +kernel) (by decide +kernel)
theorem hyX6_init : yX6_init.cls = RX6 ∧ yX6_init.cls ≠ "java/lang/invoke/MethodHandle" ∧ yX6_init.cls ≠ "java/lang/invoke/VarHandle" ∧ (parseMethodDescriptor yX6_init.desc).map (fun d => d.parameters.length) = some 0 := ⟨rfl, by decide, by decide, by decide +kernel⟩
set_option maxRecDepth 20000 in
theorem wc_X6_write : Cond.code yX6_write cX6_write 2 (some .int) ∈ tb := tb_mem 328 rfl (by decide +kernel)
theorem wi_X6_write : Cond.instanceMethod yX6_write ∈ tb := tb_mem 326 (by decide +kernel) (by decide +kernel)
theorem we_X6_write : Cond.selects RX6 yX6_write yX6_write ∈ tb := tb_mem 327 (by decide +kernel) (by decide +kernel)
theorem hyX6_write : yX6_write.cls = RX6 ∧ yX6_write.cls ≠ "java/lang/invoke/MethodHandle" ∧ yX6_write.cls ≠ "java/lang/invoke/VarHandle" ∧ (parseMethodDescriptor yX6_write.desc).map (fun d => d.parameters.length) = some 1 := ⟨rfl, by decide, by decide, by decide +kernel⟩
set_option maxRecDepth 20000 in
theorem wc_X6_erase : Cond.code yX6_erase cX6_erase 2 (some .int) ∈ tb := tb_mem 336 rfl (by decide +kernel)
theorem wi_X6_erase : Cond.instanceMethod yX6_erase ∈ tb := tb_mem 334 (by decide +kernel) (by decide +kernel)
theorem we_X6_erase : Cond.selects RX6 yX6_erase yX6_erase ∈ tb := tb_mem 335 (by decide +kernel) (by decide +kernel)
theorem hyX6_erase : yX6_erase.cls = RX6 ∧ yX6_erase.cls ≠ "java/lang/invoke/MethodHandle" ∧ yX6_erase.cls ≠ "java/lang/invoke/VarHandle" ∧ (parseMethodDescriptor yX6_erase.desc).map (fun d => d.parameters.length) = some 0 := ⟨rfl, by decide, by decide, by decide +kernel⟩
set_option maxRecDepth 20000 in
theorem wc_X6_fault : Cond.code yX6_fault cX6_fault 1 (some .int) ∈ tb := tb_mem 340 rfl (by decide +kernel)
theorem wi_X6_fault : Cond.instanceMethod yX6_fault ∈ tb := tb_mem 338 (by decide +kernel) (by decide +kernel)
theorem we_X6_fault : Cond.selects RX6 yX6_fault yX6_fault ∈ tb := tb_mem 339 (by decide +kernel) (by decide +kernel)
theorem hyX6_fault : yX6_fault.cls = RX6 ∧ yX6_fault.cls ≠ "java/lang/invoke/MethodHandle" ∧ yX6_fault.cls ≠ "java/lang/invoke/VarHandle" ∧ (parseMethodDescriptor yX6_fault.desc).map (fun d => d.parameters.length) = some 0 := ⟨rfl, by decide, by decide, by decide +kernel⟩
set_option maxRecDepth 20000 in
theorem wc_X6_hall : Cond.code yX6_hall cX6_hall 1 (some .int) ∈ tb := tb_mem 447 rfl (by decide +kernel)
theorem wi_X6_hall : Cond.instanceMethod yX6_hall ∈ tb := tb_mem 445 (by decide +kernel) (by decide +kernel)
theorem we_X6_hall : Cond.selects RX6 yX6_hall yX6_hall ∈ tb := tb_mem 446 (by decide +kernel) (by decide +kernel)
theorem hyX6_hall : yX6_hall.cls = RX6 ∧ yX6_hall.cls ≠ "java/lang/invoke/MethodHandle" ∧ yX6_hall.cls ≠ "java/lang/invoke/VarHandle" ∧ (parseMethodDescriptor yX6_hall.desc).map (fun d => d.parameters.length) = some 0 := ⟨rfl, by decide, by decide, by decide +kernel⟩
set_option maxRecDepth 20000 in
theorem wc_X6_clapper : Cond.code yX6_clapper cX6_clapper 3 (some .int) ∈ tb := tb_mem 456 rfl (by decide +kernel)
theorem wi_X6_clapper : Cond.instanceMethod yX6_clapper ∈ tb := tb_mem 454 (by decide +kernel) (by decide +kernel)
theorem we_X6_clapper : Cond.selects RX6 yX6_clapper yX6_clapper ∈ tb := tb_mem 455 (by decide +kernel) (by decide +kernel)
theorem hyX6_clapper : yX6_clapper.cls = RX6 ∧ yX6_clapper.cls ≠ "java/lang/invoke/MethodHandle" ∧ yX6_clapper.cls ≠ "java/lang/invoke/VarHandle" ∧ (parseMethodDescriptor yX6_clapper.desc).map (fun d => d.parameters.length) = some 2 := ⟨rfl, by decide, by decide, by decide +kernel⟩
set_option maxRecDepth 20000 in
theorem wc_X6_encore : Cond.code yX6_encore cX6_encore 3 (some .int) ∈ tb := tb_mem 472 rfl (by decide +kernel)
theorem wi_X6_encore : Cond.instanceMethod yX6_encore ∈ tb := tb_mem 470 (by decide +kernel) (by decide +kernel)
theorem we_X6_encore : Cond.selects RX6 yX6_encore yX6_encore ∈ tb := tb_mem 471 (by decide +kernel) (by decide +kernel)
theorem hyX6_encore : yX6_encore.cls = RX6 ∧ yX6_encore.cls ≠ "java/lang/invoke/MethodHandle" ∧ yX6_encore.cls ≠ "java/lang/invoke/VarHandle" ∧ (parseMethodDescriptor yX6_encore.desc).map (fun d => d.parameters.length) = some 2 := ⟨rfl, by decide, by decide, by decide +kernel⟩
set_option maxRecDepth 20000 in
theorem wc_X6_as : Cond.code yX6_as cX6_as 3 (some .int) ∈ tb := tb_mem 484 rfl (by decide +kernel)
theorem wi_X6_as : Cond.instanceMethod yX6_as ∈ tb := tb_mem 482 (by decide +kernel) (by decide +kernel)
theorem we_X6_as : Cond.selects RX6 yX6_as yX6_as ∈ tb := tb_mem 483 (by decide +kernel) (by decide +kernel)
theorem hyX6_as : yX6_as.cls = RX6 ∧ yX6_as.cls ≠ "java/lang/invoke/MethodHandle" ∧ yX6_as.cls ≠ "java/lang/invoke/VarHandle" ∧ (parseMethodDescriptor yX6_as.desc).map (fun d => d.parameters.length) = some 2 := ⟨rfl, by decide, by decide, by decide +kernel⟩
set_option maxRecDepth 20000 in
theorem wc_X6_encoreAs : Cond.code yX6_encoreAs cX6_encoreAs 3 (some .int) ∈ tb := tb_mem 509 rfl (by decide +kernel)
theorem wi_X6_encoreAs : Cond.instanceMethod yX6_encoreAs ∈ tb := tb_mem 507 (by decide +kernel) (by decide +kernel)
theorem we_X6_encoreAs : Cond.selects RX6 yX6_encoreAs yX6_encoreAs ∈ tb := tb_mem 508 (by decide +kernel) (by decide +kernel)
theorem hyX6_encoreAs : yX6_encoreAs.cls = RX6 ∧ yX6_encoreAs.cls ≠ "java/lang/invoke/MethodHandle" ∧ yX6_encoreAs.cls ≠ "java/lang/invoke/VarHandle" ∧ (parseMethodDescriptor yX6_encoreAs.desc).map (fun d => d.parameters.length) = some 2 := ⟨rfl, by decide, by decide, by decide +kernel⟩
set_option maxRecDepth 20000 in
theorem wc_X6_can : Cond.code yX6_can cX6_can 3 (some .int) ∈ tb := tb_mem 519 rfl (by decide +kernel)
theorem wi_X6_can : Cond.instanceMethod yX6_can ∈ tb := tb_mem 517 (by decide +kernel) (by decide +kernel)
theorem we_X6_can : Cond.selects RX6 yX6_can yX6_can ∈ tb := tb_mem 518 (by decide +kernel) (by decide +kernel)
theorem hyX6_can : yX6_can.cls = RX6 ∧ yX6_can.cls ≠ "java/lang/invoke/MethodHandle" ∧ yX6_can.cls ≠ "java/lang/invoke/VarHandle" ∧ (parseMethodDescriptor yX6_can.desc).map (fun d => d.parameters.length) = some 1 := ⟨rfl, by decide, by decide, by decide +kernel⟩
set_option maxRecDepth 20000 in
theorem wc_X6_does : Cond.code yX6_does cX6_does 3 (some .int) ∈ tb := tb_mem 545 rfl (by decide +kernel)
theorem wi_X6_does : Cond.instanceMethod yX6_does ∈ tb := tb_mem 543 (by decide +kernel) (by decide +kernel)
theorem we_X6_does : Cond.selects RX6 yX6_does yX6_does ∈ tb := tb_mem 544 (by decide +kernel) (by decide +kernel)
theorem hyX6_does : yX6_does.cls = RX6 ∧ yX6_does.cls ≠ "java/lang/invoke/MethodHandle" ∧ yX6_does.cls ≠ "java/lang/invoke/VarHandle" ∧ (parseMethodDescriptor yX6_does.desc).map (fun d => d.parameters.length) = some 1 := ⟨rfl, by decide, by decide, by decide +kernel⟩
set_option maxRecDepth 20000 in
theorem wc_X6_undo : Cond.code yX6_undo cX6_undo 1 (some .int) ∈ tb := tb_mem 601 rfl (by decide +kernel)
theorem wi_X6_undo : Cond.instanceMethod yX6_undo ∈ tb := tb_mem 599 (by decide +kernel) (by decide +kernel)
theorem we_X6_undo : Cond.selects RX6 yX6_undo yX6_undo ∈ tb := tb_mem 600 (by decide +kernel) (by decide +kernel)
theorem hyX6_undo : yX6_undo.cls = RX6 ∧ yX6_undo.cls ≠ "java/lang/invoke/MethodHandle" ∧ yX6_undo.cls ≠ "java/lang/invoke/VarHandle" ∧ (parseMethodDescriptor yX6_undo.desc).map (fun d => d.parameters.length) = some 0 := ⟨rfl, by decide, by decide, by decide +kernel⟩
set_option maxRecDepth 20000 in
theorem wc_X6_keep : Cond.code yX6_keep cX6_keep 2 (some .int) ∈ tb := tb_mem 609 rfl (by decide +kernel)
theorem wi_X6_keep : Cond.instanceMethod yX6_keep ∈ tb := tb_mem 607 (by decide +kernel) (by decide +kernel)
theorem we_X6_keep : Cond.selects RX6 yX6_keep yX6_keep ∈ tb := tb_mem 608 (by decide +kernel) (by decide +kernel)
theorem hyX6_keep : yX6_keep.cls = RX6 ∧ yX6_keep.cls ≠ "java/lang/invoke/MethodHandle" ∧ yX6_keep.cls ≠ "java/lang/invoke/VarHandle" ∧ (parseMethodDescriptor yX6_keep.desc).map (fun d => d.parameters.length) = some 1 := ⟨rfl, by decide, by decide, by decide +kernel⟩
set_option maxRecDepth 20000 in
theorem wc_X6_back : Cond.code yX6_back cX6_back 2 (some .int) ∈ tb := tb_mem 614 rfl (by decide +kernel)
theorem wi_X6_back : Cond.instanceMethod yX6_back ∈ tb := tb_mem 612 (by decide +kernel) (by decide +kernel)
theorem we_X6_back : Cond.selects RX6 yX6_back yX6_back ∈ tb := tb_mem 613 (by decide +kernel) (by decide +kernel)
theorem hyX6_back : yX6_back.cls = RX6 ∧ yX6_back.cls ≠ "java/lang/invoke/MethodHandle" ∧ yX6_back.cls ≠ "java/lang/invoke/VarHandle" ∧ (parseMethodDescriptor yX6_back.desc).map (fun d => d.parameters.length) = some 1 := ⟨rfl, by decide, by decide, by decide +kernel⟩
set_option maxRecDepth 20000 in
theorem wc_X6_till : Cond.code yX6_till cX6_till 2 (some .int) ∈ tb := tb_mem 618 rfl (by decide +kernel)
theorem wi_X6_till : Cond.instanceMethod yX6_till ∈ tb := tb_mem 616 (by decide +kernel) (by decide +kernel)
theorem we_X6_till : Cond.selects RX6 yX6_till yX6_till ∈ tb := tb_mem 617 (by decide +kernel) (by decide +kernel)
theorem hyX6_till : yX6_till.cls = RX6 ∧ yX6_till.cls ≠ "java/lang/invoke/MethodHandle" ∧ yX6_till.cls ≠ "java/lang/invoke/VarHandle" ∧ (parseMethodDescriptor yX6_till.desc).map (fun d => d.parameters.length) = some 0 := ⟨rfl, by decide, by decide, by decide +kernel⟩
set_option maxRecDepth 20000 in
theorem wc_X6_there : Cond.code yX6_there cX6_there 2 (some .int) ∈ tb := tb_mem 622 rfl (by decide +kernel)
theorem wi_X6_there : Cond.instanceMethod yX6_there ∈ tb := tb_mem 620 (by decide +kernel) (by decide +kernel)
theorem we_X6_there : Cond.selects RX6 yX6_there yX6_there ∈ tb := tb_mem 621 (by decide +kernel) (by decide +kernel)
theorem hyX6_there : yX6_there.cls = RX6 ∧ yX6_there.cls ≠ "java/lang/invoke/MethodHandle" ∧ yX6_there.cls ≠ "java/lang/invoke/VarHandle" ∧ (parseMethodDescriptor yX6_there.desc).map (fun d => d.parameters.length) = some 1 := ⟨rfl, by decide, by decide, by decide +kernel⟩
set_option maxRecDepth 20000 in
theorem wc_X6_sound : Cond.code yX6_sound cX6_sound 2 (some .int) ∈ tb := tb_mem 630 rfl (by decide +kernel)
theorem wi_X6_sound : Cond.instanceMethod yX6_sound ∈ tb := tb_mem 628 (by decide +kernel) (by decide +kernel)
theorem we_X6_sound : Cond.selects RX6 yX6_sound yX6_sound ∈ tb := tb_mem 629 (by decide +kernel) (by decide +kernel)
theorem hyX6_sound : yX6_sound.cls = RX6 ∧ yX6_sound.cls ≠ "java/lang/invoke/MethodHandle" ∧ yX6_sound.cls ≠ "java/lang/invoke/VarHandle" ∧ (parseMethodDescriptor yX6_sound.desc).map (fun d => d.parameters.length) = some 1 := ⟨rfl, by decide, by decide, by decide +kernel⟩
set_option maxRecDepth 20000 in
theorem wc_X6_best : Cond.code yX6_best cX6_best 2 (some .int) ∈ tb := tb_mem 634 rfl (by decide +kernel)
theorem wi_X6_best : Cond.instanceMethod yX6_best ∈ tb := tb_mem 632 (by decide +kernel) (by decide +kernel)
theorem we_X6_best : Cond.selects RX6 yX6_best yX6_best ∈ tb := tb_mem 633 (by decide +kernel) (by decide +kernel)
theorem hyX6_best : yX6_best.cls = RX6 ∧ yX6_best.cls ≠ "java/lang/invoke/MethodHandle" ∧ yX6_best.cls ≠ "java/lang/invoke/VarHandle" ∧ (parseMethodDescriptor yX6_best.desc).map (fun d => d.parameters.length) = some 1 := ⟨rfl, by decide, by decide, by decide +kernel⟩
set_option maxRecDepth 20000 in
theorem wc_X6_row : Cond.code yX6_row cX6_row 3 (some .int) ∈ tb := tb_mem 663 rfl (by decide +kernel)
theorem wi_X6_row : Cond.instanceMethod yX6_row ∈ tb := tb_mem 661 (by decide +kernel) (by decide +kernel)
theorem we_X6_row : Cond.selects RX6 yX6_row yX6_row ∈ tb := tb_mem 662 (by decide +kernel) (by decide +kernel)
theorem hyX6_row : yX6_row.cls = RX6 ∧ yX6_row.cls ≠ "java/lang/invoke/MethodHandle" ∧ yX6_row.cls ≠ "java/lang/invoke/VarHandle" ∧ (parseMethodDescriptor yX6_row.desc).map (fun d => d.parameters.length) = some 1 := ⟨rfl, by decide, by decide, by decide +kernel⟩
set_option maxRecDepth 20000 in
theorem wc_X6_tear : Cond.code yX6_tear cX6_tear 2 (some .int) ∈ tb := tb_mem 667 rfl (by decide +kernel)
theorem wi_X6_tear : Cond.instanceMethod yX6_tear ∈ tb := tb_mem 665 (by decide +kernel) (by decide +kernel)
theorem we_X6_tear : Cond.selects RX6 yX6_tear yX6_tear ∈ tb := tb_mem 666 (by decide +kernel) (by decide +kernel)
theorem hyX6_tear : yX6_tear.cls = RX6 ∧ yX6_tear.cls ≠ "java/lang/invoke/MethodHandle" ∧ yX6_tear.cls ≠ "java/lang/invoke/VarHandle" ∧ (parseMethodDescriptor yX6_tear.desc).map (fun d => d.parameters.length) = some 0 := ⟨rfl, by decide, by decide, by decide +kernel⟩
set_option maxRecDepth 20000 in
theorem wc_X6_judge : Cond.code yX6_judge cX6_judge 3 (some .int) ∈ tb := tb_mem 671 rfl (by decide +kernel)
theorem wi_X6_judge : Cond.instanceMethod yX6_judge ∈ tb := tb_mem 669 (by decide +kernel) (by decide +kernel)
theorem we_X6_judge : Cond.selects RX6 yX6_judge yX6_judge ∈ tb := tb_mem 670 (by decide +kernel) (by decide +kernel)
theorem hyX6_judge : yX6_judge.cls = RX6 ∧ yX6_judge.cls ≠ "java/lang/invoke/MethodHandle" ∧ yX6_judge.cls ≠ "java/lang/invoke/VarHandle" ∧ (parseMethodDescriptor yX6_judge.desc).map (fun d => d.parameters.length) = some 1 := ⟨rfl, by decide, by decide, by decide +kernel⟩
set_option maxRecDepth 20000 in
theorem wc_X6_stay : Cond.code yX6_stay cX6_stay 11 (some .long) ∈ tb := tb_mem 675 rfl (by decide +kernel)
theorem wi_X6_stay : Cond.instanceMethod yX6_stay ∈ tb := tb_mem 673 (by decide +kernel) (by decide +kernel)
theorem we_X6_stay : Cond.selects RX6 yX6_stay yX6_stay ∈ tb := tb_mem 674 (by decide +kernel) (by decide +kernel)
theorem hyX6_stay : yX6_stay.cls = RX6 ∧ yX6_stay.cls ≠ "java/lang/invoke/MethodHandle" ∧ yX6_stay.cls ≠ "java/lang/invoke/VarHandle" ∧ (parseMethodDescriptor yX6_stay.desc).map (fun d => d.parameters.length) = some 3 := ⟨rfl, by decide, by decide, by decide +kernel⟩
set_option maxRecDepth 20000 in
theorem wc_X6_gone : Cond.code yX6_gone cX6_gone 7 (some .int) ∈ tb := tb_mem 690 rfl (by decide +kernel)
theorem wi_X6_gone : Cond.instanceMethod yX6_gone ∈ tb := tb_mem 688 (by decide +kernel) (by decide +kernel)
theorem we_X6_gone : Cond.selects RX6 yX6_gone yX6_gone ∈ tb := tb_mem 689 (by decide +kernel) (by decide +kernel)
theorem hyX6_gone : yX6_gone.cls = RX6 ∧ yX6_gone.cls ≠ "java/lang/invoke/MethodHandle" ∧ yX6_gone.cls ≠ "java/lang/invoke/VarHandle" ∧ (parseMethodDescriptor yX6_gone.desc).map (fun d => d.parameters.length) = some 2 := ⟨rfl, by decide, by decide, by decide +kernel⟩
set_option maxRecDepth 20000 in
theorem wc_X6_prepared : Cond.code yX6_prepared cX6_prepared 6 (some .int) ∈ tb := tb_mem 695 rfl (by decide +kernel)
theorem wi_X6_prepared : Cond.instanceMethod yX6_prepared ∈ tb := tb_mem 693 (by decide +kernel) (by decide +kernel)
theorem we_X6_prepared : Cond.selects RX6 yX6_prepared yX6_prepared ∈ tb := tb_mem 694 (by decide +kernel) (by decide +kernel)
theorem hyX6_prepared : yX6_prepared.cls = RX6 ∧ yX6_prepared.cls ≠ "java/lang/invoke/MethodHandle" ∧ yX6_prepared.cls ≠ "java/lang/invoke/VarHandle" ∧ (parseMethodDescriptor yX6_prepared.desc).map (fun d => d.parameters.length) = some 1 := ⟨rfl, by decide, by decide, by decide +kernel⟩
set_option maxRecDepth 20000 in
theorem wc_X6_other : Cond.code yX6_other cX6_other 3 (some .int) ∈ tb := tb_mem 703 rfl (by decide +kernel)
theorem wi_X6_other : Cond.instanceMethod yX6_other ∈ tb := tb_mem 701 (by decide +kernel) (by decide +kernel)
theorem we_X6_other : Cond.selects RX6 yX6_other yX6_other ∈ tb := tb_mem 702 (by decide +kernel) (by decide +kernel)
theorem hyX6_other : yX6_other.cls = RX6 ∧ yX6_other.cls ≠ "java/lang/invoke/MethodHandle" ∧ yX6_other.cls ≠ "java/lang/invoke/VarHandle" ∧ (parseMethodDescriptor yX6_other.desc).map (fun d => d.parameters.length) = some 1 := ⟨rfl, by decide, by decide, by decide +kernel⟩
set_option maxRecDepth 20000 in
theorem wc_X6_count : Cond.code yX6_count cX6_count 2 (some .int) ∈ tb := tb_mem 707 rfl (by decide +kernel)
theorem wi_X6_count : Cond.instanceMethod yX6_count ∈ tb := tb_mem 705 (by decide +kernel) (by decide +kernel)
theorem we_X6_count : Cond.selects RX6 yX6_count yX6_count ∈ tb := tb_mem 706 (by decide +kernel) (by decide +kernel)
theorem hyX6_count : yX6_count.cls = RX6 ∧ yX6_count.cls ≠ "java/lang/invoke/MethodHandle" ∧ yX6_count.cls ≠ "java/lang/invoke/VarHandle" ∧ (parseMethodDescriptor yX6_count.desc).map (fun d => d.parameters.length) = some 1 := ⟨rfl, by decide, by decide, by decide +kernel⟩
set_option maxRecDepth 20000 in
theorem wc_X6_beginAnew : Cond.code yX6_beginAnew cX6_beginAnew 2 none ∈ tb := tb_mem 452 rfl (by decide +kernel)
theorem wi_X6_beginAnew : Cond.instanceMethod yX6_beginAnew ∈ tb := tb_mem 451 (by decide +kernel) (by decide +kernel)
theorem we_X6_beginAnew : Cond.selects RX6 yX6_beginAnew yX6_beginAnew ∈ tb := tb_mem 8 (by decide +kernel) (by decide +kernel)
theorem hyX6_beginAnew : yX6_beginAnew.cls = RX6 ∧ yX6_beginAnew.cls ≠ "java/lang/invoke/MethodHandle" ∧ yX6_beginAnew.cls ≠ "java/lang/invoke/VarHandle" ∧ (parseMethodDescriptor yX6_beginAnew.desc).map (fun d => d.parameters.length) = some 0 := ⟨rfl, by decide, by decide, by decide +kernel⟩
set_option maxRecDepth 20000 in
theorem wc_X6_refusalOf : Cond.code yX6_refusalOf cX6_refusalOf 2 (some .int) ∈ tb := tb_mem 523 rfl (by decide +kernel)
theorem wi_X6_refusalOf : Cond.instanceMethod yX6_refusalOf ∈ tb := tb_mem 522 (by decide +kernel) (by decide +kernel)
theorem we_X6_refusalOf : Cond.selects RX6 yX6_refusalOf yX6_refusalOf ∈ tb := tb_mem 10 (by decide +kernel) (by decide +kernel)
theorem hyX6_refusalOf : yX6_refusalOf.cls = RX6 ∧ yX6_refusalOf.cls ≠ "java/lang/invoke/MethodHandle" ∧ yX6_refusalOf.cls ≠ "java/lang/invoke/VarHandle" ∧ (parseMethodDescriptor yX6_refusalOf.desc).map (fun d => d.parameters.length) = some 1 := ⟨rfl, by decide, by decide, by decide +kernel⟩
set_option maxRecDepth 20000 in
theorem wc_X6_foretellWaits : Cond.code yX6_foretellWaits cX6_foretellWaits 3 none ∈ tb := tb_mem 626 rfl (by decide +kernel)
theorem wi_X6_foretellWaits : Cond.instanceMethod yX6_foretellWaits ∈ tb := tb_mem 625 (by decide +kernel) (by decide +kernel)
theorem we_X6_foretellWaits : Cond.selects RX6 yX6_foretellWaits yX6_foretellWaits ∈ tb := tb_mem 16 (by decide +kernel) (by decide +kernel)
theorem hyX6_foretellWaits : yX6_foretellWaits.cls = RX6 ∧ yX6_foretellWaits.cls ≠ "java/lang/invoke/MethodHandle" ∧ yX6_foretellWaits.cls ≠ "java/lang/invoke/VarHandle" ∧ (parseMethodDescriptor yX6_foretellWaits.desc).map (fun d => d.parameters.length) = some 1 := ⟨rfl, by decide, by decide, by decide +kernel⟩
set_option maxRecDepth 20000 in
theorem wc_X6_isUnder : Cond.code yX6_isUnder cX6_isUnder 5 (some .boolean) ∈ tb := tb_mem 489 rfl (by decide +kernel)
theorem wt_X6_isUnder : Cond.static yX6_isUnder ∈ tb := tb_mem 488 (by decide +kernel) (by decide +kernel)
theorem hyX6_isUnder : yX6_isUnder.cls ≠ "java/lang/invoke/MethodHandle" ∧ yX6_isUnder.cls ≠ "java/lang/invoke/VarHandle" ∧ (parseMethodDescriptor yX6_isUnder.desc).map (fun d => d.parameters.length) = some 3 := ⟨by decide, by decide, by decide +kernel⟩
set_option maxRecDepth 20000 in
theorem wc_X6_zealBehind : Cond.code yX6_zealBehind cX6_zealBehind 3 (some .int) ∈ tb := tb_mem 514 rfl (by decide +kernel)
theorem wt_X6_zealBehind : Cond.static yX6_zealBehind ∈ tb := tb_mem 513 (by decide +kernel) (by decide +kernel)
theorem hyX6_zealBehind : yX6_zealBehind.cls ≠ "java/lang/invoke/MethodHandle" ∧ yX6_zealBehind.cls ≠ "java/lang/invoke/VarHandle" ∧ (parseMethodDescriptor yX6_zealBehind.desc).map (fun d => d.parameters.length) = some 3 := ⟨by decide, by decide, by decide +kernel⟩
set_option maxRecDepth 20000 in
theorem wc_X6_waysToStay : Cond.code yX6_waysToStay cX6_waysToStay 8 (some .long) ∈ tb := tb_mem 680 rfl (by decide +kernel)
theorem wt_X6_waysToStay : Cond.static yX6_waysToStay ∈ tb := tb_mem 679 (by decide +kernel) (by decide +kernel)
theorem hyX6_waysToStay : yX6_waysToStay.cls ≠ "java/lang/invoke/MethodHandle" ∧ yX6_waysToStay.cls ≠ "java/lang/invoke/VarHandle" ∧ (parseMethodDescriptor yX6_waysToStay.desc).map (fun d => d.parameters.length) = some 3 := ⟨by decide, by decide, by decide +kernel⟩
set_option maxRecDepth 20000 in
theorem wc_X6_power : Cond.code yX6_power cX6_power 5 (some .long) ∈ tb := tb_mem 683 rfl (by decide +kernel)
theorem wt_X6_power : Cond.static yX6_power ∈ tb := tb_mem 682 (by decide +kernel) (by decide +kernel)
theorem hyX6_power : yX6_power.cls ≠ "java/lang/invoke/MethodHandle" ∧ yX6_power.cls ≠ "java/lang/invoke/VarHandle" ∧ (parseMethodDescriptor yX6_power.desc).map (fun d => d.parameters.length) = some 2 := ⟨by decide, by decide, by decide +kernel⟩
set_option maxRecDepth 20000 in
theorem wc_X6_commonDivisor : Cond.code yX6_commonDivisor cX6_commonDivisor 11 (some .long) ∈ tb := tb_mem 686 rfl (by decide +kernel)
theorem wt_X6_commonDivisor : Cond.static yX6_commonDivisor ∈ tb := tb_mem 685 (by decide +kernel) (by decide +kernel)
theorem hyX6_commonDivisor : yX6_commonDivisor.cls ≠ "java/lang/invoke/MethodHandle" ∧ yX6_commonDivisor.cls ≠ "java/lang/invoke/VarHandle" ∧ (parseMethodDescriptor yX6_commonDivisor.desc).map (fun d => d.parameters.length) = some 2 := ⟨by decide, by decide, by decide +kernel⟩
set_option maxRecDepth 20000 in
theorem wc_X7_init : Cond.code yX7_init cX7_init 2 none ∈ tb := tb_mem 712 rfl (by decide +kernel)
theorem wi_X7_init : Cond.instanceMethod yX7_init ∈ tb := tb_mem 711 (by decide +kernel) (by decide +kernel)
theorem hyX7_init : yX7_init.cls = RX7 ∧ yX7_init.cls ≠ "java/lang/invoke/MethodHandle" ∧ yX7_init.cls ≠ "java/lang/invoke/VarHandle" ∧ (parseMethodDescriptor yX7_init.desc).map (fun d => d.parameters.length) = some 0 := ⟨rfl, by decide, by decide, by decide +kernel⟩
set_option maxRecDepth 20000 in
theorem wc_X7_in : Cond.code yX7_in cX7_in 3 (some .boolean) ∈ tb := tb_mem 792 rfl (by decide +kernel)
theorem wt_X7_in : Cond.static yX7_in ∈ tb := tb_mem 791 (by decide +kernel) (by decide +kernel)
theorem hyX7_in : yX7_in.cls ≠ "java/lang/invoke/MethodHandle" ∧ yX7_in.cls ≠ "java/lang/invoke/VarHandle" ∧ (parseMethodDescriptor yX7_in.desc).map (fun d => d.parameters.length) = some 3 := ⟨by decide, by decide, by decide +kernel⟩
set_option maxRecDepth 20000 in
theorem wc_X7_isClapper : Cond.code yX7_isClapper cX7_isClapper 2 (some .boolean) ∈ tb := tb_mem 850 rfl (by decide +kernel)
theorem wi_X7_isClapper : Cond.instanceMethod yX7_isClapper ∈ tb := tb_mem 849 (by decide +kernel) (by decide +kernel)
theorem we_X7_isClapper : Cond.selects RX7 yX7_isClapper yX7_isClapper ∈ tb := tb_mem 31 (by decide +kernel) (by decide +kernel)
theorem hyX7_isClapper : yX7_isClapper.cls = RX7 ∧ yX7_isClapper.cls ≠ "java/lang/invoke/MethodHandle" ∧ yX7_isClapper.cls ≠ "java/lang/invoke/VarHandle" ∧ (parseMethodDescriptor yX7_isClapper.desc).map (fun d => d.parameters.length) = some 1 := ⟨rfl, by decide, by decide, by decide +kernel⟩
set_option maxRecDepth 20000 in
theorem wc_X7_isEncore : Cond.code yX7_isEncore cX7_isEncore 2 (some .boolean) ∈ tb := tb_mem 866 rfl (by decide +kernel)
theorem wi_X7_isEncore : Cond.instanceMethod yX7_isEncore ∈ tb := tb_mem 865 (by decide +kernel) (by decide +kernel)
theorem we_X7_isEncore : Cond.selects RX7 yX7_isEncore yX7_isEncore ∈ tb := tb_mem 34 (by decide +kernel) (by decide +kernel)
theorem hyX7_isEncore : yX7_isEncore.cls = RX7 ∧ yX7_isEncore.cls ≠ "java/lang/invoke/MethodHandle" ∧ yX7_isEncore.cls ≠ "java/lang/invoke/VarHandle" ∧ (parseMethodDescriptor yX7_isEncore.desc).map (fun d => d.parameters.length) = some 1 := ⟨rfl, by decide, by decide, by decide +kernel⟩
set_option maxRecDepth 20000 in
theorem wc_X7_write : Cond.code yX7_write cX7_write 2 (some .int) ∈ tb := tb_mem 789 rfl (by decide +kernel)
theorem wi_X7_write : Cond.instanceMethod yX7_write ∈ tb := tb_mem 787 (by decide +kernel) (by decide +kernel)
theorem we_X7_write : Cond.selects RX7 yX7_write yX7_write ∈ tb := tb_mem 788 (by decide +kernel) (by decide +kernel)
theorem hyX7_write : yX7_write.cls = RX7 ∧ yX7_write.cls ≠ "java/lang/invoke/MethodHandle" ∧ yX7_write.cls ≠ "java/lang/invoke/VarHandle" ∧ (parseMethodDescriptor yX7_write.desc).map (fun d => d.parameters.length) = some 1 := ⟨rfl, by decide, by decide, by decide +kernel⟩
set_option maxRecDepth 20000 in
theorem wc_X7_erase : Cond.code yX7_erase cX7_erase 2 (some .int) ∈ tb := tb_mem 796 rfl (by decide +kernel)
theorem wi_X7_erase : Cond.instanceMethod yX7_erase ∈ tb := tb_mem 794 (by decide +kernel) (by decide +kernel)
theorem we_X7_erase : Cond.selects RX7 yX7_erase yX7_erase ∈ tb := tb_mem 795 (by decide +kernel) (by decide +kernel)
theorem hyX7_erase : yX7_erase.cls = RX7 ∧ yX7_erase.cls ≠ "java/lang/invoke/MethodHandle" ∧ yX7_erase.cls ≠ "java/lang/invoke/VarHandle" ∧ (parseMethodDescriptor yX7_erase.desc).map (fun d => d.parameters.length) = some 0 := ⟨rfl, by decide, by decide, by decide +kernel⟩
set_option maxRecDepth 20000 in
theorem wc_X7_letterAt : Cond.code yX7_letterAt cX7_letterAt 2 (some .int) ∈ tb := tb_mem 812 rfl (by decide +kernel)
theorem wi_X7_letterAt : Cond.instanceMethod yX7_letterAt ∈ tb := tb_mem 811 (by decide +kernel) (by decide +kernel)
theorem we_X7_letterAt : Cond.selects RX7 yX7_letterAt yX7_letterAt ∈ tb := tb_mem 25 (by decide +kernel) (by decide +kernel)
theorem hyX7_letterAt : yX7_letterAt.cls = RX7 ∧ yX7_letterAt.cls ≠ "java/lang/invoke/MethodHandle" ∧ yX7_letterAt.cls ≠ "java/lang/invoke/VarHandle" ∧ (parseMethodDescriptor yX7_letterAt.desc).map (fun d => d.parameters.length) = some 1 := ⟨rfl, by decide, by decide, by decide +kernel⟩
set_option maxRecDepth 20000 in
theorem wc_X7_isLetter : Cond.code yX7_isLetter cX7_isLetter 1 (some .boolean) ∈ tb := tb_mem 815 rfl (by decide +kernel)
theorem wt_X7_isLetter : Cond.static yX7_isLetter ∈ tb := tb_mem 814 (by decide +kernel) (by decide +kernel)
theorem hyX7_isLetter : yX7_isLetter.cls ≠ "java/lang/invoke/MethodHandle" ∧ yX7_isLetter.cls ≠ "java/lang/invoke/VarHandle" ∧ (parseMethodDescriptor yX7_isLetter.desc).map (fun d => d.parameters.length) = some 1 := ⟨by decide, by decide, by decide +kernel⟩
set_option maxRecDepth 20000 in
theorem wc_X7_isDigit : Cond.code yX7_isDigit cX7_isDigit 1 (some .boolean) ∈ tb := tb_mem 818 rfl (by decide +kernel)
theorem wt_X7_isDigit : Cond.static yX7_isDigit ∈ tb := tb_mem 817 (by decide +kernel) (by decide +kernel)
theorem hyX7_isDigit : yX7_isDigit.cls ≠ "java/lang/invoke/MethodHandle" ∧ yX7_isDigit.cls ≠ "java/lang/invoke/VarHandle" ∧ (parseMethodDescriptor yX7_isDigit.desc).map (fun d => d.parameters.length) = some 1 := ⟨by decide, by decide, by decide +kernel⟩
set_option maxRecDepth 20000 in
theorem wc_X7_token : Cond.code yX7_token cX7_token 2 none ∈ tb := tb_mem 808 rfl (by decide +kernel)
theorem wi_X7_token : Cond.instanceMethod yX7_token ∈ tb := tb_mem 807 (by decide +kernel) (by decide +kernel)
theorem we_X7_token : Cond.selects RX7 yX7_token yX7_token ∈ tb := tb_mem 24 (by decide +kernel) (by decide +kernel)
theorem hyX7_token : yX7_token.cls = RX7 ∧ yX7_token.cls ≠ "java/lang/invoke/MethodHandle" ∧ yX7_token.cls ≠ "java/lang/invoke/VarHandle" ∧ (parseMethodDescriptor yX7_token.desc).map (fun d => d.parameters.length) = some 0 := ⟨rfl, by decide, by decide, by decide +kernel⟩
set_option maxRecDepth 20000 in
theorem wc_X7_isWord : Cond.code yX7_isWord cX7_isWord 13 (some .boolean) ∈ tb := tb_mem 826 rfl (by decide +kernel)
theorem wi_X7_isWord : Cond.instanceMethod yX7_isWord ∈ tb := tb_mem 825 (by decide +kernel) (by decide +kernel)
theorem we_X7_isWord : Cond.selects RX7 yX7_isWord yX7_isWord ∈ tb := tb_mem 27 (by decide +kernel) (by decide +kernel)
theorem hyX7_isWord : yX7_isWord.cls = RX7 ∧ yX7_isWord.cls ≠ "java/lang/invoke/MethodHandle" ∧ yX7_isWord.cls ≠ "java/lang/invoke/VarHandle" ∧ (parseMethodDescriptor yX7_isWord.desc).map (fun d => d.parameters.length) = some 9 := ⟨rfl, by decide, by decide, by decide +kernel⟩
set_option maxRecDepth 20000 in
theorem wc_X7_number : Cond.code yX7_number cX7_number 4 (some .boolean) ∈ tb := tb_mem 834 rfl (by decide +kernel)
theorem wi_X7_number : Cond.instanceMethod yX7_number ∈ tb := tb_mem 833 (by decide +kernel) (by decide +kernel)
theorem we_X7_number : Cond.selects RX7 yX7_number yX7_number ∈ tb := tb_mem 29 (by decide +kernel) (by decide +kernel)
theorem hyX7_number : yX7_number.cls = RX7 ∧ yX7_number.cls ≠ "java/lang/invoke/MethodHandle" ∧ yX7_number.cls ≠ "java/lang/invoke/VarHandle" ∧ (parseMethodDescriptor yX7_number.desc).map (fun d => d.parameters.length) = some 3 := ⟨rfl, by decide, by decide, by decide +kernel⟩
set_option maxRecDepth 20000 in
theorem wc_X7_forgets : Cond.code yX7_forgets cX7_forgets 2 none ∈ tb := tb_mem 717 rfl (by decide +kernel)
theorem wi_X7_forgets : Cond.instanceMethod yX7_forgets ∈ tb := tb_mem 716 (by decide +kernel) (by decide +kernel)
theorem we_X7_forgets : Cond.selects RX7 yX7_forgets yX7_forgets ∈ tb := tb_mem 21 (by decide +kernel) (by decide +kernel)
theorem hyX7_forgets : yX7_forgets.cls = RX7 ∧ yX7_forgets.cls ≠ "java/lang/invoke/MethodHandle" ∧ yX7_forgets.cls ≠ "java/lang/invoke/VarHandle" ∧ (parseMethodDescriptor yX7_forgets.desc).map (fun d => d.parameters.length) = some 0 := ⟨rfl, by decide, by decide, by decide +kernel⟩
set_option maxRecDepth 20000 in
theorem wc_X7_readsClapper : Cond.code yX7_readsClapper cX7_readsClapper 3 (some .boolean) ∈ tb := tb_mem 830 rfl (by decide +kernel)
theorem wi_X7_readsClapper : Cond.instanceMethod yX7_readsClapper ∈ tb := tb_mem 829 (by decide +kernel) (by decide +kernel)
theorem we_X7_readsClapper : Cond.selects RX7 yX7_readsClapper yX7_readsClapper ∈ tb := tb_mem 28 (by decide +kernel) (by decide +kernel)
theorem hyX7_readsClapper : yX7_readsClapper.cls = RX7 ∧ yX7_readsClapper.cls ≠ "java/lang/invoke/MethodHandle" ∧ yX7_readsClapper.cls ≠ "java/lang/invoke/VarHandle" ∧ (parseMethodDescriptor yX7_readsClapper.desc).map (fun d => d.parameters.length) = some 1 := ⟨rfl, by decide, by decide, by decide +kernel⟩
set_option maxRecDepth 20000 in
theorem wc_X7_readsEncore : Cond.code yX7_readsEncore cX7_readsEncore 3 (some .boolean) ∈ tb := tb_mem 838 rfl (by decide +kernel)
theorem wi_X7_readsEncore : Cond.instanceMethod yX7_readsEncore ∈ tb := tb_mem 837 (by decide +kernel) (by decide +kernel)
theorem we_X7_readsEncore : Cond.selects RX7 yX7_readsEncore yX7_readsEncore ∈ tb := tb_mem 30 (by decide +kernel) (by decide +kernel)
theorem hyX7_readsEncore : yX7_readsEncore.cls = RX7 ∧ yX7_readsEncore.cls ≠ "java/lang/invoke/MethodHandle" ∧ yX7_readsEncore.cls ≠ "java/lang/invoke/VarHandle" ∧ (parseMethodDescriptor yX7_readsEncore.desc).map (fun d => d.parameters.length) = some 1 := ⟨rfl, by decide, by decide, by decide +kernel⟩
set_option maxRecDepth 20000 in
theorem wc_X7_readsClause : Cond.code yX7_readsClause cX7_readsClause 1 (some .boolean) ∈ tb := tb_mem 822 rfl (by decide +kernel)
theorem wi_X7_readsClause : Cond.instanceMethod yX7_readsClause ∈ tb := tb_mem 821 (by decide +kernel) (by decide +kernel)
theorem we_X7_readsClause : Cond.selects RX7 yX7_readsClause yX7_readsClause ∈ tb := tb_mem 26 (by decide +kernel) (by decide +kernel)
theorem hyX7_readsClause : yX7_readsClause.cls = RX7 ∧ yX7_readsClause.cls ≠ "java/lang/invoke/MethodHandle" ∧ yX7_readsClause.cls ≠ "java/lang/invoke/VarHandle" ∧ (parseMethodDescriptor yX7_readsClause.desc).map (fun d => d.parameters.length) = some 0 := ⟨rfl, by decide, by decide, by decide +kernel⟩
set_option maxRecDepth 20000 in
theorem wc_X7_reads : Cond.code yX7_reads cX7_reads 3 (some .int) ∈ tb := tb_mem 804 rfl (by decide +kernel)
theorem wi_X7_reads : Cond.instanceMethod yX7_reads ∈ tb := tb_mem 803 (by decide +kernel) (by decide +kernel)
theorem we_X7_reads : Cond.selects RX7 yX7_reads yX7_reads ∈ tb := tb_mem 23 (by decide +kernel) (by decide +kernel)
theorem hyX7_reads : yX7_reads.cls = RX7 ∧ yX7_reads.cls ≠ "java/lang/invoke/MethodHandle" ∧ yX7_reads.cls ≠ "java/lang/invoke/VarHandle" ∧ (parseMethodDescriptor yX7_reads.desc).map (fun d => d.parameters.length) = some 0 := ⟨rfl, by decide, by decide, by decide +kernel⟩
set_option maxRecDepth 20000 in
theorem wc_X7_begins : Cond.code yX7_begins cX7_begins 2 none ∈ tb := tb_mem 721 rfl (by decide +kernel)
theorem wi_X7_begins : Cond.instanceMethod yX7_begins ∈ tb := tb_mem 720 (by decide +kernel) (by decide +kernel)
theorem we_X7_begins : Cond.selects RX7 yX7_begins yX7_begins ∈ tb := tb_mem 22 (by decide +kernel) (by decide +kernel)
theorem hyX7_begins : yX7_begins.cls = RX7 ∧ yX7_begins.cls ≠ "java/lang/invoke/MethodHandle" ∧ yX7_begins.cls ≠ "java/lang/invoke/VarHandle" ∧ (parseMethodDescriptor yX7_begins.desc).map (fun d => d.parameters.length) = some 0 := ⟨rfl, by decide, by decide, by decide +kernel⟩
set_option maxRecDepth 20000 in
theorem wc_X7_fault : Cond.code yX7_fault cX7_fault 1 (some .int) ∈ tb := tb_mem 800 rfl (by decide +kernel)
theorem wi_X7_fault : Cond.instanceMethod yX7_fault ∈ tb := tb_mem 798 (by decide +kernel) (by decide +kernel)
theorem we_X7_fault : Cond.selects RX7 yX7_fault yX7_fault ∈ tb := tb_mem 799 (by decide +kernel) (by decide +kernel)
theorem hyX7_fault : yX7_fault.cls = RX7 ∧ yX7_fault.cls ≠ "java/lang/invoke/MethodHandle" ∧ yX7_fault.cls ≠ "java/lang/invoke/VarHandle" ∧ (parseMethodDescriptor yX7_fault.desc).map (fun d => d.parameters.length) = some 0 := ⟨rfl, by decide, by decide, by decide +kernel⟩
set_option maxRecDepth 20000 in
theorem wc_X7_hall : Cond.code yX7_hall cX7_hall 3 (some .int) ∈ tb := tb_mem 842 rfl (by decide +kernel)
theorem wi_X7_hall : Cond.instanceMethod yX7_hall ∈ tb := tb_mem 840 (by decide +kernel) (by decide +kernel)
theorem we_X7_hall : Cond.selects RX7 yX7_hall yX7_hall ∈ tb := tb_mem 841 (by decide +kernel) (by decide +kernel)
theorem hyX7_hall : yX7_hall.cls = RX7 ∧ yX7_hall.cls ≠ "java/lang/invoke/MethodHandle" ∧ yX7_hall.cls ≠ "java/lang/invoke/VarHandle" ∧ (parseMethodDescriptor yX7_hall.desc).map (fun d => d.parameters.length) = some 0 := ⟨rfl, by decide, by decide, by decide +kernel⟩
set_option maxRecDepth 20000 in
theorem wc_X7_isThere : Cond.code yX7_isThere cX7_isThere 2 (some .boolean) ∈ tb := tb_mem 854 rfl (by decide +kernel)
theorem wi_X7_isThere : Cond.instanceMethod yX7_isThere ∈ tb := tb_mem 853 (by decide +kernel) (by decide +kernel)
theorem we_X7_isThere : Cond.selects RX7 yX7_isThere yX7_isThere ∈ tb := tb_mem 32 (by decide +kernel) (by decide +kernel)
theorem hyX7_isThere : yX7_isThere.cls = RX7 ∧ yX7_isThere.cls ≠ "java/lang/invoke/MethodHandle" ∧ yX7_isThere.cls ≠ "java/lang/invoke/VarHandle" ∧ (parseMethodDescriptor yX7_isThere.desc).map (fun d => d.parameters.length) = some 1 := ⟨rfl, by decide, by decide, by decide +kernel⟩
set_option maxRecDepth 20000 in
theorem wc_X7_claps : Cond.code yX7_claps cX7_claps 2 (some .boolean) ∈ tb := tb_mem 858 rfl (by decide +kernel)
theorem wi_X7_claps : Cond.instanceMethod yX7_claps ∈ tb := tb_mem 857 (by decide +kernel) (by decide +kernel)
theorem we_X7_claps : Cond.selects RX7 yX7_claps yX7_claps ∈ tb := tb_mem 33 (by decide +kernel) (by decide +kernel)
theorem hyX7_claps : yX7_claps.cls = RX7 ∧ yX7_claps.cls ≠ "java/lang/invoke/MethodHandle" ∧ yX7_claps.cls ≠ "java/lang/invoke/VarHandle" ∧ (parseMethodDescriptor yX7_claps.desc).map (fun d => d.parameters.length) = some 1 := ⟨rfl, by decide, by decide, by decide +kernel⟩
set_option maxRecDepth 20000 in
theorem wc_X7_noise : Cond.code yX7_noise cX7_noise 3 (some .int) ∈ tb := tb_mem 897 rfl (by decide +kernel)
theorem wi_X7_noise : Cond.instanceMethod yX7_noise ∈ tb := tb_mem 896 (by decide +kernel) (by decide +kernel)
theorem we_X7_noise : Cond.selects RX7 yX7_noise yX7_noise ∈ tb := tb_mem 38 (by decide +kernel) (by decide +kernel)
theorem hyX7_noise : yX7_noise.cls = RX7 ∧ yX7_noise.cls ≠ "java/lang/invoke/MethodHandle" ∧ yX7_noise.cls ≠ "java/lang/invoke/VarHandle" ∧ (parseMethodDescriptor yX7_noise.desc).map (fun d => d.parameters.length) = some 0 := ⟨rfl, by decide, by decide, by decide +kernel⟩
set_option maxRecDepth 20000 in
theorem wc_X7_thereNow : Cond.code yX7_thereNow cX7_thereNow 3 (some .int) ∈ tb := tb_mem 925 rfl (by decide +kernel)
theorem wi_X7_thereNow : Cond.instanceMethod yX7_thereNow ∈ tb := tb_mem 924 (by decide +kernel) (by decide +kernel)
theorem we_X7_thereNow : Cond.selects RX7 yX7_thereNow yX7_thereNow ∈ tb := tb_mem 44 (by decide +kernel) (by decide +kernel)
theorem hyX7_thereNow : yX7_thereNow.cls = RX7 ∧ yX7_thereNow.cls ≠ "java/lang/invoke/MethodHandle" ∧ yX7_thereNow.cls ≠ "java/lang/invoke/VarHandle" ∧ (parseMethodDescriptor yX7_thereNow.desc).map (fun d => d.parameters.length) = some 0 := ⟨rfl, by decide, by decide, by decide +kernel⟩
set_option maxRecDepth 20000 in
theorem wc_X7_ones : Cond.code yX7_ones cX7_ones 3 (some .int) ∈ tb := tb_mem 928 rfl (by decide +kernel)
theorem wt_X7_ones : Cond.static yX7_ones ∈ tb := tb_mem 927 (by decide +kernel) (by decide +kernel)
theorem hyX7_ones : yX7_ones.cls ≠ "java/lang/invoke/MethodHandle" ∧ yX7_ones.cls ≠ "java/lang/invoke/VarHandle" ∧ (parseMethodDescriptor yX7_ones.desc).map (fun d => d.parameters.length) = some 1 := ⟨by decide, by decide, by decide +kernel⟩
set_option maxRecDepth 20000 in
theorem wc_X7_clapper : Cond.code yX7_clapper cX7_clapper 3 (some .int) ∈ tb := tb_mem 846 rfl (by decide +kernel)
theorem wi_X7_clapper : Cond.instanceMethod yX7_clapper ∈ tb := tb_mem 844 (by decide +kernel) (by decide +kernel)
theorem we_X7_clapper : Cond.selects RX7 yX7_clapper yX7_clapper ∈ tb := tb_mem 845 (by decide +kernel) (by decide +kernel)
theorem hyX7_clapper : yX7_clapper.cls = RX7 ∧ yX7_clapper.cls ≠ "java/lang/invoke/MethodHandle" ∧ yX7_clapper.cls ≠ "java/lang/invoke/VarHandle" ∧ (parseMethodDescriptor yX7_clapper.desc).map (fun d => d.parameters.length) = some 2 := ⟨rfl, by decide, by decide, by decide +kernel⟩
set_option maxRecDepth 20000 in
theorem wc_X7_encore : Cond.code yX7_encore cX7_encore 3 (some .int) ∈ tb := tb_mem 862 rfl (by decide +kernel)
theorem wi_X7_encore : Cond.instanceMethod yX7_encore ∈ tb := tb_mem 860 (by decide +kernel) (by decide +kernel)
theorem we_X7_encore : Cond.selects RX7 yX7_encore yX7_encore ∈ tb := tb_mem 861 (by decide +kernel) (by decide +kernel)
theorem hyX7_encore : yX7_encore.cls = RX7 ∧ yX7_encore.cls ≠ "java/lang/invoke/MethodHandle" ∧ yX7_encore.cls ≠ "java/lang/invoke/VarHandle" ∧ (parseMethodDescriptor yX7_encore.desc).map (fun d => d.parameters.length) = some 2 := ⟨rfl, by decide, by decide, by decide +kernel⟩
set_option maxRecDepth 20000 in
theorem wc_X7_wasKnown : Cond.code yX7_wasKnown cX7_wasKnown 3 (some .boolean) ∈ tb := tb_mem 878 rfl (by decide +kernel)
theorem wi_X7_wasKnown : Cond.instanceMethod yX7_wasKnown ∈ tb := tb_mem 877 (by decide +kernel) (by decide +kernel)
theorem we_X7_wasKnown : Cond.selects RX7 yX7_wasKnown yX7_wasKnown ∈ tb := tb_mem 36 (by decide +kernel) (by decide +kernel)
theorem hyX7_wasKnown : yX7_wasKnown.cls = RX7 ∧ yX7_wasKnown.cls ≠ "java/lang/invoke/MethodHandle" ∧ yX7_wasKnown.cls ≠ "java/lang/invoke/VarHandle" ∧ (parseMethodDescriptor yX7_wasKnown.desc).map (fun d => d.parameters.length) = some 0 := ⟨rfl, by decide, by decide, by decide +kernel⟩
set_option maxRecDepth 20000 in
theorem wc_X7_loses : Cond.code yX7_loses cX7_loses 6 (some .int) ∈ tb := tb_mem 874 rfl (by decide +kernel)
theorem wi_X7_loses : Cond.instanceMethod yX7_loses ∈ tb := tb_mem 873 (by decide +kernel) (by decide +kernel)
theorem we_X7_loses : Cond.selects RX7 yX7_loses yX7_loses ∈ tb := tb_mem 35 (by decide +kernel) (by decide +kernel)
theorem hyX7_loses : yX7_loses.cls = RX7 ∧ yX7_loses.cls ≠ "java/lang/invoke/MethodHandle" ∧ yX7_loses.cls ≠ "java/lang/invoke/VarHandle" ∧ (parseMethodDescriptor yX7_loses.desc).map (fun d => d.parameters.length) = some 1 := ⟨rfl, by decide, by decide, by decide +kernel⟩
set_option maxRecDepth 20000 in
theorem wc_X7_as : Cond.code yX7_as cX7_as 5 (some .int) ∈ tb := tb_mem 870 rfl (by decide +kernel)
theorem wi_X7_as : Cond.instanceMethod yX7_as ∈ tb := tb_mem 868 (by decide +kernel) (by decide +kernel)
theorem we_X7_as : Cond.selects RX7 yX7_as yX7_as ∈ tb := tb_mem 869 (by decide +kernel) (by decide +kernel)
theorem hyX7_as : yX7_as.cls = RX7 ∧ yX7_as.cls ≠ "java/lang/invoke/MethodHandle" ∧ yX7_as.cls ≠ "java/lang/invoke/VarHandle" ∧ (parseMethodDescriptor yX7_as.desc).map (fun d => d.parameters.length) = some 2 := ⟨rfl, by decide, by decide, by decide +kernel⟩
set_option maxRecDepth 20000 in
theorem wc_X7_behind : Cond.code yX7_behind cX7_behind 4 (some .int) ∈ tb := tb_mem 885 rfl (by decide +kernel)
theorem wt_X7_behind : Cond.static yX7_behind ∈ tb := tb_mem 884 (by decide +kernel) (by decide +kernel)
theorem hyX7_behind : yX7_behind.cls ≠ "java/lang/invoke/MethodHandle" ∧ yX7_behind.cls ≠ "java/lang/invoke/VarHandle" ∧ (parseMethodDescriptor yX7_behind.desc).map (fun d => d.parameters.length) = some 3 := ⟨by decide, by decide, by decide +kernel⟩
set_option maxRecDepth 20000 in
theorem wc_X7_encoreAs : Cond.code yX7_encoreAs cX7_encoreAs 5 (some .int) ∈ tb := tb_mem 882 rfl (by decide +kernel)
theorem wi_X7_encoreAs : Cond.instanceMethod yX7_encoreAs ∈ tb := tb_mem 880 (by decide +kernel) (by decide +kernel)
theorem we_X7_encoreAs : Cond.selects RX7 yX7_encoreAs yX7_encoreAs ∈ tb := tb_mem 881 (by decide +kernel) (by decide +kernel)
theorem hyX7_encoreAs : yX7_encoreAs.cls = RX7 ∧ yX7_encoreAs.cls ≠ "java/lang/invoke/MethodHandle" ∧ yX7_encoreAs.cls ≠ "java/lang/invoke/VarHandle" ∧ (parseMethodDescriptor yX7_encoreAs.desc).map (fun d => d.parameters.length) = some 2 := ⟨rfl, by decide, by decide, by decide +kernel⟩
set_option maxRecDepth 20000 in
theorem wc_X7_lacks : Cond.code yX7_lacks cX7_lacks 3 (some .int) ∈ tb := tb_mem 893 rfl (by decide +kernel)
theorem wi_X7_lacks : Cond.instanceMethod yX7_lacks ∈ tb := tb_mem 892 (by decide +kernel) (by decide +kernel)
theorem we_X7_lacks : Cond.selects RX7 yX7_lacks yX7_lacks ∈ tb := tb_mem 37 (by decide +kernel) (by decide +kernel)
theorem hyX7_lacks : yX7_lacks.cls = RX7 ∧ yX7_lacks.cls ≠ "java/lang/invoke/MethodHandle" ∧ yX7_lacks.cls ≠ "java/lang/invoke/VarHandle" ∧ (parseMethodDescriptor yX7_lacks.desc).map (fun d => d.parameters.length) = some 1 := ⟨rfl, by decide, by decide, by decide +kernel⟩
set_option maxRecDepth 20000 in
theorem wc_X7_can : Cond.code yX7_can cX7_can 3 (some .int) ∈ tb := tb_mem 889 rfl (by decide +kernel)
theorem wi_X7_can : Cond.instanceMethod yX7_can ∈ tb := tb_mem 887 (by decide +kernel) (by decide +kernel)
theorem we_X7_can : Cond.selects RX7 yX7_can yX7_can ∈ tb := tb_mem 888 (by decide +kernel) (by decide +kernel)
theorem hyX7_can : yX7_can.cls = RX7 ∧ yX7_can.cls ≠ "java/lang/invoke/MethodHandle" ∧ yX7_can.cls ≠ "java/lang/invoke/VarHandle" ∧ (parseMethodDescriptor yX7_can.desc).map (fun d => d.parameters.length) = some 1 := ⟨rfl, by decide, by decide, by decide +kernel⟩
set_option maxRecDepth 20000 in
theorem wc_X7_minute : Cond.code yX7_minute cX7_minute 1 none ∈ tb := tb_mem 913 rfl (by decide +kernel)
theorem wi_X7_minute : Cond.instanceMethod yX7_minute ∈ tb := tb_mem 912 (by decide +kernel) (by decide +kernel)
theorem we_X7_minute : Cond.selects RX7 yX7_minute yX7_minute ∈ tb := tb_mem 41 (by decide +kernel) (by decide +kernel)
theorem hyX7_minute : yX7_minute.cls = RX7 ∧ yX7_minute.cls ≠ "java/lang/invoke/MethodHandle" ∧ yX7_minute.cls ≠ "java/lang/invoke/VarHandle" ∧ (parseMethodDescriptor yX7_minute.desc).map (fun d => d.parameters.length) = some 0 := ⟨rfl, by decide, by decide, by decide +kernel⟩
set_option maxRecDepth 20000 in
theorem wc_X7_waitsOne : Cond.code yX7_waitsOne cX7_waitsOne 3 none ∈ tb := tb_mem 909 rfl (by decide +kernel)
theorem wi_X7_waitsOne : Cond.instanceMethod yX7_waitsOne ∈ tb := tb_mem 908 (by decide +kernel) (by decide +kernel)
theorem we_X7_waitsOne : Cond.selects RX7 yX7_waitsOne yX7_waitsOne ∈ tb := tb_mem 40 (by decide +kernel) (by decide +kernel)
theorem hyX7_waitsOne : yX7_waitsOne.cls = RX7 ∧ yX7_waitsOne.cls ≠ "java/lang/invoke/MethodHandle" ∧ yX7_waitsOne.cls ≠ "java/lang/invoke/VarHandle" ∧ (parseMethodDescriptor yX7_waitsOne.desc).map (fun d => d.parameters.length) = some 0 := ⟨rfl, by decide, by decide, by decide +kernel⟩
set_option maxRecDepth 20000 in
theorem wc_X7_bows : Cond.code yX7_bows cX7_bows 4 none ∈ tb := tb_mem 917 rfl (by decide +kernel)
theorem wi_X7_bows : Cond.instanceMethod yX7_bows ∈ tb := tb_mem 916 (by decide +kernel) (by decide +kernel)
theorem we_X7_bows : Cond.selects RX7 yX7_bows yX7_bows ∈ tb := tb_mem 42 (by decide +kernel) (by decide +kernel)
theorem hyX7_bows : yX7_bows.cls = RX7 ∧ yX7_bows.cls ≠ "java/lang/invoke/MethodHandle" ∧ yX7_bows.cls ≠ "java/lang/invoke/VarHandle" ∧ (parseMethodDescriptor yX7_bows.desc).map (fun d => d.parameters.length) = some 0 := ⟨rfl, by decide, by decide, by decide +kernel⟩
set_option maxRecDepth 20000 in
theorem wc_X7_plays : Cond.code yX7_plays cX7_plays 3 none ∈ tb := tb_mem 921 rfl (by decide +kernel)
theorem wi_X7_plays : Cond.instanceMethod yX7_plays ∈ tb := tb_mem 920 (by decide +kernel) (by decide +kernel)
theorem we_X7_plays : Cond.selects RX7 yX7_plays yX7_plays ∈ tb := tb_mem 43 (by decide +kernel) (by decide +kernel)
theorem hyX7_plays : yX7_plays.cls = RX7 ∧ yX7_plays.cls ≠ "java/lang/invoke/MethodHandle" ∧ yX7_plays.cls ≠ "java/lang/invoke/VarHandle" ∧ (parseMethodDescriptor yX7_plays.desc).map (fun d => d.parameters.length) = some 1 := ⟨rfl, by decide, by decide, by decide +kernel⟩
set_option maxRecDepth 20000 in
theorem wc_X7_steps : Cond.code yX7_steps cX7_steps 2 none ∈ tb := tb_mem 905 rfl (by decide +kernel)
theorem wi_X7_steps : Cond.instanceMethod yX7_steps ∈ tb := tb_mem 904 (by decide +kernel) (by decide +kernel)
theorem we_X7_steps : Cond.selects RX7 yX7_steps yX7_steps ∈ tb := tb_mem 39 (by decide +kernel) (by decide +kernel)
theorem hyX7_steps : yX7_steps.cls = RX7 ∧ yX7_steps.cls ≠ "java/lang/invoke/MethodHandle" ∧ yX7_steps.cls ≠ "java/lang/invoke/VarHandle" ∧ (parseMethodDescriptor yX7_steps.desc).map (fun d => d.parameters.length) = some 1 := ⟨rfl, by decide, by decide, by decide +kernel⟩
set_option maxRecDepth 20000 in
theorem wc_X7_does : Cond.code yX7_does cX7_does 5 (some .int) ∈ tb := tb_mem 901 rfl (by decide +kernel)
theorem wi_X7_does : Cond.instanceMethod yX7_does ∈ tb := tb_mem 899 (by decide +kernel) (by decide +kernel)
theorem we_X7_does : Cond.selects RX7 yX7_does yX7_does ∈ tb := tb_mem 900 (by decide +kernel) (by decide +kernel)
theorem hyX7_does : yX7_does.cls = RX7 ∧ yX7_does.cls ≠ "java/lang/invoke/MethodHandle" ∧ yX7_does.cls ≠ "java/lang/invoke/VarHandle" ∧ (parseMethodDescriptor yX7_does.desc).map (fun d => d.parameters.length) = some 1 := ⟨rfl, by decide, by decide, by decide +kernel⟩
set_option maxRecDepth 20000 in
theorem wc_X7_undo : Cond.code yX7_undo cX7_undo 2 (some .int) ∈ tb := tb_mem 932 rfl (by decide +kernel)
theorem wi_X7_undo : Cond.instanceMethod yX7_undo ∈ tb := tb_mem 930 (by decide +kernel) (by decide +kernel)
theorem we_X7_undo : Cond.selects RX7 yX7_undo yX7_undo ∈ tb := tb_mem 931 (by decide +kernel) (by decide +kernel)
theorem hyX7_undo : yX7_undo.cls = RX7 ∧ yX7_undo.cls ≠ "java/lang/invoke/MethodHandle" ∧ yX7_undo.cls ≠ "java/lang/invoke/VarHandle" ∧ (parseMethodDescriptor yX7_undo.desc).map (fun d => d.parameters.length) = some 0 := ⟨rfl, by decide, by decide, by decide +kernel⟩
set_option maxRecDepth 20000 in
theorem wc_X7_keep : Cond.code yX7_keep cX7_keep 3 (some .int) ∈ tb := tb_mem 936 rfl (by decide +kernel)
theorem wi_X7_keep : Cond.instanceMethod yX7_keep ∈ tb := tb_mem 934 (by decide +kernel) (by decide +kernel)
theorem we_X7_keep : Cond.selects RX7 yX7_keep yX7_keep ∈ tb := tb_mem 935 (by decide +kernel) (by decide +kernel)
theorem hyX7_keep : yX7_keep.cls = RX7 ∧ yX7_keep.cls ≠ "java/lang/invoke/MethodHandle" ∧ yX7_keep.cls ≠ "java/lang/invoke/VarHandle" ∧ (parseMethodDescriptor yX7_keep.desc).map (fun d => d.parameters.length) = some 1 := ⟨rfl, by decide, by decide, by decide +kernel⟩
set_option maxRecDepth 20000 in
theorem wc_X7_back : Cond.code yX7_back cX7_back 3 (some .int) ∈ tb := tb_mem 940 rfl (by decide +kernel)
theorem wi_X7_back : Cond.instanceMethod yX7_back ∈ tb := tb_mem 938 (by decide +kernel) (by decide +kernel)
theorem we_X7_back : Cond.selects RX7 yX7_back yX7_back ∈ tb := tb_mem 939 (by decide +kernel) (by decide +kernel)
theorem hyX7_back : yX7_back.cls = RX7 ∧ yX7_back.cls ≠ "java/lang/invoke/MethodHandle" ∧ yX7_back.cls ≠ "java/lang/invoke/VarHandle" ∧ (parseMethodDescriptor yX7_back.desc).map (fun d => d.parameters.length) = some 1 := ⟨rfl, by decide, by decide, by decide +kernel⟩
set_option maxRecDepth 20000 in
theorem wc_X7_holds : Cond.code yX7_holds cX7_holds 2 none ∈ tb := tb_mem 948 rfl (by decide +kernel)
theorem wi_X7_holds : Cond.instanceMethod yX7_holds ∈ tb := tb_mem 947 (by decide +kernel) (by decide +kernel)
theorem we_X7_holds : Cond.selects RX7 yX7_holds yX7_holds ∈ tb := tb_mem 45 (by decide +kernel) (by decide +kernel)
theorem hyX7_holds : yX7_holds.cls = RX7 ∧ yX7_holds.cls ≠ "java/lang/invoke/MethodHandle" ∧ yX7_holds.cls ≠ "java/lang/invoke/VarHandle" ∧ (parseMethodDescriptor yX7_holds.desc).map (fun d => d.parameters.length) = some 0 := ⟨rfl, by decide, by decide, by decide +kernel⟩
set_option maxRecDepth 20000 in
theorem wc_X7_lets : Cond.code yX7_lets cX7_lets 2 none ∈ tb := tb_mem 952 rfl (by decide +kernel)
theorem wi_X7_lets : Cond.instanceMethod yX7_lets ∈ tb := tb_mem 951 (by decide +kernel) (by decide +kernel)
theorem we_X7_lets : Cond.selects RX7 yX7_lets yX7_lets ∈ tb := tb_mem 46 (by decide +kernel) (by decide +kernel)
theorem hyX7_lets : yX7_lets.cls = RX7 ∧ yX7_lets.cls ≠ "java/lang/invoke/MethodHandle" ∧ yX7_lets.cls ≠ "java/lang/invoke/VarHandle" ∧ (parseMethodDescriptor yX7_lets.desc).map (fun d => d.parameters.length) = some 0 := ⟨rfl, by decide, by decide, by decide +kernel⟩
set_option maxRecDepth 20000 in
theorem wc_X7_till : Cond.code yX7_till cX7_till 2 (some .int) ∈ tb := tb_mem 944 rfl (by decide +kernel)
theorem wi_X7_till : Cond.instanceMethod yX7_till ∈ tb := tb_mem 942 (by decide +kernel) (by decide +kernel)
theorem we_X7_till : Cond.selects RX7 yX7_till yX7_till ∈ tb := tb_mem 943 (by decide +kernel) (by decide +kernel)
theorem hyX7_till : yX7_till.cls = RX7 ∧ yX7_till.cls ≠ "java/lang/invoke/MethodHandle" ∧ yX7_till.cls ≠ "java/lang/invoke/VarHandle" ∧ (parseMethodDescriptor yX7_till.desc).map (fun d => d.parameters.length) = some 0 := ⟨rfl, by decide, by decide, by decide +kernel⟩
set_option maxRecDepth 20000 in
theorem wc_X7_behindWaits : Cond.code yX7_behindWaits cX7_behindWaits 4 (some .int) ∈ tb := tb_mem 960 rfl (by decide +kernel)
theorem wi_X7_behindWaits : Cond.instanceMethod yX7_behindWaits ∈ tb := tb_mem 959 (by decide +kernel) (by decide +kernel)
theorem we_X7_behindWaits : Cond.selects RX7 yX7_behindWaits yX7_behindWaits ∈ tb := tb_mem 47 (by decide +kernel) (by decide +kernel)
theorem hyX7_behindWaits : yX7_behindWaits.cls = RX7 ∧ yX7_behindWaits.cls ≠ "java/lang/invoke/MethodHandle" ∧ yX7_behindWaits.cls ≠ "java/lang/invoke/VarHandle" ∧ (parseMethodDescriptor yX7_behindWaits.desc).map (fun d => d.parameters.length) = some 2 := ⟨rfl, by decide, by decide, by decide +kernel⟩
set_option maxRecDepth 20000 in
theorem wc_X7_there : Cond.code yX7_there cX7_there 2 (some .int) ∈ tb := tb_mem 956 rfl (by decide +kernel)
theorem wi_X7_there : Cond.instanceMethod yX7_there ∈ tb := tb_mem 954 (by decide +kernel) (by decide +kernel)
theorem we_X7_there : Cond.selects RX7 yX7_there yX7_there ∈ tb := tb_mem 955 (by decide +kernel) (by decide +kernel)
theorem hyX7_there : yX7_there.cls = RX7 ∧ yX7_there.cls ≠ "java/lang/invoke/MethodHandle" ∧ yX7_there.cls ≠ "java/lang/invoke/VarHandle" ∧ (parseMethodDescriptor yX7_there.desc).map (fun d => d.parameters.length) = some 1 := ⟨rfl, by decide, by decide, by decide +kernel⟩
set_option maxRecDepth 20000 in
theorem wc_X7_sound : Cond.code yX7_sound cX7_sound 2 (some .int) ∈ tb := tb_mem 964 rfl (by decide +kernel)
theorem wi_X7_sound : Cond.instanceMethod yX7_sound ∈ tb := tb_mem 962 (by decide +kernel) (by decide +kernel)
theorem we_X7_sound : Cond.selects RX7 yX7_sound yX7_sound ∈ tb := tb_mem 963 (by decide +kernel) (by decide +kernel)
theorem hyX7_sound : yX7_sound.cls = RX7 ∧ yX7_sound.cls ≠ "java/lang/invoke/MethodHandle" ∧ yX7_sound.cls ≠ "java/lang/invoke/VarHandle" ∧ (parseMethodDescriptor yX7_sound.desc).map (fun d => d.parameters.length) = some 1 := ⟨rfl, by decide, by decide, by decide +kernel⟩
set_option maxRecDepth 20000 in
theorem wc_X7_comesBack : Cond.code yX7_comesBack cX7_comesBack 3 none ∈ tb := tb_mem 980 rfl (by decide +kernel)
theorem wi_X7_comesBack : Cond.instanceMethod yX7_comesBack ∈ tb := tb_mem 979 (by decide +kernel) (by decide +kernel)
theorem we_X7_comesBack : Cond.selects RX7 yX7_comesBack yX7_comesBack ∈ tb := tb_mem 50 (by decide +kernel) (by decide +kernel)
theorem hyX7_comesBack : yX7_comesBack.cls = RX7 ∧ yX7_comesBack.cls ≠ "java/lang/invoke/MethodHandle" ∧ yX7_comesBack.cls ≠ "java/lang/invoke/VarHandle" ∧ (parseMethodDescriptor yX7_comesBack.desc).map (fun d => d.parameters.length) = some 1 := ⟨rfl, by decide, by decide, by decide +kernel⟩
set_option maxRecDepth 20000 in
theorem wc_X7_goesOn : Cond.code yX7_goesOn cX7_goesOn 3 none ∈ tb := tb_mem 976 rfl (by decide +kernel)
theorem wi_X7_goesOn : Cond.instanceMethod yX7_goesOn ∈ tb := tb_mem 975 (by decide +kernel) (by decide +kernel)
theorem we_X7_goesOn : Cond.selects RX7 yX7_goesOn yX7_goesOn ∈ tb := tb_mem 49 (by decide +kernel) (by decide +kernel)
theorem hyX7_goesOn : yX7_goesOn.cls = RX7 ∧ yX7_goesOn.cls ≠ "java/lang/invoke/MethodHandle" ∧ yX7_goesOn.cls ≠ "java/lang/invoke/VarHandle" ∧ (parseMethodDescriptor yX7_goesOn.desc).map (fun d => d.parameters.length) = some 1 := ⟨rfl, by decide, by decide, by decide +kernel⟩
set_option maxRecDepth 20000 in
theorem wc_X7_seeks : Cond.code yX7_seeks cX7_seeks 5 none ∈ tb := tb_mem 972 rfl (by decide +kernel)
theorem wi_X7_seeks : Cond.instanceMethod yX7_seeks ∈ tb := tb_mem 971 (by decide +kernel) (by decide +kernel)
theorem we_X7_seeks : Cond.selects RX7 yX7_seeks yX7_seeks ∈ tb := tb_mem 48 (by decide +kernel) (by decide +kernel)
theorem hyX7_seeks : yX7_seeks.cls = RX7 ∧ yX7_seeks.cls ≠ "java/lang/invoke/MethodHandle" ∧ yX7_seeks.cls ≠ "java/lang/invoke/VarHandle" ∧ (parseMethodDescriptor yX7_seeks.desc).map (fun d => d.parameters.length) = some 0 := ⟨rfl, by decide, by decide, by decide +kernel⟩
set_option maxRecDepth 20000 in
theorem wc_X7_best : Cond.code yX7_best cX7_best 2 (some .int) ∈ tb := tb_mem 968 rfl (by decide +kernel)
theorem wi_X7_best : Cond.instanceMethod yX7_best ∈ tb := tb_mem 966 (by decide +kernel) (by decide +kernel)
theorem we_X7_best : Cond.selects RX7 yX7_best yX7_best ∈ tb := tb_mem 967 (by decide +kernel) (by decide +kernel)
theorem hyX7_best : yX7_best.cls = RX7 ∧ yX7_best.cls ≠ "java/lang/invoke/MethodHandle" ∧ yX7_best.cls ≠ "java/lang/invoke/VarHandle" ∧ (parseMethodDescriptor yX7_best.desc).map (fun d => d.parameters.length) = some 1 := ⟨rfl, by decide, by decide, by decide +kernel⟩
set_option maxRecDepth 20000 in
theorem wc_X7_row : Cond.code yX7_row cX7_row 3 (some .int) ∈ tb := tb_mem 984 rfl (by decide +kernel)
theorem wi_X7_row : Cond.instanceMethod yX7_row ∈ tb := tb_mem 982 (by decide +kernel) (by decide +kernel)
theorem we_X7_row : Cond.selects RX7 yX7_row yX7_row ∈ tb := tb_mem 983 (by decide +kernel) (by decide +kernel)
theorem hyX7_row : yX7_row.cls = RX7 ∧ yX7_row.cls ≠ "java/lang/invoke/MethodHandle" ∧ yX7_row.cls ≠ "java/lang/invoke/VarHandle" ∧ (parseMethodDescriptor yX7_row.desc).map (fun d => d.parameters.length) = some 1 := ⟨rfl, by decide, by decide, by decide +kernel⟩
set_option maxRecDepth 20000 in
theorem wc_X7_tear : Cond.code yX7_tear cX7_tear 2 (some .int) ∈ tb := tb_mem 988 rfl (by decide +kernel)
theorem wi_X7_tear : Cond.instanceMethod yX7_tear ∈ tb := tb_mem 986 (by decide +kernel) (by decide +kernel)
theorem we_X7_tear : Cond.selects RX7 yX7_tear yX7_tear ∈ tb := tb_mem 987 (by decide +kernel) (by decide +kernel)
theorem hyX7_tear : yX7_tear.cls = RX7 ∧ yX7_tear.cls ≠ "java/lang/invoke/MethodHandle" ∧ yX7_tear.cls ≠ "java/lang/invoke/VarHandle" ∧ (parseMethodDescriptor yX7_tear.desc).map (fun d => d.parameters.length) = some 0 := ⟨rfl, by decide, by decide, by decide +kernel⟩
set_option maxRecDepth 20000 in
theorem wc_X7_judge : Cond.code yX7_judge cX7_judge 4 (some .int) ∈ tb := tb_mem 992 rfl (by decide +kernel)
theorem wi_X7_judge : Cond.instanceMethod yX7_judge ∈ tb := tb_mem 990 (by decide +kernel) (by decide +kernel)
theorem we_X7_judge : Cond.selects RX7 yX7_judge yX7_judge ∈ tb := tb_mem 991 (by decide +kernel) (by decide +kernel)
theorem hyX7_judge : yX7_judge.cls = RX7 ∧ yX7_judge.cls ≠ "java/lang/invoke/MethodHandle" ∧ yX7_judge.cls ≠ "java/lang/invoke/VarHandle" ∧ (parseMethodDescriptor yX7_judge.desc).map (fun d => d.parameters.length) = some 1 := ⟨rfl, by decide, by decide, by decide +kernel⟩
set_option maxRecDepth 20000 in
theorem wc_X7_stay : Cond.code yX7_stay cX7_stay 15 (some .long) ∈ tb := tb_mem 996 rfl (by decide +kernel)
theorem wi_X7_stay : Cond.instanceMethod yX7_stay ∈ tb := tb_mem 994 (by decide +kernel) (by decide +kernel)
theorem we_X7_stay : Cond.selects RX7 yX7_stay yX7_stay ∈ tb := tb_mem 995 (by decide +kernel) (by decide +kernel)
theorem hyX7_stay : yX7_stay.cls = RX7 ∧ yX7_stay.cls ≠ "java/lang/invoke/MethodHandle" ∧ yX7_stay.cls ≠ "java/lang/invoke/VarHandle" ∧ (parseMethodDescriptor yX7_stay.desc).map (fun d => d.parameters.length) = some 3 := ⟨rfl, by decide, by decide, by decide +kernel⟩
set_option maxRecDepth 20000 in
theorem wc_X7_gone : Cond.code yX7_gone cX7_gone 10 (some .int) ∈ tb := tb_mem 1002 rfl (by decide +kernel)
theorem wi_X7_gone : Cond.instanceMethod yX7_gone ∈ tb := tb_mem 1000 (by decide +kernel) (by decide +kernel)
theorem we_X7_gone : Cond.selects RX7 yX7_gone yX7_gone ∈ tb := tb_mem 1001 (by decide +kernel) (by decide +kernel)
theorem hyX7_gone : yX7_gone.cls = RX7 ∧ yX7_gone.cls ≠ "java/lang/invoke/MethodHandle" ∧ yX7_gone.cls ≠ "java/lang/invoke/VarHandle" ∧ (parseMethodDescriptor yX7_gone.desc).map (fun d => d.parameters.length) = some 2 := ⟨rfl, by decide, by decide, by decide +kernel⟩
set_option maxRecDepth 20000 in
theorem wc_X7_prepared : Cond.code yX7_prepared cX7_prepared 9 (some .int) ∈ tb := tb_mem 1006 rfl (by decide +kernel)
theorem wi_X7_prepared : Cond.instanceMethod yX7_prepared ∈ tb := tb_mem 1004 (by decide +kernel) (by decide +kernel)
theorem we_X7_prepared : Cond.selects RX7 yX7_prepared yX7_prepared ∈ tb := tb_mem 1005 (by decide +kernel) (by decide +kernel)
theorem hyX7_prepared : yX7_prepared.cls = RX7 ∧ yX7_prepared.cls ≠ "java/lang/invoke/MethodHandle" ∧ yX7_prepared.cls ≠ "java/lang/invoke/VarHandle" ∧ (parseMethodDescriptor yX7_prepared.desc).map (fun d => d.parameters.length) = some 1 := ⟨rfl, by decide, by decide, by decide +kernel⟩
set_option maxRecDepth 20000 in
theorem wc_X7_other : Cond.code yX7_other cX7_other 3 (some .int) ∈ tb := tb_mem 1010 rfl (by decide +kernel)
theorem wi_X7_other : Cond.instanceMethod yX7_other ∈ tb := tb_mem 1008 (by decide +kernel) (by decide +kernel)
theorem we_X7_other : Cond.selects RX7 yX7_other yX7_other ∈ tb := tb_mem 1009 (by decide +kernel) (by decide +kernel)
theorem hyX7_other : yX7_other.cls = RX7 ∧ yX7_other.cls ≠ "java/lang/invoke/MethodHandle" ∧ yX7_other.cls ≠ "java/lang/invoke/VarHandle" ∧ (parseMethodDescriptor yX7_other.desc).map (fun d => d.parameters.length) = some 1 := ⟨rfl, by decide, by decide, by decide +kernel⟩
set_option maxRecDepth 20000 in
theorem wc_X7_count : Cond.code yX7_count cX7_count 2 (some .int) ∈ tb := tb_mem 1014 rfl (by decide +kernel)
theorem wi_X7_count : Cond.instanceMethod yX7_count ∈ tb := tb_mem 1012 (by decide +kernel) (by decide +kernel)
theorem we_X7_count : Cond.selects RX7 yX7_count yX7_count ∈ tb := tb_mem 1013 (by decide +kernel) (by decide +kernel)
theorem hyX7_count : yX7_count.cls = RX7 ∧ yX7_count.cls ≠ "java/lang/invoke/MethodHandle" ∧ yX7_count.cls ≠ "java/lang/invoke/VarHandle" ∧ (parseMethodDescriptor yX7_count.desc).map (fun d => d.parameters.length) = some 1 := ⟨rfl, by decide, by decide, by decide +kernel⟩
set_option maxRecDepth 20000 in
theorem wc_J6_bitCount_0f7a4 : Cond.code yJ6_bitCount_0f7a4 cJ6_bitCount_0f7a4 1 (some .int) ∈ tb := tb_mem 593 rfl (by decide +kernel)
theorem wt_J6_bitCount_0f7a4 : Cond.static yJ6_bitCount_0f7a4 ∈ tb := tb_mem 592 (by decide +kernel) (by decide +kernel)
theorem hyJ6_bitCount_0f7a4 : yJ6_bitCount_0f7a4.cls ≠ "java/lang/invoke/MethodHandle" ∧ yJ6_bitCount_0f7a4.cls ≠ "java/lang/invoke/VarHandle" ∧ (parseMethodDescriptor yJ6_bitCount_0f7a4.desc).map (fun d => d.parameters.length) = some 1 := ⟨by decide, by decide, by decide +kernel⟩
set_option maxRecDepth 20000 in
theorem wc_J9_max_7cf53 : Cond.code yJ9_max_7cf53 cJ9_max_7cf53 2 (some .int) ∈ tb := tb_mem 584 rfl (by decide +kernel)
theorem wt_J9_max_7cf53 : Cond.static yJ9_max_7cf53 ∈ tb := tb_mem 583 (by decide +kernel) (by decide +kernel)
theorem hyJ9_max_7cf53 : yJ9_max_7cf53.cls ≠ "java/lang/invoke/MethodHandle" ∧ yJ9_max_7cf53.cls ≠ "java/lang/invoke/VarHandle" ∧ (parseMethodDescriptor yJ9_max_7cf53.desc).map (fun d => d.parameters.length) = some 2 := ⟨by decide, by decide, by decide +kernel⟩
set_option maxRecDepth 20000 in
theorem wc_J9_min_7cf53 : Cond.code yJ9_min_7cf53 cJ9_min_7cf53 2 (some .int) ∈ tb := tb_mem 505 rfl (by decide +kernel)
theorem wt_J9_min_7cf53 : Cond.static yJ9_min_7cf53 ∈ tb := tb_mem 504 (by decide +kernel) (by decide +kernel)
theorem hyJ9_min_7cf53 : yJ9_min_7cf53.cls ≠ "java/lang/invoke/MethodHandle" ∧ yJ9_min_7cf53.cls ≠ "java/lang/invoke/VarHandle" ∧ (parseMethodDescriptor yJ9_min_7cf53.desc).map (fun d => d.parameters.length) = some 2 := ⟨by decide, by decide, by decide +kernel⟩
set_option maxRecDepth 20000 in
theorem wc_J0_length_8abf5 : Cond.code yJ0_length_8abf5 cJ0_length_8abf5 1 (some .int) ∈ tb := tb_mem 373 rfl (by decide +kernel)
theorem wi_J0_length_8abf5 : Cond.instanceMethod yJ0_length_8abf5 ∈ tb := tb_mem 371 (by decide +kernel) (by decide +kernel)
theorem we_J0_length_8abf5 : Cond.selects RJ0 yJ0_length_8abf5 yJ0_length_8abf5 ∈ tb := tb_mem 372 (by decide +kernel) (by decide +kernel)
theorem hyJ0_length_8abf5 : yJ0_length_8abf5.cls = RJ0 ∧ yJ0_length_8abf5.cls ≠ "java/lang/invoke/MethodHandle" ∧ yJ0_length_8abf5.cls ≠ "java/lang/invoke/VarHandle" ∧ (parseMethodDescriptor yJ0_length_8abf5.desc).map (fun d => d.parameters.length) = some 0 := ⟨rfl, by decide, by decide, by decide +kernel⟩
set_option maxRecDepth 20000 in
theorem wc_J0_charAt_5068e : Cond.code yJ0_charAt_5068e cJ0_charAt_5068e 2 (some .char) ∈ tb := tb_mem 383 rfl (by decide +kernel)
theorem wi_J0_charAt_5068e : Cond.instanceMethod yJ0_charAt_5068e ∈ tb := tb_mem 381 (by decide +kernel) (by decide +kernel)
theorem we_J0_charAt_5068e : Cond.selects RJ0 yJ0_charAt_5068e yJ0_charAt_5068e ∈ tb := tb_mem 382 (by decide +kernel) (by decide +kernel)
theorem hyJ0_charAt_5068e : yJ0_charAt_5068e.cls = RJ0 ∧ yJ0_charAt_5068e.cls ≠ "java/lang/invoke/MethodHandle" ∧ yJ0_charAt_5068e.cls ≠ "java/lang/invoke/VarHandle" ∧ (parseMethodDescriptor yJ0_charAt_5068e.desc).map (fun d => d.parameters.length) = some 1 := ⟨rfl, by decide, by decide, by decide +kernel⟩
set_option maxRecDepth 20000 in
theorem wc_J0_coder_7d493 : Cond.code yJ0_coder_7d493 cJ0_coder_7d493 1 (some .byte) ∈ tb := tb_mem 377 rfl (by decide +kernel)
theorem wi_J0_coder_7d493 : Cond.instanceMethod yJ0_coder_7d493 ∈ tb := tb_mem 375 (by decide +kernel) (by decide +kernel)
theorem we_J0_coder_7d493 : Cond.selects RJ0 yJ0_coder_7d493 yJ0_coder_7d493 ∈ tb := tb_mem 376 (by decide +kernel) (by decide +kernel)
theorem hyJ0_coder_7d493 : yJ0_coder_7d493.cls = RJ0 ∧ yJ0_coder_7d493.cls ≠ "java/lang/invoke/MethodHandle" ∧ yJ0_coder_7d493.cls ≠ "java/lang/invoke/VarHandle" ∧ (parseMethodDescriptor yJ0_coder_7d493.desc).map (fun d => d.parameters.length) = some 0 := ⟨rfl, by decide, by decide, by decide +kernel⟩
set_option maxRecDepth 20000 in
theorem wc_J0_isLatin1_aae02 : Cond.code yJ0_isLatin1_aae02 cJ0_isLatin1_aae02 1 (some .boolean) ∈ tb := tb_mem 387 rfl (by decide +kernel)
theorem wi_J0_isLatin1_aae02 : Cond.instanceMethod yJ0_isLatin1_aae02 ∈ tb := tb_mem 385 (by decide +kernel) (by decide +kernel)
theorem we_J0_isLatin1_aae02 : Cond.selects RJ0 yJ0_isLatin1_aae02 yJ0_isLatin1_aae02 ∈ tb := tb_mem 386 (by decide +kernel) (by decide +kernel)
theorem hyJ0_isLatin1_aae02 : yJ0_isLatin1_aae02.cls = RJ0 ∧ yJ0_isLatin1_aae02.cls ≠ "java/lang/invoke/MethodHandle" ∧ yJ0_isLatin1_aae02.cls ≠ "java/lang/invoke/VarHandle" ∧ (parseMethodDescriptor yJ0_isLatin1_aae02.desc).map (fun d => d.parameters.length) = some 0 := ⟨rfl, by decide, by decide, by decide +kernel⟩
set_option maxRecDepth 20000 in
theorem wc_J0_checkIndex_df160 : Cond.code yJ0_checkIndex_df160 cJ0_checkIndex_df160 2 none ∈ tb := tb_mem 393 rfl (by decide +kernel)
theorem wt_J0_checkIndex_df160 : Cond.static yJ0_checkIndex_df160 ∈ tb := tb_mem 392 (by decide +kernel) (by decide +kernel)
theorem hyJ0_checkIndex_df160 : yJ0_checkIndex_df160.cls ≠ "java/lang/invoke/MethodHandle" ∧ yJ0_checkIndex_df160.cls ≠ "java/lang/invoke/VarHandle" ∧ (parseMethodDescriptor yJ0_checkIndex_df160.desc).map (fun d => d.parameters.length) = some 2 := ⟨by decide, by decide, by decide +kernel⟩
set_option maxRecDepth 20000 in
theorem wc_J1_charAt_3b067 : Cond.code yJ1_charAt_3b067 cJ1_charAt_3b067 2 (some .char) ∈ tb := tb_mem 390 rfl (by decide +kernel)
theorem wt_J1_charAt_3b067 : Cond.static yJ1_charAt_3b067 ∈ tb := tb_mem 389 (by decide +kernel) (by decide +kernel)
theorem hyJ1_charAt_3b067 : yJ1_charAt_3b067.cls ≠ "java/lang/invoke/MethodHandle" ∧ yJ1_charAt_3b067.cls ≠ "java/lang/invoke/VarHandle" ∧ (parseMethodDescriptor yJ1_charAt_3b067.desc).map (fun d => d.parameters.length) = some 2 := ⟨by decide, by decide, by decide +kernel⟩
set_option maxRecDepth 20000 in
theorem wc_J2_getChar_3b067 : Cond.code yJ2_getChar_3b067 cJ2_getChar_3b067 2 (some .char) ∈ tb := tb_mem 411 rfl (by decide +kernel)
theorem wt_J2_getChar_3b067 : Cond.static yJ2_getChar_3b067 ∈ tb := tb_mem 410 (by decide +kernel) (by decide +kernel)
theorem hyJ2_getChar_3b067 : yJ2_getChar_3b067.cls ≠ "java/lang/invoke/MethodHandle" ∧ yJ2_getChar_3b067.cls ≠ "java/lang/invoke/VarHandle" ∧ (parseMethodDescriptor yJ2_getChar_3b067.desc).map (fun d => d.parameters.length) = some 2 := ⟨by decide, by decide, by decide +kernel⟩
set_option maxRecDepth 20000 in
theorem wc_J2_length_9d52b : Cond.code yJ2_length_9d52b cJ2_length_9d52b 1 (some .int) ∈ tb := tb_mem 407 rfl (by decide +kernel)
theorem wt_J2_length_9d52b : Cond.static yJ2_length_9d52b ∈ tb := tb_mem 406 (by decide +kernel) (by decide +kernel)
theorem hyJ2_length_9d52b : yJ2_length_9d52b.cls ≠ "java/lang/invoke/MethodHandle" ∧ yJ2_length_9d52b.cls ≠ "java/lang/invoke/VarHandle" ∧ (parseMethodDescriptor yJ2_length_9d52b.desc).map (fun d => d.parameters.length) = some 1 := ⟨by decide, by decide, by decide +kernel⟩
set_option maxRecDepth 20000 in
theorem wc_J2_charAt_3b067 : Cond.code yJ2_charAt_3b067 cJ2_charAt_3b067 2 (some .char) ∈ tb := tb_mem 401 rfl (by decide +kernel)
theorem wt_J2_charAt_3b067 : Cond.static yJ2_charAt_3b067 ∈ tb := tb_mem 400 (by decide +kernel) (by decide +kernel)
theorem hyJ2_charAt_3b067 : yJ2_charAt_3b067.cls ≠ "java/lang/invoke/MethodHandle" ∧ yJ2_charAt_3b067.cls ≠ "java/lang/invoke/VarHandle" ∧ (parseMethodDescriptor yJ2_charAt_3b067.desc).map (fun d => d.parameters.length) = some 2 := ⟨by decide, by decide, by decide +kernel⟩
set_option maxRecDepth 20000 in
theorem wc_J2_checkIndex_2214a : Cond.code yJ2_checkIndex_2214a cJ2_checkIndex_2214a 2 none ∈ tb := tb_mem 404 rfl (by decide +kernel)
theorem wt_J2_checkIndex_2214a : Cond.static yJ2_checkIndex_2214a ∈ tb := tb_mem 403 (by decide +kernel) (by decide +kernel)
theorem hyJ2_checkIndex_2214a : yJ2_checkIndex_2214a.cls ≠ "java/lang/invoke/MethodHandle" ∧ yJ2_checkIndex_2214a.cls ≠ "java/lang/invoke/VarHandle" ∧ (parseMethodDescriptor yJ2_checkIndex_2214a.desc).map (fun d => d.parameters.length) = some 2 := ⟨by decide, by decide, by decide +kernel⟩
set_option maxRecDepth 20000 in
theorem wc_J3_checkIndex_8e157 : Cond.code yJ3_checkIndex_8e157 cJ3_checkIndex_8e157 3 (some .int) ∈ tb := tb_mem 398 rfl (by decide +kernel)
theorem wt_J3_checkIndex_8e157 : Cond.static yJ3_checkIndex_8e157 ∈ tb := tb_mem 397 (by decide +kernel) (by decide +kernel)
theorem hyJ3_checkIndex_8e157 : yJ3_checkIndex_8e157.cls ≠ "java/lang/invoke/MethodHandle" ∧ yJ3_checkIndex_8e157.cls ≠ "java/lang/invoke/VarHandle" ∧ (parseMethodDescriptor yJ3_checkIndex_8e157.desc).map (fun d => d.parameters.length) = some 3 := ⟨by decide, by decide, by decide +kernel⟩
theorem wn_L : Cond.initialized RL ∈ tb := tb_mem 51 (by decide +kernel) (by decide +kernel)
theorem wn_X6 : Cond.initialized RX6 ∈ tb := tb_mem 52 (by decide +kernel) (by decide +kernel)
theorem wn_X5 : Cond.initialized RX5 ∈ tb := tb_mem 53 (by decide +kernel) (by decide +kernel)
theorem wn_X4 : Cond.initialized RX4 ∈ tb := tb_mem 54 (by decide +kernel) (by decide +kernel)
theorem wn_Jx29ce0 : Cond.initialized RJx29ce0 ∈ tb := tb_mem 55 (by decide +kernel) (by decide +kernel)
theorem wn_X0 : Cond.initialized RX0 ∈ tb := tb_mem 56 (by decide +kernel) (by decide +kernel)
theorem wn_X1 : Cond.initialized RX1 ∈ tb := tb_mem 57 (by decide +kernel) (by decide +kernel)
theorem wn_X3 : Cond.initialized RX3 ∈ tb := tb_mem 58 (by decide +kernel) (by decide +kernel)
theorem wn_X2 : Cond.initialized RX2 ∈ tb := tb_mem 59 (by decide +kernel) (by decide +kernel)
theorem wn_J10 : Cond.initialized RJ10 ∈ tb := tb_mem 60 (by decide +kernel) (by decide +kernel)
theorem wn_X7 : Cond.initialized RX7 ∈ tb := tb_mem 61 (by decide +kernel) (by decide +kernel)
theorem wn_J0 : Cond.initialized RJ0 ∈ tb := tb_mem 62 (by decide +kernel) (by decide +kernel)
theorem wn_J1 : Cond.initialized RJ1 ∈ tb := tb_mem 63 (by decide +kernel) (by decide +kernel)
theorem wn_J3 : Cond.initialized RJ3 ∈ tb := tb_mem 64 (by decide +kernel) (by decide +kernel)
theorem wn_J2 : Cond.initialized RJ2 ∈ tb := tb_mem 65 (by decide +kernel) (by decide +kernel)
theorem wn_J9 : Cond.initialized RJ9 ∈ tb := tb_mem 66 (by decide +kernel) (by decide +kernel)
theorem wn_J6 : Cond.initialized RJ6 ∈ tb := tb_mem 67 (by decide +kernel) (by decide +kernel)
theorem wk_J6_265 : Cond.constant RJ6 265 (1431655765) ∈ tb := tb_mem 594 (by decide +kernel) (by decide +kernel)
theorem wk_J6_266 : Cond.constant RJ6 266 (858993459) ∈ tb := tb_mem 595 (by decide +kernel) (by decide +kernel)
theorem wk_J6_267 : Cond.constant RJ6 267 (252645135) ∈ tb := tb_mem 596 (by decide +kernel) (by decide +kernel)
theorem wk_X6_207 : Cond.constantLong RX6 207 (-3) ∈ tb := tb_mem 676 (by decide +kernel) (by decide +kernel)
theorem wk_X7_189 : Cond.constantLong RX7 189 (-3) ∈ tb := tb_mem 997 (by decide +kernel) (by decide +kernel)
theorem wk_X7_191 : Cond.constantLong RX7 191 (10) ∈ tb := tb_mem 998 (by decide +kernel) (by decide +kernel)
set_option maxRecDepth 20000 in
theorem wc_min : Cond.code Lib.Math.min.name Lib.Math.min.code 2 (some .int) ∈ tb := tb_mem 505 rfl (by decide +kernel)
theorem wt_min : Cond.static Lib.Math.min.name ∈ tb := tb_mem 504 (by decide +kernel) (by decide +kernel)
set_option maxRecDepth 20000 in
theorem wc_max : Cond.code Lib.Math.max.name Lib.Math.max.code 2 (some .int) ∈ tb := tb_mem 584 rfl (by decide +kernel)
theorem wt_max : Cond.static Lib.Math.max.name ∈ tb := tb_mem 583 (by decide +kernel) (by decide +kernel)
theorem wt_copy : Cond.static arraycopyName ∈ tb := tb_mem 291 (by decide +kernel) (by decide +kernel)
theorem wv_copy : Cond.native arraycopyName ∈ tb := tb_mem 292 (by decide +kernel) (by decide +kernel)
end
section
/-! Forgetting locals; answers that are clauses; shorter words. -/
def msk : List Bool → List (Option Value) → List (Option Value)
  | b :: bs, x :: xs => (if b = true then x else none) :: msk bs xs
  | _, _ => []
theorem msk_of : ∀ (bs : List Bool) (L : List (Option Value)) (j : Nat) (v : Value), (msk bs L)[j]? = some (some v) → L[j]? = some (some v)
  | [], L, j, v, h => by simp [msk] at h
  | b :: bs, [], j, v, h => by simp [msk] at h
  | b :: bs, x :: xs, 0, v, h => by
    simp only [msk, List.getElem?_cons_zero, Option.some.injEq] at h ⊢
    cases b
    · simp at h
    · simpa using h
  | b :: bs, x :: xs, j + 1, v, h => by
    simp only [msk, List.getElem?_cons_succ] at h ⊢
    exact msk_of bs xs j v h
theorem g_msk {X : Cx} {F : Fx} {pc : Nat} {L L' : List (Option Value)} {st : List Value} {M : Mem} (bs : List Bool) (hL : msk bs L = L') (kk : G X F pc L' st M) (hlen : Nat.beq L'.length L.length = true := by rfl) : G X F pc L st M := by
  intro H locs ls hP hS hl
  refine kk H locs ls hP hS ⟨?_, hl.2.1, fun q hq => hl.2.2 q ?_⟩
  · rw [hl.1]; exact (Nat.eq_of_beq_eq_true hlen).symm
  · obtain ⟨j, v, h1, h2⟩ := (lz_mem L' 0).mp hq
    rw [← hL] at h1
    exact (lz_mem L 0).mpr ⟨j, v, msk_of bs L j v h1, h2⟩
def clv (r : Option Nat) : Value := match r with
  | some i => .ref (1000 + i)
  | none => .null
theorem inb_nn {i : Int32} {n : Nat} (h : inb i n = true) : ¬ i < 0 := by
  unfold inb at h
  simp only [Bool.and_eq_true, decide_eq_true_eq] at h
  exact Int32.not_lt.mpr h.1
def cok (v : Int32) : Bool := decide (0 ≤ v) && decide (v ≤ 65535)
theorem cok_n {v : Int32} (h : cok v = true) : narrow .char (.int v) = .int v := by
  unfold cok at h
  simp only [Bool.and_eq_true, decide_eq_true_eq] at h
  obtain ⟨j, hj, rfl⟩ := nI_of2 (M := 65535) (n := 65535) rfl (Int32.not_lt.mpr h.1) h.2
  exact (pk_charN (by omega)).1
def mq {β : Type} (q : Option Nat) (a : Option β) (f : Nat → Option β) : Option β := match q with
  | none => a
  | some c => if c < 13 then f c else none
theorem mq_s {β : Type} {q : Option Nat} {a : Option β} {f : Nat → Option β} {y : β} (h : mq q a f = some y) : (q = none ∧ a = some y) ∨ ∃ c, q = some c ∧ c < 13 ∧ f c = some y := by
  cases q with
  | none => exact Or.inl ⟨rfl, h⟩
  | some c =>
    unfold mq at h
    by_cases hc : c < 13
    · exact Or.inr ⟨c, rfl, hc, by simpa [hc] using h⟩
    · simp [hc] at h
end
section
def tbX1_begin : List (Nat × Instr × Nat) := [(0, .aload_n 0, 1), (1, .getfield 15, 3), (4, .getfield 19, 3), (7, .iconst 0, 1), (8, .aload_n 0, 1), (9, .getfield 9, 3), (12, .iconst 0, 1), (13, .bipush 8, 2), (15, .invokestatic 24, 3), (18, .aload_n 0, 1), (19, .iconst 1, 1), (20, .aload_n 0, 1), (21, .getfield 15, 3), (24, .getfield 30, 3), (27, .ishl, 1), (28, .iconst 1, 1), (29, .isub, 1), (30, .putfield 34, 3), (33, .aload_n 0, 1), (34, .iconst 0, 1), (35, .putfield 37, 3), (38, .aload_n 0, 1), (39, .aload_n 0, 1), (40, .getfield 15, 3), (43, .getfield 40, 3), (46, .putfield 43, 3), (49, .aload_n 0, 1), (50, .iconst 0, 1), (51, .putfield 44, 3), (54, .aload_n 0, 1), (55, .iconst 0, 1), (56, .putfield 47, 3), (59, .aload_n 0, 1), (60, .iconst 0, 1), (61, .putfield 50, 3), (64, .aload_n 0, 1), (65, .iconst 0, 1), (66, .putfield 53, 3), (69, .aload_n 0, 1), (70, .iconst 0, 1), (71, .putfield 56, 3), (74, .return_, 1)]
theorem tX1_begin : dck cX1_begin tbX1_begin = true := by decide +kernel
def f_X1_begin (N : Nat) (M : Mem) (k : Nat) : Option Mem := some (up2 (up2 (up2 (up2 (up2 (up2 (up2 (up2 (cp2 M 3 (k + 1) 8) k 1 (((1 : Int32) <<< (((cp2 M 3 (k + 1) 8) 1 7) &&& 31)) - (1 : Int32))) k 2 (0 : Int32)) k 3 ((up2 (up2 (cp2 M 3 (k + 1) 8) k 1 (((1 : Int32) <<< (((cp2 M 3 (k + 1) 8) 1 7) &&& 31)) - (1 : Int32))) k 2 (0 : Int32)) 1 9)) k 4 (0 : Int32)) k 5 (0 : Int32)) k 6 (0 : Int32)) k 7 (0 : Int32)) k 8 (0 : Int32))
set_option maxHeartbeats 4000000 in
set_option maxRecDepth 100000 in
theorem c_X1_begin {X : Cx} {l : Launch} (hX : CxOk X) (hS : SC X) {N : Nat} {M : Mem} {k : Nat} (hk : ev k) {M' : Mem} (h : f_X1_begin N M k = some M') : Ctr X l yX1_begin cX1_begin 1 none 2 [.ref k] M none M' := by
  refine Ctr.ofG (L := [some (.ref k)]) hX (by decide) (Nat.le_of_ble_eq_true rfl) rfl (fun F hF hl hR => ?_)
  subst hl
  unfold f_X1_begin at h
  refine g_aload_n hF (dck_at tX1_begin 0 rfl) rfl ?_
  refine gf_X1_15 hF (ev_m hS hk) (ev_kd hk) (ev_ln hk) (dck_at tX1_begin 1 rfl) ?_
  refine gf_X1_19 hF (hS 1 (by decide)) kdc_1 lnc_1 (t := 3) rfl (dck_at tX1_begin 2 rfl) ?_
  refine g_iconst (v := 0) hF (dck_at tX1_begin 3 rfl) (by decide) ?_
  refine g_aload_n hF (dck_at tX1_begin 4 rfl) rfl ?_
  refine gf_X1_9 hF (ev_m hS hk) (ev_kd hk) (ev_ln hk) (t := (k + 1)) rfl (dck_at tX1_begin 5 rfl) ?_
  show G X F 12 _ _ _
  refine g_iconst (v := 0) hF (dck_at tX1_begin 6 rfl) (by decide) ?_
  refine g_bipush (v := 8) hF (dck_at tX1_begin 7 rfl) (by decide) ?_
  refine g_copy hF wm_X1_24 wv_copy wt_copy wn_J10 (hS 3 (by decide)) kdc_3 (ev_mz hS hk) (ev_kz hk) (by decide) (by rw [lnc_3]; decide) (by rw [(ev_lz hk)]; decide) (by decide) rfl rfl (dck_at tX1_begin 8 rfl) ?_
  show G X F 18 _ _ (cp2 M 3 (k + 1) 8)
  refine g_aload_n hF (dck_at tX1_begin 9 rfl) rfl ?_
  refine g_iconst (v := 1) hF (dck_at tX1_begin 10 rfl) (by decide) ?_
  refine g_aload_n hF (dck_at tX1_begin 11 rfl) rfl ?_
  refine gf_X1_15 hF (ev_m hS hk) (ev_kd hk) (ev_ln hk) (dck_at tX1_begin 12 rfl) ?_
  show G X F 24 _ _ _
  refine gf_X1_30 hF (hS 1 (by decide)) kdc_1 lnc_1 (dck_at tX1_begin 13 rfl) ?_
  refine g_ishl hF (dck_at tX1_begin 14 rfl) ?_
  refine g_iconst (v := 1) hF (dck_at tX1_begin 15 rfl) (by decide) ?_
  refine g_isub hF (dck_at tX1_begin 16 rfl) ?_
  refine pf_X1_34 hF (ev_m hS hk) (ev_kd hk) (ev_ln hk) (dck_at tX1_begin 17 rfl) ?_
  refine g_aload_n hF (dck_at tX1_begin 18 rfl) rfl ?_
  refine g_iconst (v := 0) hF (dck_at tX1_begin 19 rfl) (by decide) ?_
  show G X F 35 _ _ _
  refine pf_X1_37 hF (ev_m hS hk) (ev_kd hk) (ev_ln hk) (dck_at tX1_begin 20 rfl) ?_
  refine g_aload_n hF (dck_at tX1_begin 21 rfl) rfl ?_
  refine g_aload_n hF (dck_at tX1_begin 22 rfl) rfl ?_
  refine gf_X1_15 hF (ev_m hS hk) (ev_kd hk) (ev_ln hk) (dck_at tX1_begin 23 rfl) ?_
  refine gf_X1_40 hF (hS 1 (by decide)) kdc_1 lnc_1 (dck_at tX1_begin 24 rfl) ?_
  refine pf_X1_43 hF (ev_m hS hk) (ev_kd hk) (ev_ln hk) (dck_at tX1_begin 25 rfl) ?_
  refine g_aload_n hF (dck_at tX1_begin 26 rfl) rfl ?_
  show G X F 50 _ _ _
  refine g_iconst (v := 0) hF (dck_at tX1_begin 27 rfl) (by decide) ?_
  refine pf_X1_44 hF (ev_m hS hk) (ev_kd hk) (ev_ln hk) (dck_at tX1_begin 28 rfl) ?_
  refine g_aload_n hF (dck_at tX1_begin 29 rfl) rfl ?_
  refine g_iconst (v := 0) hF (dck_at tX1_begin 30 rfl) (by decide) ?_
  refine pf_X1_47 hF (ev_m hS hk) (ev_kd hk) (ev_ln hk) (dck_at tX1_begin 31 rfl) ?_
  refine g_aload_n hF (dck_at tX1_begin 32 rfl) rfl ?_
  refine g_iconst (v := 0) hF (dck_at tX1_begin 33 rfl) (by decide) ?_
  show G X F 61 _ _ _
  refine pf_X1_50 hF (ev_m hS hk) (ev_kd hk) (ev_ln hk) (dck_at tX1_begin 34 rfl) ?_
  refine g_aload_n hF (dck_at tX1_begin 35 rfl) rfl ?_
  refine g_iconst (v := 0) hF (dck_at tX1_begin 36 rfl) (by decide) ?_
  refine pf_X1_53 hF (ev_m hS hk) (ev_kd hk) (ev_ln hk) (dck_at tX1_begin 37 rfl) ?_
  refine g_aload_n hF (dck_at tX1_begin 38 rfl) rfl ?_
  refine g_iconst (v := 0) hF (dck_at tX1_begin 39 rfl) (by decide) ?_
  refine pf_X1_56 hF (ev_m hS hk) (ev_kd hk) (ev_ln hk) (by decide) (dck_at tX1_begin 40 rfl) ?_
  show G X F 74 _ _ _
  cases h
  exact g_vret hF hR (dck_at tX1_begin 41 rfl)

def tbX1_copyFrom : List (Nat × Instr × Nat) := [(0, .aload_n 1, 1), (1, .getfield 9, 3), (4, .iconst 0, 1), (5, .aload_n 0, 1), (6, .getfield 9, 3), (9, .iconst 0, 1), (10, .bipush 8, 2), (12, .invokestatic 24, 3), (15, .aload_n 0, 1), (16, .aload_n 1, 1), (17, .getfield 34, 3), (20, .putfield 34, 3), (23, .aload_n 0, 1), (24, .aload_n 1, 1), (25, .getfield 37, 3), (28, .putfield 37, 3), (31, .aload_n 0, 1), (32, .aload_n 1, 1), (33, .getfield 43, 3), (36, .putfield 43, 3), (39, .aload_n 0, 1), (40, .aload_n 1, 1), (41, .getfield 44, 3), (44, .putfield 44, 3), (47, .aload_n 0, 1), (48, .aload_n 1, 1), (49, .getfield 47, 3), (52, .putfield 47, 3), (55, .aload_n 0, 1), (56, .aload_n 1, 1), (57, .getfield 50, 3), (60, .putfield 50, 3), (63, .aload_n 0, 1), (64, .aload_n 1, 1), (65, .getfield 53, 3), (68, .putfield 53, 3), (71, .aload_n 0, 1), (72, .aload_n 1, 1), (73, .getfield 56, 3), (76, .putfield 56, 3), (79, .return_, 1)]
theorem tX1_copyFrom : dck cX1_copyFrom tbX1_copyFrom = true := by decide +kernel
def f_X1_copyFrom (N : Nat) (M : Mem) (k : Nat) (k1 : Nat) : Option Mem := if zok ((up2 (up2 (up2 (up2 (up2 (up2 (up2 (cp2 M (k1 + 1) (k + 1) 8) k 1 ((cp2 M (k1 + 1) (k + 1) 8) k1 1)) k 2 ((up2 (cp2 M (k1 + 1) (k + 1) 8) k 1 ((cp2 M (k1 + 1) (k + 1) 8) k1 1)) k1 2)) k 3 ((up2 (up2 (cp2 M (k1 + 1) (k + 1) 8) k 1 ((cp2 M (k1 + 1) (k + 1) 8) k1 1)) k 2 ((up2 (cp2 M (k1 + 1) (k + 1) 8) k 1 ((cp2 M (k1 + 1) (k + 1) 8) k1 1)) k1 2)) k1 3)) k 4 ((up2 (up2 (up2 (cp2 M (k1 + 1) (k + 1) 8) k 1 ((cp2 M (k1 + 1) (k + 1) 8) k1 1)) k 2 ((up2 (cp2 M (k1 + 1) (k + 1) 8) k 1 ((cp2 M (k1 + 1) (k + 1) 8) k1 1)) k1 2)) k 3 ((up2 (up2 (cp2 M (k1 + 1) (k + 1) 8) k 1 ((cp2 M (k1 + 1) (k + 1) 8) k1 1)) k 2 ((up2 (cp2 M (k1 + 1) (k + 1) 8) k 1 ((cp2 M (k1 + 1) (k + 1) 8) k1 1)) k1 2)) k1 3)) k1 4)) k 5 ((up2 (up2 (up2 (up2 (cp2 M (k1 + 1) (k + 1) 8) k 1 ((cp2 M (k1 + 1) (k + 1) 8) k1 1)) k 2 ((up2 (cp2 M (k1 + 1) (k + 1) 8) k 1 ((cp2 M (k1 + 1) (k + 1) 8) k1 1)) k1 2)) k 3 ((up2 (up2 (cp2 M (k1 + 1) (k + 1) 8) k 1 ((cp2 M (k1 + 1) (k + 1) 8) k1 1)) k 2 ((up2 (cp2 M (k1 + 1) (k + 1) 8) k 1 ((cp2 M (k1 + 1) (k + 1) 8) k1 1)) k1 2)) k1 3)) k 4 ((up2 (up2 (up2 (cp2 M (k1 + 1) (k + 1) 8) k 1 ((cp2 M (k1 + 1) (k + 1) 8) k1 1)) k 2 ((up2 (cp2 M (k1 + 1) (k + 1) 8) k 1 ((cp2 M (k1 + 1) (k + 1) 8) k1 1)) k1 2)) k 3 ((up2 (up2 (cp2 M (k1 + 1) (k + 1) 8) k 1 ((cp2 M (k1 + 1) (k + 1) 8) k1 1)) k 2 ((up2 (cp2 M (k1 + 1) (k + 1) 8) k 1 ((cp2 M (k1 + 1) (k + 1) 8) k1 1)) k1 2)) k1 3)) k1 4)) k1 5)) k 6 ((up2 (up2 (up2 (up2 (up2 (cp2 M (k1 + 1) (k + 1) 8) k 1 ((cp2 M (k1 + 1) (k + 1) 8) k1 1)) k 2 ((up2 (cp2 M (k1 + 1) (k + 1) 8) k 1 ((cp2 M (k1 + 1) (k + 1) 8) k1 1)) k1 2)) k 3 ((up2 (up2 (cp2 M (k1 + 1) (k + 1) 8) k 1 ((cp2 M (k1 + 1) (k + 1) 8) k1 1)) k 2 ((up2 (cp2 M (k1 + 1) (k + 1) 8) k 1 ((cp2 M (k1 + 1) (k + 1) 8) k1 1)) k1 2)) k1 3)) k 4 ((up2 (up2 (up2 (cp2 M (k1 + 1) (k + 1) 8) k 1 ((cp2 M (k1 + 1) (k + 1) 8) k1 1)) k 2 ((up2 (cp2 M (k1 + 1) (k + 1) 8) k 1 ((cp2 M (k1 + 1) (k + 1) 8) k1 1)) k1 2)) k 3 ((up2 (up2 (cp2 M (k1 + 1) (k + 1) 8) k 1 ((cp2 M (k1 + 1) (k + 1) 8) k1 1)) k 2 ((up2 (cp2 M (k1 + 1) (k + 1) 8) k 1 ((cp2 M (k1 + 1) (k + 1) 8) k1 1)) k1 2)) k1 3)) k1 4)) k 5 ((up2 (up2 (up2 (up2 (cp2 M (k1 + 1) (k + 1) 8) k 1 ((cp2 M (k1 + 1) (k + 1) 8) k1 1)) k 2 ((up2 (cp2 M (k1 + 1) (k + 1) 8) k 1 ((cp2 M (k1 + 1) (k + 1) 8) k1 1)) k1 2)) k 3 ((up2 (up2 (cp2 M (k1 + 1) (k + 1) 8) k 1 ((cp2 M (k1 + 1) (k + 1) 8) k1 1)) k 2 ((up2 (cp2 M (k1 + 1) (k + 1) 8) k 1 ((cp2 M (k1 + 1) (k + 1) 8) k1 1)) k1 2)) k1 3)) k 4 ((up2 (up2 (up2 (cp2 M (k1 + 1) (k + 1) 8) k 1 ((cp2 M (k1 + 1) (k + 1) 8) k1 1)) k 2 ((up2 (cp2 M (k1 + 1) (k + 1) 8) k 1 ((cp2 M (k1 + 1) (k + 1) 8) k1 1)) k1 2)) k 3 ((up2 (up2 (cp2 M (k1 + 1) (k + 1) 8) k 1 ((cp2 M (k1 + 1) (k + 1) 8) k1 1)) k 2 ((up2 (cp2 M (k1 + 1) (k + 1) 8) k 1 ((cp2 M (k1 + 1) (k + 1) 8) k1 1)) k1 2)) k1 3)) k1 4)) k1 5)) k1 6)) k 7 ((up2 (up2 (up2 (up2 (up2 (up2 (cp2 M (k1 + 1) (k + 1) 8) k 1 ((cp2 M (k1 + 1) (k + 1) 8) k1 1)) k 2 ((up2 (cp2 M (k1 + 1) (k + 1) 8) k 1 ((cp2 M (k1 + 1) (k + 1) 8) k1 1)) k1 2)) k 3 ((up2 (up2 (cp2 M (k1 + 1) (k + 1) 8) k 1 ((cp2 M (k1 + 1) (k + 1) 8) k1 1)) k 2 ((up2 (cp2 M (k1 + 1) (k + 1) 8) k 1 ((cp2 M (k1 + 1) (k + 1) 8) k1 1)) k1 2)) k1 3)) k 4 ((up2 (up2 (up2 (cp2 M (k1 + 1) (k + 1) 8) k 1 ((cp2 M (k1 + 1) (k + 1) 8) k1 1)) k 2 ((up2 (cp2 M (k1 + 1) (k + 1) 8) k 1 ((cp2 M (k1 + 1) (k + 1) 8) k1 1)) k1 2)) k 3 ((up2 (up2 (cp2 M (k1 + 1) (k + 1) 8) k 1 ((cp2 M (k1 + 1) (k + 1) 8) k1 1)) k 2 ((up2 (cp2 M (k1 + 1) (k + 1) 8) k 1 ((cp2 M (k1 + 1) (k + 1) 8) k1 1)) k1 2)) k1 3)) k1 4)) k 5 ((up2 (up2 (up2 (up2 (cp2 M (k1 + 1) (k + 1) 8) k 1 ((cp2 M (k1 + 1) (k + 1) 8) k1 1)) k 2 ((up2 (cp2 M (k1 + 1) (k + 1) 8) k 1 ((cp2 M (k1 + 1) (k + 1) 8) k1 1)) k1 2)) k 3 ((up2 (up2 (cp2 M (k1 + 1) (k + 1) 8) k 1 ((cp2 M (k1 + 1) (k + 1) 8) k1 1)) k 2 ((up2 (cp2 M (k1 + 1) (k + 1) 8) k 1 ((cp2 M (k1 + 1) (k + 1) 8) k1 1)) k1 2)) k1 3)) k 4 ((up2 (up2 (up2 (cp2 M (k1 + 1) (k + 1) 8) k 1 ((cp2 M (k1 + 1) (k + 1) 8) k1 1)) k 2 ((up2 (cp2 M (k1 + 1) (k + 1) 8) k 1 ((cp2 M (k1 + 1) (k + 1) 8) k1 1)) k1 2)) k 3 ((up2 (up2 (cp2 M (k1 + 1) (k + 1) 8) k 1 ((cp2 M (k1 + 1) (k + 1) 8) k1 1)) k 2 ((up2 (cp2 M (k1 + 1) (k + 1) 8) k 1 ((cp2 M (k1 + 1) (k + 1) 8) k1 1)) k1 2)) k1 3)) k1 4)) k1 5)) k 6 ((up2 (up2 (up2 (up2 (up2 (cp2 M (k1 + 1) (k + 1) 8) k 1 ((cp2 M (k1 + 1) (k + 1) 8) k1 1)) k 2 ((up2 (cp2 M (k1 + 1) (k + 1) 8) k 1 ((cp2 M (k1 + 1) (k + 1) 8) k1 1)) k1 2)) k 3 ((up2 (up2 (cp2 M (k1 + 1) (k + 1) 8) k 1 ((cp2 M (k1 + 1) (k + 1) 8) k1 1)) k 2 ((up2 (cp2 M (k1 + 1) (k + 1) 8) k 1 ((cp2 M (k1 + 1) (k + 1) 8) k1 1)) k1 2)) k1 3)) k 4 ((up2 (up2 (up2 (cp2 M (k1 + 1) (k + 1) 8) k 1 ((cp2 M (k1 + 1) (k + 1) 8) k1 1)) k 2 ((up2 (cp2 M (k1 + 1) (k + 1) 8) k 1 ((cp2 M (k1 + 1) (k + 1) 8) k1 1)) k1 2)) k 3 ((up2 (up2 (cp2 M (k1 + 1) (k + 1) 8) k 1 ((cp2 M (k1 + 1) (k + 1) 8) k1 1)) k 2 ((up2 (cp2 M (k1 + 1) (k + 1) 8) k 1 ((cp2 M (k1 + 1) (k + 1) 8) k1 1)) k1 2)) k1 3)) k1 4)) k 5 ((up2 (up2 (up2 (up2 (cp2 M (k1 + 1) (k + 1) 8) k 1 ((cp2 M (k1 + 1) (k + 1) 8) k1 1)) k 2 ((up2 (cp2 M (k1 + 1) (k + 1) 8) k 1 ((cp2 M (k1 + 1) (k + 1) 8) k1 1)) k1 2)) k 3 ((up2 (up2 (cp2 M (k1 + 1) (k + 1) 8) k 1 ((cp2 M (k1 + 1) (k + 1) 8) k1 1)) k 2 ((up2 (cp2 M (k1 + 1) (k + 1) 8) k 1 ((cp2 M (k1 + 1) (k + 1) 8) k1 1)) k1 2)) k1 3)) k 4 ((up2 (up2 (up2 (cp2 M (k1 + 1) (k + 1) 8) k 1 ((cp2 M (k1 + 1) (k + 1) 8) k1 1)) k 2 ((up2 (cp2 M (k1 + 1) (k + 1) 8) k 1 ((cp2 M (k1 + 1) (k + 1) 8) k1 1)) k1 2)) k 3 ((up2 (up2 (cp2 M (k1 + 1) (k + 1) 8) k 1 ((cp2 M (k1 + 1) (k + 1) 8) k1 1)) k 2 ((up2 (cp2 M (k1 + 1) (k + 1) 8) k 1 ((cp2 M (k1 + 1) (k + 1) 8) k1 1)) k1 2)) k1 3)) k1 4)) k1 5)) k1 6)) k1 7)) k1 8) = true then some (up2 (up2 (up2 (up2 (up2 (up2 (up2 (up2 (cp2 M (k1 + 1) (k + 1) 8) k 1 ((cp2 M (k1 + 1) (k + 1) 8) k1 1)) k 2 ((up2 (cp2 M (k1 + 1) (k + 1) 8) k 1 ((cp2 M (k1 + 1) (k + 1) 8) k1 1)) k1 2)) k 3 ((up2 (up2 (cp2 M (k1 + 1) (k + 1) 8) k 1 ((cp2 M (k1 + 1) (k + 1) 8) k1 1)) k 2 ((up2 (cp2 M (k1 + 1) (k + 1) 8) k 1 ((cp2 M (k1 + 1) (k + 1) 8) k1 1)) k1 2)) k1 3)) k 4 ((up2 (up2 (up2 (cp2 M (k1 + 1) (k + 1) 8) k 1 ((cp2 M (k1 + 1) (k + 1) 8) k1 1)) k 2 ((up2 (cp2 M (k1 + 1) (k + 1) 8) k 1 ((cp2 M (k1 + 1) (k + 1) 8) k1 1)) k1 2)) k 3 ((up2 (up2 (cp2 M (k1 + 1) (k + 1) 8) k 1 ((cp2 M (k1 + 1) (k + 1) 8) k1 1)) k 2 ((up2 (cp2 M (k1 + 1) (k + 1) 8) k 1 ((cp2 M (k1 + 1) (k + 1) 8) k1 1)) k1 2)) k1 3)) k1 4)) k 5 ((up2 (up2 (up2 (up2 (cp2 M (k1 + 1) (k + 1) 8) k 1 ((cp2 M (k1 + 1) (k + 1) 8) k1 1)) k 2 ((up2 (cp2 M (k1 + 1) (k + 1) 8) k 1 ((cp2 M (k1 + 1) (k + 1) 8) k1 1)) k1 2)) k 3 ((up2 (up2 (cp2 M (k1 + 1) (k + 1) 8) k 1 ((cp2 M (k1 + 1) (k + 1) 8) k1 1)) k 2 ((up2 (cp2 M (k1 + 1) (k + 1) 8) k 1 ((cp2 M (k1 + 1) (k + 1) 8) k1 1)) k1 2)) k1 3)) k 4 ((up2 (up2 (up2 (cp2 M (k1 + 1) (k + 1) 8) k 1 ((cp2 M (k1 + 1) (k + 1) 8) k1 1)) k 2 ((up2 (cp2 M (k1 + 1) (k + 1) 8) k 1 ((cp2 M (k1 + 1) (k + 1) 8) k1 1)) k1 2)) k 3 ((up2 (up2 (cp2 M (k1 + 1) (k + 1) 8) k 1 ((cp2 M (k1 + 1) (k + 1) 8) k1 1)) k 2 ((up2 (cp2 M (k1 + 1) (k + 1) 8) k 1 ((cp2 M (k1 + 1) (k + 1) 8) k1 1)) k1 2)) k1 3)) k1 4)) k1 5)) k 6 ((up2 (up2 (up2 (up2 (up2 (cp2 M (k1 + 1) (k + 1) 8) k 1 ((cp2 M (k1 + 1) (k + 1) 8) k1 1)) k 2 ((up2 (cp2 M (k1 + 1) (k + 1) 8) k 1 ((cp2 M (k1 + 1) (k + 1) 8) k1 1)) k1 2)) k 3 ((up2 (up2 (cp2 M (k1 + 1) (k + 1) 8) k 1 ((cp2 M (k1 + 1) (k + 1) 8) k1 1)) k 2 ((up2 (cp2 M (k1 + 1) (k + 1) 8) k 1 ((cp2 M (k1 + 1) (k + 1) 8) k1 1)) k1 2)) k1 3)) k 4 ((up2 (up2 (up2 (cp2 M (k1 + 1) (k + 1) 8) k 1 ((cp2 M (k1 + 1) (k + 1) 8) k1 1)) k 2 ((up2 (cp2 M (k1 + 1) (k + 1) 8) k 1 ((cp2 M (k1 + 1) (k + 1) 8) k1 1)) k1 2)) k 3 ((up2 (up2 (cp2 M (k1 + 1) (k + 1) 8) k 1 ((cp2 M (k1 + 1) (k + 1) 8) k1 1)) k 2 ((up2 (cp2 M (k1 + 1) (k + 1) 8) k 1 ((cp2 M (k1 + 1) (k + 1) 8) k1 1)) k1 2)) k1 3)) k1 4)) k 5 ((up2 (up2 (up2 (up2 (cp2 M (k1 + 1) (k + 1) 8) k 1 ((cp2 M (k1 + 1) (k + 1) 8) k1 1)) k 2 ((up2 (cp2 M (k1 + 1) (k + 1) 8) k 1 ((cp2 M (k1 + 1) (k + 1) 8) k1 1)) k1 2)) k 3 ((up2 (up2 (cp2 M (k1 + 1) (k + 1) 8) k 1 ((cp2 M (k1 + 1) (k + 1) 8) k1 1)) k 2 ((up2 (cp2 M (k1 + 1) (k + 1) 8) k 1 ((cp2 M (k1 + 1) (k + 1) 8) k1 1)) k1 2)) k1 3)) k 4 ((up2 (up2 (up2 (cp2 M (k1 + 1) (k + 1) 8) k 1 ((cp2 M (k1 + 1) (k + 1) 8) k1 1)) k 2 ((up2 (cp2 M (k1 + 1) (k + 1) 8) k 1 ((cp2 M (k1 + 1) (k + 1) 8) k1 1)) k1 2)) k 3 ((up2 (up2 (cp2 M (k1 + 1) (k + 1) 8) k 1 ((cp2 M (k1 + 1) (k + 1) 8) k1 1)) k 2 ((up2 (cp2 M (k1 + 1) (k + 1) 8) k 1 ((cp2 M (k1 + 1) (k + 1) 8) k1 1)) k1 2)) k1 3)) k1 4)) k1 5)) k1 6)) k 7 ((up2 (up2 (up2 (up2 (up2 (up2 (cp2 M (k1 + 1) (k + 1) 8) k 1 ((cp2 M (k1 + 1) (k + 1) 8) k1 1)) k 2 ((up2 (cp2 M (k1 + 1) (k + 1) 8) k 1 ((cp2 M (k1 + 1) (k + 1) 8) k1 1)) k1 2)) k 3 ((up2 (up2 (cp2 M (k1 + 1) (k + 1) 8) k 1 ((cp2 M (k1 + 1) (k + 1) 8) k1 1)) k 2 ((up2 (cp2 M (k1 + 1) (k + 1) 8) k 1 ((cp2 M (k1 + 1) (k + 1) 8) k1 1)) k1 2)) k1 3)) k 4 ((up2 (up2 (up2 (cp2 M (k1 + 1) (k + 1) 8) k 1 ((cp2 M (k1 + 1) (k + 1) 8) k1 1)) k 2 ((up2 (cp2 M (k1 + 1) (k + 1) 8) k 1 ((cp2 M (k1 + 1) (k + 1) 8) k1 1)) k1 2)) k 3 ((up2 (up2 (cp2 M (k1 + 1) (k + 1) 8) k 1 ((cp2 M (k1 + 1) (k + 1) 8) k1 1)) k 2 ((up2 (cp2 M (k1 + 1) (k + 1) 8) k 1 ((cp2 M (k1 + 1) (k + 1) 8) k1 1)) k1 2)) k1 3)) k1 4)) k 5 ((up2 (up2 (up2 (up2 (cp2 M (k1 + 1) (k + 1) 8) k 1 ((cp2 M (k1 + 1) (k + 1) 8) k1 1)) k 2 ((up2 (cp2 M (k1 + 1) (k + 1) 8) k 1 ((cp2 M (k1 + 1) (k + 1) 8) k1 1)) k1 2)) k 3 ((up2 (up2 (cp2 M (k1 + 1) (k + 1) 8) k 1 ((cp2 M (k1 + 1) (k + 1) 8) k1 1)) k 2 ((up2 (cp2 M (k1 + 1) (k + 1) 8) k 1 ((cp2 M (k1 + 1) (k + 1) 8) k1 1)) k1 2)) k1 3)) k 4 ((up2 (up2 (up2 (cp2 M (k1 + 1) (k + 1) 8) k 1 ((cp2 M (k1 + 1) (k + 1) 8) k1 1)) k 2 ((up2 (cp2 M (k1 + 1) (k + 1) 8) k 1 ((cp2 M (k1 + 1) (k + 1) 8) k1 1)) k1 2)) k 3 ((up2 (up2 (cp2 M (k1 + 1) (k + 1) 8) k 1 ((cp2 M (k1 + 1) (k + 1) 8) k1 1)) k 2 ((up2 (cp2 M (k1 + 1) (k + 1) 8) k 1 ((cp2 M (k1 + 1) (k + 1) 8) k1 1)) k1 2)) k1 3)) k1 4)) k1 5)) k 6 ((up2 (up2 (up2 (up2 (up2 (cp2 M (k1 + 1) (k + 1) 8) k 1 ((cp2 M (k1 + 1) (k + 1) 8) k1 1)) k 2 ((up2 (cp2 M (k1 + 1) (k + 1) 8) k 1 ((cp2 M (k1 + 1) (k + 1) 8) k1 1)) k1 2)) k 3 ((up2 (up2 (cp2 M (k1 + 1) (k + 1) 8) k 1 ((cp2 M (k1 + 1) (k + 1) 8) k1 1)) k 2 ((up2 (cp2 M (k1 + 1) (k + 1) 8) k 1 ((cp2 M (k1 + 1) (k + 1) 8) k1 1)) k1 2)) k1 3)) k 4 ((up2 (up2 (up2 (cp2 M (k1 + 1) (k + 1) 8) k 1 ((cp2 M (k1 + 1) (k + 1) 8) k1 1)) k 2 ((up2 (cp2 M (k1 + 1) (k + 1) 8) k 1 ((cp2 M (k1 + 1) (k + 1) 8) k1 1)) k1 2)) k 3 ((up2 (up2 (cp2 M (k1 + 1) (k + 1) 8) k 1 ((cp2 M (k1 + 1) (k + 1) 8) k1 1)) k 2 ((up2 (cp2 M (k1 + 1) (k + 1) 8) k 1 ((cp2 M (k1 + 1) (k + 1) 8) k1 1)) k1 2)) k1 3)) k1 4)) k 5 ((up2 (up2 (up2 (up2 (cp2 M (k1 + 1) (k + 1) 8) k 1 ((cp2 M (k1 + 1) (k + 1) 8) k1 1)) k 2 ((up2 (cp2 M (k1 + 1) (k + 1) 8) k 1 ((cp2 M (k1 + 1) (k + 1) 8) k1 1)) k1 2)) k 3 ((up2 (up2 (cp2 M (k1 + 1) (k + 1) 8) k 1 ((cp2 M (k1 + 1) (k + 1) 8) k1 1)) k 2 ((up2 (cp2 M (k1 + 1) (k + 1) 8) k 1 ((cp2 M (k1 + 1) (k + 1) 8) k1 1)) k1 2)) k1 3)) k 4 ((up2 (up2 (up2 (cp2 M (k1 + 1) (k + 1) 8) k 1 ((cp2 M (k1 + 1) (k + 1) 8) k1 1)) k 2 ((up2 (cp2 M (k1 + 1) (k + 1) 8) k 1 ((cp2 M (k1 + 1) (k + 1) 8) k1 1)) k1 2)) k 3 ((up2 (up2 (cp2 M (k1 + 1) (k + 1) 8) k 1 ((cp2 M (k1 + 1) (k + 1) 8) k1 1)) k 2 ((up2 (cp2 M (k1 + 1) (k + 1) 8) k 1 ((cp2 M (k1 + 1) (k + 1) 8) k1 1)) k1 2)) k1 3)) k1 4)) k1 5)) k1 6)) k1 7)) k 8 ((up2 (up2 (up2 (up2 (up2 (up2 (up2 (cp2 M (k1 + 1) (k + 1) 8) k 1 ((cp2 M (k1 + 1) (k + 1) 8) k1 1)) k 2 ((up2 (cp2 M (k1 + 1) (k + 1) 8) k 1 ((cp2 M (k1 + 1) (k + 1) 8) k1 1)) k1 2)) k 3 ((up2 (up2 (cp2 M (k1 + 1) (k + 1) 8) k 1 ((cp2 M (k1 + 1) (k + 1) 8) k1 1)) k 2 ((up2 (cp2 M (k1 + 1) (k + 1) 8) k 1 ((cp2 M (k1 + 1) (k + 1) 8) k1 1)) k1 2)) k1 3)) k 4 ((up2 (up2 (up2 (cp2 M (k1 + 1) (k + 1) 8) k 1 ((cp2 M (k1 + 1) (k + 1) 8) k1 1)) k 2 ((up2 (cp2 M (k1 + 1) (k + 1) 8) k 1 ((cp2 M (k1 + 1) (k + 1) 8) k1 1)) k1 2)) k 3 ((up2 (up2 (cp2 M (k1 + 1) (k + 1) 8) k 1 ((cp2 M (k1 + 1) (k + 1) 8) k1 1)) k 2 ((up2 (cp2 M (k1 + 1) (k + 1) 8) k 1 ((cp2 M (k1 + 1) (k + 1) 8) k1 1)) k1 2)) k1 3)) k1 4)) k 5 ((up2 (up2 (up2 (up2 (cp2 M (k1 + 1) (k + 1) 8) k 1 ((cp2 M (k1 + 1) (k + 1) 8) k1 1)) k 2 ((up2 (cp2 M (k1 + 1) (k + 1) 8) k 1 ((cp2 M (k1 + 1) (k + 1) 8) k1 1)) k1 2)) k 3 ((up2 (up2 (cp2 M (k1 + 1) (k + 1) 8) k 1 ((cp2 M (k1 + 1) (k + 1) 8) k1 1)) k 2 ((up2 (cp2 M (k1 + 1) (k + 1) 8) k 1 ((cp2 M (k1 + 1) (k + 1) 8) k1 1)) k1 2)) k1 3)) k 4 ((up2 (up2 (up2 (cp2 M (k1 + 1) (k + 1) 8) k 1 ((cp2 M (k1 + 1) (k + 1) 8) k1 1)) k 2 ((up2 (cp2 M (k1 + 1) (k + 1) 8) k 1 ((cp2 M (k1 + 1) (k + 1) 8) k1 1)) k1 2)) k 3 ((up2 (up2 (cp2 M (k1 + 1) (k + 1) 8) k 1 ((cp2 M (k1 + 1) (k + 1) 8) k1 1)) k 2 ((up2 (cp2 M (k1 + 1) (k + 1) 8) k 1 ((cp2 M (k1 + 1) (k + 1) 8) k1 1)) k1 2)) k1 3)) k1 4)) k1 5)) k 6 ((up2 (up2 (up2 (up2 (up2 (cp2 M (k1 + 1) (k + 1) 8) k 1 ((cp2 M (k1 + 1) (k + 1) 8) k1 1)) k 2 ((up2 (cp2 M (k1 + 1) (k + 1) 8) k 1 ((cp2 M (k1 + 1) (k + 1) 8) k1 1)) k1 2)) k 3 ((up2 (up2 (cp2 M (k1 + 1) (k + 1) 8) k 1 ((cp2 M (k1 + 1) (k + 1) 8) k1 1)) k 2 ((up2 (cp2 M (k1 + 1) (k + 1) 8) k 1 ((cp2 M (k1 + 1) (k + 1) 8) k1 1)) k1 2)) k1 3)) k 4 ((up2 (up2 (up2 (cp2 M (k1 + 1) (k + 1) 8) k 1 ((cp2 M (k1 + 1) (k + 1) 8) k1 1)) k 2 ((up2 (cp2 M (k1 + 1) (k + 1) 8) k 1 ((cp2 M (k1 + 1) (k + 1) 8) k1 1)) k1 2)) k 3 ((up2 (up2 (cp2 M (k1 + 1) (k + 1) 8) k 1 ((cp2 M (k1 + 1) (k + 1) 8) k1 1)) k 2 ((up2 (cp2 M (k1 + 1) (k + 1) 8) k 1 ((cp2 M (k1 + 1) (k + 1) 8) k1 1)) k1 2)) k1 3)) k1 4)) k 5 ((up2 (up2 (up2 (up2 (cp2 M (k1 + 1) (k + 1) 8) k 1 ((cp2 M (k1 + 1) (k + 1) 8) k1 1)) k 2 ((up2 (cp2 M (k1 + 1) (k + 1) 8) k 1 ((cp2 M (k1 + 1) (k + 1) 8) k1 1)) k1 2)) k 3 ((up2 (up2 (cp2 M (k1 + 1) (k + 1) 8) k 1 ((cp2 M (k1 + 1) (k + 1) 8) k1 1)) k 2 ((up2 (cp2 M (k1 + 1) (k + 1) 8) k 1 ((cp2 M (k1 + 1) (k + 1) 8) k1 1)) k1 2)) k1 3)) k 4 ((up2 (up2 (up2 (cp2 M (k1 + 1) (k + 1) 8) k 1 ((cp2 M (k1 + 1) (k + 1) 8) k1 1)) k 2 ((up2 (cp2 M (k1 + 1) (k + 1) 8) k 1 ((cp2 M (k1 + 1) (k + 1) 8) k1 1)) k1 2)) k 3 ((up2 (up2 (cp2 M (k1 + 1) (k + 1) 8) k 1 ((cp2 M (k1 + 1) (k + 1) 8) k1 1)) k 2 ((up2 (cp2 M (k1 + 1) (k + 1) 8) k 1 ((cp2 M (k1 + 1) (k + 1) 8) k1 1)) k1 2)) k1 3)) k1 4)) k1 5)) k1 6)) k 7 ((up2 (up2 (up2 (up2 (up2 (up2 (cp2 M (k1 + 1) (k + 1) 8) k 1 ((cp2 M (k1 + 1) (k + 1) 8) k1 1)) k 2 ((up2 (cp2 M (k1 + 1) (k + 1) 8) k 1 ((cp2 M (k1 + 1) (k + 1) 8) k1 1)) k1 2)) k 3 ((up2 (up2 (cp2 M (k1 + 1) (k + 1) 8) k 1 ((cp2 M (k1 + 1) (k + 1) 8) k1 1)) k 2 ((up2 (cp2 M (k1 + 1) (k + 1) 8) k 1 ((cp2 M (k1 + 1) (k + 1) 8) k1 1)) k1 2)) k1 3)) k 4 ((up2 (up2 (up2 (cp2 M (k1 + 1) (k + 1) 8) k 1 ((cp2 M (k1 + 1) (k + 1) 8) k1 1)) k 2 ((up2 (cp2 M (k1 + 1) (k + 1) 8) k 1 ((cp2 M (k1 + 1) (k + 1) 8) k1 1)) k1 2)) k 3 ((up2 (up2 (cp2 M (k1 + 1) (k + 1) 8) k 1 ((cp2 M (k1 + 1) (k + 1) 8) k1 1)) k 2 ((up2 (cp2 M (k1 + 1) (k + 1) 8) k 1 ((cp2 M (k1 + 1) (k + 1) 8) k1 1)) k1 2)) k1 3)) k1 4)) k 5 ((up2 (up2 (up2 (up2 (cp2 M (k1 + 1) (k + 1) 8) k 1 ((cp2 M (k1 + 1) (k + 1) 8) k1 1)) k 2 ((up2 (cp2 M (k1 + 1) (k + 1) 8) k 1 ((cp2 M (k1 + 1) (k + 1) 8) k1 1)) k1 2)) k 3 ((up2 (up2 (cp2 M (k1 + 1) (k + 1) 8) k 1 ((cp2 M (k1 + 1) (k + 1) 8) k1 1)) k 2 ((up2 (cp2 M (k1 + 1) (k + 1) 8) k 1 ((cp2 M (k1 + 1) (k + 1) 8) k1 1)) k1 2)) k1 3)) k 4 ((up2 (up2 (up2 (cp2 M (k1 + 1) (k + 1) 8) k 1 ((cp2 M (k1 + 1) (k + 1) 8) k1 1)) k 2 ((up2 (cp2 M (k1 + 1) (k + 1) 8) k 1 ((cp2 M (k1 + 1) (k + 1) 8) k1 1)) k1 2)) k 3 ((up2 (up2 (cp2 M (k1 + 1) (k + 1) 8) k 1 ((cp2 M (k1 + 1) (k + 1) 8) k1 1)) k 2 ((up2 (cp2 M (k1 + 1) (k + 1) 8) k 1 ((cp2 M (k1 + 1) (k + 1) 8) k1 1)) k1 2)) k1 3)) k1 4)) k1 5)) k 6 ((up2 (up2 (up2 (up2 (up2 (cp2 M (k1 + 1) (k + 1) 8) k 1 ((cp2 M (k1 + 1) (k + 1) 8) k1 1)) k 2 ((up2 (cp2 M (k1 + 1) (k + 1) 8) k 1 ((cp2 M (k1 + 1) (k + 1) 8) k1 1)) k1 2)) k 3 ((up2 (up2 (cp2 M (k1 + 1) (k + 1) 8) k 1 ((cp2 M (k1 + 1) (k + 1) 8) k1 1)) k 2 ((up2 (cp2 M (k1 + 1) (k + 1) 8) k 1 ((cp2 M (k1 + 1) (k + 1) 8) k1 1)) k1 2)) k1 3)) k 4 ((up2 (up2 (up2 (cp2 M (k1 + 1) (k + 1) 8) k 1 ((cp2 M (k1 + 1) (k + 1) 8) k1 1)) k 2 ((up2 (cp2 M (k1 + 1) (k + 1) 8) k 1 ((cp2 M (k1 + 1) (k + 1) 8) k1 1)) k1 2)) k 3 ((up2 (up2 (cp2 M (k1 + 1) (k + 1) 8) k 1 ((cp2 M (k1 + 1) (k + 1) 8) k1 1)) k 2 ((up2 (cp2 M (k1 + 1) (k + 1) 8) k 1 ((cp2 M (k1 + 1) (k + 1) 8) k1 1)) k1 2)) k1 3)) k1 4)) k 5 ((up2 (up2 (up2 (up2 (cp2 M (k1 + 1) (k + 1) 8) k 1 ((cp2 M (k1 + 1) (k + 1) 8) k1 1)) k 2 ((up2 (cp2 M (k1 + 1) (k + 1) 8) k 1 ((cp2 M (k1 + 1) (k + 1) 8) k1 1)) k1 2)) k 3 ((up2 (up2 (cp2 M (k1 + 1) (k + 1) 8) k 1 ((cp2 M (k1 + 1) (k + 1) 8) k1 1)) k 2 ((up2 (cp2 M (k1 + 1) (k + 1) 8) k 1 ((cp2 M (k1 + 1) (k + 1) 8) k1 1)) k1 2)) k1 3)) k 4 ((up2 (up2 (up2 (cp2 M (k1 + 1) (k + 1) 8) k 1 ((cp2 M (k1 + 1) (k + 1) 8) k1 1)) k 2 ((up2 (cp2 M (k1 + 1) (k + 1) 8) k 1 ((cp2 M (k1 + 1) (k + 1) 8) k1 1)) k1 2)) k 3 ((up2 (up2 (cp2 M (k1 + 1) (k + 1) 8) k 1 ((cp2 M (k1 + 1) (k + 1) 8) k1 1)) k 2 ((up2 (cp2 M (k1 + 1) (k + 1) 8) k 1 ((cp2 M (k1 + 1) (k + 1) 8) k1 1)) k1 2)) k1 3)) k1 4)) k1 5)) k1 6)) k1 7)) k1 8)) else none
set_option maxHeartbeats 4000000 in
set_option maxRecDepth 100000 in
theorem c_X1_copyFrom {X : Cx} {l : Launch} (hX : CxOk X) (hS : SC X) {N : Nat} {M : Mem} {k : Nat} {k1 : Nat} (hk : ev k) (hk1 : ev k1) {M' : Mem} (h : f_X1_copyFrom N M k k1 = some M') : Ctr X l yX1_copyFrom cX1_copyFrom 2 none 2 [.ref k, .ref k1] M none M' := by
  refine Ctr.ofG (L := [some (.ref k), some (.ref k1)]) hX (by decide) (Nat.le_of_ble_eq_true rfl) rfl (fun F hF hl hR => ?_)
  subst hl
  unfold f_X1_copyFrom at h
  refine g_aload_n hF (dck_at tX1_copyFrom 0 rfl) rfl ?_
  refine gf_X1_9 hF (ev_m hS hk1) (ev_kd hk1) (ev_ln hk1) (t := (k1 + 1)) rfl (dck_at tX1_copyFrom 1 rfl) ?_
  refine g_iconst (v := 0) hF (dck_at tX1_copyFrom 2 rfl) (by decide) ?_
  refine g_aload_n hF (dck_at tX1_copyFrom 3 rfl) rfl ?_
  refine gf_X1_9 hF (ev_m hS hk) (ev_kd hk) (ev_ln hk) (t := (k + 1)) rfl (dck_at tX1_copyFrom 4 rfl) ?_
  refine g_iconst (v := 0) hF (dck_at tX1_copyFrom 5 rfl) (by decide) ?_
  show G X F 10 _ _ _
  refine g_bipush (v := 8) hF (dck_at tX1_copyFrom 6 rfl) (by decide) ?_
  refine g_copy hF wm_X1_24 wv_copy wt_copy wn_J10 (ev_mz hS hk1) (ev_kz hk1) (ev_mz hS hk) (ev_kz hk) (by decide) (by rw [(ev_lz hk1)]; decide) (by rw [(ev_lz hk)]; decide) (by decide) rfl rfl (dck_at tX1_copyFrom 7 rfl) ?_
  show G X F 15 _ _ (cp2 M (k1 + 1) (k + 1) 8)
  refine g_aload_n hF (dck_at tX1_copyFrom 8 rfl) rfl ?_
  refine g_aload_n hF (dck_at tX1_copyFrom 9 rfl) rfl ?_
  refine gf_X1_34 hF (ev_m hS hk1) (ev_kd hk1) (ev_ln hk1) (dck_at tX1_copyFrom 10 rfl) ?_
  refine pf_X1_34 hF (ev_m hS hk) (ev_kd hk) (ev_ln hk) (dck_at tX1_copyFrom 11 rfl) ?_
  refine g_aload_n hF (dck_at tX1_copyFrom 12 rfl) rfl ?_
  show G X F 24 _ _ _
  refine g_aload_n hF (dck_at tX1_copyFrom 13 rfl) rfl ?_
  refine gf_X1_37 hF (ev_m hS hk1) (ev_kd hk1) (ev_ln hk1) (dck_at tX1_copyFrom 14 rfl) ?_
  refine pf_X1_37 hF (ev_m hS hk) (ev_kd hk) (ev_ln hk) (dck_at tX1_copyFrom 15 rfl) ?_
  refine g_aload_n hF (dck_at tX1_copyFrom 16 rfl) rfl ?_
  refine g_aload_n hF (dck_at tX1_copyFrom 17 rfl) rfl ?_
  refine gf_X1_43 hF (ev_m hS hk1) (ev_kd hk1) (ev_ln hk1) (dck_at tX1_copyFrom 18 rfl) ?_
  refine pf_X1_43 hF (ev_m hS hk) (ev_kd hk) (ev_ln hk) (dck_at tX1_copyFrom 19 rfl) ?_
  show G X F 39 _ _ _
  refine g_aload_n hF (dck_at tX1_copyFrom 20 rfl) rfl ?_
  refine g_aload_n hF (dck_at tX1_copyFrom 21 rfl) rfl ?_
  refine gf_X1_44 hF (ev_m hS hk1) (ev_kd hk1) (ev_ln hk1) (dck_at tX1_copyFrom 22 rfl) ?_
  refine pf_X1_44 hF (ev_m hS hk) (ev_kd hk) (ev_ln hk) (dck_at tX1_copyFrom 23 rfl) ?_
  refine g_aload_n hF (dck_at tX1_copyFrom 24 rfl) rfl ?_
  refine g_aload_n hF (dck_at tX1_copyFrom 25 rfl) rfl ?_
  refine gf_X1_47 hF (ev_m hS hk1) (ev_kd hk1) (ev_ln hk1) (dck_at tX1_copyFrom 26 rfl) ?_
  show G X F 52 _ _ _
  refine pf_X1_47 hF (ev_m hS hk) (ev_kd hk) (ev_ln hk) (dck_at tX1_copyFrom 27 rfl) ?_
  refine g_aload_n hF (dck_at tX1_copyFrom 28 rfl) rfl ?_
  refine g_aload_n hF (dck_at tX1_copyFrom 29 rfl) rfl ?_
  refine gf_X1_50 hF (ev_m hS hk1) (ev_kd hk1) (ev_ln hk1) (dck_at tX1_copyFrom 30 rfl) ?_
  refine pf_X1_50 hF (ev_m hS hk) (ev_kd hk) (ev_ln hk) (dck_at tX1_copyFrom 31 rfl) ?_
  refine g_aload_n hF (dck_at tX1_copyFrom 32 rfl) rfl ?_
  refine g_aload_n hF (dck_at tX1_copyFrom 33 rfl) rfl ?_
  show G X F 65 _ _ _
  refine gf_X1_53 hF (ev_m hS hk1) (ev_kd hk1) (ev_ln hk1) (dck_at tX1_copyFrom 34 rfl) ?_
  refine pf_X1_53 hF (ev_m hS hk) (ev_kd hk) (ev_ln hk) (dck_at tX1_copyFrom 35 rfl) ?_
  refine g_aload_n hF (dck_at tX1_copyFrom 36 rfl) rfl ?_
  refine g_aload_n hF (dck_at tX1_copyFrom 37 rfl) rfl ?_
  refine gf_X1_56 hF (ev_m hS hk1) (ev_kd hk1) (ev_ln hk1) (dck_at tX1_copyFrom 38 rfl) ?_
  obtain ⟨hg76, h⟩ := gd h
  refine pf_X1_56 hF (ev_m hS hk) (ev_kd hk) (ev_ln hk) hg76 (dck_at tX1_copyFrom 39 rfl) ?_
  cases h
  exact g_vret hF hR (dck_at tX1_copyFrom 40 rfl)

def tbX1_isThere : List (Nat × Instr × Nat) := [(0, .aload_n 0, 1), (1, .getfield 34, 3), (4, .iload_n 1, 1), (5, .ishr, 1), (6, .iconst 1, 1), (7, .iand, 1), (8, .ifCond .eq 7, 3), (11, .iconst 1, 1), (12, .goto 4, 3), (15, .iconst 0, 1), (16, .ireturn, 1)]
theorem tX1_isThere : dck cX1_isThere tbX1_isThere = true := by decide +kernel
def f_X1_isThere (N : Nat) (M : Mem) (k : Nat) (x1 : Int32) : Option Int32 := (if (((M k 1) >>> (x1 &&& 31)) &&& (1 : Int32)) = 0 then some (0 : Int32) else some (1 : Int32))
set_option maxHeartbeats 4000000 in
set_option maxRecDepth 100000 in
theorem c_X1_isThere {X : Cx} {l : Launch} (hX : CxOk X) (hS : SC X) {N : Nat} {M : Mem} {k : Nat} {x1 : Int32} (hk : ev k) {r : Int32} (h : f_X1_isThere N M k x1 = some r) : Ctr X l yX1_isThere cX1_isThere 2 (some .boolean) 1 [.ref k, .int x1] M (some (.int r)) M := by
  refine Ctr.ofG (L := [some (.ref k), some (.int x1)]) hX (by decide) (Nat.le_of_ble_eq_true rfl) rfl (fun F hF hl hR => ?_)
  subst hl
  unfold f_X1_isThere at h
  refine g_aload_n hF (dck_at tX1_isThere 0 rfl) rfl ?_
  refine gf_X1_34 hF (ev_m hS hk) (ev_kd hk) (ev_ln hk) (dck_at tX1_isThere 1 rfl) ?_
  refine g_iload_n hF (dck_at tX1_isThere 2 rfl) rfl ?_
  refine g_ishr hF (dck_at tX1_isThere 3 rfl) ?_
  refine g_iconst (v := 1) hF (dck_at tX1_isThere 4 rfl) (by decide) ?_
  refine g_iand hF (dck_at tX1_isThere 5 rfl) ?_
  show G X F 8 _ _ _
  refine g_if_eq hF 15 (dck_at tX1_isThere 6 rfl) (by decide) (fun hc8 => ?_) (fun hc8 => ?_)
  · replace h := ite_t hc8 h
    refine g_iconst (v := 0) hF (dck_at tX1_isThere 9 rfl) (by decide) ?_
    cases h
    exact g_zret hF hR rfl (dck_at tX1_isThere 10 rfl)
  · replace h := ite_f hc8 h
    refine g_iconst (v := 1) hF (dck_at tX1_isThere 7 rfl) (by decide) ?_
    refine g_goto hF 16 (dck_at tX1_isThere 8 rfl) (by decide) ?_
    cases h
    exact g_zret hF hR rfl (dck_at tX1_isThere 10 rfl)

def tbX1_isClapping : List (Nat × Instr × Nat) := [(0, .aload_n 0, 1), (1, .getfield 34, 3), (4, .iload_n 1, 1), (5, .ishr, 1), (6, .iconst 1, 1), (7, .iand, 1), (8, .ifCond .eq 16, 3), (11, .aload_n 0, 1), (12, .getfield 9, 3), (15, .iload_n 1, 1), (16, .iaload, 1), (17, .ifCond .le 7, 3), (20, .iconst 1, 1), (21, .goto 4, 3), (24, .iconst 0, 1), (25, .ireturn, 1)]
theorem tX1_isClapping : dck cX1_isClapping tbX1_isClapping = true := by decide +kernel
def f_X1_isClapping (N : Nat) (M : Mem) (k : Nat) (x1 : Int32) : Option Int32 := (if (((M k 1) >>> (x1 &&& 31)) &&& (1 : Int32)) = 0 then some (0 : Int32) else if inb x1 8 = true then (if (M (k + 1) x1.toNatClampNeg) ≤ 0 then some (0 : Int32) else some (1 : Int32)) else none)
set_option maxHeartbeats 4000000 in
set_option maxRecDepth 100000 in
theorem c_X1_isClapping {X : Cx} {l : Launch} (hX : CxOk X) (hS : SC X) {N : Nat} {M : Mem} {k : Nat} {x1 : Int32} (hk : ev k) {r : Int32} (h : f_X1_isClapping N M k x1 = some r) : Ctr X l yX1_isClapping cX1_isClapping 2 (some .boolean) 1 [.ref k, .int x1] M (some (.int r)) M := by
  refine Ctr.ofG (L := [some (.ref k), some (.int x1)]) hX (by decide) (Nat.le_of_ble_eq_true rfl) rfl (fun F hF hl hR => ?_)
  subst hl
  unfold f_X1_isClapping at h
  refine g_aload_n hF (dck_at tX1_isClapping 0 rfl) rfl ?_
  refine gf_X1_34 hF (ev_m hS hk) (ev_kd hk) (ev_ln hk) (dck_at tX1_isClapping 1 rfl) ?_
  refine g_iload_n hF (dck_at tX1_isClapping 2 rfl) rfl ?_
  refine g_ishr hF (dck_at tX1_isClapping 3 rfl) ?_
  refine g_iconst (v := 1) hF (dck_at tX1_isClapping 4 rfl) (by decide) ?_
  refine g_iand hF (dck_at tX1_isClapping 5 rfl) ?_
  show G X F 8 _ _ _
  refine g_if_eq hF 24 (dck_at tX1_isClapping 6 rfl) (by decide) (fun hc8 => ?_) (fun hc8 => ?_)
  · replace h := ite_t hc8 h
    refine g_iconst (v := 0) hF (dck_at tX1_isClapping 14 rfl) (by decide) ?_
    cases h
    exact g_zret hF hR rfl (dck_at tX1_isClapping 15 rfl)
  · replace h := ite_f hc8 h
    refine g_aload_n hF (dck_at tX1_isClapping 7 rfl) rfl ?_
    refine gf_X1_9 hF (ev_m hS hk) (ev_kd hk) (ev_ln hk) (t := (k + 1)) rfl (dck_at tX1_isClapping 8 rfl) ?_
    refine g_iload_n hF (dck_at tX1_isClapping 9 rfl) rfl ?_
    obtain ⟨hg16, h⟩ := gd h
    refine g_ia hF (ev_mz hS hk) (ev_kz hk) (ev_lz hk) hg16 (dck_at tX1_isClapping 10 rfl) ?_
    refine g_if_le hF 24 (dck_at tX1_isClapping 11 rfl) (by decide) (fun hc17 => ?_) (fun hc17 => ?_)
    · replace h := ite_t hc17 h
      refine g_iconst (v := 0) hF (dck_at tX1_isClapping 14 rfl) (by decide) ?_
      cases h
      exact g_zret hF hR rfl (dck_at tX1_isClapping 15 rfl)
    · replace h := ite_f hc17 h
      refine g_iconst (v := 1) hF (dck_at tX1_isClapping 12 rfl) (by decide) ?_
      refine g_goto hF 25 (dck_at tX1_isClapping 13 rfl) (by decide) ?_
      cases h
      exact g_zret hF hR rfl (dck_at tX1_isClapping 15 rfl)

def tbX1_wasPlayed : List (Nat × Instr × Nat) := [(0, .aload_n 0, 1), (1, .getfield 44, 3), (4, .iload_n 1, 1), (5, .ishr, 1), (6, .iconst 1, 1), (7, .iand, 1), (8, .ifCond .eq 7, 3), (11, .iconst 1, 1), (12, .goto 4, 3), (15, .iconst 0, 1), (16, .ireturn, 1)]
theorem tX1_wasPlayed : dck cX1_wasPlayed tbX1_wasPlayed = true := by decide +kernel
def f_X1_wasPlayed (N : Nat) (M : Mem) (k : Nat) (x1 : Int32) : Option Int32 := (if (((M k 4) >>> (x1 &&& 31)) &&& (1 : Int32)) = 0 then some (0 : Int32) else some (1 : Int32))
set_option maxHeartbeats 4000000 in
set_option maxRecDepth 100000 in
theorem c_X1_wasPlayed {X : Cx} {l : Launch} (hX : CxOk X) (hS : SC X) {N : Nat} {M : Mem} {k : Nat} {x1 : Int32} (hk : ev k) {r : Int32} (h : f_X1_wasPlayed N M k x1 = some r) : Ctr X l yX1_wasPlayed cX1_wasPlayed 2 (some .boolean) 1 [.ref k, .int x1] M (some (.int r)) M := by
  refine Ctr.ofG (L := [some (.ref k), some (.int x1)]) hX (by decide) (Nat.le_of_ble_eq_true rfl) rfl (fun F hF hl hR => ?_)
  subst hl
  unfold f_X1_wasPlayed at h
  refine g_aload_n hF (dck_at tX1_wasPlayed 0 rfl) rfl ?_
  refine gf_X1_44 hF (ev_m hS hk) (ev_kd hk) (ev_ln hk) (dck_at tX1_wasPlayed 1 rfl) ?_
  refine g_iload_n hF (dck_at tX1_wasPlayed 2 rfl) rfl ?_
  refine g_ishr hF (dck_at tX1_wasPlayed 3 rfl) ?_
  refine g_iconst (v := 1) hF (dck_at tX1_wasPlayed 4 rfl) (by decide) ?_
  refine g_iand hF (dck_at tX1_wasPlayed 5 rfl) ?_
  show G X F 8 _ _ _
  refine g_if_eq hF 15 (dck_at tX1_wasPlayed 6 rfl) (by decide) (fun hc8 => ?_) (fun hc8 => ?_)
  · replace h := ite_t hc8 h
    refine g_iconst (v := 0) hF (dck_at tX1_wasPlayed 9 rfl) (by decide) ?_
    cases h
    exact g_zret hF hR rfl (dck_at tX1_wasPlayed 10 rfl)
  · replace h := ite_f hc8 h
    refine g_iconst (v := 1) hF (dck_at tX1_wasPlayed 7 rfl) (by decide) ?_
    refine g_goto hF 16 (dck_at tX1_wasPlayed 8 rfl) (by decide) ?_
    cases h
    exact g_zret hF hR rfl (dck_at tX1_wasPlayed 10 rfl)

def tbX1_whoClaps : List (Nat × Instr × Nat) := [(0, .iconst 0, 1), (1, .istore_n 1, 1), (2, .iconst 0, 1), (3, .istore_n 2, 1), (4, .iload_n 2, 1), (5, .aload_n 0, 1), (6, .getfield 15, 3), (9, .getfield 30, 3), (12, .if_icmp .ge 23, 3), (15, .aload_n 0, 1), (16, .iload_n 2, 1), (17, .invokevirtual 60, 3), (20, .ifCond .eq 9, 3), (23, .iload_n 1, 1), (24, .iconst 1, 1), (25, .iload_n 2, 1), (26, .ishl, 1), (27, .ior, 1), (28, .istore_n 1, 1), (29, .iinc 2 1, 3), (32, .goto (-28), 3), (35, .iload_n 1, 1), (36, .ireturn, 1)]
theorem tX1_whoClaps : dck cX1_whoClaps tbX1_whoClaps = true := by decide +kernel
def f_X1_whoClaps_L4 (N : Nat) (M : Mem) (k : Nat) : Nat → Int32 → Int32 → Option (Int32 × Int32)
  | 0, _, _ => none
  | n + 1, x1, x2 => (if (M 1 7) ≤ x2 then some (x1, x2) else (f_X1_isClapping N M k x2).bind fun q17 => (if q17 = 0 then f_X1_whoClaps_L4 N M k n x1 (x2 + (1 : Int32)) else f_X1_whoClaps_L4 N M k n (x1 ||| ((1 : Int32) <<< (x2 &&& 31))) (x2 + (1 : Int32))))
def f_X1_whoClaps (N : Nat) (M : Mem) (k : Nat) : Option Int32 := (f_X1_whoClaps_L4 N M k N (0 : Int32) (0 : Int32)).bind fun o4 => some o4.1
set_option maxHeartbeats 4000000 in
set_option maxRecDepth 100000 in
theorem g_X1_whoClaps_L4 {X : Cx} {F : Fx} (hS : SC X) (hF : FK X F cX1_whoClaps RX1 3 2) (N : Nat) (M : Mem) (k : Nat) (hk : ev k) : ∀ (n : Nat) (x1 : Int32) (x2 : Int32) (o : Int32 × Int32), f_X1_whoClaps_L4 N M k n x1 x2 = some o → G X F 35 [none, some (.int o.1), none] [] M → G X F 4 [some (.ref k), some (.int x1), some (.int x2)] [] M := by
  intro n
  induction n with
  | zero =>
    intro x1 x2 o h K
    cases h
  | succ n ih =>
    intro x1 x2 o h K
    rw [f_X1_whoClaps_L4] at h
    refine g_iload_n hF (dck_at tX1_whoClaps 4 rfl) rfl ?_
    refine g_aload_n hF (dck_at tX1_whoClaps 5 rfl) rfl ?_
    refine gf_X1_15 hF (ev_m hS hk) (ev_kd hk) (ev_ln hk) (dck_at tX1_whoClaps 6 rfl) ?_
    refine gf_X1_30 hF (hS 1 (by decide)) kdc_1 lnc_1 (dck_at tX1_whoClaps 7 rfl) ?_
    refine g_icmp_ge hF 35 (dck_at tX1_whoClaps 8 rfl) (by decide) (fun hc12 => ?_) (fun hc12 => ?_)
    · replace h := ite_t hc12 h
      refine g_msk [false, true, false] (L' := [none, some (.int x1), none]) rfl ?_
      cases h
      exact K
    · replace h := ite_f hc12 h
      refine g_aload_n hF (dck_at tX1_whoClaps 9 rfl) rfl ?_
      refine g_iload_n hF (dck_at tX1_whoClaps 10 rfl) rfl ?_
      obtain ⟨q17, e17, h⟩ := bd h
      refine g_callV hF (as := [.int x2]) (k := k) rfl (by decide) wm_X1_60 wi_X1_isClapping we_X1_isClapping wc_X1_isClapping wn_X1 hyX1_isClapping (by decide) (ev_m hS hk) (ev_kd hk) (c_X1_isClapping hF.2.2.2.2.2.2.2.1 hS hk e17) (by decide) rfl rfl rfl rfl (dck_at tX1_whoClaps 11 rfl) ?_
      show G X F 20 _ [.int q17] M
      refine g_if_eq hF 29 (dck_at tX1_whoClaps 12 rfl) (by decide) (fun hc20 => ?_) (fun hc20 => ?_)
      · replace h := ite_t hc20 h
        refine g_iinc (v := 1) (L' := [some (.ref k), some (.int x1), some (.int (x2 + (1 : Int32)))]) hF (dck_at tX1_whoClaps 19 rfl) rfl (by decide) rfl ?_
        refine g_goto hF 4 (dck_at tX1_whoClaps 20 rfl) (by decide) ?_
        exact ih _ _ _ h K
      · replace h := ite_f hc20 h
        refine g_iload_n hF (dck_at tX1_whoClaps 13 rfl) rfl ?_
        refine g_iconst (v := 1) hF (dck_at tX1_whoClaps 14 rfl) (by decide) ?_
        refine g_iload_n hF (dck_at tX1_whoClaps 15 rfl) rfl ?_
        refine g_ishl hF (dck_at tX1_whoClaps 16 rfl) ?_
        refine g_ior hF (dck_at tX1_whoClaps 17 rfl) ?_
        refine g_istore_n (L' := [some (.ref k), some (.int (x1 ||| ((1 : Int32) <<< (x2 &&& 31)))), some (.int x2)]) hF (dck_at tX1_whoClaps 18 rfl) (Nat.le_of_ble_eq_true rfl) rfl ?_
        show G X F 29 _ _ _
        refine g_iinc (v := 1) (L' := [some (.ref k), some (.int (x1 ||| ((1 : Int32) <<< (x2 &&& 31)))), some (.int (x2 + (1 : Int32)))]) hF (dck_at tX1_whoClaps 19 rfl) rfl (by decide) rfl ?_
        refine g_goto hF 4 (dck_at tX1_whoClaps 20 rfl) (by decide) ?_
        exact ih _ _ _ h K
set_option maxHeartbeats 4000000 in
set_option maxRecDepth 100000 in
theorem c_X1_whoClaps {X : Cx} {l : Launch} (hX : CxOk X) (hS : SC X) {N : Nat} {M : Mem} {k : Nat} (hk : ev k) {r : Int32} (h : f_X1_whoClaps N M k = some r) : Ctr X l yX1_whoClaps cX1_whoClaps 3 (some .int) 2 [.ref k] M (some (.int r)) M := by
  refine Ctr.ofG (L := [some (.ref k), none, none]) hX (by decide) (Nat.le_of_ble_eq_true rfl) rfl (fun F hF hl hR => ?_)
  subst hl
  unfold f_X1_whoClaps at h
  refine g_iconst (v := 0) hF (dck_at tX1_whoClaps 0 rfl) (by decide) ?_
  refine g_istore_n (L' := [some (.ref k), some (.int (0 : Int32)), none]) hF (dck_at tX1_whoClaps 1 rfl) (Nat.le_of_ble_eq_true rfl) rfl ?_
  refine g_iconst (v := 0) hF (dck_at tX1_whoClaps 2 rfl) (by decide) ?_
  refine g_istore_n (L' := [some (.ref k), some (.int (0 : Int32)), some (.int (0 : Int32))]) hF (dck_at tX1_whoClaps 3 rfl) (Nat.le_of_ble_eq_true rfl) rfl ?_
  obtain ⟨o4, e4, h⟩ := bd h
  refine g_X1_whoClaps_L4 hS hF N _ _ hk N _ _ _ e4 ?_
  refine g_iload_n hF (dck_at tX1_whoClaps 21 rfl) rfl ?_
  cases h
  exact g_iret hF hR (dck_at tX1_whoClaps 22 rfl)

def tbX1_zealOf : List (Nat × Instr × Nat) := [(0, .iconst 0, 1), (1, .istore_n 2, 1), (2, .iconst 0, 1), (3, .istore_n 3, 1), (4, .iload_n 3, 1), (5, .aload_n 0, 1), (6, .getfield 15, 3), (9, .getfield 30, 3), (12, .if_icmp .ge 26, 3), (15, .iload_n 1, 1), (16, .iload_n 3, 1), (17, .ishr, 1), (18, .iconst 1, 1), (19, .iand, 1), (20, .ifCond .eq 12, 3), (23, .iload_n 2, 1), (24, .aload_n 0, 1), (25, .getfield 9, 3), (28, .iload_n 3, 1), (29, .iaload, 1), (30, .iadd, 1), (31, .istore_n 2, 1), (32, .iinc 3 1, 3), (35, .goto (-31), 3), (38, .iload_n 2, 1), (39, .ireturn, 1)]
theorem tX1_zealOf : dck cX1_zealOf tbX1_zealOf = true := by decide +kernel
def f_X1_zealOf_L4 (N : Nat) (M : Mem) (k : Nat) (x1 : Int32) : Nat → Int32 → Int32 → Option (Int32 × Int32)
  | 0, _, _ => none
  | n + 1, x2, x3 => (if (M 1 7) ≤ x3 then some (x2, x3) else (if ((x1 >>> (x3 &&& 31)) &&& (1 : Int32)) = 0 then f_X1_zealOf_L4 N M k x1 n x2 (x3 + (1 : Int32)) else if inb x3 8 = true then f_X1_zealOf_L4 N M k x1 n (x2 + (M (k + 1) x3.toNatClampNeg)) (x3 + (1 : Int32)) else none))
def f_X1_zealOf (N : Nat) (M : Mem) (k : Nat) (x1 : Int32) : Option Int32 := (f_X1_zealOf_L4 N M k x1 N (0 : Int32) (0 : Int32)).bind fun o4 => some o4.1
set_option maxHeartbeats 4000000 in
set_option maxRecDepth 100000 in
theorem g_X1_zealOf_L4 {X : Cx} {F : Fx} (hS : SC X) (hF : FK X F cX1_zealOf RX1 4 1) (N : Nat) (M : Mem) (k : Nat) (x1 : Int32) (hk : ev k) : ∀ (n : Nat) (x2 : Int32) (x3 : Int32) (o : Int32 × Int32), f_X1_zealOf_L4 N M k x1 n x2 x3 = some o → G X F 38 [none, none, some (.int o.1), none] [] M → G X F 4 [some (.ref k), some (.int x1), some (.int x2), some (.int x3)] [] M := by
  intro n
  induction n with
  | zero =>
    intro x2 x3 o h K
    cases h
  | succ n ih =>
    intro x2 x3 o h K
    rw [f_X1_zealOf_L4] at h
    refine g_iload_n hF (dck_at tX1_zealOf 4 rfl) rfl ?_
    refine g_aload_n hF (dck_at tX1_zealOf 5 rfl) rfl ?_
    refine gf_X1_15 hF (ev_m hS hk) (ev_kd hk) (ev_ln hk) (dck_at tX1_zealOf 6 rfl) ?_
    refine gf_X1_30 hF (hS 1 (by decide)) kdc_1 lnc_1 (dck_at tX1_zealOf 7 rfl) ?_
    refine g_icmp_ge hF 38 (dck_at tX1_zealOf 8 rfl) (by decide) (fun hc12 => ?_) (fun hc12 => ?_)
    · replace h := ite_t hc12 h
      refine g_msk [false, false, true, false] (L' := [none, none, some (.int x2), none]) rfl ?_
      cases h
      exact K
    · replace h := ite_f hc12 h
      refine g_iload_n hF (dck_at tX1_zealOf 9 rfl) rfl ?_
      refine g_iload_n hF (dck_at tX1_zealOf 10 rfl) rfl ?_
      refine g_ishr hF (dck_at tX1_zealOf 11 rfl) ?_
      refine g_iconst (v := 1) hF (dck_at tX1_zealOf 12 rfl) (by decide) ?_
      refine g_iand hF (dck_at tX1_zealOf 13 rfl) ?_
      refine g_if_eq hF 32 (dck_at tX1_zealOf 14 rfl) (by decide) (fun hc20 => ?_) (fun hc20 => ?_)
      · replace h := ite_t hc20 h
        refine g_iinc (v := 1) (L' := [some (.ref k), some (.int x1), some (.int x2), some (.int (x3 + (1 : Int32)))]) hF (dck_at tX1_zealOf 22 rfl) rfl (by decide) rfl ?_
        refine g_goto hF 4 (dck_at tX1_zealOf 23 rfl) (by decide) ?_
        exact ih _ _ _ h K
      · replace h := ite_f hc20 h
        refine g_iload_n hF (dck_at tX1_zealOf 15 rfl) rfl ?_
        refine g_aload_n hF (dck_at tX1_zealOf 16 rfl) rfl ?_
        refine gf_X1_9 hF (ev_m hS hk) (ev_kd hk) (ev_ln hk) (t := (k + 1)) rfl (dck_at tX1_zealOf 17 rfl) ?_
        refine g_iload_n hF (dck_at tX1_zealOf 18 rfl) rfl ?_
        obtain ⟨hg29, h⟩ := gd h
        refine g_ia hF (ev_mz hS hk) (ev_kz hk) (ev_lz hk) hg29 (dck_at tX1_zealOf 19 rfl) ?_
        refine g_iadd hF (dck_at tX1_zealOf 20 rfl) ?_
        show G X F 31 _ _ _
        refine g_istore_n (L' := [some (.ref k), some (.int x1), some (.int (x2 + (M (k + 1) x3.toNatClampNeg))), some (.int x3)]) hF (dck_at tX1_zealOf 21 rfl) (Nat.le_of_ble_eq_true rfl) rfl ?_
        refine g_iinc (v := 1) (L' := [some (.ref k), some (.int x1), some (.int (x2 + (M (k + 1) x3.toNatClampNeg))), some (.int (x3 + (1 : Int32)))]) hF (dck_at tX1_zealOf 22 rfl) rfl (by decide) rfl ?_
        refine g_goto hF 4 (dck_at tX1_zealOf 23 rfl) (by decide) ?_
        exact ih _ _ _ h K
set_option maxHeartbeats 4000000 in
set_option maxRecDepth 100000 in
theorem c_X1_zealOf {X : Cx} {l : Launch} (hX : CxOk X) (hS : SC X) {N : Nat} {M : Mem} {k : Nat} {x1 : Int32} (hk : ev k) {r : Int32} (h : f_X1_zealOf N M k x1 = some r) : Ctr X l yX1_zealOf cX1_zealOf 4 (some .int) 1 [.ref k, .int x1] M (some (.int r)) M := by
  refine Ctr.ofG (L := [some (.ref k), some (.int x1), none, none]) hX (by decide) (Nat.le_of_ble_eq_true rfl) rfl (fun F hF hl hR => ?_)
  subst hl
  unfold f_X1_zealOf at h
  refine g_iconst (v := 0) hF (dck_at tX1_zealOf 0 rfl) (by decide) ?_
  refine g_istore_n (L' := [some (.ref k), some (.int x1), some (.int (0 : Int32)), none]) hF (dck_at tX1_zealOf 1 rfl) (Nat.le_of_ble_eq_true rfl) rfl ?_
  refine g_iconst (v := 0) hF (dck_at tX1_zealOf 2 rfl) (by decide) ?_
  refine g_istore_n (L' := [some (.ref k), some (.int x1), some (.int (0 : Int32)), some (.int (0 : Int32))]) hF (dck_at tX1_zealOf 3 rfl) (Nat.le_of_ble_eq_true rfl) rfl ?_
  obtain ⟨o4, e4, h⟩ := bd h
  refine g_X1_zealOf_L4 hS hF N _ _ _ hk N _ _ _ e4 ?_
  refine g_iload_n hF (dck_at tX1_zealOf 24 rfl) rfl ?_
  cases h
  exact g_iret hF hR (dck_at tX1_zealOf 25 rfl)

def tbX1_noise : List (Nat × Instr × Nat) := [(0, .aload_n 0, 1), (1, .aload_n 0, 1), (2, .getfield 34, 3), (5, .invokevirtual 64, 3), (8, .ireturn, 1)]
theorem tX1_noise : dck cX1_noise tbX1_noise = true := by decide +kernel
def f_X1_noise (N : Nat) (M : Mem) (k : Nat) : Option Int32 := (f_X1_zealOf N M k (M k 1)).bind fun q5 => some q5
set_option maxHeartbeats 4000000 in
set_option maxRecDepth 100000 in
theorem c_X1_noise {X : Cx} {l : Launch} (hX : CxOk X) (hS : SC X) {N : Nat} {M : Mem} {k : Nat} (hk : ev k) {r : Int32} (h : f_X1_noise N M k = some r) : Ctr X l yX1_noise cX1_noise 1 (some .int) 2 [.ref k] M (some (.int r)) M := by
  refine Ctr.ofG (L := [some (.ref k)]) hX (by decide) (Nat.le_of_ble_eq_true rfl) rfl (fun F hF hl hR => ?_)
  subst hl
  unfold f_X1_noise at h
  refine g_aload_n hF (dck_at tX1_noise 0 rfl) rfl ?_
  refine g_aload_n hF (dck_at tX1_noise 1 rfl) rfl ?_
  refine gf_X1_34 hF (ev_m hS hk) (ev_kd hk) (ev_ln hk) (dck_at tX1_noise 2 rfl) ?_
  obtain ⟨q5, e5, h⟩ := bd h
  refine g_callV hF (as := [.int (M k 1)]) (k := k) rfl (by decide) wm_X1_64 wi_X1_zealOf we_X1_zealOf wc_X1_zealOf wn_X1 hyX1_zealOf (by decide) (ev_m hS hk) (ev_kd hk) (c_X1_zealOf hF.2.2.2.2.2.2.2.1 hS hk e5) (by decide) rfl rfl rfl rfl (dck_at tX1_noise 3 rfl) ?_
  show G X F 8 _ [.int q5] M
  cases h
  exact g_iret hF hR (dck_at tX1_noise 4 rfl)

def tbX1_whoIsBeside : List (Nat × Instr × Nat) := [(0, .iconst 1, 1), (1, .aload_n 0, 1), (2, .getfield 15, 3), (5, .getfield 30, 3), (8, .ishl, 1), (9, .iconst 1, 1), (10, .isub, 1), (11, .istore_n 2, 1), (12, .iconst 1, 1), (13, .iload_n 1, 1), (14, .ishl, 1), (15, .istore_n 3, 1), (16, .iload_n 3, 1), (17, .iconst 1, 1), (18, .ishr, 1), (19, .iload_n 3, 1), (20, .iconst 1, 1), (21, .ishl, 1), (22, .ior, 1), (23, .iload_n 2, 1), (24, .iand, 1), (25, .ireturn, 1)]
theorem tX1_whoIsBeside : dck cX1_whoIsBeside tbX1_whoIsBeside = true := by decide +kernel
def f_X1_whoIsBeside (N : Nat) (M : Mem) (k : Nat) (x1 : Int32) : Option Int32 := some (((((1 : Int32) <<< (x1 &&& 31)) >>> ((1 : Int32) &&& 31)) ||| (((1 : Int32) <<< (x1 &&& 31)) <<< ((1 : Int32) &&& 31))) &&& (((1 : Int32) <<< ((M 1 7) &&& 31)) - (1 : Int32)))
set_option maxHeartbeats 4000000 in
set_option maxRecDepth 100000 in
theorem c_X1_whoIsBeside {X : Cx} {l : Launch} (hX : CxOk X) (hS : SC X) {N : Nat} {M : Mem} {k : Nat} {x1 : Int32} (hk : ev k) {r : Int32} (h : f_X1_whoIsBeside N M k x1 = some r) : Ctr X l yX1_whoIsBeside cX1_whoIsBeside 4 (some .int) 1 [.ref k, .int x1] M (some (.int r)) M := by
  refine Ctr.ofG (L := [some (.ref k), some (.int x1), none, none]) hX (by decide) (Nat.le_of_ble_eq_true rfl) rfl (fun F hF hl hR => ?_)
  subst hl
  unfold f_X1_whoIsBeside at h
  refine g_iconst (v := 1) hF (dck_at tX1_whoIsBeside 0 rfl) (by decide) ?_
  refine g_aload_n hF (dck_at tX1_whoIsBeside 1 rfl) rfl ?_
  refine gf_X1_15 hF (ev_m hS hk) (ev_kd hk) (ev_ln hk) (dck_at tX1_whoIsBeside 2 rfl) ?_
  refine gf_X1_30 hF (hS 1 (by decide)) kdc_1 lnc_1 (dck_at tX1_whoIsBeside 3 rfl) ?_
  refine g_ishl hF (dck_at tX1_whoIsBeside 4 rfl) ?_
  refine g_iconst (v := 1) hF (dck_at tX1_whoIsBeside 5 rfl) (by decide) ?_
  show G X F 10 _ _ _
  refine g_isub hF (dck_at tX1_whoIsBeside 6 rfl) ?_
  refine g_istore_n (L' := [some (.ref k), some (.int x1), some (.int (((1 : Int32) <<< ((M 1 7) &&& 31)) - (1 : Int32))), none]) hF (dck_at tX1_whoIsBeside 7 rfl) (Nat.le_of_ble_eq_true rfl) rfl ?_
  refine g_iconst (v := 1) hF (dck_at tX1_whoIsBeside 8 rfl) (by decide) ?_
  refine g_iload_n hF (dck_at tX1_whoIsBeside 9 rfl) rfl ?_
  refine g_ishl hF (dck_at tX1_whoIsBeside 10 rfl) ?_
  refine g_istore_n (L' := [some (.ref k), some (.int x1), some (.int (((1 : Int32) <<< ((M 1 7) &&& 31)) - (1 : Int32))), some (.int ((1 : Int32) <<< (x1 &&& 31)))]) hF (dck_at tX1_whoIsBeside 11 rfl) (Nat.le_of_ble_eq_true rfl) rfl ?_
  refine g_iload_n hF (dck_at tX1_whoIsBeside 12 rfl) rfl ?_
  show G X F 17 _ _ _
  refine g_iconst (v := 1) hF (dck_at tX1_whoIsBeside 13 rfl) (by decide) ?_
  refine g_ishr hF (dck_at tX1_whoIsBeside 14 rfl) ?_
  refine g_iload_n hF (dck_at tX1_whoIsBeside 15 rfl) rfl ?_
  refine g_iconst (v := 1) hF (dck_at tX1_whoIsBeside 16 rfl) (by decide) ?_
  refine g_ishl hF (dck_at tX1_whoIsBeside 17 rfl) ?_
  refine g_ior hF (dck_at tX1_whoIsBeside 18 rfl) ?_
  refine g_iload_n hF (dck_at tX1_whoIsBeside 19 rfl) rfl ?_
  show G X F 24 _ _ _
  refine g_iand hF (dck_at tX1_whoIsBeside 20 rfl) ?_
  cases h
  exact g_iret hF hR (dck_at tX1_whoIsBeside 21 rfl)

def tbX1_lessByWait : List (Nat × Instr × Nat) := [(0, .iload_n 2, 1), (1, .iload_n 1, 1), (2, .ishr, 1), (3, .iconst 1, 1), (4, .iand, 1), (5, .ifCond .ne 5, 3), (8, .iconst 0, 1), (9, .ireturn, 1), (10, .aload_n 0, 1), (11, .iload_n 1, 1), (12, .invokevirtual 68, 3), (15, .istore_n 3, 1), (16, .aload_n 0, 1), (17, .getfield 15, 3), (20, .getfield 71, 3), (23, .iload_n 1, 1), (24, .iaload, 1), (25, .tableswitch 63 1 3 #[51, 27, 38], 27), (52, .iconst 2, 1), (53, .aload_n 0, 1), (54, .getfield 9, 3), (57, .iload_n 1, 1), (58, .iaload, 1), (59, .invokestatic 74, 3), (62, .ireturn, 1), (63, .aload_n 0, 1), (64, .getfield 56, 3), (67, .ifCond .eq 7, 3), (70, .iconst 1, 1), (71, .goto 4, 3), (74, .iconst 0, 1), (75, .ireturn, 1), (76, .iload_n 3, 1), (77, .iload_n 2, 1), (78, .iand, 1), (79, .ifCond .eq 7, 3), (82, .iconst 0, 1), (83, .goto 4, 3), (86, .iconst 1, 1), (87, .ireturn, 1), (88, .iload_n 3, 1), (89, .ifCond .eq 15, 3), (92, .iload_n 3, 1), (93, .iload_n 2, 1), (94, .iconst (-1), 1), (95, .ixor, 1), (96, .iand, 1), (97, .ifCond .ne 7, 3), (100, .iconst 0, 1), (101, .goto 4, 3), (104, .iconst 1, 1), (105, .ireturn, 1)]
theorem tX1_lessByWait : dck cX1_lessByWait tbX1_lessByWait = true := by decide +kernel
def f_X1_lessByWait (N : Nat) (M : Mem) (k : Nat) (x1 : Int32) (x2 : Int32) : Option Int32 := (if ((x2 >>> (x1 &&& 31)) &&& (1 : Int32)) = 0 then some (0 : Int32) else (f_X1_whoIsBeside N M k x1).bind fun q12 => if inb x1 8 = true then (if (M 2 x1.toNatClampNeg) = 1 then (if (q12 &&& x2) = 0 then some (1 : Int32) else some (0 : Int32)) else (if (M 2 x1.toNatClampNeg) = 2 then if inb x1 8 = true then some (if (M (k + 1) x1.toNatClampNeg) < (2 : Int32) then M (k + 1) x1.toNatClampNeg else (2 : Int32)) else none else (if (M 2 x1.toNatClampNeg) = 3 then (if (M k 8) = 0 then some (0 : Int32) else some (1 : Int32)) else (if q12 = 0 then some (1 : Int32) else (if (q12 &&& (x2 ^^^ (-1 : Int32))) = 0 then some (0 : Int32) else some (1 : Int32)))))) else none)
set_option maxHeartbeats 4000000 in
set_option maxRecDepth 100000 in
theorem c_X1_lessByWait {X : Cx} {l : Launch} (hX : CxOk X) (hS : SC X) {N : Nat} {M : Mem} {k : Nat} {x1 : Int32} {x2 : Int32} (hk : ev k) {r : Int32} (h : f_X1_lessByWait N M k x1 x2 = some r) : Ctr X l yX1_lessByWait cX1_lessByWait 4 (some .int) 2 [.ref k, .int x1, .int x2] M (some (.int r)) M := by
  refine Ctr.ofG (L := [some (.ref k), some (.int x1), some (.int x2), none]) hX (by decide) (Nat.le_of_ble_eq_true rfl) rfl (fun F hF hl hR => ?_)
  subst hl
  unfold f_X1_lessByWait at h
  refine g_iload_n hF (dck_at tX1_lessByWait 0 rfl) rfl ?_
  refine g_iload_n hF (dck_at tX1_lessByWait 1 rfl) rfl ?_
  refine g_ishr hF (dck_at tX1_lessByWait 2 rfl) ?_
  refine g_iconst (v := 1) hF (dck_at tX1_lessByWait 3 rfl) (by decide) ?_
  refine g_iand hF (dck_at tX1_lessByWait 4 rfl) ?_
  refine g_if_ne hF 10 (dck_at tX1_lessByWait 5 rfl) (by decide) (fun hc5 => ?_) (fun hc5 => ?_)
  · replace h := ite_f hc5 h
    refine g_aload_n hF (dck_at tX1_lessByWait 8 rfl) rfl ?_
    refine g_iload_n hF (dck_at tX1_lessByWait 9 rfl) rfl ?_
    obtain ⟨q12, e12, h⟩ := bd h
    refine g_callV hF (as := [.int x1]) (k := k) rfl (by decide) wm_X1_68 wi_X1_whoIsBeside we_X1_whoIsBeside wc_X1_whoIsBeside wn_X1 hyX1_whoIsBeside (by decide) (ev_m hS hk) (ev_kd hk) (c_X1_whoIsBeside hF.2.2.2.2.2.2.2.1 hS hk e12) (by decide) rfl rfl rfl rfl (dck_at tX1_lessByWait 10 rfl) ?_
    show G X F 15 _ [.int q12] M
    refine g_istore_n (L' := [some (.ref k), some (.int x1), some (.int x2), some (.int q12)]) hF (dck_at tX1_lessByWait 11 rfl) (Nat.le_of_ble_eq_true rfl) rfl ?_
    refine g_aload_n hF (dck_at tX1_lessByWait 12 rfl) rfl ?_
    refine gf_X1_15 hF (ev_m hS hk) (ev_kd hk) (ev_ln hk) (dck_at tX1_lessByWait 13 rfl) ?_
    show G X F 20 _ _ _
    refine gf_X1_71 hF (hS 1 (by decide)) kdc_1 lnc_1 (t := 2) rfl (dck_at tX1_lessByWait 14 rfl) ?_
    refine g_iload_n hF (dck_at tX1_lessByWait 15 rfl) rfl ?_
    obtain ⟨hg24, h⟩ := gd h
    refine g_ia hF (hS 2 (by decide)) kdc_2 lnc_2 hg24 (dck_at tX1_lessByWait 16 rfl) ?_
    by_cases hc25_0 : (M 2 x1.toNatClampNeg) = 1
    · replace h := ite_t hc25_0 h
      refine g_swIn hF 76 1 hc25_0 (dck_at tX1_lessByWait 17 rfl) (by decide) (by decide) rfl (by decide) ?_
      refine g_iload_n hF (dck_at tX1_lessByWait 32 rfl) rfl ?_
      refine g_iload_n hF (dck_at tX1_lessByWait 33 rfl) rfl ?_
      refine g_iand hF (dck_at tX1_lessByWait 34 rfl) ?_
      refine g_if_eq hF 86 (dck_at tX1_lessByWait 35 rfl) (by decide) (fun hc79 => ?_) (fun hc79 => ?_)
      · replace h := ite_t hc79 h
        refine g_iconst (v := 1) hF (dck_at tX1_lessByWait 38 rfl) (by decide) ?_
        cases h
        exact g_iret hF hR (dck_at tX1_lessByWait 39 rfl)
      · replace h := ite_f hc79 h
        refine g_iconst (v := 0) hF (dck_at tX1_lessByWait 36 rfl) (by decide) ?_
        refine g_goto hF 87 (dck_at tX1_lessByWait 37 rfl) (by decide) ?_
        cases h
        exact g_iret hF hR (dck_at tX1_lessByWait 39 rfl)
    replace h := ite_f hc25_0 h
    by_cases hc25_1 : (M 2 x1.toNatClampNeg) = 2
    · replace h := ite_t hc25_1 h
      refine g_swIn hF 52 2 hc25_1 (dck_at tX1_lessByWait 17 rfl) (by decide) (by decide) rfl (by decide) ?_
      refine g_iconst (v := 2) hF (dck_at tX1_lessByWait 18 rfl) (by decide) ?_
      refine g_aload_n hF (dck_at tX1_lessByWait 19 rfl) rfl ?_
      refine gf_X1_9 hF (ev_m hS hk) (ev_kd hk) (ev_ln hk) (t := (k + 1)) rfl (dck_at tX1_lessByWait 20 rfl) ?_
      refine g_iload_n hF (dck_at tX1_lessByWait 21 rfl) rfl ?_
      obtain ⟨hg58, h⟩ := gd h
      refine g_ia hF (ev_mz hS hk) (ev_kz hk) (ev_lz hk) hg58 (dck_at tX1_lessByWait 22 rfl) ?_
      refine g_mmin hF wm_X1_74 wt_min wn_J9 wc_min (by decide) rfl rfl (dck_at tX1_lessByWait 23 rfl) ?_
      show G X F 62 _ _ _
      cases h
      exact g_iret hF hR (dck_at tX1_lessByWait 24 rfl)
    replace h := ite_f hc25_1 h
    by_cases hc25_2 : (M 2 x1.toNatClampNeg) = 3
    · replace h := ite_t hc25_2 h
      refine g_swIn hF 63 3 hc25_2 (dck_at tX1_lessByWait 17 rfl) (by decide) (by decide) rfl (by decide) ?_
      refine g_aload_n hF (dck_at tX1_lessByWait 25 rfl) rfl ?_
      refine gf_X1_56 hF (ev_m hS hk) (ev_kd hk) (ev_ln hk) (dck_at tX1_lessByWait 26 rfl) ?_
      refine g_if_eq hF 74 (dck_at tX1_lessByWait 27 rfl) (by decide) (fun hc67 => ?_) (fun hc67 => ?_)
      · replace h := ite_t hc67 h
        refine g_iconst (v := 0) hF (dck_at tX1_lessByWait 30 rfl) (by decide) ?_
        cases h
        exact g_iret hF hR (dck_at tX1_lessByWait 31 rfl)
      · replace h := ite_f hc67 h
        refine g_iconst (v := 1) hF (dck_at tX1_lessByWait 28 rfl) (by decide) ?_
        refine g_goto hF 75 (dck_at tX1_lessByWait 29 rfl) (by decide) ?_
        cases h
        exact g_iret hF hR (dck_at tX1_lessByWait 31 rfl)
    replace h := ite_f hc25_2 h
    refine g_swOut hF 88 (dck_at tX1_lessByWait 17 rfl) (by have q0 := lv_neT hc25_0 (a := 1) rfl; have q1 := lv_neT hc25_1 (a := 2) rfl; have q2 := lv_neT hc25_2 (a := 3) rfl; omega) (by decide) ?_
    refine g_iload_n hF (dck_at tX1_lessByWait 40 rfl) rfl ?_
    refine g_if_eq hF 104 (dck_at tX1_lessByWait 41 rfl) (by decide) (fun hc89 => ?_) (fun hc89 => ?_)
    · replace h := ite_t hc89 h
      refine g_iconst (v := 1) hF (dck_at tX1_lessByWait 50 rfl) (by decide) ?_
      cases h
      exact g_iret hF hR (dck_at tX1_lessByWait 51 rfl)
    · replace h := ite_f hc89 h
      refine g_iload_n hF (dck_at tX1_lessByWait 42 rfl) rfl ?_
      refine g_iload_n hF (dck_at tX1_lessByWait 43 rfl) rfl ?_
      refine g_iconst (v := -1) hF (dck_at tX1_lessByWait 44 rfl) (by decide) ?_
      refine g_ixor hF (dck_at tX1_lessByWait 45 rfl) ?_
      refine g_iand hF (dck_at tX1_lessByWait 46 rfl) ?_
      refine g_if_ne hF 104 (dck_at tX1_lessByWait 47 rfl) (by decide) (fun hc97 => ?_) (fun hc97 => ?_)
      · replace h := ite_f hc97 h
        refine g_iconst (v := 1) hF (dck_at tX1_lessByWait 50 rfl) (by decide) ?_
        cases h
        exact g_iret hF hR (dck_at tX1_lessByWait 51 rfl)
      · replace h := ite_t hc97 h
        refine g_iconst (v := 0) hF (dck_at tX1_lessByWait 48 rfl) (by decide) ?_
        refine g_goto hF 105 (dck_at tX1_lessByWait 49 rfl) (by decide) ?_
        cases h
        exact g_iret hF hR (dck_at tX1_lessByWait 51 rfl)
  · replace h := ite_t hc5 h
    refine g_iconst (v := 0) hF (dck_at tX1_lessByWait 6 rfl) (by decide) ?_
    cases h
    exact g_iret hF hR (dck_at tX1_lessByWait 7 rfl)

def tbX5_hasEncore : List (Nat × Instr × Nat) := [(0, .iload_n 1, 1), (1, .ifCond .lt 15, 3), (4, .iload_n 1, 1), (5, .aload_n 0, 1), (6, .getfield 40, 3), (9, .if_icmp .ge 7, 3), (12, .iconst 1, 1), (13, .goto 4, 3), (16, .iconst 0, 1), (17, .ireturn, 1)]
theorem tX5_hasEncore : dck cX5_hasEncore tbX5_hasEncore = true := by decide +kernel
def f_X5_hasEncore (N : Nat) (M : Mem) (k : Nat) (x1 : Int32) : Option Int32 := (if x1 < 0 then some (0 : Int32) else (if (M k 8) ≤ x1 then some (0 : Int32) else some (1 : Int32)))
set_option maxHeartbeats 4000000 in
set_option maxRecDepth 100000 in
theorem c_X5_hasEncore {X : Cx} {l : Launch} (hX : CxOk X) (hS : SC X) {N : Nat} {M : Mem} {k : Nat} {x1 : Int32} (hk : td k) {r : Int32} (h : f_X5_hasEncore N M k x1 = some r) : Ctr X l yX5_hasEncore cX5_hasEncore 2 (some .boolean) 1 [.ref k, .int x1] M (some (.int r)) M := by
  refine Ctr.ofG (L := [some (.ref k), some (.int x1)]) hX (by decide) (Nat.le_of_ble_eq_true rfl) rfl (fun F hF hl hR => ?_)
  subst hl
  unfold f_X5_hasEncore at h
  refine g_iload_n hF (dck_at tX5_hasEncore 0 rfl) rfl ?_
  refine g_if_lt hF 16 (dck_at tX5_hasEncore 1 rfl) (by decide) (fun hc1 => ?_) (fun hc1 => ?_)
  · replace h := ite_t hc1 h
    refine g_iconst (v := 0) hF (dck_at tX5_hasEncore 8 rfl) (by decide) ?_
    cases h
    exact g_zret hF hR rfl (dck_at tX5_hasEncore 9 rfl)
  · replace h := ite_f hc1 h
    refine g_iload_n hF (dck_at tX5_hasEncore 2 rfl) rfl ?_
    refine g_aload_n hF (dck_at tX5_hasEncore 3 rfl) rfl ?_
    refine gf_X5_40 hF (td_m hS hk) (td_kd hk) (td_ln hk) (dck_at tX5_hasEncore 4 rfl) ?_
    refine g_icmp_ge hF 16 (dck_at tX5_hasEncore 5 rfl) (by decide) (fun hc9 => ?_) (fun hc9 => ?_)
    · replace h := ite_t hc9 h
      refine g_iconst (v := 0) hF (dck_at tX5_hasEncore 8 rfl) (by decide) ?_
      cases h
      exact g_zret hF hR rfl (dck_at tX5_hasEncore 9 rfl)
    · replace h := ite_f hc9 h
      refine g_iconst (v := 1) hF (dck_at tX5_hasEncore 6 rfl) (by decide) ?_
      refine g_goto hF 17 (dck_at tX5_hasEncore 7 rfl) (by decide) ?_
      cases h
      exact g_zret hF hR rfl (dck_at tX5_hasEncore 9 rfl)

def tbX1_isReady : List (Nat × Instr × Nat) := [(0, .aload_n 0, 1), (1, .getfield 15, 3), (4, .iload_n 1, 1), (5, .invokevirtual 96, 3), (8, .ifCond .eq 31, 3), (11, .aload_n 0, 1), (12, .iload_n 1, 1), (13, .invokevirtual 103, 3), (16, .ifCond .ne 23, 3), (19, .aload_n 0, 1), (20, .getfield 15, 3), (23, .getfield 106, 3), (26, .iload_n 1, 1), (27, .iaload, 1), (28, .aload_n 0, 1), (29, .getfield 43, 3), (32, .if_icmp .gt 7, 3), (35, .iconst 1, 1), (36, .goto 4, 3), (39, .iconst 0, 1), (40, .ireturn, 1)]
theorem tX1_isReady : dck cX1_isReady tbX1_isReady = true := by decide +kernel
def f_X1_isReady (N : Nat) (M : Mem) (k : Nat) (x1 : Int32) : Option Int32 := (f_X5_hasEncore N M 1 x1).bind fun q5 => (if q5 = 0 then some (0 : Int32) else (f_X1_wasPlayed N M k x1).bind fun q13 => (if q13 = 0 then if inb x1 4 = true then (if (M k 3) < (M 7 x1.toNatClampNeg) then some (0 : Int32) else some (1 : Int32)) else none else some (0 : Int32)))
set_option maxHeartbeats 4000000 in
set_option maxRecDepth 100000 in
theorem c_X1_isReady {X : Cx} {l : Launch} (hX : CxOk X) (hS : SC X) {N : Nat} {M : Mem} {k : Nat} {x1 : Int32} (hk : ev k) {r : Int32} (h : f_X1_isReady N M k x1 = some r) : Ctr X l yX1_isReady cX1_isReady 2 (some .boolean) 2 [.ref k, .int x1] M (some (.int r)) M := by
  refine Ctr.ofG (L := [some (.ref k), some (.int x1)]) hX (by decide) (Nat.le_of_ble_eq_true rfl) rfl (fun F hF hl hR => ?_)
  subst hl
  unfold f_X1_isReady at h
  refine g_aload_n hF (dck_at tX1_isReady 0 rfl) rfl ?_
  refine gf_X1_15 hF (ev_m hS hk) (ev_kd hk) (ev_ln hk) (dck_at tX1_isReady 1 rfl) ?_
  refine g_iload_n hF (dck_at tX1_isReady 2 rfl) rfl ?_
  obtain ⟨q5, e5, h⟩ := bd h
  refine g_callV hF (as := [.int x1]) (k := 1) rfl (by decide) wm_X1_96 wi_X5_hasEncore we_X5_hasEncore wc_X5_hasEncore wn_X5 hyX5_hasEncore (by decide) (hS 1 (by decide)) kdc_1 (c_X5_hasEncore hF.2.2.2.2.2.2.2.1 hS tdc_1 e5) (by decide) rfl rfl rfl rfl (dck_at tX1_isReady 3 rfl) ?_
  show G X F 8 _ [.int q5] M
  refine g_if_eq hF 39 (dck_at tX1_isReady 4 rfl) (by decide) (fun hc8 => ?_) (fun hc8 => ?_)
  · replace h := ite_t hc8 h
    refine g_iconst (v := 0) hF (dck_at tX1_isReady 19 rfl) (by decide) ?_
    cases h
    exact g_zret hF hR rfl (dck_at tX1_isReady 20 rfl)
  · replace h := ite_f hc8 h
    refine g_aload_n hF (dck_at tX1_isReady 5 rfl) rfl ?_
    refine g_iload_n hF (dck_at tX1_isReady 6 rfl) rfl ?_
    obtain ⟨q13, e13, h⟩ := bd h
    refine g_callV hF (as := [.int x1]) (k := k) rfl (by decide) wm_X1_103 wi_X1_wasPlayed we_X1_wasPlayed wc_X1_wasPlayed wn_X1 hyX1_wasPlayed (by decide) (ev_m hS hk) (ev_kd hk) (c_X1_wasPlayed hF.2.2.2.2.2.2.2.1 hS hk e13) (by decide) rfl rfl rfl rfl (dck_at tX1_isReady 7 rfl) ?_
    show G X F 16 _ [.int q13] M
    refine g_if_ne hF 39 (dck_at tX1_isReady 8 rfl) (by decide) (fun hc16 => ?_) (fun hc16 => ?_)
    · replace h := ite_f hc16 h
      refine g_iconst (v := 0) hF (dck_at tX1_isReady 19 rfl) (by decide) ?_
      cases h
      exact g_zret hF hR rfl (dck_at tX1_isReady 20 rfl)
    · replace h := ite_t hc16 h
      refine g_aload_n hF (dck_at tX1_isReady 9 rfl) rfl ?_
      refine gf_X1_15 hF (ev_m hS hk) (ev_kd hk) (ev_ln hk) (dck_at tX1_isReady 10 rfl) ?_
      refine gf_X1_106 hF (hS 1 (by decide)) kdc_1 lnc_1 (t := 7) rfl (dck_at tX1_isReady 11 rfl) ?_
      refine g_iload_n hF (dck_at tX1_isReady 12 rfl) rfl ?_
      obtain ⟨hg27, h⟩ := gd h
      refine g_ia hF (hS 7 (by decide)) kdc_7 lnc_7 hg27 (dck_at tX1_isReady 13 rfl) ?_
      refine g_aload_n hF (dck_at tX1_isReady 14 rfl) rfl ?_
      show G X F 29 _ _ _
      refine gf_X1_43 hF (ev_m hS hk) (ev_kd hk) (ev_ln hk) (dck_at tX1_isReady 15 rfl) ?_
      refine g_icmp_gt hF 39 (dck_at tX1_isReady 16 rfl) (by decide) (fun hc32 => ?_) (fun hc32 => ?_)
      · replace h := ite_t hc32 h
        refine g_iconst (v := 0) hF (dck_at tX1_isReady 19 rfl) (by decide) ?_
        cases h
        exact g_zret hF hR rfl (dck_at tX1_isReady 20 rfl)
      · replace h := ite_f hc32 h
        refine g_iconst (v := 1) hF (dck_at tX1_isReady 17 rfl) (by decide) ?_
        refine g_goto hF 40 (dck_at tX1_isReady 18 rfl) (by decide) ?_
        cases h
        exact g_zret hF hR rfl (dck_at tX1_isReady 20 rfl)

def tbX1_isPossible : List (Nat × Instr × Nat) := [(0, .iload_n 1, 1), (1, .ifCond .ne 5, 3), (4, .iconst 1, 1), (5, .ireturn, 1), (6, .iload_n 1, 1), (7, .iconst 1, 1), (8, .if_icmp .eq 13, 3), (11, .aload_n 0, 1), (12, .iload_n 1, 1), (13, .iconst 2, 1), (14, .isub, 1), (15, .invokevirtual 80, 3), (18, .ifCond .eq 14, 3), (21, .aload_n 0, 1), (22, .invokevirtual 83, 3), (25, .ifCond .le 7, 3), (28, .iconst 1, 1), (29, .goto 4, 3), (32, .iconst 0, 1), (33, .ireturn, 1)]
theorem tX1_isPossible : dck cX1_isPossible tbX1_isPossible = true := by decide +kernel
def f_X1_isPossible (N : Nat) (M : Mem) (k : Nat) (x1 : Int32) : Option Int32 := (if x1 = 0 then some (1 : Int32) else (if x1 = (1 : Int32) then (f_X1_noise N M k).bind fun q22 => (if q22 ≤ 0 then some (0 : Int32) else some (1 : Int32)) else (f_X1_isReady N M k (x1 - (2 : Int32))).bind fun q15 => (if q15 = 0 then some (0 : Int32) else (f_X1_noise N M k).bind fun q22 => (if q22 ≤ 0 then some (0 : Int32) else some (1 : Int32)))))
set_option maxHeartbeats 4000000 in
set_option maxRecDepth 100000 in
theorem c_X1_isPossible {X : Cx} {l : Launch} (hX : CxOk X) (hS : SC X) {N : Nat} {M : Mem} {k : Nat} {x1 : Int32} (hk : ev k) {r : Int32} (h : f_X1_isPossible N M k x1 = some r) : Ctr X l yX1_isPossible cX1_isPossible 2 (some .boolean) 3 [.ref k, .int x1] M (some (.int r)) M := by
  refine Ctr.ofG (L := [some (.ref k), some (.int x1)]) hX (by decide) (Nat.le_of_ble_eq_true rfl) rfl (fun F hF hl hR => ?_)
  subst hl
  unfold f_X1_isPossible at h
  refine g_iload_n hF (dck_at tX1_isPossible 0 rfl) rfl ?_
  refine g_if_ne hF 6 (dck_at tX1_isPossible 1 rfl) (by decide) (fun hc1 => ?_) (fun hc1 => ?_)
  · replace h := ite_f hc1 h
    refine g_iload_n hF (dck_at tX1_isPossible 4 rfl) rfl ?_
    refine g_iconst (v := 1) hF (dck_at tX1_isPossible 5 rfl) (by decide) ?_
    refine g_icmp_eq hF 21 (dck_at tX1_isPossible 6 rfl) (by decide) (fun hc8 => ?_) (fun hc8 => ?_)
    · replace h := ite_t hc8 h
      refine g_aload_n hF (dck_at tX1_isPossible 13 rfl) rfl ?_
      obtain ⟨q22, e22, h⟩ := bd h
      refine g_callV hF (as := []) (k := k) rfl (by decide) wm_X1_83 wi_X1_noise we_X1_noise wc_X1_noise wn_X1 hyX1_noise (by decide) (ev_m hS hk) (ev_kd hk) (c_X1_noise hF.2.2.2.2.2.2.2.1 hS hk e22) (by decide) rfl rfl rfl rfl (dck_at tX1_isPossible 14 rfl) ?_
      show G X F 25 _ [.int q22] M
      refine g_if_le hF 32 (dck_at tX1_isPossible 15 rfl) (by decide) (fun hc25 => ?_) (fun hc25 => ?_)
      · replace h := ite_t hc25 h
        refine g_iconst (v := 0) hF (dck_at tX1_isPossible 18 rfl) (by decide) ?_
        cases h
        exact g_zret hF hR rfl (dck_at tX1_isPossible 19 rfl)
      · replace h := ite_f hc25 h
        refine g_iconst (v := 1) hF (dck_at tX1_isPossible 16 rfl) (by decide) ?_
        refine g_goto hF 33 (dck_at tX1_isPossible 17 rfl) (by decide) ?_
        cases h
        exact g_zret hF hR rfl (dck_at tX1_isPossible 19 rfl)
    · replace h := ite_f hc8 h
      refine g_aload_n hF (dck_at tX1_isPossible 7 rfl) rfl ?_
      refine g_iload_n hF (dck_at tX1_isPossible 8 rfl) rfl ?_
      refine g_iconst (v := 2) hF (dck_at tX1_isPossible 9 rfl) (by decide) ?_
      refine g_isub hF (dck_at tX1_isPossible 10 rfl) ?_
      obtain ⟨q15, e15, h⟩ := bd h
      refine g_callV hF (as := [.int (x1 - (2 : Int32))]) (k := k) rfl (by decide) wm_X1_80 wi_X1_isReady we_X1_isReady wc_X1_isReady wn_X1 hyX1_isReady (by decide) (ev_m hS hk) (ev_kd hk) (c_X1_isReady hF.2.2.2.2.2.2.2.1 hS hk e15) (by decide) rfl rfl rfl rfl (dck_at tX1_isPossible 11 rfl) ?_
      show G X F 18 _ [.int q15] M
      refine g_if_eq hF 32 (dck_at tX1_isPossible 12 rfl) (by decide) (fun hc18 => ?_) (fun hc18 => ?_)
      · replace h := ite_t hc18 h
        refine g_iconst (v := 0) hF (dck_at tX1_isPossible 18 rfl) (by decide) ?_
        cases h
        exact g_zret hF hR rfl (dck_at tX1_isPossible 19 rfl)
      · replace h := ite_f hc18 h
        refine g_aload_n hF (dck_at tX1_isPossible 13 rfl) rfl ?_
        obtain ⟨q22, e22, h⟩ := bd h
        refine g_callV hF (as := []) (k := k) rfl (by decide) wm_X1_83 wi_X1_noise we_X1_noise wc_X1_noise wn_X1 hyX1_noise (by decide) (ev_m hS hk) (ev_kd hk) (c_X1_noise hF.2.2.2.2.2.2.2.1 hS hk e22) (by decide) rfl rfl rfl rfl (dck_at tX1_isPossible 14 rfl) ?_
        show G X F 25 _ [.int q22] M
        refine g_if_le hF 32 (dck_at tX1_isPossible 15 rfl) (by decide) (fun hc25 => ?_) (fun hc25 => ?_)
        · replace h := ite_t hc25 h
          refine g_iconst (v := 0) hF (dck_at tX1_isPossible 18 rfl) (by decide) ?_
          cases h
          exact g_zret hF hR rfl (dck_at tX1_isPossible 19 rfl)
        · replace h := ite_f hc25 h
          refine g_iconst (v := 1) hF (dck_at tX1_isPossible 16 rfl) (by decide) ?_
          refine g_goto hF 33 (dck_at tX1_isPossible 17 rfl) (by decide) ?_
          cases h
          exact g_zret hF hR rfl (dck_at tX1_isPossible 19 rfl)
  · replace h := ite_t hc1 h
    refine g_iconst (v := 1) hF (dck_at tX1_isPossible 2 rfl) (by decide) ?_
    cases h
    exact g_zret hF hR rfl (dck_at tX1_isPossible 3 rfl)

def tbX1_moreByBow : List (Nat × Instr × Nat) := [(0, .aload_n 0, 1), (1, .getfield 56, 3), (4, .ifCond .eq 7, 3), (7, .iconst 0, 1), (8, .goto 13, 3), (11, .iconst 0, 1), (12, .iconst 4, 1), (13, .aload_n 0, 1), (14, .getfield 47, 3), (17, .isub, 1), (18, .invokestatic 87, 3), (21, .ireturn, 1)]
theorem tX1_moreByBow : dck cX1_moreByBow tbX1_moreByBow = true := by decide +kernel
def f_X1_moreByBow (N : Nat) (M : Mem) (k : Nat) : Option Int32 := (if (M k 8) = 0 then some (if (0 : Int32) < ((4 : Int32) - (M k 5)) then (4 : Int32) - (M k 5) else (0 : Int32)) else some (0 : Int32))
set_option maxHeartbeats 4000000 in
set_option maxRecDepth 100000 in
theorem c_X1_moreByBow {X : Cx} {l : Launch} (hX : CxOk X) (hS : SC X) {N : Nat} {M : Mem} {k : Nat} (hk : ev k) {r : Int32} (h : f_X1_moreByBow N M k = some r) : Ctr X l yX1_moreByBow cX1_moreByBow 1 (some .int) 2 [.ref k] M (some (.int r)) M := by
  refine Ctr.ofG (L := [some (.ref k)]) hX (by decide) (Nat.le_of_ble_eq_true rfl) rfl (fun F hF hl hR => ?_)
  subst hl
  unfold f_X1_moreByBow at h
  refine g_aload_n hF (dck_at tX1_moreByBow 0 rfl) rfl ?_
  refine gf_X1_56 hF (ev_m hS hk) (ev_kd hk) (ev_ln hk) (dck_at tX1_moreByBow 1 rfl) ?_
  refine g_if_eq hF 11 (dck_at tX1_moreByBow 2 rfl) (by decide) (fun hc4 => ?_) (fun hc4 => ?_)
  · replace h := ite_t hc4 h
    refine g_iconst (v := 0) hF (dck_at tX1_moreByBow 5 rfl) (by decide) ?_
    refine g_iconst (v := 4) hF (dck_at tX1_moreByBow 6 rfl) (by decide) ?_
    refine g_aload_n hF (dck_at tX1_moreByBow 7 rfl) rfl ?_
    refine gf_X1_47 hF (ev_m hS hk) (ev_kd hk) (ev_ln hk) (dck_at tX1_moreByBow 8 rfl) ?_
    refine g_isub hF (dck_at tX1_moreByBow 9 rfl) ?_
    refine g_mmax hF wm_X1_87 wt_max wn_J9 wc_max (by decide) rfl rfl (dck_at tX1_moreByBow 10 rfl) ?_
    show G X F 21 _ _ _
    cases h
    exact g_iret hF hR (dck_at tX1_moreByBow 11 rfl)
  · replace h := ite_f hc4 h
    refine g_iconst (v := 0) hF (dck_at tX1_moreByBow 3 rfl) (by decide) ?_
    refine g_goto hF 21 (dck_at tX1_moreByBow 4 rfl) (by decide) ?_
    cases h
    exact g_iret hF hR (dck_at tX1_moreByBow 11 rfl)

def tbX1_letPass : List (Nat × Instr × Nat) := [(0, .iconst 0, 1), (1, .istore_n 2, 1), (2, .iload_n 2, 1), (3, .iload_n 1, 1), (4, .if_icmp .ge 61, 3), (7, .aload_n 0, 1), (8, .dup, 1), (9, .getfield 50, 3), (12, .aload_n 0, 1), (13, .getfield 37, 3), (16, .aload_n 0, 1), (17, .getfield 15, 3), (20, .getfield 142, 3), (23, .if_icmp .lt 15, 3), (26, .iconst 2, 1), (27, .aload_n 0, 1), (28, .getfield 15, 3), (31, .getfield 145, 3), (34, .imul, 1), (35, .goto 10, 3), (38, .aload_n 0, 1), (39, .getfield 15, 3), (42, .getfield 145, 3), (45, .iadd, 1), (46, .putfield 50, 3), (49, .aload_n 0, 1), (50, .dup, 1), (51, .getfield 37, 3), (54, .iconst 1, 1), (55, .iadd, 1), (56, .putfield 37, 3), (59, .iinc 2 1, 3), (62, .goto (-60), 3), (65, .iconst 0, 1), (66, .istore_n 2, 1), (67, .iload_n 2, 1), (68, .aload_n 0, 1), (69, .getfield 15, 3), (72, .getfield 30, 3), (75, .if_icmp .ge 39, 3), (78, .aload_n 0, 1), (79, .getfield 15, 3), (82, .getfield 148, 3), (85, .iload_n 2, 1), (86, .iaload, 1), (87, .aload_n 0, 1), (88, .getfield 37, 3), (91, .if_icmp .gt 17, 3), (94, .aload_n 0, 1), (95, .dup, 1), (96, .getfield 34, 3), (99, .iconst 1, 1), (100, .iload_n 2, 1), (101, .ishl, 1), (102, .iconst (-1), 1), (103, .ixor, 1), (104, .iand, 1), (105, .putfield 34, 3), (108, .iinc 2 1, 3), (111, .goto (-44), 3), (114, .return_, 1)]
theorem tX1_letPass : dck cX1_letPass tbX1_letPass = true := by decide +kernel
def f_X1_letPass_L2 (N : Nat) (k : Nat) (x1 : Int32) : Nat → Int32 → Mem → Option (Int32 × Mem)
  | 0, _, _ => none
  | n + 1, x2, M => (if x1 ≤ x2 then some (x2, M) else f_X1_letPass_L2 N k x1 n (x2 + (1 : Int32)) (up2 (up2 M k 6 ((M k 6) + (if (M k 2) < (M 1 10) then (M 1 11) else ((2 : Int32) * (M 1 11))))) k 2 (((up2 M k 6 ((M k 6) + (if (M k 2) < (M 1 10) then (M 1 11) else ((2 : Int32) * (M 1 11))))) k 2) + (1 : Int32))))
def f_X1_letPass_L67 (N : Nat) (k : Nat) : Nat → Int32 → Mem → Option (Int32 × Mem)
  | 0, _, _ => none
  | n + 1, x2, M => (if (M 1 7) ≤ x2 then some (x2, M) else if inb x2 8 = true then (if (M k 2) < (M 4 x2.toNatClampNeg) then f_X1_letPass_L67 N k n (x2 + (1 : Int32)) M else f_X1_letPass_L67 N k n (x2 + (1 : Int32)) (up2 M k 1 ((M k 1) &&& (((1 : Int32) <<< (x2 &&& 31)) ^^^ (-1 : Int32))))) else none)
def f_X1_letPass (N : Nat) (M : Mem) (k : Nat) (x1 : Int32) : Option Mem := (f_X1_letPass_L2 N k x1 N (0 : Int32) M).bind fun o2 => (f_X1_letPass_L67 N k N (0 : Int32) o2.2).bind fun o67 => some o67.2
set_option maxHeartbeats 4000000 in
set_option maxRecDepth 100000 in
theorem g_X1_letPass_L2 {X : Cx} {F : Fx} (hS : SC X) (hF : FK X F cX1_letPass RX1 3 1) (N : Nat) (k : Nat) (x1 : Int32) (hk : ev k) : ∀ (n : Nat) (x2 : Int32) (M : Mem) (o : Int32 × Mem), f_X1_letPass_L2 N k x1 n x2 M = some o → G X F 65 [some (.ref k), none, none] [] o.2 → G X F 2 [some (.ref k), some (.int x1), some (.int x2)] [] M := by
  intro n
  induction n with
  | zero =>
    intro x2 M o h K
    cases h
  | succ n ih =>
    intro x2 M o h K
    rw [f_X1_letPass_L2] at h
    refine g_iload_n hF (dck_at tX1_letPass 2 rfl) rfl ?_
    refine g_iload_n hF (dck_at tX1_letPass 3 rfl) rfl ?_
    refine g_icmp_ge hF 65 (dck_at tX1_letPass 4 rfl) (by decide) (fun hc4 => ?_) (fun hc4 => ?_)
    · replace h := ite_t hc4 h
      refine g_msk [true, false, false] (L' := [some (.ref k), none, none]) rfl ?_
      cases h
      exact K
    · replace h := ite_f hc4 h
      refine g_aload_n hF (dck_at tX1_letPass 5 rfl) rfl ?_
      refine g_dup hF (dck_at tX1_letPass 6 rfl) rfl ?_
      refine gf_X1_50 hF (ev_m hS hk) (ev_kd hk) (ev_ln hk) (dck_at tX1_letPass 7 rfl) ?_
      refine g_aload_n hF (dck_at tX1_letPass 8 rfl) rfl ?_
      refine gf_X1_37 hF (ev_m hS hk) (ev_kd hk) (ev_ln hk) (dck_at tX1_letPass 9 rfl) ?_
      refine g_aload_n hF (dck_at tX1_letPass 10 rfl) rfl ?_
      show G X F 17 _ _ _
      refine gf_X1_15 hF (ev_m hS hk) (ev_kd hk) (ev_ln hk) (dck_at tX1_letPass 11 rfl) ?_
      refine gf_X1_142 hF (hS 1 (by decide)) kdc_1 lnc_1 (dck_at tX1_letPass 12 rfl) ?_
      have K45 : G X F 45 [some (.ref k), some (.int x1), some (.int x2)] [.int (if (M k 2) < (M 1 10) then (M 1 11) else ((2 : Int32) * (M 1 11))), .int (M k 6), .ref k] M := by
        refine g_iadd hF (dck_at tX1_letPass 23 rfl) ?_
        refine pf_X1_50 hF (ev_m hS hk) (ev_kd hk) (ev_ln hk) (dck_at tX1_letPass 24 rfl) ?_
        refine g_aload_n hF (dck_at tX1_letPass 25 rfl) rfl ?_
        refine g_dup hF (dck_at tX1_letPass 26 rfl) rfl ?_
        refine gf_X1_37 hF (ev_m hS hk) (ev_kd hk) (ev_ln hk) (dck_at tX1_letPass 27 rfl) ?_
        refine g_iconst (v := 1) hF (dck_at tX1_letPass 28 rfl) (by decide) ?_
        show G X F 55 _ _ _
        refine g_iadd hF (dck_at tX1_letPass 29 rfl) ?_
        refine pf_X1_37 hF (ev_m hS hk) (ev_kd hk) (ev_ln hk) (dck_at tX1_letPass 30 rfl) ?_
        refine g_iinc (v := 1) (L' := [some (.ref k), some (.int x1), some (.int (x2 + (1 : Int32)))]) hF (dck_at tX1_letPass 31 rfl) rfl (by decide) rfl ?_
        refine g_goto hF 2 (dck_at tX1_letPass 32 rfl) (by decide) ?_
        exact ih _ _ _ h K
      refine g_icmp_lt hF 38 (dck_at tX1_letPass 13 rfl) (by decide) (fun hc23 => ?_) (fun hc23 => ?_)
      · refine g_aload_n hF (dck_at tX1_letPass 20 rfl) rfl ?_
        refine gf_X1_15 hF (ev_m hS hk) (ev_kd hk) (ev_ln hk) (dck_at tX1_letPass 21 rfl) ?_
        refine gf_X1_145 hF (hS 1 (by decide)) kdc_1 lnc_1 (dck_at tX1_letPass 22 rfl) ?_
        simp only [if_pos hc23] at K45
        exact K45
      · refine g_iconst (v := 2) hF (dck_at tX1_letPass 14 rfl) (by decide) ?_
        refine g_aload_n hF (dck_at tX1_letPass 15 rfl) rfl ?_
        refine gf_X1_15 hF (ev_m hS hk) (ev_kd hk) (ev_ln hk) (dck_at tX1_letPass 16 rfl) ?_
        refine gf_X1_145 hF (hS 1 (by decide)) kdc_1 lnc_1 (dck_at tX1_letPass 17 rfl) ?_
        refine g_imul hF (dck_at tX1_letPass 18 rfl) ?_
        refine g_goto hF 45 (dck_at tX1_letPass 19 rfl) (by decide) ?_
        simp only [if_neg hc23] at K45
        exact K45
set_option maxHeartbeats 4000000 in
set_option maxRecDepth 100000 in
theorem g_X1_letPass_L67 {X : Cx} {F : Fx} (hS : SC X) (hF : FK X F cX1_letPass RX1 3 1) (N : Nat) (k : Nat) (hk : ev k) : ∀ (n : Nat) (x2 : Int32) (M : Mem) (o : Int32 × Mem), f_X1_letPass_L67 N k n x2 M = some o → G X F 114 [none, none, none] [] o.2 → G X F 67 [some (.ref k), none, some (.int x2)] [] M := by
  intro n
  induction n with
  | zero =>
    intro x2 M o h K
    cases h
  | succ n ih =>
    intro x2 M o h K
    rw [f_X1_letPass_L67] at h
    refine g_iload_n hF (dck_at tX1_letPass 35 rfl) rfl ?_
    refine g_aload_n hF (dck_at tX1_letPass 36 rfl) rfl ?_
    refine gf_X1_15 hF (ev_m hS hk) (ev_kd hk) (ev_ln hk) (dck_at tX1_letPass 37 rfl) ?_
    refine gf_X1_30 hF (hS 1 (by decide)) kdc_1 lnc_1 (dck_at tX1_letPass 38 rfl) ?_
    refine g_icmp_ge hF 114 (dck_at tX1_letPass 39 rfl) (by decide) (fun hc75 => ?_) (fun hc75 => ?_)
    · replace h := ite_t hc75 h
      refine g_msk [false, true, false] (L' := [none, none, none]) rfl ?_
      cases h
      exact K
    · replace h := ite_f hc75 h
      refine g_aload_n hF (dck_at tX1_letPass 40 rfl) rfl ?_
      refine gf_X1_15 hF (ev_m hS hk) (ev_kd hk) (ev_ln hk) (dck_at tX1_letPass 41 rfl) ?_
      refine gf_X1_148 hF (hS 1 (by decide)) kdc_1 lnc_1 (t := 4) rfl (dck_at tX1_letPass 42 rfl) ?_
      refine g_iload_n hF (dck_at tX1_letPass 43 rfl) rfl ?_
      obtain ⟨hg86, h⟩ := gd h
      refine g_ia hF (hS 4 (by decide)) kdc_4 lnc_4 hg86 (dck_at tX1_letPass 44 rfl) ?_
      refine g_aload_n hF (dck_at tX1_letPass 45 rfl) rfl ?_
      show G X F 88 _ _ _
      refine gf_X1_37 hF (ev_m hS hk) (ev_kd hk) (ev_ln hk) (dck_at tX1_letPass 46 rfl) ?_
      refine g_icmp_gt hF 108 (dck_at tX1_letPass 47 rfl) (by decide) (fun hc91 => ?_) (fun hc91 => ?_)
      · replace h := ite_t hc91 h
        refine g_iinc (v := 1) (L' := [some (.ref k), none, some (.int (x2 + (1 : Int32)))]) hF (dck_at tX1_letPass 58 rfl) rfl (by decide) rfl ?_
        refine g_goto hF 67 (dck_at tX1_letPass 59 rfl) (by decide) ?_
        exact ih _ _ _ h K
      · replace h := ite_f hc91 h
        refine g_aload_n hF (dck_at tX1_letPass 48 rfl) rfl ?_
        refine g_dup hF (dck_at tX1_letPass 49 rfl) rfl ?_
        refine gf_X1_34 hF (ev_m hS hk) (ev_kd hk) (ev_ln hk) (dck_at tX1_letPass 50 rfl) ?_
        refine g_iconst (v := 1) hF (dck_at tX1_letPass 51 rfl) (by decide) ?_
        refine g_iload_n hF (dck_at tX1_letPass 52 rfl) rfl ?_
        refine g_ishl hF (dck_at tX1_letPass 53 rfl) ?_
        show G X F 102 _ _ _
        refine g_iconst (v := -1) hF (dck_at tX1_letPass 54 rfl) (by decide) ?_
        refine g_ixor hF (dck_at tX1_letPass 55 rfl) ?_
        refine g_iand hF (dck_at tX1_letPass 56 rfl) ?_
        refine pf_X1_34 hF (ev_m hS hk) (ev_kd hk) (ev_ln hk) (dck_at tX1_letPass 57 rfl) ?_
        refine g_iinc (v := 1) (L' := [some (.ref k), none, some (.int (x2 + (1 : Int32)))]) hF (dck_at tX1_letPass 58 rfl) rfl (by decide) rfl ?_
        refine g_goto hF 67 (dck_at tX1_letPass 59 rfl) (by decide) ?_
        exact ih _ _ _ h K
set_option maxHeartbeats 4000000 in
set_option maxRecDepth 100000 in
theorem c_X1_letPass {X : Cx} {l : Launch} (hX : CxOk X) (hS : SC X) {N : Nat} {M : Mem} {k : Nat} {x1 : Int32} (hk : ev k) {M' : Mem} (h : f_X1_letPass N M k x1 = some M') : Ctr X l yX1_letPass cX1_letPass 3 none 1 [.ref k, .int x1] M none M' := by
  refine Ctr.ofG (L := [some (.ref k), some (.int x1), none]) hX (by decide) (Nat.le_of_ble_eq_true rfl) rfl (fun F hF hl hR => ?_)
  subst hl
  unfold f_X1_letPass at h
  refine g_iconst (v := 0) hF (dck_at tX1_letPass 0 rfl) (by decide) ?_
  refine g_istore_n (L' := [some (.ref k), some (.int x1), some (.int (0 : Int32))]) hF (dck_at tX1_letPass 1 rfl) (Nat.le_of_ble_eq_true rfl) rfl ?_
  obtain ⟨o2, e2, h⟩ := bd h
  refine g_X1_letPass_L2 hS hF N _ _ hk N _ _ _ e2 ?_
  refine g_iconst (v := 0) hF (dck_at tX1_letPass 33 rfl) (by decide) ?_
  refine g_istore_n (L' := [some (.ref k), none, some (.int (0 : Int32))]) hF (dck_at tX1_letPass 34 rfl) (Nat.le_of_ble_eq_true rfl) rfl ?_
  obtain ⟨o67, e67, h⟩ := bd h
  refine g_X1_letPass_L67 hS hF N _ hk N _ _ _ e67 ?_
  cases h
  exact g_vret hF hR (dck_at tX1_letPass 60 rfl)

def tbX1_waitOne : List (Nat × Instr × Nat) := [(0, .aload_n 0, 1), (1, .invokevirtual 109, 3), (4, .istore_n 1, 1), (5, .iconst 0, 1), (6, .istore_n 2, 1), (7, .iload_n 2, 1), (8, .aload_n 0, 1), (9, .getfield 15, 3), (12, .getfield 30, 3), (15, .if_icmp .ge 24, 3), (18, .aload_n 0, 1), (19, .getfield 9, 3), (22, .iload_n 2, 1), (23, .dup2, 1), (24, .iaload, 1), (25, .aload_n 0, 1), (26, .iload_n 2, 1), (27, .iload_n 1, 1), (28, .invokevirtual 112, 3), (31, .isub, 1), (32, .iastore, 1), (33, .iinc 2 1, 3), (36, .goto (-29), 3), (39, .aload_n 0, 1), (40, .iconst 1, 1), (41, .invokevirtual 115, 3), (44, .return_, 1)]
theorem tX1_waitOne : dck cX1_waitOne tbX1_waitOne = true := by decide +kernel
def f_X1_waitOne_L7 (N : Nat) (k : Nat) (x1 : Int32) : Nat → Int32 → Mem → Option (Int32 × Mem)
  | 0, _, _ => none
  | n + 1, x2, M => (if (M 1 7) ≤ x2 then some (x2, M) else if inb x2 8 = true then (f_X1_lessByWait N M k x2 x1).bind fun q28 => if inb x2 8 = true then f_X1_waitOne_L7 N k x1 n (x2 + (1 : Int32)) (up2 M (k + 1) x2.toNatClampNeg ((M (k + 1) x2.toNatClampNeg) - q28)) else none else none)
def f_X1_waitOne (N : Nat) (M : Mem) (k : Nat) : Option Mem := (f_X1_whoClaps N M k).bind fun q1 => (f_X1_waitOne_L7 N k q1 N (0 : Int32) M).bind fun o7 => (f_X1_letPass N o7.2 k (1 : Int32)).bind fun q41 => some q41
set_option maxHeartbeats 4000000 in
set_option maxRecDepth 100000 in
theorem g_X1_waitOne_L7 {X : Cx} {F : Fx} (hS : SC X) (hF : FK X F cX1_waitOne RX1 3 3) (N : Nat) (k : Nat) (x1 : Int32) (hk : ev k) : ∀ (n : Nat) (x2 : Int32) (M : Mem) (o : Int32 × Mem), f_X1_waitOne_L7 N k x1 n x2 M = some o → G X F 39 [some (.ref k), none, none] [] o.2 → G X F 7 [some (.ref k), some (.int x1), some (.int x2)] [] M := by
  intro n
  induction n with
  | zero =>
    intro x2 M o h K
    cases h
  | succ n ih =>
    intro x2 M o h K
    rw [f_X1_waitOne_L7] at h
    refine g_iload_n hF (dck_at tX1_waitOne 5 rfl) rfl ?_
    refine g_aload_n hF (dck_at tX1_waitOne 6 rfl) rfl ?_
    refine gf_X1_15 hF (ev_m hS hk) (ev_kd hk) (ev_ln hk) (dck_at tX1_waitOne 7 rfl) ?_
    refine gf_X1_30 hF (hS 1 (by decide)) kdc_1 lnc_1 (dck_at tX1_waitOne 8 rfl) ?_
    refine g_icmp_ge hF 39 (dck_at tX1_waitOne 9 rfl) (by decide) (fun hc15 => ?_) (fun hc15 => ?_)
    · replace h := ite_t hc15 h
      refine g_msk [true, false, false] (L' := [some (.ref k), none, none]) rfl ?_
      cases h
      exact K
    · replace h := ite_f hc15 h
      refine g_aload_n hF (dck_at tX1_waitOne 10 rfl) rfl ?_
      refine gf_X1_9 hF (ev_m hS hk) (ev_kd hk) (ev_ln hk) (t := (k + 1)) rfl (dck_at tX1_waitOne 11 rfl) ?_
      refine g_iload_n hF (dck_at tX1_waitOne 12 rfl) rfl ?_
      refine g_dup2 hF (dck_at tX1_waitOne 13 rfl) rfl rfl ?_
      obtain ⟨hg24, h⟩ := gd h
      refine g_ia hF (ev_mz hS hk) (ev_kz hk) (ev_lz hk) hg24 (dck_at tX1_waitOne 14 rfl) ?_
      refine g_aload_n hF (dck_at tX1_waitOne 15 rfl) rfl ?_
      show G X F 26 _ _ _
      refine g_iload_n hF (dck_at tX1_waitOne 16 rfl) rfl ?_
      refine g_iload_n hF (dck_at tX1_waitOne 17 rfl) rfl ?_
      obtain ⟨q28, e28, h⟩ := bd h
      refine g_callV hF (as := [.int x2, .int x1]) (k := k) rfl (by decide) wm_X1_112 wi_X1_lessByWait we_X1_lessByWait wc_X1_lessByWait wn_X1 hyX1_lessByWait (by decide) (ev_m hS hk) (ev_kd hk) (c_X1_lessByWait hF.2.2.2.2.2.2.2.1 hS hk e28) (by decide) rfl rfl rfl rfl (dck_at tX1_waitOne 18 rfl) ?_
      show G X F 31 _ [.int q28, .int (M (k + 1) x2.toNatClampNeg), .int x2, .ref (k + 1)] M
      refine g_isub hF (dck_at tX1_waitOne 19 rfl) ?_
      obtain ⟨hg32, h⟩ := gd h
      refine g_is hF (ev_mz hS hk) (ev_kz hk) (ev_lz hk) hg32 (dck_at tX1_waitOne 20 rfl) ?_
      refine g_iinc (v := 1) (L' := [some (.ref k), some (.int x1), some (.int (x2 + (1 : Int32)))]) hF (dck_at tX1_waitOne 21 rfl) rfl (by decide) rfl ?_
      refine g_goto hF 7 (dck_at tX1_waitOne 22 rfl) (by decide) ?_
      exact ih _ _ _ h K
set_option maxHeartbeats 4000000 in
set_option maxRecDepth 100000 in
theorem c_X1_waitOne {X : Cx} {l : Launch} (hX : CxOk X) (hS : SC X) {N : Nat} {M : Mem} {k : Nat} (hk : ev k) {M' : Mem} (h : f_X1_waitOne N M k = some M') : Ctr X l yX1_waitOne cX1_waitOne 3 none 3 [.ref k] M none M' := by
  refine Ctr.ofG (L := [some (.ref k), none, none]) hX (by decide) (Nat.le_of_ble_eq_true rfl) rfl (fun F hF hl hR => ?_)
  subst hl
  unfold f_X1_waitOne at h
  refine g_aload_n hF (dck_at tX1_waitOne 0 rfl) rfl ?_
  obtain ⟨q1, e1, h⟩ := bd h
  refine g_callV hF (as := []) (k := k) rfl (by decide) wm_X1_109 wi_X1_whoClaps we_X1_whoClaps wc_X1_whoClaps wn_X1 hyX1_whoClaps (by decide) (ev_m hS hk) (ev_kd hk) (c_X1_whoClaps hF.2.2.2.2.2.2.2.1 hS hk e1) (by decide) rfl rfl rfl rfl (dck_at tX1_waitOne 1 rfl) ?_
  show G X F 4 _ [.int q1] M
  refine g_istore_n (L' := [some (.ref k), some (.int q1), none]) hF (dck_at tX1_waitOne 2 rfl) (Nat.le_of_ble_eq_true rfl) rfl ?_
  refine g_iconst (v := 0) hF (dck_at tX1_waitOne 3 rfl) (by decide) ?_
  refine g_istore_n (L' := [some (.ref k), some (.int q1), some (.int (0 : Int32))]) hF (dck_at tX1_waitOne 4 rfl) (Nat.le_of_ble_eq_true rfl) rfl ?_
  obtain ⟨o7, e7, h⟩ := bd h
  refine g_X1_waitOne_L7 hS hF N _ _ hk N _ _ _ e7 ?_
  refine g_aload_n hF (dck_at tX1_waitOne 23 rfl) rfl ?_
  refine g_iconst (v := 1) hF (dck_at tX1_waitOne 24 rfl) (by decide) ?_
  obtain ⟨q41, e41, h⟩ := bd h
  refine g_callV hF (as := [.int (1 : Int32)]) (k := k) rfl (by decide) wm_X1_115 wi_X1_letPass we_X1_letPass wc_X1_letPass wn_X1 hyX1_letPass (by decide) (ev_m hS hk) (ev_kd hk) (c_X1_letPass hF.2.2.2.2.2.2.2.1 hS hk e41) (by decide) rfl rfl rfl rfl (dck_at tX1_waitOne 25 rfl) ?_
  show G X F 44 _ [] q41
  cases h
  exact g_vret hF hR (dck_at tX1_waitOne 26 rfl)

def tbX1_bowOnce : List (Nat × Instr × Nat) := [(0, .aload_n 0, 1), (1, .invokevirtual 118, 3), (4, .istore_n 1, 1), (5, .iconst 0, 1), (6, .istore_n 2, 1), (7, .iload_n 2, 1), (8, .aload_n 0, 1), (9, .getfield 15, 3), (12, .getfield 30, 3), (15, .if_icmp .ge 36, 3), (18, .aload_n 0, 1), (19, .iload_n 2, 1), (20, .invokevirtual 60, 3), (23, .ifCond .eq 22, 3), (26, .aload_n 0, 1), (27, .getfield 9, 3), (30, .iload_n 2, 1), (31, .bipush 40, 2), (33, .aload_n 0, 1), (34, .getfield 9, 3), (37, .iload_n 2, 1), (38, .iaload, 1), (39, .iload_n 1, 1), (40, .iadd, 1), (41, .invokestatic 74, 3), (44, .iastore, 1), (45, .iinc 2 1, 3), (48, .goto (-41), 3), (51, .aload_n 0, 1), (52, .dup, 1), (53, .getfield 47, 3), (56, .iconst 1, 1), (57, .iadd, 1), (58, .putfield 47, 3), (61, .return_, 1)]
theorem tX1_bowOnce : dck cX1_bowOnce tbX1_bowOnce = true := by decide +kernel
def f_X1_bowOnce_L7 (N : Nat) (k : Nat) (x1 : Int32) : Nat → Int32 → Mem → Option (Int32 × Mem)
  | 0, _, _ => none
  | n + 1, x2, M => (if (M 1 7) ≤ x2 then some (x2, M) else (f_X1_isClapping N M k x2).bind fun q20 => (if q20 = 0 then f_X1_bowOnce_L7 N k x1 n (x2 + (1 : Int32)) M else if inb x2 8 = true then if inb x2 8 = true then f_X1_bowOnce_L7 N k x1 n (x2 + (1 : Int32)) (up2 M (k + 1) x2.toNatClampNeg (if ((M (k + 1) x2.toNatClampNeg) + x1) < (40 : Int32) then (M (k + 1) x2.toNatClampNeg) + x1 else (40 : Int32))) else none else none))
def f_X1_bowOnce (N : Nat) (M : Mem) (k : Nat) : Option Mem := (f_X1_moreByBow N M k).bind fun q1 => (f_X1_bowOnce_L7 N k q1 N (0 : Int32) M).bind fun o7 => some (up2 o7.2 k 5 ((o7.2 k 5) + (1 : Int32)))
set_option maxHeartbeats 4000000 in
set_option maxRecDepth 100000 in
theorem g_X1_bowOnce_L7 {X : Cx} {F : Fx} (hS : SC X) (hF : FK X F cX1_bowOnce RX1 3 3) (N : Nat) (k : Nat) (x1 : Int32) (hk : ev k) : ∀ (n : Nat) (x2 : Int32) (M : Mem) (o : Int32 × Mem), f_X1_bowOnce_L7 N k x1 n x2 M = some o → G X F 51 [some (.ref k), none, none] [] o.2 → G X F 7 [some (.ref k), some (.int x1), some (.int x2)] [] M := by
  intro n
  induction n with
  | zero =>
    intro x2 M o h K
    cases h
  | succ n ih =>
    intro x2 M o h K
    rw [f_X1_bowOnce_L7] at h
    refine g_iload_n hF (dck_at tX1_bowOnce 5 rfl) rfl ?_
    refine g_aload_n hF (dck_at tX1_bowOnce 6 rfl) rfl ?_
    refine gf_X1_15 hF (ev_m hS hk) (ev_kd hk) (ev_ln hk) (dck_at tX1_bowOnce 7 rfl) ?_
    refine gf_X1_30 hF (hS 1 (by decide)) kdc_1 lnc_1 (dck_at tX1_bowOnce 8 rfl) ?_
    refine g_icmp_ge hF 51 (dck_at tX1_bowOnce 9 rfl) (by decide) (fun hc15 => ?_) (fun hc15 => ?_)
    · replace h := ite_t hc15 h
      refine g_msk [true, false, false] (L' := [some (.ref k), none, none]) rfl ?_
      cases h
      exact K
    · replace h := ite_f hc15 h
      refine g_aload_n hF (dck_at tX1_bowOnce 10 rfl) rfl ?_
      refine g_iload_n hF (dck_at tX1_bowOnce 11 rfl) rfl ?_
      obtain ⟨q20, e20, h⟩ := bd h
      refine g_callV hF (as := [.int x2]) (k := k) rfl (by decide) wm_X1_60 wi_X1_isClapping we_X1_isClapping wc_X1_isClapping wn_X1 hyX1_isClapping (by decide) (ev_m hS hk) (ev_kd hk) (c_X1_isClapping hF.2.2.2.2.2.2.2.1 hS hk e20) (by decide) rfl rfl rfl rfl (dck_at tX1_bowOnce 12 rfl) ?_
      show G X F 23 _ [.int q20] M
      refine g_if_eq hF 45 (dck_at tX1_bowOnce 13 rfl) (by decide) (fun hc23 => ?_) (fun hc23 => ?_)
      · replace h := ite_t hc23 h
        refine g_iinc (v := 1) (L' := [some (.ref k), some (.int x1), some (.int (x2 + (1 : Int32)))]) hF (dck_at tX1_bowOnce 26 rfl) rfl (by decide) rfl ?_
        refine g_goto hF 7 (dck_at tX1_bowOnce 27 rfl) (by decide) ?_
        exact ih _ _ _ h K
      · replace h := ite_f hc23 h
        refine g_aload_n hF (dck_at tX1_bowOnce 14 rfl) rfl ?_
        refine gf_X1_9 hF (ev_m hS hk) (ev_kd hk) (ev_ln hk) (t := (k + 1)) rfl (dck_at tX1_bowOnce 15 rfl) ?_
        refine g_iload_n hF (dck_at tX1_bowOnce 16 rfl) rfl ?_
        refine g_bipush (v := 40) hF (dck_at tX1_bowOnce 17 rfl) (by decide) ?_
        refine g_aload_n hF (dck_at tX1_bowOnce 18 rfl) rfl ?_
        refine gf_X1_9 hF (ev_m hS hk) (ev_kd hk) (ev_ln hk) (t := (k + 1)) rfl (dck_at tX1_bowOnce 19 rfl) ?_
        show G X F 37 _ _ _
        refine g_iload_n hF (dck_at tX1_bowOnce 20 rfl) rfl ?_
        obtain ⟨hg38, h⟩ := gd h
        refine g_ia hF (ev_mz hS hk) (ev_kz hk) (ev_lz hk) hg38 (dck_at tX1_bowOnce 21 rfl) ?_
        refine g_iload_n hF (dck_at tX1_bowOnce 22 rfl) rfl ?_
        refine g_iadd hF (dck_at tX1_bowOnce 23 rfl) ?_
        refine g_mmin hF wm_X1_74 wt_min wn_J9 wc_min (by decide) rfl rfl (dck_at tX1_bowOnce 24 rfl) ?_
        obtain ⟨hg44, h⟩ := gd h
        refine g_is hF (ev_mz hS hk) (ev_kz hk) (ev_lz hk) hg44 (dck_at tX1_bowOnce 25 rfl) ?_
        refine g_iinc (v := 1) (L' := [some (.ref k), some (.int x1), some (.int (x2 + (1 : Int32)))]) hF (dck_at tX1_bowOnce 26 rfl) rfl (by decide) rfl ?_
        show G X F 48 _ _ _
        refine g_goto hF 7 (dck_at tX1_bowOnce 27 rfl) (by decide) ?_
        exact ih _ _ _ h K
set_option maxHeartbeats 4000000 in
set_option maxRecDepth 100000 in
theorem c_X1_bowOnce {X : Cx} {l : Launch} (hX : CxOk X) (hS : SC X) {N : Nat} {M : Mem} {k : Nat} (hk : ev k) {M' : Mem} (h : f_X1_bowOnce N M k = some M') : Ctr X l yX1_bowOnce cX1_bowOnce 3 none 3 [.ref k] M none M' := by
  refine Ctr.ofG (L := [some (.ref k), none, none]) hX (by decide) (Nat.le_of_ble_eq_true rfl) rfl (fun F hF hl hR => ?_)
  subst hl
  unfold f_X1_bowOnce at h
  refine g_aload_n hF (dck_at tX1_bowOnce 0 rfl) rfl ?_
  obtain ⟨q1, e1, h⟩ := bd h
  refine g_callV hF (as := []) (k := k) rfl (by decide) wm_X1_118 wi_X1_moreByBow we_X1_moreByBow wc_X1_moreByBow wn_X1 hyX1_moreByBow (by decide) (ev_m hS hk) (ev_kd hk) (c_X1_moreByBow hF.2.2.2.2.2.2.2.1 hS hk e1) (by decide) rfl rfl rfl rfl (dck_at tX1_bowOnce 1 rfl) ?_
  show G X F 4 _ [.int q1] M
  refine g_istore_n (L' := [some (.ref k), some (.int q1), none]) hF (dck_at tX1_bowOnce 2 rfl) (Nat.le_of_ble_eq_true rfl) rfl ?_
  refine g_iconst (v := 0) hF (dck_at tX1_bowOnce 3 rfl) (by decide) ?_
  refine g_istore_n (L' := [some (.ref k), some (.int q1), some (.int (0 : Int32))]) hF (dck_at tX1_bowOnce 4 rfl) (Nat.le_of_ble_eq_true rfl) rfl ?_
  obtain ⟨o7, e7, h⟩ := bd h
  refine g_X1_bowOnce_L7 hS hF N _ _ hk N _ _ _ e7 ?_
  refine g_aload_n hF (dck_at tX1_bowOnce 28 rfl) rfl ?_
  refine g_dup hF (dck_at tX1_bowOnce 29 rfl) rfl ?_
  refine gf_X1_47 hF (ev_m hS hk) (ev_kd hk) (ev_ln hk) (dck_at tX1_bowOnce 30 rfl) ?_
  refine g_iconst (v := 1) hF (dck_at tX1_bowOnce 31 rfl) (by decide) ?_
  refine g_iadd hF (dck_at tX1_bowOnce 32 rfl) ?_
  refine pf_X1_47 hF (ev_m hS hk) (ev_kd hk) (ev_ln hk) (dck_at tX1_bowOnce 33 rfl) ?_
  show G X F 61 _ _ _
  cases h
  exact g_vret hF hR (dck_at tX1_bowOnce 34 rfl)

def tbX6_zealBehind : List (Nat × Instr × Nat) := [(0, .iload_n 0, 1), (1, .iconst 1, 1), (2, .if_icmp .ne 7, 3), (5, .iload_n 1, 1), (6, .iconst 2, 1), (7, .idiv, 1), (8, .ireturn, 1), (9, .iload_n 0, 1), (10, .iconst 2, 1), (11, .if_icmp .ne 12, 3), (14, .bipush 40, 2), (16, .iload_n 1, 1), (17, .iconst 5, 1), (18, .iadd, 1), (19, .invokestatic 251, 3), (22, .ireturn, 1), (23, .iload_n 0, 1), (24, .iconst 3, 1), (25, .if_icmp .ne 10, 3), (28, .bipush 40, 2), (30, .iload_n 2, 1), (31, .invokestatic 251, 3), (34, .ireturn, 1), (35, .iload_n 1, 1), (36, .ifCond .le 14, 3), (39, .bipush 40, 2), (41, .iload_n 1, 1), (42, .iconst 2, 1), (43, .iadd, 1), (44, .invokestatic 251, 3), (47, .goto 4, 3), (50, .iload_n 1, 1), (51, .ireturn, 1)]
theorem tX6_zealBehind : dck cX6_zealBehind tbX6_zealBehind = true := by decide +kernel
def f_X6_zealBehind (N : Nat) (M : Mem) (x0 : Int32) (x1 : Int32) (x2 : Int32) : Option Int32 := (if x0 = (1 : Int32) then some (x1 / (2 : Int32)) else (if x0 = (2 : Int32) then some (if (x1 + (5 : Int32)) < (40 : Int32) then x1 + (5 : Int32) else (40 : Int32)) else (if x0 = (3 : Int32) then some (if x2 < (40 : Int32) then x2 else (40 : Int32)) else (if x1 ≤ 0 then some x1 else some (if (x1 + (2 : Int32)) < (40 : Int32) then x1 + (2 : Int32) else (40 : Int32))))))
set_option maxHeartbeats 4000000 in
set_option maxRecDepth 100000 in
theorem c_X6_zealBehind {X : Cx} {l : Launch} (hX : CxOk X) {N : Nat} {M : Mem} {x0 : Int32} {x1 : Int32} {x2 : Int32} {r : Int32} (h : f_X6_zealBehind N M x0 x1 x2 = some r) : Ctr X l yX6_zealBehind cX6_zealBehind 3 (some .int) 2 [.int x0, .int x1, .int x2] M (some (.int r)) M := by
  refine Ctr.ofG (L := [some (.int x0), some (.int x1), some (.int x2)]) hX (by decide) (Nat.le_of_ble_eq_true rfl) rfl (fun F hF hl hR => ?_)
  subst hl
  unfold f_X6_zealBehind at h
  refine g_iload_n hF (dck_at tX6_zealBehind 0 rfl) rfl ?_
  refine g_iconst (v := 1) hF (dck_at tX6_zealBehind 1 rfl) (by decide) ?_
  refine g_icmp_ne hF 9 (dck_at tX6_zealBehind 2 rfl) (by decide) (fun hc2 => ?_) (fun hc2 => ?_)
  · replace h := ite_f hc2 h
    refine g_iload_n hF (dck_at tX6_zealBehind 7 rfl) rfl ?_
    refine g_iconst (v := 2) hF (dck_at tX6_zealBehind 8 rfl) (by decide) ?_
    refine g_icmp_ne hF 23 (dck_at tX6_zealBehind 9 rfl) (by decide) (fun hc11 => ?_) (fun hc11 => ?_)
    · replace h := ite_f hc11 h
      refine g_iload_n hF (dck_at tX6_zealBehind 16 rfl) rfl ?_
      refine g_iconst (v := 3) hF (dck_at tX6_zealBehind 17 rfl) (by decide) ?_
      refine g_icmp_ne hF 35 (dck_at tX6_zealBehind 18 rfl) (by decide) (fun hc25 => ?_) (fun hc25 => ?_)
      · replace h := ite_f hc25 h
        refine g_iload_n hF (dck_at tX6_zealBehind 23 rfl) rfl ?_
        refine g_if_le hF 50 (dck_at tX6_zealBehind 24 rfl) (by decide) (fun hc36 => ?_) (fun hc36 => ?_)
        · replace h := ite_t hc36 h
          refine g_iload_n hF (dck_at tX6_zealBehind 31 rfl) rfl ?_
          cases h
          exact g_iret hF hR (dck_at tX6_zealBehind 32 rfl)
        · replace h := ite_f hc36 h
          refine g_bipush (v := 40) hF (dck_at tX6_zealBehind 25 rfl) (by decide) ?_
          refine g_iload_n hF (dck_at tX6_zealBehind 26 rfl) rfl ?_
          refine g_iconst (v := 2) hF (dck_at tX6_zealBehind 27 rfl) (by decide) ?_
          refine g_iadd hF (dck_at tX6_zealBehind 28 rfl) ?_
          refine g_mmin hF wm_X6_251 wt_min wn_J9 wc_min (by decide) rfl rfl (dck_at tX6_zealBehind 29 rfl) ?_
          refine g_goto hF 51 (dck_at tX6_zealBehind 30 rfl) (by decide) ?_
          cases h
          exact g_iret hF hR (dck_at tX6_zealBehind 32 rfl)
      · replace h := ite_t hc25 h
        refine g_bipush (v := 40) hF (dck_at tX6_zealBehind 19 rfl) (by decide) ?_
        refine g_iload_n hF (dck_at tX6_zealBehind 20 rfl) rfl ?_
        refine g_mmin hF wm_X6_251 wt_min wn_J9 wc_min (by decide) rfl rfl (dck_at tX6_zealBehind 21 rfl) ?_
        cases h
        exact g_iret hF hR (dck_at tX6_zealBehind 22 rfl)
    · replace h := ite_t hc11 h
      refine g_bipush (v := 40) hF (dck_at tX6_zealBehind 10 rfl) (by decide) ?_
      refine g_iload_n hF (dck_at tX6_zealBehind 11 rfl) rfl ?_
      refine g_iconst (v := 5) hF (dck_at tX6_zealBehind 12 rfl) (by decide) ?_
      refine g_iadd hF (dck_at tX6_zealBehind 13 rfl) ?_
      refine g_mmin hF wm_X6_251 wt_min wn_J9 wc_min (by decide) rfl rfl (dck_at tX6_zealBehind 14 rfl) ?_
      cases h
      exact g_iret hF hR (dck_at tX6_zealBehind 15 rfl)
  · replace h := ite_t hc2 h
    refine g_iload_n hF (dck_at tX6_zealBehind 3 rfl) rfl ?_
    refine g_iconst (v := 2) hF (dck_at tX6_zealBehind 4 rfl) (by decide) ?_
    refine g_idiv hF (dck_at tX6_zealBehind 5 rfl) (by decide) ?_
    cases h
    exact g_iret hF hR (dck_at tX6_zealBehind 6 rfl)

def tbJ6_bitCount_0f7a4 : List (Nat × Instr × Nat) := [(0, .iload_n 0, 1), (1, .iload_n 0, 1), (2, .iconst 1, 1), (3, .iushr, 1), (4, .ldc_w 265, 3), (7, .iand, 1), (8, .isub, 1), (9, .istore_n 0, 1), (10, .iload_n 0, 1), (11, .ldc_w 266, 3), (14, .iand, 1), (15, .iload_n 0, 1), (16, .iconst 2, 1), (17, .iushr, 1), (18, .ldc_w 266, 3), (21, .iand, 1), (22, .iadd, 1), (23, .istore_n 0, 1), (24, .iload_n 0, 1), (25, .iload_n 0, 1), (26, .iconst 4, 1), (27, .iushr, 1), (28, .iadd, 1), (29, .ldc_w 267, 3), (32, .iand, 1), (33, .istore_n 0, 1), (34, .iload_n 0, 1), (35, .iload_n 0, 1), (36, .bipush 8, 2), (38, .iushr, 1), (39, .iadd, 1), (40, .istore_n 0, 1), (41, .iload_n 0, 1), (42, .iload_n 0, 1), (43, .bipush 16, 2), (45, .iushr, 1), (46, .iadd, 1), (47, .istore_n 0, 1), (48, .iload_n 0, 1), (49, .bipush 63, 2), (51, .iand, 1), (52, .ireturn, 1)]
theorem tJ6_bitCount_0f7a4 : dck cJ6_bitCount_0f7a4 tbJ6_bitCount_0f7a4 = true := by decide +kernel
def f_J6_bitCount_0f7a4 (N : Nat) (M : Mem) (x0 : Int32) : Option Int32 := some ((((((((x0 - (((x0.toUInt32 >>> ((1 : Int32).toUInt32 &&& Int32.toUInt32 31)).toInt32) &&& (1431655765 : Int32))) &&& (858993459 : Int32)) + ((((x0 - (((x0.toUInt32 >>> ((1 : Int32).toUInt32 &&& Int32.toUInt32 31)).toInt32) &&& (1431655765 : Int32))).toUInt32 >>> ((2 : Int32).toUInt32 &&& Int32.toUInt32 31)).toInt32) &&& (858993459 : Int32))) + (((((x0 - (((x0.toUInt32 >>> ((1 : Int32).toUInt32 &&& Int32.toUInt32 31)).toInt32) &&& (1431655765 : Int32))) &&& (858993459 : Int32)) + ((((x0 - (((x0.toUInt32 >>> ((1 : Int32).toUInt32 &&& Int32.toUInt32 31)).toInt32) &&& (1431655765 : Int32))).toUInt32 >>> ((2 : Int32).toUInt32 &&& Int32.toUInt32 31)).toInt32) &&& (858993459 : Int32))).toUInt32 >>> ((4 : Int32).toUInt32 &&& Int32.toUInt32 31)).toInt32)) &&& (252645135 : Int32)) + (((((((x0 - (((x0.toUInt32 >>> ((1 : Int32).toUInt32 &&& Int32.toUInt32 31)).toInt32) &&& (1431655765 : Int32))) &&& (858993459 : Int32)) + ((((x0 - (((x0.toUInt32 >>> ((1 : Int32).toUInt32 &&& Int32.toUInt32 31)).toInt32) &&& (1431655765 : Int32))).toUInt32 >>> ((2 : Int32).toUInt32 &&& Int32.toUInt32 31)).toInt32) &&& (858993459 : Int32))) + (((((x0 - (((x0.toUInt32 >>> ((1 : Int32).toUInt32 &&& Int32.toUInt32 31)).toInt32) &&& (1431655765 : Int32))) &&& (858993459 : Int32)) + ((((x0 - (((x0.toUInt32 >>> ((1 : Int32).toUInt32 &&& Int32.toUInt32 31)).toInt32) &&& (1431655765 : Int32))).toUInt32 >>> ((2 : Int32).toUInt32 &&& Int32.toUInt32 31)).toInt32) &&& (858993459 : Int32))).toUInt32 >>> ((4 : Int32).toUInt32 &&& Int32.toUInt32 31)).toInt32)) &&& (252645135 : Int32)).toUInt32 >>> ((8 : Int32).toUInt32 &&& Int32.toUInt32 31)).toInt32)) + ((((((((x0 - (((x0.toUInt32 >>> ((1 : Int32).toUInt32 &&& Int32.toUInt32 31)).toInt32) &&& (1431655765 : Int32))) &&& (858993459 : Int32)) + ((((x0 - (((x0.toUInt32 >>> ((1 : Int32).toUInt32 &&& Int32.toUInt32 31)).toInt32) &&& (1431655765 : Int32))).toUInt32 >>> ((2 : Int32).toUInt32 &&& Int32.toUInt32 31)).toInt32) &&& (858993459 : Int32))) + (((((x0 - (((x0.toUInt32 >>> ((1 : Int32).toUInt32 &&& Int32.toUInt32 31)).toInt32) &&& (1431655765 : Int32))) &&& (858993459 : Int32)) + ((((x0 - (((x0.toUInt32 >>> ((1 : Int32).toUInt32 &&& Int32.toUInt32 31)).toInt32) &&& (1431655765 : Int32))).toUInt32 >>> ((2 : Int32).toUInt32 &&& Int32.toUInt32 31)).toInt32) &&& (858993459 : Int32))).toUInt32 >>> ((4 : Int32).toUInt32 &&& Int32.toUInt32 31)).toInt32)) &&& (252645135 : Int32)) + (((((((x0 - (((x0.toUInt32 >>> ((1 : Int32).toUInt32 &&& Int32.toUInt32 31)).toInt32) &&& (1431655765 : Int32))) &&& (858993459 : Int32)) + ((((x0 - (((x0.toUInt32 >>> ((1 : Int32).toUInt32 &&& Int32.toUInt32 31)).toInt32) &&& (1431655765 : Int32))).toUInt32 >>> ((2 : Int32).toUInt32 &&& Int32.toUInt32 31)).toInt32) &&& (858993459 : Int32))) + (((((x0 - (((x0.toUInt32 >>> ((1 : Int32).toUInt32 &&& Int32.toUInt32 31)).toInt32) &&& (1431655765 : Int32))) &&& (858993459 : Int32)) + ((((x0 - (((x0.toUInt32 >>> ((1 : Int32).toUInt32 &&& Int32.toUInt32 31)).toInt32) &&& (1431655765 : Int32))).toUInt32 >>> ((2 : Int32).toUInt32 &&& Int32.toUInt32 31)).toInt32) &&& (858993459 : Int32))).toUInt32 >>> ((4 : Int32).toUInt32 &&& Int32.toUInt32 31)).toInt32)) &&& (252645135 : Int32)).toUInt32 >>> ((8 : Int32).toUInt32 &&& Int32.toUInt32 31)).toInt32)).toUInt32 >>> ((16 : Int32).toUInt32 &&& Int32.toUInt32 31)).toInt32)) &&& (63 : Int32))
set_option maxHeartbeats 4000000 in
set_option maxRecDepth 100000 in
theorem c_J6_bitCount_0f7a4 {X : Cx} {l : Launch} (hX : CxOk X) {N : Nat} {M : Mem} {x0 : Int32} {r : Int32} (h : f_J6_bitCount_0f7a4 N M x0 = some r) : Ctr X l yJ6_bitCount_0f7a4 cJ6_bitCount_0f7a4 1 (some .int) 1 [.int x0] M (some (.int r)) M := by
  refine Ctr.ofG (L := [some (.int x0)]) hX (by decide) (Nat.le_of_ble_eq_true rfl) rfl (fun F hF hl hR => ?_)
  subst hl
  unfold f_J6_bitCount_0f7a4 at h
  refine g_iload_n hF (dck_at tJ6_bitCount_0f7a4 0 rfl) rfl ?_
  refine g_iload_n hF (dck_at tJ6_bitCount_0f7a4 1 rfl) rfl ?_
  refine g_iconst (v := 1) hF (dck_at tJ6_bitCount_0f7a4 2 rfl) (by decide) ?_
  refine g_iushr hF (dck_at tJ6_bitCount_0f7a4 3 rfl) ?_
  refine g_ldcw hF wk_J6_265 (dck_at tJ6_bitCount_0f7a4 4 rfl) ?_
  refine g_iand hF (dck_at tJ6_bitCount_0f7a4 5 rfl) ?_
  show G X F 8 _ _ _
  refine g_isub hF (dck_at tJ6_bitCount_0f7a4 6 rfl) ?_
  refine g_istore_n (L' := [some (.int (x0 - (((x0.toUInt32 >>> ((1 : Int32).toUInt32 &&& Int32.toUInt32 31)).toInt32) &&& (1431655765 : Int32))))]) hF (dck_at tJ6_bitCount_0f7a4 7 rfl) (Nat.le_of_ble_eq_true rfl) rfl ?_
  refine g_iload_n hF (dck_at tJ6_bitCount_0f7a4 8 rfl) rfl ?_
  refine g_ldcw hF wk_J6_266 (dck_at tJ6_bitCount_0f7a4 9 rfl) ?_
  refine g_iand hF (dck_at tJ6_bitCount_0f7a4 10 rfl) ?_
  refine g_iload_n hF (dck_at tJ6_bitCount_0f7a4 11 rfl) rfl ?_
  refine g_iconst (v := 2) hF (dck_at tJ6_bitCount_0f7a4 12 rfl) (by decide) ?_
  show G X F 17 _ _ _
  refine g_iushr hF (dck_at tJ6_bitCount_0f7a4 13 rfl) ?_
  refine g_ldcw hF wk_J6_266 (dck_at tJ6_bitCount_0f7a4 14 rfl) ?_
  refine g_iand hF (dck_at tJ6_bitCount_0f7a4 15 rfl) ?_
  refine g_iadd hF (dck_at tJ6_bitCount_0f7a4 16 rfl) ?_
  refine g_istore_n (L' := [some (.int (((x0 - (((x0.toUInt32 >>> ((1 : Int32).toUInt32 &&& Int32.toUInt32 31)).toInt32) &&& (1431655765 : Int32))) &&& (858993459 : Int32)) + ((((x0 - (((x0.toUInt32 >>> ((1 : Int32).toUInt32 &&& Int32.toUInt32 31)).toInt32) &&& (1431655765 : Int32))).toUInt32 >>> ((2 : Int32).toUInt32 &&& Int32.toUInt32 31)).toInt32) &&& (858993459 : Int32))))]) hF (dck_at tJ6_bitCount_0f7a4 17 rfl) (Nat.le_of_ble_eq_true rfl) rfl ?_
  refine g_iload_n hF (dck_at tJ6_bitCount_0f7a4 18 rfl) rfl ?_
  refine g_iload_n hF (dck_at tJ6_bitCount_0f7a4 19 rfl) rfl ?_
  show G X F 26 _ _ _
  refine g_iconst (v := 4) hF (dck_at tJ6_bitCount_0f7a4 20 rfl) (by decide) ?_
  refine g_iushr hF (dck_at tJ6_bitCount_0f7a4 21 rfl) ?_
  refine g_iadd hF (dck_at tJ6_bitCount_0f7a4 22 rfl) ?_
  refine g_ldcw hF wk_J6_267 (dck_at tJ6_bitCount_0f7a4 23 rfl) ?_
  refine g_iand hF (dck_at tJ6_bitCount_0f7a4 24 rfl) ?_
  refine g_istore_n (L' := [some (.int (((((x0 - (((x0.toUInt32 >>> ((1 : Int32).toUInt32 &&& Int32.toUInt32 31)).toInt32) &&& (1431655765 : Int32))) &&& (858993459 : Int32)) + ((((x0 - (((x0.toUInt32 >>> ((1 : Int32).toUInt32 &&& Int32.toUInt32 31)).toInt32) &&& (1431655765 : Int32))).toUInt32 >>> ((2 : Int32).toUInt32 &&& Int32.toUInt32 31)).toInt32) &&& (858993459 : Int32))) + (((((x0 - (((x0.toUInt32 >>> ((1 : Int32).toUInt32 &&& Int32.toUInt32 31)).toInt32) &&& (1431655765 : Int32))) &&& (858993459 : Int32)) + ((((x0 - (((x0.toUInt32 >>> ((1 : Int32).toUInt32 &&& Int32.toUInt32 31)).toInt32) &&& (1431655765 : Int32))).toUInt32 >>> ((2 : Int32).toUInt32 &&& Int32.toUInt32 31)).toInt32) &&& (858993459 : Int32))).toUInt32 >>> ((4 : Int32).toUInt32 &&& Int32.toUInt32 31)).toInt32)) &&& (252645135 : Int32)))]) hF (dck_at tJ6_bitCount_0f7a4 25 rfl) (Nat.le_of_ble_eq_true rfl) rfl ?_
  refine g_iload_n hF (dck_at tJ6_bitCount_0f7a4 26 rfl) rfl ?_
  show G X F 35 _ _ _
  refine g_iload_n hF (dck_at tJ6_bitCount_0f7a4 27 rfl) rfl ?_
  refine g_bipush (v := 8) hF (dck_at tJ6_bitCount_0f7a4 28 rfl) (by decide) ?_
  refine g_iushr hF (dck_at tJ6_bitCount_0f7a4 29 rfl) ?_
  refine g_iadd hF (dck_at tJ6_bitCount_0f7a4 30 rfl) ?_
  refine g_istore_n (L' := [some (.int ((((((x0 - (((x0.toUInt32 >>> ((1 : Int32).toUInt32 &&& Int32.toUInt32 31)).toInt32) &&& (1431655765 : Int32))) &&& (858993459 : Int32)) + ((((x0 - (((x0.toUInt32 >>> ((1 : Int32).toUInt32 &&& Int32.toUInt32 31)).toInt32) &&& (1431655765 : Int32))).toUInt32 >>> ((2 : Int32).toUInt32 &&& Int32.toUInt32 31)).toInt32) &&& (858993459 : Int32))) + (((((x0 - (((x0.toUInt32 >>> ((1 : Int32).toUInt32 &&& Int32.toUInt32 31)).toInt32) &&& (1431655765 : Int32))) &&& (858993459 : Int32)) + ((((x0 - (((x0.toUInt32 >>> ((1 : Int32).toUInt32 &&& Int32.toUInt32 31)).toInt32) &&& (1431655765 : Int32))).toUInt32 >>> ((2 : Int32).toUInt32 &&& Int32.toUInt32 31)).toInt32) &&& (858993459 : Int32))).toUInt32 >>> ((4 : Int32).toUInt32 &&& Int32.toUInt32 31)).toInt32)) &&& (252645135 : Int32)) + (((((((x0 - (((x0.toUInt32 >>> ((1 : Int32).toUInt32 &&& Int32.toUInt32 31)).toInt32) &&& (1431655765 : Int32))) &&& (858993459 : Int32)) + ((((x0 - (((x0.toUInt32 >>> ((1 : Int32).toUInt32 &&& Int32.toUInt32 31)).toInt32) &&& (1431655765 : Int32))).toUInt32 >>> ((2 : Int32).toUInt32 &&& Int32.toUInt32 31)).toInt32) &&& (858993459 : Int32))) + (((((x0 - (((x0.toUInt32 >>> ((1 : Int32).toUInt32 &&& Int32.toUInt32 31)).toInt32) &&& (1431655765 : Int32))) &&& (858993459 : Int32)) + ((((x0 - (((x0.toUInt32 >>> ((1 : Int32).toUInt32 &&& Int32.toUInt32 31)).toInt32) &&& (1431655765 : Int32))).toUInt32 >>> ((2 : Int32).toUInt32 &&& Int32.toUInt32 31)).toInt32) &&& (858993459 : Int32))).toUInt32 >>> ((4 : Int32).toUInt32 &&& Int32.toUInt32 31)).toInt32)) &&& (252645135 : Int32)).toUInt32 >>> ((8 : Int32).toUInt32 &&& Int32.toUInt32 31)).toInt32)))]) hF (dck_at tJ6_bitCount_0f7a4 31 rfl) (Nat.le_of_ble_eq_true rfl) rfl ?_
  refine g_iload_n hF (dck_at tJ6_bitCount_0f7a4 32 rfl) rfl ?_
  refine g_iload_n hF (dck_at tJ6_bitCount_0f7a4 33 rfl) rfl ?_
  show G X F 43 _ _ _
  refine g_bipush (v := 16) hF (dck_at tJ6_bitCount_0f7a4 34 rfl) (by decide) ?_
  refine g_iushr hF (dck_at tJ6_bitCount_0f7a4 35 rfl) ?_
  refine g_iadd hF (dck_at tJ6_bitCount_0f7a4 36 rfl) ?_
  refine g_istore_n (L' := [some (.int (((((((x0 - (((x0.toUInt32 >>> ((1 : Int32).toUInt32 &&& Int32.toUInt32 31)).toInt32) &&& (1431655765 : Int32))) &&& (858993459 : Int32)) + ((((x0 - (((x0.toUInt32 >>> ((1 : Int32).toUInt32 &&& Int32.toUInt32 31)).toInt32) &&& (1431655765 : Int32))).toUInt32 >>> ((2 : Int32).toUInt32 &&& Int32.toUInt32 31)).toInt32) &&& (858993459 : Int32))) + (((((x0 - (((x0.toUInt32 >>> ((1 : Int32).toUInt32 &&& Int32.toUInt32 31)).toInt32) &&& (1431655765 : Int32))) &&& (858993459 : Int32)) + ((((x0 - (((x0.toUInt32 >>> ((1 : Int32).toUInt32 &&& Int32.toUInt32 31)).toInt32) &&& (1431655765 : Int32))).toUInt32 >>> ((2 : Int32).toUInt32 &&& Int32.toUInt32 31)).toInt32) &&& (858993459 : Int32))).toUInt32 >>> ((4 : Int32).toUInt32 &&& Int32.toUInt32 31)).toInt32)) &&& (252645135 : Int32)) + (((((((x0 - (((x0.toUInt32 >>> ((1 : Int32).toUInt32 &&& Int32.toUInt32 31)).toInt32) &&& (1431655765 : Int32))) &&& (858993459 : Int32)) + ((((x0 - (((x0.toUInt32 >>> ((1 : Int32).toUInt32 &&& Int32.toUInt32 31)).toInt32) &&& (1431655765 : Int32))).toUInt32 >>> ((2 : Int32).toUInt32 &&& Int32.toUInt32 31)).toInt32) &&& (858993459 : Int32))) + (((((x0 - (((x0.toUInt32 >>> ((1 : Int32).toUInt32 &&& Int32.toUInt32 31)).toInt32) &&& (1431655765 : Int32))) &&& (858993459 : Int32)) + ((((x0 - (((x0.toUInt32 >>> ((1 : Int32).toUInt32 &&& Int32.toUInt32 31)).toInt32) &&& (1431655765 : Int32))).toUInt32 >>> ((2 : Int32).toUInt32 &&& Int32.toUInt32 31)).toInt32) &&& (858993459 : Int32))).toUInt32 >>> ((4 : Int32).toUInt32 &&& Int32.toUInt32 31)).toInt32)) &&& (252645135 : Int32)).toUInt32 >>> ((8 : Int32).toUInt32 &&& Int32.toUInt32 31)).toInt32)) + ((((((((x0 - (((x0.toUInt32 >>> ((1 : Int32).toUInt32 &&& Int32.toUInt32 31)).toInt32) &&& (1431655765 : Int32))) &&& (858993459 : Int32)) + ((((x0 - (((x0.toUInt32 >>> ((1 : Int32).toUInt32 &&& Int32.toUInt32 31)).toInt32) &&& (1431655765 : Int32))).toUInt32 >>> ((2 : Int32).toUInt32 &&& Int32.toUInt32 31)).toInt32) &&& (858993459 : Int32))) + (((((x0 - (((x0.toUInt32 >>> ((1 : Int32).toUInt32 &&& Int32.toUInt32 31)).toInt32) &&& (1431655765 : Int32))) &&& (858993459 : Int32)) + ((((x0 - (((x0.toUInt32 >>> ((1 : Int32).toUInt32 &&& Int32.toUInt32 31)).toInt32) &&& (1431655765 : Int32))).toUInt32 >>> ((2 : Int32).toUInt32 &&& Int32.toUInt32 31)).toInt32) &&& (858993459 : Int32))).toUInt32 >>> ((4 : Int32).toUInt32 &&& Int32.toUInt32 31)).toInt32)) &&& (252645135 : Int32)) + (((((((x0 - (((x0.toUInt32 >>> ((1 : Int32).toUInt32 &&& Int32.toUInt32 31)).toInt32) &&& (1431655765 : Int32))) &&& (858993459 : Int32)) + ((((x0 - (((x0.toUInt32 >>> ((1 : Int32).toUInt32 &&& Int32.toUInt32 31)).toInt32) &&& (1431655765 : Int32))).toUInt32 >>> ((2 : Int32).toUInt32 &&& Int32.toUInt32 31)).toInt32) &&& (858993459 : Int32))) + (((((x0 - (((x0.toUInt32 >>> ((1 : Int32).toUInt32 &&& Int32.toUInt32 31)).toInt32) &&& (1431655765 : Int32))) &&& (858993459 : Int32)) + ((((x0 - (((x0.toUInt32 >>> ((1 : Int32).toUInt32 &&& Int32.toUInt32 31)).toInt32) &&& (1431655765 : Int32))).toUInt32 >>> ((2 : Int32).toUInt32 &&& Int32.toUInt32 31)).toInt32) &&& (858993459 : Int32))).toUInt32 >>> ((4 : Int32).toUInt32 &&& Int32.toUInt32 31)).toInt32)) &&& (252645135 : Int32)).toUInt32 >>> ((8 : Int32).toUInt32 &&& Int32.toUInt32 31)).toInt32)).toUInt32 >>> ((16 : Int32).toUInt32 &&& Int32.toUInt32 31)).toInt32)))]) hF (dck_at tJ6_bitCount_0f7a4 37 rfl) (Nat.le_of_ble_eq_true rfl) rfl ?_
  refine g_iload_n hF (dck_at tJ6_bitCount_0f7a4 38 rfl) rfl ?_
  refine g_bipush (v := 63) hF (dck_at tJ6_bitCount_0f7a4 39 rfl) (by decide) ?_
  refine g_iand hF (dck_at tJ6_bitCount_0f7a4 40 rfl) ?_
  show G X F 52 _ _ _
  cases h
  exact g_iret hF hR (dck_at tJ6_bitCount_0f7a4 41 rfl)

def tbX1_play : List (Nat × Instr × Nat) := [(0, .aload_n 0, 1), (1, .getfield 15, 3), (4, .getfield 121, 3), (7, .iload_n 1, 1), (8, .iaload, 1), (9, .istore_n 2, 1), (10, .aload_n 0, 1), (11, .aload_n 0, 1), (12, .getfield 15, 3), (15, .getfield 124, 3), (18, .iload_n 1, 1), (19, .iaload, 1), (20, .invokevirtual 115, 3), (23, .aload_n 0, 1), (24, .dup, 1), (25, .getfield 43, 3), (28, .aload_n 0, 1), (29, .getfield 15, 3), (32, .getfield 106, 3), (35, .iload_n 1, 1), (36, .iaload, 1), (37, .isub, 1), (38, .putfield 43, 3), (41, .aload_n 0, 1), (42, .dup, 1), (43, .getfield 44, 3), (46, .iconst 1, 1), (47, .iload_n 1, 1), (48, .ishl, 1), (49, .ior, 1), (50, .putfield 44, 3), (53, .aload_n 0, 1), (54, .aload_n 0, 1), (55, .getfield 56, 3), (58, .ifCond .ne 8, 3), (61, .iload_n 2, 1), (62, .iconst 3, 1), (63, .if_icmp .ne 7, 3), (66, .iconst 1, 1), (67, .goto 4, 3), (70, .iconst 0, 1), (71, .putfield 56, 3), (74, .iconst 0, 1), (75, .istore_n 3, 1), (76, .iload_n 3, 1), (77, .aload_n 0, 1), (78, .getfield 15, 3), (81, .getfield 30, 3), (84, .if_icmp .ge 42, 3), (87, .aload_n 0, 1), (88, .iload_n 3, 1), (89, .invokevirtual 127, 3), (92, .ifCond .eq 28, 3), (95, .aload_n 0, 1), (96, .getfield 9, 3), (99, .iload_n 3, 1), (100, .iload_n 2, 1), (101, .aload_n 0, 1), (102, .getfield 9, 3), (105, .iload_n 3, 1), (106, .iaload, 1), (107, .aload_n 0, 1), (108, .getfield 15, 3), (111, .getfield 19, 3), (114, .iload_n 3, 1), (115, .iaload, 1), (116, .invokestatic 130, 3), (119, .iastore, 1), (120, .iinc 3 1, 3), (123, .goto (-47), 3), (126, .aload_n 0, 1), (127, .dup, 1), (128, .getfield 53, 3), (131, .aload_n 0, 1), (132, .getfield 15, 3), (135, .getfield 134, 3), (138, .iload_n 1, 1), (139, .iaload, 1), (140, .aload_n 0, 1), (141, .getfield 34, 3), (144, .invokestatic 137, 3), (147, .imul, 1), (148, .iadd, 1), (149, .putfield 53, 3), (152, .return_, 1)]
theorem tX1_play : dck cX1_play tbX1_play = true := by decide +kernel
def f_X1_play_L76 (N : Nat) (k : Nat) (x1 : Int32) (x2 : Int32) : Nat → Int32 → Mem → Option (Int32 × Mem)
  | 0, _, _ => none
  | n + 1, x3, M => (if (M 1 7) ≤ x3 then some (x3, M) else (f_X1_isThere N M k x3).bind fun q89 => (if q89 = 0 then f_X1_play_L76 N k x1 x2 n (x3 + (1 : Int32)) M else if inb x3 8 = true then if inb x3 8 = true then (f_X6_zealBehind N M x2 (M (k + 1) x3.toNatClampNeg) (M 3 x3.toNatClampNeg)).bind fun q116 => if inb x3 8 = true then f_X1_play_L76 N k x1 x2 n (x3 + (1 : Int32)) (up2 M (k + 1) x3.toNatClampNeg q116) else none else none else none))
def f_X1_play (N : Nat) (M : Mem) (k : Nat) (x1 : Int32) : Option Mem := if inb x1 4 = true then if inb x1 4 = true then (f_X1_letPass N M k (M 6 x1.toNatClampNeg)).bind fun q20 => if inb x1 4 = true then if zok (if ((up2 (up2 q20 k 3 ((q20 k 3) - (q20 7 x1.toNatClampNeg))) k 4 (((up2 q20 k 3 ((q20 k 3) - (q20 7 x1.toNatClampNeg))) k 4) ||| ((1 : Int32) <<< (x1 &&& 31)))) k 8) = 0 then (if (M 5 x1.toNatClampNeg) = (3 : Int32) then (1 : Int32) else (0 : Int32)) else (1 : Int32)) = true then (f_X1_play_L76 N k x1 (M 5 x1.toNatClampNeg) N (0 : Int32) (up2 (up2 (up2 q20 k 3 ((q20 k 3) - (q20 7 x1.toNatClampNeg))) k 4 (((up2 q20 k 3 ((q20 k 3) - (q20 7 x1.toNatClampNeg))) k 4) ||| ((1 : Int32) <<< (x1 &&& 31)))) k 8 (if ((up2 (up2 q20 k 3 ((q20 k 3) - (q20 7 x1.toNatClampNeg))) k 4 (((up2 q20 k 3 ((q20 k 3) - (q20 7 x1.toNatClampNeg))) k 4) ||| ((1 : Int32) <<< (x1 &&& 31)))) k 8) = 0 then (if (M 5 x1.toNatClampNeg) = (3 : Int32) then (1 : Int32) else (0 : Int32)) else (1 : Int32)))).bind fun o76 => if inb x1 4 = true then (f_J6_bitCount_0f7a4 N o76.2 (o76.2 k 1)).bind fun q144 => some (up2 o76.2 k 7 ((o76.2 k 7) + ((o76.2 8 x1.toNatClampNeg) * q144))) else none else none else none else none else none
set_option maxHeartbeats 4000000 in
set_option maxRecDepth 100000 in
theorem g_X1_play_L76 {X : Cx} {F : Fx} (hS : SC X) (hF : FK X F cX1_play RX1 4 3) (N : Nat) (k : Nat) (x1 : Int32) (x2 : Int32) (hk : ev k) : ∀ (n : Nat) (x3 : Int32) (M : Mem) (o : Int32 × Mem), f_X1_play_L76 N k x1 x2 n x3 M = some o → G X F 126 [some (.ref k), some (.int x1), none, none] [] o.2 → G X F 76 [some (.ref k), some (.int x1), some (.int x2), some (.int x3)] [] M := by
  intro n
  induction n with
  | zero =>
    intro x3 M o h K
    cases h
  | succ n ih =>
    intro x3 M o h K
    rw [f_X1_play_L76] at h
    refine g_iload_n hF (dck_at tX1_play 44 rfl) rfl ?_
    refine g_aload_n hF (dck_at tX1_play 45 rfl) rfl ?_
    refine gf_X1_15 hF (ev_m hS hk) (ev_kd hk) (ev_ln hk) (dck_at tX1_play 46 rfl) ?_
    refine gf_X1_30 hF (hS 1 (by decide)) kdc_1 lnc_1 (dck_at tX1_play 47 rfl) ?_
    refine g_icmp_ge hF 126 (dck_at tX1_play 48 rfl) (by decide) (fun hc84 => ?_) (fun hc84 => ?_)
    · replace h := ite_t hc84 h
      refine g_msk [true, true, false, false] (L' := [some (.ref k), some (.int x1), none, none]) rfl ?_
      cases h
      exact K
    · replace h := ite_f hc84 h
      refine g_aload_n hF (dck_at tX1_play 49 rfl) rfl ?_
      refine g_iload_n hF (dck_at tX1_play 50 rfl) rfl ?_
      obtain ⟨q89, e89, h⟩ := bd h
      refine g_callV hF (as := [.int x3]) (k := k) rfl (by decide) wm_X1_127 wi_X1_isThere we_X1_isThere wc_X1_isThere wn_X1 hyX1_isThere (by decide) (ev_m hS hk) (ev_kd hk) (c_X1_isThere hF.2.2.2.2.2.2.2.1 hS hk e89) (by decide) rfl rfl rfl rfl (dck_at tX1_play 51 rfl) ?_
      show G X F 92 _ [.int q89] M
      refine g_if_eq hF 120 (dck_at tX1_play 52 rfl) (by decide) (fun hc92 => ?_) (fun hc92 => ?_)
      · replace h := ite_t hc92 h
        refine g_iinc (v := 1) (L' := [some (.ref k), some (.int x1), some (.int x2), some (.int (x3 + (1 : Int32)))]) hF (dck_at tX1_play 68 rfl) rfl (by decide) rfl ?_
        refine g_goto hF 76 (dck_at tX1_play 69 rfl) (by decide) ?_
        exact ih _ _ _ h K
      · replace h := ite_f hc92 h
        refine g_aload_n hF (dck_at tX1_play 53 rfl) rfl ?_
        refine gf_X1_9 hF (ev_m hS hk) (ev_kd hk) (ev_ln hk) (t := (k + 1)) rfl (dck_at tX1_play 54 rfl) ?_
        refine g_iload_n hF (dck_at tX1_play 55 rfl) rfl ?_
        refine g_iload_n hF (dck_at tX1_play 56 rfl) rfl ?_
        refine g_aload_n hF (dck_at tX1_play 57 rfl) rfl ?_
        refine gf_X1_9 hF (ev_m hS hk) (ev_kd hk) (ev_ln hk) (t := (k + 1)) rfl (dck_at tX1_play 58 rfl) ?_
        show G X F 105 _ _ _
        refine g_iload_n hF (dck_at tX1_play 59 rfl) rfl ?_
        obtain ⟨hg106, h⟩ := gd h
        refine g_ia hF (ev_mz hS hk) (ev_kz hk) (ev_lz hk) hg106 (dck_at tX1_play 60 rfl) ?_
        refine g_aload_n hF (dck_at tX1_play 61 rfl) rfl ?_
        refine gf_X1_15 hF (ev_m hS hk) (ev_kd hk) (ev_ln hk) (dck_at tX1_play 62 rfl) ?_
        refine gf_X1_19 hF (hS 1 (by decide)) kdc_1 lnc_1 (t := 3) rfl (dck_at tX1_play 63 rfl) ?_
        refine g_iload_n hF (dck_at tX1_play 64 rfl) rfl ?_
        obtain ⟨hg115, h⟩ := gd h
        refine g_ia hF (hS 3 (by decide)) kdc_3 lnc_3 hg115 (dck_at tX1_play 65 rfl) ?_
        show G X F 116 _ _ _
        obtain ⟨q116, e116, h⟩ := bd h
        refine g_callSN hF (as := [.int x2, .int (M (k + 1) x3.toNatClampNeg), .int (M 3 x3.toNatClampNeg)]) hF.2.2.2.2.2.2.1.2.2.2.1 wt_X6_zealBehind wc_X6_zealBehind wn_X6 hyX6_zealBehind (by decide) (c_X6_zealBehind hF.2.2.2.2.2.2.2.1 e116) (by decide) rfl rfl rfl rfl (dck_at tX1_play 66 rfl) ?_
        show G X F 119 _ [.int q116, .int x3, .ref (k + 1)] M
        obtain ⟨hg119, h⟩ := gd h
        refine g_is hF (ev_mz hS hk) (ev_kz hk) (ev_lz hk) hg119 (dck_at tX1_play 67 rfl) ?_
        refine g_iinc (v := 1) (L' := [some (.ref k), some (.int x1), some (.int x2), some (.int (x3 + (1 : Int32)))]) hF (dck_at tX1_play 68 rfl) rfl (by decide) rfl ?_
        refine g_goto hF 76 (dck_at tX1_play 69 rfl) (by decide) ?_
        exact ih _ _ _ h K
set_option maxHeartbeats 4000000 in
set_option maxRecDepth 100000 in
theorem c_X1_play {X : Cx} {l : Launch} (hX : CxOk X) (hS : SC X) {N : Nat} {M : Mem} {k : Nat} {x1 : Int32} (hk : ev k) {M' : Mem} (h : f_X1_play N M k x1 = some M') : Ctr X l yX1_play cX1_play 4 none 3 [.ref k, .int x1] M none M' := by
  refine Ctr.ofG (L := [some (.ref k), some (.int x1), none, none]) hX (by decide) (Nat.le_of_ble_eq_true rfl) rfl (fun F hF hl hR => ?_)
  subst hl
  unfold f_X1_play at h
  refine g_aload_n hF (dck_at tX1_play 0 rfl) rfl ?_
  refine gf_X1_15 hF (ev_m hS hk) (ev_kd hk) (ev_ln hk) (dck_at tX1_play 1 rfl) ?_
  refine gf_X1_121 hF (hS 1 (by decide)) kdc_1 lnc_1 (t := 5) rfl (dck_at tX1_play 2 rfl) ?_
  refine g_iload_n hF (dck_at tX1_play 3 rfl) rfl ?_
  obtain ⟨hg8, h⟩ := gd h
  refine g_ia hF (hS 5 (by decide)) kdc_5 lnc_5 hg8 (dck_at tX1_play 4 rfl) ?_
  refine g_istore_n (L' := [some (.ref k), some (.int x1), some (.int (M 5 x1.toNatClampNeg)), none]) hF (dck_at tX1_play 5 rfl) (Nat.le_of_ble_eq_true rfl) rfl ?_
  show G X F 10 _ _ _
  refine g_aload_n hF (dck_at tX1_play 6 rfl) rfl ?_
  refine g_aload_n hF (dck_at tX1_play 7 rfl) rfl ?_
  refine gf_X1_15 hF (ev_m hS hk) (ev_kd hk) (ev_ln hk) (dck_at tX1_play 8 rfl) ?_
  refine gf_X1_124 hF (hS 1 (by decide)) kdc_1 lnc_1 (t := 6) rfl (dck_at tX1_play 9 rfl) ?_
  refine g_iload_n hF (dck_at tX1_play 10 rfl) rfl ?_
  obtain ⟨hg19, h⟩ := gd h
  refine g_ia hF (hS 6 (by decide)) kdc_6 lnc_6 hg19 (dck_at tX1_play 11 rfl) ?_
  obtain ⟨q20, e20, h⟩ := bd h
  refine g_callV hF (as := [.int (M 6 x1.toNatClampNeg)]) (k := k) rfl (by decide) wm_X1_115 wi_X1_letPass we_X1_letPass wc_X1_letPass wn_X1 hyX1_letPass (by decide) (ev_m hS hk) (ev_kd hk) (c_X1_letPass hF.2.2.2.2.2.2.2.1 hS hk e20) (by decide) rfl rfl rfl rfl (dck_at tX1_play 12 rfl) ?_
  show G X F 23 _ [] q20
  show G X F 23 _ _ _
  refine g_aload_n hF (dck_at tX1_play 13 rfl) rfl ?_
  refine g_dup hF (dck_at tX1_play 14 rfl) rfl ?_
  refine gf_X1_43 hF (ev_m hS hk) (ev_kd hk) (ev_ln hk) (dck_at tX1_play 15 rfl) ?_
  refine g_aload_n hF (dck_at tX1_play 16 rfl) rfl ?_
  refine gf_X1_15 hF (ev_m hS hk) (ev_kd hk) (ev_ln hk) (dck_at tX1_play 17 rfl) ?_
  refine gf_X1_106 hF (hS 1 (by decide)) kdc_1 lnc_1 (t := 7) rfl (dck_at tX1_play 18 rfl) ?_
  refine g_iload_n hF (dck_at tX1_play 19 rfl) rfl ?_
  show G X F 36 _ _ _
  obtain ⟨hg36, h⟩ := gd h
  refine g_ia hF (hS 7 (by decide)) kdc_7 lnc_7 hg36 (dck_at tX1_play 20 rfl) ?_
  refine g_isub hF (dck_at tX1_play 21 rfl) ?_
  refine pf_X1_43 hF (ev_m hS hk) (ev_kd hk) (ev_ln hk) (dck_at tX1_play 22 rfl) ?_
  refine g_aload_n hF (dck_at tX1_play 23 rfl) rfl ?_
  refine g_dup hF (dck_at tX1_play 24 rfl) rfl ?_
  refine gf_X1_44 hF (ev_m hS hk) (ev_kd hk) (ev_ln hk) (dck_at tX1_play 25 rfl) ?_
  refine g_iconst (v := 1) hF (dck_at tX1_play 26 rfl) (by decide) ?_
  show G X F 47 _ _ _
  refine g_iload_n hF (dck_at tX1_play 27 rfl) rfl ?_
  refine g_ishl hF (dck_at tX1_play 28 rfl) ?_
  refine g_ior hF (dck_at tX1_play 29 rfl) ?_
  refine pf_X1_44 hF (ev_m hS hk) (ev_kd hk) (ev_ln hk) (dck_at tX1_play 30 rfl) ?_
  refine g_aload_n hF (dck_at tX1_play 31 rfl) rfl ?_
  refine g_aload_n hF (dck_at tX1_play 32 rfl) rfl ?_
  refine gf_X1_56 hF (ev_m hS hk) (ev_kd hk) (ev_ln hk) (dck_at tX1_play 33 rfl) ?_
  show G X F 58 _ _ _
  have K71 : G X F 71 [some (.ref k), some (.int x1), some (.int (M 5 x1.toNatClampNeg)), none] [.int (if ((up2 (up2 q20 k 3 ((q20 k 3) - (q20 7 x1.toNatClampNeg))) k 4 (((up2 q20 k 3 ((q20 k 3) - (q20 7 x1.toNatClampNeg))) k 4) ||| ((1 : Int32) <<< (x1 &&& 31)))) k 8) = 0 then (if (M 5 x1.toNatClampNeg) = (3 : Int32) then (1 : Int32) else (0 : Int32)) else (1 : Int32)), .ref k] (up2 (up2 q20 k 3 ((q20 k 3) - (q20 7 x1.toNatClampNeg))) k 4 (((up2 q20 k 3 ((q20 k 3) - (q20 7 x1.toNatClampNeg))) k 4) ||| ((1 : Int32) <<< (x1 &&& 31)))) := by
    obtain ⟨hg71, h⟩ := gd h
    refine pf_X1_56 hF (ev_m hS hk) (ev_kd hk) (ev_ln hk) hg71 (dck_at tX1_play 41 rfl) ?_
    refine g_iconst (v := 0) hF (dck_at tX1_play 42 rfl) (by decide) ?_
    refine g_istore_n (L' := [some (.ref k), some (.int x1), some (.int (M 5 x1.toNatClampNeg)), some (.int (0 : Int32))]) hF (dck_at tX1_play 43 rfl) (Nat.le_of_ble_eq_true rfl) rfl ?_
    obtain ⟨o76, e76, h⟩ := bd h
    refine g_X1_play_L76 hS hF N _ _ _ hk N _ _ _ e76 ?_
    refine g_aload_n hF (dck_at tX1_play 70 rfl) rfl ?_
    refine g_dup hF (dck_at tX1_play 71 rfl) rfl ?_
    refine gf_X1_53 hF (ev_m hS hk) (ev_kd hk) (ev_ln hk) (dck_at tX1_play 72 rfl) ?_
    refine g_aload_n hF (dck_at tX1_play 73 rfl) rfl ?_
    refine gf_X1_15 hF (ev_m hS hk) (ev_kd hk) (ev_ln hk) (dck_at tX1_play 74 rfl) ?_
    refine gf_X1_134 hF (hS 1 (by decide)) kdc_1 lnc_1 (t := 8) rfl (dck_at tX1_play 75 rfl) ?_
    show G X F 138 _ _ _
    refine g_iload_n hF (dck_at tX1_play 76 rfl) rfl ?_
    obtain ⟨hg139, h⟩ := gd h
    refine g_ia hF (hS 8 (by decide)) kdc_8 lnc_8 hg139 (dck_at tX1_play 77 rfl) ?_
    refine g_aload_n hF (dck_at tX1_play 78 rfl) rfl ?_
    refine gf_X1_34 hF (ev_m hS hk) (ev_kd hk) (ev_ln hk) (dck_at tX1_play 79 rfl) ?_
    obtain ⟨q144, e144, h⟩ := bd h
    refine g_callS hF (as := [.int (o76.2 k 1)]) wm_X1_137 wt_J6_bitCount_0f7a4 wc_J6_bitCount_0f7a4 wn_J6 hyJ6_bitCount_0f7a4 (by decide) (c_J6_bitCount_0f7a4 hF.2.2.2.2.2.2.2.1 e144) (by decide) rfl rfl rfl rfl (dck_at tX1_play 80 rfl) ?_
    show G X F 147 _ [.int q144, .int (o76.2 8 x1.toNatClampNeg), .int (o76.2 k 7), .ref k] o76.2
    refine g_imul hF (dck_at tX1_play 81 rfl) ?_
    refine g_iadd hF (dck_at tX1_play 82 rfl) ?_
    show G X F 149 _ _ _
    refine pf_X1_53 hF (ev_m hS hk) (ev_kd hk) (ev_ln hk) (dck_at tX1_play 83 rfl) ?_
    cases h
    exact g_vret hF hR (dck_at tX1_play 84 rfl)
  refine g_if_ne hF 66 (dck_at tX1_play 34 rfl) (by decide) (fun hc58 => ?_) (fun hc58 => ?_)
  · refine g_iconst (v := 1) hF (dck_at tX1_play 38 rfl) (by decide) ?_
    refine g_goto hF 71 (dck_at tX1_play 39 rfl) (by decide) ?_
    simp only [if_neg hc58] at K71
    exact K71
  · refine g_iload_n hF (dck_at tX1_play 35 rfl) rfl ?_
    refine g_iconst (v := 3) hF (dck_at tX1_play 36 rfl) (by decide) ?_
    refine g_icmp_ne hF 70 (dck_at tX1_play 37 rfl) (by decide) (fun hc63 => ?_) (fun hc63 => ?_)
    · refine g_iconst (v := 0) hF (dck_at tX1_play 40 rfl) (by decide) ?_
      simp only [if_pos hc58, if_neg hc63] at K71
      exact K71
    · refine g_iconst (v := 1) hF (dck_at tX1_play 38 rfl) (by decide) ?_
      refine g_goto hF 71 (dck_at tX1_play 39 rfl) (by decide) ?_
      simp only [if_pos hc58, if_pos hc63] at K71
      exact K71

def tbX1_take : List (Nat × Instr × Nat) := [(0, .iload_n 1, 1), (1, .ifCond .ne 10, 3), (4, .aload_n 0, 1), (5, .invokevirtual 90, 3), (8, .goto 35, 3), (11, .iload_n 1, 1), (12, .iconst 1, 1), (13, .if_icmp .ne 10, 3), (16, .aload_n 0, 1), (17, .invokevirtual 93, 3), (20, .goto 23, 3), (23, .aload_n 0, 1), (24, .getfield 15, 3), (27, .iload_n 1, 1), (28, .iconst 2, 1), (29, .isub, 1), (30, .invokevirtual 96, 3), (33, .ifCond .eq 10, 3), (36, .aload_n 0, 1), (37, .iload_n 1, 1), (38, .iconst 2, 1), (39, .isub, 1), (40, .invokevirtual 99, 3), (43, .return_, 1)]
theorem tX1_take : dck cX1_take tbX1_take = true := by decide +kernel
def f_X1_take (N : Nat) (M : Mem) (k : Nat) (x1 : Int32) : Option Mem := (if x1 = 0 then (f_X1_waitOne N M k).bind fun q5 => some q5 else (if x1 = (1 : Int32) then (f_X1_bowOnce N M k).bind fun q17 => some q17 else (f_X5_hasEncore N M 1 (x1 - (2 : Int32))).bind fun q30 => (if q30 = 0 then some M else (f_X1_play N M k (x1 - (2 : Int32))).bind fun q40 => some q40)))
set_option maxHeartbeats 4000000 in
set_option maxRecDepth 100000 in
theorem c_X1_take {X : Cx} {l : Launch} (hX : CxOk X) (hS : SC X) {N : Nat} {M : Mem} {k : Nat} {x1 : Int32} (hk : ev k) {M' : Mem} (h : f_X1_take N M k x1 = some M') : Ctr X l yX1_take cX1_take 2 none 4 [.ref k, .int x1] M none M' := by
  refine Ctr.ofG (L := [some (.ref k), some (.int x1)]) hX (by decide) (Nat.le_of_ble_eq_true rfl) rfl (fun F hF hl hR => ?_)
  subst hl
  unfold f_X1_take at h
  refine g_iload_n hF (dck_at tX1_take 0 rfl) rfl ?_
  refine g_if_ne hF 11 (dck_at tX1_take 1 rfl) (by decide) (fun hc1 => ?_) (fun hc1 => ?_)
  · replace h := ite_f hc1 h
    refine g_iload_n hF (dck_at tX1_take 5 rfl) rfl ?_
    refine g_iconst (v := 1) hF (dck_at tX1_take 6 rfl) (by decide) ?_
    refine g_icmp_ne hF 23 (dck_at tX1_take 7 rfl) (by decide) (fun hc13 => ?_) (fun hc13 => ?_)
    · replace h := ite_f hc13 h
      refine g_aload_n hF (dck_at tX1_take 11 rfl) rfl ?_
      refine gf_X1_15 hF (ev_m hS hk) (ev_kd hk) (ev_ln hk) (dck_at tX1_take 12 rfl) ?_
      refine g_iload_n hF (dck_at tX1_take 13 rfl) rfl ?_
      refine g_iconst (v := 2) hF (dck_at tX1_take 14 rfl) (by decide) ?_
      refine g_isub hF (dck_at tX1_take 15 rfl) ?_
      obtain ⟨q30, e30, h⟩ := bd h
      refine g_callV hF (as := [.int (x1 - (2 : Int32))]) (k := 1) rfl (by decide) wm_X1_96 wi_X5_hasEncore we_X5_hasEncore wc_X5_hasEncore wn_X5 hyX5_hasEncore (by decide) (hS 1 (by decide)) kdc_1 (c_X5_hasEncore hF.2.2.2.2.2.2.2.1 hS tdc_1 e30) (by decide) rfl rfl rfl rfl (dck_at tX1_take 16 rfl) ?_
      show G X F 33 _ [.int q30] M
      show G X F 33 _ _ _
      refine g_if_eq hF 43 (dck_at tX1_take 17 rfl) (by decide) (fun hc33 => ?_) (fun hc33 => ?_)
      · replace h := ite_t hc33 h
        cases h
        exact g_vret hF hR (dck_at tX1_take 23 rfl)
      · replace h := ite_f hc33 h
        refine g_aload_n hF (dck_at tX1_take 18 rfl) rfl ?_
        refine g_iload_n hF (dck_at tX1_take 19 rfl) rfl ?_
        refine g_iconst (v := 2) hF (dck_at tX1_take 20 rfl) (by decide) ?_
        refine g_isub hF (dck_at tX1_take 21 rfl) ?_
        obtain ⟨q40, e40, h⟩ := bd h
        refine g_callV hF (as := [.int (x1 - (2 : Int32))]) (k := k) rfl (by decide) wm_X1_99 wi_X1_play we_X1_play wc_X1_play wn_X1 hyX1_play (by decide) (ev_m hS hk) (ev_kd hk) (c_X1_play hF.2.2.2.2.2.2.2.1 hS hk e40) (by decide) rfl rfl rfl rfl (dck_at tX1_take 22 rfl) ?_
        show G X F 43 _ [] q40
        cases h
        exact g_vret hF hR (dck_at tX1_take 23 rfl)
    · replace h := ite_t hc13 h
      refine g_aload_n hF (dck_at tX1_take 8 rfl) rfl ?_
      obtain ⟨q17, e17, h⟩ := bd h
      refine g_callV hF (as := []) (k := k) rfl (by decide) wm_X1_93 wi_X1_bowOnce we_X1_bowOnce wc_X1_bowOnce wn_X1 hyX1_bowOnce (by decide) (ev_m hS hk) (ev_kd hk) (c_X1_bowOnce hF.2.2.2.2.2.2.2.1 hS hk e17) (by decide) rfl rfl rfl rfl (dck_at tX1_take 9 rfl) ?_
      show G X F 20 _ [] q17
      refine g_goto hF 43 (dck_at tX1_take 10 rfl) (by decide) ?_
      cases h
      exact g_vret hF hR (dck_at tX1_take 23 rfl)
  · replace h := ite_t hc1 h
    refine g_aload_n hF (dck_at tX1_take 2 rfl) rfl ?_
    obtain ⟨q5, e5, h⟩ := bd h
    refine g_callV hF (as := []) (k := k) rfl (by decide) wm_X1_90 wi_X1_waitOne we_X1_waitOne wc_X1_waitOne wn_X1 hyX1_waitOne (by decide) (ev_m hS hk) (ev_kd hk) (c_X1_waitOne hF.2.2.2.2.2.2.2.1 hS hk e5) (by decide) rfl rfl rfl rfl (dck_at tX1_take 3 rfl) ?_
    show G X F 8 _ [] q5
    refine g_goto hF 43 (dck_at tX1_take 4 rfl) (by decide) ?_
    cases h
    exact g_vret hF hR (dck_at tX1_take 23 rfl)

def tbX5_copyFrom : List (Nat × Instr × Nat) := [(0, .aload_n 1, 1), (1, .getfield 9, 3), (4, .iconst 0, 1), (5, .aload_n 0, 1), (6, .getfield 9, 3), (9, .iconst 0, 1), (10, .bipush 8, 2), (12, .invokestatic 52, 3), (15, .aload_n 1, 1), (16, .getfield 15, 3), (19, .iconst 0, 1), (20, .aload_n 0, 1), (21, .getfield 15, 3), (24, .iconst 0, 1), (25, .bipush 8, 2), (27, .invokestatic 52, 3), (30, .aload_n 1, 1), (31, .getfield 18, 3), (34, .iconst 0, 1), (35, .aload_n 0, 1), (36, .getfield 18, 3), (39, .iconst 0, 1), (40, .bipush 8, 2), (42, .invokestatic 52, 3), (45, .aload_n 1, 1), (46, .getfield 21, 3), (49, .iconst 0, 1), (50, .aload_n 0, 1), (51, .getfield 21, 3), (54, .iconst 0, 1), (55, .iconst 4, 1), (56, .invokestatic 52, 3), (59, .aload_n 1, 1), (60, .getfield 24, 3), (63, .iconst 0, 1), (64, .aload_n 0, 1), (65, .getfield 24, 3), (68, .iconst 0, 1), (69, .iconst 4, 1), (70, .invokestatic 52, 3), (73, .aload_n 1, 1), (74, .getfield 27, 3), (77, .iconst 0, 1), (78, .aload_n 0, 1), (79, .getfield 27, 3), (82, .iconst 0, 1), (83, .iconst 4, 1), (84, .invokestatic 52, 3), (87, .aload_n 1, 1), (88, .getfield 30, 3), (91, .iconst 0, 1), (92, .aload_n 0, 1), (93, .getfield 30, 3), (96, .iconst 0, 1), (97, .iconst 4, 1), (98, .invokestatic 52, 3), (101, .aload_n 0, 1), (102, .aload_n 1, 1), (103, .getfield 36, 3), (106, .putfield 36, 3), (109, .aload_n 0, 1), (110, .aload_n 1, 1), (111, .getfield 40, 3), (114, .putfield 40, 3), (117, .aload_n 0, 1), (118, .aload_n 1, 1), (119, .getfield 43, 3), (122, .putfield 43, 3), (125, .aload_n 0, 1), (126, .aload_n 1, 1), (127, .getfield 46, 3), (130, .putfield 46, 3), (133, .aload_n 0, 1), (134, .aload_n 1, 1), (135, .getfield 49, 3), (138, .putfield 49, 3), (141, .return_, 1)]
theorem tX5_copyFrom : dck cX5_copyFrom tbX5_copyFrom = true := by decide +kernel
def f_X5_copyFrom (N : Nat) (M : Mem) (k : Nat) (k1 : Nat) : Option Mem := some (up2 (up2 (up2 (up2 (up2 (cp2 (cp2 (cp2 (cp2 (cp2 (cp2 (cp2 M (k1 + 1) (k + 1) 8) (k1 + 2) (k + 2) 8) (k1 + 3) (k + 3) 8) (k1 + 4) (k + 4) 4) (k1 + 5) (k + 5) 4) (k1 + 6) (k + 6) 4) (k1 + 7) (k + 7) 4) k 7 ((cp2 (cp2 (cp2 (cp2 (cp2 (cp2 (cp2 M (k1 + 1) (k + 1) 8) (k1 + 2) (k + 2) 8) (k1 + 3) (k + 3) 8) (k1 + 4) (k + 4) 4) (k1 + 5) (k + 5) 4) (k1 + 6) (k + 6) 4) (k1 + 7) (k + 7) 4) k1 7)) k 8 ((up2 (cp2 (cp2 (cp2 (cp2 (cp2 (cp2 (cp2 M (k1 + 1) (k + 1) 8) (k1 + 2) (k + 2) 8) (k1 + 3) (k + 3) 8) (k1 + 4) (k + 4) 4) (k1 + 5) (k + 5) 4) (k1 + 6) (k + 6) 4) (k1 + 7) (k + 7) 4) k 7 ((cp2 (cp2 (cp2 (cp2 (cp2 (cp2 (cp2 M (k1 + 1) (k + 1) 8) (k1 + 2) (k + 2) 8) (k1 + 3) (k + 3) 8) (k1 + 4) (k + 4) 4) (k1 + 5) (k + 5) 4) (k1 + 6) (k + 6) 4) (k1 + 7) (k + 7) 4) k1 7)) k1 8)) k 9 ((up2 (up2 (cp2 (cp2 (cp2 (cp2 (cp2 (cp2 (cp2 M (k1 + 1) (k + 1) 8) (k1 + 2) (k + 2) 8) (k1 + 3) (k + 3) 8) (k1 + 4) (k + 4) 4) (k1 + 5) (k + 5) 4) (k1 + 6) (k + 6) 4) (k1 + 7) (k + 7) 4) k 7 ((cp2 (cp2 (cp2 (cp2 (cp2 (cp2 (cp2 M (k1 + 1) (k + 1) 8) (k1 + 2) (k + 2) 8) (k1 + 3) (k + 3) 8) (k1 + 4) (k + 4) 4) (k1 + 5) (k + 5) 4) (k1 + 6) (k + 6) 4) (k1 + 7) (k + 7) 4) k1 7)) k 8 ((up2 (cp2 (cp2 (cp2 (cp2 (cp2 (cp2 (cp2 M (k1 + 1) (k + 1) 8) (k1 + 2) (k + 2) 8) (k1 + 3) (k + 3) 8) (k1 + 4) (k + 4) 4) (k1 + 5) (k + 5) 4) (k1 + 6) (k + 6) 4) (k1 + 7) (k + 7) 4) k 7 ((cp2 (cp2 (cp2 (cp2 (cp2 (cp2 (cp2 M (k1 + 1) (k + 1) 8) (k1 + 2) (k + 2) 8) (k1 + 3) (k + 3) 8) (k1 + 4) (k + 4) 4) (k1 + 5) (k + 5) 4) (k1 + 6) (k + 6) 4) (k1 + 7) (k + 7) 4) k1 7)) k1 8)) k1 9)) k 10 ((up2 (up2 (up2 (cp2 (cp2 (cp2 (cp2 (cp2 (cp2 (cp2 M (k1 + 1) (k + 1) 8) (k1 + 2) (k + 2) 8) (k1 + 3) (k + 3) 8) (k1 + 4) (k + 4) 4) (k1 + 5) (k + 5) 4) (k1 + 6) (k + 6) 4) (k1 + 7) (k + 7) 4) k 7 ((cp2 (cp2 (cp2 (cp2 (cp2 (cp2 (cp2 M (k1 + 1) (k + 1) 8) (k1 + 2) (k + 2) 8) (k1 + 3) (k + 3) 8) (k1 + 4) (k + 4) 4) (k1 + 5) (k + 5) 4) (k1 + 6) (k + 6) 4) (k1 + 7) (k + 7) 4) k1 7)) k 8 ((up2 (cp2 (cp2 (cp2 (cp2 (cp2 (cp2 (cp2 M (k1 + 1) (k + 1) 8) (k1 + 2) (k + 2) 8) (k1 + 3) (k + 3) 8) (k1 + 4) (k + 4) 4) (k1 + 5) (k + 5) 4) (k1 + 6) (k + 6) 4) (k1 + 7) (k + 7) 4) k 7 ((cp2 (cp2 (cp2 (cp2 (cp2 (cp2 (cp2 M (k1 + 1) (k + 1) 8) (k1 + 2) (k + 2) 8) (k1 + 3) (k + 3) 8) (k1 + 4) (k + 4) 4) (k1 + 5) (k + 5) 4) (k1 + 6) (k + 6) 4) (k1 + 7) (k + 7) 4) k1 7)) k1 8)) k 9 ((up2 (up2 (cp2 (cp2 (cp2 (cp2 (cp2 (cp2 (cp2 M (k1 + 1) (k + 1) 8) (k1 + 2) (k + 2) 8) (k1 + 3) (k + 3) 8) (k1 + 4) (k + 4) 4) (k1 + 5) (k + 5) 4) (k1 + 6) (k + 6) 4) (k1 + 7) (k + 7) 4) k 7 ((cp2 (cp2 (cp2 (cp2 (cp2 (cp2 (cp2 M (k1 + 1) (k + 1) 8) (k1 + 2) (k + 2) 8) (k1 + 3) (k + 3) 8) (k1 + 4) (k + 4) 4) (k1 + 5) (k + 5) 4) (k1 + 6) (k + 6) 4) (k1 + 7) (k + 7) 4) k1 7)) k 8 ((up2 (cp2 (cp2 (cp2 (cp2 (cp2 (cp2 (cp2 M (k1 + 1) (k + 1) 8) (k1 + 2) (k + 2) 8) (k1 + 3) (k + 3) 8) (k1 + 4) (k + 4) 4) (k1 + 5) (k + 5) 4) (k1 + 6) (k + 6) 4) (k1 + 7) (k + 7) 4) k 7 ((cp2 (cp2 (cp2 (cp2 (cp2 (cp2 (cp2 M (k1 + 1) (k + 1) 8) (k1 + 2) (k + 2) 8) (k1 + 3) (k + 3) 8) (k1 + 4) (k + 4) 4) (k1 + 5) (k + 5) 4) (k1 + 6) (k + 6) 4) (k1 + 7) (k + 7) 4) k1 7)) k1 8)) k1 9)) k1 10)) k 11 ((up2 (up2 (up2 (up2 (cp2 (cp2 (cp2 (cp2 (cp2 (cp2 (cp2 M (k1 + 1) (k + 1) 8) (k1 + 2) (k + 2) 8) (k1 + 3) (k + 3) 8) (k1 + 4) (k + 4) 4) (k1 + 5) (k + 5) 4) (k1 + 6) (k + 6) 4) (k1 + 7) (k + 7) 4) k 7 ((cp2 (cp2 (cp2 (cp2 (cp2 (cp2 (cp2 M (k1 + 1) (k + 1) 8) (k1 + 2) (k + 2) 8) (k1 + 3) (k + 3) 8) (k1 + 4) (k + 4) 4) (k1 + 5) (k + 5) 4) (k1 + 6) (k + 6) 4) (k1 + 7) (k + 7) 4) k1 7)) k 8 ((up2 (cp2 (cp2 (cp2 (cp2 (cp2 (cp2 (cp2 M (k1 + 1) (k + 1) 8) (k1 + 2) (k + 2) 8) (k1 + 3) (k + 3) 8) (k1 + 4) (k + 4) 4) (k1 + 5) (k + 5) 4) (k1 + 6) (k + 6) 4) (k1 + 7) (k + 7) 4) k 7 ((cp2 (cp2 (cp2 (cp2 (cp2 (cp2 (cp2 M (k1 + 1) (k + 1) 8) (k1 + 2) (k + 2) 8) (k1 + 3) (k + 3) 8) (k1 + 4) (k + 4) 4) (k1 + 5) (k + 5) 4) (k1 + 6) (k + 6) 4) (k1 + 7) (k + 7) 4) k1 7)) k1 8)) k 9 ((up2 (up2 (cp2 (cp2 (cp2 (cp2 (cp2 (cp2 (cp2 M (k1 + 1) (k + 1) 8) (k1 + 2) (k + 2) 8) (k1 + 3) (k + 3) 8) (k1 + 4) (k + 4) 4) (k1 + 5) (k + 5) 4) (k1 + 6) (k + 6) 4) (k1 + 7) (k + 7) 4) k 7 ((cp2 (cp2 (cp2 (cp2 (cp2 (cp2 (cp2 M (k1 + 1) (k + 1) 8) (k1 + 2) (k + 2) 8) (k1 + 3) (k + 3) 8) (k1 + 4) (k + 4) 4) (k1 + 5) (k + 5) 4) (k1 + 6) (k + 6) 4) (k1 + 7) (k + 7) 4) k1 7)) k 8 ((up2 (cp2 (cp2 (cp2 (cp2 (cp2 (cp2 (cp2 M (k1 + 1) (k + 1) 8) (k1 + 2) (k + 2) 8) (k1 + 3) (k + 3) 8) (k1 + 4) (k + 4) 4) (k1 + 5) (k + 5) 4) (k1 + 6) (k + 6) 4) (k1 + 7) (k + 7) 4) k 7 ((cp2 (cp2 (cp2 (cp2 (cp2 (cp2 (cp2 M (k1 + 1) (k + 1) 8) (k1 + 2) (k + 2) 8) (k1 + 3) (k + 3) 8) (k1 + 4) (k + 4) 4) (k1 + 5) (k + 5) 4) (k1 + 6) (k + 6) 4) (k1 + 7) (k + 7) 4) k1 7)) k1 8)) k1 9)) k 10 ((up2 (up2 (up2 (cp2 (cp2 (cp2 (cp2 (cp2 (cp2 (cp2 M (k1 + 1) (k + 1) 8) (k1 + 2) (k + 2) 8) (k1 + 3) (k + 3) 8) (k1 + 4) (k + 4) 4) (k1 + 5) (k + 5) 4) (k1 + 6) (k + 6) 4) (k1 + 7) (k + 7) 4) k 7 ((cp2 (cp2 (cp2 (cp2 (cp2 (cp2 (cp2 M (k1 + 1) (k + 1) 8) (k1 + 2) (k + 2) 8) (k1 + 3) (k + 3) 8) (k1 + 4) (k + 4) 4) (k1 + 5) (k + 5) 4) (k1 + 6) (k + 6) 4) (k1 + 7) (k + 7) 4) k1 7)) k 8 ((up2 (cp2 (cp2 (cp2 (cp2 (cp2 (cp2 (cp2 M (k1 + 1) (k + 1) 8) (k1 + 2) (k + 2) 8) (k1 + 3) (k + 3) 8) (k1 + 4) (k + 4) 4) (k1 + 5) (k + 5) 4) (k1 + 6) (k + 6) 4) (k1 + 7) (k + 7) 4) k 7 ((cp2 (cp2 (cp2 (cp2 (cp2 (cp2 (cp2 M (k1 + 1) (k + 1) 8) (k1 + 2) (k + 2) 8) (k1 + 3) (k + 3) 8) (k1 + 4) (k + 4) 4) (k1 + 5) (k + 5) 4) (k1 + 6) (k + 6) 4) (k1 + 7) (k + 7) 4) k1 7)) k1 8)) k 9 ((up2 (up2 (cp2 (cp2 (cp2 (cp2 (cp2 (cp2 (cp2 M (k1 + 1) (k + 1) 8) (k1 + 2) (k + 2) 8) (k1 + 3) (k + 3) 8) (k1 + 4) (k + 4) 4) (k1 + 5) (k + 5) 4) (k1 + 6) (k + 6) 4) (k1 + 7) (k + 7) 4) k 7 ((cp2 (cp2 (cp2 (cp2 (cp2 (cp2 (cp2 M (k1 + 1) (k + 1) 8) (k1 + 2) (k + 2) 8) (k1 + 3) (k + 3) 8) (k1 + 4) (k + 4) 4) (k1 + 5) (k + 5) 4) (k1 + 6) (k + 6) 4) (k1 + 7) (k + 7) 4) k1 7)) k 8 ((up2 (cp2 (cp2 (cp2 (cp2 (cp2 (cp2 (cp2 M (k1 + 1) (k + 1) 8) (k1 + 2) (k + 2) 8) (k1 + 3) (k + 3) 8) (k1 + 4) (k + 4) 4) (k1 + 5) (k + 5) 4) (k1 + 6) (k + 6) 4) (k1 + 7) (k + 7) 4) k 7 ((cp2 (cp2 (cp2 (cp2 (cp2 (cp2 (cp2 M (k1 + 1) (k + 1) 8) (k1 + 2) (k + 2) 8) (k1 + 3) (k + 3) 8) (k1 + 4) (k + 4) 4) (k1 + 5) (k + 5) 4) (k1 + 6) (k + 6) 4) (k1 + 7) (k + 7) 4) k1 7)) k1 8)) k1 9)) k1 10)) k1 11))
set_option maxHeartbeats 4000000 in
set_option maxRecDepth 100000 in
theorem c_X5_copyFrom {X : Cx} {l : Launch} (hX : CxOk X) (hS : SC X) {N : Nat} {M : Mem} {k : Nat} {k1 : Nat} (hk : td k) (hk1 : td k1) {M' : Mem} (h : f_X5_copyFrom N M k k1 = some M') : Ctr X l yX5_copyFrom cX5_copyFrom 2 none 2 [.ref k, .ref k1] M none M' := by
  refine Ctr.ofG (L := [some (.ref k), some (.ref k1)]) hX (by decide) (Nat.le_of_ble_eq_true rfl) rfl (fun F hF hl hR => ?_)
  subst hl
  unfold f_X5_copyFrom at h
  refine g_aload_n hF (dck_at tX5_copyFrom 0 rfl) rfl ?_
  refine gf_X5_9 hF (td_m hS hk1) (td_kd hk1) (td_ln hk1) (t := (k1 + 1)) rfl (dck_at tX5_copyFrom 1 rfl) ?_
  refine g_iconst (v := 0) hF (dck_at tX5_copyFrom 2 rfl) (by decide) ?_
  refine g_aload_n hF (dck_at tX5_copyFrom 3 rfl) rfl ?_
  refine gf_X5_9 hF (td_m hS hk) (td_kd hk) (td_ln hk) (t := (k + 1)) rfl (dck_at tX5_copyFrom 4 rfl) ?_
  refine g_iconst (v := 0) hF (dck_at tX5_copyFrom 5 rfl) (by decide) ?_
  show G X F 10 _ _ _
  refine g_bipush (v := 8) hF (dck_at tX5_copyFrom 6 rfl) (by decide) ?_
  refine g_copy hF wm_X5_52 wv_copy wt_copy wn_J10 (ar_m hS (td_a0 hk1)) (td_a0 hk1).1 (ar_m hS (td_a0 hk)) (td_a0 hk).1 (by decide) (by rw [(td_a0 hk1).2.1]; decide) (by rw [(td_a0 hk).2.1]; decide) (by decide) rfl rfl (dck_at tX5_copyFrom 7 rfl) ?_
  show G X F 15 _ _ (cp2 M (k1 + 1) (k + 1) 8)
  refine g_aload_n hF (dck_at tX5_copyFrom 8 rfl) rfl ?_
  refine gf_X5_15 hF (td_m hS hk1) (td_kd hk1) (td_ln hk1) (t := (k1 + 2)) rfl (dck_at tX5_copyFrom 9 rfl) ?_
  refine g_iconst (v := 0) hF (dck_at tX5_copyFrom 10 rfl) (by decide) ?_
  refine g_aload_n hF (dck_at tX5_copyFrom 11 rfl) rfl ?_
  refine gf_X5_15 hF (td_m hS hk) (td_kd hk) (td_ln hk) (t := (k + 2)) rfl (dck_at tX5_copyFrom 12 rfl) ?_
  show G X F 24 _ _ _
  refine g_iconst (v := 0) hF (dck_at tX5_copyFrom 13 rfl) (by decide) ?_
  refine g_bipush (v := 8) hF (dck_at tX5_copyFrom 14 rfl) (by decide) ?_
  refine g_copy hF wm_X5_52 wv_copy wt_copy wn_J10 (ar_m hS (td_a1 hk1)) (td_a1 hk1).1 (ar_m hS (td_a1 hk)) (td_a1 hk).1 (by decide) (by rw [(td_a1 hk1).2.1]; decide) (by rw [(td_a1 hk).2.1]; decide) (by decide) rfl rfl (dck_at tX5_copyFrom 15 rfl) ?_
  show G X F 30 _ _ (cp2 (cp2 M (k1 + 1) (k + 1) 8) (k1 + 2) (k + 2) 8)
  refine g_aload_n hF (dck_at tX5_copyFrom 16 rfl) rfl ?_
  refine gf_X5_18 hF (td_m hS hk1) (td_kd hk1) (td_ln hk1) (t := (k1 + 3)) rfl (dck_at tX5_copyFrom 17 rfl) ?_
  refine g_iconst (v := 0) hF (dck_at tX5_copyFrom 18 rfl) (by decide) ?_
  refine g_aload_n hF (dck_at tX5_copyFrom 19 rfl) rfl ?_
  show G X F 36 _ _ _
  refine gf_X5_18 hF (td_m hS hk) (td_kd hk) (td_ln hk) (t := (k + 3)) rfl (dck_at tX5_copyFrom 20 rfl) ?_
  refine g_iconst (v := 0) hF (dck_at tX5_copyFrom 21 rfl) (by decide) ?_
  refine g_bipush (v := 8) hF (dck_at tX5_copyFrom 22 rfl) (by decide) ?_
  refine g_copy hF wm_X5_52 wv_copy wt_copy wn_J10 (ar_m hS (td_a2 hk1)) (td_a2 hk1).1 (ar_m hS (td_a2 hk)) (td_a2 hk).1 (by decide) (by rw [(td_a2 hk1).2.1]; decide) (by rw [(td_a2 hk).2.1]; decide) (by decide) rfl rfl (dck_at tX5_copyFrom 23 rfl) ?_
  show G X F 45 _ _ (cp2 (cp2 (cp2 M (k1 + 1) (k + 1) 8) (k1 + 2) (k + 2) 8) (k1 + 3) (k + 3) 8)
  refine g_aload_n hF (dck_at tX5_copyFrom 24 rfl) rfl ?_
  refine gf_X5_21 hF (td_m hS hk1) (td_kd hk1) (td_ln hk1) (t := (k1 + 4)) rfl (dck_at tX5_copyFrom 25 rfl) ?_
  refine g_iconst (v := 0) hF (dck_at tX5_copyFrom 26 rfl) (by decide) ?_
  show G X F 50 _ _ _
  refine g_aload_n hF (dck_at tX5_copyFrom 27 rfl) rfl ?_
  refine gf_X5_21 hF (td_m hS hk) (td_kd hk) (td_ln hk) (t := (k + 4)) rfl (dck_at tX5_copyFrom 28 rfl) ?_
  refine g_iconst (v := 0) hF (dck_at tX5_copyFrom 29 rfl) (by decide) ?_
  refine g_iconst (v := 4) hF (dck_at tX5_copyFrom 30 rfl) (by decide) ?_
  refine g_copy hF wm_X5_52 wv_copy wt_copy wn_J10 (ar_m hS (td_a3 hk1)) (td_a3 hk1).1 (ar_m hS (td_a3 hk)) (td_a3 hk).1 (by decide) (by rw [(td_a3 hk1).2.1]; decide) (by rw [(td_a3 hk).2.1]; decide) (by decide) rfl rfl (dck_at tX5_copyFrom 31 rfl) ?_
  show G X F 59 _ _ (cp2 (cp2 (cp2 (cp2 M (k1 + 1) (k + 1) 8) (k1 + 2) (k + 2) 8) (k1 + 3) (k + 3) 8) (k1 + 4) (k + 4) 4)
  refine g_aload_n hF (dck_at tX5_copyFrom 32 rfl) rfl ?_
  refine gf_X5_24 hF (td_m hS hk1) (td_kd hk1) (td_ln hk1) (t := (k1 + 5)) rfl (dck_at tX5_copyFrom 33 rfl) ?_
  show G X F 63 _ _ _
  refine g_iconst (v := 0) hF (dck_at tX5_copyFrom 34 rfl) (by decide) ?_
  refine g_aload_n hF (dck_at tX5_copyFrom 35 rfl) rfl ?_
  refine gf_X5_24 hF (td_m hS hk) (td_kd hk) (td_ln hk) (t := (k + 5)) rfl (dck_at tX5_copyFrom 36 rfl) ?_
  refine g_iconst (v := 0) hF (dck_at tX5_copyFrom 37 rfl) (by decide) ?_
  refine g_iconst (v := 4) hF (dck_at tX5_copyFrom 38 rfl) (by decide) ?_
  refine g_copy hF wm_X5_52 wv_copy wt_copy wn_J10 (ar_m hS (td_a4 hk1)) (td_a4 hk1).1 (ar_m hS (td_a4 hk)) (td_a4 hk).1 (by decide) (by rw [(td_a4 hk1).2.1]; decide) (by rw [(td_a4 hk).2.1]; decide) (by decide) rfl rfl (dck_at tX5_copyFrom 39 rfl) ?_
  show G X F 73 _ _ (cp2 (cp2 (cp2 (cp2 (cp2 M (k1 + 1) (k + 1) 8) (k1 + 2) (k + 2) 8) (k1 + 3) (k + 3) 8) (k1 + 4) (k + 4) 4) (k1 + 5) (k + 5) 4)
  refine g_aload_n hF (dck_at tX5_copyFrom 40 rfl) rfl ?_
  show G X F 74 _ _ _
  refine gf_X5_27 hF (td_m hS hk1) (td_kd hk1) (td_ln hk1) (t := (k1 + 6)) rfl (dck_at tX5_copyFrom 41 rfl) ?_
  refine g_iconst (v := 0) hF (dck_at tX5_copyFrom 42 rfl) (by decide) ?_
  refine g_aload_n hF (dck_at tX5_copyFrom 43 rfl) rfl ?_
  refine gf_X5_27 hF (td_m hS hk) (td_kd hk) (td_ln hk) (t := (k + 6)) rfl (dck_at tX5_copyFrom 44 rfl) ?_
  refine g_iconst (v := 0) hF (dck_at tX5_copyFrom 45 rfl) (by decide) ?_
  refine g_iconst (v := 4) hF (dck_at tX5_copyFrom 46 rfl) (by decide) ?_
  refine g_copy hF wm_X5_52 wv_copy wt_copy wn_J10 (ar_m hS (td_a5 hk1)) (td_a5 hk1).1 (ar_m hS (td_a5 hk)) (td_a5 hk).1 (by decide) (by rw [(td_a5 hk1).2.1]; decide) (by rw [(td_a5 hk).2.1]; decide) (by decide) rfl rfl (dck_at tX5_copyFrom 47 rfl) ?_
  show G X F 87 _ _ (cp2 (cp2 (cp2 (cp2 (cp2 (cp2 M (k1 + 1) (k + 1) 8) (k1 + 2) (k + 2) 8) (k1 + 3) (k + 3) 8) (k1 + 4) (k + 4) 4) (k1 + 5) (k + 5) 4) (k1 + 6) (k + 6) 4)
  show G X F 87 _ _ _
  refine g_aload_n hF (dck_at tX5_copyFrom 48 rfl) rfl ?_
  refine gf_X5_30 hF (td_m hS hk1) (td_kd hk1) (td_ln hk1) (t := (k1 + 7)) rfl (dck_at tX5_copyFrom 49 rfl) ?_
  refine g_iconst (v := 0) hF (dck_at tX5_copyFrom 50 rfl) (by decide) ?_
  refine g_aload_n hF (dck_at tX5_copyFrom 51 rfl) rfl ?_
  refine gf_X5_30 hF (td_m hS hk) (td_kd hk) (td_ln hk) (t := (k + 7)) rfl (dck_at tX5_copyFrom 52 rfl) ?_
  refine g_iconst (v := 0) hF (dck_at tX5_copyFrom 53 rfl) (by decide) ?_
  refine g_iconst (v := 4) hF (dck_at tX5_copyFrom 54 rfl) (by decide) ?_
  show G X F 98 _ _ _
  refine g_copy hF wm_X5_52 wv_copy wt_copy wn_J10 (ar_m hS (td_a6 hk1)) (td_a6 hk1).1 (ar_m hS (td_a6 hk)) (td_a6 hk).1 (by decide) (by rw [(td_a6 hk1).2.1]; decide) (by rw [(td_a6 hk).2.1]; decide) (by decide) rfl rfl (dck_at tX5_copyFrom 55 rfl) ?_
  show G X F 101 _ _ (cp2 (cp2 (cp2 (cp2 (cp2 (cp2 (cp2 M (k1 + 1) (k + 1) 8) (k1 + 2) (k + 2) 8) (k1 + 3) (k + 3) 8) (k1 + 4) (k + 4) 4) (k1 + 5) (k + 5) 4) (k1 + 6) (k + 6) 4) (k1 + 7) (k + 7) 4)
  refine g_aload_n hF (dck_at tX5_copyFrom 56 rfl) rfl ?_
  refine g_aload_n hF (dck_at tX5_copyFrom 57 rfl) rfl ?_
  refine gf_X5_36 hF (td_m hS hk1) (td_kd hk1) (td_ln hk1) (dck_at tX5_copyFrom 58 rfl) ?_
  refine pf_X5_36 hF (td_m hS hk) (td_kd hk) (td_ln hk) (dck_at tX5_copyFrom 59 rfl) ?_
  refine g_aload_n hF (dck_at tX5_copyFrom 60 rfl) rfl ?_
  refine g_aload_n hF (dck_at tX5_copyFrom 61 rfl) rfl ?_
  show G X F 111 _ _ _
  refine gf_X5_40 hF (td_m hS hk1) (td_kd hk1) (td_ln hk1) (dck_at tX5_copyFrom 62 rfl) ?_
  refine pf_X5_40 hF (td_m hS hk) (td_kd hk) (td_ln hk) (dck_at tX5_copyFrom 63 rfl) ?_
  refine g_aload_n hF (dck_at tX5_copyFrom 64 rfl) rfl ?_
  refine g_aload_n hF (dck_at tX5_copyFrom 65 rfl) rfl ?_
  refine gf_X5_43 hF (td_m hS hk1) (td_kd hk1) (td_ln hk1) (dck_at tX5_copyFrom 66 rfl) ?_
  refine pf_X5_43 hF (td_m hS hk) (td_kd hk) (td_ln hk) (dck_at tX5_copyFrom 67 rfl) ?_
  refine g_aload_n hF (dck_at tX5_copyFrom 68 rfl) rfl ?_
  show G X F 126 _ _ _
  refine g_aload_n hF (dck_at tX5_copyFrom 69 rfl) rfl ?_
  refine gf_X5_46 hF (td_m hS hk1) (td_kd hk1) (td_ln hk1) (dck_at tX5_copyFrom 70 rfl) ?_
  refine pf_X5_46 hF (td_m hS hk) (td_kd hk) (td_ln hk) (dck_at tX5_copyFrom 71 rfl) ?_
  refine g_aload_n hF (dck_at tX5_copyFrom 72 rfl) rfl ?_
  refine g_aload_n hF (dck_at tX5_copyFrom 73 rfl) rfl ?_
  refine gf_X5_49 hF (td_m hS hk1) (td_kd hk1) (td_ln hk1) (dck_at tX5_copyFrom 74 rfl) ?_
  refine pf_X5_49 hF (td_m hS hk) (td_kd hk) (td_ln hk) (dck_at tX5_copyFrom 75 rfl) ?_
  show G X F 141 _ _ _
  cases h
  exact g_vret hF hR (dck_at tX5_copyFrom 76 rfl)

def tbX5_hasRoomFor : List (Nat × Instr × Nat) := [(0, .iload_n 1, 1), (1, .iconst 1, 1), (2, .if_icmp .ne 18, 3), (5, .aload_n 0, 1), (6, .getfield 36, 3), (9, .bipush 8, 2), (11, .if_icmp .ge 7, 3), (14, .iconst 1, 1), (15, .goto 4, 3), (18, .iconst 0, 1), (19, .ireturn, 1), (20, .iload_n 1, 1), (21, .iconst 2, 1), (22, .if_icmp .ne 11, 3), (25, .aload_n 0, 1), (26, .getfield 40, 3), (29, .iconst 4, 1), (30, .if_icmp .ge 7, 3), (33, .iconst 1, 1), (34, .goto 4, 3), (37, .iconst 0, 1), (38, .ireturn, 1)]
theorem tX5_hasRoomFor : dck cX5_hasRoomFor tbX5_hasRoomFor = true := by decide +kernel
def f_X5_hasRoomFor (N : Nat) (M : Mem) (k : Nat) (x1 : Int32) : Option Int32 := (if x1 = (1 : Int32) then (if (8 : Int32) ≤ (M k 7) then some (0 : Int32) else some (1 : Int32)) else (if x1 = (2 : Int32) then (if (4 : Int32) ≤ (M k 8) then some (0 : Int32) else some (1 : Int32)) else some (1 : Int32)))
set_option maxHeartbeats 4000000 in
set_option maxRecDepth 100000 in
theorem c_X5_hasRoomFor {X : Cx} {l : Launch} (hX : CxOk X) (hS : SC X) {N : Nat} {M : Mem} {k : Nat} {x1 : Int32} (hk : td k) {r : Int32} (h : f_X5_hasRoomFor N M k x1 = some r) : Ctr X l yX5_hasRoomFor cX5_hasRoomFor 2 (some .boolean) 1 [.ref k, .int x1] M (some (.int r)) M := by
  refine Ctr.ofG (L := [some (.ref k), some (.int x1)]) hX (by decide) (Nat.le_of_ble_eq_true rfl) rfl (fun F hF hl hR => ?_)
  subst hl
  unfold f_X5_hasRoomFor at h
  refine g_iload_n hF (dck_at tX5_hasRoomFor 0 rfl) rfl ?_
  refine g_iconst (v := 1) hF (dck_at tX5_hasRoomFor 1 rfl) (by decide) ?_
  refine g_icmp_ne hF 20 (dck_at tX5_hasRoomFor 2 rfl) (by decide) (fun hc2 => ?_) (fun hc2 => ?_)
  · replace h := ite_f hc2 h
    refine g_iload_n hF (dck_at tX5_hasRoomFor 11 rfl) rfl ?_
    refine g_iconst (v := 2) hF (dck_at tX5_hasRoomFor 12 rfl) (by decide) ?_
    refine g_icmp_ne hF 33 (dck_at tX5_hasRoomFor 13 rfl) (by decide) (fun hc22 => ?_) (fun hc22 => ?_)
    · replace h := ite_f hc22 h
      refine g_iconst (v := 1) hF (dck_at tX5_hasRoomFor 18 rfl) (by decide) ?_
      refine g_goto hF 38 (dck_at tX5_hasRoomFor 19 rfl) (by decide) ?_
      cases h
      exact g_zret hF hR rfl (dck_at tX5_hasRoomFor 21 rfl)
    · replace h := ite_t hc22 h
      refine g_aload_n hF (dck_at tX5_hasRoomFor 14 rfl) rfl ?_
      refine gf_X5_40 hF (td_m hS hk) (td_kd hk) (td_ln hk) (dck_at tX5_hasRoomFor 15 rfl) ?_
      refine g_iconst (v := 4) hF (dck_at tX5_hasRoomFor 16 rfl) (by decide) ?_
      refine g_icmp_ge hF 37 (dck_at tX5_hasRoomFor 17 rfl) (by decide) (fun hc30 => ?_) (fun hc30 => ?_)
      · replace h := ite_t hc30 h
        refine g_iconst (v := 0) hF (dck_at tX5_hasRoomFor 20 rfl) (by decide) ?_
        cases h
        exact g_zret hF hR rfl (dck_at tX5_hasRoomFor 21 rfl)
      · replace h := ite_f hc30 h
        refine g_iconst (v := 1) hF (dck_at tX5_hasRoomFor 18 rfl) (by decide) ?_
        refine g_goto hF 38 (dck_at tX5_hasRoomFor 19 rfl) (by decide) ?_
        cases h
        exact g_zret hF hR rfl (dck_at tX5_hasRoomFor 21 rfl)
  · replace h := ite_t hc2 h
    refine g_aload_n hF (dck_at tX5_hasRoomFor 3 rfl) rfl ?_
    refine gf_X5_36 hF (td_m hS hk) (td_kd hk) (td_ln hk) (dck_at tX5_hasRoomFor 4 rfl) ?_
    refine g_bipush (v := 8) hF (dck_at tX5_hasRoomFor 5 rfl) (by decide) ?_
    refine g_icmp_ge hF 18 (dck_at tX5_hasRoomFor 6 rfl) (by decide) (fun hc11 => ?_) (fun hc11 => ?_)
    · replace h := ite_t hc11 h
      refine g_iconst (v := 0) hF (dck_at tX5_hasRoomFor 9 rfl) (by decide) ?_
      cases h
      exact g_zret hF hR rfl (dck_at tX5_hasRoomFor 10 rfl)
    · replace h := ite_f hc11 h
      refine g_iconst (v := 1) hF (dck_at tX5_hasRoomFor 7 rfl) (by decide) ?_
      refine g_goto hF 19 (dck_at tX5_hasRoomFor 8 rfl) (by decide) ?_
      cases h
      exact g_zret hF hR rfl (dck_at tX5_hasRoomFor 10 rfl)

def tbX5_beAsAtFirst : List (Nat × Instr × Nat) := [(0, .aload_n 0, 1), (1, .iconst 0, 1), (2, .putfield 36, 3), (5, .aload_n 0, 1), (6, .iconst 0, 1), (7, .putfield 40, 3), (10, .aload_n 0, 1), (11, .bipush 10, 2), (13, .putfield 43, 3), (16, .aload_n 0, 1), (17, .bipush 60, 2), (19, .putfield 46, 3), (22, .aload_n 0, 1), (23, .iconst 1, 1), (24, .putfield 49, 3), (27, .return_, 1)]
theorem tX5_beAsAtFirst : dck cX5_beAsAtFirst tbX5_beAsAtFirst = true := by decide +kernel
def f_X5_beAsAtFirst (N : Nat) (M : Mem) (k : Nat) : Option Mem := some (up2 (up2 (up2 (up2 (up2 M k 7 (0 : Int32)) k 8 (0 : Int32)) k 9 (10 : Int32)) k 10 (60 : Int32)) k 11 (1 : Int32))
set_option maxHeartbeats 4000000 in
set_option maxRecDepth 100000 in
theorem c_X5_beAsAtFirst {X : Cx} {l : Launch} (hX : CxOk X) (hS : SC X) {N : Nat} {M : Mem} {k : Nat} (hk : td k) {M' : Mem} (h : f_X5_beAsAtFirst N M k = some M') : Ctr X l yX5_beAsAtFirst cX5_beAsAtFirst 1 none 1 [.ref k] M none M' := by
  refine Ctr.ofG (L := [some (.ref k)]) hX (by decide) (Nat.le_of_ble_eq_true rfl) rfl (fun F hF hl hR => ?_)
  subst hl
  unfold f_X5_beAsAtFirst at h
  refine g_aload_n hF (dck_at tX5_beAsAtFirst 0 rfl) rfl ?_
  refine g_iconst (v := 0) hF (dck_at tX5_beAsAtFirst 1 rfl) (by decide) ?_
  refine pf_X5_36 hF (td_m hS hk) (td_kd hk) (td_ln hk) (dck_at tX5_beAsAtFirst 2 rfl) ?_
  refine g_aload_n hF (dck_at tX5_beAsAtFirst 3 rfl) rfl ?_
  refine g_iconst (v := 0) hF (dck_at tX5_beAsAtFirst 4 rfl) (by decide) ?_
  refine pf_X5_40 hF (td_m hS hk) (td_kd hk) (td_ln hk) (dck_at tX5_beAsAtFirst 5 rfl) ?_
  show G X F 10 _ _ _
  refine g_aload_n hF (dck_at tX5_beAsAtFirst 6 rfl) rfl ?_
  refine g_bipush (v := 10) hF (dck_at tX5_beAsAtFirst 7 rfl) (by decide) ?_
  refine pf_X5_43 hF (td_m hS hk) (td_kd hk) (td_ln hk) (dck_at tX5_beAsAtFirst 8 rfl) ?_
  refine g_aload_n hF (dck_at tX5_beAsAtFirst 9 rfl) rfl ?_
  refine g_bipush (v := 60) hF (dck_at tX5_beAsAtFirst 10 rfl) (by decide) ?_
  refine pf_X5_46 hF (td_m hS hk) (td_kd hk) (td_ln hk) (dck_at tX5_beAsAtFirst 11 rfl) ?_
  refine g_aload_n hF (dck_at tX5_beAsAtFirst 12 rfl) rfl ?_
  show G X F 23 _ _ _
  refine g_iconst (v := 1) hF (dck_at tX5_beAsAtFirst 13 rfl) (by decide) ?_
  refine pf_X5_49 hF (td_m hS hk) (td_kd hk) (td_ln hk) (dck_at tX5_beAsAtFirst 14 rfl) ?_
  cases h
  exact g_vret hF hR (dck_at tX5_beAsAtFirst 15 rfl)

def tbX5_addClapper : List (Nat × Instr × Nat) := [(0, .aload_n 0, 1), (1, .getfield 36, 3), (4, .bipush 8, 2), (6, .if_icmp .ge 47, 3), (9, .aload_n 0, 1), (10, .getfield 9, 3), (13, .aload_n 0, 1), (14, .getfield 36, 3), (17, .iload_n 1, 1), (18, .iastore, 1), (19, .aload_n 0, 1), (20, .getfield 15, 3), (23, .aload_n 0, 1), (24, .getfield 36, 3), (27, .aload_n 2, 1), (28, .iconst 0, 1), (29, .iaload, 1), (30, .iastore, 1), (31, .aload_n 0, 1), (32, .getfield 18, 3), (35, .aload_n 0, 1), (36, .getfield 36, 3), (39, .aload_n 2, 1), (40, .iconst 1, 1), (41, .iaload, 1), (42, .iastore, 1), (43, .aload_n 0, 1), (44, .dup, 1), (45, .getfield 36, 3), (48, .iconst 1, 1), (49, .iadd, 1), (50, .putfield 36, 3), (53, .return_, 1)]
theorem tX5_addClapper : dck cX5_addClapper tbX5_addClapper = true := by decide +kernel
def f_X5_addClapper (N : Nat) (M : Mem) (k : Nat) (x1 : Int32) (k2 : Nat) : Option Mem := (if (8 : Int32) ≤ (M k 7) then some M else if inb (M k 7) 8 = true then if inb ((up2 M (k + 1) (M k 7).toNatClampNeg x1) k 7) 8 = true then if inb ((up2 (up2 M (k + 1) (M k 7).toNatClampNeg x1) (k + 2) ((up2 M (k + 1) (M k 7).toNatClampNeg x1) k 7).toNatClampNeg ((up2 M (k + 1) (M k 7).toNatClampNeg x1) k2 0)) k 7) 8 = true then some (up2 (up2 (up2 (up2 M (k + 1) (M k 7).toNatClampNeg x1) (k + 2) ((up2 M (k + 1) (M k 7).toNatClampNeg x1) k 7).toNatClampNeg ((up2 M (k + 1) (M k 7).toNatClampNeg x1) k2 0)) (k + 3) ((up2 (up2 M (k + 1) (M k 7).toNatClampNeg x1) (k + 2) ((up2 M (k + 1) (M k 7).toNatClampNeg x1) k 7).toNatClampNeg ((up2 M (k + 1) (M k 7).toNatClampNeg x1) k2 0)) k 7).toNatClampNeg ((up2 (up2 M (k + 1) (M k 7).toNatClampNeg x1) (k + 2) ((up2 M (k + 1) (M k 7).toNatClampNeg x1) k 7).toNatClampNeg ((up2 M (k + 1) (M k 7).toNatClampNeg x1) k2 0)) k2 1)) k 7 (((up2 (up2 (up2 M (k + 1) (M k 7).toNatClampNeg x1) (k + 2) ((up2 M (k + 1) (M k 7).toNatClampNeg x1) k 7).toNatClampNeg ((up2 M (k + 1) (M k 7).toNatClampNeg x1) k2 0)) (k + 3) ((up2 (up2 M (k + 1) (M k 7).toNatClampNeg x1) (k + 2) ((up2 M (k + 1) (M k 7).toNatClampNeg x1) k 7).toNatClampNeg ((up2 M (k + 1) (M k 7).toNatClampNeg x1) k2 0)) k 7).toNatClampNeg ((up2 (up2 M (k + 1) (M k 7).toNatClampNeg x1) (k + 2) ((up2 M (k + 1) (M k 7).toNatClampNeg x1) k 7).toNatClampNeg ((up2 M (k + 1) (M k 7).toNatClampNeg x1) k2 0)) k2 1)) k 7) + (1 : Int32))) else none else none else none)
set_option maxHeartbeats 4000000 in
set_option maxRecDepth 100000 in
theorem c_X5_addClapper {X : Cx} {l : Launch} (hX : CxOk X) (hS : SC X) {N : Nat} {M : Mem} {k : Nat} {x1 : Int32} {k2 : Nat} (hk : td k) (hk2 : ar 3 k2) {M' : Mem} (h : f_X5_addClapper N M k x1 k2 = some M') : Ctr X l yX5_addClapper cX5_addClapper 3 none 1 [.ref k, .int x1, .ref k2] M none M' := by
  refine Ctr.ofG (L := [some (.ref k), some (.int x1), some (.ref k2)]) hX (by decide) (Nat.le_of_ble_eq_true rfl) rfl (fun F hF hl hR => ?_)
  subst hl
  unfold f_X5_addClapper at h
  refine g_aload_n hF (dck_at tX5_addClapper 0 rfl) rfl ?_
  refine gf_X5_36 hF (td_m hS hk) (td_kd hk) (td_ln hk) (dck_at tX5_addClapper 1 rfl) ?_
  refine g_bipush (v := 8) hF (dck_at tX5_addClapper 2 rfl) (by decide) ?_
  refine g_icmp_ge hF 53 (dck_at tX5_addClapper 3 rfl) (by decide) (fun hc6 => ?_) (fun hc6 => ?_)
  · replace h := ite_t hc6 h
    cases h
    exact g_vret hF hR (dck_at tX5_addClapper 32 rfl)
  · replace h := ite_f hc6 h
    refine g_aload_n hF (dck_at tX5_addClapper 4 rfl) rfl ?_
    refine gf_X5_9 hF (td_m hS hk) (td_kd hk) (td_ln hk) (t := (k + 1)) rfl (dck_at tX5_addClapper 5 rfl) ?_
    refine g_aload_n hF (dck_at tX5_addClapper 6 rfl) rfl ?_
    refine gf_X5_36 hF (td_m hS hk) (td_kd hk) (td_ln hk) (dck_at tX5_addClapper 7 rfl) ?_
    refine g_iload_n hF (dck_at tX5_addClapper 8 rfl) rfl ?_
    obtain ⟨hg18, h⟩ := gd h
    refine g_is hF (ar_m hS (td_a0 hk)) (td_a0 hk).1 (td_a0 hk).2.1 hg18 (dck_at tX5_addClapper 9 rfl) ?_
    show G X F 19 _ _ _
    refine g_aload_n hF (dck_at tX5_addClapper 10 rfl) rfl ?_
    refine gf_X5_15 hF (td_m hS hk) (td_kd hk) (td_ln hk) (t := (k + 2)) rfl (dck_at tX5_addClapper 11 rfl) ?_
    refine g_aload_n hF (dck_at tX5_addClapper 12 rfl) rfl ?_
    refine gf_X5_36 hF (td_m hS hk) (td_kd hk) (td_ln hk) (dck_at tX5_addClapper 13 rfl) ?_
    refine g_aload_n hF (dck_at tX5_addClapper 14 rfl) rfl ?_
    refine g_iconst (v := 0) hF (dck_at tX5_addClapper 15 rfl) (by decide) ?_
    refine g_iac (j := 0) hF (ar_m hS hk2) hk2.1 hk2.2.1 (by decide) (by decide) (dck_at tX5_addClapper 16 rfl) ?_
    show G X F 30 _ _ _
    obtain ⟨hg30, h⟩ := gd h
    refine g_is hF (ar_m hS (td_a1 hk)) (td_a1 hk).1 (td_a1 hk).2.1 hg30 (dck_at tX5_addClapper 17 rfl) ?_
    refine g_aload_n hF (dck_at tX5_addClapper 18 rfl) rfl ?_
    refine gf_X5_18 hF (td_m hS hk) (td_kd hk) (td_ln hk) (t := (k + 3)) rfl (dck_at tX5_addClapper 19 rfl) ?_
    refine g_aload_n hF (dck_at tX5_addClapper 20 rfl) rfl ?_
    refine gf_X5_36 hF (td_m hS hk) (td_kd hk) (td_ln hk) (dck_at tX5_addClapper 21 rfl) ?_
    refine g_aload_n hF (dck_at tX5_addClapper 22 rfl) rfl ?_
    refine g_iconst (v := 1) hF (dck_at tX5_addClapper 23 rfl) (by decide) ?_
    show G X F 41 _ _ _
    refine g_iac (j := 1) hF (ar_m hS hk2) hk2.1 hk2.2.1 (by decide) (by decide) (dck_at tX5_addClapper 24 rfl) ?_
    obtain ⟨hg42, h⟩ := gd h
    refine g_is hF (ar_m hS (td_a2 hk)) (td_a2 hk).1 (td_a2 hk).2.1 hg42 (dck_at tX5_addClapper 25 rfl) ?_
    refine g_aload_n hF (dck_at tX5_addClapper 26 rfl) rfl ?_
    refine g_dup hF (dck_at tX5_addClapper 27 rfl) rfl ?_
    refine gf_X5_36 hF (td_m hS hk) (td_kd hk) (td_ln hk) (dck_at tX5_addClapper 28 rfl) ?_
    refine g_iconst (v := 1) hF (dck_at tX5_addClapper 29 rfl) (by decide) ?_
    refine g_iadd hF (dck_at tX5_addClapper 30 rfl) ?_
    show G X F 50 _ _ _
    refine pf_X5_36 hF (td_m hS hk) (td_kd hk) (td_ln hk) (dck_at tX5_addClapper 31 rfl) ?_
    cases h
    exact g_vret hF hR (dck_at tX5_addClapper 32 rfl)

def tbX5_addEncore : List (Nat × Instr × Nat) := [(0, .aload_n 0, 1), (1, .getfield 40, 3), (4, .iconst 4, 1), (5, .if_icmp .ge 59, 3), (8, .aload_n 0, 1), (9, .getfield 21, 3), (12, .aload_n 0, 1), (13, .getfield 40, 3), (16, .iload_n 1, 1), (17, .iastore, 1), (18, .aload_n 0, 1), (19, .getfield 24, 3), (22, .aload_n 0, 1), (23, .getfield 40, 3), (26, .aload_n 2, 1), (27, .iconst 0, 1), (28, .iaload, 1), (29, .iastore, 1), (30, .aload_n 0, 1), (31, .getfield 27, 3), (34, .aload_n 0, 1), (35, .getfield 40, 3), (38, .aload_n 2, 1), (39, .iconst 1, 1), (40, .iaload, 1), (41, .iastore, 1), (42, .aload_n 0, 1), (43, .getfield 30, 3), (46, .aload_n 0, 1), (47, .getfield 40, 3), (50, .aload_n 2, 1), (51, .iconst 2, 1), (52, .iaload, 1), (53, .iastore, 1), (54, .aload_n 0, 1), (55, .dup, 1), (56, .getfield 40, 3), (59, .iconst 1, 1), (60, .iadd, 1), (61, .putfield 40, 3), (64, .return_, 1)]
theorem tX5_addEncore : dck cX5_addEncore tbX5_addEncore = true := by decide +kernel
def f_X5_addEncore (N : Nat) (M : Mem) (k : Nat) (x1 : Int32) (k2 : Nat) : Option Mem := (if (4 : Int32) ≤ (M k 8) then some M else if inb (M k 8) 4 = true then if inb ((up2 M (k + 4) (M k 8).toNatClampNeg x1) k 8) 4 = true then if inb ((up2 (up2 M (k + 4) (M k 8).toNatClampNeg x1) (k + 5) ((up2 M (k + 4) (M k 8).toNatClampNeg x1) k 8).toNatClampNeg ((up2 M (k + 4) (M k 8).toNatClampNeg x1) k2 0)) k 8) 4 = true then if inb ((up2 (up2 (up2 M (k + 4) (M k 8).toNatClampNeg x1) (k + 5) ((up2 M (k + 4) (M k 8).toNatClampNeg x1) k 8).toNatClampNeg ((up2 M (k + 4) (M k 8).toNatClampNeg x1) k2 0)) (k + 6) ((up2 (up2 M (k + 4) (M k 8).toNatClampNeg x1) (k + 5) ((up2 M (k + 4) (M k 8).toNatClampNeg x1) k 8).toNatClampNeg ((up2 M (k + 4) (M k 8).toNatClampNeg x1) k2 0)) k 8).toNatClampNeg ((up2 (up2 M (k + 4) (M k 8).toNatClampNeg x1) (k + 5) ((up2 M (k + 4) (M k 8).toNatClampNeg x1) k 8).toNatClampNeg ((up2 M (k + 4) (M k 8).toNatClampNeg x1) k2 0)) k2 1)) k 8) 4 = true then some (up2 (up2 (up2 (up2 (up2 M (k + 4) (M k 8).toNatClampNeg x1) (k + 5) ((up2 M (k + 4) (M k 8).toNatClampNeg x1) k 8).toNatClampNeg ((up2 M (k + 4) (M k 8).toNatClampNeg x1) k2 0)) (k + 6) ((up2 (up2 M (k + 4) (M k 8).toNatClampNeg x1) (k + 5) ((up2 M (k + 4) (M k 8).toNatClampNeg x1) k 8).toNatClampNeg ((up2 M (k + 4) (M k 8).toNatClampNeg x1) k2 0)) k 8).toNatClampNeg ((up2 (up2 M (k + 4) (M k 8).toNatClampNeg x1) (k + 5) ((up2 M (k + 4) (M k 8).toNatClampNeg x1) k 8).toNatClampNeg ((up2 M (k + 4) (M k 8).toNatClampNeg x1) k2 0)) k2 1)) (k + 7) ((up2 (up2 (up2 M (k + 4) (M k 8).toNatClampNeg x1) (k + 5) ((up2 M (k + 4) (M k 8).toNatClampNeg x1) k 8).toNatClampNeg ((up2 M (k + 4) (M k 8).toNatClampNeg x1) k2 0)) (k + 6) ((up2 (up2 M (k + 4) (M k 8).toNatClampNeg x1) (k + 5) ((up2 M (k + 4) (M k 8).toNatClampNeg x1) k 8).toNatClampNeg ((up2 M (k + 4) (M k 8).toNatClampNeg x1) k2 0)) k 8).toNatClampNeg ((up2 (up2 M (k + 4) (M k 8).toNatClampNeg x1) (k + 5) ((up2 M (k + 4) (M k 8).toNatClampNeg x1) k 8).toNatClampNeg ((up2 M (k + 4) (M k 8).toNatClampNeg x1) k2 0)) k2 1)) k 8).toNatClampNeg ((up2 (up2 (up2 M (k + 4) (M k 8).toNatClampNeg x1) (k + 5) ((up2 M (k + 4) (M k 8).toNatClampNeg x1) k 8).toNatClampNeg ((up2 M (k + 4) (M k 8).toNatClampNeg x1) k2 0)) (k + 6) ((up2 (up2 M (k + 4) (M k 8).toNatClampNeg x1) (k + 5) ((up2 M (k + 4) (M k 8).toNatClampNeg x1) k 8).toNatClampNeg ((up2 M (k + 4) (M k 8).toNatClampNeg x1) k2 0)) k 8).toNatClampNeg ((up2 (up2 M (k + 4) (M k 8).toNatClampNeg x1) (k + 5) ((up2 M (k + 4) (M k 8).toNatClampNeg x1) k 8).toNatClampNeg ((up2 M (k + 4) (M k 8).toNatClampNeg x1) k2 0)) k2 1)) k2 2)) k 8 (((up2 (up2 (up2 (up2 M (k + 4) (M k 8).toNatClampNeg x1) (k + 5) ((up2 M (k + 4) (M k 8).toNatClampNeg x1) k 8).toNatClampNeg ((up2 M (k + 4) (M k 8).toNatClampNeg x1) k2 0)) (k + 6) ((up2 (up2 M (k + 4) (M k 8).toNatClampNeg x1) (k + 5) ((up2 M (k + 4) (M k 8).toNatClampNeg x1) k 8).toNatClampNeg ((up2 M (k + 4) (M k 8).toNatClampNeg x1) k2 0)) k 8).toNatClampNeg ((up2 (up2 M (k + 4) (M k 8).toNatClampNeg x1) (k + 5) ((up2 M (k + 4) (M k 8).toNatClampNeg x1) k 8).toNatClampNeg ((up2 M (k + 4) (M k 8).toNatClampNeg x1) k2 0)) k2 1)) (k + 7) ((up2 (up2 (up2 M (k + 4) (M k 8).toNatClampNeg x1) (k + 5) ((up2 M (k + 4) (M k 8).toNatClampNeg x1) k 8).toNatClampNeg ((up2 M (k + 4) (M k 8).toNatClampNeg x1) k2 0)) (k + 6) ((up2 (up2 M (k + 4) (M k 8).toNatClampNeg x1) (k + 5) ((up2 M (k + 4) (M k 8).toNatClampNeg x1) k 8).toNatClampNeg ((up2 M (k + 4) (M k 8).toNatClampNeg x1) k2 0)) k 8).toNatClampNeg ((up2 (up2 M (k + 4) (M k 8).toNatClampNeg x1) (k + 5) ((up2 M (k + 4) (M k 8).toNatClampNeg x1) k 8).toNatClampNeg ((up2 M (k + 4) (M k 8).toNatClampNeg x1) k2 0)) k2 1)) k 8).toNatClampNeg ((up2 (up2 (up2 M (k + 4) (M k 8).toNatClampNeg x1) (k + 5) ((up2 M (k + 4) (M k 8).toNatClampNeg x1) k 8).toNatClampNeg ((up2 M (k + 4) (M k 8).toNatClampNeg x1) k2 0)) (k + 6) ((up2 (up2 M (k + 4) (M k 8).toNatClampNeg x1) (k + 5) ((up2 M (k + 4) (M k 8).toNatClampNeg x1) k 8).toNatClampNeg ((up2 M (k + 4) (M k 8).toNatClampNeg x1) k2 0)) k 8).toNatClampNeg ((up2 (up2 M (k + 4) (M k 8).toNatClampNeg x1) (k + 5) ((up2 M (k + 4) (M k 8).toNatClampNeg x1) k 8).toNatClampNeg ((up2 M (k + 4) (M k 8).toNatClampNeg x1) k2 0)) k2 1)) k2 2)) k 8) + (1 : Int32))) else none else none else none else none)
set_option maxHeartbeats 4000000 in
set_option maxRecDepth 100000 in
theorem c_X5_addEncore {X : Cx} {l : Launch} (hX : CxOk X) (hS : SC X) {N : Nat} {M : Mem} {k : Nat} {x1 : Int32} {k2 : Nat} (hk : td k) (hk2 : ar 3 k2) {M' : Mem} (h : f_X5_addEncore N M k x1 k2 = some M') : Ctr X l yX5_addEncore cX5_addEncore 3 none 1 [.ref k, .int x1, .ref k2] M none M' := by
  refine Ctr.ofG (L := [some (.ref k), some (.int x1), some (.ref k2)]) hX (by decide) (Nat.le_of_ble_eq_true rfl) rfl (fun F hF hl hR => ?_)
  subst hl
  unfold f_X5_addEncore at h
  refine g_aload_n hF (dck_at tX5_addEncore 0 rfl) rfl ?_
  refine gf_X5_40 hF (td_m hS hk) (td_kd hk) (td_ln hk) (dck_at tX5_addEncore 1 rfl) ?_
  refine g_iconst (v := 4) hF (dck_at tX5_addEncore 2 rfl) (by decide) ?_
  refine g_icmp_ge hF 64 (dck_at tX5_addEncore 3 rfl) (by decide) (fun hc5 => ?_) (fun hc5 => ?_)
  · replace h := ite_t hc5 h
    cases h
    exact g_vret hF hR (dck_at tX5_addEncore 40 rfl)
  · replace h := ite_f hc5 h
    refine g_aload_n hF (dck_at tX5_addEncore 4 rfl) rfl ?_
    refine gf_X5_21 hF (td_m hS hk) (td_kd hk) (td_ln hk) (t := (k + 4)) rfl (dck_at tX5_addEncore 5 rfl) ?_
    refine g_aload_n hF (dck_at tX5_addEncore 6 rfl) rfl ?_
    refine gf_X5_40 hF (td_m hS hk) (td_kd hk) (td_ln hk) (dck_at tX5_addEncore 7 rfl) ?_
    refine g_iload_n hF (dck_at tX5_addEncore 8 rfl) rfl ?_
    obtain ⟨hg17, h⟩ := gd h
    refine g_is hF (ar_m hS (td_a3 hk)) (td_a3 hk).1 (td_a3 hk).2.1 hg17 (dck_at tX5_addEncore 9 rfl) ?_
    show G X F 18 _ _ _
    refine g_aload_n hF (dck_at tX5_addEncore 10 rfl) rfl ?_
    refine gf_X5_24 hF (td_m hS hk) (td_kd hk) (td_ln hk) (t := (k + 5)) rfl (dck_at tX5_addEncore 11 rfl) ?_
    refine g_aload_n hF (dck_at tX5_addEncore 12 rfl) rfl ?_
    refine gf_X5_40 hF (td_m hS hk) (td_kd hk) (td_ln hk) (dck_at tX5_addEncore 13 rfl) ?_
    refine g_aload_n hF (dck_at tX5_addEncore 14 rfl) rfl ?_
    refine g_iconst (v := 0) hF (dck_at tX5_addEncore 15 rfl) (by decide) ?_
    refine g_iac (j := 0) hF (ar_m hS hk2) hk2.1 hk2.2.1 (by decide) (by decide) (dck_at tX5_addEncore 16 rfl) ?_
    show G X F 29 _ _ _
    obtain ⟨hg29, h⟩ := gd h
    refine g_is hF (ar_m hS (td_a4 hk)) (td_a4 hk).1 (td_a4 hk).2.1 hg29 (dck_at tX5_addEncore 17 rfl) ?_
    refine g_aload_n hF (dck_at tX5_addEncore 18 rfl) rfl ?_
    refine gf_X5_27 hF (td_m hS hk) (td_kd hk) (td_ln hk) (t := (k + 6)) rfl (dck_at tX5_addEncore 19 rfl) ?_
    refine g_aload_n hF (dck_at tX5_addEncore 20 rfl) rfl ?_
    refine gf_X5_40 hF (td_m hS hk) (td_kd hk) (td_ln hk) (dck_at tX5_addEncore 21 rfl) ?_
    refine g_aload_n hF (dck_at tX5_addEncore 22 rfl) rfl ?_
    refine g_iconst (v := 1) hF (dck_at tX5_addEncore 23 rfl) (by decide) ?_
    show G X F 40 _ _ _
    refine g_iac (j := 1) hF (ar_m hS hk2) hk2.1 hk2.2.1 (by decide) (by decide) (dck_at tX5_addEncore 24 rfl) ?_
    obtain ⟨hg41, h⟩ := gd h
    refine g_is hF (ar_m hS (td_a5 hk)) (td_a5 hk).1 (td_a5 hk).2.1 hg41 (dck_at tX5_addEncore 25 rfl) ?_
    refine g_aload_n hF (dck_at tX5_addEncore 26 rfl) rfl ?_
    refine gf_X5_30 hF (td_m hS hk) (td_kd hk) (td_ln hk) (t := (k + 7)) rfl (dck_at tX5_addEncore 27 rfl) ?_
    refine g_aload_n hF (dck_at tX5_addEncore 28 rfl) rfl ?_
    refine gf_X5_40 hF (td_m hS hk) (td_kd hk) (td_ln hk) (dck_at tX5_addEncore 29 rfl) ?_
    refine g_aload_n hF (dck_at tX5_addEncore 30 rfl) rfl ?_
    show G X F 51 _ _ _
    refine g_iconst (v := 2) hF (dck_at tX5_addEncore 31 rfl) (by decide) ?_
    refine g_iac (j := 2) hF (ar_m hS hk2) hk2.1 hk2.2.1 (by decide) (by decide) (dck_at tX5_addEncore 32 rfl) ?_
    obtain ⟨hg53, h⟩ := gd h
    refine g_is hF (ar_m hS (td_a6 hk)) (td_a6 hk).1 (td_a6 hk).2.1 hg53 (dck_at tX5_addEncore 33 rfl) ?_
    refine g_aload_n hF (dck_at tX5_addEncore 34 rfl) rfl ?_
    refine g_dup hF (dck_at tX5_addEncore 35 rfl) rfl ?_
    refine gf_X5_40 hF (td_m hS hk) (td_kd hk) (td_ln hk) (dck_at tX5_addEncore 36 rfl) ?_
    refine g_iconst (v := 1) hF (dck_at tX5_addEncore 37 rfl) (by decide) ?_
    show G X F 60 _ _ _
    refine g_iadd hF (dck_at tX5_addEncore 38 rfl) ?_
    refine pf_X5_40 hF (td_m hS hk) (td_kd hk) (td_ln hk) (dck_at tX5_addEncore 39 rfl) ?_
    cases h
    exact g_vret hF hR (dck_at tX5_addEncore 40 rfl)

def tbX5_carryOut : List (Nat × Instr × Nat) := [(0, .iload_n 1, 1), (1, .tableswitch 94 0 5 #[39, 46, 55, 64, 74, 84], 39), (40, .aload_n 0, 1), (41, .invokevirtual 33, 3), (44, .goto 56, 3), (47, .aload_n 0, 1), (48, .iload_n 2, 1), (49, .aload_n 3, 1), (50, .invokevirtual 62, 3), (53, .goto 47, 3), (56, .aload_n 0, 1), (57, .iload_n 2, 1), (58, .aload_n 3, 1), (59, .invokevirtual 66, 3), (62, .goto 38, 3), (65, .aload_n 0, 1), (66, .aload_n 3, 1), (67, .iconst 0, 1), (68, .iaload, 1), (69, .putfield 43, 3), (72, .goto 28, 3), (75, .aload_n 0, 1), (76, .aload_n 3, 1), (77, .iconst 0, 1), (78, .iaload, 1), (79, .putfield 46, 3), (82, .goto 18, 3), (85, .aload_n 0, 1), (86, .aload_n 3, 1), (87, .iconst 0, 1), (88, .iaload, 1), (89, .putfield 49, 3), (92, .goto 8, 3), (95, .aload_n 0, 1), (96, .iconst 0, 1), (97, .putfield 36, 3), (100, .return_, 1)]
theorem tX5_carryOut : dck cX5_carryOut tbX5_carryOut = true := by decide +kernel
def f_X5_carryOut (N : Nat) (M : Mem) (k : Nat) (x1 : Int32) (x2 : Int32) (k3 : Nat) : Option Mem := (if x1 = 0 then (f_X5_beAsAtFirst N M k).bind fun q41 => some q41 else (if x1 = 1 then (f_X5_addClapper N M k x2 k3).bind fun q50 => some q50 else (if x1 = 2 then (f_X5_addEncore N M k x2 k3).bind fun q59 => some q59 else (if x1 = 3 then some (up2 M k 9 (M k3 0)) else (if x1 = 4 then some (up2 M k 10 (M k3 0)) else (if x1 = 5 then some (up2 M k 11 (M k3 0)) else some (up2 M k 7 (0 : Int32))))))))
set_option maxHeartbeats 4000000 in
set_option maxRecDepth 100000 in
theorem c_X5_carryOut {X : Cx} {l : Launch} (hX : CxOk X) (hS : SC X) {N : Nat} {M : Mem} {k : Nat} {x1 : Int32} {x2 : Int32} {k3 : Nat} (hk : td k) (hk3 : ar 3 k3) {M' : Mem} (h : f_X5_carryOut N M k x1 x2 k3 = some M') : Ctr X l yX5_carryOut cX5_carryOut 4 none 2 [.ref k, .int x1, .int x2, .ref k3] M none M' := by
  refine Ctr.ofG (L := [some (.ref k), some (.int x1), some (.int x2), some (.ref k3)]) hX (by decide) (Nat.le_of_ble_eq_true rfl) rfl (fun F hF hl hR => ?_)
  subst hl
  unfold f_X5_carryOut at h
  refine g_iload_n hF (dck_at tX5_carryOut 0 rfl) rfl ?_
  by_cases hc1_0 : x1 = 0
  · replace h := ite_t hc1_0 h
    refine g_swIn hF 40 0 hc1_0 (dck_at tX5_carryOut 1 rfl) (by decide) (by decide) rfl (by decide) ?_
    refine g_aload_n hF (dck_at tX5_carryOut 2 rfl) rfl ?_
    obtain ⟨q41, e41, h⟩ := bd h
    refine g_callV hF (as := []) (k := k) rfl (by decide) wm_X5_33 wi_X5_beAsAtFirst we_X5_beAsAtFirst wc_X5_beAsAtFirst wn_X5 hyX5_beAsAtFirst (by decide) (td_m hS hk) (td_kd hk) (c_X5_beAsAtFirst hF.2.2.2.2.2.2.2.1 hS hk e41) (by decide) rfl rfl rfl rfl (dck_at tX5_carryOut 3 rfl) ?_
    show G X F 44 _ [] q41
    refine g_goto hF 100 (dck_at tX5_carryOut 4 rfl) (by decide) ?_
    cases h
    exact g_vret hF hR (dck_at tX5_carryOut 36 rfl)
  replace h := ite_f hc1_0 h
  by_cases hc1_1 : x1 = 1
  · replace h := ite_t hc1_1 h
    refine g_swIn hF 47 1 hc1_1 (dck_at tX5_carryOut 1 rfl) (by decide) (by decide) rfl (by decide) ?_
    refine g_aload_n hF (dck_at tX5_carryOut 5 rfl) rfl ?_
    refine g_iload_n hF (dck_at tX5_carryOut 6 rfl) rfl ?_
    refine g_aload_n hF (dck_at tX5_carryOut 7 rfl) rfl ?_
    obtain ⟨q50, e50, h⟩ := bd h
    refine g_callV hF (as := [.int x2, .ref k3]) (k := k) rfl (by decide) wm_X5_62 wi_X5_addClapper we_X5_addClapper wc_X5_addClapper wn_X5 hyX5_addClapper (by decide) (td_m hS hk) (td_kd hk) (c_X5_addClapper hF.2.2.2.2.2.2.2.1 hS hk hk3 e50) (by decide) rfl rfl rfl rfl (dck_at tX5_carryOut 8 rfl) ?_
    show G X F 53 _ [] q50
    refine g_goto hF 100 (dck_at tX5_carryOut 9 rfl) (by decide) ?_
    cases h
    exact g_vret hF hR (dck_at tX5_carryOut 36 rfl)
  replace h := ite_f hc1_1 h
  by_cases hc1_2 : x1 = 2
  · replace h := ite_t hc1_2 h
    refine g_swIn hF 56 2 hc1_2 (dck_at tX5_carryOut 1 rfl) (by decide) (by decide) rfl (by decide) ?_
    refine g_aload_n hF (dck_at tX5_carryOut 10 rfl) rfl ?_
    refine g_iload_n hF (dck_at tX5_carryOut 11 rfl) rfl ?_
    refine g_aload_n hF (dck_at tX5_carryOut 12 rfl) rfl ?_
    obtain ⟨q59, e59, h⟩ := bd h
    refine g_callV hF (as := [.int x2, .ref k3]) (k := k) rfl (by decide) wm_X5_66 wi_X5_addEncore we_X5_addEncore wc_X5_addEncore wn_X5 hyX5_addEncore (by decide) (td_m hS hk) (td_kd hk) (c_X5_addEncore hF.2.2.2.2.2.2.2.1 hS hk hk3 e59) (by decide) rfl rfl rfl rfl (dck_at tX5_carryOut 13 rfl) ?_
    show G X F 62 _ [] q59
    refine g_goto hF 100 (dck_at tX5_carryOut 14 rfl) (by decide) ?_
    cases h
    exact g_vret hF hR (dck_at tX5_carryOut 36 rfl)
  replace h := ite_f hc1_2 h
  by_cases hc1_3 : x1 = 3
  · replace h := ite_t hc1_3 h
    refine g_swIn hF 65 3 hc1_3 (dck_at tX5_carryOut 1 rfl) (by decide) (by decide) rfl (by decide) ?_
    refine g_aload_n hF (dck_at tX5_carryOut 15 rfl) rfl ?_
    refine g_aload_n hF (dck_at tX5_carryOut 16 rfl) rfl ?_
    refine g_iconst (v := 0) hF (dck_at tX5_carryOut 17 rfl) (by decide) ?_
    refine g_iac (j := 0) hF (ar_m hS hk3) hk3.1 hk3.2.1 (by decide) (by decide) (dck_at tX5_carryOut 18 rfl) ?_
    refine pf_X5_43 hF (td_m hS hk) (td_kd hk) (td_ln hk) (dck_at tX5_carryOut 19 rfl) ?_
    refine g_goto hF 100 (dck_at tX5_carryOut 20 rfl) (by decide) ?_
    cases h
    exact g_vret hF hR (dck_at tX5_carryOut 36 rfl)
  replace h := ite_f hc1_3 h
  by_cases hc1_4 : x1 = 4
  · replace h := ite_t hc1_4 h
    refine g_swIn hF 75 4 hc1_4 (dck_at tX5_carryOut 1 rfl) (by decide) (by decide) rfl (by decide) ?_
    refine g_aload_n hF (dck_at tX5_carryOut 21 rfl) rfl ?_
    refine g_aload_n hF (dck_at tX5_carryOut 22 rfl) rfl ?_
    refine g_iconst (v := 0) hF (dck_at tX5_carryOut 23 rfl) (by decide) ?_
    refine g_iac (j := 0) hF (ar_m hS hk3) hk3.1 hk3.2.1 (by decide) (by decide) (dck_at tX5_carryOut 24 rfl) ?_
    refine pf_X5_46 hF (td_m hS hk) (td_kd hk) (td_ln hk) (dck_at tX5_carryOut 25 rfl) ?_
    refine g_goto hF 100 (dck_at tX5_carryOut 26 rfl) (by decide) ?_
    cases h
    exact g_vret hF hR (dck_at tX5_carryOut 36 rfl)
  replace h := ite_f hc1_4 h
  by_cases hc1_5 : x1 = 5
  · replace h := ite_t hc1_5 h
    refine g_swIn hF 85 5 hc1_5 (dck_at tX5_carryOut 1 rfl) (by decide) (by decide) rfl (by decide) ?_
    refine g_aload_n hF (dck_at tX5_carryOut 27 rfl) rfl ?_
    refine g_aload_n hF (dck_at tX5_carryOut 28 rfl) rfl ?_
    refine g_iconst (v := 0) hF (dck_at tX5_carryOut 29 rfl) (by decide) ?_
    refine g_iac (j := 0) hF (ar_m hS hk3) hk3.1 hk3.2.1 (by decide) (by decide) (dck_at tX5_carryOut 30 rfl) ?_
    refine pf_X5_49 hF (td_m hS hk) (td_kd hk) (td_ln hk) (dck_at tX5_carryOut 31 rfl) ?_
    refine g_goto hF 100 (dck_at tX5_carryOut 32 rfl) (by decide) ?_
    cases h
    exact g_vret hF hR (dck_at tX5_carryOut 36 rfl)
  replace h := ite_f hc1_5 h
  refine g_swOut hF 95 (dck_at tX5_carryOut 1 rfl) (by have q0 := lv_neT hc1_0 (a := 0) rfl; have q1 := lv_neT hc1_1 (a := 1) rfl; have q2 := lv_neT hc1_2 (a := 2) rfl; have q3 := lv_neT hc1_3 (a := 3) rfl; have q4 := lv_neT hc1_4 (a := 4) rfl; have q5 := lv_neT hc1_5 (a := 5) rfl; omega) (by decide) ?_
  refine g_aload_n hF (dck_at tX5_carryOut 33 rfl) rfl ?_
  refine g_iconst (v := 0) hF (dck_at tX5_carryOut 34 rfl) (by decide) ?_
  refine pf_X5_36 hF (td_m hS hk) (td_kd hk) (td_ln hk) (dck_at tX5_carryOut 35 rfl) ?_
  cases h
  exact g_vret hF hR (dck_at tX5_carryOut 36 rfl)

def tbX5_hasClapper : List (Nat × Instr × Nat) := [(0, .iload_n 1, 1), (1, .ifCond .lt 15, 3), (4, .iload_n 1, 1), (5, .aload_n 0, 1), (6, .getfield 36, 3), (9, .if_icmp .ge 7, 3), (12, .iconst 1, 1), (13, .goto 4, 3), (16, .iconst 0, 1), (17, .ireturn, 1)]
theorem tX5_hasClapper : dck cX5_hasClapper tbX5_hasClapper = true := by decide +kernel
def f_X5_hasClapper (N : Nat) (M : Mem) (k : Nat) (x1 : Int32) : Option Int32 := (if x1 < 0 then some (0 : Int32) else (if (M k 7) ≤ x1 then some (0 : Int32) else some (1 : Int32)))
set_option maxHeartbeats 4000000 in
set_option maxRecDepth 100000 in
theorem c_X5_hasClapper {X : Cx} {l : Launch} (hX : CxOk X) (hS : SC X) {N : Nat} {M : Mem} {k : Nat} {x1 : Int32} (hk : td k) {r : Int32} (h : f_X5_hasClapper N M k x1 = some r) : Ctr X l yX5_hasClapper cX5_hasClapper 2 (some .boolean) 1 [.ref k, .int x1] M (some (.int r)) M := by
  refine Ctr.ofG (L := [some (.ref k), some (.int x1)]) hX (by decide) (Nat.le_of_ble_eq_true rfl) rfl (fun F hF hl hR => ?_)
  subst hl
  unfold f_X5_hasClapper at h
  refine g_iload_n hF (dck_at tX5_hasClapper 0 rfl) rfl ?_
  refine g_if_lt hF 16 (dck_at tX5_hasClapper 1 rfl) (by decide) (fun hc1 => ?_) (fun hc1 => ?_)
  · replace h := ite_t hc1 h
    refine g_iconst (v := 0) hF (dck_at tX5_hasClapper 8 rfl) (by decide) ?_
    cases h
    exact g_zret hF hR rfl (dck_at tX5_hasClapper 9 rfl)
  · replace h := ite_f hc1 h
    refine g_iload_n hF (dck_at tX5_hasClapper 2 rfl) rfl ?_
    refine g_aload_n hF (dck_at tX5_hasClapper 3 rfl) rfl ?_
    refine gf_X5_36 hF (td_m hS hk) (td_kd hk) (td_ln hk) (dck_at tX5_hasClapper 4 rfl) ?_
    refine g_icmp_ge hF 16 (dck_at tX5_hasClapper 5 rfl) (by decide) (fun hc9 => ?_) (fun hc9 => ?_)
    · replace h := ite_t hc9 h
      refine g_iconst (v := 0) hF (dck_at tX5_hasClapper 8 rfl) (by decide) ?_
      cases h
      exact g_zret hF hR rfl (dck_at tX5_hasClapper 9 rfl)
    · replace h := ite_f hc9 h
      refine g_iconst (v := 1) hF (dck_at tX5_hasClapper 6 rfl) (by decide) ?_
      refine g_goto hF 17 (dck_at tX5_hasClapper 7 rfl) (by decide) ?_
      cases h
      exact g_zret hF hR rfl (dck_at tX5_hasClapper 9 rfl)

def tbX5_minutesOf : List (Nat × Instr × Nat) := [(0, .iload_n 1, 1), (1, .ifCond .ne 5, 3), (4, .iconst 1, 1), (5, .ireturn, 1), (6, .aload_n 0, 1), (7, .iload_n 1, 1), (8, .iconst 2, 1), (9, .isub, 1), (10, .invokevirtual 58, 3), (13, .ifCond .eq 14, 3), (16, .aload_n 0, 1), (17, .getfield 24, 3), (20, .iload_n 1, 1), (21, .iconst 2, 1), (22, .isub, 1), (23, .iaload, 1), (24, .goto 4, 3), (27, .iconst 0, 1), (28, .ireturn, 1)]
theorem tX5_minutesOf : dck cX5_minutesOf tbX5_minutesOf = true := by decide +kernel
def f_X5_minutesOf (N : Nat) (M : Mem) (k : Nat) (x1 : Int32) : Option Int32 := (if x1 = 0 then some (1 : Int32) else (f_X5_hasEncore N M k (x1 - (2 : Int32))).bind fun q10 => (if q10 = 0 then some (0 : Int32) else if inb (x1 - (2 : Int32)) 4 = true then some (M (k + 5) (x1 - (2 : Int32)).toNatClampNeg) else none))
set_option maxHeartbeats 4000000 in
set_option maxRecDepth 100000 in
theorem c_X5_minutesOf {X : Cx} {l : Launch} (hX : CxOk X) (hS : SC X) {N : Nat} {M : Mem} {k : Nat} {x1 : Int32} (hk : td k) {r : Int32} (h : f_X5_minutesOf N M k x1 = some r) : Ctr X l yX5_minutesOf cX5_minutesOf 2 (some .int) 2 [.ref k, .int x1] M (some (.int r)) M := by
  refine Ctr.ofG (L := [some (.ref k), some (.int x1)]) hX (by decide) (Nat.le_of_ble_eq_true rfl) rfl (fun F hF hl hR => ?_)
  subst hl
  unfold f_X5_minutesOf at h
  refine g_iload_n hF (dck_at tX5_minutesOf 0 rfl) rfl ?_
  refine g_if_ne hF 6 (dck_at tX5_minutesOf 1 rfl) (by decide) (fun hc1 => ?_) (fun hc1 => ?_)
  · replace h := ite_f hc1 h
    refine g_aload_n hF (dck_at tX5_minutesOf 4 rfl) rfl ?_
    refine g_iload_n hF (dck_at tX5_minutesOf 5 rfl) rfl ?_
    refine g_iconst (v := 2) hF (dck_at tX5_minutesOf 6 rfl) (by decide) ?_
    refine g_isub hF (dck_at tX5_minutesOf 7 rfl) ?_
    obtain ⟨q10, e10, h⟩ := bd h
    refine g_callV hF (as := [.int (x1 - (2 : Int32))]) (k := k) rfl (by decide) wm_X5_58 wi_X5_hasEncore we_X5_hasEncore wc_X5_hasEncore wn_X5 hyX5_hasEncore (by decide) (td_m hS hk) (td_kd hk) (c_X5_hasEncore hF.2.2.2.2.2.2.2.1 hS hk e10) (by decide) rfl rfl rfl rfl (dck_at tX5_minutesOf 8 rfl) ?_
    show G X F 13 _ [.int q10] M
    refine g_if_eq hF 27 (dck_at tX5_minutesOf 9 rfl) (by decide) (fun hc13 => ?_) (fun hc13 => ?_)
    · replace h := ite_t hc13 h
      refine g_iconst (v := 0) hF (dck_at tX5_minutesOf 17 rfl) (by decide) ?_
      cases h
      exact g_iret hF hR (dck_at tX5_minutesOf 18 rfl)
    · replace h := ite_f hc13 h
      refine g_aload_n hF (dck_at tX5_minutesOf 10 rfl) rfl ?_
      refine gf_X5_24 hF (td_m hS hk) (td_kd hk) (td_ln hk) (t := (k + 5)) rfl (dck_at tX5_minutesOf 11 rfl) ?_
      refine g_iload_n hF (dck_at tX5_minutesOf 12 rfl) rfl ?_
      refine g_iconst (v := 2) hF (dck_at tX5_minutesOf 13 rfl) (by decide) ?_
      refine g_isub hF (dck_at tX5_minutesOf 14 rfl) ?_
      obtain ⟨hg23, h⟩ := gd h
      refine g_ia hF (ar_m hS (td_a4 hk)) (td_a4 hk).1 (td_a4 hk).2.1 hg23 (dck_at tX5_minutesOf 15 rfl) ?_
      show G X F 24 _ _ _
      refine g_goto hF 28 (dck_at tX5_minutesOf 16 rfl) (by decide) ?_
      cases h
      exact g_iret hF hR (dck_at tX5_minutesOf 18 rfl)
  · replace h := ite_t hc1 h
    refine g_iconst (v := 1) hF (dck_at tX5_minutesOf 2 rfl) (by decide) ?_
    cases h
    exact g_iret hF hR (dck_at tX5_minutesOf 3 rfl)

def tbX5_sumOver : List (Nat × Instr × Nat) := [(0, .iconst 0, 1), (1, .istore_n 3, 1), (2, .iconst 0, 1), (3, .istore 4, 2), (5, .iload 4, 2), (7, .aload_n 0, 1), (8, .getfield 40, 3), (11, .if_icmp .ge 25, 3), (14, .iload_n 2, 1), (15, .iload 4, 2), (17, .ishr, 1), (18, .iconst 1, 1), (19, .iand, 1), (20, .ifCond .eq 10, 3), (23, .iload_n 3, 1), (24, .aload_n 1, 1), (25, .iload 4, 2), (27, .iaload, 1), (28, .iadd, 1), (29, .istore_n 3, 1), (30, .iinc 4 1, 3), (33, .goto (-28), 3), (36, .iload_n 3, 1), (37, .ireturn, 1)]
theorem tX5_sumOver : dck cX5_sumOver tbX5_sumOver = true := by decide +kernel
def f_X5_sumOver_L5 (N : Nat) (M : Mem) (k : Nat) (y1 : Nat) (x2 : Int32) : Nat → Int32 → Int32 → Option (Int32 × Int32)
  | 0, _, _ => none
  | n + 1, x3, x4 => (if (M k 8) ≤ x4 then some (x3, x4) else (if ((x2 >>> (x4 &&& 31)) &&& (1 : Int32)) = 0 then f_X5_sumOver_L5 N M k y1 x2 n x3 (x4 + (1 : Int32)) else if inb x4 4 = true then f_X5_sumOver_L5 N M k y1 x2 n (x3 + (M y1 x4.toNatClampNeg)) (x4 + (1 : Int32)) else none))
def f_X5_sumOver (N : Nat) (M : Mem) (k : Nat) (k1 : Nat) (x2 : Int32) : Option Int32 := (f_X5_sumOver_L5 N M k k1 x2 N (0 : Int32) (0 : Int32)).bind fun o5 => some o5.1
set_option maxHeartbeats 4000000 in
set_option maxRecDepth 100000 in
theorem g_X5_sumOver_L5 {X : Cx} {F : Fx} (hS : SC X) (hF : FK X F cX5_sumOver RX5 5 1) (N : Nat) (M : Mem) (k : Nat) (y1 : Nat) (x2 : Int32) (hk : td k) (hy1 : ar 4 y1) : ∀ (n : Nat) (x3 : Int32) (x4 : Int32) (o : Int32 × Int32), f_X5_sumOver_L5 N M k y1 x2 n x3 x4 = some o → G X F 36 [none, none, none, some (.int o.1), none] [] M → G X F 5 [some (.ref k), some (.ref y1), some (.int x2), some (.int x3), some (.int x4)] [] M := by
  intro n
  induction n with
  | zero =>
    intro x3 x4 o h K
    cases h
  | succ n ih =>
    intro x3 x4 o h K
    rw [f_X5_sumOver_L5] at h
    refine g_iload hF (dck_at tX5_sumOver 4 rfl) rfl ?_
    refine g_aload_n hF (dck_at tX5_sumOver 5 rfl) rfl ?_
    refine gf_X5_40 hF (td_m hS hk) (td_kd hk) (td_ln hk) (dck_at tX5_sumOver 6 rfl) ?_
    refine g_icmp_ge hF 36 (dck_at tX5_sumOver 7 rfl) (by decide) (fun hc11 => ?_) (fun hc11 => ?_)
    · replace h := ite_t hc11 h
      refine g_msk [false, false, false, true, false] (L' := [none, none, none, some (.int x3), none]) rfl ?_
      cases h
      exact K
    · replace h := ite_f hc11 h
      refine g_iload_n hF (dck_at tX5_sumOver 8 rfl) rfl ?_
      refine g_iload hF (dck_at tX5_sumOver 9 rfl) rfl ?_
      refine g_ishr hF (dck_at tX5_sumOver 10 rfl) ?_
      refine g_iconst (v := 1) hF (dck_at tX5_sumOver 11 rfl) (by decide) ?_
      refine g_iand hF (dck_at tX5_sumOver 12 rfl) ?_
      refine g_if_eq hF 30 (dck_at tX5_sumOver 13 rfl) (by decide) (fun hc20 => ?_) (fun hc20 => ?_)
      · replace h := ite_t hc20 h
        refine g_iinc (v := 1) (L' := [some (.ref k), some (.ref y1), some (.int x2), some (.int x3), some (.int (x4 + (1 : Int32)))]) hF (dck_at tX5_sumOver 20 rfl) rfl (by decide) rfl ?_
        refine g_goto hF 5 (dck_at tX5_sumOver 21 rfl) (by decide) ?_
        exact ih _ _ _ h K
      · replace h := ite_f hc20 h
        refine g_iload_n hF (dck_at tX5_sumOver 14 rfl) rfl ?_
        refine g_aload_n hF (dck_at tX5_sumOver 15 rfl) rfl ?_
        refine g_iload hF (dck_at tX5_sumOver 16 rfl) rfl ?_
        obtain ⟨hg27, h⟩ := gd h
        refine g_ia hF (ar_m hS hy1) hy1.1 hy1.2.1 hg27 (dck_at tX5_sumOver 17 rfl) ?_
        refine g_iadd hF (dck_at tX5_sumOver 18 rfl) ?_
        refine g_istore_n (L' := [some (.ref k), some (.ref y1), some (.int x2), some (.int (x3 + (M y1 x4.toNatClampNeg))), some (.int x4)]) hF (dck_at tX5_sumOver 19 rfl) (Nat.le_of_ble_eq_true rfl) rfl ?_
        show G X F 30 _ _ _
        refine g_iinc (v := 1) (L' := [some (.ref k), some (.ref y1), some (.int x2), some (.int (x3 + (M y1 x4.toNatClampNeg))), some (.int (x4 + (1 : Int32)))]) hF (dck_at tX5_sumOver 20 rfl) rfl (by decide) rfl ?_
        refine g_goto hF 5 (dck_at tX5_sumOver 21 rfl) (by decide) ?_
        exact ih _ _ _ h K
set_option maxHeartbeats 4000000 in
set_option maxRecDepth 100000 in
theorem c_X5_sumOver {X : Cx} {l : Launch} (hX : CxOk X) (hS : SC X) {N : Nat} {M : Mem} {k : Nat} {k1 : Nat} {x2 : Int32} (hk : td k) (hk1 : ar 4 k1) {r : Int32} (h : f_X5_sumOver N M k k1 x2 = some r) : Ctr X l yX5_sumOver cX5_sumOver 5 (some .int) 1 [.ref k, .ref k1, .int x2] M (some (.int r)) M := by
  refine Ctr.ofG (L := [some (.ref k), some (.ref k1), some (.int x2), none, none]) hX (by decide) (Nat.le_of_ble_eq_true rfl) rfl (fun F hF hl hR => ?_)
  subst hl
  unfold f_X5_sumOver at h
  refine g_iconst (v := 0) hF (dck_at tX5_sumOver 0 rfl) (by decide) ?_
  refine g_istore_n (L' := [some (.ref k), some (.ref k1), some (.int x2), some (.int (0 : Int32)), none]) hF (dck_at tX5_sumOver 1 rfl) (Nat.le_of_ble_eq_true rfl) rfl ?_
  refine g_iconst (v := 0) hF (dck_at tX5_sumOver 2 rfl) (by decide) ?_
  refine g_istore (L' := [some (.ref k), some (.ref k1), some (.int x2), some (.int (0 : Int32)), some (.int (0 : Int32))]) hF (dck_at tX5_sumOver 3 rfl) (Nat.le_of_ble_eq_true rfl) rfl ?_
  obtain ⟨o5, e5, h⟩ := bd h
  refine g_X5_sumOver_L5 hS hF N _ _ _ _ hk hk1 N _ _ _ e5 ?_
  refine g_iload_n hF (dck_at tX5_sumOver 22 rfl) rfl ?_
  cases h
  exact g_iret hF hR (dck_at tX5_sumOver 23 rfl)

def tbX6_isUnder : List (Nat × Instr × Nat) := [(0, .iload_n 1, 1), (1, .istore_n 3, 1), (2, .iconst 0, 1), (3, .istore 4, 2), (5, .iload 4, 2), (7, .aload_n 0, 1), (8, .arraylength, 1), (9, .if_icmp .ge 32, 3), (12, .iload_n 3, 1), (13, .iload_n 2, 1), (14, .if_icmp .ne 5, 3), (17, .iconst 1, 1), (18, .ireturn, 1), (19, .iload_n 3, 1), (20, .ifCond .lt 9, 3), (23, .iload_n 3, 1), (24, .aload_n 0, 1), (25, .arraylength, 1), (26, .if_icmp .lt 5, 3), (29, .iconst 0, 1), (30, .ireturn, 1), (31, .aload_n 0, 1), (32, .iload_n 3, 1), (33, .iaload, 1), (34, .istore_n 3, 1), (35, .iinc 4 1, 3), (38, .goto (-33), 3), (41, .iconst 0, 1), (42, .ireturn, 1)]
theorem tX6_isUnder : dck cX6_isUnder tbX6_isUnder = true := by decide +kernel
def f_X6_isUnder_L5 (N : Nat) (M : Mem) (y0 : Nat) (x2 : Int32) : Nat → Int32 → Int32 → Option ((Int32 × Int32) ⊕ (Int32))
  | 0, _, _ => none
  | n + 1, x3, x4 => (if (Int32.ofNat (tN y0)) ≤ x4 then some (.inl (x3, x4)) else (if x3 = x2 then some (.inr (1 : Int32)) else (if x3 < 0 then some (.inr (0 : Int32)) else (if x3 < (Int32.ofNat (tN y0)) then if inb x3 (tN y0) = true then f_X6_isUnder_L5 N M y0 x2 n (tV y0 x3.toNatClampNeg) (x4 + (1 : Int32)) else none else some (.inr (0 : Int32))))))
def f_X6_isUnder (N : Nat) (M : Mem) (k0 : Nat) (x1 : Int32) (x2 : Int32) : Option Int32 := bS (f_X6_isUnder_L5 N M k0 x2 N x1 (0 : Int32)) (fun o5 => some (0 : Int32))
set_option maxHeartbeats 4000000 in
set_option maxRecDepth 100000 in
theorem g_X6_isUnder_L5 {X : Cx} {F : Fx} (hF : FK X F cX6_isUnder RX6 5 1) (N : Nat) (M : Mem) (y0 : Nat) (x2 : Int32) (hy0 : y0 < 5) : ∀ (n : Nat) (x3 : Int32) (x4 : Int32) (o : ((Int32 × Int32) ⊕ (Int32))), f_X6_isUnder_L5 N M y0 x2 n x3 x4 = some o → (∀ a, o = .inl a → G X F 41 [none, none, none, none, none] [] M) → (∀ b, o = .inr b → FR X F (some .boolean) (some (.int b)) M) → G X F 5 [some (.ref (1060 + y0)), none, some (.int x2), some (.int x3), some (.int x4)] [] M := by
  intro n
  induction n with
  | zero =>
    intro x3 x4 o h K hRr
    cases h
  | succ n ih =>
    intro x3 x4 o h K hRr
    rw [f_X6_isUnder_L5] at h
    refine g_iload hF (dck_at tX6_isUnder 4 rfl) rfl ?_
    refine g_aload_n hF (dck_at tX6_isUnder 5 rfl) rfl ?_
    refine g_tlen hF hy0 rfl (dck_at tX6_isUnder 6 rfl) ?_
    refine g_icmp_ge hF 41 (dck_at tX6_isUnder 7 rfl) (by decide) (fun hc9 => ?_) (fun hc9 => ?_)
    · replace h := ite_t hc9 h
      refine g_msk [false, true, false, false, false] (L' := [none, none, none, none, none]) rfl ?_
      cases h
      exact K _ rfl
    · replace h := ite_f hc9 h
      refine g_iload_n hF (dck_at tX6_isUnder 8 rfl) rfl ?_
      refine g_iload_n hF (dck_at tX6_isUnder 9 rfl) rfl ?_
      refine g_icmp_ne hF 19 (dck_at tX6_isUnder 10 rfl) (by decide) (fun hc14 => ?_) (fun hc14 => ?_)
      · replace h := ite_f hc14 h
        refine g_iload_n hF (dck_at tX6_isUnder 13 rfl) rfl ?_
        refine g_if_lt hF 29 (dck_at tX6_isUnder 14 rfl) (by decide) (fun hc20 => ?_) (fun hc20 => ?_)
        · replace h := ite_t hc20 h
          refine g_iconst (v := 0) hF (dck_at tX6_isUnder 19 rfl) (by decide) ?_
          cases h
          exact g_zret hF (hRr _ rfl) rfl (dck_at tX6_isUnder 20 rfl)
        · replace h := ite_f hc20 h
          refine g_iload_n hF (dck_at tX6_isUnder 15 rfl) rfl ?_
          refine g_aload_n hF (dck_at tX6_isUnder 16 rfl) rfl ?_
          refine g_tlen hF hy0 rfl (dck_at tX6_isUnder 17 rfl) ?_
          refine g_icmp_lt hF 31 (dck_at tX6_isUnder 18 rfl) (by decide) (fun hc26 => ?_) (fun hc26 => ?_)
          · replace h := ite_t hc26 h
            refine g_aload_n hF (dck_at tX6_isUnder 21 rfl) rfl ?_
            refine g_iload_n hF (dck_at tX6_isUnder 22 rfl) rfl ?_
            obtain ⟨hg33, h⟩ := gd h
            refine g_ti hF hy0 (inb_in hg33) (dck_at tX6_isUnder 23 rfl) ?_
            refine g_istore_n (L' := [some (.ref (1060 + y0)), none, some (.int x2), some (.int (tV y0 x3.toNatClampNeg)), some (.int x4)]) hF (dck_at tX6_isUnder 24 rfl) (Nat.le_of_ble_eq_true rfl) rfl ?_
            refine g_iinc (v := 1) (L' := [some (.ref (1060 + y0)), none, some (.int x2), some (.int (tV y0 x3.toNatClampNeg)), some (.int (x4 + (1 : Int32)))]) hF (dck_at tX6_isUnder 25 rfl) rfl (by decide) rfl ?_
            refine g_goto hF 5 (dck_at tX6_isUnder 26 rfl) (by decide) ?_
            exact ih _ _ _ h K hRr
          · replace h := ite_f hc26 h
            refine g_iconst (v := 0) hF (dck_at tX6_isUnder 19 rfl) (by decide) ?_
            cases h
            exact g_zret hF (hRr _ rfl) rfl (dck_at tX6_isUnder 20 rfl)
      · replace h := ite_t hc14 h
        refine g_iconst (v := 1) hF (dck_at tX6_isUnder 11 rfl) (by decide) ?_
        cases h
        exact g_zret hF (hRr _ rfl) rfl (dck_at tX6_isUnder 12 rfl)
set_option maxHeartbeats 4000000 in
set_option maxRecDepth 100000 in
theorem c_X6_isUnder {X : Cx} {l : Launch} (hX : CxOk X) {N : Nat} {M : Mem} {k0 : Nat} {x1 : Int32} {x2 : Int32} (hk0 : k0 < 5) {r : Int32} (h : f_X6_isUnder N M k0 x1 x2 = some r) : Ctr X l yX6_isUnder cX6_isUnder 5 (some .boolean) 1 [.ref (1060 + k0), .int x1, .int x2] M (some (.int r)) M := by
  refine Ctr.ofG (L := [some (.ref (1060 + k0)), some (.int x1), some (.int x2), none, none]) hX (by decide) (Nat.le_of_ble_eq_true rfl) rfl (fun F hF hl hR => ?_)
  subst hl
  unfold f_X6_isUnder at h
  refine g_iload_n hF (dck_at tX6_isUnder 0 rfl) rfl ?_
  refine g_istore_n (L' := [some (.ref (1060 + k0)), some (.int x1), some (.int x2), some (.int x1), none]) hF (dck_at tX6_isUnder 1 rfl) (Nat.le_of_ble_eq_true rfl) rfl ?_
  refine g_iconst (v := 0) hF (dck_at tX6_isUnder 2 rfl) (by decide) ?_
  refine g_istore (L' := [some (.ref (1060 + k0)), some (.int x1), some (.int x2), some (.int x1), some (.int (0 : Int32))]) hF (dck_at tX6_isUnder 3 rfl) (Nat.le_of_ble_eq_true rfl) rfl ?_
  refine g_msk [true, false, true, true, true] (L' := [some (.ref (1060 + k0)), none, some (.int x2), some (.int x1), some (.int (0 : Int32))]) rfl ?_
  obtain ⟨v5, e5, h⟩ := bS_s h
  refine g_X6_isUnder_L5 hF N _ _ _ hk0 N _ _ _ e5 (fun o5 ea => ?_) (fun b eb => ?_)
  · replace h := h.1 o5 ea
    refine g_iconst (v := 0) hF (dck_at tX6_isUnder 27 rfl) (by decide) ?_
    cases h
    exact g_zret hF hR rfl (dck_at tX6_isUnder 28 rfl)
  · have eb2 := h.2 b eb
    subst eb2
    exact hR

def tbX6_power : List (Nat × Instr × Nat) := [(0, .lconst 1, 1), (1, .lstore_n 2, 1), (2, .iconst 0, 1), (3, .istore 4, 2), (5, .iload 4, 2), (7, .iload_n 1, 1), (8, .if_icmp .ge 14, 3), (11, .lload_n 2, 1), (12, .iload_n 0, 1), (13, .i2l, 1), (14, .lmul, 1), (15, .lstore_n 2, 1), (16, .iinc 4 1, 3), (19, .goto (-14), 3), (22, .lload_n 2, 1), (23, .lreturn, 1)]
theorem tX6_power : dck cX6_power tbX6_power = true := by decide +kernel
def f_X6_power_L5 (N : Nat) (M : Mem) (x0 : Int32) (x1 : Int32) : Nat → Int64 → Int32 → Option (Int64 × Int32)
  | 0, _, _ => none
  | n + 1, x2, x4 => (if x1 ≤ x4 then some (x2, x4) else f_X6_power_L5 N M x0 x1 n (x2 * x0.toInt64) (x4 + (1 : Int32)))
def f_X6_power (N : Nat) (M : Mem) (x0 : Int32) (x1 : Int32) : Option Int64 := (f_X6_power_L5 N M x0 x1 N (1 : Int64) (0 : Int32)).bind fun o5 => some o5.1
set_option maxHeartbeats 4000000 in
set_option maxRecDepth 100000 in
theorem g_X6_power_L5 {X : Cx} {F : Fx} (hF : FK X F cX6_power RX6 5 1) (N : Nat) (M : Mem) (x0 : Int32) (x1 : Int32) : ∀ (n : Nat) (x2 : Int64) (x4 : Int32) (o : Int64 × Int32), f_X6_power_L5 N M x0 x1 n x2 x4 = some o → G X F 22 [none, none, some (.long o.1), none, none] [] M → G X F 5 [some (.int x0), some (.int x1), some (.long x2), none, some (.int x4)] [] M := by
  intro n
  induction n with
  | zero =>
    intro x2 x4 o h K
    cases h
  | succ n ih =>
    intro x2 x4 o h K
    rw [f_X6_power_L5] at h
    refine g_iload hF (dck_at tX6_power 4 rfl) rfl ?_
    refine g_iload_n hF (dck_at tX6_power 5 rfl) rfl ?_
    refine g_icmp_ge hF 22 (dck_at tX6_power 6 rfl) (by decide) (fun hc8 => ?_) (fun hc8 => ?_)
    · replace h := ite_t hc8 h
      refine g_msk [false, false, true, true, false] (L' := [none, none, some (.long x2), none, none]) rfl ?_
      cases h
      exact K
    · replace h := ite_f hc8 h
      refine g_lload_n hF (dck_at tX6_power 7 rfl) rfl ?_
      refine g_iload_n hF (dck_at tX6_power 8 rfl) rfl ?_
      refine g_i2l hF (dck_at tX6_power 9 rfl) ?_
      refine g_lmul hF (dck_at tX6_power 10 rfl) ?_
      refine g_lstore_n (L' := [some (.int x0), some (.int x1), some (.long (x2 * x0.toInt64)), none, some (.int x4)]) hF (dck_at tX6_power 11 rfl) (Nat.le_of_ble_eq_true rfl) rfl ?_
      refine g_iinc (v := 1) (L' := [some (.int x0), some (.int x1), some (.long (x2 * x0.toInt64)), none, some (.int (x4 + (1 : Int32)))]) hF (dck_at tX6_power 12 rfl) rfl (by decide) rfl ?_
      show G X F 19 _ _ _
      refine g_goto hF 5 (dck_at tX6_power 13 rfl) (by decide) ?_
      exact ih _ _ _ h K
set_option maxHeartbeats 4000000 in
set_option maxRecDepth 100000 in
theorem c_X6_power {X : Cx} {l : Launch} (hX : CxOk X) {N : Nat} {M : Mem} {x0 : Int32} {x1 : Int32} {r : Int64} (h : f_X6_power N M x0 x1 = some r) : Ctr X l yX6_power cX6_power 5 (some .long) 1 [.int x0, .int x1] M (some (.long r)) M := by
  refine Ctr.ofG (L := [some (.int x0), some (.int x1), none, none, none]) hX (by decide) (Nat.le_of_ble_eq_true rfl) rfl (fun F hF hl hR => ?_)
  subst hl
  unfold f_X6_power at h
  refine g_lconst (v := 1) hF (dck_at tX6_power 0 rfl) (by decide) ?_
  refine g_lstore_n (L' := [some (.int x0), some (.int x1), some (.long (1 : Int64)), none, none]) hF (dck_at tX6_power 1 rfl) (Nat.le_of_ble_eq_true rfl) rfl ?_
  refine g_iconst (v := 0) hF (dck_at tX6_power 2 rfl) (by decide) ?_
  refine g_istore (L' := [some (.int x0), some (.int x1), some (.long (1 : Int64)), none, some (.int (0 : Int32))]) hF (dck_at tX6_power 3 rfl) (Nat.le_of_ble_eq_true rfl) rfl ?_
  obtain ⟨o5, e5, h⟩ := bd h
  refine g_X6_power_L5 hF N _ _ _ N _ _ _ e5 ?_
  refine g_lload_n hF (dck_at tX6_power 14 rfl) rfl ?_
  cases h
  exact g_lret hF hR (dck_at tX6_power 15 rfl)

def tbX6_waysToStay : List (Nat × Instr × Nat) := [(0, .lconst 0, 1), (1, .lstore_n 3, 1), (2, .lconst 1, 1), (3, .lstore 5, 2), (5, .iconst 0, 1), (6, .istore 7, 2), (8, .iload 7, 2), (10, .iload_n 0, 1), (11, .if_icmp .gt 55, 3), (14, .iload 7, 2), (16, .iload_n 1, 1), (17, .if_icmp .lt 27, 3), (20, .lload_n 3, 1), (21, .lload 5, 2), (23, .bipush 10, 2), (25, .iload_n 2, 1), (26, .isub, 1), (27, .iload 7, 2), (29, .invokestatic 218, 3), (32, .lmul, 1), (33, .iload_n 2, 1), (34, .iload_n 0, 1), (35, .iload 7, 2), (37, .isub, 1), (38, .invokestatic 218, 3), (41, .lmul, 1), (42, .ladd, 1), (43, .lstore_n 3, 1), (44, .lload 5, 2), (46, .iload_n 0, 1), (47, .iload 7, 2), (49, .isub, 1), (50, .i2l, 1), (51, .lmul, 1), (52, .iload 7, 2), (54, .iconst 1, 1), (55, .iadd, 1), (56, .i2l, 1), (57, .ldiv, 1), (58, .lstore 5, 2), (60, .iinc 7 1, 3), (63, .goto (-55), 3), (66, .lload_n 3, 1), (67, .lreturn, 1)]
theorem tX6_waysToStay : dck cX6_waysToStay tbX6_waysToStay = true := by decide +kernel
def f_X6_waysToStay_L8 (N : Nat) (M : Mem) (x0 : Int32) (x1 : Int32) (x2 : Int32) : Nat → Int64 → Int64 → Int32 → Option (Int64 × Int64 × Int32)
  | 0, _, _, _ => none
  | n + 1, x3, x5, x7 => (if x0 < x7 then some (x3, x5, x7) else ((if x7 < x1 then some x3 else (f_X6_power N M ((10 : Int32) - x2) x7).bind fun q29 => (f_X6_power N M x2 (x0 - x7)).bind fun q38 => some (x3 + ((x5 * q29) * q38))).bind fun o44 => if nz64 ((x7 + (1 : Int32)).toInt64) = true then f_X6_waysToStay_L8 N M x0 x1 x2 n o44 ((x5 * ((x0 - x7).toInt64)) / ((x7 + (1 : Int32)).toInt64)) (x7 + (1 : Int32)) else none))
def f_X6_waysToStay (N : Nat) (M : Mem) (x0 : Int32) (x1 : Int32) (x2 : Int32) : Option Int64 := (f_X6_waysToStay_L8 N M x0 x1 x2 N (0 : Int64) (1 : Int64) (0 : Int32)).bind fun o8 => some o8.1
set_option maxHeartbeats 4000000 in
set_option maxRecDepth 100000 in
theorem g_X6_waysToStay_L8 {X : Cx} {F : Fx} (hF : FK X F cX6_waysToStay RX6 8 2) (N : Nat) (M : Mem) (x0 : Int32) (x1 : Int32) (x2 : Int32) : ∀ (n : Nat) (x3 : Int64) (x5 : Int64) (x7 : Int32) (o : Int64 × Int64 × Int32), f_X6_waysToStay_L8 N M x0 x1 x2 n x3 x5 x7 = some o → G X F 66 [none, none, none, some (.long o.1), none, none, none, none] [] M → G X F 8 [some (.int x0), some (.int x1), some (.int x2), some (.long x3), none, some (.long x5), none, some (.int x7)] [] M := by
  intro n
  induction n with
  | zero =>
    intro x3 x5 x7 o h K
    cases h
  | succ n ih =>
    intro x3 x5 x7 o h K
    rw [f_X6_waysToStay_L8] at h
    refine g_iload hF (dck_at tX6_waysToStay 6 rfl) rfl ?_
    refine g_iload_n hF (dck_at tX6_waysToStay 7 rfl) rfl ?_
    refine g_icmp_gt hF 66 (dck_at tX6_waysToStay 8 rfl) (by decide) (fun hc11 => ?_) (fun hc11 => ?_)
    · replace h := ite_t hc11 h
      refine g_msk [false, false, false, true, true, false, true, false] (L' := [none, none, none, some (.long x3), none, none, none, none]) rfl ?_
      cases h
      exact K
    · replace h := ite_f hc11 h
      refine g_iload hF (dck_at tX6_waysToStay 9 rfl) rfl ?_
      refine g_iload_n hF (dck_at tX6_waysToStay 10 rfl) rfl ?_
      obtain ⟨o44, h44, h⟩ := bd h
      have K44 : G X F 44 [some (.int x0), some (.int x1), some (.int x2), some (.long o44), none, some (.long x5), none, some (.int x7)] [] M := by
        refine g_lload hF (dck_at tX6_waysToStay 28 rfl) rfl ?_
        refine g_iload_n hF (dck_at tX6_waysToStay 29 rfl) rfl ?_
        refine g_iload hF (dck_at tX6_waysToStay 30 rfl) rfl ?_
        refine g_isub hF (dck_at tX6_waysToStay 31 rfl) ?_
        refine g_i2l hF (dck_at tX6_waysToStay 32 rfl) ?_
        refine g_lmul hF (dck_at tX6_waysToStay 33 rfl) ?_
        show G X F 52 _ _ _
        refine g_iload hF (dck_at tX6_waysToStay 34 rfl) rfl ?_
        refine g_iconst (v := 1) hF (dck_at tX6_waysToStay 35 rfl) (by decide) ?_
        refine g_iadd hF (dck_at tX6_waysToStay 36 rfl) ?_
        refine g_i2l hF (dck_at tX6_waysToStay 37 rfl) ?_
        obtain ⟨hg57, h⟩ := gd h
        refine g_ldiv hF (dck_at tX6_waysToStay 38 rfl) (nz64_n hg57) ?_
        refine g_lstore (L' := [some (.int x0), some (.int x1), some (.int x2), some (.long o44), none, some (.long ((x5 * ((x0 - x7).toInt64)) / ((x7 + (1 : Int32)).toInt64))), none, some (.int x7)]) hF (dck_at tX6_waysToStay 39 rfl) (Nat.le_of_ble_eq_true rfl) rfl ?_
        refine g_iinc (v := 1) (L' := [some (.int x0), some (.int x1), some (.int x2), some (.long o44), none, some (.long ((x5 * ((x0 - x7).toInt64)) / ((x7 + (1 : Int32)).toInt64))), none, some (.int (x7 + (1 : Int32)))]) hF (dck_at tX6_waysToStay 40 rfl) rfl (by decide) rfl ?_
        show G X F 63 _ _ _
        refine g_goto hF 8 (dck_at tX6_waysToStay 41 rfl) (by decide) ?_
        exact ih _ _ _ _ h K
      replace h := h44
      refine g_icmp_lt hF 44 (dck_at tX6_waysToStay 11 rfl) (by decide) (fun hc17 => ?_) (fun hc17 => ?_)
      · replace h := ite_t hc17 h
        cases h
        exact K44
      · replace h := ite_f hc17 h
        refine g_lload_n hF (dck_at tX6_waysToStay 12 rfl) rfl ?_
        refine g_lload hF (dck_at tX6_waysToStay 13 rfl) rfl ?_
        refine g_bipush (v := 10) hF (dck_at tX6_waysToStay 14 rfl) (by decide) ?_
        refine g_iload_n hF (dck_at tX6_waysToStay 15 rfl) rfl ?_
        refine g_isub hF (dck_at tX6_waysToStay 16 rfl) ?_
        refine g_iload hF (dck_at tX6_waysToStay 17 rfl) rfl ?_
        show G X F 29 _ _ _
        obtain ⟨q29, e29, h⟩ := bd h
        refine g_callS hF (as := [.int ((10 : Int32) - x2), .int x7]) wm_X6_218 wt_X6_power wc_X6_power wn_X6 hyX6_power (by decide) (c_X6_power hF.2.2.2.2.2.2.2.1 e29) (by decide) rfl rfl rfl rfl (dck_at tX6_waysToStay 18 rfl) ?_
        show G X F 32 _ [.long q29, .long x5, .long x3] M
        refine g_lmul hF (dck_at tX6_waysToStay 19 rfl) ?_
        refine g_iload_n hF (dck_at tX6_waysToStay 20 rfl) rfl ?_
        refine g_iload_n hF (dck_at tX6_waysToStay 21 rfl) rfl ?_
        refine g_iload hF (dck_at tX6_waysToStay 22 rfl) rfl ?_
        refine g_isub hF (dck_at tX6_waysToStay 23 rfl) ?_
        obtain ⟨q38, e38, h⟩ := bd h
        refine g_callS hF (as := [.int x2, .int (x0 - x7)]) wm_X6_218 wt_X6_power wc_X6_power wn_X6 hyX6_power (by decide) (c_X6_power hF.2.2.2.2.2.2.2.1 e38) (by decide) rfl rfl rfl rfl (dck_at tX6_waysToStay 24 rfl) ?_
        show G X F 41 _ [.long q38, .long (x5 * q29), .long x3] M
        show G X F 41 _ _ _
        refine g_lmul hF (dck_at tX6_waysToStay 25 rfl) ?_
        refine g_ladd hF (dck_at tX6_waysToStay 26 rfl) ?_
        refine g_lstore_n (L' := [some (.int x0), some (.int x1), some (.int x2), some (.long (x3 + ((x5 * q29) * q38))), none, some (.long x5), none, some (.int x7)]) hF (dck_at tX6_waysToStay 27 rfl) (Nat.le_of_ble_eq_true rfl) rfl ?_
        cases h
        exact K44
set_option maxHeartbeats 4000000 in
set_option maxRecDepth 100000 in
theorem c_X6_waysToStay {X : Cx} {l : Launch} (hX : CxOk X) {N : Nat} {M : Mem} {x0 : Int32} {x1 : Int32} {x2 : Int32} {r : Int64} (h : f_X6_waysToStay N M x0 x1 x2 = some r) : Ctr X l yX6_waysToStay cX6_waysToStay 8 (some .long) 2 [.int x0, .int x1, .int x2] M (some (.long r)) M := by
  refine Ctr.ofG (L := [some (.int x0), some (.int x1), some (.int x2), none, none, none, none, none]) hX (by decide) (Nat.le_of_ble_eq_true rfl) rfl (fun F hF hl hR => ?_)
  subst hl
  unfold f_X6_waysToStay at h
  refine g_lconst (v := 0) hF (dck_at tX6_waysToStay 0 rfl) (by decide) ?_
  refine g_lstore_n (L' := [some (.int x0), some (.int x1), some (.int x2), some (.long (0 : Int64)), none, none, none, none]) hF (dck_at tX6_waysToStay 1 rfl) (Nat.le_of_ble_eq_true rfl) rfl ?_
  refine g_lconst (v := 1) hF (dck_at tX6_waysToStay 2 rfl) (by decide) ?_
  refine g_lstore (L' := [some (.int x0), some (.int x1), some (.int x2), some (.long (0 : Int64)), none, some (.long (1 : Int64)), none, none]) hF (dck_at tX6_waysToStay 3 rfl) (Nat.le_of_ble_eq_true rfl) rfl ?_
  refine g_iconst (v := 0) hF (dck_at tX6_waysToStay 4 rfl) (by decide) ?_
  refine g_istore (L' := [some (.int x0), some (.int x1), some (.int x2), some (.long (0 : Int64)), none, some (.long (1 : Int64)), none, some (.int (0 : Int32))]) hF (dck_at tX6_waysToStay 5 rfl) (Nat.le_of_ble_eq_true rfl) rfl ?_
  obtain ⟨o8, e8, h⟩ := bd h
  refine g_X6_waysToStay_L8 hF N _ _ _ _ N _ _ _ _ e8 ?_
  refine g_lload_n hF (dck_at tX6_waysToStay 42 rfl) rfl ?_
  cases h
  exact g_lret hF hR (dck_at tX6_waysToStay 43 rfl)

def tbX6_commonDivisor : List (Nat × Instr × Nat) := [(0, .lload_n 0, 1), (1, .lstore 4, 2), (3, .lload_n 2, 1), (4, .lstore 6, 2), (6, .iconst 0, 1), (7, .istore 8, 2), (9, .iload 8, 2), (11, .bipush 100, 2), (13, .if_icmp .ge 31, 3), (16, .lload 6, 2), (18, .lconst 0, 1), (19, .lcmp, 1), (20, .ifCond .eq 24, 3), (23, .lload 4, 2), (25, .lload 6, 2), (27, .lrem, 1), (28, .lstore 9, 2), (30, .lload 6, 2), (32, .lstore 4, 2), (34, .lload 9, 2), (36, .lstore 6, 2), (38, .iinc 8 1, 3), (41, .goto (-32), 3), (44, .lload 4, 2), (46, .lreturn, 1)]
theorem tX6_commonDivisor : dck cX6_commonDivisor tbX6_commonDivisor = true := by decide +kernel
def f_X6_commonDivisor_L9 (N : Nat) (M : Mem) : Nat → Int64 → Int64 → Int32 → Option (Int64 × Int64 × Int32)
  | 0, _, _, _ => none
  | n + 1, x4, x6, x8 => (if (100 : Int32) ≤ x8 then some (x4, x6, x8) else (if (lg_cmp x6 (0 : Int64)) = 0 then some (x4, x6, x8) else if nz64 x6 = true then f_X6_commonDivisor_L9 N M n x6 (x4 - x4 / x6 * x6) (x8 + (1 : Int32)) else none))
def f_X6_commonDivisor (N : Nat) (M : Mem) (x0 : Int64) (x2 : Int64) : Option Int64 := (f_X6_commonDivisor_L9 N M N x0 x2 (0 : Int32)).bind fun o9 => some o9.1
set_option maxHeartbeats 4000000 in
set_option maxRecDepth 100000 in
theorem g_X6_commonDivisor_L9 {X : Cx} {F : Fx} (hF : FK X F cX6_commonDivisor RX6 11 1) (N : Nat) (M : Mem) : ∀ (n : Nat) (x4 : Int64) (x6 : Int64) (x8 : Int32) (o : Int64 × Int64 × Int32), f_X6_commonDivisor_L9 N M n x4 x6 x8 = some o → G X F 44 [none, none, none, none, some (.long o.1), none, none, none, none, none, none] [] M → G X F 9 [none, none, none, none, some (.long x4), none, some (.long x6), none, some (.int x8), none, none] [] M := by
  intro n
  induction n with
  | zero =>
    intro x4 x6 x8 o h K
    cases h
  | succ n ih =>
    intro x4 x6 x8 o h K
    rw [f_X6_commonDivisor_L9] at h
    refine g_iload hF (dck_at tX6_commonDivisor 6 rfl) rfl ?_
    refine g_bipush (v := 100) hF (dck_at tX6_commonDivisor 7 rfl) (by decide) ?_
    refine g_icmp_ge hF 44 (dck_at tX6_commonDivisor 8 rfl) (by decide) (fun hc13 => ?_) (fun hc13 => ?_)
    · replace h := ite_t hc13 h
      refine g_msk [true, true, true, true, true, true, false, true, false, true, true] (L' := [none, none, none, none, some (.long x4), none, none, none, none, none, none]) rfl ?_
      cases h
      exact K
    · replace h := ite_f hc13 h
      refine g_lload hF (dck_at tX6_commonDivisor 9 rfl) rfl ?_
      refine g_lconst (v := 0) hF (dck_at tX6_commonDivisor 10 rfl) (by decide) ?_
      refine g_lcmp hF (dck_at tX6_commonDivisor 11 rfl) ?_
      refine g_if_eq hF 44 (dck_at tX6_commonDivisor 12 rfl) (by decide) (fun hc20 => ?_) (fun hc20 => ?_)
      · replace h := ite_t hc20 h
        refine g_msk [true, true, true, true, true, true, false, true, false, true, true] (L' := [none, none, none, none, some (.long x4), none, none, none, none, none, none]) rfl ?_
        cases h
        exact K
      · replace h := ite_f hc20 h
        refine g_lload hF (dck_at tX6_commonDivisor 13 rfl) rfl ?_
        refine g_lload hF (dck_at tX6_commonDivisor 14 rfl) rfl ?_
        obtain ⟨hg27, h⟩ := gd h
        refine g_lrem hF (dck_at tX6_commonDivisor 15 rfl) (nz64_n hg27) ?_
        refine g_lstore (L' := [none, none, none, none, some (.long x4), none, some (.long x6), none, some (.int x8), some (.long (x4 - x4 / x6 * x6)), none]) hF (dck_at tX6_commonDivisor 16 rfl) (Nat.le_of_ble_eq_true rfl) rfl ?_
        refine g_lload hF (dck_at tX6_commonDivisor 17 rfl) rfl ?_
        refine g_lstore (L' := [none, none, none, none, some (.long x6), none, some (.long x6), none, some (.int x8), some (.long (x4 - x4 / x6 * x6)), none]) hF (dck_at tX6_commonDivisor 18 rfl) (Nat.le_of_ble_eq_true rfl) rfl ?_
        show G X F 34 _ _ _
        refine g_lload hF (dck_at tX6_commonDivisor 19 rfl) rfl ?_
        refine g_lstore (L' := [none, none, none, none, some (.long x6), none, some (.long (x4 - x4 / x6 * x6)), none, some (.int x8), some (.long (x4 - x4 / x6 * x6)), none]) hF (dck_at tX6_commonDivisor 20 rfl) (Nat.le_of_ble_eq_true rfl) rfl ?_
        refine g_iinc (v := 1) (L' := [none, none, none, none, some (.long x6), none, some (.long (x4 - x4 / x6 * x6)), none, some (.int (x8 + (1 : Int32))), some (.long (x4 - x4 / x6 * x6)), none]) hF (dck_at tX6_commonDivisor 21 rfl) rfl (by decide) rfl ?_
        refine g_goto hF 9 (dck_at tX6_commonDivisor 22 rfl) (by decide) ?_
        refine g_msk [true, true, true, true, true, true, true, true, true, false, true] (L' := [none, none, none, none, some (.long x6), none, some (.long (x4 - x4 / x6 * x6)), none, some (.int (x8 + (1 : Int32))), none, none]) rfl ?_
        exact ih _ _ _ _ h K
set_option maxHeartbeats 4000000 in
set_option maxRecDepth 100000 in
theorem c_X6_commonDivisor {X : Cx} {l : Launch} (hX : CxOk X) {N : Nat} {M : Mem} {x0 : Int64} {x2 : Int64} {r : Int64} (h : f_X6_commonDivisor N M x0 x2 = some r) : Ctr X l yX6_commonDivisor cX6_commonDivisor 11 (some .long) 1 [.long x0, .long x2] M (some (.long r)) M := by
  refine Ctr.ofG (L := [some (.long x0), none, some (.long x2), none, none, none, none, none, none, none, none]) hX (by decide) (Nat.le_of_ble_eq_true rfl) rfl (fun F hF hl hR => ?_)
  subst hl
  unfold f_X6_commonDivisor at h
  refine g_lload_n hF (dck_at tX6_commonDivisor 0 rfl) rfl ?_
  refine g_lstore (L' := [some (.long x0), none, some (.long x2), none, some (.long x0), none, none, none, none, none, none]) hF (dck_at tX6_commonDivisor 1 rfl) (Nat.le_of_ble_eq_true rfl) rfl ?_
  refine g_lload_n hF (dck_at tX6_commonDivisor 2 rfl) rfl ?_
  refine g_lstore (L' := [some (.long x0), none, some (.long x2), none, some (.long x0), none, some (.long x2), none, none, none, none]) hF (dck_at tX6_commonDivisor 3 rfl) (Nat.le_of_ble_eq_true rfl) rfl ?_
  refine g_iconst (v := 0) hF (dck_at tX6_commonDivisor 4 rfl) (by decide) ?_
  refine g_istore (L' := [some (.long x0), none, some (.long x2), none, some (.long x0), none, some (.long x2), none, some (.int (0 : Int32)), none, none]) hF (dck_at tX6_commonDivisor 5 rfl) (Nat.le_of_ble_eq_true rfl) rfl ?_
  refine g_msk [false, true, false, true, true, true, true, true, true, true, true] (L' := [none, none, none, none, some (.long x0), none, some (.long x2), none, some (.int (0 : Int32)), none, none]) rfl ?_
  obtain ⟨o9, e9, h⟩ := bd h
  refine g_X6_commonDivisor_L9 hF N _ N _ _ _ _ e9 ?_
  refine g_lload hF (dck_at tX6_commonDivisor 23 rfl) rfl ?_
  cases h
  exact g_lret hF hR (dck_at tX6_commonDivisor 24 rfl)
end
section
/-! The constructors: cells come one by one. -/
def VL (X0 : Cx) (U : State) (H : Heap) : Prop := va_Z RX0 "$VALUES" "[LWhichEncore$Clause;" (.ref (xad X0 1070)) (xA X0) U H ∧ H[xad X0 1070]? = some (vp_cell (xca X0 20) (13, .inr (.inr (.inr (.inr (fun i => some (xad X0 (1000 + i)))))))) ∧ ¬ xA X0 (xad X0 1070) ∧ ArrOfT U (xca X0 20) (.object RX0) ∧ va_RA U (xca X0 20) (.object RX0) ∧ va_Nw (.castable "[LWhichEncore$Clause;" "java/lang/Cloneable") U
def Zs (X0 : Cx) (h0 sz : Nat) (U : State) : Prop := va_AO RX1 U ∧ (xb X0 ≤ h0 ∧ xb X0 ≤ sz) ∧ (VL X0 U U.heap ∧ St X0 U U.heap) ∧ va_Nw (.methodLinkNest RX6 18 yX4_init RX6) U
theorem VL.move {X : Cx} {s U : State} {H : Heap} {locs : List Loc} (hW : s.WarmedH U.vm) (hS : va_S (xA X) s.heap H locs) (hU : U.heap = H) (h : VL X s s.heap) : VL X U U.heap := by
  have hq := hS.2.1
  rw [hU]
  obtain ⟨h1, h2, h3, h4, h5, h6⟩ := h
  exact ⟨va_Z.moved hW.alike (h1.kept hq), by rw [hq _ (Array.getElem?_eq_some_iff.mp h2).1 h3]; exact h2, h3, arrOfT_moved hW.alike h4, h5.moved hW.alike, h6.warmC hW⟩
theorem va_S.wide {A B : Nat → Prop} {H0 H : Heap} {locs : List Loc} (h : va_S A H0 H locs) (hAB : ∀ q, A q → B q) : va_S B H0 H locs := ⟨h.1, fun q h1 h2 => h.2.1 q h1 (fun z => h2 (hAB q z)), fun l hl => hAB _ (h.2.2 l hl)⟩
theorem Zs.moveA {X0 : Cx} {h0 sz h' : Nat} {A : Nat → Prop} {s U : State} {H : Heap} {locs : List Loc} (hZ : Zs X0 h0 sz s) (hz : sz ≤ s.heap.size) (hW : s.WarmedH U.vm) (hS : va_S A s.heap H locs) (hU : U.heap = H) (hAb : ∀ q, A q → xA X0 q) (hh : xb X0 ≤ h') : Zs X0 h' H.size U :=
  ⟨va_AO.moved hW.alike hZ.1, ⟨hh, Nat.le_trans hZ.2.1.2 (Nat.le_trans hz hS.1)⟩, ⟨hZ.2.2.1.1.move hW (hS.wide hAb) hU, hZ.2.2.1.2.move hW (hS.wide hAb) hU⟩, hZ.2.2.2.warmM hW⟩
theorem Zs.calls {X0 : Cx} {h sz : Nat} {U : State} {g : JFrame} {mk : MethodId} {a : Array Value} (hZ : Zs X0 h sz U) : Zs X0 h sz (U.calling g mk a) := by
  have hW : U.WarmedH (U.calling g mk a).vm := State.WarmedH.refl U
  exact ⟨va_AO.moved hW.alike hZ.1, hZ.2.1, ⟨hZ.2.2.1.1.move (s := U) (U := U.calling g mk a) (H := U.heap) (locs := []) hW va_S.rf rfl, hZ.2.2.1.2.move (s := U) (U := U.calling g mk a) (H := U.heap) (locs := []) hW va_S.rf rfl⟩, hZ.2.2.2.warmM hW⟩
theorem Zs.below {X0 : Cx} {h0 sz q : Nat} {e : va_E} {U : State} (hZ : Zs X0 h0 sz U) (h : va_A [(h0, e)] sz q) : xA X0 q := by
  rcases h with ⟨k, e', h⟩ | h
  · have hz : k < 1 := (List.getElem?_eq_some_iff.mp h).1
    rw [show k = 0 by omega] at h
    cases h
    exact hZ.2.1.1
  · exact Nat.le_trans hZ.2.1.2 h
theorem wl_L_7 : Cond.classLink RL 7 RX6 ∈ tb := tb_mem 68 (by decide +kernel) (by decide +kernel)
theorem wb_X6 : Cond.instantiable RX6 10 ∈ tb := tb_mem 69 (by decide +kernel) (by decide +kernel)
theorem wm_X6_3 : Cond.methodLink RX6 3 objectInit ∈ tb := tb_mem 73 (by decide +kernel) (by decide +kernel)
theorem wl_X6_9 : Cond.classLink RX6 9 RX5 ∈ tb := tb_mem 76 (by decide +kernel) (by decide +kernel)
theorem wb_X5 : Cond.instantiable RX5 12 ∈ tb := tb_mem 77 (by decide +kernel) (by decide +kernel)
theorem wm_X5_3 : Cond.methodLink RX5 3 objectInit ∈ tb := tb_mem 81 (by decide +kernel) (by decide +kernel)
theorem wa_int : Cond.arrayClass .int ∈ tb := tb_mem 143 (by decide +kernel) (by decide +kernel)
theorem wl_X6_16 : Cond.classLink RX6 16 RX4 ∈ tb := tb_mem 144 (by decide +kernel) (by decide +kernel)
theorem wb_X4 : Cond.instantiable RX4 7 ∈ tb := tb_mem 145 (by decide +kernel) (by decide +kernel)
theorem wm_X4_3 : Cond.methodLink RX4 3 objectInit ∈ tb := tb_mem 149 (by decide +kernel) (by decide +kernel)
theorem wl_X4_9 : Cond.classLink RX4 9 RX5 ∈ tb := tb_mem 150 (by decide +kernel) (by decide +kernel)
theorem wm_X0_49 : Cond.methodLink RX0 49 ⟨"[LWhichEncore$Clause;", "clone", "()Ljava/lang/Object;"⟩ ∈ tb := tb_mem 157 (by decide +kernel) (by decide +kernel)
theorem ws_clone : Cond.sameMethod "[LWhichEncore$Clause;" "java/lang/Object" "clone" "()Ljava/lang/Object;" ∈ tb := tb_mem 158 (by decide +kernel) (by decide +kernel)
theorem wv_clone : Cond.native ⟨"java/lang/Object", "clone", "()Ljava/lang/Object;"⟩ ∈ tb := tb_mem 159 (by decide +kernel) (by decide +kernel)
theorem wi_clone : Cond.instanceMethod ⟨"java/lang/Object", "clone", "()Ljava/lang/Object;"⟩ ∈ tb := tb_mem 160 (by decide +kernel) (by decide +kernel)
theorem we_clone : Cond.selects "[LWhichEncore$Clause;" ⟨"[LWhichEncore$Clause;", "clone", "()Ljava/lang/Object;"⟩ ⟨"java/lang/Object", "clone", "()Ljava/lang/Object;"⟩ ∈ tb := tb_mem 161 (by decide +kernel) (by decide +kernel)
theorem wl_X0_50 : Cond.classLink RX0 50 "[LWhichEncore$Clause;" ∈ tb := tb_mem 164 (by decide +kernel) (by decide +kernel)
theorem wa_char : Cond.arrayClass .char ∈ tb := tb_mem 190 (by decide +kernel) (by decide +kernel)
theorem wl_X6_23 : Cond.classLink RX6 23 RX1 ∈ tb := tb_mem 191 (by decide +kernel) (by decide +kernel)
theorem wb_X1 : Cond.instantiable RX1 10 ∈ tb := tb_mem 192 (by decide +kernel) (by decide +kernel)
theorem wm_X1_3 : Cond.methodLink RX1 3 objectInit ∈ tb := tb_mem 196 (by decide +kernel) (by decide +kernel)
theorem wl_X6_35 : Cond.classLink RX6 35 RX3 ∈ tb := tb_mem 239 (by decide +kernel) (by decide +kernel)
theorem wb_X3 : Cond.instantiable RX3 5 ∈ tb := tb_mem 240 (by decide +kernel) (by decide +kernel)
theorem wm_X3_3 : Cond.methodLink RX3 3 objectInit ∈ tb := tb_mem 244 (by decide +kernel) (by decide +kernel)
theorem wl_X3_18 : Cond.classLink RX3 18 RX1 ∈ tb := tb_mem 245 (by decide +kernel) (by decide +kernel)
theorem wl_X6_42 : Cond.classLink RX6 42 RX2 ∈ tb := tb_mem 267 (by decide +kernel) (by decide +kernel)
theorem wb_X2 : Cond.instantiable RX2 3 ∈ tb := tb_mem 268 (by decide +kernel) (by decide +kernel)
theorem wm_X2_3 : Cond.methodLink RX2 3 objectInit ∈ tb := tb_mem 272 (by decide +kernel) (by decide +kernel)
theorem wl_X2_9 : Cond.classLink RX2 9 RX1 ∈ tb := tb_mem 273 (by decide +kernel) (by decide +kernel)
theorem wa_boolean : Cond.arrayClass .boolean ∈ tb := tb_mem 324 (by decide +kernel) (by decide +kernel)
theorem wl_L_10 : Cond.classLink RL 10 RX7 ∈ tb := tb_mem 708 (by decide +kernel) (by decide +kernel)
theorem wb_X7 : Cond.instantiable RX7 21 ∈ tb := tb_mem 709 (by decide +kernel) (by decide +kernel)
theorem wm_X7_1 : Cond.methodLink RX7 1 objectInit ∈ tb := tb_mem 713 (by decide +kernel) (by decide +kernel)
theorem wa_byte : Cond.arrayClass .byte ∈ tb := tb_mem 1034 (by decide +kernel) (by decide +kernel)
theorem wi_obj : Cond.instanceMethod objectInit ∈ tb := tb_mem 74 (by decide +kernel) (by decide +kernel)
set_option maxRecDepth 20000 in
theorem wc_obj : Cond.code objectInit ⟨#[0xb1]⟩ 1 none ∈ tb := tb_mem 75 rfl (by decide +kernel)
def tbX0_values : List (Nat × Instr × Nat) := [(0, .getstatic 45, 3), (3, .invokevirtual 49, 3), (6, .checkcast 50, 3), (9, .areturn, 1)]
theorem tX0_values : dck cX0_values tbX0_values = true := by decide +kernel
abbrev vCell (X0 : Cx) : ClassId × vp_A := (xca X0 20, 13, .inr (.inr (.inr (.inr (fun i => some (xad X0 (1000 + i)))))))
set_option maxHeartbeats 4000000 in
set_option maxRecDepth 100000 in
theorem k_X0_values (l : Launch) (D : va_G) (X0 : Cx) (sz : Nat) : Met l yX0_values (Cond.code yX0_values cX0_values 0 (some (.array (.object "WhichEncore$Clause"))) :: tb) ({ frames := 1, cells := 1, slots := 13, locals := 40 }) (va_Pc [] (fun U => U.heap.size = sz ∧ va_K D classes [] U ∧ Zs X0 (xb X0) sz U)) (va_Qr (fun _ : Unit => True) (fun _ a t => va_P D classes [(a, .inl (vCell X0))] t.heap ∧ va_K D classes [(xca X0 20, .object RX0)] t ∧ va_D (va_A [] sz) [(a, .inl (vCell X0))]) (va_A [] sz)) 1 13 (va_A [] sz) := by
  refine Met.ofW (cc := cX0_values) (maxL := 0) (ret := some (.array (.object "WhichEncore$Clause"))) (by decide) rfl ?_
  intro p e s m args below meth c s₁ B hml hv
  obtain ⟨rfl, hsz, hK, hZ⟩ := hv
  have hx := B.exec
  have hb := B.bytes
  have hr := B.returns
  have hts0 := atoms_spec (ws := Cond.code yX0_values cX0_values 0 (some (.array (.object "WhichEncore$Clause"))) :: tb) B.pre
  have hts : ∀ w ∈ tb, w.before _ s = true := fun w hw => hts0 w (List.mem_cons_of_mem _ hw)
  have hown : s.vm.findClass RX0 = some m.cls := findClass_of_methodNamed B.named
  have hlocks := B.notSynchronized
  subst hsz
  obtain ⟨v1, v2, v3, v4, v5, v6⟩ := hZ.2.2.1.1
  have hAx : ∀ q, va_A [] s.heap.size q → xA X0 q := fun q h => by
    rcases h with ⟨k, e', h⟩ | h
    · simp at h
    · exact Nat.le_trans hZ.2.1.2 h
  generalize hAe : va_A [] s.heap.size = A at hAx ⊢
  have hA : ∀ q : Nat, s.heap.size ≤ q → A q := fun q h => by rw [← hAe]; exact Or.inr h
  have hS : va_S A s.heap s.heap [] := va_S.rf
  have hl := lv_entry ([]) (n := 0) (Nat.le_of_ble_eq_true rfl)
  rw [lg_entry_eq]
  generalize (lg_sl ([]) ++ List.replicate (0 - (lg_sl ([])).length) Slot.unset).toArray = ls at hl ⊢
  refine va_gets hx hb (v1.narrow hAx) hS hown (hts _ wf_X0_45) (fun _ h => h) (dck_at tX0_values 0 rfl) ?_
  have hvn : ¬ A (xad X0 1070) := fun h => v3 (hAx _ h)
  have hKv : va_K D classes [(xca X0 20, .object RX0)] s := ⟨hK.1, fun k q hq => by
    have hz : k < 1 := (List.getElem?_eq_some_iff.mp hq).1
    rw [show k = 0 by omega] at hq
    cases hq
    exact ⟨v4, v5⟩⟩
  have hPv : va_P D classes [(xad X0 1070, .inl (vCell X0))] s.heap := fun k q hq => by
    have hz : k < 1 := (List.getElem?_eq_some_iff.mp hq).1
    rw [show k = 0 by omega] at hq
    cases hq
    exact v2
  have hDv : va_D (fun q => A q ∨ q = xad X0 1070) [(xad X0 1070, .inl (vCell X0))] := ⟨fun i j a b hi hj _ => by
    have h1 : i < 1 := (List.getElem?_eq_some_iff.mp hi).1
    have h2 : j < 1 := (List.getElem?_eq_some_iff.mp hj).1
    omega, fun k q hq => by
    have hz : k < 1 := (List.getElem?_eq_some_iff.mp hq).1
    rw [show k = 0 by omega] at hq
    cases hq
    exact Or.inr rfl⟩
  have hnm : s.vm.findClass "[LWhichEncore$Clause;" = some (xca X0 20) := by
    obtain ⟨kA, comp, g1, g2, g3, g4⟩ := v5
    exact g4
  refine va_clone hx hb (by rw [hml]; exact hl.1.symm) hown (hts _ wm_X0_49) (hts _ ws_clone) (hts _ wv_clone) (hts _ wi_clone) (hts _ we_clone) v6 hKv hPv hDv (hS.wide (fun q h => Or.inl h)) (fun q h => Or.inl (hA q h)) 0 0 rfl rfl hnm (va_fit (fun i _ => rfl)) (Nat.le_of_ble_eq_true rfl) (Nat.le_of_ble_eq_true rfl) (Nat.le_of_ble_eq_true rfl) (Nat.le_of_ble_eq_true rfl) (dck_at tX0_values 1 rfl) (fun q H1 hK1 hP1 hD1 hS1 => ?_)
  have hP1 : va_P D classes [(xad X0 1070, .inl (vCell X0)), (q, .inl (vCell X0))] H1 := hP1
  have hSA : va_S A s.heap H1 [] := ⟨hS1.1, fun x h1 h2 => by
    by_cases hxv : x = xad X0 1070
    · subst hxv
      rw [v2]
      exact hP1 0 _ rfl
    · exact hS1.2.1 x h1 (fun z => z.elim h2 hxv), fun _ h => by cases h⟩
  have hP9 := hP1.sub (ws' := [(q, .inl (vCell X0))]) [1] rfl
  have hqA : A q := by
    rcases hD1.2 1 (q, .inl (vCell X0)) rfl with h | h
    · exact h
    · exact absurd (hD1.1 0 1 _ _ rfl rfl h.symm) (by decide)
  have hD9 : va_D A [(q, .inl (vCell X0))] := ⟨fun i j a b hi hj _ => by
    have h1 : i < 1 := (List.getElem?_eq_some_iff.mp hi).1
    have h2 : j < 1 := (List.getElem?_eq_some_iff.mp hj).1
    omega, fun k x hx => by
    have hz : k < 1 := (List.getElem?_eq_some_iff.mp hx).1
    rw [show k = 0 by omega] at hx
    cases hx
    exact hqA⟩
  refine W.widen (k := 1) (n := 13) (Nat.le_of_ble_eq_true rfl) (Nat.le_of_ble_eq_true rfl) ?_
  refine va_castA hx hb hown (hts _ wl_X0_50) hP9 0 rfl hnm (dck_at tX0_values 2 rfl) ?_
  exact W.aret hx hb hr (Or.inr ⟨_, rfl⟩) (Or.inr ⟨_, rfl⟩) (fun t ht hW => ⟨⟨(), q, rfl, trivial, by rw [ht]; exact hP9, va_K.moved hW.alike hKv, hD9⟩, hSA.F ht⟩) hSA.2.2 (dck_at tX0_values 3 rfl)
set_option maxHeartbeats 4000000 in
set_option maxRecDepth 100000 in
theorem k_X5_be (l : Launch) (D : va_G) (X0 : Cx) (h0 sz : Nat) (q0 q1 q2 q3 q4 q5 q6 : Nat) : Met l yX5_beAsAtFirst (Cond.code yX5_beAsAtFirst cX5_beAsAtFirst 1 none :: tb) ({ frames := 1, cells := 0, slots := 0, locals := 40 }) (va_Pc [.ref h0] (fun U => U.heap.size = sz ∧ va_P D classes [(h0, .inr (4, [.ref q0, .ref q1, .ref q2, .ref q3, .ref q4, .ref q5, .ref q6, .int 0, .int 0, .int 0, .int 0, .int 0]))] U.heap ∧ va_K D classes [] U ∧ va_D (fun _ => True) [(h0, .inr (4, [.ref q0, .ref q1, .ref q2, .ref q3, .ref q4, .ref q5, .ref q6, .int 0, .int 0, .int 0, .int 0, .int 0]))] ∧ Zs X0 h0 sz U)) (va_Qv (fun _ : Unit => True) (fun _ t => va_P D classes [(h0, .inr (4, [.ref q0, .ref q1, .ref q2, .ref q3, .ref q4, .ref q5, .ref q6, .int 0, .int 0, .int 10, .int 60, .int 1]))] t.heap ∧ va_K D classes [] t ∧ va_D (va_A [(h0, .inr (4, [.ref q0, .ref q1, .ref q2, .ref q3, .ref q4, .ref q5, .ref q6, .int 0, .int 0, .int 0, .int 0, .int 0]))] sz) [(h0, .inr (4, [.ref q0, .ref q1, .ref q2, .ref q3, .ref q4, .ref q5, .ref q6, .int 0, .int 0, .int 10, .int 60, .int 1]))]) (va_A [(h0, .inr (4, [.ref q0, .ref q1, .ref q2, .ref q3, .ref q4, .ref q5, .ref q6, .int 0, .int 0, .int 0, .int 0, .int 0]))] sz)) 0 0 (va_A [(h0, .inr (4, [.ref q0, .ref q1, .ref q2, .ref q3, .ref q4, .ref q5, .ref q6, .int 0, .int 0, .int 0, .int 0, .int 0]))] sz) := by
  refine Met.ofW (cc := cX5_beAsAtFirst) (maxL := 1) (ret := none) (by decide) rfl ?_
  intro p e s m args below meth c s₁ B hml hv
  obtain ⟨rfl, hsz, hP, hK, hD0, hZ⟩ := hv
  have hx := B.exec
  have hb := B.bytes
  have hr := B.returns
  have hts0 := atoms_spec (ws := Cond.code yX5_beAsAtFirst cX5_beAsAtFirst 1 none :: tb) B.pre
  have hts : ∀ w ∈ tb, w.before _ s = true := fun w hw => hts0 w (List.mem_cons_of_mem _ hw)
  have hown : s.vm.findClass RX5 = some m.cls := findClass_of_methodNamed B.named
  have hlocks := B.notSynchronized
  subst hsz
  have hD := hD0.self (sz := s.heap.size)
  generalize hAe : va_A [(h0, .inr (4, [.ref q0, .ref q1, .ref q2, .ref q3, .ref q4, .ref q5, .ref q6, .int 0, .int 0, .int 0, .int 0, .int 0]))] s.heap.size = A at hD ⊢
  have hA : ∀ q : Nat, s.heap.size ≤ q → A q := fun q h => by rw [← hAe]; exact Or.inr h
  have hAb : ∀ q : Nat, A q → xA X0 q := fun q h => by rw [← hAe] at h; exact hZ.below h
  have hS : va_S A s.heap s.heap [] := va_S.rf
  have hP : va_P D classes [(h0, .inr (4, [.ref q0, .ref q1, .ref q2, .ref q3, .ref q4, .ref q5, .ref q6, .int 0, .int 0, .int 0, .int 0, .int 0]))] s.heap := hP
  have hl := lv_entry ([.ref h0]) (n := 1) (Nat.le_of_ble_eq_true rfl)
  rw [lg_entry_eq]
  generalize (lg_sl ([.ref h0]) ++ List.replicate (1 - (lg_sl ([.ref h0])).length) Slot.unset).toArray = ls at hl ⊢
  have hl : lv_has ls 1 [(0, .ref h0)] := hl
  refine lv_aload_n hx hb (dck_at tX5_beAsAtFirst 0 rfl) rfl (lv_at hl 0 rfl) ?_
  refine lv_iconst (v := 0) hx hb (dck_at tX5_beAsAtFirst 1 rfl) (by decide) ?_
  refine va_put (D := D) (ci := 4) (v := .int 0) (ty := .int) (C := RX5) (T := TX5) (N := 12) hx hb hts iX5 tyX5 tyX5_ok nmX5 hown hK hP hD hS 0 rfl rfl 7 (by decide) (hts _ wf_X5_36) (fun _ h9 => h9) rfl (by decide +kernel) rfl rfl (Nat.le_of_ble_eq_true rfl) (dck_at tX5_beAsAtFirst 2 rfl) (fun H locs hP hD hS => ?_)
  have hP : va_P D classes [(h0, .inr (4, [.ref q0, .ref q1, .ref q2, .ref q3, .ref q4, .ref q5, .ref q6, .int 0, .int 0, .int 0, .int 0, .int 0]))] H := hP
  have hD : va_D A [(h0, .inr (4, [.ref q0, .ref q1, .ref q2, .ref q3, .ref q4, .ref q5, .ref q6, .int 0, .int 0, .int 0, .int 0, .int 0]))] := hD
  refine lv_aload_n hx hb (dck_at tX5_beAsAtFirst 3 rfl) rfl (lv_at hl 0 rfl) ?_
  refine lv_iconst (v := 0) hx hb (dck_at tX5_beAsAtFirst 4 rfl) (by decide) ?_
  refine va_put (D := D) (ci := 4) (v := .int 0) (ty := .int) (C := RX5) (T := TX5) (N := 12) hx hb hts iX5 tyX5 tyX5_ok nmX5 hown hK hP hD hS 0 rfl rfl 8 (by decide) (hts _ wf_X5_40) (fun _ h9 => h9) rfl (by decide +kernel) rfl rfl (Nat.le_of_ble_eq_true rfl) (dck_at tX5_beAsAtFirst 5 rfl) (fun H locs hP hD hS => ?_)
  have hP : va_P D classes [(h0, .inr (4, [.ref q0, .ref q1, .ref q2, .ref q3, .ref q4, .ref q5, .ref q6, .int 0, .int 0, .int 0, .int 0, .int 0]))] H := hP
  have hD : va_D A [(h0, .inr (4, [.ref q0, .ref q1, .ref q2, .ref q3, .ref q4, .ref q5, .ref q6, .int 0, .int 0, .int 0, .int 0, .int 0]))] := hD
  refine lv_aload_n hx hb (dck_at tX5_beAsAtFirst 6 rfl) rfl (lv_at hl 0 rfl) ?_
  refine lv_bipush (v := 10) hx hb (dck_at tX5_beAsAtFirst 7 rfl) (by decide) ?_
  refine va_put (D := D) (ci := 4) (v := .int 10) (ty := .int) (C := RX5) (T := TX5) (N := 12) hx hb hts iX5 tyX5 tyX5_ok nmX5 hown hK hP hD hS 0 rfl rfl 9 (by decide) (hts _ wf_X5_43) (fun _ h9 => h9) rfl (by decide +kernel) rfl rfl (Nat.le_of_ble_eq_true rfl) (dck_at tX5_beAsAtFirst 8 rfl) (fun H locs hP hD hS => ?_)
  have hP : va_P D classes [(h0, .inr (4, [.ref q0, .ref q1, .ref q2, .ref q3, .ref q4, .ref q5, .ref q6, .int 0, .int 0, .int 10, .int 0, .int 0]))] H := hP
  have hD : va_D A [(h0, .inr (4, [.ref q0, .ref q1, .ref q2, .ref q3, .ref q4, .ref q5, .ref q6, .int 0, .int 0, .int 10, .int 0, .int 0]))] := hD
  refine lv_aload_n hx hb (dck_at tX5_beAsAtFirst 9 rfl) rfl (lv_at hl 0 rfl) ?_
  refine lv_bipush (v := 60) hx hb (dck_at tX5_beAsAtFirst 10 rfl) (by decide) ?_
  refine va_put (D := D) (ci := 4) (v := .int 60) (ty := .int) (C := RX5) (T := TX5) (N := 12) hx hb hts iX5 tyX5 tyX5_ok nmX5 hown hK hP hD hS 0 rfl rfl 10 (by decide) (hts _ wf_X5_46) (fun _ h9 => h9) rfl (by decide +kernel) rfl rfl (Nat.le_of_ble_eq_true rfl) (dck_at tX5_beAsAtFirst 11 rfl) (fun H locs hP hD hS => ?_)
  have hP : va_P D classes [(h0, .inr (4, [.ref q0, .ref q1, .ref q2, .ref q3, .ref q4, .ref q5, .ref q6, .int 0, .int 0, .int 10, .int 60, .int 0]))] H := hP
  have hD : va_D A [(h0, .inr (4, [.ref q0, .ref q1, .ref q2, .ref q3, .ref q4, .ref q5, .ref q6, .int 0, .int 0, .int 10, .int 60, .int 0]))] := hD
  refine lv_aload_n hx hb (dck_at tX5_beAsAtFirst 12 rfl) rfl (lv_at hl 0 rfl) ?_
  refine lv_iconst (v := 1) hx hb (dck_at tX5_beAsAtFirst 13 rfl) (by decide) ?_
  refine va_put (D := D) (ci := 4) (v := .int 1) (ty := .int) (C := RX5) (T := TX5) (N := 12) hx hb hts iX5 tyX5 tyX5_ok nmX5 hown hK hP hD hS 0 rfl rfl 11 (by decide) (hts _ wf_X5_49) (fun _ h9 => h9) rfl (by decide +kernel) rfl rfl (Nat.le_of_ble_eq_true rfl) (dck_at tX5_beAsAtFirst 14 rfl) (fun H locs hP hD hS => ?_)
  have hP : va_P D classes [(h0, .inr (4, [.ref q0, .ref q1, .ref q2, .ref q3, .ref q4, .ref q5, .ref q6, .int 0, .int 0, .int 10, .int 60, .int 1]))] H := hP
  have hD : va_D A [(h0, .inr (4, [.ref q0, .ref q1, .ref q2, .ref q3, .ref q4, .ref q5, .ref q6, .int 0, .int 0, .int 10, .int 60, .int 1]))] := hD
  exact W.vret hx hb hr (fun t ht hW => ⟨⟨(), rfl, trivial, by rw [ht]; exact hP, va_K.moved hW.alike hK, hD⟩, hS.F ht⟩) hS.2.2 (dck_at tX5_beAsAtFirst 15 rfl)
def tbX5_init : List (Nat × Instr × Nat) := [(0, .aload_n 0, 1), (1, .invokespecial 3, 3), (4, .aload_n 0, 1), (5, .bipush 8, 2), (7, .newarray .int, 2), (9, .putfield 9, 3), (12, .aload_n 0, 1), (13, .bipush 8, 2), (15, .newarray .int, 2), (17, .putfield 15, 3), (20, .aload_n 0, 1), (21, .bipush 8, 2), (23, .newarray .int, 2), (25, .putfield 18, 3), (28, .aload_n 0, 1), (29, .iconst 4, 1), (30, .newarray .int, 2), (32, .putfield 21, 3), (35, .aload_n 0, 1), (36, .iconst 4, 1), (37, .newarray .int, 2), (39, .putfield 24, 3), (42, .aload_n 0, 1), (43, .iconst 4, 1), (44, .newarray .int, 2), (46, .putfield 27, 3), (49, .aload_n 0, 1), (50, .iconst 4, 1), (51, .newarray .int, 2), (53, .putfield 30, 3), (56, .aload_n 0, 1), (57, .invokevirtual 33, 3), (60, .return_, 1)]
theorem tX5_init : dck cX5_init tbX5_init = true := by decide +kernel
set_option maxHeartbeats 8000000 in
set_option maxRecDepth 100000 in
theorem k_X5_init (l : Launch) (D : va_G) (X0 : Cx) (h0 sz : Nat) : Met l yX5_init (Cond.code yX5_init cX5_init 1 none :: tb) ({ frames := 3, cells := 7, slots := 40, locals := 120 }) (va_Pc [.ref h0] (fun U => U.heap.size = sz ∧ va_P D classes [(h0, .inr (4, [.null, .null, .null, .null, .null, .null, .null, .int 0, .int 0, .int 0, .int 0, .int 0]))] U.heap ∧ va_K D classes [] U ∧ va_D (fun _ => True) [(h0, .inr (4, [.null, .null, .null, .null, .null, .null, .null, .int 0, .int 0, .int 0, .int 0, .int 0]))] ∧ Zs X0 h0 sz U)) (va_Qv (fun _ : Nat → Nat × ClassId => True) (fun u t => va_P D classes [(h0, .inr (4, [.ref (u 0).1, .ref (u 1).1, .ref (u 2).1, .ref (u 3).1, .ref (u 4).1, .ref (u 5).1, .ref (u 6).1, .int 0, .int 0, .int 10, .int 60, .int 1])), ((u 0).1, .inl ((u 0).2, 8, .inl (fun _ => 0))), ((u 1).1, .inl ((u 1).2, 8, .inl (fun _ => 0))), ((u 2).1, .inl ((u 2).2, 8, .inl (fun _ => 0))), ((u 3).1, .inl ((u 3).2, 4, .inl (fun _ => 0))), ((u 4).1, .inl ((u 4).2, 4, .inl (fun _ => 0))), ((u 5).1, .inl ((u 5).2, 4, .inl (fun _ => 0))), ((u 6).1, .inl ((u 6).2, 4, .inl (fun _ => 0)))] t.heap ∧ va_K D classes [((u 0).2, .int), ((u 1).2, .int), ((u 2).2, .int), ((u 3).2, .int), ((u 4).2, .int), ((u 5).2, .int), ((u 6).2, .int)] t ∧ va_D (va_A [(h0, .inr (4, [.null, .null, .null, .null, .null, .null, .null, .int 0, .int 0, .int 0, .int 0, .int 0]))] sz) [(h0, .inr (4, [.ref (u 0).1, .ref (u 1).1, .ref (u 2).1, .ref (u 3).1, .ref (u 4).1, .ref (u 5).1, .ref (u 6).1, .int 0, .int 0, .int 10, .int 60, .int 1])), ((u 0).1, .inl ((u 0).2, 8, .inl (fun _ => 0))), ((u 1).1, .inl ((u 1).2, 8, .inl (fun _ => 0))), ((u 2).1, .inl ((u 2).2, 8, .inl (fun _ => 0))), ((u 3).1, .inl ((u 3).2, 4, .inl (fun _ => 0))), ((u 4).1, .inl ((u 4).2, 4, .inl (fun _ => 0))), ((u 5).1, .inl ((u 5).2, 4, .inl (fun _ => 0))), ((u 6).1, .inl ((u 6).2, 4, .inl (fun _ => 0)))]) (va_A [(h0, .inr (4, [.null, .null, .null, .null, .null, .null, .null, .int 0, .int 0, .int 0, .int 0, .int 0]))] sz)) 7 40 (va_A [(h0, .inr (4, [.null, .null, .null, .null, .null, .null, .null, .int 0, .int 0, .int 0, .int 0, .int 0]))] sz) := by
  refine Met.ofW (cc := cX5_init) (maxL := 1) (ret := none) (by decide) rfl ?_
  intro p e s m args below meth c s₁ B hml hv
  obtain ⟨rfl, hsz, hP, hK, hD0, hZ⟩ := hv
  have hx := B.exec
  have hb := B.bytes
  have hr := B.returns
  have hts0 := atoms_spec (ws := Cond.code yX5_init cX5_init 1 none :: tb) B.pre
  have hts : ∀ w ∈ tb, w.before _ s = true := fun w hw => hts0 w (List.mem_cons_of_mem _ hw)
  have hown : s.vm.findClass RX5 = some m.cls := findClass_of_methodNamed B.named
  have hlocks := B.notSynchronized
  have hin : meth.name = "<init>" := (name_of_methodNamed B.named B.method).1
  subst hsz
  have hD := hD0.self (sz := s.heap.size)
  generalize hAe : va_A [(h0, .inr (4, [.null, .null, .null, .null, .null, .null, .null, .int 0, .int 0, .int 0, .int 0, .int 0]))] s.heap.size = A at hD ⊢
  have hA : ∀ q : Nat, s.heap.size ≤ q → A q := fun q h => by rw [← hAe]; exact Or.inr h
  have hAb : ∀ q : Nat, A q → xA X0 q := fun q h => by rw [← hAe] at h; exact hZ.below h
  have hS : va_S A s.heap s.heap [] := va_S.rf
  have hP : va_P D classes [(h0, .inr (4, [.null, .null, .null, .null, .null, .null, .null, .int 0, .int 0, .int 0, .int 0, .int 0]))] s.heap := hP
  have hl := lv_entry ([.ref h0]) (n := 1) (Nat.le_of_ble_eq_true rfl)
  rw [lg_entry_eq]
  generalize (lg_sl ([.ref h0]) ++ List.replicate (1 - (lg_sl ([.ref h0])).length) Slot.unset).toArray = ls at hl ⊢
  have hl : lv_has ls 1 [(0, .ref h0)] := hl
  refine lv_aload_n hx hb (dck_at tX5_init 0 rfl) rfl (lv_at hl 0 rfl) ?_
  refine W.objInit hx hb hown (hts _ wm_X5_3) (hts _ wi_obj) (hts _ wc_obj) rfl (by rw [hml]; exact hl.1) rfl (dck_at tX5_init 1 rfl) (Nat.le_of_ble_eq_true rfl) (Nat.le_of_ble_eq_true rfl) ?_
  refine W.eq (g2 := F0 m 4 ls []) rfl ?_
  refine lv_aload_n hx hb (dck_at tX5_init 2 rfl) rfl (lv_at hl 0 rfl) ?_
  refine lv_bipush (v := 8) hx hb (dck_at tX5_init 3 rfl) (by decide) ?_
  refine va_newa (atype := .int) (ty := .int) (a0 := (8, .inl (fun _ => 0))) hx hb (hts _ wa_int) rfl hK hP hD hS hA (fun _ => rfl) (by decide) (by decide) (by decide) (Nat.le_of_ble_eq_true rfl) (Nat.le_of_ble_eq_true rfl) (dck_at tX5_init 4 rfl) (fun q1 c1 H hK hP hD hS => ?_)
  have hP : va_P D classes [(h0, .inr (4, [.null, .null, .null, .null, .null, .null, .null, .int 0, .int 0, .int 0, .int 0, .int 0])), (q1, .inl (c1, 8, .inl (fun _ => 0)))] H := hP
  have hD : va_D A [(h0, .inr (4, [.null, .null, .null, .null, .null, .null, .null, .int 0, .int 0, .int 0, .int 0, .int 0])), (q1, .inl (c1, 8, .inl (fun _ => 0)))] := hD
  have hK : va_K D classes [(c1, .int)] s := hK
  refine W.widen (k := 1) (n := 8) (Nat.le_of_ble_eq_true rfl) (Nat.le_of_ble_eq_true rfl) ?_
  refine va_putF (D := D) (ci := 4) (v := .ref q1) (ty := .array .int) (C := RX5) (T := TX5) (N := 12) hx hb hts iX5 tyX5 tyX5_ok nmX5 hown hK hP hD hS 0 rfl rfl 0 (by decide) (hts _ wf_X5_9) (fun _ h9 => h9) rfl hin rfl (by decide +kernel) rfl rfl (Nat.le_of_ble_eq_true rfl) (dck_at tX5_init 5 rfl) (fun H locs hP hD hS => ?_)
  have hP : va_P D classes [(h0, .inr (4, [.ref q1, .null, .null, .null, .null, .null, .null, .int 0, .int 0, .int 0, .int 0, .int 0])), (q1, .inl (c1, 8, .inl (fun _ => 0)))] H := hP
  have hD : va_D A [(h0, .inr (4, [.ref q1, .null, .null, .null, .null, .null, .null, .int 0, .int 0, .int 0, .int 0, .int 0])), (q1, .inl (c1, 8, .inl (fun _ => 0)))] := hD
  refine lv_aload_n hx hb (dck_at tX5_init 6 rfl) rfl (lv_at hl 0 rfl) ?_
  refine lv_bipush (v := 8) hx hb (dck_at tX5_init 7 rfl) (by decide) ?_
  refine va_newa (atype := .int) (ty := .int) (a0 := (8, .inl (fun _ => 0))) hx hb (hts _ wa_int) rfl hK hP hD hS hA (fun _ => rfl) (by decide) (by decide) (by decide) (Nat.le_of_ble_eq_true rfl) (Nat.le_of_ble_eq_true rfl) (dck_at tX5_init 8 rfl) (fun q2 c2 H hK hP hD hS => ?_)
  have hP : va_P D classes [(h0, .inr (4, [.ref q1, .null, .null, .null, .null, .null, .null, .int 0, .int 0, .int 0, .int 0, .int 0])), (q1, .inl (c1, 8, .inl (fun _ => 0))), (q2, .inl (c2, 8, .inl (fun _ => 0)))] H := hP
  have hD : va_D A [(h0, .inr (4, [.ref q1, .null, .null, .null, .null, .null, .null, .int 0, .int 0, .int 0, .int 0, .int 0])), (q1, .inl (c1, 8, .inl (fun _ => 0))), (q2, .inl (c2, 8, .inl (fun _ => 0)))] := hD
  have hK : va_K D classes [(c1, .int), (c2, .int)] s := hK
  refine W.widen (k := 2) (n := 16) (Nat.le_of_ble_eq_true rfl) (Nat.le_of_ble_eq_true rfl) ?_
  refine va_putF (D := D) (ci := 4) (v := .ref q2) (ty := .array .int) (C := RX5) (T := TX5) (N := 12) hx hb hts iX5 tyX5 tyX5_ok nmX5 hown hK hP hD hS 0 rfl rfl 1 (by decide) (hts _ wf_X5_15) (fun _ h9 => h9) rfl hin rfl (by decide +kernel) rfl rfl (Nat.le_of_ble_eq_true rfl) (dck_at tX5_init 9 rfl) (fun H locs hP hD hS => ?_)
  have hP : va_P D classes [(h0, .inr (4, [.ref q1, .ref q2, .null, .null, .null, .null, .null, .int 0, .int 0, .int 0, .int 0, .int 0])), (q1, .inl (c1, 8, .inl (fun _ => 0))), (q2, .inl (c2, 8, .inl (fun _ => 0)))] H := hP
  have hD : va_D A [(h0, .inr (4, [.ref q1, .ref q2, .null, .null, .null, .null, .null, .int 0, .int 0, .int 0, .int 0, .int 0])), (q1, .inl (c1, 8, .inl (fun _ => 0))), (q2, .inl (c2, 8, .inl (fun _ => 0)))] := hD
  refine lv_aload_n hx hb (dck_at tX5_init 10 rfl) rfl (lv_at hl 0 rfl) ?_
  refine lv_bipush (v := 8) hx hb (dck_at tX5_init 11 rfl) (by decide) ?_
  refine va_newa (atype := .int) (ty := .int) (a0 := (8, .inl (fun _ => 0))) hx hb (hts _ wa_int) rfl hK hP hD hS hA (fun _ => rfl) (by decide) (by decide) (by decide) (Nat.le_of_ble_eq_true rfl) (Nat.le_of_ble_eq_true rfl) (dck_at tX5_init 12 rfl) (fun q3 c3 H hK hP hD hS => ?_)
  have hP : va_P D classes [(h0, .inr (4, [.ref q1, .ref q2, .null, .null, .null, .null, .null, .int 0, .int 0, .int 0, .int 0, .int 0])), (q1, .inl (c1, 8, .inl (fun _ => 0))), (q2, .inl (c2, 8, .inl (fun _ => 0))), (q3, .inl (c3, 8, .inl (fun _ => 0)))] H := hP
  have hD : va_D A [(h0, .inr (4, [.ref q1, .ref q2, .null, .null, .null, .null, .null, .int 0, .int 0, .int 0, .int 0, .int 0])), (q1, .inl (c1, 8, .inl (fun _ => 0))), (q2, .inl (c2, 8, .inl (fun _ => 0))), (q3, .inl (c3, 8, .inl (fun _ => 0)))] := hD
  have hK : va_K D classes [(c1, .int), (c2, .int), (c3, .int)] s := hK
  refine W.widen (k := 3) (n := 24) (Nat.le_of_ble_eq_true rfl) (Nat.le_of_ble_eq_true rfl) ?_
  refine va_putF (D := D) (ci := 4) (v := .ref q3) (ty := .array .int) (C := RX5) (T := TX5) (N := 12) hx hb hts iX5 tyX5 tyX5_ok nmX5 hown hK hP hD hS 0 rfl rfl 2 (by decide) (hts _ wf_X5_18) (fun _ h9 => h9) rfl hin rfl (by decide +kernel) rfl rfl (Nat.le_of_ble_eq_true rfl) (dck_at tX5_init 13 rfl) (fun H locs hP hD hS => ?_)
  have hP : va_P D classes [(h0, .inr (4, [.ref q1, .ref q2, .ref q3, .null, .null, .null, .null, .int 0, .int 0, .int 0, .int 0, .int 0])), (q1, .inl (c1, 8, .inl (fun _ => 0))), (q2, .inl (c2, 8, .inl (fun _ => 0))), (q3, .inl (c3, 8, .inl (fun _ => 0)))] H := hP
  have hD : va_D A [(h0, .inr (4, [.ref q1, .ref q2, .ref q3, .null, .null, .null, .null, .int 0, .int 0, .int 0, .int 0, .int 0])), (q1, .inl (c1, 8, .inl (fun _ => 0))), (q2, .inl (c2, 8, .inl (fun _ => 0))), (q3, .inl (c3, 8, .inl (fun _ => 0)))] := hD
  refine lv_aload_n hx hb (dck_at tX5_init 14 rfl) rfl (lv_at hl 0 rfl) ?_
  refine lv_iconst (v := 4) hx hb (dck_at tX5_init 15 rfl) (by decide) ?_
  refine va_newa (atype := .int) (ty := .int) (a0 := (4, .inl (fun _ => 0))) hx hb (hts _ wa_int) rfl hK hP hD hS hA (fun _ => rfl) (by decide) (by decide) (by decide) (Nat.le_of_ble_eq_true rfl) (Nat.le_of_ble_eq_true rfl) (dck_at tX5_init 16 rfl) (fun q4 c4 H hK hP hD hS => ?_)
  have hP : va_P D classes [(h0, .inr (4, [.ref q1, .ref q2, .ref q3, .null, .null, .null, .null, .int 0, .int 0, .int 0, .int 0, .int 0])), (q1, .inl (c1, 8, .inl (fun _ => 0))), (q2, .inl (c2, 8, .inl (fun _ => 0))), (q3, .inl (c3, 8, .inl (fun _ => 0))), (q4, .inl (c4, 4, .inl (fun _ => 0)))] H := hP
  have hD : va_D A [(h0, .inr (4, [.ref q1, .ref q2, .ref q3, .null, .null, .null, .null, .int 0, .int 0, .int 0, .int 0, .int 0])), (q1, .inl (c1, 8, .inl (fun _ => 0))), (q2, .inl (c2, 8, .inl (fun _ => 0))), (q3, .inl (c3, 8, .inl (fun _ => 0))), (q4, .inl (c4, 4, .inl (fun _ => 0)))] := hD
  have hK : va_K D classes [(c1, .int), (c2, .int), (c3, .int), (c4, .int)] s := hK
  refine W.widen (k := 4) (n := 28) (Nat.le_of_ble_eq_true rfl) (Nat.le_of_ble_eq_true rfl) ?_
  refine va_putF (D := D) (ci := 4) (v := .ref q4) (ty := .array .int) (C := RX5) (T := TX5) (N := 12) hx hb hts iX5 tyX5 tyX5_ok nmX5 hown hK hP hD hS 0 rfl rfl 3 (by decide) (hts _ wf_X5_21) (fun _ h9 => h9) rfl hin rfl (by decide +kernel) rfl rfl (Nat.le_of_ble_eq_true rfl) (dck_at tX5_init 17 rfl) (fun H locs hP hD hS => ?_)
  have hP : va_P D classes [(h0, .inr (4, [.ref q1, .ref q2, .ref q3, .ref q4, .null, .null, .null, .int 0, .int 0, .int 0, .int 0, .int 0])), (q1, .inl (c1, 8, .inl (fun _ => 0))), (q2, .inl (c2, 8, .inl (fun _ => 0))), (q3, .inl (c3, 8, .inl (fun _ => 0))), (q4, .inl (c4, 4, .inl (fun _ => 0)))] H := hP
  have hD : va_D A [(h0, .inr (4, [.ref q1, .ref q2, .ref q3, .ref q4, .null, .null, .null, .int 0, .int 0, .int 0, .int 0, .int 0])), (q1, .inl (c1, 8, .inl (fun _ => 0))), (q2, .inl (c2, 8, .inl (fun _ => 0))), (q3, .inl (c3, 8, .inl (fun _ => 0))), (q4, .inl (c4, 4, .inl (fun _ => 0)))] := hD
  refine lv_aload_n hx hb (dck_at tX5_init 18 rfl) rfl (lv_at hl 0 rfl) ?_
  refine lv_iconst (v := 4) hx hb (dck_at tX5_init 19 rfl) (by decide) ?_
  refine va_newa (atype := .int) (ty := .int) (a0 := (4, .inl (fun _ => 0))) hx hb (hts _ wa_int) rfl hK hP hD hS hA (fun _ => rfl) (by decide) (by decide) (by decide) (Nat.le_of_ble_eq_true rfl) (Nat.le_of_ble_eq_true rfl) (dck_at tX5_init 20 rfl) (fun q5 c5 H hK hP hD hS => ?_)
  have hP : va_P D classes [(h0, .inr (4, [.ref q1, .ref q2, .ref q3, .ref q4, .null, .null, .null, .int 0, .int 0, .int 0, .int 0, .int 0])), (q1, .inl (c1, 8, .inl (fun _ => 0))), (q2, .inl (c2, 8, .inl (fun _ => 0))), (q3, .inl (c3, 8, .inl (fun _ => 0))), (q4, .inl (c4, 4, .inl (fun _ => 0))), (q5, .inl (c5, 4, .inl (fun _ => 0)))] H := hP
  have hD : va_D A [(h0, .inr (4, [.ref q1, .ref q2, .ref q3, .ref q4, .null, .null, .null, .int 0, .int 0, .int 0, .int 0, .int 0])), (q1, .inl (c1, 8, .inl (fun _ => 0))), (q2, .inl (c2, 8, .inl (fun _ => 0))), (q3, .inl (c3, 8, .inl (fun _ => 0))), (q4, .inl (c4, 4, .inl (fun _ => 0))), (q5, .inl (c5, 4, .inl (fun _ => 0)))] := hD
  have hK : va_K D classes [(c1, .int), (c2, .int), (c3, .int), (c4, .int), (c5, .int)] s := hK
  refine W.widen (k := 5) (n := 32) (Nat.le_of_ble_eq_true rfl) (Nat.le_of_ble_eq_true rfl) ?_
  refine va_putF (D := D) (ci := 4) (v := .ref q5) (ty := .array .int) (C := RX5) (T := TX5) (N := 12) hx hb hts iX5 tyX5 tyX5_ok nmX5 hown hK hP hD hS 0 rfl rfl 4 (by decide) (hts _ wf_X5_24) (fun _ h9 => h9) rfl hin rfl (by decide +kernel) rfl rfl (Nat.le_of_ble_eq_true rfl) (dck_at tX5_init 21 rfl) (fun H locs hP hD hS => ?_)
  have hP : va_P D classes [(h0, .inr (4, [.ref q1, .ref q2, .ref q3, .ref q4, .ref q5, .null, .null, .int 0, .int 0, .int 0, .int 0, .int 0])), (q1, .inl (c1, 8, .inl (fun _ => 0))), (q2, .inl (c2, 8, .inl (fun _ => 0))), (q3, .inl (c3, 8, .inl (fun _ => 0))), (q4, .inl (c4, 4, .inl (fun _ => 0))), (q5, .inl (c5, 4, .inl (fun _ => 0)))] H := hP
  have hD : va_D A [(h0, .inr (4, [.ref q1, .ref q2, .ref q3, .ref q4, .ref q5, .null, .null, .int 0, .int 0, .int 0, .int 0, .int 0])), (q1, .inl (c1, 8, .inl (fun _ => 0))), (q2, .inl (c2, 8, .inl (fun _ => 0))), (q3, .inl (c3, 8, .inl (fun _ => 0))), (q4, .inl (c4, 4, .inl (fun _ => 0))), (q5, .inl (c5, 4, .inl (fun _ => 0)))] := hD
  refine lv_aload_n hx hb (dck_at tX5_init 22 rfl) rfl (lv_at hl 0 rfl) ?_
  refine lv_iconst (v := 4) hx hb (dck_at tX5_init 23 rfl) (by decide) ?_
  refine va_newa (atype := .int) (ty := .int) (a0 := (4, .inl (fun _ => 0))) hx hb (hts _ wa_int) rfl hK hP hD hS hA (fun _ => rfl) (by decide) (by decide) (by decide) (Nat.le_of_ble_eq_true rfl) (Nat.le_of_ble_eq_true rfl) (dck_at tX5_init 24 rfl) (fun q6 c6 H hK hP hD hS => ?_)
  have hP : va_P D classes [(h0, .inr (4, [.ref q1, .ref q2, .ref q3, .ref q4, .ref q5, .null, .null, .int 0, .int 0, .int 0, .int 0, .int 0])), (q1, .inl (c1, 8, .inl (fun _ => 0))), (q2, .inl (c2, 8, .inl (fun _ => 0))), (q3, .inl (c3, 8, .inl (fun _ => 0))), (q4, .inl (c4, 4, .inl (fun _ => 0))), (q5, .inl (c5, 4, .inl (fun _ => 0))), (q6, .inl (c6, 4, .inl (fun _ => 0)))] H := hP
  have hD : va_D A [(h0, .inr (4, [.ref q1, .ref q2, .ref q3, .ref q4, .ref q5, .null, .null, .int 0, .int 0, .int 0, .int 0, .int 0])), (q1, .inl (c1, 8, .inl (fun _ => 0))), (q2, .inl (c2, 8, .inl (fun _ => 0))), (q3, .inl (c3, 8, .inl (fun _ => 0))), (q4, .inl (c4, 4, .inl (fun _ => 0))), (q5, .inl (c5, 4, .inl (fun _ => 0))), (q6, .inl (c6, 4, .inl (fun _ => 0)))] := hD
  have hK : va_K D classes [(c1, .int), (c2, .int), (c3, .int), (c4, .int), (c5, .int), (c6, .int)] s := hK
  refine W.widen (k := 6) (n := 36) (Nat.le_of_ble_eq_true rfl) (Nat.le_of_ble_eq_true rfl) ?_
  refine va_putF (D := D) (ci := 4) (v := .ref q6) (ty := .array .int) (C := RX5) (T := TX5) (N := 12) hx hb hts iX5 tyX5 tyX5_ok nmX5 hown hK hP hD hS 0 rfl rfl 5 (by decide) (hts _ wf_X5_27) (fun _ h9 => h9) rfl hin rfl (by decide +kernel) rfl rfl (Nat.le_of_ble_eq_true rfl) (dck_at tX5_init 25 rfl) (fun H locs hP hD hS => ?_)
  have hP : va_P D classes [(h0, .inr (4, [.ref q1, .ref q2, .ref q3, .ref q4, .ref q5, .ref q6, .null, .int 0, .int 0, .int 0, .int 0, .int 0])), (q1, .inl (c1, 8, .inl (fun _ => 0))), (q2, .inl (c2, 8, .inl (fun _ => 0))), (q3, .inl (c3, 8, .inl (fun _ => 0))), (q4, .inl (c4, 4, .inl (fun _ => 0))), (q5, .inl (c5, 4, .inl (fun _ => 0))), (q6, .inl (c6, 4, .inl (fun _ => 0)))] H := hP
  have hD : va_D A [(h0, .inr (4, [.ref q1, .ref q2, .ref q3, .ref q4, .ref q5, .ref q6, .null, .int 0, .int 0, .int 0, .int 0, .int 0])), (q1, .inl (c1, 8, .inl (fun _ => 0))), (q2, .inl (c2, 8, .inl (fun _ => 0))), (q3, .inl (c3, 8, .inl (fun _ => 0))), (q4, .inl (c4, 4, .inl (fun _ => 0))), (q5, .inl (c5, 4, .inl (fun _ => 0))), (q6, .inl (c6, 4, .inl (fun _ => 0)))] := hD
  refine lv_aload_n hx hb (dck_at tX5_init 26 rfl) rfl (lv_at hl 0 rfl) ?_
  refine lv_iconst (v := 4) hx hb (dck_at tX5_init 27 rfl) (by decide) ?_
  refine va_newa (atype := .int) (ty := .int) (a0 := (4, .inl (fun _ => 0))) hx hb (hts _ wa_int) rfl hK hP hD hS hA (fun _ => rfl) (by decide) (by decide) (by decide) (Nat.le_of_ble_eq_true rfl) (Nat.le_of_ble_eq_true rfl) (dck_at tX5_init 28 rfl) (fun q7 c7 H hK hP hD hS => ?_)
  have hP : va_P D classes [(h0, .inr (4, [.ref q1, .ref q2, .ref q3, .ref q4, .ref q5, .ref q6, .null, .int 0, .int 0, .int 0, .int 0, .int 0])), (q1, .inl (c1, 8, .inl (fun _ => 0))), (q2, .inl (c2, 8, .inl (fun _ => 0))), (q3, .inl (c3, 8, .inl (fun _ => 0))), (q4, .inl (c4, 4, .inl (fun _ => 0))), (q5, .inl (c5, 4, .inl (fun _ => 0))), (q6, .inl (c6, 4, .inl (fun _ => 0))), (q7, .inl (c7, 4, .inl (fun _ => 0)))] H := hP
  have hD : va_D A [(h0, .inr (4, [.ref q1, .ref q2, .ref q3, .ref q4, .ref q5, .ref q6, .null, .int 0, .int 0, .int 0, .int 0, .int 0])), (q1, .inl (c1, 8, .inl (fun _ => 0))), (q2, .inl (c2, 8, .inl (fun _ => 0))), (q3, .inl (c3, 8, .inl (fun _ => 0))), (q4, .inl (c4, 4, .inl (fun _ => 0))), (q5, .inl (c5, 4, .inl (fun _ => 0))), (q6, .inl (c6, 4, .inl (fun _ => 0))), (q7, .inl (c7, 4, .inl (fun _ => 0)))] := hD
  have hK : va_K D classes [(c1, .int), (c2, .int), (c3, .int), (c4, .int), (c5, .int), (c6, .int), (c7, .int)] s := hK
  refine W.widen (k := 7) (n := 40) (Nat.le_of_ble_eq_true rfl) (Nat.le_of_ble_eq_true rfl) ?_
  refine va_putF (D := D) (ci := 4) (v := .ref q7) (ty := .array .int) (C := RX5) (T := TX5) (N := 12) hx hb hts iX5 tyX5 tyX5_ok nmX5 hown hK hP hD hS 0 rfl rfl 6 (by decide) (hts _ wf_X5_30) (fun _ h9 => h9) rfl hin rfl (by decide +kernel) rfl rfl (Nat.le_of_ble_eq_true rfl) (dck_at tX5_init 29 rfl) (fun H locs hP hD hS => ?_)
  have hP : va_P D classes [(h0, .inr (4, [.ref q1, .ref q2, .ref q3, .ref q4, .ref q5, .ref q6, .ref q7, .int 0, .int 0, .int 0, .int 0, .int 0])), (q1, .inl (c1, 8, .inl (fun _ => 0))), (q2, .inl (c2, 8, .inl (fun _ => 0))), (q3, .inl (c3, 8, .inl (fun _ => 0))), (q4, .inl (c4, 4, .inl (fun _ => 0))), (q5, .inl (c5, 4, .inl (fun _ => 0))), (q6, .inl (c6, 4, .inl (fun _ => 0))), (q7, .inl (c7, 4, .inl (fun _ => 0)))] H := hP
  have hD : va_D A [(h0, .inr (4, [.ref q1, .ref q2, .ref q3, .ref q4, .ref q5, .ref q6, .ref q7, .int 0, .int 0, .int 0, .int 0, .int 0])), (q1, .inl (c1, 8, .inl (fun _ => 0))), (q2, .inl (c2, 8, .inl (fun _ => 0))), (q3, .inl (c3, 8, .inl (fun _ => 0))), (q4, .inl (c4, 4, .inl (fun _ => 0))), (q5, .inl (c5, 4, .inl (fun _ => 0))), (q6, .inl (c6, 4, .inl (fun _ => 0))), (q7, .inl (c7, 4, .inl (fun _ => 0)))] := hD
  refine lv_aload_n hx hb (dck_at tX5_init 30 rfl) rfl (lv_at hl 0 rfl) ?_
  have hPc := hP.sub (ws' := [(h0, .inr (4, [.ref q1, .ref q2, .ref q3, .ref q4, .ref q5, .ref q6, .ref q7, .int 0, .int 0, .int 0, .int 0, .int 0]))]) [0] rfl
  have hDc := hD.sub (ws' := [(h0, .inr (4, [.ref q1, .ref q2, .ref q3, .ref q4, .ref q5, .ref q6, .ref q7, .int 0, .int 0, .int 0, .int 0, .int 0]))]) [0] (by decide) rfl
  have hKc := hK.sub (tys' := []) [] rfl
  have hFc := va_free (wc := [(h0, .inr (4, [.ref q1, .ref q2, .ref q3, .ref q4, .ref q5, .ref q6, .ref q7, .int 0, .int 0, .int 0, .int 0, .int 0]))]) hD hS hA [0] rfl
  refine va_callv (va_runV (As := []) (rest := []) ⟨hx, hb, hml, hown, hts⟩ (k_X5_be l D X0 h0 H.size q1 q2 q3 q4 q5 q6 q7) (cwV 0 hts (tb_gi (ws := [.methodLink RX5 33 yX5_beAsAtFirst, .instanceMethod yX5_beAsAtFirst, .selects RX5 yX5_beAsAtFirst yX5_beAsAtFirst, .initialized RX5]) (fun w hw => by simp only [List.mem_cons, List.not_mem_nil, or_false] at hw; rcases hw with rfl | rfl | rfl | rfl; exact wm_X5_33; exact wi_X5_beAsAtFirst; exact we_X5_beAsAtFirst; exact wn_X5) wc_X5_beAsAtFirst) rfl rfl rfl hyX5_beAsAtFirst ⟨Nat.le_of_ble_eq_true rfl, Nat.le_of_ble_eq_true rfl⟩) ⟨fun a U g mk q => by obtain ⟨q0, q1, qP, qK, qD, qZ⟩ := q; exact ⟨q0, q1, qP, va_K.moved (u := U) (U := U.calling g mk a) (Vm.Alike.refl U.vm) qK, qD, qZ.calls⟩, va_recv hKc hPc (ci := 4) (q0 := 0) rfl rfl, fun U hU hW => ⟨rfl, by rw [hU], by rw [hU]; exact hPc, va_K.moved hW.alike hKc, hDc.weaken (fun _ _ _ _ => trivial), hZ.moveA (Nat.le_refl _) hW hS hU hAb (hAb _ (hD.2 0 _ rfl))⟩⟩ rfl rfl hl.1 rfl (lv_room (Nat.le_of_ble_eq_true rfl)) (dck_at tX5_init 31 rfl) ⟨Nat.le_of_ble_eq_true rfl, Nat.le_of_ble_eq_true rfl⟩) hS (fun q _ h => hFc q h) hFc (fun u9 t H1 locs ht hvm hw hB hz1 hk1 hS => ?_)
  obtain ⟨hP1, hK1, hD1⟩ := hB
  rw [ht] at hP1
  have hK1 := va_K.moved hvm.symm hK1
  obtain ⟨hP, hD⟩ := va_join (wr := [(q1, .inl (c1, 8, .inl (fun _ => 0))), (q2, .inl (c2, 8, .inl (fun _ => 0))), (q3, .inl (c3, 8, .inl (fun _ => 0))), (q4, .inl (c4, 4, .inl (fun _ => 0))), (q5, .inl (c5, 4, .inl (fun _ => 0))), (q6, .inl (c6, 4, .inl (fun _ => 0))), (q7, .inl (c7, 4, .inl (fun _ => 0)))]) (w1 := [(h0, .inr (4, [.ref q1, .ref q2, .ref q3, .ref q4, .ref q5, .ref q6, .ref q7, .int 0, .int 0, .int 10, .int 60, .int 1]))]) hP hD [0] [1, 2, 3, 4, 5, 6, 7] rfl rfl (by decide) (by decide) hk1 hFc hP1 hD1
  have hK := hK.app hK1
  generalize H1 = H at hP hS ⊢
  have hP : va_P D classes [(q1, .inl (c1, 8, .inl (fun _ => 0))), (q2, .inl (c2, 8, .inl (fun _ => 0))), (q3, .inl (c3, 8, .inl (fun _ => 0))), (q4, .inl (c4, 4, .inl (fun _ => 0))), (q5, .inl (c5, 4, .inl (fun _ => 0))), (q6, .inl (c6, 4, .inl (fun _ => 0))), (q7, .inl (c7, 4, .inl (fun _ => 0))), (h0, .inr (4, [.ref q1, .ref q2, .ref q3, .ref q4, .ref q5, .ref q6, .ref q7, .int 0, .int 0, .int 10, .int 60, .int 1]))] H := hP
  have hD : va_D A [(q1, .inl (c1, 8, .inl (fun _ => 0))), (q2, .inl (c2, 8, .inl (fun _ => 0))), (q3, .inl (c3, 8, .inl (fun _ => 0))), (q4, .inl (c4, 4, .inl (fun _ => 0))), (q5, .inl (c5, 4, .inl (fun _ => 0))), (q6, .inl (c6, 4, .inl (fun _ => 0))), (q7, .inl (c7, 4, .inl (fun _ => 0))), (h0, .inr (4, [.ref q1, .ref q2, .ref q3, .ref q4, .ref q5, .ref q6, .ref q7, .int 0, .int 0, .int 10, .int 60, .int 1]))] := hD
  have hK : va_K D classes [(c1, .int), (c2, .int), (c3, .int), (c4, .int), (c5, .int), (c6, .int), (c7, .int)] s := hK
  refine W.widen (k := 7) (n := 40) (Nat.le_of_ble_eq_true rfl) (Nat.le_of_ble_eq_true rfl) ?_
  have hP9 := hP.sub (ws' := [(h0, .inr (4, [.ref q1, .ref q2, .ref q3, .ref q4, .ref q5, .ref q6, .ref q7, .int 0, .int 0, .int 10, .int 60, .int 1])), (q1, .inl (c1, 8, .inl (fun _ => 0))), (q2, .inl (c2, 8, .inl (fun _ => 0))), (q3, .inl (c3, 8, .inl (fun _ => 0))), (q4, .inl (c4, 4, .inl (fun _ => 0))), (q5, .inl (c5, 4, .inl (fun _ => 0))), (q6, .inl (c6, 4, .inl (fun _ => 0))), (q7, .inl (c7, 4, .inl (fun _ => 0)))]) [7, 0, 1, 2, 3, 4, 5, 6] rfl
  have hD9 := hD.sub (ws' := [(h0, .inr (4, [.ref q1, .ref q2, .ref q3, .ref q4, .ref q5, .ref q6, .ref q7, .int 0, .int 0, .int 10, .int 60, .int 1])), (q1, .inl (c1, 8, .inl (fun _ => 0))), (q2, .inl (c2, 8, .inl (fun _ => 0))), (q3, .inl (c3, 8, .inl (fun _ => 0))), (q4, .inl (c4, 4, .inl (fun _ => 0))), (q5, .inl (c5, 4, .inl (fun _ => 0))), (q6, .inl (c6, 4, .inl (fun _ => 0))), (q7, .inl (c7, 4, .inl (fun _ => 0)))]) [7, 0, 1, 2, 3, 4, 5, 6] (by decide) rfl
  have hK9 := hK.sub (tys' := [(c1, .int), (c2, .int), (c3, .int), (c4, .int), (c5, .int), (c6, .int), (c7, .int)]) [0, 1, 2, 3, 4, 5, 6] rfl
  refine W.widen (k := 7) (n := 40) (Nat.le_of_ble_eq_true rfl) (Nat.le_of_ble_eq_true rfl) ?_
  exact W.vret hx hb hr (fun t ht hW => ⟨⟨(fun i => match i with | 0 => (q1, c1) | 1 => (q2, c2) | 2 => (q3, c3) | 3 => (q4, c4) | 4 => (q5, c5) | 5 => (q6, c6) | _ => (q7, c7)), rfl, trivial, by rw [ht]; exact hP9, va_K.moved hW.alike hK9, hD9⟩, hS.F ht⟩) hS.2.2 (dck_at tX5_init 32 rfl)
def tbX1_init : List (Nat × Instr × Nat) := [(0, .aload_n 0, 1), (1, .invokespecial 3, 3), (4, .aload_n 0, 1), (5, .bipush 8, 2), (7, .newarray .int, 2), (9, .putfield 9, 3), (12, .aload_n 0, 1), (13, .aload_n 1, 1), (14, .putfield 15, 3), (17, .return_, 1)]
theorem tX1_init : dck cX1_init tbX1_init = true := by decide +kernel
set_option maxHeartbeats 8000000 in
set_option maxRecDepth 100000 in
theorem k_X1_init (l : Launch) (D : va_G) (X0 : Cx) (h0 t0 sz : Nat) : Met l yX1_init (Cond.code yX1_init cX1_init 2 none :: tb) ({ frames := 2, cells := 1, slots := 8, locals := 80 }) (va_Pc [.ref h0, .ref t0] (fun U => U.heap.size = sz ∧ va_P D classes [(h0, .inr (0, [.null, .int 0, .int 0, .int 0, .int 0, .int 0, .int 0, .int 0, .int 0, .null]))] U.heap ∧ va_K D classes [] U ∧ va_D (fun _ => True) [(h0, .inr (0, [.null, .int 0, .int 0, .int 0, .int 0, .int 0, .int 0, .int 0, .int 0, .null]))] ∧ Zs X0 h0 sz U)) (va_Qv (fun _ : Nat → Nat × ClassId => True) (fun u t => va_P D classes [(h0, .inr (0, [.ref (u 0).1, .int 0, .int 0, .int 0, .int 0, .int 0, .int 0, .int 0, .int 0, .ref t0])), ((u 0).1, .inl ((u 0).2, 8, .inl (fun _ => 0)))] t.heap ∧ va_K D classes [((u 0).2, .int)] t ∧ va_D (va_A [(h0, .inr (0, [.null, .int 0, .int 0, .int 0, .int 0, .int 0, .int 0, .int 0, .int 0, .null]))] sz) [(h0, .inr (0, [.ref (u 0).1, .int 0, .int 0, .int 0, .int 0, .int 0, .int 0, .int 0, .int 0, .ref t0])), ((u 0).1, .inl ((u 0).2, 8, .inl (fun _ => 0)))]) (va_A [(h0, .inr (0, [.null, .int 0, .int 0, .int 0, .int 0, .int 0, .int 0, .int 0, .int 0, .null]))] sz)) 1 8 (va_A [(h0, .inr (0, [.null, .int 0, .int 0, .int 0, .int 0, .int 0, .int 0, .int 0, .int 0, .null]))] sz) := by
  refine Met.ofW (cc := cX1_init) (maxL := 2) (ret := none) (by decide) rfl ?_
  intro p e s m args below meth c s₁ B hml hv
  obtain ⟨rfl, hsz, hP, hK, hD0, hZ⟩ := hv
  have hx := B.exec
  have hb := B.bytes
  have hr := B.returns
  have hts0 := atoms_spec (ws := Cond.code yX1_init cX1_init 2 none :: tb) B.pre
  have hts : ∀ w ∈ tb, w.before _ s = true := fun w hw => hts0 w (List.mem_cons_of_mem _ hw)
  have hown : s.vm.findClass RX1 = some m.cls := findClass_of_methodNamed B.named
  have hlocks := B.notSynchronized
  have hin : meth.name = "<init>" := (name_of_methodNamed B.named B.method).1
  subst hsz
  have hD := hD0.self (sz := s.heap.size)
  generalize hAe : va_A [(h0, .inr (0, [.null, .int 0, .int 0, .int 0, .int 0, .int 0, .int 0, .int 0, .int 0, .null]))] s.heap.size = A at hD ⊢
  have hA : ∀ q : Nat, s.heap.size ≤ q → A q := fun q h => by rw [← hAe]; exact Or.inr h
  have hAb : ∀ q : Nat, A q → xA X0 q := fun q h => by rw [← hAe] at h; exact hZ.below h
  have hS : va_S A s.heap s.heap [] := va_S.rf
  have hP : va_P D classes [(h0, .inr (0, [.null, .int 0, .int 0, .int 0, .int 0, .int 0, .int 0, .int 0, .int 0, .null]))] s.heap := hP
  have hl := lv_entry ([.ref h0, .ref t0]) (n := 2) (Nat.le_of_ble_eq_true rfl)
  rw [lg_entry_eq]
  generalize (lg_sl ([.ref h0, .ref t0]) ++ List.replicate (2 - (lg_sl ([.ref h0, .ref t0])).length) Slot.unset).toArray = ls at hl ⊢
  have hl : lv_has ls 2 [(0, .ref h0), (1, .ref t0)] := hl
  refine lv_aload_n hx hb (dck_at tX1_init 0 rfl) rfl (lv_at hl 0 rfl) ?_
  refine W.objInit hx hb hown (hts _ wm_X1_3) (hts _ wi_obj) (hts _ wc_obj) rfl (by rw [hml]; exact hl.1) rfl (dck_at tX1_init 1 rfl) (Nat.le_of_ble_eq_true rfl) (Nat.le_of_ble_eq_true rfl) ?_
  refine W.eq (g2 := F0 m 4 ls []) rfl ?_
  refine lv_aload_n hx hb (dck_at tX1_init 2 rfl) rfl (lv_at hl 0 rfl) ?_
  refine lv_bipush (v := 8) hx hb (dck_at tX1_init 3 rfl) (by decide) ?_
  refine va_newa (atype := .int) (ty := .int) (a0 := (8, .inl (fun _ => 0))) hx hb (hts _ wa_int) rfl hK hP hD hS hA (fun _ => rfl) (by decide) (by decide) (by decide) (Nat.le_of_ble_eq_true rfl) (Nat.le_of_ble_eq_true rfl) (dck_at tX1_init 4 rfl) (fun q1 c1 H hK hP hD hS => ?_)
  have hP : va_P D classes [(h0, .inr (0, [.null, .int 0, .int 0, .int 0, .int 0, .int 0, .int 0, .int 0, .int 0, .null])), (q1, .inl (c1, 8, .inl (fun _ => 0)))] H := hP
  have hD : va_D A [(h0, .inr (0, [.null, .int 0, .int 0, .int 0, .int 0, .int 0, .int 0, .int 0, .int 0, .null])), (q1, .inl (c1, 8, .inl (fun _ => 0)))] := hD
  have hK : va_K D classes [(c1, .int)] s := hK
  refine W.widen (k := 1) (n := 8) (Nat.le_of_ble_eq_true rfl) (Nat.le_of_ble_eq_true rfl) ?_
  refine va_putF (D := D) (ci := 0) (v := .ref q1) (ty := .array .int) (C := RX1) (T := TX1) (N := 10) hx hb hts iX1 tyX1 tyX1_ok nmX1 hown hK hP hD hS 0 rfl rfl 0 (by decide) (hts _ wf_X1_9) (fun _ h9 => h9) rfl hin rfl (by decide +kernel) rfl rfl (Nat.le_of_ble_eq_true rfl) (dck_at tX1_init 5 rfl) (fun H locs hP hD hS => ?_)
  have hP : va_P D classes [(h0, .inr (0, [.ref q1, .int 0, .int 0, .int 0, .int 0, .int 0, .int 0, .int 0, .int 0, .null])), (q1, .inl (c1, 8, .inl (fun _ => 0)))] H := hP
  have hD : va_D A [(h0, .inr (0, [.ref q1, .int 0, .int 0, .int 0, .int 0, .int 0, .int 0, .int 0, .int 0, .null])), (q1, .inl (c1, 8, .inl (fun _ => 0)))] := hD
  refine lv_aload_n hx hb (dck_at tX1_init 6 rfl) rfl (lv_at hl 0 rfl) ?_
  refine lv_aload_n hx hb (dck_at tX1_init 7 rfl) rfl (lv_at hl 1 rfl) ?_
  refine va_putF (D := D) (ci := 0) (v := .ref t0) (ty := .object RX5) (C := RX1) (T := TX1) (N := 10) hx hb hts iX1 tyX1 tyX1_ok nmX1 hown hK hP hD hS 0 rfl rfl 9 (by decide) (hts _ wf_X1_15) (fun _ h9 => h9) rfl hin rfl (by decide +kernel) rfl rfl (Nat.le_of_ble_eq_true rfl) (dck_at tX1_init 8 rfl) (fun H locs hP hD hS => ?_)
  have hP : va_P D classes [(h0, .inr (0, [.ref q1, .int 0, .int 0, .int 0, .int 0, .int 0, .int 0, .int 0, .int 0, .ref t0])), (q1, .inl (c1, 8, .inl (fun _ => 0)))] H := hP
  have hD : va_D A [(h0, .inr (0, [.ref q1, .int 0, .int 0, .int 0, .int 0, .int 0, .int 0, .int 0, .int 0, .ref t0])), (q1, .inl (c1, 8, .inl (fun _ => 0)))] := hD
  have hP9 := hP.sub (ws' := [(h0, .inr (0, [.ref q1, .int 0, .int 0, .int 0, .int 0, .int 0, .int 0, .int 0, .int 0, .ref t0])), (q1, .inl (c1, 8, .inl (fun _ => 0)))]) [0, 1] rfl
  have hD9 := hD.sub (ws' := [(h0, .inr (0, [.ref q1, .int 0, .int 0, .int 0, .int 0, .int 0, .int 0, .int 0, .int 0, .ref t0])), (q1, .inl (c1, 8, .inl (fun _ => 0)))]) [0, 1] (by decide) rfl
  have hK9 := hK.sub (tys' := [(c1, .int)]) [0] rfl
  refine W.widen (k := 1) (n := 8) (Nat.le_of_ble_eq_true rfl) (Nat.le_of_ble_eq_true rfl) ?_
  exact W.vret hx hb hr (fun t ht hW => ⟨⟨(fun i => match i with  | _ => (q1, c1)), rfl, trivial, by rw [ht]; exact hP9, va_K.moved hW.alike hK9, hD9⟩, hS.F ht⟩) hS.2.2 (dck_at tX1_init 9 rfl)
def tbX4_init : List (Nat × Instr × Nat) := [(0, .aload_n 0, 1), (1, .invokespecial 3, 3), (4, .aload_n 0, 1), (5, .new 9, 3), (8, .dup, 1), (9, .invokespecial 11, 3), (12, .putfield 12, 3), (15, .aload_n 0, 1), (16, .sipush 160, 3), (19, .newarray .char, 2), (21, .putfield 18, 3), (24, .aload_n 0, 1), (25, .iconst 3, 1), (26, .newarray .int, 2), (28, .putfield 22, 3), (31, .aload_n 0, 1), (32, .invokestatic 26, 3), (35, .putfield 32, 3), (38, .return_, 1)]
theorem tX4_init : dck cX4_init tbX4_init = true := by decide +kernel
set_option maxHeartbeats 8000000 in
set_option maxRecDepth 100000 in
theorem k_X4_init (l : Launch) (D : va_G) (X0 : Cx) (h0 sz : Nat) : Met l yX4_init (Cond.code yX4_init cX4_init 1 none :: tb) ({ frames := 4, cells := 11, slots := 228, locals := 160 }) (va_Pc [.ref h0] (fun U => U.heap.size = sz ∧ va_P D classes [(h0, .inr (3, [.null, .int 0, .int 0, .null, .null, .null, .int 0]))] U.heap ∧ va_K D classes [] U ∧ va_D (fun _ => True) [(h0, .inr (3, [.null, .int 0, .int 0, .null, .null, .null, .int 0]))] ∧ Zs X0 h0 sz U)) (va_Qv (fun _ : Nat → Nat × ClassId => True) (fun u t => va_P D classes [(h0, .inr (3, [.ref (u 0).1, .int 0, .int 0, .ref (u 8).1, .ref (u 9).1, .ref (u 10).1, .int 0])), ((u 0).1, .inr (4, [.ref (u 1).1, .ref (u 2).1, .ref (u 3).1, .ref (u 4).1, .ref (u 5).1, .ref (u 6).1, .ref (u 7).1, .int 0, .int 0, .int 10, .int 60, .int 1])), ((u 1).1, .inl ((u 1).2, 8, .inl (fun _ => 0))), ((u 2).1, .inl ((u 2).2, 8, .inl (fun _ => 0))), ((u 3).1, .inl ((u 3).2, 8, .inl (fun _ => 0))), ((u 4).1, .inl ((u 4).2, 4, .inl (fun _ => 0))), ((u 5).1, .inl ((u 5).2, 4, .inl (fun _ => 0))), ((u 6).1, .inl ((u 6).2, 4, .inl (fun _ => 0))), ((u 7).1, .inl ((u 7).2, 4, .inl (fun _ => 0))), ((u 8).1, .inl ((u 8).2, 160, .inl (fun _ => 0))), ((u 9).1, .inl ((u 9).2, 3, .inl (fun _ => 0))), ((u 10).1, .inl ((u 10).2, 13, .inr (.inr (.inr (.inr (fun i => some (xad X0 (1000 + i))))))))] t.heap ∧ va_K D classes [((u 1).2, .int), ((u 2).2, .int), ((u 3).2, .int), ((u 4).2, .int), ((u 5).2, .int), ((u 6).2, .int), ((u 7).2, .int), ((u 8).2, .char), ((u 9).2, .int), ((u 10).2, .object RX0)] t ∧ va_D (va_A [(h0, .inr (3, [.null, .int 0, .int 0, .null, .null, .null, .int 0]))] sz) [(h0, .inr (3, [.ref (u 0).1, .int 0, .int 0, .ref (u 8).1, .ref (u 9).1, .ref (u 10).1, .int 0])), ((u 0).1, .inr (4, [.ref (u 1).1, .ref (u 2).1, .ref (u 3).1, .ref (u 4).1, .ref (u 5).1, .ref (u 6).1, .ref (u 7).1, .int 0, .int 0, .int 10, .int 60, .int 1])), ((u 1).1, .inl ((u 1).2, 8, .inl (fun _ => 0))), ((u 2).1, .inl ((u 2).2, 8, .inl (fun _ => 0))), ((u 3).1, .inl ((u 3).2, 8, .inl (fun _ => 0))), ((u 4).1, .inl ((u 4).2, 4, .inl (fun _ => 0))), ((u 5).1, .inl ((u 5).2, 4, .inl (fun _ => 0))), ((u 6).1, .inl ((u 6).2, 4, .inl (fun _ => 0))), ((u 7).1, .inl ((u 7).2, 4, .inl (fun _ => 0))), ((u 8).1, .inl ((u 8).2, 160, .inl (fun _ => 0))), ((u 9).1, .inl ((u 9).2, 3, .inl (fun _ => 0))), ((u 10).1, .inl ((u 10).2, 13, .inr (.inr (.inr (.inr (fun i => some (xad X0 (1000 + i))))))))]) (va_A [(h0, .inr (3, [.null, .int 0, .int 0, .null, .null, .null, .int 0]))] sz)) 11 228 (va_A [(h0, .inr (3, [.null, .int 0, .int 0, .null, .null, .null, .int 0]))] sz) := by
  refine Met.ofW (cc := cX4_init) (maxL := 1) (ret := none) (by decide) rfl ?_
  intro p e s m args below meth c s₁ B hml hv
  obtain ⟨rfl, hsz, hP, hK, hD0, hZ⟩ := hv
  have hx := B.exec
  have hb := B.bytes
  have hr := B.returns
  have hts0 := atoms_spec (ws := Cond.code yX4_init cX4_init 1 none :: tb) B.pre
  have hts : ∀ w ∈ tb, w.before _ s = true := fun w hw => hts0 w (List.mem_cons_of_mem _ hw)
  have hown : s.vm.findClass RX4 = some m.cls := findClass_of_methodNamed B.named
  have hlocks := B.notSynchronized
  have hin : meth.name = "<init>" := (name_of_methodNamed B.named B.method).1
  subst hsz
  have hD := hD0.self (sz := s.heap.size)
  generalize hAe : va_A [(h0, .inr (3, [.null, .int 0, .int 0, .null, .null, .null, .int 0]))] s.heap.size = A at hD ⊢
  have hA : ∀ q : Nat, s.heap.size ≤ q → A q := fun q h => by rw [← hAe]; exact Or.inr h
  have hAb : ∀ q : Nat, A q → xA X0 q := fun q h => by rw [← hAe] at h; exact hZ.below h
  have hS : va_S A s.heap s.heap [] := va_S.rf
  have hP : va_P D classes [(h0, .inr (3, [.null, .int 0, .int 0, .null, .null, .null, .int 0]))] s.heap := hP
  have hl := lv_entry ([.ref h0]) (n := 1) (Nat.le_of_ble_eq_true rfl)
  rw [lg_entry_eq]
  generalize (lg_sl ([.ref h0]) ++ List.replicate (1 - (lg_sl ([.ref h0])).length) Slot.unset).toArray = ls at hl ⊢
  have hl : lv_has ls 1 [(0, .ref h0)] := hl
  refine lv_aload_n hx hb (dck_at tX4_init 0 rfl) rfl (lv_at hl 0 rfl) ?_
  refine W.objInit hx hb hown (hts _ wm_X4_3) (hts _ wi_obj) (hts _ wc_obj) rfl (by rw [hml]; exact hl.1) rfl (dck_at tX4_init 1 rfl) (Nat.le_of_ble_eq_true rfl) (Nat.le_of_ble_eq_true rfl) ?_
  refine W.eq (g2 := F0 m 4 ls []) rfl ?_
  refine lv_aload_n hx hb (dck_at tX4_init 2 rfl) rfl (lv_at hl 0 rfl) ?_
  refine va_new (ci := 4) (fs := [.null, .null, .null, .null, .null, .null, .null, .int 0, .int 0, .int 0, .int 0, .int 0]) (C := RX5) (T := TX5) (N := 12) hx hb hts iX5 tyX5 tyX5_ok hown (hts _ wl_X4_9) (hts _ wb_X5) (hts _ wn_X5) hK hP hD hS hA rfl (fun j hj => by rcases (show j = 0 ∨ j = 1 ∨ j = 2 ∨ j = 3 ∨ j = 4 ∨ j = 5 ∨ j = 6 ∨ j = 7 ∨ j = 8 ∨ j = 9 ∨ j = 10 ∨ j = 11 by omega) with rfl | rfl | rfl | rfl | rfl | rfl | rfl | rfl | rfl | rfl | rfl | rfl <;> rfl) (Nat.le_of_ble_eq_true rfl) (Nat.le_of_ble_eq_true rfl) (dck_at tX4_init 3 rfl) (fun q1 H hP hD hS => ?_)
  have hP : va_P D classes [(h0, .inr (3, [.null, .int 0, .int 0, .null, .null, .null, .int 0])), (q1, .inr (4, [.null, .null, .null, .null, .null, .null, .null, .int 0, .int 0, .int 0, .int 0, .int 0]))] H := hP
  have hD : va_D A [(h0, .inr (3, [.null, .int 0, .int 0, .null, .null, .null, .int 0])), (q1, .inr (4, [.null, .null, .null, .null, .null, .null, .null, .int 0, .int 0, .int 0, .int 0, .int 0]))] := hD
  refine W.widen (k := 1) (n := 12) (Nat.le_of_ble_eq_true rfl) (Nat.le_of_ble_eq_true rfl) ?_
  refine lv_dup hx hb (dck_at tX4_init 4 rfl) rfl ?_
  have hPc := hP.sub (ws' := [(q1, .inr (4, [.null, .null, .null, .null, .null, .null, .null, .int 0, .int 0, .int 0, .int 0, .int 0]))]) [1] rfl
  have hDc := hD.sub (ws' := [(q1, .inr (4, [.null, .null, .null, .null, .null, .null, .null, .int 0, .int 0, .int 0, .int 0, .int 0]))]) [1] (by decide) rfl
  have hKc := hK.sub (tys' := []) [] rfl
  have hFc := va_free (wc := [(q1, .inr (4, [.null, .null, .null, .null, .null, .null, .null, .int 0, .int 0, .int 0, .int 0, .int 0]))]) hD hS hA [1] rfl
  refine va_callv (va_runI (As := []) (rest := [.ref q1, .ref h0]) ⟨hx, hb, hml, hown, hts⟩ (k_X5_init l D X0 q1 H.size) (cwI 0 hts (tb_gi (ws := []) (fun w hw => by cases hw) wc_X5_init) rfl rfl rfl (hts _ wn_X5) (hts _ wm_X4_11) (hts _ wi_X5_init) rfl hyX5_init.2 ⟨Nat.le_of_ble_eq_true rfl, Nat.le_of_ble_eq_true rfl⟩) ⟨fun a U g mk q => by obtain ⟨q0, q1, qP, qK, qD, qZ⟩ := q; exact ⟨q0, q1, qP, va_K.moved (u := U) (U := U.calling g mk a) (Vm.Alike.refl U.vm) qK, qD, qZ.calls⟩, fun U hU hW => ⟨rfl, by rw [hU], by rw [hU]; exact hPc, va_K.moved hW.alike hKc, hDc.weaken (fun _ _ _ _ => trivial), hZ.moveA (Nat.le_refl _) hW hS hU hAb (hAb _ (hD.2 1 _ rfl))⟩⟩ rfl rfl hl.1 rfl (lv_room (Nat.le_of_ble_eq_true rfl)) (dck_at tX4_init 5 rfl) ⟨Nat.le_of_ble_eq_true rfl, Nat.le_of_ble_eq_true rfl⟩) hS (fun q _ h => hFc q h) hFc (fun u2 t H1 locs ht hvm hw hB hz1 hk1 hS => ?_)
  obtain ⟨hP1, hK1, hD1⟩ := hB
  rw [ht] at hP1
  have hK1 := va_K.moved hvm.symm hK1
  obtain ⟨hP, hD⟩ := va_join (wr := [(h0, .inr (3, [.null, .int 0, .int 0, .null, .null, .null, .int 0]))]) (w1 := [(q1, .inr (4, [.ref (u2 0).1, .ref (u2 1).1, .ref (u2 2).1, .ref (u2 3).1, .ref (u2 4).1, .ref (u2 5).1, .ref (u2 6).1, .int 0, .int 0, .int 10, .int 60, .int 1])), ((u2 0).1, .inl ((u2 0).2, 8, .inl (fun _ => 0))), ((u2 1).1, .inl ((u2 1).2, 8, .inl (fun _ => 0))), ((u2 2).1, .inl ((u2 2).2, 8, .inl (fun _ => 0))), ((u2 3).1, .inl ((u2 3).2, 4, .inl (fun _ => 0))), ((u2 4).1, .inl ((u2 4).2, 4, .inl (fun _ => 0))), ((u2 5).1, .inl ((u2 5).2, 4, .inl (fun _ => 0))), ((u2 6).1, .inl ((u2 6).2, 4, .inl (fun _ => 0)))]) hP hD [1] [0] rfl rfl (by decide) (by decide) hk1 hFc hP1 hD1
  have hK := hK.app hK1
  generalize H1 = H at hP hS ⊢
  have hP : va_P D classes [(h0, .inr (3, [.null, .int 0, .int 0, .null, .null, .null, .int 0])), (q1, .inr (4, [.ref (u2 0).1, .ref (u2 1).1, .ref (u2 2).1, .ref (u2 3).1, .ref (u2 4).1, .ref (u2 5).1, .ref (u2 6).1, .int 0, .int 0, .int 10, .int 60, .int 1])), ((u2 0).1, .inl ((u2 0).2, 8, .inl (fun _ => 0))), ((u2 1).1, .inl ((u2 1).2, 8, .inl (fun _ => 0))), ((u2 2).1, .inl ((u2 2).2, 8, .inl (fun _ => 0))), ((u2 3).1, .inl ((u2 3).2, 4, .inl (fun _ => 0))), ((u2 4).1, .inl ((u2 4).2, 4, .inl (fun _ => 0))), ((u2 5).1, .inl ((u2 5).2, 4, .inl (fun _ => 0))), ((u2 6).1, .inl ((u2 6).2, 4, .inl (fun _ => 0)))] H := hP
  have hD : va_D A [(h0, .inr (3, [.null, .int 0, .int 0, .null, .null, .null, .int 0])), (q1, .inr (4, [.ref (u2 0).1, .ref (u2 1).1, .ref (u2 2).1, .ref (u2 3).1, .ref (u2 4).1, .ref (u2 5).1, .ref (u2 6).1, .int 0, .int 0, .int 10, .int 60, .int 1])), ((u2 0).1, .inl ((u2 0).2, 8, .inl (fun _ => 0))), ((u2 1).1, .inl ((u2 1).2, 8, .inl (fun _ => 0))), ((u2 2).1, .inl ((u2 2).2, 8, .inl (fun _ => 0))), ((u2 3).1, .inl ((u2 3).2, 4, .inl (fun _ => 0))), ((u2 4).1, .inl ((u2 4).2, 4, .inl (fun _ => 0))), ((u2 5).1, .inl ((u2 5).2, 4, .inl (fun _ => 0))), ((u2 6).1, .inl ((u2 6).2, 4, .inl (fun _ => 0)))] := hD
  have hK : va_K D classes [((u2 0).2, .int), ((u2 1).2, .int), ((u2 2).2, .int), ((u2 3).2, .int), ((u2 4).2, .int), ((u2 5).2, .int), ((u2 6).2, .int)] s := hK
  refine W.widen (k := 8) (n := 52) (Nat.le_of_ble_eq_true rfl) (Nat.le_of_ble_eq_true rfl) ?_
  refine va_putF (D := D) (ci := 3) (v := .ref q1) (ty := .object RX5) (C := RX4) (T := TX4) (N := 7) hx hb hts iX4 tyX4 tyX4_ok nmX4 hown hK hP hD hS 0 rfl rfl 0 (by decide) (hts _ wf_X4_12) (fun _ h9 => h9) rfl hin rfl (by decide +kernel) rfl rfl (Nat.le_of_ble_eq_true rfl) (dck_at tX4_init 6 rfl) (fun H locs hP hD hS => ?_)
  have hP : va_P D classes [(h0, .inr (3, [.ref q1, .int 0, .int 0, .null, .null, .null, .int 0])), (q1, .inr (4, [.ref (u2 0).1, .ref (u2 1).1, .ref (u2 2).1, .ref (u2 3).1, .ref (u2 4).1, .ref (u2 5).1, .ref (u2 6).1, .int 0, .int 0, .int 10, .int 60, .int 1])), ((u2 0).1, .inl ((u2 0).2, 8, .inl (fun _ => 0))), ((u2 1).1, .inl ((u2 1).2, 8, .inl (fun _ => 0))), ((u2 2).1, .inl ((u2 2).2, 8, .inl (fun _ => 0))), ((u2 3).1, .inl ((u2 3).2, 4, .inl (fun _ => 0))), ((u2 4).1, .inl ((u2 4).2, 4, .inl (fun _ => 0))), ((u2 5).1, .inl ((u2 5).2, 4, .inl (fun _ => 0))), ((u2 6).1, .inl ((u2 6).2, 4, .inl (fun _ => 0)))] H := hP
  have hD : va_D A [(h0, .inr (3, [.ref q1, .int 0, .int 0, .null, .null, .null, .int 0])), (q1, .inr (4, [.ref (u2 0).1, .ref (u2 1).1, .ref (u2 2).1, .ref (u2 3).1, .ref (u2 4).1, .ref (u2 5).1, .ref (u2 6).1, .int 0, .int 0, .int 10, .int 60, .int 1])), ((u2 0).1, .inl ((u2 0).2, 8, .inl (fun _ => 0))), ((u2 1).1, .inl ((u2 1).2, 8, .inl (fun _ => 0))), ((u2 2).1, .inl ((u2 2).2, 8, .inl (fun _ => 0))), ((u2 3).1, .inl ((u2 3).2, 4, .inl (fun _ => 0))), ((u2 4).1, .inl ((u2 4).2, 4, .inl (fun _ => 0))), ((u2 5).1, .inl ((u2 5).2, 4, .inl (fun _ => 0))), ((u2 6).1, .inl ((u2 6).2, 4, .inl (fun _ => 0)))] := hD
  refine lv_aload_n hx hb (dck_at tX4_init 7 rfl) rfl (lv_at hl 0 rfl) ?_
  refine lv_sipush (v := 160) hx hb (dck_at tX4_init 8 rfl) (by decide) ?_
  refine va_newa (atype := .char) (ty := .char) (a0 := (160, .inl (fun _ => 0))) hx hb (hts _ wa_char) rfl hK hP hD hS hA (fun _ => rfl) (by decide) (by decide) (by decide) (Nat.le_of_ble_eq_true rfl) (Nat.le_of_ble_eq_true rfl) (dck_at tX4_init 9 rfl) (fun q3 c3 H hK hP hD hS => ?_)
  have hP : va_P D classes [(h0, .inr (3, [.ref q1, .int 0, .int 0, .null, .null, .null, .int 0])), (q1, .inr (4, [.ref (u2 0).1, .ref (u2 1).1, .ref (u2 2).1, .ref (u2 3).1, .ref (u2 4).1, .ref (u2 5).1, .ref (u2 6).1, .int 0, .int 0, .int 10, .int 60, .int 1])), ((u2 0).1, .inl ((u2 0).2, 8, .inl (fun _ => 0))), ((u2 1).1, .inl ((u2 1).2, 8, .inl (fun _ => 0))), ((u2 2).1, .inl ((u2 2).2, 8, .inl (fun _ => 0))), ((u2 3).1, .inl ((u2 3).2, 4, .inl (fun _ => 0))), ((u2 4).1, .inl ((u2 4).2, 4, .inl (fun _ => 0))), ((u2 5).1, .inl ((u2 5).2, 4, .inl (fun _ => 0))), ((u2 6).1, .inl ((u2 6).2, 4, .inl (fun _ => 0))), (q3, .inl (c3, 160, .inl (fun _ => 0)))] H := hP
  have hD : va_D A [(h0, .inr (3, [.ref q1, .int 0, .int 0, .null, .null, .null, .int 0])), (q1, .inr (4, [.ref (u2 0).1, .ref (u2 1).1, .ref (u2 2).1, .ref (u2 3).1, .ref (u2 4).1, .ref (u2 5).1, .ref (u2 6).1, .int 0, .int 0, .int 10, .int 60, .int 1])), ((u2 0).1, .inl ((u2 0).2, 8, .inl (fun _ => 0))), ((u2 1).1, .inl ((u2 1).2, 8, .inl (fun _ => 0))), ((u2 2).1, .inl ((u2 2).2, 8, .inl (fun _ => 0))), ((u2 3).1, .inl ((u2 3).2, 4, .inl (fun _ => 0))), ((u2 4).1, .inl ((u2 4).2, 4, .inl (fun _ => 0))), ((u2 5).1, .inl ((u2 5).2, 4, .inl (fun _ => 0))), ((u2 6).1, .inl ((u2 6).2, 4, .inl (fun _ => 0))), (q3, .inl (c3, 160, .inl (fun _ => 0)))] := hD
  have hK : va_K D classes [((u2 0).2, .int), ((u2 1).2, .int), ((u2 2).2, .int), ((u2 3).2, .int), ((u2 4).2, .int), ((u2 5).2, .int), ((u2 6).2, .int), (c3, .char)] s := hK
  refine W.widen (k := 9) (n := 212) (Nat.le_of_ble_eq_true rfl) (Nat.le_of_ble_eq_true rfl) ?_
  refine va_putF (D := D) (ci := 3) (v := .ref q3) (ty := .array .char) (C := RX4) (T := TX4) (N := 7) hx hb hts iX4 tyX4 tyX4_ok nmX4 hown hK hP hD hS 0 rfl rfl 3 (by decide) (hts _ wf_X4_18) (fun _ h9 => h9) rfl hin rfl (by decide +kernel) rfl rfl (Nat.le_of_ble_eq_true rfl) (dck_at tX4_init 10 rfl) (fun H locs hP hD hS => ?_)
  have hP : va_P D classes [(h0, .inr (3, [.ref q1, .int 0, .int 0, .ref q3, .null, .null, .int 0])), (q1, .inr (4, [.ref (u2 0).1, .ref (u2 1).1, .ref (u2 2).1, .ref (u2 3).1, .ref (u2 4).1, .ref (u2 5).1, .ref (u2 6).1, .int 0, .int 0, .int 10, .int 60, .int 1])), ((u2 0).1, .inl ((u2 0).2, 8, .inl (fun _ => 0))), ((u2 1).1, .inl ((u2 1).2, 8, .inl (fun _ => 0))), ((u2 2).1, .inl ((u2 2).2, 8, .inl (fun _ => 0))), ((u2 3).1, .inl ((u2 3).2, 4, .inl (fun _ => 0))), ((u2 4).1, .inl ((u2 4).2, 4, .inl (fun _ => 0))), ((u2 5).1, .inl ((u2 5).2, 4, .inl (fun _ => 0))), ((u2 6).1, .inl ((u2 6).2, 4, .inl (fun _ => 0))), (q3, .inl (c3, 160, .inl (fun _ => 0)))] H := hP
  have hD : va_D A [(h0, .inr (3, [.ref q1, .int 0, .int 0, .ref q3, .null, .null, .int 0])), (q1, .inr (4, [.ref (u2 0).1, .ref (u2 1).1, .ref (u2 2).1, .ref (u2 3).1, .ref (u2 4).1, .ref (u2 5).1, .ref (u2 6).1, .int 0, .int 0, .int 10, .int 60, .int 1])), ((u2 0).1, .inl ((u2 0).2, 8, .inl (fun _ => 0))), ((u2 1).1, .inl ((u2 1).2, 8, .inl (fun _ => 0))), ((u2 2).1, .inl ((u2 2).2, 8, .inl (fun _ => 0))), ((u2 3).1, .inl ((u2 3).2, 4, .inl (fun _ => 0))), ((u2 4).1, .inl ((u2 4).2, 4, .inl (fun _ => 0))), ((u2 5).1, .inl ((u2 5).2, 4, .inl (fun _ => 0))), ((u2 6).1, .inl ((u2 6).2, 4, .inl (fun _ => 0))), (q3, .inl (c3, 160, .inl (fun _ => 0)))] := hD
  refine lv_aload_n hx hb (dck_at tX4_init 11 rfl) rfl (lv_at hl 0 rfl) ?_
  refine lv_iconst (v := 3) hx hb (dck_at tX4_init 12 rfl) (by decide) ?_
  refine va_newa (atype := .int) (ty := .int) (a0 := (3, .inl (fun _ => 0))) hx hb (hts _ wa_int) rfl hK hP hD hS hA (fun _ => rfl) (by decide) (by decide) (by decide) (Nat.le_of_ble_eq_true rfl) (Nat.le_of_ble_eq_true rfl) (dck_at tX4_init 13 rfl) (fun q4 c4 H hK hP hD hS => ?_)
  have hP : va_P D classes [(h0, .inr (3, [.ref q1, .int 0, .int 0, .ref q3, .null, .null, .int 0])), (q1, .inr (4, [.ref (u2 0).1, .ref (u2 1).1, .ref (u2 2).1, .ref (u2 3).1, .ref (u2 4).1, .ref (u2 5).1, .ref (u2 6).1, .int 0, .int 0, .int 10, .int 60, .int 1])), ((u2 0).1, .inl ((u2 0).2, 8, .inl (fun _ => 0))), ((u2 1).1, .inl ((u2 1).2, 8, .inl (fun _ => 0))), ((u2 2).1, .inl ((u2 2).2, 8, .inl (fun _ => 0))), ((u2 3).1, .inl ((u2 3).2, 4, .inl (fun _ => 0))), ((u2 4).1, .inl ((u2 4).2, 4, .inl (fun _ => 0))), ((u2 5).1, .inl ((u2 5).2, 4, .inl (fun _ => 0))), ((u2 6).1, .inl ((u2 6).2, 4, .inl (fun _ => 0))), (q3, .inl (c3, 160, .inl (fun _ => 0))), (q4, .inl (c4, 3, .inl (fun _ => 0)))] H := hP
  have hD : va_D A [(h0, .inr (3, [.ref q1, .int 0, .int 0, .ref q3, .null, .null, .int 0])), (q1, .inr (4, [.ref (u2 0).1, .ref (u2 1).1, .ref (u2 2).1, .ref (u2 3).1, .ref (u2 4).1, .ref (u2 5).1, .ref (u2 6).1, .int 0, .int 0, .int 10, .int 60, .int 1])), ((u2 0).1, .inl ((u2 0).2, 8, .inl (fun _ => 0))), ((u2 1).1, .inl ((u2 1).2, 8, .inl (fun _ => 0))), ((u2 2).1, .inl ((u2 2).2, 8, .inl (fun _ => 0))), ((u2 3).1, .inl ((u2 3).2, 4, .inl (fun _ => 0))), ((u2 4).1, .inl ((u2 4).2, 4, .inl (fun _ => 0))), ((u2 5).1, .inl ((u2 5).2, 4, .inl (fun _ => 0))), ((u2 6).1, .inl ((u2 6).2, 4, .inl (fun _ => 0))), (q3, .inl (c3, 160, .inl (fun _ => 0))), (q4, .inl (c4, 3, .inl (fun _ => 0)))] := hD
  have hK : va_K D classes [((u2 0).2, .int), ((u2 1).2, .int), ((u2 2).2, .int), ((u2 3).2, .int), ((u2 4).2, .int), ((u2 5).2, .int), ((u2 6).2, .int), (c3, .char), (c4, .int)] s := hK
  refine W.widen (k := 10) (n := 215) (Nat.le_of_ble_eq_true rfl) (Nat.le_of_ble_eq_true rfl) ?_
  refine va_putF (D := D) (ci := 3) (v := .ref q4) (ty := .array .int) (C := RX4) (T := TX4) (N := 7) hx hb hts iX4 tyX4 tyX4_ok nmX4 hown hK hP hD hS 0 rfl rfl 4 (by decide) (hts _ wf_X4_22) (fun _ h9 => h9) rfl hin rfl (by decide +kernel) rfl rfl (Nat.le_of_ble_eq_true rfl) (dck_at tX4_init 14 rfl) (fun H locs hP hD hS => ?_)
  have hP : va_P D classes [(h0, .inr (3, [.ref q1, .int 0, .int 0, .ref q3, .ref q4, .null, .int 0])), (q1, .inr (4, [.ref (u2 0).1, .ref (u2 1).1, .ref (u2 2).1, .ref (u2 3).1, .ref (u2 4).1, .ref (u2 5).1, .ref (u2 6).1, .int 0, .int 0, .int 10, .int 60, .int 1])), ((u2 0).1, .inl ((u2 0).2, 8, .inl (fun _ => 0))), ((u2 1).1, .inl ((u2 1).2, 8, .inl (fun _ => 0))), ((u2 2).1, .inl ((u2 2).2, 8, .inl (fun _ => 0))), ((u2 3).1, .inl ((u2 3).2, 4, .inl (fun _ => 0))), ((u2 4).1, .inl ((u2 4).2, 4, .inl (fun _ => 0))), ((u2 5).1, .inl ((u2 5).2, 4, .inl (fun _ => 0))), ((u2 6).1, .inl ((u2 6).2, 4, .inl (fun _ => 0))), (q3, .inl (c3, 160, .inl (fun _ => 0))), (q4, .inl (c4, 3, .inl (fun _ => 0)))] H := hP
  have hD : va_D A [(h0, .inr (3, [.ref q1, .int 0, .int 0, .ref q3, .ref q4, .null, .int 0])), (q1, .inr (4, [.ref (u2 0).1, .ref (u2 1).1, .ref (u2 2).1, .ref (u2 3).1, .ref (u2 4).1, .ref (u2 5).1, .ref (u2 6).1, .int 0, .int 0, .int 10, .int 60, .int 1])), ((u2 0).1, .inl ((u2 0).2, 8, .inl (fun _ => 0))), ((u2 1).1, .inl ((u2 1).2, 8, .inl (fun _ => 0))), ((u2 2).1, .inl ((u2 2).2, 8, .inl (fun _ => 0))), ((u2 3).1, .inl ((u2 3).2, 4, .inl (fun _ => 0))), ((u2 4).1, .inl ((u2 4).2, 4, .inl (fun _ => 0))), ((u2 5).1, .inl ((u2 5).2, 4, .inl (fun _ => 0))), ((u2 6).1, .inl ((u2 6).2, 4, .inl (fun _ => 0))), (q3, .inl (c3, 160, .inl (fun _ => 0))), (q4, .inl (c4, 3, .inl (fun _ => 0)))] := hD
  refine lv_aload_n hx hb (dck_at tX4_init 15 rfl) rfl (lv_at hl 0 rfl) ?_
  have hFc := va_free (wc := []) hD hS hA [] rfl
  refine va_callr (va_runS (As := []) (rest := [.ref h0]) ⟨hx, hb, hml, hown, hts⟩ (k_X0_values l D X0 H.size) (va_cwS 0 hts (tb_gi (ws := [.methodLink RX4 26 yX0_values, .static yX0_values, .initialized RX0]) (fun w hw => by simp only [List.mem_cons, List.not_mem_nil, or_false] at hw; rcases hw with rfl | rfl | rfl; exact wm_X4_26; exact wt_X0_values; exact wn_X0) wc_X0_values) rfl rfl rfl hyX0_values ⟨Nat.le_of_ble_eq_true rfl, Nat.le_of_ble_eq_true rfl⟩) ⟨fun a U g mk q => by obtain ⟨q0, q1, qK, qZ⟩ := q; exact ⟨q0, q1, va_K.moved (u := U) (U := U.calling g mk a) (Vm.Alike.refl U.vm) qK, qZ.calls⟩, fun U hU hW => ⟨rfl, by rw [hU], va_K.moved hW.alike (hK.sub (tys' := []) [] rfl), hZ.moveA (Nat.le_refl _) hW hS hU hAb (Nat.le_refl _)⟩⟩ rfl rfl hl.1 rfl (lv_room (Nat.le_of_ble_eq_true rfl)) (dck_at tX4_init 16 rfl) ⟨Nat.le_of_ble_eq_true rfl, Nat.le_of_ble_eq_true rfl⟩) hS (fun q _ h => hFc q h) hFc (fun u9 q5 t H1 locs ht hvm hw hB hz1 hk1 hS => ?_)
  obtain ⟨hP1, hK1, hD1⟩ := hB
  rw [ht] at hP1
  have hK1 := va_K.moved hvm.symm hK1
  obtain ⟨hP, hD⟩ := va_join (wr := [(h0, .inr (3, [.ref q1, .int 0, .int 0, .ref q3, .ref q4, .null, .int 0])), (q1, .inr (4, [.ref (u2 0).1, .ref (u2 1).1, .ref (u2 2).1, .ref (u2 3).1, .ref (u2 4).1, .ref (u2 5).1, .ref (u2 6).1, .int 0, .int 0, .int 10, .int 60, .int 1])), ((u2 0).1, .inl ((u2 0).2, 8, .inl (fun _ => 0))), ((u2 1).1, .inl ((u2 1).2, 8, .inl (fun _ => 0))), ((u2 2).1, .inl ((u2 2).2, 8, .inl (fun _ => 0))), ((u2 3).1, .inl ((u2 3).2, 4, .inl (fun _ => 0))), ((u2 4).1, .inl ((u2 4).2, 4, .inl (fun _ => 0))), ((u2 5).1, .inl ((u2 5).2, 4, .inl (fun _ => 0))), ((u2 6).1, .inl ((u2 6).2, 4, .inl (fun _ => 0))), (q3, .inl (c3, 160, .inl (fun _ => 0))), (q4, .inl (c4, 3, .inl (fun _ => 0)))]) (w1 := [(q5, .inl ((xca X0 20), 13, .inr (.inr (.inr (.inr (fun i => some (xad X0 (1000 + i))))))))]) hP hD [] [0, 1, 2, 3, 4, 5, 6, 7, 8, 9, 10] rfl rfl (by decide) (by decide) hk1 hFc hP1 hD1
  have hK := hK.app hK1
  generalize H1 = H at hP hS ⊢
  have hP : va_P D classes [(h0, .inr (3, [.ref q1, .int 0, .int 0, .ref q3, .ref q4, .null, .int 0])), (q1, .inr (4, [.ref (u2 0).1, .ref (u2 1).1, .ref (u2 2).1, .ref (u2 3).1, .ref (u2 4).1, .ref (u2 5).1, .ref (u2 6).1, .int 0, .int 0, .int 10, .int 60, .int 1])), ((u2 0).1, .inl ((u2 0).2, 8, .inl (fun _ => 0))), ((u2 1).1, .inl ((u2 1).2, 8, .inl (fun _ => 0))), ((u2 2).1, .inl ((u2 2).2, 8, .inl (fun _ => 0))), ((u2 3).1, .inl ((u2 3).2, 4, .inl (fun _ => 0))), ((u2 4).1, .inl ((u2 4).2, 4, .inl (fun _ => 0))), ((u2 5).1, .inl ((u2 5).2, 4, .inl (fun _ => 0))), ((u2 6).1, .inl ((u2 6).2, 4, .inl (fun _ => 0))), (q3, .inl (c3, 160, .inl (fun _ => 0))), (q4, .inl (c4, 3, .inl (fun _ => 0))), (q5, .inl ((xca X0 20), 13, .inr (.inr (.inr (.inr (fun i => some (xad X0 (1000 + i))))))))] H := hP
  have hD : va_D A [(h0, .inr (3, [.ref q1, .int 0, .int 0, .ref q3, .ref q4, .null, .int 0])), (q1, .inr (4, [.ref (u2 0).1, .ref (u2 1).1, .ref (u2 2).1, .ref (u2 3).1, .ref (u2 4).1, .ref (u2 5).1, .ref (u2 6).1, .int 0, .int 0, .int 10, .int 60, .int 1])), ((u2 0).1, .inl ((u2 0).2, 8, .inl (fun _ => 0))), ((u2 1).1, .inl ((u2 1).2, 8, .inl (fun _ => 0))), ((u2 2).1, .inl ((u2 2).2, 8, .inl (fun _ => 0))), ((u2 3).1, .inl ((u2 3).2, 4, .inl (fun _ => 0))), ((u2 4).1, .inl ((u2 4).2, 4, .inl (fun _ => 0))), ((u2 5).1, .inl ((u2 5).2, 4, .inl (fun _ => 0))), ((u2 6).1, .inl ((u2 6).2, 4, .inl (fun _ => 0))), (q3, .inl (c3, 160, .inl (fun _ => 0))), (q4, .inl (c4, 3, .inl (fun _ => 0))), (q5, .inl ((xca X0 20), 13, .inr (.inr (.inr (.inr (fun i => some (xad X0 (1000 + i))))))))] := hD
  have hK : va_K D classes [((u2 0).2, .int), ((u2 1).2, .int), ((u2 2).2, .int), ((u2 3).2, .int), ((u2 4).2, .int), ((u2 5).2, .int), ((u2 6).2, .int), (c3, .char), (c4, .int), ((xca X0 20), .object RX0)] s := hK
  refine W.widen (k := 11) (n := 228) (Nat.le_of_ble_eq_true rfl) (Nat.le_of_ble_eq_true rfl) ?_
  refine va_putF (D := D) (ci := 3) (v := .ref q5) (ty := .array (.object RX0)) (C := RX4) (T := TX4) (N := 7) hx hb hts iX4 tyX4 tyX4_ok nmX4 hown hK hP hD hS 0 rfl rfl 5 (by decide) (hts _ wf_X4_32) (fun _ h9 => h9) rfl hin rfl (by decide +kernel) rfl rfl (Nat.le_of_ble_eq_true rfl) (dck_at tX4_init 17 rfl) (fun H locs hP hD hS => ?_)
  have hP : va_P D classes [(h0, .inr (3, [.ref q1, .int 0, .int 0, .ref q3, .ref q4, .ref q5, .int 0])), (q1, .inr (4, [.ref (u2 0).1, .ref (u2 1).1, .ref (u2 2).1, .ref (u2 3).1, .ref (u2 4).1, .ref (u2 5).1, .ref (u2 6).1, .int 0, .int 0, .int 10, .int 60, .int 1])), ((u2 0).1, .inl ((u2 0).2, 8, .inl (fun _ => 0))), ((u2 1).1, .inl ((u2 1).2, 8, .inl (fun _ => 0))), ((u2 2).1, .inl ((u2 2).2, 8, .inl (fun _ => 0))), ((u2 3).1, .inl ((u2 3).2, 4, .inl (fun _ => 0))), ((u2 4).1, .inl ((u2 4).2, 4, .inl (fun _ => 0))), ((u2 5).1, .inl ((u2 5).2, 4, .inl (fun _ => 0))), ((u2 6).1, .inl ((u2 6).2, 4, .inl (fun _ => 0))), (q3, .inl (c3, 160, .inl (fun _ => 0))), (q4, .inl (c4, 3, .inl (fun _ => 0))), (q5, .inl ((xca X0 20), 13, .inr (.inr (.inr (.inr (fun i => some (xad X0 (1000 + i))))))))] H := hP
  have hD : va_D A [(h0, .inr (3, [.ref q1, .int 0, .int 0, .ref q3, .ref q4, .ref q5, .int 0])), (q1, .inr (4, [.ref (u2 0).1, .ref (u2 1).1, .ref (u2 2).1, .ref (u2 3).1, .ref (u2 4).1, .ref (u2 5).1, .ref (u2 6).1, .int 0, .int 0, .int 10, .int 60, .int 1])), ((u2 0).1, .inl ((u2 0).2, 8, .inl (fun _ => 0))), ((u2 1).1, .inl ((u2 1).2, 8, .inl (fun _ => 0))), ((u2 2).1, .inl ((u2 2).2, 8, .inl (fun _ => 0))), ((u2 3).1, .inl ((u2 3).2, 4, .inl (fun _ => 0))), ((u2 4).1, .inl ((u2 4).2, 4, .inl (fun _ => 0))), ((u2 5).1, .inl ((u2 5).2, 4, .inl (fun _ => 0))), ((u2 6).1, .inl ((u2 6).2, 4, .inl (fun _ => 0))), (q3, .inl (c3, 160, .inl (fun _ => 0))), (q4, .inl (c4, 3, .inl (fun _ => 0))), (q5, .inl ((xca X0 20), 13, .inr (.inr (.inr (.inr (fun i => some (xad X0 (1000 + i))))))))] := hD
  have hP9 := hP.sub (ws' := [(h0, .inr (3, [.ref q1, .int 0, .int 0, .ref q3, .ref q4, .ref q5, .int 0])), (q1, .inr (4, [.ref (u2 0).1, .ref (u2 1).1, .ref (u2 2).1, .ref (u2 3).1, .ref (u2 4).1, .ref (u2 5).1, .ref (u2 6).1, .int 0, .int 0, .int 10, .int 60, .int 1])), ((u2 0).1, .inl ((u2 0).2, 8, .inl (fun _ => 0))), ((u2 1).1, .inl ((u2 1).2, 8, .inl (fun _ => 0))), ((u2 2).1, .inl ((u2 2).2, 8, .inl (fun _ => 0))), ((u2 3).1, .inl ((u2 3).2, 4, .inl (fun _ => 0))), ((u2 4).1, .inl ((u2 4).2, 4, .inl (fun _ => 0))), ((u2 5).1, .inl ((u2 5).2, 4, .inl (fun _ => 0))), ((u2 6).1, .inl ((u2 6).2, 4, .inl (fun _ => 0))), (q3, .inl (c3, 160, .inl (fun _ => 0))), (q4, .inl (c4, 3, .inl (fun _ => 0))), (q5, .inl ((xca X0 20), 13, .inr (.inr (.inr (.inr (fun i => some (xad X0 (1000 + i))))))))]) [0, 1, 2, 3, 4, 5, 6, 7, 8, 9, 10, 11] rfl
  have hD9 := hD.sub (ws' := [(h0, .inr (3, [.ref q1, .int 0, .int 0, .ref q3, .ref q4, .ref q5, .int 0])), (q1, .inr (4, [.ref (u2 0).1, .ref (u2 1).1, .ref (u2 2).1, .ref (u2 3).1, .ref (u2 4).1, .ref (u2 5).1, .ref (u2 6).1, .int 0, .int 0, .int 10, .int 60, .int 1])), ((u2 0).1, .inl ((u2 0).2, 8, .inl (fun _ => 0))), ((u2 1).1, .inl ((u2 1).2, 8, .inl (fun _ => 0))), ((u2 2).1, .inl ((u2 2).2, 8, .inl (fun _ => 0))), ((u2 3).1, .inl ((u2 3).2, 4, .inl (fun _ => 0))), ((u2 4).1, .inl ((u2 4).2, 4, .inl (fun _ => 0))), ((u2 5).1, .inl ((u2 5).2, 4, .inl (fun _ => 0))), ((u2 6).1, .inl ((u2 6).2, 4, .inl (fun _ => 0))), (q3, .inl (c3, 160, .inl (fun _ => 0))), (q4, .inl (c4, 3, .inl (fun _ => 0))), (q5, .inl ((xca X0 20), 13, .inr (.inr (.inr (.inr (fun i => some (xad X0 (1000 + i))))))))]) [0, 1, 2, 3, 4, 5, 6, 7, 8, 9, 10, 11] (by decide) rfl
  have hK9 := hK.sub (tys' := [((u2 0).2, .int), ((u2 1).2, .int), ((u2 2).2, .int), ((u2 3).2, .int), ((u2 4).2, .int), ((u2 5).2, .int), ((u2 6).2, .int), (c3, .char), (c4, .int), ((xca X0 20), .object RX0)]) [0, 1, 2, 3, 4, 5, 6, 7, 8, 9] rfl
  refine W.widen (k := 11) (n := 228) (Nat.le_of_ble_eq_true rfl) (Nat.le_of_ble_eq_true rfl) ?_
  exact W.vret hx hb hr (fun t ht hW => ⟨⟨(fun i => match i with | 0 => (q1, 0) | 1 => u2 0 | 2 => u2 1 | 3 => u2 2 | 4 => u2 3 | 5 => u2 4 | 6 => u2 5 | 7 => u2 6 | 8 => (q3, c3) | 9 => (q4, c4) | _ => (q5, xca X0 20)), rfl, trivial, by rw [ht]; exact hP9, va_K.moved hW.alike hK9, hD9⟩, hS.F ht⟩) hS.2.2 (dck_at tX4_init 18 rfl)
def tbX2_init : List (Nat × Instr × Nat) := [(0, .aload_n 0, 1), (1, .invokespecial 3, 3), (4, .aload_n 0, 1), (5, .bipush 8, 2), (7, .anewarray 9, 3), (10, .putfield 11, 3), (13, .iconst 0, 1), (14, .istore_n 2, 1), (15, .iload_n 2, 1), (16, .bipush 8, 2), (18, .if_icmp .ge 23, 3), (21, .aload_n 0, 1), (22, .getfield 11, 3), (25, .iload_n 2, 1), (26, .new 9, 3), (29, .dup, 1), (30, .aload_n 1, 1), (31, .invokespecial 17, 3), (34, .aastore, 1), (35, .iinc 2 1, 3), (38, .goto (-23), 3), (41, .return_, 1)]
theorem tX2_init : dck cX2_init tbX2_init = true := by decide +kernel
set_option maxHeartbeats 8000000 in
set_option maxRecDepth 100000 in
theorem k_X2_init (l : Launch) (D : va_G) (X0 : Cx) (h0 t0 sz : Nat) : Met l yX2_init (Cond.code yX2_init cX2_init 3 none :: tb) ({ frames := 3, cells := 17, slots := 152, locals := 120 }) (va_Pc [.ref h0, .ref t0] (fun U => U.heap.size = sz ∧ va_P D classes [(h0, .inr (1, [.int 0, .int 0, .null]))] U.heap ∧ va_K D classes [] U ∧ va_D (fun _ => True) [(h0, .inr (1, [.int 0, .int 0, .null]))] ∧ Zs X0 h0 sz U)) (va_Qv (fun _ : Nat → Nat × ClassId => True) (fun u t => va_P D classes [(h0, .inr (1, [.int 0, .int 0, .ref (u 0).1])), ((u 0).1, .inl ((u 0).2, 8, .inr (.inr (.inr (.inr (va_up (va_up (va_up (va_up (va_up (va_up (va_up (va_up (fun _ => none) 0 (some (u 1).1)) 1 (some (u 3).1)) 2 (some (u 5).1)) 3 (some (u 7).1)) 4 (some (u 9).1)) 5 (some (u 11).1)) 6 (some (u 13).1)) 7 (some (u 15).1))))))), ((u 1).1, .inr (0, [.ref (u 2).1, .int 0, .int 0, .int 0, .int 0, .int 0, .int 0, .int 0, .int 0, .ref t0])), ((u 2).1, .inl ((u 2).2, 8, .inl (fun _ => 0))), ((u 3).1, .inr (0, [.ref (u 4).1, .int 0, .int 0, .int 0, .int 0, .int 0, .int 0, .int 0, .int 0, .ref t0])), ((u 4).1, .inl ((u 4).2, 8, .inl (fun _ => 0))), ((u 5).1, .inr (0, [.ref (u 6).1, .int 0, .int 0, .int 0, .int 0, .int 0, .int 0, .int 0, .int 0, .ref t0])), ((u 6).1, .inl ((u 6).2, 8, .inl (fun _ => 0))), ((u 7).1, .inr (0, [.ref (u 8).1, .int 0, .int 0, .int 0, .int 0, .int 0, .int 0, .int 0, .int 0, .ref t0])), ((u 8).1, .inl ((u 8).2, 8, .inl (fun _ => 0))), ((u 9).1, .inr (0, [.ref (u 10).1, .int 0, .int 0, .int 0, .int 0, .int 0, .int 0, .int 0, .int 0, .ref t0])), ((u 10).1, .inl ((u 10).2, 8, .inl (fun _ => 0))), ((u 11).1, .inr (0, [.ref (u 12).1, .int 0, .int 0, .int 0, .int 0, .int 0, .int 0, .int 0, .int 0, .ref t0])), ((u 12).1, .inl ((u 12).2, 8, .inl (fun _ => 0))), ((u 13).1, .inr (0, [.ref (u 14).1, .int 0, .int 0, .int 0, .int 0, .int 0, .int 0, .int 0, .int 0, .ref t0])), ((u 14).1, .inl ((u 14).2, 8, .inl (fun _ => 0))), ((u 15).1, .inr (0, [.ref (u 16).1, .int 0, .int 0, .int 0, .int 0, .int 0, .int 0, .int 0, .int 0, .ref t0])), ((u 16).1, .inl ((u 16).2, 8, .inl (fun _ => 0)))] t.heap ∧ va_K D classes [((u 0).2, .object RX1), ((u 2).2, .int), ((u 4).2, .int), ((u 6).2, .int), ((u 8).2, .int), ((u 10).2, .int), ((u 12).2, .int), ((u 14).2, .int), ((u 16).2, .int)] t ∧ va_D (va_A [(h0, .inr (1, [.int 0, .int 0, .null]))] sz) [(h0, .inr (1, [.int 0, .int 0, .ref (u 0).1])), ((u 0).1, .inl ((u 0).2, 8, .inr (.inr (.inr (.inr (va_up (va_up (va_up (va_up (va_up (va_up (va_up (va_up (fun _ => none) 0 (some (u 1).1)) 1 (some (u 3).1)) 2 (some (u 5).1)) 3 (some (u 7).1)) 4 (some (u 9).1)) 5 (some (u 11).1)) 6 (some (u 13).1)) 7 (some (u 15).1))))))), ((u 1).1, .inr (0, [.ref (u 2).1, .int 0, .int 0, .int 0, .int 0, .int 0, .int 0, .int 0, .int 0, .ref t0])), ((u 2).1, .inl ((u 2).2, 8, .inl (fun _ => 0))), ((u 3).1, .inr (0, [.ref (u 4).1, .int 0, .int 0, .int 0, .int 0, .int 0, .int 0, .int 0, .int 0, .ref t0])), ((u 4).1, .inl ((u 4).2, 8, .inl (fun _ => 0))), ((u 5).1, .inr (0, [.ref (u 6).1, .int 0, .int 0, .int 0, .int 0, .int 0, .int 0, .int 0, .int 0, .ref t0])), ((u 6).1, .inl ((u 6).2, 8, .inl (fun _ => 0))), ((u 7).1, .inr (0, [.ref (u 8).1, .int 0, .int 0, .int 0, .int 0, .int 0, .int 0, .int 0, .int 0, .ref t0])), ((u 8).1, .inl ((u 8).2, 8, .inl (fun _ => 0))), ((u 9).1, .inr (0, [.ref (u 10).1, .int 0, .int 0, .int 0, .int 0, .int 0, .int 0, .int 0, .int 0, .ref t0])), ((u 10).1, .inl ((u 10).2, 8, .inl (fun _ => 0))), ((u 11).1, .inr (0, [.ref (u 12).1, .int 0, .int 0, .int 0, .int 0, .int 0, .int 0, .int 0, .int 0, .ref t0])), ((u 12).1, .inl ((u 12).2, 8, .inl (fun _ => 0))), ((u 13).1, .inr (0, [.ref (u 14).1, .int 0, .int 0, .int 0, .int 0, .int 0, .int 0, .int 0, .int 0, .ref t0])), ((u 14).1, .inl ((u 14).2, 8, .inl (fun _ => 0))), ((u 15).1, .inr (0, [.ref (u 16).1, .int 0, .int 0, .int 0, .int 0, .int 0, .int 0, .int 0, .int 0, .ref t0])), ((u 16).1, .inl ((u 16).2, 8, .inl (fun _ => 0)))]) (va_A [(h0, .inr (1, [.int 0, .int 0, .null]))] sz)) 17 152 (va_A [(h0, .inr (1, [.int 0, .int 0, .null]))] sz) := by
  refine Met.ofW (cc := cX2_init) (maxL := 3) (ret := none) (by decide) rfl ?_
  intro p e s m args below meth c s₁ B hml hv
  obtain ⟨rfl, hsz, hP, hK, hD0, hZ⟩ := hv
  have hx := B.exec
  have hb := B.bytes
  have hr := B.returns
  have hts0 := atoms_spec (ws := Cond.code yX2_init cX2_init 3 none :: tb) B.pre
  have hts : ∀ w ∈ tb, w.before _ s = true := fun w hw => hts0 w (List.mem_cons_of_mem _ hw)
  have hown : s.vm.findClass RX2 = some m.cls := findClass_of_methodNamed B.named
  have hlocks := B.notSynchronized
  have hin : meth.name = "<init>" := (name_of_methodNamed B.named B.method).1
  subst hsz
  have hD := hD0.self (sz := s.heap.size)
  generalize hAe : va_A [(h0, .inr (1, [.int 0, .int 0, .null]))] s.heap.size = A at hD ⊢
  have hA : ∀ q : Nat, s.heap.size ≤ q → A q := fun q h => by rw [← hAe]; exact Or.inr h
  have hAb : ∀ q : Nat, A q → xA X0 q := fun q h => by rw [← hAe] at h; exact hZ.below h
  have hS : va_S A s.heap s.heap [] := va_S.rf
  have hP : va_P D classes [(h0, .inr (1, [.int 0, .int 0, .null]))] s.heap := hP
  have hl := lv_entry ([.ref h0, .ref t0]) (n := 3) (Nat.le_of_ble_eq_true rfl)
  rw [lg_entry_eq]
  generalize (lg_sl ([.ref h0, .ref t0]) ++ List.replicate (3 - (lg_sl ([.ref h0, .ref t0])).length) Slot.unset).toArray = ls at hl ⊢
  have hl : lv_has ls 3 [(0, .ref h0), (1, .ref t0)] := hl
  refine lv_aload_n hx hb (dck_at tX2_init 0 rfl) rfl (lv_at hl 0 rfl) ?_
  refine W.objInit hx hb hown (hts _ wm_X2_3) (hts _ wi_obj) (hts _ wc_obj) rfl (by rw [hml]; exact hl.1) rfl (dck_at tX2_init 1 rfl) (Nat.le_of_ble_eq_true rfl) (Nat.le_of_ble_eq_true rfl) ?_
  refine W.eq (g2 := F0 m 4 ls []) rfl ?_
  refine lv_aload_n hx hb (dck_at tX2_init 2 rfl) rfl (lv_at hl 0 rfl) ?_
  refine lv_bipush (v := 8) hx hb (dck_at tX2_init 3 rfl) (by decide) ?_
  refine va_newq (C := RX1) (N' := 8) hx hb hown (hts _ wl_X2_9) hZ.1 hK hP hD hS hA (by decide) (by decide) (by decide) (Nat.le_of_ble_eq_true rfl) (Nat.le_of_ble_eq_true rfl) (dck_at tX2_init 4 rfl) (fun q1 c1 H hK hP hD hS => ?_)
  have hP : va_P D classes [(h0, .inr (1, [.int 0, .int 0, .null])), (q1, .inl (c1, 8, .inr (.inr (.inr (.inr (fun _ => none))))))] H := hP
  have hD : va_D A [(h0, .inr (1, [.int 0, .int 0, .null])), (q1, .inl (c1, 8, .inr (.inr (.inr (.inr (fun _ => none))))))] := hD
  have hK : va_K D classes [(c1, .object RX1)] s := hK
  refine W.widen (k := 1) (n := 8) (Nat.le_of_ble_eq_true rfl) (Nat.le_of_ble_eq_true rfl) ?_
  refine va_putF (D := D) (ci := 1) (v := .ref q1) (ty := .array (.object RX1)) (C := RX2) (T := TX2) (N := 3) hx hb hts iX2 tyX2 tyX2_ok nmX2 hown hK hP hD hS 0 rfl rfl 2 (by decide) (hts _ wf_X2_11) (fun _ h9 => h9) rfl hin rfl (by decide +kernel) rfl rfl (Nat.le_of_ble_eq_true rfl) (dck_at tX2_init 5 rfl) (fun H locs hP hD hS => ?_)
  have hP : va_P D classes [(h0, .inr (1, [.int 0, .int 0, .ref q1])), (q1, .inl (c1, 8, .inr (.inr (.inr (.inr (fun _ => none))))))] H := hP
  have hD : va_D A [(h0, .inr (1, [.int 0, .int 0, .ref q1])), (q1, .inl (c1, 8, .inr (.inr (.inr (.inr (fun _ => none))))))] := hD
  refine lv_iconst (v := 0) hx hb (dck_at tX2_init 6 rfl) (by decide) ?_
  refine lv_istore_n (lv' := [(2, .int 0), (0, .ref h0), (1, .ref t0)]) hx hb (dck_at tX2_init 7 rfl) rfl hl (by decide) rfl (fun ls hl => ?_)
  refine lv_iload_n hx hb (dck_at tX2_init 8 rfl) rfl (lv_at hl 0 rfl) ?_
  refine lv_bipush (v := 8) hx hb (dck_at tX2_init 9 rfl) (by decide) ?_
  refine lv_icmp_ge (tgt := 41) hx hb (dck_at tX2_init 10 rfl) (by decide) (fun c9 => ?_) (fun c9 => ?_)
  · exact absurd c9 (by decide)
  refine lv_aload_n hx hb (dck_at tX2_init 11 rfl) rfl (lv_at hl 1 rfl) ?_
  refine va_get (D := D) (ci := 1) (v := .ref q1) (C := RX2) (T := TX2) (N := 3) hx hb hts iX2 hown hK hP 0 rfl rfl 2 (by decide) (hts _ wf_X2_11) (fun _ h9 => h9) rfl (dck_at tX2_init 12 rfl) ?_
  refine lv_iload_n hx hb (dck_at tX2_init 13 rfl) rfl (lv_at hl 0 rfl) ?_
  refine va_new (ci := 0) (fs := [.null, .int 0, .int 0, .int 0, .int 0, .int 0, .int 0, .int 0, .int 0, .null]) (C := RX1) (T := TX1) (N := 10) hx hb hts iX1 tyX1 tyX1_ok hown (hts _ wl_X2_9) (hts _ wb_X1) (hts _ wn_X1) hK hP hD hS hA rfl (fun j hj => by rcases (show j = 0 ∨ j = 1 ∨ j = 2 ∨ j = 3 ∨ j = 4 ∨ j = 5 ∨ j = 6 ∨ j = 7 ∨ j = 8 ∨ j = 9 by omega) with rfl | rfl | rfl | rfl | rfl | rfl | rfl | rfl | rfl | rfl <;> rfl) (Nat.le_of_ble_eq_true rfl) (Nat.le_of_ble_eq_true rfl) (dck_at tX2_init 14 rfl) (fun q2 H hP hD hS => ?_)
  have hP : va_P D classes [(h0, .inr (1, [.int 0, .int 0, .ref q1])), (q1, .inl (c1, 8, .inr (.inr (.inr (.inr (fun _ => none)))))), (q2, .inr (0, [.null, .int 0, .int 0, .int 0, .int 0, .int 0, .int 0, .int 0, .int 0, .null]))] H := hP
  have hD : va_D A [(h0, .inr (1, [.int 0, .int 0, .ref q1])), (q1, .inl (c1, 8, .inr (.inr (.inr (.inr (fun _ => none)))))), (q2, .inr (0, [.null, .int 0, .int 0, .int 0, .int 0, .int 0, .int 0, .int 0, .int 0, .null]))] := hD
  refine W.widen (k := 2) (n := 18) (Nat.le_of_ble_eq_true rfl) (Nat.le_of_ble_eq_true rfl) ?_
  refine lv_dup hx hb (dck_at tX2_init 15 rfl) rfl ?_
  refine lv_aload_n hx hb (dck_at tX2_init 16 rfl) rfl (lv_at hl 2 rfl) ?_
  have hPc := hP.sub (ws' := [(q2, .inr (0, [.null, .int 0, .int 0, .int 0, .int 0, .int 0, .int 0, .int 0, .int 0, .null]))]) [2] rfl
  have hDc := hD.sub (ws' := [(q2, .inr (0, [.null, .int 0, .int 0, .int 0, .int 0, .int 0, .int 0, .int 0, .int 0, .null]))]) [2] (by decide) rfl
  have hKc := hK.sub (tys' := []) [] rfl
  have hFc := va_free (wc := [(q2, .inr (0, [.null, .int 0, .int 0, .int 0, .int 0, .int 0, .int 0, .int 0, .int 0, .null]))]) hD hS hA [2] rfl
  refine va_callv (va_runI (As := [.ref t0]) (rest := [.ref q2, .int 0, .ref q1]) ⟨hx, hb, hml, hown, hts⟩ (k_X1_init l D X0 q2 t0 H.size) (cwI 1 hts (tb_gi (ws := []) (fun w hw => by cases hw) wc_X1_init) rfl rfl rfl (hts _ wn_X1) (hts _ wm_X2_17) (hts _ wi_X1_init) rfl hyX1_init.2 ⟨Nat.le_of_ble_eq_true rfl, Nat.le_of_ble_eq_true rfl⟩) ⟨fun a U g mk q => by obtain ⟨q0, q1, qP, qK, qD, qZ⟩ := q; exact ⟨q0, q1, qP, va_K.moved (u := U) (U := U.calling g mk a) (Vm.Alike.refl U.vm) qK, qD, qZ.calls⟩, fun U hU hW => ⟨rfl, by rw [hU], by rw [hU]; exact hPc, va_K.moved hW.alike hKc, hDc.weaken (fun _ _ _ _ => trivial), hZ.moveA (Nat.le_refl _) hW hS hU hAb (hAb _ (hD.2 2 _ rfl))⟩⟩ rfl rfl hl.1 rfl (lv_room (Nat.le_of_ble_eq_true rfl)) (dck_at tX2_init 17 rfl) ⟨Nat.le_of_ble_eq_true rfl, Nat.le_of_ble_eq_true rfl⟩) hS (fun q _ h => hFc q h) hFc (fun u3 t H1 locs ht hvm hw hB hz1 hk1 hS => ?_)
  obtain ⟨hP1, hK1, hD1⟩ := hB
  rw [ht] at hP1
  have hK1 := va_K.moved hvm.symm hK1
  obtain ⟨hP, hD⟩ := va_join (wr := [(h0, .inr (1, [.int 0, .int 0, .ref q1])), (q1, .inl (c1, 8, .inr (.inr (.inr (.inr (fun _ => none))))))]) (w1 := [(q2, .inr (0, [.ref (u3 0).1, .int 0, .int 0, .int 0, .int 0, .int 0, .int 0, .int 0, .int 0, .ref t0])), ((u3 0).1, .inl ((u3 0).2, 8, .inl (fun _ => 0)))]) hP hD [2] [0, 1] rfl rfl (by decide) (by decide) hk1 hFc hP1 hD1
  have hK := hK.app hK1
  generalize H1 = H at hP hS ⊢
  have hP : va_P D classes [(h0, .inr (1, [.int 0, .int 0, .ref q1])), (q1, .inl (c1, 8, .inr (.inr (.inr (.inr (fun _ => none)))))), (q2, .inr (0, [.ref (u3 0).1, .int 0, .int 0, .int 0, .int 0, .int 0, .int 0, .int 0, .int 0, .ref t0])), ((u3 0).1, .inl ((u3 0).2, 8, .inl (fun _ => 0)))] H := hP
  have hD : va_D A [(h0, .inr (1, [.int 0, .int 0, .ref q1])), (q1, .inl (c1, 8, .inr (.inr (.inr (.inr (fun _ => none)))))), (q2, .inr (0, [.ref (u3 0).1, .int 0, .int 0, .int 0, .int 0, .int 0, .int 0, .int 0, .int 0, .ref t0])), ((u3 0).1, .inl ((u3 0).2, 8, .inl (fun _ => 0)))] := hD
  have hK : va_K D classes [(c1, .object RX1), ((u3 0).2, .int)] s := hK
  refine W.widen (k := 3) (n := 26) (Nat.le_of_ble_eq_true rfl) (Nat.le_of_ble_eq_true rfl) ?_
  refine va_astq (r := (RX1, TX1, 10)) hx hb hK hP hD hS 1 0 2 0 rfl rfl rfl rfl (by unfold vp_in; decide) (dck_at tX2_init 18 rfl) (fun H locs hP hD hS => ?_)
  have hP : va_P D classes [(h0, .inr (1, [.int 0, .int 0, .ref q1])), (q1, .inl (c1, 8, .inr (.inr (.inr (.inr (va_up (fun _ => none) 0 (some q2))))))), (q2, .inr (0, [.ref (u3 0).1, .int 0, .int 0, .int 0, .int 0, .int 0, .int 0, .int 0, .int 0, .ref t0])), ((u3 0).1, .inl ((u3 0).2, 8, .inl (fun _ => 0)))] H := hP
  have hD : va_D A [(h0, .inr (1, [.int 0, .int 0, .ref q1])), (q1, .inl (c1, 8, .inr (.inr (.inr (.inr (va_up (fun _ => none) 0 (some q2))))))), (q2, .inr (0, [.ref (u3 0).1, .int 0, .int 0, .int 0, .int 0, .int 0, .int 0, .int 0, .int 0, .ref t0])), ((u3 0).1, .inl ((u3 0).2, 8, .inl (fun _ => 0)))] := hD
  refine lv_iinc (v := 1) (lv' := [(2, .int 1), (0, .ref h0), (1, .ref t0)]) hx hb (dck_at tX2_init 19 rfl) hl (k := 0) rfl (by decide) (by decide) rfl (fun ls hl => ?_)
  refine lv_goto (tgt := 15) hx hb (dck_at tX2_init 20 rfl) (by decide) ?_
  refine lv_iload_n hx hb (dck_at tX2_init 8 rfl) rfl (lv_at hl 0 rfl) ?_
  refine lv_bipush (v := 8) hx hb (dck_at tX2_init 9 rfl) (by decide) ?_
  refine lv_icmp_ge (tgt := 41) hx hb (dck_at tX2_init 10 rfl) (by decide) (fun c9 => ?_) (fun c9 => ?_)
  · exact absurd c9 (by decide)
  refine lv_aload_n hx hb (dck_at tX2_init 11 rfl) rfl (lv_at hl 1 rfl) ?_
  refine va_get (D := D) (ci := 1) (v := .ref q1) (C := RX2) (T := TX2) (N := 3) hx hb hts iX2 hown hK hP 0 rfl rfl 2 (by decide) (hts _ wf_X2_11) (fun _ h9 => h9) rfl (dck_at tX2_init 12 rfl) ?_
  refine lv_iload_n hx hb (dck_at tX2_init 13 rfl) rfl (lv_at hl 0 rfl) ?_
  refine va_new (ci := 0) (fs := [.null, .int 0, .int 0, .int 0, .int 0, .int 0, .int 0, .int 0, .int 0, .null]) (C := RX1) (T := TX1) (N := 10) hx hb hts iX1 tyX1 tyX1_ok hown (hts _ wl_X2_9) (hts _ wb_X1) (hts _ wn_X1) hK hP hD hS hA rfl (fun j hj => by rcases (show j = 0 ∨ j = 1 ∨ j = 2 ∨ j = 3 ∨ j = 4 ∨ j = 5 ∨ j = 6 ∨ j = 7 ∨ j = 8 ∨ j = 9 by omega) with rfl | rfl | rfl | rfl | rfl | rfl | rfl | rfl | rfl | rfl <;> rfl) (Nat.le_of_ble_eq_true rfl) (Nat.le_of_ble_eq_true rfl) (dck_at tX2_init 14 rfl) (fun q4 H hP hD hS => ?_)
  have hP : va_P D classes [(h0, .inr (1, [.int 0, .int 0, .ref q1])), (q1, .inl (c1, 8, .inr (.inr (.inr (.inr (va_up (fun _ => none) 0 (some q2))))))), (q2, .inr (0, [.ref (u3 0).1, .int 0, .int 0, .int 0, .int 0, .int 0, .int 0, .int 0, .int 0, .ref t0])), ((u3 0).1, .inl ((u3 0).2, 8, .inl (fun _ => 0))), (q4, .inr (0, [.null, .int 0, .int 0, .int 0, .int 0, .int 0, .int 0, .int 0, .int 0, .null]))] H := hP
  have hD : va_D A [(h0, .inr (1, [.int 0, .int 0, .ref q1])), (q1, .inl (c1, 8, .inr (.inr (.inr (.inr (va_up (fun _ => none) 0 (some q2))))))), (q2, .inr (0, [.ref (u3 0).1, .int 0, .int 0, .int 0, .int 0, .int 0, .int 0, .int 0, .int 0, .ref t0])), ((u3 0).1, .inl ((u3 0).2, 8, .inl (fun _ => 0))), (q4, .inr (0, [.null, .int 0, .int 0, .int 0, .int 0, .int 0, .int 0, .int 0, .int 0, .null]))] := hD
  refine W.widen (k := 4) (n := 36) (Nat.le_of_ble_eq_true rfl) (Nat.le_of_ble_eq_true rfl) ?_
  refine lv_dup hx hb (dck_at tX2_init 15 rfl) rfl ?_
  refine lv_aload_n hx hb (dck_at tX2_init 16 rfl) rfl (lv_at hl 2 rfl) ?_
  have hPc := hP.sub (ws' := [(q4, .inr (0, [.null, .int 0, .int 0, .int 0, .int 0, .int 0, .int 0, .int 0, .int 0, .null]))]) [4] rfl
  have hDc := hD.sub (ws' := [(q4, .inr (0, [.null, .int 0, .int 0, .int 0, .int 0, .int 0, .int 0, .int 0, .int 0, .null]))]) [4] (by decide) rfl
  have hKc := hK.sub (tys' := []) [] rfl
  have hFc := va_free (wc := [(q4, .inr (0, [.null, .int 0, .int 0, .int 0, .int 0, .int 0, .int 0, .int 0, .int 0, .null]))]) hD hS hA [4] rfl
  refine va_callv (va_runI (As := [.ref t0]) (rest := [.ref q4, .int 1, .ref q1]) ⟨hx, hb, hml, hown, hts⟩ (k_X1_init l D X0 q4 t0 H.size) (cwI 1 hts (tb_gi (ws := []) (fun w hw => by cases hw) wc_X1_init) rfl rfl rfl (hts _ wn_X1) (hts _ wm_X2_17) (hts _ wi_X1_init) rfl hyX1_init.2 ⟨Nat.le_of_ble_eq_true rfl, Nat.le_of_ble_eq_true rfl⟩) ⟨fun a U g mk q => by obtain ⟨q0, q1, qP, qK, qD, qZ⟩ := q; exact ⟨q0, q1, qP, va_K.moved (u := U) (U := U.calling g mk a) (Vm.Alike.refl U.vm) qK, qD, qZ.calls⟩, fun U hU hW => ⟨rfl, by rw [hU], by rw [hU]; exact hPc, va_K.moved hW.alike hKc, hDc.weaken (fun _ _ _ _ => trivial), hZ.moveA (Nat.le_refl _) hW hS hU hAb (hAb _ (hD.2 4 _ rfl))⟩⟩ rfl rfl hl.1 rfl (lv_room (Nat.le_of_ble_eq_true rfl)) (dck_at tX2_init 17 rfl) ⟨Nat.le_of_ble_eq_true rfl, Nat.le_of_ble_eq_true rfl⟩) hS (fun q _ h => hFc q h) hFc (fun u5 t H1 locs ht hvm hw hB hz1 hk1 hS => ?_)
  obtain ⟨hP1, hK1, hD1⟩ := hB
  rw [ht] at hP1
  have hK1 := va_K.moved hvm.symm hK1
  obtain ⟨hP, hD⟩ := va_join (wr := [(h0, .inr (1, [.int 0, .int 0, .ref q1])), (q1, .inl (c1, 8, .inr (.inr (.inr (.inr (va_up (fun _ => none) 0 (some q2))))))), (q2, .inr (0, [.ref (u3 0).1, .int 0, .int 0, .int 0, .int 0, .int 0, .int 0, .int 0, .int 0, .ref t0])), ((u3 0).1, .inl ((u3 0).2, 8, .inl (fun _ => 0)))]) (w1 := [(q4, .inr (0, [.ref (u5 0).1, .int 0, .int 0, .int 0, .int 0, .int 0, .int 0, .int 0, .int 0, .ref t0])), ((u5 0).1, .inl ((u5 0).2, 8, .inl (fun _ => 0)))]) hP hD [4] [0, 1, 2, 3] rfl rfl (by decide) (by decide) hk1 hFc hP1 hD1
  have hK := hK.app hK1
  generalize H1 = H at hP hS ⊢
  have hP : va_P D classes [(h0, .inr (1, [.int 0, .int 0, .ref q1])), (q1, .inl (c1, 8, .inr (.inr (.inr (.inr (va_up (fun _ => none) 0 (some q2))))))), (q2, .inr (0, [.ref (u3 0).1, .int 0, .int 0, .int 0, .int 0, .int 0, .int 0, .int 0, .int 0, .ref t0])), ((u3 0).1, .inl ((u3 0).2, 8, .inl (fun _ => 0))), (q4, .inr (0, [.ref (u5 0).1, .int 0, .int 0, .int 0, .int 0, .int 0, .int 0, .int 0, .int 0, .ref t0])), ((u5 0).1, .inl ((u5 0).2, 8, .inl (fun _ => 0)))] H := hP
  have hD : va_D A [(h0, .inr (1, [.int 0, .int 0, .ref q1])), (q1, .inl (c1, 8, .inr (.inr (.inr (.inr (va_up (fun _ => none) 0 (some q2))))))), (q2, .inr (0, [.ref (u3 0).1, .int 0, .int 0, .int 0, .int 0, .int 0, .int 0, .int 0, .int 0, .ref t0])), ((u3 0).1, .inl ((u3 0).2, 8, .inl (fun _ => 0))), (q4, .inr (0, [.ref (u5 0).1, .int 0, .int 0, .int 0, .int 0, .int 0, .int 0, .int 0, .int 0, .ref t0])), ((u5 0).1, .inl ((u5 0).2, 8, .inl (fun _ => 0)))] := hD
  have hK : va_K D classes [(c1, .object RX1), ((u3 0).2, .int), ((u5 0).2, .int)] s := hK
  refine W.widen (k := 5) (n := 44) (Nat.le_of_ble_eq_true rfl) (Nat.le_of_ble_eq_true rfl) ?_
  refine va_astq (r := (RX1, TX1, 10)) hx hb hK hP hD hS 1 0 4 0 rfl rfl rfl rfl (by unfold vp_in; decide) (dck_at tX2_init 18 rfl) (fun H locs hP hD hS => ?_)
  have hP : va_P D classes [(h0, .inr (1, [.int 0, .int 0, .ref q1])), (q1, .inl (c1, 8, .inr (.inr (.inr (.inr (va_up (va_up (fun _ => none) 0 (some q2)) 1 (some q4))))))), (q2, .inr (0, [.ref (u3 0).1, .int 0, .int 0, .int 0, .int 0, .int 0, .int 0, .int 0, .int 0, .ref t0])), ((u3 0).1, .inl ((u3 0).2, 8, .inl (fun _ => 0))), (q4, .inr (0, [.ref (u5 0).1, .int 0, .int 0, .int 0, .int 0, .int 0, .int 0, .int 0, .int 0, .ref t0])), ((u5 0).1, .inl ((u5 0).2, 8, .inl (fun _ => 0)))] H := hP
  have hD : va_D A [(h0, .inr (1, [.int 0, .int 0, .ref q1])), (q1, .inl (c1, 8, .inr (.inr (.inr (.inr (va_up (va_up (fun _ => none) 0 (some q2)) 1 (some q4))))))), (q2, .inr (0, [.ref (u3 0).1, .int 0, .int 0, .int 0, .int 0, .int 0, .int 0, .int 0, .int 0, .ref t0])), ((u3 0).1, .inl ((u3 0).2, 8, .inl (fun _ => 0))), (q4, .inr (0, [.ref (u5 0).1, .int 0, .int 0, .int 0, .int 0, .int 0, .int 0, .int 0, .int 0, .ref t0])), ((u5 0).1, .inl ((u5 0).2, 8, .inl (fun _ => 0)))] := hD
  refine lv_iinc (v := 2) (lv' := [(2, .int 2), (0, .ref h0), (1, .ref t0)]) hx hb (dck_at tX2_init 19 rfl) hl (k := 0) rfl (by decide) (by decide) rfl (fun ls hl => ?_)
  refine lv_goto (tgt := 15) hx hb (dck_at tX2_init 20 rfl) (by decide) ?_
  refine lv_iload_n hx hb (dck_at tX2_init 8 rfl) rfl (lv_at hl 0 rfl) ?_
  refine lv_bipush (v := 8) hx hb (dck_at tX2_init 9 rfl) (by decide) ?_
  refine lv_icmp_ge (tgt := 41) hx hb (dck_at tX2_init 10 rfl) (by decide) (fun c9 => ?_) (fun c9 => ?_)
  · exact absurd c9 (by decide)
  refine lv_aload_n hx hb (dck_at tX2_init 11 rfl) rfl (lv_at hl 1 rfl) ?_
  refine va_get (D := D) (ci := 1) (v := .ref q1) (C := RX2) (T := TX2) (N := 3) hx hb hts iX2 hown hK hP 0 rfl rfl 2 (by decide) (hts _ wf_X2_11) (fun _ h9 => h9) rfl (dck_at tX2_init 12 rfl) ?_
  refine lv_iload_n hx hb (dck_at tX2_init 13 rfl) rfl (lv_at hl 0 rfl) ?_
  refine va_new (ci := 0) (fs := [.null, .int 0, .int 0, .int 0, .int 0, .int 0, .int 0, .int 0, .int 0, .null]) (C := RX1) (T := TX1) (N := 10) hx hb hts iX1 tyX1 tyX1_ok hown (hts _ wl_X2_9) (hts _ wb_X1) (hts _ wn_X1) hK hP hD hS hA rfl (fun j hj => by rcases (show j = 0 ∨ j = 1 ∨ j = 2 ∨ j = 3 ∨ j = 4 ∨ j = 5 ∨ j = 6 ∨ j = 7 ∨ j = 8 ∨ j = 9 by omega) with rfl | rfl | rfl | rfl | rfl | rfl | rfl | rfl | rfl | rfl <;> rfl) (Nat.le_of_ble_eq_true rfl) (Nat.le_of_ble_eq_true rfl) (dck_at tX2_init 14 rfl) (fun q6 H hP hD hS => ?_)
  have hP : va_P D classes [(h0, .inr (1, [.int 0, .int 0, .ref q1])), (q1, .inl (c1, 8, .inr (.inr (.inr (.inr (va_up (va_up (fun _ => none) 0 (some q2)) 1 (some q4))))))), (q2, .inr (0, [.ref (u3 0).1, .int 0, .int 0, .int 0, .int 0, .int 0, .int 0, .int 0, .int 0, .ref t0])), ((u3 0).1, .inl ((u3 0).2, 8, .inl (fun _ => 0))), (q4, .inr (0, [.ref (u5 0).1, .int 0, .int 0, .int 0, .int 0, .int 0, .int 0, .int 0, .int 0, .ref t0])), ((u5 0).1, .inl ((u5 0).2, 8, .inl (fun _ => 0))), (q6, .inr (0, [.null, .int 0, .int 0, .int 0, .int 0, .int 0, .int 0, .int 0, .int 0, .null]))] H := hP
  have hD : va_D A [(h0, .inr (1, [.int 0, .int 0, .ref q1])), (q1, .inl (c1, 8, .inr (.inr (.inr (.inr (va_up (va_up (fun _ => none) 0 (some q2)) 1 (some q4))))))), (q2, .inr (0, [.ref (u3 0).1, .int 0, .int 0, .int 0, .int 0, .int 0, .int 0, .int 0, .int 0, .ref t0])), ((u3 0).1, .inl ((u3 0).2, 8, .inl (fun _ => 0))), (q4, .inr (0, [.ref (u5 0).1, .int 0, .int 0, .int 0, .int 0, .int 0, .int 0, .int 0, .int 0, .ref t0])), ((u5 0).1, .inl ((u5 0).2, 8, .inl (fun _ => 0))), (q6, .inr (0, [.null, .int 0, .int 0, .int 0, .int 0, .int 0, .int 0, .int 0, .int 0, .null]))] := hD
  refine W.widen (k := 6) (n := 54) (Nat.le_of_ble_eq_true rfl) (Nat.le_of_ble_eq_true rfl) ?_
  refine lv_dup hx hb (dck_at tX2_init 15 rfl) rfl ?_
  refine lv_aload_n hx hb (dck_at tX2_init 16 rfl) rfl (lv_at hl 2 rfl) ?_
  have hPc := hP.sub (ws' := [(q6, .inr (0, [.null, .int 0, .int 0, .int 0, .int 0, .int 0, .int 0, .int 0, .int 0, .null]))]) [6] rfl
  have hDc := hD.sub (ws' := [(q6, .inr (0, [.null, .int 0, .int 0, .int 0, .int 0, .int 0, .int 0, .int 0, .int 0, .null]))]) [6] (by decide) rfl
  have hKc := hK.sub (tys' := []) [] rfl
  have hFc := va_free (wc := [(q6, .inr (0, [.null, .int 0, .int 0, .int 0, .int 0, .int 0, .int 0, .int 0, .int 0, .null]))]) hD hS hA [6] rfl
  refine va_callv (va_runI (As := [.ref t0]) (rest := [.ref q6, .int 2, .ref q1]) ⟨hx, hb, hml, hown, hts⟩ (k_X1_init l D X0 q6 t0 H.size) (cwI 1 hts (tb_gi (ws := []) (fun w hw => by cases hw) wc_X1_init) rfl rfl rfl (hts _ wn_X1) (hts _ wm_X2_17) (hts _ wi_X1_init) rfl hyX1_init.2 ⟨Nat.le_of_ble_eq_true rfl, Nat.le_of_ble_eq_true rfl⟩) ⟨fun a U g mk q => by obtain ⟨q0, q1, qP, qK, qD, qZ⟩ := q; exact ⟨q0, q1, qP, va_K.moved (u := U) (U := U.calling g mk a) (Vm.Alike.refl U.vm) qK, qD, qZ.calls⟩, fun U hU hW => ⟨rfl, by rw [hU], by rw [hU]; exact hPc, va_K.moved hW.alike hKc, hDc.weaken (fun _ _ _ _ => trivial), hZ.moveA (Nat.le_refl _) hW hS hU hAb (hAb _ (hD.2 6 _ rfl))⟩⟩ rfl rfl hl.1 rfl (lv_room (Nat.le_of_ble_eq_true rfl)) (dck_at tX2_init 17 rfl) ⟨Nat.le_of_ble_eq_true rfl, Nat.le_of_ble_eq_true rfl⟩) hS (fun q _ h => hFc q h) hFc (fun u7 t H1 locs ht hvm hw hB hz1 hk1 hS => ?_)
  obtain ⟨hP1, hK1, hD1⟩ := hB
  rw [ht] at hP1
  have hK1 := va_K.moved hvm.symm hK1
  obtain ⟨hP, hD⟩ := va_join (wr := [(h0, .inr (1, [.int 0, .int 0, .ref q1])), (q1, .inl (c1, 8, .inr (.inr (.inr (.inr (va_up (va_up (fun _ => none) 0 (some q2)) 1 (some q4))))))), (q2, .inr (0, [.ref (u3 0).1, .int 0, .int 0, .int 0, .int 0, .int 0, .int 0, .int 0, .int 0, .ref t0])), ((u3 0).1, .inl ((u3 0).2, 8, .inl (fun _ => 0))), (q4, .inr (0, [.ref (u5 0).1, .int 0, .int 0, .int 0, .int 0, .int 0, .int 0, .int 0, .int 0, .ref t0])), ((u5 0).1, .inl ((u5 0).2, 8, .inl (fun _ => 0)))]) (w1 := [(q6, .inr (0, [.ref (u7 0).1, .int 0, .int 0, .int 0, .int 0, .int 0, .int 0, .int 0, .int 0, .ref t0])), ((u7 0).1, .inl ((u7 0).2, 8, .inl (fun _ => 0)))]) hP hD [6] [0, 1, 2, 3, 4, 5] rfl rfl (by decide) (by decide) hk1 hFc hP1 hD1
  have hK := hK.app hK1
  generalize H1 = H at hP hS ⊢
  have hP : va_P D classes [(h0, .inr (1, [.int 0, .int 0, .ref q1])), (q1, .inl (c1, 8, .inr (.inr (.inr (.inr (va_up (va_up (fun _ => none) 0 (some q2)) 1 (some q4))))))), (q2, .inr (0, [.ref (u3 0).1, .int 0, .int 0, .int 0, .int 0, .int 0, .int 0, .int 0, .int 0, .ref t0])), ((u3 0).1, .inl ((u3 0).2, 8, .inl (fun _ => 0))), (q4, .inr (0, [.ref (u5 0).1, .int 0, .int 0, .int 0, .int 0, .int 0, .int 0, .int 0, .int 0, .ref t0])), ((u5 0).1, .inl ((u5 0).2, 8, .inl (fun _ => 0))), (q6, .inr (0, [.ref (u7 0).1, .int 0, .int 0, .int 0, .int 0, .int 0, .int 0, .int 0, .int 0, .ref t0])), ((u7 0).1, .inl ((u7 0).2, 8, .inl (fun _ => 0)))] H := hP
  have hD : va_D A [(h0, .inr (1, [.int 0, .int 0, .ref q1])), (q1, .inl (c1, 8, .inr (.inr (.inr (.inr (va_up (va_up (fun _ => none) 0 (some q2)) 1 (some q4))))))), (q2, .inr (0, [.ref (u3 0).1, .int 0, .int 0, .int 0, .int 0, .int 0, .int 0, .int 0, .int 0, .ref t0])), ((u3 0).1, .inl ((u3 0).2, 8, .inl (fun _ => 0))), (q4, .inr (0, [.ref (u5 0).1, .int 0, .int 0, .int 0, .int 0, .int 0, .int 0, .int 0, .int 0, .ref t0])), ((u5 0).1, .inl ((u5 0).2, 8, .inl (fun _ => 0))), (q6, .inr (0, [.ref (u7 0).1, .int 0, .int 0, .int 0, .int 0, .int 0, .int 0, .int 0, .int 0, .ref t0])), ((u7 0).1, .inl ((u7 0).2, 8, .inl (fun _ => 0)))] := hD
  have hK : va_K D classes [(c1, .object RX1), ((u3 0).2, .int), ((u5 0).2, .int), ((u7 0).2, .int)] s := hK
  refine W.widen (k := 7) (n := 62) (Nat.le_of_ble_eq_true rfl) (Nat.le_of_ble_eq_true rfl) ?_
  refine va_astq (r := (RX1, TX1, 10)) hx hb hK hP hD hS 1 0 6 0 rfl rfl rfl rfl (by unfold vp_in; decide) (dck_at tX2_init 18 rfl) (fun H locs hP hD hS => ?_)
  have hP : va_P D classes [(h0, .inr (1, [.int 0, .int 0, .ref q1])), (q1, .inl (c1, 8, .inr (.inr (.inr (.inr (va_up (va_up (va_up (fun _ => none) 0 (some q2)) 1 (some q4)) 2 (some q6))))))), (q2, .inr (0, [.ref (u3 0).1, .int 0, .int 0, .int 0, .int 0, .int 0, .int 0, .int 0, .int 0, .ref t0])), ((u3 0).1, .inl ((u3 0).2, 8, .inl (fun _ => 0))), (q4, .inr (0, [.ref (u5 0).1, .int 0, .int 0, .int 0, .int 0, .int 0, .int 0, .int 0, .int 0, .ref t0])), ((u5 0).1, .inl ((u5 0).2, 8, .inl (fun _ => 0))), (q6, .inr (0, [.ref (u7 0).1, .int 0, .int 0, .int 0, .int 0, .int 0, .int 0, .int 0, .int 0, .ref t0])), ((u7 0).1, .inl ((u7 0).2, 8, .inl (fun _ => 0)))] H := hP
  have hD : va_D A [(h0, .inr (1, [.int 0, .int 0, .ref q1])), (q1, .inl (c1, 8, .inr (.inr (.inr (.inr (va_up (va_up (va_up (fun _ => none) 0 (some q2)) 1 (some q4)) 2 (some q6))))))), (q2, .inr (0, [.ref (u3 0).1, .int 0, .int 0, .int 0, .int 0, .int 0, .int 0, .int 0, .int 0, .ref t0])), ((u3 0).1, .inl ((u3 0).2, 8, .inl (fun _ => 0))), (q4, .inr (0, [.ref (u5 0).1, .int 0, .int 0, .int 0, .int 0, .int 0, .int 0, .int 0, .int 0, .ref t0])), ((u5 0).1, .inl ((u5 0).2, 8, .inl (fun _ => 0))), (q6, .inr (0, [.ref (u7 0).1, .int 0, .int 0, .int 0, .int 0, .int 0, .int 0, .int 0, .int 0, .ref t0])), ((u7 0).1, .inl ((u7 0).2, 8, .inl (fun _ => 0)))] := hD
  refine lv_iinc (v := 3) (lv' := [(2, .int 3), (0, .ref h0), (1, .ref t0)]) hx hb (dck_at tX2_init 19 rfl) hl (k := 0) rfl (by decide) (by decide) rfl (fun ls hl => ?_)
  refine lv_goto (tgt := 15) hx hb (dck_at tX2_init 20 rfl) (by decide) ?_
  refine lv_iload_n hx hb (dck_at tX2_init 8 rfl) rfl (lv_at hl 0 rfl) ?_
  refine lv_bipush (v := 8) hx hb (dck_at tX2_init 9 rfl) (by decide) ?_
  refine lv_icmp_ge (tgt := 41) hx hb (dck_at tX2_init 10 rfl) (by decide) (fun c9 => ?_) (fun c9 => ?_)
  · exact absurd c9 (by decide)
  refine lv_aload_n hx hb (dck_at tX2_init 11 rfl) rfl (lv_at hl 1 rfl) ?_
  refine va_get (D := D) (ci := 1) (v := .ref q1) (C := RX2) (T := TX2) (N := 3) hx hb hts iX2 hown hK hP 0 rfl rfl 2 (by decide) (hts _ wf_X2_11) (fun _ h9 => h9) rfl (dck_at tX2_init 12 rfl) ?_
  refine lv_iload_n hx hb (dck_at tX2_init 13 rfl) rfl (lv_at hl 0 rfl) ?_
  refine va_new (ci := 0) (fs := [.null, .int 0, .int 0, .int 0, .int 0, .int 0, .int 0, .int 0, .int 0, .null]) (C := RX1) (T := TX1) (N := 10) hx hb hts iX1 tyX1 tyX1_ok hown (hts _ wl_X2_9) (hts _ wb_X1) (hts _ wn_X1) hK hP hD hS hA rfl (fun j hj => by rcases (show j = 0 ∨ j = 1 ∨ j = 2 ∨ j = 3 ∨ j = 4 ∨ j = 5 ∨ j = 6 ∨ j = 7 ∨ j = 8 ∨ j = 9 by omega) with rfl | rfl | rfl | rfl | rfl | rfl | rfl | rfl | rfl | rfl <;> rfl) (Nat.le_of_ble_eq_true rfl) (Nat.le_of_ble_eq_true rfl) (dck_at tX2_init 14 rfl) (fun q8 H hP hD hS => ?_)
  have hP : va_P D classes [(h0, .inr (1, [.int 0, .int 0, .ref q1])), (q1, .inl (c1, 8, .inr (.inr (.inr (.inr (va_up (va_up (va_up (fun _ => none) 0 (some q2)) 1 (some q4)) 2 (some q6))))))), (q2, .inr (0, [.ref (u3 0).1, .int 0, .int 0, .int 0, .int 0, .int 0, .int 0, .int 0, .int 0, .ref t0])), ((u3 0).1, .inl ((u3 0).2, 8, .inl (fun _ => 0))), (q4, .inr (0, [.ref (u5 0).1, .int 0, .int 0, .int 0, .int 0, .int 0, .int 0, .int 0, .int 0, .ref t0])), ((u5 0).1, .inl ((u5 0).2, 8, .inl (fun _ => 0))), (q6, .inr (0, [.ref (u7 0).1, .int 0, .int 0, .int 0, .int 0, .int 0, .int 0, .int 0, .int 0, .ref t0])), ((u7 0).1, .inl ((u7 0).2, 8, .inl (fun _ => 0))), (q8, .inr (0, [.null, .int 0, .int 0, .int 0, .int 0, .int 0, .int 0, .int 0, .int 0, .null]))] H := hP
  have hD : va_D A [(h0, .inr (1, [.int 0, .int 0, .ref q1])), (q1, .inl (c1, 8, .inr (.inr (.inr (.inr (va_up (va_up (va_up (fun _ => none) 0 (some q2)) 1 (some q4)) 2 (some q6))))))), (q2, .inr (0, [.ref (u3 0).1, .int 0, .int 0, .int 0, .int 0, .int 0, .int 0, .int 0, .int 0, .ref t0])), ((u3 0).1, .inl ((u3 0).2, 8, .inl (fun _ => 0))), (q4, .inr (0, [.ref (u5 0).1, .int 0, .int 0, .int 0, .int 0, .int 0, .int 0, .int 0, .int 0, .ref t0])), ((u5 0).1, .inl ((u5 0).2, 8, .inl (fun _ => 0))), (q6, .inr (0, [.ref (u7 0).1, .int 0, .int 0, .int 0, .int 0, .int 0, .int 0, .int 0, .int 0, .ref t0])), ((u7 0).1, .inl ((u7 0).2, 8, .inl (fun _ => 0))), (q8, .inr (0, [.null, .int 0, .int 0, .int 0, .int 0, .int 0, .int 0, .int 0, .int 0, .null]))] := hD
  refine W.widen (k := 8) (n := 72) (Nat.le_of_ble_eq_true rfl) (Nat.le_of_ble_eq_true rfl) ?_
  refine lv_dup hx hb (dck_at tX2_init 15 rfl) rfl ?_
  refine lv_aload_n hx hb (dck_at tX2_init 16 rfl) rfl (lv_at hl 2 rfl) ?_
  have hPc := hP.sub (ws' := [(q8, .inr (0, [.null, .int 0, .int 0, .int 0, .int 0, .int 0, .int 0, .int 0, .int 0, .null]))]) [8] rfl
  have hDc := hD.sub (ws' := [(q8, .inr (0, [.null, .int 0, .int 0, .int 0, .int 0, .int 0, .int 0, .int 0, .int 0, .null]))]) [8] (by decide) rfl
  have hKc := hK.sub (tys' := []) [] rfl
  have hFc := va_free (wc := [(q8, .inr (0, [.null, .int 0, .int 0, .int 0, .int 0, .int 0, .int 0, .int 0, .int 0, .null]))]) hD hS hA [8] rfl
  refine va_callv (va_runI (As := [.ref t0]) (rest := [.ref q8, .int 3, .ref q1]) ⟨hx, hb, hml, hown, hts⟩ (k_X1_init l D X0 q8 t0 H.size) (cwI 1 hts (tb_gi (ws := []) (fun w hw => by cases hw) wc_X1_init) rfl rfl rfl (hts _ wn_X1) (hts _ wm_X2_17) (hts _ wi_X1_init) rfl hyX1_init.2 ⟨Nat.le_of_ble_eq_true rfl, Nat.le_of_ble_eq_true rfl⟩) ⟨fun a U g mk q => by obtain ⟨q0, q1, qP, qK, qD, qZ⟩ := q; exact ⟨q0, q1, qP, va_K.moved (u := U) (U := U.calling g mk a) (Vm.Alike.refl U.vm) qK, qD, qZ.calls⟩, fun U hU hW => ⟨rfl, by rw [hU], by rw [hU]; exact hPc, va_K.moved hW.alike hKc, hDc.weaken (fun _ _ _ _ => trivial), hZ.moveA (Nat.le_refl _) hW hS hU hAb (hAb _ (hD.2 8 _ rfl))⟩⟩ rfl rfl hl.1 rfl (lv_room (Nat.le_of_ble_eq_true rfl)) (dck_at tX2_init 17 rfl) ⟨Nat.le_of_ble_eq_true rfl, Nat.le_of_ble_eq_true rfl⟩) hS (fun q _ h => hFc q h) hFc (fun u9 t H1 locs ht hvm hw hB hz1 hk1 hS => ?_)
  obtain ⟨hP1, hK1, hD1⟩ := hB
  rw [ht] at hP1
  have hK1 := va_K.moved hvm.symm hK1
  obtain ⟨hP, hD⟩ := va_join (wr := [(h0, .inr (1, [.int 0, .int 0, .ref q1])), (q1, .inl (c1, 8, .inr (.inr (.inr (.inr (va_up (va_up (va_up (fun _ => none) 0 (some q2)) 1 (some q4)) 2 (some q6))))))), (q2, .inr (0, [.ref (u3 0).1, .int 0, .int 0, .int 0, .int 0, .int 0, .int 0, .int 0, .int 0, .ref t0])), ((u3 0).1, .inl ((u3 0).2, 8, .inl (fun _ => 0))), (q4, .inr (0, [.ref (u5 0).1, .int 0, .int 0, .int 0, .int 0, .int 0, .int 0, .int 0, .int 0, .ref t0])), ((u5 0).1, .inl ((u5 0).2, 8, .inl (fun _ => 0))), (q6, .inr (0, [.ref (u7 0).1, .int 0, .int 0, .int 0, .int 0, .int 0, .int 0, .int 0, .int 0, .ref t0])), ((u7 0).1, .inl ((u7 0).2, 8, .inl (fun _ => 0)))]) (w1 := [(q8, .inr (0, [.ref (u9 0).1, .int 0, .int 0, .int 0, .int 0, .int 0, .int 0, .int 0, .int 0, .ref t0])), ((u9 0).1, .inl ((u9 0).2, 8, .inl (fun _ => 0)))]) hP hD [8] [0, 1, 2, 3, 4, 5, 6, 7] rfl rfl (by decide) (by decide) hk1 hFc hP1 hD1
  have hK := hK.app hK1
  generalize H1 = H at hP hS ⊢
  have hP : va_P D classes [(h0, .inr (1, [.int 0, .int 0, .ref q1])), (q1, .inl (c1, 8, .inr (.inr (.inr (.inr (va_up (va_up (va_up (fun _ => none) 0 (some q2)) 1 (some q4)) 2 (some q6))))))), (q2, .inr (0, [.ref (u3 0).1, .int 0, .int 0, .int 0, .int 0, .int 0, .int 0, .int 0, .int 0, .ref t0])), ((u3 0).1, .inl ((u3 0).2, 8, .inl (fun _ => 0))), (q4, .inr (0, [.ref (u5 0).1, .int 0, .int 0, .int 0, .int 0, .int 0, .int 0, .int 0, .int 0, .ref t0])), ((u5 0).1, .inl ((u5 0).2, 8, .inl (fun _ => 0))), (q6, .inr (0, [.ref (u7 0).1, .int 0, .int 0, .int 0, .int 0, .int 0, .int 0, .int 0, .int 0, .ref t0])), ((u7 0).1, .inl ((u7 0).2, 8, .inl (fun _ => 0))), (q8, .inr (0, [.ref (u9 0).1, .int 0, .int 0, .int 0, .int 0, .int 0, .int 0, .int 0, .int 0, .ref t0])), ((u9 0).1, .inl ((u9 0).2, 8, .inl (fun _ => 0)))] H := hP
  have hD : va_D A [(h0, .inr (1, [.int 0, .int 0, .ref q1])), (q1, .inl (c1, 8, .inr (.inr (.inr (.inr (va_up (va_up (va_up (fun _ => none) 0 (some q2)) 1 (some q4)) 2 (some q6))))))), (q2, .inr (0, [.ref (u3 0).1, .int 0, .int 0, .int 0, .int 0, .int 0, .int 0, .int 0, .int 0, .ref t0])), ((u3 0).1, .inl ((u3 0).2, 8, .inl (fun _ => 0))), (q4, .inr (0, [.ref (u5 0).1, .int 0, .int 0, .int 0, .int 0, .int 0, .int 0, .int 0, .int 0, .ref t0])), ((u5 0).1, .inl ((u5 0).2, 8, .inl (fun _ => 0))), (q6, .inr (0, [.ref (u7 0).1, .int 0, .int 0, .int 0, .int 0, .int 0, .int 0, .int 0, .int 0, .ref t0])), ((u7 0).1, .inl ((u7 0).2, 8, .inl (fun _ => 0))), (q8, .inr (0, [.ref (u9 0).1, .int 0, .int 0, .int 0, .int 0, .int 0, .int 0, .int 0, .int 0, .ref t0])), ((u9 0).1, .inl ((u9 0).2, 8, .inl (fun _ => 0)))] := hD
  have hK : va_K D classes [(c1, .object RX1), ((u3 0).2, .int), ((u5 0).2, .int), ((u7 0).2, .int), ((u9 0).2, .int)] s := hK
  refine W.widen (k := 9) (n := 80) (Nat.le_of_ble_eq_true rfl) (Nat.le_of_ble_eq_true rfl) ?_
  refine va_astq (r := (RX1, TX1, 10)) hx hb hK hP hD hS 1 0 8 0 rfl rfl rfl rfl (by unfold vp_in; decide) (dck_at tX2_init 18 rfl) (fun H locs hP hD hS => ?_)
  have hP : va_P D classes [(h0, .inr (1, [.int 0, .int 0, .ref q1])), (q1, .inl (c1, 8, .inr (.inr (.inr (.inr (va_up (va_up (va_up (va_up (fun _ => none) 0 (some q2)) 1 (some q4)) 2 (some q6)) 3 (some q8))))))), (q2, .inr (0, [.ref (u3 0).1, .int 0, .int 0, .int 0, .int 0, .int 0, .int 0, .int 0, .int 0, .ref t0])), ((u3 0).1, .inl ((u3 0).2, 8, .inl (fun _ => 0))), (q4, .inr (0, [.ref (u5 0).1, .int 0, .int 0, .int 0, .int 0, .int 0, .int 0, .int 0, .int 0, .ref t0])), ((u5 0).1, .inl ((u5 0).2, 8, .inl (fun _ => 0))), (q6, .inr (0, [.ref (u7 0).1, .int 0, .int 0, .int 0, .int 0, .int 0, .int 0, .int 0, .int 0, .ref t0])), ((u7 0).1, .inl ((u7 0).2, 8, .inl (fun _ => 0))), (q8, .inr (0, [.ref (u9 0).1, .int 0, .int 0, .int 0, .int 0, .int 0, .int 0, .int 0, .int 0, .ref t0])), ((u9 0).1, .inl ((u9 0).2, 8, .inl (fun _ => 0)))] H := hP
  have hD : va_D A [(h0, .inr (1, [.int 0, .int 0, .ref q1])), (q1, .inl (c1, 8, .inr (.inr (.inr (.inr (va_up (va_up (va_up (va_up (fun _ => none) 0 (some q2)) 1 (some q4)) 2 (some q6)) 3 (some q8))))))), (q2, .inr (0, [.ref (u3 0).1, .int 0, .int 0, .int 0, .int 0, .int 0, .int 0, .int 0, .int 0, .ref t0])), ((u3 0).1, .inl ((u3 0).2, 8, .inl (fun _ => 0))), (q4, .inr (0, [.ref (u5 0).1, .int 0, .int 0, .int 0, .int 0, .int 0, .int 0, .int 0, .int 0, .ref t0])), ((u5 0).1, .inl ((u5 0).2, 8, .inl (fun _ => 0))), (q6, .inr (0, [.ref (u7 0).1, .int 0, .int 0, .int 0, .int 0, .int 0, .int 0, .int 0, .int 0, .ref t0])), ((u7 0).1, .inl ((u7 0).2, 8, .inl (fun _ => 0))), (q8, .inr (0, [.ref (u9 0).1, .int 0, .int 0, .int 0, .int 0, .int 0, .int 0, .int 0, .int 0, .ref t0])), ((u9 0).1, .inl ((u9 0).2, 8, .inl (fun _ => 0)))] := hD
  refine lv_iinc (v := 4) (lv' := [(2, .int 4), (0, .ref h0), (1, .ref t0)]) hx hb (dck_at tX2_init 19 rfl) hl (k := 0) rfl (by decide) (by decide) rfl (fun ls hl => ?_)
  refine lv_goto (tgt := 15) hx hb (dck_at tX2_init 20 rfl) (by decide) ?_
  refine lv_iload_n hx hb (dck_at tX2_init 8 rfl) rfl (lv_at hl 0 rfl) ?_
  refine lv_bipush (v := 8) hx hb (dck_at tX2_init 9 rfl) (by decide) ?_
  refine lv_icmp_ge (tgt := 41) hx hb (dck_at tX2_init 10 rfl) (by decide) (fun c9 => ?_) (fun c9 => ?_)
  · exact absurd c9 (by decide)
  refine lv_aload_n hx hb (dck_at tX2_init 11 rfl) rfl (lv_at hl 1 rfl) ?_
  refine va_get (D := D) (ci := 1) (v := .ref q1) (C := RX2) (T := TX2) (N := 3) hx hb hts iX2 hown hK hP 0 rfl rfl 2 (by decide) (hts _ wf_X2_11) (fun _ h9 => h9) rfl (dck_at tX2_init 12 rfl) ?_
  refine lv_iload_n hx hb (dck_at tX2_init 13 rfl) rfl (lv_at hl 0 rfl) ?_
  refine va_new (ci := 0) (fs := [.null, .int 0, .int 0, .int 0, .int 0, .int 0, .int 0, .int 0, .int 0, .null]) (C := RX1) (T := TX1) (N := 10) hx hb hts iX1 tyX1 tyX1_ok hown (hts _ wl_X2_9) (hts _ wb_X1) (hts _ wn_X1) hK hP hD hS hA rfl (fun j hj => by rcases (show j = 0 ∨ j = 1 ∨ j = 2 ∨ j = 3 ∨ j = 4 ∨ j = 5 ∨ j = 6 ∨ j = 7 ∨ j = 8 ∨ j = 9 by omega) with rfl | rfl | rfl | rfl | rfl | rfl | rfl | rfl | rfl | rfl <;> rfl) (Nat.le_of_ble_eq_true rfl) (Nat.le_of_ble_eq_true rfl) (dck_at tX2_init 14 rfl) (fun q10 H hP hD hS => ?_)
  have hP : va_P D classes [(h0, .inr (1, [.int 0, .int 0, .ref q1])), (q1, .inl (c1, 8, .inr (.inr (.inr (.inr (va_up (va_up (va_up (va_up (fun _ => none) 0 (some q2)) 1 (some q4)) 2 (some q6)) 3 (some q8))))))), (q2, .inr (0, [.ref (u3 0).1, .int 0, .int 0, .int 0, .int 0, .int 0, .int 0, .int 0, .int 0, .ref t0])), ((u3 0).1, .inl ((u3 0).2, 8, .inl (fun _ => 0))), (q4, .inr (0, [.ref (u5 0).1, .int 0, .int 0, .int 0, .int 0, .int 0, .int 0, .int 0, .int 0, .ref t0])), ((u5 0).1, .inl ((u5 0).2, 8, .inl (fun _ => 0))), (q6, .inr (0, [.ref (u7 0).1, .int 0, .int 0, .int 0, .int 0, .int 0, .int 0, .int 0, .int 0, .ref t0])), ((u7 0).1, .inl ((u7 0).2, 8, .inl (fun _ => 0))), (q8, .inr (0, [.ref (u9 0).1, .int 0, .int 0, .int 0, .int 0, .int 0, .int 0, .int 0, .int 0, .ref t0])), ((u9 0).1, .inl ((u9 0).2, 8, .inl (fun _ => 0))), (q10, .inr (0, [.null, .int 0, .int 0, .int 0, .int 0, .int 0, .int 0, .int 0, .int 0, .null]))] H := hP
  have hD : va_D A [(h0, .inr (1, [.int 0, .int 0, .ref q1])), (q1, .inl (c1, 8, .inr (.inr (.inr (.inr (va_up (va_up (va_up (va_up (fun _ => none) 0 (some q2)) 1 (some q4)) 2 (some q6)) 3 (some q8))))))), (q2, .inr (0, [.ref (u3 0).1, .int 0, .int 0, .int 0, .int 0, .int 0, .int 0, .int 0, .int 0, .ref t0])), ((u3 0).1, .inl ((u3 0).2, 8, .inl (fun _ => 0))), (q4, .inr (0, [.ref (u5 0).1, .int 0, .int 0, .int 0, .int 0, .int 0, .int 0, .int 0, .int 0, .ref t0])), ((u5 0).1, .inl ((u5 0).2, 8, .inl (fun _ => 0))), (q6, .inr (0, [.ref (u7 0).1, .int 0, .int 0, .int 0, .int 0, .int 0, .int 0, .int 0, .int 0, .ref t0])), ((u7 0).1, .inl ((u7 0).2, 8, .inl (fun _ => 0))), (q8, .inr (0, [.ref (u9 0).1, .int 0, .int 0, .int 0, .int 0, .int 0, .int 0, .int 0, .int 0, .ref t0])), ((u9 0).1, .inl ((u9 0).2, 8, .inl (fun _ => 0))), (q10, .inr (0, [.null, .int 0, .int 0, .int 0, .int 0, .int 0, .int 0, .int 0, .int 0, .null]))] := hD
  refine W.widen (k := 10) (n := 90) (Nat.le_of_ble_eq_true rfl) (Nat.le_of_ble_eq_true rfl) ?_
  refine lv_dup hx hb (dck_at tX2_init 15 rfl) rfl ?_
  refine lv_aload_n hx hb (dck_at tX2_init 16 rfl) rfl (lv_at hl 2 rfl) ?_
  have hPc := hP.sub (ws' := [(q10, .inr (0, [.null, .int 0, .int 0, .int 0, .int 0, .int 0, .int 0, .int 0, .int 0, .null]))]) [10] rfl
  have hDc := hD.sub (ws' := [(q10, .inr (0, [.null, .int 0, .int 0, .int 0, .int 0, .int 0, .int 0, .int 0, .int 0, .null]))]) [10] (by decide) rfl
  have hKc := hK.sub (tys' := []) [] rfl
  have hFc := va_free (wc := [(q10, .inr (0, [.null, .int 0, .int 0, .int 0, .int 0, .int 0, .int 0, .int 0, .int 0, .null]))]) hD hS hA [10] rfl
  refine va_callv (va_runI (As := [.ref t0]) (rest := [.ref q10, .int 4, .ref q1]) ⟨hx, hb, hml, hown, hts⟩ (k_X1_init l D X0 q10 t0 H.size) (cwI 1 hts (tb_gi (ws := []) (fun w hw => by cases hw) wc_X1_init) rfl rfl rfl (hts _ wn_X1) (hts _ wm_X2_17) (hts _ wi_X1_init) rfl hyX1_init.2 ⟨Nat.le_of_ble_eq_true rfl, Nat.le_of_ble_eq_true rfl⟩) ⟨fun a U g mk q => by obtain ⟨q0, q1, qP, qK, qD, qZ⟩ := q; exact ⟨q0, q1, qP, va_K.moved (u := U) (U := U.calling g mk a) (Vm.Alike.refl U.vm) qK, qD, qZ.calls⟩, fun U hU hW => ⟨rfl, by rw [hU], by rw [hU]; exact hPc, va_K.moved hW.alike hKc, hDc.weaken (fun _ _ _ _ => trivial), hZ.moveA (Nat.le_refl _) hW hS hU hAb (hAb _ (hD.2 10 _ rfl))⟩⟩ rfl rfl hl.1 rfl (lv_room (Nat.le_of_ble_eq_true rfl)) (dck_at tX2_init 17 rfl) ⟨Nat.le_of_ble_eq_true rfl, Nat.le_of_ble_eq_true rfl⟩) hS (fun q _ h => hFc q h) hFc (fun u11 t H1 locs ht hvm hw hB hz1 hk1 hS => ?_)
  obtain ⟨hP1, hK1, hD1⟩ := hB
  rw [ht] at hP1
  have hK1 := va_K.moved hvm.symm hK1
  obtain ⟨hP, hD⟩ := va_join (wr := [(h0, .inr (1, [.int 0, .int 0, .ref q1])), (q1, .inl (c1, 8, .inr (.inr (.inr (.inr (va_up (va_up (va_up (va_up (fun _ => none) 0 (some q2)) 1 (some q4)) 2 (some q6)) 3 (some q8))))))), (q2, .inr (0, [.ref (u3 0).1, .int 0, .int 0, .int 0, .int 0, .int 0, .int 0, .int 0, .int 0, .ref t0])), ((u3 0).1, .inl ((u3 0).2, 8, .inl (fun _ => 0))), (q4, .inr (0, [.ref (u5 0).1, .int 0, .int 0, .int 0, .int 0, .int 0, .int 0, .int 0, .int 0, .ref t0])), ((u5 0).1, .inl ((u5 0).2, 8, .inl (fun _ => 0))), (q6, .inr (0, [.ref (u7 0).1, .int 0, .int 0, .int 0, .int 0, .int 0, .int 0, .int 0, .int 0, .ref t0])), ((u7 0).1, .inl ((u7 0).2, 8, .inl (fun _ => 0))), (q8, .inr (0, [.ref (u9 0).1, .int 0, .int 0, .int 0, .int 0, .int 0, .int 0, .int 0, .int 0, .ref t0])), ((u9 0).1, .inl ((u9 0).2, 8, .inl (fun _ => 0)))]) (w1 := [(q10, .inr (0, [.ref (u11 0).1, .int 0, .int 0, .int 0, .int 0, .int 0, .int 0, .int 0, .int 0, .ref t0])), ((u11 0).1, .inl ((u11 0).2, 8, .inl (fun _ => 0)))]) hP hD [10] [0, 1, 2, 3, 4, 5, 6, 7, 8, 9] rfl rfl (by decide) (by decide) hk1 hFc hP1 hD1
  have hK := hK.app hK1
  generalize H1 = H at hP hS ⊢
  have hP : va_P D classes [(h0, .inr (1, [.int 0, .int 0, .ref q1])), (q1, .inl (c1, 8, .inr (.inr (.inr (.inr (va_up (va_up (va_up (va_up (fun _ => none) 0 (some q2)) 1 (some q4)) 2 (some q6)) 3 (some q8))))))), (q2, .inr (0, [.ref (u3 0).1, .int 0, .int 0, .int 0, .int 0, .int 0, .int 0, .int 0, .int 0, .ref t0])), ((u3 0).1, .inl ((u3 0).2, 8, .inl (fun _ => 0))), (q4, .inr (0, [.ref (u5 0).1, .int 0, .int 0, .int 0, .int 0, .int 0, .int 0, .int 0, .int 0, .ref t0])), ((u5 0).1, .inl ((u5 0).2, 8, .inl (fun _ => 0))), (q6, .inr (0, [.ref (u7 0).1, .int 0, .int 0, .int 0, .int 0, .int 0, .int 0, .int 0, .int 0, .ref t0])), ((u7 0).1, .inl ((u7 0).2, 8, .inl (fun _ => 0))), (q8, .inr (0, [.ref (u9 0).1, .int 0, .int 0, .int 0, .int 0, .int 0, .int 0, .int 0, .int 0, .ref t0])), ((u9 0).1, .inl ((u9 0).2, 8, .inl (fun _ => 0))), (q10, .inr (0, [.ref (u11 0).1, .int 0, .int 0, .int 0, .int 0, .int 0, .int 0, .int 0, .int 0, .ref t0])), ((u11 0).1, .inl ((u11 0).2, 8, .inl (fun _ => 0)))] H := hP
  have hD : va_D A [(h0, .inr (1, [.int 0, .int 0, .ref q1])), (q1, .inl (c1, 8, .inr (.inr (.inr (.inr (va_up (va_up (va_up (va_up (fun _ => none) 0 (some q2)) 1 (some q4)) 2 (some q6)) 3 (some q8))))))), (q2, .inr (0, [.ref (u3 0).1, .int 0, .int 0, .int 0, .int 0, .int 0, .int 0, .int 0, .int 0, .ref t0])), ((u3 0).1, .inl ((u3 0).2, 8, .inl (fun _ => 0))), (q4, .inr (0, [.ref (u5 0).1, .int 0, .int 0, .int 0, .int 0, .int 0, .int 0, .int 0, .int 0, .ref t0])), ((u5 0).1, .inl ((u5 0).2, 8, .inl (fun _ => 0))), (q6, .inr (0, [.ref (u7 0).1, .int 0, .int 0, .int 0, .int 0, .int 0, .int 0, .int 0, .int 0, .ref t0])), ((u7 0).1, .inl ((u7 0).2, 8, .inl (fun _ => 0))), (q8, .inr (0, [.ref (u9 0).1, .int 0, .int 0, .int 0, .int 0, .int 0, .int 0, .int 0, .int 0, .ref t0])), ((u9 0).1, .inl ((u9 0).2, 8, .inl (fun _ => 0))), (q10, .inr (0, [.ref (u11 0).1, .int 0, .int 0, .int 0, .int 0, .int 0, .int 0, .int 0, .int 0, .ref t0])), ((u11 0).1, .inl ((u11 0).2, 8, .inl (fun _ => 0)))] := hD
  have hK : va_K D classes [(c1, .object RX1), ((u3 0).2, .int), ((u5 0).2, .int), ((u7 0).2, .int), ((u9 0).2, .int), ((u11 0).2, .int)] s := hK
  refine W.widen (k := 11) (n := 98) (Nat.le_of_ble_eq_true rfl) (Nat.le_of_ble_eq_true rfl) ?_
  refine va_astq (r := (RX1, TX1, 10)) hx hb hK hP hD hS 1 0 10 0 rfl rfl rfl rfl (by unfold vp_in; decide) (dck_at tX2_init 18 rfl) (fun H locs hP hD hS => ?_)
  have hP : va_P D classes [(h0, .inr (1, [.int 0, .int 0, .ref q1])), (q1, .inl (c1, 8, .inr (.inr (.inr (.inr (va_up (va_up (va_up (va_up (va_up (fun _ => none) 0 (some q2)) 1 (some q4)) 2 (some q6)) 3 (some q8)) 4 (some q10))))))), (q2, .inr (0, [.ref (u3 0).1, .int 0, .int 0, .int 0, .int 0, .int 0, .int 0, .int 0, .int 0, .ref t0])), ((u3 0).1, .inl ((u3 0).2, 8, .inl (fun _ => 0))), (q4, .inr (0, [.ref (u5 0).1, .int 0, .int 0, .int 0, .int 0, .int 0, .int 0, .int 0, .int 0, .ref t0])), ((u5 0).1, .inl ((u5 0).2, 8, .inl (fun _ => 0))), (q6, .inr (0, [.ref (u7 0).1, .int 0, .int 0, .int 0, .int 0, .int 0, .int 0, .int 0, .int 0, .ref t0])), ((u7 0).1, .inl ((u7 0).2, 8, .inl (fun _ => 0))), (q8, .inr (0, [.ref (u9 0).1, .int 0, .int 0, .int 0, .int 0, .int 0, .int 0, .int 0, .int 0, .ref t0])), ((u9 0).1, .inl ((u9 0).2, 8, .inl (fun _ => 0))), (q10, .inr (0, [.ref (u11 0).1, .int 0, .int 0, .int 0, .int 0, .int 0, .int 0, .int 0, .int 0, .ref t0])), ((u11 0).1, .inl ((u11 0).2, 8, .inl (fun _ => 0)))] H := hP
  have hD : va_D A [(h0, .inr (1, [.int 0, .int 0, .ref q1])), (q1, .inl (c1, 8, .inr (.inr (.inr (.inr (va_up (va_up (va_up (va_up (va_up (fun _ => none) 0 (some q2)) 1 (some q4)) 2 (some q6)) 3 (some q8)) 4 (some q10))))))), (q2, .inr (0, [.ref (u3 0).1, .int 0, .int 0, .int 0, .int 0, .int 0, .int 0, .int 0, .int 0, .ref t0])), ((u3 0).1, .inl ((u3 0).2, 8, .inl (fun _ => 0))), (q4, .inr (0, [.ref (u5 0).1, .int 0, .int 0, .int 0, .int 0, .int 0, .int 0, .int 0, .int 0, .ref t0])), ((u5 0).1, .inl ((u5 0).2, 8, .inl (fun _ => 0))), (q6, .inr (0, [.ref (u7 0).1, .int 0, .int 0, .int 0, .int 0, .int 0, .int 0, .int 0, .int 0, .ref t0])), ((u7 0).1, .inl ((u7 0).2, 8, .inl (fun _ => 0))), (q8, .inr (0, [.ref (u9 0).1, .int 0, .int 0, .int 0, .int 0, .int 0, .int 0, .int 0, .int 0, .ref t0])), ((u9 0).1, .inl ((u9 0).2, 8, .inl (fun _ => 0))), (q10, .inr (0, [.ref (u11 0).1, .int 0, .int 0, .int 0, .int 0, .int 0, .int 0, .int 0, .int 0, .ref t0])), ((u11 0).1, .inl ((u11 0).2, 8, .inl (fun _ => 0)))] := hD
  refine lv_iinc (v := 5) (lv' := [(2, .int 5), (0, .ref h0), (1, .ref t0)]) hx hb (dck_at tX2_init 19 rfl) hl (k := 0) rfl (by decide) (by decide) rfl (fun ls hl => ?_)
  refine lv_goto (tgt := 15) hx hb (dck_at tX2_init 20 rfl) (by decide) ?_
  refine lv_iload_n hx hb (dck_at tX2_init 8 rfl) rfl (lv_at hl 0 rfl) ?_
  refine lv_bipush (v := 8) hx hb (dck_at tX2_init 9 rfl) (by decide) ?_
  refine lv_icmp_ge (tgt := 41) hx hb (dck_at tX2_init 10 rfl) (by decide) (fun c9 => ?_) (fun c9 => ?_)
  · exact absurd c9 (by decide)
  refine lv_aload_n hx hb (dck_at tX2_init 11 rfl) rfl (lv_at hl 1 rfl) ?_
  refine va_get (D := D) (ci := 1) (v := .ref q1) (C := RX2) (T := TX2) (N := 3) hx hb hts iX2 hown hK hP 0 rfl rfl 2 (by decide) (hts _ wf_X2_11) (fun _ h9 => h9) rfl (dck_at tX2_init 12 rfl) ?_
  refine lv_iload_n hx hb (dck_at tX2_init 13 rfl) rfl (lv_at hl 0 rfl) ?_
  refine va_new (ci := 0) (fs := [.null, .int 0, .int 0, .int 0, .int 0, .int 0, .int 0, .int 0, .int 0, .null]) (C := RX1) (T := TX1) (N := 10) hx hb hts iX1 tyX1 tyX1_ok hown (hts _ wl_X2_9) (hts _ wb_X1) (hts _ wn_X1) hK hP hD hS hA rfl (fun j hj => by rcases (show j = 0 ∨ j = 1 ∨ j = 2 ∨ j = 3 ∨ j = 4 ∨ j = 5 ∨ j = 6 ∨ j = 7 ∨ j = 8 ∨ j = 9 by omega) with rfl | rfl | rfl | rfl | rfl | rfl | rfl | rfl | rfl | rfl <;> rfl) (Nat.le_of_ble_eq_true rfl) (Nat.le_of_ble_eq_true rfl) (dck_at tX2_init 14 rfl) (fun q12 H hP hD hS => ?_)
  have hP : va_P D classes [(h0, .inr (1, [.int 0, .int 0, .ref q1])), (q1, .inl (c1, 8, .inr (.inr (.inr (.inr (va_up (va_up (va_up (va_up (va_up (fun _ => none) 0 (some q2)) 1 (some q4)) 2 (some q6)) 3 (some q8)) 4 (some q10))))))), (q2, .inr (0, [.ref (u3 0).1, .int 0, .int 0, .int 0, .int 0, .int 0, .int 0, .int 0, .int 0, .ref t0])), ((u3 0).1, .inl ((u3 0).2, 8, .inl (fun _ => 0))), (q4, .inr (0, [.ref (u5 0).1, .int 0, .int 0, .int 0, .int 0, .int 0, .int 0, .int 0, .int 0, .ref t0])), ((u5 0).1, .inl ((u5 0).2, 8, .inl (fun _ => 0))), (q6, .inr (0, [.ref (u7 0).1, .int 0, .int 0, .int 0, .int 0, .int 0, .int 0, .int 0, .int 0, .ref t0])), ((u7 0).1, .inl ((u7 0).2, 8, .inl (fun _ => 0))), (q8, .inr (0, [.ref (u9 0).1, .int 0, .int 0, .int 0, .int 0, .int 0, .int 0, .int 0, .int 0, .ref t0])), ((u9 0).1, .inl ((u9 0).2, 8, .inl (fun _ => 0))), (q10, .inr (0, [.ref (u11 0).1, .int 0, .int 0, .int 0, .int 0, .int 0, .int 0, .int 0, .int 0, .ref t0])), ((u11 0).1, .inl ((u11 0).2, 8, .inl (fun _ => 0))), (q12, .inr (0, [.null, .int 0, .int 0, .int 0, .int 0, .int 0, .int 0, .int 0, .int 0, .null]))] H := hP
  have hD : va_D A [(h0, .inr (1, [.int 0, .int 0, .ref q1])), (q1, .inl (c1, 8, .inr (.inr (.inr (.inr (va_up (va_up (va_up (va_up (va_up (fun _ => none) 0 (some q2)) 1 (some q4)) 2 (some q6)) 3 (some q8)) 4 (some q10))))))), (q2, .inr (0, [.ref (u3 0).1, .int 0, .int 0, .int 0, .int 0, .int 0, .int 0, .int 0, .int 0, .ref t0])), ((u3 0).1, .inl ((u3 0).2, 8, .inl (fun _ => 0))), (q4, .inr (0, [.ref (u5 0).1, .int 0, .int 0, .int 0, .int 0, .int 0, .int 0, .int 0, .int 0, .ref t0])), ((u5 0).1, .inl ((u5 0).2, 8, .inl (fun _ => 0))), (q6, .inr (0, [.ref (u7 0).1, .int 0, .int 0, .int 0, .int 0, .int 0, .int 0, .int 0, .int 0, .ref t0])), ((u7 0).1, .inl ((u7 0).2, 8, .inl (fun _ => 0))), (q8, .inr (0, [.ref (u9 0).1, .int 0, .int 0, .int 0, .int 0, .int 0, .int 0, .int 0, .int 0, .ref t0])), ((u9 0).1, .inl ((u9 0).2, 8, .inl (fun _ => 0))), (q10, .inr (0, [.ref (u11 0).1, .int 0, .int 0, .int 0, .int 0, .int 0, .int 0, .int 0, .int 0, .ref t0])), ((u11 0).1, .inl ((u11 0).2, 8, .inl (fun _ => 0))), (q12, .inr (0, [.null, .int 0, .int 0, .int 0, .int 0, .int 0, .int 0, .int 0, .int 0, .null]))] := hD
  refine W.widen (k := 12) (n := 108) (Nat.le_of_ble_eq_true rfl) (Nat.le_of_ble_eq_true rfl) ?_
  refine lv_dup hx hb (dck_at tX2_init 15 rfl) rfl ?_
  refine lv_aload_n hx hb (dck_at tX2_init 16 rfl) rfl (lv_at hl 2 rfl) ?_
  have hPc := hP.sub (ws' := [(q12, .inr (0, [.null, .int 0, .int 0, .int 0, .int 0, .int 0, .int 0, .int 0, .int 0, .null]))]) [12] rfl
  have hDc := hD.sub (ws' := [(q12, .inr (0, [.null, .int 0, .int 0, .int 0, .int 0, .int 0, .int 0, .int 0, .int 0, .null]))]) [12] (by decide) rfl
  have hKc := hK.sub (tys' := []) [] rfl
  have hFc := va_free (wc := [(q12, .inr (0, [.null, .int 0, .int 0, .int 0, .int 0, .int 0, .int 0, .int 0, .int 0, .null]))]) hD hS hA [12] rfl
  refine va_callv (va_runI (As := [.ref t0]) (rest := [.ref q12, .int 5, .ref q1]) ⟨hx, hb, hml, hown, hts⟩ (k_X1_init l D X0 q12 t0 H.size) (cwI 1 hts (tb_gi (ws := []) (fun w hw => by cases hw) wc_X1_init) rfl rfl rfl (hts _ wn_X1) (hts _ wm_X2_17) (hts _ wi_X1_init) rfl hyX1_init.2 ⟨Nat.le_of_ble_eq_true rfl, Nat.le_of_ble_eq_true rfl⟩) ⟨fun a U g mk q => by obtain ⟨q0, q1, qP, qK, qD, qZ⟩ := q; exact ⟨q0, q1, qP, va_K.moved (u := U) (U := U.calling g mk a) (Vm.Alike.refl U.vm) qK, qD, qZ.calls⟩, fun U hU hW => ⟨rfl, by rw [hU], by rw [hU]; exact hPc, va_K.moved hW.alike hKc, hDc.weaken (fun _ _ _ _ => trivial), hZ.moveA (Nat.le_refl _) hW hS hU hAb (hAb _ (hD.2 12 _ rfl))⟩⟩ rfl rfl hl.1 rfl (lv_room (Nat.le_of_ble_eq_true rfl)) (dck_at tX2_init 17 rfl) ⟨Nat.le_of_ble_eq_true rfl, Nat.le_of_ble_eq_true rfl⟩) hS (fun q _ h => hFc q h) hFc (fun u13 t H1 locs ht hvm hw hB hz1 hk1 hS => ?_)
  obtain ⟨hP1, hK1, hD1⟩ := hB
  rw [ht] at hP1
  have hK1 := va_K.moved hvm.symm hK1
  obtain ⟨hP, hD⟩ := va_join (wr := [(h0, .inr (1, [.int 0, .int 0, .ref q1])), (q1, .inl (c1, 8, .inr (.inr (.inr (.inr (va_up (va_up (va_up (va_up (va_up (fun _ => none) 0 (some q2)) 1 (some q4)) 2 (some q6)) 3 (some q8)) 4 (some q10))))))), (q2, .inr (0, [.ref (u3 0).1, .int 0, .int 0, .int 0, .int 0, .int 0, .int 0, .int 0, .int 0, .ref t0])), ((u3 0).1, .inl ((u3 0).2, 8, .inl (fun _ => 0))), (q4, .inr (0, [.ref (u5 0).1, .int 0, .int 0, .int 0, .int 0, .int 0, .int 0, .int 0, .int 0, .ref t0])), ((u5 0).1, .inl ((u5 0).2, 8, .inl (fun _ => 0))), (q6, .inr (0, [.ref (u7 0).1, .int 0, .int 0, .int 0, .int 0, .int 0, .int 0, .int 0, .int 0, .ref t0])), ((u7 0).1, .inl ((u7 0).2, 8, .inl (fun _ => 0))), (q8, .inr (0, [.ref (u9 0).1, .int 0, .int 0, .int 0, .int 0, .int 0, .int 0, .int 0, .int 0, .ref t0])), ((u9 0).1, .inl ((u9 0).2, 8, .inl (fun _ => 0))), (q10, .inr (0, [.ref (u11 0).1, .int 0, .int 0, .int 0, .int 0, .int 0, .int 0, .int 0, .int 0, .ref t0])), ((u11 0).1, .inl ((u11 0).2, 8, .inl (fun _ => 0)))]) (w1 := [(q12, .inr (0, [.ref (u13 0).1, .int 0, .int 0, .int 0, .int 0, .int 0, .int 0, .int 0, .int 0, .ref t0])), ((u13 0).1, .inl ((u13 0).2, 8, .inl (fun _ => 0)))]) hP hD [12] [0, 1, 2, 3, 4, 5, 6, 7, 8, 9, 10, 11] rfl rfl (by decide) (by decide) hk1 hFc hP1 hD1
  have hK := hK.app hK1
  generalize H1 = H at hP hS ⊢
  have hP : va_P D classes [(h0, .inr (1, [.int 0, .int 0, .ref q1])), (q1, .inl (c1, 8, .inr (.inr (.inr (.inr (va_up (va_up (va_up (va_up (va_up (fun _ => none) 0 (some q2)) 1 (some q4)) 2 (some q6)) 3 (some q8)) 4 (some q10))))))), (q2, .inr (0, [.ref (u3 0).1, .int 0, .int 0, .int 0, .int 0, .int 0, .int 0, .int 0, .int 0, .ref t0])), ((u3 0).1, .inl ((u3 0).2, 8, .inl (fun _ => 0))), (q4, .inr (0, [.ref (u5 0).1, .int 0, .int 0, .int 0, .int 0, .int 0, .int 0, .int 0, .int 0, .ref t0])), ((u5 0).1, .inl ((u5 0).2, 8, .inl (fun _ => 0))), (q6, .inr (0, [.ref (u7 0).1, .int 0, .int 0, .int 0, .int 0, .int 0, .int 0, .int 0, .int 0, .ref t0])), ((u7 0).1, .inl ((u7 0).2, 8, .inl (fun _ => 0))), (q8, .inr (0, [.ref (u9 0).1, .int 0, .int 0, .int 0, .int 0, .int 0, .int 0, .int 0, .int 0, .ref t0])), ((u9 0).1, .inl ((u9 0).2, 8, .inl (fun _ => 0))), (q10, .inr (0, [.ref (u11 0).1, .int 0, .int 0, .int 0, .int 0, .int 0, .int 0, .int 0, .int 0, .ref t0])), ((u11 0).1, .inl ((u11 0).2, 8, .inl (fun _ => 0))), (q12, .inr (0, [.ref (u13 0).1, .int 0, .int 0, .int 0, .int 0, .int 0, .int 0, .int 0, .int 0, .ref t0])), ((u13 0).1, .inl ((u13 0).2, 8, .inl (fun _ => 0)))] H := hP
  have hD : va_D A [(h0, .inr (1, [.int 0, .int 0, .ref q1])), (q1, .inl (c1, 8, .inr (.inr (.inr (.inr (va_up (va_up (va_up (va_up (va_up (fun _ => none) 0 (some q2)) 1 (some q4)) 2 (some q6)) 3 (some q8)) 4 (some q10))))))), (q2, .inr (0, [.ref (u3 0).1, .int 0, .int 0, .int 0, .int 0, .int 0, .int 0, .int 0, .int 0, .ref t0])), ((u3 0).1, .inl ((u3 0).2, 8, .inl (fun _ => 0))), (q4, .inr (0, [.ref (u5 0).1, .int 0, .int 0, .int 0, .int 0, .int 0, .int 0, .int 0, .int 0, .ref t0])), ((u5 0).1, .inl ((u5 0).2, 8, .inl (fun _ => 0))), (q6, .inr (0, [.ref (u7 0).1, .int 0, .int 0, .int 0, .int 0, .int 0, .int 0, .int 0, .int 0, .ref t0])), ((u7 0).1, .inl ((u7 0).2, 8, .inl (fun _ => 0))), (q8, .inr (0, [.ref (u9 0).1, .int 0, .int 0, .int 0, .int 0, .int 0, .int 0, .int 0, .int 0, .ref t0])), ((u9 0).1, .inl ((u9 0).2, 8, .inl (fun _ => 0))), (q10, .inr (0, [.ref (u11 0).1, .int 0, .int 0, .int 0, .int 0, .int 0, .int 0, .int 0, .int 0, .ref t0])), ((u11 0).1, .inl ((u11 0).2, 8, .inl (fun _ => 0))), (q12, .inr (0, [.ref (u13 0).1, .int 0, .int 0, .int 0, .int 0, .int 0, .int 0, .int 0, .int 0, .ref t0])), ((u13 0).1, .inl ((u13 0).2, 8, .inl (fun _ => 0)))] := hD
  have hK : va_K D classes [(c1, .object RX1), ((u3 0).2, .int), ((u5 0).2, .int), ((u7 0).2, .int), ((u9 0).2, .int), ((u11 0).2, .int), ((u13 0).2, .int)] s := hK
  refine W.widen (k := 13) (n := 116) (Nat.le_of_ble_eq_true rfl) (Nat.le_of_ble_eq_true rfl) ?_
  refine va_astq (r := (RX1, TX1, 10)) hx hb hK hP hD hS 1 0 12 0 rfl rfl rfl rfl (by unfold vp_in; decide) (dck_at tX2_init 18 rfl) (fun H locs hP hD hS => ?_)
  have hP : va_P D classes [(h0, .inr (1, [.int 0, .int 0, .ref q1])), (q1, .inl (c1, 8, .inr (.inr (.inr (.inr (va_up (va_up (va_up (va_up (va_up (va_up (fun _ => none) 0 (some q2)) 1 (some q4)) 2 (some q6)) 3 (some q8)) 4 (some q10)) 5 (some q12))))))), (q2, .inr (0, [.ref (u3 0).1, .int 0, .int 0, .int 0, .int 0, .int 0, .int 0, .int 0, .int 0, .ref t0])), ((u3 0).1, .inl ((u3 0).2, 8, .inl (fun _ => 0))), (q4, .inr (0, [.ref (u5 0).1, .int 0, .int 0, .int 0, .int 0, .int 0, .int 0, .int 0, .int 0, .ref t0])), ((u5 0).1, .inl ((u5 0).2, 8, .inl (fun _ => 0))), (q6, .inr (0, [.ref (u7 0).1, .int 0, .int 0, .int 0, .int 0, .int 0, .int 0, .int 0, .int 0, .ref t0])), ((u7 0).1, .inl ((u7 0).2, 8, .inl (fun _ => 0))), (q8, .inr (0, [.ref (u9 0).1, .int 0, .int 0, .int 0, .int 0, .int 0, .int 0, .int 0, .int 0, .ref t0])), ((u9 0).1, .inl ((u9 0).2, 8, .inl (fun _ => 0))), (q10, .inr (0, [.ref (u11 0).1, .int 0, .int 0, .int 0, .int 0, .int 0, .int 0, .int 0, .int 0, .ref t0])), ((u11 0).1, .inl ((u11 0).2, 8, .inl (fun _ => 0))), (q12, .inr (0, [.ref (u13 0).1, .int 0, .int 0, .int 0, .int 0, .int 0, .int 0, .int 0, .int 0, .ref t0])), ((u13 0).1, .inl ((u13 0).2, 8, .inl (fun _ => 0)))] H := hP
  have hD : va_D A [(h0, .inr (1, [.int 0, .int 0, .ref q1])), (q1, .inl (c1, 8, .inr (.inr (.inr (.inr (va_up (va_up (va_up (va_up (va_up (va_up (fun _ => none) 0 (some q2)) 1 (some q4)) 2 (some q6)) 3 (some q8)) 4 (some q10)) 5 (some q12))))))), (q2, .inr (0, [.ref (u3 0).1, .int 0, .int 0, .int 0, .int 0, .int 0, .int 0, .int 0, .int 0, .ref t0])), ((u3 0).1, .inl ((u3 0).2, 8, .inl (fun _ => 0))), (q4, .inr (0, [.ref (u5 0).1, .int 0, .int 0, .int 0, .int 0, .int 0, .int 0, .int 0, .int 0, .ref t0])), ((u5 0).1, .inl ((u5 0).2, 8, .inl (fun _ => 0))), (q6, .inr (0, [.ref (u7 0).1, .int 0, .int 0, .int 0, .int 0, .int 0, .int 0, .int 0, .int 0, .ref t0])), ((u7 0).1, .inl ((u7 0).2, 8, .inl (fun _ => 0))), (q8, .inr (0, [.ref (u9 0).1, .int 0, .int 0, .int 0, .int 0, .int 0, .int 0, .int 0, .int 0, .ref t0])), ((u9 0).1, .inl ((u9 0).2, 8, .inl (fun _ => 0))), (q10, .inr (0, [.ref (u11 0).1, .int 0, .int 0, .int 0, .int 0, .int 0, .int 0, .int 0, .int 0, .ref t0])), ((u11 0).1, .inl ((u11 0).2, 8, .inl (fun _ => 0))), (q12, .inr (0, [.ref (u13 0).1, .int 0, .int 0, .int 0, .int 0, .int 0, .int 0, .int 0, .int 0, .ref t0])), ((u13 0).1, .inl ((u13 0).2, 8, .inl (fun _ => 0)))] := hD
  refine lv_iinc (v := 6) (lv' := [(2, .int 6), (0, .ref h0), (1, .ref t0)]) hx hb (dck_at tX2_init 19 rfl) hl (k := 0) rfl (by decide) (by decide) rfl (fun ls hl => ?_)
  refine lv_goto (tgt := 15) hx hb (dck_at tX2_init 20 rfl) (by decide) ?_
  refine lv_iload_n hx hb (dck_at tX2_init 8 rfl) rfl (lv_at hl 0 rfl) ?_
  refine lv_bipush (v := 8) hx hb (dck_at tX2_init 9 rfl) (by decide) ?_
  refine lv_icmp_ge (tgt := 41) hx hb (dck_at tX2_init 10 rfl) (by decide) (fun c9 => ?_) (fun c9 => ?_)
  · exact absurd c9 (by decide)
  refine lv_aload_n hx hb (dck_at tX2_init 11 rfl) rfl (lv_at hl 1 rfl) ?_
  refine va_get (D := D) (ci := 1) (v := .ref q1) (C := RX2) (T := TX2) (N := 3) hx hb hts iX2 hown hK hP 0 rfl rfl 2 (by decide) (hts _ wf_X2_11) (fun _ h9 => h9) rfl (dck_at tX2_init 12 rfl) ?_
  refine lv_iload_n hx hb (dck_at tX2_init 13 rfl) rfl (lv_at hl 0 rfl) ?_
  refine va_new (ci := 0) (fs := [.null, .int 0, .int 0, .int 0, .int 0, .int 0, .int 0, .int 0, .int 0, .null]) (C := RX1) (T := TX1) (N := 10) hx hb hts iX1 tyX1 tyX1_ok hown (hts _ wl_X2_9) (hts _ wb_X1) (hts _ wn_X1) hK hP hD hS hA rfl (fun j hj => by rcases (show j = 0 ∨ j = 1 ∨ j = 2 ∨ j = 3 ∨ j = 4 ∨ j = 5 ∨ j = 6 ∨ j = 7 ∨ j = 8 ∨ j = 9 by omega) with rfl | rfl | rfl | rfl | rfl | rfl | rfl | rfl | rfl | rfl <;> rfl) (Nat.le_of_ble_eq_true rfl) (Nat.le_of_ble_eq_true rfl) (dck_at tX2_init 14 rfl) (fun q14 H hP hD hS => ?_)
  have hP : va_P D classes [(h0, .inr (1, [.int 0, .int 0, .ref q1])), (q1, .inl (c1, 8, .inr (.inr (.inr (.inr (va_up (va_up (va_up (va_up (va_up (va_up (fun _ => none) 0 (some q2)) 1 (some q4)) 2 (some q6)) 3 (some q8)) 4 (some q10)) 5 (some q12))))))), (q2, .inr (0, [.ref (u3 0).1, .int 0, .int 0, .int 0, .int 0, .int 0, .int 0, .int 0, .int 0, .ref t0])), ((u3 0).1, .inl ((u3 0).2, 8, .inl (fun _ => 0))), (q4, .inr (0, [.ref (u5 0).1, .int 0, .int 0, .int 0, .int 0, .int 0, .int 0, .int 0, .int 0, .ref t0])), ((u5 0).1, .inl ((u5 0).2, 8, .inl (fun _ => 0))), (q6, .inr (0, [.ref (u7 0).1, .int 0, .int 0, .int 0, .int 0, .int 0, .int 0, .int 0, .int 0, .ref t0])), ((u7 0).1, .inl ((u7 0).2, 8, .inl (fun _ => 0))), (q8, .inr (0, [.ref (u9 0).1, .int 0, .int 0, .int 0, .int 0, .int 0, .int 0, .int 0, .int 0, .ref t0])), ((u9 0).1, .inl ((u9 0).2, 8, .inl (fun _ => 0))), (q10, .inr (0, [.ref (u11 0).1, .int 0, .int 0, .int 0, .int 0, .int 0, .int 0, .int 0, .int 0, .ref t0])), ((u11 0).1, .inl ((u11 0).2, 8, .inl (fun _ => 0))), (q12, .inr (0, [.ref (u13 0).1, .int 0, .int 0, .int 0, .int 0, .int 0, .int 0, .int 0, .int 0, .ref t0])), ((u13 0).1, .inl ((u13 0).2, 8, .inl (fun _ => 0))), (q14, .inr (0, [.null, .int 0, .int 0, .int 0, .int 0, .int 0, .int 0, .int 0, .int 0, .null]))] H := hP
  have hD : va_D A [(h0, .inr (1, [.int 0, .int 0, .ref q1])), (q1, .inl (c1, 8, .inr (.inr (.inr (.inr (va_up (va_up (va_up (va_up (va_up (va_up (fun _ => none) 0 (some q2)) 1 (some q4)) 2 (some q6)) 3 (some q8)) 4 (some q10)) 5 (some q12))))))), (q2, .inr (0, [.ref (u3 0).1, .int 0, .int 0, .int 0, .int 0, .int 0, .int 0, .int 0, .int 0, .ref t0])), ((u3 0).1, .inl ((u3 0).2, 8, .inl (fun _ => 0))), (q4, .inr (0, [.ref (u5 0).1, .int 0, .int 0, .int 0, .int 0, .int 0, .int 0, .int 0, .int 0, .ref t0])), ((u5 0).1, .inl ((u5 0).2, 8, .inl (fun _ => 0))), (q6, .inr (0, [.ref (u7 0).1, .int 0, .int 0, .int 0, .int 0, .int 0, .int 0, .int 0, .int 0, .ref t0])), ((u7 0).1, .inl ((u7 0).2, 8, .inl (fun _ => 0))), (q8, .inr (0, [.ref (u9 0).1, .int 0, .int 0, .int 0, .int 0, .int 0, .int 0, .int 0, .int 0, .ref t0])), ((u9 0).1, .inl ((u9 0).2, 8, .inl (fun _ => 0))), (q10, .inr (0, [.ref (u11 0).1, .int 0, .int 0, .int 0, .int 0, .int 0, .int 0, .int 0, .int 0, .ref t0])), ((u11 0).1, .inl ((u11 0).2, 8, .inl (fun _ => 0))), (q12, .inr (0, [.ref (u13 0).1, .int 0, .int 0, .int 0, .int 0, .int 0, .int 0, .int 0, .int 0, .ref t0])), ((u13 0).1, .inl ((u13 0).2, 8, .inl (fun _ => 0))), (q14, .inr (0, [.null, .int 0, .int 0, .int 0, .int 0, .int 0, .int 0, .int 0, .int 0, .null]))] := hD
  refine W.widen (k := 14) (n := 126) (Nat.le_of_ble_eq_true rfl) (Nat.le_of_ble_eq_true rfl) ?_
  refine lv_dup hx hb (dck_at tX2_init 15 rfl) rfl ?_
  refine lv_aload_n hx hb (dck_at tX2_init 16 rfl) rfl (lv_at hl 2 rfl) ?_
  have hPc := hP.sub (ws' := [(q14, .inr (0, [.null, .int 0, .int 0, .int 0, .int 0, .int 0, .int 0, .int 0, .int 0, .null]))]) [14] rfl
  have hDc := hD.sub (ws' := [(q14, .inr (0, [.null, .int 0, .int 0, .int 0, .int 0, .int 0, .int 0, .int 0, .int 0, .null]))]) [14] (by decide) rfl
  have hKc := hK.sub (tys' := []) [] rfl
  have hFc := va_free (wc := [(q14, .inr (0, [.null, .int 0, .int 0, .int 0, .int 0, .int 0, .int 0, .int 0, .int 0, .null]))]) hD hS hA [14] rfl
  refine va_callv (va_runI (As := [.ref t0]) (rest := [.ref q14, .int 6, .ref q1]) ⟨hx, hb, hml, hown, hts⟩ (k_X1_init l D X0 q14 t0 H.size) (cwI 1 hts (tb_gi (ws := []) (fun w hw => by cases hw) wc_X1_init) rfl rfl rfl (hts _ wn_X1) (hts _ wm_X2_17) (hts _ wi_X1_init) rfl hyX1_init.2 ⟨Nat.le_of_ble_eq_true rfl, Nat.le_of_ble_eq_true rfl⟩) ⟨fun a U g mk q => by obtain ⟨q0, q1, qP, qK, qD, qZ⟩ := q; exact ⟨q0, q1, qP, va_K.moved (u := U) (U := U.calling g mk a) (Vm.Alike.refl U.vm) qK, qD, qZ.calls⟩, fun U hU hW => ⟨rfl, by rw [hU], by rw [hU]; exact hPc, va_K.moved hW.alike hKc, hDc.weaken (fun _ _ _ _ => trivial), hZ.moveA (Nat.le_refl _) hW hS hU hAb (hAb _ (hD.2 14 _ rfl))⟩⟩ rfl rfl hl.1 rfl (lv_room (Nat.le_of_ble_eq_true rfl)) (dck_at tX2_init 17 rfl) ⟨Nat.le_of_ble_eq_true rfl, Nat.le_of_ble_eq_true rfl⟩) hS (fun q _ h => hFc q h) hFc (fun u15 t H1 locs ht hvm hw hB hz1 hk1 hS => ?_)
  obtain ⟨hP1, hK1, hD1⟩ := hB
  rw [ht] at hP1
  have hK1 := va_K.moved hvm.symm hK1
  obtain ⟨hP, hD⟩ := va_join (wr := [(h0, .inr (1, [.int 0, .int 0, .ref q1])), (q1, .inl (c1, 8, .inr (.inr (.inr (.inr (va_up (va_up (va_up (va_up (va_up (va_up (fun _ => none) 0 (some q2)) 1 (some q4)) 2 (some q6)) 3 (some q8)) 4 (some q10)) 5 (some q12))))))), (q2, .inr (0, [.ref (u3 0).1, .int 0, .int 0, .int 0, .int 0, .int 0, .int 0, .int 0, .int 0, .ref t0])), ((u3 0).1, .inl ((u3 0).2, 8, .inl (fun _ => 0))), (q4, .inr (0, [.ref (u5 0).1, .int 0, .int 0, .int 0, .int 0, .int 0, .int 0, .int 0, .int 0, .ref t0])), ((u5 0).1, .inl ((u5 0).2, 8, .inl (fun _ => 0))), (q6, .inr (0, [.ref (u7 0).1, .int 0, .int 0, .int 0, .int 0, .int 0, .int 0, .int 0, .int 0, .ref t0])), ((u7 0).1, .inl ((u7 0).2, 8, .inl (fun _ => 0))), (q8, .inr (0, [.ref (u9 0).1, .int 0, .int 0, .int 0, .int 0, .int 0, .int 0, .int 0, .int 0, .ref t0])), ((u9 0).1, .inl ((u9 0).2, 8, .inl (fun _ => 0))), (q10, .inr (0, [.ref (u11 0).1, .int 0, .int 0, .int 0, .int 0, .int 0, .int 0, .int 0, .int 0, .ref t0])), ((u11 0).1, .inl ((u11 0).2, 8, .inl (fun _ => 0))), (q12, .inr (0, [.ref (u13 0).1, .int 0, .int 0, .int 0, .int 0, .int 0, .int 0, .int 0, .int 0, .ref t0])), ((u13 0).1, .inl ((u13 0).2, 8, .inl (fun _ => 0)))]) (w1 := [(q14, .inr (0, [.ref (u15 0).1, .int 0, .int 0, .int 0, .int 0, .int 0, .int 0, .int 0, .int 0, .ref t0])), ((u15 0).1, .inl ((u15 0).2, 8, .inl (fun _ => 0)))]) hP hD [14] [0, 1, 2, 3, 4, 5, 6, 7, 8, 9, 10, 11, 12, 13] rfl rfl (by decide) (by decide) hk1 hFc hP1 hD1
  have hK := hK.app hK1
  generalize H1 = H at hP hS ⊢
  have hP : va_P D classes [(h0, .inr (1, [.int 0, .int 0, .ref q1])), (q1, .inl (c1, 8, .inr (.inr (.inr (.inr (va_up (va_up (va_up (va_up (va_up (va_up (fun _ => none) 0 (some q2)) 1 (some q4)) 2 (some q6)) 3 (some q8)) 4 (some q10)) 5 (some q12))))))), (q2, .inr (0, [.ref (u3 0).1, .int 0, .int 0, .int 0, .int 0, .int 0, .int 0, .int 0, .int 0, .ref t0])), ((u3 0).1, .inl ((u3 0).2, 8, .inl (fun _ => 0))), (q4, .inr (0, [.ref (u5 0).1, .int 0, .int 0, .int 0, .int 0, .int 0, .int 0, .int 0, .int 0, .ref t0])), ((u5 0).1, .inl ((u5 0).2, 8, .inl (fun _ => 0))), (q6, .inr (0, [.ref (u7 0).1, .int 0, .int 0, .int 0, .int 0, .int 0, .int 0, .int 0, .int 0, .ref t0])), ((u7 0).1, .inl ((u7 0).2, 8, .inl (fun _ => 0))), (q8, .inr (0, [.ref (u9 0).1, .int 0, .int 0, .int 0, .int 0, .int 0, .int 0, .int 0, .int 0, .ref t0])), ((u9 0).1, .inl ((u9 0).2, 8, .inl (fun _ => 0))), (q10, .inr (0, [.ref (u11 0).1, .int 0, .int 0, .int 0, .int 0, .int 0, .int 0, .int 0, .int 0, .ref t0])), ((u11 0).1, .inl ((u11 0).2, 8, .inl (fun _ => 0))), (q12, .inr (0, [.ref (u13 0).1, .int 0, .int 0, .int 0, .int 0, .int 0, .int 0, .int 0, .int 0, .ref t0])), ((u13 0).1, .inl ((u13 0).2, 8, .inl (fun _ => 0))), (q14, .inr (0, [.ref (u15 0).1, .int 0, .int 0, .int 0, .int 0, .int 0, .int 0, .int 0, .int 0, .ref t0])), ((u15 0).1, .inl ((u15 0).2, 8, .inl (fun _ => 0)))] H := hP
  have hD : va_D A [(h0, .inr (1, [.int 0, .int 0, .ref q1])), (q1, .inl (c1, 8, .inr (.inr (.inr (.inr (va_up (va_up (va_up (va_up (va_up (va_up (fun _ => none) 0 (some q2)) 1 (some q4)) 2 (some q6)) 3 (some q8)) 4 (some q10)) 5 (some q12))))))), (q2, .inr (0, [.ref (u3 0).1, .int 0, .int 0, .int 0, .int 0, .int 0, .int 0, .int 0, .int 0, .ref t0])), ((u3 0).1, .inl ((u3 0).2, 8, .inl (fun _ => 0))), (q4, .inr (0, [.ref (u5 0).1, .int 0, .int 0, .int 0, .int 0, .int 0, .int 0, .int 0, .int 0, .ref t0])), ((u5 0).1, .inl ((u5 0).2, 8, .inl (fun _ => 0))), (q6, .inr (0, [.ref (u7 0).1, .int 0, .int 0, .int 0, .int 0, .int 0, .int 0, .int 0, .int 0, .ref t0])), ((u7 0).1, .inl ((u7 0).2, 8, .inl (fun _ => 0))), (q8, .inr (0, [.ref (u9 0).1, .int 0, .int 0, .int 0, .int 0, .int 0, .int 0, .int 0, .int 0, .ref t0])), ((u9 0).1, .inl ((u9 0).2, 8, .inl (fun _ => 0))), (q10, .inr (0, [.ref (u11 0).1, .int 0, .int 0, .int 0, .int 0, .int 0, .int 0, .int 0, .int 0, .ref t0])), ((u11 0).1, .inl ((u11 0).2, 8, .inl (fun _ => 0))), (q12, .inr (0, [.ref (u13 0).1, .int 0, .int 0, .int 0, .int 0, .int 0, .int 0, .int 0, .int 0, .ref t0])), ((u13 0).1, .inl ((u13 0).2, 8, .inl (fun _ => 0))), (q14, .inr (0, [.ref (u15 0).1, .int 0, .int 0, .int 0, .int 0, .int 0, .int 0, .int 0, .int 0, .ref t0])), ((u15 0).1, .inl ((u15 0).2, 8, .inl (fun _ => 0)))] := hD
  have hK : va_K D classes [(c1, .object RX1), ((u3 0).2, .int), ((u5 0).2, .int), ((u7 0).2, .int), ((u9 0).2, .int), ((u11 0).2, .int), ((u13 0).2, .int), ((u15 0).2, .int)] s := hK
  refine W.widen (k := 15) (n := 134) (Nat.le_of_ble_eq_true rfl) (Nat.le_of_ble_eq_true rfl) ?_
  refine va_astq (r := (RX1, TX1, 10)) hx hb hK hP hD hS 1 0 14 0 rfl rfl rfl rfl (by unfold vp_in; decide) (dck_at tX2_init 18 rfl) (fun H locs hP hD hS => ?_)
  have hP : va_P D classes [(h0, .inr (1, [.int 0, .int 0, .ref q1])), (q1, .inl (c1, 8, .inr (.inr (.inr (.inr (va_up (va_up (va_up (va_up (va_up (va_up (va_up (fun _ => none) 0 (some q2)) 1 (some q4)) 2 (some q6)) 3 (some q8)) 4 (some q10)) 5 (some q12)) 6 (some q14))))))), (q2, .inr (0, [.ref (u3 0).1, .int 0, .int 0, .int 0, .int 0, .int 0, .int 0, .int 0, .int 0, .ref t0])), ((u3 0).1, .inl ((u3 0).2, 8, .inl (fun _ => 0))), (q4, .inr (0, [.ref (u5 0).1, .int 0, .int 0, .int 0, .int 0, .int 0, .int 0, .int 0, .int 0, .ref t0])), ((u5 0).1, .inl ((u5 0).2, 8, .inl (fun _ => 0))), (q6, .inr (0, [.ref (u7 0).1, .int 0, .int 0, .int 0, .int 0, .int 0, .int 0, .int 0, .int 0, .ref t0])), ((u7 0).1, .inl ((u7 0).2, 8, .inl (fun _ => 0))), (q8, .inr (0, [.ref (u9 0).1, .int 0, .int 0, .int 0, .int 0, .int 0, .int 0, .int 0, .int 0, .ref t0])), ((u9 0).1, .inl ((u9 0).2, 8, .inl (fun _ => 0))), (q10, .inr (0, [.ref (u11 0).1, .int 0, .int 0, .int 0, .int 0, .int 0, .int 0, .int 0, .int 0, .ref t0])), ((u11 0).1, .inl ((u11 0).2, 8, .inl (fun _ => 0))), (q12, .inr (0, [.ref (u13 0).1, .int 0, .int 0, .int 0, .int 0, .int 0, .int 0, .int 0, .int 0, .ref t0])), ((u13 0).1, .inl ((u13 0).2, 8, .inl (fun _ => 0))), (q14, .inr (0, [.ref (u15 0).1, .int 0, .int 0, .int 0, .int 0, .int 0, .int 0, .int 0, .int 0, .ref t0])), ((u15 0).1, .inl ((u15 0).2, 8, .inl (fun _ => 0)))] H := hP
  have hD : va_D A [(h0, .inr (1, [.int 0, .int 0, .ref q1])), (q1, .inl (c1, 8, .inr (.inr (.inr (.inr (va_up (va_up (va_up (va_up (va_up (va_up (va_up (fun _ => none) 0 (some q2)) 1 (some q4)) 2 (some q6)) 3 (some q8)) 4 (some q10)) 5 (some q12)) 6 (some q14))))))), (q2, .inr (0, [.ref (u3 0).1, .int 0, .int 0, .int 0, .int 0, .int 0, .int 0, .int 0, .int 0, .ref t0])), ((u3 0).1, .inl ((u3 0).2, 8, .inl (fun _ => 0))), (q4, .inr (0, [.ref (u5 0).1, .int 0, .int 0, .int 0, .int 0, .int 0, .int 0, .int 0, .int 0, .ref t0])), ((u5 0).1, .inl ((u5 0).2, 8, .inl (fun _ => 0))), (q6, .inr (0, [.ref (u7 0).1, .int 0, .int 0, .int 0, .int 0, .int 0, .int 0, .int 0, .int 0, .ref t0])), ((u7 0).1, .inl ((u7 0).2, 8, .inl (fun _ => 0))), (q8, .inr (0, [.ref (u9 0).1, .int 0, .int 0, .int 0, .int 0, .int 0, .int 0, .int 0, .int 0, .ref t0])), ((u9 0).1, .inl ((u9 0).2, 8, .inl (fun _ => 0))), (q10, .inr (0, [.ref (u11 0).1, .int 0, .int 0, .int 0, .int 0, .int 0, .int 0, .int 0, .int 0, .ref t0])), ((u11 0).1, .inl ((u11 0).2, 8, .inl (fun _ => 0))), (q12, .inr (0, [.ref (u13 0).1, .int 0, .int 0, .int 0, .int 0, .int 0, .int 0, .int 0, .int 0, .ref t0])), ((u13 0).1, .inl ((u13 0).2, 8, .inl (fun _ => 0))), (q14, .inr (0, [.ref (u15 0).1, .int 0, .int 0, .int 0, .int 0, .int 0, .int 0, .int 0, .int 0, .ref t0])), ((u15 0).1, .inl ((u15 0).2, 8, .inl (fun _ => 0)))] := hD
  refine lv_iinc (v := 7) (lv' := [(2, .int 7), (0, .ref h0), (1, .ref t0)]) hx hb (dck_at tX2_init 19 rfl) hl (k := 0) rfl (by decide) (by decide) rfl (fun ls hl => ?_)
  refine lv_goto (tgt := 15) hx hb (dck_at tX2_init 20 rfl) (by decide) ?_
  refine lv_iload_n hx hb (dck_at tX2_init 8 rfl) rfl (lv_at hl 0 rfl) ?_
  refine lv_bipush (v := 8) hx hb (dck_at tX2_init 9 rfl) (by decide) ?_
  refine lv_icmp_ge (tgt := 41) hx hb (dck_at tX2_init 10 rfl) (by decide) (fun c9 => ?_) (fun c9 => ?_)
  · exact absurd c9 (by decide)
  refine lv_aload_n hx hb (dck_at tX2_init 11 rfl) rfl (lv_at hl 1 rfl) ?_
  refine va_get (D := D) (ci := 1) (v := .ref q1) (C := RX2) (T := TX2) (N := 3) hx hb hts iX2 hown hK hP 0 rfl rfl 2 (by decide) (hts _ wf_X2_11) (fun _ h9 => h9) rfl (dck_at tX2_init 12 rfl) ?_
  refine lv_iload_n hx hb (dck_at tX2_init 13 rfl) rfl (lv_at hl 0 rfl) ?_
  refine va_new (ci := 0) (fs := [.null, .int 0, .int 0, .int 0, .int 0, .int 0, .int 0, .int 0, .int 0, .null]) (C := RX1) (T := TX1) (N := 10) hx hb hts iX1 tyX1 tyX1_ok hown (hts _ wl_X2_9) (hts _ wb_X1) (hts _ wn_X1) hK hP hD hS hA rfl (fun j hj => by rcases (show j = 0 ∨ j = 1 ∨ j = 2 ∨ j = 3 ∨ j = 4 ∨ j = 5 ∨ j = 6 ∨ j = 7 ∨ j = 8 ∨ j = 9 by omega) with rfl | rfl | rfl | rfl | rfl | rfl | rfl | rfl | rfl | rfl <;> rfl) (Nat.le_of_ble_eq_true rfl) (Nat.le_of_ble_eq_true rfl) (dck_at tX2_init 14 rfl) (fun q16 H hP hD hS => ?_)
  have hP : va_P D classes [(h0, .inr (1, [.int 0, .int 0, .ref q1])), (q1, .inl (c1, 8, .inr (.inr (.inr (.inr (va_up (va_up (va_up (va_up (va_up (va_up (va_up (fun _ => none) 0 (some q2)) 1 (some q4)) 2 (some q6)) 3 (some q8)) 4 (some q10)) 5 (some q12)) 6 (some q14))))))), (q2, .inr (0, [.ref (u3 0).1, .int 0, .int 0, .int 0, .int 0, .int 0, .int 0, .int 0, .int 0, .ref t0])), ((u3 0).1, .inl ((u3 0).2, 8, .inl (fun _ => 0))), (q4, .inr (0, [.ref (u5 0).1, .int 0, .int 0, .int 0, .int 0, .int 0, .int 0, .int 0, .int 0, .ref t0])), ((u5 0).1, .inl ((u5 0).2, 8, .inl (fun _ => 0))), (q6, .inr (0, [.ref (u7 0).1, .int 0, .int 0, .int 0, .int 0, .int 0, .int 0, .int 0, .int 0, .ref t0])), ((u7 0).1, .inl ((u7 0).2, 8, .inl (fun _ => 0))), (q8, .inr (0, [.ref (u9 0).1, .int 0, .int 0, .int 0, .int 0, .int 0, .int 0, .int 0, .int 0, .ref t0])), ((u9 0).1, .inl ((u9 0).2, 8, .inl (fun _ => 0))), (q10, .inr (0, [.ref (u11 0).1, .int 0, .int 0, .int 0, .int 0, .int 0, .int 0, .int 0, .int 0, .ref t0])), ((u11 0).1, .inl ((u11 0).2, 8, .inl (fun _ => 0))), (q12, .inr (0, [.ref (u13 0).1, .int 0, .int 0, .int 0, .int 0, .int 0, .int 0, .int 0, .int 0, .ref t0])), ((u13 0).1, .inl ((u13 0).2, 8, .inl (fun _ => 0))), (q14, .inr (0, [.ref (u15 0).1, .int 0, .int 0, .int 0, .int 0, .int 0, .int 0, .int 0, .int 0, .ref t0])), ((u15 0).1, .inl ((u15 0).2, 8, .inl (fun _ => 0))), (q16, .inr (0, [.null, .int 0, .int 0, .int 0, .int 0, .int 0, .int 0, .int 0, .int 0, .null]))] H := hP
  have hD : va_D A [(h0, .inr (1, [.int 0, .int 0, .ref q1])), (q1, .inl (c1, 8, .inr (.inr (.inr (.inr (va_up (va_up (va_up (va_up (va_up (va_up (va_up (fun _ => none) 0 (some q2)) 1 (some q4)) 2 (some q6)) 3 (some q8)) 4 (some q10)) 5 (some q12)) 6 (some q14))))))), (q2, .inr (0, [.ref (u3 0).1, .int 0, .int 0, .int 0, .int 0, .int 0, .int 0, .int 0, .int 0, .ref t0])), ((u3 0).1, .inl ((u3 0).2, 8, .inl (fun _ => 0))), (q4, .inr (0, [.ref (u5 0).1, .int 0, .int 0, .int 0, .int 0, .int 0, .int 0, .int 0, .int 0, .ref t0])), ((u5 0).1, .inl ((u5 0).2, 8, .inl (fun _ => 0))), (q6, .inr (0, [.ref (u7 0).1, .int 0, .int 0, .int 0, .int 0, .int 0, .int 0, .int 0, .int 0, .ref t0])), ((u7 0).1, .inl ((u7 0).2, 8, .inl (fun _ => 0))), (q8, .inr (0, [.ref (u9 0).1, .int 0, .int 0, .int 0, .int 0, .int 0, .int 0, .int 0, .int 0, .ref t0])), ((u9 0).1, .inl ((u9 0).2, 8, .inl (fun _ => 0))), (q10, .inr (0, [.ref (u11 0).1, .int 0, .int 0, .int 0, .int 0, .int 0, .int 0, .int 0, .int 0, .ref t0])), ((u11 0).1, .inl ((u11 0).2, 8, .inl (fun _ => 0))), (q12, .inr (0, [.ref (u13 0).1, .int 0, .int 0, .int 0, .int 0, .int 0, .int 0, .int 0, .int 0, .ref t0])), ((u13 0).1, .inl ((u13 0).2, 8, .inl (fun _ => 0))), (q14, .inr (0, [.ref (u15 0).1, .int 0, .int 0, .int 0, .int 0, .int 0, .int 0, .int 0, .int 0, .ref t0])), ((u15 0).1, .inl ((u15 0).2, 8, .inl (fun _ => 0))), (q16, .inr (0, [.null, .int 0, .int 0, .int 0, .int 0, .int 0, .int 0, .int 0, .int 0, .null]))] := hD
  refine W.widen (k := 16) (n := 144) (Nat.le_of_ble_eq_true rfl) (Nat.le_of_ble_eq_true rfl) ?_
  refine lv_dup hx hb (dck_at tX2_init 15 rfl) rfl ?_
  refine lv_aload_n hx hb (dck_at tX2_init 16 rfl) rfl (lv_at hl 2 rfl) ?_
  have hPc := hP.sub (ws' := [(q16, .inr (0, [.null, .int 0, .int 0, .int 0, .int 0, .int 0, .int 0, .int 0, .int 0, .null]))]) [16] rfl
  have hDc := hD.sub (ws' := [(q16, .inr (0, [.null, .int 0, .int 0, .int 0, .int 0, .int 0, .int 0, .int 0, .int 0, .null]))]) [16] (by decide) rfl
  have hKc := hK.sub (tys' := []) [] rfl
  have hFc := va_free (wc := [(q16, .inr (0, [.null, .int 0, .int 0, .int 0, .int 0, .int 0, .int 0, .int 0, .int 0, .null]))]) hD hS hA [16] rfl
  refine va_callv (va_runI (As := [.ref t0]) (rest := [.ref q16, .int 7, .ref q1]) ⟨hx, hb, hml, hown, hts⟩ (k_X1_init l D X0 q16 t0 H.size) (cwI 1 hts (tb_gi (ws := []) (fun w hw => by cases hw) wc_X1_init) rfl rfl rfl (hts _ wn_X1) (hts _ wm_X2_17) (hts _ wi_X1_init) rfl hyX1_init.2 ⟨Nat.le_of_ble_eq_true rfl, Nat.le_of_ble_eq_true rfl⟩) ⟨fun a U g mk q => by obtain ⟨q0, q1, qP, qK, qD, qZ⟩ := q; exact ⟨q0, q1, qP, va_K.moved (u := U) (U := U.calling g mk a) (Vm.Alike.refl U.vm) qK, qD, qZ.calls⟩, fun U hU hW => ⟨rfl, by rw [hU], by rw [hU]; exact hPc, va_K.moved hW.alike hKc, hDc.weaken (fun _ _ _ _ => trivial), hZ.moveA (Nat.le_refl _) hW hS hU hAb (hAb _ (hD.2 16 _ rfl))⟩⟩ rfl rfl hl.1 rfl (lv_room (Nat.le_of_ble_eq_true rfl)) (dck_at tX2_init 17 rfl) ⟨Nat.le_of_ble_eq_true rfl, Nat.le_of_ble_eq_true rfl⟩) hS (fun q _ h => hFc q h) hFc (fun u17 t H1 locs ht hvm hw hB hz1 hk1 hS => ?_)
  obtain ⟨hP1, hK1, hD1⟩ := hB
  rw [ht] at hP1
  have hK1 := va_K.moved hvm.symm hK1
  obtain ⟨hP, hD⟩ := va_join (wr := [(h0, .inr (1, [.int 0, .int 0, .ref q1])), (q1, .inl (c1, 8, .inr (.inr (.inr (.inr (va_up (va_up (va_up (va_up (va_up (va_up (va_up (fun _ => none) 0 (some q2)) 1 (some q4)) 2 (some q6)) 3 (some q8)) 4 (some q10)) 5 (some q12)) 6 (some q14))))))), (q2, .inr (0, [.ref (u3 0).1, .int 0, .int 0, .int 0, .int 0, .int 0, .int 0, .int 0, .int 0, .ref t0])), ((u3 0).1, .inl ((u3 0).2, 8, .inl (fun _ => 0))), (q4, .inr (0, [.ref (u5 0).1, .int 0, .int 0, .int 0, .int 0, .int 0, .int 0, .int 0, .int 0, .ref t0])), ((u5 0).1, .inl ((u5 0).2, 8, .inl (fun _ => 0))), (q6, .inr (0, [.ref (u7 0).1, .int 0, .int 0, .int 0, .int 0, .int 0, .int 0, .int 0, .int 0, .ref t0])), ((u7 0).1, .inl ((u7 0).2, 8, .inl (fun _ => 0))), (q8, .inr (0, [.ref (u9 0).1, .int 0, .int 0, .int 0, .int 0, .int 0, .int 0, .int 0, .int 0, .ref t0])), ((u9 0).1, .inl ((u9 0).2, 8, .inl (fun _ => 0))), (q10, .inr (0, [.ref (u11 0).1, .int 0, .int 0, .int 0, .int 0, .int 0, .int 0, .int 0, .int 0, .ref t0])), ((u11 0).1, .inl ((u11 0).2, 8, .inl (fun _ => 0))), (q12, .inr (0, [.ref (u13 0).1, .int 0, .int 0, .int 0, .int 0, .int 0, .int 0, .int 0, .int 0, .ref t0])), ((u13 0).1, .inl ((u13 0).2, 8, .inl (fun _ => 0))), (q14, .inr (0, [.ref (u15 0).1, .int 0, .int 0, .int 0, .int 0, .int 0, .int 0, .int 0, .int 0, .ref t0])), ((u15 0).1, .inl ((u15 0).2, 8, .inl (fun _ => 0)))]) (w1 := [(q16, .inr (0, [.ref (u17 0).1, .int 0, .int 0, .int 0, .int 0, .int 0, .int 0, .int 0, .int 0, .ref t0])), ((u17 0).1, .inl ((u17 0).2, 8, .inl (fun _ => 0)))]) hP hD [16] [0, 1, 2, 3, 4, 5, 6, 7, 8, 9, 10, 11, 12, 13, 14, 15] rfl rfl (by decide) (by decide) hk1 hFc hP1 hD1
  have hK := hK.app hK1
  generalize H1 = H at hP hS ⊢
  have hP : va_P D classes [(h0, .inr (1, [.int 0, .int 0, .ref q1])), (q1, .inl (c1, 8, .inr (.inr (.inr (.inr (va_up (va_up (va_up (va_up (va_up (va_up (va_up (fun _ => none) 0 (some q2)) 1 (some q4)) 2 (some q6)) 3 (some q8)) 4 (some q10)) 5 (some q12)) 6 (some q14))))))), (q2, .inr (0, [.ref (u3 0).1, .int 0, .int 0, .int 0, .int 0, .int 0, .int 0, .int 0, .int 0, .ref t0])), ((u3 0).1, .inl ((u3 0).2, 8, .inl (fun _ => 0))), (q4, .inr (0, [.ref (u5 0).1, .int 0, .int 0, .int 0, .int 0, .int 0, .int 0, .int 0, .int 0, .ref t0])), ((u5 0).1, .inl ((u5 0).2, 8, .inl (fun _ => 0))), (q6, .inr (0, [.ref (u7 0).1, .int 0, .int 0, .int 0, .int 0, .int 0, .int 0, .int 0, .int 0, .ref t0])), ((u7 0).1, .inl ((u7 0).2, 8, .inl (fun _ => 0))), (q8, .inr (0, [.ref (u9 0).1, .int 0, .int 0, .int 0, .int 0, .int 0, .int 0, .int 0, .int 0, .ref t0])), ((u9 0).1, .inl ((u9 0).2, 8, .inl (fun _ => 0))), (q10, .inr (0, [.ref (u11 0).1, .int 0, .int 0, .int 0, .int 0, .int 0, .int 0, .int 0, .int 0, .ref t0])), ((u11 0).1, .inl ((u11 0).2, 8, .inl (fun _ => 0))), (q12, .inr (0, [.ref (u13 0).1, .int 0, .int 0, .int 0, .int 0, .int 0, .int 0, .int 0, .int 0, .ref t0])), ((u13 0).1, .inl ((u13 0).2, 8, .inl (fun _ => 0))), (q14, .inr (0, [.ref (u15 0).1, .int 0, .int 0, .int 0, .int 0, .int 0, .int 0, .int 0, .int 0, .ref t0])), ((u15 0).1, .inl ((u15 0).2, 8, .inl (fun _ => 0))), (q16, .inr (0, [.ref (u17 0).1, .int 0, .int 0, .int 0, .int 0, .int 0, .int 0, .int 0, .int 0, .ref t0])), ((u17 0).1, .inl ((u17 0).2, 8, .inl (fun _ => 0)))] H := hP
  have hD : va_D A [(h0, .inr (1, [.int 0, .int 0, .ref q1])), (q1, .inl (c1, 8, .inr (.inr (.inr (.inr (va_up (va_up (va_up (va_up (va_up (va_up (va_up (fun _ => none) 0 (some q2)) 1 (some q4)) 2 (some q6)) 3 (some q8)) 4 (some q10)) 5 (some q12)) 6 (some q14))))))), (q2, .inr (0, [.ref (u3 0).1, .int 0, .int 0, .int 0, .int 0, .int 0, .int 0, .int 0, .int 0, .ref t0])), ((u3 0).1, .inl ((u3 0).2, 8, .inl (fun _ => 0))), (q4, .inr (0, [.ref (u5 0).1, .int 0, .int 0, .int 0, .int 0, .int 0, .int 0, .int 0, .int 0, .ref t0])), ((u5 0).1, .inl ((u5 0).2, 8, .inl (fun _ => 0))), (q6, .inr (0, [.ref (u7 0).1, .int 0, .int 0, .int 0, .int 0, .int 0, .int 0, .int 0, .int 0, .ref t0])), ((u7 0).1, .inl ((u7 0).2, 8, .inl (fun _ => 0))), (q8, .inr (0, [.ref (u9 0).1, .int 0, .int 0, .int 0, .int 0, .int 0, .int 0, .int 0, .int 0, .ref t0])), ((u9 0).1, .inl ((u9 0).2, 8, .inl (fun _ => 0))), (q10, .inr (0, [.ref (u11 0).1, .int 0, .int 0, .int 0, .int 0, .int 0, .int 0, .int 0, .int 0, .ref t0])), ((u11 0).1, .inl ((u11 0).2, 8, .inl (fun _ => 0))), (q12, .inr (0, [.ref (u13 0).1, .int 0, .int 0, .int 0, .int 0, .int 0, .int 0, .int 0, .int 0, .ref t0])), ((u13 0).1, .inl ((u13 0).2, 8, .inl (fun _ => 0))), (q14, .inr (0, [.ref (u15 0).1, .int 0, .int 0, .int 0, .int 0, .int 0, .int 0, .int 0, .int 0, .ref t0])), ((u15 0).1, .inl ((u15 0).2, 8, .inl (fun _ => 0))), (q16, .inr (0, [.ref (u17 0).1, .int 0, .int 0, .int 0, .int 0, .int 0, .int 0, .int 0, .int 0, .ref t0])), ((u17 0).1, .inl ((u17 0).2, 8, .inl (fun _ => 0)))] := hD
  have hK : va_K D classes [(c1, .object RX1), ((u3 0).2, .int), ((u5 0).2, .int), ((u7 0).2, .int), ((u9 0).2, .int), ((u11 0).2, .int), ((u13 0).2, .int), ((u15 0).2, .int), ((u17 0).2, .int)] s := hK
  refine W.widen (k := 17) (n := 152) (Nat.le_of_ble_eq_true rfl) (Nat.le_of_ble_eq_true rfl) ?_
  refine va_astq (r := (RX1, TX1, 10)) hx hb hK hP hD hS 1 0 16 0 rfl rfl rfl rfl (by unfold vp_in; decide) (dck_at tX2_init 18 rfl) (fun H locs hP hD hS => ?_)
  have hP : va_P D classes [(h0, .inr (1, [.int 0, .int 0, .ref q1])), (q1, .inl (c1, 8, .inr (.inr (.inr (.inr (va_up (va_up (va_up (va_up (va_up (va_up (va_up (va_up (fun _ => none) 0 (some q2)) 1 (some q4)) 2 (some q6)) 3 (some q8)) 4 (some q10)) 5 (some q12)) 6 (some q14)) 7 (some q16))))))), (q2, .inr (0, [.ref (u3 0).1, .int 0, .int 0, .int 0, .int 0, .int 0, .int 0, .int 0, .int 0, .ref t0])), ((u3 0).1, .inl ((u3 0).2, 8, .inl (fun _ => 0))), (q4, .inr (0, [.ref (u5 0).1, .int 0, .int 0, .int 0, .int 0, .int 0, .int 0, .int 0, .int 0, .ref t0])), ((u5 0).1, .inl ((u5 0).2, 8, .inl (fun _ => 0))), (q6, .inr (0, [.ref (u7 0).1, .int 0, .int 0, .int 0, .int 0, .int 0, .int 0, .int 0, .int 0, .ref t0])), ((u7 0).1, .inl ((u7 0).2, 8, .inl (fun _ => 0))), (q8, .inr (0, [.ref (u9 0).1, .int 0, .int 0, .int 0, .int 0, .int 0, .int 0, .int 0, .int 0, .ref t0])), ((u9 0).1, .inl ((u9 0).2, 8, .inl (fun _ => 0))), (q10, .inr (0, [.ref (u11 0).1, .int 0, .int 0, .int 0, .int 0, .int 0, .int 0, .int 0, .int 0, .ref t0])), ((u11 0).1, .inl ((u11 0).2, 8, .inl (fun _ => 0))), (q12, .inr (0, [.ref (u13 0).1, .int 0, .int 0, .int 0, .int 0, .int 0, .int 0, .int 0, .int 0, .ref t0])), ((u13 0).1, .inl ((u13 0).2, 8, .inl (fun _ => 0))), (q14, .inr (0, [.ref (u15 0).1, .int 0, .int 0, .int 0, .int 0, .int 0, .int 0, .int 0, .int 0, .ref t0])), ((u15 0).1, .inl ((u15 0).2, 8, .inl (fun _ => 0))), (q16, .inr (0, [.ref (u17 0).1, .int 0, .int 0, .int 0, .int 0, .int 0, .int 0, .int 0, .int 0, .ref t0])), ((u17 0).1, .inl ((u17 0).2, 8, .inl (fun _ => 0)))] H := hP
  have hD : va_D A [(h0, .inr (1, [.int 0, .int 0, .ref q1])), (q1, .inl (c1, 8, .inr (.inr (.inr (.inr (va_up (va_up (va_up (va_up (va_up (va_up (va_up (va_up (fun _ => none) 0 (some q2)) 1 (some q4)) 2 (some q6)) 3 (some q8)) 4 (some q10)) 5 (some q12)) 6 (some q14)) 7 (some q16))))))), (q2, .inr (0, [.ref (u3 0).1, .int 0, .int 0, .int 0, .int 0, .int 0, .int 0, .int 0, .int 0, .ref t0])), ((u3 0).1, .inl ((u3 0).2, 8, .inl (fun _ => 0))), (q4, .inr (0, [.ref (u5 0).1, .int 0, .int 0, .int 0, .int 0, .int 0, .int 0, .int 0, .int 0, .ref t0])), ((u5 0).1, .inl ((u5 0).2, 8, .inl (fun _ => 0))), (q6, .inr (0, [.ref (u7 0).1, .int 0, .int 0, .int 0, .int 0, .int 0, .int 0, .int 0, .int 0, .ref t0])), ((u7 0).1, .inl ((u7 0).2, 8, .inl (fun _ => 0))), (q8, .inr (0, [.ref (u9 0).1, .int 0, .int 0, .int 0, .int 0, .int 0, .int 0, .int 0, .int 0, .ref t0])), ((u9 0).1, .inl ((u9 0).2, 8, .inl (fun _ => 0))), (q10, .inr (0, [.ref (u11 0).1, .int 0, .int 0, .int 0, .int 0, .int 0, .int 0, .int 0, .int 0, .ref t0])), ((u11 0).1, .inl ((u11 0).2, 8, .inl (fun _ => 0))), (q12, .inr (0, [.ref (u13 0).1, .int 0, .int 0, .int 0, .int 0, .int 0, .int 0, .int 0, .int 0, .ref t0])), ((u13 0).1, .inl ((u13 0).2, 8, .inl (fun _ => 0))), (q14, .inr (0, [.ref (u15 0).1, .int 0, .int 0, .int 0, .int 0, .int 0, .int 0, .int 0, .int 0, .ref t0])), ((u15 0).1, .inl ((u15 0).2, 8, .inl (fun _ => 0))), (q16, .inr (0, [.ref (u17 0).1, .int 0, .int 0, .int 0, .int 0, .int 0, .int 0, .int 0, .int 0, .ref t0])), ((u17 0).1, .inl ((u17 0).2, 8, .inl (fun _ => 0)))] := hD
  refine lv_iinc (v := 8) (lv' := [(2, .int 8), (0, .ref h0), (1, .ref t0)]) hx hb (dck_at tX2_init 19 rfl) hl (k := 0) rfl (by decide) (by decide) rfl (fun ls hl => ?_)
  refine lv_goto (tgt := 15) hx hb (dck_at tX2_init 20 rfl) (by decide) ?_
  refine lv_iload_n hx hb (dck_at tX2_init 8 rfl) rfl (lv_at hl 0 rfl) ?_
  refine lv_bipush (v := 8) hx hb (dck_at tX2_init 9 rfl) (by decide) ?_
  refine lv_icmp_ge (tgt := 41) hx hb (dck_at tX2_init 10 rfl) (by decide) (fun c9 => ?_) (fun c9 => ?_)
  rotate_left
  · exact absurd (by decide) c9
  have hP9 := hP.sub (ws' := [(h0, .inr (1, [.int 0, .int 0, .ref q1])), (q1, .inl (c1, 8, .inr (.inr (.inr (.inr (va_up (va_up (va_up (va_up (va_up (va_up (va_up (va_up (fun _ => none) 0 (some q2)) 1 (some q4)) 2 (some q6)) 3 (some q8)) 4 (some q10)) 5 (some q12)) 6 (some q14)) 7 (some q16))))))), (q2, .inr (0, [.ref (u3 0).1, .int 0, .int 0, .int 0, .int 0, .int 0, .int 0, .int 0, .int 0, .ref t0])), ((u3 0).1, .inl ((u3 0).2, 8, .inl (fun _ => 0))), (q4, .inr (0, [.ref (u5 0).1, .int 0, .int 0, .int 0, .int 0, .int 0, .int 0, .int 0, .int 0, .ref t0])), ((u5 0).1, .inl ((u5 0).2, 8, .inl (fun _ => 0))), (q6, .inr (0, [.ref (u7 0).1, .int 0, .int 0, .int 0, .int 0, .int 0, .int 0, .int 0, .int 0, .ref t0])), ((u7 0).1, .inl ((u7 0).2, 8, .inl (fun _ => 0))), (q8, .inr (0, [.ref (u9 0).1, .int 0, .int 0, .int 0, .int 0, .int 0, .int 0, .int 0, .int 0, .ref t0])), ((u9 0).1, .inl ((u9 0).2, 8, .inl (fun _ => 0))), (q10, .inr (0, [.ref (u11 0).1, .int 0, .int 0, .int 0, .int 0, .int 0, .int 0, .int 0, .int 0, .ref t0])), ((u11 0).1, .inl ((u11 0).2, 8, .inl (fun _ => 0))), (q12, .inr (0, [.ref (u13 0).1, .int 0, .int 0, .int 0, .int 0, .int 0, .int 0, .int 0, .int 0, .ref t0])), ((u13 0).1, .inl ((u13 0).2, 8, .inl (fun _ => 0))), (q14, .inr (0, [.ref (u15 0).1, .int 0, .int 0, .int 0, .int 0, .int 0, .int 0, .int 0, .int 0, .ref t0])), ((u15 0).1, .inl ((u15 0).2, 8, .inl (fun _ => 0))), (q16, .inr (0, [.ref (u17 0).1, .int 0, .int 0, .int 0, .int 0, .int 0, .int 0, .int 0, .int 0, .ref t0])), ((u17 0).1, .inl ((u17 0).2, 8, .inl (fun _ => 0)))]) [0, 1, 2, 3, 4, 5, 6, 7, 8, 9, 10, 11, 12, 13, 14, 15, 16, 17] rfl
  have hD9 := hD.sub (ws' := [(h0, .inr (1, [.int 0, .int 0, .ref q1])), (q1, .inl (c1, 8, .inr (.inr (.inr (.inr (va_up (va_up (va_up (va_up (va_up (va_up (va_up (va_up (fun _ => none) 0 (some q2)) 1 (some q4)) 2 (some q6)) 3 (some q8)) 4 (some q10)) 5 (some q12)) 6 (some q14)) 7 (some q16))))))), (q2, .inr (0, [.ref (u3 0).1, .int 0, .int 0, .int 0, .int 0, .int 0, .int 0, .int 0, .int 0, .ref t0])), ((u3 0).1, .inl ((u3 0).2, 8, .inl (fun _ => 0))), (q4, .inr (0, [.ref (u5 0).1, .int 0, .int 0, .int 0, .int 0, .int 0, .int 0, .int 0, .int 0, .ref t0])), ((u5 0).1, .inl ((u5 0).2, 8, .inl (fun _ => 0))), (q6, .inr (0, [.ref (u7 0).1, .int 0, .int 0, .int 0, .int 0, .int 0, .int 0, .int 0, .int 0, .ref t0])), ((u7 0).1, .inl ((u7 0).2, 8, .inl (fun _ => 0))), (q8, .inr (0, [.ref (u9 0).1, .int 0, .int 0, .int 0, .int 0, .int 0, .int 0, .int 0, .int 0, .ref t0])), ((u9 0).1, .inl ((u9 0).2, 8, .inl (fun _ => 0))), (q10, .inr (0, [.ref (u11 0).1, .int 0, .int 0, .int 0, .int 0, .int 0, .int 0, .int 0, .int 0, .ref t0])), ((u11 0).1, .inl ((u11 0).2, 8, .inl (fun _ => 0))), (q12, .inr (0, [.ref (u13 0).1, .int 0, .int 0, .int 0, .int 0, .int 0, .int 0, .int 0, .int 0, .ref t0])), ((u13 0).1, .inl ((u13 0).2, 8, .inl (fun _ => 0))), (q14, .inr (0, [.ref (u15 0).1, .int 0, .int 0, .int 0, .int 0, .int 0, .int 0, .int 0, .int 0, .ref t0])), ((u15 0).1, .inl ((u15 0).2, 8, .inl (fun _ => 0))), (q16, .inr (0, [.ref (u17 0).1, .int 0, .int 0, .int 0, .int 0, .int 0, .int 0, .int 0, .int 0, .ref t0])), ((u17 0).1, .inl ((u17 0).2, 8, .inl (fun _ => 0)))]) [0, 1, 2, 3, 4, 5, 6, 7, 8, 9, 10, 11, 12, 13, 14, 15, 16, 17] (by decide) rfl
  have hK9 := hK.sub (tys' := [(c1, .object RX1), ((u3 0).2, .int), ((u5 0).2, .int), ((u7 0).2, .int), ((u9 0).2, .int), ((u11 0).2, .int), ((u13 0).2, .int), ((u15 0).2, .int), ((u17 0).2, .int)]) [0, 1, 2, 3, 4, 5, 6, 7, 8] rfl
  refine W.widen (k := 17) (n := 152) (Nat.le_of_ble_eq_true rfl) (Nat.le_of_ble_eq_true rfl) ?_
  exact W.vret hx hb hr (fun t ht hW => ⟨⟨(fun i => match i with | 0 => (q1, c1) | 1 => (q2, 0) | 2 => u3 0 | 3 => (q4, 0) | 4 => u5 0 | 5 => (q6, 0) | 6 => u7 0 | 7 => (q8, 0) | 8 => u9 0 | 9 => (q10, 0) | 10 => u11 0 | 11 => (q12, 0) | 12 => u13 0 | 13 => (q14, 0) | 14 => u15 0 | 15 => (q16, 0) | _ => u17 0), rfl, trivial, by rw [ht]; exact hP9, va_K.moved hW.alike hK9, hD9⟩, hS.F ht⟩) hS.2.2 (dck_at tX2_init 21 rfl)
def tbX3_init : List (Nat × Instr × Nat) := [(0, .aload_n 0, 1), (1, .invokespecial 3, 3), (4, .aload_n 0, 1), (5, .bipush 6, 2), (7, .newarray .int, 2), (9, .putfield 9, 3), (12, .aload_n 0, 1), (13, .bipush 6, 2), (15, .newarray .int, 2), (17, .putfield 15, 3), (20, .aload_n 0, 1), (21, .bipush 7, 2), (23, .anewarray 18, 3), (26, .putfield 20, 3), (29, .iconst 0, 1), (30, .istore_n 2, 1), (31, .iload_n 2, 1), (32, .bipush 6, 2), (34, .if_icmp .gt 23, 3), (37, .aload_n 0, 1), (38, .getfield 20, 3), (41, .iload_n 2, 1), (42, .new 18, 3), (45, .dup, 1), (46, .aload_n 1, 1), (47, .invokespecial 24, 3), (50, .aastore, 1), (51, .iinc 2 1, 3), (54, .goto (-23), 3), (57, .return_, 1)]
theorem tX3_init : dck cX3_init tbX3_init = true := by decide +kernel
set_option maxHeartbeats 8000000 in
set_option maxRecDepth 100000 in
theorem k_X3_init (l : Launch) (D : va_G) (X0 : Cx) (h0 t0 sz : Nat) : Met l yX3_init (Cond.code yX3_init cX3_init 3 none :: tb) ({ frames := 3, cells := 17, slots := 145, locals := 120 }) (va_Pc [.ref h0, .ref t0] (fun U => U.heap.size = sz ∧ va_P D classes [(h0, .inr (2, [.int 0, .int 0, .null, .null, .null]))] U.heap ∧ va_K D classes [] U ∧ va_D (fun _ => True) [(h0, .inr (2, [.int 0, .int 0, .null, .null, .null]))] ∧ Zs X0 h0 sz U)) (va_Qv (fun _ : Nat → Nat × ClassId => True) (fun u t => va_P D classes [(h0, .inr (2, [.int 0, .int 0, .ref (u 0).1, .ref (u 1).1, .ref (u 2).1])), ((u 0).1, .inl ((u 0).2, 6, .inl (fun _ => 0))), ((u 1).1, .inl ((u 1).2, 6, .inl (fun _ => 0))), ((u 2).1, .inl ((u 2).2, 7, .inr (.inr (.inr (.inr (va_up (va_up (va_up (va_up (va_up (va_up (va_up (fun _ => none) 0 (some (u 3).1)) 1 (some (u 5).1)) 2 (some (u 7).1)) 3 (some (u 9).1)) 4 (some (u 11).1)) 5 (some (u 13).1)) 6 (some (u 15).1))))))), ((u 3).1, .inr (0, [.ref (u 4).1, .int 0, .int 0, .int 0, .int 0, .int 0, .int 0, .int 0, .int 0, .ref t0])), ((u 4).1, .inl ((u 4).2, 8, .inl (fun _ => 0))), ((u 5).1, .inr (0, [.ref (u 6).1, .int 0, .int 0, .int 0, .int 0, .int 0, .int 0, .int 0, .int 0, .ref t0])), ((u 6).1, .inl ((u 6).2, 8, .inl (fun _ => 0))), ((u 7).1, .inr (0, [.ref (u 8).1, .int 0, .int 0, .int 0, .int 0, .int 0, .int 0, .int 0, .int 0, .ref t0])), ((u 8).1, .inl ((u 8).2, 8, .inl (fun _ => 0))), ((u 9).1, .inr (0, [.ref (u 10).1, .int 0, .int 0, .int 0, .int 0, .int 0, .int 0, .int 0, .int 0, .ref t0])), ((u 10).1, .inl ((u 10).2, 8, .inl (fun _ => 0))), ((u 11).1, .inr (0, [.ref (u 12).1, .int 0, .int 0, .int 0, .int 0, .int 0, .int 0, .int 0, .int 0, .ref t0])), ((u 12).1, .inl ((u 12).2, 8, .inl (fun _ => 0))), ((u 13).1, .inr (0, [.ref (u 14).1, .int 0, .int 0, .int 0, .int 0, .int 0, .int 0, .int 0, .int 0, .ref t0])), ((u 14).1, .inl ((u 14).2, 8, .inl (fun _ => 0))), ((u 15).1, .inr (0, [.ref (u 16).1, .int 0, .int 0, .int 0, .int 0, .int 0, .int 0, .int 0, .int 0, .ref t0])), ((u 16).1, .inl ((u 16).2, 8, .inl (fun _ => 0)))] t.heap ∧ va_K D classes [((u 0).2, .int), ((u 1).2, .int), ((u 2).2, .object RX1), ((u 4).2, .int), ((u 6).2, .int), ((u 8).2, .int), ((u 10).2, .int), ((u 12).2, .int), ((u 14).2, .int), ((u 16).2, .int)] t ∧ va_D (va_A [(h0, .inr (2, [.int 0, .int 0, .null, .null, .null]))] sz) [(h0, .inr (2, [.int 0, .int 0, .ref (u 0).1, .ref (u 1).1, .ref (u 2).1])), ((u 0).1, .inl ((u 0).2, 6, .inl (fun _ => 0))), ((u 1).1, .inl ((u 1).2, 6, .inl (fun _ => 0))), ((u 2).1, .inl ((u 2).2, 7, .inr (.inr (.inr (.inr (va_up (va_up (va_up (va_up (va_up (va_up (va_up (fun _ => none) 0 (some (u 3).1)) 1 (some (u 5).1)) 2 (some (u 7).1)) 3 (some (u 9).1)) 4 (some (u 11).1)) 5 (some (u 13).1)) 6 (some (u 15).1))))))), ((u 3).1, .inr (0, [.ref (u 4).1, .int 0, .int 0, .int 0, .int 0, .int 0, .int 0, .int 0, .int 0, .ref t0])), ((u 4).1, .inl ((u 4).2, 8, .inl (fun _ => 0))), ((u 5).1, .inr (0, [.ref (u 6).1, .int 0, .int 0, .int 0, .int 0, .int 0, .int 0, .int 0, .int 0, .ref t0])), ((u 6).1, .inl ((u 6).2, 8, .inl (fun _ => 0))), ((u 7).1, .inr (0, [.ref (u 8).1, .int 0, .int 0, .int 0, .int 0, .int 0, .int 0, .int 0, .int 0, .ref t0])), ((u 8).1, .inl ((u 8).2, 8, .inl (fun _ => 0))), ((u 9).1, .inr (0, [.ref (u 10).1, .int 0, .int 0, .int 0, .int 0, .int 0, .int 0, .int 0, .int 0, .ref t0])), ((u 10).1, .inl ((u 10).2, 8, .inl (fun _ => 0))), ((u 11).1, .inr (0, [.ref (u 12).1, .int 0, .int 0, .int 0, .int 0, .int 0, .int 0, .int 0, .int 0, .ref t0])), ((u 12).1, .inl ((u 12).2, 8, .inl (fun _ => 0))), ((u 13).1, .inr (0, [.ref (u 14).1, .int 0, .int 0, .int 0, .int 0, .int 0, .int 0, .int 0, .int 0, .ref t0])), ((u 14).1, .inl ((u 14).2, 8, .inl (fun _ => 0))), ((u 15).1, .inr (0, [.ref (u 16).1, .int 0, .int 0, .int 0, .int 0, .int 0, .int 0, .int 0, .int 0, .ref t0])), ((u 16).1, .inl ((u 16).2, 8, .inl (fun _ => 0)))]) (va_A [(h0, .inr (2, [.int 0, .int 0, .null, .null, .null]))] sz)) 17 145 (va_A [(h0, .inr (2, [.int 0, .int 0, .null, .null, .null]))] sz) := by
  refine Met.ofW (cc := cX3_init) (maxL := 3) (ret := none) (by decide) rfl ?_
  intro p e s m args below meth c s₁ B hml hv
  obtain ⟨rfl, hsz, hP, hK, hD0, hZ⟩ := hv
  have hx := B.exec
  have hb := B.bytes
  have hr := B.returns
  have hts0 := atoms_spec (ws := Cond.code yX3_init cX3_init 3 none :: tb) B.pre
  have hts : ∀ w ∈ tb, w.before _ s = true := fun w hw => hts0 w (List.mem_cons_of_mem _ hw)
  have hown : s.vm.findClass RX3 = some m.cls := findClass_of_methodNamed B.named
  have hlocks := B.notSynchronized
  have hin : meth.name = "<init>" := (name_of_methodNamed B.named B.method).1
  subst hsz
  have hD := hD0.self (sz := s.heap.size)
  generalize hAe : va_A [(h0, .inr (2, [.int 0, .int 0, .null, .null, .null]))] s.heap.size = A at hD ⊢
  have hA : ∀ q : Nat, s.heap.size ≤ q → A q := fun q h => by rw [← hAe]; exact Or.inr h
  have hAb : ∀ q : Nat, A q → xA X0 q := fun q h => by rw [← hAe] at h; exact hZ.below h
  have hS : va_S A s.heap s.heap [] := va_S.rf
  have hP : va_P D classes [(h0, .inr (2, [.int 0, .int 0, .null, .null, .null]))] s.heap := hP
  have hl := lv_entry ([.ref h0, .ref t0]) (n := 3) (Nat.le_of_ble_eq_true rfl)
  rw [lg_entry_eq]
  generalize (lg_sl ([.ref h0, .ref t0]) ++ List.replicate (3 - (lg_sl ([.ref h0, .ref t0])).length) Slot.unset).toArray = ls at hl ⊢
  have hl : lv_has ls 3 [(0, .ref h0), (1, .ref t0)] := hl
  refine lv_aload_n hx hb (dck_at tX3_init 0 rfl) rfl (lv_at hl 0 rfl) ?_
  refine W.objInit hx hb hown (hts _ wm_X3_3) (hts _ wi_obj) (hts _ wc_obj) rfl (by rw [hml]; exact hl.1) rfl (dck_at tX3_init 1 rfl) (Nat.le_of_ble_eq_true rfl) (Nat.le_of_ble_eq_true rfl) ?_
  refine W.eq (g2 := F0 m 4 ls []) rfl ?_
  refine lv_aload_n hx hb (dck_at tX3_init 2 rfl) rfl (lv_at hl 0 rfl) ?_
  refine lv_bipush (v := 6) hx hb (dck_at tX3_init 3 rfl) (by decide) ?_
  refine va_newa (atype := .int) (ty := .int) (a0 := (6, .inl (fun _ => 0))) hx hb (hts _ wa_int) rfl hK hP hD hS hA (fun _ => rfl) (by decide) (by decide) (by decide) (Nat.le_of_ble_eq_true rfl) (Nat.le_of_ble_eq_true rfl) (dck_at tX3_init 4 rfl) (fun q1 c1 H hK hP hD hS => ?_)
  have hP : va_P D classes [(h0, .inr (2, [.int 0, .int 0, .null, .null, .null])), (q1, .inl (c1, 6, .inl (fun _ => 0)))] H := hP
  have hD : va_D A [(h0, .inr (2, [.int 0, .int 0, .null, .null, .null])), (q1, .inl (c1, 6, .inl (fun _ => 0)))] := hD
  have hK : va_K D classes [(c1, .int)] s := hK
  refine W.widen (k := 1) (n := 6) (Nat.le_of_ble_eq_true rfl) (Nat.le_of_ble_eq_true rfl) ?_
  refine va_putF (D := D) (ci := 2) (v := .ref q1) (ty := .array .int) (C := RX3) (T := TX3) (N := 5) hx hb hts iX3 tyX3 tyX3_ok nmX3 hown hK hP hD hS 0 rfl rfl 2 (by decide) (hts _ wf_X3_9) (fun _ h9 => h9) rfl hin rfl (by decide +kernel) rfl rfl (Nat.le_of_ble_eq_true rfl) (dck_at tX3_init 5 rfl) (fun H locs hP hD hS => ?_)
  have hP : va_P D classes [(h0, .inr (2, [.int 0, .int 0, .ref q1, .null, .null])), (q1, .inl (c1, 6, .inl (fun _ => 0)))] H := hP
  have hD : va_D A [(h0, .inr (2, [.int 0, .int 0, .ref q1, .null, .null])), (q1, .inl (c1, 6, .inl (fun _ => 0)))] := hD
  refine lv_aload_n hx hb (dck_at tX3_init 6 rfl) rfl (lv_at hl 0 rfl) ?_
  refine lv_bipush (v := 6) hx hb (dck_at tX3_init 7 rfl) (by decide) ?_
  refine va_newa (atype := .int) (ty := .int) (a0 := (6, .inl (fun _ => 0))) hx hb (hts _ wa_int) rfl hK hP hD hS hA (fun _ => rfl) (by decide) (by decide) (by decide) (Nat.le_of_ble_eq_true rfl) (Nat.le_of_ble_eq_true rfl) (dck_at tX3_init 8 rfl) (fun q2 c2 H hK hP hD hS => ?_)
  have hP : va_P D classes [(h0, .inr (2, [.int 0, .int 0, .ref q1, .null, .null])), (q1, .inl (c1, 6, .inl (fun _ => 0))), (q2, .inl (c2, 6, .inl (fun _ => 0)))] H := hP
  have hD : va_D A [(h0, .inr (2, [.int 0, .int 0, .ref q1, .null, .null])), (q1, .inl (c1, 6, .inl (fun _ => 0))), (q2, .inl (c2, 6, .inl (fun _ => 0)))] := hD
  have hK : va_K D classes [(c1, .int), (c2, .int)] s := hK
  refine W.widen (k := 2) (n := 12) (Nat.le_of_ble_eq_true rfl) (Nat.le_of_ble_eq_true rfl) ?_
  refine va_putF (D := D) (ci := 2) (v := .ref q2) (ty := .array .int) (C := RX3) (T := TX3) (N := 5) hx hb hts iX3 tyX3 tyX3_ok nmX3 hown hK hP hD hS 0 rfl rfl 3 (by decide) (hts _ wf_X3_15) (fun _ h9 => h9) rfl hin rfl (by decide +kernel) rfl rfl (Nat.le_of_ble_eq_true rfl) (dck_at tX3_init 9 rfl) (fun H locs hP hD hS => ?_)
  have hP : va_P D classes [(h0, .inr (2, [.int 0, .int 0, .ref q1, .ref q2, .null])), (q1, .inl (c1, 6, .inl (fun _ => 0))), (q2, .inl (c2, 6, .inl (fun _ => 0)))] H := hP
  have hD : va_D A [(h0, .inr (2, [.int 0, .int 0, .ref q1, .ref q2, .null])), (q1, .inl (c1, 6, .inl (fun _ => 0))), (q2, .inl (c2, 6, .inl (fun _ => 0)))] := hD
  refine lv_aload_n hx hb (dck_at tX3_init 10 rfl) rfl (lv_at hl 0 rfl) ?_
  refine lv_bipush (v := 7) hx hb (dck_at tX3_init 11 rfl) (by decide) ?_
  refine va_newq (C := RX1) (N' := 7) hx hb hown (hts _ wl_X3_18) hZ.1 hK hP hD hS hA (by decide) (by decide) (by decide) (Nat.le_of_ble_eq_true rfl) (Nat.le_of_ble_eq_true rfl) (dck_at tX3_init 12 rfl) (fun q3 c3 H hK hP hD hS => ?_)
  have hP : va_P D classes [(h0, .inr (2, [.int 0, .int 0, .ref q1, .ref q2, .null])), (q1, .inl (c1, 6, .inl (fun _ => 0))), (q2, .inl (c2, 6, .inl (fun _ => 0))), (q3, .inl (c3, 7, .inr (.inr (.inr (.inr (fun _ => none))))))] H := hP
  have hD : va_D A [(h0, .inr (2, [.int 0, .int 0, .ref q1, .ref q2, .null])), (q1, .inl (c1, 6, .inl (fun _ => 0))), (q2, .inl (c2, 6, .inl (fun _ => 0))), (q3, .inl (c3, 7, .inr (.inr (.inr (.inr (fun _ => none))))))] := hD
  have hK : va_K D classes [(c1, .int), (c2, .int), (c3, .object RX1)] s := hK
  refine W.widen (k := 3) (n := 19) (Nat.le_of_ble_eq_true rfl) (Nat.le_of_ble_eq_true rfl) ?_
  refine va_putF (D := D) (ci := 2) (v := .ref q3) (ty := .array (.object RX1)) (C := RX3) (T := TX3) (N := 5) hx hb hts iX3 tyX3 tyX3_ok nmX3 hown hK hP hD hS 0 rfl rfl 4 (by decide) (hts _ wf_X3_20) (fun _ h9 => h9) rfl hin rfl (by decide +kernel) rfl rfl (Nat.le_of_ble_eq_true rfl) (dck_at tX3_init 13 rfl) (fun H locs hP hD hS => ?_)
  have hP : va_P D classes [(h0, .inr (2, [.int 0, .int 0, .ref q1, .ref q2, .ref q3])), (q1, .inl (c1, 6, .inl (fun _ => 0))), (q2, .inl (c2, 6, .inl (fun _ => 0))), (q3, .inl (c3, 7, .inr (.inr (.inr (.inr (fun _ => none))))))] H := hP
  have hD : va_D A [(h0, .inr (2, [.int 0, .int 0, .ref q1, .ref q2, .ref q3])), (q1, .inl (c1, 6, .inl (fun _ => 0))), (q2, .inl (c2, 6, .inl (fun _ => 0))), (q3, .inl (c3, 7, .inr (.inr (.inr (.inr (fun _ => none))))))] := hD
  refine lv_iconst (v := 0) hx hb (dck_at tX3_init 14 rfl) (by decide) ?_
  refine lv_istore_n (lv' := [(2, .int 0), (0, .ref h0), (1, .ref t0)]) hx hb (dck_at tX3_init 15 rfl) rfl hl (by decide) rfl (fun ls hl => ?_)
  refine lv_iload_n hx hb (dck_at tX3_init 16 rfl) rfl (lv_at hl 0 rfl) ?_
  refine lv_bipush (v := 6) hx hb (dck_at tX3_init 17 rfl) (by decide) ?_
  refine lv_icmp_gt (tgt := 57) hx hb (dck_at tX3_init 18 rfl) (by decide) (fun c9 => ?_) (fun c9 => ?_)
  · exact absurd c9 (by decide)
  refine lv_aload_n hx hb (dck_at tX3_init 19 rfl) rfl (lv_at hl 1 rfl) ?_
  refine va_get (D := D) (ci := 2) (v := .ref q3) (C := RX3) (T := TX3) (N := 5) hx hb hts iX3 hown hK hP 0 rfl rfl 4 (by decide) (hts _ wf_X3_20) (fun _ h9 => h9) rfl (dck_at tX3_init 20 rfl) ?_
  refine lv_iload_n hx hb (dck_at tX3_init 21 rfl) rfl (lv_at hl 0 rfl) ?_
  refine va_new (ci := 0) (fs := [.null, .int 0, .int 0, .int 0, .int 0, .int 0, .int 0, .int 0, .int 0, .null]) (C := RX1) (T := TX1) (N := 10) hx hb hts iX1 tyX1 tyX1_ok hown (hts _ wl_X3_18) (hts _ wb_X1) (hts _ wn_X1) hK hP hD hS hA rfl (fun j hj => by rcases (show j = 0 ∨ j = 1 ∨ j = 2 ∨ j = 3 ∨ j = 4 ∨ j = 5 ∨ j = 6 ∨ j = 7 ∨ j = 8 ∨ j = 9 by omega) with rfl | rfl | rfl | rfl | rfl | rfl | rfl | rfl | rfl | rfl <;> rfl) (Nat.le_of_ble_eq_true rfl) (Nat.le_of_ble_eq_true rfl) (dck_at tX3_init 22 rfl) (fun q4 H hP hD hS => ?_)
  have hP : va_P D classes [(h0, .inr (2, [.int 0, .int 0, .ref q1, .ref q2, .ref q3])), (q1, .inl (c1, 6, .inl (fun _ => 0))), (q2, .inl (c2, 6, .inl (fun _ => 0))), (q3, .inl (c3, 7, .inr (.inr (.inr (.inr (fun _ => none)))))), (q4, .inr (0, [.null, .int 0, .int 0, .int 0, .int 0, .int 0, .int 0, .int 0, .int 0, .null]))] H := hP
  have hD : va_D A [(h0, .inr (2, [.int 0, .int 0, .ref q1, .ref q2, .ref q3])), (q1, .inl (c1, 6, .inl (fun _ => 0))), (q2, .inl (c2, 6, .inl (fun _ => 0))), (q3, .inl (c3, 7, .inr (.inr (.inr (.inr (fun _ => none)))))), (q4, .inr (0, [.null, .int 0, .int 0, .int 0, .int 0, .int 0, .int 0, .int 0, .int 0, .null]))] := hD
  refine W.widen (k := 4) (n := 29) (Nat.le_of_ble_eq_true rfl) (Nat.le_of_ble_eq_true rfl) ?_
  refine lv_dup hx hb (dck_at tX3_init 23 rfl) rfl ?_
  refine lv_aload_n hx hb (dck_at tX3_init 24 rfl) rfl (lv_at hl 2 rfl) ?_
  have hPc := hP.sub (ws' := [(q4, .inr (0, [.null, .int 0, .int 0, .int 0, .int 0, .int 0, .int 0, .int 0, .int 0, .null]))]) [4] rfl
  have hDc := hD.sub (ws' := [(q4, .inr (0, [.null, .int 0, .int 0, .int 0, .int 0, .int 0, .int 0, .int 0, .int 0, .null]))]) [4] (by decide) rfl
  have hKc := hK.sub (tys' := []) [] rfl
  have hFc := va_free (wc := [(q4, .inr (0, [.null, .int 0, .int 0, .int 0, .int 0, .int 0, .int 0, .int 0, .int 0, .null]))]) hD hS hA [4] rfl
  refine va_callv (va_runI (As := [.ref t0]) (rest := [.ref q4, .int 0, .ref q3]) ⟨hx, hb, hml, hown, hts⟩ (k_X1_init l D X0 q4 t0 H.size) (cwI 1 hts (tb_gi (ws := []) (fun w hw => by cases hw) wc_X1_init) rfl rfl rfl (hts _ wn_X1) (hts _ wm_X3_24) (hts _ wi_X1_init) rfl hyX1_init.2 ⟨Nat.le_of_ble_eq_true rfl, Nat.le_of_ble_eq_true rfl⟩) ⟨fun a U g mk q => by obtain ⟨q0, q1, qP, qK, qD, qZ⟩ := q; exact ⟨q0, q1, qP, va_K.moved (u := U) (U := U.calling g mk a) (Vm.Alike.refl U.vm) qK, qD, qZ.calls⟩, fun U hU hW => ⟨rfl, by rw [hU], by rw [hU]; exact hPc, va_K.moved hW.alike hKc, hDc.weaken (fun _ _ _ _ => trivial), hZ.moveA (Nat.le_refl _) hW hS hU hAb (hAb _ (hD.2 4 _ rfl))⟩⟩ rfl rfl hl.1 rfl (lv_room (Nat.le_of_ble_eq_true rfl)) (dck_at tX3_init 25 rfl) ⟨Nat.le_of_ble_eq_true rfl, Nat.le_of_ble_eq_true rfl⟩) hS (fun q _ h => hFc q h) hFc (fun u5 t H1 locs ht hvm hw hB hz1 hk1 hS => ?_)
  obtain ⟨hP1, hK1, hD1⟩ := hB
  rw [ht] at hP1
  have hK1 := va_K.moved hvm.symm hK1
  obtain ⟨hP, hD⟩ := va_join (wr := [(h0, .inr (2, [.int 0, .int 0, .ref q1, .ref q2, .ref q3])), (q1, .inl (c1, 6, .inl (fun _ => 0))), (q2, .inl (c2, 6, .inl (fun _ => 0))), (q3, .inl (c3, 7, .inr (.inr (.inr (.inr (fun _ => none))))))]) (w1 := [(q4, .inr (0, [.ref (u5 0).1, .int 0, .int 0, .int 0, .int 0, .int 0, .int 0, .int 0, .int 0, .ref t0])), ((u5 0).1, .inl ((u5 0).2, 8, .inl (fun _ => 0)))]) hP hD [4] [0, 1, 2, 3] rfl rfl (by decide) (by decide) hk1 hFc hP1 hD1
  have hK := hK.app hK1
  generalize H1 = H at hP hS ⊢
  have hP : va_P D classes [(h0, .inr (2, [.int 0, .int 0, .ref q1, .ref q2, .ref q3])), (q1, .inl (c1, 6, .inl (fun _ => 0))), (q2, .inl (c2, 6, .inl (fun _ => 0))), (q3, .inl (c3, 7, .inr (.inr (.inr (.inr (fun _ => none)))))), (q4, .inr (0, [.ref (u5 0).1, .int 0, .int 0, .int 0, .int 0, .int 0, .int 0, .int 0, .int 0, .ref t0])), ((u5 0).1, .inl ((u5 0).2, 8, .inl (fun _ => 0)))] H := hP
  have hD : va_D A [(h0, .inr (2, [.int 0, .int 0, .ref q1, .ref q2, .ref q3])), (q1, .inl (c1, 6, .inl (fun _ => 0))), (q2, .inl (c2, 6, .inl (fun _ => 0))), (q3, .inl (c3, 7, .inr (.inr (.inr (.inr (fun _ => none)))))), (q4, .inr (0, [.ref (u5 0).1, .int 0, .int 0, .int 0, .int 0, .int 0, .int 0, .int 0, .int 0, .ref t0])), ((u5 0).1, .inl ((u5 0).2, 8, .inl (fun _ => 0)))] := hD
  have hK : va_K D classes [(c1, .int), (c2, .int), (c3, .object RX1), ((u5 0).2, .int)] s := hK
  refine W.widen (k := 5) (n := 37) (Nat.le_of_ble_eq_true rfl) (Nat.le_of_ble_eq_true rfl) ?_
  refine va_astq (r := (RX1, TX1, 10)) hx hb hK hP hD hS 3 2 4 0 rfl rfl rfl rfl (by unfold vp_in; decide) (dck_at tX3_init 26 rfl) (fun H locs hP hD hS => ?_)
  have hP : va_P D classes [(h0, .inr (2, [.int 0, .int 0, .ref q1, .ref q2, .ref q3])), (q1, .inl (c1, 6, .inl (fun _ => 0))), (q2, .inl (c2, 6, .inl (fun _ => 0))), (q3, .inl (c3, 7, .inr (.inr (.inr (.inr (va_up (fun _ => none) 0 (some q4))))))), (q4, .inr (0, [.ref (u5 0).1, .int 0, .int 0, .int 0, .int 0, .int 0, .int 0, .int 0, .int 0, .ref t0])), ((u5 0).1, .inl ((u5 0).2, 8, .inl (fun _ => 0)))] H := hP
  have hD : va_D A [(h0, .inr (2, [.int 0, .int 0, .ref q1, .ref q2, .ref q3])), (q1, .inl (c1, 6, .inl (fun _ => 0))), (q2, .inl (c2, 6, .inl (fun _ => 0))), (q3, .inl (c3, 7, .inr (.inr (.inr (.inr (va_up (fun _ => none) 0 (some q4))))))), (q4, .inr (0, [.ref (u5 0).1, .int 0, .int 0, .int 0, .int 0, .int 0, .int 0, .int 0, .int 0, .ref t0])), ((u5 0).1, .inl ((u5 0).2, 8, .inl (fun _ => 0)))] := hD
  refine lv_iinc (v := 1) (lv' := [(2, .int 1), (0, .ref h0), (1, .ref t0)]) hx hb (dck_at tX3_init 27 rfl) hl (k := 0) rfl (by decide) (by decide) rfl (fun ls hl => ?_)
  refine lv_goto (tgt := 31) hx hb (dck_at tX3_init 28 rfl) (by decide) ?_
  refine lv_iload_n hx hb (dck_at tX3_init 16 rfl) rfl (lv_at hl 0 rfl) ?_
  refine lv_bipush (v := 6) hx hb (dck_at tX3_init 17 rfl) (by decide) ?_
  refine lv_icmp_gt (tgt := 57) hx hb (dck_at tX3_init 18 rfl) (by decide) (fun c9 => ?_) (fun c9 => ?_)
  · exact absurd c9 (by decide)
  refine lv_aload_n hx hb (dck_at tX3_init 19 rfl) rfl (lv_at hl 1 rfl) ?_
  refine va_get (D := D) (ci := 2) (v := .ref q3) (C := RX3) (T := TX3) (N := 5) hx hb hts iX3 hown hK hP 0 rfl rfl 4 (by decide) (hts _ wf_X3_20) (fun _ h9 => h9) rfl (dck_at tX3_init 20 rfl) ?_
  refine lv_iload_n hx hb (dck_at tX3_init 21 rfl) rfl (lv_at hl 0 rfl) ?_
  refine va_new (ci := 0) (fs := [.null, .int 0, .int 0, .int 0, .int 0, .int 0, .int 0, .int 0, .int 0, .null]) (C := RX1) (T := TX1) (N := 10) hx hb hts iX1 tyX1 tyX1_ok hown (hts _ wl_X3_18) (hts _ wb_X1) (hts _ wn_X1) hK hP hD hS hA rfl (fun j hj => by rcases (show j = 0 ∨ j = 1 ∨ j = 2 ∨ j = 3 ∨ j = 4 ∨ j = 5 ∨ j = 6 ∨ j = 7 ∨ j = 8 ∨ j = 9 by omega) with rfl | rfl | rfl | rfl | rfl | rfl | rfl | rfl | rfl | rfl <;> rfl) (Nat.le_of_ble_eq_true rfl) (Nat.le_of_ble_eq_true rfl) (dck_at tX3_init 22 rfl) (fun q6 H hP hD hS => ?_)
  have hP : va_P D classes [(h0, .inr (2, [.int 0, .int 0, .ref q1, .ref q2, .ref q3])), (q1, .inl (c1, 6, .inl (fun _ => 0))), (q2, .inl (c2, 6, .inl (fun _ => 0))), (q3, .inl (c3, 7, .inr (.inr (.inr (.inr (va_up (fun _ => none) 0 (some q4))))))), (q4, .inr (0, [.ref (u5 0).1, .int 0, .int 0, .int 0, .int 0, .int 0, .int 0, .int 0, .int 0, .ref t0])), ((u5 0).1, .inl ((u5 0).2, 8, .inl (fun _ => 0))), (q6, .inr (0, [.null, .int 0, .int 0, .int 0, .int 0, .int 0, .int 0, .int 0, .int 0, .null]))] H := hP
  have hD : va_D A [(h0, .inr (2, [.int 0, .int 0, .ref q1, .ref q2, .ref q3])), (q1, .inl (c1, 6, .inl (fun _ => 0))), (q2, .inl (c2, 6, .inl (fun _ => 0))), (q3, .inl (c3, 7, .inr (.inr (.inr (.inr (va_up (fun _ => none) 0 (some q4))))))), (q4, .inr (0, [.ref (u5 0).1, .int 0, .int 0, .int 0, .int 0, .int 0, .int 0, .int 0, .int 0, .ref t0])), ((u5 0).1, .inl ((u5 0).2, 8, .inl (fun _ => 0))), (q6, .inr (0, [.null, .int 0, .int 0, .int 0, .int 0, .int 0, .int 0, .int 0, .int 0, .null]))] := hD
  refine W.widen (k := 6) (n := 47) (Nat.le_of_ble_eq_true rfl) (Nat.le_of_ble_eq_true rfl) ?_
  refine lv_dup hx hb (dck_at tX3_init 23 rfl) rfl ?_
  refine lv_aload_n hx hb (dck_at tX3_init 24 rfl) rfl (lv_at hl 2 rfl) ?_
  have hPc := hP.sub (ws' := [(q6, .inr (0, [.null, .int 0, .int 0, .int 0, .int 0, .int 0, .int 0, .int 0, .int 0, .null]))]) [6] rfl
  have hDc := hD.sub (ws' := [(q6, .inr (0, [.null, .int 0, .int 0, .int 0, .int 0, .int 0, .int 0, .int 0, .int 0, .null]))]) [6] (by decide) rfl
  have hKc := hK.sub (tys' := []) [] rfl
  have hFc := va_free (wc := [(q6, .inr (0, [.null, .int 0, .int 0, .int 0, .int 0, .int 0, .int 0, .int 0, .int 0, .null]))]) hD hS hA [6] rfl
  refine va_callv (va_runI (As := [.ref t0]) (rest := [.ref q6, .int 1, .ref q3]) ⟨hx, hb, hml, hown, hts⟩ (k_X1_init l D X0 q6 t0 H.size) (cwI 1 hts (tb_gi (ws := []) (fun w hw => by cases hw) wc_X1_init) rfl rfl rfl (hts _ wn_X1) (hts _ wm_X3_24) (hts _ wi_X1_init) rfl hyX1_init.2 ⟨Nat.le_of_ble_eq_true rfl, Nat.le_of_ble_eq_true rfl⟩) ⟨fun a U g mk q => by obtain ⟨q0, q1, qP, qK, qD, qZ⟩ := q; exact ⟨q0, q1, qP, va_K.moved (u := U) (U := U.calling g mk a) (Vm.Alike.refl U.vm) qK, qD, qZ.calls⟩, fun U hU hW => ⟨rfl, by rw [hU], by rw [hU]; exact hPc, va_K.moved hW.alike hKc, hDc.weaken (fun _ _ _ _ => trivial), hZ.moveA (Nat.le_refl _) hW hS hU hAb (hAb _ (hD.2 6 _ rfl))⟩⟩ rfl rfl hl.1 rfl (lv_room (Nat.le_of_ble_eq_true rfl)) (dck_at tX3_init 25 rfl) ⟨Nat.le_of_ble_eq_true rfl, Nat.le_of_ble_eq_true rfl⟩) hS (fun q _ h => hFc q h) hFc (fun u7 t H1 locs ht hvm hw hB hz1 hk1 hS => ?_)
  obtain ⟨hP1, hK1, hD1⟩ := hB
  rw [ht] at hP1
  have hK1 := va_K.moved hvm.symm hK1
  obtain ⟨hP, hD⟩ := va_join (wr := [(h0, .inr (2, [.int 0, .int 0, .ref q1, .ref q2, .ref q3])), (q1, .inl (c1, 6, .inl (fun _ => 0))), (q2, .inl (c2, 6, .inl (fun _ => 0))), (q3, .inl (c3, 7, .inr (.inr (.inr (.inr (va_up (fun _ => none) 0 (some q4))))))), (q4, .inr (0, [.ref (u5 0).1, .int 0, .int 0, .int 0, .int 0, .int 0, .int 0, .int 0, .int 0, .ref t0])), ((u5 0).1, .inl ((u5 0).2, 8, .inl (fun _ => 0)))]) (w1 := [(q6, .inr (0, [.ref (u7 0).1, .int 0, .int 0, .int 0, .int 0, .int 0, .int 0, .int 0, .int 0, .ref t0])), ((u7 0).1, .inl ((u7 0).2, 8, .inl (fun _ => 0)))]) hP hD [6] [0, 1, 2, 3, 4, 5] rfl rfl (by decide) (by decide) hk1 hFc hP1 hD1
  have hK := hK.app hK1
  generalize H1 = H at hP hS ⊢
  have hP : va_P D classes [(h0, .inr (2, [.int 0, .int 0, .ref q1, .ref q2, .ref q3])), (q1, .inl (c1, 6, .inl (fun _ => 0))), (q2, .inl (c2, 6, .inl (fun _ => 0))), (q3, .inl (c3, 7, .inr (.inr (.inr (.inr (va_up (fun _ => none) 0 (some q4))))))), (q4, .inr (0, [.ref (u5 0).1, .int 0, .int 0, .int 0, .int 0, .int 0, .int 0, .int 0, .int 0, .ref t0])), ((u5 0).1, .inl ((u5 0).2, 8, .inl (fun _ => 0))), (q6, .inr (0, [.ref (u7 0).1, .int 0, .int 0, .int 0, .int 0, .int 0, .int 0, .int 0, .int 0, .ref t0])), ((u7 0).1, .inl ((u7 0).2, 8, .inl (fun _ => 0)))] H := hP
  have hD : va_D A [(h0, .inr (2, [.int 0, .int 0, .ref q1, .ref q2, .ref q3])), (q1, .inl (c1, 6, .inl (fun _ => 0))), (q2, .inl (c2, 6, .inl (fun _ => 0))), (q3, .inl (c3, 7, .inr (.inr (.inr (.inr (va_up (fun _ => none) 0 (some q4))))))), (q4, .inr (0, [.ref (u5 0).1, .int 0, .int 0, .int 0, .int 0, .int 0, .int 0, .int 0, .int 0, .ref t0])), ((u5 0).1, .inl ((u5 0).2, 8, .inl (fun _ => 0))), (q6, .inr (0, [.ref (u7 0).1, .int 0, .int 0, .int 0, .int 0, .int 0, .int 0, .int 0, .int 0, .ref t0])), ((u7 0).1, .inl ((u7 0).2, 8, .inl (fun _ => 0)))] := hD
  have hK : va_K D classes [(c1, .int), (c2, .int), (c3, .object RX1), ((u5 0).2, .int), ((u7 0).2, .int)] s := hK
  refine W.widen (k := 7) (n := 55) (Nat.le_of_ble_eq_true rfl) (Nat.le_of_ble_eq_true rfl) ?_
  refine va_astq (r := (RX1, TX1, 10)) hx hb hK hP hD hS 3 2 6 0 rfl rfl rfl rfl (by unfold vp_in; decide) (dck_at tX3_init 26 rfl) (fun H locs hP hD hS => ?_)
  have hP : va_P D classes [(h0, .inr (2, [.int 0, .int 0, .ref q1, .ref q2, .ref q3])), (q1, .inl (c1, 6, .inl (fun _ => 0))), (q2, .inl (c2, 6, .inl (fun _ => 0))), (q3, .inl (c3, 7, .inr (.inr (.inr (.inr (va_up (va_up (fun _ => none) 0 (some q4)) 1 (some q6))))))), (q4, .inr (0, [.ref (u5 0).1, .int 0, .int 0, .int 0, .int 0, .int 0, .int 0, .int 0, .int 0, .ref t0])), ((u5 0).1, .inl ((u5 0).2, 8, .inl (fun _ => 0))), (q6, .inr (0, [.ref (u7 0).1, .int 0, .int 0, .int 0, .int 0, .int 0, .int 0, .int 0, .int 0, .ref t0])), ((u7 0).1, .inl ((u7 0).2, 8, .inl (fun _ => 0)))] H := hP
  have hD : va_D A [(h0, .inr (2, [.int 0, .int 0, .ref q1, .ref q2, .ref q3])), (q1, .inl (c1, 6, .inl (fun _ => 0))), (q2, .inl (c2, 6, .inl (fun _ => 0))), (q3, .inl (c3, 7, .inr (.inr (.inr (.inr (va_up (va_up (fun _ => none) 0 (some q4)) 1 (some q6))))))), (q4, .inr (0, [.ref (u5 0).1, .int 0, .int 0, .int 0, .int 0, .int 0, .int 0, .int 0, .int 0, .ref t0])), ((u5 0).1, .inl ((u5 0).2, 8, .inl (fun _ => 0))), (q6, .inr (0, [.ref (u7 0).1, .int 0, .int 0, .int 0, .int 0, .int 0, .int 0, .int 0, .int 0, .ref t0])), ((u7 0).1, .inl ((u7 0).2, 8, .inl (fun _ => 0)))] := hD
  refine lv_iinc (v := 2) (lv' := [(2, .int 2), (0, .ref h0), (1, .ref t0)]) hx hb (dck_at tX3_init 27 rfl) hl (k := 0) rfl (by decide) (by decide) rfl (fun ls hl => ?_)
  refine lv_goto (tgt := 31) hx hb (dck_at tX3_init 28 rfl) (by decide) ?_
  refine lv_iload_n hx hb (dck_at tX3_init 16 rfl) rfl (lv_at hl 0 rfl) ?_
  refine lv_bipush (v := 6) hx hb (dck_at tX3_init 17 rfl) (by decide) ?_
  refine lv_icmp_gt (tgt := 57) hx hb (dck_at tX3_init 18 rfl) (by decide) (fun c9 => ?_) (fun c9 => ?_)
  · exact absurd c9 (by decide)
  refine lv_aload_n hx hb (dck_at tX3_init 19 rfl) rfl (lv_at hl 1 rfl) ?_
  refine va_get (D := D) (ci := 2) (v := .ref q3) (C := RX3) (T := TX3) (N := 5) hx hb hts iX3 hown hK hP 0 rfl rfl 4 (by decide) (hts _ wf_X3_20) (fun _ h9 => h9) rfl (dck_at tX3_init 20 rfl) ?_
  refine lv_iload_n hx hb (dck_at tX3_init 21 rfl) rfl (lv_at hl 0 rfl) ?_
  refine va_new (ci := 0) (fs := [.null, .int 0, .int 0, .int 0, .int 0, .int 0, .int 0, .int 0, .int 0, .null]) (C := RX1) (T := TX1) (N := 10) hx hb hts iX1 tyX1 tyX1_ok hown (hts _ wl_X3_18) (hts _ wb_X1) (hts _ wn_X1) hK hP hD hS hA rfl (fun j hj => by rcases (show j = 0 ∨ j = 1 ∨ j = 2 ∨ j = 3 ∨ j = 4 ∨ j = 5 ∨ j = 6 ∨ j = 7 ∨ j = 8 ∨ j = 9 by omega) with rfl | rfl | rfl | rfl | rfl | rfl | rfl | rfl | rfl | rfl <;> rfl) (Nat.le_of_ble_eq_true rfl) (Nat.le_of_ble_eq_true rfl) (dck_at tX3_init 22 rfl) (fun q8 H hP hD hS => ?_)
  have hP : va_P D classes [(h0, .inr (2, [.int 0, .int 0, .ref q1, .ref q2, .ref q3])), (q1, .inl (c1, 6, .inl (fun _ => 0))), (q2, .inl (c2, 6, .inl (fun _ => 0))), (q3, .inl (c3, 7, .inr (.inr (.inr (.inr (va_up (va_up (fun _ => none) 0 (some q4)) 1 (some q6))))))), (q4, .inr (0, [.ref (u5 0).1, .int 0, .int 0, .int 0, .int 0, .int 0, .int 0, .int 0, .int 0, .ref t0])), ((u5 0).1, .inl ((u5 0).2, 8, .inl (fun _ => 0))), (q6, .inr (0, [.ref (u7 0).1, .int 0, .int 0, .int 0, .int 0, .int 0, .int 0, .int 0, .int 0, .ref t0])), ((u7 0).1, .inl ((u7 0).2, 8, .inl (fun _ => 0))), (q8, .inr (0, [.null, .int 0, .int 0, .int 0, .int 0, .int 0, .int 0, .int 0, .int 0, .null]))] H := hP
  have hD : va_D A [(h0, .inr (2, [.int 0, .int 0, .ref q1, .ref q2, .ref q3])), (q1, .inl (c1, 6, .inl (fun _ => 0))), (q2, .inl (c2, 6, .inl (fun _ => 0))), (q3, .inl (c3, 7, .inr (.inr (.inr (.inr (va_up (va_up (fun _ => none) 0 (some q4)) 1 (some q6))))))), (q4, .inr (0, [.ref (u5 0).1, .int 0, .int 0, .int 0, .int 0, .int 0, .int 0, .int 0, .int 0, .ref t0])), ((u5 0).1, .inl ((u5 0).2, 8, .inl (fun _ => 0))), (q6, .inr (0, [.ref (u7 0).1, .int 0, .int 0, .int 0, .int 0, .int 0, .int 0, .int 0, .int 0, .ref t0])), ((u7 0).1, .inl ((u7 0).2, 8, .inl (fun _ => 0))), (q8, .inr (0, [.null, .int 0, .int 0, .int 0, .int 0, .int 0, .int 0, .int 0, .int 0, .null]))] := hD
  refine W.widen (k := 8) (n := 65) (Nat.le_of_ble_eq_true rfl) (Nat.le_of_ble_eq_true rfl) ?_
  refine lv_dup hx hb (dck_at tX3_init 23 rfl) rfl ?_
  refine lv_aload_n hx hb (dck_at tX3_init 24 rfl) rfl (lv_at hl 2 rfl) ?_
  have hPc := hP.sub (ws' := [(q8, .inr (0, [.null, .int 0, .int 0, .int 0, .int 0, .int 0, .int 0, .int 0, .int 0, .null]))]) [8] rfl
  have hDc := hD.sub (ws' := [(q8, .inr (0, [.null, .int 0, .int 0, .int 0, .int 0, .int 0, .int 0, .int 0, .int 0, .null]))]) [8] (by decide) rfl
  have hKc := hK.sub (tys' := []) [] rfl
  have hFc := va_free (wc := [(q8, .inr (0, [.null, .int 0, .int 0, .int 0, .int 0, .int 0, .int 0, .int 0, .int 0, .null]))]) hD hS hA [8] rfl
  refine va_callv (va_runI (As := [.ref t0]) (rest := [.ref q8, .int 2, .ref q3]) ⟨hx, hb, hml, hown, hts⟩ (k_X1_init l D X0 q8 t0 H.size) (cwI 1 hts (tb_gi (ws := []) (fun w hw => by cases hw) wc_X1_init) rfl rfl rfl (hts _ wn_X1) (hts _ wm_X3_24) (hts _ wi_X1_init) rfl hyX1_init.2 ⟨Nat.le_of_ble_eq_true rfl, Nat.le_of_ble_eq_true rfl⟩) ⟨fun a U g mk q => by obtain ⟨q0, q1, qP, qK, qD, qZ⟩ := q; exact ⟨q0, q1, qP, va_K.moved (u := U) (U := U.calling g mk a) (Vm.Alike.refl U.vm) qK, qD, qZ.calls⟩, fun U hU hW => ⟨rfl, by rw [hU], by rw [hU]; exact hPc, va_K.moved hW.alike hKc, hDc.weaken (fun _ _ _ _ => trivial), hZ.moveA (Nat.le_refl _) hW hS hU hAb (hAb _ (hD.2 8 _ rfl))⟩⟩ rfl rfl hl.1 rfl (lv_room (Nat.le_of_ble_eq_true rfl)) (dck_at tX3_init 25 rfl) ⟨Nat.le_of_ble_eq_true rfl, Nat.le_of_ble_eq_true rfl⟩) hS (fun q _ h => hFc q h) hFc (fun u9 t H1 locs ht hvm hw hB hz1 hk1 hS => ?_)
  obtain ⟨hP1, hK1, hD1⟩ := hB
  rw [ht] at hP1
  have hK1 := va_K.moved hvm.symm hK1
  obtain ⟨hP, hD⟩ := va_join (wr := [(h0, .inr (2, [.int 0, .int 0, .ref q1, .ref q2, .ref q3])), (q1, .inl (c1, 6, .inl (fun _ => 0))), (q2, .inl (c2, 6, .inl (fun _ => 0))), (q3, .inl (c3, 7, .inr (.inr (.inr (.inr (va_up (va_up (fun _ => none) 0 (some q4)) 1 (some q6))))))), (q4, .inr (0, [.ref (u5 0).1, .int 0, .int 0, .int 0, .int 0, .int 0, .int 0, .int 0, .int 0, .ref t0])), ((u5 0).1, .inl ((u5 0).2, 8, .inl (fun _ => 0))), (q6, .inr (0, [.ref (u7 0).1, .int 0, .int 0, .int 0, .int 0, .int 0, .int 0, .int 0, .int 0, .ref t0])), ((u7 0).1, .inl ((u7 0).2, 8, .inl (fun _ => 0)))]) (w1 := [(q8, .inr (0, [.ref (u9 0).1, .int 0, .int 0, .int 0, .int 0, .int 0, .int 0, .int 0, .int 0, .ref t0])), ((u9 0).1, .inl ((u9 0).2, 8, .inl (fun _ => 0)))]) hP hD [8] [0, 1, 2, 3, 4, 5, 6, 7] rfl rfl (by decide) (by decide) hk1 hFc hP1 hD1
  have hK := hK.app hK1
  generalize H1 = H at hP hS ⊢
  have hP : va_P D classes [(h0, .inr (2, [.int 0, .int 0, .ref q1, .ref q2, .ref q3])), (q1, .inl (c1, 6, .inl (fun _ => 0))), (q2, .inl (c2, 6, .inl (fun _ => 0))), (q3, .inl (c3, 7, .inr (.inr (.inr (.inr (va_up (va_up (fun _ => none) 0 (some q4)) 1 (some q6))))))), (q4, .inr (0, [.ref (u5 0).1, .int 0, .int 0, .int 0, .int 0, .int 0, .int 0, .int 0, .int 0, .ref t0])), ((u5 0).1, .inl ((u5 0).2, 8, .inl (fun _ => 0))), (q6, .inr (0, [.ref (u7 0).1, .int 0, .int 0, .int 0, .int 0, .int 0, .int 0, .int 0, .int 0, .ref t0])), ((u7 0).1, .inl ((u7 0).2, 8, .inl (fun _ => 0))), (q8, .inr (0, [.ref (u9 0).1, .int 0, .int 0, .int 0, .int 0, .int 0, .int 0, .int 0, .int 0, .ref t0])), ((u9 0).1, .inl ((u9 0).2, 8, .inl (fun _ => 0)))] H := hP
  have hD : va_D A [(h0, .inr (2, [.int 0, .int 0, .ref q1, .ref q2, .ref q3])), (q1, .inl (c1, 6, .inl (fun _ => 0))), (q2, .inl (c2, 6, .inl (fun _ => 0))), (q3, .inl (c3, 7, .inr (.inr (.inr (.inr (va_up (va_up (fun _ => none) 0 (some q4)) 1 (some q6))))))), (q4, .inr (0, [.ref (u5 0).1, .int 0, .int 0, .int 0, .int 0, .int 0, .int 0, .int 0, .int 0, .ref t0])), ((u5 0).1, .inl ((u5 0).2, 8, .inl (fun _ => 0))), (q6, .inr (0, [.ref (u7 0).1, .int 0, .int 0, .int 0, .int 0, .int 0, .int 0, .int 0, .int 0, .ref t0])), ((u7 0).1, .inl ((u7 0).2, 8, .inl (fun _ => 0))), (q8, .inr (0, [.ref (u9 0).1, .int 0, .int 0, .int 0, .int 0, .int 0, .int 0, .int 0, .int 0, .ref t0])), ((u9 0).1, .inl ((u9 0).2, 8, .inl (fun _ => 0)))] := hD
  have hK : va_K D classes [(c1, .int), (c2, .int), (c3, .object RX1), ((u5 0).2, .int), ((u7 0).2, .int), ((u9 0).2, .int)] s := hK
  refine W.widen (k := 9) (n := 73) (Nat.le_of_ble_eq_true rfl) (Nat.le_of_ble_eq_true rfl) ?_
  refine va_astq (r := (RX1, TX1, 10)) hx hb hK hP hD hS 3 2 8 0 rfl rfl rfl rfl (by unfold vp_in; decide) (dck_at tX3_init 26 rfl) (fun H locs hP hD hS => ?_)
  have hP : va_P D classes [(h0, .inr (2, [.int 0, .int 0, .ref q1, .ref q2, .ref q3])), (q1, .inl (c1, 6, .inl (fun _ => 0))), (q2, .inl (c2, 6, .inl (fun _ => 0))), (q3, .inl (c3, 7, .inr (.inr (.inr (.inr (va_up (va_up (va_up (fun _ => none) 0 (some q4)) 1 (some q6)) 2 (some q8))))))), (q4, .inr (0, [.ref (u5 0).1, .int 0, .int 0, .int 0, .int 0, .int 0, .int 0, .int 0, .int 0, .ref t0])), ((u5 0).1, .inl ((u5 0).2, 8, .inl (fun _ => 0))), (q6, .inr (0, [.ref (u7 0).1, .int 0, .int 0, .int 0, .int 0, .int 0, .int 0, .int 0, .int 0, .ref t0])), ((u7 0).1, .inl ((u7 0).2, 8, .inl (fun _ => 0))), (q8, .inr (0, [.ref (u9 0).1, .int 0, .int 0, .int 0, .int 0, .int 0, .int 0, .int 0, .int 0, .ref t0])), ((u9 0).1, .inl ((u9 0).2, 8, .inl (fun _ => 0)))] H := hP
  have hD : va_D A [(h0, .inr (2, [.int 0, .int 0, .ref q1, .ref q2, .ref q3])), (q1, .inl (c1, 6, .inl (fun _ => 0))), (q2, .inl (c2, 6, .inl (fun _ => 0))), (q3, .inl (c3, 7, .inr (.inr (.inr (.inr (va_up (va_up (va_up (fun _ => none) 0 (some q4)) 1 (some q6)) 2 (some q8))))))), (q4, .inr (0, [.ref (u5 0).1, .int 0, .int 0, .int 0, .int 0, .int 0, .int 0, .int 0, .int 0, .ref t0])), ((u5 0).1, .inl ((u5 0).2, 8, .inl (fun _ => 0))), (q6, .inr (0, [.ref (u7 0).1, .int 0, .int 0, .int 0, .int 0, .int 0, .int 0, .int 0, .int 0, .ref t0])), ((u7 0).1, .inl ((u7 0).2, 8, .inl (fun _ => 0))), (q8, .inr (0, [.ref (u9 0).1, .int 0, .int 0, .int 0, .int 0, .int 0, .int 0, .int 0, .int 0, .ref t0])), ((u9 0).1, .inl ((u9 0).2, 8, .inl (fun _ => 0)))] := hD
  refine lv_iinc (v := 3) (lv' := [(2, .int 3), (0, .ref h0), (1, .ref t0)]) hx hb (dck_at tX3_init 27 rfl) hl (k := 0) rfl (by decide) (by decide) rfl (fun ls hl => ?_)
  refine lv_goto (tgt := 31) hx hb (dck_at tX3_init 28 rfl) (by decide) ?_
  refine lv_iload_n hx hb (dck_at tX3_init 16 rfl) rfl (lv_at hl 0 rfl) ?_
  refine lv_bipush (v := 6) hx hb (dck_at tX3_init 17 rfl) (by decide) ?_
  refine lv_icmp_gt (tgt := 57) hx hb (dck_at tX3_init 18 rfl) (by decide) (fun c9 => ?_) (fun c9 => ?_)
  · exact absurd c9 (by decide)
  refine lv_aload_n hx hb (dck_at tX3_init 19 rfl) rfl (lv_at hl 1 rfl) ?_
  refine va_get (D := D) (ci := 2) (v := .ref q3) (C := RX3) (T := TX3) (N := 5) hx hb hts iX3 hown hK hP 0 rfl rfl 4 (by decide) (hts _ wf_X3_20) (fun _ h9 => h9) rfl (dck_at tX3_init 20 rfl) ?_
  refine lv_iload_n hx hb (dck_at tX3_init 21 rfl) rfl (lv_at hl 0 rfl) ?_
  refine va_new (ci := 0) (fs := [.null, .int 0, .int 0, .int 0, .int 0, .int 0, .int 0, .int 0, .int 0, .null]) (C := RX1) (T := TX1) (N := 10) hx hb hts iX1 tyX1 tyX1_ok hown (hts _ wl_X3_18) (hts _ wb_X1) (hts _ wn_X1) hK hP hD hS hA rfl (fun j hj => by rcases (show j = 0 ∨ j = 1 ∨ j = 2 ∨ j = 3 ∨ j = 4 ∨ j = 5 ∨ j = 6 ∨ j = 7 ∨ j = 8 ∨ j = 9 by omega) with rfl | rfl | rfl | rfl | rfl | rfl | rfl | rfl | rfl | rfl <;> rfl) (Nat.le_of_ble_eq_true rfl) (Nat.le_of_ble_eq_true rfl) (dck_at tX3_init 22 rfl) (fun q10 H hP hD hS => ?_)
  have hP : va_P D classes [(h0, .inr (2, [.int 0, .int 0, .ref q1, .ref q2, .ref q3])), (q1, .inl (c1, 6, .inl (fun _ => 0))), (q2, .inl (c2, 6, .inl (fun _ => 0))), (q3, .inl (c3, 7, .inr (.inr (.inr (.inr (va_up (va_up (va_up (fun _ => none) 0 (some q4)) 1 (some q6)) 2 (some q8))))))), (q4, .inr (0, [.ref (u5 0).1, .int 0, .int 0, .int 0, .int 0, .int 0, .int 0, .int 0, .int 0, .ref t0])), ((u5 0).1, .inl ((u5 0).2, 8, .inl (fun _ => 0))), (q6, .inr (0, [.ref (u7 0).1, .int 0, .int 0, .int 0, .int 0, .int 0, .int 0, .int 0, .int 0, .ref t0])), ((u7 0).1, .inl ((u7 0).2, 8, .inl (fun _ => 0))), (q8, .inr (0, [.ref (u9 0).1, .int 0, .int 0, .int 0, .int 0, .int 0, .int 0, .int 0, .int 0, .ref t0])), ((u9 0).1, .inl ((u9 0).2, 8, .inl (fun _ => 0))), (q10, .inr (0, [.null, .int 0, .int 0, .int 0, .int 0, .int 0, .int 0, .int 0, .int 0, .null]))] H := hP
  have hD : va_D A [(h0, .inr (2, [.int 0, .int 0, .ref q1, .ref q2, .ref q3])), (q1, .inl (c1, 6, .inl (fun _ => 0))), (q2, .inl (c2, 6, .inl (fun _ => 0))), (q3, .inl (c3, 7, .inr (.inr (.inr (.inr (va_up (va_up (va_up (fun _ => none) 0 (some q4)) 1 (some q6)) 2 (some q8))))))), (q4, .inr (0, [.ref (u5 0).1, .int 0, .int 0, .int 0, .int 0, .int 0, .int 0, .int 0, .int 0, .ref t0])), ((u5 0).1, .inl ((u5 0).2, 8, .inl (fun _ => 0))), (q6, .inr (0, [.ref (u7 0).1, .int 0, .int 0, .int 0, .int 0, .int 0, .int 0, .int 0, .int 0, .ref t0])), ((u7 0).1, .inl ((u7 0).2, 8, .inl (fun _ => 0))), (q8, .inr (0, [.ref (u9 0).1, .int 0, .int 0, .int 0, .int 0, .int 0, .int 0, .int 0, .int 0, .ref t0])), ((u9 0).1, .inl ((u9 0).2, 8, .inl (fun _ => 0))), (q10, .inr (0, [.null, .int 0, .int 0, .int 0, .int 0, .int 0, .int 0, .int 0, .int 0, .null]))] := hD
  refine W.widen (k := 10) (n := 83) (Nat.le_of_ble_eq_true rfl) (Nat.le_of_ble_eq_true rfl) ?_
  refine lv_dup hx hb (dck_at tX3_init 23 rfl) rfl ?_
  refine lv_aload_n hx hb (dck_at tX3_init 24 rfl) rfl (lv_at hl 2 rfl) ?_
  have hPc := hP.sub (ws' := [(q10, .inr (0, [.null, .int 0, .int 0, .int 0, .int 0, .int 0, .int 0, .int 0, .int 0, .null]))]) [10] rfl
  have hDc := hD.sub (ws' := [(q10, .inr (0, [.null, .int 0, .int 0, .int 0, .int 0, .int 0, .int 0, .int 0, .int 0, .null]))]) [10] (by decide) rfl
  have hKc := hK.sub (tys' := []) [] rfl
  have hFc := va_free (wc := [(q10, .inr (0, [.null, .int 0, .int 0, .int 0, .int 0, .int 0, .int 0, .int 0, .int 0, .null]))]) hD hS hA [10] rfl
  refine va_callv (va_runI (As := [.ref t0]) (rest := [.ref q10, .int 3, .ref q3]) ⟨hx, hb, hml, hown, hts⟩ (k_X1_init l D X0 q10 t0 H.size) (cwI 1 hts (tb_gi (ws := []) (fun w hw => by cases hw) wc_X1_init) rfl rfl rfl (hts _ wn_X1) (hts _ wm_X3_24) (hts _ wi_X1_init) rfl hyX1_init.2 ⟨Nat.le_of_ble_eq_true rfl, Nat.le_of_ble_eq_true rfl⟩) ⟨fun a U g mk q => by obtain ⟨q0, q1, qP, qK, qD, qZ⟩ := q; exact ⟨q0, q1, qP, va_K.moved (u := U) (U := U.calling g mk a) (Vm.Alike.refl U.vm) qK, qD, qZ.calls⟩, fun U hU hW => ⟨rfl, by rw [hU], by rw [hU]; exact hPc, va_K.moved hW.alike hKc, hDc.weaken (fun _ _ _ _ => trivial), hZ.moveA (Nat.le_refl _) hW hS hU hAb (hAb _ (hD.2 10 _ rfl))⟩⟩ rfl rfl hl.1 rfl (lv_room (Nat.le_of_ble_eq_true rfl)) (dck_at tX3_init 25 rfl) ⟨Nat.le_of_ble_eq_true rfl, Nat.le_of_ble_eq_true rfl⟩) hS (fun q _ h => hFc q h) hFc (fun u11 t H1 locs ht hvm hw hB hz1 hk1 hS => ?_)
  obtain ⟨hP1, hK1, hD1⟩ := hB
  rw [ht] at hP1
  have hK1 := va_K.moved hvm.symm hK1
  obtain ⟨hP, hD⟩ := va_join (wr := [(h0, .inr (2, [.int 0, .int 0, .ref q1, .ref q2, .ref q3])), (q1, .inl (c1, 6, .inl (fun _ => 0))), (q2, .inl (c2, 6, .inl (fun _ => 0))), (q3, .inl (c3, 7, .inr (.inr (.inr (.inr (va_up (va_up (va_up (fun _ => none) 0 (some q4)) 1 (some q6)) 2 (some q8))))))), (q4, .inr (0, [.ref (u5 0).1, .int 0, .int 0, .int 0, .int 0, .int 0, .int 0, .int 0, .int 0, .ref t0])), ((u5 0).1, .inl ((u5 0).2, 8, .inl (fun _ => 0))), (q6, .inr (0, [.ref (u7 0).1, .int 0, .int 0, .int 0, .int 0, .int 0, .int 0, .int 0, .int 0, .ref t0])), ((u7 0).1, .inl ((u7 0).2, 8, .inl (fun _ => 0))), (q8, .inr (0, [.ref (u9 0).1, .int 0, .int 0, .int 0, .int 0, .int 0, .int 0, .int 0, .int 0, .ref t0])), ((u9 0).1, .inl ((u9 0).2, 8, .inl (fun _ => 0)))]) (w1 := [(q10, .inr (0, [.ref (u11 0).1, .int 0, .int 0, .int 0, .int 0, .int 0, .int 0, .int 0, .int 0, .ref t0])), ((u11 0).1, .inl ((u11 0).2, 8, .inl (fun _ => 0)))]) hP hD [10] [0, 1, 2, 3, 4, 5, 6, 7, 8, 9] rfl rfl (by decide) (by decide) hk1 hFc hP1 hD1
  have hK := hK.app hK1
  generalize H1 = H at hP hS ⊢
  have hP : va_P D classes [(h0, .inr (2, [.int 0, .int 0, .ref q1, .ref q2, .ref q3])), (q1, .inl (c1, 6, .inl (fun _ => 0))), (q2, .inl (c2, 6, .inl (fun _ => 0))), (q3, .inl (c3, 7, .inr (.inr (.inr (.inr (va_up (va_up (va_up (fun _ => none) 0 (some q4)) 1 (some q6)) 2 (some q8))))))), (q4, .inr (0, [.ref (u5 0).1, .int 0, .int 0, .int 0, .int 0, .int 0, .int 0, .int 0, .int 0, .ref t0])), ((u5 0).1, .inl ((u5 0).2, 8, .inl (fun _ => 0))), (q6, .inr (0, [.ref (u7 0).1, .int 0, .int 0, .int 0, .int 0, .int 0, .int 0, .int 0, .int 0, .ref t0])), ((u7 0).1, .inl ((u7 0).2, 8, .inl (fun _ => 0))), (q8, .inr (0, [.ref (u9 0).1, .int 0, .int 0, .int 0, .int 0, .int 0, .int 0, .int 0, .int 0, .ref t0])), ((u9 0).1, .inl ((u9 0).2, 8, .inl (fun _ => 0))), (q10, .inr (0, [.ref (u11 0).1, .int 0, .int 0, .int 0, .int 0, .int 0, .int 0, .int 0, .int 0, .ref t0])), ((u11 0).1, .inl ((u11 0).2, 8, .inl (fun _ => 0)))] H := hP
  have hD : va_D A [(h0, .inr (2, [.int 0, .int 0, .ref q1, .ref q2, .ref q3])), (q1, .inl (c1, 6, .inl (fun _ => 0))), (q2, .inl (c2, 6, .inl (fun _ => 0))), (q3, .inl (c3, 7, .inr (.inr (.inr (.inr (va_up (va_up (va_up (fun _ => none) 0 (some q4)) 1 (some q6)) 2 (some q8))))))), (q4, .inr (0, [.ref (u5 0).1, .int 0, .int 0, .int 0, .int 0, .int 0, .int 0, .int 0, .int 0, .ref t0])), ((u5 0).1, .inl ((u5 0).2, 8, .inl (fun _ => 0))), (q6, .inr (0, [.ref (u7 0).1, .int 0, .int 0, .int 0, .int 0, .int 0, .int 0, .int 0, .int 0, .ref t0])), ((u7 0).1, .inl ((u7 0).2, 8, .inl (fun _ => 0))), (q8, .inr (0, [.ref (u9 0).1, .int 0, .int 0, .int 0, .int 0, .int 0, .int 0, .int 0, .int 0, .ref t0])), ((u9 0).1, .inl ((u9 0).2, 8, .inl (fun _ => 0))), (q10, .inr (0, [.ref (u11 0).1, .int 0, .int 0, .int 0, .int 0, .int 0, .int 0, .int 0, .int 0, .ref t0])), ((u11 0).1, .inl ((u11 0).2, 8, .inl (fun _ => 0)))] := hD
  have hK : va_K D classes [(c1, .int), (c2, .int), (c3, .object RX1), ((u5 0).2, .int), ((u7 0).2, .int), ((u9 0).2, .int), ((u11 0).2, .int)] s := hK
  refine W.widen (k := 11) (n := 91) (Nat.le_of_ble_eq_true rfl) (Nat.le_of_ble_eq_true rfl) ?_
  refine va_astq (r := (RX1, TX1, 10)) hx hb hK hP hD hS 3 2 10 0 rfl rfl rfl rfl (by unfold vp_in; decide) (dck_at tX3_init 26 rfl) (fun H locs hP hD hS => ?_)
  have hP : va_P D classes [(h0, .inr (2, [.int 0, .int 0, .ref q1, .ref q2, .ref q3])), (q1, .inl (c1, 6, .inl (fun _ => 0))), (q2, .inl (c2, 6, .inl (fun _ => 0))), (q3, .inl (c3, 7, .inr (.inr (.inr (.inr (va_up (va_up (va_up (va_up (fun _ => none) 0 (some q4)) 1 (some q6)) 2 (some q8)) 3 (some q10))))))), (q4, .inr (0, [.ref (u5 0).1, .int 0, .int 0, .int 0, .int 0, .int 0, .int 0, .int 0, .int 0, .ref t0])), ((u5 0).1, .inl ((u5 0).2, 8, .inl (fun _ => 0))), (q6, .inr (0, [.ref (u7 0).1, .int 0, .int 0, .int 0, .int 0, .int 0, .int 0, .int 0, .int 0, .ref t0])), ((u7 0).1, .inl ((u7 0).2, 8, .inl (fun _ => 0))), (q8, .inr (0, [.ref (u9 0).1, .int 0, .int 0, .int 0, .int 0, .int 0, .int 0, .int 0, .int 0, .ref t0])), ((u9 0).1, .inl ((u9 0).2, 8, .inl (fun _ => 0))), (q10, .inr (0, [.ref (u11 0).1, .int 0, .int 0, .int 0, .int 0, .int 0, .int 0, .int 0, .int 0, .ref t0])), ((u11 0).1, .inl ((u11 0).2, 8, .inl (fun _ => 0)))] H := hP
  have hD : va_D A [(h0, .inr (2, [.int 0, .int 0, .ref q1, .ref q2, .ref q3])), (q1, .inl (c1, 6, .inl (fun _ => 0))), (q2, .inl (c2, 6, .inl (fun _ => 0))), (q3, .inl (c3, 7, .inr (.inr (.inr (.inr (va_up (va_up (va_up (va_up (fun _ => none) 0 (some q4)) 1 (some q6)) 2 (some q8)) 3 (some q10))))))), (q4, .inr (0, [.ref (u5 0).1, .int 0, .int 0, .int 0, .int 0, .int 0, .int 0, .int 0, .int 0, .ref t0])), ((u5 0).1, .inl ((u5 0).2, 8, .inl (fun _ => 0))), (q6, .inr (0, [.ref (u7 0).1, .int 0, .int 0, .int 0, .int 0, .int 0, .int 0, .int 0, .int 0, .ref t0])), ((u7 0).1, .inl ((u7 0).2, 8, .inl (fun _ => 0))), (q8, .inr (0, [.ref (u9 0).1, .int 0, .int 0, .int 0, .int 0, .int 0, .int 0, .int 0, .int 0, .ref t0])), ((u9 0).1, .inl ((u9 0).2, 8, .inl (fun _ => 0))), (q10, .inr (0, [.ref (u11 0).1, .int 0, .int 0, .int 0, .int 0, .int 0, .int 0, .int 0, .int 0, .ref t0])), ((u11 0).1, .inl ((u11 0).2, 8, .inl (fun _ => 0)))] := hD
  refine lv_iinc (v := 4) (lv' := [(2, .int 4), (0, .ref h0), (1, .ref t0)]) hx hb (dck_at tX3_init 27 rfl) hl (k := 0) rfl (by decide) (by decide) rfl (fun ls hl => ?_)
  refine lv_goto (tgt := 31) hx hb (dck_at tX3_init 28 rfl) (by decide) ?_
  refine lv_iload_n hx hb (dck_at tX3_init 16 rfl) rfl (lv_at hl 0 rfl) ?_
  refine lv_bipush (v := 6) hx hb (dck_at tX3_init 17 rfl) (by decide) ?_
  refine lv_icmp_gt (tgt := 57) hx hb (dck_at tX3_init 18 rfl) (by decide) (fun c9 => ?_) (fun c9 => ?_)
  · exact absurd c9 (by decide)
  refine lv_aload_n hx hb (dck_at tX3_init 19 rfl) rfl (lv_at hl 1 rfl) ?_
  refine va_get (D := D) (ci := 2) (v := .ref q3) (C := RX3) (T := TX3) (N := 5) hx hb hts iX3 hown hK hP 0 rfl rfl 4 (by decide) (hts _ wf_X3_20) (fun _ h9 => h9) rfl (dck_at tX3_init 20 rfl) ?_
  refine lv_iload_n hx hb (dck_at tX3_init 21 rfl) rfl (lv_at hl 0 rfl) ?_
  refine va_new (ci := 0) (fs := [.null, .int 0, .int 0, .int 0, .int 0, .int 0, .int 0, .int 0, .int 0, .null]) (C := RX1) (T := TX1) (N := 10) hx hb hts iX1 tyX1 tyX1_ok hown (hts _ wl_X3_18) (hts _ wb_X1) (hts _ wn_X1) hK hP hD hS hA rfl (fun j hj => by rcases (show j = 0 ∨ j = 1 ∨ j = 2 ∨ j = 3 ∨ j = 4 ∨ j = 5 ∨ j = 6 ∨ j = 7 ∨ j = 8 ∨ j = 9 by omega) with rfl | rfl | rfl | rfl | rfl | rfl | rfl | rfl | rfl | rfl <;> rfl) (Nat.le_of_ble_eq_true rfl) (Nat.le_of_ble_eq_true rfl) (dck_at tX3_init 22 rfl) (fun q12 H hP hD hS => ?_)
  have hP : va_P D classes [(h0, .inr (2, [.int 0, .int 0, .ref q1, .ref q2, .ref q3])), (q1, .inl (c1, 6, .inl (fun _ => 0))), (q2, .inl (c2, 6, .inl (fun _ => 0))), (q3, .inl (c3, 7, .inr (.inr (.inr (.inr (va_up (va_up (va_up (va_up (fun _ => none) 0 (some q4)) 1 (some q6)) 2 (some q8)) 3 (some q10))))))), (q4, .inr (0, [.ref (u5 0).1, .int 0, .int 0, .int 0, .int 0, .int 0, .int 0, .int 0, .int 0, .ref t0])), ((u5 0).1, .inl ((u5 0).2, 8, .inl (fun _ => 0))), (q6, .inr (0, [.ref (u7 0).1, .int 0, .int 0, .int 0, .int 0, .int 0, .int 0, .int 0, .int 0, .ref t0])), ((u7 0).1, .inl ((u7 0).2, 8, .inl (fun _ => 0))), (q8, .inr (0, [.ref (u9 0).1, .int 0, .int 0, .int 0, .int 0, .int 0, .int 0, .int 0, .int 0, .ref t0])), ((u9 0).1, .inl ((u9 0).2, 8, .inl (fun _ => 0))), (q10, .inr (0, [.ref (u11 0).1, .int 0, .int 0, .int 0, .int 0, .int 0, .int 0, .int 0, .int 0, .ref t0])), ((u11 0).1, .inl ((u11 0).2, 8, .inl (fun _ => 0))), (q12, .inr (0, [.null, .int 0, .int 0, .int 0, .int 0, .int 0, .int 0, .int 0, .int 0, .null]))] H := hP
  have hD : va_D A [(h0, .inr (2, [.int 0, .int 0, .ref q1, .ref q2, .ref q3])), (q1, .inl (c1, 6, .inl (fun _ => 0))), (q2, .inl (c2, 6, .inl (fun _ => 0))), (q3, .inl (c3, 7, .inr (.inr (.inr (.inr (va_up (va_up (va_up (va_up (fun _ => none) 0 (some q4)) 1 (some q6)) 2 (some q8)) 3 (some q10))))))), (q4, .inr (0, [.ref (u5 0).1, .int 0, .int 0, .int 0, .int 0, .int 0, .int 0, .int 0, .int 0, .ref t0])), ((u5 0).1, .inl ((u5 0).2, 8, .inl (fun _ => 0))), (q6, .inr (0, [.ref (u7 0).1, .int 0, .int 0, .int 0, .int 0, .int 0, .int 0, .int 0, .int 0, .ref t0])), ((u7 0).1, .inl ((u7 0).2, 8, .inl (fun _ => 0))), (q8, .inr (0, [.ref (u9 0).1, .int 0, .int 0, .int 0, .int 0, .int 0, .int 0, .int 0, .int 0, .ref t0])), ((u9 0).1, .inl ((u9 0).2, 8, .inl (fun _ => 0))), (q10, .inr (0, [.ref (u11 0).1, .int 0, .int 0, .int 0, .int 0, .int 0, .int 0, .int 0, .int 0, .ref t0])), ((u11 0).1, .inl ((u11 0).2, 8, .inl (fun _ => 0))), (q12, .inr (0, [.null, .int 0, .int 0, .int 0, .int 0, .int 0, .int 0, .int 0, .int 0, .null]))] := hD
  refine W.widen (k := 12) (n := 101) (Nat.le_of_ble_eq_true rfl) (Nat.le_of_ble_eq_true rfl) ?_
  refine lv_dup hx hb (dck_at tX3_init 23 rfl) rfl ?_
  refine lv_aload_n hx hb (dck_at tX3_init 24 rfl) rfl (lv_at hl 2 rfl) ?_
  have hPc := hP.sub (ws' := [(q12, .inr (0, [.null, .int 0, .int 0, .int 0, .int 0, .int 0, .int 0, .int 0, .int 0, .null]))]) [12] rfl
  have hDc := hD.sub (ws' := [(q12, .inr (0, [.null, .int 0, .int 0, .int 0, .int 0, .int 0, .int 0, .int 0, .int 0, .null]))]) [12] (by decide) rfl
  have hKc := hK.sub (tys' := []) [] rfl
  have hFc := va_free (wc := [(q12, .inr (0, [.null, .int 0, .int 0, .int 0, .int 0, .int 0, .int 0, .int 0, .int 0, .null]))]) hD hS hA [12] rfl
  refine va_callv (va_runI (As := [.ref t0]) (rest := [.ref q12, .int 4, .ref q3]) ⟨hx, hb, hml, hown, hts⟩ (k_X1_init l D X0 q12 t0 H.size) (cwI 1 hts (tb_gi (ws := []) (fun w hw => by cases hw) wc_X1_init) rfl rfl rfl (hts _ wn_X1) (hts _ wm_X3_24) (hts _ wi_X1_init) rfl hyX1_init.2 ⟨Nat.le_of_ble_eq_true rfl, Nat.le_of_ble_eq_true rfl⟩) ⟨fun a U g mk q => by obtain ⟨q0, q1, qP, qK, qD, qZ⟩ := q; exact ⟨q0, q1, qP, va_K.moved (u := U) (U := U.calling g mk a) (Vm.Alike.refl U.vm) qK, qD, qZ.calls⟩, fun U hU hW => ⟨rfl, by rw [hU], by rw [hU]; exact hPc, va_K.moved hW.alike hKc, hDc.weaken (fun _ _ _ _ => trivial), hZ.moveA (Nat.le_refl _) hW hS hU hAb (hAb _ (hD.2 12 _ rfl))⟩⟩ rfl rfl hl.1 rfl (lv_room (Nat.le_of_ble_eq_true rfl)) (dck_at tX3_init 25 rfl) ⟨Nat.le_of_ble_eq_true rfl, Nat.le_of_ble_eq_true rfl⟩) hS (fun q _ h => hFc q h) hFc (fun u13 t H1 locs ht hvm hw hB hz1 hk1 hS => ?_)
  obtain ⟨hP1, hK1, hD1⟩ := hB
  rw [ht] at hP1
  have hK1 := va_K.moved hvm.symm hK1
  obtain ⟨hP, hD⟩ := va_join (wr := [(h0, .inr (2, [.int 0, .int 0, .ref q1, .ref q2, .ref q3])), (q1, .inl (c1, 6, .inl (fun _ => 0))), (q2, .inl (c2, 6, .inl (fun _ => 0))), (q3, .inl (c3, 7, .inr (.inr (.inr (.inr (va_up (va_up (va_up (va_up (fun _ => none) 0 (some q4)) 1 (some q6)) 2 (some q8)) 3 (some q10))))))), (q4, .inr (0, [.ref (u5 0).1, .int 0, .int 0, .int 0, .int 0, .int 0, .int 0, .int 0, .int 0, .ref t0])), ((u5 0).1, .inl ((u5 0).2, 8, .inl (fun _ => 0))), (q6, .inr (0, [.ref (u7 0).1, .int 0, .int 0, .int 0, .int 0, .int 0, .int 0, .int 0, .int 0, .ref t0])), ((u7 0).1, .inl ((u7 0).2, 8, .inl (fun _ => 0))), (q8, .inr (0, [.ref (u9 0).1, .int 0, .int 0, .int 0, .int 0, .int 0, .int 0, .int 0, .int 0, .ref t0])), ((u9 0).1, .inl ((u9 0).2, 8, .inl (fun _ => 0))), (q10, .inr (0, [.ref (u11 0).1, .int 0, .int 0, .int 0, .int 0, .int 0, .int 0, .int 0, .int 0, .ref t0])), ((u11 0).1, .inl ((u11 0).2, 8, .inl (fun _ => 0)))]) (w1 := [(q12, .inr (0, [.ref (u13 0).1, .int 0, .int 0, .int 0, .int 0, .int 0, .int 0, .int 0, .int 0, .ref t0])), ((u13 0).1, .inl ((u13 0).2, 8, .inl (fun _ => 0)))]) hP hD [12] [0, 1, 2, 3, 4, 5, 6, 7, 8, 9, 10, 11] rfl rfl (by decide) (by decide) hk1 hFc hP1 hD1
  have hK := hK.app hK1
  generalize H1 = H at hP hS ⊢
  have hP : va_P D classes [(h0, .inr (2, [.int 0, .int 0, .ref q1, .ref q2, .ref q3])), (q1, .inl (c1, 6, .inl (fun _ => 0))), (q2, .inl (c2, 6, .inl (fun _ => 0))), (q3, .inl (c3, 7, .inr (.inr (.inr (.inr (va_up (va_up (va_up (va_up (fun _ => none) 0 (some q4)) 1 (some q6)) 2 (some q8)) 3 (some q10))))))), (q4, .inr (0, [.ref (u5 0).1, .int 0, .int 0, .int 0, .int 0, .int 0, .int 0, .int 0, .int 0, .ref t0])), ((u5 0).1, .inl ((u5 0).2, 8, .inl (fun _ => 0))), (q6, .inr (0, [.ref (u7 0).1, .int 0, .int 0, .int 0, .int 0, .int 0, .int 0, .int 0, .int 0, .ref t0])), ((u7 0).1, .inl ((u7 0).2, 8, .inl (fun _ => 0))), (q8, .inr (0, [.ref (u9 0).1, .int 0, .int 0, .int 0, .int 0, .int 0, .int 0, .int 0, .int 0, .ref t0])), ((u9 0).1, .inl ((u9 0).2, 8, .inl (fun _ => 0))), (q10, .inr (0, [.ref (u11 0).1, .int 0, .int 0, .int 0, .int 0, .int 0, .int 0, .int 0, .int 0, .ref t0])), ((u11 0).1, .inl ((u11 0).2, 8, .inl (fun _ => 0))), (q12, .inr (0, [.ref (u13 0).1, .int 0, .int 0, .int 0, .int 0, .int 0, .int 0, .int 0, .int 0, .ref t0])), ((u13 0).1, .inl ((u13 0).2, 8, .inl (fun _ => 0)))] H := hP
  have hD : va_D A [(h0, .inr (2, [.int 0, .int 0, .ref q1, .ref q2, .ref q3])), (q1, .inl (c1, 6, .inl (fun _ => 0))), (q2, .inl (c2, 6, .inl (fun _ => 0))), (q3, .inl (c3, 7, .inr (.inr (.inr (.inr (va_up (va_up (va_up (va_up (fun _ => none) 0 (some q4)) 1 (some q6)) 2 (some q8)) 3 (some q10))))))), (q4, .inr (0, [.ref (u5 0).1, .int 0, .int 0, .int 0, .int 0, .int 0, .int 0, .int 0, .int 0, .ref t0])), ((u5 0).1, .inl ((u5 0).2, 8, .inl (fun _ => 0))), (q6, .inr (0, [.ref (u7 0).1, .int 0, .int 0, .int 0, .int 0, .int 0, .int 0, .int 0, .int 0, .ref t0])), ((u7 0).1, .inl ((u7 0).2, 8, .inl (fun _ => 0))), (q8, .inr (0, [.ref (u9 0).1, .int 0, .int 0, .int 0, .int 0, .int 0, .int 0, .int 0, .int 0, .ref t0])), ((u9 0).1, .inl ((u9 0).2, 8, .inl (fun _ => 0))), (q10, .inr (0, [.ref (u11 0).1, .int 0, .int 0, .int 0, .int 0, .int 0, .int 0, .int 0, .int 0, .ref t0])), ((u11 0).1, .inl ((u11 0).2, 8, .inl (fun _ => 0))), (q12, .inr (0, [.ref (u13 0).1, .int 0, .int 0, .int 0, .int 0, .int 0, .int 0, .int 0, .int 0, .ref t0])), ((u13 0).1, .inl ((u13 0).2, 8, .inl (fun _ => 0)))] := hD
  have hK : va_K D classes [(c1, .int), (c2, .int), (c3, .object RX1), ((u5 0).2, .int), ((u7 0).2, .int), ((u9 0).2, .int), ((u11 0).2, .int), ((u13 0).2, .int)] s := hK
  refine W.widen (k := 13) (n := 109) (Nat.le_of_ble_eq_true rfl) (Nat.le_of_ble_eq_true rfl) ?_
  refine va_astq (r := (RX1, TX1, 10)) hx hb hK hP hD hS 3 2 12 0 rfl rfl rfl rfl (by unfold vp_in; decide) (dck_at tX3_init 26 rfl) (fun H locs hP hD hS => ?_)
  have hP : va_P D classes [(h0, .inr (2, [.int 0, .int 0, .ref q1, .ref q2, .ref q3])), (q1, .inl (c1, 6, .inl (fun _ => 0))), (q2, .inl (c2, 6, .inl (fun _ => 0))), (q3, .inl (c3, 7, .inr (.inr (.inr (.inr (va_up (va_up (va_up (va_up (va_up (fun _ => none) 0 (some q4)) 1 (some q6)) 2 (some q8)) 3 (some q10)) 4 (some q12))))))), (q4, .inr (0, [.ref (u5 0).1, .int 0, .int 0, .int 0, .int 0, .int 0, .int 0, .int 0, .int 0, .ref t0])), ((u5 0).1, .inl ((u5 0).2, 8, .inl (fun _ => 0))), (q6, .inr (0, [.ref (u7 0).1, .int 0, .int 0, .int 0, .int 0, .int 0, .int 0, .int 0, .int 0, .ref t0])), ((u7 0).1, .inl ((u7 0).2, 8, .inl (fun _ => 0))), (q8, .inr (0, [.ref (u9 0).1, .int 0, .int 0, .int 0, .int 0, .int 0, .int 0, .int 0, .int 0, .ref t0])), ((u9 0).1, .inl ((u9 0).2, 8, .inl (fun _ => 0))), (q10, .inr (0, [.ref (u11 0).1, .int 0, .int 0, .int 0, .int 0, .int 0, .int 0, .int 0, .int 0, .ref t0])), ((u11 0).1, .inl ((u11 0).2, 8, .inl (fun _ => 0))), (q12, .inr (0, [.ref (u13 0).1, .int 0, .int 0, .int 0, .int 0, .int 0, .int 0, .int 0, .int 0, .ref t0])), ((u13 0).1, .inl ((u13 0).2, 8, .inl (fun _ => 0)))] H := hP
  have hD : va_D A [(h0, .inr (2, [.int 0, .int 0, .ref q1, .ref q2, .ref q3])), (q1, .inl (c1, 6, .inl (fun _ => 0))), (q2, .inl (c2, 6, .inl (fun _ => 0))), (q3, .inl (c3, 7, .inr (.inr (.inr (.inr (va_up (va_up (va_up (va_up (va_up (fun _ => none) 0 (some q4)) 1 (some q6)) 2 (some q8)) 3 (some q10)) 4 (some q12))))))), (q4, .inr (0, [.ref (u5 0).1, .int 0, .int 0, .int 0, .int 0, .int 0, .int 0, .int 0, .int 0, .ref t0])), ((u5 0).1, .inl ((u5 0).2, 8, .inl (fun _ => 0))), (q6, .inr (0, [.ref (u7 0).1, .int 0, .int 0, .int 0, .int 0, .int 0, .int 0, .int 0, .int 0, .ref t0])), ((u7 0).1, .inl ((u7 0).2, 8, .inl (fun _ => 0))), (q8, .inr (0, [.ref (u9 0).1, .int 0, .int 0, .int 0, .int 0, .int 0, .int 0, .int 0, .int 0, .ref t0])), ((u9 0).1, .inl ((u9 0).2, 8, .inl (fun _ => 0))), (q10, .inr (0, [.ref (u11 0).1, .int 0, .int 0, .int 0, .int 0, .int 0, .int 0, .int 0, .int 0, .ref t0])), ((u11 0).1, .inl ((u11 0).2, 8, .inl (fun _ => 0))), (q12, .inr (0, [.ref (u13 0).1, .int 0, .int 0, .int 0, .int 0, .int 0, .int 0, .int 0, .int 0, .ref t0])), ((u13 0).1, .inl ((u13 0).2, 8, .inl (fun _ => 0)))] := hD
  refine lv_iinc (v := 5) (lv' := [(2, .int 5), (0, .ref h0), (1, .ref t0)]) hx hb (dck_at tX3_init 27 rfl) hl (k := 0) rfl (by decide) (by decide) rfl (fun ls hl => ?_)
  refine lv_goto (tgt := 31) hx hb (dck_at tX3_init 28 rfl) (by decide) ?_
  refine lv_iload_n hx hb (dck_at tX3_init 16 rfl) rfl (lv_at hl 0 rfl) ?_
  refine lv_bipush (v := 6) hx hb (dck_at tX3_init 17 rfl) (by decide) ?_
  refine lv_icmp_gt (tgt := 57) hx hb (dck_at tX3_init 18 rfl) (by decide) (fun c9 => ?_) (fun c9 => ?_)
  · exact absurd c9 (by decide)
  refine lv_aload_n hx hb (dck_at tX3_init 19 rfl) rfl (lv_at hl 1 rfl) ?_
  refine va_get (D := D) (ci := 2) (v := .ref q3) (C := RX3) (T := TX3) (N := 5) hx hb hts iX3 hown hK hP 0 rfl rfl 4 (by decide) (hts _ wf_X3_20) (fun _ h9 => h9) rfl (dck_at tX3_init 20 rfl) ?_
  refine lv_iload_n hx hb (dck_at tX3_init 21 rfl) rfl (lv_at hl 0 rfl) ?_
  refine va_new (ci := 0) (fs := [.null, .int 0, .int 0, .int 0, .int 0, .int 0, .int 0, .int 0, .int 0, .null]) (C := RX1) (T := TX1) (N := 10) hx hb hts iX1 tyX1 tyX1_ok hown (hts _ wl_X3_18) (hts _ wb_X1) (hts _ wn_X1) hK hP hD hS hA rfl (fun j hj => by rcases (show j = 0 ∨ j = 1 ∨ j = 2 ∨ j = 3 ∨ j = 4 ∨ j = 5 ∨ j = 6 ∨ j = 7 ∨ j = 8 ∨ j = 9 by omega) with rfl | rfl | rfl | rfl | rfl | rfl | rfl | rfl | rfl | rfl <;> rfl) (Nat.le_of_ble_eq_true rfl) (Nat.le_of_ble_eq_true rfl) (dck_at tX3_init 22 rfl) (fun q14 H hP hD hS => ?_)
  have hP : va_P D classes [(h0, .inr (2, [.int 0, .int 0, .ref q1, .ref q2, .ref q3])), (q1, .inl (c1, 6, .inl (fun _ => 0))), (q2, .inl (c2, 6, .inl (fun _ => 0))), (q3, .inl (c3, 7, .inr (.inr (.inr (.inr (va_up (va_up (va_up (va_up (va_up (fun _ => none) 0 (some q4)) 1 (some q6)) 2 (some q8)) 3 (some q10)) 4 (some q12))))))), (q4, .inr (0, [.ref (u5 0).1, .int 0, .int 0, .int 0, .int 0, .int 0, .int 0, .int 0, .int 0, .ref t0])), ((u5 0).1, .inl ((u5 0).2, 8, .inl (fun _ => 0))), (q6, .inr (0, [.ref (u7 0).1, .int 0, .int 0, .int 0, .int 0, .int 0, .int 0, .int 0, .int 0, .ref t0])), ((u7 0).1, .inl ((u7 0).2, 8, .inl (fun _ => 0))), (q8, .inr (0, [.ref (u9 0).1, .int 0, .int 0, .int 0, .int 0, .int 0, .int 0, .int 0, .int 0, .ref t0])), ((u9 0).1, .inl ((u9 0).2, 8, .inl (fun _ => 0))), (q10, .inr (0, [.ref (u11 0).1, .int 0, .int 0, .int 0, .int 0, .int 0, .int 0, .int 0, .int 0, .ref t0])), ((u11 0).1, .inl ((u11 0).2, 8, .inl (fun _ => 0))), (q12, .inr (0, [.ref (u13 0).1, .int 0, .int 0, .int 0, .int 0, .int 0, .int 0, .int 0, .int 0, .ref t0])), ((u13 0).1, .inl ((u13 0).2, 8, .inl (fun _ => 0))), (q14, .inr (0, [.null, .int 0, .int 0, .int 0, .int 0, .int 0, .int 0, .int 0, .int 0, .null]))] H := hP
  have hD : va_D A [(h0, .inr (2, [.int 0, .int 0, .ref q1, .ref q2, .ref q3])), (q1, .inl (c1, 6, .inl (fun _ => 0))), (q2, .inl (c2, 6, .inl (fun _ => 0))), (q3, .inl (c3, 7, .inr (.inr (.inr (.inr (va_up (va_up (va_up (va_up (va_up (fun _ => none) 0 (some q4)) 1 (some q6)) 2 (some q8)) 3 (some q10)) 4 (some q12))))))), (q4, .inr (0, [.ref (u5 0).1, .int 0, .int 0, .int 0, .int 0, .int 0, .int 0, .int 0, .int 0, .ref t0])), ((u5 0).1, .inl ((u5 0).2, 8, .inl (fun _ => 0))), (q6, .inr (0, [.ref (u7 0).1, .int 0, .int 0, .int 0, .int 0, .int 0, .int 0, .int 0, .int 0, .ref t0])), ((u7 0).1, .inl ((u7 0).2, 8, .inl (fun _ => 0))), (q8, .inr (0, [.ref (u9 0).1, .int 0, .int 0, .int 0, .int 0, .int 0, .int 0, .int 0, .int 0, .ref t0])), ((u9 0).1, .inl ((u9 0).2, 8, .inl (fun _ => 0))), (q10, .inr (0, [.ref (u11 0).1, .int 0, .int 0, .int 0, .int 0, .int 0, .int 0, .int 0, .int 0, .ref t0])), ((u11 0).1, .inl ((u11 0).2, 8, .inl (fun _ => 0))), (q12, .inr (0, [.ref (u13 0).1, .int 0, .int 0, .int 0, .int 0, .int 0, .int 0, .int 0, .int 0, .ref t0])), ((u13 0).1, .inl ((u13 0).2, 8, .inl (fun _ => 0))), (q14, .inr (0, [.null, .int 0, .int 0, .int 0, .int 0, .int 0, .int 0, .int 0, .int 0, .null]))] := hD
  refine W.widen (k := 14) (n := 119) (Nat.le_of_ble_eq_true rfl) (Nat.le_of_ble_eq_true rfl) ?_
  refine lv_dup hx hb (dck_at tX3_init 23 rfl) rfl ?_
  refine lv_aload_n hx hb (dck_at tX3_init 24 rfl) rfl (lv_at hl 2 rfl) ?_
  have hPc := hP.sub (ws' := [(q14, .inr (0, [.null, .int 0, .int 0, .int 0, .int 0, .int 0, .int 0, .int 0, .int 0, .null]))]) [14] rfl
  have hDc := hD.sub (ws' := [(q14, .inr (0, [.null, .int 0, .int 0, .int 0, .int 0, .int 0, .int 0, .int 0, .int 0, .null]))]) [14] (by decide) rfl
  have hKc := hK.sub (tys' := []) [] rfl
  have hFc := va_free (wc := [(q14, .inr (0, [.null, .int 0, .int 0, .int 0, .int 0, .int 0, .int 0, .int 0, .int 0, .null]))]) hD hS hA [14] rfl
  refine va_callv (va_runI (As := [.ref t0]) (rest := [.ref q14, .int 5, .ref q3]) ⟨hx, hb, hml, hown, hts⟩ (k_X1_init l D X0 q14 t0 H.size) (cwI 1 hts (tb_gi (ws := []) (fun w hw => by cases hw) wc_X1_init) rfl rfl rfl (hts _ wn_X1) (hts _ wm_X3_24) (hts _ wi_X1_init) rfl hyX1_init.2 ⟨Nat.le_of_ble_eq_true rfl, Nat.le_of_ble_eq_true rfl⟩) ⟨fun a U g mk q => by obtain ⟨q0, q1, qP, qK, qD, qZ⟩ := q; exact ⟨q0, q1, qP, va_K.moved (u := U) (U := U.calling g mk a) (Vm.Alike.refl U.vm) qK, qD, qZ.calls⟩, fun U hU hW => ⟨rfl, by rw [hU], by rw [hU]; exact hPc, va_K.moved hW.alike hKc, hDc.weaken (fun _ _ _ _ => trivial), hZ.moveA (Nat.le_refl _) hW hS hU hAb (hAb _ (hD.2 14 _ rfl))⟩⟩ rfl rfl hl.1 rfl (lv_room (Nat.le_of_ble_eq_true rfl)) (dck_at tX3_init 25 rfl) ⟨Nat.le_of_ble_eq_true rfl, Nat.le_of_ble_eq_true rfl⟩) hS (fun q _ h => hFc q h) hFc (fun u15 t H1 locs ht hvm hw hB hz1 hk1 hS => ?_)
  obtain ⟨hP1, hK1, hD1⟩ := hB
  rw [ht] at hP1
  have hK1 := va_K.moved hvm.symm hK1
  obtain ⟨hP, hD⟩ := va_join (wr := [(h0, .inr (2, [.int 0, .int 0, .ref q1, .ref q2, .ref q3])), (q1, .inl (c1, 6, .inl (fun _ => 0))), (q2, .inl (c2, 6, .inl (fun _ => 0))), (q3, .inl (c3, 7, .inr (.inr (.inr (.inr (va_up (va_up (va_up (va_up (va_up (fun _ => none) 0 (some q4)) 1 (some q6)) 2 (some q8)) 3 (some q10)) 4 (some q12))))))), (q4, .inr (0, [.ref (u5 0).1, .int 0, .int 0, .int 0, .int 0, .int 0, .int 0, .int 0, .int 0, .ref t0])), ((u5 0).1, .inl ((u5 0).2, 8, .inl (fun _ => 0))), (q6, .inr (0, [.ref (u7 0).1, .int 0, .int 0, .int 0, .int 0, .int 0, .int 0, .int 0, .int 0, .ref t0])), ((u7 0).1, .inl ((u7 0).2, 8, .inl (fun _ => 0))), (q8, .inr (0, [.ref (u9 0).1, .int 0, .int 0, .int 0, .int 0, .int 0, .int 0, .int 0, .int 0, .ref t0])), ((u9 0).1, .inl ((u9 0).2, 8, .inl (fun _ => 0))), (q10, .inr (0, [.ref (u11 0).1, .int 0, .int 0, .int 0, .int 0, .int 0, .int 0, .int 0, .int 0, .ref t0])), ((u11 0).1, .inl ((u11 0).2, 8, .inl (fun _ => 0))), (q12, .inr (0, [.ref (u13 0).1, .int 0, .int 0, .int 0, .int 0, .int 0, .int 0, .int 0, .int 0, .ref t0])), ((u13 0).1, .inl ((u13 0).2, 8, .inl (fun _ => 0)))]) (w1 := [(q14, .inr (0, [.ref (u15 0).1, .int 0, .int 0, .int 0, .int 0, .int 0, .int 0, .int 0, .int 0, .ref t0])), ((u15 0).1, .inl ((u15 0).2, 8, .inl (fun _ => 0)))]) hP hD [14] [0, 1, 2, 3, 4, 5, 6, 7, 8, 9, 10, 11, 12, 13] rfl rfl (by decide) (by decide) hk1 hFc hP1 hD1
  have hK := hK.app hK1
  generalize H1 = H at hP hS ⊢
  have hP : va_P D classes [(h0, .inr (2, [.int 0, .int 0, .ref q1, .ref q2, .ref q3])), (q1, .inl (c1, 6, .inl (fun _ => 0))), (q2, .inl (c2, 6, .inl (fun _ => 0))), (q3, .inl (c3, 7, .inr (.inr (.inr (.inr (va_up (va_up (va_up (va_up (va_up (fun _ => none) 0 (some q4)) 1 (some q6)) 2 (some q8)) 3 (some q10)) 4 (some q12))))))), (q4, .inr (0, [.ref (u5 0).1, .int 0, .int 0, .int 0, .int 0, .int 0, .int 0, .int 0, .int 0, .ref t0])), ((u5 0).1, .inl ((u5 0).2, 8, .inl (fun _ => 0))), (q6, .inr (0, [.ref (u7 0).1, .int 0, .int 0, .int 0, .int 0, .int 0, .int 0, .int 0, .int 0, .ref t0])), ((u7 0).1, .inl ((u7 0).2, 8, .inl (fun _ => 0))), (q8, .inr (0, [.ref (u9 0).1, .int 0, .int 0, .int 0, .int 0, .int 0, .int 0, .int 0, .int 0, .ref t0])), ((u9 0).1, .inl ((u9 0).2, 8, .inl (fun _ => 0))), (q10, .inr (0, [.ref (u11 0).1, .int 0, .int 0, .int 0, .int 0, .int 0, .int 0, .int 0, .int 0, .ref t0])), ((u11 0).1, .inl ((u11 0).2, 8, .inl (fun _ => 0))), (q12, .inr (0, [.ref (u13 0).1, .int 0, .int 0, .int 0, .int 0, .int 0, .int 0, .int 0, .int 0, .ref t0])), ((u13 0).1, .inl ((u13 0).2, 8, .inl (fun _ => 0))), (q14, .inr (0, [.ref (u15 0).1, .int 0, .int 0, .int 0, .int 0, .int 0, .int 0, .int 0, .int 0, .ref t0])), ((u15 0).1, .inl ((u15 0).2, 8, .inl (fun _ => 0)))] H := hP
  have hD : va_D A [(h0, .inr (2, [.int 0, .int 0, .ref q1, .ref q2, .ref q3])), (q1, .inl (c1, 6, .inl (fun _ => 0))), (q2, .inl (c2, 6, .inl (fun _ => 0))), (q3, .inl (c3, 7, .inr (.inr (.inr (.inr (va_up (va_up (va_up (va_up (va_up (fun _ => none) 0 (some q4)) 1 (some q6)) 2 (some q8)) 3 (some q10)) 4 (some q12))))))), (q4, .inr (0, [.ref (u5 0).1, .int 0, .int 0, .int 0, .int 0, .int 0, .int 0, .int 0, .int 0, .ref t0])), ((u5 0).1, .inl ((u5 0).2, 8, .inl (fun _ => 0))), (q6, .inr (0, [.ref (u7 0).1, .int 0, .int 0, .int 0, .int 0, .int 0, .int 0, .int 0, .int 0, .ref t0])), ((u7 0).1, .inl ((u7 0).2, 8, .inl (fun _ => 0))), (q8, .inr (0, [.ref (u9 0).1, .int 0, .int 0, .int 0, .int 0, .int 0, .int 0, .int 0, .int 0, .ref t0])), ((u9 0).1, .inl ((u9 0).2, 8, .inl (fun _ => 0))), (q10, .inr (0, [.ref (u11 0).1, .int 0, .int 0, .int 0, .int 0, .int 0, .int 0, .int 0, .int 0, .ref t0])), ((u11 0).1, .inl ((u11 0).2, 8, .inl (fun _ => 0))), (q12, .inr (0, [.ref (u13 0).1, .int 0, .int 0, .int 0, .int 0, .int 0, .int 0, .int 0, .int 0, .ref t0])), ((u13 0).1, .inl ((u13 0).2, 8, .inl (fun _ => 0))), (q14, .inr (0, [.ref (u15 0).1, .int 0, .int 0, .int 0, .int 0, .int 0, .int 0, .int 0, .int 0, .ref t0])), ((u15 0).1, .inl ((u15 0).2, 8, .inl (fun _ => 0)))] := hD
  have hK : va_K D classes [(c1, .int), (c2, .int), (c3, .object RX1), ((u5 0).2, .int), ((u7 0).2, .int), ((u9 0).2, .int), ((u11 0).2, .int), ((u13 0).2, .int), ((u15 0).2, .int)] s := hK
  refine W.widen (k := 15) (n := 127) (Nat.le_of_ble_eq_true rfl) (Nat.le_of_ble_eq_true rfl) ?_
  refine va_astq (r := (RX1, TX1, 10)) hx hb hK hP hD hS 3 2 14 0 rfl rfl rfl rfl (by unfold vp_in; decide) (dck_at tX3_init 26 rfl) (fun H locs hP hD hS => ?_)
  have hP : va_P D classes [(h0, .inr (2, [.int 0, .int 0, .ref q1, .ref q2, .ref q3])), (q1, .inl (c1, 6, .inl (fun _ => 0))), (q2, .inl (c2, 6, .inl (fun _ => 0))), (q3, .inl (c3, 7, .inr (.inr (.inr (.inr (va_up (va_up (va_up (va_up (va_up (va_up (fun _ => none) 0 (some q4)) 1 (some q6)) 2 (some q8)) 3 (some q10)) 4 (some q12)) 5 (some q14))))))), (q4, .inr (0, [.ref (u5 0).1, .int 0, .int 0, .int 0, .int 0, .int 0, .int 0, .int 0, .int 0, .ref t0])), ((u5 0).1, .inl ((u5 0).2, 8, .inl (fun _ => 0))), (q6, .inr (0, [.ref (u7 0).1, .int 0, .int 0, .int 0, .int 0, .int 0, .int 0, .int 0, .int 0, .ref t0])), ((u7 0).1, .inl ((u7 0).2, 8, .inl (fun _ => 0))), (q8, .inr (0, [.ref (u9 0).1, .int 0, .int 0, .int 0, .int 0, .int 0, .int 0, .int 0, .int 0, .ref t0])), ((u9 0).1, .inl ((u9 0).2, 8, .inl (fun _ => 0))), (q10, .inr (0, [.ref (u11 0).1, .int 0, .int 0, .int 0, .int 0, .int 0, .int 0, .int 0, .int 0, .ref t0])), ((u11 0).1, .inl ((u11 0).2, 8, .inl (fun _ => 0))), (q12, .inr (0, [.ref (u13 0).1, .int 0, .int 0, .int 0, .int 0, .int 0, .int 0, .int 0, .int 0, .ref t0])), ((u13 0).1, .inl ((u13 0).2, 8, .inl (fun _ => 0))), (q14, .inr (0, [.ref (u15 0).1, .int 0, .int 0, .int 0, .int 0, .int 0, .int 0, .int 0, .int 0, .ref t0])), ((u15 0).1, .inl ((u15 0).2, 8, .inl (fun _ => 0)))] H := hP
  have hD : va_D A [(h0, .inr (2, [.int 0, .int 0, .ref q1, .ref q2, .ref q3])), (q1, .inl (c1, 6, .inl (fun _ => 0))), (q2, .inl (c2, 6, .inl (fun _ => 0))), (q3, .inl (c3, 7, .inr (.inr (.inr (.inr (va_up (va_up (va_up (va_up (va_up (va_up (fun _ => none) 0 (some q4)) 1 (some q6)) 2 (some q8)) 3 (some q10)) 4 (some q12)) 5 (some q14))))))), (q4, .inr (0, [.ref (u5 0).1, .int 0, .int 0, .int 0, .int 0, .int 0, .int 0, .int 0, .int 0, .ref t0])), ((u5 0).1, .inl ((u5 0).2, 8, .inl (fun _ => 0))), (q6, .inr (0, [.ref (u7 0).1, .int 0, .int 0, .int 0, .int 0, .int 0, .int 0, .int 0, .int 0, .ref t0])), ((u7 0).1, .inl ((u7 0).2, 8, .inl (fun _ => 0))), (q8, .inr (0, [.ref (u9 0).1, .int 0, .int 0, .int 0, .int 0, .int 0, .int 0, .int 0, .int 0, .ref t0])), ((u9 0).1, .inl ((u9 0).2, 8, .inl (fun _ => 0))), (q10, .inr (0, [.ref (u11 0).1, .int 0, .int 0, .int 0, .int 0, .int 0, .int 0, .int 0, .int 0, .ref t0])), ((u11 0).1, .inl ((u11 0).2, 8, .inl (fun _ => 0))), (q12, .inr (0, [.ref (u13 0).1, .int 0, .int 0, .int 0, .int 0, .int 0, .int 0, .int 0, .int 0, .ref t0])), ((u13 0).1, .inl ((u13 0).2, 8, .inl (fun _ => 0))), (q14, .inr (0, [.ref (u15 0).1, .int 0, .int 0, .int 0, .int 0, .int 0, .int 0, .int 0, .int 0, .ref t0])), ((u15 0).1, .inl ((u15 0).2, 8, .inl (fun _ => 0)))] := hD
  refine lv_iinc (v := 6) (lv' := [(2, .int 6), (0, .ref h0), (1, .ref t0)]) hx hb (dck_at tX3_init 27 rfl) hl (k := 0) rfl (by decide) (by decide) rfl (fun ls hl => ?_)
  refine lv_goto (tgt := 31) hx hb (dck_at tX3_init 28 rfl) (by decide) ?_
  refine lv_iload_n hx hb (dck_at tX3_init 16 rfl) rfl (lv_at hl 0 rfl) ?_
  refine lv_bipush (v := 6) hx hb (dck_at tX3_init 17 rfl) (by decide) ?_
  refine lv_icmp_gt (tgt := 57) hx hb (dck_at tX3_init 18 rfl) (by decide) (fun c9 => ?_) (fun c9 => ?_)
  · exact absurd c9 (by decide)
  refine lv_aload_n hx hb (dck_at tX3_init 19 rfl) rfl (lv_at hl 1 rfl) ?_
  refine va_get (D := D) (ci := 2) (v := .ref q3) (C := RX3) (T := TX3) (N := 5) hx hb hts iX3 hown hK hP 0 rfl rfl 4 (by decide) (hts _ wf_X3_20) (fun _ h9 => h9) rfl (dck_at tX3_init 20 rfl) ?_
  refine lv_iload_n hx hb (dck_at tX3_init 21 rfl) rfl (lv_at hl 0 rfl) ?_
  refine va_new (ci := 0) (fs := [.null, .int 0, .int 0, .int 0, .int 0, .int 0, .int 0, .int 0, .int 0, .null]) (C := RX1) (T := TX1) (N := 10) hx hb hts iX1 tyX1 tyX1_ok hown (hts _ wl_X3_18) (hts _ wb_X1) (hts _ wn_X1) hK hP hD hS hA rfl (fun j hj => by rcases (show j = 0 ∨ j = 1 ∨ j = 2 ∨ j = 3 ∨ j = 4 ∨ j = 5 ∨ j = 6 ∨ j = 7 ∨ j = 8 ∨ j = 9 by omega) with rfl | rfl | rfl | rfl | rfl | rfl | rfl | rfl | rfl | rfl <;> rfl) (Nat.le_of_ble_eq_true rfl) (Nat.le_of_ble_eq_true rfl) (dck_at tX3_init 22 rfl) (fun q16 H hP hD hS => ?_)
  have hP : va_P D classes [(h0, .inr (2, [.int 0, .int 0, .ref q1, .ref q2, .ref q3])), (q1, .inl (c1, 6, .inl (fun _ => 0))), (q2, .inl (c2, 6, .inl (fun _ => 0))), (q3, .inl (c3, 7, .inr (.inr (.inr (.inr (va_up (va_up (va_up (va_up (va_up (va_up (fun _ => none) 0 (some q4)) 1 (some q6)) 2 (some q8)) 3 (some q10)) 4 (some q12)) 5 (some q14))))))), (q4, .inr (0, [.ref (u5 0).1, .int 0, .int 0, .int 0, .int 0, .int 0, .int 0, .int 0, .int 0, .ref t0])), ((u5 0).1, .inl ((u5 0).2, 8, .inl (fun _ => 0))), (q6, .inr (0, [.ref (u7 0).1, .int 0, .int 0, .int 0, .int 0, .int 0, .int 0, .int 0, .int 0, .ref t0])), ((u7 0).1, .inl ((u7 0).2, 8, .inl (fun _ => 0))), (q8, .inr (0, [.ref (u9 0).1, .int 0, .int 0, .int 0, .int 0, .int 0, .int 0, .int 0, .int 0, .ref t0])), ((u9 0).1, .inl ((u9 0).2, 8, .inl (fun _ => 0))), (q10, .inr (0, [.ref (u11 0).1, .int 0, .int 0, .int 0, .int 0, .int 0, .int 0, .int 0, .int 0, .ref t0])), ((u11 0).1, .inl ((u11 0).2, 8, .inl (fun _ => 0))), (q12, .inr (0, [.ref (u13 0).1, .int 0, .int 0, .int 0, .int 0, .int 0, .int 0, .int 0, .int 0, .ref t0])), ((u13 0).1, .inl ((u13 0).2, 8, .inl (fun _ => 0))), (q14, .inr (0, [.ref (u15 0).1, .int 0, .int 0, .int 0, .int 0, .int 0, .int 0, .int 0, .int 0, .ref t0])), ((u15 0).1, .inl ((u15 0).2, 8, .inl (fun _ => 0))), (q16, .inr (0, [.null, .int 0, .int 0, .int 0, .int 0, .int 0, .int 0, .int 0, .int 0, .null]))] H := hP
  have hD : va_D A [(h0, .inr (2, [.int 0, .int 0, .ref q1, .ref q2, .ref q3])), (q1, .inl (c1, 6, .inl (fun _ => 0))), (q2, .inl (c2, 6, .inl (fun _ => 0))), (q3, .inl (c3, 7, .inr (.inr (.inr (.inr (va_up (va_up (va_up (va_up (va_up (va_up (fun _ => none) 0 (some q4)) 1 (some q6)) 2 (some q8)) 3 (some q10)) 4 (some q12)) 5 (some q14))))))), (q4, .inr (0, [.ref (u5 0).1, .int 0, .int 0, .int 0, .int 0, .int 0, .int 0, .int 0, .int 0, .ref t0])), ((u5 0).1, .inl ((u5 0).2, 8, .inl (fun _ => 0))), (q6, .inr (0, [.ref (u7 0).1, .int 0, .int 0, .int 0, .int 0, .int 0, .int 0, .int 0, .int 0, .ref t0])), ((u7 0).1, .inl ((u7 0).2, 8, .inl (fun _ => 0))), (q8, .inr (0, [.ref (u9 0).1, .int 0, .int 0, .int 0, .int 0, .int 0, .int 0, .int 0, .int 0, .ref t0])), ((u9 0).1, .inl ((u9 0).2, 8, .inl (fun _ => 0))), (q10, .inr (0, [.ref (u11 0).1, .int 0, .int 0, .int 0, .int 0, .int 0, .int 0, .int 0, .int 0, .ref t0])), ((u11 0).1, .inl ((u11 0).2, 8, .inl (fun _ => 0))), (q12, .inr (0, [.ref (u13 0).1, .int 0, .int 0, .int 0, .int 0, .int 0, .int 0, .int 0, .int 0, .ref t0])), ((u13 0).1, .inl ((u13 0).2, 8, .inl (fun _ => 0))), (q14, .inr (0, [.ref (u15 0).1, .int 0, .int 0, .int 0, .int 0, .int 0, .int 0, .int 0, .int 0, .ref t0])), ((u15 0).1, .inl ((u15 0).2, 8, .inl (fun _ => 0))), (q16, .inr (0, [.null, .int 0, .int 0, .int 0, .int 0, .int 0, .int 0, .int 0, .int 0, .null]))] := hD
  refine W.widen (k := 16) (n := 137) (Nat.le_of_ble_eq_true rfl) (Nat.le_of_ble_eq_true rfl) ?_
  refine lv_dup hx hb (dck_at tX3_init 23 rfl) rfl ?_
  refine lv_aload_n hx hb (dck_at tX3_init 24 rfl) rfl (lv_at hl 2 rfl) ?_
  have hPc := hP.sub (ws' := [(q16, .inr (0, [.null, .int 0, .int 0, .int 0, .int 0, .int 0, .int 0, .int 0, .int 0, .null]))]) [16] rfl
  have hDc := hD.sub (ws' := [(q16, .inr (0, [.null, .int 0, .int 0, .int 0, .int 0, .int 0, .int 0, .int 0, .int 0, .null]))]) [16] (by decide) rfl
  have hKc := hK.sub (tys' := []) [] rfl
  have hFc := va_free (wc := [(q16, .inr (0, [.null, .int 0, .int 0, .int 0, .int 0, .int 0, .int 0, .int 0, .int 0, .null]))]) hD hS hA [16] rfl
  refine va_callv (va_runI (As := [.ref t0]) (rest := [.ref q16, .int 6, .ref q3]) ⟨hx, hb, hml, hown, hts⟩ (k_X1_init l D X0 q16 t0 H.size) (cwI 1 hts (tb_gi (ws := []) (fun w hw => by cases hw) wc_X1_init) rfl rfl rfl (hts _ wn_X1) (hts _ wm_X3_24) (hts _ wi_X1_init) rfl hyX1_init.2 ⟨Nat.le_of_ble_eq_true rfl, Nat.le_of_ble_eq_true rfl⟩) ⟨fun a U g mk q => by obtain ⟨q0, q1, qP, qK, qD, qZ⟩ := q; exact ⟨q0, q1, qP, va_K.moved (u := U) (U := U.calling g mk a) (Vm.Alike.refl U.vm) qK, qD, qZ.calls⟩, fun U hU hW => ⟨rfl, by rw [hU], by rw [hU]; exact hPc, va_K.moved hW.alike hKc, hDc.weaken (fun _ _ _ _ => trivial), hZ.moveA (Nat.le_refl _) hW hS hU hAb (hAb _ (hD.2 16 _ rfl))⟩⟩ rfl rfl hl.1 rfl (lv_room (Nat.le_of_ble_eq_true rfl)) (dck_at tX3_init 25 rfl) ⟨Nat.le_of_ble_eq_true rfl, Nat.le_of_ble_eq_true rfl⟩) hS (fun q _ h => hFc q h) hFc (fun u17 t H1 locs ht hvm hw hB hz1 hk1 hS => ?_)
  obtain ⟨hP1, hK1, hD1⟩ := hB
  rw [ht] at hP1
  have hK1 := va_K.moved hvm.symm hK1
  obtain ⟨hP, hD⟩ := va_join (wr := [(h0, .inr (2, [.int 0, .int 0, .ref q1, .ref q2, .ref q3])), (q1, .inl (c1, 6, .inl (fun _ => 0))), (q2, .inl (c2, 6, .inl (fun _ => 0))), (q3, .inl (c3, 7, .inr (.inr (.inr (.inr (va_up (va_up (va_up (va_up (va_up (va_up (fun _ => none) 0 (some q4)) 1 (some q6)) 2 (some q8)) 3 (some q10)) 4 (some q12)) 5 (some q14))))))), (q4, .inr (0, [.ref (u5 0).1, .int 0, .int 0, .int 0, .int 0, .int 0, .int 0, .int 0, .int 0, .ref t0])), ((u5 0).1, .inl ((u5 0).2, 8, .inl (fun _ => 0))), (q6, .inr (0, [.ref (u7 0).1, .int 0, .int 0, .int 0, .int 0, .int 0, .int 0, .int 0, .int 0, .ref t0])), ((u7 0).1, .inl ((u7 0).2, 8, .inl (fun _ => 0))), (q8, .inr (0, [.ref (u9 0).1, .int 0, .int 0, .int 0, .int 0, .int 0, .int 0, .int 0, .int 0, .ref t0])), ((u9 0).1, .inl ((u9 0).2, 8, .inl (fun _ => 0))), (q10, .inr (0, [.ref (u11 0).1, .int 0, .int 0, .int 0, .int 0, .int 0, .int 0, .int 0, .int 0, .ref t0])), ((u11 0).1, .inl ((u11 0).2, 8, .inl (fun _ => 0))), (q12, .inr (0, [.ref (u13 0).1, .int 0, .int 0, .int 0, .int 0, .int 0, .int 0, .int 0, .int 0, .ref t0])), ((u13 0).1, .inl ((u13 0).2, 8, .inl (fun _ => 0))), (q14, .inr (0, [.ref (u15 0).1, .int 0, .int 0, .int 0, .int 0, .int 0, .int 0, .int 0, .int 0, .ref t0])), ((u15 0).1, .inl ((u15 0).2, 8, .inl (fun _ => 0)))]) (w1 := [(q16, .inr (0, [.ref (u17 0).1, .int 0, .int 0, .int 0, .int 0, .int 0, .int 0, .int 0, .int 0, .ref t0])), ((u17 0).1, .inl ((u17 0).2, 8, .inl (fun _ => 0)))]) hP hD [16] [0, 1, 2, 3, 4, 5, 6, 7, 8, 9, 10, 11, 12, 13, 14, 15] rfl rfl (by decide) (by decide) hk1 hFc hP1 hD1
  have hK := hK.app hK1
  generalize H1 = H at hP hS ⊢
  have hP : va_P D classes [(h0, .inr (2, [.int 0, .int 0, .ref q1, .ref q2, .ref q3])), (q1, .inl (c1, 6, .inl (fun _ => 0))), (q2, .inl (c2, 6, .inl (fun _ => 0))), (q3, .inl (c3, 7, .inr (.inr (.inr (.inr (va_up (va_up (va_up (va_up (va_up (va_up (fun _ => none) 0 (some q4)) 1 (some q6)) 2 (some q8)) 3 (some q10)) 4 (some q12)) 5 (some q14))))))), (q4, .inr (0, [.ref (u5 0).1, .int 0, .int 0, .int 0, .int 0, .int 0, .int 0, .int 0, .int 0, .ref t0])), ((u5 0).1, .inl ((u5 0).2, 8, .inl (fun _ => 0))), (q6, .inr (0, [.ref (u7 0).1, .int 0, .int 0, .int 0, .int 0, .int 0, .int 0, .int 0, .int 0, .ref t0])), ((u7 0).1, .inl ((u7 0).2, 8, .inl (fun _ => 0))), (q8, .inr (0, [.ref (u9 0).1, .int 0, .int 0, .int 0, .int 0, .int 0, .int 0, .int 0, .int 0, .ref t0])), ((u9 0).1, .inl ((u9 0).2, 8, .inl (fun _ => 0))), (q10, .inr (0, [.ref (u11 0).1, .int 0, .int 0, .int 0, .int 0, .int 0, .int 0, .int 0, .int 0, .ref t0])), ((u11 0).1, .inl ((u11 0).2, 8, .inl (fun _ => 0))), (q12, .inr (0, [.ref (u13 0).1, .int 0, .int 0, .int 0, .int 0, .int 0, .int 0, .int 0, .int 0, .ref t0])), ((u13 0).1, .inl ((u13 0).2, 8, .inl (fun _ => 0))), (q14, .inr (0, [.ref (u15 0).1, .int 0, .int 0, .int 0, .int 0, .int 0, .int 0, .int 0, .int 0, .ref t0])), ((u15 0).1, .inl ((u15 0).2, 8, .inl (fun _ => 0))), (q16, .inr (0, [.ref (u17 0).1, .int 0, .int 0, .int 0, .int 0, .int 0, .int 0, .int 0, .int 0, .ref t0])), ((u17 0).1, .inl ((u17 0).2, 8, .inl (fun _ => 0)))] H := hP
  have hD : va_D A [(h0, .inr (2, [.int 0, .int 0, .ref q1, .ref q2, .ref q3])), (q1, .inl (c1, 6, .inl (fun _ => 0))), (q2, .inl (c2, 6, .inl (fun _ => 0))), (q3, .inl (c3, 7, .inr (.inr (.inr (.inr (va_up (va_up (va_up (va_up (va_up (va_up (fun _ => none) 0 (some q4)) 1 (some q6)) 2 (some q8)) 3 (some q10)) 4 (some q12)) 5 (some q14))))))), (q4, .inr (0, [.ref (u5 0).1, .int 0, .int 0, .int 0, .int 0, .int 0, .int 0, .int 0, .int 0, .ref t0])), ((u5 0).1, .inl ((u5 0).2, 8, .inl (fun _ => 0))), (q6, .inr (0, [.ref (u7 0).1, .int 0, .int 0, .int 0, .int 0, .int 0, .int 0, .int 0, .int 0, .ref t0])), ((u7 0).1, .inl ((u7 0).2, 8, .inl (fun _ => 0))), (q8, .inr (0, [.ref (u9 0).1, .int 0, .int 0, .int 0, .int 0, .int 0, .int 0, .int 0, .int 0, .ref t0])), ((u9 0).1, .inl ((u9 0).2, 8, .inl (fun _ => 0))), (q10, .inr (0, [.ref (u11 0).1, .int 0, .int 0, .int 0, .int 0, .int 0, .int 0, .int 0, .int 0, .ref t0])), ((u11 0).1, .inl ((u11 0).2, 8, .inl (fun _ => 0))), (q12, .inr (0, [.ref (u13 0).1, .int 0, .int 0, .int 0, .int 0, .int 0, .int 0, .int 0, .int 0, .ref t0])), ((u13 0).1, .inl ((u13 0).2, 8, .inl (fun _ => 0))), (q14, .inr (0, [.ref (u15 0).1, .int 0, .int 0, .int 0, .int 0, .int 0, .int 0, .int 0, .int 0, .ref t0])), ((u15 0).1, .inl ((u15 0).2, 8, .inl (fun _ => 0))), (q16, .inr (0, [.ref (u17 0).1, .int 0, .int 0, .int 0, .int 0, .int 0, .int 0, .int 0, .int 0, .ref t0])), ((u17 0).1, .inl ((u17 0).2, 8, .inl (fun _ => 0)))] := hD
  have hK : va_K D classes [(c1, .int), (c2, .int), (c3, .object RX1), ((u5 0).2, .int), ((u7 0).2, .int), ((u9 0).2, .int), ((u11 0).2, .int), ((u13 0).2, .int), ((u15 0).2, .int), ((u17 0).2, .int)] s := hK
  refine W.widen (k := 17) (n := 145) (Nat.le_of_ble_eq_true rfl) (Nat.le_of_ble_eq_true rfl) ?_
  refine va_astq (r := (RX1, TX1, 10)) hx hb hK hP hD hS 3 2 16 0 rfl rfl rfl rfl (by unfold vp_in; decide) (dck_at tX3_init 26 rfl) (fun H locs hP hD hS => ?_)
  have hP : va_P D classes [(h0, .inr (2, [.int 0, .int 0, .ref q1, .ref q2, .ref q3])), (q1, .inl (c1, 6, .inl (fun _ => 0))), (q2, .inl (c2, 6, .inl (fun _ => 0))), (q3, .inl (c3, 7, .inr (.inr (.inr (.inr (va_up (va_up (va_up (va_up (va_up (va_up (va_up (fun _ => none) 0 (some q4)) 1 (some q6)) 2 (some q8)) 3 (some q10)) 4 (some q12)) 5 (some q14)) 6 (some q16))))))), (q4, .inr (0, [.ref (u5 0).1, .int 0, .int 0, .int 0, .int 0, .int 0, .int 0, .int 0, .int 0, .ref t0])), ((u5 0).1, .inl ((u5 0).2, 8, .inl (fun _ => 0))), (q6, .inr (0, [.ref (u7 0).1, .int 0, .int 0, .int 0, .int 0, .int 0, .int 0, .int 0, .int 0, .ref t0])), ((u7 0).1, .inl ((u7 0).2, 8, .inl (fun _ => 0))), (q8, .inr (0, [.ref (u9 0).1, .int 0, .int 0, .int 0, .int 0, .int 0, .int 0, .int 0, .int 0, .ref t0])), ((u9 0).1, .inl ((u9 0).2, 8, .inl (fun _ => 0))), (q10, .inr (0, [.ref (u11 0).1, .int 0, .int 0, .int 0, .int 0, .int 0, .int 0, .int 0, .int 0, .ref t0])), ((u11 0).1, .inl ((u11 0).2, 8, .inl (fun _ => 0))), (q12, .inr (0, [.ref (u13 0).1, .int 0, .int 0, .int 0, .int 0, .int 0, .int 0, .int 0, .int 0, .ref t0])), ((u13 0).1, .inl ((u13 0).2, 8, .inl (fun _ => 0))), (q14, .inr (0, [.ref (u15 0).1, .int 0, .int 0, .int 0, .int 0, .int 0, .int 0, .int 0, .int 0, .ref t0])), ((u15 0).1, .inl ((u15 0).2, 8, .inl (fun _ => 0))), (q16, .inr (0, [.ref (u17 0).1, .int 0, .int 0, .int 0, .int 0, .int 0, .int 0, .int 0, .int 0, .ref t0])), ((u17 0).1, .inl ((u17 0).2, 8, .inl (fun _ => 0)))] H := hP
  have hD : va_D A [(h0, .inr (2, [.int 0, .int 0, .ref q1, .ref q2, .ref q3])), (q1, .inl (c1, 6, .inl (fun _ => 0))), (q2, .inl (c2, 6, .inl (fun _ => 0))), (q3, .inl (c3, 7, .inr (.inr (.inr (.inr (va_up (va_up (va_up (va_up (va_up (va_up (va_up (fun _ => none) 0 (some q4)) 1 (some q6)) 2 (some q8)) 3 (some q10)) 4 (some q12)) 5 (some q14)) 6 (some q16))))))), (q4, .inr (0, [.ref (u5 0).1, .int 0, .int 0, .int 0, .int 0, .int 0, .int 0, .int 0, .int 0, .ref t0])), ((u5 0).1, .inl ((u5 0).2, 8, .inl (fun _ => 0))), (q6, .inr (0, [.ref (u7 0).1, .int 0, .int 0, .int 0, .int 0, .int 0, .int 0, .int 0, .int 0, .ref t0])), ((u7 0).1, .inl ((u7 0).2, 8, .inl (fun _ => 0))), (q8, .inr (0, [.ref (u9 0).1, .int 0, .int 0, .int 0, .int 0, .int 0, .int 0, .int 0, .int 0, .ref t0])), ((u9 0).1, .inl ((u9 0).2, 8, .inl (fun _ => 0))), (q10, .inr (0, [.ref (u11 0).1, .int 0, .int 0, .int 0, .int 0, .int 0, .int 0, .int 0, .int 0, .ref t0])), ((u11 0).1, .inl ((u11 0).2, 8, .inl (fun _ => 0))), (q12, .inr (0, [.ref (u13 0).1, .int 0, .int 0, .int 0, .int 0, .int 0, .int 0, .int 0, .int 0, .ref t0])), ((u13 0).1, .inl ((u13 0).2, 8, .inl (fun _ => 0))), (q14, .inr (0, [.ref (u15 0).1, .int 0, .int 0, .int 0, .int 0, .int 0, .int 0, .int 0, .int 0, .ref t0])), ((u15 0).1, .inl ((u15 0).2, 8, .inl (fun _ => 0))), (q16, .inr (0, [.ref (u17 0).1, .int 0, .int 0, .int 0, .int 0, .int 0, .int 0, .int 0, .int 0, .ref t0])), ((u17 0).1, .inl ((u17 0).2, 8, .inl (fun _ => 0)))] := hD
  refine lv_iinc (v := 7) (lv' := [(2, .int 7), (0, .ref h0), (1, .ref t0)]) hx hb (dck_at tX3_init 27 rfl) hl (k := 0) rfl (by decide) (by decide) rfl (fun ls hl => ?_)
  refine lv_goto (tgt := 31) hx hb (dck_at tX3_init 28 rfl) (by decide) ?_
  refine lv_iload_n hx hb (dck_at tX3_init 16 rfl) rfl (lv_at hl 0 rfl) ?_
  refine lv_bipush (v := 6) hx hb (dck_at tX3_init 17 rfl) (by decide) ?_
  refine lv_icmp_gt (tgt := 57) hx hb (dck_at tX3_init 18 rfl) (by decide) (fun c9 => ?_) (fun c9 => ?_)
  rotate_left
  · exact absurd (by decide) c9
  have hP9 := hP.sub (ws' := [(h0, .inr (2, [.int 0, .int 0, .ref q1, .ref q2, .ref q3])), (q1, .inl (c1, 6, .inl (fun _ => 0))), (q2, .inl (c2, 6, .inl (fun _ => 0))), (q3, .inl (c3, 7, .inr (.inr (.inr (.inr (va_up (va_up (va_up (va_up (va_up (va_up (va_up (fun _ => none) 0 (some q4)) 1 (some q6)) 2 (some q8)) 3 (some q10)) 4 (some q12)) 5 (some q14)) 6 (some q16))))))), (q4, .inr (0, [.ref (u5 0).1, .int 0, .int 0, .int 0, .int 0, .int 0, .int 0, .int 0, .int 0, .ref t0])), ((u5 0).1, .inl ((u5 0).2, 8, .inl (fun _ => 0))), (q6, .inr (0, [.ref (u7 0).1, .int 0, .int 0, .int 0, .int 0, .int 0, .int 0, .int 0, .int 0, .ref t0])), ((u7 0).1, .inl ((u7 0).2, 8, .inl (fun _ => 0))), (q8, .inr (0, [.ref (u9 0).1, .int 0, .int 0, .int 0, .int 0, .int 0, .int 0, .int 0, .int 0, .ref t0])), ((u9 0).1, .inl ((u9 0).2, 8, .inl (fun _ => 0))), (q10, .inr (0, [.ref (u11 0).1, .int 0, .int 0, .int 0, .int 0, .int 0, .int 0, .int 0, .int 0, .ref t0])), ((u11 0).1, .inl ((u11 0).2, 8, .inl (fun _ => 0))), (q12, .inr (0, [.ref (u13 0).1, .int 0, .int 0, .int 0, .int 0, .int 0, .int 0, .int 0, .int 0, .ref t0])), ((u13 0).1, .inl ((u13 0).2, 8, .inl (fun _ => 0))), (q14, .inr (0, [.ref (u15 0).1, .int 0, .int 0, .int 0, .int 0, .int 0, .int 0, .int 0, .int 0, .ref t0])), ((u15 0).1, .inl ((u15 0).2, 8, .inl (fun _ => 0))), (q16, .inr (0, [.ref (u17 0).1, .int 0, .int 0, .int 0, .int 0, .int 0, .int 0, .int 0, .int 0, .ref t0])), ((u17 0).1, .inl ((u17 0).2, 8, .inl (fun _ => 0)))]) [0, 1, 2, 3, 4, 5, 6, 7, 8, 9, 10, 11, 12, 13, 14, 15, 16, 17] rfl
  have hD9 := hD.sub (ws' := [(h0, .inr (2, [.int 0, .int 0, .ref q1, .ref q2, .ref q3])), (q1, .inl (c1, 6, .inl (fun _ => 0))), (q2, .inl (c2, 6, .inl (fun _ => 0))), (q3, .inl (c3, 7, .inr (.inr (.inr (.inr (va_up (va_up (va_up (va_up (va_up (va_up (va_up (fun _ => none) 0 (some q4)) 1 (some q6)) 2 (some q8)) 3 (some q10)) 4 (some q12)) 5 (some q14)) 6 (some q16))))))), (q4, .inr (0, [.ref (u5 0).1, .int 0, .int 0, .int 0, .int 0, .int 0, .int 0, .int 0, .int 0, .ref t0])), ((u5 0).1, .inl ((u5 0).2, 8, .inl (fun _ => 0))), (q6, .inr (0, [.ref (u7 0).1, .int 0, .int 0, .int 0, .int 0, .int 0, .int 0, .int 0, .int 0, .ref t0])), ((u7 0).1, .inl ((u7 0).2, 8, .inl (fun _ => 0))), (q8, .inr (0, [.ref (u9 0).1, .int 0, .int 0, .int 0, .int 0, .int 0, .int 0, .int 0, .int 0, .ref t0])), ((u9 0).1, .inl ((u9 0).2, 8, .inl (fun _ => 0))), (q10, .inr (0, [.ref (u11 0).1, .int 0, .int 0, .int 0, .int 0, .int 0, .int 0, .int 0, .int 0, .ref t0])), ((u11 0).1, .inl ((u11 0).2, 8, .inl (fun _ => 0))), (q12, .inr (0, [.ref (u13 0).1, .int 0, .int 0, .int 0, .int 0, .int 0, .int 0, .int 0, .int 0, .ref t0])), ((u13 0).1, .inl ((u13 0).2, 8, .inl (fun _ => 0))), (q14, .inr (0, [.ref (u15 0).1, .int 0, .int 0, .int 0, .int 0, .int 0, .int 0, .int 0, .int 0, .ref t0])), ((u15 0).1, .inl ((u15 0).2, 8, .inl (fun _ => 0))), (q16, .inr (0, [.ref (u17 0).1, .int 0, .int 0, .int 0, .int 0, .int 0, .int 0, .int 0, .int 0, .ref t0])), ((u17 0).1, .inl ((u17 0).2, 8, .inl (fun _ => 0)))]) [0, 1, 2, 3, 4, 5, 6, 7, 8, 9, 10, 11, 12, 13, 14, 15, 16, 17] (by decide) rfl
  have hK9 := hK.sub (tys' := [(c1, .int), (c2, .int), (c3, .object RX1), ((u5 0).2, .int), ((u7 0).2, .int), ((u9 0).2, .int), ((u11 0).2, .int), ((u13 0).2, .int), ((u15 0).2, .int), ((u17 0).2, .int)]) [0, 1, 2, 3, 4, 5, 6, 7, 8, 9] rfl
  refine W.widen (k := 17) (n := 145) (Nat.le_of_ble_eq_true rfl) (Nat.le_of_ble_eq_true rfl) ?_
  exact W.vret hx hb hr (fun t ht hW => ⟨⟨(fun i => match i with | 0 => (q1, c1) | 1 => (q2, c2) | 2 => (q3, c3) | 3 => (q4, 0) | 4 => u5 0 | 5 => (q6, 0) | 6 => u7 0 | 7 => (q8, 0) | 8 => u9 0 | 9 => (q10, 0) | 10 => u11 0 | 11 => (q12, 0) | 12 => u13 0 | 13 => (q14, 0) | 14 => u15 0 | 15 => (q16, 0) | _ => u17 0), rfl, trivial, by rw [ht]; exact hP9, va_K.moved hW.alike hK9, hD9⟩, hS.F ht⟩) hS.2.2 (dck_at tX3_init 29 rfl)
end
