section
-- ===== PART A: goes FIRST, ahead of the names: the tables' words, and 'selects' of the private methods out of them =====
/-- a private method of a class that the tables say can be made, by its rows of tables_1 -/
def lw_okq (q : MethodName × Nat) : Prop := (q.1.cls ≠ "java/lang/invoke/MethodHandle" ∧ q.1.cls ≠ "java/lang/invoke/VarHandle") ∧ Cond.instantiable q.1.cls q.2 ∈ tables_1 ∧ Cond.privateMethod q.1 ∈ tables_1 ∧ Cond.instanceMethod q.1 ∈ tables_1
theorem lw_p0 : lw_okq (⟨"NamedNext$Clauses", "doClause", "()Z"⟩, 3) := ⟨⟨by decide +kernel, by decide +kernel⟩, List.mem_of_getElem? (i := 92) (by decide +kernel), List.mem_of_getElem? (i := 293) (by decide +kernel), List.mem_of_getElem? (i := 294) (by decide +kernel)⟩
theorem lw_p1 : lw_okq (⟨"NamedNext$Clauses", "kindOfWord", "()I"⟩, 3) := ⟨⟨by decide +kernel, by decide +kernel⟩, List.mem_of_getElem? (i := 92) (by decide +kernel), List.mem_of_getElem? (i := 297) (by decide +kernel), List.mem_of_getElem? (i := 298) (by decide +kernel)⟩
theorem lw_p2 : lw_okq (⟨"NamedNext$Clauses", "doReader", "(I)Z"⟩, 3) := ⟨⟨by decide +kernel, by decide +kernel⟩, List.mem_of_getElem? (i := 92) (by decide +kernel), List.mem_of_getElem? (i := 357) (by decide +kernel), List.mem_of_getElem? (i := 358) (by decide +kernel)⟩
theorem lw_p3 : lw_okq (⟨"NamedNext$Clauses", "nextNumber", "(I)I"⟩, 3) := ⟨⟨by decide +kernel, by decide +kernel⟩, List.mem_of_getElem? (i := 92) (by decide +kernel), List.mem_of_getElem? (i := 361) (by decide +kernel), List.mem_of_getElem? (i := 362) (by decide +kernel)⟩
theorem lw_p4 : lw_okq (⟨"NamedNext$Clauses", "doFeud", "()Z"⟩, 3) := ⟨⟨by decide +kernel, by decide +kernel⟩, List.mem_of_getElem? (i := 92) (by decide +kernel), List.mem_of_getElem? (i := 375) (by decide +kernel), List.mem_of_getElem? (i := 376) (by decide +kernel)⟩
theorem lw_p5 : lw_okq (⟨"NamedNext$Clauses", "doMove", "()Z"⟩, 3) := ⟨⟨by decide +kernel, by decide +kernel⟩, List.mem_of_getElem? (i := 92) (by decide +kernel), List.mem_of_getElem? (i := 384) (by decide +kernel), List.mem_of_getElem? (i := 385) (by decide +kernel)⟩
theorem lw_p6 : lw_okq (⟨"NamedNext$Clauses", "doBook", "()Z"⟩, 3) := ⟨⟨by decide +kernel, by decide +kernel⟩, List.mem_of_getElem? (i := 92) (by decide +kernel), List.mem_of_getElem? (i := 389) (by decide +kernel), List.mem_of_getElem? (i := 390) (by decide +kernel)⟩
theorem lw_p7 : lw_okq (⟨"NamedNext", "booksHeldBy", "(I)I"⟩, 11) := ⟨⟨by decide +kernel, by decide +kernel⟩, List.mem_of_getElem? (i := 19) (by decide +kernel), List.mem_of_getElem? (i := 437) (by decide +kernel), List.mem_of_getElem? (i := 438) (by decide +kernel)⟩
theorem lw_p8 : lw_okq (⟨"NamedNext", "booksHadBy", "(I)I"⟩, 11) := ⟨⟨by decide +kernel, by decide +kernel⟩, List.mem_of_getElem? (i := 19) (by decide +kernel), List.mem_of_getElem? (i := 441) (by decide +kernel), List.mem_of_getElem? (i := 442) (by decide +kernel)⟩
theorem lw_p9 : lw_okq (⟨"NamedNext", "isWalled", "(I)Z"⟩, 11) := ⟨⟨by decide +kernel, by decide +kernel⟩, List.mem_of_getElem? (i := 19) (by decide +kernel), List.mem_of_getElem? (i := 456) (by decide +kernel), List.mem_of_getElem? (i := 457) (by decide +kernel)⟩
theorem lw_p10 : lw_okq (⟨"NamedNext", "namableNow", "(I)I"⟩, 11) := ⟨⟨by decide +kernel, by decide +kernel⟩, List.mem_of_getElem? (i := 19) (by decide +kernel), List.mem_of_getElem? (i := 460) (by decide +kernel), List.mem_of_getElem? (i := 461) (by decide +kernel)⟩
theorem lw_p11 : lw_okq (⟨"NamedNext$Told", "likes", "(II)Z"⟩, 7) := ⟨⟨by decide +kernel, by decide +kernel⟩, List.mem_of_getElem? (i := 49) (by decide +kernel), List.mem_of_getElem? (i := 472) (by decide +kernel), List.mem_of_getElem? (i := 473) (by decide +kernel)⟩
theorem lw_p12 : lw_okq (⟨"NamedNext$Rows", "begin", "(LNamedNext$Days;I)V"⟩, 10) := ⟨⟨by decide +kernel, by decide +kernel⟩, List.mem_of_getElem? (i := 158) (by decide +kernel), List.mem_of_getElem? (i := 546) (by decide +kernel), List.mem_of_getElem? (i := 547) (by decide +kernel)⟩
theorem lw_p13 : lw_okq (⟨"NamedNext$Rows", "findLiked", "()V"⟩, 10) := ⟨⟨by decide +kernel, by decide +kernel⟩, List.mem_of_getElem? (i := 158) (by decide +kernel), List.mem_of_getElem? (i := 550) (by decide +kernel), List.mem_of_getElem? (i := 551) (by decide +kernel)⟩
theorem lw_p14 : lw_okq (⟨"NamedNext$Rows", "everybody", "()I"⟩, 10) := ⟨⟨by decide +kernel, by decide +kernel⟩, List.mem_of_getElem? (i := 158) (by decide +kernel), List.mem_of_getElem? (i := 556) (by decide +kernel), List.mem_of_getElem? (i := 557) (by decide +kernel)⟩
theorem lw_p15 : lw_okq (⟨"NamedNext$Rows", "namingsTo", "(I)I"⟩, 10) := ⟨⟨by decide +kernel, by decide +kernel⟩, List.mem_of_getElem? (i := 158) (by decide +kernel), List.mem_of_getElem? (i := 560) (by decide +kernel), List.mem_of_getElem? (i := 561) (by decide +kernel)⟩
def lw_privs_1 : List (MethodName × Nat) := [(⟨"NamedNext$Clauses", "doClause", "()Z"⟩, 3), (⟨"NamedNext$Clauses", "kindOfWord", "()I"⟩, 3), (⟨"NamedNext$Clauses", "doReader", "(I)Z"⟩, 3), (⟨"NamedNext$Clauses", "nextNumber", "(I)I"⟩, 3), (⟨"NamedNext$Clauses", "doFeud", "()Z"⟩, 3), (⟨"NamedNext$Clauses", "doMove", "()Z"⟩, 3), (⟨"NamedNext$Clauses", "doBook", "()Z"⟩, 3), (⟨"NamedNext", "booksHeldBy", "(I)I"⟩, 11), (⟨"NamedNext", "booksHadBy", "(I)I"⟩, 11), (⟨"NamedNext", "isWalled", "(I)Z"⟩, 11), (⟨"NamedNext", "namableNow", "(I)I"⟩, 11), (⟨"NamedNext$Told", "likes", "(II)Z"⟩, 7), (⟨"NamedNext$Rows", "begin", "(LNamedNext$Days;I)V"⟩, 10), (⟨"NamedNext$Rows", "findLiked", "()V"⟩, 10), (⟨"NamedNext$Rows", "everybody", "()I"⟩, 10), (⟨"NamedNext$Rows", "namingsTo", "(I)I"⟩, 10)]
theorem lw_r1 : ∀ q ∈ lw_privs_1, lw_okq q := List.forall_mem_cons.mpr ⟨lw_p0, List.forall_mem_cons.mpr ⟨lw_p1, List.forall_mem_cons.mpr ⟨lw_p2, List.forall_mem_cons.mpr ⟨lw_p3, List.forall_mem_cons.mpr ⟨lw_p4, List.forall_mem_cons.mpr ⟨lw_p5, List.forall_mem_cons.mpr ⟨lw_p6, List.forall_mem_cons.mpr ⟨lw_p7, List.forall_mem_cons.mpr ⟨lw_p8, List.forall_mem_cons.mpr ⟨lw_p9, List.forall_mem_cons.mpr ⟨lw_p10, List.forall_mem_cons.mpr ⟨lw_p11, List.forall_mem_cons.mpr ⟨lw_p12, List.forall_mem_cons.mpr ⟨lw_p13, List.forall_mem_cons.mpr ⟨lw_p14, List.forall_mem_cons.mpr ⟨lw_p15, fun _ h => absurd h List.not_mem_nil⟩⟩⟩⟩⟩⟩⟩⟩⟩⟩⟩⟩⟩⟩⟩⟩
theorem lw_p16 : lw_okq (⟨"NamedNext$Rows", "fill", "(I[J)V"⟩, 10) := ⟨⟨by decide +kernel, by decide +kernel⟩, List.mem_of_getElem? (i := 158) (by decide +kernel), List.mem_of_getElem? (i := 565) (by decide +kernel), List.mem_of_getElem? (i := 566) (by decide +kernel)⟩
theorem lw_p17 : lw_okq (⟨"NamedNext$Rows", "measureOf", "(I[JII)J"⟩, 10) := ⟨⟨by decide +kernel, by decide +kernel⟩, List.mem_of_getElem? (i := 158) (by decide +kernel), List.mem_of_getElem? (i := 573) (by decide +kernel), List.mem_of_getElem? (i := 574) (by decide +kernel)⟩
theorem lw_p18 : lw_okq (⟨"NamedNext$Rows", "choicesOfLongest", "(II)I"⟩, 10) := ⟨⟨by decide +kernel, by decide +kernel⟩, List.mem_of_getElem? (i := 158) (by decide +kernel), List.mem_of_getElem? (i := 577) (by decide +kernel), List.mem_of_getElem? (i := 578) (by decide +kernel)⟩
theorem lw_p19 : lw_okq (⟨"NamedNext$Rows", "choicesOf", "(II)I"⟩, 10) := ⟨⟨by decide +kernel, by decide +kernel⟩, List.mem_of_getElem? (i := 158) (by decide +kernel), List.mem_of_getElem? (i := 581) (by decide +kernel), List.mem_of_getElem? (i := 582) (by decide +kernel)⟩
theorem lw_p20 : lw_okq (⟨"NamedNext$Rows", "throughOne", "(IJII)J"⟩, 10) := ⟨⟨by decide +kernel, by decide +kernel⟩, List.mem_of_getElem? (i := 158) (by decide +kernel), List.mem_of_getElem? (i := 589) (by decide +kernel), List.mem_of_getElem? (i := 590) (by decide +kernel)⟩
theorem lw_p21 : lw_okq (⟨"NamedNext$Rows", "unread", "(I)I"⟩, 10) := ⟨⟨by decide +kernel, by decide +kernel⟩, List.mem_of_getElem? (i := 158) (by decide +kernel), List.mem_of_getElem? (i := 593) (by decide +kernel), List.mem_of_getElem? (i := 594) (by decide +kernel)⟩
theorem lw_p22 : lw_okq (⟨"NamedNext$Rows", "shareOfLot", "(II)J"⟩, 10) := ⟨⟨by decide +kernel, by decide +kernel⟩, List.mem_of_getElem? (i := 158) (by decide +kernel), List.mem_of_getElem? (i := 611) (by decide +kernel), List.mem_of_getElem? (i := 612) (by decide +kernel)⟩
theorem lw_p23 : lw_okq (⟨"NamedNext$Rows", "ringsThrough", "(IIII)I"⟩, 10) := ⟨⟨by decide +kernel, by decide +kernel⟩, List.mem_of_getElem? (i := 158) (by decide +kernel), List.mem_of_getElem? (i := 675) (by decide +kernel), List.mem_of_getElem? (i := 676) (by decide +kernel)⟩
theorem lw_p24 : lw_okq (⟨"NamedNext$Rows", "spreadFrom", "(I)V"⟩, 10) := ⟨⟨by decide +kernel, by decide +kernel⟩, List.mem_of_getElem? (i := 158) (by decide +kernel), List.mem_of_getElem? (i := 688) (by decide +kernel), List.mem_of_getElem? (i := 689) (by decide +kernel)⟩
theorem lw_p25 : lw_okq (⟨"NamedNext$Slips", "forbidden", "(LNamedNext$Told;)I"⟩, 4) := ⟨⟨by decide +kernel, by decide +kernel⟩, List.mem_of_getElem? (i := 197) (by decide +kernel), List.mem_of_getElem? (i := 712) (by decide +kernel), List.mem_of_getElem? (i := 713) (by decide +kernel)⟩
theorem lw_p26 : lw_okq (⟨"NamedNext$Slips", "fitWithout", "(I)Z"⟩, 4) := ⟨⟨by decide +kernel, by decide +kernel⟩, List.mem_of_getElem? (i := 197) (by decide +kernel), List.mem_of_getElem? (i := 719) (by decide +kernel), List.mem_of_getElem? (i := 720) (by decide +kernel)⟩
theorem lw_p27 : lw_okq (⟨"NamedNext$Slips", "hasRing", "()Z"⟩, 4) := ⟨⟨by decide +kernel, by decide +kernel⟩, List.mem_of_getElem? (i := 197) (by decide +kernel), List.mem_of_getElem? (i := 724) (by decide +kernel), List.mem_of_getElem? (i := 725) (by decide +kernel)⟩
theorem lw_p28 : lw_okq (⟨"NamedNext", "walledBooks", "()I"⟩, 11) := ⟨⟨by decide +kernel, by decide +kernel⟩, List.mem_of_getElem? (i := 19) (by decide +kernel), List.mem_of_getElem? (i := 746) (by decide +kernel), List.mem_of_getElem? (i := 747) (by decide +kernel)⟩
theorem lw_p29 : lw_okq (⟨"NamedNext", "namings", "()I"⟩, 11) := ⟨⟨by decide +kernel, by decide +kernel⟩, List.mem_of_getElem? (i := 19) (by decide +kernel), List.mem_of_getElem? (i := 750) (by decide +kernel), List.mem_of_getElem? (i := 751) (by decide +kernel)⟩
theorem lw_p30 : lw_okq (⟨"NamedNextModel", "reads", "()I"⟩, 24) := ⟨⟨by decide +kernel, by decide +kernel⟩, List.mem_of_getElem? (i := 754) (by decide +kernel), List.mem_of_getElem? (i := 849) (by decide +kernel), List.mem_of_getElem? (i := 850) (by decide +kernel)⟩
theorem lw_p31 : lw_okq (⟨"NamedNextModel", "token", "()V"⟩, 24) := ⟨⟨by decide +kernel, by decide +kernel⟩, List.mem_of_getElem? (i := 754) (by decide +kernel), List.mem_of_getElem? (i := 853) (by decide +kernel), List.mem_of_getElem? (i := 854) (by decide +kernel)⟩
def lw_privs_2 : List (MethodName × Nat) := [(⟨"NamedNext$Rows", "fill", "(I[J)V"⟩, 10), (⟨"NamedNext$Rows", "measureOf", "(I[JII)J"⟩, 10), (⟨"NamedNext$Rows", "choicesOfLongest", "(II)I"⟩, 10), (⟨"NamedNext$Rows", "choicesOf", "(II)I"⟩, 10), (⟨"NamedNext$Rows", "throughOne", "(IJII)J"⟩, 10), (⟨"NamedNext$Rows", "unread", "(I)I"⟩, 10), (⟨"NamedNext$Rows", "shareOfLot", "(II)J"⟩, 10), (⟨"NamedNext$Rows", "ringsThrough", "(IIII)I"⟩, 10), (⟨"NamedNext$Rows", "spreadFrom", "(I)V"⟩, 10), (⟨"NamedNext$Slips", "forbidden", "(LNamedNext$Told;)I"⟩, 4), (⟨"NamedNext$Slips", "fitWithout", "(I)Z"⟩, 4), (⟨"NamedNext$Slips", "hasRing", "()Z"⟩, 4), (⟨"NamedNext", "walledBooks", "()I"⟩, 11), (⟨"NamedNext", "namings", "()I"⟩, 11), (⟨"NamedNextModel", "reads", "()I"⟩, 24), (⟨"NamedNextModel", "token", "()V"⟩, 24)]
theorem lw_r2 : ∀ q ∈ lw_privs_2, lw_okq q := List.forall_mem_cons.mpr ⟨lw_p16, List.forall_mem_cons.mpr ⟨lw_p17, List.forall_mem_cons.mpr ⟨lw_p18, List.forall_mem_cons.mpr ⟨lw_p19, List.forall_mem_cons.mpr ⟨lw_p20, List.forall_mem_cons.mpr ⟨lw_p21, List.forall_mem_cons.mpr ⟨lw_p22, List.forall_mem_cons.mpr ⟨lw_p23, List.forall_mem_cons.mpr ⟨lw_p24, List.forall_mem_cons.mpr ⟨lw_p25, List.forall_mem_cons.mpr ⟨lw_p26, List.forall_mem_cons.mpr ⟨lw_p27, List.forall_mem_cons.mpr ⟨lw_p28, List.forall_mem_cons.mpr ⟨lw_p29, List.forall_mem_cons.mpr ⟨lw_p30, List.forall_mem_cons.mpr ⟨lw_p31, fun _ h => absurd h List.not_mem_nil⟩⟩⟩⟩⟩⟩⟩⟩⟩⟩⟩⟩⟩⟩⟩⟩
theorem lw_p32 : lw_okq (⟨"NamedNextModel", "letterAt", "(I)I"⟩, 24) := ⟨⟨by decide +kernel, by decide +kernel⟩, List.mem_of_getElem? (i := 754) (by decide +kernel), List.mem_of_getElem? (i := 857) (by decide +kernel), List.mem_of_getElem? (i := 858) (by decide +kernel)⟩
theorem lw_p33 : lw_okq (⟨"NamedNextModel", "readsClause", "()Z"⟩, 24) := ⟨⟨by decide +kernel, by decide +kernel⟩, List.mem_of_getElem? (i := 754) (by decide +kernel), List.mem_of_getElem? (i := 867) (by decide +kernel), List.mem_of_getElem? (i := 868) (by decide +kernel)⟩
theorem lw_p34 : lw_okq (⟨"NamedNextModel", "isWord", "(IIIIIIIII)Z"⟩, 24) := ⟨⟨by decide +kernel, by decide +kernel⟩, List.mem_of_getElem? (i := 754) (by decide +kernel), List.mem_of_getElem? (i := 871) (by decide +kernel), List.mem_of_getElem? (i := 872) (by decide +kernel)⟩
theorem lw_p35 : lw_okq (⟨"NamedNextModel", "forgets", "()V"⟩, 24) := ⟨⟨by decide +kernel, by decide +kernel⟩, List.mem_of_getElem? (i := 754) (by decide +kernel), List.mem_of_getElem? (i := 875) (by decide +kernel), List.mem_of_getElem? (i := 876) (by decide +kernel)⟩
theorem lw_p36 : lw_okq (⟨"NamedNextModel", "readsReader", "(I)Z"⟩, 24) := ⟨⟨by decide +kernel, by decide +kernel⟩, List.mem_of_getElem? (i := 754) (by decide +kernel), List.mem_of_getElem? (i := 879) (by decide +kernel), List.mem_of_getElem? (i := 880) (by decide +kernel)⟩
theorem lw_p37 : lw_okq (⟨"NamedNextModel", "number", "(III)Z"⟩, 24) := ⟨⟨by decide +kernel, by decide +kernel⟩, List.mem_of_getElem? (i := 754) (by decide +kernel), List.mem_of_getElem? (i := 883) (by decide +kernel), List.mem_of_getElem? (i := 884) (by decide +kernel)⟩
theorem lw_p38 : lw_okq (⟨"NamedNextModel", "readsFeud", "()Z"⟩, 24) := ⟨⟨by decide +kernel, by decide +kernel⟩, List.mem_of_getElem? (i := 754) (by decide +kernel), List.mem_of_getElem? (i := 887) (by decide +kernel), List.mem_of_getElem? (i := 888) (by decide +kernel)⟩
theorem lw_p39 : lw_okq (⟨"NamedNextModel", "readsMove", "()Z"⟩, 24) := ⟨⟨by decide +kernel, by decide +kernel⟩, List.mem_of_getElem? (i := 754) (by decide +kernel), List.mem_of_getElem? (i := 891) (by decide +kernel), List.mem_of_getElem? (i := 892) (by decide +kernel)⟩
theorem lw_p40 : lw_okq (⟨"NamedNextModel", "readsBook", "()Z"⟩, 24) := ⟨⟨by decide +kernel, by decide +kernel⟩, List.mem_of_getElem? (i := 754) (by decide +kernel), List.mem_of_getElem? (i := 895) (by decide +kernel), List.mem_of_getElem? (i := 896) (by decide +kernel)⟩
theorem lw_p41 : lw_okq (⟨"NamedNextModel", "peace", "()V"⟩, 24) := ⟨⟨by decide +kernel, by decide +kernel⟩, List.mem_of_getElem? (i := 754) (by decide +kernel), List.mem_of_getElem? (i := 899) (by decide +kernel), List.mem_of_getElem? (i := 900) (by decide +kernel)⟩
theorem lw_p42 : lw_okq (⟨"NamedNextModel", "isReader", "(I)Z"⟩, 24) := ⟨⟨by decide +kernel, by decide +kernel⟩, List.mem_of_getElem? (i := 754) (by decide +kernel), List.mem_of_getElem? (i := 911) (by decide +kernel), List.mem_of_getElem? (i := 912) (by decide +kernel)⟩
theorem lw_p43 : lw_okq (⟨"NamedNextModel", "isBook", "(I)Z"⟩, 24) := ⟨⟨by decide +kernel, by decide +kernel⟩, List.mem_of_getElem? (i := 754) (by decide +kernel), List.mem_of_getElem? (i := 919) (by decide +kernel), List.mem_of_getElem? (i := 920) (by decide +kernel)⟩
theorem lw_p44 : lw_okq (⟨"NamedNextModel", "namedNow", "(I)I"⟩, 24) := ⟨⟨by decide +kernel, by decide +kernel⟩, List.mem_of_getElem? (i := 754) (by decide +kernel), List.mem_of_getElem? (i := 923) (by decide +kernel), List.mem_of_getElem? (i := 924) (by decide +kernel)⟩
theorem lw_p45 : lw_okq (⟨"NamedNextModel", "named", "(II)I"⟩, 24) := ⟨⟨by decide +kernel, by decide +kernel⟩, List.mem_of_getElem? (i := 754) (by decide +kernel), List.mem_of_getElem? (i := 927) (by decide +kernel), List.mem_of_getElem? (i := 928) (by decide +kernel)⟩
theorem lw_p46 : lw_okq (⟨"NamedNextModel", "keeps", "()V"⟩, 24) := ⟨⟨by decide +kernel, by decide +kernel⟩, List.mem_of_getElem? (i := 754) (by decide +kernel), List.mem_of_getElem? (i := 943) (by decide +kernel), List.mem_of_getElem? (i := 944) (by decide +kernel)⟩
theorem lw_p47 : lw_okq (⟨"NamedNextModel", "laysAll", "(I)I"⟩, 24) := ⟨⟨by decide +kernel, by decide +kernel⟩, List.mem_of_getElem? (i := 754) (by decide +kernel), List.mem_of_getElem? (i := 970) (by decide +kernel), List.mem_of_getElem? (i := 971) (by decide +kernel)⟩
def lw_privs_3 : List (MethodName × Nat) := [(⟨"NamedNextModel", "letterAt", "(I)I"⟩, 24), (⟨"NamedNextModel", "readsClause", "()Z"⟩, 24), (⟨"NamedNextModel", "isWord", "(IIIIIIIII)Z"⟩, 24), (⟨"NamedNextModel", "forgets", "()V"⟩, 24), (⟨"NamedNextModel", "readsReader", "(I)Z"⟩, 24), (⟨"NamedNextModel", "number", "(III)Z"⟩, 24), (⟨"NamedNextModel", "readsFeud", "()Z"⟩, 24), (⟨"NamedNextModel", "readsMove", "()Z"⟩, 24), (⟨"NamedNextModel", "readsBook", "()Z"⟩, 24), (⟨"NamedNextModel", "peace", "()V"⟩, 24), (⟨"NamedNextModel", "isReader", "(I)Z"⟩, 24), (⟨"NamedNextModel", "isBook", "(I)Z"⟩, 24), (⟨"NamedNextModel", "namedNow", "(I)I"⟩, 24), (⟨"NamedNextModel", "named", "(II)I"⟩, 24), (⟨"NamedNextModel", "keeps", "()V"⟩, 24), (⟨"NamedNextModel", "laysAll", "(I)I"⟩, 24)]
theorem lw_r3 : ∀ q ∈ lw_privs_3, lw_okq q := List.forall_mem_cons.mpr ⟨lw_p32, List.forall_mem_cons.mpr ⟨lw_p33, List.forall_mem_cons.mpr ⟨lw_p34, List.forall_mem_cons.mpr ⟨lw_p35, List.forall_mem_cons.mpr ⟨lw_p36, List.forall_mem_cons.mpr ⟨lw_p37, List.forall_mem_cons.mpr ⟨lw_p38, List.forall_mem_cons.mpr ⟨lw_p39, List.forall_mem_cons.mpr ⟨lw_p40, List.forall_mem_cons.mpr ⟨lw_p41, List.forall_mem_cons.mpr ⟨lw_p42, List.forall_mem_cons.mpr ⟨lw_p43, List.forall_mem_cons.mpr ⟨lw_p44, List.forall_mem_cons.mpr ⟨lw_p45, List.forall_mem_cons.mpr ⟨lw_p46, List.forall_mem_cons.mpr ⟨lw_p47, fun _ h => absurd h List.not_mem_nil⟩⟩⟩⟩⟩⟩⟩⟩⟩⟩⟩⟩⟩⟩⟩⟩
theorem lw_p48 : lw_okq (⟨"NamedNextModel", "isState", "(III)Z"⟩, 24) := ⟨⟨by decide +kernel, by decide +kernel⟩, List.mem_of_getElem? (i := 754) (by decide +kernel), List.mem_of_getElem? (i := 974) (by decide +kernel), List.mem_of_getElem? (i := 975) (by decide +kernel)⟩
theorem lw_p49 : lw_okq (⟨"NamedNextModel", "lays", "(III)V"⟩, 24) := ⟨⟨by decide +kernel, by decide +kernel⟩, List.mem_of_getElem? (i := 754) (by decide +kernel), List.mem_of_getElem? (i := 978) (by decide +kernel), List.mem_of_getElem? (i := 979) (by decide +kernel)⟩
theorem lw_p50 : lw_okq (⟨"NamedNextModel", "nexts", "(III)I"⟩, 24) := ⟨⟨by decide +kernel, by decide +kernel⟩, List.mem_of_getElem? (i := 754) (by decide +kernel), List.mem_of_getElem? (i := 982) (by decide +kernel), List.mem_of_getElem? (i := 983) (by decide +kernel)⟩
theorem lw_p51 : lw_okq (⟨"NamedNextModel", "laysOdds", "(I)V"⟩, 24) := ⟨⟨by decide +kernel, by decide +kernel⟩, List.mem_of_getElem? (i := 754) (by decide +kernel), List.mem_of_getElem? (i := 1012) (by decide +kernel), List.mem_of_getElem? (i := 1013) (by decide +kernel)⟩
theorem lw_p52 : lw_okq (⟨"NamedNextModel", "holders", "(II)I"⟩, 24) := ⟨⟨by decide +kernel, by decide +kernel⟩, List.mem_of_getElem? (i := 754) (by decide +kernel), List.mem_of_getElem? (i := 1036) (by decide +kernel), List.mem_of_getElem? (i := 1037) (by decide +kernel)⟩
theorem lw_p53 : lw_okq (⟨"NamedNextModel", "forgedOnes", "()I"⟩, 24) := ⟨⟨by decide +kernel, by decide +kernel⟩, List.mem_of_getElem? (i := 754) (by decide +kernel), List.mem_of_getElem? (i := 1052) (by decide +kernel), List.mem_of_getElem? (i := 1053) (by decide +kernel)⟩
theorem lw_p54 : lw_okq (⟨"NamedNextModel", "canBe", "(I)Z"⟩, 24) := ⟨⟨by decide +kernel, by decide +kernel⟩, List.mem_of_getElem? (i := 754) (by decide +kernel), List.mem_of_getElem? (i := 1056) (by decide +kernel), List.mem_of_getElem? (i := 1057) (by decide +kernel)⟩
def lw_privs_4 : List (MethodName × Nat) := [(⟨"NamedNextModel", "isState", "(III)Z"⟩, 24), (⟨"NamedNextModel", "lays", "(III)V"⟩, 24), (⟨"NamedNextModel", "nexts", "(III)I"⟩, 24), (⟨"NamedNextModel", "laysOdds", "(I)V"⟩, 24), (⟨"NamedNextModel", "holders", "(II)I"⟩, 24), (⟨"NamedNextModel", "forgedOnes", "()I"⟩, 24), (⟨"NamedNextModel", "canBe", "(I)Z"⟩, 24)]
theorem lw_r4 : ∀ q ∈ lw_privs_4, lw_okq q := List.forall_mem_cons.mpr ⟨lw_p48, List.forall_mem_cons.mpr ⟨lw_p49, List.forall_mem_cons.mpr ⟨lw_p50, List.forall_mem_cons.mpr ⟨lw_p51, List.forall_mem_cons.mpr ⟨lw_p52, List.forall_mem_cons.mpr ⟨lw_p53, List.forall_mem_cons.mpr ⟨lw_p54, fun _ h => absurd h List.not_mem_nil⟩⟩⟩⟩⟩⟩⟩
def lw_privs : List (MethodName × Nat) := lw_privs_1 ++ (lw_privs_2 ++ (lw_privs_3 ++ (lw_privs_4)))
def lw_tbl : List Cond := k2_sels lw_privs ++ tables_1
theorem lw_privs_ok : ∀ q ∈ lw_privs, lw_okq q := by
  show ∀ q ∈ lw_privs_1 ++ (lw_privs_2 ++ (lw_privs_3 ++ (lw_privs_4))), lw_okq q
  exact List.forall_mem_append.mpr ⟨lw_r1, List.forall_mem_append.mpr ⟨lw_r2, List.forall_mem_append.mpr ⟨lw_r3, lw_r4⟩⟩⟩
end
section
/-! classes: names, fields, types -/
def zk_tbl : List Cond := lw_tbl.filter goodWord
theorem zk_mem {w : Cond} (i : Nat) (h : tables_1[i]? = some w) (g : goodWord w = true) : w ∈ zk_tbl := List.mem_filter.mpr ⟨List.mem_append_right _ (List.mem_of_getElem? h), g⟩
theorem zk_memS {w : Cond} (i : Nat) (h : (k2_sels lw_privs)[i]? = some w) (g : goodWord w = true) : w ∈ zk_tbl := List.mem_filter.mpr ⟨List.mem_append_left _ (List.mem_of_getElem? h), g⟩
def zk_n0 : String := "NamedNext$Clauses"
def zk_t0 : u_T := fun k => match k with
  | 0 => ("NamedNext$Clauses", "draft", "LNamedNext$Told;", true)
  | 1 => ("NamedNext$Clauses", "done", "I", false)
  | _ => ("NamedNext$Clauses", "text", "LNamedNext$Text;", true)
def zk_y0 : Nat → FieldType := fun k => match k with
  | 0 => .object "NamedNext$Told"
  | 1 => .int
  | _ => .object "NamedNext$Text"
theorem zk_nm0 : ∀ a, a < 3 → ∀ b, b < 3 → a ≠ b → (zk_t0 a).2.1 ≠ (zk_t0 b).2.1 := by decide +kernel
theorem zk_ty0 : ∀ k, k < 3 → parseFieldDescriptor (zk_t0 k).2.2.1 = some (zk_y0 k) := by decide +kernel
theorem zk_l0_0 : u_lay zk_n0 zk_t0 0 ∈ zk_tbl := zk_mem 104 (by decide +kernel) (by decide +kernel)
theorem zk_l0_1 : u_lay zk_n0 zk_t0 1 ∈ zk_tbl := zk_mem 106 (by decide +kernel) (by decide +kernel)
theorem zk_l0_2 : u_lay zk_n0 zk_t0 2 ∈ zk_tbl := zk_mem 108 (by decide +kernel) (by decide +kernel)
theorem zk_in0 : ∀ w ∈ u_ws zk_n0 zk_t0 3, w ∈ zk_tbl := by
  intro w hw
  obtain ⟨k, hk, rfl⟩ := List.mem_map.mp hw
  have hk := List.mem_range.mp hk
  match k, hk with
  | 0, _ => exact zk_l0_0
  | 1, _ => exact zk_l0_1
  | 2, _ => exact zk_l0_2
  | k + 3, h => exact absurd h (by omega)
def zk_n1 : String := "NamedNext$Days"
def zk_t1 : u_T := fun k => match k with
  | 0 => ("NamedNext$Days", "today", "I", false)
  | 1 => ("NamedNext$Days", "holders", "[I", true)
  | 2 => ("NamedNext$Days", "had", "[I", true)
  | _ => ("NamedNext$Days", "lastNamed", "[I", true)
def zk_y1 : Nat → FieldType := fun k => match k with
  | 0 => .int
  | 1 => .array .int
  | 2 => .array .int
  | _ => .array .int
theorem zk_nm1 : ∀ a, a < 4 → ∀ b, b < 4 → a ≠ b → (zk_t1 a).2.1 ≠ (zk_t1 b).2.1 := by decide +kernel
theorem zk_ty1 : ∀ k, k < 4 → parseFieldDescriptor (zk_t1 k).2.2.1 = some (zk_y1 k) := by decide +kernel
theorem zk_l1_0 : u_lay zk_n1 zk_t1 0 ∈ zk_tbl := zk_mem 128 (by decide +kernel) (by decide +kernel)
theorem zk_l1_1 : u_lay zk_n1 zk_t1 1 ∈ zk_tbl := zk_mem 130 (by decide +kernel) (by decide +kernel)
theorem zk_l1_2 : u_lay zk_n1 zk_t1 2 ∈ zk_tbl := zk_mem 132 (by decide +kernel) (by decide +kernel)
theorem zk_l1_3 : u_lay zk_n1 zk_t1 3 ∈ zk_tbl := zk_mem 134 (by decide +kernel) (by decide +kernel)
theorem zk_in1 : ∀ w ∈ u_ws zk_n1 zk_t1 4, w ∈ zk_tbl := by
  intro w hw
  obtain ⟨k, hk, rfl⟩ := List.mem_map.mp hw
  have hk := List.mem_range.mp hk
  match k, hk with
  | 0, _ => exact zk_l1_0
  | 1, _ => exact zk_l1_1
  | 2, _ => exact zk_l1_2
  | 3, _ => exact zk_l1_3
  | k + 4, h => exact absurd h (by omega)
def zk_n2 : String := "NamedNext$Past"
def zk_t2 : u_T := fun k => match k with
  | 0 => ("NamedNext$Past", "size", "I", false)
  | 1 => ("NamedNext$Past", "next", "I", false)
  | _ => ("NamedNext$Past", "ring", "[LNamedNext$Days;", true)
def zk_y2 : Nat → FieldType := fun k => match k with
  | 0 => .int
  | 1 => .int
  | _ => .array (.object "NamedNext$Days")
theorem zk_nm2 : ∀ a, a < 3 → ∀ b, b < 3 → a ≠ b → (zk_t2 a).2.1 ≠ (zk_t2 b).2.1 := by decide +kernel
theorem zk_ty2 : ∀ k, k < 3 → parseFieldDescriptor (zk_t2 k).2.2.1 = some (zk_y2 k) := by decide +kernel
theorem zk_l2_0 : u_lay zk_n2 zk_t2 0 ∈ zk_tbl := zk_mem 150 (by decide +kernel) (by decide +kernel)
theorem zk_l2_1 : u_lay zk_n2 zk_t2 1 ∈ zk_tbl := zk_mem 152 (by decide +kernel) (by decide +kernel)
theorem zk_l2_2 : u_lay zk_n2 zk_t2 2 ∈ zk_tbl := zk_mem 154 (by decide +kernel) (by decide +kernel)
theorem zk_in2 : ∀ w ∈ u_ws zk_n2 zk_t2 3, w ∈ zk_tbl := by
  intro w hw
  obtain ⟨k, hk, rfl⟩ := List.mem_map.mp hw
  have hk := List.mem_range.mp hk
  match k, hk with
  | 0, _ => exact zk_l2_0
  | 1, _ => exact zk_l2_1
  | 2, _ => exact zk_l2_2
  | k + 3, h => exact absurd h (by omega)
def zk_n3 : String := "NamedNext$Rows"
def zk_t3 : u_T := fun k => match k with
  | 0 => ("NamedNext$Rows", "asked", "I", false)
  | 1 => ("NamedNext$Rows", "told", "LNamedNext$Told;", true)
  | 2 => ("NamedNext$Rows", "liked", "[I", true)
  | 3 => ("NamedNext$Rows", "hereAfter", "[I", true)
  | 4 => ("NamedNext$Rows", "openBehind", "[I", true)
  | 5 => ("NamedNext$Rows", "holdersBySet", "[I", true)
  | 6 => ("NamedNext$Rows", "most", "[J", true)
  | 7 => ("NamedNext$Rows", "worth", "[J", true)
  | 8 => ("NamedNext$Rows", "hadNow", "I", false)
  | _ => ("NamedNext$Rows", "holderNow", "I", false)
def zk_y3 : Nat → FieldType := fun k => match k with
  | 0 => .int
  | 1 => .object "NamedNext$Told"
  | 2 => .array .int
  | 3 => .array .int
  | 4 => .array .int
  | 5 => .array .int
  | 6 => .array .long
  | 7 => .array .long
  | 8 => .int
  | _ => .int
theorem zk_nm3 : ∀ a, a < 10 → ∀ b, b < 10 → a ≠ b → (zk_t3 a).2.1 ≠ (zk_t3 b).2.1 := by decide +kernel
theorem zk_ty3 : ∀ k, k < 10 → parseFieldDescriptor (zk_t3 k).2.2.1 = some (zk_y3 k) := by decide +kernel
theorem zk_l3_0 : u_lay zk_n3 zk_t3 0 ∈ zk_tbl := zk_mem 174 (by decide +kernel) (by decide +kernel)
theorem zk_l3_1 : u_lay zk_n3 zk_t3 1 ∈ zk_tbl := zk_mem 176 (by decide +kernel) (by decide +kernel)
theorem zk_l3_2 : u_lay zk_n3 zk_t3 2 ∈ zk_tbl := zk_mem 178 (by decide +kernel) (by decide +kernel)
theorem zk_l3_3 : u_lay zk_n3 zk_t3 3 ∈ zk_tbl := zk_mem 180 (by decide +kernel) (by decide +kernel)
theorem zk_l3_4 : u_lay zk_n3 zk_t3 4 ∈ zk_tbl := zk_mem 182 (by decide +kernel) (by decide +kernel)
theorem zk_l3_5 : u_lay zk_n3 zk_t3 5 ∈ zk_tbl := zk_mem 184 (by decide +kernel) (by decide +kernel)
theorem zk_l3_6 : u_lay zk_n3 zk_t3 6 ∈ zk_tbl := zk_mem 186 (by decide +kernel) (by decide +kernel)
theorem zk_l3_7 : u_lay zk_n3 zk_t3 7 ∈ zk_tbl := zk_mem 188 (by decide +kernel) (by decide +kernel)
theorem zk_l3_8 : u_lay zk_n3 zk_t3 8 ∈ zk_tbl := zk_mem 190 (by decide +kernel) (by decide +kernel)
theorem zk_l3_9 : u_lay zk_n3 zk_t3 9 ∈ zk_tbl := zk_mem 192 (by decide +kernel) (by decide +kernel)
theorem zk_in3 : ∀ w ∈ u_ws zk_n3 zk_t3 10, w ∈ zk_tbl := by
  intro w hw
  obtain ⟨k, hk, rfl⟩ := List.mem_map.mp hw
  have hk := List.mem_range.mp hk
  match k, hk with
  | 0, _ => exact zk_l3_0
  | 1, _ => exact zk_l3_1
  | 2, _ => exact zk_l3_2
  | 3, _ => exact zk_l3_3
  | 4, _ => exact zk_l3_4
  | 5, _ => exact zk_l3_5
  | 6, _ => exact zk_l3_6
  | 7, _ => exact zk_l3_7
  | 8, _ => exact zk_l3_8
  | 9, _ => exact zk_l3_9
  | k + 10, h => exact absurd h (by omega)
def zk_n4 : String := "NamedNext$Slips"
def zk_t4 : u_T := fun k => match k with
  | 0 => ("NamedNext$Slips", "size", "I", false)
  | 1 => ("NamedNext$Slips", "namers", "[I", true)
  | 2 => ("NamedNext$Slips", "named", "[I", true)
  | _ => ("NamedNext$Slips", "nextOf", "[I", true)
def zk_y4 : Nat → FieldType := fun k => match k with
  | 0 => .int
  | 1 => .array .int
  | 2 => .array .int
  | _ => .array .int
theorem zk_nm4 : ∀ a, a < 4 → ∀ b, b < 4 → a ≠ b → (zk_t4 a).2.1 ≠ (zk_t4 b).2.1 := by decide +kernel
theorem zk_ty4 : ∀ k, k < 4 → parseFieldDescriptor (zk_t4 k).2.2.1 = some (zk_y4 k) := by decide +kernel
theorem zk_l4_0 : u_lay zk_n4 zk_t4 0 ∈ zk_tbl := zk_mem 207 (by decide +kernel) (by decide +kernel)
theorem zk_l4_1 : u_lay zk_n4 zk_t4 1 ∈ zk_tbl := zk_mem 209 (by decide +kernel) (by decide +kernel)
theorem zk_l4_2 : u_lay zk_n4 zk_t4 2 ∈ zk_tbl := zk_mem 211 (by decide +kernel) (by decide +kernel)
theorem zk_l4_3 : u_lay zk_n4 zk_t4 3 ∈ zk_tbl := zk_mem 213 (by decide +kernel) (by decide +kernel)
theorem zk_in4 : ∀ w ∈ u_ws zk_n4 zk_t4 4, w ∈ zk_tbl := by
  intro w hw
  obtain ⟨k, hk, rfl⟩ := List.mem_map.mp hw
  have hk := List.mem_range.mp hk
  match k, hk with
  | 0, _ => exact zk_l4_0
  | 1, _ => exact zk_l4_1
  | 2, _ => exact zk_l4_2
  | 3, _ => exact zk_l4_3
  | k + 4, h => exact absurd h (by omega)
def zk_n5 : String := "NamedNext$Text"
def zk_t5 : u_T := fun k => match k with
  | 0 => ("NamedNext$Text", "letters", "[C", true)
  | 1 => ("NamedNext$Text", "length", "I", false)
  | 2 => ("NamedNext$Text", "start", "I", false)
  | _ => ("NamedNext$Text", "end", "I", false)
def zk_y5 : Nat → FieldType := fun k => match k with
  | 0 => .array .char
  | 1 => .int
  | 2 => .int
  | _ => .int
theorem zk_nm5 : ∀ a, a < 4 → ∀ b, b < 4 → a ≠ b → (zk_t5 a).2.1 ≠ (zk_t5 b).2.1 := by decide +kernel
theorem zk_ty5 : ∀ k, k < 4 → parseFieldDescriptor (zk_t5 k).2.2.1 = some (zk_y5 k) := by decide +kernel
theorem zk_l5_0 : u_lay zk_n5 zk_t5 0 ∈ zk_tbl := zk_mem 38 (by decide +kernel) (by decide +kernel)
theorem zk_l5_1 : u_lay zk_n5 zk_t5 1 ∈ zk_tbl := zk_mem 40 (by decide +kernel) (by decide +kernel)
theorem zk_l5_2 : u_lay zk_n5 zk_t5 2 ∈ zk_tbl := zk_mem 42 (by decide +kernel) (by decide +kernel)
theorem zk_l5_3 : u_lay zk_n5 zk_t5 3 ∈ zk_tbl := zk_mem 44 (by decide +kernel) (by decide +kernel)
theorem zk_in5 : ∀ w ∈ u_ws zk_n5 zk_t5 4, w ∈ zk_tbl := by
  intro w hw
  obtain ⟨k, hk, rfl⟩ := List.mem_map.mp hw
  have hk := List.mem_range.mp hk
  match k, hk with
  | 0, _ => exact zk_l5_0
  | 1, _ => exact zk_l5_1
  | 2, _ => exact zk_l5_2
  | 3, _ => exact zk_l5_3
  | k + 4, h => exact absurd h (by omega)
def zk_n6 : String := "NamedNext$Told"
def zk_t6 : u_T := fun k => match k with
  | 0 => ("NamedNext$Told", "readers", "I", false)
  | 1 => ("NamedNext$Told", "books", "I", false)
  | 2 => ("NamedNext$Told", "kinds", "[I", true)
  | 3 => ("NamedNext$Told", "ranks", "[I", true)
  | 4 => ("NamedNext$Told", "feuds", "[I", true)
  | 5 => ("NamedNext$Told", "moves", "[I", true)
  | _ => ("NamedNext$Told", "firsts", "[I", true)
def zk_y6 : Nat → FieldType := fun k => match k with
  | 0 => .int
  | 1 => .int
  | 2 => .array .int
  | 3 => .array .int
  | 4 => .array .int
  | 5 => .array .int
  | _ => .array .int
theorem zk_nm6 : ∀ a, a < 7 → ∀ b, b < 7 → a ≠ b → (zk_t6 a).2.1 ≠ (zk_t6 b).2.1 := by decide +kernel
theorem zk_ty6 : ∀ k, k < 7 → parseFieldDescriptor (zk_t6 k).2.2.1 = some (zk_y6 k) := by decide +kernel
theorem zk_l6_0 : u_lay zk_n6 zk_t6 0 ∈ zk_tbl := zk_mem 75 (by decide +kernel) (by decide +kernel)
theorem zk_l6_1 : u_lay zk_n6 zk_t6 1 ∈ zk_tbl := zk_mem 77 (by decide +kernel) (by decide +kernel)
theorem zk_l6_2 : u_lay zk_n6 zk_t6 2 ∈ zk_tbl := zk_mem 79 (by decide +kernel) (by decide +kernel)
theorem zk_l6_3 : u_lay zk_n6 zk_t6 3 ∈ zk_tbl := zk_mem 81 (by decide +kernel) (by decide +kernel)
theorem zk_l6_4 : u_lay zk_n6 zk_t6 4 ∈ zk_tbl := zk_mem 83 (by decide +kernel) (by decide +kernel)
theorem zk_l6_5 : u_lay zk_n6 zk_t6 5 ∈ zk_tbl := zk_mem 85 (by decide +kernel) (by decide +kernel)
theorem zk_l6_6 : u_lay zk_n6 zk_t6 6 ∈ zk_tbl := zk_mem 87 (by decide +kernel) (by decide +kernel)
theorem zk_in6 : ∀ w ∈ u_ws zk_n6 zk_t6 7, w ∈ zk_tbl := by
  intro w hw
  obtain ⟨k, hk, rfl⟩ := List.mem_map.mp hw
  have hk := List.mem_range.mp hk
  match k, hk with
  | 0, _ => exact zk_l6_0
  | 1, _ => exact zk_l6_1
  | 2, _ => exact zk_l6_2
  | 3, _ => exact zk_l6_3
  | 4, _ => exact zk_l6_4
  | 5, _ => exact zk_l6_5
  | 6, _ => exact zk_l6_6
  | k + 7, h => exact absurd h (by omega)
def zk_n7 : String := "NamedNext"
def zk_t7 : u_T := fun k => match k with
  | 0 => ("NamedNext", "text", "LNamedNext$Text;", true)
  | 1 => ("NamedNext", "told", "LNamedNext$Told;", true)
  | 2 => ("NamedNext", "clauses", "LNamedNext$Clauses;", true)
  | 3 => ("NamedNext", "days", "LNamedNext$Days;", true)
  | 4 => ("NamedNext", "past", "LNamedNext$Past;", true)
  | 5 => ("NamedNext", "kept", "[LNamedNext$Days;", true)
  | 6 => ("NamedNext", "keptSlots", "I", false)
  | 7 => ("NamedNext", "rows", "LNamedNext$Rows;", true)
  | 8 => ("NamedNext", "placesOfOne", "[I", true)
  | 9 => ("NamedNext", "placesOfOther", "[I", true)
  | _ => ("NamedNext", "slips", "LNamedNext$Slips;", true)
def zk_y7 : Nat → FieldType := fun k => match k with
  | 0 => .object "NamedNext$Text"
  | 1 => .object "NamedNext$Told"
  | 2 => .object "NamedNext$Clauses"
  | 3 => .object "NamedNext$Days"
  | 4 => .object "NamedNext$Past"
  | 5 => .array (.object "NamedNext$Days")
  | 6 => .int
  | 7 => .object "NamedNext$Rows"
  | 8 => .array .int
  | 9 => .array .int
  | _ => .object "NamedNext$Slips"
theorem zk_nm7 : ∀ a, a < 11 → ∀ b, b < 11 → a ≠ b → (zk_t7 a).2.1 ≠ (zk_t7 b).2.1 := by decide +kernel
theorem zk_ty7 : ∀ k, k < 11 → parseFieldDescriptor (zk_t7 k).2.2.1 = some (zk_y7 k) := by decide +kernel
theorem zk_l7_0 : u_lay zk_n7 zk_t7 0 ∈ zk_tbl := zk_mem 227 (by decide +kernel) (by decide +kernel)
theorem zk_l7_1 : u_lay zk_n7 zk_t7 1 ∈ zk_tbl := zk_mem 229 (by decide +kernel) (by decide +kernel)
theorem zk_l7_2 : u_lay zk_n7 zk_t7 2 ∈ zk_tbl := zk_mem 231 (by decide +kernel) (by decide +kernel)
theorem zk_l7_3 : u_lay zk_n7 zk_t7 3 ∈ zk_tbl := zk_mem 233 (by decide +kernel) (by decide +kernel)
theorem zk_l7_4 : u_lay zk_n7 zk_t7 4 ∈ zk_tbl := zk_mem 235 (by decide +kernel) (by decide +kernel)
theorem zk_l7_5 : u_lay zk_n7 zk_t7 5 ∈ zk_tbl := zk_mem 237 (by decide +kernel) (by decide +kernel)
theorem zk_l7_6 : u_lay zk_n7 zk_t7 6 ∈ zk_tbl := zk_mem 239 (by decide +kernel) (by decide +kernel)
theorem zk_l7_7 : u_lay zk_n7 zk_t7 7 ∈ zk_tbl := zk_mem 241 (by decide +kernel) (by decide +kernel)
theorem zk_l7_8 : u_lay zk_n7 zk_t7 8 ∈ zk_tbl := zk_mem 243 (by decide +kernel) (by decide +kernel)
theorem zk_l7_9 : u_lay zk_n7 zk_t7 9 ∈ zk_tbl := zk_mem 245 (by decide +kernel) (by decide +kernel)
theorem zk_l7_10 : u_lay zk_n7 zk_t7 10 ∈ zk_tbl := zk_mem 247 (by decide +kernel) (by decide +kernel)
theorem zk_in7 : ∀ w ∈ u_ws zk_n7 zk_t7 11, w ∈ zk_tbl := by
  intro w hw
  obtain ⟨k, hk, rfl⟩ := List.mem_map.mp hw
  have hk := List.mem_range.mp hk
  match k, hk with
  | 0, _ => exact zk_l7_0
  | 1, _ => exact zk_l7_1
  | 2, _ => exact zk_l7_2
  | 3, _ => exact zk_l7_3
  | 4, _ => exact zk_l7_4
  | 5, _ => exact zk_l7_5
  | 6, _ => exact zk_l7_6
  | 7, _ => exact zk_l7_7
  | 8, _ => exact zk_l7_8
  | 9, _ => exact zk_l7_9
  | 10, _ => exact zk_l7_10
  | k + 11, h => exact absurd h (by omega)
def zk_n8 : String := "NamedNextModel"
def zk_t8 : u_T := fun k => match k with
  | 0 => ("NamedNextModel", "text", "[I", true)
  | 1 => ("NamedNextModel", "typed", "I", false)
  | 2 => ("NamedNextModel", "told", "[I", true)
  | 3 => ("NamedNextModel", "draft", "[I", true)
  | 4 => ("NamedNextModel", "s", "[I", true)
  | 5 => ("NamedNextModel", "past", "[I", true)
  | 6 => ("NamedNextModel", "known", "I", false)
  | 7 => ("NamedNextModel", "images", "[I", true)
  | 8 => ("NamedNextModel", "kept", "[Z", true)
  | 9 => ("NamedNextModel", "slips", "[I", true)
  | 10 => ("NamedNextModel", "many", "I", false)
  | 11 => ("NamedNextModel", "sort", "I", false)
  | 12 => ("NamedNextModel", "start", "I", false)
  | 13 => ("NamedNextModel", "at", "I", false)
  | 14 => ("NamedNextModel", "value", "I", false)
  | 15 => ("NamedNextModel", "longs", "[I", true)
  | 16 => ("NamedNextModel", "rows", "[I", true)
  | 17 => ("NamedNextModel", "alls", "[I", true)
  | 18 => ("NamedNextModel", "shorts", "[I", true)
  | 19 => ("NamedNextModel", "cans", "[I", true)
  | 20 => ("NamedNextModel", "fames", "[I", true)
  | 21 => ("NamedNextModel", "wins", "[Z", true)
  | 22 => ("NamedNextModel", "odds", "[J", true)
  | _ => ("NamedNextModel", "names", "[I", true)
def zk_y8 : Nat → FieldType := fun k => match k with
  | 0 => .array .int
  | 1 => .int
  | 2 => .array .int
  | 3 => .array .int
  | 4 => .array .int
  | 5 => .array .int
  | 6 => .int
  | 7 => .array .int
  | 8 => .array .boolean
  | 9 => .array .int
  | 10 => .int
  | 11 => .int
  | 12 => .int
  | 13 => .int
  | 14 => .int
  | 15 => .array .int
  | 16 => .array .int
  | 17 => .array .int
  | 18 => .array .int
  | 19 => .array .int
  | 20 => .array .int
  | 21 => .array .boolean
  | 22 => .array .long
  | _ => .array .int
theorem zk_nm8 : ∀ a, a < 24 → ∀ b, b < 24 → a ≠ b → (zk_t8 a).2.1 ≠ (zk_t8 b).2.1 := by decide +kernel
theorem zk_ty8 : ∀ k, k < 24 → parseFieldDescriptor (zk_t8 k).2.2.1 = some (zk_y8 k) := by decide +kernel
theorem zk_l8_0 : u_lay zk_n8 zk_t8 0 ∈ zk_tbl := zk_mem 783 (by decide +kernel) (by decide +kernel)
theorem zk_l8_1 : u_lay zk_n8 zk_t8 1 ∈ zk_tbl := zk_mem 785 (by decide +kernel) (by decide +kernel)
theorem zk_l8_2 : u_lay zk_n8 zk_t8 2 ∈ zk_tbl := zk_mem 787 (by decide +kernel) (by decide +kernel)
theorem zk_l8_3 : u_lay zk_n8 zk_t8 3 ∈ zk_tbl := zk_mem 789 (by decide +kernel) (by decide +kernel)
theorem zk_l8_4 : u_lay zk_n8 zk_t8 4 ∈ zk_tbl := zk_mem 791 (by decide +kernel) (by decide +kernel)
theorem zk_l8_5 : u_lay zk_n8 zk_t8 5 ∈ zk_tbl := zk_mem 793 (by decide +kernel) (by decide +kernel)
theorem zk_l8_6 : u_lay zk_n8 zk_t8 6 ∈ zk_tbl := zk_mem 795 (by decide +kernel) (by decide +kernel)
theorem zk_l8_7 : u_lay zk_n8 zk_t8 7 ∈ zk_tbl := zk_mem 797 (by decide +kernel) (by decide +kernel)
theorem zk_l8_8 : u_lay zk_n8 zk_t8 8 ∈ zk_tbl := zk_mem 799 (by decide +kernel) (by decide +kernel)
theorem zk_l8_9 : u_lay zk_n8 zk_t8 9 ∈ zk_tbl := zk_mem 801 (by decide +kernel) (by decide +kernel)
theorem zk_l8_10 : u_lay zk_n8 zk_t8 10 ∈ zk_tbl := zk_mem 803 (by decide +kernel) (by decide +kernel)
theorem zk_l8_11 : u_lay zk_n8 zk_t8 11 ∈ zk_tbl := zk_mem 805 (by decide +kernel) (by decide +kernel)
theorem zk_l8_12 : u_lay zk_n8 zk_t8 12 ∈ zk_tbl := zk_mem 807 (by decide +kernel) (by decide +kernel)
theorem zk_l8_13 : u_lay zk_n8 zk_t8 13 ∈ zk_tbl := zk_mem 809 (by decide +kernel) (by decide +kernel)
theorem zk_l8_14 : u_lay zk_n8 zk_t8 14 ∈ zk_tbl := zk_mem 811 (by decide +kernel) (by decide +kernel)
theorem zk_l8_15 : u_lay zk_n8 zk_t8 15 ∈ zk_tbl := zk_mem 813 (by decide +kernel) (by decide +kernel)
theorem zk_l8_16 : u_lay zk_n8 zk_t8 16 ∈ zk_tbl := zk_mem 815 (by decide +kernel) (by decide +kernel)
theorem zk_l8_17 : u_lay zk_n8 zk_t8 17 ∈ zk_tbl := zk_mem 817 (by decide +kernel) (by decide +kernel)
theorem zk_l8_18 : u_lay zk_n8 zk_t8 18 ∈ zk_tbl := zk_mem 819 (by decide +kernel) (by decide +kernel)
theorem zk_l8_19 : u_lay zk_n8 zk_t8 19 ∈ zk_tbl := zk_mem 821 (by decide +kernel) (by decide +kernel)
theorem zk_l8_20 : u_lay zk_n8 zk_t8 20 ∈ zk_tbl := zk_mem 823 (by decide +kernel) (by decide +kernel)
theorem zk_l8_21 : u_lay zk_n8 zk_t8 21 ∈ zk_tbl := zk_mem 825 (by decide +kernel) (by decide +kernel)
theorem zk_l8_22 : u_lay zk_n8 zk_t8 22 ∈ zk_tbl := zk_mem 827 (by decide +kernel) (by decide +kernel)
theorem zk_l8_23 : u_lay zk_n8 zk_t8 23 ∈ zk_tbl := zk_mem 829 (by decide +kernel) (by decide +kernel)
theorem zk_in8 : ∀ w ∈ u_ws zk_n8 zk_t8 24, w ∈ zk_tbl := by
  intro w hw
  obtain ⟨k, hk, rfl⟩ := List.mem_map.mp hw
  have hk := List.mem_range.mp hk
  match k, hk with
  | 0, _ => exact zk_l8_0
  | 1, _ => exact zk_l8_1
  | 2, _ => exact zk_l8_2
  | 3, _ => exact zk_l8_3
  | 4, _ => exact zk_l8_4
  | 5, _ => exact zk_l8_5
  | 6, _ => exact zk_l8_6
  | 7, _ => exact zk_l8_7
  | 8, _ => exact zk_l8_8
  | 9, _ => exact zk_l8_9
  | 10, _ => exact zk_l8_10
  | 11, _ => exact zk_l8_11
  | 12, _ => exact zk_l8_12
  | 13, _ => exact zk_l8_13
  | 14, _ => exact zk_l8_14
  | 15, _ => exact zk_l8_15
  | 16, _ => exact zk_l8_16
  | 17, _ => exact zk_l8_17
  | 18, _ => exact zk_l8_18
  | 19, _ => exact zk_l8_19
  | 20, _ => exact zk_l8_20
  | 21, _ => exact zk_l8_21
  | 22, _ => exact zk_l8_22
  | 23, _ => exact zk_l8_23
  | k + 24, h => exact absurd h (by omega)
abbrev zk_cl : List vw_C := [(zk_n0, zk_t0, 3), (zk_n1, zk_t1, 4), (zk_n2, zk_t2, 3), (zk_n3, zk_t3, 10), (zk_n4, zk_t4, 4), (zk_n5, zk_t5, 4), (zk_n6, zk_t6, 7), (zk_n7, zk_t7, 11), (zk_n8, zk_t8, 24)]
/-- is the field a reference? by class -/
def zk_ft (k : Nat) : List Bool := match k with
  | 0 => [true, false, true]
  | 1 => [false, true, true, true]
  | 2 => [false, false, true]
  | 3 => [false, true, true, true, true, true, true, true, false, false]
  | 4 => [false, true, true, true]
  | 5 => [true, false, false, false]
  | 6 => [false, false, true, true, true, true, true]
  | 7 => [true, true, true, true, true, true, false, true, true, true, true]
  | 8 => [true, false, true, true, true, true, false, true, true, true, false, false, false, false, false, true, true, true, true, true, true, true, true, true]
  | _ => []
end
section
/-! A small machine of its own over the kit's rows: a memory of numbered cells (how many; of what kind and length; references; ints; longs), a method with its table of instructions, and the judgement zC: from here the method comes to its end with this answer and this memory. -/
abbrev zk_I : Type := Nat → Nat → Int32
abbrev zk_J : Type := Nat → Nat → Int64
abbrev zk_Z : Type := Nat × (Nat → Nat × Nat) × (Nat → Nat → Option Nat)
abbrev zk_M : Type := zk_Z × zk_I × zk_J
abbrev zk_E : Type := va_G × (Nat → ClassId) × Nat × (Nat → Nat)
abbrev zk_X : Type := Nat × (Nat → Int32)
def zk_ad (E : zk_E) (c : Nat) : Nat := if c < 1000 then E.2.2.1 + c else E.2.2.2 c
def zk_tr (E : zk_E) : Value → Value
  | .ref c => .ref (zk_ad E c)
  | v => v
def zk_A (E : zk_E) : Nat → Prop := fun q => E.2.2.1 ≤ q
/-- a cell of the memory, as the kit tells it; kinds: 0 .. 8 an object of that class; 20 ints, 21 longs, 22 booleans, 23 chars, 24 references to Days -/
def zk_fv (E : zk_E) (M : zk_M) (c j : Nat) (r : Bool) : Value := if r then va_rf ((M.1.2.2 c j).map (zk_ad E)) else .int (M.2.1 c j)
def zk_fs (E : zk_E) (M : zk_M) (k c : Nat) : List Value := (zk_ft k).mapIdx (zk_fv E M c)
def zk_ce (E : zk_E) (M : zk_M) (c : Nat) : va_E :=
  if (M.1.2.1 c).1 = 20 then .inl (E.2.1 0, (M.1.2.1 c).2, .inl (M.2.1 c))
  else if (M.1.2.1 c).1 = 21 then .inl (E.2.1 1, (M.1.2.1 c).2, .inr (.inl (M.2.2 c)))
  else if (M.1.2.1 c).1 = 22 then .inl (E.2.1 2, (M.1.2.1 c).2, .inl (M.2.1 c))
  else if (M.1.2.1 c).1 = 23 then .inl (E.2.1 3, (M.1.2.1 c).2, .inl (M.2.1 c))
  else if (M.1.2.1 c).1 = 24 then .inl (E.2.1 4, (M.1.2.1 c).2, .inr (.inr (.inr (.inr (fun j => (M.1.2.2 c j).map (zk_ad E))))))
  else .inr ((M.1.2.1 c).1, zk_fs E M (M.1.2.1 c).1 c)
def zk_ws (E : zk_E) (M : zk_M) : va_W := (List.range M.1.1).map (fun c => (zk_ad E c, zk_ce E M c))
def zk_tys (E : zk_E) : List (ClassId × FieldType) := [(E.2.1 0, .int), (E.2.1 1, .long), (E.2.1 2, .boolean), (E.2.1 3, .char), (E.2.1 4, .object "NamedNext$Days")]
/-- the heap holds the memory -/
def zk_R (E : zk_E) (M : zk_M) (U : State) (H : Heap) : Prop :=
  va_P E.1 zk_cl (zk_ws E M) H ∧ va_K E.1 zk_cl (zk_tys E) U ∧ M.1.1 ≤ 1000
/-- tables of the class's own that never change -/
def zk_wh : Nat → Int32 := fun j => ([3, 7, 9, 23] : List Int32).getD j 0
def zk_lots : Nat → Int64 := fun j => ([1, 1, 2, 12, 144, 8640, 518400, 217728000] : List Int64).getD j 0
/-- the words: "plain" 0, "flatterer" 1, "blind" 2, "sulker" 3, "feud" 4, "move" 5, "book" 6, "peace" 7, "library" 8, ";" 9 -/
def zk_sb : List (List Int32) := [[112, 108, 97, 105, 110], [102, 108, 97, 116, 116, 101, 114, 101, 114], [98, 108, 105, 110, 100], [115, 117, 108, 107, 101, 114], [102, 101, 117, 100], [109, 111, 118, 101], [98, 111, 111, 107], [112, 101, 97, 99, 101], [108, 105, 98, 114, 97, 114, 121], [59]]
def zk_sl : List Nat := [5, 9, 5, 6, 4, 4, 4, 5, 7, 1]
def zk_sk : List (Nat × String) := [(87, "plain"), (89, "flatterer"), (91, "blind"), (93, "sulker"), (62, "feud"), (67, "move"), (72, "book"), (77, "peace"), (82, "library"), (45, ";")]
/-- the links to what is private beside -/
def zk_nest : List (String × Nat × MethodName × String) := [("NamedNext", 9, ⟨"NamedNext$Text", "<init>", "()V"⟩, "NamedNext"), ("NamedNext", 18, ⟨"NamedNext$Told", "<init>", "()V"⟩, "NamedNext"), ("NamedNext$Clauses", 11, ⟨"NamedNext$Told", "<init>", "()V"⟩, "NamedNext"), ("NamedNext", 34, ⟨"NamedNext$Days", "<init>", "()V"⟩, "NamedNext"), ("NamedNext$Past", 17, ⟨"NamedNext$Days", "<init>", "()V"⟩, "NamedNext"), ("NamedNext", 68, ⟨"NamedNext$Slips", "<init>", "()V"⟩, "NamedNext"), ("NamedNext$Told", 62, ⟨"NamedNext", "hasBit", "(II)Z"⟩, "NamedNext"), ("NamedNext$Rows", 70, ⟨"NamedNext", "hasBit", "(II)Z"⟩, "NamedNext"), ("NamedNext$Rows", 80, ⟨"NamedNext", "leastOf", "(I)I"⟩, "NamedNext"), ("NamedNext$Slips", 39, ⟨"NamedNext", "hasBit", "(II)Z"⟩, "NamedNext"), ("NamedNext$Slips", 43, ⟨"NamedNext", "leastOf", "(I)I"⟩, "NamedNext")]
/-- what lies outside: the script (1000), two tables (1001, 1002), a formatter (1003), words (1010 ..), their bytes (1030 ..) -/
def zk_Xt (X : zk_X) (E : zk_E) (U : State) (H : Heap) : Prop :=
  (va_X (E.2.2.2 1000) X.1 X.2 U H ∧ E.2.2.2 1000 < E.2.2.1) ∧
  (va_Z "NamedNext" "WHAT_HE_IS" "[I" (.ref (E.2.2.2 1001)) (zk_A E) U H ∧ va_T .int (E.2.2.2 1001) 4 (fun j => .int (zk_wh j)) (zk_A E) U H) ∧
  (va_Z "NamedNext$Rows" "LOTS" "[J" (.ref (E.2.2.2 1002)) (zk_A E) U H ∧ va_T .long (E.2.2.2 1002) 8 (fun j => .long (zk_lots j)) (zk_A E) U H) ∧
  (va_Z "jdk/internal/util/Preconditions" "SIOOBE_FORMATTER" "Ljava/util/function/BiFunction;" .null (zk_A E) U H ∨ va_Z "jdk/internal/util/Preconditions" "SIOOBE_FORMATTER" "Ljava/util/function/BiFunction;" (.ref (E.2.2.2 1003)) (zk_A E) U H) ∧
  va_Z "java/lang/String" "COMPACT_STRINGS" "Z" (.int 1) (zk_A E) U H ∧
  vk_S 10 zk_sl zk_sb (fun i => E.2.2.2 (1010 + i)) (fun i => E.2.2.2 (1030 + i)) (zk_A E) U H ∧
  (∀ i : Nat, i < 10 → vk_R "NamedNext$Clauses" (zk_sk.getD i (0, "")).1 (zk_sk.getD i (0, "")).2 (E.2.2.2 (1010 + i)) U) ∧
  E.2.2.1 ≤ H.size ∧
  (∀ q ∈ zk_nest, va_Nw (.methodLinkNest q.1 q.2.1 q.2.2.1 q.2.2.2) U) ∧ va_AO "NamedNext$Days" U
/-- a method: name, bytes, locals, what it answers, its table (place, instruction, next place, target) -/
abbrev zk_Mt : Type := MethodName × ByteArray × Nat × Option FieldType × List (Nat × Instr × Nat × Nat)
def zk_ln : Instr → Nat
  | .aload _ | .astore _ | .iload _ | .istore _ | .lload _ | .lstore _ | .bipush _ | .ldc _ | .newarray _ => 2
  | .anewarray _ | .getfield _ | .putfield _ | .getstatic _ | .goto _ | .if_icmp _ _ | .ifCond _ _ | .iinc _ _ | .invokespecial _ | .invokestatic _ | .invokevirtual _ | .ldc_w _ | .ldc2_w _ | .new _ | .sipush _ => 3
  | _ => 1
def zk_tg : Instr → Option Int
  | .goto o => some o
  | .if_icmp _ o => some o
  | .ifCond _ o => some o
  | _ => none
def zk_sw : Instr → Bool
  | .tableswitch _ _ _ _ => true
  | _ => false
def zk_chk (b : ByteArray) (q : Nat × Instr × Nat × Nat) : Bool :=
  decide (decode b q.1 = .ok (q.2.1, q.2.2.1 - q.1)) && (zk_sw q.2.1 || decide (q.2.2.1 = q.1 + zk_ln q.2.1)) && (match zk_tg q.2.1 with
    | some o => decide ((q.1 : Int) + o = (q.2.2.2 : Int))
    | none => true)
def zk_lk : List (Nat × Instr × Nat × Nat) → Nat → Option (Instr × Nat × Nat)
  | [], _ => none
  | q :: t, pc => bif Nat.beq q.1 pc then some q.2 else zk_lk t pc
abbrev zk_at (mt : zk_Mt) (pc : Nat) : Option (Instr × Nat × Nat) := zk_lk mt.2.2.2.2 pc
def zk_ok (mt : zk_Mt) : Prop := mt.2.2.2.2.all (zk_chk mt.2.1) = true
theorem zk_lk_mem : ∀ (l : List (Nat × Instr × Nat × Nat)) (pc : Nat) (r : Instr × Nat × Nat), zk_lk l pc = some r → (pc, r) ∈ l
  | [], _, _, h => by cases h
  | q :: t, pc, r, h => by
    unfold zk_lk at h
    cases hb : Nat.beq q.1 pc with
    | true =>
      rw [hb] at h
      have e : q.1 = pc := Nat.eq_of_beq_eq_true hb
      have e2 : q.2 = r := Option.some.inj h
      subst e; subst e2
      exact List.mem_cons_self
    | false =>
      rw [hb] at h
      exact List.mem_cons_of_mem _ (zk_lk_mem t pc r h)
theorem zk_row {mt : zk_Mt} (ho : zk_ok mt) {pc npc tg : Nat} {i : Instr} (h : zk_at mt pc = some (i, npc, tg)) : decode mt.2.1 pc = .ok (i, npc - pc) ∧ (zk_sw i = true ∨ npc = pc + zk_ln i) ∧ ∀ o, zk_tg i = some o → (pc : Int) + o = (tg : Int) := by
  have h1 := List.all_eq_true.mp ho _ (zk_lk_mem _ _ _ h)
  simp only [zk_chk, Bool.and_eq_true, Bool.or_eq_true, decide_eq_true_eq] at h1
  refine ⟨h1.1.1, h1.1.2, fun o hq => ?_⟩
  have h2 := h1.2
  rw [hq] at h2
  exact of_decide_eq_true h2
theorem zk_d {mt : zk_Mt} (ho : zk_ok mt) {pc npc tg : Nat} {i : Instr} (h : zk_at mt pc = some (i, npc, tg)) (hs : zk_sw i = false) : npc = pc + zk_ln i ∧ decode mt.2.1 pc = .ok (i, zk_ln i) := by
  obtain ⟨h1, h2, -⟩ := zk_row ho h
  rcases h2 with h2 | h2
  · rw [hs] at h2; cases h2
  · refine ⟨h2, ?_⟩
    rw [h1, h2, Nat.add_sub_cancel_left]
/-- what stands while a method runs -/
def zk_Cx (X : zk_X) (E : zk_E) (mt : zk_Mt) (p : Program) (s : State) (m : MethodId) (args : Array Value) (meth : Method) (c : Code) : Prop :=
  p.tables.exec = Jvm.exec ∧ c.code = mt.2.1 ∧ zk_ok mt ∧ meth.sig.returnType = mt.2.2.2.1 ∧ c.maxLocals = mt.2.2.1 ∧ s.vm.findClass mt.1.cls = some m.cls ∧ (∀ w ∈ zk_tbl, w.before args s = true) ∧ meth.locks = false ∧ meth.name = mt.1.name ∧ zk_Xt X E s s.heap
/-- the locals -/
def zk_lv (E : zk_E) (n : Nat) (ls : Array Slot) (L : List (Option Value)) : Prop := ls.size = n ∧ lv_wf ls ∧ ∀ (i : Nat) (v : Value), L[i]? = some (some v) → ls[i]? = some (.val (zk_tr E v))
/-- a method's end -/
def zk_ret (mt : zk_Mt) (pc : Nat) (rv : Option Value) : Prop :=
  (rv = none ∧ mt.2.2.2.1 = none ∧ decode mt.2.1 pc = .ok (.return_, 1)) ∨ (∃ (v : Int32) (ty : FieldType), rv = some (.int v) ∧ mt.2.2.2.1 = some ty ∧ narrow ty (.int v) = .int v ∧ decode mt.2.1 pc = .ok (.ireturn, 1)) ∨ (∃ v : Int64, rv = some (.long v) ∧ mt.2.2.2.1 = some .long ∧ decode mt.2.1 pc = .ok (.lreturn, 1))
/-- the judgement -/
def zC (X : zk_X) (d : Nat) (mt : zk_Mt) (pc : Nat) (L : List (Option Value)) (st : List Value) (M : zk_M) (dc ds : Nat) (rv : Option Value) (M' : zk_M) : Prop :=
  ∀ (E : zk_E) (p : Program) (l : Launch) (e : Env) (R : Room) (s : State) (m : MethodId) (args : Array Value) (below : List Frame) (meth : Method) (c : Code) (H : Heap) (locs : List Loc) (cells slots : Nat) (Q : State → Prop) (ls : Array Slot),
    zk_Cx X E mt p s m args meth c → zk_R E M s H → va_S (zk_A E) s.heap H locs → zk_lv E mt.2.2.1 ls L → (d ≤ R.frames ∧ 60 * d ≤ R.locals ∧ cells + dc ≤ R.cells ∧ slots + ds ≤ R.slots ∧ s.heap.size + cells = E.2.2.1 + M.1.1) →
    (∀ (pc' : Nat) (ls' : Array Slot) (H' : Heap) (locs' : List Loc), zk_ret mt pc' rv → zk_R E M' s H' → va_S (zk_A E) s.heap H' locs' → W p l e R s m args below meth c H' locs' (cells + dc) (slots + ds) Q (F0 m pc' ls' (rv.toList.map (zk_tr E)))) →
    W p l e R s m args below meth c H locs cells slots Q (F0 m pc ls (st.map (zk_tr E)))
/-! the locals written -/
def zk_clr (L : List (Option Value)) (i : Nat) : List (Option Value) := match i with
  | 0 => L
  | j + 1 => match L[j]? with
    | some (some (.long _)) => L.set j none
    | _ => L
def zk_set (L : List (Option Value)) (i : Nat) (v : Value) : List (Option Value) := (zk_clr L i).set i (some v)
def zk_set2 (L : List (Option Value)) (i : Nat) (v : Value) : List (Option Value) := ((zk_clr L i).set i (some v)).set (i + 1) none
def zk_pr (E : zk_E) (L : List (Option Value)) : List (Nat × Value) := (List.range L.length).filterMap (fun i => (L[i]?).join.map (fun v => (i, zk_tr E v)))
theorem zk_pr_mem {E : zk_E} {L : List (Option Value)} {i : Nat} {w : Value} : (i, w) ∈ zk_pr E L ↔ ∃ v, L[i]? = some (some v) ∧ w = zk_tr E v := by
  simp only [zk_pr, List.mem_filterMap, List.mem_range]
  constructor
  · rintro ⟨j, hj, h⟩
    cases hL : L[j]? with
    | none => rw [hL] at h; cases h
    | some o =>
      cases o with
      | none => rw [hL] at h; cases h
      | some v =>
        rw [hL] at h
        have h := Option.some.inj h
        have e1 : j = i := congrArg Prod.fst h
        have e2 : zk_tr E v = w := congrArg Prod.snd h
        subst e1
        exact ⟨v, hL, e2.symm⟩
  · rintro ⟨v, h1, rfl⟩
    refine ⟨i, (List.getElem?_eq_some_iff.mp h1).1, ?_⟩
    rw [h1]
    rfl
theorem zk_lv.has {E : zk_E} {n : Nat} {ls : Array Slot} {L : List (Option Value)} (h : zk_lv E n ls L) : lv_has ls n (zk_pr E L) := by
  refine ⟨h.1, h.2.1, fun q hq => ?_⟩
  obtain ⟨i, w⟩ := q
  obtain ⟨v, h1, rfl⟩ := zk_pr_mem.mp hq
  exact h.2.2 i v h1
theorem zk_tr_cat (E : zk_E) (v : Value) : (zk_tr E v).category = v.category := by cases v <;> rfl
theorem zk_clr_get {L : List (Option Value)} {i k : Nat} {v : Value} (h : (zk_clr L i)[k]? = some (some v)) : L[k]? = some (some v) ∧ ¬ (k + 1 = i ∧ v.category = 2 ∧ ∃ x, v = .long x) := by
  cases i with
  | zero => exact ⟨h, fun q => by omega⟩
  | succ j =>
    simp only [zk_clr] at h
    split at h
    next x hx =>
      by_cases hk : k = j
      · subst hk
        rw [List.getElem?_set_self (List.getElem?_eq_some_iff.mp hx).1] at h
        cases h
      · rw [List.getElem?_set_ne (Ne.symm hk)] at h
        exact ⟨h, fun q => hk (by omega)⟩
    next hn =>
      refine ⟨h, fun q => ?_⟩
      obtain ⟨q1, -, x, rfl⟩ := q
      have : k = j := by omega
      subst this
      exact hn x h
/-- no value here is a double -/
def zk_nod (L : List (Option Value)) : Bool := L.all (fun o => match o with
  | some (.double _) => false
  | _ => true)
theorem zk_lv.set {E : zk_E} {n : Nat} {ls' : Array Slot} {L : List (Option Value)} {i : Nat} {v : Value} (hd : zk_nod L = true) (h : lv_has ls' n ((i, zk_tr E v) :: (zk_pr E L).filter (fun q => !(q.1 == i) && !(q.1 + 1 == i && q.2.category == 2)))) : zk_lv E n ls' (zk_set L i v) := by
  refine ⟨h.1, h.2.1, fun k w hk => ?_⟩
  by_cases hki : k = i
  · subst hki
    have hlt : k < (zk_clr L k).length := by
      have := (List.getElem?_eq_some_iff.mp hk).1
      simpa [zk_set] using this
    simp only [zk_set, List.getElem?_set_self hlt] at hk
    cases hk
    exact h.2.2 (k, zk_tr E v) List.mem_cons_self
  · simp only [zk_set, List.getElem?_set_ne (Ne.symm hki)] at hk
    obtain ⟨h1, h2⟩ := zk_clr_get hk
    refine h.2.2 (k, zk_tr E w) (List.mem_cons_of_mem _ (List.mem_filter.mpr ⟨zk_pr_mem.mpr ⟨w, h1, rfl⟩, ?_⟩))
    simp only [Bool.and_eq_true, Bool.not_eq_true', beq_eq_false_iff_ne, ne_eq, Bool.and_eq_false_iff, zk_tr_cat]
    refine ⟨hki, ?_⟩
    by_cases hk1 : k + 1 = i
    · right
      intro hc
      apply h2
      refine ⟨hk1, hc, ?_⟩
      cases w with
      | long x => exact ⟨x, rfl⟩
      | double x =>
        have := List.all_eq_true.mp hd _ (List.mem_of_getElem? h1)
        cases this
      | _ => cases hc
    · exact Or.inl hk1
theorem zk_lv.set2 {E : zk_E} {n : Nat} {ls' : Array Slot} {L : List (Option Value)} {i : Nat} {v : Value} (hd : zk_nod L = true) (h : lv_has ls' n ((i, zk_tr E v) :: (zk_pr E L).filter (fun q => !(q.1 == i) && (!(q.1 == i + 1) && !(q.1 + 1 == i && q.2.category == 2))))) : zk_lv E n ls' (zk_set2 L i v) := by
  refine ⟨h.1, h.2.1, fun k w hk => ?_⟩
  by_cases hk1 : k = i + 1
  · subst hk1
    have hlt : i + 1 < ((zk_clr L i).set i (some v)).length := by
      have := (List.getElem?_eq_some_iff.mp hk).1
      simpa [zk_set2] using this
    simp only [zk_set2, List.getElem?_set_self hlt] at hk
    cases hk
  · simp only [zk_set2, List.getElem?_set_ne (Ne.symm hk1)] at hk
    by_cases hki : k = i
    · subst hki
      have hlt : k < (zk_clr L k).length := by
        have := (List.getElem?_eq_some_iff.mp hk).1
        simpa using this
      rw [List.getElem?_set_self hlt] at hk
      cases hk
      exact h.2.2 (k, zk_tr E v) List.mem_cons_self
    · rw [List.getElem?_set_ne (Ne.symm hki)] at hk
      obtain ⟨h1, h2⟩ := zk_clr_get hk
      refine h.2.2 (k, zk_tr E w) (List.mem_cons_of_mem _ (List.mem_filter.mpr ⟨zk_pr_mem.mpr ⟨w, h1, rfl⟩, ?_⟩))
      simp only [Bool.and_eq_true, Bool.not_eq_true', beq_eq_false_iff_ne, ne_eq, Bool.and_eq_false_iff, zk_tr_cat]
      refine ⟨hki, hk1, ?_⟩
      by_cases hk2 : k + 1 = i
      · right
        intro hc
        apply h2
        refine ⟨hk2, hc, ?_⟩
        cases w with
        | long x => exact ⟨x, rfl⟩
        | double x =>
          have := List.all_eq_true.mp hd _ (List.mem_of_getElem? h1)
          cases this
        | _ => cases hc
      · exact Or.inl hk2
end
section
/-! the rows of the judgement, one an instruction -/
section ZR
variable {X : zk_X} {d pc npc tg : Nat} {mt : zk_Mt} {L : List (Option Value)} {st : List Value} {M M' : zk_M} {dc ds : Nat} {rv : Option Value}
def zk_get : List (Option Value) → Nat → Option Value
  | [], _ => none
  | o :: _, 0 => o
  | _ :: t, n + 1 => zk_get t n
theorem zk_get_ok : ∀ {L : List (Option Value)} {i : Nat} {v : Value}, zk_get L i = some v → L[i]? = some (some v)
  | [], _, _, h => by cases h
  | _ :: _, 0, _, h => by rw [List.getElem?_cons_zero]; exact congrArg some h
  | _ :: t, n + 1, _, h => by rw [List.getElem?_cons_succ]; exact zk_get_ok (L := t) h
theorem c_iadd {x y : Int32} (h : zk_at mt pc = some (.iadd, npc, tg)) (k : zC X d mt npc L (.int (x + y) :: st) M dc ds rv M') : zC X d mt pc L (.int y :: .int x :: st) M dc ds rv M' := by
  intro E p l e R s m args below meth c H locs cells slots Q ls hC hR hS hl hr hk
  obtain ⟨hn, hd⟩ := zk_d hC.2.2.1 h rfl
  subst hn
  exact lv_iadd hC.1 hC.2.1 hd (k E p l e R s m args below meth c H locs cells slots Q ls hC hR hS hl hr hk)
theorem c_isub {x y : Int32} (h : zk_at mt pc = some (.isub, npc, tg)) (k : zC X d mt npc L (.int (x - y) :: st) M dc ds rv M') : zC X d mt pc L (.int y :: .int x :: st) M dc ds rv M' := by
  intro E p l e R s m args below meth c H locs cells slots Q ls hC hR hS hl hr hk
  obtain ⟨hn, hd⟩ := zk_d hC.2.2.1 h rfl
  subst hn
  exact lv_isub hC.1 hC.2.1 hd (k E p l e R s m args below meth c H locs cells slots Q ls hC hR hS hl hr hk)
theorem c_imul {x y : Int32} (h : zk_at mt pc = some (.imul, npc, tg)) (k : zC X d mt npc L (.int (x * y) :: st) M dc ds rv M') : zC X d mt pc L (.int y :: .int x :: st) M dc ds rv M' := by
  intro E p l e R s m args below meth c H locs cells slots Q ls hC hR hS hl hr hk
  obtain ⟨hn, hd⟩ := zk_d hC.2.2.1 h rfl
  subst hn
  exact lv_imul hC.1 hC.2.1 hd (k E p l e R s m args below meth c H locs cells slots Q ls hC hR hS hl hr hk)
theorem c_iand {x y : Int32} (h : zk_at mt pc = some (.iand, npc, tg)) (k : zC X d mt npc L (.int (x &&& y) :: st) M dc ds rv M') : zC X d mt pc L (.int y :: .int x :: st) M dc ds rv M' := by
  intro E p l e R s m args below meth c H locs cells slots Q ls hC hR hS hl hr hk
  obtain ⟨hn, hd⟩ := zk_d hC.2.2.1 h rfl
  subst hn
  exact lv_iand hC.1 hC.2.1 hd (k E p l e R s m args below meth c H locs cells slots Q ls hC hR hS hl hr hk)
theorem c_ior {x y : Int32} (h : zk_at mt pc = some (.ior, npc, tg)) (k : zC X d mt npc L (.int (x ||| y) :: st) M dc ds rv M') : zC X d mt pc L (.int y :: .int x :: st) M dc ds rv M' := by
  intro E p l e R s m args below meth c H locs cells slots Q ls hC hR hS hl hr hk
  obtain ⟨hn, hd⟩ := zk_d hC.2.2.1 h rfl
  subst hn
  exact lv_ior hC.1 hC.2.1 hd (k E p l e R s m args below meth c H locs cells slots Q ls hC hR hS hl hr hk)
theorem c_ixor {x y : Int32} (h : zk_at mt pc = some (.ixor, npc, tg)) (k : zC X d mt npc L (.int (x ^^^ y) :: st) M dc ds rv M') : zC X d mt pc L (.int y :: .int x :: st) M dc ds rv M' := by
  intro E p l e R s m args below meth c H locs cells slots Q ls hC hR hS hl hr hk
  obtain ⟨hn, hd⟩ := zk_d hC.2.2.1 h rfl
  subst hn
  exact lv_ixor hC.1 hC.2.1 hd (k E p l e R s m args below meth c H locs cells slots Q ls hC hR hS hl hr hk)
theorem c_ishl {x y : Int32} (h : zk_at mt pc = some (.ishl, npc, tg)) (k : zC X d mt npc L (.int (x <<< (y &&& 31)) :: st) M dc ds rv M') : zC X d mt pc L (.int y :: .int x :: st) M dc ds rv M' := by
  intro E p l e R s m args below meth c H locs cells slots Q ls hC hR hS hl hr hk
  obtain ⟨hn, hd⟩ := zk_d hC.2.2.1 h rfl
  subst hn
  exact lv_ishl hC.1 hC.2.1 hd (k E p l e R s m args below meth c H locs cells slots Q ls hC hR hS hl hr hk)
theorem c_ishr {x y : Int32} (h : zk_at mt pc = some (.ishr, npc, tg)) (k : zC X d mt npc L (.int (x >>> (y &&& 31)) :: st) M dc ds rv M') : zC X d mt pc L (.int y :: .int x :: st) M dc ds rv M' := by
  intro E p l e R s m args below meth c H locs cells slots Q ls hC hR hS hl hr hk
  obtain ⟨hn, hd⟩ := zk_d hC.2.2.1 h rfl
  subst hn
  exact lv_ishr hC.1 hC.2.1 hd (k E p l e R s m args below meth c H locs cells slots Q ls hC hR hS hl hr hk)
theorem c_ladd {x y : Int64} (h : zk_at mt pc = some (.ladd, npc, tg)) (k : zC X d mt npc L (.long (x + y) :: st) M dc ds rv M') : zC X d mt pc L (.long y :: .long x :: st) M dc ds rv M' := by
  intro E p l e R s m args below meth c H locs cells slots Q ls hC hR hS hl hr hk
  obtain ⟨hn, hd⟩ := zk_d hC.2.2.1 h rfl
  subst hn
  exact lv_ladd hC.1 hC.2.1 hd (k E p l e R s m args below meth c H locs cells slots Q ls hC hR hS hl hr hk)
theorem c_lsub {x y : Int64} (h : zk_at mt pc = some (.lsub, npc, tg)) (k : zC X d mt npc L (.long (x - y) :: st) M dc ds rv M') : zC X d mt pc L (.long y :: .long x :: st) M dc ds rv M' := by
  intro E p l e R s m args below meth c H locs cells slots Q ls hC hR hS hl hr hk
  obtain ⟨hn, hd⟩ := zk_d hC.2.2.1 h rfl
  subst hn
  exact lv_lsub hC.1 hC.2.1 hd (k E p l e R s m args below meth c H locs cells slots Q ls hC hR hS hl hr hk)
theorem c_lmul {x y : Int64} (h : zk_at mt pc = some (.lmul, npc, tg)) (k : zC X d mt npc L (.long (x * y) :: st) M dc ds rv M') : zC X d mt pc L (.long y :: .long x :: st) M dc ds rv M' := by
  intro E p l e R s m args below meth c H locs cells slots Q ls hC hR hS hl hr hk
  obtain ⟨hn, hd⟩ := zk_d hC.2.2.1 h rfl
  subst hn
  exact lv_lmul hC.1 hC.2.1 hd (k E p l e R s m args below meth c H locs cells slots Q ls hC hR hS hl hr hk)
theorem c_land {x y : Int64} (h : zk_at mt pc = some (.land, npc, tg)) (k : zC X d mt npc L (.long (x &&& y) :: st) M dc ds rv M') : zC X d mt pc L (.long y :: .long x :: st) M dc ds rv M' := by
  intro E p l e R s m args below meth c H locs cells slots Q ls hC hR hS hl hr hk
  obtain ⟨hn, hd⟩ := zk_d hC.2.2.1 h rfl
  subst hn
  exact lv_land hC.1 hC.2.1 hd (k E p l e R s m args below meth c H locs cells slots Q ls hC hR hS hl hr hk)
theorem c_lor {x y : Int64} (h : zk_at mt pc = some (.lor, npc, tg)) (k : zC X d mt npc L (.long (x ||| y) :: st) M dc ds rv M') : zC X d mt pc L (.long y :: .long x :: st) M dc ds rv M' := by
  intro E p l e R s m args below meth c H locs cells slots Q ls hC hR hS hl hr hk
  obtain ⟨hn, hd⟩ := zk_d hC.2.2.1 h rfl
  subst hn
  exact lv_lor hC.1 hC.2.1 hd (k E p l e R s m args below meth c H locs cells slots Q ls hC hR hS hl hr hk)
theorem c_idiv {x y : Int32} (h : zk_at mt pc = some (.idiv, npc, tg)) (hne : ¬ y = 0) (k : zC X d mt npc L (.int (x / y) :: st) M dc ds rv M') : zC X d mt pc L (.int y :: .int x :: st) M dc ds rv M' := by
  intro E p l e R s m args below meth c H locs cells slots Q ls hC hR hS hl hr hk
  obtain ⟨hn, hd⟩ := zk_d hC.2.2.1 h rfl
  subst hn
  exact lv_idiv hC.1 hC.2.1 hd hne (k E p l e R s m args below meth c H locs cells slots Q ls hC hR hS hl hr hk)
theorem c_irem {x y : Int32} (h : zk_at mt pc = some (.irem, npc, tg)) (hne : ¬ y = 0) (k : zC X d mt npc L (.int (x - x / y * y) :: st) M dc ds rv M') : zC X d mt pc L (.int y :: .int x :: st) M dc ds rv M' := by
  intro E p l e R s m args below meth c H locs cells slots Q ls hC hR hS hl hr hk
  obtain ⟨hn, hd⟩ := zk_d hC.2.2.1 h rfl
  subst hn
  exact lv_irem hC.1 hC.2.1 hd hne (k E p l e R s m args below meth c H locs cells slots Q ls hC hR hS hl hr hk)
theorem c_ldiv {x y : Int64} (h : zk_at mt pc = some (.ldiv, npc, tg)) (hne : ¬ y = 0) (k : zC X d mt npc L (.long (x / y) :: st) M dc ds rv M') : zC X d mt pc L (.long y :: .long x :: st) M dc ds rv M' := by
  intro E p l e R s m args below meth c H locs cells slots Q ls hC hR hS hl hr hk
  obtain ⟨hn, hd⟩ := zk_d hC.2.2.1 h rfl
  subst hn
  exact lv_ldiv hC.1 hC.2.1 hd hne (k E p l e R s m args below meth c H locs cells slots Q ls hC hR hS hl hr hk)
theorem c_lrem {x y : Int64} (h : zk_at mt pc = some (.lrem, npc, tg)) (hne : ¬ y = 0) (k : zC X d mt npc L (.long (x - x / y * y) :: st) M dc ds rv M') : zC X d mt pc L (.long y :: .long x :: st) M dc ds rv M' := by
  intro E p l e R s m args below meth c H locs cells slots Q ls hC hR hS hl hr hk
  obtain ⟨hn, hd⟩ := zk_d hC.2.2.1 h rfl
  subst hn
  exact lv_lrem hC.1 hC.2.1 hd hne (k E p l e R s m args below meth c H locs cells slots Q ls hC hR hS hl hr hk)
theorem c_iushr {x y : Int32} (h : zk_at mt pc = some (.iushr, npc, tg)) (k : zC X d mt npc L (.int ((x.toUInt32 >>> (y.toUInt32 &&& Int32.toUInt32 31)).toInt32) :: st) M dc ds rv M') : zC X d mt pc L (.int y :: .int x :: st) M dc ds rv M' := by
  intro E p l e R s m args below meth c H locs cells slots Q ls hC hR hS hl hr hk
  obtain ⟨hn, hd⟩ := zk_d hC.2.2.1 h rfl
  subst hn
  exact lv_iushr hC.1 hC.2.1 hd rfl (k E p l e R s m args below meth c H locs cells slots Q ls hC hR hS hl hr hk)
theorem c_lshl {x : Int64} {y : Int32} (h : zk_at mt pc = some (.lshl, npc, tg)) (k : zC X d mt npc L (.long (x <<< (y.toInt64 &&& 63)) :: st) M dc ds rv M') : zC X d mt pc L (.int y :: .long x :: st) M dc ds rv M' := by
  intro E p l e R s m args below meth c H locs cells slots Q ls hC hR hS hl hr hk
  obtain ⟨hn, hd⟩ := zk_d hC.2.2.1 h rfl
  subst hn
  exact lv_lshl hC.1 hC.2.1 hd rfl (k E p l e R s m args below meth c H locs cells slots Q ls hC hR hS hl hr hk)
theorem c_i2l {x : Int32} (h : zk_at mt pc = some (.i2l, npc, tg)) (k : zC X d mt npc L (.long x.toInt64 :: st) M dc ds rv M') : zC X d mt pc L (.int x :: st) M dc ds rv M' := by
  intro E p l e R s m args below meth c H locs cells slots Q ls hC hR hS hl hr hk
  obtain ⟨hn, hd⟩ := zk_d hC.2.2.1 h rfl
  subst hn
  exact lv_i2l hC.1 hC.2.1 hd rfl (k E p l e R s m args below meth c H locs cells slots Q ls hC hR hS hl hr hk)
theorem c_l2i {x : Int64} (h : zk_at mt pc = some (.l2i, npc, tg)) (k : zC X d mt npc L (.int x.toInt32 :: st) M dc ds rv M') : zC X d mt pc L (.long x :: st) M dc ds rv M' := by
  intro E p l e R s m args below meth c H locs cells slots Q ls hC hR hS hl hr hk
  obtain ⟨hn, hd⟩ := zk_d hC.2.2.1 h rfl
  subst hn
  exact lv_l2i hC.1 hC.2.1 hd rfl (k E p l e R s m args below meth c H locs cells slots Q ls hC hR hS hl hr hk)
theorem c_i2c {x : Int32} (h : zk_at mt pc = some (.i2c, npc, tg)) (k : zC X d mt npc L (.int (x.toUInt32 % 65536).toInt32 :: st) M dc ds rv M') : zC X d mt pc L (.int x :: st) M dc ds rv M' := by
  intro E p l e R s m args below meth c H locs cells slots Q ls hC hR hS hl hr hk
  obtain ⟨hn, hd⟩ := zk_d hC.2.2.1 h rfl
  subst hn
  exact lv_i2c hC.1 hC.2.1 hd rfl (k E p l e R s m args below meth c H locs cells slots Q ls hC hR hS hl hr hk)
theorem c_lcmp {x y : Int64} (h : zk_at mt pc = some (.lcmp, npc, tg)) (k : zC X d mt npc L (.int (lg_cmp x y) :: st) M dc ds rv M') : zC X d mt pc L (.long y :: .long x :: st) M dc ds rv M' := by
  intro E p l e R s m args below meth c H locs cells slots Q ls hC hR hS hl hr hk
  obtain ⟨hn, hd⟩ := zk_d hC.2.2.1 h rfl
  subst hn
  exact W.lcmp hC.1 hC.2.1 hd  (k E p l e R s m args below meth c H locs cells slots Q ls hC hR hS hl hr hk)
theorem c_iconst {n : Int} {v : Int32} (h : zk_at mt pc = some (.iconst n, npc, tg)) (hv : Int32.ofInt n = v) (k : zC X d mt npc L (.int v :: st) M dc ds rv M') : zC X d mt pc L (st) M dc ds rv M' := by
  intro E p l e R s m args below meth c H locs cells slots Q ls hC hR hS hl hr hk
  obtain ⟨hn, hd⟩ := zk_d hC.2.2.1 h rfl
  subst hn
  exact lv_iconst hC.1 hC.2.1 hd hv (k E p l e R s m args below meth c H locs cells slots Q ls hC hR hS hl hr hk)
theorem c_bipush {n : Int} {v : Int32} (h : zk_at mt pc = some (.bipush n, npc, tg)) (hv : (Int8.ofInt n).toInt32 = v) (k : zC X d mt npc L (.int v :: st) M dc ds rv M') : zC X d mt pc L (st) M dc ds rv M' := by
  intro E p l e R s m args below meth c H locs cells slots Q ls hC hR hS hl hr hk
  obtain ⟨hn, hd⟩ := zk_d hC.2.2.1 h rfl
  subst hn
  exact lv_bipush hC.1 hC.2.1 hd hv (k E p l e R s m args below meth c H locs cells slots Q ls hC hR hS hl hr hk)
theorem c_sipush {n : Int} {v : Int32} (h : zk_at mt pc = some (.sipush n, npc, tg)) (hv : (Int16.ofInt n).toInt32 = v) (k : zC X d mt npc L (.int v :: st) M dc ds rv M') : zC X d mt pc L (st) M dc ds rv M' := by
  intro E p l e R s m args below meth c H locs cells slots Q ls hC hR hS hl hr hk
  obtain ⟨hn, hd⟩ := zk_d hC.2.2.1 h rfl
  subst hn
  exact lv_sipush hC.1 hC.2.1 hd hv (k E p l e R s m args below meth c H locs cells slots Q ls hC hR hS hl hr hk)
theorem c_lconst {n : Fin 2} {v : Int64} (h : zk_at mt pc = some (.lconst n, npc, tg)) (hv : Int64.ofNat (n : Nat) = v) (k : zC X d mt npc L (.long v :: st) M dc ds rv M') : zC X d mt pc L (st) M dc ds rv M' := by
  intro E p l e R s m args below meth c H locs cells slots Q ls hC hR hS hl hr hk
  obtain ⟨hn, hd⟩ := zk_d hC.2.2.1 h rfl
  subst hn
  exact lv_lconst hC.1 hC.2.1 hd hv (k E p l e R s m args below meth c H locs cells slots Q ls hC hR hS hl hr hk)
theorem c_iload_n {n : Fin 4} {x : Int32} (h : zk_at mt pc = some (.iload_n n, npc, tg)) (hL : zk_get L n.val = some (.int x)) (k : zC X d mt npc L (.int x :: st) M dc ds rv M') : zC X d mt pc L (st) M dc ds rv M' := by
  intro E p l e R s m args below meth c H locs cells slots Q ls hC hR hS hl hr hk
  obtain ⟨hn, hd⟩ := zk_d hC.2.2.1 h rfl
  subst hn
  exact lv_iload_n hC.1 hC.2.1 hd rfl (hl.2.2 _ _ (zk_get_ok hL)) (k E p l e R s m args below meth c H locs cells slots Q ls hC hR hS hl hr hk)
theorem c_iload {i : Nat} {x : Int32} (h : zk_at mt pc = some (.iload i, npc, tg)) (hL : zk_get L i = some (.int x)) (k : zC X d mt npc L (.int x :: st) M dc ds rv M') : zC X d mt pc L (st) M dc ds rv M' := by
  intro E p l e R s m args below meth c H locs cells slots Q ls hC hR hS hl hr hk
  obtain ⟨hn, hd⟩ := zk_d hC.2.2.1 h rfl
  subst hn
  exact lv_iload hC.1 hC.2.1 hd (hl.2.2 _ _ (zk_get_ok hL)) (k E p l e R s m args below meth c H locs cells slots Q ls hC hR hS hl hr hk)
theorem c_lload_n {n : Fin 4} {x : Int64} (h : zk_at mt pc = some (.lload_n n, npc, tg)) (hL : zk_get L n.val = some (.long x)) (k : zC X d mt npc L (.long x :: st) M dc ds rv M') : zC X d mt pc L (st) M dc ds rv M' := by
  intro E p l e R s m args below meth c H locs cells slots Q ls hC hR hS hl hr hk
  obtain ⟨hn, hd⟩ := zk_d hC.2.2.1 h rfl
  subst hn
  exact lv_lload_n hC.1 hC.2.1 hd rfl (hl.2.2 _ _ (zk_get_ok hL)) (k E p l e R s m args below meth c H locs cells slots Q ls hC hR hS hl hr hk)
theorem c_lload {i : Nat} {x : Int64} (h : zk_at mt pc = some (.lload i, npc, tg)) (hL : zk_get L i = some (.long x)) (k : zC X d mt npc L (.long x :: st) M dc ds rv M') : zC X d mt pc L (st) M dc ds rv M' := by
  intro E p l e R s m args below meth c H locs cells slots Q ls hC hR hS hl hr hk
  obtain ⟨hn, hd⟩ := zk_d hC.2.2.1 h rfl
  subst hn
  exact lv_lload hC.1 hC.2.1 hd (hl.2.2 _ _ (zk_get_ok hL)) (k E p l e R s m args below meth c H locs cells slots Q ls hC hR hS hl hr hk)
theorem c_aload_n {n : Fin 4} {x : Nat} (h : zk_at mt pc = some (.aload_n n, npc, tg)) (hL : zk_get L n.val = some (.ref x)) (k : zC X d mt npc L (.ref x :: st) M dc ds rv M') : zC X d mt pc L (st) M dc ds rv M' := by
  intro E p l e R s m args below meth c H locs cells slots Q ls hC hR hS hl hr hk
  obtain ⟨hn, hd⟩ := zk_d hC.2.2.1 h rfl
  subst hn
  exact lv_aload_n hC.1 hC.2.1 hd rfl (hl.2.2 _ _ (zk_get_ok hL)) (k E p l e R s m args below meth c H locs cells slots Q ls hC hR hS hl hr hk)
theorem c_aload {i : Nat} {x : Nat} (h : zk_at mt pc = some (.aload i, npc, tg)) (hL : zk_get L i = some (.ref x)) (k : zC X d mt npc L (.ref x :: st) M dc ds rv M') : zC X d mt pc L (st) M dc ds rv M' := by
  intro E p l e R s m args below meth c H locs cells slots Q ls hC hR hS hl hr hk
  obtain ⟨hn, hd⟩ := zk_d hC.2.2.1 h rfl
  subst hn
  exact lv_aload hC.1 hC.2.1 hd (hl.2.2 _ _ (zk_get_ok hL)) (k E p l e R s m args below meth c H locs cells slots Q ls hC hR hS hl hr hk)
theorem c_dup {v : Value} (h : zk_at mt pc = some (.dup, npc, tg)) (hv : v.category = 1) (k : zC X d mt npc L (v :: v :: st) M dc ds rv M') : zC X d mt pc L (v :: st) M dc ds rv M' := by
  intro E p l e R s m args below meth c H locs cells slots Q ls hC hR hS hl hr hk
  obtain ⟨hn, hd⟩ := zk_d hC.2.2.1 h rfl
  subst hn
  exact lv_dup hC.1 hC.2.1 hd ((zk_tr_cat E v).trans hv) (k E p l e R s m args below meth c H locs cells slots Q ls hC hR hS hl hr hk)
theorem c_pop {v : Value} (h : zk_at mt pc = some (.pop, npc, tg)) (hv : v.category = 1) (k : zC X d mt npc L (st) M dc ds rv M') : zC X d mt pc L (v :: st) M dc ds rv M' := by
  intro E p l e R s m args below meth c H locs cells slots Q ls hC hR hS hl hr hk
  obtain ⟨hn, hd⟩ := zk_d hC.2.2.1 h rfl
  subst hn
  exact lv_pop hC.1 hC.2.1 hd ((zk_tr_cat E v).trans hv) (k E p l e R s m args below meth c H locs cells slots Q ls hC hR hS hl hr hk)
theorem c_dup2 {v w : Value} (h : zk_at mt pc = some (.dup2, npc, tg)) (hv : v.category = 1) (hw : w.category = 1) (k : zC X d mt npc L (v :: w :: v :: w :: st) M dc ds rv M') : zC X d mt pc L (v :: w :: st) M dc ds rv M' := by
  intro E p l e R s m args below meth c H locs cells slots Q ls hC hR hS hl hr hk
  obtain ⟨hn, hd⟩ := zk_d hC.2.2.1 h rfl
  subst hn
  exact lv_dup2_11 hC.1 hC.2.1 hd ((zk_tr_cat E v).trans hv) ((zk_tr_cat E w).trans hw) (k E p l e R s m args below meth c H locs cells slots Q ls hC hR hS hl hr hk)
theorem c_dup2l {v : Value} (h : zk_at mt pc = some (.dup2, npc, tg)) (hv : v.category = 2) (k : zC X d mt npc L (v :: v :: st) M dc ds rv M') : zC X d mt pc L (v :: st) M dc ds rv M' := by
  intro E p l e R s m args below meth c H locs cells slots Q ls hC hR hS hl hr hk
  obtain ⟨hn, hd⟩ := zk_d hC.2.2.1 h rfl
  subst hn
  exact lv_dup2_2 hC.1 hC.2.1 hd ((zk_tr_cat E v).trans hv) (k E p l e R s m args below meth c H locs cells slots Q ls hC hR hS hl hr hk)
theorem c_istore_n {n : Fin 4} {x : Int32} (h : zk_at mt pc = some (.istore_n n, npc, tg)) (hi : n.val < mt.2.2.1) (hd2 : zk_nod L = true) (k : zC X d mt npc (zk_set L n.val (.int x)) st M dc ds rv M') : zC X d mt pc L (.int x :: st) M dc ds rv M' := by
  intro E p l e R s m args below meth c H locs cells slots Q ls hC hR hS hl hr hk
  obtain ⟨hn, hd⟩ := zk_d hC.2.2.1 h rfl
  subst hn
  exact lv_istore_n hC.1 hC.2.1 hd rfl hl.has hi rfl (fun ls2 h2 => k E p l e R s m args below meth c H locs cells slots Q ls2 hC hR hS (zk_lv.set (v := .int x) hd2 h2) hr hk)
theorem c_istore {i : Nat} {x : Int32} (h : zk_at mt pc = some (.istore i, npc, tg)) (hi : i < mt.2.2.1) (hd2 : zk_nod L = true) (k : zC X d mt npc (zk_set L i (.int x)) st M dc ds rv M') : zC X d mt pc L (.int x :: st) M dc ds rv M' := by
  intro E p l e R s m args below meth c H locs cells slots Q ls hC hR hS hl hr hk
  obtain ⟨hn, hd⟩ := zk_d hC.2.2.1 h rfl
  subst hn
  exact lv_istore hC.1 hC.2.1 hd hl.has hi rfl (fun ls2 h2 => k E p l e R s m args below meth c H locs cells slots Q ls2 hC hR hS (zk_lv.set (v := .int x) hd2 h2) hr hk)
theorem c_lstore_n {n : Fin 4} {x : Int64} (h : zk_at mt pc = some (.lstore_n n, npc, tg)) (hi : n.val + 1 < mt.2.2.1) (hd2 : zk_nod L = true) (k : zC X d mt npc (zk_set2 L n.val (.long x)) st M dc ds rv M') : zC X d mt pc L (.long x :: st) M dc ds rv M' := by
  intro E p l e R s m args below meth c H locs cells slots Q ls hC hR hS hl hr hk
  obtain ⟨hn, hd⟩ := zk_d hC.2.2.1 h rfl
  subst hn
  exact lv_lstore_n hC.1 hC.2.1 hd rfl hl.has hi rfl (fun ls2 h2 => k E p l e R s m args below meth c H locs cells slots Q ls2 hC hR hS (zk_lv.set2 (v := .long x) hd2 h2) hr hk)
theorem c_lstore {i : Nat} {x : Int64} (h : zk_at mt pc = some (.lstore i, npc, tg)) (hi : i + 1 < mt.2.2.1) (hd2 : zk_nod L = true) (k : zC X d mt npc (zk_set2 L i (.long x)) st M dc ds rv M') : zC X d mt pc L (.long x :: st) M dc ds rv M' := by
  intro E p l e R s m args below meth c H locs cells slots Q ls hC hR hS hl hr hk
  obtain ⟨hn, hd⟩ := zk_d hC.2.2.1 h rfl
  subst hn
  exact lv_lstore hC.1 hC.2.1 hd hl.has hi rfl (fun ls2 h2 => k E p l e R s m args below meth c H locs cells slots Q ls2 hC hR hS (zk_lv.set2 (v := .long x) hd2 h2) hr hk)
theorem c_astore_n {n : Fin 4} {x : Nat} (h : zk_at mt pc = some (.astore_n n, npc, tg)) (hi : n.val < mt.2.2.1) (hd2 : zk_nod L = true) (k : zC X d mt npc (zk_set L n.val (.ref x)) st M dc ds rv M') : zC X d mt pc L (.ref x :: st) M dc ds rv M' := by
  intro E p l e R s m args below meth c H locs cells slots Q ls hC hR hS hl hr hk
  obtain ⟨hn, hd⟩ := zk_d hC.2.2.1 h rfl
  subst hn
  exact lv_astore_n hC.1 hC.2.1 hd rfl hl.has hi rfl (fun ls2 h2 => k E p l e R s m args below meth c H locs cells slots Q ls2 hC hR hS (zk_lv.set (v := .ref x) hd2 h2) hr hk)
theorem c_astore {i : Nat} {x : Nat} (h : zk_at mt pc = some (.astore i, npc, tg)) (hi : i < mt.2.2.1) (hd2 : zk_nod L = true) (k : zC X d mt npc (zk_set L i (.ref x)) st M dc ds rv M') : zC X d mt pc L (.ref x :: st) M dc ds rv M' := by
  intro E p l e R s m args below meth c H locs cells slots Q ls hC hR hS hl hr hk
  obtain ⟨hn, hd⟩ := zk_d hC.2.2.1 h rfl
  subst hn
  exact lv_astore hC.1 hC.2.1 hd hl.has hi rfl (fun ls2 h2 => k E p l e R s m args below meth c H locs cells slots Q ls2 hC hR hS (zk_lv.set (v := .ref x) hd2 h2) hr hk)
theorem zk_pr_at {E : zk_E} {L : List (Option Value)} {i : Nat} {v : Value} (h : L[i]? = some (some v)) : ∃ k : Nat, (zk_pr E L)[k]? = some (i, zk_tr E v) :=
  List.getElem?_of_mem (zk_pr_mem.mpr ⟨v, h, rfl⟩)
theorem c_iinc {i : Nat} {n : Int} {x v : Int32} (h : zk_at mt pc = some (.iinc i n, npc, tg)) (hL : zk_get L i = some (.int x)) (hv : Int32.ofInt n = v) (hi : i < mt.2.2.1) (hd2 : zk_nod L = true) (k : zC X d mt npc (zk_set L i (.int (x + v))) st M dc ds rv M') : zC X d mt pc L st M dc ds rv M' := by
  intro E p l e R s m args below meth c H locs cells slots Q ls hC hR hS hl hr hk
  obtain ⟨hn, hd⟩ := zk_d hC.2.2.1 h rfl
  subst hn
  obtain ⟨q, hq⟩ := zk_pr_at (E := E) (zk_get_ok hL)
  exact lv_iinc (k := q) (x := x) (v := x + v) hC.1 hC.2.1 hd hl.has hq (by rw [hv]) hi rfl (fun ls2 h2 => k E p l e R s m args below meth c H locs cells slots Q ls2 hC hR hS (zk_lv.set (v := .int (x + v)) hd2 h2) hr hk)
theorem c_if_eq {x : Int32} {o : Int} (h : zk_at mt pc = some (.ifCond .eq o, npc, tg)) (kt : x = 0 → zC X d mt tg L st M dc ds rv M') (kf : ¬ x = 0 → zC X d mt npc L st M dc ds rv M') : zC X d mt pc L (.int x :: st) M dc ds rv M' := by
  intro E p l e R s m args below meth c H locs cells slots Q ls hC hR hS hl hr hk
  obtain ⟨hn, hd⟩ := zk_d hC.2.2.1 h rfl
  subst hn
  exact lv_if_eq hC.1 hC.2.1 hd ((zk_row hC.2.2.1 h).2.2 _ rfl) (fun q => kt q E p l e R s m args below meth c H locs cells slots Q ls hC hR hS hl hr hk) (fun q => kf q E p l e R s m args below meth c H locs cells slots Q ls hC hR hS hl hr hk)
theorem c_icmp_eq {x y : Int32} {o : Int} (h : zk_at mt pc = some (.if_icmp .eq o, npc, tg)) (kt : x = y → zC X d mt tg L st M dc ds rv M') (kf : ¬ x = y → zC X d mt npc L st M dc ds rv M') : zC X d mt pc L (.int y :: .int x :: st) M dc ds rv M' := by
  intro E p l e R s m args below meth c H locs cells slots Q ls hC hR hS hl hr hk
  obtain ⟨hn, hd⟩ := zk_d hC.2.2.1 h rfl
  subst hn
  exact lv_icmp_eq hC.1 hC.2.1 hd ((zk_row hC.2.2.1 h).2.2 _ rfl) (fun q => kt q E p l e R s m args below meth c H locs cells slots Q ls hC hR hS hl hr hk) (fun q => kf q E p l e R s m args below meth c H locs cells slots Q ls hC hR hS hl hr hk)
theorem c_if_ne {x : Int32} {o : Int} (h : zk_at mt pc = some (.ifCond .ne o, npc, tg)) (kt : ¬ x = 0 → zC X d mt tg L st M dc ds rv M') (kf : x = 0 → zC X d mt npc L st M dc ds rv M') : zC X d mt pc L (.int x :: st) M dc ds rv M' := by
  intro E p l e R s m args below meth c H locs cells slots Q ls hC hR hS hl hr hk
  obtain ⟨hn, hd⟩ := zk_d hC.2.2.1 h rfl
  subst hn
  exact lv_if_ne hC.1 hC.2.1 hd ((zk_row hC.2.2.1 h).2.2 _ rfl) (fun q => kt q E p l e R s m args below meth c H locs cells slots Q ls hC hR hS hl hr hk) (fun q => kf q E p l e R s m args below meth c H locs cells slots Q ls hC hR hS hl hr hk)
theorem c_icmp_ne {x y : Int32} {o : Int} (h : zk_at mt pc = some (.if_icmp .ne o, npc, tg)) (kt : ¬ x = y → zC X d mt tg L st M dc ds rv M') (kf : x = y → zC X d mt npc L st M dc ds rv M') : zC X d mt pc L (.int y :: .int x :: st) M dc ds rv M' := by
  intro E p l e R s m args below meth c H locs cells slots Q ls hC hR hS hl hr hk
  obtain ⟨hn, hd⟩ := zk_d hC.2.2.1 h rfl
  subst hn
  exact lv_icmp_ne hC.1 hC.2.1 hd ((zk_row hC.2.2.1 h).2.2 _ rfl) (fun q => kt q E p l e R s m args below meth c H locs cells slots Q ls hC hR hS hl hr hk) (fun q => kf q E p l e R s m args below meth c H locs cells slots Q ls hC hR hS hl hr hk)
theorem c_if_lt {x : Int32} {o : Int} (h : zk_at mt pc = some (.ifCond .lt o, npc, tg)) (kt : x < 0 → zC X d mt tg L st M dc ds rv M') (kf : ¬ x < 0 → zC X d mt npc L st M dc ds rv M') : zC X d mt pc L (.int x :: st) M dc ds rv M' := by
  intro E p l e R s m args below meth c H locs cells slots Q ls hC hR hS hl hr hk
  obtain ⟨hn, hd⟩ := zk_d hC.2.2.1 h rfl
  subst hn
  exact lv_if_lt hC.1 hC.2.1 hd ((zk_row hC.2.2.1 h).2.2 _ rfl) (fun q => kt q E p l e R s m args below meth c H locs cells slots Q ls hC hR hS hl hr hk) (fun q => kf q E p l e R s m args below meth c H locs cells slots Q ls hC hR hS hl hr hk)
theorem c_icmp_lt {x y : Int32} {o : Int} (h : zk_at mt pc = some (.if_icmp .lt o, npc, tg)) (kt : x < y → zC X d mt tg L st M dc ds rv M') (kf : ¬ x < y → zC X d mt npc L st M dc ds rv M') : zC X d mt pc L (.int y :: .int x :: st) M dc ds rv M' := by
  intro E p l e R s m args below meth c H locs cells slots Q ls hC hR hS hl hr hk
  obtain ⟨hn, hd⟩ := zk_d hC.2.2.1 h rfl
  subst hn
  exact lv_icmp_lt hC.1 hC.2.1 hd ((zk_row hC.2.2.1 h).2.2 _ rfl) (fun q => kt q E p l e R s m args below meth c H locs cells slots Q ls hC hR hS hl hr hk) (fun q => kf q E p l e R s m args below meth c H locs cells slots Q ls hC hR hS hl hr hk)
theorem c_if_ge {x : Int32} {o : Int} (h : zk_at mt pc = some (.ifCond .ge o, npc, tg)) (kt : 0 ≤ x → zC X d mt tg L st M dc ds rv M') (kf : ¬ 0 ≤ x → zC X d mt npc L st M dc ds rv M') : zC X d mt pc L (.int x :: st) M dc ds rv M' := by
  intro E p l e R s m args below meth c H locs cells slots Q ls hC hR hS hl hr hk
  obtain ⟨hn, hd⟩ := zk_d hC.2.2.1 h rfl
  subst hn
  exact lv_if_ge hC.1 hC.2.1 hd ((zk_row hC.2.2.1 h).2.2 _ rfl) (fun q => kt q E p l e R s m args below meth c H locs cells slots Q ls hC hR hS hl hr hk) (fun q => kf q E p l e R s m args below meth c H locs cells slots Q ls hC hR hS hl hr hk)
theorem c_icmp_ge {x y : Int32} {o : Int} (h : zk_at mt pc = some (.if_icmp .ge o, npc, tg)) (kt : y ≤ x → zC X d mt tg L st M dc ds rv M') (kf : ¬ y ≤ x → zC X d mt npc L st M dc ds rv M') : zC X d mt pc L (.int y :: .int x :: st) M dc ds rv M' := by
  intro E p l e R s m args below meth c H locs cells slots Q ls hC hR hS hl hr hk
  obtain ⟨hn, hd⟩ := zk_d hC.2.2.1 h rfl
  subst hn
  exact lv_icmp_ge hC.1 hC.2.1 hd ((zk_row hC.2.2.1 h).2.2 _ rfl) (fun q => kt q E p l e R s m args below meth c H locs cells slots Q ls hC hR hS hl hr hk) (fun q => kf q E p l e R s m args below meth c H locs cells slots Q ls hC hR hS hl hr hk)
theorem c_if_gt {x : Int32} {o : Int} (h : zk_at mt pc = some (.ifCond .gt o, npc, tg)) (kt : 0 < x → zC X d mt tg L st M dc ds rv M') (kf : ¬ 0 < x → zC X d mt npc L st M dc ds rv M') : zC X d mt pc L (.int x :: st) M dc ds rv M' := by
  intro E p l e R s m args below meth c H locs cells slots Q ls hC hR hS hl hr hk
  obtain ⟨hn, hd⟩ := zk_d hC.2.2.1 h rfl
  subst hn
  exact lv_if_gt hC.1 hC.2.1 hd ((zk_row hC.2.2.1 h).2.2 _ rfl) (fun q => kt q E p l e R s m args below meth c H locs cells slots Q ls hC hR hS hl hr hk) (fun q => kf q E p l e R s m args below meth c H locs cells slots Q ls hC hR hS hl hr hk)
theorem c_icmp_gt {x y : Int32} {o : Int} (h : zk_at mt pc = some (.if_icmp .gt o, npc, tg)) (kt : y < x → zC X d mt tg L st M dc ds rv M') (kf : ¬ y < x → zC X d mt npc L st M dc ds rv M') : zC X d mt pc L (.int y :: .int x :: st) M dc ds rv M' := by
  intro E p l e R s m args below meth c H locs cells slots Q ls hC hR hS hl hr hk
  obtain ⟨hn, hd⟩ := zk_d hC.2.2.1 h rfl
  subst hn
  exact lv_icmp_gt hC.1 hC.2.1 hd ((zk_row hC.2.2.1 h).2.2 _ rfl) (fun q => kt q E p l e R s m args below meth c H locs cells slots Q ls hC hR hS hl hr hk) (fun q => kf q E p l e R s m args below meth c H locs cells slots Q ls hC hR hS hl hr hk)
theorem c_if_le {x : Int32} {o : Int} (h : zk_at mt pc = some (.ifCond .le o, npc, tg)) (kt : x ≤ 0 → zC X d mt tg L st M dc ds rv M') (kf : ¬ x ≤ 0 → zC X d mt npc L st M dc ds rv M') : zC X d mt pc L (.int x :: st) M dc ds rv M' := by
  intro E p l e R s m args below meth c H locs cells slots Q ls hC hR hS hl hr hk
  obtain ⟨hn, hd⟩ := zk_d hC.2.2.1 h rfl
  subst hn
  exact lv_if_le hC.1 hC.2.1 hd ((zk_row hC.2.2.1 h).2.2 _ rfl) (fun q => kt q E p l e R s m args below meth c H locs cells slots Q ls hC hR hS hl hr hk) (fun q => kf q E p l e R s m args below meth c H locs cells slots Q ls hC hR hS hl hr hk)
theorem c_icmp_le {x y : Int32} {o : Int} (h : zk_at mt pc = some (.if_icmp .le o, npc, tg)) (kt : x ≤ y → zC X d mt tg L st M dc ds rv M') (kf : ¬ x ≤ y → zC X d mt npc L st M dc ds rv M') : zC X d mt pc L (.int y :: .int x :: st) M dc ds rv M' := by
  intro E p l e R s m args below meth c H locs cells slots Q ls hC hR hS hl hr hk
  obtain ⟨hn, hd⟩ := zk_d hC.2.2.1 h rfl
  subst hn
  exact lv_icmp_le hC.1 hC.2.1 hd ((zk_row hC.2.2.1 h).2.2 _ rfl) (fun q => kt q E p l e R s m args below meth c H locs cells slots Q ls hC hR hS hl hr hk) (fun q => kf q E p l e R s m args below meth c H locs cells slots Q ls hC hR hS hl hr hk)
theorem c_goto {o : Int} (h : zk_at mt pc = some (.goto o, npc, tg)) (k : zC X d mt tg L st M dc ds rv M') : zC X d mt pc L st M dc ds rv M' := by
  intro E p l e R s m args below meth c H locs cells slots Q ls hC hR hS hl hr hk
  obtain ⟨hn, hd⟩ := zk_d hC.2.2.1 h rfl
  subst hn
  exact lv_goto hC.1 hC.2.1 hd ((zk_row hC.2.2.1 h).2.2 _ rfl) (k E p l e R s m args below meth c H locs cells slots Q ls hC hR hS hl hr hk)
theorem c_swIn {dflt lo hi : Int} {offs : Array Int} {x : Int32} {off : Int} {tgt : Nat} (h : zk_at mt pc = some (.tableswitch dflt lo hi offs, npc, tg)) (h1 : ¬ x.toInt < lo) (h2 : ¬ hi < x.toInt) (ho : offs[(x.toInt - lo).toNat]? = some off) (ht : (pc : Int) + off = (tgt : Int)) (k : zC X d mt tgt L st M dc ds rv M') : zC X d mt pc L (.int x :: st) M dc ds rv M' := by
  intro E p l e R s m args below meth c H locs cells slots Q ls hC hR hS hl hr hk
  exact lv_tableIn hC.1 hC.2.1 (zk_row hC.2.2.1 h).1 h1 h2 ho ht (k E p l e R s m args below meth c H locs cells slots Q ls hC hR hS hl hr hk)
theorem c_swOut {dflt lo hi : Int} {offs : Array Int} {x : Int32} {tgt : Nat} (h : zk_at mt pc = some (.tableswitch dflt lo hi offs, npc, tg)) (h1 : x.toInt < lo ∨ hi < x.toInt) (ht : (pc : Int) + dflt = (tgt : Int)) (k : zC X d mt tgt L st M dc ds rv M') : zC X d mt pc L (.int x :: st) M dc ds rv M' := by
  intro E p l e R s m args below meth c H locs cells slots Q ls hC hR hS hl hr hk
  exact lv_tableOut hC.1 hC.2.1 (zk_row hC.2.2.1 h).1 h1 ht (k E p l e R s m args below meth c H locs cells slots Q ls hC hR hS hl hr hk)
theorem c_ireturn {v : Int32} {ty : FieldType} (h : zk_at mt pc = some (.ireturn, npc, tg)) (hty : mt.2.2.2.1 = some ty) (hv : narrow ty (.int v) = .int v) : zC X d mt pc L [.int v] M 0 0 (some (.int v)) M := by
  intro E p l e R s m args below meth c H locs cells slots Q ls hC hR hS hl hr hk
  obtain ⟨hn, hd⟩ := zk_d hC.2.2.1 h rfl
  subst hn
  exact hk pc ls H locs (Or.inr (Or.inl ⟨v, ty, rfl, hty, hv, hd⟩)) hR hS
theorem c_lreturn {v : Int64} (h : zk_at mt pc = some (.lreturn, npc, tg)) (hty : mt.2.2.2.1 = some .long) : zC X d mt pc L [.long v] M 0 0 (some (.long v)) M := by
  intro E p l e R s m args below meth c H locs cells slots Q ls hC hR hS hl hr hk
  obtain ⟨hn, hd⟩ := zk_d hC.2.2.1 h rfl
  subst hn
  exact hk pc ls H locs (Or.inr (Or.inr ⟨v, rfl, hty, hd⟩)) hR hS
theorem c_return (h : zk_at mt pc = some (.return_, npc, tg)) (hty : mt.2.2.2.1 = none) : zC X d mt pc L [] M 0 0 none M := by
  intro E p l e R s m args below meth c H locs cells slots Q ls hC hR hS hl hr hk
  obtain ⟨hn, hd⟩ := zk_d hC.2.2.1 h rfl
  subst hn
  exact hk pc ls H locs (Or.inl ⟨rfl, hty, hd⟩) hR hS
theorem c_ldcw {i : Nat} {v : Int32} (h : zk_at mt pc = some (.ldc_w i, npc, tg)) (hw : Cond.constant mt.1.cls i v ∈ zk_tbl) (k : zC X d mt npc L (.int v :: st) M dc ds rv M') : zC X d mt pc L st M dc ds rv M' := by
  intro E p l e R s m args below meth c H locs cells slots Q ls hC hR hS hl hr hk
  obtain ⟨hn, hd⟩ := zk_d hC.2.2.1 h rfl
  subst hn
  exact lv_ldcw hC.1 hC.2.1 hC.2.2.2.2.2.1 (hC.2.2.2.2.2.2.1 _ hw) hd (k E p l e R s m args below meth c H locs cells slots Q ls hC hR hS hl hr hk)
theorem c_ldc2 {i : Nat} {v : Int64} (h : zk_at mt pc = some (.ldc2_w i, npc, tg)) (hw : Cond.constantLong mt.1.cls i v ∈ zk_tbl) (k : zC X d mt npc L (.long v :: st) M dc ds rv M') : zC X d mt pc L st M dc ds rv M' := by
  intro E p l e R s m args below meth c H locs cells slots Q ls hC hR hS hl hr hk
  obtain ⟨hn, hd⟩ := zk_d hC.2.2.1 h rfl
  subst hn
  exact lv_ldc2 hC.1 hC.2.1 hC.2.2.2.2.2.1 (hC.2.2.2.2.2.2.1 _ hw) hd (k E p l e R s m args below meth c H locs cells slots Q ls hC hR hS hl hr hk)
end ZR
end
section
/-! the memory's rows -/
def zk_sc (I : zk_I) (c : Nat) (f : Nat → Int32) : zk_I := fun a => if a = c then f else I a
def zk_sj (J : zk_J) (c : Nat) (f : Nat → Int64) : zk_J := fun a => if a = c then f else J a
def zk_sr (R : Nat → Nat → Option Nat) (c : Nat) (f : Nat → Option Nat) : Nat → Nat → Option Nat := fun a => if a = c then f else R a
theorem zk_sc_s (I : zk_I) (c : Nat) (f : Nat → Int32) : zk_sc I c f c = f := by simp [zk_sc]
theorem zk_sc_n (I : zk_I) {c a : Nat} (f : Nat → Int32) (h : ¬ a = c) : zk_sc I c f a = I a := by simp [zk_sc, h]
theorem zk_sj_s (J : zk_J) (c : Nat) (f : Nat → Int64) : zk_sj J c f c = f := by simp [zk_sj]
theorem zk_sj_n (J : zk_J) {c a : Nat} (f : Nat → Int64) (h : ¬ a = c) : zk_sj J c f a = J a := by simp [zk_sj, h]
theorem zk_sr_s (R : Nat → Nat → Option Nat) (c : Nat) (f : Nat → Option Nat) : zk_sr R c f c = f := by simp [zk_sr]
theorem zk_sr_n (R : Nat → Nat → Option Nat) {c a : Nat} (f : Nat → Option Nat) (h : ¬ a = c) : zk_sr R c f a = R a := by simp [zk_sr, h]
def zk_in (i : Int32) (n : Nat) : Bool := decide (0 ≤ i) && Nat.blt i.toNatClampNeg n
theorem zk_in_vp {i : Int32} {n : Nat} (h : zk_in i n = true) : vp_in i n := by
  simp only [zk_in, Bool.and_eq_true, decide_eq_true_eq] at h
  have h2 : i.toNatClampNeg < n := Nat.le_of_ble_eq_true h.2
  rintro (q | q)
  · exact absurd h.1 (Int32.not_le.mpr q)
  · omega
def zk_r (k : Nat) : vw_C := zk_cl.getD k ("", fun _ => ("", "", "", false), 0)
def zk_y (k : Nat) : Nat → FieldType := match k with
  | 0 => zk_y0
  | 1 => zk_y1
  | 2 => zk_y2
  | 3 => zk_y3
  | 4 => zk_y4
  | 5 => zk_y5
  | 6 => zk_y6
  | 7 => zk_y7
  | _ => zk_y8
theorem zk_r_at {k : Nat} (h : k < 9) : zk_cl[k]? = some (zk_r k) := by
  match k, h with
  | 0, _ => rfl
  | 1, _ => rfl
  | 2, _ => rfl
  | 3, _ => rfl
  | 4, _ => rfl
  | 5, _ => rfl
  | 6, _ => rfl
  | 7, _ => rfl
  | 8, _ => rfl
  | k + 9, h => exact absurd h (by omega)
theorem zk_r_in {k : Nat} (h : k < 9) : ∀ w ∈ u_ws (zk_r k).1 (zk_r k).2.1 (zk_r k).2.2, w ∈ zk_tbl := by
  match k, h with
  | 0, _ => exact zk_in0
  | 1, _ => exact zk_in1
  | 2, _ => exact zk_in2
  | 3, _ => exact zk_in3
  | 4, _ => exact zk_in4
  | 5, _ => exact zk_in5
  | 6, _ => exact zk_in6
  | 7, _ => exact zk_in7
  | 8, _ => exact zk_in8
  | k + 9, h => exact absurd h (by omega)
theorem zk_r_ty {k : Nat} (h : k < 9) : ∀ j, j < (zk_r k).2.2 → parseFieldDescriptor ((zk_r k).2.1 j).2.2.1 = some (zk_y k j) := by
  match k, h with
  | 0, _ => exact zk_ty0
  | 1, _ => exact zk_ty1
  | 2, _ => exact zk_ty2
  | 3, _ => exact zk_ty3
  | 4, _ => exact zk_ty4
  | 5, _ => exact zk_ty5
  | 6, _ => exact zk_ty6
  | 7, _ => exact zk_ty7
  | 8, _ => exact zk_ty8
  | k + 9, h => exact absurd h (by omega)
theorem zk_r_nm {k : Nat} (h : k < 9) : ∀ a, a < (zk_r k).2.2 → ∀ b, b < (zk_r k).2.2 → a ≠ b → ((zk_r k).2.1 a).2.1 ≠ ((zk_r k).2.1 b).2.1 := by
  match k, h with
  | 0, _ => exact zk_nm0
  | 1, _ => exact zk_nm1
  | 2, _ => exact zk_nm2
  | 3, _ => exact zk_nm3
  | 4, _ => exact zk_nm4
  | 5, _ => exact zk_nm5
  | 6, _ => exact zk_nm6
  | 7, _ => exact zk_nm7
  | 8, _ => exact zk_nm8
  | k + 9, h => exact absurd h (by omega)
theorem zk_ft_len : ∀ k, k < 9 → (zk_ft k).length = (zk_r k).2.2 := by decide +kernel
theorem zk_ws_at {E : zk_E} {M : zk_M} {c : Nat} (h : c < M.1.1) : (zk_ws E M)[c]? = some (zk_ad E c, zk_ce E M c) := by
  simp [zk_ws, List.getElem?_map, List.getElem?_range h]
theorem zk_ws_len {E : zk_E} {M : zk_M} : (zk_ws E M).length = M.1.1 := by simp [zk_ws]
theorem zk_ws_get {E : zk_E} {M : zk_M} {k : Nat} {q : Nat × va_E} (h : (zk_ws E M)[k]? = some q) : k < M.1.1 ∧ q = (zk_ad E k, zk_ce E M k) := by
  have hl : k < M.1.1 := by have := (List.getElem?_eq_some_iff.mp h).1; rwa [zk_ws_len] at this
  rw [zk_ws_at hl] at h
  exact ⟨hl, (Option.some.inj h).symm⟩
theorem zk_D {E : zk_E} {M : zk_M} (h : M.1.1 ≤ 1000) : va_D (zk_A E) (zk_ws E M) := by
  refine ⟨fun i j p q hi hj hpq => ?_, fun k q hk => ?_⟩
  · obtain ⟨h1, rfl⟩ := zk_ws_get hi
    obtain ⟨h2, rfl⟩ := zk_ws_get hj
    have e : zk_ad E i = zk_ad E j := hpq
    simp only [zk_ad, if_pos (show i < 1000 by omega), if_pos (show j < 1000 by omega)] at e
    omega
  · obtain ⟨h1, rfl⟩ := zk_ws_get hk
    show E.2.2.1 ≤ zk_ad E k
    simp only [zk_ad, if_pos (show k < 1000 by omega)]
    omega
theorem zk_ws_set {E : zk_E} {M M2 : zk_M} {c : Nat} {e : va_E} (hn : M2.1.1 = M.1.1) (he : zk_ce E M2 c = e) (ho : ∀ a, a ≠ c → zk_ce E M2 a = zk_ce E M a) : (zk_ws E M).set c (zk_ad E c, e) = zk_ws E M2 := by
  apply List.ext_getElem?
  intro k
  by_cases hk : k < M.1.1
  · rw [zk_ws_at (by rw [hn]; exact hk)]
    by_cases hkc : k = c
    · subst hkc
      rw [List.getElem?_set_self (by rw [zk_ws_len]; exact hk), he]
    · rw [List.getElem?_set_ne (Ne.symm hkc), zk_ws_at hk, ho k hkc]
  · rw [List.getElem?_eq_none (by rw [List.length_set, zk_ws_len]; omega), List.getElem?_eq_none (by rw [zk_ws_len, hn]; omega)]
theorem zk_ce_o {E : zk_E} {M : zk_M} {c ci : Nat} (hc : (M.1.2.1 c).1 = ci) (h9 : ci < 9) : zk_ce E M c = .inr (ci, zk_fs E M ci c) := by
  subst hc
  simp only [zk_ce]
  rw [if_neg (by omega), if_neg (by omega), if_neg (by omega), if_neg (by omega), if_neg (by omega)]
theorem zk_fs_at {E : zk_E} {M : zk_M} {c ci j : Nat} {b : Bool} (h : (zk_ft ci)[j]? = some b) : (zk_fs E M ci c)[j]? = some (zk_fv E M c j b) := by
  simp [zk_fs, List.getElem?_mapIdx, h]
theorem zk_fs_len {E : zk_E} {M : zk_M} {ci c : Nat} : (zk_fs E M ci c).length = (zk_ft ci).length := by simp [zk_fs]
/-- cells off c look alike -/
theorem zk_ce_off {E : zk_E} {Z : zk_Z} {I I2 : zk_I} {J J2 : zk_J} {a : Nat} (hI : I2 a = I a) (hJ : J2 a = J a) : zk_ce E (Z, I2, J2) a = zk_ce E (Z, I, J) a := by
  simp only [zk_ce, zk_fs, hI, hJ]
  have : zk_fv E (Z, I2, J2) a = zk_fv E (Z, I, J) a := by
    funext j b
    simp only [zk_fv, hI]
  rw [this]
/-- a field's words -/
def zk_FL (own : String) (idx ci j : Nat) (b : Bool) : Prop := ci < 9 ∧ j < (zk_r ci).2.2 ∧ (zk_ft ci)[j]? = some b ∧ Cond.fieldLink own idx ((zk_r ci).2.1 j).1 ((zk_r ci).2.1 j).2.1 ((zk_r ci).2.1 j).2.2.1 ∈ zk_tbl
theorem zk_int : ∀ k, k < 9 → ∀ j, j < 24 → (zk_ft k)[j]? = some false → zk_y k j = .int := by decide +kernel
theorem zk_n24 : ∀ k, k < 9 → (zk_r k).2.2 ≤ 24 := by decide +kernel
section ZM
variable {X : zk_X} {d pc npc tg : Nat} {mt : zk_Mt} {L : List (Option Value)} {st : List Value} {Z : zk_Z} {I : zk_I} {J : zk_J} {M' : zk_M} {dc ds : Nat} {rv : Option Value}
theorem c_getI {idx ci j a : Nat} (h : zk_at mt pc = some (.getfield idx, npc, tg)) (hf : zk_FL mt.1.cls idx ci j false) (ha : (Z.2.1 a).1 = ci) (hz : a < Z.1) (k : zC X d mt npc L (.int (I a j) :: st) (Z, I, J) dc ds rv M') : zC X d mt pc L (.ref a :: st) (Z, I, J) dc ds rv M' := by
  intro E p l e R s m args below meth c H locs cells slots Q ls hC hR hS hl hr hk
  obtain ⟨hn, hd⟩ := zk_d hC.2.2.1 h rfl
  subst hn
  obtain ⟨f1, f2, f3, f4⟩ := hf
  exact va_get (D := E.1) (a := zk_ad E a) (ci := ci) (v := .int (I a j)) hC.1 hC.2.1 hC.2.2.2.2.2.2.1 (zk_r_in f1) hC.2.2.2.2.2.1 hR.2.1 hR.1 a ((zk_ws_at (M := (Z, I, J)) hz).trans (by rw [zk_ce_o ha f1])) (zk_r_at f1) j f2 (hC.2.2.2.2.2.2.1 _ f4) (fun _ h9 => h9) (zk_fs_at f3) hd (k E p l e R s m args below meth c H locs cells slots Q ls hC hR hS hl hr hk)
theorem c_getR {idx ci j a b : Nat} (h : zk_at mt pc = some (.getfield idx, npc, tg)) (hf : zk_FL mt.1.cls idx ci j true) (ha : (Z.2.1 a).1 = ci) (hz : a < Z.1) (hb : Z.2.2 a j = some b) (k : zC X d mt npc L (.ref b :: st) (Z, I, J) dc ds rv M') : zC X d mt pc L (.ref a :: st) (Z, I, J) dc ds rv M' := by
  intro E p l e R s m args below meth c H locs cells slots Q ls hC hR hS hl hr hk
  obtain ⟨hn, hd⟩ := zk_d hC.2.2.1 h rfl
  subst hn
  obtain ⟨f1, f2, f3, f4⟩ := hf
  exact va_get (D := E.1) (a := zk_ad E a) (ci := ci) (v := .ref (zk_ad E b)) hC.1 hC.2.1 hC.2.2.2.2.2.2.1 (zk_r_in f1) hC.2.2.2.2.2.1 hR.2.1 hR.1 a ((zk_ws_at (M := (Z, I, J)) hz).trans (by rw [zk_ce_o ha f1])) (zk_r_at f1) j f2 (hC.2.2.2.2.2.2.1 _ f4) (fun _ h9 => h9) ((zk_fs_at f3).trans (by simp only [zk_fv]; rw [hb]; rfl)) hd (k E p l e R s m args below meth c H locs cells slots Q ls hC hR hS hl hr hk)
theorem c_putI {idx ci j a : Nat} {v : Int32} (h : zk_at mt pc = some (.putfield idx, npc, tg)) (hf : zk_FL mt.1.cls idx ci j false) (hfin : ((zk_r ci).2.1 j).2.2.2 = false) (ha : (Z.2.1 a).1 = ci) (hz : a < Z.1) (k : zC X d mt npc L st (Z, zk_sc I a (upd (I a) j v), J) dc ds rv M') : zC X d mt pc L (.int v :: .ref a :: st) (Z, I, J) dc ds rv M' := by
  intro E p l e R s m args below meth c H locs cells slots Q ls hC hR hS hl hr hk
  obtain ⟨hn, hd⟩ := zk_d hC.2.2.1 h rfl
  subst hn
  obtain ⟨f1, f2, f3, f4⟩ := hf
  have hy : zk_y ci j = .int := zk_int ci f1 j (Nat.lt_of_lt_of_le f2 (zk_n24 ci f1)) f3
  have hce : zk_ce E (Z, zk_sc I a (upd (I a) j v), J) a = .inr (ci, (zk_fs E (Z, I, J) ci a).set j (.int v)) := by
    rw [zk_ce_o (M := (Z, zk_sc I a (upd (I a) j v), J)) ha f1]
    congr 2
    apply List.ext_getElem?
    intro q
    by_cases hq : q = j
    · subst hq
      rw [zk_fs_at f3, List.getElem?_set_self (by rw [zk_fs_len]; exact (List.getElem?_eq_some_iff.mp f3).1)]
      simp [zk_fv, zk_sc, upd]
    · rw [List.getElem?_set_ne (Ne.symm hq)]
      simp only [zk_fs, List.getElem?_mapIdx]
      cases (zk_ft ci)[q]? with
      | none => rfl
      | some b =>
        cases b
        · simp [zk_fv, zk_sc, upd, hq]
        · simp [zk_fv]
  have hset := zk_ws_set (E := E) (M := (Z, I, J)) (M2 := (Z, zk_sc I a (upd (I a) j v), J)) (c := a) rfl hce (fun q hq => zk_ce_off (zk_sc_n I _ hq) rfl)
  refine va_put (D := E.1) (a := zk_ad E a) (ci := ci) (v := .int v) (ty := .int) hC.1 hC.2.1 hC.2.2.2.2.2.2.1 (zk_r_in f1) (zk_y ci) (zk_r_ty f1) (zk_r_nm f1) hC.2.2.2.2.2.1 hR.2.1 hR.1 (zk_D hR.2.2) hS a ((zk_ws_at (M := (Z, I, J)) hz).trans (by rw [zk_ce_o ha f1])) (zk_r_at f1) j f2 (hC.2.2.2.2.2.2.1 _ f4) (fun _ h9 => h9) hfin (by rw [zk_r_ty f1 j f2, hy]) rfl rfl (by rw [zk_fs_len]; exact (List.getElem?_eq_some_iff.mp f3).1) hd (fun H1 locs1 hP1 hD1 hS1 => ?_)
  rw [hset] at hP1
  exact k E p l e R s m args below meth c H1 locs1 cells slots Q ls hC ⟨hP1, hR.2.1, hR.2.2⟩ hS1 hl hr hk
theorem zk_ce_20 {E : zk_E} {n a : Nat} (ha : Z.2.1 a = (20, n)) : zk_ce E (Z, I, J) a = .inl (E.2.1 0, n, .inl (I a)) := by
  simp only [zk_ce, ha]
  first | rfl | (rw [if_pos rfl]) | simp
theorem c_iald {n a : Nat} {i : Int32} (h : zk_at mt pc = some (.iaload, npc, tg)) (ha : Z.2.1 a = (20, n)) (hz : a < Z.1) (hi : zk_in i n = true) (k : zC X d mt npc L (.int (I a i.toNatClampNeg) :: st) (Z, I, J) dc ds rv M') : zC X d mt pc L (.int i :: .ref a :: st) (Z, I, J) dc ds rv M' := by
  intro E p l e R s m args below meth c H locs cells slots Q ls hC hR hS hl hr hk
  obtain ⟨hn, hd⟩ := zk_d hC.2.2.1 h rfl
  subst hn
  exact va_iald (D := E.1) (a := zk_ad E a) hC.1 hC.2.1 hR.2.1 hR.1 a 0 ((zk_ws_at (M := (Z, I, J)) hz).trans (by rw [zk_ce_20 ha])) rfl (zk_in_vp hi) hd (k E p l e R s m args below meth c H locs cells slots Q ls hC hR hS hl hr hk)
theorem c_iast {n a : Nat} {i : Int32} {x : Int32} (h : zk_at mt pc = some (.iastore, npc, tg)) (ha : Z.2.1 a = (20, n)) (hz : a < Z.1) (hi : zk_in i n = true) (k : zC X d mt npc L st (Z, zk_sc I a (upd (I a) i.toNatClampNeg x), J) dc ds rv M') : zC X d mt pc L (.int x :: .int i :: .ref a :: st) (Z, I, J) dc ds rv M' := by
  intro E p l e R s m args below meth c H locs cells slots Q ls hC hR hS hl hr hk
  obtain ⟨hn, hd⟩ := zk_d hC.2.2.1 h rfl
  subst hn
  have hset := zk_ws_set (E := E) (M := (Z, I, J)) (M2 := (Z, zk_sc I a (upd (I a) i.toNatClampNeg x), J)) (c := a) rfl (zk_ce_20 ha) (fun q hq => zk_ce_off (zk_sc_n I _ hq) rfl)
  rw [zk_sc_s] at hset
  refine va_iast (D := E.1) (a := zk_ad E a) hC.1 hC.2.1 hR.2.1 hR.1 (zk_D hR.2.2) hS a 0 ((zk_ws_at (M := (Z, I, J)) hz).trans (by rw [zk_ce_20 ha])) rfl (zk_in_vp hi) hd (fun H1 locs1 hP1 hD1 hS1 => ?_)
  rw [hset] at hP1
  exact k E p l e R s m args below meth c H1 locs1 cells slots Q ls hC ⟨hP1, hR.2.1, hR.2.2⟩ hS1 hl hr hk
theorem zk_ce_21 {E : zk_E} {n a : Nat} (ha : Z.2.1 a = (21, n)) : zk_ce E (Z, I, J) a = .inl (E.2.1 1, n, .inr (.inl (J a))) := by
  simp only [zk_ce, ha]
  first | rfl | (rw [if_neg (by decide), if_pos rfl]) | simp
theorem c_lald {n a : Nat} {i : Int32} (h : zk_at mt pc = some (.laload, npc, tg)) (ha : Z.2.1 a = (21, n)) (hz : a < Z.1) (hi : zk_in i n = true) (k : zC X d mt npc L (.long (J a i.toNatClampNeg) :: st) (Z, I, J) dc ds rv M') : zC X d mt pc L (.int i :: .ref a :: st) (Z, I, J) dc ds rv M' := by
  intro E p l e R s m args below meth c H locs cells slots Q ls hC hR hS hl hr hk
  obtain ⟨hn, hd⟩ := zk_d hC.2.2.1 h rfl
  subst hn
  exact va_lald (D := E.1) (a := zk_ad E a) hC.1 hC.2.1 hR.2.1 hR.1 a 1 ((zk_ws_at (M := (Z, I, J)) hz).trans (by rw [zk_ce_21 ha])) rfl (zk_in_vp hi) hd (k E p l e R s m args below meth c H locs cells slots Q ls hC hR hS hl hr hk)
theorem c_last {n a : Nat} {i : Int32} {x : Int64} (h : zk_at mt pc = some (.lastore, npc, tg)) (ha : Z.2.1 a = (21, n)) (hz : a < Z.1) (hi : zk_in i n = true) (k : zC X d mt npc L st (Z, I, zk_sj J a (vp_updL (J a) i.toNatClampNeg x)) dc ds rv M') : zC X d mt pc L (.long x :: .int i :: .ref a :: st) (Z, I, J) dc ds rv M' := by
  intro E p l e R s m args below meth c H locs cells slots Q ls hC hR hS hl hr hk
  obtain ⟨hn, hd⟩ := zk_d hC.2.2.1 h rfl
  subst hn
  have hset := zk_ws_set (E := E) (M := (Z, I, J)) (M2 := (Z, I, zk_sj J a (vp_updL (J a) i.toNatClampNeg x))) (c := a) rfl (zk_ce_21 ha) (fun q hq => zk_ce_off rfl (zk_sj_n J _ hq))
  rw [zk_sj_s] at hset
  refine va_last (D := E.1) (a := zk_ad E a) hC.1 hC.2.1 hR.2.1 hR.1 (zk_D hR.2.2) hS a 1 ((zk_ws_at (M := (Z, I, J)) hz).trans (by rw [zk_ce_21 ha])) rfl (zk_in_vp hi) hd (fun H1 locs1 hP1 hD1 hS1 => ?_)
  rw [hset] at hP1
  exact k E p l e R s m args below meth c H1 locs1 cells slots Q ls hC ⟨hP1, hR.2.1, hR.2.2⟩ hS1 hl hr hk
theorem zk_ce_22 {E : zk_E} {n a : Nat} (ha : Z.2.1 a = (22, n)) : zk_ce E (Z, I, J) a = .inl (E.2.1 2, n, .inl (I a)) := by
  simp only [zk_ce, ha]
  first | rfl | (rw [if_neg (by decide), if_neg (by decide), if_pos rfl]) | simp
theorem c_zald {n a : Nat} {i : Int32} (h : zk_at mt pc = some (.baload, npc, tg)) (ha : Z.2.1 a = (22, n)) (hz : a < Z.1) (hi : zk_in i n = true) (k : zC X d mt npc L (.int (I a i.toNatClampNeg) :: st) (Z, I, J) dc ds rv M') : zC X d mt pc L (.int i :: .ref a :: st) (Z, I, J) dc ds rv M' := by
  intro E p l e R s m args below meth c H locs cells slots Q ls hC hR hS hl hr hk
  obtain ⟨hn, hd⟩ := zk_d hC.2.2.1 h rfl
  subst hn
  exact va_zald (D := E.1) (a := zk_ad E a) hC.1 hC.2.1 hR.2.1 hR.1 a 2 ((zk_ws_at (M := (Z, I, J)) hz).trans (by rw [zk_ce_22 ha])) rfl (zk_in_vp hi) hd (k E p l e R s m args below meth c H locs cells slots Q ls hC hR hS hl hr hk)
theorem c_zast {n a : Nat} {i : Int32} {x : Int32} (h : zk_at mt pc = some (.bastore, npc, tg)) (ha : Z.2.1 a = (22, n)) (hz : a < Z.1) (hi : zk_in i n = true) (k : zC X d mt npc L st (Z, zk_sc I a (upd (I a) i.toNatClampNeg (vp_nar .boolean x)), J) dc ds rv M') : zC X d mt pc L (.int x :: .int i :: .ref a :: st) (Z, I, J) dc ds rv M' := by
  intro E p l e R s m args below meth c H locs cells slots Q ls hC hR hS hl hr hk
  obtain ⟨hn, hd⟩ := zk_d hC.2.2.1 h rfl
  subst hn
  have hset := zk_ws_set (E := E) (M := (Z, I, J)) (M2 := (Z, zk_sc I a (upd (I a) i.toNatClampNeg (vp_nar .boolean x)), J)) (c := a) rfl (zk_ce_22 ha) (fun q hq => zk_ce_off (zk_sc_n I _ hq) rfl)
  rw [zk_sc_s] at hset
  refine va_zast (D := E.1) (a := zk_ad E a) hC.1 hC.2.1 hR.2.1 hR.1 (zk_D hR.2.2) hS a 2 ((zk_ws_at (M := (Z, I, J)) hz).trans (by rw [zk_ce_22 ha])) rfl (zk_in_vp hi) hd (fun H1 locs1 hP1 hD1 hS1 => ?_)
  rw [hset] at hP1
  exact k E p l e R s m args below meth c H1 locs1 cells slots Q ls hC ⟨hP1, hR.2.1, hR.2.2⟩ hS1 hl hr hk
theorem zk_ce_23 {E : zk_E} {n a : Nat} (ha : Z.2.1 a = (23, n)) : zk_ce E (Z, I, J) a = .inl (E.2.1 3, n, .inl (I a)) := by
  simp only [zk_ce, ha]
  first | rfl | (rw [if_neg (by decide), if_neg (by decide), if_neg (by decide), if_pos rfl]) | simp
theorem c_cald {n a : Nat} {i : Int32} (h : zk_at mt pc = some (.caload, npc, tg)) (ha : Z.2.1 a = (23, n)) (hz : a < Z.1) (hi : zk_in i n = true) (k : zC X d mt npc L (.int (I a i.toNatClampNeg) :: st) (Z, I, J) dc ds rv M') : zC X d mt pc L (.int i :: .ref a :: st) (Z, I, J) dc ds rv M' := by
  intro E p l e R s m args below meth c H locs cells slots Q ls hC hR hS hl hr hk
  obtain ⟨hn, hd⟩ := zk_d hC.2.2.1 h rfl
  subst hn
  exact va_cald (D := E.1) (a := zk_ad E a) hC.1 hC.2.1 hR.2.1 hR.1 a 3 ((zk_ws_at (M := (Z, I, J)) hz).trans (by rw [zk_ce_23 ha])) rfl (zk_in_vp hi) hd (k E p l e R s m args below meth c H locs cells slots Q ls hC hR hS hl hr hk)
theorem c_cast {n a : Nat} {i : Int32} {x : Int32} (h : zk_at mt pc = some (.castore, npc, tg)) (ha : Z.2.1 a = (23, n)) (hz : a < Z.1) (hi : zk_in i n = true) (k : zC X d mt npc L st (Z, zk_sc I a (upd (I a) i.toNatClampNeg (vp_nar .char x)), J) dc ds rv M') : zC X d mt pc L (.int x :: .int i :: .ref a :: st) (Z, I, J) dc ds rv M' := by
  intro E p l e R s m args below meth c H locs cells slots Q ls hC hR hS hl hr hk
  obtain ⟨hn, hd⟩ := zk_d hC.2.2.1 h rfl
  subst hn
  have hset := zk_ws_set (E := E) (M := (Z, I, J)) (M2 := (Z, zk_sc I a (upd (I a) i.toNatClampNeg (vp_nar .char x)), J)) (c := a) rfl (zk_ce_23 ha) (fun q hq => zk_ce_off (zk_sc_n I _ hq) rfl)
  rw [zk_sc_s] at hset
  refine va_cast (D := E.1) (a := zk_ad E a) hC.1 hC.2.1 hR.2.1 hR.1 (zk_D hR.2.2) hS a 3 ((zk_ws_at (M := (Z, I, J)) hz).trans (by rw [zk_ce_23 ha])) rfl (zk_in_vp hi) hd (fun H1 locs1 hP1 hD1 hS1 => ?_)
  rw [hset] at hP1
  exact k E p l e R s m args below meth c H1 locs1 cells slots Q ls hC ⟨hP1, hR.2.1, hR.2.2⟩ hS1 hl hr hk
theorem zk_ce_24 {E : zk_E} {n a : Nat} (ha : Z.2.1 a = (24, n)) : zk_ce E (Z, I, J) a = .inl (E.2.1 4, n, .inr (.inr (.inr (.inr (fun j => (Z.2.2 a j).map (zk_ad E)))))) := by
  simp only [zk_ce, ha]
  first | rfl | simp
theorem c_aald {n a b : Nat} {i : Int32} (h : zk_at mt pc = some (.aaload, npc, tg)) (ha : Z.2.1 a = (24, n)) (hz : a < Z.1) (hi : zk_in i n = true) (hb : Z.2.2 a i.toNatClampNeg = some b) (k : zC X d mt npc L (.ref b :: st) (Z, I, J) dc ds rv M') : zC X d mt pc L (.int i :: .ref a :: st) (Z, I, J) dc ds rv M' := by
  intro E p l e R s m args below meth c H locs cells slots Q ls hC hR hS hl hr hk
  obtain ⟨hn, hd⟩ := zk_d hC.2.2.1 h rfl
  subst hn
  have k' := k E p l e R s m args below meth c H locs cells slots Q ls hC hR hS hl hr hk
  refine va_aldq (D := E.1) (a := zk_ad E a) hC.1 hC.2.1 hR.2.1 hR.1 a 4 ((zk_ws_at (M := (Z, I, J)) hz).trans (by rw [zk_ce_24 ha])) rfl (zk_in_vp hi) hd ?_
  rw [hb]
  exact k'
theorem c_alen {n a q : Nat} {v : Int32} (h : zk_at mt pc = some (.arraylength, npc, tg)) (ha : Z.2.1 a = (q, n)) (h20 : q = 20 ∨ q = 21) (hz : a < Z.1) (hv : Int32.ofNat n = v) (k : zC X d mt npc L (.int v :: st) (Z, I, J) dc ds rv M') : zC X d mt pc L (.ref a :: st) (Z, I, J) dc ds rv M' := by
  intro E p l e R s m args below meth c H locs cells slots Q ls hC hR hS hl hr hk
  obtain ⟨hn, hd⟩ := zk_d hC.2.2.1 h rfl
  subst hn
  rcases h20 with rfl | rfl
  · exact va_alen (D := E.1) (a := zk_ad E a) hC.1 hC.2.1 hR.2.1 hR.1 a 0 ((zk_ws_at (M := (Z, I, J)) hz).trans (by rw [zk_ce_20 ha])) rfl hv hd (k E p l e R s m args below meth c H locs cells slots Q ls hC hR hS hl hr hk)
  · exact va_alen (D := E.1) (a := zk_ad E a) hC.1 hC.2.1 hR.2.1 hR.1 a 1 ((zk_ws_at (M := (Z, I, J)) hz).trans (by rw [zk_ce_21 ha])) rfl hv hd (k E p l e R s m args below meth c H locs cells slots Q ls hC hR hS hl hr hk)
theorem c_ialdX {i : Int32} (h : zk_at mt pc = some (.iaload, npc, tg)) (hi : zk_in i X.1 = true) (k : zC X d mt npc L (.int (X.2 i.toNatClampNeg) :: st) (Z, I, J) dc ds rv M') : zC X d mt pc L (.int i :: .ref 1000 :: st) (Z, I, J) dc ds rv M' := by
  intro E p l e R s m args below meth c H locs cells slots Q ls hC hR hS hl hr hk
  obtain ⟨hn, hd⟩ := zk_d hC.2.2.1 h rfl
  subst hn
  obtain ⟨⟨x1, x2⟩, -, -, -, -, -, -, x3, -⟩ := hC.2.2.2.2.2.2.2.2.2
  exact va_sld hC.1 hC.2.1 x1 (Nat.lt_of_lt_of_le x2 x3) (show ¬ E.2.2.1 ≤ E.2.2.2 1000 by omega) hS (zk_in_vp hi) hd (k E p l e R s m args below meth c H locs cells slots Q ls hC hR hS hl hr hk)
theorem c_alenX {v : Int32} (h : zk_at mt pc = some (.arraylength, npc, tg)) (hv : Int32.ofNat X.1 = v) (k : zC X d mt npc L (.int v :: st) (Z, I, J) dc ds rv M') : zC X d mt pc L (.ref 1000 :: st) (Z, I, J) dc ds rv M' := by
  intro E p l e R s m args below meth c H locs cells slots Q ls hC hR hS hl hr hk
  obtain ⟨hn, hd⟩ := zk_d hC.2.2.1 h rfl
  subst hn
  subst hv
  obtain ⟨⟨x1, x2⟩, -, -, -, -, -, -, x3, -⟩ := hC.2.2.2.2.2.2.2.2.2
  exact va_slen hC.1 hC.2.1 x1 (Nat.lt_of_lt_of_le x2 x3) (show ¬ E.2.2.1 ≤ E.2.2.2 1000 by omega) hS hd (k E p l e R s m args below meth c H locs cells slots Q ls hC hR hS hl hr hk)
theorem c_getsWH {idx : Nat} (h : zk_at mt pc = some (.getstatic idx, npc, tg)) (hw : Cond.fieldLink mt.1.cls idx "NamedNext" "WHAT_HE_IS" "[I" ∈ zk_tbl) (k : zC X d mt npc L (.ref 1001 :: st) (Z, I, J) dc ds rv M') : zC X d mt pc L st (Z, I, J) dc ds rv M' := by
  intro E p l e R s m args below meth c H locs cells slots Q ls hC hR hS hl hr hk
  obtain ⟨hn, hd⟩ := zk_d hC.2.2.1 h rfl
  subst hn
  obtain ⟨-, ⟨x1, -⟩, -⟩ := hC.2.2.2.2.2.2.2.2.2
  exact va_gets hC.1 hC.2.1 x1 hS hC.2.2.2.2.2.1 (hC.2.2.2.2.2.2.1 _ hw) (fun _ h9 => h9) hd (k E p l e R s m args below meth c H locs cells slots Q ls hC hR hS hl hr hk)
theorem c_ialdWH {i : Int32} (h : zk_at mt pc = some (.iaload, npc, tg)) (hi : zk_in i 4 = true) (k : zC X d mt npc L (.int (zk_wh i.toNatClampNeg) :: st) (Z, I, J) dc ds rv M') : zC X d mt pc L (.int i :: .ref 1001 :: st) (Z, I, J) dc ds rv M' := by
  intro E p l e R s m args below meth c H locs cells slots Q ls hC hR hS hl hr hk
  obtain ⟨hn, hd⟩ := zk_d hC.2.2.1 h rfl
  subst hn
  obtain ⟨-, ⟨-, x1⟩, -⟩ := hC.2.2.2.2.2.2.2.2.2
  exact va_ti hC.1 hC.2.1 x1 hS (zk_in_vp hi) rfl hd (k E p l e R s m args below meth c H locs cells slots Q ls hC hR hS hl hr hk)
theorem c_getsLO {idx : Nat} (h : zk_at mt pc = some (.getstatic idx, npc, tg)) (hw : Cond.fieldLink mt.1.cls idx "NamedNext$Rows" "LOTS" "[J" ∈ zk_tbl) (k : zC X d mt npc L (.ref 1002 :: st) (Z, I, J) dc ds rv M') : zC X d mt pc L st (Z, I, J) dc ds rv M' := by
  intro E p l e R s m args below meth c H locs cells slots Q ls hC hR hS hl hr hk
  obtain ⟨hn, hd⟩ := zk_d hC.2.2.1 h rfl
  subst hn
  obtain ⟨-, -, ⟨x1, -⟩, -⟩ := hC.2.2.2.2.2.2.2.2.2
  exact va_gets hC.1 hC.2.1 x1 hS hC.2.2.2.2.2.1 (hC.2.2.2.2.2.2.1 _ hw) (fun _ h9 => h9) hd (k E p l e R s m args below meth c H locs cells slots Q ls hC hR hS hl hr hk)
theorem c_laldLO {i : Int32} (h : zk_at mt pc = some (.laload, npc, tg)) (hi : zk_in i 8 = true) (k : zC X d mt npc L (.long (zk_lots i.toNatClampNeg) :: st) (Z, I, J) dc ds rv M') : zC X d mt pc L (.int i :: .ref 1002 :: st) (Z, I, J) dc ds rv M' := by
  intro E p l e R s m args below meth c H locs cells slots Q ls hC hR hS hl hr hk
  obtain ⟨hn, hd⟩ := zk_d hC.2.2.1 h rfl
  subst hn
  obtain ⟨-, -, ⟨-, x1⟩, -⟩ := hC.2.2.2.2.2.2.2.2.2
  exact va_tl hC.1 hC.2.1 x1 hS (zk_in_vp hi) rfl hd (k E p l e R s m args below meth c H locs cells slots Q ls hC hR hS hl hr hk)
theorem c_alenLO {v : Int32} (h : zk_at mt pc = some (.arraylength, npc, tg)) (hv : Int32.ofNat 8 = v) (k : zC X d mt npc L (.int v :: st) (Z, I, J) dc ds rv M') : zC X d mt pc L (.ref 1002 :: st) (Z, I, J) dc ds rv M' := by
  intro E p l e R s m args below meth c H locs cells slots Q ls hC hR hS hl hr hk
  obtain ⟨hn, hd⟩ := zk_d hC.2.2.1 h rfl
  subst hn
  obtain ⟨-, -, ⟨-, x1⟩, -⟩ := hC.2.2.2.2.2.2.2.2.2
  exact va_tlen hC.1 hC.2.1 x1 hS hv hd (k E p l e R s m args below meth c H locs cells slots Q ls hC hR hS hl hr hk)
theorem c_getsCS {idx : Nat} (h : zk_at mt pc = some (.getstatic idx, npc, tg)) (hw : Cond.fieldLink mt.1.cls idx "java/lang/String" "COMPACT_STRINGS" "Z" ∈ zk_tbl) (k : zC X d mt npc L (.int 1 :: st) (Z, I, J) dc ds rv M') : zC X d mt pc L st (Z, I, J) dc ds rv M' := by
  intro E p l e R s m args below meth c H locs cells slots Q ls hC hR hS hl hr hk
  obtain ⟨hn, hd⟩ := zk_d hC.2.2.1 h rfl
  subst hn
  obtain ⟨-, -, -, -, x1, -⟩ := hC.2.2.2.2.2.2.2.2.2
  exact va_gets hC.1 hC.2.1 x1 hS hC.2.2.2.2.2.1 (hC.2.2.2.2.2.2.1 _ hw) (fun _ h9 => h9) hd (k E p l e R s m args below meth c H locs cells slots Q ls hC hR hS hl hr hk)
theorem c_getsSI {idx : Nat} (h : zk_at mt pc = some (.getstatic idx, npc, tg)) (hw : Cond.fieldLink mt.1.cls idx "jdk/internal/util/Preconditions" "SIOOBE_FORMATTER" "Ljava/util/function/BiFunction;" ∈ zk_tbl) (kn : zC X d mt npc L (.null :: st) (Z, I, J) dc ds rv M') (k : zC X d mt npc L (.ref 1003 :: st) (Z, I, J) dc ds rv M') : zC X d mt pc L st (Z, I, J) dc ds rv M' := by
  intro E p l e R s m args below meth c H locs cells slots Q ls hC hR hS hl hr hk
  obtain ⟨hn, hd⟩ := zk_d hC.2.2.1 h rfl
  subst hn
  obtain ⟨-, -, -, x1, -⟩ := hC.2.2.2.2.2.2.2.2.2
  rcases x1 with x1 | x1
  · exact va_gets hC.1 hC.2.1 x1 hS hC.2.2.2.2.2.1 (hC.2.2.2.2.2.2.1 _ hw) (fun _ h9 => h9) hd (kn E p l e R s m args below meth c H locs cells slots Q ls hC hR hS hl hr hk)
  · exact va_gets hC.1 hC.2.1 x1 hS hC.2.2.2.2.2.1 (hC.2.2.2.2.2.2.1 _ hw) (fun _ h9 => h9) hd (k E p l e R s m args below meth c H locs cells slots Q ls hC hR hS hl hr hk)
theorem c_ldcS {idx i : Nat} (h : zk_at mt pc = some (.ldc idx, npc, tg)) (hm : mt.1.cls = "NamedNext$Clauses") (hi : i < 10) (hx : (zk_sk.getD i (0, "")).1 = idx) (k : zC X d mt npc L (.ref (1010 + i) :: st) (Z, I, J) dc ds rv M') : zC X d mt pc L st (Z, I, J) dc ds rv M' := by
  intro E p l e R s m args below meth c H locs cells slots Q ls hC hR hS hl hr hk
  obtain ⟨hn, hd⟩ := zk_d hC.2.2.1 h rfl
  subst hn
  obtain ⟨-, -, -, -, -, -, x1, -⟩ := hC.2.2.2.2.2.2.2.2.2
  have k' := k E p l e R s m args below meth c H locs cells slots Q ls hC hR hS hl hr hk
  have e8 : zk_ad E (1010 + i) = E.2.2.2 (1010 + i) := if_neg (by omega)
  simp only [List.map_cons, zk_tr, e8] at k'
  subst hx
  exact va_ldcS hC.1 hC.2.1 (by rw [← hm]; exact hC.2.2.2.2.2.1) (x1 i hi) hd k'
theorem c_strV {idx i : Nat} (h : zk_at mt pc = some (.getfield idx, npc, tg)) (hw : Cond.fieldLink mt.1.cls idx "java/lang/String" "value" "[B" ∈ zk_tbl) (hi : i < 10) (k : zC X d mt npc L (.ref (1030 + i) :: st) (Z, I, J) dc ds rv M') : zC X d mt pc L (.ref (1010 + i) :: st) (Z, I, J) dc ds rv M' := by
  intro E p l e R s m args below meth c H locs cells slots Q ls hC hR hS hl hr hk
  obtain ⟨hn, hd⟩ := zk_d hC.2.2.1 h rfl
  subst hn
  obtain ⟨-, -, -, -, -, x1, -⟩ := hC.2.2.2.2.2.2.2.2.2
  have k' := k E p l e R s m args below meth c H locs cells slots Q ls hC hR hS hl hr hk
  have e8 : zk_ad E (1010 + i) = E.2.2.2 (1010 + i) := if_neg (by omega)
  have e2 : zk_ad E (1030 + i) = E.2.2.2 (1030 + i) := if_neg (by omega)
  simp only [List.map_cons, zk_tr, e8, e2] at k' ⊢
  exact vk_getf hC.1 hC.2.1 (x1.1 i hi).2.2.1 hS hC.2.2.2.2.2.1 (hC.2.2.2.2.2.2.1 _ hw) (fun _ h9 => h9) hd k'
theorem c_strC {idx i : Nat} (h : zk_at mt pc = some (.getfield idx, npc, tg)) (hw : Cond.fieldLink mt.1.cls idx "java/lang/String" "coder" "B" ∈ zk_tbl) (hi : i < 10) (k : zC X d mt npc L (.int 0 :: st) (Z, I, J) dc ds rv M') : zC X d mt pc L (.ref (1010 + i) :: st) (Z, I, J) dc ds rv M' := by
  intro E p l e R s m args below meth c H locs cells slots Q ls hC hR hS hl hr hk
  obtain ⟨hn, hd⟩ := zk_d hC.2.2.1 h rfl
  subst hn
  obtain ⟨-, -, -, -, -, x1, -⟩ := hC.2.2.2.2.2.2.2.2.2
  have e8 : zk_ad E (1010 + i) = E.2.2.2 (1010 + i) := if_neg (by omega)
  simp only [List.map_cons, zk_tr, e8]
  exact vk_getf hC.1 hC.2.1 (x1.1 i hi).2.1 hS hC.2.2.2.2.2.1 (hC.2.2.2.2.2.2.1 _ hw) (fun _ h9 => h9) hd (k E p l e R s m args below meth c H locs cells slots Q ls hC hR hS hl hr hk)
theorem c_strB {i : Nat} {j : Int32} (h : zk_at mt pc = some (.baload, npc, tg)) (hi : i < 10) (hj : zk_in j (zk_sl.getD i 0) = true) (k : zC X d mt npc L (.int ((zk_sb.getD i []).getD j.toNatClampNeg 0) :: st) (Z, I, J) dc ds rv M') : zC X d mt pc L (.int j :: .ref (1030 + i) :: st) (Z, I, J) dc ds rv M' := by
  intro E p l e R s m args below meth c H locs cells slots Q ls hC hR hS hl hr hk
  obtain ⟨hn, hd⟩ := zk_d hC.2.2.1 h rfl
  subst hn
  obtain ⟨-, -, -, -, -, x1, -⟩ := hC.2.2.2.2.2.2.2.2.2
  have e2 : zk_ad E (1030 + i) = E.2.2.2 (1030 + i) := if_neg (by omega)
  simp only [List.map_cons, zk_tr, e2]
  exact va_tb hC.1 hC.2.1 (x1.1 i hi).2.2.2 hS (zk_in_vp hj) rfl hd (k E p l e R s m args below meth c H locs cells slots Q ls hC hR hS hl hr hk)
theorem c_strL {i : Nat} {v : Int32} (h : zk_at mt pc = some (.arraylength, npc, tg)) (hi : i < 10) (hv : Int32.ofNat (zk_sl.getD i 0) = v) (k : zC X d mt npc L (.int v :: st) (Z, I, J) dc ds rv M') : zC X d mt pc L (.ref (1030 + i) :: st) (Z, I, J) dc ds rv M' := by
  intro E p l e R s m args below meth c H locs cells slots Q ls hC hR hS hl hr hk
  obtain ⟨hn, hd⟩ := zk_d hC.2.2.1 h rfl
  subst hn
  obtain ⟨-, -, -, -, -, x1, -⟩ := hC.2.2.2.2.2.2.2.2.2
  have e2 : zk_ad E (1030 + i) = E.2.2.2 (1030 + i) := if_neg (by omega)
  simp only [List.map_cons, zk_tr, e2]
  exact va_tlen hC.1 hC.2.1 (x1.1 i hi).2.2.2 hS hv hd (k E p l e R s m args below meth c H locs cells slots Q ls hC hR hS hl hr hk)
end ZM
end
section
/-! calls -/
theorem zk_Xt.mv {X : zk_X} {E : zk_E} {u U : State} {H : Heap} (ha : u.vm.Alike U.vm) (hr : ∀ (o : String) (k : Nat) (t : String) (a : Nat), vk_R o k t a u → vk_R o k t a U) (hn : ∀ (a : String) (i : Nat) (x : MethodName) (b : String), va_Nw (.methodLinkNest a i x b) u → va_Nw (.methodLinkNest a i x b) U) (h : zk_Xt X E u H) : zk_Xt X E U H := by
  obtain ⟨⟨a1, a2⟩, ⟨b1, b2⟩, ⟨c1, c2⟩, d1, e1, f1, g1, h1, i1, j1⟩ := h
  exact ⟨⟨a1.moved ha, a2⟩, ⟨b1.moved ha, b2.moved ha⟩, ⟨c1.moved ha, c2.moved ha⟩, d1.imp (fun q => q.moved ha) (fun q => q.moved ha), e1.moved ha, f1.moved ha, fun i hi => hr _ _ _ _ (g1 i hi), h1, fun q hq => hn _ _ _ _ (i1 q hq), j1.moved ha⟩
theorem zk_Xt.warm {X : zk_X} {E : zk_E} {u U : State} {H : Heap} (hW : u.WarmedH U.vm) (h : zk_Xt X E u H) : zk_Xt X E U H :=
  h.mv hW.alike (fun _ _ _ _ q => vk_R.warm hW q) (fun _ _ _ _ q => va_Nw.warmM hW q)
theorem zk_Xt.same {X : zk_X} {E : zk_E} {u U : State} {H : Heap} (hv : U.vm = u.vm) (h : zk_Xt X E u H) : zk_Xt X E U H :=
  h.mv (by rw [hv]; exact Vm.Alike.refl u.vm) (fun _ _ _ _ q => vk_R.same hv q) (fun _ _ _ _ q => va_Nw.same rfl hv.symm q)
theorem zk_Xt.kept {X : zk_X} {E : zk_E} {U : State} {H H1 : Heap} (hz : H.size ≤ H1.size) (hq : ∀ q : Nat, q < H.size → ¬ zk_A E q → H1[q]? = H[q]?) (h : zk_Xt X E U H) : zk_Xt X E U H1 := by
  obtain ⟨⟨a1, a2⟩, ⟨b1, b2⟩, ⟨c1, c2⟩, d1, e1, f1, g1, h1, i1, j1⟩ := h
  refine ⟨⟨a1.kept (hq _ (Nat.lt_of_lt_of_le a2 h1) (show ¬ E.2.2.1 ≤ E.2.2.2 1000 by omega)), a2⟩, ⟨b1.kept hq, b2.kept hq⟩, ⟨c1.kept hq, c2.kept hq⟩, d1.imp (fun q => q.kept hq) (fun q => q.kept hq), e1.kept hq, f1.kept hq, g1, Nat.le_trans h1 hz, i1, j1⟩
theorem zk_R.mv {E : zk_E} {M : zk_M} {u U : State} {H : Heap} (ha : u.vm.Alike U.vm) (h : zk_R E M u H) : zk_R E M U H := ⟨h.1, va_K.moved ha h.2.1, h.2.2⟩
/-- the size, out of the world below and the room above -/
theorem zk_low {E : zk_E} {M : zk_M} {s : State} {H : Heap} {locs : List Loc} (hR : zk_R E M s H) (hb : E.2.2.1 ≤ s.heap.size) (hS : va_S (zk_A E) s.heap H locs) : E.2.2.1 + M.1.1 ≤ H.size := by
  cases hn : M.1.1 with
  | zero => have := hS.1; omega
  | succ n =>
    have h1 := (hR.1 n _ (zk_ws_at (E := E) (M := M) (c := n) (by omega))).lt
    have h2 := hR.2.2
    simp only [zk_ad, if_pos (show n < 1000 by omega)] at h1
    omega
theorem W.zsz {p : Program} {l : Launch} {e : Env} {R : Room} {s : State} {m : MethodId} {args : Array Value} {below : List Frame} {meth : Method} {c : Code} {H : Heap} {locs : List Loc} {cells slots : Nat} {Q : State → Prop} {g : JFrame}
    (k : H.size ≤ s.heap.size + cells → W p l e R s m args below meth c H locs cells slots Q g) : W p l e R s m args below meth c H locs cells slots Q g := fun T hT Xs => k (by rw [← hT]; exact Xs.heapSize) T hT Xs
def zk_w (mt : zk_Mt) : List Cond := Cond.code mt.1 mt.2.1 mt.2.2.1 mt.2.2.2.1 :: zk_tbl
def zk_rm (d dc ds : Nat) : Room := { frames := d, cells := dc, slots := ds, locals := 60 * d }
def zk_P (X : zk_X) (E : zk_E) (M : zk_M) : State → Prop := fun U => zk_R E M U U.heap ∧ zk_Xt X E U U.heap ∧ U.heap.size = E.2.2.1 + M.1.1
def zk_Q (E : zk_E) (rv : Option Value) (M' : zk_M) : Array Value → State → Outcome → State → Prop := fun _ st oc t => oc = .returned (rv.map (zk_tr E)) ∧ zk_R E M' t t.heap ∧ va_F (zk_A E) st t
def zk_flat (av : List Value) : List (Option Value) := av.flatMap fun v => if v.category = 2 then [some v, none] else [some v]
def zk_ent (av : List Value) (n : Nat) : List (Option Value) := zk_flat av ++ List.replicate (n - (zk_flat av).length) none
theorem zk_flat_at (E : zk_E) : ∀ (av : List Value) (k i : Nat) (v : Value), (zk_flat av)[i]? = some (some v) → (k + i, zk_tr E v) ∈ lv_args k (av.map (zk_tr E))
  | [], _, _, _, h => by simp [zk_flat] at h
  | w :: t, k, i, v, h => by
    simp only [zk_flat, List.flatMap_cons] at h
    simp only [List.map_cons, lv_args, zk_tr_cat]
    by_cases hc : w.category = 2
    · rw [if_pos hc] at h
      rw [if_pos hc]
      match i, h with
      | 0, h =>
        simp at h
        subst h
        exact List.mem_cons_self
      | 1, h => simp at h
      | i + 2, h =>
        have h' : (zk_flat t)[i]? = some (some v) := by simpa [zk_flat] using h
        have := zk_flat_at E t (k + 2) i v h'
        rw [show k + (i + 2) = k + 2 + i by omega]
        exact List.mem_cons_of_mem _ this
    · rw [if_neg hc] at h
      rw [if_neg hc]
      match i, h with
      | 0, h =>
        simp at h
        subst h
        exact List.mem_cons_self
      | i + 1, h =>
        have h' : (zk_flat t)[i]? = some (some v) := by simpa [zk_flat] using h
        have := zk_flat_at E t (k + 1) i v h'
        rw [show k + (i + 1) = k + 1 + i by omega]
        exact List.mem_cons_of_mem _ this
theorem zk_sl_len (E : zk_E) : ∀ av : List Value, (lg_sl (av.map (zk_tr E))).length = (zk_flat av).length
  | [] => rfl
  | w :: t => by
    have ih := zk_sl_len E t
    simp only [lg_sl, zk_flat, List.map_cons, List.flatMap_cons, zk_tr_cat, List.length_append] at ih ⊢
    rw [ih]
    by_cases hc : w.category = 2
    · simp [hc]
    · simp [hc]
theorem zk_lv_ent {E : zk_E} {av : List Value} {n : Nat} (h : (zk_flat av).length ≤ n) : zk_lv E n ((lg_sl (av.map (zk_tr E)) ++ List.replicate (n - (lg_sl (av.map (zk_tr E))).length) Slot.unset).toArray) (zk_ent av n) := by
  have hl := lv_entry (av.map (zk_tr E)) (n := n) (by rw [zk_sl_len]; exact h)
  refine ⟨hl.1, hl.2.1, fun i v hi => ?_⟩
  have hlt : i < (zk_flat av).length := by
    apply Nat.lt_of_not_le
    intro hge
    rw [zk_ent, List.getElem?_append_right hge] at hi
    have := List.mem_of_getElem? hi
    rw [List.mem_replicate] at this
    cases this.2
  rw [zk_ent, List.getElem?_append_left hlt] at hi
  have := zk_flat_at E av 0 i v hi
  rw [Nat.zero_add] at this
  exact hl.2.2 _ this
theorem zk_met {X : zk_X} {d : Nat} {mt : zk_Mt} {av : List Value} {M : zk_M} {dc ds : Nat} {rv : Option Value} {M' : zk_M} (l : Launch) (E : zk_E) (hok : zk_ok mt) (hpl : plainName mt.1.cls = true) (hav : (zk_flat av).length ≤ mt.2.2.1) (h : zC X d mt 0 (zk_ent av mt.2.2.1) [] M dc ds rv M') :
    Met l mt.1 (zk_w mt) (zk_rm d dc ds) (va_Pc (av.map (zk_tr E)) (zk_P X E M)) (zk_Q E rv M') dc ds (zk_A E) := by
  refine Met.ofW (cc := mt.2.1) (maxL := mt.2.2.1) (ret := mt.2.2.2.1) hpl rfl ?_
  intro p e s m args below meth c s₁ B hml hv
  obtain ⟨rfl, hR, hX, hz⟩ := hv
  have hts := atoms_spec (ws := zk_w mt) B.pre
  have hown : s.vm.findClass mt.1.cls = some m.cls := findClass_of_methodNamed B.named
  have hname : meth.name = mt.1.name := (name_of_methodNamed B.named B.method).1
  have hC : zk_Cx X E mt p s m (av.map (zk_tr E)).toArray meth c := ⟨B.exec, B.bytes, hok, B.returns, hml, hown, fun w hw => hts w (List.mem_cons_of_mem _ hw), B.notSynchronized, hname, hX⟩
  rw [lg_entry_eq]
  refine W.cs (cells' := 0) (slots' := 0) rfl rfl ?_
  have hlocks := B.notSynchronized
  refine h E p l e _ s m _ below meth c s.heap [] 0 0 _ _ hC hR va_S.rf (zk_lv_ent hav) ⟨Nat.le_refl _, Nat.le_refl _, by show 0 + dc ≤ dc; omega, by show 0 + ds ≤ ds; omega, by rw [hz]; rfl⟩ ?_
  intro pc' ls' H' locs' hret hR' hS'
  refine W.cs (cells' := dc) (slots' := ds) (Nat.zero_add _) (Nat.zero_add _) ?_
  rcases hret with ⟨rfl, hty, hdec⟩ | ⟨v, ty, rfl, hty, hn, hdec⟩ | ⟨v, rfl, hty, hdec⟩
  · exact W.vret B.exec B.bytes (B.returns.trans hty) (fun t ht hW => ⟨rfl, by rw [ht]; exact hR'.mv hW.alike, hS'.F ht⟩) hS'.2.2 hdec
  · exact W.zret B.exec B.bytes (B.returns.trans hty) hn (fun t ht hW => ⟨rfl, by rw [ht]; exact hR'.mv hW.alike, hS'.F ht⟩) hS'.2.2 hdec
  · exact W.lret B.exec B.bytes (B.returns.trans hty) (fun t ht hW => ⟨rfl, by rw [ht]; exact hR'.mv hW.alike, hS'.F ht⟩) hS'.2.2 hdec
end
section
/-! the rows of the judgement for calls -/
/-- a callee's own words -/
def zk_LB (mt2 : zk_Mt) (n : Nat) : Prop := zk_ok mt2 ∧ plainName mt2.1.cls = true ∧ mt2.2.2.1 ≤ 40 ∧ Cond.code mt2.1 mt2.2.1 mt2.2.2.1 mt2.2.2.2.1 ∈ zk_tbl ∧ Cond.initialized mt2.1.cls ∈ zk_tbl ∧ (mt2.1.cls ≠ "java/lang/invoke/MethodHandle" ∧ mt2.1.cls ≠ "java/lang/invoke/VarHandle" ∧ (parseMethodDescriptor mt2.1.desc).map (fun d => d.parameters.length) = some n)
theorem zk_tbl_good {w : Cond} (h : w ∈ zk_tbl) : (w.onTables && w.keeps) = true ∨ ∃ ty, w = .arrayClass ty := good_of_word (List.mem_filter.mp h).2
theorem zk_goodIn {mt2 : zk_Mt} (h : Cond.code mt2.1 mt2.2.1 mt2.2.2.1 mt2.2.2.2.1 ∈ zk_tbl) : GoodIn zk_tbl (zk_w mt2) := by
  intro w hw
  have hm : w ∈ zk_tbl := by
    rcases List.mem_cons.mp hw with rfl | hw
    · exact h
    · exact hw
  exact ⟨hm, zk_tbl_good hm⟩
theorem zk_goodV {own C : String} {idx : Nat} {mt2 : zk_Mt} (hc : Cond.code mt2.1 mt2.2.1 mt2.2.2.1 mt2.2.2.2.1 ∈ zk_tbl) (h1 : Cond.methodLink own idx mt2.1 ∈ zk_tbl) (h2 : Cond.instanceMethod mt2.1 ∈ zk_tbl) (h3 : Cond.selects C mt2.1 mt2.1 ∈ zk_tbl) (h4 : Cond.initialized C ∈ zk_tbl) : GoodIn zk_tbl (wsV own idx C mt2.1 (zk_w mt2)) := by
  intro w hw
  have hm : w ∈ zk_tbl := by
    rcases List.mem_append.mp hw with hw | hw
    · simp only [List.mem_cons, List.not_mem_nil, or_false] at hw
      rcases hw with rfl | rfl | rfl | rfl
      · exact h1
      · exact h2
      · exact h3
      · exact h4
    · exact (zk_goodIn hc w hw).1
  exact ⟨hm, zk_tbl_good hm⟩
theorem zk_blind {X : zk_X} {E : zk_E} {M : zk_M} {av : List Value} : FrameBlind (va_Pc av (zk_P X E M)) := by
  intro a U g mk q
  obtain ⟨q0, q1, q2, q3⟩ := q
  exact ⟨q0, q1.mv (U := U.calling g mk a) (Vm.Alike.refl U.vm), zk_Xt.same (U := U.calling g mk a) rfl q2, q3⟩
section ZCALL
variable {X : zk_X} {d d2 pc npc tg : Nat} {mt mt2 : zk_Mt} {L : List (Option Value)} {st stk As : List Value} {M M1 M' : zk_M} {dc ds dc1 ds1 dc2 ds2 : Nat} {rv rv1 : Option Value}
/-- what a call brings with it: the callee's pre, in the caller's heap -/
theorem zk_pre {E : zk_E} {s : State} {H : Heap} {locs : List Loc} {av : List Value} (hX : zk_Xt X E s s.heap) (hR : zk_R E M s H) (hS : va_S (zk_A E) s.heap H locs) (hz : H.size = E.2.2.1 + M.1.1) : ∀ U : State, U.heap = H → s.WarmedH U.vm → va_Pc (av.map (zk_tr E)) (zk_P X E M) (av.map (zk_tr E)).toArray U := by
  intro U hU hW
  exact ⟨rfl, by rw [hU]; exact hR.mv hW.alike, by rw [hU]; exact (hX.warm hW).kept hS.1 hS.2.1, by rw [hU]; exact hz⟩
/-- behind a call -/
theorem zk_behind {E : zk_E} {p : Program} {l : Launch} {e : Env} {R : Room} {s : State} {m : MethodId} {args : Array Value} {below : List Frame} {meth : Method} {c : Code} {H : Heap} {locs : List Loc} {cells slots : Nat} {Q : State → Prop} {ls : Array Slot} {st0 rest : List Value} {a : Array Value}
    (hrun : va_Run p l e R s m args below meth c H locs cells slots dc1 ds1 (F0 m pc ls st0) rest (zk_Q E rv1 M1 a) (zk_A E)) (hS : va_S (zk_A E) s.heap H locs)
    (k : ∀ (H1 : Heap) (locs1 : List Loc), zk_R E M1 s H1 → va_S (zk_A E) s.heap H1 locs1 → W p l e R s m args below meth c H1 locs1 (cells + dc1) (slots + ds1) Q (F0 m (pc + 3) ls ((rv1.map (zk_tr E)).toList ++ rest))) : W p l e R s m args below meth c H locs cells slots Q (F0 m pc ls st0) := by
  intro T hT Xs
  obtain ⟨v, st₀, t, T', Lo, h0, X', hL, e1, e2, ⟨hv, hR1, hz, hk⟩, stp⟩ := hrun T hT Xs
  cases hv
  rw [h0] at hz hk
  obtain ⟨t2, a1, b1⟩ := k T'.heap (locs ++ Lo) (by rw [e1]; exact hR1.mv (by rw [← e2]; exact X'.warmed.alike.symm))
    ⟨Nat.le_trans hS.1 (by rw [e1]; exact hz), fun q h1 h2 => by rw [e1, hk q (Nat.lt_of_lt_of_le h1 hS.1) h2]; exact hS.2.1 q h1 h2, fun q hq => by
      rcases List.mem_append.mp hq with h | h
      · exact hS.2.2 q h
      · exact hL q h⟩ T' rfl X'
  exact ⟨t2, stp t2 a1, b1⟩
theorem zk_cat (E : zk_E) (st : List Value) : ((st.map (zk_tr E)).map fun v => v.category).sum = (st.map fun v => v.category).sum := by
  rw [List.map_map]
  congr 1
  apply List.map_congr_left
  intro v _
  exact zk_tr_cat E v
theorem zk_toList (E : zk_E) (rv1 : Option Value) (st : List Value) : (rv1.map (zk_tr E)).toList ++ st.map (zk_tr E) = (rv1.toList ++ st).map (zk_tr E) := by
  cases rv1 <;> simp
theorem zk_rrev (E : zk_E) (As st : List Value) : (As.reverse ++ st).map (zk_tr E) = (As.map (zk_tr E)).reverse ++ st.map (zk_tr E) := by simp
/-- an object's own class, at a call -/
theorem zk_recv {E : zk_E} {Z : zk_Z} {I : zk_I} {J : zk_J} {s : State} {H : Heap} {b ci : Nat} (hR : zk_R E (Z, I, J) s H) (hb : (Z.2.1 b).1 = ci) (h9 : ci < 9) (hz : b < Z.1) : ∃ cell : Cell, H[zk_ad E b]? = some cell ∧ cell.vm.isStatics = false ∧ s.vm.findClass (zk_r ci).1 = some cell.cls :=
  va_recv hR.2.1 hR.1 (zk_r_at h9) (q0 := b) ((zk_ws_at (M := (Z, I, J)) hz).trans (by rw [zk_ce_o hb h9]))
def zk_LV (own : String) (idx : Nat) (mt2 : zk_Mt) (n ci : Nat) : Prop := zk_LB mt2 n ∧ Cond.methodLink own idx mt2.1 ∈ zk_tbl ∧ Cond.instanceMethod mt2.1 ∈ zk_tbl ∧ Cond.selects mt2.1.cls mt2.1 mt2.1 ∈ zk_tbl ∧ (zk_r ci).1 = mt2.1.cls ∧ ci < 9
theorem c_callV {Z : zk_Z} {I : zk_I} {J : zk_J} {idx n ci b : Nat} (h : zk_at mt pc = some (.invokevirtual idx, npc, tg)) (hl : zk_LV mt.1.cls idx mt2 n ci) (hb : (Z.2.1 b).1 = ci) (hbz : b < Z.1) (hst : stk = As.reverse ++ .ref b :: st) (hn : As.length = n) (hav : (zk_flat (.ref b :: As)).length ≤ mt2.2.2.1) (hd : d2 + 1 ≤ d) (h8 : (st.map fun v => v.category).sum ≤ 8) (hM1 : M1.1.1 = Z.1 + dc1) (hdc : dc = dc1 + dc2) (hds : ds = ds1 + ds2)
    (hcal : zC X d2 mt2 0 (zk_ent (.ref b :: As) mt2.2.2.1) [] (Z, I, J) dc1 ds1 rv1 M1) (k : zC X d mt npc L (rv1.toList ++ st) M1 dc2 ds2 rv M') : zC X d mt pc L stk (Z, I, J) dc ds rv M' := by
  intro E p l e R s m args below meth c H locs cells slots Q ls hC hR hS hlv hr hk
  obtain ⟨hn3, hdd⟩ := zk_d hC.2.2.1 h rfl
  subst hn3; subst hst; subst hdc; subst hds
  obtain ⟨⟨hok, hpl, hml, hcd, hini, hy⟩, hlk, hin, hsel, hcls, h9⟩ := hl
  refine W.zsz fun hsz => ?_
  have hlow := zk_low hR hC.2.2.2.2.2.2.2.2.2.2.2.2.2.2.2.2.1 hS
  have hsize : H.size = E.2.2.1 + Z.1 := by
    have := hr.2.2.2.2
    simp only at hlow this
    omega
  have hM := zk_met l E hok hpl hav hcal
  have hrecv := zk_recv hR hb h9 hbz
  rw [hcls] at hrecv
  have hrun := va_runV (p := p) (l := l) (e := e) (R := R) (s := s) (m := m) (args := args) (below := below) (meth := meth) (c := c) (H := H) (locs := locs) (cells := cells) (slots := slots) (g := F0 m pc ls (((As.reverse ++ .ref b :: st)).map (zk_tr E))) (b := zk_ad E b) (As := As.map (zk_tr E)) (rest := st.map (zk_tr E)) (nL := mt.2.2.1)
    ⟨hC.1, hC.2.1, hC.2.2.2.2.1, hC.2.2.2.2.2.1, hC.2.2.2.2.2.2.1⟩ hM (cwV n hC.2.2.2.2.2.2.1 (zk_goodV hcd hlk hin hsel hini) rfl rfl rfl ⟨rfl, hy⟩ ⟨Nat.le_trans hd hr.1, by
      have := hr.2.1
      show 8 + (mt2.2.2.1 + 11) + 60 * d2 ≤ R.locals
      omega⟩) ⟨zk_blind, hrecv, zk_pre (av := .ref b :: As) hC.2.2.2.2.2.2.2.2.2 hR hS hsize⟩ rfl (by rw [List.length_map]; exact hn) hlv.1 (by simp [zk_tr]) (by rw [zk_cat]; exact Nat.le_trans (by show 2 * 0 + _ ≤ _; omega) h8) hdd ⟨by have := hr.2.2.1; omega, by have := hr.2.2.2.1; omega⟩
  refine zk_behind hrun hS fun H1 locs1 hR1 hS1 => ?_
  rw [zk_toList]
  exact k E p l e R s m args below meth c H1 locs1 (cells + dc1) (slots + ds1) Q ls hC hR1 hS1 hlv ⟨hr.1, hr.2.1, by have := hr.2.2.1; omega, by have := hr.2.2.2.1; omega, by have := hr.2.2.2.2; simp only at this; omega⟩ (fun pc' ls' H' locs' g1 g2 g3 => by
    rw [Nat.add_assoc, Nat.add_assoc]
    exact hk pc' ls' H' locs' g1 g2 g3)
def zk_LS (own : String) (idx : Nat) (mt2 : zk_Mt) (n : Nat) : Prop := zk_LB mt2 n ∧ Cond.methodLink own idx mt2.1 ∈ zk_tbl ∧ Cond.static mt2.1 ∈ zk_tbl
def zk_LSN (own : String) (idx : Nat) (mt2 : zk_Mt) (n : Nat) : Prop := zk_LB mt2 n ∧ (∃ host : String, (own, idx, mt2.1, host) ∈ zk_nest) ∧ Cond.static mt2.1 ∈ zk_tbl
def zk_LI (own : String) (idx : Nat) (mt2 : zk_Mt) (n : Nat) : Prop := zk_LB mt2 n ∧ Cond.methodLink own idx mt2.1 ∈ zk_tbl ∧ Cond.instanceMethod mt2.1 ∈ zk_tbl ∧ mt2.1.name = "<init>" ∧ mt2.2.2.2.1 = none
def zk_LIN (own : String) (idx : Nat) (mt2 : zk_Mt) (n : Nat) : Prop := zk_LB mt2 n ∧ (∃ host : String, (own, idx, mt2.1, host) ∈ zk_nest) ∧ Cond.instanceMethod mt2.1 ∈ zk_tbl ∧ mt2.1.name = "<init>" ∧ mt2.2.2.2.1 = none
theorem zk_goodS {own : String} {idx : Nat} {mt2 : zk_Mt} (hc : Cond.code mt2.1 mt2.2.1 mt2.2.2.1 mt2.2.2.2.1 ∈ zk_tbl) (h1 : Cond.methodLink own idx mt2.1 ∈ zk_tbl) (h2 : Cond.static mt2.1 ∈ zk_tbl) (h4 : Cond.initialized mt2.1.cls ∈ zk_tbl) : GoodIn zk_tbl (va_wsS own idx mt2.1 (zk_w mt2)) := by
  intro w hw
  have hm : w ∈ zk_tbl := by
    rcases List.mem_append.mp hw with hw | hw
    · simp only [List.mem_cons, List.not_mem_nil, or_false] at hw
      rcases hw with rfl | rfl | rfl
      · exact h1
      · exact h2
      · exact h4
    · exact (zk_goodIn hc w hw).1
  exact ⟨hm, zk_tbl_good hm⟩
theorem c_callS {Z : zk_Z} {I : zk_I} {J : zk_J} {idx n : Nat} (h : zk_at mt pc = some (.invokestatic idx, npc, tg)) (hl : zk_LS mt.1.cls idx mt2 n) (hst : stk = As.reverse ++ st) (hn : As.length = n) (hav : (zk_flat (As)).length ≤ mt2.2.2.1) (hd : d2 + 1 ≤ d) (h8 : (st.map fun v => v.category).sum ≤ 8) (hM1 : M1.1.1 = Z.1 + dc1) (hdc : dc = dc1 + dc2) (hds : ds = ds1 + ds2)
    (hcal : zC X d2 mt2 0 (zk_ent (As) mt2.2.2.1) [] (Z, I, J) dc1 ds1 rv1 M1) (k : zC X d mt npc L (rv1.toList ++ st) M1 dc2 ds2 rv M') : zC X d mt pc L stk (Z, I, J) dc ds rv M' := by
  intro E p l e R s m args below meth c H locs cells slots Q ls hC hR hS hlv hr hk
  obtain ⟨hn3, hdd⟩ := zk_d hC.2.2.1 h rfl
  subst hn3; subst hst; subst hdc; subst hds
  obtain ⟨⟨hok, hpl, hml, hcd, hini, hy⟩, hlk, hin⟩ := hl
  refine W.zsz fun hsz => ?_
  have hlow := zk_low hR hC.2.2.2.2.2.2.2.2.2.2.2.2.2.2.2.2.1 hS
  have hsize : H.size = E.2.2.1 + Z.1 := by
    have := hr.2.2.2.2
    simp only at hlow this
    omega
  have hM := zk_met l E hok hpl hav hcal
  have hrm : (zk_rm d2 dc1 ds1).frames + 1 ≤ R.frames ∧ 8 + (mt2.2.2.1 + 11) + (zk_rm d2 dc1 ds1).locals ≤ R.locals := ⟨Nat.le_trans hd hr.1, by
    have := hr.2.1
    show 8 + (mt2.2.2.1 + 11) + 60 * d2 ≤ R.locals
    omega⟩
  have hrun := va_runS (p := p) (l := l) (e := e) (R := R) (s := s) (m := m) (args := args) (below := below) (meth := meth) (c := c) (H := H) (locs := locs) (cells := cells) (slots := slots) (g := F0 m pc ls (((As.reverse ++ st)).map (zk_tr E))) (As := As.map (zk_tr E)) (rest := st.map (zk_tr E)) (nL := mt.2.2.1)
    ⟨hC.1, hC.2.1, hC.2.2.2.2.1, hC.2.2.2.2.2.1, hC.2.2.2.2.2.2.1⟩ hM (va_cwS n hC.2.2.2.2.2.2.1 (zk_goodS hcd hlk hin hini) rfl rfl rfl hy hrm) ⟨zk_blind, zk_pre (av := As) hC.2.2.2.2.2.2.2.2.2 hR hS hsize⟩ rfl (by rw [List.length_map]; exact hn) hlv.1 (by simp [zk_tr]) (by rw [zk_cat]; exact Nat.le_trans (by show 2 * 0 + _ ≤ _; omega) h8) hdd ⟨by have := hr.2.2.1; omega, by have := hr.2.2.2.1; omega⟩
  refine zk_behind hrun hS fun H1 locs1 hR1 hS1 => ?_
  rw [zk_toList]
  exact k E p l e R s m args below meth c H1 locs1 (cells + dc1) (slots + ds1) Q ls hC hR1 hS1 hlv ⟨hr.1, hr.2.1, by have := hr.2.2.1; omega, by have := hr.2.2.2.1; omega, by have := hr.2.2.2.2; simp only at this; omega⟩ (fun pc' ls' H' locs' g1 g2 g3 => by
    rw [Nat.add_assoc, Nat.add_assoc]
    exact hk pc' ls' H' locs' g1 g2 g3)
theorem c_callSN {Z : zk_Z} {I : zk_I} {J : zk_J} {idx n : Nat} (h : zk_at mt pc = some (.invokestatic idx, npc, tg)) (hl : zk_LSN mt.1.cls idx mt2 n) (hst : stk = As.reverse ++ st) (hn : As.length = n) (hav : (zk_flat (As)).length ≤ mt2.2.2.1) (hd : d2 + 1 ≤ d) (h8 : (st.map fun v => v.category).sum ≤ 8) (hM1 : M1.1.1 = Z.1 + dc1) (hdc : dc = dc1 + dc2) (hds : ds = ds1 + ds2)
    (hcal : zC X d2 mt2 0 (zk_ent (As) mt2.2.2.1) [] (Z, I, J) dc1 ds1 rv1 M1) (k : zC X d mt npc L (rv1.toList ++ st) M1 dc2 ds2 rv M') : zC X d mt pc L stk (Z, I, J) dc ds rv M' := by
  intro E p l e R s m args below meth c H locs cells slots Q ls hC hR hS hlv hr hk
  obtain ⟨hn3, hdd⟩ := zk_d hC.2.2.1 h rfl
  subst hn3; subst hst; subst hdc; subst hds
  obtain ⟨⟨hok, hpl, hml, hcd, hini, hy⟩, ⟨host, hlk⟩, hin⟩ := hl
  have hnw : ∀ host, (mt.1.cls, idx, mt2.1, host) ∈ zk_nest → va_Nw (.methodLinkNest mt.1.cls idx mt2.1 host) s := fun host hh => hC.2.2.2.2.2.2.2.2.2.2.2.2.2.2.2.2.2.1 _ hh
  refine W.zsz fun hsz => ?_
  have hlow := zk_low hR hC.2.2.2.2.2.2.2.2.2.2.2.2.2.2.2.2.1 hS
  have hsize : H.size = E.2.2.1 + Z.1 := by
    have := hr.2.2.2.2
    simp only at hlow this
    omega
  have hM := zk_met l E hok hpl hav hcal
  have hrm : (zk_rm d2 dc1 ds1).frames + 1 ≤ R.frames ∧ 8 + (mt2.2.2.1 + 11) + (zk_rm d2 dc1 ds1).locals ≤ R.locals := ⟨Nat.le_trans hd hr.1, by
    have := hr.2.1
    show 8 + (mt2.2.2.1 + 11) + 60 * d2 ≤ R.locals
    omega⟩
  have hrun := va_runSN (p := p) (l := l) (e := e) (R := R) (s := s) (m := m) (args := args) (below := below) (meth := meth) (c := c) (H := H) (locs := locs) (cells := cells) (slots := slots) (g := F0 m pc ls (((As.reverse ++ st)).map (zk_tr E))) (As := As.map (zk_tr E)) (rest := st.map (zk_tr E)) (nL := mt.2.2.1)
    ⟨hC.1, hC.2.1, hC.2.2.2.2.1, hC.2.2.2.2.2.1, hC.2.2.2.2.2.2.1⟩ hM ⟨va_cnB n hC.2.2.2.2.2.2.1 (zk_goodIn hcd) rfl rfl rfl (hnw host hlk) (hC.2.2.2.2.2.2.1 _ hini) hy hrm, hC.2.2.2.2.2.2.1 _ hin, trivial⟩ ⟨zk_blind, zk_pre (av := As) hC.2.2.2.2.2.2.2.2.2 hR hS hsize⟩ rfl (by rw [List.length_map]; exact hn) hlv.1 (by simp [zk_tr]) (by rw [zk_cat]; exact Nat.le_trans (by show 2 * 0 + _ ≤ _; omega) h8) hdd ⟨by have := hr.2.2.1; omega, by have := hr.2.2.2.1; omega⟩
  refine zk_behind hrun hS fun H1 locs1 hR1 hS1 => ?_
  rw [zk_toList]
  exact k E p l e R s m args below meth c H1 locs1 (cells + dc1) (slots + ds1) Q ls hC hR1 hS1 hlv ⟨hr.1, hr.2.1, by have := hr.2.2.1; omega, by have := hr.2.2.2.1; omega, by have := hr.2.2.2.2; simp only at this; omega⟩ (fun pc' ls' H' locs' g1 g2 g3 => by
    rw [Nat.add_assoc, Nat.add_assoc]
    exact hk pc' ls' H' locs' g1 g2 g3)
theorem c_callI {Z : zk_Z} {I : zk_I} {J : zk_J} {idx n b : Nat} (h : zk_at mt pc = some (.invokespecial idx, npc, tg)) (hl : zk_LI mt.1.cls idx mt2 n) (hst : stk = As.reverse ++ .ref b :: st) (hn : As.length = n) (hav : (zk_flat (.ref b :: As)).length ≤ mt2.2.2.1) (hd : d2 + 1 ≤ d) (h8 : (st.map fun v => v.category).sum ≤ 8) (hM1 : M1.1.1 = Z.1 + dc1) (hdc : dc = dc1 + dc2) (hds : ds = ds1 + ds2)
    (hcal : zC X d2 mt2 0 (zk_ent (.ref b :: As) mt2.2.2.1) [] (Z, I, J) dc1 ds1 rv1 M1) (k : zC X d mt npc L (rv1.toList ++ st) M1 dc2 ds2 rv M') : zC X d mt pc L stk (Z, I, J) dc ds rv M' := by
  intro E p l e R s m args below meth c H locs cells slots Q ls hC hR hS hlv hr hk
  obtain ⟨hn3, hdd⟩ := zk_d hC.2.2.1 h rfl
  subst hn3; subst hst; subst hdc; subst hds
  obtain ⟨⟨hok, hpl, hml, hcd, hini, hy⟩, hlk, hin, hnm, hno⟩ := hl
  refine W.zsz fun hsz => ?_
  have hlow := zk_low hR hC.2.2.2.2.2.2.2.2.2.2.2.2.2.2.2.2.1 hS
  have hsize : H.size = E.2.2.1 + Z.1 := by
    have := hr.2.2.2.2
    simp only at hlow this
    omega
  have hM := zk_met l E hok hpl hav hcal
  have hrm : (zk_rm d2 dc1 ds1).frames + 1 ≤ R.frames ∧ 8 + (mt2.2.2.1 + 11) + (zk_rm d2 dc1 ds1).locals ≤ R.locals := ⟨Nat.le_trans hd hr.1, by
    have := hr.2.1
    show 8 + (mt2.2.2.1 + 11) + 60 * d2 ≤ R.locals
    omega⟩
  have hrun := va_runI (p := p) (l := l) (e := e) (R := R) (s := s) (m := m) (args := args) (below := below) (meth := meth) (c := c) (H := H) (locs := locs) (cells := cells) (slots := slots) (g := F0 m pc ls (((As.reverse ++ .ref b :: st)).map (zk_tr E))) (b := zk_ad E b) (As := As.map (zk_tr E)) (rest := st.map (zk_tr E)) (nL := mt.2.2.1)
    ⟨hC.1, hC.2.1, hC.2.2.2.2.1, hC.2.2.2.2.2.1, hC.2.2.2.2.2.2.1⟩ hM (cwI n hC.2.2.2.2.2.2.1 (zk_goodIn hcd) (by rw [zk_w, hno]) rfl rfl (hC.2.2.2.2.2.2.1 _ hini) (hC.2.2.2.2.2.2.1 _ hlk) (hC.2.2.2.2.2.2.1 _ hin) hnm hy hrm) ⟨zk_blind, zk_pre (av := .ref b :: As) hC.2.2.2.2.2.2.2.2.2 hR hS hsize⟩ rfl (by rw [List.length_map]; exact hn) hlv.1 (by simp [zk_tr]) (by rw [zk_cat]; exact Nat.le_trans (by show 2 * 0 + _ ≤ _; omega) h8) hdd ⟨by have := hr.2.2.1; omega, by have := hr.2.2.2.1; omega⟩
  refine zk_behind hrun hS fun H1 locs1 hR1 hS1 => ?_
  rw [zk_toList]
  exact k E p l e R s m args below meth c H1 locs1 (cells + dc1) (slots + ds1) Q ls hC hR1 hS1 hlv ⟨hr.1, hr.2.1, by have := hr.2.2.1; omega, by have := hr.2.2.2.1; omega, by have := hr.2.2.2.2; simp only at this; omega⟩ (fun pc' ls' H' locs' g1 g2 g3 => by
    rw [Nat.add_assoc, Nat.add_assoc]
    exact hk pc' ls' H' locs' g1 g2 g3)
theorem c_callIN {Z : zk_Z} {I : zk_I} {J : zk_J} {idx n b : Nat} (h : zk_at mt pc = some (.invokespecial idx, npc, tg)) (hl : zk_LIN mt.1.cls idx mt2 n) (hst : stk = As.reverse ++ .ref b :: st) (hn : As.length = n) (hav : (zk_flat (.ref b :: As)).length ≤ mt2.2.2.1) (hd : d2 + 1 ≤ d) (h8 : (st.map fun v => v.category).sum ≤ 8) (hM1 : M1.1.1 = Z.1 + dc1) (hdc : dc = dc1 + dc2) (hds : ds = ds1 + ds2)
    (hcal : zC X d2 mt2 0 (zk_ent (.ref b :: As) mt2.2.2.1) [] (Z, I, J) dc1 ds1 rv1 M1) (k : zC X d mt npc L (rv1.toList ++ st) M1 dc2 ds2 rv M') : zC X d mt pc L stk (Z, I, J) dc ds rv M' := by
  intro E p l e R s m args below meth c H locs cells slots Q ls hC hR hS hlv hr hk
  obtain ⟨hn3, hdd⟩ := zk_d hC.2.2.1 h rfl
  subst hn3; subst hst; subst hdc; subst hds
  obtain ⟨⟨hok, hpl, hml, hcd, hini, hy⟩, ⟨host, hlk⟩, hin, hnm, hno⟩ := hl
  have hnw : ∀ host, (mt.1.cls, idx, mt2.1, host) ∈ zk_nest → va_Nw (.methodLinkNest mt.1.cls idx mt2.1 host) s := fun host hh => hC.2.2.2.2.2.2.2.2.2.2.2.2.2.2.2.2.2.1 _ hh
  refine W.zsz fun hsz => ?_
  have hlow := zk_low hR hC.2.2.2.2.2.2.2.2.2.2.2.2.2.2.2.2.1 hS
  have hsize : H.size = E.2.2.1 + Z.1 := by
    have := hr.2.2.2.2
    simp only at hlow this
    omega
  have hM := zk_met l E hok hpl hav hcal
  have hrm : (zk_rm d2 dc1 ds1).frames + 1 ≤ R.frames ∧ 8 + (mt2.2.2.1 + 11) + (zk_rm d2 dc1 ds1).locals ≤ R.locals := ⟨Nat.le_trans hd hr.1, by
    have := hr.2.1
    show 8 + (mt2.2.2.1 + 11) + 60 * d2 ≤ R.locals
    omega⟩
  have hrun := va_runIN (p := p) (l := l) (e := e) (R := R) (s := s) (m := m) (args := args) (below := below) (meth := meth) (c := c) (H := H) (locs := locs) (cells := cells) (slots := slots) (g := F0 m pc ls (((As.reverse ++ .ref b :: st)).map (zk_tr E))) (b := zk_ad E b) (As := As.map (zk_tr E)) (rest := st.map (zk_tr E)) (nL := mt.2.2.1)
    ⟨hC.1, hC.2.1, hC.2.2.2.2.1, hC.2.2.2.2.2.1, hC.2.2.2.2.2.2.1⟩ hM ⟨by have := va_cnB (R := R) (args := args) (rm := zk_rm d2 dc1 ds1) (mc := dc1) (ms := ds1) n hC.2.2.2.2.2.2.1 (zk_goodIn hcd) rfl rfl rfl (hnw host hlk) (hC.2.2.2.2.2.2.1 _ hini) hy hrm; rw [hno] at this; exact this, hnm, hC.2.2.2.2.2.2.1 _ hin⟩ ⟨zk_blind, zk_pre (av := .ref b :: As) hC.2.2.2.2.2.2.2.2.2 hR hS hsize⟩ rfl (by rw [List.length_map]; exact hn) hlv.1 (by simp [zk_tr]) (by rw [zk_cat]; exact Nat.le_trans (by show 2 * 0 + _ ≤ _; omega) h8) hdd ⟨by have := hr.2.2.1; omega, by have := hr.2.2.2.1; omega⟩
  refine zk_behind hrun hS fun H1 locs1 hR1 hS1 => ?_
  rw [zk_toList]
  exact k E p l e R s m args below meth c H1 locs1 (cells + dc1) (slots + ds1) Q ls hC hR1 hS1 hlv ⟨hr.1, hr.2.1, by have := hr.2.2.1; omega, by have := hr.2.2.2.1; omega, by have := hr.2.2.2.2; simp only at this; omega⟩ (fun pc' ls' H' locs' g1 g2 g3 => by
    rw [Nat.add_assoc, Nat.add_assoc]
    exact hk pc' ls' H' locs' g1 g2 g3)
theorem c_objInit {idx b : Nat} (h : zk_at mt pc = some (.invokespecial idx, npc, tg)) (hw : Cond.methodLink mt.1.cls idx Lib.objectInit ∈ zk_tbl) (hw2 : Cond.instanceMethod Lib.objectInit ∈ zk_tbl) (hw3 : Cond.code Lib.objectInit ⟨#[0xb1]⟩ 1 none ∈ zk_tbl) (hd : 1 ≤ d) (h8 : (st.map fun v => v.category).sum ≤ 8) (k : zC X d mt npc L st M dc ds rv M') : zC X d mt pc L (.ref b :: st) M dc ds rv M' := by
  intro E p l e R s m args below meth c H locs cells slots Q ls hC hR hS hlv hr hk
  obtain ⟨hn3, hdd⟩ := zk_d hC.2.2.1 h rfl
  subst hn3
  refine W.objInit (a := zk_ad E b) (rest := st.map (zk_tr E)) hC.1 hC.2.1 hC.2.2.2.2.2.1 (hC.2.2.2.2.2.2.1 _ hw) (hC.2.2.2.2.2.2.1 _ hw2) (hC.2.2.2.2.2.2.1 _ hw3) rfl (by rw [hC.2.2.2.2.1]; exact hlv.1) rfl hdd (Nat.le_trans hd hr.1) ?_ (k E p l e R s m args below meth c H locs cells slots Q ls hC hR hS hlv hr hk)
  rw [zk_cat]
  have := hr.2.1
  show 2 * 0 + _ + 12 ≤ _
  omega
end ZCALL
end
section
/-! making cells, references written, arraycopy -/
def zk_new (Z : zk_Z) (k len : Nat) : zk_Z := (Z.1 + 1, (fun a => if a = Z.1 then (k, len) else Z.2.1 a), (fun a => if a = Z.1 then (fun _ => none) else Z.2.2 a))
theorem zk_ce_old {E : zk_E} {Z : zk_Z} {I I2 : zk_I} {J J2 : zk_J} {k len a : Nat} (h : ¬ a = Z.1) (hI : I2 a = I a) (hJ : J2 a = J a) : zk_ce E (zk_new Z k len, I2, J2) a = zk_ce E (Z, I, J) a := by
  simp only [zk_ce, zk_fs, zk_new, if_neg h, hI, hJ]
  have : zk_fv E (zk_new Z k len, I2, J2) a = zk_fv E (Z, I, J) a := by
    funext j b
    simp only [zk_fv, zk_new, if_neg h, hI]
  simp only [zk_new] at this
  rw [this]
theorem zk_ws_new {E : zk_E} {Z : zk_Z} {I I2 : zk_I} {J J2 : zk_J} {k len : Nat} (hI : ∀ a, a < Z.1 → I2 a = I a) (hJ : ∀ a, a < Z.1 → J2 a = J a) : zk_ws E (zk_new Z k len, I2, J2) = zk_ws E (Z, I, J) ++ [(zk_ad E Z.1, zk_ce E (zk_new Z k len, I2, J2) Z.1)] := by
  show (List.range (Z.1 + 1)).map _ = _
  rw [List.range_succ, List.map_append]
  congr 1
  apply List.map_congr_left
  intro a ha
  have ha := List.mem_range.mp ha
  rw [zk_ce_old (by omega) (hI a ha) (hJ a ha)]
section ZAL
variable {X : zk_X} {d pc npc tg : Nat} {mt : zk_Mt} {L : List (Option Value)} {st : List Value} {Z : zk_Z} {I : zk_I} {J : zk_J} {M' : zk_M} {dc ds : Nat} {rv : Option Value}
/-- one more cell: what both rows below need -/
theorem zk_grow {E : zk_E} {s : State} {H H1 : Heap} {locs : List Loc} {I2 : zk_I} {J2 : zk_J} {k len : Nat} (hR : zk_R E (Z, I, J) s H) (hS : va_S (zk_A E) s.heap H locs) (hz : H.size = E.2.2.1 + Z.1) (h1000 : Z.1 + 1 ≤ 1000) (z1 : H1.size = H.size + 1) (o1 : ∀ q, q < H.size → H1[q]? = H[q]?) (hI : ∀ a, a < Z.1 → I2 a = I a) (hJ : ∀ a, a < Z.1 → J2 a = J a) (hnew : va_at E.1 zk_cl (zk_ad E Z.1, zk_ce E (zk_new Z k len, I2, J2) Z.1) H1) : zk_R E (zk_new Z k len, I2, J2) s H1 ∧ va_S (zk_A E) s.heap H1 locs := by
  refine ⟨⟨?_, hR.2.1, h1000⟩, Nat.le_trans hS.1 (by omega), fun x h1 h2 => (o1 x (Nat.lt_of_lt_of_le h1 hS.1)).trans (hS.2.1 x h1 h2), hS.2.2⟩
  rw [zk_ws_new hI hJ]
  refine va_P.app (hR.1.kept (fun k x hx => o1 x.1 (hR.1 k x hx).lt)) (fun k x hx => ?_)
  have hk : k < 1 := (List.getElem?_eq_some_iff.mp hx).1
  rw [show k = 0 by omega] at hx
  cases hx
  exact hnew
theorem zk_ad_n {E : zk_E} {n : Nat} (h : n < 1000) : zk_ad E n = E.2.2.1 + n := if_pos h
theorem zk_size {E : zk_E} {mt : zk_Mt} {p : Program} {s : State} {m : MethodId} {args : Array Value} {meth : Method} {c : Code} {H : Heap} {locs : List Loc} {cells : Nat} (hC : zk_Cx X E mt p s m args meth c) (hR : zk_R E (Z, I, J) s H) (hS : va_S (zk_A E) s.heap H locs) (hq : s.heap.size + cells = E.2.2.1 + Z.1) (hsz : H.size ≤ s.heap.size + cells) : H.size = E.2.2.1 + Z.1 := by
  have hlow := zk_low hR hC.2.2.2.2.2.2.2.2.2.2.2.2.2.2.2.2.1 hS
  simp only at hlow
  omega
def zk_LN (own : String) (idx ci : Nat) : Prop := ci < 9 ∧ Cond.classLink own idx (zk_r ci).1 ∈ zk_tbl ∧ Cond.instantiable (zk_r ci).1 (zk_r ci).2.2 ∈ zk_tbl ∧ Cond.initialized (zk_r ci).1 ∈ zk_tbl
theorem zk_dflt : ∀ k, k < 9 → ∀ j, j < 24 → j < (zk_r k).2.2 → defaultValue (zk_y k j) = (if (zk_ft k).getD j false then Value.null else Value.int 0) := by decide +kernel
theorem c_new {idx ci : Nat} (h : zk_at mt pc = some (.new idx, npc, tg)) (hl : zk_LN mt.1.cls idx ci) (h1000 : Z.1 + 1 ≤ 1000) (k : zC X d mt npc L (.ref Z.1 :: st) (zk_new Z ci 0, zk_sc I Z.1 (fun _ => 0), J) dc ds rv M') : zC X d mt pc L st (Z, I, J) (dc + 1) (ds + (zk_r ci).2.2) rv M' := by
  intro E p l e R s m args below meth c H locs cells slots Q ls hC hR hS hlv hr hk
  obtain ⟨hn3, hdd⟩ := zk_d hC.2.2.1 h rfl
  subst hn3
  obtain ⟨h9, w1, w2, w3⟩ := hl
  refine W.zsz fun hsz => ?_
  have hsize := zk_size hC hR hS hr.2.2.2.2 hsz
  have hKn := hR.2.1.1 ci _ (zk_r_at h9)
  refine W.newcK hC.1 hC.2.1 hC.2.2.2.2.2.1 (hC.2.2.2.2.2.2.1 _ w1) (hC.2.2.2.2.2.2.1 _ w2) (hC.2.2.2.2.2.2.1 _ w3) rfl hdd (by have := hr.2.2.1; omega) (by have := hr.2.2.2.1; omega) hKn.2.1 rfl fun H1 kC hkC e1 z1 o1 => ?_
  have hce : zk_ce E (zk_new Z ci 0, zk_sc I Z.1 (fun _ => 0), J) Z.1 = .inr (ci, zk_fs E (zk_new Z ci 0, zk_sc I Z.1 (fun _ => 0), J) ci Z.1) := zk_ce_o (by simp [zk_new]) h9
  obtain ⟨g1, g2⟩ := zk_grow (I2 := zk_sc I Z.1 (fun _ => 0)) (J2 := J) (k := ci) (len := 0) hR hS hsize h1000 z1 o1 (fun a ha => zk_sc_n I _ (by omega)) (fun _ _ => rfl) (by
    rw [hce, zk_ad_n (by omega), ← hsize]
    refine ⟨_, zk_r_at h9, (u_born (zk_y ci) hC.2.2.2.2.2.2.1 (zk_r_in h9) hKn hkC e1 (zk_r_ty h9)).to fun j hj => ?_⟩
    rw [zk_dflt ci h9 j (Nat.lt_of_lt_of_le hj (zk_n24 ci h9)) hj]
    have hj2 : j < (zk_ft ci).length := by rw [zk_ft_len ci h9]; exact hj
    have hj3 : (zk_ft ci)[j]? = some (zk_ft ci)[j] := List.getElem?_eq_getElem hj2
    simp only [vp_V, List.getD_eq_getElem?_getD, zk_fs_at hj3, hj3, Option.getD_some]
    cases (zk_ft ci)[j]
    · simp [zk_fv, zk_sc]
    · simp [zk_fv, zk_new, va_rf])
  have kk := k E p l e R s m args below meth c H1 locs (cells + 1) (slots + (zk_r ci).2.2) Q ls hC g1 g2 hlv ⟨hr.1, hr.2.1, by have := hr.2.2.1; omega, by have := hr.2.2.2.1; omega, by have := hr.2.2.2.2; simp only [zk_new] at this ⊢; omega⟩ (fun pc' ls' H' locs' q1 q2 q3 => by
    rw [show cells + 1 + dc = cells + (dc + 1) by omega, show slots + (zk_r ci).2.2 + ds = slots + (ds + (zk_r ci).2.2) by omega]
    exact hk pc' ls' H' locs' q1 q2 q3)
  simp only [List.map_cons, zk_tr, zk_ad_n (E := E) (show Z.1 < 1000 by omega), ← hsize] at kk
  exact kk
/-- kinds of rows that are made -/
def zk_at4 : Nat → ArrayType
  | 20 => .int
  | 21 => .long
  | 22 => .boolean
  | _ => .char
theorem c_newa {q : Nat} {at4 : ArrayType} {n : Int32} {N : Nat} (h : zk_at mt pc = some (.newarray at4, npc, tg)) (hq : q = 20 ∨ q = 21 ∨ q = 22 ∨ q = 23) (ha : zk_at4 q = at4) (hw : Cond.arrayClass (newarray.typeOf at4) ∈ zk_tbl) (hn : ¬ n < 0) (hN : n.toNatClampNeg = N) (hb : N ≤ 100000) (h1000 : Z.1 + 1 ≤ 1000) (k : zC X d mt npc L (.ref Z.1 :: st) (zk_new Z q N, zk_sc I Z.1 (fun _ => 0), zk_sj J Z.1 (fun _ => 0)) dc ds rv M') : zC X d mt pc L (.int n :: st) (Z, I, J) (dc + 1) (ds + N) rv M' := by
  intro E p l e R s m args below meth c H locs cells slots Q ls hC hR hS hlv hr hk
  obtain ⟨hn3, hdd⟩ := zk_d hC.2.2.1 h rfl
  subst hn3
  refine W.zsz fun hsz => ?_
  have hsize := zk_size hC hR hS hr.2.2.2.2 hsz
  refine va_newaK hC.1 hC.2.1 (hC.2.2.2.2.2.2.1 _ hw) rfl hdd rfl hn hN (by subst ha; rcases hq with rfl | rfl | rfl | rfl <;> simp only [zk_at4, newarray.typeOf, componentBytes] <;> omega) (by have := hr.2.2.1; omega) (by have := hr.2.2.2.1; omega) rfl fun H1 cA e1 z1 o1 hAr hNm => ?_
  obtain ⟨g1, g2⟩ := zk_grow (I2 := zk_sc I Z.1 (fun _ => 0)) (J2 := zk_sj J Z.1 (fun _ => 0)) (k := q) (len := N) hR hS hsize h1000 z1 o1 (fun a ha => zk_sc_n I _ (by omega)) (fun a ha => zk_sj_n J _ (by omega)) (by
    rw [zk_ad_n (by omega), ← hsize]
    have hS2 : (zk_new Z q N).2.1 Z.1 = (q, N) := by simp [zk_new]
    subst ha
    rcases hq with rfl | rfl | rfl | rfl
    · rw [zk_ce_20 hS2, show E.2.1 0 = cA from Option.some.inj ((hR.2.1.2 0 _ rfl).2.symm.trans hNm), zk_sc_s]
      exact e1
    · rw [zk_ce_21 hS2, show E.2.1 1 = cA from Option.some.inj ((hR.2.1.2 1 _ rfl).2.symm.trans hNm), zk_sj_s]
      exact e1
    · rw [zk_ce_22 hS2, show E.2.1 2 = cA from Option.some.inj ((hR.2.1.2 2 _ rfl).2.symm.trans hNm), zk_sc_s]
      exact e1
    · rw [zk_ce_23 hS2, show E.2.1 3 = cA from Option.some.inj ((hR.2.1.2 3 _ rfl).2.symm.trans hNm), zk_sc_s]
      exact e1)
  have kk := k E p l e R s m args below meth c H1 locs (cells + 1) (slots + N) Q ls hC g1 g2 hlv ⟨hr.1, hr.2.1, by have := hr.2.2.1; omega, by have := hr.2.2.2.1; omega, by have := hr.2.2.2.2; simp only [zk_new] at this ⊢; omega⟩ (fun pc' ls' H' locs' q1 q2 q3 => by
    rw [show cells + 1 + dc = cells + (dc + 1) by omega, show slots + N + ds = slots + (ds + N) by omega]
    exact hk pc' ls' H' locs' q1 q2 q3)
  simp only [List.map_cons, zk_tr, zk_ad_n (E := E) (show Z.1 < 1000 by omega), ← hsize] at kk
  exact kk
theorem c_anew {idx : Nat} {n : Int32} {N : Nat} (h : zk_at mt pc = some (.anewarray idx, npc, tg)) (hw : Cond.classLink mt.1.cls idx "NamedNext$Days" ∈ zk_tbl) (hn : ¬ n < 0) (hN : n.toNatClampNeg = N) (hb : N ≤ 100000) (h1000 : Z.1 + 1 ≤ 1000) (k : zC X d mt npc L (.ref Z.1 :: st) (zk_new Z 24 N, zk_sc I Z.1 (fun _ => 0), J) dc ds rv M') : zC X d mt pc L (.int n :: st) (Z, I, J) (dc + 1) (ds + N) rv M' := by
  intro E p l e R s m args below meth c H locs cells slots Q ls hC hR hS hlv hr hk
  obtain ⟨hn3, hdd⟩ := zk_d hC.2.2.1 h rfl
  subst hn3
  refine W.zsz fun hsz => ?_
  have hsize := zk_size hC hR hS hr.2.2.2.2 hsz
  have hAO := hC.2.2.2.2.2.2.2.2.2.2.2.2.2.2.2.2.2.2
  subst hN
  refine W.anew hC.1 hC.2.1 hC.2.2.2.2.2.1 (hC.2.2.2.2.2.2.1 _ hw) (va_AO.use hAO) rfl hdd rfl hn (by omega) (by have := hr.2.2.1; omega) (by have := hr.2.2.2.1; omega) fun cA kA comp f1 f2 f3 f4 => ?_
  generalize hH1 : H.push ({ cls := cA, slots := Array.replicate n.toNatClampNeg .null, vm := .none } : Cell) = H1
  have z1 : H1.size = H.size + 1 := by rw [← hH1, Array.size_push]
  have e1 : H1[H.size]? = some (arrV cA n.toNatClampNeg (fun _ => .null)) := by rw [← hH1, Array.getElem?_push_size, ← arrV_new]
  have o1 : ∀ q : Nat, q < H.size → H1[q]? = H[q]? := fun q hq => by rw [← hH1, Array.getElem?_push, if_neg (Nat.ne_of_lt hq)]
  have hcA : E.2.1 4 = cA := by
    obtain ⟨_, _, -, -, -, q4⟩ := (hR.2.1.2 4 _ rfl).2
    exact Option.some.inj (q4.symm.trans f1)
  obtain ⟨g1, g2⟩ := zk_grow (I2 := zk_sc I Z.1 (fun _ => 0)) (J2 := J) (k := 24) (len := n.toNatClampNeg) hR hS hsize h1000 z1 o1 (fun a ha => zk_sc_n I _ (by omega)) (fun _ _ => rfl) (by
    rw [zk_ad_n (by omega), ← hsize, zk_ce_24 (show (zk_new Z 24 n.toNatClampNeg).2.1 Z.1 = (24, n.toNatClampNeg) by simp [zk_new]), hcA]
    show H1[H.size]? = some (vp_cell _ _)
    rw [vp_cell_q, e1]
    congr 2
    funext j
    simp [zk_new, va_rf])
  have kk := k E p l e R s m args below meth c H1 locs (cells + 1) (slots + n.toNatClampNeg) Q ls hC g1 g2 hlv ⟨hr.1, hr.2.1, by have := hr.2.2.1; omega, by have := hr.2.2.2.1; omega, by have := hr.2.2.2.2; simp only [zk_new] at this ⊢; omega⟩ (fun pc' ls' H' locs' q1 q2 q3 => by
    rw [show cells + 1 + dc = cells + (dc + 1) by omega, show slots + n.toNatClampNeg + ds = slots + (ds + n.toNatClampNeg) by omega]
    exact hk pc' ls' H' locs' q1 q2 q3)
  simp only [List.map_cons, zk_tr, zk_ad_n (E := E) (show Z.1 < 1000 by omega), ← hsize] at kk
  exact kk
/-- references written -/
def zk_zr (Z : zk_Z) (c : Nat) (f : Nat → Option Nat) : zk_Z := (Z.1, Z.2.1, zk_sr Z.2.2 c f)
theorem zk_ce_zr {E : zk_E} {a c : Nat} {f : Nat → Option Nat} (h : ¬ a = c) : zk_ce E (zk_zr Z c f, I, J) a = zk_ce E (Z, I, J) a := by
  simp only [zk_ce, zk_fs, zk_zr, zk_sr_n _ _ h]
  have : zk_fv E ((Z.1, Z.2.1, zk_sr Z.2.2 c f), I, J) a = zk_fv E (Z, I, J) a := by
    funext j b
    simp only [zk_fv, zk_sr_n _ _ h]
  rw [this]
theorem c_aast {n a b : Nat} {i : Int32} (h : zk_at mt pc = some (.aastore, npc, tg)) (ha : Z.2.1 a = (24, n)) (hz : a < Z.1) (hi : zk_in i n = true) (hb : (Z.2.1 b).1 = 1) (hbz : b < Z.1) (k : zC X d mt npc L st (zk_zr Z a (va_up (Z.2.2 a) i.toNatClampNeg (some b)), I, J) dc ds rv M') : zC X d mt pc L (.ref b :: .int i :: .ref a :: st) (Z, I, J) dc ds rv M' := by
  intro E p l e R s m args below meth c H locs cells slots Q ls hC hR hS hl hr hk
  obtain ⟨hn, hd⟩ := zk_d hC.2.2.1 h rfl
  subst hn
  have hce : zk_ce E (zk_zr Z a (va_up (Z.2.2 a) i.toNatClampNeg (some b)), I, J) a = .inl (E.2.1 4, n, .inr (.inr (.inr (.inr (va_up (fun j => (Z.2.2 a j).map (zk_ad E)) i.toNatClampNeg (some (zk_ad E b))))))) := by
    rw [zk_ce_24 (Z := zk_zr Z a (va_up (Z.2.2 a) i.toNatClampNeg (some b))) ha]
    have : (fun j => ((zk_zr Z a (va_up (Z.2.2 a) i.toNatClampNeg (some b))).2.2 a j).map (zk_ad E)) = va_up (fun j => (Z.2.2 a j).map (zk_ad E)) i.toNatClampNeg (some (zk_ad E b)) := by
      funext j
      simp only [zk_zr, zk_sr_s, va_up]
      by_cases hj : j = i.toNatClampNeg
      · simp [hj]
      · simp [hj]
    rw [this]
  have hset := zk_ws_set (E := E) (M := (Z, I, J)) (M2 := (zk_zr Z a (va_up (Z.2.2 a) i.toNatClampNeg (some b)), I, J)) (c := a) rfl hce (fun q hq => zk_ce_zr hq)
  refine va_astq (D := E.1) (a := zk_ad E a) (r := zk_r 1) (v := zk_ad E b) hC.1 hC.2.1 hR.2.1 hR.1 (zk_D hR.2.2) hS a 4 b 1 ((zk_ws_at (M := (Z, I, J)) hz).trans (by rw [zk_ce_24 ha])) rfl ((zk_ws_at (M := (Z, I, J)) hbz).trans (by rw [zk_ce_o hb (by decide)])) rfl (zk_in_vp hi) hd (fun H1 locs1 hP1 hD1 hS1 => ?_)
  rw [hset] at hP1
  exact k E p l e R s m args below meth c H1 locs1 cells slots Q ls hC ⟨hP1, hR.2.1, hR.2.2⟩ hS1 hl hr hk
theorem c_putR {idx ci j a b : Nat} (h : zk_at mt pc = some (.putfield idx, npc, tg)) (hf : zk_FL mt.1.cls idx ci j true) (hfin : ((zk_r ci).2.1 j).2.2.2 = true) (hdecl : ((zk_r ci).2.1 j).1 = mt.1.cls) (hin2 : mt.1.name = "<init>") (hnf : ∀ v, narrow (zk_y ci j) (.ref v) = .ref v ∧ fits (zk_y ci j) (.ref v) = true) (ha : (Z.2.1 a).1 = ci) (hz : a < Z.1) (k : zC X d mt npc L st (zk_zr Z a (va_up (Z.2.2 a) j (some b)), I, J) dc ds rv M') : zC X d mt pc L (.ref b :: .ref a :: st) (Z, I, J) dc ds rv M' := by
  intro E p l e R s m args below meth c H locs cells slots Q ls hC hR hS hl hr hk
  obtain ⟨hn, hd⟩ := zk_d hC.2.2.1 h rfl
  subst hn
  obtain ⟨f1, f2, f3, f4⟩ := hf
  have hce : zk_ce E (zk_zr Z a (va_up (Z.2.2 a) j (some b)), I, J) a = .inr (ci, (zk_fs E (Z, I, J) ci a).set j (.ref (zk_ad E b))) := by
    rw [zk_ce_o (M := (zk_zr Z a (va_up (Z.2.2 a) j (some b)), I, J)) ha f1]
    congr 2
    apply List.ext_getElem?
    intro q
    by_cases hq : q = j
    · subst hq
      rw [zk_fs_at f3, List.getElem?_set_self (by rw [zk_fs_len]; exact (List.getElem?_eq_some_iff.mp f3).1)]
      simp [zk_fv, zk_zr, zk_sr, va_up, va_rf]
    · rw [List.getElem?_set_ne (Ne.symm hq)]
      simp only [zk_fs, List.getElem?_mapIdx]
      cases (zk_ft ci)[q]? with
      | none => rfl
      | some r =>
        cases r
        · simp [zk_fv]
        · simp [zk_fv, zk_zr, zk_sr, va_up, hq]
  have hset := zk_ws_set (E := E) (M := (Z, I, J)) (M2 := (zk_zr Z a (va_up (Z.2.2 a) j (some b)), I, J)) (c := a) rfl hce (fun q hq => zk_ce_zr hq)
  refine va_putF (D := E.1) (a := zk_ad E a) (ci := ci) (v := .ref (zk_ad E b)) (ty := zk_y ci j) hC.1 hC.2.1 hC.2.2.2.2.2.2.1 (zk_r_in f1) (zk_y ci) (zk_r_ty f1) (zk_r_nm f1) hC.2.2.2.2.2.1 hR.2.1 hR.1 (zk_D hR.2.2) hS a ((zk_ws_at (M := (Z, I, J)) hz).trans (by rw [zk_ce_o ha f1])) (zk_r_at f1) j f2 (hC.2.2.2.2.2.2.1 _ f4) (fun _ h9 => h9) hfin (hC.2.2.2.2.2.2.2.2.1.trans hin2) hdecl (zk_r_ty f1 j f2) (hnf _).1 (hnf _).2 (by rw [zk_fs_len]; exact (List.getElem?_eq_some_iff.mp f3).1) hd (fun H1 locs1 hP1 hD1 hS1 => ?_)
  rw [hset] at hP1
  exact k E p l e R s m args below meth c H1 locs1 cells slots Q ls hC ⟨hP1, hR.2.1, hR.2.2⟩ hS1 hl hr hk
theorem zk_nfw : nativeFrameWords "java/lang/System" "arraycopy" 5 ≤ 40 := by decide +kernel
theorem c_copy {idx n0 n1 a0 a : Nat} {sp dp n : Int32} (h : zk_at mt pc = some (.invokestatic idx, npc, tg)) (hw : Cond.methodLink mt.1.cls idx arraycopyName ∈ zk_tbl) (w2 : Cond.native arraycopyName ∈ zk_tbl) (w3 : Cond.static arraycopyName ∈ zk_tbl) (w4 : Cond.initialized "java/lang/System" ∈ zk_tbl) (ha0 : Z.2.1 a0 = (20, n0)) (ha : Z.2.1 a = (20, n1)) (hz0 : a0 < Z.1) (hz : a < Z.1) (h1 : ¬ sp < 0) (h2 : ¬ dp < 0) (h3 : ¬ n < 0) (h4 : sp.toNatClampNeg + n.toNatClampNeg ≤ n0) (h5 : dp.toNatClampNeg + n.toNatClampNeg ≤ n1) (hd1 : 1 ≤ d) (h8 : (st.map fun v => v.category).sum ≤ 8)
    (k : zC X d mt npc L st (Z, zk_sc I a (va_cpy (I a0) (I a) sp.toNatClampNeg dp.toNatClampNeg n.toNatClampNeg), J) dc ds rv M') : zC X d mt pc L (.int n :: .int dp :: .ref a :: .int sp :: .ref a0 :: st) (Z, I, J) dc ds rv M' := by
  intro E p l e R s m args below meth c H locs cells slots Q ls hC hR hS hl hr hk
  obtain ⟨hn, hd⟩ := zk_d hC.2.2.1 h rfl
  subst hn
  have hset := zk_ws_set (E := E) (M := (Z, I, J)) (M2 := (Z, zk_sc I a (va_cpy (I a0) (I a) sp.toNatClampNeg dp.toNatClampNeg n.toNatClampNeg), J)) (c := a) rfl (zk_ce_20 ha) (fun q hq => zk_ce_off (zk_sc_n I _ hq) rfl)
  rw [zk_sc_s] at hset
  refine va_copyi (D := E.1) (a := zk_ad E a) (a0 := zk_ad E a0) (ty := .int) hC.1 hC.2.1 (hC.2.2.2.2.1.trans hl.1.symm) hC.2.2.2.2.2.1 (hC.2.2.2.2.2.2.1 _ hw) (hC.2.2.2.2.2.2.1 _ w2) (hC.2.2.2.2.2.2.1 _ w3) (hC.2.2.2.2.2.2.1 _ w4) hR.2.1 hR.1 (zk_D hR.2.2) hS a0 a 0 0 ((zk_ws_at (M := (Z, I, J)) hz0).trans (by rw [zk_ce_20 ha0])) ((zk_ws_at (M := (Z, I, J)) hz).trans (by rw [zk_ce_20 ha])) rfl rfl rfl h1 h2 h3 h4 h5 (fun _ _ => rfl) (Nat.le_trans hd1 hr.1) ?_ hd (fun H1 locs1 hP1 hD1 hS1 => ?_)
  · rw [zk_cat]
    have := hr.2.1
    have := zk_nfw
    omega
  · rw [hset] at hP1
    exact k E p l e R s m args below meth c H1 locs1 cells slots Q ls hC ⟨hP1, hR.2.1, hR.2.2⟩ hS1 hl hr hk
end ZAL
end
