section
-- ===== PART A: goes FIRST, ahead of the names: the tables' words, and 'selects' of the private methods out of them =====
/-- a private method of a class that the tables say can be made, by its rows of tables_1 -/
def lw_okq (q : MethodName × Nat) : Prop := (q.1.cls ≠ "java/lang/invoke/MethodHandle" ∧ q.1.cls ≠ "java/lang/invoke/VarHandle") ∧ Cond.instantiable q.1.cls q.2 ∈ tables_1 ∧ Cond.privateMethod q.1 ∈ tables_1 ∧ Cond.instanceMethod q.1 ∈ tables_1
theorem lw_p0 : lw_okq (⟨"NamedNext$Clauses", "doClause", "()Z"⟩, 3) := ⟨⟨by decide +kernel, by decide +kernel⟩, List.mem_of_getElem? (i := 92) (by decide +kernel), List.mem_of_getElem? (i := 293) (by decide +kernel), List.mem_of_getElem? (i := 294) (by decide +kernel)⟩
theorem lw_p1 : lw_okq (⟨"NamedNext$Clauses", "kindOfWord", "()I"⟩, 3) := ⟨⟨by decide +kernel, by decide +kernel⟩, List.mem_of_getElem? (i := 92) (by decide +kernel), List.mem_of_getElem? (i := 297) (by decide +kernel), List.mem_of_getElem? (i := 298) (by decide +kernel)⟩
theorem lw_p2 : lw_okq (⟨"NamedNext$Clauses", "doReader", "(I)Z"⟩, 3) := ⟨⟨by decide +kernel, by decide +kernel⟩, List.mem_of_getElem? (i := 92) (by decide +kernel), List.mem_of_getElem? (i := 357) (by decide +kernel), List.mem_of_getElem? (i := 358) (by decide +kernel)⟩
theorem lw_p3 : lw_okq (⟨"NamedNext$Clauses", "nextNumber", "(I)I"⟩, 3) := ⟨⟨by decide +kernel, by decide +kernel⟩, List.mem_of_getElem? (i := 92) (by decide +kernel), List.mem_of_getElem? (i := 361) (by decide +kernel), List.mem_of_getElem? (i := 362) (by decide +kernel)⟩
theorem lw_p4 : lw_okq (⟨"NamedNext$Clauses", "doFeud", "()Z"⟩, 3) := ⟨⟨by decide +kernel, by decide +kernel⟩, List.mem_of_getElem? (i := 92) (by decide +kernel), List.mem_of_getElem? (i := 375) (by decide +kernel), List.mem_of_getElem? (i := 376) (by decide +kernel)⟩
theorem lw_p5 : lw_okq (⟨"NamedNext$Clauses", "doMove", "()Z"⟩, 3) := ⟨⟨by decide +kernel, by decide +kernel⟩, List.mem_of_getElem? (i := 92) (by decide +kernel), List.mem_of_getElem? (i := 384) (by decide +kernel), List.mem_of_getElem? (i := 385) (by decide +kernel)⟩
theorem lw_p6 : lw_okq (⟨"NamedNext$Clauses", "doBook", "()Z"⟩, 3) := ⟨⟨by decide +kernel, by decide +kernel⟩, List.mem_of_getElem? (i := 92) (by decide +kernel), List.mem_of_getElem? (i := 389) (by decide +kernel), List.mem_of_getElem? (i := 390) (by decide +kernel)⟩
theorem lw_p7 : lw_okq (⟨"NamedNext", "booksHeldBy", "(I)I"⟩, 11) := ⟨⟨by decide +kernel, by decide +kernel⟩, List.mem_of_getElem? (i := 19) (by decide +kernel), List.mem_of_getElem? (i := 437) (by decide +kernel), List.mem_of_getElem? (i := 438) (by decide +kernel)⟩
theorem lw_p8 : lw_okq (⟨"NamedNext", "booksHadBy", "(I)I"⟩, 11) := ⟨⟨by decide +kernel, by decide +kernel⟩, List.mem_of_getElem? (i := 19) (by decide +kernel), List.mem_of_getElem? (i := 441) (by decide +kernel), List.mem_of_getElem? (i := 442) (by decide +kernel)⟩
theorem lw_p9 : lw_okq (⟨"NamedNext", "isWalled", "(I)Z"⟩, 11) := ⟨⟨by decide +kernel, by decide +kernel⟩, List.mem_of_getElem? (i := 19) (by decide +kernel), List.mem_of_getElem? (i := 456) (by decide +kernel), List.mem_of_getElem? (i := 457) (by decide +kernel)⟩
theorem lw_p10 : lw_okq (⟨"NamedNext", "namableNow", "(I)I"⟩, 11) := ⟨⟨by decide +kernel, by decide +kernel⟩, List.mem_of_getElem? (i := 19) (by decide +kernel), List.mem_of_getElem? (i := 460) (by decide +kernel), List.mem_of_getElem? (i := 461) (by decide +kernel)⟩
theorem lw_p11 : lw_okq (⟨"NamedNext$Told", "likes", "(II)Z"⟩, 7) := ⟨⟨by decide +kernel, by decide +kernel⟩, List.mem_of_getElem? (i := 49) (by decide +kernel), List.mem_of_getElem? (i := 472) (by decide +kernel), List.mem_of_getElem? (i := 473) (by decide +kernel)⟩
theorem lw_p12 : lw_okq (⟨"NamedNext$Rows", "begin", "(LNamedNext$Days;I)V"⟩, 10) := ⟨⟨by decide +kernel, by decide +kernel⟩, List.mem_of_getElem? (i := 158) (by decide +kernel), List.mem_of_getElem? (i := 546) (by decide +kernel), List.mem_of_getElem? (i := 547) (by decide +kernel)⟩
theorem lw_p13 : lw_okq (⟨"NamedNext$Rows", "findLiked", "()V"⟩, 10) := ⟨⟨by decide +kernel, by decide +kernel⟩, List.mem_of_getElem? (i := 158) (by decide +kernel), List.mem_of_getElem? (i := 550) (by decide +kernel), List.mem_of_getElem? (i := 551) (by decide +kernel)⟩
theorem lw_p14 : lw_okq (⟨"NamedNext$Rows", "everybody", "()I"⟩, 10) := ⟨⟨by decide +kernel, by decide +kernel⟩, List.mem_of_getElem? (i := 158) (by decide +kernel), List.mem_of_getElem? (i := 556) (by decide +kernel), List.mem_of_getElem? (i := 557) (by decide +kernel)⟩
theorem lw_p15 : lw_okq (⟨"NamedNext$Rows", "namingsTo", "(I)I"⟩, 10) := ⟨⟨by decide +kernel, by decide +kernel⟩, List.mem_of_getElem? (i := 158) (by decide +kernel), List.mem_of_getElem? (i := 560) (by decide +kernel), List.mem_of_getElem? (i := 561) (by decide +kernel)⟩
def lw_privs_1 : List (MethodName × Nat) := [(⟨"NamedNext$Clauses", "doClause", "()Z"⟩, 3), (⟨"NamedNext$Clauses", "kindOfWord", "()I"⟩, 3), (⟨"NamedNext$Clauses", "doReader", "(I)Z"⟩, 3), (⟨"NamedNext$Clauses", "nextNumber", "(I)I"⟩, 3), (⟨"NamedNext$Clauses", "doFeud", "()Z"⟩, 3), (⟨"NamedNext$Clauses", "doMove", "()Z"⟩, 3), (⟨"NamedNext$Clauses", "doBook", "()Z"⟩, 3), (⟨"NamedNext", "booksHeldBy", "(I)I"⟩, 11), (⟨"NamedNext", "booksHadBy", "(I)I"⟩, 11), (⟨"NamedNext", "isWalled", "(I)Z"⟩, 11), (⟨"NamedNext", "namableNow", "(I)I"⟩, 11), (⟨"NamedNext$Told", "likes", "(II)Z"⟩, 7), (⟨"NamedNext$Rows", "begin", "(LNamedNext$Days;I)V"⟩, 10), (⟨"NamedNext$Rows", "findLiked", "()V"⟩, 10), (⟨"NamedNext$Rows", "everybody", "()I"⟩, 10), (⟨"NamedNext$Rows", "namingsTo", "(I)I"⟩, 10)]
theorem lw_r1 : ∀ q ∈ lw_privs_1, lw_okq q := List.forall_mem_cons.mpr ⟨lw_p0, List.forall_mem_cons.mpr ⟨lw_p1, List.forall_mem_cons.mpr ⟨lw_p2, List.forall_mem_cons.mpr ⟨lw_p3, List.forall_mem_cons.mpr ⟨lw_p4, List.forall_mem_cons.mpr ⟨lw_p5, List.forall_mem_cons.mpr ⟨lw_p6, List.forall_mem_cons.mpr ⟨lw_p7, List.forall_mem_cons.mpr ⟨lw_p8, List.forall_mem_cons.mpr ⟨lw_p9, List.forall_mem_cons.mpr ⟨lw_p10, List.forall_mem_cons.mpr ⟨lw_p11, List.forall_mem_cons.mpr ⟨lw_p12, List.forall_mem_cons.mpr ⟨lw_p13, List.forall_mem_cons.mpr ⟨lw_p14, List.forall_mem_cons.mpr ⟨lw_p15, fun _ h => absurd h List.not_mem_nil⟩⟩⟩⟩⟩⟩⟩⟩⟩⟩⟩⟩⟩⟩⟩⟩
theorem lw_p16 : lw_okq (⟨"NamedNext$Rows", "fill", "(I[J)V"⟩, 10) := ⟨⟨by decide +kernel, by decide +kernel⟩, List.mem_of_getElem? (i := 158) (by decide +kernel), List.mem_of_getElem? (i := 565) (by decide +kernel), List.mem_of_getElem? (i := 566) (by decide +kernel)⟩
theorem lw_p17 : lw_okq (⟨"NamedNext$Rows", "measureOf", "(I[JII)J"⟩, 10) := ⟨⟨by decide +kernel, by decide +kernel⟩, List.mem_of_getElem? (i := 158) (by decide +kernel), List.mem_of_getElem? (i := 573) (by decide +kernel), List.mem_of_getElem? (i := 574) (by decide +kernel)⟩
theorem lw_p18 : lw_okq (⟨"NamedNext$Rows", "choicesOfLongest", "(II)I"⟩, 10) := ⟨⟨by decide +kernel, by decide +kernel⟩, List.mem_of_getElem? (i := 158) (by decide +kernel), List.mem_of_getElem? (i := 577) (by decide +kernel), List.mem_of_getElem? (i := 578) (by decide +kernel)⟩
theorem lw_p19 : lw_okq (⟨"NamedNext$Rows", "choicesOf", "(II)I"⟩, 10) := ⟨⟨by decide +kernel, by decide +kernel⟩, List.mem_of_getElem? (i := 158) (by decide +kernel), List.mem_of_getElem? (i := 581) (by decide +kernel), List.mem_of_getElem? (i := 582) (by decide +kernel)⟩
theorem lw_p20 : lw_okq (⟨"NamedNext$Rows", "throughOne", "(IJII)J"⟩, 10) := ⟨⟨by decide +kernel, by decide +kernel⟩, List.mem_of_getElem? (i := 158) (by decide +kernel), List.mem_of_getElem? (i := 589) (by decide +kernel), List.mem_of_getElem? (i := 590) (by decide +kernel)⟩
theorem lw_p21 : lw_okq (⟨"NamedNext$Rows", "unread", "(I)I"⟩, 10) := ⟨⟨by decide +kernel, by decide +kernel⟩, List.mem_of_getElem? (i := 158) (by decide +kernel), List.mem_of_getElem? (i := 593) (by decide +kernel), List.mem_of_getElem? (i := 594) (by decide +kernel)⟩
theorem lw_p22 : lw_okq (⟨"NamedNext$Rows", "shareOfLot", "(II)J"⟩, 10) := ⟨⟨by decide +kernel, by decide +kernel⟩, List.mem_of_getElem? (i := 158) (by decide +kernel), List.mem_of_getElem? (i := 611) (by decide +kernel), List.mem_of_getElem? (i := 612) (by decide +kernel)⟩
theorem lw_p23 : lw_okq (⟨"NamedNext$Rows", "ringsThrough", "(IIII)I"⟩, 10) := ⟨⟨by decide +kernel, by decide +kernel⟩, List.mem_of_getElem? (i := 158) (by decide +kernel), List.mem_of_getElem? (i := 675) (by decide +kernel), List.mem_of_getElem? (i := 676) (by decide +kernel)⟩
theorem lw_p24 : lw_okq (⟨"NamedNext$Rows", "spreadFrom", "(I)V"⟩, 10) := ⟨⟨by decide +kernel, by decide +kernel⟩, List.mem_of_getElem? (i := 158) (by decide +kernel), List.mem_of_getElem? (i := 688) (by decide +kernel), List.mem_of_getElem? (i := 689) (by decide +kernel)⟩
theorem lw_p25 : lw_okq (⟨"NamedNext$Slips", "forbidden", "(LNamedNext$Told;)I"⟩, 4) := ⟨⟨by decide +kernel, by decide +kernel⟩, List.mem_of_getElem? (i := 197) (by decide +kernel), List.mem_of_getElem? (i := 712) (by decide +kernel), List.mem_of_getElem? (i := 713) (by decide +kernel)⟩
theorem lw_p26 : lw_okq (⟨"NamedNext$Slips", "fitWithout", "(I)Z"⟩, 4) := ⟨⟨by decide +kernel, by decide +kernel⟩, List.mem_of_getElem? (i := 197) (by decide +kernel), List.mem_of_getElem? (i := 719) (by decide +kernel), List.mem_of_getElem? (i := 720) (by decide +kernel)⟩
theorem lw_p27 : lw_okq (⟨"NamedNext$Slips", "hasRing", "()Z"⟩, 4) := ⟨⟨by decide +kernel, by decide +kernel⟩, List.mem_of_getElem? (i := 197) (by decide +kernel), List.mem_of_getElem? (i := 724) (by decide +kernel), List.mem_of_getElem? (i := 725) (by decide +kernel)⟩
theorem lw_p28 : lw_okq (⟨"NamedNext", "walledBooks", "()I"⟩, 11) := ⟨⟨by decide +kernel, by decide +kernel⟩, List.mem_of_getElem? (i := 19) (by decide +kernel), List.mem_of_getElem? (i := 746) (by decide +kernel), List.mem_of_getElem? (i := 747) (by decide +kernel)⟩
theorem lw_p29 : lw_okq (⟨"NamedNext", "namings", "()I"⟩, 11) := ⟨⟨by decide +kernel, by decide +kernel⟩, List.mem_of_getElem? (i := 19) (by decide +kernel), List.mem_of_getElem? (i := 750) (by decide +kernel), List.mem_of_getElem? (i := 751) (by decide +kernel)⟩
theorem lw_p30 : lw_okq (⟨"NamedNextModel", "reads", "()I"⟩, 24) := ⟨⟨by decide +kernel, by decide +kernel⟩, List.mem_of_getElem? (i := 754) (by decide +kernel), List.mem_of_getElem? (i := 849) (by decide +kernel), List.mem_of_getElem? (i := 850) (by decide +kernel)⟩
theorem lw_p31 : lw_okq (⟨"NamedNextModel", "token", "()V"⟩, 24) := ⟨⟨by decide +kernel, by decide +kernel⟩, List.mem_of_getElem? (i := 754) (by decide +kernel), List.mem_of_getElem? (i := 853) (by decide +kernel), List.mem_of_getElem? (i := 854) (by decide +kernel)⟩
def lw_privs_2 : List (MethodName × Nat) := [(⟨"NamedNext$Rows", "fill", "(I[J)V"⟩, 10), (⟨"NamedNext$Rows", "measureOf", "(I[JII)J"⟩, 10), (⟨"NamedNext$Rows", "choicesOfLongest", "(II)I"⟩, 10), (⟨"NamedNext$Rows", "choicesOf", "(II)I"⟩, 10), (⟨"NamedNext$Rows", "throughOne", "(IJII)J"⟩, 10), (⟨"NamedNext$Rows", "unread", "(I)I"⟩, 10), (⟨"NamedNext$Rows", "shareOfLot", "(II)J"⟩, 10), (⟨"NamedNext$Rows", "ringsThrough", "(IIII)I"⟩, 10), (⟨"NamedNext$Rows", "spreadFrom", "(I)V"⟩, 10), (⟨"NamedNext$Slips", "forbidden", "(LNamedNext$Told;)I"⟩, 4), (⟨"NamedNext$Slips", "fitWithout", "(I)Z"⟩, 4), (⟨"NamedNext$Slips", "hasRing", "()Z"⟩, 4), (⟨"NamedNext", "walledBooks", "()I"⟩, 11), (⟨"NamedNext", "namings", "()I"⟩, 11), (⟨"NamedNextModel", "reads", "()I"⟩, 24), (⟨"NamedNextModel", "token", "()V"⟩, 24)]
theorem lw_r2 : ∀ q ∈ lw_privs_2, lw_okq q := List.forall_mem_cons.mpr ⟨lw_p16, List.forall_mem_cons.mpr ⟨lw_p17, List.forall_mem_cons.mpr ⟨lw_p18, List.forall_mem_cons.mpr ⟨lw_p19, List.forall_mem_cons.mpr ⟨lw_p20, List.forall_mem_cons.mpr ⟨lw_p21, List.forall_mem_cons.mpr ⟨lw_p22, List.forall_mem_cons.mpr ⟨lw_p23, List.forall_mem_cons.mpr ⟨lw_p24, List.forall_mem_cons.mpr ⟨lw_p25, List.forall_mem_cons.mpr ⟨lw_p26, List.forall_mem_cons.mpr ⟨lw_p27, List.forall_mem_cons.mpr ⟨lw_p28, List.forall_mem_cons.mpr ⟨lw_p29, List.forall_mem_cons.mpr ⟨lw_p30, List.forall_mem_cons.mpr ⟨lw_p31, fun _ h => absurd h List.not_mem_nil⟩⟩⟩⟩⟩⟩⟩⟩⟩⟩⟩⟩⟩⟩⟩⟩
theorem lw_p32 : lw_okq (⟨"NamedNextModel", "letterAt", "(I)I"⟩, 24) := ⟨⟨by decide +kernel, by decide +kernel⟩, List.mem_of_getElem? (i := 754) (by decide +kernel), List.mem_of_getElem? (i := 857) (by decide +kernel), List.mem_of_getElem? (i := 858) (by decide +kernel)⟩
theorem lw_p33 : lw_okq (⟨"NamedNextModel", "readsClause", "()Z"⟩, 24) := ⟨⟨by decide +kernel, by decide +kernel⟩, List.mem_of_getElem? (i := 754) (by decide +kernel), List.mem_of_getElem? (i := 867) (by decide +kernel), List.mem_of_getElem? (i := 868) (by decide +kernel)⟩
theorem lw_p34 : lw_okq (⟨"NamedNextModel", "isWord", "(IIIIIIIII)Z"⟩, 24) := ⟨⟨by decide +kernel, by decide +kernel⟩, List.mem_of_getElem? (i := 754) (by decide +kernel), List.mem_of_getElem? (i := 871) (by decide +kernel), List.mem_of_getElem? (i := 872) (by decide +kernel)⟩
theorem lw_p35 : lw_okq (⟨"NamedNextModel", "forgets", "()V"⟩, 24) := ⟨⟨by decide +kernel, by decide +kernel⟩, List.mem_of_getElem? (i := 754) (by decide +kernel), List.mem_of_getElem? (i := 875) (by decide +kernel), List.mem_of_getElem? (i := 876) (by decide +kernel)⟩
theorem lw_p36 : lw_okq (⟨"NamedNextModel", "readsReader", "(I)Z"⟩, 24) := ⟨⟨by decide +kernel, by decide +kernel⟩, List.mem_of_getElem? (i := 754) (by decide +kernel), List.mem_of_getElem? (i := 879) (by decide +kernel), List.mem_of_getElem? (i := 880) (by decide +kernel)⟩
theorem lw_p37 : lw_okq (⟨"NamedNextModel", "number", "(III)Z"⟩, 24) := ⟨⟨by decide +kernel, by decide +kernel⟩, List.mem_of_getElem? (i := 754) (by decide +kernel), List.mem_of_getElem? (i := 883) (by decide +kernel), List.mem_of_getElem? (i := 884) (by decide +kernel)⟩
theorem lw_p38 : lw_okq (⟨"NamedNextModel", "readsFeud", "()Z"⟩, 24) := ⟨⟨by decide +kernel, by decide +kernel⟩, List.mem_of_getElem? (i := 754) (by decide +kernel), List.mem_of_getElem? (i := 887) (by decide +kernel), List.mem_of_getElem? (i := 888) (by decide +kernel)⟩
theorem lw_p39 : lw_okq (⟨"NamedNextModel", "readsMove", "()Z"⟩, 24) := ⟨⟨by decide +kernel, by decide +kernel⟩, List.mem_of_getElem? (i := 754) (by decide +kernel), List.mem_of_getElem? (i := 891) (by decide +kernel), List.mem_of_getElem? (i := 892) (by decide +kernel)⟩
theorem lw_p40 : lw_okq (⟨"NamedNextModel", "readsBook", "()Z"⟩, 24) := ⟨⟨by decide +kernel, by decide +kernel⟩, List.mem_of_getElem? (i := 754) (by decide +kernel), List.mem_of_getElem? (i := 895) (by decide +kernel), List.mem_of_getElem? (i := 896) (by decide +kernel)⟩
theorem lw_p41 : lw_okq (⟨"NamedNextModel", "peace", "()V"⟩, 24) := ⟨⟨by decide +kernel, by decide +kernel⟩, List.mem_of_getElem? (i := 754) (by decide +kernel), List.mem_of_getElem? (i := 899) (by decide +kernel), List.mem_of_getElem? (i := 900) (by decide +kernel)⟩
theorem lw_p42 : lw_okq (⟨"NamedNextModel", "isReader", "(I)Z"⟩, 24) := ⟨⟨by decide +kernel, by decide +kernel⟩, List.mem_of_getElem? (i := 754) (by decide +kernel), List.mem_of_getElem? (i := 911) (by decide +kernel), List.mem_of_getElem? (i := 912) (by decide +kernel)⟩
theorem lw_p43 : lw_okq (⟨"NamedNextModel", "isBook", "(I)Z"⟩, 24) := ⟨⟨by decide +kernel, by decide +kernel⟩, List.mem_of_getElem? (i := 754) (by decide +kernel), List.mem_of_getElem? (i := 919) (by decide +kernel), List.mem_of_getElem? (i := 920) (by decide +kernel)⟩
theorem lw_p44 : lw_okq (⟨"NamedNextModel", "namedNow", "(I)I"⟩, 24) := ⟨⟨by decide +kernel, by decide +kernel⟩, List.mem_of_getElem? (i := 754) (by decide +kernel), List.mem_of_getElem? (i := 923) (by decide +kernel), List.mem_of_getElem? (i := 924) (by decide +kernel)⟩
theorem lw_p45 : lw_okq (⟨"NamedNextModel", "named", "(II)I"⟩, 24) := ⟨⟨by decide +kernel, by decide +kernel⟩, List.mem_of_getElem? (i := 754) (by decide +kernel), List.mem_of_getElem? (i := 927) (by decide +kernel), List.mem_of_getElem? (i := 928) (by decide +kernel)⟩
theorem lw_p46 : lw_okq (⟨"NamedNextModel", "keeps", "()V"⟩, 24) := ⟨⟨by decide +kernel, by decide +kernel⟩, List.mem_of_getElem? (i := 754) (by decide +kernel), List.mem_of_getElem? (i := 943) (by decide +kernel), List.mem_of_getElem? (i := 944) (by decide +kernel)⟩
theorem lw_p47 : lw_okq (⟨"NamedNextModel", "laysAll", "(I)I"⟩, 24) := ⟨⟨by decide +kernel, by decide +kernel⟩, List.mem_of_getElem? (i := 754) (by decide +kernel), List.mem_of_getElem? (i := 970) (by decide +kernel), List.mem_of_getElem? (i := 971) (by decide +kernel)⟩
def lw_privs_3 : List (MethodName × Nat) := [(⟨"NamedNextModel", "letterAt", "(I)I"⟩, 24), (⟨"NamedNextModel", "readsClause", "()Z"⟩, 24), (⟨"NamedNextModel", "isWord", "(IIIIIIIII)Z"⟩, 24), (⟨"NamedNextModel", "forgets", "()V"⟩, 24), (⟨"NamedNextModel", "readsReader", "(I)Z"⟩, 24), (⟨"NamedNextModel", "number", "(III)Z"⟩, 24), (⟨"NamedNextModel", "readsFeud", "()Z"⟩, 24), (⟨"NamedNextModel", "readsMove", "()Z"⟩, 24), (⟨"NamedNextModel", "readsBook", "()Z"⟩, 24), (⟨"NamedNextModel", "peace", "()V"⟩, 24), (⟨"NamedNextModel", "isReader", "(I)Z"⟩, 24), (⟨"NamedNextModel", "isBook", "(I)Z"⟩, 24), (⟨"NamedNextModel", "namedNow", "(I)I"⟩, 24), (⟨"NamedNextModel", "named", "(II)I"⟩, 24), (⟨"NamedNextModel", "keeps", "()V"⟩, 24), (⟨"NamedNextModel", "laysAll", "(I)I"⟩, 24)]
theorem lw_r3 : ∀ q ∈ lw_privs_3, lw_okq q := List.forall_mem_cons.mpr ⟨lw_p32, List.forall_mem_cons.mpr ⟨lw_p33, List.forall_mem_cons.mpr ⟨lw_p34, List.forall_mem_cons.mpr ⟨lw_p35, List.forall_mem_cons.mpr ⟨lw_p36, List.forall_mem_cons.mpr ⟨lw_p37, List.forall_mem_cons.mpr ⟨lw_p38, List.forall_mem_cons.mpr ⟨lw_p39, List.forall_mem_cons.mpr ⟨lw_p40, List.forall_mem_cons.mpr ⟨lw_p41, List.forall_mem_cons.mpr ⟨lw_p42, List.forall_mem_cons.mpr ⟨lw_p43, List.forall_mem_cons.mpr ⟨lw_p44, List.forall_mem_cons.mpr ⟨lw_p45, List.forall_mem_cons.mpr ⟨lw_p46, List.forall_mem_cons.mpr ⟨lw_p47, fun _ h => absurd h List.not_mem_nil⟩⟩⟩⟩⟩⟩⟩⟩⟩⟩⟩⟩⟩⟩⟩⟩
theorem lw_p48 : lw_okq (⟨"NamedNextModel", "isState", "(III)Z"⟩, 24) := ⟨⟨by decide +kernel, by decide +kernel⟩, List.mem_of_getElem? (i := 754) (by decide +kernel), List.mem_of_getElem? (i := 974) (by decide +kernel), List.mem_of_getElem? (i := 975) (by decide +kernel)⟩
theorem lw_p49 : lw_okq (⟨"NamedNextModel", "lays", "(III)V"⟩, 24) := ⟨⟨by decide +kernel, by decide +kernel⟩, List.mem_of_getElem? (i := 754) (by decide +kernel), List.mem_of_getElem? (i := 978) (by decide +kernel), List.mem_of_getElem? (i := 979) (by decide +kernel)⟩
theorem lw_p50 : lw_okq (⟨"NamedNextModel", "nexts", "(III)I"⟩, 24) := ⟨⟨by decide +kernel, by decide +kernel⟩, List.mem_of_getElem? (i := 754) (by decide +kernel), List.mem_of_getElem? (i := 982) (by decide +kernel), List.mem_of_getElem? (i := 983) (by decide +kernel)⟩
theorem lw_p51 : lw_okq (⟨"NamedNextModel", "laysOdds", "(I)V"⟩, 24) := ⟨⟨by decide +kernel, by decide +kernel⟩, List.mem_of_getElem? (i := 754) (by decide +kernel), List.mem_of_getElem? (i := 1012) (by decide +kernel), List.mem_of_getElem? (i := 1013) (by decide +kernel)⟩
theorem lw_p52 : lw_okq (⟨"NamedNextModel", "holders", "(II)I"⟩, 24) := ⟨⟨by decide +kernel, by decide +kernel⟩, List.mem_of_getElem? (i := 754) (by decide +kernel), List.mem_of_getElem? (i := 1036) (by decide +kernel), List.mem_of_getElem? (i := 1037) (by decide +kernel)⟩
theorem lw_p53 : lw_okq (⟨"NamedNextModel", "forgedOnes", "()I"⟩, 24) := ⟨⟨by decide +kernel, by decide +kernel⟩, List.mem_of_getElem? (i := 754) (by decide +kernel), List.mem_of_getElem? (i := 1052) (by decide +kernel), List.mem_of_getElem? (i := 1053) (by decide +kernel)⟩
theorem lw_p54 : lw_okq (⟨"NamedNextModel", "canBe", "(I)Z"⟩, 24) := ⟨⟨by decide +kernel, by decide +kernel⟩, List.mem_of_getElem? (i := 754) (by decide +kernel), List.mem_of_getElem? (i := 1056) (by decide +kernel), List.mem_of_getElem? (i := 1057) (by decide +kernel)⟩
def lw_privs_4 : List (MethodName × Nat) := [(⟨"NamedNextModel", "isState", "(III)Z"⟩, 24), (⟨"NamedNextModel", "lays", "(III)V"⟩, 24), (⟨"NamedNextModel", "nexts", "(III)I"⟩, 24), (⟨"NamedNextModel", "laysOdds", "(I)V"⟩, 24), (⟨"NamedNextModel", "holders", "(II)I"⟩, 24), (⟨"NamedNextModel", "forgedOnes", "()I"⟩, 24), (⟨"NamedNextModel", "canBe", "(I)Z"⟩, 24)]
theorem lw_r4 : ∀ q ∈ lw_privs_4, lw_okq q := List.forall_mem_cons.mpr ⟨lw_p48, List.forall_mem_cons.mpr ⟨lw_p49, List.forall_mem_cons.mpr ⟨lw_p50, List.forall_mem_cons.mpr ⟨lw_p51, List.forall_mem_cons.mpr ⟨lw_p52, List.forall_mem_cons.mpr ⟨lw_p53, List.forall_mem_cons.mpr ⟨lw_p54, fun _ h => absurd h List.not_mem_nil⟩⟩⟩⟩⟩⟩⟩
def lw_privs : List (MethodName × Nat) := lw_privs_1 ++ (lw_privs_2 ++ (lw_privs_3 ++ (lw_privs_4)))
def lw_tbl : List Cond := k2_sels lw_privs ++ tables_1
theorem lw_privs_ok : ∀ q ∈ lw_privs, lw_okq q := by
  show ∀ q ∈ lw_privs_1 ++ (lw_privs_2 ++ (lw_privs_3 ++ (lw_privs_4))), lw_okq q
  exact List.forall_mem_append.mpr ⟨lw_r1, List.forall_mem_append.mpr ⟨lw_r2, List.forall_mem_append.mpr ⟨lw_r3, lw_r4⟩⟩⟩
end
section
/-! classes: names, fields, types -/
def zk_tbl : List Cond := lw_tbl.filter goodWord
theorem zk_mem {w : Cond} (i : Nat) (h : tables_1[i]? = some w) (g : goodWord w = true) : w ∈ zk_tbl := List.mem_filter.mpr ⟨List.mem_append_right _ (List.mem_of_getElem? h), g⟩
theorem zk_memS {w : Cond} (i : Nat) (h : (k2_sels lw_privs)[i]? = some w) (g : goodWord w = true) : w ∈ zk_tbl := List.mem_filter.mpr ⟨List.mem_append_left _ (List.mem_of_getElem? h), g⟩
def zk_n0 : String := "NamedNext$Clauses"
def zk_t0 : u_T := fun k => match k with
  | 0 => ("NamedNext$Clauses", "draft", "LNamedNext$Told;", true)
  | 1 => ("NamedNext$Clauses", "done", "I", false)
  | _ => ("NamedNext$Clauses", "text", "LNamedNext$Text;", true)
def zk_y0 : Nat → FieldType := fun k => match k with
  | 0 => .object "NamedNext$Told"
  | 1 => .int
  | _ => .object "NamedNext$Text"
theorem zk_nm0 : ∀ a, a < 3 → ∀ b, b < 3 → a ≠ b → (zk_t0 a).2.1 ≠ (zk_t0 b).2.1 := by decide +kernel
theorem zk_ty0 : ∀ k, k < 3 → parseFieldDescriptor (zk_t0 k).2.2.1 = some (zk_y0 k) := by decide +kernel
theorem zk_l0_0 : u_lay zk_n0 zk_t0 0 ∈ zk_tbl := zk_mem 104 (by decide +kernel) (by decide +kernel)
theorem zk_l0_1 : u_lay zk_n0 zk_t0 1 ∈ zk_tbl := zk_mem 106 (by decide +kernel) (by decide +kernel)
theorem zk_l0_2 : u_lay zk_n0 zk_t0 2 ∈ zk_tbl := zk_mem 108 (by decide +kernel) (by decide +kernel)
theorem zk_in0 : ∀ w ∈ u_ws zk_n0 zk_t0 3, w ∈ zk_tbl := by
  intro w hw
  obtain ⟨k, hk, rfl⟩ := List.mem_map.mp hw
  have hk := List.mem_range.mp hk
  match k, hk with
  | 0, _ => exact zk_l0_0
  | 1, _ => exact zk_l0_1
  | 2, _ => exact zk_l0_2
  | k + 3, h => exact absurd h (by omega)
def zk_n1 : String := "NamedNext$Days"
def zk_t1 : u_T := fun k => match k with
  | 0 => ("NamedNext$Days", "today", "I", false)
  | 1 => ("NamedNext$Days", "holders", "[I", true)
  | 2 => ("NamedNext$Days", "had", "[I", true)
  | _ => ("NamedNext$Days", "lastNamed", "[I", true)
def zk_y1 : Nat → FieldType := fun k => match k with
  | 0 => .int
  | 1 => .array .int
  | 2 => .array .int
  | _ => .array .int
theorem zk_nm1 : ∀ a, a < 4 → ∀ b, b < 4 → a ≠ b → (zk_t1 a).2.1 ≠ (zk_t1 b).2.1 := by decide +kernel
theorem zk_ty1 : ∀ k, k < 4 → parseFieldDescriptor (zk_t1 k).2.2.1 = some (zk_y1 k) := by decide +kernel
theorem zk_l1_0 : u_lay zk_n1 zk_t1 0 ∈ zk_tbl := zk_mem 128 (by decide +kernel) (by decide +kernel)
theorem zk_l1_1 : u_lay zk_n1 zk_t1 1 ∈ zk_tbl := zk_mem 130 (by decide +kernel) (by decide +kernel)
theorem zk_l1_2 : u_lay zk_n1 zk_t1 2 ∈ zk_tbl := zk_mem 132 (by decide +kernel) (by decide +kernel)
theorem zk_l1_3 : u_lay zk_n1 zk_t1 3 ∈ zk_tbl := zk_mem 134 (by decide +kernel) (by decide +kernel)
theorem zk_in1 : ∀ w ∈ u_ws zk_n1 zk_t1 4, w ∈ zk_tbl := by
  intro w hw
  obtain ⟨k, hk, rfl⟩ := List.mem_map.mp hw
  have hk := List.mem_range.mp hk
  match k, hk with
  | 0, _ => exact zk_l1_0
  | 1, _ => exact zk_l1_1
  | 2, _ => exact zk_l1_2
  | 3, _ => exact zk_l1_3
  | k + 4, h => exact absurd h (by omega)
def zk_n2 : String := "NamedNext$Past"
def zk_t2 : u_T := fun k => match k with
  | 0 => ("NamedNext$Past", "size", "I", false)
  | 1 => ("NamedNext$Past", "next", "I", false)
  | _ => ("NamedNext$Past", "ring", "[LNamedNext$Days;", true)
def zk_y2 : Nat → FieldType := fun k => match k with
  | 0 => .int
  | 1 => .int
  | _ => .array (.object "NamedNext$Days")
theorem zk_nm2 : ∀ a, a < 3 → ∀ b, b < 3 → a ≠ b → (zk_t2 a).2.1 ≠ (zk_t2 b).2.1 := by decide +kernel
theorem zk_ty2 : ∀ k, k < 3 → parseFieldDescriptor (zk_t2 k).2.2.1 = some (zk_y2 k) := by decide +kernel
theorem zk_l2_0 : u_lay zk_n2 zk_t2 0 ∈ zk_tbl := zk_mem 150 (by decide +kernel) (by decide +kernel)
theorem zk_l2_1 : u_lay zk_n2 zk_t2 1 ∈ zk_tbl := zk_mem 152 (by decide +kernel) (by decide +kernel)
theorem zk_l2_2 : u_lay zk_n2 zk_t2 2 ∈ zk_tbl := zk_mem 154 (by decide +kernel) (by decide +kernel)
theorem zk_in2 : ∀ w ∈ u_ws zk_n2 zk_t2 3, w ∈ zk_tbl := by
  intro w hw
  obtain ⟨k, hk, rfl⟩ := List.mem_map.mp hw
  have hk := List.mem_range.mp hk
  match k, hk with
  | 0, _ => exact zk_l2_0
  | 1, _ => exact zk_l2_1
  | 2, _ => exact zk_l2_2
  | k + 3, h => exact absurd h (by omega)
def zk_n3 : String := "NamedNext$Rows"
def zk_t3 : u_T := fun k => match k with
  | 0 => ("NamedNext$Rows", "asked", "I", false)
  | 1 => ("NamedNext$Rows", "told", "LNamedNext$Told;", true)
  | 2 => ("NamedNext$Rows", "liked", "[I", true)
  | 3 => ("NamedNext$Rows", "hereAfter", "[I", true)
  | 4 => ("NamedNext$Rows", "openBehind", "[I", true)
  | 5 => ("NamedNext$Rows", "holdersBySet", "[I", true)
  | 6 => ("NamedNext$Rows", "most", "[J", true)
  | 7 => ("NamedNext$Rows", "worth", "[J", true)
  | 8 => ("NamedNext$Rows", "hadNow", "I", false)
  | _ => ("NamedNext$Rows", "holderNow", "I", false)
def zk_y3 : Nat → FieldType := fun k => match k with
  | 0 => .int
  | 1 => .object "NamedNext$Told"
  | 2 => .array .int
  | 3 => .array .int
  | 4 => .array .int
  | 5 => .array .int
  | 6 => .array .long
  | 7 => .array .long
  | 8 => .int
  | _ => .int
theorem zk_nm3 : ∀ a, a < 10 → ∀ b, b < 10 → a ≠ b → (zk_t3 a).2.1 ≠ (zk_t3 b).2.1 := by decide +kernel
theorem zk_ty3 : ∀ k, k < 10 → parseFieldDescriptor (zk_t3 k).2.2.1 = some (zk_y3 k) := by decide +kernel
theorem zk_l3_0 : u_lay zk_n3 zk_t3 0 ∈ zk_tbl := zk_mem 174 (by decide +kernel) (by decide +kernel)
theorem zk_l3_1 : u_lay zk_n3 zk_t3 1 ∈ zk_tbl := zk_mem 176 (by decide +kernel) (by decide +kernel)
theorem zk_l3_2 : u_lay zk_n3 zk_t3 2 ∈ zk_tbl := zk_mem 178 (by decide +kernel) (by decide +kernel)
theorem zk_l3_3 : u_lay zk_n3 zk_t3 3 ∈ zk_tbl := zk_mem 180 (by decide +kernel) (by decide +kernel)
theorem zk_l3_4 : u_lay zk_n3 zk_t3 4 ∈ zk_tbl := zk_mem 182 (by decide +kernel) (by decide +kernel)
theorem zk_l3_5 : u_lay zk_n3 zk_t3 5 ∈ zk_tbl := zk_mem 184 (by decide +kernel) (by decide +kernel)
theorem zk_l3_6 : u_lay zk_n3 zk_t3 6 ∈ zk_tbl := zk_mem 186 (by decide +kernel) (by decide +kernel)
theorem zk_l3_7 : u_lay zk_n3 zk_t3 7 ∈ zk_tbl := zk_mem 188 (by decide +kernel) (by decide +kernel)
theorem zk_l3_8 : u_lay zk_n3 zk_t3 8 ∈ zk_tbl := zk_mem 190 (by decide +kernel) (by decide +kernel)
theorem zk_l3_9 : u_lay zk_n3 zk_t3 9 ∈ zk_tbl := zk_mem 192 (by decide +kernel) (by decide +kernel)
theorem zk_in3 : ∀ w ∈ u_ws zk_n3 zk_t3 10, w ∈ zk_tbl := by
  intro w hw
  obtain ⟨k, hk, rfl⟩ := List.mem_map.mp hw
  have hk := List.mem_range.mp hk
  match k, hk with
  | 0, _ => exact zk_l3_0
  | 1, _ => exact zk_l3_1
  | 2, _ => exact zk_l3_2
  | 3, _ => exact zk_l3_3
  | 4, _ => exact zk_l3_4
  | 5, _ => exact zk_l3_5
  | 6, _ => exact zk_l3_6
  | 7, _ => exact zk_l3_7
  | 8, _ => exact zk_l3_8
  | 9, _ => exact zk_l3_9
  | k + 10, h => exact absurd h (by omega)
def zk_n4 : String := "NamedNext$Slips"
def zk_t4 : u_T := fun k => match k with
  | 0 => ("NamedNext$Slips", "size", "I", false)
  | 1 => ("NamedNext$Slips", "namers", "[I", true)
  | 2 => ("NamedNext$Slips", "named", "[I", true)
  | _ => ("NamedNext$Slips", "nextOf", "[I", true)
def zk_y4 : Nat → FieldType := fun k => match k with
  | 0 => .int
  | 1 => .array .int
  | 2 => .array .int
  | _ => .array .int
theorem zk_nm4 : ∀ a, a < 4 → ∀ b, b < 4 → a ≠ b → (zk_t4 a).2.1 ≠ (zk_t4 b).2.1 := by decide +kernel
theorem zk_ty4 : ∀ k, k < 4 → parseFieldDescriptor (zk_t4 k).2.2.1 = some (zk_y4 k) := by decide +kernel
theorem zk_l4_0 : u_lay zk_n4 zk_t4 0 ∈ zk_tbl := zk_mem 207 (by decide +kernel) (by decide +kernel)
theorem zk_l4_1 : u_lay zk_n4 zk_t4 1 ∈ zk_tbl := zk_mem 209 (by decide +kernel) (by decide +kernel)
theorem zk_l4_2 : u_lay zk_n4 zk_t4 2 ∈ zk_tbl := zk_mem 211 (by decide +kernel) (by decide +kernel)
theorem zk_l4_3 : u_lay zk_n4 zk_t4 3 ∈ zk_tbl := zk_mem 213 (by decide +kernel) (by decide +kernel)
theorem zk_in4 : ∀ w ∈ u_ws zk_n4 zk_t4 4, w ∈ zk_tbl := by
  intro w hw
  obtain ⟨k, hk, rfl⟩ := List.mem_map.mp hw
  have hk := List.mem_range.mp hk
  match k, hk with
  | 0, _ => exact zk_l4_0
  | 1, _ => exact zk_l4_1
  | 2, _ => exact zk_l4_2
  | 3, _ => exact zk_l4_3
  | k + 4, h => exact absurd h (by omega)
def zk_n5 : String := "NamedNext$Text"
def zk_t5 : u_T := fun k => match k with
  | 0 => ("NamedNext$Text", "letters", "[C", true)
  | 1 => ("NamedNext$Text", "length", "I", false)
  | 2 => ("NamedNext$Text", "start", "I", false)
  | _ => ("NamedNext$Text", "end", "I", false)
def zk_y5 : Nat → FieldType := fun k => match k with
  | 0 => .array .char
  | 1 => .int
  | 2 => .int
  | _ => .int
theorem zk_nm5 : ∀ a, a < 4 → ∀ b, b < 4 → a ≠ b → (zk_t5 a).2.1 ≠ (zk_t5 b).2.1 := by decide +kernel
theorem zk_ty5 : ∀ k, k < 4 → parseFieldDescriptor (zk_t5 k).2.2.1 = some (zk_y5 k) := by decide +kernel
theorem zk_l5_0 : u_lay zk_n5 zk_t5 0 ∈ zk_tbl := zk_mem 38 (by decide +kernel) (by decide +kernel)
theorem zk_l5_1 : u_lay zk_n5 zk_t5 1 ∈ zk_tbl := zk_mem 40 (by decide +kernel) (by decide +kernel)
theorem zk_l5_2 : u_lay zk_n5 zk_t5 2 ∈ zk_tbl := zk_mem 42 (by decide +kernel) (by decide +kernel)
theorem zk_l5_3 : u_lay zk_n5 zk_t5 3 ∈ zk_tbl := zk_mem 44 (by decide +kernel) (by decide +kernel)
theorem zk_in5 : ∀ w ∈ u_ws zk_n5 zk_t5 4, w ∈ zk_tbl := by
  intro w hw
  obtain ⟨k, hk, rfl⟩ := List.mem_map.mp hw
  have hk := List.mem_range.mp hk
  match k, hk with
  | 0, _ => exact zk_l5_0
  | 1, _ => exact zk_l5_1
  | 2, _ => exact zk_l5_2
  | 3, _ => exact zk_l5_3
  | k + 4, h => exact absurd h (by omega)
def zk_n6 : String := "NamedNext$Told"
def zk_t6 : u_T := fun k => match k with
  | 0 => ("NamedNext$Told", "readers", "I", false)
  | 1 => ("NamedNext$Told", "books", "I", false)
  | 2 => ("NamedNext$Told", "kinds", "[I", true)
  | 3 => ("NamedNext$Told", "ranks", "[I", true)
  | 4 => ("NamedNext$Told", "feuds", "[I", true)
  | 5 => ("NamedNext$Told", "moves", "[I", true)
  | _ => ("NamedNext$Told", "firsts", "[I", true)
def zk_y6 : Nat → FieldType := fun k => match k with
  | 0 => .int
  | 1 => .int
  | 2 => .array .int
  | 3 => .array .int
  | 4 => .array .int
  | 5 => .array .int
  | _ => .array .int
theorem zk_nm6 : ∀ a, a < 7 → ∀ b, b < 7 → a ≠ b → (zk_t6 a).2.1 ≠ (zk_t6 b).2.1 := by decide +kernel
theorem zk_ty6 : ∀ k, k < 7 → parseFieldDescriptor (zk_t6 k).2.2.1 = some (zk_y6 k) := by decide +kernel
theorem zk_l6_0 : u_lay zk_n6 zk_t6 0 ∈ zk_tbl := zk_mem 75 (by decide +kernel) (by decide +kernel)
theorem zk_l6_1 : u_lay zk_n6 zk_t6 1 ∈ zk_tbl := zk_mem 77 (by decide +kernel) (by decide +kernel)
theorem zk_l6_2 : u_lay zk_n6 zk_t6 2 ∈ zk_tbl := zk_mem 79 (by decide +kernel) (by decide +kernel)
theorem zk_l6_3 : u_lay zk_n6 zk_t6 3 ∈ zk_tbl := zk_mem 81 (by decide +kernel) (by decide +kernel)
theorem zk_l6_4 : u_lay zk_n6 zk_t6 4 ∈ zk_tbl := zk_mem 83 (by decide +kernel) (by decide +kernel)
theorem zk_l6_5 : u_lay zk_n6 zk_t6 5 ∈ zk_tbl := zk_mem 85 (by decide +kernel) (by decide +kernel)
theorem zk_l6_6 : u_lay zk_n6 zk_t6 6 ∈ zk_tbl := zk_mem 87 (by decide +kernel) (by decide +kernel)
theorem zk_in6 : ∀ w ∈ u_ws zk_n6 zk_t6 7, w ∈ zk_tbl := by
  intro w hw
  obtain ⟨k, hk, rfl⟩ := List.mem_map.mp hw
  have hk := List.mem_range.mp hk
  match k, hk with
  | 0, _ => exact zk_l6_0
  | 1, _ => exact zk_l6_1
  | 2, _ => exact zk_l6_2
  | 3, _ => exact zk_l6_3
  | 4, _ => exact zk_l6_4
  | 5, _ => exact zk_l6_5
  | 6, _ => exact zk_l6_6
  | k + 7, h => exact absurd h (by omega)
def zk_n7 : String := "NamedNext"
def zk_t7 : u_T := fun k => match k with
  | 0 => ("NamedNext", "text", "LNamedNext$Text;", true)
  | 1 => ("NamedNext", "told", "LNamedNext$Told;", true)
  | 2 => ("NamedNext", "clauses", "LNamedNext$Clauses;", true)
  | 3 => ("NamedNext", "days", "LNamedNext$Days;", true)
  | 4 => ("NamedNext", "past", "LNamedNext$Past;", true)
  | 5 => ("NamedNext", "kept", "[LNamedNext$Days;", true)
  | 6 => ("NamedNext", "keptSlots", "I", false)
  | 7 => ("NamedNext", "rows", "LNamedNext$Rows;", true)
  | 8 => ("NamedNext", "placesOfOne", "[I", true)
  | 9 => ("NamedNext", "placesOfOther", "[I", true)
  | _ => ("NamedNext", "slips", "LNamedNext$Slips;", true)
def zk_y7 : Nat → FieldType := fun k => match k with
  | 0 => .object "NamedNext$Text"
  | 1 => .object "NamedNext$Told"
  | 2 => .object "NamedNext$Clauses"
  | 3 => .object "NamedNext$Days"
  | 4 => .object "NamedNext$Past"
  | 5 => .array (.object "NamedNext$Days")
  | 6 => .int
  | 7 => .object "NamedNext$Rows"
  | 8 => .array .int
  | 9 => .array .int
  | _ => .object "NamedNext$Slips"
theorem zk_nm7 : ∀ a, a < 11 → ∀ b, b < 11 → a ≠ b → (zk_t7 a).2.1 ≠ (zk_t7 b).2.1 := by decide +kernel
theorem zk_ty7 : ∀ k, k < 11 → parseFieldDescriptor (zk_t7 k).2.2.1 = some (zk_y7 k) := by decide +kernel
theorem zk_l7_0 : u_lay zk_n7 zk_t7 0 ∈ zk_tbl := zk_mem 227 (by decide +kernel) (by decide +kernel)
theorem zk_l7_1 : u_lay zk_n7 zk_t7 1 ∈ zk_tbl := zk_mem 229 (by decide +kernel) (by decide +kernel)
theorem zk_l7_2 : u_lay zk_n7 zk_t7 2 ∈ zk_tbl := zk_mem 231 (by decide +kernel) (by decide +kernel)
theorem zk_l7_3 : u_lay zk_n7 zk_t7 3 ∈ zk_tbl := zk_mem 233 (by decide +kernel) (by decide +kernel)
theorem zk_l7_4 : u_lay zk_n7 zk_t7 4 ∈ zk_tbl := zk_mem 235 (by decide +kernel) (by decide +kernel)
theorem zk_l7_5 : u_lay zk_n7 zk_t7 5 ∈ zk_tbl := zk_mem 237 (by decide +kernel) (by decide +kernel)
theorem zk_l7_6 : u_lay zk_n7 zk_t7 6 ∈ zk_tbl := zk_mem 239 (by decide +kernel) (by decide +kernel)
theorem zk_l7_7 : u_lay zk_n7 zk_t7 7 ∈ zk_tbl := zk_mem 241 (by decide +kernel) (by decide +kernel)
theorem zk_l7_8 : u_lay zk_n7 zk_t7 8 ∈ zk_tbl := zk_mem 243 (by decide +kernel) (by decide +kernel)
theorem zk_l7_9 : u_lay zk_n7 zk_t7 9 ∈ zk_tbl := zk_mem 245 (by decide +kernel) (by decide +kernel)
theorem zk_l7_10 : u_lay zk_n7 zk_t7 10 ∈ zk_tbl := zk_mem 247 (by decide +kernel) (by decide +kernel)
theorem zk_in7 : ∀ w ∈ u_ws zk_n7 zk_t7 11, w ∈ zk_tbl := by
  intro w hw
  obtain ⟨k, hk, rfl⟩ := List.mem_map.mp hw
  have hk := List.mem_range.mp hk
  match k, hk with
  | 0, _ => exact zk_l7_0
  | 1, _ => exact zk_l7_1
  | 2, _ => exact zk_l7_2
  | 3, _ => exact zk_l7_3
  | 4, _ => exact zk_l7_4
  | 5, _ => exact zk_l7_5
  | 6, _ => exact zk_l7_6
  | 7, _ => exact zk_l7_7
  | 8, _ => exact zk_l7_8
  | 9, _ => exact zk_l7_9
  | 10, _ => exact zk_l7_10
  | k + 11, h => exact absurd h (by omega)
def zk_n8 : String := "NamedNextModel"
def zk_t8 : u_T := fun k => match k with
  | 0 => ("NamedNextModel", "text", "[I", true)
  | 1 => ("NamedNextModel", "typed", "I", false)
  | 2 => ("NamedNextModel", "told", "[I", true)
  | 3 => ("NamedNextModel", "draft", "[I", true)
  | 4 => ("NamedNextModel", "s", "[I", true)
  | 5 => ("NamedNextModel", "past", "[I", true)
  | 6 => ("NamedNextModel", "known", "I", false)
  | 7 => ("NamedNextModel", "images", "[I", true)
  | 8 => ("NamedNextModel", "kept", "[Z", true)
  | 9 => ("NamedNextModel", "slips", "[I", true)
  | 10 => ("NamedNextModel", "many", "I", false)
  | 11 => ("NamedNextModel", "sort", "I", false)
  | 12 => ("NamedNextModel", "start", "I", false)
  | 13 => ("NamedNextModel", "at", "I", false)
  | 14 => ("NamedNextModel", "value", "I", false)
  | 15 => ("NamedNextModel", "longs", "[I", true)
  | 16 => ("NamedNextModel", "rows", "[I", true)
  | 17 => ("NamedNextModel", "alls", "[I", true)
  | 18 => ("NamedNextModel", "shorts", "[I", true)
  | 19 => ("NamedNextModel", "cans", "[I", true)
  | 20 => ("NamedNextModel", "fames", "[I", true)
  | 21 => ("NamedNextModel", "wins", "[Z", true)
  | 22 => ("NamedNextModel", "odds", "[J", true)
  | _ => ("NamedNextModel", "names", "[I", true)
def zk_y8 : Nat → FieldType := fun k => match k with
  | 0 => .array .int
  | 1 => .int
  | 2 => .array .int
  | 3 => .array .int
  | 4 => .array .int
  | 5 => .array .int
  | 6 => .int
  | 7 => .array .int
  | 8 => .array .boolean
  | 9 => .array .int
  | 10 => .int
  | 11 => .int
  | 12 => .int
  | 13 => .int
  | 14 => .int
  | 15 => .array .int
  | 16 => .array .int
  | 17 => .array .int
  | 18 => .array .int
  | 19 => .array .int
  | 20 => .array .int
  | 21 => .array .boolean
  | 22 => .array .long
  | _ => .array .int
theorem zk_nm8 : ∀ a, a < 24 → ∀ b, b < 24 → a ≠ b → (zk_t8 a).2.1 ≠ (zk_t8 b).2.1 := by decide +kernel
theorem zk_ty8 : ∀ k, k < 24 → parseFieldDescriptor (zk_t8 k).2.2.1 = some (zk_y8 k) := by decide +kernel
theorem zk_l8_0 : u_lay zk_n8 zk_t8 0 ∈ zk_tbl := zk_mem 783 (by decide +kernel) (by decide +kernel)
theorem zk_l8_1 : u_lay zk_n8 zk_t8 1 ∈ zk_tbl := zk_mem 785 (by decide +kernel) (by decide +kernel)
theorem zk_l8_2 : u_lay zk_n8 zk_t8 2 ∈ zk_tbl := zk_mem 787 (by decide +kernel) (by decide +kernel)
theorem zk_l8_3 : u_lay zk_n8 zk_t8 3 ∈ zk_tbl := zk_mem 789 (by decide +kernel) (by decide +kernel)
theorem zk_l8_4 : u_lay zk_n8 zk_t8 4 ∈ zk_tbl := zk_mem 791 (by decide +kernel) (by decide +kernel)
theorem zk_l8_5 : u_lay zk_n8 zk_t8 5 ∈ zk_tbl := zk_mem 793 (by decide +kernel) (by decide +kernel)
theorem zk_l8_6 : u_lay zk_n8 zk_t8 6 ∈ zk_tbl := zk_mem 795 (by decide +kernel) (by decide +kernel)
theorem zk_l8_7 : u_lay zk_n8 zk_t8 7 ∈ zk_tbl := zk_mem 797 (by decide +kernel) (by decide +kernel)
theorem zk_l8_8 : u_lay zk_n8 zk_t8 8 ∈ zk_tbl := zk_mem 799 (by decide +kernel) (by decide +kernel)
theorem zk_l8_9 : u_lay zk_n8 zk_t8 9 ∈ zk_tbl := zk_mem 801 (by decide +kernel) (by decide +kernel)
theorem zk_l8_10 : u_lay zk_n8 zk_t8 10 ∈ zk_tbl := zk_mem 803 (by decide +kernel) (by decide +kernel)
theorem zk_l8_11 : u_lay zk_n8 zk_t8 11 ∈ zk_tbl := zk_mem 805 (by decide +kernel) (by decide +kernel)
theorem zk_l8_12 : u_lay zk_n8 zk_t8 12 ∈ zk_tbl := zk_mem 807 (by decide +kernel) (by decide +kernel)
theorem zk_l8_13 : u_lay zk_n8 zk_t8 13 ∈ zk_tbl := zk_mem 809 (by decide +kernel) (by decide +kernel)
theorem zk_l8_14 : u_lay zk_n8 zk_t8 14 ∈ zk_tbl := zk_mem 811 (by decide +kernel) (by decide +kernel)
theorem zk_l8_15 : u_lay zk_n8 zk_t8 15 ∈ zk_tbl := zk_mem 813 (by decide +kernel) (by decide +kernel)
theorem zk_l8_16 : u_lay zk_n8 zk_t8 16 ∈ zk_tbl := zk_mem 815 (by decide +kernel) (by decide +kernel)
theorem zk_l8_17 : u_lay zk_n8 zk_t8 17 ∈ zk_tbl := zk_mem 817 (by decide +kernel) (by decide +kernel)
theorem zk_l8_18 : u_lay zk_n8 zk_t8 18 ∈ zk_tbl := zk_mem 819 (by decide +kernel) (by decide +kernel)
theorem zk_l8_19 : u_lay zk_n8 zk_t8 19 ∈ zk_tbl := zk_mem 821 (by decide +kernel) (by decide +kernel)
theorem zk_l8_20 : u_lay zk_n8 zk_t8 20 ∈ zk_tbl := zk_mem 823 (by decide +kernel) (by decide +kernel)
theorem zk_l8_21 : u_lay zk_n8 zk_t8 21 ∈ zk_tbl := zk_mem 825 (by decide +kernel) (by decide +kernel)
theorem zk_l8_22 : u_lay zk_n8 zk_t8 22 ∈ zk_tbl := zk_mem 827 (by decide +kernel) (by decide +kernel)
theorem zk_l8_23 : u_lay zk_n8 zk_t8 23 ∈ zk_tbl := zk_mem 829 (by decide +kernel) (by decide +kernel)
theorem zk_in8 : ∀ w ∈ u_ws zk_n8 zk_t8 24, w ∈ zk_tbl := by
  intro w hw
  obtain ⟨k, hk, rfl⟩ := List.mem_map.mp hw
  have hk := List.mem_range.mp hk
  match k, hk with
  | 0, _ => exact zk_l8_0
  | 1, _ => exact zk_l8_1
  | 2, _ => exact zk_l8_2
  | 3, _ => exact zk_l8_3
  | 4, _ => exact zk_l8_4
  | 5, _ => exact zk_l8_5
  | 6, _ => exact zk_l8_6
  | 7, _ => exact zk_l8_7
  | 8, _ => exact zk_l8_8
  | 9, _ => exact zk_l8_9
  | 10, _ => exact zk_l8_10
  | 11, _ => exact zk_l8_11
  | 12, _ => exact zk_l8_12
  | 13, _ => exact zk_l8_13
  | 14, _ => exact zk_l8_14
  | 15, _ => exact zk_l8_15
  | 16, _ => exact zk_l8_16
  | 17, _ => exact zk_l8_17
  | 18, _ => exact zk_l8_18
  | 19, _ => exact zk_l8_19
  | 20, _ => exact zk_l8_20
  | 21, _ => exact zk_l8_21
  | 22, _ => exact zk_l8_22
  | 23, _ => exact zk_l8_23
  | k + 24, h => exact absurd h (by omega)
abbrev zk_cl : List vw_C := [(zk_n0, zk_t0, 3), (zk_n1, zk_t1, 4), (zk_n2, zk_t2, 3), (zk_n3, zk_t3, 10), (zk_n4, zk_t4, 4), (zk_n5, zk_t5, 4), (zk_n6, zk_t6, 7), (zk_n7, zk_t7, 11), (zk_n8, zk_t8, 24)]
/-- is the field a reference? by class -/
def zk_ft (k : Nat) : List Bool := match k with
  | 0 => [true, false, true]
  | 1 => [false, true, true, true]
  | 2 => [false, false, true]
  | 3 => [false, true, true, true, true, true, true, true, false, false]
  | 4 => [false, true, true, true]
  | 5 => [true, false, false, false]
  | 6 => [false, false, true, true, true, true, true]
  | 7 => [true, true, true, true, true, true, false, true, true, true, true]
  | 8 => [true, false, true, true, true, true, false, true, true, true, false, false, false, false, false, true, true, true, true, true, true, true, true, true]
  | _ => []
end
section
/-! A small machine of its own over the kit's rows: a memory of numbered cells (how many; of what kind and length; references; ints; longs), a method with its table of instructions, and the judgement zC: from here the method comes to its end with this answer and this memory. -/
abbrev zk_I : Type := Nat → Nat → Int32
abbrev zk_J : Type := Nat → Nat → Int64
abbrev zk_Z : Type := Nat × (Nat → Nat × Nat) × (Nat → Nat → Option Nat)
abbrev zk_M : Type := zk_Z × zk_I × zk_J
abbrev zk_E : Type := va_G × (Nat → ClassId) × Nat × (Nat → Nat)
abbrev zk_X : Type := Nat × (Nat → Int32)
def zk_ad (E : zk_E) (c : Nat) : Nat := if c < 1000 then E.2.2.1 + c else E.2.2.2 c
def zk_tr (E : zk_E) : Value → Value
  | .ref c => .ref (zk_ad E c)
  | v => v
def zk_A (E : zk_E) : Nat → Prop := fun q => E.2.2.1 ≤ q
/-- a cell of the memory, as the kit tells it; kinds: 0 .. 8 an object of that class; 20 ints, 21 longs, 22 booleans, 23 chars, 24 references to Days -/
def zk_fv (E : zk_E) (M : zk_M) (c j : Nat) (r : Bool) : Value := if r then va_rf ((M.1.2.2 c j).map (zk_ad E)) else .int (M.2.1 c j)
def zk_fs (E : zk_E) (M : zk_M) (k c : Nat) : List Value := (zk_ft k).mapIdx (zk_fv E M c)
def zk_ce (E : zk_E) (M : zk_M) (c : Nat) : va_E :=
  if (M.1.2.1 c).1 = 20 then .inl (E.2.1 0, (M.1.2.1 c).2, .inl (M.2.1 c))
  else if (M.1.2.1 c).1 = 21 then .inl (E.2.1 1, (M.1.2.1 c).2, .inr (.inl (M.2.2 c)))
  else if (M.1.2.1 c).1 = 22 then .inl (E.2.1 2, (M.1.2.1 c).2, .inl (M.2.1 c))
  else if (M.1.2.1 c).1 = 23 then .inl (E.2.1 3, (M.1.2.1 c).2, .inl (M.2.1 c))
  else if (M.1.2.1 c).1 = 24 then .inl (E.2.1 4, (M.1.2.1 c).2, .inr (.inr (.inr (.inr (fun j => (M.1.2.2 c j).map (zk_ad E))))))
  else .inr ((M.1.2.1 c).1, zk_fs E M (M.1.2.1 c).1 c)
def zk_ws (E : zk_E) (M : zk_M) : va_W := (List.range M.1.1).map (fun c => (zk_ad E c, zk_ce E M c))
def zk_tys (E : zk_E) : List (ClassId × FieldType) := [(E.2.1 0, .int), (E.2.1 1, .long), (E.2.1 2, .boolean), (E.2.1 3, .char), (E.2.1 4, .object "NamedNext$Days")]
/-- the heap holds the memory -/
def zk_R (E : zk_E) (M : zk_M) (U : State) (H : Heap) : Prop :=
  va_P E.1 zk_cl (zk_ws E M) H ∧ va_K E.1 zk_cl (zk_tys E) U ∧ M.1.1 ≤ 1000
/-- tables of the class's own that never change -/
def zk_wh : Nat → Int32 := fun j => ([3, 7, 9, 23] : List Int32).getD j 0
def zk_lots : Nat → Int64 := fun j => ([1, 1, 2, 12, 144, 8640, 518400, 217728000] : List Int64).getD j 0
/-- the words: "plain" 0, "flatterer" 1, "blind" 2, "sulker" 3, "feud" 4, "move" 5, "book" 6, "peace" 7, "library" 8, ";" 9 -/
def zk_sb : List (List Int32) := [[112, 108, 97, 105, 110], [102, 108, 97, 116, 116, 101, 114, 101, 114], [98, 108, 105, 110, 100], [115, 117, 108, 107, 101, 114], [102, 101, 117, 100], [109, 111, 118, 101], [98, 111, 111, 107], [112, 101, 97, 99, 101], [108, 105, 98, 114, 97, 114, 121], [59]]
def zk_sl : List Nat := [5, 9, 5, 6, 4, 4, 4, 5, 7, 1]
def zk_sk : List (Nat × String) := [(87, "plain"), (89, "flatterer"), (91, "blind"), (93, "sulker"), (62, "feud"), (67, "move"), (72, "book"), (77, "peace"), (82, "library"), (45, ";")]
/-- the links to what is private beside -/
def zk_nest : List (String × Nat × MethodName × String) := [("NamedNext", 9, ⟨"NamedNext$Text", "<init>", "()V"⟩, "NamedNext"), ("NamedNext", 18, ⟨"NamedNext$Told", "<init>", "()V"⟩, "NamedNext"), ("NamedNext$Clauses", 11, ⟨"NamedNext$Told", "<init>", "()V"⟩, "NamedNext"), ("NamedNext", 34, ⟨"NamedNext$Days", "<init>", "()V"⟩, "NamedNext"), ("NamedNext$Past", 17, ⟨"NamedNext$Days", "<init>", "()V"⟩, "NamedNext"), ("NamedNext", 68, ⟨"NamedNext$Slips", "<init>", "()V"⟩, "NamedNext"), ("NamedNext$Told", 62, ⟨"NamedNext", "hasBit", "(II)Z"⟩, "NamedNext"), ("NamedNext$Rows", 70, ⟨"NamedNext", "hasBit", "(II)Z"⟩, "NamedNext"), ("NamedNext$Rows", 80, ⟨"NamedNext", "leastOf", "(I)I"⟩, "NamedNext"), ("NamedNext$Slips", 39, ⟨"NamedNext", "hasBit", "(II)Z"⟩, "NamedNext"), ("NamedNext$Slips", 43, ⟨"NamedNext", "leastOf", "(I)I"⟩, "NamedNext")]
/-- what lies outside: the script (1000), two tables (1001, 1002), a formatter (1003), words (1010 ..), their bytes (1030 ..) -/
def zk_Xt (X : zk_X) (E : zk_E) (U : State) (H : Heap) : Prop :=
  (va_X (E.2.2.2 1000) X.1 X.2 U H ∧ E.2.2.2 1000 < E.2.2.1) ∧
  (va_Z "NamedNext" "WHAT_HE_IS" "[I" (.ref (E.2.2.2 1001)) (zk_A E) U H ∧ va_T .int (E.2.2.2 1001) 4 (fun j => .int (zk_wh j)) (zk_A E) U H) ∧
  (va_Z "NamedNext$Rows" "LOTS" "[J" (.ref (E.2.2.2 1002)) (zk_A E) U H ∧ va_T .long (E.2.2.2 1002) 8 (fun j => .long (zk_lots j)) (zk_A E) U H) ∧
  (va_Z "jdk/internal/util/Preconditions" "SIOOBE_FORMATTER" "Ljava/util/function/BiFunction;" .null (zk_A E) U H ∨ va_Z "jdk/internal/util/Preconditions" "SIOOBE_FORMATTER" "Ljava/util/function/BiFunction;" (.ref (E.2.2.2 1003)) (zk_A E) U H) ∧
  va_Z "java/lang/String" "COMPACT_STRINGS" "Z" (.int 1) (zk_A E) U H ∧
  vk_S 10 zk_sl zk_sb (fun i => E.2.2.2 (1010 + i)) (fun i => E.2.2.2 (1030 + i)) (zk_A E) U H ∧
  (∀ i : Nat, i < 10 → vk_R "NamedNext$Clauses" (zk_sk.getD i (0, "")).1 (zk_sk.getD i (0, "")).2 (E.2.2.2 (1010 + i)) U) ∧
  E.2.2.1 ≤ H.size ∧
  (∀ q ∈ zk_nest, va_Nw (.methodLinkNest q.1 q.2.1 q.2.2.1 q.2.2.2) U) ∧ va_AO "NamedNext$Days" U
/-- a method: name, bytes, locals, what it answers, its table (place, instruction, next place, target) -/
abbrev zk_Mt : Type := MethodName × ByteArray × Nat × Option FieldType × List (Nat × Instr × Nat × Nat)
def zk_ln : Instr → Nat
  | .aload _ | .astore _ | .iload _ | .istore _ | .lload _ | .lstore _ | .bipush _ | .ldc _ | .newarray _ => 2
  | .anewarray _ | .getfield _ | .putfield _ | .getstatic _ | .goto _ | .if_icmp _ _ | .ifCond _ _ | .iinc _ _ | .invokespecial _ | .invokestatic _ | .invokevirtual _ | .ldc_w _ | .ldc2_w _ | .new _ | .sipush _ => 3
  | _ => 1
def zk_tg : Instr → Option Int
  | .goto o => some o
  | .if_icmp _ o => some o
  | .ifCond _ o => some o
  | _ => none
def zk_sw : Instr → Bool
  | .tableswitch _ _ _ _ => true
  | _ => false
def zk_chk (b : ByteArray) (q : Nat × Instr × Nat × Nat) : Bool :=
  decide (decode b q.1 = .ok (q.2.1, q.2.2.1 - q.1)) && (zk_sw q.2.1 || decide (q.2.2.1 = q.1 + zk_ln q.2.1)) && (match zk_tg q.2.1 with
    | some o => decide ((q.1 : Int) + o = (q.2.2.2 : Int))
    | none => true)
def zk_lk : List (Nat × Instr × Nat × Nat) → Nat → Option (Instr × Nat × Nat)
  | [], _ => none
  | q :: t, pc => bif Nat.beq q.1 pc then some q.2 else zk_lk t pc
abbrev zk_at (mt : zk_Mt) (pc : Nat) : Option (Instr × Nat × Nat) := zk_lk mt.2.2.2.2 pc
def zk_ok (mt : zk_Mt) : Prop := mt.2.2.2.2.all (zk_chk mt.2.1) = true
theorem zk_lk_mem : ∀ (l : List (Nat × Instr × Nat × Nat)) (pc : Nat) (r : Instr × Nat × Nat), zk_lk l pc = some r → (pc, r) ∈ l
  | [], _, _, h => by cases h
  | q :: t, pc, r, h => by
    unfold zk_lk at h
    cases hb : Nat.beq q.1 pc with
    | true =>
      rw [hb] at h
      have e : q.1 = pc := Nat.eq_of_beq_eq_true hb
      have e2 : q.2 = r := Option.some.inj h
      subst e; subst e2
      exact List.mem_cons_self
    | false =>
      rw [hb] at h
      exact List.mem_cons_of_mem _ (zk_lk_mem t pc r h)
theorem zk_row {mt : zk_Mt} (ho : zk_ok mt) {pc npc tg : Nat} {i : Instr} (h : zk_at mt pc = some (i, npc, tg)) : decode mt.2.1 pc = .ok (i, npc - pc) ∧ (zk_sw i = true ∨ npc = pc + zk_ln i) ∧ ∀ o, zk_tg i = some o → (pc : Int) + o = (tg : Int) := by
  have h1 := List.all_eq_true.mp ho _ (zk_lk_mem _ _ _ h)
  simp only [zk_chk, Bool.and_eq_true, Bool.or_eq_true, decide_eq_true_eq] at h1
  refine ⟨h1.1.1, h1.1.2, fun o hq => ?_⟩
  have h2 := h1.2
  rw [hq] at h2
  exact of_decide_eq_true h2
theorem zk_d {mt : zk_Mt} (ho : zk_ok mt) {pc npc tg : Nat} {i : Instr} (h : zk_at mt pc = some (i, npc, tg)) (hs : zk_sw i = false) : npc = pc + zk_ln i ∧ decode mt.2.1 pc = .ok (i, zk_ln i) := by
  obtain ⟨h1, h2, -⟩ := zk_row ho h
  rcases h2 with h2 | h2
  · rw [hs] at h2; cases h2
  · refine ⟨h2, ?_⟩
    rw [h1, h2, Nat.add_sub_cancel_left]
/-- what stands while a method runs -/
def zk_Cx (X : zk_X) (E : zk_E) (mt : zk_Mt) (p : Program) (s : State) (m : MethodId) (args : Array Value) (meth : Method) (c : Code) : Prop :=
  p.tables.exec = Jvm.exec ∧ c.code = mt.2.1 ∧ zk_ok mt ∧ meth.sig.returnType = mt.2.2.2.1 ∧ c.maxLocals = mt.2.2.1 ∧ s.vm.findClass mt.1.cls = some m.cls ∧ (∀ w ∈ zk_tbl, w.before args s = true) ∧ meth.locks = false ∧ meth.name = mt.1.name ∧ zk_Xt X E s s.heap
/-- the locals -/
def zk_lv (E : zk_E) (n : Nat) (ls : Array Slot) (L : List (Option Value)) : Prop := ls.size = n ∧ lv_wf ls ∧ ∀ (i : Nat) (v : Value), L[i]? = some (some v) → ls[i]? = some (.val (zk_tr E v))
/-- a method's end -/
def zk_ret (mt : zk_Mt) (pc : Nat) (rv : Option Value) : Prop :=
  (rv = none ∧ mt.2.2.2.1 = none ∧ decode mt.2.1 pc = .ok (.return_, 1)) ∨ (∃ (v : Int32) (ty : FieldType), rv = some (.int v) ∧ mt.2.2.2.1 = some ty ∧ narrow ty (.int v) = .int v ∧ decode mt.2.1 pc = .ok (.ireturn, 1)) ∨ (∃ v : Int64, rv = some (.long v) ∧ mt.2.2.2.1 = some .long ∧ decode mt.2.1 pc = .ok (.lreturn, 1))
/-- the judgement -/
def zC (X : zk_X) (d : Nat) (mt : zk_Mt) (pc : Nat) (L : List (Option Value)) (st : List Value) (M : zk_M) (dc ds : Nat) (rv : Option Value) (M' : zk_M) : Prop :=
  ∀ (E : zk_E) (p : Program) (l : Launch) (e : Env) (R : Room) (s : State) (m : MethodId) (args : Array Value) (below : List Frame) (meth : Method) (c : Code) (H : Heap) (locs : List Loc) (cells slots : Nat) (Q : State → Prop) (ls : Array Slot),
    zk_Cx X E mt p s m args meth c → zk_R E M s H → va_S (zk_A E) s.heap H locs → zk_lv E mt.2.2.1 ls L → (d ≤ R.frames ∧ 60 * d ≤ R.locals ∧ cells + dc ≤ R.cells ∧ slots + ds ≤ R.slots ∧ s.heap.size + cells = E.2.2.1 + M.1.1) →
    (∀ (pc' : Nat) (ls' : Array Slot) (H' : Heap) (locs' : List Loc), zk_ret mt pc' rv → zk_R E M' s H' → va_S (zk_A E) s.heap H' locs' → W p l e R s m args below meth c H' locs' (cells + dc) (slots + ds) Q (F0 m pc' ls' (rv.toList.map (zk_tr E)))) →
    W p l e R s m args below meth c H locs cells slots Q (F0 m pc ls (st.map (zk_tr E)))
/-! the locals written -/
def zk_clr (L : List (Option Value)) (i : Nat) : List (Option Value) := match i with
  | 0 => L
  | j + 1 => match L[j]? with
    | some (some (.long _)) => L.set j none
    | _ => L
def zk_set (L : List (Option Value)) (i : Nat) (v : Value) : List (Option Value) := (zk_clr L i).set i (some v)
def zk_set2 (L : List (Option Value)) (i : Nat) (v : Value) : List (Option Value) := ((zk_clr L i).set i (some v)).set (i + 1) none
def zk_pr (E : zk_E) (L : List (Option Value)) : List (Nat × Value) := (List.range L.length).filterMap (fun i => (L[i]?).join.map (fun v => (i, zk_tr E v)))
theorem zk_pr_mem {E : zk_E} {L : List (Option Value)} {i : Nat} {w : Value} : (i, w) ∈ zk_pr E L ↔ ∃ v, L[i]? = some (some v) ∧ w = zk_tr E v := by
  simp only [zk_pr, List.mem_filterMap, List.mem_range]
  constructor
  · rintro ⟨j, hj, h⟩
    cases hL : L[j]? with
    | none => rw [hL] at h; cases h
    | some o =>
      cases o with
      | none => rw [hL] at h; cases h
      | some v =>
        rw [hL] at h
        have h := Option.some.inj h
        have e1 : j = i := congrArg Prod.fst h
        have e2 : zk_tr E v = w := congrArg Prod.snd h
        subst e1
        exact ⟨v, hL, e2.symm⟩
  · rintro ⟨v, h1, rfl⟩
    refine ⟨i, (List.getElem?_eq_some_iff.mp h1).1, ?_⟩
    rw [h1]
    rfl
theorem zk_lv.has {E : zk_E} {n : Nat} {ls : Array Slot} {L : List (Option Value)} (h : zk_lv E n ls L) : lv_has ls n (zk_pr E L) := by
  refine ⟨h.1, h.2.1, fun q hq => ?_⟩
  obtain ⟨i, w⟩ := q
  obtain ⟨v, h1, rfl⟩ := zk_pr_mem.mp hq
  exact h.2.2 i v h1
theorem zk_tr_cat (E : zk_E) (v : Value) : (zk_tr E v).category = v.category := by cases v <;> rfl
theorem zk_clr_get {L : List (Option Value)} {i k : Nat} {v : Value} (h : (zk_clr L i)[k]? = some (some v)) : L[k]? = some (some v) ∧ ¬ (k + 1 = i ∧ v.category = 2 ∧ ∃ x, v = .long x) := by
  cases i with
  | zero => exact ⟨h, fun q => by omega⟩
  | succ j =>
    simp only [zk_clr] at h
    split at h
    next x hx =>
      by_cases hk : k = j
      · subst hk
        rw [List.getElem?_set_self (List.getElem?_eq_some_iff.mp hx).1] at h
        cases h
      · rw [List.getElem?_set_ne (Ne.symm hk)] at h
        exact ⟨h, fun q => hk (by omega)⟩
    next hn =>
      refine ⟨h, fun q => ?_⟩
      obtain ⟨q1, -, x, rfl⟩ := q
      have : k = j := by omega
      subst this
      exact hn x h
/-- no value here is a double -/
def zk_nod (L : List (Option Value)) : Bool := L.all (fun o => match o with
  | some (.double _) => false
  | _ => true)
theorem zk_lv.set {E : zk_E} {n : Nat} {ls' : Array Slot} {L : List (Option Value)} {i : Nat} {v : Value} (hd : zk_nod L = true) (h : lv_has ls' n ((i, zk_tr E v) :: (zk_pr E L).filter (fun q => !(q.1 == i) && !(q.1 + 1 == i && q.2.category == 2)))) : zk_lv E n ls' (zk_set L i v) := by
  refine ⟨h.1, h.2.1, fun k w hk => ?_⟩
  by_cases hki : k = i
  · subst hki
    have hlt : k < (zk_clr L k).length := by
      have := (List.getElem?_eq_some_iff.mp hk).1
      simpa [zk_set] using this
    simp only [zk_set, List.getElem?_set_self hlt] at hk
    cases hk
    exact h.2.2 (k, zk_tr E v) List.mem_cons_self
  · simp only [zk_set, List.getElem?_set_ne (Ne.symm hki)] at hk
    obtain ⟨h1, h2⟩ := zk_clr_get hk
    refine h.2.2 (k, zk_tr E w) (List.mem_cons_of_mem _ (List.mem_filter.mpr ⟨zk_pr_mem.mpr ⟨w, h1, rfl⟩, ?_⟩))
    simp only [Bool.and_eq_true, Bool.not_eq_true', beq_eq_false_iff_ne, ne_eq, Bool.and_eq_false_iff, zk_tr_cat]
    refine ⟨hki, ?_⟩
    by_cases hk1 : k + 1 = i
    · right
      intro hc
      apply h2
      refine ⟨hk1, hc, ?_⟩
      cases w with
      | long x => exact ⟨x, rfl⟩
      | double x =>
        have := List.all_eq_true.mp hd _ (List.mem_of_getElem? h1)
        cases this
      | _ => cases hc
    · exact Or.inl hk1
theorem zk_lv.set2 {E : zk_E} {n : Nat} {ls' : Array Slot} {L : List (Option Value)} {i : Nat} {v : Value} (hd : zk_nod L = true) (h : lv_has ls' n ((i, zk_tr E v) :: (zk_pr E L).filter (fun q => !(q.1 == i) && (!(q.1 == i + 1) && !(q.1 + 1 == i && q.2.category == 2))))) : zk_lv E n ls' (zk_set2 L i v) := by
  refine ⟨h.1, h.2.1, fun k w hk => ?_⟩
  by_cases hk1 : k = i + 1
  · subst hk1
    have hlt : i + 1 < ((zk_clr L i).set i (some v)).length := by
      have := (List.getElem?_eq_some_iff.mp hk).1
      simpa [zk_set2] using this
    simp only [zk_set2, List.getElem?_set_self hlt] at hk
    cases hk
  · simp only [zk_set2, List.getElem?_set_ne (Ne.symm hk1)] at hk
    by_cases hki : k = i
    · subst hki
      have hlt : k < (zk_clr L k).length := by
        have := (List.getElem?_eq_some_iff.mp hk).1
        simpa using this
      rw [List.getElem?_set_self hlt] at hk
      cases hk
      exact h.2.2 (k, zk_tr E v) List.mem_cons_self
    · rw [List.getElem?_set_ne (Ne.symm hki)] at hk
      obtain ⟨h1, h2⟩ := zk_clr_get hk
      refine h.2.2 (k, zk_tr E w) (List.mem_cons_of_mem _ (List.mem_filter.mpr ⟨zk_pr_mem.mpr ⟨w, h1, rfl⟩, ?_⟩))
      simp only [Bool.and_eq_true, Bool.not_eq_true', beq_eq_false_iff_ne, ne_eq, Bool.and_eq_false_iff, zk_tr_cat]
      refine ⟨hki, hk1, ?_⟩
      by_cases hk2 : k + 1 = i
      · right
        intro hc
        apply h2
        refine ⟨hk2, hc, ?_⟩
        cases w with
        | long x => exact ⟨x, rfl⟩
        | double x =>
          have := List.all_eq_true.mp hd _ (List.mem_of_getElem? h1)
          cases this
        | _ => cases hc
      · exact Or.inl hk2
end
section
/-! the rows of the judgement, one an instruction -/
section ZR
variable {X : zk_X} {d pc npc tg : Nat} {mt : zk_Mt} {L : List (Option Value)} {st : List Value} {M M' : zk_M} {dc ds : Nat} {rv : Option Value}
def zk_get : List (Option Value) → Nat → Option Value
  | [], _ => none
  | o :: _, 0 => o
  | _ :: t, n + 1 => zk_get t n
theorem zk_get_ok : ∀ {L : List (Option Value)} {i : Nat} {v : Value}, zk_get L i = some v → L[i]? = some (some v)
  | [], _, _, h => by cases h
  | _ :: _, 0, _, h => by rw [List.getElem?_cons_zero]; exact congrArg some h
  | _ :: t, n + 1, _, h => by rw [List.getElem?_cons_succ]; exact zk_get_ok (L := t) h
theorem c_iadd {x y : Int32} (h : zk_at mt pc = some (.iadd, npc, tg)) (k : zC X d mt npc L (.int (x + y) :: st) M dc ds rv M') : zC X d mt pc L (.int y :: .int x :: st) M dc ds rv M' := by
  intro E p l e R s m args below meth c H locs cells slots Q ls hC hR hS hl hr hk
  obtain ⟨hn, hd⟩ := zk_d hC.2.2.1 h rfl
  subst hn
  exact lv_iadd hC.1 hC.2.1 hd (k E p l e R s m args below meth c H locs cells slots Q ls hC hR hS hl hr hk)
theorem c_isub {x y : Int32} (h : zk_at mt pc = some (.isub, npc, tg)) (k : zC X d mt npc L (.int (x - y) :: st) M dc ds rv M') : zC X d mt pc L (.int y :: .int x :: st) M dc ds rv M' := by
  intro E p l e R s m args below meth c H locs cells slots Q ls hC hR hS hl hr hk
  obtain ⟨hn, hd⟩ := zk_d hC.2.2.1 h rfl
  subst hn
  exact lv_isub hC.1 hC.2.1 hd (k E p l e R s m args below meth c H locs cells slots Q ls hC hR hS hl hr hk)
theorem c_imul {x y : Int32} (h : zk_at mt pc = some (.imul, npc, tg)) (k : zC X d mt npc L (.int (x * y) :: st) M dc ds rv M') : zC X d mt pc L (.int y :: .int x :: st) M dc ds rv M' := by
  intro E p l e R s m args below meth c H locs cells slots Q ls hC hR hS hl hr hk
  obtain ⟨hn, hd⟩ := zk_d hC.2.2.1 h rfl
  subst hn
  exact lv_imul hC.1 hC.2.1 hd (k E p l e R s m args below meth c H locs cells slots Q ls hC hR hS hl hr hk)
theorem c_iand {x y : Int32} (h : zk_at mt pc = some (.iand, npc, tg)) (k : zC X d mt npc L (.int (x &&& y) :: st) M dc ds rv M') : zC X d mt pc L (.int y :: .int x :: st) M dc ds rv M' := by
  intro E p l e R s m args below meth c H locs cells slots Q ls hC hR hS hl hr hk
  obtain ⟨hn, hd⟩ := zk_d hC.2.2.1 h rfl
  subst hn
  exact lv_iand hC.1 hC.2.1 hd (k E p l e R s m args below meth c H locs cells slots Q ls hC hR hS hl hr hk)
theorem c_ior {x y : Int32} (h : zk_at mt pc = some (.ior, npc, tg)) (k : zC X d mt npc L (.int (x ||| y) :: st) M dc ds rv M') : zC X d mt pc L (.int y :: .int x :: st) M dc ds rv M' := by
  intro E p l e R s m args below meth c H locs cells slots Q ls hC hR hS hl hr hk
  obtain ⟨hn, hd⟩ := zk_d hC.2.2.1 h rfl
  subst hn
  exact lv_ior hC.1 hC.2.1 hd (k E p l e R s m args below meth c H locs cells slots Q ls hC hR hS hl hr hk)
theorem c_ixor {x y : Int32} (h : zk_at mt pc = some (.ixor, npc, tg)) (k : zC X d mt npc L (.int (x ^^^ y) :: st) M dc ds rv M') : zC X d mt pc L (.int y :: .int x :: st) M dc ds rv M' := by
  intro E p l e R s m args below meth c H locs cells slots Q ls hC hR hS hl hr hk
  obtain ⟨hn, hd⟩ := zk_d hC.2.2.1 h rfl
  subst hn
  exact lv_ixor hC.1 hC.2.1 hd (k E p l e R s m args below meth c H locs cells slots Q ls hC hR hS hl hr hk)
theorem c_ishl {x y : Int32} (h : zk_at mt pc = some (.ishl, npc, tg)) (k : zC X d mt npc L (.int (x <<< (y &&& 31)) :: st) M dc ds rv M') : zC X d mt pc L (.int y :: .int x :: st) M dc ds rv M' := by
  intro E p l e R s m args below meth c H locs cells slots Q ls hC hR hS hl hr hk
  obtain ⟨hn, hd⟩ := zk_d hC.2.2.1 h rfl
  subst hn
  exact lv_ishl hC.1 hC.2.1 hd (k E p l e R s m args below meth c H locs cells slots Q ls hC hR hS hl hr hk)
theorem c_ishr {x y : Int32} (h : zk_at mt pc = some (.ishr, npc, tg)) (k : zC X d mt npc L (.int (x >>> (y &&& 31)) :: st) M dc ds rv M') : zC X d mt pc L (.int y :: .int x :: st) M dc ds rv M' := by
  intro E p l e R s m args below meth c H locs cells slots Q ls hC hR hS hl hr hk
  obtain ⟨hn, hd⟩ := zk_d hC.2.2.1 h rfl
  subst hn
  exact lv_ishr hC.1 hC.2.1 hd (k E p l e R s m args below meth c H locs cells slots Q ls hC hR hS hl hr hk)
theorem c_ladd {x y : Int64} (h : zk_at mt pc = some (.ladd, npc, tg)) (k : zC X d mt npc L (.long (x + y) :: st) M dc ds rv M') : zC X d mt pc L (.long y :: .long x :: st) M dc ds rv M' := by
  intro E p l e R s m args below meth c H locs cells slots Q ls hC hR hS hl hr hk
  obtain ⟨hn, hd⟩ := zk_d hC.2.2.1 h rfl
  subst hn
  exact lv_ladd hC.1 hC.2.1 hd (k E p l e R s m args below meth c H locs cells slots Q ls hC hR hS hl hr hk)
theorem c_lsub {x y : Int64} (h : zk_at mt pc = some (.lsub, npc, tg)) (k : zC X d mt npc L (.long (x - y) :: st) M dc ds rv M') : zC X d mt pc L (.long y :: .long x :: st) M dc ds rv M' := by
  intro E p l e R s m args below meth c H locs cells slots Q ls hC hR hS hl hr hk
  obtain ⟨hn, hd⟩ := zk_d hC.2.2.1 h rfl
  subst hn
  exact lv_lsub hC.1 hC.2.1 hd (k E p l e R s m args below meth c H locs cells slots Q ls hC hR hS hl hr hk)
theorem c_lmul {x y : Int64} (h : zk_at mt pc = some (.lmul, npc, tg)) (k : zC X d mt npc L (.long (x * y) :: st) M dc ds rv M') : zC X d mt pc L (.long y :: .long x :: st) M dc ds rv M' := by
  intro E p l e R s m args below meth c H locs cells slots Q ls hC hR hS hl hr hk
  obtain ⟨hn, hd⟩ := zk_d hC.2.2.1 h rfl
  subst hn
  exact lv_lmul hC.1 hC.2.1 hd (k E p l e R s m args below meth c H locs cells slots Q ls hC hR hS hl hr hk)
theorem c_land {x y : Int64} (h : zk_at mt pc = some (.land, npc, tg)) (k : zC X d mt npc L (.long (x &&& y) :: st) M dc ds rv M') : zC X d mt pc L (.long y :: .long x :: st) M dc ds rv M' := by
  intro E p l e R s m args below meth c H locs cells slots Q ls hC hR hS hl hr hk
  obtain ⟨hn, hd⟩ := zk_d hC.2.2.1 h rfl
  subst hn
  exact lv_land hC.1 hC.2.1 hd (k E p l e R s m args below meth c H locs cells slots Q ls hC hR hS hl hr hk)
theorem c_lor {x y : Int64} (h : zk_at mt pc = some (.lor, npc, tg)) (k : zC X d mt npc L (.long (x ||| y) :: st) M dc ds rv M') : zC X d mt pc L (.long y :: .long x :: st) M dc ds rv M' := by
  intro E p l e R s m args below meth c H locs cells slots Q ls hC hR hS hl hr hk
  obtain ⟨hn, hd⟩ := zk_d hC.2.2.1 h rfl
  subst hn
  exact lv_lor hC.1 hC.2.1 hd (k E p l e R s m args below meth c H locs cells slots Q ls hC hR hS hl hr hk)
theorem c_idiv {x y : Int32} (h : zk_at mt pc = some (.idiv, npc, tg)) (hne : ¬ y = 0) (k : zC X d mt npc L (.int (x / y) :: st) M dc ds rv M') : zC X d mt pc L (.int y :: .int x :: st) M dc ds rv M' := by
  intro E p l e R s m args below meth c H locs cells slots Q ls hC hR hS hl hr hk
  obtain ⟨hn, hd⟩ := zk_d hC.2.2.1 h rfl
  subst hn
  exact lv_idiv hC.1 hC.2.1 hd hne (k E p l e R s m args below meth c H locs cells slots Q ls hC hR hS hl hr hk)
theorem c_irem {x y : Int32} (h : zk_at mt pc = some (.irem, npc, tg)) (hne : ¬ y = 0) (k : zC X d mt npc L (.int (x - x / y * y) :: st) M dc ds rv M') : zC X d mt pc L (.int y :: .int x :: st) M dc ds rv M' := by
  intro E p l e R s m args below meth c H locs cells slots Q ls hC hR hS hl hr hk
  obtain ⟨hn, hd⟩ := zk_d hC.2.2.1 h rfl
  subst hn
  exact lv_irem hC.1 hC.2.1 hd hne (k E p l e R s m args below meth c H locs cells slots Q ls hC hR hS hl hr hk)
theorem c_ldiv {x y : Int64} (h : zk_at mt pc = some (.ldiv, npc, tg)) (hne : ¬ y = 0) (k : zC X d mt npc L (.long (x / y) :: st) M dc ds rv M') : zC X d mt pc L (.long y :: .long x :: st) M dc ds rv M' := by
  intro E p l e R s m args below meth c H locs cells slots Q ls hC hR hS hl hr hk
  obtain ⟨hn, hd⟩ := zk_d hC.2.2.1 h rfl
  subst hn
  exact lv_ldiv hC.1 hC.2.1 hd hne (k E p l e R s m args below meth c H locs cells slots Q ls hC hR hS hl hr hk)
theorem c_lrem {x y : Int64} (h : zk_at mt pc = some (.lrem, npc, tg)) (hne : ¬ y = 0) (k : zC X d mt npc L (.long (x - x / y * y) :: st) M dc ds rv M') : zC X d mt pc L (.long y :: .long x :: st) M dc ds rv M' := by
  intro E p l e R s m args below meth c H locs cells slots Q ls hC hR hS hl hr hk
  obtain ⟨hn, hd⟩ := zk_d hC.2.2.1 h rfl
  subst hn
  exact lv_lrem hC.1 hC.2.1 hd hne (k E p l e R s m args below meth c H locs cells slots Q ls hC hR hS hl hr hk)
theorem c_iushr {x y : Int32} (h : zk_at mt pc = some (.iushr, npc, tg)) (k : zC X d mt npc L (.int ((x.toUInt32 >>> (y.toUInt32 &&& Int32.toUInt32 31)).toInt32) :: st) M dc ds rv M') : zC X d mt pc L (.int y :: .int x :: st) M dc ds rv M' := by
  intro E p l e R s m args below meth c H locs cells slots Q ls hC hR hS hl hr hk
  obtain ⟨hn, hd⟩ := zk_d hC.2.2.1 h rfl
  subst hn
  exact lv_iushr hC.1 hC.2.1 hd rfl (k E p l e R s m args below meth c H locs cells slots Q ls hC hR hS hl hr hk)
theorem c_lshl {x : Int64} {y : Int32} (h : zk_at mt pc = some (.lshl, npc, tg)) (k : zC X d mt npc L (.long (x <<< (y.toInt64 &&& 63)) :: st) M dc ds rv M') : zC X d mt pc L (.int y :: .long x :: st) M dc ds rv M' := by
  intro E p l e R s m args below meth c H locs cells slots Q ls hC hR hS hl hr hk
  obtain ⟨hn, hd⟩ := zk_d hC.2.2.1 h rfl
  subst hn
  exact lv_lshl hC.1 hC.2.1 hd rfl (k E p l e R s m args below meth c H locs cells slots Q ls hC hR hS hl hr hk)
theorem c_i2l {x : Int32} (h : zk_at mt pc = some (.i2l, npc, tg)) (k : zC X d mt npc L (.long x.toInt64 :: st) M dc ds rv M') : zC X d mt pc L (.int x :: st) M dc ds rv M' := by
  intro E p l e R s m args below meth c H locs cells slots Q ls hC hR hS hl hr hk
  obtain ⟨hn, hd⟩ := zk_d hC.2.2.1 h rfl
  subst hn
  exact lv_i2l hC.1 hC.2.1 hd rfl (k E p l e R s m args below meth c H locs cells slots Q ls hC hR hS hl hr hk)
theorem c_l2i {x : Int64} (h : zk_at mt pc = some (.l2i, npc, tg)) (k : zC X d mt npc L (.int x.toInt32 :: st) M dc ds rv M') : zC X d mt pc L (.long x :: st) M dc ds rv M' := by
  intro E p l e R s m args below meth c H locs cells slots Q ls hC hR hS hl hr hk
  obtain ⟨hn, hd⟩ := zk_d hC.2.2.1 h rfl
  subst hn
  exact lv_l2i hC.1 hC.2.1 hd rfl (k E p l e R s m args below meth c H locs cells slots Q ls hC hR hS hl hr hk)
theorem c_i2c {x : Int32} (h : zk_at mt pc = some (.i2c, npc, tg)) (k : zC X d mt npc L (.int (x.toUInt32 % 65536).toInt32 :: st) M dc ds rv M') : zC X d mt pc L (.int x :: st) M dc ds rv M' := by
  intro E p l e R s m args below meth c H locs cells slots Q ls hC hR hS hl hr hk
  obtain ⟨hn, hd⟩ := zk_d hC.2.2.1 h rfl
  subst hn
  exact lv_i2c hC.1 hC.2.1 hd rfl (k E p l e R s m args below meth c H locs cells slots Q ls hC hR hS hl hr hk)
theorem c_lcmp {x y : Int64} (h : zk_at mt pc = some (.lcmp, npc, tg)) (k : zC X d mt npc L (.int (lg_cmp x y) :: st) M dc ds rv M') : zC X d mt pc L (.long y :: .long x :: st) M dc ds rv M' := by
  intro E p l e R s m args below meth c H locs cells slots Q ls hC hR hS hl hr hk
  obtain ⟨hn, hd⟩ := zk_d hC.2.2.1 h rfl
  subst hn
  exact W.lcmp hC.1 hC.2.1 hd  (k E p l e R s m args below meth c H locs cells slots Q ls hC hR hS hl hr hk)
theorem c_iconst {n : Int} {v : Int32} (h : zk_at mt pc = some (.iconst n, npc, tg)) (hv : Int32.ofInt n = v) (k : zC X d mt npc L (.int v :: st) M dc ds rv M') : zC X d mt pc L (st) M dc ds rv M' := by
  intro E p l e R s m args below meth c H locs cells slots Q ls hC hR hS hl hr hk
  obtain ⟨hn, hd⟩ := zk_d hC.2.2.1 h rfl
  subst hn
  exact lv_iconst hC.1 hC.2.1 hd hv (k E p l e R s m args below meth c H locs cells slots Q ls hC hR hS hl hr hk)
theorem c_bipush {n : Int} {v : Int32} (h : zk_at mt pc = some (.bipush n, npc, tg)) (hv : (Int8.ofInt n).toInt32 = v) (k : zC X d mt npc L (.int v :: st) M dc ds rv M') : zC X d mt pc L (st) M dc ds rv M' := by
  intro E p l e R s m args below meth c H locs cells slots Q ls hC hR hS hl hr hk
  obtain ⟨hn, hd⟩ := zk_d hC.2.2.1 h rfl
  subst hn
  exact lv_bipush hC.1 hC.2.1 hd hv (k E p l e R s m args below meth c H locs cells slots Q ls hC hR hS hl hr hk)
theorem c_sipush {n : Int} {v : Int32} (h : zk_at mt pc = some (.sipush n, npc, tg)) (hv : (Int16.ofInt n).toInt32 = v) (k : zC X d mt npc L (.int v :: st) M dc ds rv M') : zC X d mt pc L (st) M dc ds rv M' := by
  intro E p l e R s m args below meth c H locs cells slots Q ls hC hR hS hl hr hk
  obtain ⟨hn, hd⟩ := zk_d hC.2.2.1 h rfl
  subst hn
  exact lv_sipush hC.1 hC.2.1 hd hv (k E p l e R s m args below meth c H locs cells slots Q ls hC hR hS hl hr hk)
theorem c_lconst {n : Fin 2} {v : Int64} (h : zk_at mt pc = some (.lconst n, npc, tg)) (hv : Int64.ofNat (n : Nat) = v) (k : zC X d mt npc L (.long v :: st) M dc ds rv M') : zC X d mt pc L (st) M dc ds rv M' := by
  intro E p l e R s m args below meth c H locs cells slots Q ls hC hR hS hl hr hk
  obtain ⟨hn, hd⟩ := zk_d hC.2.2.1 h rfl
  subst hn
  exact lv_lconst hC.1 hC.2.1 hd hv (k E p l e R s m args below meth c H locs cells slots Q ls hC hR hS hl hr hk)
theorem c_iload_n {n : Fin 4} {x : Int32} (h : zk_at mt pc = some (.iload_n n, npc, tg)) (hL : zk_get L n.val = some (.int x)) (k : zC X d mt npc L (.int x :: st) M dc ds rv M') : zC X d mt pc L (st) M dc ds rv M' := by
  intro E p l e R s m args below meth c H locs cells slots Q ls hC hR hS hl hr hk
  obtain ⟨hn, hd⟩ := zk_d hC.2.2.1 h rfl
  subst hn
  exact lv_iload_n hC.1 hC.2.1 hd rfl (hl.2.2 _ _ (zk_get_ok hL)) (k E p l e R s m args below meth c H locs cells slots Q ls hC hR hS hl hr hk)
theorem c_iload {i : Nat} {x : Int32} (h : zk_at mt pc = some (.iload i, npc, tg)) (hL : zk_get L i = some (.int x)) (k : zC X d mt npc L (.int x :: st) M dc ds rv M') : zC X d mt pc L (st) M dc ds rv M' := by
  intro E p l e R s m args below meth c H locs cells slots Q ls hC hR hS hl hr hk
  obtain ⟨hn, hd⟩ := zk_d hC.2.2.1 h rfl
  subst hn
  exact lv_iload hC.1 hC.2.1 hd (hl.2.2 _ _ (zk_get_ok hL)) (k E p l e R s m args below meth c H locs cells slots Q ls hC hR hS hl hr hk)
theorem c_lload_n {n : Fin 4} {x : Int64} (h : zk_at mt pc = some (.lload_n n, npc, tg)) (hL : zk_get L n.val = some (.long x)) (k : zC X d mt npc L (.long x :: st) M dc ds rv M') : zC X d mt pc L (st) M dc ds rv M' := by
  intro E p l e R s m args below meth c H locs cells slots Q ls hC hR hS hl hr hk
  obtain ⟨hn, hd⟩ := zk_d hC.2.2.1 h rfl
  subst hn
  exact lv_lload_n hC.1 hC.2.1 hd rfl (hl.2.2 _ _ (zk_get_ok hL)) (k E p l e R s m args below meth c H locs cells slots Q ls hC hR hS hl hr hk)
theorem c_lload {i : Nat} {x : Int64} (h : zk_at mt pc = some (.lload i, npc, tg)) (hL : zk_get L i = some (.long x)) (k : zC X d mt npc L (.long x :: st) M dc ds rv M') : zC X d mt pc L (st) M dc ds rv M' := by
  intro E p l e R s m args below meth c H locs cells slots Q ls hC hR hS hl hr hk
  obtain ⟨hn, hd⟩ := zk_d hC.2.2.1 h rfl
  subst hn
  exact lv_lload hC.1 hC.2.1 hd (hl.2.2 _ _ (zk_get_ok hL)) (k E p l e R s m args below meth c H locs cells slots Q ls hC hR hS hl hr hk)
theorem c_aload_n {n : Fin 4} {x : Nat} (h : zk_at mt pc = some (.aload_n n, npc, tg)) (hL : zk_get L n.val = some (.ref x)) (k : zC X d mt npc L (.ref x :: st) M dc ds rv M') : zC X d mt pc L (st) M dc ds rv M' := by
  intro E p l e R s m args below meth c H locs cells slots Q ls hC hR hS hl hr hk
  obtain ⟨hn, hd⟩ := zk_d hC.2.2.1 h rfl
  subst hn
  exact lv_aload_n hC.1 hC.2.1 hd rfl (hl.2.2 _ _ (zk_get_ok hL)) (k E p l e R s m args below meth c H locs cells slots Q ls hC hR hS hl hr hk)
theorem c_aload {i : Nat} {x : Nat} (h : zk_at mt pc = some (.aload i, npc, tg)) (hL : zk_get L i = some (.ref x)) (k : zC X d mt npc L (.ref x :: st) M dc ds rv M') : zC X d mt pc L (st) M dc ds rv M' := by
  intro E p l e R s m args below meth c H locs cells slots Q ls hC hR hS hl hr hk
  obtain ⟨hn, hd⟩ := zk_d hC.2.2.1 h rfl
  subst hn
  exact lv_aload hC.1 hC.2.1 hd (hl.2.2 _ _ (zk_get_ok hL)) (k E p l e R s m args below meth c H locs cells slots Q ls hC hR hS hl hr hk)
theorem c_dup {v : Value} (h : zk_at mt pc = some (.dup, npc, tg)) (hv : v.category = 1) (k : zC X d mt npc L (v :: v :: st) M dc ds rv M') : zC X d mt pc L (v :: st) M dc ds rv M' := by
  intro E p l e R s m args below meth c H locs cells slots Q ls hC hR hS hl hr hk
  obtain ⟨hn, hd⟩ := zk_d hC.2.2.1 h rfl
  subst hn
  exact lv_dup hC.1 hC.2.1 hd ((zk_tr_cat E v).trans hv) (k E p l e R s m args below meth c H locs cells slots Q ls hC hR hS hl hr hk)
theorem c_pop {v : Value} (h : zk_at mt pc = some (.pop, npc, tg)) (hv : v.category = 1) (k : zC X d mt npc L (st) M dc ds rv M') : zC X d mt pc L (v :: st) M dc ds rv M' := by
  intro E p l e R s m args below meth c H locs cells slots Q ls hC hR hS hl hr hk
  obtain ⟨hn, hd⟩ := zk_d hC.2.2.1 h rfl
  subst hn
  exact lv_pop hC.1 hC.2.1 hd ((zk_tr_cat E v).trans hv) (k E p l e R s m args below meth c H locs cells slots Q ls hC hR hS hl hr hk)
theorem c_dup2 {v w : Value} (h : zk_at mt pc = some (.dup2, npc, tg)) (hv : v.category = 1) (hw : w.category = 1) (k : zC X d mt npc L (v :: w :: v :: w :: st) M dc ds rv M') : zC X d mt pc L (v :: w :: st) M dc ds rv M' := by
  intro E p l e R s m args below meth c H locs cells slots Q ls hC hR hS hl hr hk
  obtain ⟨hn, hd⟩ := zk_d hC.2.2.1 h rfl
  subst hn
  exact lv_dup2_11 hC.1 hC.2.1 hd ((zk_tr_cat E v).trans hv) ((zk_tr_cat E w).trans hw) (k E p l e R s m args below meth c H locs cells slots Q ls hC hR hS hl hr hk)
theorem c_dup2l {v : Value} (h : zk_at mt pc = some (.dup2, npc, tg)) (hv : v.category = 2) (k : zC X d mt npc L (v :: v :: st) M dc ds rv M') : zC X d mt pc L (v :: st) M dc ds rv M' := by
  intro E p l e R s m args below meth c H locs cells slots Q ls hC hR hS hl hr hk
  obtain ⟨hn, hd⟩ := zk_d hC.2.2.1 h rfl
  subst hn
  exact lv_dup2_2 hC.1 hC.2.1 hd ((zk_tr_cat E v).trans hv) (k E p l e R s m args below meth c H locs cells slots Q ls hC hR hS hl hr hk)
theorem c_istore_n {n : Fin 4} {x : Int32} (h : zk_at mt pc = some (.istore_n n, npc, tg)) (hi : n.val < mt.2.2.1) (hd2 : zk_nod L = true) (k : zC X d mt npc (zk_set L n.val (.int x)) st M dc ds rv M') : zC X d mt pc L (.int x :: st) M dc ds rv M' := by
  intro E p l e R s m args below meth c H locs cells slots Q ls hC hR hS hl hr hk
  obtain ⟨hn, hd⟩ := zk_d hC.2.2.1 h rfl
  subst hn
  exact lv_istore_n hC.1 hC.2.1 hd rfl hl.has hi rfl (fun ls2 h2 => k E p l e R s m args below meth c H locs cells slots Q ls2 hC hR hS (zk_lv.set (v := .int x) hd2 h2) hr hk)
theorem c_istore {i : Nat} {x : Int32} (h : zk_at mt pc = some (.istore i, npc, tg)) (hi : i < mt.2.2.1) (hd2 : zk_nod L = true) (k : zC X d mt npc (zk_set L i (.int x)) st M dc ds rv M') : zC X d mt pc L (.int x :: st) M dc ds rv M' := by
  intro E p l e R s m args below meth c H locs cells slots Q ls hC hR hS hl hr hk
  obtain ⟨hn, hd⟩ := zk_d hC.2.2.1 h rfl
  subst hn
  exact lv_istore hC.1 hC.2.1 hd hl.has hi rfl (fun ls2 h2 => k E p l e R s m args below meth c H locs cells slots Q ls2 hC hR hS (zk_lv.set (v := .int x) hd2 h2) hr hk)
theorem c_lstore_n {n : Fin 4} {x : Int64} (h : zk_at mt pc = some (.lstore_n n, npc, tg)) (hi : n.val + 1 < mt.2.2.1) (hd2 : zk_nod L = true) (k : zC X d mt npc (zk_set2 L n.val (.long x)) st M dc ds rv M') : zC X d mt pc L (.long x :: st) M dc ds rv M' := by
  intro E p l e R s m args below meth c H locs cells slots Q ls hC hR hS hl hr hk
  obtain ⟨hn, hd⟩ := zk_d hC.2.2.1 h rfl
  subst hn
  exact lv_lstore_n hC.1 hC.2.1 hd rfl hl.has hi rfl (fun ls2 h2 => k E p l e R s m args below meth c H locs cells slots Q ls2 hC hR hS (zk_lv.set2 (v := .long x) hd2 h2) hr hk)
theorem c_lstore {i : Nat} {x : Int64} (h : zk_at mt pc = some (.lstore i, npc, tg)) (hi : i + 1 < mt.2.2.1) (hd2 : zk_nod L = true) (k : zC X d mt npc (zk_set2 L i (.long x)) st M dc ds rv M') : zC X d mt pc L (.long x :: st) M dc ds rv M' := by
  intro E p l e R s m args below meth c H locs cells slots Q ls hC hR hS hl hr hk
  obtain ⟨hn, hd⟩ := zk_d hC.2.2.1 h rfl
  subst hn
  exact lv_lstore hC.1 hC.2.1 hd hl.has hi rfl (fun ls2 h2 => k E p l e R s m args below meth c H locs cells slots Q ls2 hC hR hS (zk_lv.set2 (v := .long x) hd2 h2) hr hk)
theorem c_astore_n {n : Fin 4} {x : Nat} (h : zk_at mt pc = some (.astore_n n, npc, tg)) (hi : n.val < mt.2.2.1) (hd2 : zk_nod L = true) (k : zC X d mt npc (zk_set L n.val (.ref x)) st M dc ds rv M') : zC X d mt pc L (.ref x :: st) M dc ds rv M' := by
  intro E p l e R s m args below meth c H locs cells slots Q ls hC hR hS hl hr hk
  obtain ⟨hn, hd⟩ := zk_d hC.2.2.1 h rfl
  subst hn
  exact lv_astore_n hC.1 hC.2.1 hd rfl hl.has hi rfl (fun ls2 h2 => k E p l e R s m args below meth c H locs cells slots Q ls2 hC hR hS (zk_lv.set (v := .ref x) hd2 h2) hr hk)
theorem c_astore {i : Nat} {x : Nat} (h : zk_at mt pc = some (.astore i, npc, tg)) (hi : i < mt.2.2.1) (hd2 : zk_nod L = true) (k : zC X d mt npc (zk_set L i (.ref x)) st M dc ds rv M') : zC X d mt pc L (.ref x :: st) M dc ds rv M' := by
  intro E p l e R s m args below meth c H locs cells slots Q ls hC hR hS hl hr hk
  obtain ⟨hn, hd⟩ := zk_d hC.2.2.1 h rfl
  subst hn
  exact lv_astore hC.1 hC.2.1 hd hl.has hi rfl (fun ls2 h2 => k E p l e R s m args below meth c H locs cells slots Q ls2 hC hR hS (zk_lv.set (v := .ref x) hd2 h2) hr hk)
theorem zk_pr_at {E : zk_E} {L : List (Option Value)} {i : Nat} {v : Value} (h : L[i]? = some (some v)) : ∃ k : Nat, (zk_pr E L)[k]? = some (i, zk_tr E v) :=
  List.getElem?_of_mem (zk_pr_mem.mpr ⟨v, h, rfl⟩)
theorem c_iinc {i : Nat} {n : Int} {x v : Int32} (h : zk_at mt pc = some (.iinc i n, npc, tg)) (hL : zk_get L i = some (.int x)) (hv : Int32.ofInt n = v) (hi : i < mt.2.2.1) (hd2 : zk_nod L = true) (k : zC X d mt npc (zk_set L i (.int (x + v))) st M dc ds rv M') : zC X d mt pc L st M dc ds rv M' := by
  intro E p l e R s m args below meth c H locs cells slots Q ls hC hR hS hl hr hk
  obtain ⟨hn, hd⟩ := zk_d hC.2.2.1 h rfl
  subst hn
  obtain ⟨q, hq⟩ := zk_pr_at (E := E) (zk_get_ok hL)
  exact lv_iinc (k := q) (x := x) (v := x + v) hC.1 hC.2.1 hd hl.has hq (by rw [hv]) hi rfl (fun ls2 h2 => k E p l e R s m args below meth c H locs cells slots Q ls2 hC hR hS (zk_lv.set (v := .int (x + v)) hd2 h2) hr hk)
theorem c_if_eq {x : Int32} {o : Int} (h : zk_at mt pc = some (.ifCond .eq o, npc, tg)) (kt : x = 0 → zC X d mt tg L st M dc ds rv M') (kf : ¬ x = 0 → zC X d mt npc L st M dc ds rv M') : zC X d mt pc L (.int x :: st) M dc ds rv M' := by
  intro E p l e R s m args below meth c H locs cells slots Q ls hC hR hS hl hr hk
  obtain ⟨hn, hd⟩ := zk_d hC.2.2.1 h rfl
  subst hn
  exact lv_if_eq hC.1 hC.2.1 hd ((zk_row hC.2.2.1 h).2.2 _ rfl) (fun q => kt q E p l e R s m args below meth c H locs cells slots Q ls hC hR hS hl hr hk) (fun q => kf q E p l e R s m args below meth c H locs cells slots Q ls hC hR hS hl hr hk)
theorem c_icmp_eq {x y : Int32} {o : Int} (h : zk_at mt pc = some (.if_icmp .eq o, npc, tg)) (kt : x = y → zC X d mt tg L st M dc ds rv M') (kf : ¬ x = y → zC X d mt npc L st M dc ds rv M') : zC X d mt pc L (.int y :: .int x :: st) M dc ds rv M' := by
  intro E p l e R s m args below meth c H locs cells slots Q ls hC hR hS hl hr hk
  obtain ⟨hn, hd⟩ := zk_d hC.2.2.1 h rfl
  subst hn
  exact lv_icmp_eq hC.1 hC.2.1 hd ((zk_row hC.2.2.1 h).2.2 _ rfl) (fun q => kt q E p l e R s m args below meth c H locs cells slots Q ls hC hR hS hl hr hk) (fun q => kf q E p l e R s m args below meth c H locs cells slots Q ls hC hR hS hl hr hk)
theorem c_if_ne {x : Int32} {o : Int} (h : zk_at mt pc = some (.ifCond .ne o, npc, tg)) (kt : ¬ x = 0 → zC X d mt tg L st M dc ds rv M') (kf : x = 0 → zC X d mt npc L st M dc ds rv M') : zC X d mt pc L (.int x :: st) M dc ds rv M' := by
  intro E p l e R s m args below meth c H locs cells slots Q ls hC hR hS hl hr hk
  obtain ⟨hn, hd⟩ := zk_d hC.2.2.1 h rfl
  subst hn
  exact lv_if_ne hC.1 hC.2.1 hd ((zk_row hC.2.2.1 h).2.2 _ rfl) (fun q => kt q E p l e R s m args below meth c H locs cells slots Q ls hC hR hS hl hr hk) (fun q => kf q E p l e R s m args below meth c H locs cells slots Q ls hC hR hS hl hr hk)
theorem c_icmp_ne {x y : Int32} {o : Int} (h : zk_at mt pc = some (.if_icmp .ne o, npc, tg)) (kt : ¬ x = y → zC X d mt tg L st M dc ds rv M') (kf : x = y → zC X d mt npc L st M dc ds rv M') : zC X d mt pc L (.int y :: .int x :: st) M dc ds rv M' := by
  intro E p l e R s m args below meth c H locs cells slots Q ls hC hR hS hl hr hk
  obtain ⟨hn, hd⟩ := zk_d hC.2.2.1 h rfl
  subst hn
  exact lv_icmp_ne hC.1 hC.2.1 hd ((zk_row hC.2.2.1 h).2.2 _ rfl) (fun q => kt q E p l e R s m args below meth c H locs cells slots Q ls hC hR hS hl hr hk) (fun q => kf q E p l e R s m args below meth c H locs cells slots Q ls hC hR hS hl hr hk)
theorem c_if_lt {x : Int32} {o : Int} (h : zk_at mt pc = some (.ifCond .lt o, npc, tg)) (kt : x < 0 → zC X d mt tg L st M dc ds rv M') (kf : ¬ x < 0 → zC X d mt npc L st M dc ds rv M') : zC X d mt pc L (.int x :: st) M dc ds rv M' := by
  intro E p l e R s m args below meth c H locs cells slots Q ls hC hR hS hl hr hk
  obtain ⟨hn, hd⟩ := zk_d hC.2.2.1 h rfl
  subst hn
  exact lv_if_lt hC.1 hC.2.1 hd ((zk_row hC.2.2.1 h).2.2 _ rfl) (fun q => kt q E p l e R s m args below meth c H locs cells slots Q ls hC hR hS hl hr hk) (fun q => kf q E p l e R s m args below meth c H locs cells slots Q ls hC hR hS hl hr hk)
theorem c_icmp_lt {x y : Int32} {o : Int} (h : zk_at mt pc = some (.if_icmp .lt o, npc, tg)) (kt : x < y → zC X d mt tg L st M dc ds rv M') (kf : ¬ x < y → zC X d mt npc L st M dc ds rv M') : zC X d mt pc L (.int y :: .int x :: st) M dc ds rv M' := by
  intro E p l e R s m args below meth c H locs cells slots Q ls hC hR hS hl hr hk
  obtain ⟨hn, hd⟩ := zk_d hC.2.2.1 h rfl
  subst hn
  exact lv_icmp_lt hC.1 hC.2.1 hd ((zk_row hC.2.2.1 h).2.2 _ rfl) (fun q => kt q E p l e R s m args below meth c H locs cells slots Q ls hC hR hS hl hr hk) (fun q => kf q E p l e R s m args below meth c H locs cells slots Q ls hC hR hS hl hr hk)
theorem c_if_ge {x : Int32} {o : Int} (h : zk_at mt pc = some (.ifCond .ge o, npc, tg)) (kt : 0 ≤ x → zC X d mt tg L st M dc ds rv M') (kf : ¬ 0 ≤ x → zC X d mt npc L st M dc ds rv M') : zC X d mt pc L (.int x :: st) M dc ds rv M' := by
  intro E p l e R s m args below meth c H locs cells slots Q ls hC hR hS hl hr hk
  obtain ⟨hn, hd⟩ := zk_d hC.2.2.1 h rfl
  subst hn
  exact lv_if_ge hC.1 hC.2.1 hd ((zk_row hC.2.2.1 h).2.2 _ rfl) (fun q => kt q E p l e R s m args below meth c H locs cells slots Q ls hC hR hS hl hr hk) (fun q => kf q E p l e R s m args below meth c H locs cells slots Q ls hC hR hS hl hr hk)
theorem c_icmp_ge {x y : Int32} {o : Int} (h : zk_at mt pc = some (.if_icmp .ge o, npc, tg)) (kt : y ≤ x → zC X d mt tg L st M dc ds rv M') (kf : ¬ y ≤ x → zC X d mt npc L st M dc ds rv M') : zC X d mt pc L (.int y :: .int x :: st) M dc ds rv M' := by
  intro E p l e R s m args below meth c H locs cells slots Q ls hC hR hS hl hr hk
  obtain ⟨hn, hd⟩ := zk_d hC.2.2.1 h rfl
  subst hn
  exact lv_icmp_ge hC.1 hC.2.1 hd ((zk_row hC.2.2.1 h).2.2 _ rfl) (fun q => kt q E p l e R s m args below meth c H locs cells slots Q ls hC hR hS hl hr hk) (fun q => kf q E p l e R s m args below meth c H locs cells slots Q ls hC hR hS hl hr hk)
theorem c_if_gt {x : Int32} {o : Int} (h : zk_at mt pc = some (.ifCond .gt o, npc, tg)) (kt : 0 < x → zC X d mt tg L st M dc ds rv M') (kf : ¬ 0 < x → zC X d mt npc L st M dc ds rv M') : zC X d mt pc L (.int x :: st) M dc ds rv M' := by
  intro E p l e R s m args below meth c H locs cells slots Q ls hC hR hS hl hr hk
  obtain ⟨hn, hd⟩ := zk_d hC.2.2.1 h rfl
  subst hn
  exact lv_if_gt hC.1 hC.2.1 hd ((zk_row hC.2.2.1 h).2.2 _ rfl) (fun q => kt q E p l e R s m args below meth c H locs cells slots Q ls hC hR hS hl hr hk) (fun q => kf q E p l e R s m args below meth c H locs cells slots Q ls hC hR hS hl hr hk)
theorem c_icmp_gt {x y : Int32} {o : Int} (h : zk_at mt pc = some (.if_icmp .gt o, npc, tg)) (kt : y < x → zC X d mt tg L st M dc ds rv M') (kf : ¬ y < x → zC X d mt npc L st M dc ds rv M') : zC X d mt pc L (.int y :: .int x :: st) M dc ds rv M' := by
  intro E p l e R s m args below meth c H locs cells slots Q ls hC hR hS hl hr hk
  obtain ⟨hn, hd⟩ := zk_d hC.2.2.1 h rfl
  subst hn
  exact lv_icmp_gt hC.1 hC.2.1 hd ((zk_row hC.2.2.1 h).2.2 _ rfl) (fun q => kt q E p l e R s m args below meth c H locs cells slots Q ls hC hR hS hl hr hk) (fun q => kf q E p l e R s m args below meth c H locs cells slots Q ls hC hR hS hl hr hk)
theorem c_if_le {x : Int32} {o : Int} (h : zk_at mt pc = some (.ifCond .le o, npc, tg)) (kt : x ≤ 0 → zC X d mt tg L st M dc ds rv M') (kf : ¬ x ≤ 0 → zC X d mt npc L st M dc ds rv M') : zC X d mt pc L (.int x :: st) M dc ds rv M' := by
  intro E p l e R s m args below meth c H locs cells slots Q ls hC hR hS hl hr hk
  obtain ⟨hn, hd⟩ := zk_d hC.2.2.1 h rfl
  subst hn
  exact lv_if_le hC.1 hC.2.1 hd ((zk_row hC.2.2.1 h).2.2 _ rfl) (fun q => kt q E p l e R s m args below meth c H locs cells slots Q ls hC hR hS hl hr hk) (fun q => kf q E p l e R s m args below meth c H locs cells slots Q ls hC hR hS hl hr hk)
theorem c_icmp_le {x y : Int32} {o : Int} (h : zk_at mt pc = some (.if_icmp .le o, npc, tg)) (kt : x ≤ y → zC X d mt tg L st M dc ds rv M') (kf : ¬ x ≤ y → zC X d mt npc L st M dc ds rv M') : zC X d mt pc L (.int y :: .int x :: st) M dc ds rv M' := by
  intro E p l e R s m args below meth c H locs cells slots Q ls hC hR hS hl hr hk
  obtain ⟨hn, hd⟩ := zk_d hC.2.2.1 h rfl
  subst hn
  exact lv_icmp_le hC.1 hC.2.1 hd ((zk_row hC.2.2.1 h).2.2 _ rfl) (fun q => kt q E p l e R s m args below meth c H locs cells slots Q ls hC hR hS hl hr hk) (fun q => kf q E p l e R s m args below meth c H locs cells slots Q ls hC hR hS hl hr hk)
theorem c_goto {o : Int} (h : zk_at mt pc = some (.goto o, npc, tg)) (k : zC X d mt tg L st M dc ds rv M') : zC X d mt pc L st M dc ds rv M' := by
  intro E p l e R s m args below meth c H locs cells slots Q ls hC hR hS hl hr hk
  obtain ⟨hn, hd⟩ := zk_d hC.2.2.1 h rfl
  subst hn
  exact lv_goto hC.1 hC.2.1 hd ((zk_row hC.2.2.1 h).2.2 _ rfl) (k E p l e R s m args below meth c H locs cells slots Q ls hC hR hS hl hr hk)
theorem c_swIn {dflt lo hi : Int} {offs : Array Int} {x : Int32} {off : Int} {tgt : Nat} (h : zk_at mt pc = some (.tableswitch dflt lo hi offs, npc, tg)) (h1 : ¬ x.toInt < lo) (h2 : ¬ hi < x.toInt) (ho : offs[(x.toInt - lo).toNat]? = some off) (ht : (pc : Int) + off = (tgt : Int)) (k : zC X d mt tgt L st M dc ds rv M') : zC X d mt pc L (.int x :: st) M dc ds rv M' := by
  intro E p l e R s m args below meth c H locs cells slots Q ls hC hR hS hl hr hk
  exact lv_tableIn hC.1 hC.2.1 (zk_row hC.2.2.1 h).1 h1 h2 ho ht (k E p l e R s m args below meth c H locs cells slots Q ls hC hR hS hl hr hk)
theorem c_swOut {dflt lo hi : Int} {offs : Array Int} {x : Int32} {tgt : Nat} (h : zk_at mt pc = some (.tableswitch dflt lo hi offs, npc, tg)) (h1 : x.toInt < lo ∨ hi < x.toInt) (ht : (pc : Int) + dflt = (tgt : Int)) (k : zC X d mt tgt L st M dc ds rv M') : zC X d mt pc L (.int x :: st) M dc ds rv M' := by
  intro E p l e R s m args below meth c H locs cells slots Q ls hC hR hS hl hr hk
  exact lv_tableOut hC.1 hC.2.1 (zk_row hC.2.2.1 h).1 h1 ht (k E p l e R s m args below meth c H locs cells slots Q ls hC hR hS hl hr hk)
theorem c_ireturn {v : Int32} {ty : FieldType} (h : zk_at mt pc = some (.ireturn, npc, tg)) (hty : mt.2.2.2.1 = some ty) (hv : narrow ty (.int v) = .int v) : zC X d mt pc L [.int v] M 0 0 (some (.int v)) M := by
  intro E p l e R s m args below meth c H locs cells slots Q ls hC hR hS hl hr hk
  obtain ⟨hn, hd⟩ := zk_d hC.2.2.1 h rfl
  subst hn
  exact hk pc ls H locs (Or.inr (Or.inl ⟨v, ty, rfl, hty, hv, hd⟩)) hR hS
theorem c_lreturn {v : Int64} (h : zk_at mt pc = some (.lreturn, npc, tg)) (hty : mt.2.2.2.1 = some .long) : zC X d mt pc L [.long v] M 0 0 (some (.long v)) M := by
  intro E p l e R s m args below meth c H locs cells slots Q ls hC hR hS hl hr hk
  obtain ⟨hn, hd⟩ := zk_d hC.2.2.1 h rfl
  subst hn
  exact hk pc ls H locs (Or.inr (Or.inr ⟨v, rfl, hty, hd⟩)) hR hS
theorem c_return (h : zk_at mt pc = some (.return_, npc, tg)) (hty : mt.2.2.2.1 = none) : zC X d mt pc L [] M 0 0 none M := by
  intro E p l e R s m args below meth c H locs cells slots Q ls hC hR hS hl hr hk
  obtain ⟨hn, hd⟩ := zk_d hC.2.2.1 h rfl
  subst hn
  exact hk pc ls H locs (Or.inl ⟨rfl, hty, hd⟩) hR hS
theorem c_ldcw {i : Nat} {v : Int32} (h : zk_at mt pc = some (.ldc_w i, npc, tg)) (hw : Cond.constant mt.1.cls i v ∈ zk_tbl) (k : zC X d mt npc L (.int v :: st) M dc ds rv M') : zC X d mt pc L st M dc ds rv M' := by
  intro E p l e R s m args below meth c H locs cells slots Q ls hC hR hS hl hr hk
  obtain ⟨hn, hd⟩ := zk_d hC.2.2.1 h rfl
  subst hn
  exact lv_ldcw hC.1 hC.2.1 hC.2.2.2.2.2.1 (hC.2.2.2.2.2.2.1 _ hw) hd (k E p l e R s m args below meth c H locs cells slots Q ls hC hR hS hl hr hk)
theorem c_ldc2 {i : Nat} {v : Int64} (h : zk_at mt pc = some (.ldc2_w i, npc, tg)) (hw : Cond.constantLong mt.1.cls i v ∈ zk_tbl) (k : zC X d mt npc L (.long v :: st) M dc ds rv M') : zC X d mt pc L st M dc ds rv M' := by
  intro E p l e R s m args below meth c H locs cells slots Q ls hC hR hS hl hr hk
  obtain ⟨hn, hd⟩ := zk_d hC.2.2.1 h rfl
  subst hn
  exact lv_ldc2 hC.1 hC.2.1 hC.2.2.2.2.2.1 (hC.2.2.2.2.2.2.1 _ hw) hd (k E p l e R s m args below meth c H locs cells slots Q ls hC hR hS hl hr hk)
end ZR
end
section
/-! the memory's rows -/
def zk_sc (I : zk_I) (c : Nat) (f : Nat → Int32) : zk_I := fun a => if a = c then f else I a
def zk_sj (J : zk_J) (c : Nat) (f : Nat → Int64) : zk_J := fun a => if a = c then f else J a
def zk_sr (R : Nat → Nat → Option Nat) (c : Nat) (f : Nat → Option Nat) : Nat → Nat → Option Nat := fun a => if a = c then f else R a
theorem zk_sc_s (I : zk_I) (c : Nat) (f : Nat → Int32) : zk_sc I c f c = f := by simp [zk_sc]
theorem zk_sc_n (I : zk_I) {c a : Nat} (f : Nat → Int32) (h : ¬ a = c) : zk_sc I c f a = I a := by simp [zk_sc, h]
theorem zk_sj_s (J : zk_J) (c : Nat) (f : Nat → Int64) : zk_sj J c f c = f := by simp [zk_sj]
theorem zk_sj_n (J : zk_J) {c a : Nat} (f : Nat → Int64) (h : ¬ a = c) : zk_sj J c f a = J a := by simp [zk_sj, h]
theorem zk_sr_s (R : Nat → Nat → Option Nat) (c : Nat) (f : Nat → Option Nat) : zk_sr R c f c = f := by simp [zk_sr]
theorem zk_sr_n (R : Nat → Nat → Option Nat) {c a : Nat} (f : Nat → Option Nat) (h : ¬ a = c) : zk_sr R c f a = R a := by simp [zk_sr, h]
def zk_in (i : Int32) (n : Nat) : Bool := decide (0 ≤ i) && Nat.blt i.toNatClampNeg n
theorem zk_in_vp {i : Int32} {n : Nat} (h : zk_in i n = true) : vp_in i n := by
  simp only [zk_in, Bool.and_eq_true, decide_eq_true_eq] at h
  have h2 : i.toNatClampNeg < n := Nat.le_of_ble_eq_true h.2
  rintro (q | q)
  · exact absurd h.1 (Int32.not_le.mpr q)
  · omega
def zk_r (k : Nat) : vw_C := zk_cl.getD k ("", fun _ => ("", "", "", false), 0)
def zk_y (k : Nat) : Nat → FieldType := match k with
  | 0 => zk_y0
  | 1 => zk_y1
  | 2 => zk_y2
  | 3 => zk_y3
  | 4 => zk_y4
  | 5 => zk_y5
  | 6 => zk_y6
  | 7 => zk_y7
  | _ => zk_y8
theorem zk_r_at {k : Nat} (h : k < 9) : zk_cl[k]? = some (zk_r k) := by
  match k, h with
  | 0, _ => rfl
  | 1, _ => rfl
  | 2, _ => rfl
  | 3, _ => rfl
  | 4, _ => rfl
  | 5, _ => rfl
  | 6, _ => rfl
  | 7, _ => rfl
  | 8, _ => rfl
  | k + 9, h => exact absurd h (by omega)
theorem zk_r_in {k : Nat} (h : k < 9) : ∀ w ∈ u_ws (zk_r k).1 (zk_r k).2.1 (zk_r k).2.2, w ∈ zk_tbl := by
  match k, h with
  | 0, _ => exact zk_in0
  | 1, _ => exact zk_in1
  | 2, _ => exact zk_in2
  | 3, _ => exact zk_in3
  | 4, _ => exact zk_in4
  | 5, _ => exact zk_in5
  | 6, _ => exact zk_in6
  | 7, _ => exact zk_in7
  | 8, _ => exact zk_in8
  | k + 9, h => exact absurd h (by omega)
theorem zk_r_ty {k : Nat} (h : k < 9) : ∀ j, j < (zk_r k).2.2 → parseFieldDescriptor ((zk_r k).2.1 j).2.2.1 = some (zk_y k j) := by
  match k, h with
  | 0, _ => exact zk_ty0
  | 1, _ => exact zk_ty1
  | 2, _ => exact zk_ty2
  | 3, _ => exact zk_ty3
  | 4, _ => exact zk_ty4
  | 5, _ => exact zk_ty5
  | 6, _ => exact zk_ty6
  | 7, _ => exact zk_ty7
  | 8, _ => exact zk_ty8
  | k + 9, h => exact absurd h (by omega)
theorem zk_r_nm {k : Nat} (h : k < 9) : ∀ a, a < (zk_r k).2.2 → ∀ b, b < (zk_r k).2.2 → a ≠ b → ((zk_r k).2.1 a).2.1 ≠ ((zk_r k).2.1 b).2.1 := by
  match k, h with
  | 0, _ => exact zk_nm0
  | 1, _ => exact zk_nm1
  | 2, _ => exact zk_nm2
  | 3, _ => exact zk_nm3
  | 4, _ => exact zk_nm4
  | 5, _ => exact zk_nm5
  | 6, _ => exact zk_nm6
  | 7, _ => exact zk_nm7
  | 8, _ => exact zk_nm8
  | k + 9, h => exact absurd h (by omega)
theorem zk_ft_len : ∀ k, k < 9 → (zk_ft k).length = (zk_r k).2.2 := by decide +kernel
theorem zk_ws_at {E : zk_E} {M : zk_M} {c : Nat} (h : c < M.1.1) : (zk_ws E M)[c]? = some (zk_ad E c, zk_ce E M c) := by
  simp [zk_ws, List.getElem?_map, List.getElem?_range h]
theorem zk_ws_len {E : zk_E} {M : zk_M} : (zk_ws E M).length = M.1.1 := by simp [zk_ws]
theorem zk_ws_get {E : zk_E} {M : zk_M} {k : Nat} {q : Nat × va_E} (h : (zk_ws E M)[k]? = some q) : k < M.1.1 ∧ q = (zk_ad E k, zk_ce E M k) := by
  have hl : k < M.1.1 := by have := (List.getElem?_eq_some_iff.mp h).1; rwa [zk_ws_len] at this
  rw [zk_ws_at hl] at h
  exact ⟨hl, (Option.some.inj h).symm⟩
theorem zk_D {E : zk_E} {M : zk_M} (h : M.1.1 ≤ 1000) : va_D (zk_A E) (zk_ws E M) := by
  refine ⟨fun i j p q hi hj hpq => ?_, fun k q hk => ?_⟩
  · obtain ⟨h1, rfl⟩ := zk_ws_get hi
    obtain ⟨h2, rfl⟩ := zk_ws_get hj
    have e : zk_ad E i = zk_ad E j := hpq
    simp only [zk_ad, if_pos (show i < 1000 by omega), if_pos (show j < 1000 by omega)] at e
    omega
  · obtain ⟨h1, rfl⟩ := zk_ws_get hk
    show E.2.2.1 ≤ zk_ad E k
    simp only [zk_ad, if_pos (show k < 1000 by omega)]
    omega
theorem zk_ws_set {E : zk_E} {M M2 : zk_M} {c : Nat} {e : va_E} (hn : M2.1.1 = M.1.1) (he : zk_ce E M2 c = e) (ho : ∀ a, a ≠ c → zk_ce E M2 a = zk_ce E M a) : (zk_ws E M).set c (zk_ad E c, e) = zk_ws E M2 := by
  apply List.ext_getElem?
  intro k
  by_cases hk : k < M.1.1
  · rw [zk_ws_at (by rw [hn]; exact hk)]
    by_cases hkc : k = c
    · subst hkc
      rw [List.getElem?_set_self (by rw [zk_ws_len]; exact hk), he]
    · rw [List.getElem?_set_ne (Ne.symm hkc), zk_ws_at hk, ho k hkc]
  · rw [List.getElem?_eq_none (by rw [List.length_set, zk_ws_len]; omega), List.getElem?_eq_none (by rw [zk_ws_len, hn]; omega)]
theorem zk_ce_o {E : zk_E} {M : zk_M} {c ci : Nat} (hc : (M.1.2.1 c).1 = ci) (h9 : ci < 9) : zk_ce E M c = .inr (ci, zk_fs E M ci c) := by
  subst hc
  simp only [zk_ce]
  rw [if_neg (by omega), if_neg (by omega), if_neg (by omega), if_neg (by omega), if_neg (by omega)]
theorem zk_fs_at {E : zk_E} {M : zk_M} {c ci j : Nat} {b : Bool} (h : (zk_ft ci)[j]? = some b) : (zk_fs E M ci c)[j]? = some (zk_fv E M c j b) := by
  simp [zk_fs, List.getElem?_mapIdx, h]
theorem zk_fs_len {E : zk_E} {M : zk_M} {ci c : Nat} : (zk_fs E M ci c).length = (zk_ft ci).length := by simp [zk_fs]
/-- cells off c look alike -/
theorem zk_ce_off {E : zk_E} {Z : zk_Z} {I I2 : zk_I} {J J2 : zk_J} {a : Nat} (hI : I2 a = I a) (hJ : J2 a = J a) : zk_ce E (Z, I2, J2) a = zk_ce E (Z, I, J) a := by
  simp only [zk_ce, zk_fs, hI, hJ]
  have : zk_fv E (Z, I2, J2) a = zk_fv E (Z, I, J) a := by
    funext j b
    simp only [zk_fv, hI]
  rw [this]
/-- a field's words -/
def zk_FL (own : String) (idx ci j : Nat) (b : Bool) : Prop := ci < 9 ∧ j < (zk_r ci).2.2 ∧ (zk_ft ci)[j]? = some b ∧ Cond.fieldLink own idx ((zk_r ci).2.1 j).1 ((zk_r ci).2.1 j).2.1 ((zk_r ci).2.1 j).2.2.1 ∈ zk_tbl
theorem zk_int : ∀ k, k < 9 → ∀ j, j < 24 → (zk_ft k)[j]? = some false → zk_y k j = .int := by decide +kernel
theorem zk_n24 : ∀ k, k < 9 → (zk_r k).2.2 ≤ 24 := by decide +kernel
section ZM
variable {X : zk_X} {d pc npc tg : Nat} {mt : zk_Mt} {L : List (Option Value)} {st : List Value} {Z : zk_Z} {I : zk_I} {J : zk_J} {M' : zk_M} {dc ds : Nat} {rv : Option Value}
theorem c_getI {idx ci j a : Nat} (h : zk_at mt pc = some (.getfield idx, npc, tg)) (hf : zk_FL mt.1.cls idx ci j false) (ha : (Z.2.1 a).1 = ci) (hz : a < Z.1) (k : zC X d mt npc L (.int (I a j) :: st) (Z, I, J) dc ds rv M') : zC X d mt pc L (.ref a :: st) (Z, I, J) dc ds rv M' := by
  intro E p l e R s m args below meth c H locs cells slots Q ls hC hR hS hl hr hk
  obtain ⟨hn, hd⟩ := zk_d hC.2.2.1 h rfl
  subst hn
  obtain ⟨f1, f2, f3, f4⟩ := hf
  exact va_get (D := E.1) (a := zk_ad E a) (ci := ci) (v := .int (I a j)) hC.1 hC.2.1 hC.2.2.2.2.2.2.1 (zk_r_in f1) hC.2.2.2.2.2.1 hR.2.1 hR.1 a ((zk_ws_at (M := (Z, I, J)) hz).trans (by rw [zk_ce_o ha f1])) (zk_r_at f1) j f2 (hC.2.2.2.2.2.2.1 _ f4) (fun _ h9 => h9) (zk_fs_at f3) hd (k E p l e R s m args below meth c H locs cells slots Q ls hC hR hS hl hr hk)
theorem c_getR {idx ci j a b : Nat} (h : zk_at mt pc = some (.getfield idx, npc, tg)) (hf : zk_FL mt.1.cls idx ci j true) (ha : (Z.2.1 a).1 = ci) (hz : a < Z.1) (hb : Z.2.2 a j = some b) (k : zC X d mt npc L (.ref b :: st) (Z, I, J) dc ds rv M') : zC X d mt pc L (.ref a :: st) (Z, I, J) dc ds rv M' := by
  intro E p l e R s m args below meth c H locs cells slots Q ls hC hR hS hl hr hk
  obtain ⟨hn, hd⟩ := zk_d hC.2.2.1 h rfl
  subst hn
  obtain ⟨f1, f2, f3, f4⟩ := hf
  exact va_get (D := E.1) (a := zk_ad E a) (ci := ci) (v := .ref (zk_ad E b)) hC.1 hC.2.1 hC.2.2.2.2.2.2.1 (zk_r_in f1) hC.2.2.2.2.2.1 hR.2.1 hR.1 a ((zk_ws_at (M := (Z, I, J)) hz).trans (by rw [zk_ce_o ha f1])) (zk_r_at f1) j f2 (hC.2.2.2.2.2.2.1 _ f4) (fun _ h9 => h9) ((zk_fs_at f3).trans (by simp only [zk_fv]; rw [hb]; rfl)) hd (k E p l e R s m args below meth c H locs cells slots Q ls hC hR hS hl hr hk)
theorem c_putI {idx ci j a : Nat} {v : Int32} (h : zk_at mt pc = some (.putfield idx, npc, tg)) (hf : zk_FL mt.1.cls idx ci j false) (hfin : ((zk_r ci).2.1 j).2.2.2 = false) (ha : (Z.2.1 a).1 = ci) (hz : a < Z.1) (k : zC X d mt npc L st (Z, zk_sc I a (upd (I a) j v), J) dc ds rv M') : zC X d mt pc L (.int v :: .ref a :: st) (Z, I, J) dc ds rv M' := by
  intro E p l e R s m args below meth c H locs cells slots Q ls hC hR hS hl hr hk
  obtain ⟨hn, hd⟩ := zk_d hC.2.2.1 h rfl
  subst hn
  obtain ⟨f1, f2, f3, f4⟩ := hf
  have hy : zk_y ci j = .int := zk_int ci f1 j (Nat.lt_of_lt_of_le f2 (zk_n24 ci f1)) f3
  have hce : zk_ce E (Z, zk_sc I a (upd (I a) j v), J) a = .inr (ci, (zk_fs E (Z, I, J) ci a).set j (.int v)) := by
    rw [zk_ce_o (M := (Z, zk_sc I a (upd (I a) j v), J)) ha f1]
    congr 2
    apply List.ext_getElem?
    intro q
    by_cases hq : q = j
    · subst hq
      rw [zk_fs_at f3, List.getElem?_set_self (by rw [zk_fs_len]; exact (List.getElem?_eq_some_iff.mp f3).1)]
      simp [zk_fv, zk_sc, upd]
    · rw [List.getElem?_set_ne (Ne.symm hq)]
      simp only [zk_fs, List.getElem?_mapIdx]
      cases (zk_ft ci)[q]? with
      | none => rfl
      | some b =>
        cases b
        · simp [zk_fv, zk_sc, upd, hq]
        · simp [zk_fv]
  have hset := zk_ws_set (E := E) (M := (Z, I, J)) (M2 := (Z, zk_sc I a (upd (I a) j v), J)) (c := a) rfl hce (fun q hq => zk_ce_off (zk_sc_n I _ hq) rfl)
  refine va_put (D := E.1) (a := zk_ad E a) (ci := ci) (v := .int v) (ty := .int) hC.1 hC.2.1 hC.2.2.2.2.2.2.1 (zk_r_in f1) (zk_y ci) (zk_r_ty f1) (zk_r_nm f1) hC.2.2.2.2.2.1 hR.2.1 hR.1 (zk_D hR.2.2) hS a ((zk_ws_at (M := (Z, I, J)) hz).trans (by rw [zk_ce_o ha f1])) (zk_r_at f1) j f2 (hC.2.2.2.2.2.2.1 _ f4) (fun _ h9 => h9) hfin (by rw [zk_r_ty f1 j f2, hy]) rfl rfl (by rw [zk_fs_len]; exact (List.getElem?_eq_some_iff.mp f3).1) hd (fun H1 locs1 hP1 hD1 hS1 => ?_)
  rw [hset] at hP1
  exact k E p l e R s m args below meth c H1 locs1 cells slots Q ls hC ⟨hP1, hR.2.1, hR.2.2⟩ hS1 hl hr hk
theorem zk_ce_20 {E : zk_E} {n a : Nat} (ha : Z.2.1 a = (20, n)) : zk_ce E (Z, I, J) a = .inl (E.2.1 0, n, .inl (I a)) := by
  simp only [zk_ce, ha]
  first | rfl | (rw [if_pos rfl]) | simp
theorem c_iald {n a : Nat} {i : Int32} (h : zk_at mt pc = some (.iaload, npc, tg)) (ha : Z.2.1 a = (20, n)) (hz : a < Z.1) (hi : zk_in i n = true) (k : zC X d mt npc L (.int (I a i.toNatClampNeg) :: st) (Z, I, J) dc ds rv M') : zC X d mt pc L (.int i :: .ref a :: st) (Z, I, J) dc ds rv M' := by
  intro E p l e R s m args below meth c H locs cells slots Q ls hC hR hS hl hr hk
  obtain ⟨hn, hd⟩ := zk_d hC.2.2.1 h rfl
  subst hn
  exact va_iald (D := E.1) (a := zk_ad E a) hC.1 hC.2.1 hR.2.1 hR.1 a 0 ((zk_ws_at (M := (Z, I, J)) hz).trans (by rw [zk_ce_20 ha])) rfl (zk_in_vp hi) hd (k E p l e R s m args below meth c H locs cells slots Q ls hC hR hS hl hr hk)
theorem c_iast {n a : Nat} {i : Int32} {x : Int32} (h : zk_at mt pc = some (.iastore, npc, tg)) (ha : Z.2.1 a = (20, n)) (hz : a < Z.1) (hi : zk_in i n = true) (k : zC X d mt npc L st (Z, zk_sc I a (upd (I a) i.toNatClampNeg x), J) dc ds rv M') : zC X d mt pc L (.int x :: .int i :: .ref a :: st) (Z, I, J) dc ds rv M' := by
  intro E p l e R s m args below meth c H locs cells slots Q ls hC hR hS hl hr hk
  obtain ⟨hn, hd⟩ := zk_d hC.2.2.1 h rfl
  subst hn
  have hset := zk_ws_set (E := E) (M := (Z, I, J)) (M2 := (Z, zk_sc I a (upd (I a) i.toNatClampNeg x), J)) (c := a) rfl (zk_ce_20 ha) (fun q hq => zk_ce_off (zk_sc_n I _ hq) rfl)
  rw [zk_sc_s] at hset
  refine va_iast (D := E.1) (a := zk_ad E a) hC.1 hC.2.1 hR.2.1 hR.1 (zk_D hR.2.2) hS a 0 ((zk_ws_at (M := (Z, I, J)) hz).trans (by rw [zk_ce_20 ha])) rfl (zk_in_vp hi) hd (fun H1 locs1 hP1 hD1 hS1 => ?_)
  rw [hset] at hP1
  exact k E p l e R s m args below meth c H1 locs1 cells slots Q ls hC ⟨hP1, hR.2.1, hR.2.2⟩ hS1 hl hr hk
theorem zk_ce_21 {E : zk_E} {n a : Nat} (ha : Z.2.1 a = (21, n)) : zk_ce E (Z, I, J) a = .inl (E.2.1 1, n, .inr (.inl (J a))) := by
  simp only [zk_ce, ha]
  first | rfl | (rw [if_neg (by decide), if_pos rfl]) | simp
theorem c_lald {n a : Nat} {i : Int32} (h : zk_at mt pc = some (.laload, npc, tg)) (ha : Z.2.1 a = (21, n)) (hz : a < Z.1) (hi : zk_in i n = true) (k : zC X d mt npc L (.long (J a i.toNatClampNeg) :: st) (Z, I, J) dc ds rv M') : zC X d mt pc L (.int i :: .ref a :: st) (Z, I, J) dc ds rv M' := by
  intro E p l e R s m args below meth c H locs cells slots Q ls hC hR hS hl hr hk
  obtain ⟨hn, hd⟩ := zk_d hC.2.2.1 h rfl
  subst hn
  exact va_lald (D := E.1) (a := zk_ad E a) hC.1 hC.2.1 hR.2.1 hR.1 a 1 ((zk_ws_at (M := (Z, I, J)) hz).trans (by rw [zk_ce_21 ha])) rfl (zk_in_vp hi) hd (k E p l e R s m args below meth c H locs cells slots Q ls hC hR hS hl hr hk)
theorem c_last {n a : Nat} {i : Int32} {x : Int64} (h : zk_at mt pc = some (.lastore, npc, tg)) (ha : Z.2.1 a = (21, n)) (hz : a < Z.1) (hi : zk_in i n = true) (k : zC X d mt npc L st (Z, I, zk_sj J a (vp_updL (J a) i.toNatClampNeg x)) dc ds rv M') : zC X d mt pc L (.long x :: .int i :: .ref a :: st) (Z, I, J) dc ds rv M' := by
  intro E p l e R s m args below meth c H locs cells slots Q ls hC hR hS hl hr hk
  obtain ⟨hn, hd⟩ := zk_d hC.2.2.1 h rfl
  subst hn
  have hset := zk_ws_set (E := E) (M := (Z, I, J)) (M2 := (Z, I, zk_sj J a (vp_updL (J a) i.toNatClampNeg x))) (c := a) rfl (zk_ce_21 ha) (fun q hq => zk_ce_off rfl (zk_sj_n J _ hq))
  rw [zk_sj_s] at hset
  refine va_last (D := E.1) (a := zk_ad E a) hC.1 hC.2.1 hR.2.1 hR.1 (zk_D hR.2.2) hS a 1 ((zk_ws_at (M := (Z, I, J)) hz).trans (by rw [zk_ce_21 ha])) rfl (zk_in_vp hi) hd (fun H1 locs1 hP1 hD1 hS1 => ?_)
  rw [hset] at hP1
  exact k E p l e R s m args below meth c H1 locs1 cells slots Q ls hC ⟨hP1, hR.2.1, hR.2.2⟩ hS1 hl hr hk
theorem zk_ce_22 {E : zk_E} {n a : Nat} (ha : Z.2.1 a = (22, n)) : zk_ce E (Z, I, J) a = .inl (E.2.1 2, n, .inl (I a)) := by
  simp only [zk_ce, ha]
  first | rfl | (rw [if_neg (by decide), if_neg (by decide), if_pos rfl]) | simp
theorem c_zald {n a : Nat} {i : Int32} (h : zk_at mt pc = some (.baload, npc, tg)) (ha : Z.2.1 a = (22, n)) (hz : a < Z.1) (hi : zk_in i n = true) (k : zC X d mt npc L (.int (I a i.toNatClampNeg) :: st) (Z, I, J) dc ds rv M') : zC X d mt pc L (.int i :: .ref a :: st) (Z, I, J) dc ds rv M' := by
  intro E p l e R s m args below meth c H locs cells slots Q ls hC hR hS hl hr hk
  obtain ⟨hn, hd⟩ := zk_d hC.2.2.1 h rfl
  subst hn
  exact va_zald (D := E.1) (a := zk_ad E a) hC.1 hC.2.1 hR.2.1 hR.1 a 2 ((zk_ws_at (M := (Z, I, J)) hz).trans (by rw [zk_ce_22 ha])) rfl (zk_in_vp hi) hd (k E p l e R s m args below meth c H locs cells slots Q ls hC hR hS hl hr hk)
theorem c_zast {n a : Nat} {i : Int32} {x : Int32} (h : zk_at mt pc = some (.bastore, npc, tg)) (ha : Z.2.1 a = (22, n)) (hz : a < Z.1) (hi : zk_in i n = true) (k : zC X d mt npc L st (Z, zk_sc I a (upd (I a) i.toNatClampNeg (vp_nar .boolean x)), J) dc ds rv M') : zC X d mt pc L (.int x :: .int i :: .ref a :: st) (Z, I, J) dc ds rv M' := by
  intro E p l e R s m args below meth c H locs cells slots Q ls hC hR hS hl hr hk
  obtain ⟨hn, hd⟩ := zk_d hC.2.2.1 h rfl
  subst hn
  have hset := zk_ws_set (E := E) (M := (Z, I, J)) (M2 := (Z, zk_sc I a (upd (I a) i.toNatClampNeg (vp_nar .boolean x)), J)) (c := a) rfl (zk_ce_22 ha) (fun q hq => zk_ce_off (zk_sc_n I _ hq) rfl)
  rw [zk_sc_s] at hset
  refine va_zast (D := E.1) (a := zk_ad E a) hC.1 hC.2.1 hR.2.1 hR.1 (zk_D hR.2.2) hS a 2 ((zk_ws_at (M := (Z, I, J)) hz).trans (by rw [zk_ce_22 ha])) rfl (zk_in_vp hi) hd (fun H1 locs1 hP1 hD1 hS1 => ?_)
  rw [hset] at hP1
  exact k E p l e R s m args below meth c H1 locs1 cells slots Q ls hC ⟨hP1, hR.2.1, hR.2.2⟩ hS1 hl hr hk
theorem zk_ce_23 {E : zk_E} {n a : Nat} (ha : Z.2.1 a = (23, n)) : zk_ce E (Z, I, J) a = .inl (E.2.1 3, n, .inl (I a)) := by
  simp only [zk_ce, ha]
  first | rfl | (rw [if_neg (by decide), if_neg (by decide), if_neg (by decide), if_pos rfl]) | simp
theorem c_cald {n a : Nat} {i : Int32} (h : zk_at mt pc = some (.caload, npc, tg)) (ha : Z.2.1 a = (23, n)) (hz : a < Z.1) (hi : zk_in i n = true) (k : zC X d mt npc L (.int (I a i.toNatClampNeg) :: st) (Z, I, J) dc ds rv M') : zC X d mt pc L (.int i :: .ref a :: st) (Z, I, J) dc ds rv M' := by
  intro E p l e R s m args below meth c H locs cells slots Q ls hC hR hS hl hr hk
  obtain ⟨hn, hd⟩ := zk_d hC.2.2.1 h rfl
  subst hn
  exact va_cald (D := E.1) (a := zk_ad E a) hC.1 hC.2.1 hR.2.1 hR.1 a 3 ((zk_ws_at (M := (Z, I, J)) hz).trans (by rw [zk_ce_23 ha])) rfl (zk_in_vp hi) hd (k E p l e R s m args below meth c H locs cells slots Q ls hC hR hS hl hr hk)
theorem c_cast {n a : Nat} {i : Int32} {x : Int32} (h : zk_at mt pc = some (.castore, npc, tg)) (ha : Z.2.1 a = (23, n)) (hz : a < Z.1) (hi : zk_in i n = true) (k : zC X d mt npc L st (Z, zk_sc I a (upd (I a) i.toNatClampNeg (vp_nar .char x)), J) dc ds rv M') : zC X d mt pc L (.int x :: .int i :: .ref a :: st) (Z, I, J) dc ds rv M' := by
  intro E p l e R s m args below meth c H locs cells slots Q ls hC hR hS hl hr hk
  obtain ⟨hn, hd⟩ := zk_d hC.2.2.1 h rfl
  subst hn
  have hset := zk_ws_set (E := E) (M := (Z, I, J)) (M2 := (Z, zk_sc I a (upd (I a) i.toNatClampNeg (vp_nar .char x)), J)) (c := a) rfl (zk_ce_23 ha) (fun q hq => zk_ce_off (zk_sc_n I _ hq) rfl)
  rw [zk_sc_s] at hset
  refine va_cast (D := E.1) (a := zk_ad E a) hC.1 hC.2.1 hR.2.1 hR.1 (zk_D hR.2.2) hS a 3 ((zk_ws_at (M := (Z, I, J)) hz).trans (by rw [zk_ce_23 ha])) rfl (zk_in_vp hi) hd (fun H1 locs1 hP1 hD1 hS1 => ?_)
  rw [hset] at hP1
  exact k E p l e R s m args below meth c H1 locs1 cells slots Q ls hC ⟨hP1, hR.2.1, hR.2.2⟩ hS1 hl hr hk
theorem zk_ce_24 {E : zk_E} {n a : Nat} (ha : Z.2.1 a = (24, n)) : zk_ce E (Z, I, J) a = .inl (E.2.1 4, n, .inr (.inr (.inr (.inr (fun j => (Z.2.2 a j).map (zk_ad E)))))) := by
  simp only [zk_ce, ha]
  first | rfl | simp
theorem c_aald {n a b : Nat} {i : Int32} (h : zk_at mt pc = some (.aaload, npc, tg)) (ha : Z.2.1 a = (24, n)) (hz : a < Z.1) (hi : zk_in i n = true) (hb : Z.2.2 a i.toNatClampNeg = some b) (k : zC X d mt npc L (.ref b :: st) (Z, I, J) dc ds rv M') : zC X d mt pc L (.int i :: .ref a :: st) (Z, I, J) dc ds rv M' := by
  intro E p l e R s m args below meth c H locs cells slots Q ls hC hR hS hl hr hk
  obtain ⟨hn, hd⟩ := zk_d hC.2.2.1 h rfl
  subst hn
  have k' := k E p l e R s m args below meth c H locs cells slots Q ls hC hR hS hl hr hk
  refine va_aldq (D := E.1) (a := zk_ad E a) hC.1 hC.2.1 hR.2.1 hR.1 a 4 ((zk_ws_at (M := (Z, I, J)) hz).trans (by rw [zk_ce_24 ha])) rfl (zk_in_vp hi) hd ?_
  rw [hb]
  exact k'
theorem c_alen {n a q : Nat} {v : Int32} (h : zk_at mt pc = some (.arraylength, npc, tg)) (ha : Z.2.1 a = (q, n)) (h20 : q = 20 ∨ q = 21) (hz : a < Z.1) (hv : Int32.ofNat n = v) (k : zC X d mt npc L (.int v :: st) (Z, I, J) dc ds rv M') : zC X d mt pc L (.ref a :: st) (Z, I, J) dc ds rv M' := by
  intro E p l e R s m args below meth c H locs cells slots Q ls hC hR hS hl hr hk
  obtain ⟨hn, hd⟩ := zk_d hC.2.2.1 h rfl
  subst hn
  rcases h20 with rfl | rfl
  · exact va_alen (D := E.1) (a := zk_ad E a) hC.1 hC.2.1 hR.2.1 hR.1 a 0 ((zk_ws_at (M := (Z, I, J)) hz).trans (by rw [zk_ce_20 ha])) rfl hv hd (k E p l e R s m args below meth c H locs cells slots Q ls hC hR hS hl hr hk)
  · exact va_alen (D := E.1) (a := zk_ad E a) hC.1 hC.2.1 hR.2.1 hR.1 a 1 ((zk_ws_at (M := (Z, I, J)) hz).trans (by rw [zk_ce_21 ha])) rfl hv hd (k E p l e R s m args below meth c H locs cells slots Q ls hC hR hS hl hr hk)
theorem c_ialdX {i : Int32} (h : zk_at mt pc = some (.iaload, npc, tg)) (hi : zk_in i X.1 = true) (k : zC X d mt npc L (.int (X.2 i.toNatClampNeg) :: st) (Z, I, J) dc ds rv M') : zC X d mt pc L (.int i :: .ref 1000 :: st) (Z, I, J) dc ds rv M' := by
  intro E p l e R s m args below meth c H locs cells slots Q ls hC hR hS hl hr hk
  obtain ⟨hn, hd⟩ := zk_d hC.2.2.1 h rfl
  subst hn
  obtain ⟨⟨x1, x2⟩, -, -, -, -, -, -, x3, -⟩ := hC.2.2.2.2.2.2.2.2.2
  exact va_sld hC.1 hC.2.1 x1 (Nat.lt_of_lt_of_le x2 x3) (show ¬ E.2.2.1 ≤ E.2.2.2 1000 by omega) hS (zk_in_vp hi) hd (k E p l e R s m args below meth c H locs cells slots Q ls hC hR hS hl hr hk)
theorem c_alenX {v : Int32} (h : zk_at mt pc = some (.arraylength, npc, tg)) (hv : Int32.ofNat X.1 = v) (k : zC X d mt npc L (.int v :: st) (Z, I, J) dc ds rv M') : zC X d mt pc L (.ref 1000 :: st) (Z, I, J) dc ds rv M' := by
  intro E p l e R s m args below meth c H locs cells slots Q ls hC hR hS hl hr hk
  obtain ⟨hn, hd⟩ := zk_d hC.2.2.1 h rfl
  subst hn
  subst hv
  obtain ⟨⟨x1, x2⟩, -, -, -, -, -, -, x3, -⟩ := hC.2.2.2.2.2.2.2.2.2
  exact va_slen hC.1 hC.2.1 x1 (Nat.lt_of_lt_of_le x2 x3) (show ¬ E.2.2.1 ≤ E.2.2.2 1000 by omega) hS hd (k E p l e R s m args below meth c H locs cells slots Q ls hC hR hS hl hr hk)
theorem c_getsWH {idx : Nat} (h : zk_at mt pc = some (.getstatic idx, npc, tg)) (hw : Cond.fieldLink mt.1.cls idx "NamedNext" "WHAT_HE_IS" "[I" ∈ zk_tbl) (k : zC X d mt npc L (.ref 1001 :: st) (Z, I, J) dc ds rv M') : zC X d mt pc L st (Z, I, J) dc ds rv M' := by
  intro E p l e R s m args below meth c H locs cells slots Q ls hC hR hS hl hr hk
  obtain ⟨hn, hd⟩ := zk_d hC.2.2.1 h rfl
  subst hn
  obtain ⟨-, ⟨x1, -⟩, -⟩ := hC.2.2.2.2.2.2.2.2.2
  exact va_gets hC.1 hC.2.1 x1 hS hC.2.2.2.2.2.1 (hC.2.2.2.2.2.2.1 _ hw) (fun _ h9 => h9) hd (k E p l e R s m args below meth c H locs cells slots Q ls hC hR hS hl hr hk)
theorem c_ialdWH {i : Int32} (h : zk_at mt pc = some (.iaload, npc, tg)) (hi : zk_in i 4 = true) (k : zC X d mt npc L (.int (zk_wh i.toNatClampNeg) :: st) (Z, I, J) dc ds rv M') : zC X d mt pc L (.int i :: .ref 1001 :: st) (Z, I, J) dc ds rv M' := by
  intro E p l e R s m args below meth c H locs cells slots Q ls hC hR hS hl hr hk
  obtain ⟨hn, hd⟩ := zk_d hC.2.2.1 h rfl
  subst hn
  obtain ⟨-, ⟨-, x1⟩, -⟩ := hC.2.2.2.2.2.2.2.2.2
  exact va_ti hC.1 hC.2.1 x1 hS (zk_in_vp hi) rfl hd (k E p l e R s m args below meth c H locs cells slots Q ls hC hR hS hl hr hk)
theorem c_getsLO {idx : Nat} (h : zk_at mt pc = some (.getstatic idx, npc, tg)) (hw : Cond.fieldLink mt.1.cls idx "NamedNext$Rows" "LOTS" "[J" ∈ zk_tbl) (k : zC X d mt npc L (.ref 1002 :: st) (Z, I, J) dc ds rv M') : zC X d mt pc L st (Z, I, J) dc ds rv M' := by
  intro E p l e R s m args below meth c H locs cells slots Q ls hC hR hS hl hr hk
  obtain ⟨hn, hd⟩ := zk_d hC.2.2.1 h rfl
  subst hn
  obtain ⟨-, -, ⟨x1, -⟩, -⟩ := hC.2.2.2.2.2.2.2.2.2
  exact va_gets hC.1 hC.2.1 x1 hS hC.2.2.2.2.2.1 (hC.2.2.2.2.2.2.1 _ hw) (fun _ h9 => h9) hd (k E p l e R s m args below meth c H locs cells slots Q ls hC hR hS hl hr hk)
theorem c_laldLO {i : Int32} (h : zk_at mt pc = some (.laload, npc, tg)) (hi : zk_in i 8 = true) (k : zC X d mt npc L (.long (zk_lots i.toNatClampNeg) :: st) (Z, I, J) dc ds rv M') : zC X d mt pc L (.int i :: .ref 1002 :: st) (Z, I, J) dc ds rv M' := by
  intro E p l e R s m args below meth c H locs cells slots Q ls hC hR hS hl hr hk
  obtain ⟨hn, hd⟩ := zk_d hC.2.2.1 h rfl
  subst hn
  obtain ⟨-, -, ⟨-, x1⟩, -⟩ := hC.2.2.2.2.2.2.2.2.2
  exact va_tl hC.1 hC.2.1 x1 hS (zk_in_vp hi) rfl hd (k E p l e R s m args below meth c H locs cells slots Q ls hC hR hS hl hr hk)
theorem c_alenLO {v : Int32} (h : zk_at mt pc = some (.arraylength, npc, tg)) (hv : Int32.ofNat 8 = v) (k : zC X d mt npc L (.int v :: st) (Z, I, J) dc ds rv M') : zC X d mt pc L (.ref 1002 :: st) (Z, I, J) dc ds rv M' := by
  intro E p l e R s m args below meth c H locs cells slots Q ls hC hR hS hl hr hk
  obtain ⟨hn, hd⟩ := zk_d hC.2.2.1 h rfl
  subst hn
  obtain ⟨-, -, ⟨-, x1⟩, -⟩ := hC.2.2.2.2.2.2.2.2.2
  exact va_tlen hC.1 hC.2.1 x1 hS hv hd (k E p l e R s m args below meth c H locs cells slots Q ls hC hR hS hl hr hk)
theorem c_getsCS {idx : Nat} (h : zk_at mt pc = some (.getstatic idx, npc, tg)) (hw : Cond.fieldLink mt.1.cls idx "java/lang/String" "COMPACT_STRINGS" "Z" ∈ zk_tbl) (k : zC X d mt npc L (.int 1 :: st) (Z, I, J) dc ds rv M') : zC X d mt pc L st (Z, I, J) dc ds rv M' := by
  intro E p l e R s m args below meth c H locs cells slots Q ls hC hR hS hl hr hk
  obtain ⟨hn, hd⟩ := zk_d hC.2.2.1 h rfl
  subst hn
  obtain ⟨-, -, -, -, x1, -⟩ := hC.2.2.2.2.2.2.2.2.2
  exact va_gets hC.1 hC.2.1 x1 hS hC.2.2.2.2.2.1 (hC.2.2.2.2.2.2.1 _ hw) (fun _ h9 => h9) hd (k E p l e R s m args below meth c H locs cells slots Q ls hC hR hS hl hr hk)
theorem c_getsSI {idx : Nat} (h : zk_at mt pc = some (.getstatic idx, npc, tg)) (hw : Cond.fieldLink mt.1.cls idx "jdk/internal/util/Preconditions" "SIOOBE_FORMATTER" "Ljava/util/function/BiFunction;" ∈ zk_tbl) (kn : zC X d mt npc L (.null :: st) (Z, I, J) dc ds rv M') (k : zC X d mt npc L (.ref 1003 :: st) (Z, I, J) dc ds rv M') : zC X d mt pc L st (Z, I, J) dc ds rv M' := by
  intro E p l e R s m args below meth c H locs cells slots Q ls hC hR hS hl hr hk
  obtain ⟨hn, hd⟩ := zk_d hC.2.2.1 h rfl
  subst hn
  obtain ⟨-, -, -, x1, -⟩ := hC.2.2.2.2.2.2.2.2.2
  rcases x1 with x1 | x1
  · exact va_gets hC.1 hC.2.1 x1 hS hC.2.2.2.2.2.1 (hC.2.2.2.2.2.2.1 _ hw) (fun _ h9 => h9) hd (kn E p l e R s m args below meth c H locs cells slots Q ls hC hR hS hl hr hk)
  · exact va_gets hC.1 hC.2.1 x1 hS hC.2.2.2.2.2.1 (hC.2.2.2.2.2.2.1 _ hw) (fun _ h9 => h9) hd (k E p l e R s m args below meth c H locs cells slots Q ls hC hR hS hl hr hk)
theorem c_ldcS {idx i : Nat} (h : zk_at mt pc = some (.ldc idx, npc, tg)) (hm : mt.1.cls = "NamedNext$Clauses") (hi : i < 10) (hx : (zk_sk.getD i (0, "")).1 = idx) (k : zC X d mt npc L (.ref (1010 + i) :: st) (Z, I, J) dc ds rv M') : zC X d mt pc L st (Z, I, J) dc ds rv M' := by
  intro E p l e R s m args below meth c H locs cells slots Q ls hC hR hS hl hr hk
  obtain ⟨hn, hd⟩ := zk_d hC.2.2.1 h rfl
  subst hn
  obtain ⟨-, -, -, -, -, -, x1, -⟩ := hC.2.2.2.2.2.2.2.2.2
  have k' := k E p l e R s m args below meth c H locs cells slots Q ls hC hR hS hl hr hk
  have e8 : zk_ad E (1010 + i) = E.2.2.2 (1010 + i) := if_neg (by omega)
  simp only [List.map_cons, zk_tr, e8] at k'
  subst hx
  exact va_ldcS hC.1 hC.2.1 (by rw [← hm]; exact hC.2.2.2.2.2.1) (x1 i hi) hd k'
theorem c_strV {idx i : Nat} (h : zk_at mt pc = some (.getfield idx, npc, tg)) (hw : Cond.fieldLink mt.1.cls idx "java/lang/String" "value" "[B" ∈ zk_tbl) (hi : i < 10) (k : zC X d mt npc L (.ref (1030 + i) :: st) (Z, I, J) dc ds rv M') : zC X d mt pc L (.ref (1010 + i) :: st) (Z, I, J) dc ds rv M' := by
  intro E p l e R s m args below meth c H locs cells slots Q ls hC hR hS hl hr hk
  obtain ⟨hn, hd⟩ := zk_d hC.2.2.1 h rfl
  subst hn
  obtain ⟨-, -, -, -, -, x1, -⟩ := hC.2.2.2.2.2.2.2.2.2
  have k' := k E p l e R s m args below meth c H locs cells slots Q ls hC hR hS hl hr hk
  have e8 : zk_ad E (1010 + i) = E.2.2.2 (1010 + i) := if_neg (by omega)
  have e2 : zk_ad E (1030 + i) = E.2.2.2 (1030 + i) := if_neg (by omega)
  simp only [List.map_cons, zk_tr, e8, e2] at k' ⊢
  exact vk_getf hC.1 hC.2.1 (x1.1 i hi).2.2.1 hS hC.2.2.2.2.2.1 (hC.2.2.2.2.2.2.1 _ hw) (fun _ h9 => h9) hd k'
theorem c_strC {idx i : Nat} (h : zk_at mt pc = some (.getfield idx, npc, tg)) (hw : Cond.fieldLink mt.1.cls idx "java/lang/String" "coder" "B" ∈ zk_tbl) (hi : i < 10) (k : zC X d mt npc L (.int 0 :: st) (Z, I, J) dc ds rv M') : zC X d mt pc L (.ref (1010 + i) :: st) (Z, I, J) dc ds rv M' := by
  intro E p l e R s m args below meth c H locs cells slots Q ls hC hR hS hl hr hk
  obtain ⟨hn, hd⟩ := zk_d hC.2.2.1 h rfl
  subst hn
  obtain ⟨-, -, -, -, -, x1, -⟩ := hC.2.2.2.2.2.2.2.2.2
  have e8 : zk_ad E (1010 + i) = E.2.2.2 (1010 + i) := if_neg (by omega)
  simp only [List.map_cons, zk_tr, e8]
  exact vk_getf hC.1 hC.2.1 (x1.1 i hi).2.1 hS hC.2.2.2.2.2.1 (hC.2.2.2.2.2.2.1 _ hw) (fun _ h9 => h9) hd (k E p l e R s m args below meth c H locs cells slots Q ls hC hR hS hl hr hk)
theorem c_strB {i : Nat} {j : Int32} (h : zk_at mt pc = some (.baload, npc, tg)) (hi : i < 10) (hj : zk_in j (zk_sl.getD i 0) = true) (k : zC X d mt npc L (.int ((zk_sb.getD i []).getD j.toNatClampNeg 0) :: st) (Z, I, J) dc ds rv M') : zC X d mt pc L (.int j :: .ref (1030 + i) :: st) (Z, I, J) dc ds rv M' := by
  intro E p l e R s m args below meth c H locs cells slots Q ls hC hR hS hl hr hk
  obtain ⟨hn, hd⟩ := zk_d hC.2.2.1 h rfl
  subst hn
  obtain ⟨-, -, -, -, -, x1, -⟩ := hC.2.2.2.2.2.2.2.2.2
  have e2 : zk_ad E (1030 + i) = E.2.2.2 (1030 + i) := if_neg (by omega)
  simp only [List.map_cons, zk_tr, e2]
  exact va_tb hC.1 hC.2.1 (x1.1 i hi).2.2.2 hS (zk_in_vp hj) rfl hd (k E p l e R s m args below meth c H locs cells slots Q ls hC hR hS hl hr hk)
theorem c_strL {i : Nat} {v : Int32} (h : zk_at mt pc = some (.arraylength, npc, tg)) (hi : i < 10) (hv : Int32.ofNat (zk_sl.getD i 0) = v) (k : zC X d mt npc L (.int v :: st) (Z, I, J) dc ds rv M') : zC X d mt pc L (.ref (1030 + i) :: st) (Z, I, J) dc ds rv M' := by
  intro E p l e R s m args below meth c H locs cells slots Q ls hC hR hS hl hr hk
  obtain ⟨hn, hd⟩ := zk_d hC.2.2.1 h rfl
  subst hn
  obtain ⟨-, -, -, -, -, x1, -⟩ := hC.2.2.2.2.2.2.2.2.2
  have e2 : zk_ad E (1030 + i) = E.2.2.2 (1030 + i) := if_neg (by omega)
  simp only [List.map_cons, zk_tr, e2]
  exact va_tlen hC.1 hC.2.1 (x1.1 i hi).2.2.2 hS hv hd (k E p l e R s m args below meth c H locs cells slots Q ls hC hR hS hl hr hk)
end ZM
end
section
/-! calls -/
theorem zk_Xt.mv {X : zk_X} {E : zk_E} {u U : State} {H : Heap} (ha : u.vm.Alike U.vm) (hr : ∀ (o : String) (k : Nat) (t : String) (a : Nat), vk_R o k t a u → vk_R o k t a U) (hn : ∀ (a : String) (i : Nat) (x : MethodName) (b : String), va_Nw (.methodLinkNest a i x b) u → va_Nw (.methodLinkNest a i x b) U) (h : zk_Xt X E u H) : zk_Xt X E U H := by
  obtain ⟨⟨a1, a2⟩, ⟨b1, b2⟩, ⟨c1, c2⟩, d1, e1, f1, g1, h1, i1, j1⟩ := h
  exact ⟨⟨a1.moved ha, a2⟩, ⟨b1.moved ha, b2.moved ha⟩, ⟨c1.moved ha, c2.moved ha⟩, d1.imp (fun q => q.moved ha) (fun q => q.moved ha), e1.moved ha, f1.moved ha, fun i hi => hr _ _ _ _ (g1 i hi), h1, fun q hq => hn _ _ _ _ (i1 q hq), j1.moved ha⟩
theorem zk_Xt.warm {X : zk_X} {E : zk_E} {u U : State} {H : Heap} (hW : u.WarmedH U.vm) (h : zk_Xt X E u H) : zk_Xt X E U H :=
  h.mv hW.alike (fun _ _ _ _ q => vk_R.warm hW q) (fun _ _ _ _ q => va_Nw.warmM hW q)
theorem zk_Xt.same {X : zk_X} {E : zk_E} {u U : State} {H : Heap} (hv : U.vm = u.vm) (h : zk_Xt X E u H) : zk_Xt X E U H :=
  h.mv (by rw [hv]; exact Vm.Alike.refl u.vm) (fun _ _ _ _ q => vk_R.same hv q) (fun _ _ _ _ q => va_Nw.same rfl hv.symm q)
theorem zk_Xt.kept {X : zk_X} {E : zk_E} {U : State} {H H1 : Heap} (hz : H.size ≤ H1.size) (hq : ∀ q : Nat, q < H.size → ¬ zk_A E q → H1[q]? = H[q]?) (h : zk_Xt X E U H) : zk_Xt X E U H1 := by
  obtain ⟨⟨a1, a2⟩, ⟨b1, b2⟩, ⟨c1, c2⟩, d1, e1, f1, g1, h1, i1, j1⟩ := h
  refine ⟨⟨a1.kept (hq _ (Nat.lt_of_lt_of_le a2 h1) (show ¬ E.2.2.1 ≤ E.2.2.2 1000 by omega)), a2⟩, ⟨b1.kept hq, b2.kept hq⟩, ⟨c1.kept hq, c2.kept hq⟩, d1.imp (fun q => q.kept hq) (fun q => q.kept hq), e1.kept hq, f1.kept hq, g1, Nat.le_trans h1 hz, i1, j1⟩
theorem zk_R.mv {E : zk_E} {M : zk_M} {u U : State} {H : Heap} (ha : u.vm.Alike U.vm) (h : zk_R E M u H) : zk_R E M U H := ⟨h.1, va_K.moved ha h.2.1, h.2.2⟩
/-- the size, out of the world below and the room above -/
theorem zk_low {E : zk_E} {M : zk_M} {s : State} {H : Heap} {locs : List Loc} (hR : zk_R E M s H) (hb : E.2.2.1 ≤ s.heap.size) (hS : va_S (zk_A E) s.heap H locs) : E.2.2.1 + M.1.1 ≤ H.size := by
  cases hn : M.1.1 with
  | zero => have := hS.1; omega
  | succ n =>
    have h1 := (hR.1 n _ (zk_ws_at (E := E) (M := M) (c := n) (by omega))).lt
    have h2 := hR.2.2
    simp only [zk_ad, if_pos (show n < 1000 by omega)] at h1
    omega
theorem W.zsz {p : Program} {l : Launch} {e : Env} {R : Room} {s : State} {m : MethodId} {args : Array Value} {below : List Frame} {meth : Method} {c : Code} {H : Heap} {locs : List Loc} {cells slots : Nat} {Q : State → Prop} {g : JFrame}
    (k : H.size ≤ s.heap.size + cells → W p l e R s m args below meth c H locs cells slots Q g) : W p l e R s m args below meth c H locs cells slots Q g := fun T hT Xs => k (by rw [← hT]; exact Xs.heapSize) T hT Xs
def zk_w (mt : zk_Mt) : List Cond := Cond.code mt.1 mt.2.1 mt.2.2.1 mt.2.2.2.1 :: zk_tbl
def zk_rm (d dc ds : Nat) : Room := { frames := d, cells := dc, slots := ds, locals := 60 * d }
def zk_P (X : zk_X) (E : zk_E) (M : zk_M) : State → Prop := fun U => zk_R E M U U.heap ∧ zk_Xt X E U U.heap ∧ U.heap.size = E.2.2.1 + M.1.1
def zk_Q (E : zk_E) (rv : Option Value) (M' : zk_M) : Array Value → State → Outcome → State → Prop := fun _ st oc t => oc = .returned (rv.map (zk_tr E)) ∧ zk_R E M' t t.heap ∧ va_F (zk_A E) st t
def zk_flat (av : List Value) : List (Option Value) := av.flatMap fun v => if v.category = 2 then [some v, none] else [some v]
def zk_ent (av : List Value) (n : Nat) : List (Option Value) := zk_flat av ++ List.replicate (n - (zk_flat av).length) none
theorem zk_flat_at (E : zk_E) : ∀ (av : List Value) (k i : Nat) (v : Value), (zk_flat av)[i]? = some (some v) → (k + i, zk_tr E v) ∈ lv_args k (av.map (zk_tr E))
  | [], _, _, _, h => by simp [zk_flat] at h
  | w :: t, k, i, v, h => by
    simp only [zk_flat, List.flatMap_cons] at h
    simp only [List.map_cons, lv_args, zk_tr_cat]
    by_cases hc : w.category = 2
    · rw [if_pos hc] at h
      rw [if_pos hc]
      match i, h with
      | 0, h =>
        simp at h
        subst h
        exact List.mem_cons_self
      | 1, h => simp at h
      | i + 2, h =>
        have h' : (zk_flat t)[i]? = some (some v) := by simpa [zk_flat] using h
        have := zk_flat_at E t (k + 2) i v h'
        rw [show k + (i + 2) = k + 2 + i by omega]
        exact List.mem_cons_of_mem _ this
    · rw [if_neg hc] at h
      rw [if_neg hc]
      match i, h with
      | 0, h =>
        simp at h
        subst h
        exact List.mem_cons_self
      | i + 1, h =>
        have h' : (zk_flat t)[i]? = some (some v) := by simpa [zk_flat] using h
        have := zk_flat_at E t (k + 1) i v h'
        rw [show k + (i + 1) = k + 1 + i by omega]
        exact List.mem_cons_of_mem _ this
theorem zk_sl_len (E : zk_E) : ∀ av : List Value, (lg_sl (av.map (zk_tr E))).length = (zk_flat av).length
  | [] => rfl
  | w :: t => by
    have ih := zk_sl_len E t
    simp only [lg_sl, zk_flat, List.map_cons, List.flatMap_cons, zk_tr_cat, List.length_append] at ih ⊢
    rw [ih]
    by_cases hc : w.category = 2
    · simp [hc]
    · simp [hc]
theorem zk_lv_ent {E : zk_E} {av : List Value} {n : Nat} (h : (zk_flat av).length ≤ n) : zk_lv E n ((lg_sl (av.map (zk_tr E)) ++ List.replicate (n - (lg_sl (av.map (zk_tr E))).length) Slot.unset).toArray) (zk_ent av n) := by
  have hl := lv_entry (av.map (zk_tr E)) (n := n) (by rw [zk_sl_len]; exact h)
  refine ⟨hl.1, hl.2.1, fun i v hi => ?_⟩
  have hlt : i < (zk_flat av).length := by
    apply Nat.lt_of_not_le
    intro hge
    rw [zk_ent, List.getElem?_append_right hge] at hi
    have := List.mem_of_getElem? hi
    rw [List.mem_replicate] at this
    cases this.2
  rw [zk_ent, List.getElem?_append_left hlt] at hi
  have := zk_flat_at E av 0 i v hi
  rw [Nat.zero_add] at this
  exact hl.2.2 _ this
theorem zk_met {X : zk_X} {d : Nat} {mt : zk_Mt} {av : List Value} {M : zk_M} {dc ds : Nat} {rv : Option Value} {M' : zk_M} (l : Launch) (E : zk_E) (hok : zk_ok mt) (hpl : plainName mt.1.cls = true) (hav : (zk_flat av).length ≤ mt.2.2.1) (h : zC X d mt 0 (zk_ent av mt.2.2.1) [] M dc ds rv M') :
    Met l mt.1 (zk_w mt) (zk_rm d dc ds) (va_Pc (av.map (zk_tr E)) (zk_P X E M)) (zk_Q E rv M') dc ds (zk_A E) := by
  refine Met.ofW (cc := mt.2.1) (maxL := mt.2.2.1) (ret := mt.2.2.2.1) hpl rfl ?_
  intro p e s m args below meth c s₁ B hml hv
  obtain ⟨rfl, hR, hX, hz⟩ := hv
  have hts := atoms_spec (ws := zk_w mt) B.pre
  have hown : s.vm.findClass mt.1.cls = some m.cls := findClass_of_methodNamed B.named
  have hname : meth.name = mt.1.name := (name_of_methodNamed B.named B.method).1
  have hC : zk_Cx X E mt p s m (av.map (zk_tr E)).toArray meth c := ⟨B.exec, B.bytes, hok, B.returns, hml, hown, fun w hw => hts w (List.mem_cons_of_mem _ hw), B.notSynchronized, hname, hX⟩
  rw [lg_entry_eq]
  refine W.cs (cells' := 0) (slots' := 0) rfl rfl ?_
  have hlocks := B.notSynchronized
  refine h E p l e _ s m _ below meth c s.heap [] 0 0 _ _ hC hR va_S.rf (zk_lv_ent hav) ⟨Nat.le_refl _, Nat.le_refl _, by show 0 + dc ≤ dc; omega, by show 0 + ds ≤ ds; omega, by rw [hz]; rfl⟩ ?_
  intro pc' ls' H' locs' hret hR' hS'
  refine W.cs (cells' := dc) (slots' := ds) (Nat.zero_add _) (Nat.zero_add _) ?_
  rcases hret with ⟨rfl, hty, hdec⟩ | ⟨v, ty, rfl, hty, hn, hdec⟩ | ⟨v, rfl, hty, hdec⟩
  · exact W.vret B.exec B.bytes (B.returns.trans hty) (fun t ht hW => ⟨rfl, by rw [ht]; exact hR'.mv hW.alike, hS'.F ht⟩) hS'.2.2 hdec
  · exact W.zret B.exec B.bytes (B.returns.trans hty) hn (fun t ht hW => ⟨rfl, by rw [ht]; exact hR'.mv hW.alike, hS'.F ht⟩) hS'.2.2 hdec
  · exact W.lret B.exec B.bytes (B.returns.trans hty) (fun t ht hW => ⟨rfl, by rw [ht]; exact hR'.mv hW.alike, hS'.F ht⟩) hS'.2.2 hdec
end
section
/-! the rows of the judgement for calls -/
/-- a callee's own words -/
def zk_LB (mt2 : zk_Mt) (n : Nat) : Prop := zk_ok mt2 ∧ plainName mt2.1.cls = true ∧ mt2.2.2.1 ≤ 40 ∧ Cond.code mt2.1 mt2.2.1 mt2.2.2.1 mt2.2.2.2.1 ∈ zk_tbl ∧ Cond.initialized mt2.1.cls ∈ zk_tbl ∧ (mt2.1.cls ≠ "java/lang/invoke/MethodHandle" ∧ mt2.1.cls ≠ "java/lang/invoke/VarHandle" ∧ (parseMethodDescriptor mt2.1.desc).map (fun d => d.parameters.length) = some n)
theorem zk_tbl_good {w : Cond} (h : w ∈ zk_tbl) : (w.onTables && w.keeps) = true ∨ ∃ ty, w = .arrayClass ty := good_of_word (List.mem_filter.mp h).2
theorem zk_goodIn {mt2 : zk_Mt} (h : Cond.code mt2.1 mt2.2.1 mt2.2.2.1 mt2.2.2.2.1 ∈ zk_tbl) : GoodIn zk_tbl (zk_w mt2) := by
  intro w hw
  have hm : w ∈ zk_tbl := by
    rcases List.mem_cons.mp hw with rfl | hw
    · exact h
    · exact hw
  exact ⟨hm, zk_tbl_good hm⟩
theorem zk_goodV {own C : String} {idx : Nat} {mt2 : zk_Mt} (hc : Cond.code mt2.1 mt2.2.1 mt2.2.2.1 mt2.2.2.2.1 ∈ zk_tbl) (h1 : Cond.methodLink own idx mt2.1 ∈ zk_tbl) (h2 : Cond.instanceMethod mt2.1 ∈ zk_tbl) (h3 : Cond.selects C mt2.1 mt2.1 ∈ zk_tbl) (h4 : Cond.initialized C ∈ zk_tbl) : GoodIn zk_tbl (wsV own idx C mt2.1 (zk_w mt2)) := by
  intro w hw
  have hm : w ∈ zk_tbl := by
    rcases List.mem_append.mp hw with hw | hw
    · simp only [List.mem_cons, List.not_mem_nil, or_false] at hw
      rcases hw with rfl | rfl | rfl | rfl
      · exact h1
      · exact h2
      · exact h3
      · exact h4
    · exact (zk_goodIn hc w hw).1
  exact ⟨hm, zk_tbl_good hm⟩
theorem zk_blind {X : zk_X} {E : zk_E} {M : zk_M} {av : List Value} : FrameBlind (va_Pc av (zk_P X E M)) := by
  intro a U g mk q
  obtain ⟨q0, q1, q2, q3⟩ := q
  exact ⟨q0, q1.mv (U := U.calling g mk a) (Vm.Alike.refl U.vm), zk_Xt.same (U := U.calling g mk a) rfl q2, q3⟩
section ZCALL
variable {X : zk_X} {d d2 pc npc tg : Nat} {mt mt2 : zk_Mt} {L : List (Option Value)} {st stk As : List Value} {M M1 M' : zk_M} {dc ds dc1 ds1 dc2 ds2 : Nat} {rv rv1 : Option Value}
/-- what a call brings with it: the callee's pre, in the caller's heap -/
theorem zk_pre {E : zk_E} {s : State} {H : Heap} {locs : List Loc} {av : List Value} (hX : zk_Xt X E s s.heap) (hR : zk_R E M s H) (hS : va_S (zk_A E) s.heap H locs) (hz : H.size = E.2.2.1 + M.1.1) : ∀ U : State, U.heap = H → s.WarmedH U.vm → va_Pc (av.map (zk_tr E)) (zk_P X E M) (av.map (zk_tr E)).toArray U := by
  intro U hU hW
  exact ⟨rfl, by rw [hU]; exact hR.mv hW.alike, by rw [hU]; exact (hX.warm hW).kept hS.1 hS.2.1, by rw [hU]; exact hz⟩
/-- behind a call -/
theorem zk_behind {E : zk_E} {p : Program} {l : Launch} {e : Env} {R : Room} {s : State} {m : MethodId} {args : Array Value} {below : List Frame} {meth : Method} {c : Code} {H : Heap} {locs : List Loc} {cells slots : Nat} {Q : State → Prop} {ls : Array Slot} {st0 rest : List Value} {a : Array Value}
    (hrun : va_Run p l e R s m args below meth c H locs cells slots dc1 ds1 (F0 m pc ls st0) rest (zk_Q E rv1 M1 a) (zk_A E)) (hS : va_S (zk_A E) s.heap H locs)
    (k : ∀ (H1 : Heap) (locs1 : List Loc), zk_R E M1 s H1 → va_S (zk_A E) s.heap H1 locs1 → W p l e R s m args below meth c H1 locs1 (cells + dc1) (slots + ds1) Q (F0 m (pc + 3) ls ((rv1.map (zk_tr E)).toList ++ rest))) : W p l e R s m args below meth c H locs cells slots Q (F0 m pc ls st0) := by
  intro T hT Xs
  obtain ⟨v, st₀, t, T', Lo, h0, X', hL, e1, e2, ⟨hv, hR1, hz, hk⟩, stp⟩ := hrun T hT Xs
  cases hv
  rw [h0] at hz hk
  obtain ⟨t2, a1, b1⟩ := k T'.heap (locs ++ Lo) (by rw [e1]; exact hR1.mv (by rw [← e2]; exact X'.warmed.alike.symm))
    ⟨Nat.le_trans hS.1 (by rw [e1]; exact hz), fun q h1 h2 => by rw [e1, hk q (Nat.lt_of_lt_of_le h1 hS.1) h2]; exact hS.2.1 q h1 h2, fun q hq => by
      rcases List.mem_append.mp hq with h | h
      · exact hS.2.2 q h
      · exact hL q h⟩ T' rfl X'
  exact ⟨t2, stp t2 a1, b1⟩
theorem zk_cat (E : zk_E) (st : List Value) : ((st.map (zk_tr E)).map fun v => v.category).sum = (st.map fun v => v.category).sum := by
  rw [List.map_map]
  congr 1
  apply List.map_congr_left
  intro v _
  exact zk_tr_cat E v
theorem zk_toList (E : zk_E) (rv1 : Option Value) (st : List Value) : (rv1.map (zk_tr E)).toList ++ st.map (zk_tr E) = (rv1.toList ++ st).map (zk_tr E) := by
  cases rv1 <;> simp
theorem zk_rrev (E : zk_E) (As st : List Value) : (As.reverse ++ st).map (zk_tr E) = (As.map (zk_tr E)).reverse ++ st.map (zk_tr E) := by simp
/-- an object's own class, at a call -/
theorem zk_recv {E : zk_E} {Z : zk_Z} {I : zk_I} {J : zk_J} {s : State} {H : Heap} {b ci : Nat} (hR : zk_R E (Z, I, J) s H) (hb : (Z.2.1 b).1 = ci) (h9 : ci < 9) (hz : b < Z.1) : ∃ cell : Cell, H[zk_ad E b]? = some cell ∧ cell.vm.isStatics = false ∧ s.vm.findClass (zk_r ci).1 = some cell.cls :=
  va_recv hR.2.1 hR.1 (zk_r_at h9) (q0 := b) ((zk_ws_at (M := (Z, I, J)) hz).trans (by rw [zk_ce_o hb h9]))
def zk_LV (own : String) (idx : Nat) (mt2 : zk_Mt) (n ci : Nat) : Prop := zk_LB mt2 n ∧ Cond.methodLink own idx mt2.1 ∈ zk_tbl ∧ Cond.instanceMethod mt2.1 ∈ zk_tbl ∧ Cond.selects mt2.1.cls mt2.1 mt2.1 ∈ zk_tbl ∧ (zk_r ci).1 = mt2.1.cls ∧ ci < 9
theorem c_callV {Z : zk_Z} {I : zk_I} {J : zk_J} {idx n ci b : Nat} (h : zk_at mt pc = some (.invokevirtual idx, npc, tg)) (hl : zk_LV mt.1.cls idx mt2 n ci) (hb : (Z.2.1 b).1 = ci) (hbz : b < Z.1) (hst : stk = As.reverse ++ .ref b :: st) (hn : As.length = n) (hav : (zk_flat (.ref b :: As)).length ≤ mt2.2.2.1) (hd : d2 + 1 ≤ d) (h8 : (st.map fun v => v.category).sum ≤ 8) (hM1 : M1.1.1 = Z.1 + dc1) (hdc : dc = dc1 + dc2) (hds : ds = ds1 + ds2)
    (hcal : zC X d2 mt2 0 (zk_ent (.ref b :: As) mt2.2.2.1) [] (Z, I, J) dc1 ds1 rv1 M1) (k : zC X d mt npc L (rv1.toList ++ st) M1 dc2 ds2 rv M') : zC X d mt pc L stk (Z, I, J) dc ds rv M' := by
  intro E p l e R s m args below meth c H locs cells slots Q ls hC hR hS hlv hr hk
  obtain ⟨hn3, hdd⟩ := zk_d hC.2.2.1 h rfl
  subst hn3; subst hst; subst hdc; subst hds
  obtain ⟨⟨hok, hpl, hml, hcd, hini, hy⟩, hlk, hin, hsel, hcls, h9⟩ := hl
  refine W.zsz fun hsz => ?_
  have hlow := zk_low hR hC.2.2.2.2.2.2.2.2.2.2.2.2.2.2.2.2.1 hS
  have hsize : H.size = E.2.2.1 + Z.1 := by
    have := hr.2.2.2.2
    simp only at hlow this
    omega
  have hM := zk_met l E hok hpl hav hcal
  have hrecv := zk_recv hR hb h9 hbz
  rw [hcls] at hrecv
  have hrun := va_runV (p := p) (l := l) (e := e) (R := R) (s := s) (m := m) (args := args) (below := below) (meth := meth) (c := c) (H := H) (locs := locs) (cells := cells) (slots := slots) (g := F0 m pc ls (((As.reverse ++ .ref b :: st)).map (zk_tr E))) (b := zk_ad E b) (As := As.map (zk_tr E)) (rest := st.map (zk_tr E)) (nL := mt.2.2.1)
    ⟨hC.1, hC.2.1, hC.2.2.2.2.1, hC.2.2.2.2.2.1, hC.2.2.2.2.2.2.1⟩ hM (cwV n hC.2.2.2.2.2.2.1 (zk_goodV hcd hlk hin hsel hini) rfl rfl rfl ⟨rfl, hy⟩ ⟨Nat.le_trans hd hr.1, by
      have := hr.2.1
      show 8 + (mt2.2.2.1 + 11) + 60 * d2 ≤ R.locals
      omega⟩) ⟨zk_blind, hrecv, zk_pre (av := .ref b :: As) hC.2.2.2.2.2.2.2.2.2 hR hS hsize⟩ rfl (by rw [List.length_map]; exact hn) hlv.1 (by simp [zk_tr]) (by rw [zk_cat]; exact Nat.le_trans (by show 2 * 0 + _ ≤ _; omega) h8) hdd ⟨by have := hr.2.2.1; omega, by have := hr.2.2.2.1; omega⟩
  refine zk_behind hrun hS fun H1 locs1 hR1 hS1 => ?_
  rw [zk_toList]
  exact k E p l e R s m args below meth c H1 locs1 (cells + dc1) (slots + ds1) Q ls hC hR1 hS1 hlv ⟨hr.1, hr.2.1, by have := hr.2.2.1; omega, by have := hr.2.2.2.1; omega, by have := hr.2.2.2.2; simp only at this; omega⟩ (fun pc' ls' H' locs' g1 g2 g3 => by
    rw [Nat.add_assoc, Nat.add_assoc]
    exact hk pc' ls' H' locs' g1 g2 g3)
def zk_LVS (own : String) (idx : Nat) (mt2 : zk_Mt) (n : Nat) : Prop := zk_LB mt2 n ∧ Cond.methodLink own idx mt2.1 ∈ zk_tbl ∧ Cond.instanceMethod mt2.1 ∈ zk_tbl ∧ Cond.selects mt2.1.cls mt2.1 mt2.1 ∈ zk_tbl ∧ mt2.1.cls = "java/lang/String"
theorem c_callVS {Z : zk_Z} {I : zk_I} {J : zk_J} {idx n i : Nat} (h : zk_at mt pc = some (.invokevirtual idx, npc, tg)) (hl : zk_LVS mt.1.cls idx mt2 n) (hi : i < 10) (hst : stk = As.reverse ++ .ref (1010 + i) :: st) (hn : As.length = n) (hav : (zk_flat (.ref (1010 + i) :: As)).length ≤ mt2.2.2.1) (hd : d2 + 1 ≤ d) (h8 : (st.map fun v => v.category).sum ≤ 8) (hM1 : M1.1.1 = Z.1 + dc1) (hdc : dc = dc1 + dc2) (hds : ds = ds1 + ds2)
    (hcal : zC X d2 mt2 0 (zk_ent (.ref (1010 + i) :: As) mt2.2.2.1) [] (Z, I, J) dc1 ds1 rv1 M1) (k : zC X d mt npc L (rv1.toList ++ st) M1 dc2 ds2 rv M') : zC X d mt pc L stk (Z, I, J) dc ds rv M' := by
  intro E p l e R s m args below meth c H locs cells slots Q ls hC hR hS hlv hr hk
  obtain ⟨hn3, hdd⟩ := zk_d hC.2.2.1 h rfl
  subst hn3; subst hst; subst hdc; subst hds
  obtain ⟨⟨hok, hpl, hml, hcd, hini, hy⟩, hlk, hin, hsel, hcls⟩ := hl
  refine W.zsz fun hsz => ?_
  have hlow := zk_low hR hC.2.2.2.2.2.2.2.2.2.2.2.2.2.2.2.2.1 hS
  have hsize : H.size = E.2.2.1 + Z.1 := by
    have := hr.2.2.2.2
    simp only at hlow this
    omega
  have hM := zk_met l E hok hpl hav hcal
  have hrecv := vk_recv (i := i) hC.2.2.2.2.2.2.2.2.2.2.2.2.2.2.1 hi hS
  rw [← hcls] at hrecv
  have e8 : zk_ad E (1010 + i) = E.2.2.2 (1010 + i) := if_neg (by omega)
  have hrun := va_runV (p := p) (l := l) (e := e) (R := R) (s := s) (m := m) (args := args) (below := below) (meth := meth) (c := c) (H := H) (locs := locs) (cells := cells) (slots := slots) (g := F0 m pc ls (((As.reverse ++ .ref (1010 + i) :: st)).map (zk_tr E))) (b := E.2.2.2 (1010 + i)) (As := As.map (zk_tr E)) (rest := st.map (zk_tr E)) (nL := mt.2.2.1)
    ⟨hC.1, hC.2.1, hC.2.2.2.2.1, hC.2.2.2.2.2.1, hC.2.2.2.2.2.2.1⟩ hM (cwV n hC.2.2.2.2.2.2.1 (zk_goodV hcd hlk hin hsel hini) rfl rfl rfl ⟨rfl, hy⟩ ⟨Nat.le_trans hd hr.1, by
      have := hr.2.1
      show 8 + (mt2.2.2.1 + 11) + 60 * d2 ≤ R.locals
      omega⟩) ⟨zk_blind, hrecv, by have := zk_pre (av := .ref (1010 + i) :: As) hC.2.2.2.2.2.2.2.2.2 hR hS hsize; simp only [List.map_cons, zk_tr, e8] at this ⊢; exact this⟩ rfl (by rw [List.length_map]; exact hn) hlv.1 (by simp [zk_tr, e8]) (by rw [zk_cat]; exact Nat.le_trans (by show 2 * 0 + _ ≤ _; omega) h8) hdd ⟨by have := hr.2.2.1; omega, by have := hr.2.2.2.1; omega⟩
  refine zk_behind hrun hS fun H1 locs1 hR1 hS1 => ?_
  rw [zk_toList]
  exact k E p l e R s m args below meth c H1 locs1 (cells + dc1) (slots + ds1) Q ls hC hR1 hS1 hlv ⟨hr.1, hr.2.1, by have := hr.2.2.1; omega, by have := hr.2.2.2.1; omega, by have := hr.2.2.2.2; simp only at this; omega⟩ (fun pc' ls' H' locs' g1 g2 g3 => by
    rw [Nat.add_assoc, Nat.add_assoc]
    exact hk pc' ls' H' locs' g1 g2 g3)
def zk_LS (own : String) (idx : Nat) (mt2 : zk_Mt) (n : Nat) : Prop := zk_LB mt2 n ∧ Cond.methodLink own idx mt2.1 ∈ zk_tbl ∧ Cond.static mt2.1 ∈ zk_tbl
def zk_LSN (own : String) (idx : Nat) (mt2 : zk_Mt) (n : Nat) : Prop := zk_LB mt2 n ∧ (∃ host : String, (own, idx, mt2.1, host) ∈ zk_nest) ∧ Cond.static mt2.1 ∈ zk_tbl
def zk_LI (own : String) (idx : Nat) (mt2 : zk_Mt) (n : Nat) : Prop := zk_LB mt2 n ∧ Cond.methodLink own idx mt2.1 ∈ zk_tbl ∧ Cond.instanceMethod mt2.1 ∈ zk_tbl ∧ mt2.1.name = "<init>" ∧ mt2.2.2.2.1 = none
def zk_LIN (own : String) (idx : Nat) (mt2 : zk_Mt) (n : Nat) : Prop := zk_LB mt2 n ∧ (∃ host : String, (own, idx, mt2.1, host) ∈ zk_nest) ∧ Cond.instanceMethod mt2.1 ∈ zk_tbl ∧ mt2.1.name = "<init>" ∧ mt2.2.2.2.1 = none
theorem zk_goodS {own : String} {idx : Nat} {mt2 : zk_Mt} (hc : Cond.code mt2.1 mt2.2.1 mt2.2.2.1 mt2.2.2.2.1 ∈ zk_tbl) (h1 : Cond.methodLink own idx mt2.1 ∈ zk_tbl) (h2 : Cond.static mt2.1 ∈ zk_tbl) (h4 : Cond.initialized mt2.1.cls ∈ zk_tbl) : GoodIn zk_tbl (va_wsS own idx mt2.1 (zk_w mt2)) := by
  intro w hw
  have hm : w ∈ zk_tbl := by
    rcases List.mem_append.mp hw with hw | hw
    · simp only [List.mem_cons, List.not_mem_nil, or_false] at hw
      rcases hw with rfl | rfl | rfl
      · exact h1
      · exact h2
      · exact h4
    · exact (zk_goodIn hc w hw).1
  exact ⟨hm, zk_tbl_good hm⟩
theorem c_callS {Z : zk_Z} {I : zk_I} {J : zk_J} {idx n : Nat} (h : zk_at mt pc = some (.invokestatic idx, npc, tg)) (hl : zk_LS mt.1.cls idx mt2 n) (hst : stk = As.reverse ++ st) (hn : As.length = n) (hav : (zk_flat (As)).length ≤ mt2.2.2.1) (hd : d2 + 1 ≤ d) (h8 : (st.map fun v => v.category).sum ≤ 8) (hM1 : M1.1.1 = Z.1 + dc1) (hdc : dc = dc1 + dc2) (hds : ds = ds1 + ds2)
    (hcal : zC X d2 mt2 0 (zk_ent (As) mt2.2.2.1) [] (Z, I, J) dc1 ds1 rv1 M1) (k : zC X d mt npc L (rv1.toList ++ st) M1 dc2 ds2 rv M') : zC X d mt pc L stk (Z, I, J) dc ds rv M' := by
  intro E p l e R s m args below meth c H locs cells slots Q ls hC hR hS hlv hr hk
  obtain ⟨hn3, hdd⟩ := zk_d hC.2.2.1 h rfl
  subst hn3; subst hst; subst hdc; subst hds
  obtain ⟨⟨hok, hpl, hml, hcd, hini, hy⟩, hlk, hin⟩ := hl
  refine W.zsz fun hsz => ?_
  have hlow := zk_low hR hC.2.2.2.2.2.2.2.2.2.2.2.2.2.2.2.2.1 hS
  have hsize : H.size = E.2.2.1 + Z.1 := by
    have := hr.2.2.2.2
    simp only at hlow this
    omega
  have hM := zk_met l E hok hpl hav hcal
  have hrm : (zk_rm d2 dc1 ds1).frames + 1 ≤ R.frames ∧ 8 + (mt2.2.2.1 + 11) + (zk_rm d2 dc1 ds1).locals ≤ R.locals := ⟨Nat.le_trans hd hr.1, by
    have := hr.2.1
    show 8 + (mt2.2.2.1 + 11) + 60 * d2 ≤ R.locals
    omega⟩
  have hrun := va_runS (p := p) (l := l) (e := e) (R := R) (s := s) (m := m) (args := args) (below := below) (meth := meth) (c := c) (H := H) (locs := locs) (cells := cells) (slots := slots) (g := F0 m pc ls (((As.reverse ++ st)).map (zk_tr E))) (As := As.map (zk_tr E)) (rest := st.map (zk_tr E)) (nL := mt.2.2.1)
    ⟨hC.1, hC.2.1, hC.2.2.2.2.1, hC.2.2.2.2.2.1, hC.2.2.2.2.2.2.1⟩ hM (va_cwS n hC.2.2.2.2.2.2.1 (zk_goodS hcd hlk hin hini) rfl rfl rfl hy hrm) ⟨zk_blind, zk_pre (av := As) hC.2.2.2.2.2.2.2.2.2 hR hS hsize⟩ rfl (by rw [List.length_map]; exact hn) hlv.1 (by simp [zk_tr]) (by rw [zk_cat]; exact Nat.le_trans (by show 2 * 0 + _ ≤ _; omega) h8) hdd ⟨by have := hr.2.2.1; omega, by have := hr.2.2.2.1; omega⟩
  refine zk_behind hrun hS fun H1 locs1 hR1 hS1 => ?_
  rw [zk_toList]
  exact k E p l e R s m args below meth c H1 locs1 (cells + dc1) (slots + ds1) Q ls hC hR1 hS1 hlv ⟨hr.1, hr.2.1, by have := hr.2.2.1; omega, by have := hr.2.2.2.1; omega, by have := hr.2.2.2.2; simp only at this; omega⟩ (fun pc' ls' H' locs' g1 g2 g3 => by
    rw [Nat.add_assoc, Nat.add_assoc]
    exact hk pc' ls' H' locs' g1 g2 g3)
theorem c_callSN {Z : zk_Z} {I : zk_I} {J : zk_J} {idx n : Nat} (h : zk_at mt pc = some (.invokestatic idx, npc, tg)) (hl : zk_LSN mt.1.cls idx mt2 n) (hst : stk = As.reverse ++ st) (hn : As.length = n) (hav : (zk_flat (As)).length ≤ mt2.2.2.1) (hd : d2 + 1 ≤ d) (h8 : (st.map fun v => v.category).sum ≤ 8) (hM1 : M1.1.1 = Z.1 + dc1) (hdc : dc = dc1 + dc2) (hds : ds = ds1 + ds2)
    (hcal : zC X d2 mt2 0 (zk_ent (As) mt2.2.2.1) [] (Z, I, J) dc1 ds1 rv1 M1) (k : zC X d mt npc L (rv1.toList ++ st) M1 dc2 ds2 rv M') : zC X d mt pc L stk (Z, I, J) dc ds rv M' := by
  intro E p l e R s m args below meth c H locs cells slots Q ls hC hR hS hlv hr hk
  obtain ⟨hn3, hdd⟩ := zk_d hC.2.2.1 h rfl
  subst hn3; subst hst; subst hdc; subst hds
  obtain ⟨⟨hok, hpl, hml, hcd, hini, hy⟩, ⟨host, hlk⟩, hin⟩ := hl
  have hnw : ∀ host, (mt.1.cls, idx, mt2.1, host) ∈ zk_nest → va_Nw (.methodLinkNest mt.1.cls idx mt2.1 host) s := fun host hh => hC.2.2.2.2.2.2.2.2.2.2.2.2.2.2.2.2.2.1 _ hh
  refine W.zsz fun hsz => ?_
  have hlow := zk_low hR hC.2.2.2.2.2.2.2.2.2.2.2.2.2.2.2.2.1 hS
  have hsize : H.size = E.2.2.1 + Z.1 := by
    have := hr.2.2.2.2
    simp only at hlow this
    omega
  have hM := zk_met l E hok hpl hav hcal
  have hrm : (zk_rm d2 dc1 ds1).frames + 1 ≤ R.frames ∧ 8 + (mt2.2.2.1 + 11) + (zk_rm d2 dc1 ds1).locals ≤ R.locals := ⟨Nat.le_trans hd hr.1, by
    have := hr.2.1
    show 8 + (mt2.2.2.1 + 11) + 60 * d2 ≤ R.locals
    omega⟩
  have hrun := va_runSN (p := p) (l := l) (e := e) (R := R) (s := s) (m := m) (args := args) (below := below) (meth := meth) (c := c) (H := H) (locs := locs) (cells := cells) (slots := slots) (g := F0 m pc ls (((As.reverse ++ st)).map (zk_tr E))) (As := As.map (zk_tr E)) (rest := st.map (zk_tr E)) (nL := mt.2.2.1)
    ⟨hC.1, hC.2.1, hC.2.2.2.2.1, hC.2.2.2.2.2.1, hC.2.2.2.2.2.2.1⟩ hM ⟨va_cnB n hC.2.2.2.2.2.2.1 (zk_goodIn hcd) rfl rfl rfl (hnw host hlk) (hC.2.2.2.2.2.2.1 _ hini) hy hrm, hC.2.2.2.2.2.2.1 _ hin, trivial⟩ ⟨zk_blind, zk_pre (av := As) hC.2.2.2.2.2.2.2.2.2 hR hS hsize⟩ rfl (by rw [List.length_map]; exact hn) hlv.1 (by simp [zk_tr]) (by rw [zk_cat]; exact Nat.le_trans (by show 2 * 0 + _ ≤ _; omega) h8) hdd ⟨by have := hr.2.2.1; omega, by have := hr.2.2.2.1; omega⟩
  refine zk_behind hrun hS fun H1 locs1 hR1 hS1 => ?_
  rw [zk_toList]
  exact k E p l e R s m args below meth c H1 locs1 (cells + dc1) (slots + ds1) Q ls hC hR1 hS1 hlv ⟨hr.1, hr.2.1, by have := hr.2.2.1; omega, by have := hr.2.2.2.1; omega, by have := hr.2.2.2.2; simp only at this; omega⟩ (fun pc' ls' H' locs' g1 g2 g3 => by
    rw [Nat.add_assoc, Nat.add_assoc]
    exact hk pc' ls' H' locs' g1 g2 g3)
theorem c_callI {Z : zk_Z} {I : zk_I} {J : zk_J} {idx n b : Nat} (h : zk_at mt pc = some (.invokespecial idx, npc, tg)) (hl : zk_LI mt.1.cls idx mt2 n) (hst : stk = As.reverse ++ .ref b :: st) (hn : As.length = n) (hav : (zk_flat (.ref b :: As)).length ≤ mt2.2.2.1) (hd : d2 + 1 ≤ d) (h8 : (st.map fun v => v.category).sum ≤ 8) (hM1 : M1.1.1 = Z.1 + dc1) (hdc : dc = dc1 + dc2) (hds : ds = ds1 + ds2)
    (hcal : zC X d2 mt2 0 (zk_ent (.ref b :: As) mt2.2.2.1) [] (Z, I, J) dc1 ds1 rv1 M1) (k : zC X d mt npc L (rv1.toList ++ st) M1 dc2 ds2 rv M') : zC X d mt pc L stk (Z, I, J) dc ds rv M' := by
  intro E p l e R s m args below meth c H locs cells slots Q ls hC hR hS hlv hr hk
  obtain ⟨hn3, hdd⟩ := zk_d hC.2.2.1 h rfl
  subst hn3; subst hst; subst hdc; subst hds
  obtain ⟨⟨hok, hpl, hml, hcd, hini, hy⟩, hlk, hin, hnm, hno⟩ := hl
  refine W.zsz fun hsz => ?_
  have hlow := zk_low hR hC.2.2.2.2.2.2.2.2.2.2.2.2.2.2.2.2.1 hS
  have hsize : H.size = E.2.2.1 + Z.1 := by
    have := hr.2.2.2.2
    simp only at hlow this
    omega
  have hM := zk_met l E hok hpl hav hcal
  have hrm : (zk_rm d2 dc1 ds1).frames + 1 ≤ R.frames ∧ 8 + (mt2.2.2.1 + 11) + (zk_rm d2 dc1 ds1).locals ≤ R.locals := ⟨Nat.le_trans hd hr.1, by
    have := hr.2.1
    show 8 + (mt2.2.2.1 + 11) + 60 * d2 ≤ R.locals
    omega⟩
  have hrun := va_runI (p := p) (l := l) (e := e) (R := R) (s := s) (m := m) (args := args) (below := below) (meth := meth) (c := c) (H := H) (locs := locs) (cells := cells) (slots := slots) (g := F0 m pc ls (((As.reverse ++ .ref b :: st)).map (zk_tr E))) (b := zk_ad E b) (As := As.map (zk_tr E)) (rest := st.map (zk_tr E)) (nL := mt.2.2.1)
    ⟨hC.1, hC.2.1, hC.2.2.2.2.1, hC.2.2.2.2.2.1, hC.2.2.2.2.2.2.1⟩ hM (cwI n hC.2.2.2.2.2.2.1 (zk_goodIn hcd) (by rw [zk_w, hno]) rfl rfl (hC.2.2.2.2.2.2.1 _ hini) (hC.2.2.2.2.2.2.1 _ hlk) (hC.2.2.2.2.2.2.1 _ hin) hnm hy hrm) ⟨zk_blind, zk_pre (av := .ref b :: As) hC.2.2.2.2.2.2.2.2.2 hR hS hsize⟩ rfl (by rw [List.length_map]; exact hn) hlv.1 (by simp [zk_tr]) (by rw [zk_cat]; exact Nat.le_trans (by show 2 * 0 + _ ≤ _; omega) h8) hdd ⟨by have := hr.2.2.1; omega, by have := hr.2.2.2.1; omega⟩
  refine zk_behind hrun hS fun H1 locs1 hR1 hS1 => ?_
  rw [zk_toList]
  exact k E p l e R s m args below meth c H1 locs1 (cells + dc1) (slots + ds1) Q ls hC hR1 hS1 hlv ⟨hr.1, hr.2.1, by have := hr.2.2.1; omega, by have := hr.2.2.2.1; omega, by have := hr.2.2.2.2; simp only at this; omega⟩ (fun pc' ls' H' locs' g1 g2 g3 => by
    rw [Nat.add_assoc, Nat.add_assoc]
    exact hk pc' ls' H' locs' g1 g2 g3)
theorem c_callIN {Z : zk_Z} {I : zk_I} {J : zk_J} {idx n b : Nat} (h : zk_at mt pc = some (.invokespecial idx, npc, tg)) (hl : zk_LIN mt.1.cls idx mt2 n) (hst : stk = As.reverse ++ .ref b :: st) (hn : As.length = n) (hav : (zk_flat (.ref b :: As)).length ≤ mt2.2.2.1) (hd : d2 + 1 ≤ d) (h8 : (st.map fun v => v.category).sum ≤ 8) (hM1 : M1.1.1 = Z.1 + dc1) (hdc : dc = dc1 + dc2) (hds : ds = ds1 + ds2)
    (hcal : zC X d2 mt2 0 (zk_ent (.ref b :: As) mt2.2.2.1) [] (Z, I, J) dc1 ds1 rv1 M1) (k : zC X d mt npc L (rv1.toList ++ st) M1 dc2 ds2 rv M') : zC X d mt pc L stk (Z, I, J) dc ds rv M' := by
  intro E p l e R s m args below meth c H locs cells slots Q ls hC hR hS hlv hr hk
  obtain ⟨hn3, hdd⟩ := zk_d hC.2.2.1 h rfl
  subst hn3; subst hst; subst hdc; subst hds
  obtain ⟨⟨hok, hpl, hml, hcd, hini, hy⟩, ⟨host, hlk⟩, hin, hnm, hno⟩ := hl
  have hnw : ∀ host, (mt.1.cls, idx, mt2.1, host) ∈ zk_nest → va_Nw (.methodLinkNest mt.1.cls idx mt2.1 host) s := fun host hh => hC.2.2.2.2.2.2.2.2.2.2.2.2.2.2.2.2.2.1 _ hh
  refine W.zsz fun hsz => ?_
  have hlow := zk_low hR hC.2.2.2.2.2.2.2.2.2.2.2.2.2.2.2.2.1 hS
  have hsize : H.size = E.2.2.1 + Z.1 := by
    have := hr.2.2.2.2
    simp only at hlow this
    omega
  have hM := zk_met l E hok hpl hav hcal
  have hrm : (zk_rm d2 dc1 ds1).frames + 1 ≤ R.frames ∧ 8 + (mt2.2.2.1 + 11) + (zk_rm d2 dc1 ds1).locals ≤ R.locals := ⟨Nat.le_trans hd hr.1, by
    have := hr.2.1
    show 8 + (mt2.2.2.1 + 11) + 60 * d2 ≤ R.locals
    omega⟩
  have hrun := va_runIN (p := p) (l := l) (e := e) (R := R) (s := s) (m := m) (args := args) (below := below) (meth := meth) (c := c) (H := H) (locs := locs) (cells := cells) (slots := slots) (g := F0 m pc ls (((As.reverse ++ .ref b :: st)).map (zk_tr E))) (b := zk_ad E b) (As := As.map (zk_tr E)) (rest := st.map (zk_tr E)) (nL := mt.2.2.1)
    ⟨hC.1, hC.2.1, hC.2.2.2.2.1, hC.2.2.2.2.2.1, hC.2.2.2.2.2.2.1⟩ hM ⟨by have := va_cnB (R := R) (args := args) (rm := zk_rm d2 dc1 ds1) (mc := dc1) (ms := ds1) n hC.2.2.2.2.2.2.1 (zk_goodIn hcd) rfl rfl rfl (hnw host hlk) (hC.2.2.2.2.2.2.1 _ hini) hy hrm; rw [hno] at this; exact this, hnm, hC.2.2.2.2.2.2.1 _ hin⟩ ⟨zk_blind, zk_pre (av := .ref b :: As) hC.2.2.2.2.2.2.2.2.2 hR hS hsize⟩ rfl (by rw [List.length_map]; exact hn) hlv.1 (by simp [zk_tr]) (by rw [zk_cat]; exact Nat.le_trans (by show 2 * 0 + _ ≤ _; omega) h8) hdd ⟨by have := hr.2.2.1; omega, by have := hr.2.2.2.1; omega⟩
  refine zk_behind hrun hS fun H1 locs1 hR1 hS1 => ?_
  rw [zk_toList]
  exact k E p l e R s m args below meth c H1 locs1 (cells + dc1) (slots + ds1) Q ls hC hR1 hS1 hlv ⟨hr.1, hr.2.1, by have := hr.2.2.1; omega, by have := hr.2.2.2.1; omega, by have := hr.2.2.2.2; simp only at this; omega⟩ (fun pc' ls' H' locs' g1 g2 g3 => by
    rw [Nat.add_assoc, Nat.add_assoc]
    exact hk pc' ls' H' locs' g1 g2 g3)
theorem c_objInit {idx b : Nat} (h : zk_at mt pc = some (.invokespecial idx, npc, tg)) (hw : Cond.methodLink mt.1.cls idx Lib.objectInit ∈ zk_tbl) (hw2 : Cond.instanceMethod Lib.objectInit ∈ zk_tbl) (hw3 : Cond.code Lib.objectInit ⟨#[0xb1]⟩ 1 none ∈ zk_tbl) (hd : 1 ≤ d) (h8 : (st.map fun v => v.category).sum ≤ 8) (k : zC X d mt npc L st M dc ds rv M') : zC X d mt pc L (.ref b :: st) M dc ds rv M' := by
  intro E p l e R s m args below meth c H locs cells slots Q ls hC hR hS hlv hr hk
  obtain ⟨hn3, hdd⟩ := zk_d hC.2.2.1 h rfl
  subst hn3
  refine W.objInit (a := zk_ad E b) (rest := st.map (zk_tr E)) hC.1 hC.2.1 hC.2.2.2.2.2.1 (hC.2.2.2.2.2.2.1 _ hw) (hC.2.2.2.2.2.2.1 _ hw2) (hC.2.2.2.2.2.2.1 _ hw3) rfl (by rw [hC.2.2.2.2.1]; exact hlv.1) rfl hdd (Nat.le_trans hd hr.1) ?_ (k E p l e R s m args below meth c H locs cells slots Q ls hC hR hS hlv hr hk)
  rw [zk_cat]
  have := hr.2.1
  show 2 * 0 + _ + 12 ≤ _
  omega
end ZCALL
end
section
/-! making cells, references written, arraycopy -/
def zk_new (Z : zk_Z) (k len : Nat) : zk_Z := (Z.1 + 1, (fun a => if a = Z.1 then (k, len) else Z.2.1 a), (fun a => if a = Z.1 then (fun _ => none) else Z.2.2 a))
theorem zk_ce_old {E : zk_E} {Z : zk_Z} {I I2 : zk_I} {J J2 : zk_J} {k len a : Nat} (h : ¬ a = Z.1) (hI : I2 a = I a) (hJ : J2 a = J a) : zk_ce E (zk_new Z k len, I2, J2) a = zk_ce E (Z, I, J) a := by
  simp only [zk_ce, zk_fs, zk_new, if_neg h, hI, hJ]
  have : zk_fv E (zk_new Z k len, I2, J2) a = zk_fv E (Z, I, J) a := by
    funext j b
    simp only [zk_fv, zk_new, if_neg h, hI]
  simp only [zk_new] at this
  rw [this]
theorem zk_ws_new {E : zk_E} {Z : zk_Z} {I I2 : zk_I} {J J2 : zk_J} {k len : Nat} (hI : ∀ a, a < Z.1 → I2 a = I a) (hJ : ∀ a, a < Z.1 → J2 a = J a) : zk_ws E (zk_new Z k len, I2, J2) = zk_ws E (Z, I, J) ++ [(zk_ad E Z.1, zk_ce E (zk_new Z k len, I2, J2) Z.1)] := by
  show (List.range (Z.1 + 1)).map _ = _
  rw [List.range_succ, List.map_append]
  congr 1
  apply List.map_congr_left
  intro a ha
  have ha := List.mem_range.mp ha
  rw [zk_ce_old (by omega) (hI a ha) (hJ a ha)]
section ZAL
variable {X : zk_X} {d pc npc tg : Nat} {mt : zk_Mt} {L : List (Option Value)} {st : List Value} {Z : zk_Z} {I : zk_I} {J : zk_J} {M' : zk_M} {dc ds : Nat} {rv : Option Value}
/-- one more cell: what both rows below need -/
theorem zk_grow {E : zk_E} {s : State} {H H1 : Heap} {locs : List Loc} {I2 : zk_I} {J2 : zk_J} {k len : Nat} (hR : zk_R E (Z, I, J) s H) (hS : va_S (zk_A E) s.heap H locs) (hz : H.size = E.2.2.1 + Z.1) (h1000 : Z.1 + 1 ≤ 1000) (z1 : H1.size = H.size + 1) (o1 : ∀ q, q < H.size → H1[q]? = H[q]?) (hI : ∀ a, a < Z.1 → I2 a = I a) (hJ : ∀ a, a < Z.1 → J2 a = J a) (hnew : va_at E.1 zk_cl (zk_ad E Z.1, zk_ce E (zk_new Z k len, I2, J2) Z.1) H1) : zk_R E (zk_new Z k len, I2, J2) s H1 ∧ va_S (zk_A E) s.heap H1 locs := by
  refine ⟨⟨?_, hR.2.1, h1000⟩, Nat.le_trans hS.1 (by omega), fun x h1 h2 => (o1 x (Nat.lt_of_lt_of_le h1 hS.1)).trans (hS.2.1 x h1 h2), hS.2.2⟩
  rw [zk_ws_new hI hJ]
  refine va_P.app (hR.1.kept (fun k x hx => o1 x.1 (hR.1 k x hx).lt)) (fun k x hx => ?_)
  have hk : k < 1 := (List.getElem?_eq_some_iff.mp hx).1
  rw [show k = 0 by omega] at hx
  cases hx
  exact hnew
theorem zk_ad_n {E : zk_E} {n : Nat} (h : n < 1000) : zk_ad E n = E.2.2.1 + n := if_pos h
theorem zk_size {E : zk_E} {mt : zk_Mt} {p : Program} {s : State} {m : MethodId} {args : Array Value} {meth : Method} {c : Code} {H : Heap} {locs : List Loc} {cells : Nat} (hC : zk_Cx X E mt p s m args meth c) (hR : zk_R E (Z, I, J) s H) (hS : va_S (zk_A E) s.heap H locs) (hq : s.heap.size + cells = E.2.2.1 + Z.1) (hsz : H.size ≤ s.heap.size + cells) : H.size = E.2.2.1 + Z.1 := by
  have hlow := zk_low hR hC.2.2.2.2.2.2.2.2.2.2.2.2.2.2.2.2.1 hS
  simp only at hlow
  omega
def zk_LN (own : String) (idx ci : Nat) : Prop := ci < 9 ∧ Cond.classLink own idx (zk_r ci).1 ∈ zk_tbl ∧ Cond.instantiable (zk_r ci).1 (zk_r ci).2.2 ∈ zk_tbl ∧ Cond.initialized (zk_r ci).1 ∈ zk_tbl
theorem zk_dflt : ∀ k, k < 9 → ∀ j, j < 24 → j < (zk_r k).2.2 → defaultValue (zk_y k j) = (if (zk_ft k).getD j false then Value.null else Value.int 0) := by decide +kernel
theorem c_new {idx ci : Nat} (h : zk_at mt pc = some (.new idx, npc, tg)) (hl : zk_LN mt.1.cls idx ci) (h1000 : Z.1 + 1 ≤ 1000) (k : zC X d mt npc L (.ref Z.1 :: st) (zk_new Z ci 0, zk_sc I Z.1 (fun _ => 0), J) dc ds rv M') : zC X d mt pc L st (Z, I, J) (dc + 1) (ds + (zk_r ci).2.2) rv M' := by
  intro E p l e R s m args below meth c H locs cells slots Q ls hC hR hS hlv hr hk
  obtain ⟨hn3, hdd⟩ := zk_d hC.2.2.1 h rfl
  subst hn3
  obtain ⟨h9, w1, w2, w3⟩ := hl
  refine W.zsz fun hsz => ?_
  have hsize := zk_size hC hR hS hr.2.2.2.2 hsz
  have hKn := hR.2.1.1 ci _ (zk_r_at h9)
  refine W.newcK hC.1 hC.2.1 hC.2.2.2.2.2.1 (hC.2.2.2.2.2.2.1 _ w1) (hC.2.2.2.2.2.2.1 _ w2) (hC.2.2.2.2.2.2.1 _ w3) rfl hdd (by have := hr.2.2.1; omega) (by have := hr.2.2.2.1; omega) hKn.2.1 rfl fun H1 kC hkC e1 z1 o1 => ?_
  have hce : zk_ce E (zk_new Z ci 0, zk_sc I Z.1 (fun _ => 0), J) Z.1 = .inr (ci, zk_fs E (zk_new Z ci 0, zk_sc I Z.1 (fun _ => 0), J) ci Z.1) := zk_ce_o (by simp [zk_new]) h9
  obtain ⟨g1, g2⟩ := zk_grow (I2 := zk_sc I Z.1 (fun _ => 0)) (J2 := J) (k := ci) (len := 0) hR hS hsize h1000 z1 o1 (fun a ha => zk_sc_n I _ (by omega)) (fun _ _ => rfl) (by
    rw [hce, zk_ad_n (by omega), ← hsize]
    refine ⟨_, zk_r_at h9, (u_born (zk_y ci) hC.2.2.2.2.2.2.1 (zk_r_in h9) hKn hkC e1 (zk_r_ty h9)).to fun j hj => ?_⟩
    rw [zk_dflt ci h9 j (Nat.lt_of_lt_of_le hj (zk_n24 ci h9)) hj]
    have hj2 : j < (zk_ft ci).length := by rw [zk_ft_len ci h9]; exact hj
    have hj3 : (zk_ft ci)[j]? = some (zk_ft ci)[j] := List.getElem?_eq_getElem hj2
    simp only [vp_V, List.getD_eq_getElem?_getD, zk_fs_at hj3, hj3, Option.getD_some]
    cases (zk_ft ci)[j]
    · simp [zk_fv, zk_sc]
    · simp [zk_fv, zk_new, va_rf])
  have kk := k E p l e R s m args below meth c H1 locs (cells + 1) (slots + (zk_r ci).2.2) Q ls hC g1 g2 hlv ⟨hr.1, hr.2.1, by have := hr.2.2.1; omega, by have := hr.2.2.2.1; omega, by have := hr.2.2.2.2; simp only [zk_new] at this ⊢; omega⟩ (fun pc' ls' H' locs' q1 q2 q3 => by
    rw [show cells + 1 + dc = cells + (dc + 1) by omega, show slots + (zk_r ci).2.2 + ds = slots + (ds + (zk_r ci).2.2) by omega]
    exact hk pc' ls' H' locs' q1 q2 q3)
  simp only [List.map_cons, zk_tr, zk_ad_n (E := E) (show Z.1 < 1000 by omega), ← hsize] at kk
  exact kk
/-- kinds of rows that are made -/
def zk_at4 : Nat → ArrayType
  | 20 => .int
  | 21 => .long
  | 22 => .boolean
  | _ => .char
theorem c_newa {q : Nat} {at4 : ArrayType} {n : Int32} {N : Nat} (h : zk_at mt pc = some (.newarray at4, npc, tg)) (hq : q = 20 ∨ q = 21 ∨ q = 22 ∨ q = 23) (ha : zk_at4 q = at4) (hw : Cond.arrayClass (newarray.typeOf at4) ∈ zk_tbl) (hn : ¬ n < 0) (hN : n.toNatClampNeg = N) (hb : N ≤ 100000) (h1000 : Z.1 + 1 ≤ 1000) (k : zC X d mt npc L (.ref Z.1 :: st) (zk_new Z q N, zk_sc I Z.1 (fun _ => 0), zk_sj J Z.1 (fun _ => 0)) dc ds rv M') : zC X d mt pc L (.int n :: st) (Z, I, J) (dc + 1) (ds + N) rv M' := by
  intro E p l e R s m args below meth c H locs cells slots Q ls hC hR hS hlv hr hk
  obtain ⟨hn3, hdd⟩ := zk_d hC.2.2.1 h rfl
  subst hn3
  refine W.zsz fun hsz => ?_
  have hsize := zk_size hC hR hS hr.2.2.2.2 hsz
  refine va_newaK hC.1 hC.2.1 (hC.2.2.2.2.2.2.1 _ hw) rfl hdd rfl hn hN (by subst ha; rcases hq with rfl | rfl | rfl | rfl <;> simp only [zk_at4, newarray.typeOf, componentBytes] <;> omega) (by have := hr.2.2.1; omega) (by have := hr.2.2.2.1; omega) rfl fun H1 cA e1 z1 o1 hAr hNm => ?_
  obtain ⟨g1, g2⟩ := zk_grow (I2 := zk_sc I Z.1 (fun _ => 0)) (J2 := zk_sj J Z.1 (fun _ => 0)) (k := q) (len := N) hR hS hsize h1000 z1 o1 (fun a ha => zk_sc_n I _ (by omega)) (fun a ha => zk_sj_n J _ (by omega)) (by
    rw [zk_ad_n (by omega), ← hsize]
    have hS2 : (zk_new Z q N).2.1 Z.1 = (q, N) := by simp [zk_new]
    subst ha
    rcases hq with rfl | rfl | rfl | rfl
    · rw [zk_ce_20 hS2, show E.2.1 0 = cA from Option.some.inj ((hR.2.1.2 0 _ rfl).2.symm.trans hNm), zk_sc_s]
      exact e1
    · rw [zk_ce_21 hS2, show E.2.1 1 = cA from Option.some.inj ((hR.2.1.2 1 _ rfl).2.symm.trans hNm), zk_sj_s]
      exact e1
    · rw [zk_ce_22 hS2, show E.2.1 2 = cA from Option.some.inj ((hR.2.1.2 2 _ rfl).2.symm.trans hNm), zk_sc_s]
      exact e1
    · rw [zk_ce_23 hS2, show E.2.1 3 = cA from Option.some.inj ((hR.2.1.2 3 _ rfl).2.symm.trans hNm), zk_sc_s]
      exact e1)
  have kk := k E p l e R s m args below meth c H1 locs (cells + 1) (slots + N) Q ls hC g1 g2 hlv ⟨hr.1, hr.2.1, by have := hr.2.2.1; omega, by have := hr.2.2.2.1; omega, by have := hr.2.2.2.2; simp only [zk_new] at this ⊢; omega⟩ (fun pc' ls' H' locs' q1 q2 q3 => by
    rw [show cells + 1 + dc = cells + (dc + 1) by omega, show slots + N + ds = slots + (ds + N) by omega]
    exact hk pc' ls' H' locs' q1 q2 q3)
  simp only [List.map_cons, zk_tr, zk_ad_n (E := E) (show Z.1 < 1000 by omega), ← hsize] at kk
  exact kk
theorem c_anew {idx : Nat} {n : Int32} {N : Nat} (h : zk_at mt pc = some (.anewarray idx, npc, tg)) (hw : Cond.classLink mt.1.cls idx "NamedNext$Days" ∈ zk_tbl) (hn : ¬ n < 0) (hN : n.toNatClampNeg = N) (hb : N ≤ 100000) (h1000 : Z.1 + 1 ≤ 1000) (k : zC X d mt npc L (.ref Z.1 :: st) (zk_new Z 24 N, zk_sc I Z.1 (fun _ => 0), J) dc ds rv M') : zC X d mt pc L (.int n :: st) (Z, I, J) (dc + 1) (ds + N) rv M' := by
  intro E p l e R s m args below meth c H locs cells slots Q ls hC hR hS hlv hr hk
  obtain ⟨hn3, hdd⟩ := zk_d hC.2.2.1 h rfl
  subst hn3
  refine W.zsz fun hsz => ?_
  have hsize := zk_size hC hR hS hr.2.2.2.2 hsz
  have hAO := hC.2.2.2.2.2.2.2.2.2.2.2.2.2.2.2.2.2.2
  subst hN
  refine W.anew hC.1 hC.2.1 hC.2.2.2.2.2.1 (hC.2.2.2.2.2.2.1 _ hw) (va_AO.use hAO) rfl hdd rfl hn (by omega) (by have := hr.2.2.1; omega) (by have := hr.2.2.2.1; omega) fun cA kA comp f1 f2 f3 f4 => ?_
  generalize hH1 : H.push ({ cls := cA, slots := Array.replicate n.toNatClampNeg .null, vm := .none } : Cell) = H1
  have z1 : H1.size = H.size + 1 := by rw [← hH1, Array.size_push]
  have e1 : H1[H.size]? = some (arrV cA n.toNatClampNeg (fun _ => .null)) := by rw [← hH1, Array.getElem?_push_size, ← arrV_new]
  have o1 : ∀ q : Nat, q < H.size → H1[q]? = H[q]? := fun q hq => by rw [← hH1, Array.getElem?_push, if_neg (Nat.ne_of_lt hq)]
  have hcA : E.2.1 4 = cA := by
    obtain ⟨_, _, -, -, -, q4⟩ := (hR.2.1.2 4 _ rfl).2
    exact Option.some.inj (q4.symm.trans f1)
  obtain ⟨g1, g2⟩ := zk_grow (I2 := zk_sc I Z.1 (fun _ => 0)) (J2 := J) (k := 24) (len := n.toNatClampNeg) hR hS hsize h1000 z1 o1 (fun a ha => zk_sc_n I _ (by omega)) (fun _ _ => rfl) (by
    rw [zk_ad_n (by omega), ← hsize, zk_ce_24 (show (zk_new Z 24 n.toNatClampNeg).2.1 Z.1 = (24, n.toNatClampNeg) by simp [zk_new]), hcA]
    show H1[H.size]? = some (vp_cell _ _)
    rw [vp_cell_q, e1]
    congr 2
    funext j
    simp [zk_new, va_rf])
  have kk := k E p l e R s m args below meth c H1 locs (cells + 1) (slots + n.toNatClampNeg) Q ls hC g1 g2 hlv ⟨hr.1, hr.2.1, by have := hr.2.2.1; omega, by have := hr.2.2.2.1; omega, by have := hr.2.2.2.2; simp only [zk_new] at this ⊢; omega⟩ (fun pc' ls' H' locs' q1 q2 q3 => by
    rw [show cells + 1 + dc = cells + (dc + 1) by omega, show slots + n.toNatClampNeg + ds = slots + (ds + n.toNatClampNeg) by omega]
    exact hk pc' ls' H' locs' q1 q2 q3)
  simp only [List.map_cons, zk_tr, zk_ad_n (E := E) (show Z.1 < 1000 by omega), ← hsize] at kk
  exact kk
/-- references written -/
def zk_zr (Z : zk_Z) (c : Nat) (f : Nat → Option Nat) : zk_Z := (Z.1, Z.2.1, zk_sr Z.2.2 c f)
theorem zk_ce_zr {E : zk_E} {a c : Nat} {f : Nat → Option Nat} (h : ¬ a = c) : zk_ce E (zk_zr Z c f, I, J) a = zk_ce E (Z, I, J) a := by
  simp only [zk_ce, zk_fs, zk_zr, zk_sr_n _ _ h]
  have : zk_fv E ((Z.1, Z.2.1, zk_sr Z.2.2 c f), I, J) a = zk_fv E (Z, I, J) a := by
    funext j b
    simp only [zk_fv, zk_sr_n _ _ h]
  rw [this]
theorem c_aast {n a b : Nat} {i : Int32} (h : zk_at mt pc = some (.aastore, npc, tg)) (ha : Z.2.1 a = (24, n)) (hz : a < Z.1) (hi : zk_in i n = true) (hb : (Z.2.1 b).1 = 1) (hbz : b < Z.1) (k : zC X d mt npc L st (zk_zr Z a (va_up (Z.2.2 a) i.toNatClampNeg (some b)), I, J) dc ds rv M') : zC X d mt pc L (.ref b :: .int i :: .ref a :: st) (Z, I, J) dc ds rv M' := by
  intro E p l e R s m args below meth c H locs cells slots Q ls hC hR hS hl hr hk
  obtain ⟨hn, hd⟩ := zk_d hC.2.2.1 h rfl
  subst hn
  have hce : zk_ce E (zk_zr Z a (va_up (Z.2.2 a) i.toNatClampNeg (some b)), I, J) a = .inl (E.2.1 4, n, .inr (.inr (.inr (.inr (va_up (fun j => (Z.2.2 a j).map (zk_ad E)) i.toNatClampNeg (some (zk_ad E b))))))) := by
    rw [zk_ce_24 (Z := zk_zr Z a (va_up (Z.2.2 a) i.toNatClampNeg (some b))) ha]
    have : (fun j => ((zk_zr Z a (va_up (Z.2.2 a) i.toNatClampNeg (some b))).2.2 a j).map (zk_ad E)) = va_up (fun j => (Z.2.2 a j).map (zk_ad E)) i.toNatClampNeg (some (zk_ad E b)) := by
      funext j
      simp only [zk_zr, zk_sr_s, va_up]
      by_cases hj : j = i.toNatClampNeg
      · simp [hj]
      · simp [hj]
    rw [this]
  have hset := zk_ws_set (E := E) (M := (Z, I, J)) (M2 := (zk_zr Z a (va_up (Z.2.2 a) i.toNatClampNeg (some b)), I, J)) (c := a) rfl hce (fun q hq => zk_ce_zr hq)
  refine va_astq (D := E.1) (a := zk_ad E a) (r := zk_r 1) (v := zk_ad E b) hC.1 hC.2.1 hR.2.1 hR.1 (zk_D hR.2.2) hS a 4 b 1 ((zk_ws_at (M := (Z, I, J)) hz).trans (by rw [zk_ce_24 ha])) rfl ((zk_ws_at (M := (Z, I, J)) hbz).trans (by rw [zk_ce_o hb (by decide)])) rfl (zk_in_vp hi) hd (fun H1 locs1 hP1 hD1 hS1 => ?_)
  rw [hset] at hP1
  exact k E p l e R s m args below meth c H1 locs1 cells slots Q ls hC ⟨hP1, hR.2.1, hR.2.2⟩ hS1 hl hr hk
theorem c_putR {idx ci j a b : Nat} (h : zk_at mt pc = some (.putfield idx, npc, tg)) (hf : zk_FL mt.1.cls idx ci j true) (hfin : ((zk_r ci).2.1 j).2.2.2 = true) (hdecl : ((zk_r ci).2.1 j).1 = mt.1.cls) (hin2 : mt.1.name = "<init>") (hnf : ∀ v, narrow (zk_y ci j) (.ref v) = .ref v ∧ fits (zk_y ci j) (.ref v) = true) (ha : (Z.2.1 a).1 = ci) (hz : a < Z.1) (k : zC X d mt npc L st (zk_zr Z a (va_up (Z.2.2 a) j (some b)), I, J) dc ds rv M') : zC X d mt pc L (.ref b :: .ref a :: st) (Z, I, J) dc ds rv M' := by
  intro E p l e R s m args below meth c H locs cells slots Q ls hC hR hS hl hr hk
  obtain ⟨hn, hd⟩ := zk_d hC.2.2.1 h rfl
  subst hn
  obtain ⟨f1, f2, f3, f4⟩ := hf
  have hce : zk_ce E (zk_zr Z a (va_up (Z.2.2 a) j (some b)), I, J) a = .inr (ci, (zk_fs E (Z, I, J) ci a).set j (.ref (zk_ad E b))) := by
    rw [zk_ce_o (M := (zk_zr Z a (va_up (Z.2.2 a) j (some b)), I, J)) ha f1]
    congr 2
    apply List.ext_getElem?
    intro q
    by_cases hq : q = j
    · subst hq
      rw [zk_fs_at f3, List.getElem?_set_self (by rw [zk_fs_len]; exact (List.getElem?_eq_some_iff.mp f3).1)]
      simp [zk_fv, zk_zr, zk_sr, va_up, va_rf]
    · rw [List.getElem?_set_ne (Ne.symm hq)]
      simp only [zk_fs, List.getElem?_mapIdx]
      cases (zk_ft ci)[q]? with
      | none => rfl
      | some r =>
        cases r
        · simp [zk_fv]
        · simp [zk_fv, zk_zr, zk_sr, va_up, hq]
  have hset := zk_ws_set (E := E) (M := (Z, I, J)) (M2 := (zk_zr Z a (va_up (Z.2.2 a) j (some b)), I, J)) (c := a) rfl hce (fun q hq => zk_ce_zr hq)
  refine va_putF (D := E.1) (a := zk_ad E a) (ci := ci) (v := .ref (zk_ad E b)) (ty := zk_y ci j) hC.1 hC.2.1 hC.2.2.2.2.2.2.1 (zk_r_in f1) (zk_y ci) (zk_r_ty f1) (zk_r_nm f1) hC.2.2.2.2.2.1 hR.2.1 hR.1 (zk_D hR.2.2) hS a ((zk_ws_at (M := (Z, I, J)) hz).trans (by rw [zk_ce_o ha f1])) (zk_r_at f1) j f2 (hC.2.2.2.2.2.2.1 _ f4) (fun _ h9 => h9) hfin (hC.2.2.2.2.2.2.2.2.1.trans hin2) hdecl (zk_r_ty f1 j f2) (hnf _).1 (hnf _).2 (by rw [zk_fs_len]; exact (List.getElem?_eq_some_iff.mp f3).1) hd (fun H1 locs1 hP1 hD1 hS1 => ?_)
  rw [hset] at hP1
  exact k E p l e R s m args below meth c H1 locs1 cells slots Q ls hC ⟨hP1, hR.2.1, hR.2.2⟩ hS1 hl hr hk
theorem zk_nfw : nativeFrameWords "java/lang/System" "arraycopy" 5 ≤ 40 := by decide +kernel
theorem c_copy {idx n0 n1 a0 a : Nat} {sp dp n : Int32} (h : zk_at mt pc = some (.invokestatic idx, npc, tg)) (hw : Cond.methodLink mt.1.cls idx arraycopyName ∈ zk_tbl) (w2 : Cond.native arraycopyName ∈ zk_tbl) (w3 : Cond.static arraycopyName ∈ zk_tbl) (w4 : Cond.initialized "java/lang/System" ∈ zk_tbl) (ha0 : Z.2.1 a0 = (20, n0)) (ha : Z.2.1 a = (20, n1)) (hz0 : a0 < Z.1) (hz : a < Z.1) (h1 : ¬ sp < 0) (h2 : ¬ dp < 0) (h3 : ¬ n < 0) (h4 : sp.toNatClampNeg + n.toNatClampNeg ≤ n0) (h5 : dp.toNatClampNeg + n.toNatClampNeg ≤ n1) (hd1 : 1 ≤ d) (h8 : (st.map fun v => v.category).sum ≤ 8)
    (k : zC X d mt npc L st (Z, zk_sc I a (va_cpy (I a0) (I a) sp.toNatClampNeg dp.toNatClampNeg n.toNatClampNeg), J) dc ds rv M') : zC X d mt pc L (.int n :: .int dp :: .ref a :: .int sp :: .ref a0 :: st) (Z, I, J) dc ds rv M' := by
  intro E p l e R s m args below meth c H locs cells slots Q ls hC hR hS hl hr hk
  obtain ⟨hn, hd⟩ := zk_d hC.2.2.1 h rfl
  subst hn
  have hset := zk_ws_set (E := E) (M := (Z, I, J)) (M2 := (Z, zk_sc I a (va_cpy (I a0) (I a) sp.toNatClampNeg dp.toNatClampNeg n.toNatClampNeg), J)) (c := a) rfl (zk_ce_20 ha) (fun q hq => zk_ce_off (zk_sc_n I _ hq) rfl)
  rw [zk_sc_s] at hset
  refine va_copyi (D := E.1) (a := zk_ad E a) (a0 := zk_ad E a0) (ty := .int) hC.1 hC.2.1 (hC.2.2.2.2.1.trans hl.1.symm) hC.2.2.2.2.2.1 (hC.2.2.2.2.2.2.1 _ hw) (hC.2.2.2.2.2.2.1 _ w2) (hC.2.2.2.2.2.2.1 _ w3) (hC.2.2.2.2.2.2.1 _ w4) hR.2.1 hR.1 (zk_D hR.2.2) hS a0 a 0 0 ((zk_ws_at (M := (Z, I, J)) hz0).trans (by rw [zk_ce_20 ha0])) ((zk_ws_at (M := (Z, I, J)) hz).trans (by rw [zk_ce_20 ha])) rfl rfl rfl h1 h2 h3 h4 h5 (fun _ _ => rfl) (Nat.le_trans hd1 hr.1) ?_ hd (fun H1 locs1 hP1 hD1 hS1 => ?_)
  · rw [zk_cat]
    have := hr.2.1
    have := zk_nfw
    omega
  · rw [hset] at hP1
    exact k E p l e R s m args below meth c H1 locs1 cells slots Q ls hC ⟨hP1, hR.2.1, hR.2.2⟩ hS1 hl hr hk
end ZAL
end
section
/-! the methods: names, bytes, tables; what each call and field links to -/
theorem zk_all_ch {α : Type} (p : α → Bool) (ch : Nat) : ∀ (c : Nat) (l : List α), (∀ i, i < c → ((l.drop (ch * i)).take ch).all p = true) → l.length ≤ ch * c → l.all p = true
  | 0, l, _, h2 => by
    have : l = [] := List.eq_nil_of_length_eq_zero (by omega)
    subst this
    rfl
  | c + 1, l, h1, h2 => by
    have e := List.take_append_drop ch l
    rw [← e, List.all_append, Bool.and_eq_true]
    refine ⟨by have := h1 0 (by omega); simpa using this, zk_all_ch p ch c (l.drop ch) (fun i hi => ?_) (by rw [List.length_drop]; rw [Nat.mul_succ] at h2; omega)⟩
    have := h1 (i + 1) (by omega)
    rw [Nat.mul_succ] at this
    rw [List.drop_drop]
    rw [show ch + ch * i = ch * i + ch by omega]
    exact this
theorem zk_ok_ch {mt : zk_Mt} (ch c : Nat) (h1 : ∀ i, i < c → ((mt.2.2.2.2.drop (ch * i)).take ch).all (zk_chk mt.2.1) = true) (h2 : mt.2.2.2.2.length ≤ ch * c) : zk_ok mt := zk_all_ch _ ch c _ h1 h2
def m_X0_init : zk_Mt := (⟨"NamedNext$Clauses", "<init>", "(LNamedNext$Text;)V"⟩, prog_2_method_1_code, 2, none, [(0, .aload_n 0, 1, 0), (1, .invokespecial 3, 4, 0), (4, .aload_n 0, 5, 0), (5, .new 9, 8, 0), (8, .dup, 9, 0), (9, .invokespecial 11, 12, 0), (12, .putfield 12, 15, 0), (15, .aload_n 0, 16, 0), (16, .aload_n 1, 17, 0), (17, .putfield 18, 20, 0), (20, .return_, 21, 0)])
theorem o_X0_init : zk_ok m_X0_init := (by decide +kernel : m_X0_init.2.2.2.2.all (zk_chk m_X0_init.2.1) = true)
def m_X0_firstFault : zk_Mt := (⟨"NamedNext$Clauses", "firstFault", "(LNamedNext$Told;)I"⟩, prog_2_method_2_code, 3, some .int, [(0, .aload_n 0, 1, 0), (1, .getfield 12, 4, 0), (4, .aload_n 1, 5, 0), (5, .invokevirtual 22, 8, 0), (8, .aload_n 0, 9, 0), (9, .iconst 0, 10, 0), (10, .putfield 26, 13, 0), (13, .aload_n 0, 14, 0), (14, .getfield 18, 17, 0), (17, .invokevirtual 30, 20, 0), (20, .iconst 0, 21, 0), (21, .istore_n 2, 22, 0), (22, .iload_n 2, 23, 0), (23, .bipush 14, 25, 0), (25, .if_icmp .ge 82, 28, 107), (28, .aload_n 0, 29, 0), (29, .invokevirtual 35, 32, 0), (32, .ifCond .ne 11, 35, 43), (35, .aload_n 0, 36, 0), (36, .getfield 18, 39, 0), (39, .getfield 39, 42, 0), (42, .ireturn, 43, 0), (43, .aload_n 0, 44, 0), (44, .dup, 45, 0), (45, .getfield 26, 48, 0), (48, .iconst 1, 49, 0), (49, .iadd, 50, 0), (50, .putfield 26, 53, 0), (53, .aload_n 0, 54, 0), (54, .getfield 18, 57, 0), (57, .invokevirtual 42, 60, 0), (60, .ifCond .eq 5, 63, 65), (63, .iconst (-1), 64, 0), (64, .ireturn, 65, 0), (65, .aload_n 0, 66, 0), (66, .getfield 18, 69, 0), (69, .ldc 45, 71, 0), (71, .invokevirtual 47, 74, 0), (74, .ifCond .eq 12, 77, 86), (77, .aload_n 0, 78, 0), (78, .getfield 26, 81, 0), (81, .bipush 14, 83, 0), (83, .if_icmp .ne 11, 86, 94), (86, .aload_n 0, 87, 0), (87, .getfield 18, 90, 0), (90, .getfield 39, 93, 0), (93, .ireturn, 94, 0), (94, .aload_n 0, 95, 0), (95, .getfield 18, 98, 0), (98, .invokevirtual 51, 101, 0), (101, .iinc 2 1, 104, 0), (104, .goto (-82), 107, 22), (107, .aload_n 0, 108, 0), (108, .getfield 18, 111, 0), (111, .getfield 39, 114, 0), (114, .ireturn, 115, 0)])
theorem o_X0_firstFault : zk_ok m_X0_firstFault := (by decide +kernel : m_X0_firstFault.2.2.2.2.all (zk_chk m_X0_firstFault.2.1) = true)
def m_X0_doClause : zk_Mt := (⟨"NamedNext$Clauses", "doClause", "()Z"⟩, prog_2_method_3_code, 2, some .boolean, [(0, .aload_n 0, 1, 0), (1, .invokevirtual 54, 4, 0), (4, .istore_n 1, 5, 0), (5, .iload_n 1, 6, 0), (6, .iconst (-1), 7, 0), (7, .if_icmp .eq 9, 10, 16), (10, .aload_n 0, 11, 0), (11, .iload_n 1, 12, 0), (12, .invokevirtual 58, 15, 0), (15, .ireturn, 16, 0), (16, .aload_n 0, 17, 0), (17, .getfield 18, 20, 0), (20, .ldc 62, 22, 0), (22, .invokevirtual 47, 25, 0), (25, .ifCond .eq 8, 28, 33), (28, .aload_n 0, 29, 0), (29, .invokevirtual 64, 32, 0), (32, .ireturn, 33, 0), (33, .aload_n 0, 34, 0), (34, .getfield 18, 37, 0), (37, .ldc 67, 39, 0), (39, .invokevirtual 47, 42, 0), (42, .ifCond .eq 8, 45, 50), (45, .aload_n 0, 46, 0), (46, .invokevirtual 69, 49, 0), (49, .ireturn, 50, 0), (50, .aload_n 0, 51, 0), (51, .getfield 18, 54, 0), (54, .ldc 72, 56, 0), (56, .invokevirtual 47, 59, 0), (59, .ifCond .eq 8, 62, 67), (62, .aload_n 0, 63, 0), (63, .invokevirtual 74, 66, 0), (66, .ireturn, 67, 0), (67, .aload_n 0, 68, 0), (68, .getfield 18, 71, 0), (71, .ldc 77, 73, 0), (73, .invokevirtual 47, 76, 0), (76, .ifCond .eq 13, 79, 89), (79, .aload_n 0, 80, 0), (80, .getfield 12, 83, 0), (83, .invokevirtual 79, 86, 0), (86, .goto 27, 89, 113), (89, .aload_n 0, 90, 0), (90, .getfield 18, 93, 0), (93, .ldc 82, 95, 0), (95, .invokevirtual 47, 98, 0), (98, .ifCond .eq 13, 101, 111), (101, .aload_n 0, 102, 0), (102, .getfield 12, 105, 0), (105, .invokevirtual 84, 108, 0), (108, .goto 5, 111, 113), (111, .iconst 0, 112, 0), (112, .ireturn, 113, 0), (113, .aload_n 0, 114, 0), (114, .getfield 18, 117, 0), (117, .invokevirtual 51, 120, 0), (120, .iconst 1, 121, 0), (121, .ireturn, 122, 0)])
theorem o_X0_doClause : zk_ok m_X0_doClause := (by decide +kernel : m_X0_doClause.2.2.2.2.all (zk_chk m_X0_doClause.2.1) = true)
def m_X0_kindOfWord : zk_Mt := (⟨"NamedNext$Clauses", "kindOfWord", "()I"⟩, prog_2_method_4_code, 1, some .int, [(0, .aload_n 0, 1, 0), (1, .getfield 18, 4, 0), (4, .ldc 87, 6, 0), (6, .invokevirtual 47, 9, 0), (9, .ifCond .eq 5, 12, 14), (12, .iconst 0, 13, 0), (13, .ireturn, 14, 0), (14, .aload_n 0, 15, 0), (15, .getfield 18, 18, 0), (18, .ldc 89, 20, 0), (20, .invokevirtual 47, 23, 0), (23, .ifCond .eq 5, 26, 28), (26, .iconst 1, 27, 0), (27, .ireturn, 28, 0), (28, .aload_n 0, 29, 0), (29, .getfield 18, 32, 0), (32, .ldc 91, 34, 0), (34, .invokevirtual 47, 37, 0), (37, .ifCond .eq 5, 40, 42), (40, .iconst 2, 41, 0), (41, .ireturn, 42, 0), (42, .aload_n 0, 43, 0), (43, .getfield 18, 46, 0), (46, .ldc 93, 48, 0), (48, .invokevirtual 47, 51, 0), (51, .ifCond .eq 7, 54, 58), (54, .iconst 3, 55, 0), (55, .goto 4, 58, 59), (58, .iconst (-1), 59, 0), (59, .ireturn, 60, 0)])
theorem o_X0_kindOfWord : zk_ok m_X0_kindOfWord := (by decide +kernel : m_X0_kindOfWord.2.2.2.2.all (zk_chk m_X0_kindOfWord.2.1) = true)
def m_X0_doReader : zk_Mt := (⟨"NamedNext$Clauses", "doReader", "(I)Z"⟩, prog_2_method_5_code, 3, some .boolean, [(0, .aload_n 0, 1, 0), (1, .getfield 12, 4, 0), (4, .getfield 95, 7, 0), (7, .bipush 8, 9, 0), (9, .if_icmp .lt 5, 12, 14), (12, .iconst 0, 13, 0), (13, .ireturn, 14, 0), (14, .aload_n 0, 15, 0), (15, .bipush 10, 17, 0), (17, .invokevirtual 98, 20, 0), (20, .istore_n 2, 21, 0), (21, .iload_n 2, 22, 0), (22, .iconst (-1), 23, 0), (23, .if_icmp .ne 5, 26, 28), (26, .iconst 0, 27, 0), (27, .ireturn, 28, 0), (28, .aload_n 0, 29, 0), (29, .getfield 12, 32, 0), (32, .iload_n 1, 33, 0), (33, .iload_n 2, 34, 0), (34, .invokevirtual 102, 37, 0), (37, .aload_n 0, 38, 0), (38, .getfield 18, 41, 0), (41, .invokevirtual 51, 44, 0), (44, .iconst 1, 45, 0), (45, .ireturn, 46, 0)])
theorem o_X0_doReader : zk_ok m_X0_doReader := (by decide +kernel : m_X0_doReader.2.2.2.2.all (zk_chk m_X0_doReader.2.1) = true)
def m_X0_doFeud : zk_Mt := (⟨"NamedNext$Clauses", "doFeud", "()Z"⟩, prog_2_method_6_code, 3, some .boolean, [(0, .aload_n 0, 1, 0), (1, .aload_n 0, 2, 0), (2, .getfield 12, 5, 0), (5, .getfield 95, 8, 0), (8, .invokevirtual 98, 11, 0), (11, .istore_n 1, 12, 0), (12, .iload_n 1, 13, 0), (13, .iconst (-1), 14, 0), (14, .if_icmp .ne 5, 17, 19), (17, .iconst 0, 18, 0), (18, .ireturn, 19, 0), (19, .aload_n 0, 20, 0), (20, .aload_n 0, 21, 0), (21, .getfield 12, 24, 0), (24, .getfield 95, 27, 0), (27, .invokevirtual 98, 30, 0), (30, .istore_n 2, 31, 0), (31, .iload_n 2, 32, 0), (32, .iconst (-1), 33, 0), (33, .if_icmp .eq 8, 36, 41), (36, .iload_n 2, 37, 0), (37, .iload_n 1, 38, 0), (38, .if_icmp .ne 5, 41, 43), (41, .iconst 0, 42, 0), (42, .ireturn, 43, 0), (43, .aload_n 0, 44, 0), (44, .getfield 12, 47, 0), (47, .iload_n 1, 48, 0), (48, .iload_n 2, 49, 0), (49, .invokevirtual 106, 52, 0), (52, .aload_n 0, 53, 0), (53, .getfield 18, 56, 0), (56, .invokevirtual 51, 59, 0), (59, .iconst 1, 60, 0), (60, .ireturn, 61, 0)])
theorem o_X0_doFeud : zk_ok m_X0_doFeud := (by decide +kernel : m_X0_doFeud.2.2.2.2.all (zk_chk m_X0_doFeud.2.1) = true)
def m_X0_doMove : zk_Mt := (⟨"NamedNext$Clauses", "doMove", "()Z"⟩, prog_2_method_7_code, 3, some .boolean, [(0, .aload_n 0, 1, 0), (1, .aload_n 0, 2, 0), (2, .getfield 12, 5, 0), (5, .getfield 95, 8, 0), (8, .invokevirtual 98, 11, 0), (11, .istore_n 1, 12, 0), (12, .iload_n 1, 13, 0), (13, .iconst (-1), 14, 0), (14, .if_icmp .ne 5, 17, 19), (17, .iconst 0, 18, 0), (18, .ireturn, 19, 0), (19, .aload_n 0, 20, 0), (20, .bipush 100, 22, 0), (22, .invokevirtual 98, 25, 0), (25, .istore_n 2, 26, 0), (26, .iload_n 2, 27, 0), (27, .iconst (-1), 28, 0), (28, .if_icmp .ne 5, 31, 33), (31, .iconst 0, 32, 0), (32, .ireturn, 33, 0), (33, .aload_n 0, 34, 0), (34, .getfield 12, 37, 0), (37, .getfield 109, 40, 0), (40, .iload_n 1, 41, 0), (41, .iload_n 2, 42, 0), (42, .iastore, 43, 0), (43, .aload_n 0, 44, 0), (44, .getfield 18, 47, 0), (47, .invokevirtual 51, 50, 0), (50, .iconst 1, 51, 0), (51, .ireturn, 52, 0)])
theorem o_X0_doMove : zk_ok m_X0_doMove := (by decide +kernel : m_X0_doMove.2.2.2.2.all (zk_chk m_X0_doMove.2.1) = true)
def m_X0_doBook : zk_Mt := (⟨"NamedNext$Clauses", "doBook", "()Z"⟩, prog_2_method_8_code, 2, some .boolean, [(0, .aload_n 0, 1, 0), (1, .getfield 12, 4, 0), (4, .getfield 113, 7, 0), (7, .iconst 4, 8, 0), (8, .if_icmp .lt 5, 11, 13), (11, .iconst 0, 12, 0), (12, .ireturn, 13, 0), (13, .aload_n 0, 14, 0), (14, .aload_n 0, 15, 0), (15, .getfield 12, 18, 0), (18, .getfield 95, 21, 0), (21, .invokevirtual 98, 24, 0), (24, .istore_n 1, 25, 0), (25, .iload_n 1, 26, 0), (26, .iconst (-1), 27, 0), (27, .if_icmp .ne 5, 30, 32), (30, .iconst 0, 31, 0), (31, .ireturn, 32, 0), (32, .aload_n 0, 33, 0), (33, .getfield 12, 36, 0), (36, .iload_n 1, 37, 0), (37, .invokevirtual 116, 40, 0), (40, .aload_n 0, 41, 0), (41, .getfield 18, 44, 0), (44, .invokevirtual 51, 47, 0), (47, .iconst 1, 48, 0), (48, .ireturn, 49, 0)])
theorem o_X0_doBook : zk_ok m_X0_doBook := (by decide +kernel : m_X0_doBook.2.2.2.2.all (zk_chk m_X0_doBook.2.1) = true)
def m_X0_nextNumber : zk_Mt := (⟨"NamedNext$Clauses", "nextNumber", "(I)I"⟩, prog_2_method_9_code, 3, some .int, [(0, .aload_n 0, 1, 0), (1, .getfield 18, 4, 0), (4, .invokevirtual 51, 7, 0), (7, .aload_n 0, 8, 0), (8, .getfield 18, 11, 0), (11, .invokevirtual 120, 14, 0), (14, .istore_n 2, 15, 0), (15, .iload_n 2, 16, 0), (16, .iload_n 1, 17, 0), (17, .if_icmp .ge 7, 20, 24), (20, .iload_n 2, 21, 0), (21, .goto 4, 24, 25), (24, .iconst (-1), 25, 0), (25, .ireturn, 26, 0)])
theorem o_X0_nextNumber : zk_ok m_X0_nextNumber := (by decide +kernel : m_X0_nextNumber.2.2.2.2.all (zk_chk m_X0_nextNumber.2.1) = true)
def m_X1_init : zk_Mt := (⟨"NamedNext$Days", "<init>", "()V"⟩, prog_3_method_1_code, 1, none, [(0, .aload_n 0, 1, 0), (1, .invokespecial 3, 4, 0), (4, .aload_n 0, 5, 0), (5, .iconst 4, 6, 0), (6, .newarray .int, 8, 0), (8, .putfield 9, 11, 0), (11, .aload_n 0, 12, 0), (12, .iconst 4, 13, 0), (13, .newarray .int, 15, 0), (15, .putfield 15, 18, 0), (18, .aload_n 0, 19, 0), (19, .iconst 4, 20, 0), (20, .newarray .int, 22, 0), (22, .putfield 18, 25, 0), (25, .return_, 26, 0)])
theorem o_X1_init : zk_ok m_X1_init := (by decide +kernel : m_X1_init.2.2.2.2.all (zk_chk m_X1_init.2.1) = true)
def m_X1_beginAnew : zk_Mt := (⟨"NamedNext$Days", "beginAnew", "(LNamedNext$Told;)V"⟩, prog_3_method_2_code, 3, none, [(0, .aload_n 0, 1, 0), (1, .iconst 0, 2, 0), (2, .putfield 21, 5, 0), (5, .iconst 0, 6, 0), (6, .istore_n 2, 7, 0), (7, .iload_n 2, 8, 0), (8, .aload_n 1, 9, 0), (9, .getfield 25, 12, 0), (12, .if_icmp .ge 42, 15, 54), (15, .aload_n 0, 16, 0), (16, .getfield 9, 19, 0), (19, .iload_n 2, 20, 0), (20, .aload_n 1, 21, 0), (21, .getfield 30, 24, 0), (24, .iload_n 2, 25, 0), (25, .iaload, 26, 0), (26, .iastore, 27, 0), (27, .aload_n 0, 28, 0), (28, .getfield 15, 31, 0), (31, .iload_n 2, 32, 0), (32, .iconst 1, 33, 0), (33, .aload_n 1, 34, 0), (34, .getfield 30, 37, 0), (37, .iload_n 2, 38, 0), (38, .iaload, 39, 0), (39, .ishl, 40, 0), (40, .iastore, 41, 0), (41, .aload_n 0, 42, 0), (42, .getfield 18, 45, 0), (45, .iload_n 2, 46, 0), (46, .iconst 0, 47, 0), (47, .iastore, 48, 0), (48, .iinc 2 1, 51, 0), (51, .goto (-44), 54, 7), (54, .return_, 55, 0)])
theorem o_X1_beginAnew : zk_ok m_X1_beginAnew := (by decide +kernel : m_X1_beginAnew.2.2.2.2.all (zk_chk m_X1_beginAnew.2.1) = true)
def m_X1_copyFrom : zk_Mt := (⟨"NamedNext$Days", "copyFrom", "(LNamedNext$Days;)V"⟩, prog_3_method_3_code, 2, none, [(0, .aload_n 0, 1, 0), (1, .aload_n 1, 2, 0), (2, .getfield 21, 5, 0), (5, .putfield 21, 8, 0), (8, .aload_n 1, 9, 0), (9, .getfield 9, 12, 0), (12, .iconst 0, 13, 0), (13, .aload_n 0, 14, 0), (14, .getfield 9, 17, 0), (17, .iconst 0, 18, 0), (18, .iconst 4, 19, 0), (19, .invokestatic 33, 22, 0), (22, .aload_n 1, 23, 0), (23, .getfield 15, 26, 0), (26, .iconst 0, 27, 0), (27, .aload_n 0, 28, 0), (28, .getfield 15, 31, 0), (31, .iconst 0, 32, 0), (32, .iconst 4, 33, 0), (33, .invokestatic 33, 36, 0), (36, .aload_n 1, 37, 0), (37, .getfield 18, 40, 0), (40, .iconst 0, 41, 0), (41, .aload_n 0, 42, 0), (42, .getfield 18, 45, 0), (45, .iconst 0, 46, 0), (46, .iconst 4, 47, 0), (47, .invokestatic 33, 50, 0), (50, .return_, 51, 0)])
theorem o_X1_copyFrom : zk_ok m_X1_copyFrom := (by decide +kernel : m_X1_copyFrom.2.2.2.2.all (zk_chk m_X1_copyFrom.2.1) = true)
def m_X1_passOn : zk_Mt := (⟨"NamedNext$Days", "passOn", "(II)V"⟩, prog_3_method_4_code, 3, none, [(0, .aload_n 0, 1, 0), (1, .getfield 9, 4, 0), (4, .iload_n 1, 5, 0), (5, .iload_n 2, 6, 0), (6, .iastore, 7, 0), (7, .aload_n 0, 8, 0), (8, .getfield 15, 11, 0), (11, .iload_n 1, 12, 0), (12, .dup2, 13, 0), (13, .iaload, 14, 0), (14, .iconst 1, 15, 0), (15, .iload_n 2, 16, 0), (16, .ishl, 17, 0), (17, .ior, 18, 0), (18, .iastore, 19, 0), (19, .aload_n 0, 20, 0), (20, .getfield 18, 23, 0), (23, .iload_n 1, 24, 0), (24, .aload_n 0, 25, 0), (25, .getfield 21, 28, 0), (28, .iastore, 29, 0), (29, .aload_n 0, 30, 0), (30, .dup, 31, 0), (31, .getfield 21, 34, 0), (34, .iconst 1, 35, 0), (35, .iadd, 36, 0), (36, .putfield 21, 39, 0), (39, .return_, 40, 0)])
theorem o_X1_passOn : zk_ok m_X1_passOn := (by decide +kernel : m_X1_passOn.2.2.2.2.all (zk_chk m_X1_passOn.2.1) = true)
def m_X2_init : zk_Mt := (⟨"NamedNext$Past", "<init>", "()V"⟩, prog_4_method_1_code, 2, none, [(0, .aload_n 0, 1, 0), (1, .invokespecial 3, 4, 0), (4, .aload_n 0, 5, 0), (5, .bipush 8, 7, 0), (7, .anewarray 9, 10, 0), (10, .putfield 11, 13, 0), (13, .iconst 0, 14, 0), (14, .istore_n 1, 15, 0), (15, .iload_n 1, 16, 0), (16, .bipush 8, 18, 0), (18, .if_icmp .ge 22, 21, 40), (21, .aload_n 0, 22, 0), (22, .getfield 11, 25, 0), (25, .iload_n 1, 26, 0), (26, .new 9, 29, 0), (29, .dup, 30, 0), (30, .invokespecial 17, 33, 0), (33, .aastore, 34, 0), (34, .iinc 1 1, 37, 0), (37, .goto (-22), 40, 15), (40, .return_, 41, 0)])
theorem o_X2_init : zk_ok m_X2_init := (by decide +kernel : m_X2_init.2.2.2.2.all (zk_chk m_X2_init.2.1) = true)
def m_X2_forget : zk_Mt := (⟨"NamedNext$Past", "forget", "()V"⟩, prog_4_method_2_code, 1, none, [(0, .aload_n 0, 1, 0), (1, .iconst 0, 2, 0), (2, .putfield 18, 5, 0), (5, .return_, 6, 0)])
theorem o_X2_forget : zk_ok m_X2_forget := (by decide +kernel : m_X2_forget.2.2.2.2.all (zk_chk m_X2_forget.2.1) = true)
def m_X2_remember : zk_Mt := (⟨"NamedNext$Past", "remember", "(LNamedNext$Days;)V"⟩, prog_4_method_3_code, 2, none, [(0, .aload_n 0, 1, 0), (1, .getfield 11, 4, 0), (4, .aload_n 0, 5, 0), (5, .getfield 22, 8, 0), (8, .aaload, 9, 0), (9, .aload_n 1, 10, 0), (10, .invokevirtual 25, 13, 0), (13, .aload_n 0, 14, 0), (14, .aload_n 0, 15, 0), (15, .getfield 22, 18, 0), (18, .iconst 1, 19, 0), (19, .iadd, 20, 0), (20, .bipush 8, 22, 0), (22, .irem, 23, 0), (23, .putfield 22, 26, 0), (26, .aload_n 0, 27, 0), (27, .aload_n 0, 28, 0), (28, .getfield 18, 31, 0), (31, .iconst 1, 32, 0), (32, .iadd, 33, 0), (33, .bipush 8, 35, 0), (35, .invokestatic 29, 38, 0), (38, .putfield 18, 41, 0), (41, .return_, 42, 0)])
theorem o_X2_remember : zk_ok m_X2_remember := (by decide +kernel : m_X2_remember.2.2.2.2.all (zk_chk m_X2_remember.2.1) = true)
def m_X2_takeBack : zk_Mt := (⟨"NamedNext$Past", "takeBack", "(LNamedNext$Days;)V"⟩, prog_4_method_4_code, 2, none, [(0, .aload_n 0, 1, 0), (1, .aload_n 0, 2, 0), (2, .getfield 22, 5, 0), (5, .bipush 8, 7, 0), (7, .iadd, 8, 0), (8, .iconst 1, 9, 0), (9, .isub, 10, 0), (10, .bipush 8, 12, 0), (12, .irem, 13, 0), (13, .putfield 22, 16, 0), (16, .aload_n 0, 17, 0), (17, .dup, 18, 0), (18, .getfield 18, 21, 0), (21, .iconst 1, 22, 0), (22, .isub, 23, 0), (23, .putfield 18, 26, 0), (26, .aload_n 1, 27, 0), (27, .aload_n 0, 28, 0), (28, .getfield 11, 31, 0), (31, .aload_n 0, 32, 0), (32, .getfield 22, 35, 0), (35, .aaload, 36, 0), (36, .invokevirtual 25, 39, 0), (39, .return_, 40, 0)])
theorem o_X2_takeBack : zk_ok m_X2_takeBack := (by decide +kernel : m_X2_takeBack.2.2.2.2.all (zk_chk m_X2_takeBack.2.1) = true)
def m_X3_init : zk_Mt := (⟨"NamedNext$Rows", "<init>", "(LNamedNext$Told;)V"⟩, prog_5_method_1_code, 2, none, [(0, .aload_n 0, 1, 0), (1, .invokespecial 3, 4, 0), (4, .aload_n 0, 5, 0), (5, .bipush 8, 7, 0), (7, .newarray .int, 9, 0), (9, .putfield 9, 12, 0), (12, .aload_n 0, 13, 0), (13, .bipush 8, 15, 0), (15, .newarray .int, 17, 0), (17, .putfield 15, 20, 0), (20, .aload_n 0, 21, 0), (21, .sipush 256, 24, 0), (24, .newarray .int, 26, 0), (26, .putfield 18, 29, 0), (29, .aload_n 0, 30, 0), (30, .sipush 256, 33, 0), (33, .newarray .int, 35, 0), (35, .putfield 21, 38, 0), (38, .aload_n 0, 39, 0), (39, .sipush 2048, 42, 0), (42, .newarray .long, 44, 0), (44, .putfield 24, 47, 0), (47, .aload_n 0, 48, 0), (48, .sipush 2048, 51, 0), (51, .newarray .long, 53, 0), (53, .putfield 28, 56, 0), (56, .aload_n 0, 57, 0), (57, .aload_n 1, 58, 0), (58, .putfield 31, 61, 0), (61, .return_, 62, 0)])
theorem o_X3_init : zk_ok m_X3_init := (by decide +kernel : m_X3_init.2.2.2.2.all (zk_chk m_X3_init.2.1) = true)
def m_X3_foretell : zk_Mt := (⟨"NamedNext$Rows", "foretell", "(LNamedNext$Days;II)J"⟩, prog_5_method_2_code, 5, some .long, [(0, .aload_n 0, 1, 0), (1, .aload_n 1, 2, 0), (2, .iload_n 2, 3, 0), (3, .invokevirtual 35, 6, 0), (6, .iload_n 3, 7, 0), (7, .iconst 1, 8, 0), (8, .if_icmp .eq 8, 11, 16), (11, .iload_n 3, 12, 0), (12, .iconst 4, 13, 0), (13, .if_icmp .ne 12, 16, 25), (16, .aload_n 0, 17, 0), (17, .iconst 0, 18, 0), (18, .aload_n 0, 19, 0), (19, .getfield 24, 22, 0), (22, .invokevirtual 39, 25, 0), (25, .iload_n 3, 26, 0), (26, .ifCond .ne 10, 29, 36), (29, .aload_n 0, 30, 0), (30, .getfield 24, 33, 0), (33, .goto 7, 36, 40), (36, .aload_n 0, 37, 0), (37, .getfield 28, 40, 0), (40, .astore 4, 42, 0), (42, .aload_n 0, 43, 0), (43, .iload_n 3, 44, 0), (44, .aload 4, 46, 0), (46, .invokevirtual 39, 49, 0), (49, .aload 4, 51, 0), (51, .aload_n 0, 52, 0), (52, .getfield 43, 55, 0), (55, .aload_n 0, 56, 0), (56, .getfield 47, 59, 0), (59, .invokestatic 50, 62, 0), (62, .laload, 63, 0), (63, .lreturn, 64, 0)])
theorem o_X3_foretell : zk_ok m_X3_foretell := (by decide +kernel : m_X3_foretell.2.2.2.2.all (zk_chk m_X3_foretell.2.1) = true)
def m_X3_lotsBelow : zk_Mt := (⟨"NamedNext$Rows", "lotsBelow", "()J"⟩, prog_5_method_3_code, 1, some .long, [(0, .aload_n 0, 1, 0), (1, .aload_n 0, 2, 0), (2, .getfield 43, 5, 0), (5, .invokevirtual 54, 8, 0), (8, .invokestatic 58, 11, 0), (11, .lreturn, 12, 0)])
theorem o_X3_lotsBelow : zk_ok m_X3_lotsBelow := (by decide +kernel : m_X3_lotsBelow.2.2.2.2.all (zk_chk m_X3_lotsBelow.2.1) = true)
def m_X3_leastWinningChoice : zk_Mt := (⟨"NamedNext$Rows", "leastWinningChoice", "()I"⟩, prog_5_method_4_code, 3, some .int, [(0, .aload_n 0, 1, 0), (1, .aload_n 0, 2, 0), (2, .getfield 43, 5, 0), (5, .aload_n 0, 6, 0), (6, .getfield 47, 9, 0), (9, .invokevirtual 62, 12, 0), (12, .istore_n 1, 13, 0), (13, .iconst 0, 14, 0), (14, .istore_n 2, 15, 0), (15, .iload_n 2, 16, 0), (16, .aload_n 0, 17, 0), (17, .getfield 31, 20, 0), (20, .getfield 65, 23, 0), (23, .if_icmp .ge 37, 26, 60), (26, .iload_n 1, 27, 0), (27, .iload_n 2, 28, 0), (28, .invokestatic 70, 31, 0), (31, .ifCond .eq 23, 34, 54), (34, .aload_n 0, 35, 0), (35, .getfield 28, 38, 0), (38, .aload_n 0, 39, 0), (39, .getfield 43, 42, 0), (42, .iload_n 2, 43, 0), (43, .invokestatic 74, 46, 0), (46, .laload, 47, 0), (47, .lconst 0, 48, 0), (48, .lcmp, 49, 0), (49, .ifCond .ne 5, 52, 54), (52, .iload_n 2, 53, 0), (53, .ireturn, 54, 0), (54, .iinc 2 1, 57, 0), (57, .goto (-42), 60, 15), (60, .iconst (-1), 61, 0), (61, .ireturn, 62, 0)])
theorem o_X3_leastWinningChoice : zk_ok m_X3_leastWinningChoice := (by decide +kernel : m_X3_leastWinningChoice.2.2.2.2.all (zk_chk m_X3_leastWinningChoice.2.1) = true)
def m_X3_readerOfFirstRow : zk_Mt := (⟨"NamedNext$Rows", "readerOfFirstRow", "(LNamedNext$Days;II)I"⟩, prog_5_method_5_code, 8, some .int, [(0, .iload_n 3, 1, 0), (1, .bipush 8, 3, 0), (3, .if_icmp .lt 5, 6, 8), (6, .iconst (-1), 7, 0), (7, .ireturn, 8, 0), (8, .aload_n 0, 9, 0), (9, .aload_n 1, 10, 0), (10, .iload_n 2, 11, 0), (11, .invokevirtual 35, 14, 0), (14, .aload_n 0, 15, 0), (15, .iconst 0, 16, 0), (16, .aload_n 0, 17, 0), (17, .getfield 24, 20, 0), (20, .invokevirtual 39, 23, 0), (23, .aload_n 0, 24, 0), (24, .getfield 43, 27, 0), (27, .istore 4, 29, 0), (29, .aload_n 0, 30, 0), (30, .getfield 47, 33, 0), (33, .istore 5, 35, 0), (35, .iconst 0, 36, 0), (36, .istore 6, 38, 0), (38, .iload 6, 40, 0), (40, .iload_n 3, 41, 0), (41, .if_icmp .gt 43, 44, 84), (44, .aload_n 0, 45, 0), (45, .iload 4, 47, 0), (47, .iload 5, 49, 0), (49, .invokevirtual 77, 52, 0), (52, .invokestatic 80, 55, 0), (55, .istore 7, 57, 0), (57, .iload 7, 59, 0), (59, .iconst (-1), 60, 0), (60, .if_icmp .ne 5, 63, 65), (63, .iconst (-1), 64, 0), (64, .ireturn, 65, 0), (65, .iload 4, 67, 0), (67, .iconst 1, 68, 0), (68, .iload 7, 70, 0), (70, .ishl, 71, 0), (71, .ior, 72, 0), (72, .istore 4, 74, 0), (74, .iload 7, 76, 0), (76, .istore 5, 78, 0), (78, .iinc 6 1, 81, 0), (81, .goto (-43), 84, 38), (84, .iload 5, 86, 0), (86, .ireturn, 87, 0)])
theorem o_X3_readerOfFirstRow : zk_ok m_X3_readerOfFirstRow := (by decide +kernel : m_X3_readerOfFirstRow.2.2.2.2.all (zk_chk m_X3_readerOfFirstRow.2.1) = true)
def m_X3_findPlaces : zk_Mt := (⟨"NamedNext$Rows", "findPlaces", "(LNamedNext$Days;I[I)V"⟩, prog_5_method_6_code, 6, none, [(0, .aload_n 0, 1, 0), (1, .aload_n 1, 2, 0), (2, .iload_n 2, 3, 0), (3, .invokevirtual 35, 6, 0), (6, .aload_n 3, 7, 0), (7, .iconst 0, 8, 0), (8, .invokestatic 83, 11, 0), (11, .aload_n 0, 12, 0), (12, .getfield 21, 15, 0), (15, .iconst 0, 16, 0), (16, .invokestatic 83, 19, 0), (19, .aload_n 0, 20, 0), (20, .getfield 21, 23, 0), (23, .aload_n 0, 24, 0), (24, .getfield 43, 27, 0), (27, .iconst 1, 28, 0), (28, .aload_n 0, 29, 0), (29, .getfield 47, 32, 0), (32, .ishl, 33, 0), (33, .iastore, 34, 0), (34, .aload_n 0, 35, 0), (35, .getfield 43, 38, 0), (38, .istore 4, 40, 0), (40, .iload 4, 42, 0), (42, .aload_n 0, 43, 0), (43, .invokevirtual 88, 46, 0), (46, .if_icmp .gt 59, 49, 105), (49, .aload_n 0, 50, 0), (50, .iload 4, 52, 0), (52, .invokevirtual 92, 55, 0), (55, .istore 5, 57, 0), (57, .aload_n 0, 58, 0), (58, .getfield 21, 61, 0), (61, .iload 4, 63, 0), (63, .iaload, 64, 0), (64, .ifCond .eq 35, 67, 99), (67, .iload 5, 69, 0), (69, .ifCond .lt 30, 72, 99), (72, .iload 5, 74, 0), (74, .aload_n 3, 75, 0), (75, .arraylength, 76, 0), (76, .if_icmp .ge 23, 79, 99), (79, .aload_n 3, 80, 0), (80, .iload 5, 82, 0), (82, .dup2, 83, 0), (83, .iaload, 84, 0), (84, .aload_n 0, 85, 0), (85, .getfield 21, 88, 0), (88, .iload 4, 90, 0), (90, .iaload, 91, 0), (91, .ior, 92, 0), (92, .iastore, 93, 0), (93, .aload_n 0, 94, 0), (94, .iload 4, 96, 0), (96, .invokevirtual 95, 99, 0), (99, .iinc 4 1, 102, 0), (102, .goto (-62), 105, 40), (105, .return_, 106, 0)])
theorem o_X3_findPlaces : zk_ok m_X3_findPlaces := (by decide +kernel : m_X3_findPlaces.2.2.2.2.all (zk_chk m_X3_findPlaces.2.1) = true)
def m_X3_ringsOf : zk_Mt := (⟨"NamedNext$Rows", "ringsOf", "(II)I"⟩, prog_5_method_7_code, 6, some .int, [(0, .aload_n 0, 1, 0), (1, .invokevirtual 99, 4, 0), (4, .aload_n 0, 5, 0), (5, .getfield 31, 8, 0), (8, .iload_n 1, 9, 0), (9, .invokevirtual 102, 12, 0), (12, .istore_n 3, 13, 0), (13, .iconst 0, 14, 0), (14, .istore 4, 16, 0), (16, .iconst 0, 17, 0), (17, .istore 5, 19, 0), (19, .iload 5, 21, 0), (21, .aload_n 0, 22, 0), (22, .getfield 31, 25, 0), (25, .getfield 65, 28, 0), (28, .if_icmp .ge 26, 31, 54), (31, .iload 4, 33, 0), (33, .aload_n 0, 34, 0), (34, .iload 5, 36, 0), (36, .iload 5, 38, 0), (38, .iload_n 3, 39, 0), (39, .iload_n 2, 40, 0), (40, .iconst 1, 41, 0), (41, .isub, 42, 0), (42, .invokevirtual 105, 45, 0), (45, .iadd, 46, 0), (46, .istore 4, 48, 0), (48, .iinc 5 1, 51, 0), (51, .goto (-32), 54, 19), (54, .iload 4, 56, 0), (56, .ireturn, 57, 0)])
theorem o_X3_ringsOf : zk_ok m_X3_ringsOf := (by decide +kernel : m_X3_ringsOf.2.2.2.2.all (zk_chk m_X3_ringsOf.2.1) = true)
def m_X3_ringsThrough : zk_Mt := (⟨"NamedNext$Rows", "ringsThrough", "(IIII)I"⟩, prog_5_method_8_code, 8, some .int, [(0, .iload 4, 2, 0), (2, .ifCond .gt 24, 5, 26), (5, .aload_n 0, 6, 0), (6, .getfield 9, 9, 0), (9, .iload_n 2, 10, 0), (10, .iaload, 11, 0), (11, .iload_n 3, 12, 0), (12, .iand, 13, 0), (13, .iload_n 1, 14, 0), (14, .invokestatic 70, 17, 0), (17, .ifCond .eq 7, 20, 24), (20, .iconst 1, 21, 0), (21, .goto 4, 24, 25), (24, .iconst 0, 25, 0), (25, .ireturn, 26, 0), (26, .aload_n 0, 27, 0), (27, .getfield 9, 30, 0), (30, .iload_n 2, 31, 0), (31, .iaload, 32, 0), (32, .iload_n 3, 33, 0), (33, .iand, 34, 0), (34, .istore 5, 36, 0), (36, .iconst 0, 37, 0), (37, .istore 6, 39, 0), (39, .iload_n 1, 40, 0), (40, .iconst 1, 41, 0), (41, .iadd, 42, 0), (42, .istore 7, 44, 0), (44, .iload 7, 46, 0), (46, .aload_n 0, 47, 0), (47, .getfield 31, 50, 0), (50, .getfield 65, 53, 0), (53, .if_icmp .ge 43, 56, 96), (56, .iload 5, 58, 0), (58, .iload 7, 60, 0), (60, .invokestatic 70, 63, 0), (63, .ifCond .eq 27, 66, 90), (66, .iload 6, 68, 0), (68, .aload_n 0, 69, 0), (69, .iload_n 1, 70, 0), (70, .iload 7, 72, 0), (72, .iload_n 3, 73, 0), (73, .iconst 1, 74, 0), (74, .iload 7, 76, 0), (76, .ishl, 77, 0), (77, .iconst (-1), 78, 0), (78, .ixor, 79, 0), (79, .iand, 80, 0), (80, .iload 4, 82, 0), (82, .iconst 1, 83, 0), (83, .isub, 84, 0), (84, .invokevirtual 105, 87, 0), (87, .iadd, 88, 0), (88, .istore 6, 90, 0), (90, .iinc 7 1, 93, 0), (93, .goto (-49), 96, 44), (96, .iload 6, 98, 0), (98, .ireturn, 99, 0)])
theorem o_X3_ringsThrough : zk_ok m_X3_ringsThrough := (by decide +kernel : m_X3_ringsThrough.2.2.2.2.all (zk_chk m_X3_ringsThrough.2.1) = true)
def m_X3_begin : zk_Mt := (⟨"NamedNext$Rows", "begin", "(LNamedNext$Days;I)V"⟩, prog_5_method_9_code, 6, none, [(0, .aload_n 0, 1, 0), (1, .aload_n 1, 2, 0), (2, .getfield 109, 5, 0), (5, .iload_n 2, 6, 0), (6, .iaload, 7, 0), (7, .putfield 43, 10, 0), (10, .aload_n 0, 11, 0), (11, .aload_n 1, 12, 0), (12, .getfield 114, 15, 0), (15, .iload_n 2, 16, 0), (16, .iaload, 17, 0), (17, .putfield 47, 20, 0), (20, .aload_n 0, 21, 0), (21, .invokevirtual 99, 24, 0), (24, .iconst 0, 25, 0), (25, .istore_n 3, 26, 0), (26, .iload_n 3, 27, 0), (27, .bipush 8, 29, 0), (29, .if_icmp .ge 28, 32, 57), (32, .aload_n 0, 33, 0), (33, .getfield 15, 36, 0), (36, .iload_n 3, 37, 0), (37, .aload_n 0, 38, 0), (38, .getfield 31, 41, 0), (41, .aload_n 1, 42, 0), (42, .getfield 117, 45, 0), (45, .iload_n 3, 46, 0), (46, .iadd, 47, 0), (47, .invokevirtual 102, 50, 0), (50, .iastore, 51, 0), (51, .iinc 3 1, 54, 0), (54, .goto (-28), 57, 26), (57, .aload_n 0, 58, 0), (58, .getfield 43, 61, 0), (61, .istore_n 3, 62, 0), (62, .iload_n 3, 63, 0), (63, .aload_n 0, 64, 0), (64, .invokevirtual 88, 67, 0), (67, .if_icmp .gt 69, 70, 136), (70, .aload_n 0, 71, 0), (71, .iload_n 3, 72, 0), (72, .invokevirtual 92, 75, 0), (75, .istore 4, 77, 0), (77, .iload_n 3, 78, 0), (78, .aload_n 0, 79, 0), (79, .getfield 43, 82, 0), (82, .iand, 83, 0), (83, .aload_n 0, 84, 0), (84, .getfield 43, 87, 0), (87, .if_icmp .ne 14, 90, 101), (90, .iload 4, 92, 0), (92, .bipush 8, 94, 0), (94, .if_icmp .ge 7, 97, 101), (97, .iconst 1, 98, 0), (98, .goto 4, 101, 102), (101, .iconst 0, 102, 0), (102, .istore 5, 104, 0), (104, .aload_n 0, 105, 0), (105, .getfield 18, 108, 0), (108, .iload_n 3, 109, 0), (109, .iload 5, 111, 0), (111, .ifCond .eq 17, 114, 128), (114, .aload_n 0, 115, 0), (115, .getfield 15, 118, 0), (118, .iload 4, 120, 0), (120, .iaload, 121, 0), (121, .iload_n 3, 122, 0), (122, .iconst (-1), 123, 0), (123, .ixor, 124, 0), (124, .iand, 125, 0), (125, .goto 4, 128, 129), (128, .iconst 0, 129, 0), (129, .iastore, 130, 0), (130, .iinc 3 1, 133, 0), (133, .goto (-71), 136, 62), (136, .return_, 137, 0)])
theorem o_X3_begin_0 : ((m_X3_begin.2.2.2.2.drop (40 * 0)).take 40).all (zk_chk m_X3_begin.2.1) = true := by decide +kernel
theorem o_X3_begin_1 : ((m_X3_begin.2.2.2.2.drop (40 * 1)).take 40).all (zk_chk m_X3_begin.2.1) = true := by decide +kernel
theorem o_X3_begin : zk_ok m_X3_begin := zk_ok_ch 40 2 (fun i hi => by
  match i, hi with
  | 0, _ => exact o_X3_begin_0
  | 1, _ => exact o_X3_begin_1
  | i + 2, h => exact absurd h (by omega)) (by decide +kernel)
def m_X3_findLiked : zk_Mt := (⟨"NamedNext$Rows", "findLiked", "()V"⟩, prog_5_method_10_code, 2, none, [(0, .iconst 0, 1, 0), (1, .istore_n 1, 2, 0), (2, .iload_n 1, 3, 0), (3, .aload_n 0, 4, 0), (4, .getfield 31, 7, 0), (7, .getfield 65, 10, 0), (10, .if_icmp .ge 23, 13, 33), (13, .aload_n 0, 14, 0), (14, .getfield 9, 17, 0), (17, .iload_n 1, 18, 0), (18, .aload_n 0, 19, 0), (19, .getfield 31, 22, 0), (22, .iload_n 1, 23, 0), (23, .invokevirtual 120, 26, 0), (26, .iastore, 27, 0), (27, .iinc 1 1, 30, 0), (30, .goto (-28), 33, 2), (33, .return_, 34, 0)])
theorem o_X3_findLiked : zk_ok m_X3_findLiked := (by decide +kernel : m_X3_findLiked.2.2.2.2.all (zk_chk m_X3_findLiked.2.1) = true)
def m_X3_spreadFrom : zk_Mt := (⟨"NamedNext$Rows", "spreadFrom", "(I)V"⟩, prog_5_method_11_code, 4, none, [(0, .iconst 0, 1, 0), (1, .istore_n 2, 2, 0), (2, .iconst 0, 3, 0), (3, .istore_n 3, 4, 0), (4, .iload_n 3, 5, 0), (5, .aload_n 0, 6, 0), (6, .getfield 31, 9, 0), (9, .getfield 65, 12, 0), (12, .if_icmp .ge 31, 15, 43), (15, .aload_n 0, 16, 0), (16, .getfield 21, 19, 0), (19, .iload_n 1, 20, 0), (20, .iaload, 21, 0), (21, .iload_n 3, 22, 0), (22, .invokestatic 70, 25, 0), (25, .ifCond .eq 12, 28, 37), (28, .iload_n 2, 29, 0), (29, .aload_n 0, 30, 0), (30, .iload_n 1, 31, 0), (31, .iload_n 3, 32, 0), (32, .invokevirtual 62, 35, 0), (35, .ior, 36, 0), (36, .istore_n 2, 37, 0), (37, .iinc 3 1, 40, 0), (40, .goto (-36), 43, 4), (43, .iconst 0, 44, 0), (44, .istore_n 3, 45, 0), (45, .iload_n 3, 46, 0), (46, .aload_n 0, 47, 0), (47, .getfield 31, 50, 0), (50, .getfield 65, 53, 0), (53, .if_icmp .ge 33, 56, 86), (56, .iload_n 2, 57, 0), (57, .iload_n 3, 58, 0), (58, .invokestatic 70, 61, 0), (61, .ifCond .eq 19, 64, 80), (64, .aload_n 0, 65, 0), (65, .getfield 21, 68, 0), (68, .iload_n 1, 69, 0), (69, .iconst 1, 70, 0), (70, .iload_n 3, 71, 0), (71, .ishl, 72, 0), (72, .ior, 73, 0), (73, .dup2, 74, 0), (74, .iaload, 75, 0), (75, .iconst 1, 76, 0), (76, .iload_n 3, 77, 0), (77, .ishl, 78, 0), (78, .ior, 79, 0), (79, .iastore, 80, 0), (80, .iinc 3 1, 83, 0), (83, .goto (-38), 86, 45), (86, .return_, 87, 0)])
theorem o_X3_spreadFrom : zk_ok m_X3_spreadFrom := (by decide +kernel : m_X3_spreadFrom.2.2.2.2.all (zk_chk m_X3_spreadFrom.2.1) = true)
def m_X3_fill : zk_Mt := (⟨"NamedNext$Rows", "fill", "(I[J)V"⟩, prog_5_method_12_code, 5, none, [(0, .aload_n 0, 1, 0), (1, .invokevirtual 88, 4, 0), (4, .istore_n 3, 5, 0), (5, .iload_n 3, 6, 0), (6, .aload_n 0, 7, 0), (7, .getfield 43, 10, 0), (10, .if_icmp .lt 72, 13, 82), (13, .iload_n 3, 14, 0), (14, .aload_n 0, 15, 0), (15, .getfield 43, 18, 0), (18, .iand, 19, 0), (19, .aload_n 0, 20, 0), (20, .getfield 43, 23, 0), (23, .if_icmp .eq 6, 26, 29), (26, .goto 50, 29, 76), (29, .iconst 0, 30, 0), (30, .istore 4, 32, 0), (32, .iload 4, 34, 0), (34, .aload_n 0, 35, 0), (35, .getfield 31, 38, 0), (38, .getfield 65, 41, 0), (41, .if_icmp .ge 35, 44, 76), (44, .iload_n 3, 45, 0), (45, .iload 4, 47, 0), (47, .invokestatic 70, 50, 0), (50, .ifCond .eq 20, 53, 70), (53, .aload_n 2, 54, 0), (54, .iload_n 3, 55, 0), (55, .iload 4, 57, 0), (57, .invokestatic 50, 60, 0), (60, .aload_n 0, 61, 0), (61, .iload_n 1, 62, 0), (62, .aload_n 2, 63, 0), (63, .iload_n 3, 64, 0), (64, .iload 4, 66, 0), (66, .invokevirtual 122, 69, 0), (69, .lastore, 70, 0), (70, .iinc 4 1, 73, 0), (73, .goto (-41), 76, 32), (76, .iinc 3 (-1), 79, 0), (79, .goto (-74), 82, 5), (82, .return_, 83, 0)])
theorem o_X3_fill : zk_ok m_X3_fill := (by decide +kernel : m_X3_fill.2.2.2.2.all (zk_chk m_X3_fill.2.1) = true)
def m_X3_measureOf : zk_Mt := (⟨"NamedNext$Rows", "measureOf", "(I[JII)J"⟩, prog_5_method_13_code, 12, some .long, [(0, .iload_n 1, 1, 0), (1, .iconst 1, 2, 0), (2, .if_icmp .eq 8, 5, 10), (5, .iload_n 1, 6, 0), (6, .iconst 4, 7, 0), (7, .if_icmp .ne 7, 10, 14), (10, .iconst 1, 11, 0), (11, .goto 4, 14, 15), (14, .iconst 0, 15, 0), (15, .istore 5, 17, 0), (17, .iload 5, 19, 0), (19, .ifCond .eq 13, 22, 32), (22, .aload_n 0, 23, 0), (23, .iload_n 3, 24, 0), (24, .iload 4, 26, 0), (26, .invokevirtual 77, 29, 0), (29, .goto 10, 32, 39), (32, .aload_n 0, 33, 0), (33, .iload_n 3, 34, 0), (34, .iload 4, 36, 0), (36, .invokevirtual 62, 39, 0), (39, .istore 6, 41, 0), (41, .iload 6, 43, 0), (43, .ifCond .ne 14, 46, 57), (46, .iload_n 1, 47, 0), (47, .iconst 1, 48, 0), (48, .if_icmp .ne 7, 51, 55), (51, .lconst 1, 52, 0), (52, .goto 4, 55, 56), (55, .lconst 0, 56, 0), (56, .lreturn, 57, 0), (57, .ldc2_w 126, 60, 0), (60, .lstore 7, 62, 0), (62, .iconst 0, 63, 0), (63, .istore 9, 65, 0), (65, .iload 9, 67, 0), (67, .aload_n 0, 68, 0), (68, .getfield 31, 71, 0), (71, .getfield 65, 74, 0), (74, .if_icmp .ge 61, 77, 135), (77, .iload 6, 79, 0), (79, .iload 9, 81, 0), (81, .invokestatic 70, 84, 0), (84, .ifCond .eq 45, 87, 129), (87, .aload_n 0, 88, 0), (88, .iload_n 1, 89, 0), (89, .aload_n 2, 90, 0), (90, .iload_n 3, 91, 0), (91, .iload 9, 93, 0), (93, .invokestatic 74, 96, 0), (96, .laload, 97, 0), (97, .iload_n 3, 98, 0), (98, .iload 9, 100, 0), (100, .invokevirtual 128, 103, 0), (103, .lstore 10, 105, 0), (105, .lload 7, 107, 0), (107, .ldc2_w 126, 110, 0), (110, .lcmp, 111, 0), (111, .ifCond .ne 8, 114, 119), (114, .lload 10, 116, 0), (116, .goto 11, 119, 127), (119, .iload_n 1, 120, 0), (120, .lload 7, 122, 0), (122, .lload 10, 124, 0), (124, .invokestatic 132, 127, 0), (127, .lstore 7, 129, 0), (129, .iinc 9 1, 132, 0), (132, .goto (-67), 135, 65), (135, .iload_n 1, 136, 0), (136, .bipush 6, 138, 0), (138, .if_icmp .eq 9, 141, 147), (141, .iload_n 1, 142, 0), (142, .bipush 7, 144, 0), (144, .if_icmp .ne 7, 147, 151), (147, .iconst 1, 148, 0), (148, .goto 4, 151, 152), (151, .iconst 0, 152, 0), (152, .istore 9, 154, 0), (154, .iload 9, 156, 0), (156, .ifCond .eq 19, 159, 175), (159, .lload 7, 161, 0), (161, .aload_n 0, 162, 0), (162, .iload_n 3, 163, 0), (163, .iload 6, 165, 0), (165, .invokestatic 136, 168, 0), (168, .invokevirtual 141, 171, 0), (171, .lmul, 172, 0), (172, .goto 5, 175, 177), (175, .lload 7, 177, 0), (177, .lreturn, 178, 0)])
theorem o_X3_measureOf_0 : ((m_X3_measureOf.2.2.2.2.drop (40 * 0)).take 40).all (zk_chk m_X3_measureOf.2.1) = true := by decide +kernel
theorem o_X3_measureOf_1 : ((m_X3_measureOf.2.2.2.2.drop (40 * 1)).take 40).all (zk_chk m_X3_measureOf.2.1) = true := by decide +kernel
theorem o_X3_measureOf_2 : ((m_X3_measureOf.2.2.2.2.drop (40 * 2)).take 40).all (zk_chk m_X3_measureOf.2.1) = true := by decide +kernel
theorem o_X3_measureOf : zk_ok m_X3_measureOf := zk_ok_ch 40 3 (fun i hi => by
  match i, hi with
  | 0, _ => exact o_X3_measureOf_0
  | 1, _ => exact o_X3_measureOf_1
  | 2, _ => exact o_X3_measureOf_2
  | i + 3, h => exact absurd h (by omega)) (by decide +kernel)
def m_X3_throughOne : zk_Mt := (⟨"NamedNext$Rows", "throughOne", "(IJII)J"⟩, prog_5_method_14_code, 6, some .long, [(0, .iload_n 1, 1, 0), (1, .tableswitch 120 1 8 #[47, 120, 49, 56, 63, 77, 91, 116], 48, 0), (48, .lload_n 2, 49, 0), (49, .lreturn, 50, 0), (50, .lload_n 2, 51, 0), (51, .lconst 1, 52, 0), (52, .iload 5, 54, 0), (54, .lshl, 55, 0), (55, .lor, 56, 0), (56, .lreturn, 57, 0), (57, .lload_n 2, 58, 0), (58, .lconst 1, 59, 0), (59, .iload 5, 61, 0), (61, .lshl, 62, 0), (62, .lor, 63, 0), (63, .lreturn, 64, 0), (64, .lload_n 2, 65, 0), (65, .aload_n 0, 66, 0), (66, .getfield 31, 69, 0), (69, .getfield 145, 72, 0), (72, .iload 5, 74, 0), (74, .iaload, 75, 0), (75, .i2l, 76, 0), (76, .ladd, 77, 0), (77, .lreturn, 78, 0), (78, .lload_n 2, 79, 0), (79, .aload_n 0, 80, 0), (80, .iload 4, 82, 0), (82, .invokevirtual 54, 85, 0), (85, .iconst 1, 86, 0), (86, .isub, 87, 0), (87, .invokestatic 58, 90, 0), (90, .ladd, 91, 0), (91, .lreturn, 92, 0), (92, .iload 5, 94, 0), (94, .aload_n 0, 95, 0), (95, .getfield 148, 98, 0), (98, .if_icmp .ne 17, 101, 115), (101, .aload_n 0, 102, 0), (102, .iload 4, 104, 0), (104, .invokevirtual 54, 107, 0), (107, .iconst 1, 108, 0), (108, .isub, 109, 0), (109, .invokestatic 58, 112, 0), (112, .goto 4, 115, 116), (115, .lload_n 2, 116, 0), (116, .lreturn, 117, 0), (117, .lconst 1, 118, 0), (118, .lload_n 2, 119, 0), (119, .lsub, 120, 0), (120, .lreturn, 121, 0), (121, .lload_n 2, 122, 0), (122, .lconst 1, 123, 0), (123, .ladd, 124, 0), (124, .lreturn, 125, 0)])
theorem o_X3_throughOne : zk_ok m_X3_throughOne := (by decide +kernel : m_X3_throughOne.2.2.2.2.all (zk_chk m_X3_throughOne.2.1) = true)
def m_X3_join : zk_Mt := (⟨"NamedNext$Rows", "join", "(IJJ)J"⟩, prog_5_method_15_code, 5, some .long, [(0, .iload_n 0, 1, 0), (1, .tableswitch 69 1 7 #[43, 55, 61, 65, 69, 47, 51], 44, 0), (44, .lload_n 1, 45, 0), (45, .lload_n 3, 46, 0), (46, .ladd, 47, 0), (47, .lreturn, 48, 0), (48, .lload_n 1, 49, 0), (49, .lload_n 3, 50, 0), (50, .ladd, 51, 0), (51, .lreturn, 52, 0), (52, .lload_n 1, 53, 0), (53, .lload_n 3, 54, 0), (54, .ladd, 55, 0), (55, .lreturn, 56, 0), (56, .lload_n 1, 57, 0), (57, .lload_n 3, 58, 0), (58, .invokestatic 151, 61, 0), (61, .lreturn, 62, 0), (62, .lload_n 1, 63, 0), (63, .lload_n 3, 64, 0), (64, .lor, 65, 0), (65, .lreturn, 66, 0), (66, .lload_n 1, 67, 0), (67, .lload_n 3, 68, 0), (68, .land, 69, 0), (69, .lreturn, 70, 0), (70, .lload_n 1, 71, 0), (71, .lload_n 3, 72, 0), (72, .invokestatic 157, 75, 0), (75, .lreturn, 76, 0)])
theorem o_X3_join : zk_ok m_X3_join := (by decide +kernel : m_X3_join.2.2.2.2.all (zk_chk m_X3_join.2.1) = true)
def m_X3_shareOfLot : zk_Mt := (⟨"NamedNext$Rows", "shareOfLot", "(II)J"⟩, prog_5_method_16_code, 5, some .long, [(0, .aload_n 0, 1, 0), (1, .iload_n 1, 2, 0), (2, .invokevirtual 54, 5, 0), (5, .iconst 1, 6, 0), (6, .isub, 7, 0), (7, .invokestatic 58, 10, 0), (10, .iload_n 2, 11, 0), (11, .i2l, 12, 0), (12, .lmul, 13, 0), (13, .lstore_n 3, 14, 0), (14, .lload_n 3, 15, 0), (15, .lconst 0, 16, 0), (16, .lcmp, 17, 0), (17, .ifCond .ne 7, 20, 24), (20, .lconst 0, 21, 0), (21, .goto 13, 24, 34), (24, .aload_n 0, 25, 0), (25, .iload_n 1, 26, 0), (26, .invokevirtual 54, 29, 0), (29, .invokestatic 58, 32, 0), (32, .lload_n 3, 33, 0), (33, .ldiv, 34, 0), (34, .lreturn, 35, 0)])
theorem o_X3_shareOfLot : zk_ok m_X3_shareOfLot := (by decide +kernel : m_X3_shareOfLot.2.2.2.2.all (zk_chk m_X3_shareOfLot.2.1) = true)
def m_X3_lotsOf : zk_Mt := (⟨"NamedNext$Rows", "lotsOf", "(I)J"⟩, prog_5_method_17_code, 1, some .long, [(0, .iload_n 0, 1, 0), (1, .ifCond .lt 19, 4, 20), (4, .iload_n 0, 5, 0), (5, .getstatic 160, 8, 0), (8, .arraylength, 9, 0), (9, .if_icmp .ge 11, 12, 20), (12, .getstatic 160, 15, 0), (15, .iload_n 0, 16, 0), (16, .laload, 17, 0), (17, .goto 4, 20, 21), (20, .lconst 1, 21, 0), (21, .lreturn, 22, 0)])
theorem o_X3_lotsOf : zk_ok m_X3_lotsOf := (by decide +kernel : m_X3_lotsOf.2.2.2.2.all (zk_chk m_X3_lotsOf.2.1) = true)
def m_X3_choicesOf : zk_Mt := (⟨"NamedNext$Rows", "choicesOf", "(II)I"⟩, prog_5_method_18_code, 3, some .int, [(0, .aload_n 0, 1, 0), (1, .getfield 9, 4, 0), (4, .iload_n 2, 5, 0), (5, .iaload, 6, 0), (6, .aload_n 0, 7, 0), (7, .getfield 18, 10, 0), (10, .iload_n 1, 11, 0), (11, .iaload, 12, 0), (12, .iand, 13, 0), (13, .ireturn, 14, 0)])
theorem o_X3_choicesOf : zk_ok m_X3_choicesOf := (by decide +kernel : m_X3_choicesOf.2.2.2.2.all (zk_chk m_X3_choicesOf.2.1) = true)
def m_X3_choicesOfLongest : zk_Mt := (⟨"NamedNext$Rows", "choicesOfLongest", "(II)I"⟩, prog_5_method_19_code, 7, some .int, [(0, .aload_n 0, 1, 0), (1, .iload_n 1, 2, 0), (2, .iload_n 2, 3, 0), (3, .invokevirtual 62, 6, 0), (6, .istore_n 3, 7, 0), (7, .aload_n 0, 8, 0), (8, .getfield 24, 11, 0), (11, .iload_n 1, 12, 0), (12, .iload_n 2, 13, 0), (13, .invokestatic 50, 16, 0), (16, .laload, 17, 0), (17, .lstore 4, 19, 0), (19, .iconst 0, 20, 0), (20, .istore 6, 22, 0), (22, .iload 6, 24, 0), (24, .aload_n 0, 25, 0), (25, .getfield 31, 28, 0), (28, .getfield 65, 31, 0), (31, .if_icmp .ge 46, 34, 77), (34, .iload_n 3, 35, 0), (35, .iload 6, 37, 0), (37, .invokestatic 70, 40, 0), (40, .ifCond .eq 31, 43, 71), (43, .aload_n 0, 44, 0), (44, .getfield 24, 47, 0), (47, .iload_n 1, 48, 0), (48, .iload 6, 50, 0), (50, .invokestatic 74, 53, 0), (53, .laload, 54, 0), (54, .lconst 1, 55, 0), (55, .ladd, 56, 0), (56, .lload 4, 58, 0), (58, .lcmp, 59, 0), (59, .ifCond .eq 12, 62, 71), (62, .iload_n 3, 63, 0), (63, .iconst 1, 64, 0), (64, .iload 6, 66, 0), (66, .ishl, 67, 0), (67, .iconst (-1), 68, 0), (68, .ixor, 69, 0), (69, .iand, 70, 0), (70, .istore_n 3, 71, 0), (71, .iinc 6 1, 74, 0), (74, .goto (-52), 77, 22), (77, .iload_n 3, 78, 0), (78, .ireturn, 79, 0)])
theorem o_X3_choicesOfLongest : zk_ok m_X3_choicesOfLongest := (by decide +kernel : m_X3_choicesOfLongest.2.2.2.2.all (zk_chk m_X3_choicesOfLongest.2.1) = true)
def m_X3_stateOf : zk_Mt := (⟨"NamedNext$Rows", "stateOf", "(II)I"⟩, prog_5_method_20_code, 2, some .int, [(0, .iload_n 0, 1, 0), (1, .bipush 8, 3, 0), (3, .imul, 4, 0), (4, .iload_n 1, 5, 0), (5, .iadd, 6, 0), (6, .ireturn, 7, 0)])
theorem o_X3_stateOf : zk_ok m_X3_stateOf := (by decide +kernel : m_X3_stateOf.2.2.2.2.all (zk_chk m_X3_stateOf.2.1) = true)
def m_X3_stateBehind : zk_Mt := (⟨"NamedNext$Rows", "stateBehind", "(II)I"⟩, prog_5_method_21_code, 2, some .int, [(0, .iload_n 0, 1, 0), (1, .iconst 1, 2, 0), (2, .iload_n 1, 3, 0), (3, .ishl, 4, 0), (4, .ior, 5, 0), (5, .iload_n 1, 6, 0), (6, .invokestatic 50, 9, 0), (9, .ireturn, 10, 0)])
theorem o_X3_stateBehind : zk_ok m_X3_stateBehind := (by decide +kernel : m_X3_stateBehind.2.2.2.2.all (zk_chk m_X3_stateBehind.2.1) = true)
def m_X3_everybody : zk_Mt := (⟨"NamedNext$Rows", "everybody", "()I"⟩, prog_5_method_22_code, 1, some .int, [(0, .iconst 1, 1, 0), (1, .aload_n 0, 2, 0), (2, .getfield 31, 5, 0), (5, .getfield 65, 8, 0), (8, .ishl, 9, 0), (9, .iconst 1, 10, 0), (10, .isub, 11, 0), (11, .ireturn, 12, 0)])
theorem o_X3_everybody : zk_ok m_X3_everybody := (by decide +kernel : m_X3_everybody.2.2.2.2.all (zk_chk m_X3_everybody.2.1) = true)
def m_X3_namingsTo : zk_Mt := (⟨"NamedNext$Rows", "namingsTo", "(I)I"⟩, prog_5_method_23_code, 2, some .int, [(0, .iload_n 1, 1, 0), (1, .invokestatic 136, 4, 0), (4, .aload_n 0, 5, 0), (5, .getfield 43, 8, 0), (8, .invokestatic 136, 11, 0), (11, .isub, 12, 0), (12, .ireturn, 13, 0)])
theorem o_X3_namingsTo : zk_ok m_X3_namingsTo := (by decide +kernel : m_X3_namingsTo.2.2.2.2.all (zk_chk m_X3_namingsTo.2.1) = true)
def m_X3_unread : zk_Mt := (⟨"NamedNext$Rows", "unread", "(I)I"⟩, prog_5_method_24_code, 2, some .int, [(0, .aload_n 0, 1, 0), (1, .getfield 31, 4, 0), (4, .getfield 65, 7, 0), (7, .iload_n 1, 8, 0), (8, .invokestatic 136, 11, 0), (11, .isub, 12, 0), (12, .ireturn, 13, 0)])
theorem o_X3_unread : zk_ok m_X3_unread := (by decide +kernel : m_X3_unread.2.2.2.2.all (zk_chk m_X3_unread.2.1) = true)
def m_X4_init : zk_Mt := (⟨"NamedNext$Slips", "<init>", "()V"⟩, prog_6_method_1_code, 1, none, [(0, .aload_n 0, 1, 0), (1, .invokespecial 3, 4, 0), (4, .aload_n 0, 5, 0), (5, .bipush 8, 7, 0), (7, .newarray .int, 9, 0), (9, .putfield 9, 12, 0), (12, .aload_n 0, 13, 0), (13, .bipush 8, 15, 0), (15, .newarray .int, 17, 0), (17, .putfield 15, 20, 0), (20, .aload_n 0, 21, 0), (21, .bipush 8, 23, 0), (23, .newarray .int, 25, 0), (25, .putfield 18, 28, 0), (28, .return_, 29, 0)])
theorem o_X4_init : zk_ok m_X4_init := (by decide +kernel : m_X4_init.2.2.2.2.all (zk_chk m_X4_init.2.1) = true)
def m_X4_add : zk_Mt := (⟨"NamedNext$Slips", "add", "(II)Z"⟩, prog_6_method_2_code, 3, some .boolean, [(0, .aload_n 0, 1, 0), (1, .getfield 21, 4, 0), (4, .bipush 8, 6, 0), (6, .if_icmp .lt 5, 9, 11), (9, .iconst 0, 10, 0), (10, .ireturn, 11, 0), (11, .aload_n 0, 12, 0), (12, .getfield 9, 15, 0), (15, .aload_n 0, 16, 0), (16, .getfield 21, 19, 0), (19, .iload_n 1, 20, 0), (20, .iastore, 21, 0), (21, .aload_n 0, 22, 0), (22, .getfield 15, 25, 0), (25, .aload_n 0, 26, 0), (26, .getfield 21, 29, 0), (29, .iload_n 2, 30, 0), (30, .iastore, 31, 0), (31, .aload_n 0, 32, 0), (32, .dup, 33, 0), (33, .getfield 21, 36, 0), (36, .iconst 1, 37, 0), (37, .iadd, 38, 0), (38, .putfield 21, 41, 0), (41, .iconst 1, 42, 0), (42, .ireturn, 43, 0)])
theorem o_X4_add : zk_ok m_X4_add := (by decide +kernel : m_X4_add.2.2.2.2.all (zk_chk m_X4_add.2.1) = true)
def m_X4_forgedSet : zk_Mt := (⟨"NamedNext$Slips", "forgedSet", "(LNamedNext$Told;)I"⟩, prog_6_method_3_code, 6, some .int, [(0, .aload_n 0, 1, 0), (1, .aload_n 1, 2, 0), (2, .invokevirtual 25, 5, 0), (5, .istore_n 2, 6, 0), (6, .iconst 1, 7, 0), (7, .aload_n 0, 8, 0), (8, .getfield 21, 11, 0), (11, .ishl, 12, 0), (12, .iconst 1, 13, 0), (13, .isub, 14, 0), (14, .istore_n 3, 15, 0), (15, .iconst 0, 16, 0), (16, .istore 4, 18, 0), (18, .iload 4, 20, 0), (20, .iconst 1, 21, 0), (21, .aload_n 0, 22, 0), (22, .getfield 21, 25, 0), (25, .ishl, 26, 0), (26, .if_icmp .ge 53, 29, 79), (29, .iload 4, 31, 0), (31, .invokestatic 29, 34, 0), (34, .iload_n 3, 35, 0), (35, .invokestatic 29, 38, 0), (38, .if_icmp .ge 7, 41, 45), (41, .iconst 1, 42, 0), (42, .goto 4, 45, 46), (45, .iconst 0, 46, 0), (46, .istore 5, 48, 0), (48, .iload 5, 50, 0), (50, .ifCond .eq 23, 53, 73), (53, .iload 4, 55, 0), (55, .iload_n 2, 56, 0), (56, .iand, 57, 0), (57, .iload_n 2, 58, 0), (58, .if_icmp .ne 15, 61, 73), (61, .aload_n 0, 62, 0), (62, .iload 4, 64, 0), (64, .invokevirtual 35, 67, 0), (67, .ifCond .eq 6, 70, 73), (70, .iload 4, 72, 0), (72, .istore_n 3, 73, 0), (73, .iinc 4 1, 76, 0), (76, .goto (-58), 79, 18), (79, .iload_n 3, 80, 0), (80, .ireturn, 81, 0)])
theorem o_X4_forgedSet : zk_ok m_X4_forgedSet := (by decide +kernel : m_X4_forgedSet.2.2.2.2.all (zk_chk m_X4_forgedSet.2.1) = true)
def m_X4_leastLastNamed : zk_Mt := (⟨"NamedNext$Slips", "leastLastNamed", "(I)I"⟩, prog_6_method_4_code, 5, some .int, [(0, .iconst 0, 1, 0), (1, .istore_n 2, 2, 0), (2, .iconst 0, 3, 0), (3, .istore_n 3, 4, 0), (4, .iconst 0, 5, 0), (5, .istore 4, 7, 0), (7, .iload 4, 9, 0), (9, .aload_n 0, 10, 0), (10, .getfield 21, 13, 0), (13, .if_icmp .ge 42, 16, 55), (16, .iload_n 1, 17, 0), (17, .iload 4, 19, 0), (19, .invokestatic 39, 22, 0), (22, .ifCond .ne 27, 25, 49), (25, .iload_n 2, 26, 0), (26, .iconst 1, 27, 0), (27, .aload_n 0, 28, 0), (28, .getfield 9, 31, 0), (31, .iload 4, 33, 0), (33, .iaload, 34, 0), (34, .ishl, 35, 0), (35, .ior, 36, 0), (36, .istore_n 2, 37, 0), (37, .iload_n 3, 38, 0), (38, .iconst 1, 39, 0), (39, .aload_n 0, 40, 0), (40, .getfield 15, 43, 0), (43, .iload 4, 45, 0), (45, .iaload, 46, 0), (46, .ishl, 47, 0), (47, .ior, 48, 0), (48, .istore_n 3, 49, 0), (49, .iinc 4 1, 52, 0), (52, .goto (-45), 55, 7), (55, .iload_n 3, 56, 0), (56, .iload_n 2, 57, 0), (57, .iconst (-1), 58, 0), (58, .ixor, 59, 0), (59, .iand, 60, 0), (60, .invokestatic 43, 63, 0), (63, .ireturn, 64, 0)])
theorem o_X4_leastLastNamed : zk_ok m_X4_leastLastNamed := (by decide +kernel : m_X4_leastLastNamed.2.2.2.2.all (zk_chk m_X4_leastLastNamed.2.1) = true)
def m_X4_forbidden : zk_Mt := (⟨"NamedNext$Slips", "forbidden", "(LNamedNext$Told;)I"⟩, prog_6_method_5_code, 4, some .int, [(0, .iconst 0, 1, 0), (1, .istore_n 2, 2, 0), (2, .iconst 0, 3, 0), (3, .istore_n 3, 4, 0), (4, .iload_n 3, 5, 0), (5, .aload_n 0, 6, 0), (6, .getfield 21, 9, 0), (9, .if_icmp .ge 38, 12, 47), (12, .aload_n 1, 13, 0), (13, .aload_n 0, 14, 0), (14, .getfield 9, 17, 0), (17, .iload_n 3, 18, 0), (18, .iaload, 19, 0), (19, .iconst 0, 20, 0), (20, .invokevirtual 46, 23, 0), (23, .aload_n 0, 24, 0), (24, .getfield 15, 27, 0), (27, .iload_n 3, 28, 0), (28, .iaload, 29, 0), (29, .invokestatic 39, 32, 0), (32, .ifCond .ne 9, 35, 41), (35, .iload_n 2, 36, 0), (36, .iconst 1, 37, 0), (37, .iload_n 3, 38, 0), (38, .ishl, 39, 0), (39, .ior, 40, 0), (40, .istore_n 2, 41, 0), (41, .iinc 3 1, 44, 0), (44, .goto (-40), 47, 4), (47, .iload_n 2, 48, 0), (48, .ireturn, 49, 0)])
theorem o_X4_forbidden : zk_ok m_X4_forbidden := (by decide +kernel : m_X4_forbidden.2.2.2.2.all (zk_chk m_X4_forbidden.2.1) = true)
def m_X4_fitWithout : zk_Mt := (⟨"NamedNext$Slips", "fitWithout", "(I)Z"⟩, prog_6_method_6_code, 4, some .boolean, [(0, .aload_n 0, 1, 0), (1, .getfield 18, 4, 0), (4, .iconst (-1), 5, 0), (5, .invokestatic 52, 8, 0), (8, .iconst 0, 9, 0), (9, .istore_n 2, 10, 0), (10, .iconst 0, 11, 0), (11, .istore_n 3, 12, 0), (12, .iload_n 3, 13, 0), (13, .aload_n 0, 14, 0), (14, .getfield 21, 17, 0), (17, .if_icmp .ge 78, 20, 95), (20, .iload_n 1, 21, 0), (21, .iload_n 3, 22, 0), (22, .invokestatic 39, 25, 0), (25, .ifCond .eq 6, 28, 31), (28, .goto 61, 31, 89), (31, .aload_n 0, 32, 0), (32, .getfield 18, 35, 0), (35, .aload_n 0, 36, 0), (36, .getfield 9, 39, 0), (39, .iload_n 3, 40, 0), (40, .iaload, 41, 0), (41, .iaload, 42, 0), (42, .iconst (-1), 43, 0), (43, .if_icmp .ne 16, 46, 59), (46, .iload_n 2, 47, 0), (47, .aload_n 0, 48, 0), (48, .getfield 15, 51, 0), (51, .iload_n 3, 52, 0), (52, .iaload, 53, 0), (53, .invokestatic 39, 56, 0), (56, .ifCond .eq 5, 59, 61), (59, .iconst 0, 60, 0), (60, .ireturn, 61, 0), (61, .aload_n 0, 62, 0), (62, .getfield 18, 65, 0), (65, .aload_n 0, 66, 0), (66, .getfield 9, 69, 0), (69, .iload_n 3, 70, 0), (70, .iaload, 71, 0), (71, .aload_n 0, 72, 0), (72, .getfield 15, 75, 0), (75, .iload_n 3, 76, 0), (76, .iaload, 77, 0), (77, .iastore, 78, 0), (78, .iload_n 2, 79, 0), (79, .iconst 1, 80, 0), (80, .aload_n 0, 81, 0), (81, .getfield 15, 84, 0), (84, .iload_n 3, 85, 0), (85, .iaload, 86, 0), (86, .ishl, 87, 0), (87, .ior, 88, 0), (88, .istore_n 2, 89, 0), (89, .iinc 3 1, 92, 0), (92, .goto (-80), 95, 12), (95, .aload_n 0, 96, 0), (96, .invokevirtual 58, 99, 0), (99, .ifCond .ne 7, 102, 106), (102, .iconst 1, 103, 0), (103, .goto 4, 106, 107), (106, .iconst 0, 107, 0), (107, .ireturn, 108, 0)])
theorem o_X4_fitWithout_0 : ((m_X4_fitWithout.2.2.2.2.drop (40 * 0)).take 40).all (zk_chk m_X4_fitWithout.2.1) = true := by decide +kernel
theorem o_X4_fitWithout_1 : ((m_X4_fitWithout.2.2.2.2.drop (40 * 1)).take 40).all (zk_chk m_X4_fitWithout.2.1) = true := by decide +kernel
theorem o_X4_fitWithout : zk_ok m_X4_fitWithout := zk_ok_ch 40 2 (fun i hi => by
  match i, hi with
  | 0, _ => exact o_X4_fitWithout_0
  | 1, _ => exact o_X4_fitWithout_1
  | i + 2, h => exact absurd h (by omega)) (by decide +kernel)
def m_X4_hasRing : zk_Mt := (⟨"NamedNext$Slips", "hasRing", "()Z"⟩, prog_6_method_7_code, 4, some .boolean, [(0, .iconst 0, 1, 0), (1, .istore_n 1, 2, 0), (2, .iload_n 1, 3, 0), (3, .bipush 8, 5, 0), (5, .if_icmp .ge 44, 8, 49), (8, .iload_n 1, 9, 0), (9, .istore_n 2, 10, 0), (10, .iconst 0, 11, 0), (11, .istore_n 3, 12, 0), (12, .iload_n 3, 13, 0), (13, .bipush 8, 15, 0), (15, .if_icmp .ge 21, 18, 36), (18, .iload_n 2, 19, 0), (19, .iconst (-1), 20, 0), (20, .if_icmp .eq 16, 23, 36), (23, .aload_n 0, 24, 0), (24, .getfield 18, 27, 0), (27, .iload_n 2, 28, 0), (28, .iaload, 29, 0), (29, .istore_n 2, 30, 0), (30, .iinc 3 1, 33, 0), (33, .goto (-21), 36, 12), (36, .iload_n 2, 37, 0), (37, .iconst (-1), 38, 0), (38, .if_icmp .eq 5, 41, 43), (41, .iconst 1, 42, 0), (42, .ireturn, 43, 0), (43, .iinc 1 1, 46, 0), (46, .goto (-44), 49, 2), (49, .iconst 0, 50, 0), (50, .ireturn, 51, 0)])
theorem o_X4_hasRing : zk_ok m_X4_hasRing := (by decide +kernel : m_X4_hasRing.2.2.2.2.all (zk_chk m_X4_hasRing.2.1) = true)
def m_X5_init : zk_Mt := (⟨"NamedNext$Text", "<init>", "()V"⟩, prog_7_method_1_code, 1, none, [(0, .aload_n 0, 1, 0), (1, .invokespecial 3, 4, 0), (4, .aload_n 0, 5, 0), (5, .sipush 160, 8, 0), (8, .newarray .char, 10, 0), (10, .putfield 9, 13, 0), (13, .return_, 14, 0)])
theorem o_X5_init : zk_ok m_X5_init := (by decide +kernel : m_X5_init.2.2.2.2.all (zk_chk m_X5_init.2.1) = true)
def m_X5_append : zk_Mt := (⟨"NamedNext$Text", "append", "(C)Z"⟩, prog_7_method_2_code, 2, some .boolean, [(0, .aload_n 0, 1, 0), (1, .getfield 15, 4, 0), (4, .sipush 160, 7, 0), (7, .if_icmp .lt 5, 10, 12), (10, .iconst 0, 11, 0), (11, .ireturn, 12, 0), (12, .aload_n 0, 13, 0), (13, .getfield 9, 16, 0), (16, .aload_n 0, 17, 0), (17, .getfield 15, 20, 0), (20, .iload_n 1, 21, 0), (21, .castore, 22, 0), (22, .aload_n 0, 23, 0), (23, .dup, 24, 0), (24, .getfield 15, 27, 0), (27, .iconst 1, 28, 0), (28, .iadd, 29, 0), (29, .putfield 15, 32, 0), (32, .iconst 1, 33, 0), (33, .ireturn, 34, 0)])
theorem o_X5_append : zk_ok m_X5_append := (by decide +kernel : m_X5_append.2.2.2.2.all (zk_chk m_X5_append.2.1) = true)
def m_X5_empty : zk_Mt := (⟨"NamedNext$Text", "empty", "()V"⟩, prog_7_method_3_code, 1, none, [(0, .aload_n 0, 1, 0), (1, .iconst 0, 2, 0), (2, .putfield 15, 5, 0), (5, .return_, 6, 0)])
theorem o_X5_empty : zk_ok m_X5_empty := (by decide +kernel : m_X5_empty.2.2.2.2.all (zk_chk m_X5_empty.2.1) = true)
def m_X5_goToFirstToken : zk_Mt := (⟨"NamedNext$Text", "goToFirstToken", "()V"⟩, prog_7_method_4_code, 1, none, [(0, .aload_n 0, 1, 0), (1, .iconst 0, 2, 0), (2, .putfield 19, 5, 0), (5, .aload_n 0, 6, 0), (6, .invokevirtual 22, 9, 0), (9, .return_, 10, 0)])
theorem o_X5_goToFirstToken : zk_ok m_X5_goToFirstToken := (by decide +kernel : m_X5_goToFirstToken.2.2.2.2.all (zk_chk m_X5_goToFirstToken.2.1) = true)
def m_X5_goToNextToken : zk_Mt := (⟨"NamedNext$Text", "goToNextToken", "()V"⟩, prog_7_method_5_code, 2, none, [(0, .aload_n 0, 1, 0), (1, .aload_n 0, 2, 0), (2, .getfield 19, 5, 0), (5, .putfield 25, 8, 0), (8, .aload_n 0, 9, 0), (9, .getfield 25, 12, 0), (12, .aload_n 0, 13, 0), (13, .getfield 15, 16, 0), (16, .if_icmp .ge 30, 19, 46), (19, .aload_n 0, 20, 0), (20, .getfield 9, 23, 0), (23, .aload_n 0, 24, 0), (24, .getfield 25, 27, 0), (27, .caload, 28, 0), (28, .bipush 32, 30, 0), (30, .if_icmp .ne 16, 33, 46), (33, .aload_n 0, 34, 0), (34, .dup, 35, 0), (35, .getfield 25, 38, 0), (38, .iconst 1, 39, 0), (39, .iadd, 40, 0), (40, .putfield 25, 43, 0), (43, .goto (-35), 46, 8), (46, .aload_n 0, 47, 0), (47, .aload_n 0, 48, 0), (48, .getfield 25, 51, 0), (51, .putfield 19, 54, 0), (54, .aload_n 0, 55, 0), (55, .getfield 25, 58, 0), (58, .aload_n 0, 59, 0), (59, .getfield 15, 62, 0), (62, .if_icmp .lt 4, 65, 66), (65, .return_, 66, 0), (66, .aload_n 0, 67, 0), (67, .dup, 68, 0), (68, .getfield 19, 71, 0), (71, .iconst 1, 72, 0), (72, .iadd, 73, 0), (73, .putfield 19, 76, 0), (76, .aload_n 0, 77, 0), (77, .getfield 9, 80, 0), (80, .aload_n 0, 81, 0), (81, .getfield 25, 84, 0), (84, .caload, 85, 0), (85, .invokestatic 28, 88, 0), (88, .istore_n 1, 89, 0), (89, .iload_n 1, 90, 0), (90, .ifCond .eq 43, 93, 133), (93, .aload_n 0, 94, 0), (94, .getfield 19, 97, 0), (97, .aload_n 0, 98, 0), (98, .getfield 15, 101, 0), (101, .if_icmp .ge 32, 104, 133), (104, .aload_n 0, 105, 0), (105, .getfield 9, 108, 0), (108, .aload_n 0, 109, 0), (109, .getfield 19, 112, 0), (112, .caload, 113, 0), (113, .invokestatic 28, 116, 0), (116, .iload_n 1, 117, 0), (117, .if_icmp .ne 16, 120, 133), (120, .aload_n 0, 121, 0), (121, .dup, 122, 0), (122, .getfield 19, 125, 0), (125, .iconst 1, 126, 0), (126, .iadd, 127, 0), (127, .putfield 19, 130, 0), (130, .goto (-41), 133, 89), (133, .return_, 134, 0)])
theorem o_X5_goToNextToken_0 : ((m_X5_goToNextToken.2.2.2.2.drop (40 * 0)).take 40).all (zk_chk m_X5_goToNextToken.2.1) = true := by decide +kernel
theorem o_X5_goToNextToken_1 : ((m_X5_goToNextToken.2.2.2.2.drop (40 * 1)).take 40).all (zk_chk m_X5_goToNextToken.2.1) = true := by decide +kernel
theorem o_X5_goToNextToken : zk_ok m_X5_goToNextToken := zk_ok_ch 40 2 (fun i hi => by
  match i, hi with
  | 0, _ => exact o_X5_goToNextToken_0
  | 1, _ => exact o_X5_goToNextToken_1
  | i + 2, h => exact absurd h (by omega)) (by decide +kernel)
def m_X5_isAtEnd : zk_Mt := (⟨"NamedNext$Text", "isAtEnd", "()Z"⟩, prog_7_method_6_code, 1, some .boolean, [(0, .aload_n 0, 1, 0), (1, .getfield 25, 4, 0), (4, .aload_n 0, 5, 0), (5, .getfield 15, 8, 0), (8, .if_icmp .lt 7, 11, 15), (11, .iconst 1, 12, 0), (12, .goto 4, 15, 16), (15, .iconst 0, 16, 0), (16, .ireturn, 17, 0)])
theorem o_X5_isAtEnd : zk_ok m_X5_isAtEnd := (by decide +kernel : m_X5_isAtEnd.2.2.2.2.all (zk_chk m_X5_isAtEnd.2.1) = true)
def m_X5_tokenIs : zk_Mt := (⟨"NamedNext$Text", "tokenIs", "(Ljava/lang/String;)Z"⟩, prog_7_method_7_code, 3, some .boolean, [(0, .aload_n 0, 1, 0), (1, .getfield 19, 4, 0), (4, .aload_n 0, 5, 0), (5, .getfield 25, 8, 0), (8, .isub, 9, 0), (9, .aload_n 1, 10, 0), (10, .invokevirtual 32, 13, 0), (13, .if_icmp .eq 5, 16, 18), (16, .iconst 0, 17, 0), (17, .ireturn, 18, 0), (18, .iconst 0, 19, 0), (19, .istore_n 2, 20, 0), (20, .iload_n 2, 21, 0), (21, .aload_n 1, 22, 0), (22, .invokevirtual 32, 25, 0), (25, .if_icmp .ge 30, 28, 55), (28, .aload_n 0, 29, 0), (29, .getfield 9, 32, 0), (32, .aload_n 0, 33, 0), (33, .getfield 25, 36, 0), (36, .iload_n 2, 37, 0), (37, .iadd, 38, 0), (38, .caload, 39, 0), (39, .aload_n 1, 40, 0), (40, .iload_n 2, 41, 0), (41, .invokevirtual 37, 44, 0), (44, .if_icmp .eq 5, 47, 49), (47, .iconst 0, 48, 0), (48, .ireturn, 49, 0), (49, .iinc 2 1, 52, 0), (52, .goto (-32), 55, 20), (55, .iconst 1, 56, 0), (56, .ireturn, 57, 0)])
theorem o_X5_tokenIs : zk_ok m_X5_tokenIs := (by decide +kernel : m_X5_tokenIs.2.2.2.2.all (zk_chk m_X5_tokenIs.2.1) = true)
def m_X5_number : zk_Mt := (⟨"NamedNext$Text", "number", "()I"⟩, prog_7_method_8_code, 4, some .int, [(0, .aload_n 0, 1, 0), (1, .getfield 19, 4, 0), (4, .aload_n 0, 5, 0), (5, .getfield 25, 8, 0), (8, .isub, 9, 0), (9, .istore_n 1, 10, 0), (10, .iload_n 1, 11, 0), (11, .iconst 1, 12, 0), (12, .if_icmp .lt 24, 15, 36), (15, .iload_n 1, 16, 0), (16, .iconst 2, 17, 0), (17, .if_icmp .gt 19, 20, 36), (20, .aload_n 0, 21, 0), (21, .getfield 9, 24, 0), (24, .aload_n 0, 25, 0), (25, .getfield 25, 28, 0), (28, .caload, 29, 0), (29, .invokestatic 28, 32, 0), (32, .iconst 2, 33, 0), (33, .if_icmp .eq 5, 36, 38), (36, .iconst (-1), 37, 0), (37, .ireturn, 38, 0), (38, .iconst 0, 39, 0), (39, .istore_n 2, 40, 0), (40, .aload_n 0, 41, 0), (41, .getfield 25, 44, 0), (44, .istore_n 3, 45, 0), (45, .iload_n 3, 46, 0), (46, .aload_n 0, 47, 0), (47, .getfield 19, 50, 0), (50, .if_icmp .ge 24, 53, 74), (53, .iload_n 2, 54, 0), (54, .bipush 10, 56, 0), (56, .imul, 57, 0), (57, .aload_n 0, 58, 0), (58, .getfield 9, 61, 0), (61, .iload_n 3, 62, 0), (62, .caload, 63, 0), (63, .bipush 48, 65, 0), (65, .isub, 66, 0), (66, .iadd, 67, 0), (67, .istore_n 2, 68, 0), (68, .iinc 3 1, 71, 0), (71, .goto (-26), 74, 45), (74, .iload_n 2, 75, 0), (75, .ireturn, 76, 0)])
theorem o_X5_number : zk_ok m_X5_number := (by decide +kernel : m_X5_number.2.2.2.2.all (zk_chk m_X5_number.2.1) = true)
def m_X5_sortOf : zk_Mt := (⟨"NamedNext$Text", "sortOf", "(C)I"⟩, prog_7_method_9_code, 1, some .int, [(0, .iload_n 0, 1, 0), (1, .bipush 97, 3, 0), (3, .if_icmp .lt 11, 6, 14), (6, .iload_n 0, 7, 0), (7, .bipush 122, 9, 0), (9, .if_icmp .gt 5, 12, 14), (12, .iconst 1, 13, 0), (13, .ireturn, 14, 0), (14, .iload_n 0, 15, 0), (15, .bipush 48, 17, 0), (17, .if_icmp .lt 13, 20, 30), (20, .iload_n 0, 21, 0), (21, .bipush 57, 23, 0), (23, .if_icmp .gt 7, 26, 30), (26, .iconst 2, 27, 0), (27, .goto 4, 30, 31), (30, .iconst 0, 31, 0), (31, .ireturn, 32, 0)])
theorem o_X5_sortOf : zk_ok m_X5_sortOf := (by decide +kernel : m_X5_sortOf.2.2.2.2.all (zk_chk m_X5_sortOf.2.1) = true)
def m_X6_init : zk_Mt := (⟨"NamedNext$Told", "<init>", "()V"⟩, prog_8_method_1_code, 1, none, [(0, .aload_n 0, 1, 0), (1, .invokespecial 3, 4, 0), (4, .aload_n 0, 5, 0), (5, .bipush 8, 7, 0), (7, .newarray .int, 9, 0), (9, .putfield 9, 12, 0), (12, .aload_n 0, 13, 0), (13, .bipush 8, 15, 0), (15, .newarray .int, 17, 0), (17, .putfield 15, 20, 0), (20, .aload_n 0, 21, 0), (21, .bipush 8, 23, 0), (23, .newarray .int, 25, 0), (25, .putfield 18, 28, 0), (28, .aload_n 0, 29, 0), (29, .bipush 8, 31, 0), (31, .newarray .int, 33, 0), (33, .putfield 21, 36, 0), (36, .aload_n 0, 37, 0), (37, .iconst 4, 38, 0), (38, .newarray .int, 40, 0), (40, .putfield 24, 43, 0), (43, .return_, 44, 0)])
theorem o_X6_init : zk_ok m_X6_init := (by decide +kernel : m_X6_init.2.2.2.2.all (zk_chk m_X6_init.2.1) = true)
def m_X6_hasReader : zk_Mt := (⟨"NamedNext$Told", "hasReader", "(I)Z"⟩, prog_8_method_2_code, 2, some .boolean, [(0, .iload_n 1, 1, 0), (1, .ifCond .lt 15, 4, 16), (4, .iload_n 1, 5, 0), (5, .aload_n 0, 6, 0), (6, .getfield 27, 9, 0), (9, .if_icmp .ge 7, 12, 16), (12, .iconst 1, 13, 0), (13, .goto 4, 16, 17), (16, .iconst 0, 17, 0), (17, .ireturn, 18, 0)])
theorem o_X6_hasReader : zk_ok m_X6_hasReader := (by decide +kernel : m_X6_hasReader.2.2.2.2.all (zk_chk m_X6_hasReader.2.1) = true)
def m_X6_hasBook : zk_Mt := (⟨"NamedNext$Told", "hasBook", "(I)Z"⟩, prog_8_method_3_code, 2, some .boolean, [(0, .iload_n 1, 1, 0), (1, .ifCond .lt 15, 4, 16), (4, .iload_n 1, 5, 0), (5, .aload_n 0, 6, 0), (6, .getfield 31, 9, 0), (9, .if_icmp .ge 7, 12, 16), (12, .iconst 1, 13, 0), (13, .goto 4, 16, 17), (16, .iconst 0, 17, 0), (17, .ireturn, 18, 0)])
theorem o_X6_hasBook : zk_ok m_X6_hasBook := (by decide +kernel : m_X6_hasBook.2.2.2.2.all (zk_chk m_X6_hasBook.2.1) = true)
def m_X6_copyFrom : zk_Mt := (⟨"NamedNext$Told", "copyFrom", "(LNamedNext$Told;)V"⟩, prog_8_method_4_code, 2, none, [(0, .aload_n 0, 1, 0), (1, .aload_n 1, 2, 0), (2, .getfield 27, 5, 0), (5, .putfield 27, 8, 0), (8, .aload_n 0, 9, 0), (9, .aload_n 1, 10, 0), (10, .getfield 31, 13, 0), (13, .putfield 31, 16, 0), (16, .aload_n 1, 17, 0), (17, .getfield 9, 20, 0), (20, .iconst 0, 21, 0), (21, .aload_n 0, 22, 0), (22, .getfield 9, 25, 0), (25, .iconst 0, 26, 0), (26, .bipush 8, 28, 0), (28, .invokestatic 34, 31, 0), (31, .aload_n 1, 32, 0), (32, .getfield 15, 35, 0), (35, .iconst 0, 36, 0), (36, .aload_n 0, 37, 0), (37, .getfield 15, 40, 0), (40, .iconst 0, 41, 0), (41, .bipush 8, 43, 0), (43, .invokestatic 34, 46, 0), (46, .aload_n 1, 47, 0), (47, .getfield 18, 50, 0), (50, .iconst 0, 51, 0), (51, .aload_n 0, 52, 0), (52, .getfield 18, 55, 0), (55, .iconst 0, 56, 0), (56, .bipush 8, 58, 0), (58, .invokestatic 34, 61, 0), (61, .aload_n 1, 62, 0), (62, .getfield 21, 65, 0), (65, .iconst 0, 66, 0), (66, .aload_n 0, 67, 0), (67, .getfield 21, 70, 0), (70, .iconst 0, 71, 0), (71, .bipush 8, 73, 0), (73, .invokestatic 34, 76, 0), (76, .aload_n 1, 77, 0), (77, .getfield 24, 80, 0), (80, .iconst 0, 81, 0), (81, .aload_n 0, 82, 0), (82, .getfield 24, 85, 0), (85, .iconst 0, 86, 0), (86, .iconst 4, 87, 0), (87, .invokestatic 34, 90, 0), (90, .return_, 91, 0)])
theorem o_X6_copyFrom : zk_ok m_X6_copyFrom := (by decide +kernel : m_X6_copyFrom.2.2.2.2.all (zk_chk m_X6_copyFrom.2.1) = true)
def m_X6_clear : zk_Mt := (⟨"NamedNext$Told", "clear", "()V"⟩, prog_8_method_5_code, 1, none, [(0, .aload_n 0, 1, 0), (1, .iconst 0, 2, 0), (2, .putfield 27, 5, 0), (5, .aload_n 0, 6, 0), (6, .iconst 0, 7, 0), (7, .putfield 31, 10, 0), (10, .return_, 11, 0)])
theorem o_X6_clear : zk_ok m_X6_clear := (by decide +kernel : m_X6_clear.2.2.2.2.all (zk_chk m_X6_clear.2.1) = true)
def m_X6_makePeace : zk_Mt := (⟨"NamedNext$Told", "makePeace", "()V"⟩, prog_8_method_6_code, 1, none, [(0, .aload_n 0, 1, 0), (1, .getfield 18, 4, 0), (4, .iconst 0, 5, 0), (5, .invokestatic 40, 8, 0), (8, .return_, 9, 0)])
theorem o_X6_makePeace : zk_ok m_X6_makePeace := (by decide +kernel : m_X6_makePeace.2.2.2.2.all (zk_chk m_X6_makePeace.2.1) = true)
def m_X6_addReader : zk_Mt := (⟨"NamedNext$Told", "addReader", "(II)V"⟩, prog_8_method_7_code, 3, none, [(0, .aload_n 0, 1, 0), (1, .getfield 9, 4, 0), (4, .aload_n 0, 5, 0), (5, .getfield 27, 8, 0), (8, .iload_n 1, 9, 0), (9, .iastore, 10, 0), (10, .aload_n 0, 11, 0), (11, .getfield 15, 14, 0), (14, .aload_n 0, 15, 0), (15, .getfield 27, 18, 0), (18, .iload_n 2, 19, 0), (19, .iastore, 20, 0), (20, .aload_n 0, 21, 0), (21, .getfield 18, 24, 0), (24, .aload_n 0, 25, 0), (25, .getfield 27, 28, 0), (28, .iconst 0, 29, 0), (29, .iastore, 30, 0), (30, .aload_n 0, 31, 0), (31, .getfield 21, 34, 0), (34, .aload_n 0, 35, 0), (35, .getfield 27, 38, 0), (38, .bipush 99, 40, 0), (40, .iastore, 41, 0), (41, .aload_n 0, 42, 0), (42, .dup, 43, 0), (43, .getfield 27, 46, 0), (46, .iconst 1, 47, 0), (47, .iadd, 48, 0), (48, .putfield 27, 51, 0), (51, .return_, 52, 0)])
theorem o_X6_addReader : zk_ok m_X6_addReader := (by decide +kernel : m_X6_addReader.2.2.2.2.all (zk_chk m_X6_addReader.2.1) = true)
def m_X6_addBook : zk_Mt := (⟨"NamedNext$Told", "addBook", "(I)V"⟩, prog_8_method_8_code, 2, none, [(0, .aload_n 0, 1, 0), (1, .getfield 24, 4, 0), (4, .aload_n 0, 5, 0), (5, .getfield 31, 8, 0), (8, .iload_n 1, 9, 0), (9, .iastore, 10, 0), (10, .aload_n 0, 11, 0), (11, .dup, 12, 0), (12, .getfield 31, 15, 0), (15, .iconst 1, 16, 0), (16, .iadd, 17, 0), (17, .putfield 31, 20, 0), (20, .return_, 21, 0)])
theorem o_X6_addBook : zk_ok m_X6_addBook := (by decide +kernel : m_X6_addBook.2.2.2.2.all (zk_chk m_X6_addBook.2.1) = true)
def m_X6_addFeud : zk_Mt := (⟨"NamedNext$Told", "addFeud", "(II)V"⟩, prog_8_method_9_code, 3, none, [(0, .aload_n 0, 1, 0), (1, .getfield 18, 4, 0), (4, .iload_n 1, 5, 0), (5, .dup2, 6, 0), (6, .iaload, 7, 0), (7, .iconst 1, 8, 0), (8, .iload_n 2, 9, 0), (9, .ishl, 10, 0), (10, .ior, 11, 0), (11, .iastore, 12, 0), (12, .aload_n 0, 13, 0), (13, .getfield 18, 16, 0), (16, .iload_n 2, 17, 0), (17, .dup2, 18, 0), (18, .iaload, 19, 0), (19, .iconst 1, 20, 0), (20, .iload_n 1, 21, 0), (21, .ishl, 22, 0), (22, .ior, 23, 0), (23, .iastore, 24, 0), (24, .return_, 25, 0)])
theorem o_X6_addFeud : zk_ok m_X6_addFeud := (by decide +kernel : m_X6_addFeud.2.2.2.2.all (zk_chk m_X6_addFeud.2.1) = true)
def m_X6_feudPairs : zk_Mt := (⟨"NamedNext$Told", "feudPairs", "()I"⟩, prog_8_method_10_code, 3, some .int, [(0, .iconst 0, 1, 0), (1, .istore_n 1, 2, 0), (2, .iconst 0, 3, 0), (3, .istore_n 2, 4, 0), (4, .iload_n 2, 5, 0), (5, .aload_n 0, 6, 0), (6, .getfield 27, 9, 0), (9, .if_icmp .ge 21, 12, 30), (12, .iload_n 1, 13, 0), (13, .aload_n 0, 14, 0), (14, .getfield 18, 17, 0), (17, .iload_n 2, 18, 0), (18, .iaload, 19, 0), (19, .invokestatic 46, 22, 0), (22, .iadd, 23, 0), (23, .istore_n 1, 24, 0), (24, .iinc 2 1, 27, 0), (27, .goto (-23), 30, 4), (30, .iload_n 1, 31, 0), (31, .iconst 2, 32, 0), (32, .idiv, 33, 0), (33, .ireturn, 34, 0)])
theorem o_X6_feudPairs : zk_ok m_X6_feudPairs := (by decide +kernel : m_X6_feudPairs.2.2.2.2.all (zk_chk m_X6_feudPairs.2.1) = true)
def m_X6_namable : zk_Mt := (⟨"NamedNext$Told", "namable", "(II)I"⟩, prog_8_method_11_code, 3, some .int, [(0, .aload_n 0, 1, 0), (1, .iload_n 1, 2, 0), (2, .invokevirtual 52, 5, 0), (5, .aload_n 0, 6, 0), (6, .iload_n 2, 7, 0), (7, .invokevirtual 55, 10, 0), (10, .iand, 11, 0), (11, .ireturn, 12, 0)])
theorem o_X6_namable : zk_ok m_X6_namable := (by decide +kernel : m_X6_namable.2.2.2.2.all (zk_chk m_X6_namable.2.1) = true)
def m_X6_liked : zk_Mt := (⟨"NamedNext$Told", "liked", "(I)I"⟩, prog_8_method_12_code, 4, some .int, [(0, .iconst 0, 1, 0), (1, .istore_n 2, 2, 0), (2, .iconst 0, 3, 0), (3, .istore_n 3, 4, 0), (4, .iload_n 3, 5, 0), (5, .aload_n 0, 6, 0), (6, .getfield 27, 9, 0), (9, .if_icmp .ge 29, 12, 38), (12, .iload_n 3, 13, 0), (13, .iload_n 1, 14, 0), (14, .if_icmp .eq 18, 17, 32), (17, .aload_n 0, 18, 0), (18, .iload_n 1, 19, 0), (19, .iload_n 3, 20, 0), (20, .invokevirtual 58, 23, 0), (23, .ifCond .eq 9, 26, 32), (26, .iload_n 2, 27, 0), (27, .iconst 1, 28, 0), (28, .iload_n 3, 29, 0), (29, .ishl, 30, 0), (30, .ior, 31, 0), (31, .istore_n 2, 32, 0), (32, .iinc 3 1, 35, 0), (35, .goto (-31), 38, 4), (38, .iload_n 2, 39, 0), (39, .ireturn, 40, 0)])
theorem o_X6_liked : zk_ok m_X6_liked := (by decide +kernel : m_X6_liked.2.2.2.2.all (zk_chk m_X6_liked.2.1) = true)
def m_X6_stillHere : zk_Mt := (⟨"NamedNext$Told", "stillHere", "(I)I"⟩, prog_8_method_13_code, 4, some .int, [(0, .iconst 0, 1, 0), (1, .istore_n 2, 2, 0), (2, .iconst 0, 3, 0), (3, .istore_n 3, 4, 0), (4, .iload_n 3, 5, 0), (5, .aload_n 0, 6, 0), (6, .getfield 27, 9, 0), (9, .if_icmp .ge 36, 12, 45), (12, .aload_n 0, 13, 0), (13, .getfield 21, 16, 0), (16, .iload_n 3, 17, 0), (17, .iaload, 18, 0), (18, .bipush 99, 20, 0), (20, .if_icmp .eq 13, 23, 33), (23, .aload_n 0, 24, 0), (24, .getfield 21, 27, 0), (27, .iload_n 3, 28, 0), (28, .iaload, 29, 0), (29, .iload_n 1, 30, 0), (30, .if_icmp .le 9, 33, 39), (33, .iload_n 2, 34, 0), (34, .iconst 1, 35, 0), (35, .iload_n 3, 36, 0), (36, .ishl, 37, 0), (37, .ior, 38, 0), (38, .istore_n 2, 39, 0), (39, .iinc 3 1, 42, 0), (42, .goto (-38), 45, 4), (45, .iload_n 2, 46, 0), (46, .ireturn, 47, 0)])
theorem o_X6_stillHere : zk_ok m_X6_stillHere := (by decide +kernel : m_X6_stillHere.2.2.2.2.all (zk_chk m_X6_stillHere.2.1) = true)
def m_X6_likes : zk_Mt := (⟨"NamedNext$Told", "likes", "(II)Z"⟩, prog_8_method_14_code, 4, some .boolean, [(0, .aload_n 0, 1, 0), (1, .getfield 9, 4, 0), (4, .iload_n 1, 5, 0), (5, .iaload, 6, 0), (6, .istore_n 3, 7, 0), (7, .iload_n 3, 8, 0), (8, .iconst 2, 9, 0), (9, .if_icmp .ne 5, 12, 14), (12, .iconst 1, 13, 0), (13, .ireturn, 14, 0), (14, .aload_n 0, 15, 0), (15, .getfield 18, 18, 0), (18, .iload_n 1, 19, 0), (19, .iaload, 20, 0), (20, .iload_n 2, 21, 0), (21, .invokestatic 62, 24, 0), (24, .ifCond .eq 5, 27, 29), (27, .iconst 0, 28, 0), (28, .ireturn, 29, 0), (29, .iload_n 3, 30, 0), (30, .iconst 1, 31, 0), (31, .if_icmp .ne 24, 34, 55), (34, .aload_n 0, 35, 0), (35, .getfield 15, 38, 0), (38, .iload_n 2, 39, 0), (39, .iaload, 40, 0), (40, .aload_n 0, 41, 0), (41, .getfield 15, 44, 0), (44, .iload_n 1, 45, 0), (45, .iaload, 46, 0), (46, .if_icmp .lt 7, 49, 53), (49, .iconst 1, 50, 0), (50, .goto 4, 53, 54), (53, .iconst 0, 54, 0), (54, .ireturn, 55, 0), (55, .iload_n 3, 56, 0), (56, .iconst 3, 57, 0), (57, .if_icmp .ne 18, 60, 75), (60, .aload_n 0, 61, 0), (61, .getfield 15, 64, 0), (64, .iload_n 2, 65, 0), (65, .iaload, 66, 0), (66, .aload_n 0, 67, 0), (67, .getfield 15, 70, 0), (70, .iload_n 1, 71, 0), (71, .iaload, 72, 0), (72, .if_icmp .gt 7, 75, 79), (75, .iconst 1, 76, 0), (76, .goto 4, 79, 80), (79, .iconst 0, 80, 0), (80, .ireturn, 81, 0)])
theorem o_X6_likes : zk_ok m_X6_likes := (by decide +kernel : m_X6_likes.2.2.2.2.all (zk_chk m_X6_likes.2.1) = true)
def m_J6_bitCount_0f7a4 : zk_Mt := (⟨"java/lang/Integer", "bitCount", "(I)I"⟩, prog_11_method_49_code, 1, some .int, [(0, .iload_n 0, 1, 0), (1, .iload_n 0, 2, 0), (2, .iconst 1, 3, 0), (3, .iushr, 4, 0), (4, .ldc_w 265, 7, 0), (7, .iand, 8, 0), (8, .isub, 9, 0), (9, .istore_n 0, 10, 0), (10, .iload_n 0, 11, 0), (11, .ldc_w 266, 14, 0), (14, .iand, 15, 0), (15, .iload_n 0, 16, 0), (16, .iconst 2, 17, 0), (17, .iushr, 18, 0), (18, .ldc_w 266, 21, 0), (21, .iand, 22, 0), (22, .iadd, 23, 0), (23, .istore_n 0, 24, 0), (24, .iload_n 0, 25, 0), (25, .iload_n 0, 26, 0), (26, .iconst 4, 27, 0), (27, .iushr, 28, 0), (28, .iadd, 29, 0), (29, .ldc_w 267, 32, 0), (32, .iand, 33, 0), (33, .istore_n 0, 34, 0), (34, .iload_n 0, 35, 0), (35, .iload_n 0, 36, 0), (36, .bipush 8, 38, 0), (38, .iushr, 39, 0), (39, .iadd, 40, 0), (40, .istore_n 0, 41, 0), (41, .iload_n 0, 42, 0), (42, .iload_n 0, 43, 0), (43, .bipush 16, 45, 0), (45, .iushr, 46, 0), (46, .iadd, 47, 0), (47, .istore_n 0, 48, 0), (48, .iload_n 0, 49, 0), (49, .bipush 63, 51, 0), (51, .iand, 52, 0), (52, .ireturn, 53, 0)])
theorem o_J6_bitCount_0f7a4 : zk_ok m_J6_bitCount_0f7a4 := (by decide +kernel : m_J6_bitCount_0f7a4.2.2.2.2.all (zk_chk m_J6_bitCount_0f7a4.2.1) = true)
def m_J9_max_f86c9 : zk_Mt := (⟨"java/lang/Math", "max", "(JJ)J"⟩, prog_12_method_66_code, 4, some .long, [(0, .lload_n 0, 1, 0), (1, .lload_n 2, 2, 0), (2, .lcmp, 3, 0), (3, .ifCond .lt 7, 6, 10), (6, .lload_n 0, 7, 0), (7, .goto 4, 10, 11), (10, .lload_n 2, 11, 0), (11, .lreturn, 12, 0)])
theorem o_J9_max_f86c9 : zk_ok m_J9_max_f86c9 := (by decide +kernel : m_J9_max_f86c9.2.2.2.2.all (zk_chk m_J9_max_f86c9.2.1) = true)
def m_J9_min_7cf53 : zk_Mt := (⟨"java/lang/Math", "min", "(II)I"⟩, prog_12_method_69_code, 2, some .int, [(0, .iload_n 0, 1, 0), (1, .iload_n 1, 2, 0), (2, .if_icmp .gt 7, 5, 9), (5, .iload_n 0, 6, 0), (6, .goto 4, 9, 10), (9, .iload_n 1, 10, 0), (10, .ireturn, 11, 0)])
theorem o_J9_min_7cf53 : zk_ok m_J9_min_7cf53 := (by decide +kernel : m_J9_min_7cf53.2.2.2.2.all (zk_chk m_J9_min_7cf53.2.1) = true)
def m_J9_min_f86c9 : zk_Mt := (⟨"java/lang/Math", "min", "(JJ)J"⟩, prog_12_method_70_code, 4, some .long, [(0, .lload_n 0, 1, 0), (1, .lload_n 2, 2, 0), (2, .lcmp, 3, 0), (3, .ifCond .gt 7, 6, 10), (6, .lload_n 0, 7, 0), (7, .goto 4, 10, 11), (10, .lload_n 2, 11, 0), (11, .lreturn, 12, 0)])
theorem o_J9_min_f86c9 : zk_ok m_J9_min_f86c9 := (by decide +kernel : m_J9_min_f86c9.2.2.2.2.all (zk_chk m_J9_min_f86c9.2.1) = true)
def m_J0_length_8abf5 : zk_Mt := (⟨"java/lang/String", "length", "()I"⟩, prog_13_method_54_code, 1, some .int, [(0, .aload_n 0, 1, 0), (1, .getfield 9, 4, 0), (4, .arraylength, 5, 0), (5, .aload_n 0, 6, 0), (6, .invokevirtual 335, 9, 0), (9, .ishr, 10, 0), (10, .ireturn, 11, 0)])
theorem o_J0_length_8abf5 : zk_ok m_J0_length_8abf5 := (by decide +kernel : m_J0_length_8abf5.2.2.2.2.all (zk_chk m_J0_length_8abf5.2.1) = true)
def m_J0_charAt_5068e : zk_Mt := (⟨"java/lang/String", "charAt", "(I)C"⟩, prog_13_method_56_code, 2, some .char, [(0, .aload_n 0, 1, 0), (1, .invokevirtual 492, 4, 0), (4, .ifCond .eq 12, 7, 16), (7, .aload_n 0, 8, 0), (8, .getfield 9, 11, 0), (11, .iload_n 1, 12, 0), (12, .invokestatic 495, 15, 0), (15, .ireturn, 16, 0), (16, .aload_n 0, 17, 0), (17, .getfield 9, 20, 0), (20, .iload_n 1, 21, 0), (21, .invokestatic 498, 24, 0), (24, .ireturn, 25, 0)])
theorem o_J0_charAt_5068e : zk_ok m_J0_charAt_5068e := (by decide +kernel : m_J0_charAt_5068e.2.2.2.2.all (zk_chk m_J0_charAt_5068e.2.1) = true)
def m_J0_coder_7d493 : zk_Mt := (⟨"java/lang/String", "coder", "()B"⟩, prog_13_method_152_code, 1, some .byte, [(0, .getstatic 38, 3, 0), (3, .ifCond .eq 10, 6, 13), (6, .aload_n 0, 7, 0), (7, .getfield 15, 10, 0), (10, .goto 4, 13, 14), (13, .iconst 1, 14, 0), (14, .ireturn, 15, 0)])
theorem o_J0_coder_7d493 : zk_ok m_J0_coder_7d493 := (by decide +kernel : m_J0_coder_7d493.2.2.2.2.all (zk_chk m_J0_coder_7d493.2.1) = true)
def m_J0_isLatin1_aae02 : zk_Mt := (⟨"java/lang/String", "isLatin1", "()Z"⟩, prog_13_method_154_code, 1, some .boolean, [(0, .getstatic 38, 3, 0), (3, .ifCond .eq 14, 6, 17), (6, .aload_n 0, 7, 0), (7, .getfield 15, 10, 0), (10, .ifCond .ne 7, 13, 17), (13, .iconst 1, 14, 0), (14, .goto 4, 17, 18), (17, .iconst 0, 18, 0), (18, .ireturn, 19, 0)])
theorem o_J0_isLatin1_aae02 : zk_ok m_J0_isLatin1_aae02 := (by decide +kernel : m_J0_isLatin1_aae02.2.2.2.2.all (zk_chk m_J0_isLatin1_aae02.2.1) = true)
def m_J0_checkIndex_df160 : zk_Mt := (⟨"java/lang/String", "checkIndex", "(II)V"⟩, prog_13_method_155_code, 2, none, [(0, .iload_n 0, 1, 0), (1, .iload_n 1, 2, 0), (2, .getstatic 1053, 5, 0), (5, .invokestatic 1059, 8, 0), (8, .pop, 9, 0), (9, .return_, 10, 0)])
theorem o_J0_checkIndex_df160 : zk_ok m_J0_checkIndex_df160 := (by decide +kernel : m_J0_checkIndex_df160.2.2.2.2.all (zk_chk m_J0_checkIndex_df160.2.1) = true)
def m_J1_charAt_3b067 : zk_Mt := (⟨"java/lang/StringLatin1", "charAt", "([BI)C"⟩, prog_14_method_2_code, 2, some .char, [(0, .iload_n 1, 1, 0), (1, .aload_n 0, 2, 0), (2, .arraylength, 3, 0), (3, .invokestatic 9, 6, 0), (6, .aload_n 0, 7, 0), (7, .iload_n 1, 8, 0), (8, .baload, 9, 0), (9, .sipush 255, 12, 0), (12, .iand, 13, 0), (13, .i2c, 14, 0), (14, .ireturn, 15, 0)])
theorem o_J1_charAt_3b067 : zk_ok m_J1_charAt_3b067 := (by decide +kernel : m_J1_charAt_3b067.2.2.2.2.all (zk_chk m_J1_charAt_3b067.2.1) = true)
def m_J7_fill_53178 : zk_Mt := (⟨"java/util/Arrays", "fill", "([II)V"⟩, prog_17_method_103_code, 4, none, [(0, .iconst 0, 1, 0), (1, .istore_n 2, 2, 0), (2, .aload_n 0, 3, 0), (3, .arraylength, 4, 0), (4, .istore_n 3, 5, 0), (5, .iload_n 2, 6, 0), (6, .iload_n 3, 7, 0), (7, .if_icmp .ge 13, 10, 20), (10, .aload_n 0, 11, 0), (11, .iload_n 2, 12, 0), (12, .iload_n 1, 13, 0), (13, .iastore, 14, 0), (14, .iinc 2 1, 17, 0), (17, .goto (-12), 20, 5), (20, .return_, 21, 0)])
theorem o_J7_fill_53178 : zk_ok m_J7_fill_53178 := (by decide +kernel : m_J7_fill_53178.2.2.2.2.all (zk_chk m_J7_fill_53178.2.1) = true)
def m_J3_checkIndex_8e157 : zk_Mt := (⟨"jdk/internal/util/Preconditions", "checkIndex", "(IILjava/util/function/BiFunction;)I"⟩, prog_18_method_11_code, 3, some .int, [(0, .iload_n 0, 1, 0), (1, .ifCond .lt 8, 4, 9), (4, .iload_n 0, 5, 0), (5, .iload_n 1, 6, 0), (6, .if_icmp .lt 10, 9, 16), (9, .aload_n 2, 10, 0), (10, .iload_n 0, 11, 0), (11, .iload_n 1, 12, 0), (12, .invokestatic 95, 15, 0), (15, .athrow, 16, 0), (16, .iload_n 0, 17, 0), (17, .ireturn, 18, 0)])
theorem o_J3_checkIndex_8e157 : zk_ok m_J3_checkIndex_8e157 := (by decide +kernel : m_J3_checkIndex_8e157.2.2.2.2.all (zk_chk m_J3_checkIndex_8e157.2.1) = true)
end
section
def m_X7_init : zk_Mt := (⟨"NamedNext", "<init>", "()V"⟩, prog_1_method_1_code, 2, none, [(0, .aload_n 0, 1, 0), (1, .invokespecial 1, 4, 0), (4, .aload_n 0, 5, 0), (5, .new 7, 8, 0), (8, .dup, 9, 0), (9, .invokespecial 9, 12, 0), (12, .putfield 10, 15, 0), (15, .aload_n 0, 16, 0), (16, .new 16, 19, 0), (19, .dup, 20, 0), (20, .invokespecial 18, 23, 0), (23, .putfield 19, 26, 0), (26, .aload_n 0, 27, 0), (27, .new 23, 30, 0), (30, .dup, 31, 0), (31, .aload_n 0, 32, 0), (32, .getfield 10, 35, 0), (35, .invokespecial 25, 38, 0), (38, .putfield 28, 41, 0), (41, .aload_n 0, 42, 0), (42, .new 32, 45, 0), (45, .dup, 46, 0), (46, .invokespecial 34, 49, 0), (49, .putfield 35, 52, 0), (52, .aload_n 0, 53, 0), (53, .new 39, 56, 0), (56, .dup, 57, 0), (57, .invokespecial 41, 60, 0), (60, .putfield 42, 63, 0), (63, .aload_n 0, 64, 0), (64, .iconst 2, 65, 0), (65, .anewarray 32, 68, 0), (68, .putfield 46, 71, 0), (71, .iconst 0, 72, 0), (72, .istore_n 1, 73, 0), (73, .iload_n 1, 74, 0), (74, .iconst 2, 75, 0), (75, .if_icmp .ge 22, 78, 97), (78, .aload_n 0, 79, 0), (79, .getfield 46, 82, 0), (82, .iload_n 1, 83, 0), (83, .new 32, 86, 0), (86, .dup, 87, 0), (87, .invokespecial 34, 90, 0), (90, .aastore, 91, 0), (91, .iinc 1 1, 94, 0), (94, .goto (-21), 97, 73), (97, .aload_n 0, 98, 0), (98, .new 50, 101, 0), (101, .dup, 102, 0), (102, .aload_n 0, 103, 0), (103, .getfield 19, 106, 0), (106, .invokespecial 52, 109, 0), (109, .putfield 55, 112, 0), (112, .aload_n 0, 113, 0), (113, .bipush 8, 115, 0), (115, .newarray .int, 117, 0), (117, .putfield 59, 120, 0), (120, .aload_n 0, 121, 0), (121, .bipush 8, 123, 0), (123, .newarray .int, 125, 0), (125, .putfield 63, 128, 0), (128, .aload_n 0, 129, 0), (129, .new 66, 132, 0), (132, .dup, 133, 0), (133, .invokespecial 68, 136, 0), (136, .putfield 69, 139, 0), (139, .return_, 140, 0)])
theorem o_X7_init_0 : ((m_X7_init.2.2.2.2.drop (40 * 0)).take 40).all (zk_chk m_X7_init.2.1) = true := by decide +kernel
theorem o_X7_init_1 : ((m_X7_init.2.2.2.2.drop (40 * 1)).take 40).all (zk_chk m_X7_init.2.1) = true := by decide +kernel
theorem o_X7_init : zk_ok m_X7_init := zk_ok_ch 40 2 (fun i hi => by
  match i, hi with
  | 0, _ => exact o_X7_init_0
  | 1, _ => exact o_X7_init_1
  | i + 2, h => exact absurd h (by omega)) (by decide +kernel)
def m_X7_write : zk_Mt := (⟨"NamedNext", "write", "(I)I"⟩, prog_1_method_2_code, 2, some .int, [(0, .iload_n 1, 1, 0), (1, .ifCond .lt 10, 4, 11), (4, .iload_n 1, 5, 0), (5, .sipush 255, 8, 0), (8, .if_icmp .le 6, 11, 14), (11, .bipush (-3), 13, 0), (13, .ireturn, 14, 0), (14, .aload_n 0, 15, 0), (15, .getfield 10, 18, 0), (18, .iload_n 1, 19, 0), (19, .i2c, 20, 0), (20, .invokevirtual 73, 23, 0), (23, .ifCond .eq 13, 26, 36), (26, .aload_n 0, 27, 0), (27, .getfield 10, 30, 0), (30, .getfield 77, 33, 0), (33, .goto 5, 36, 38), (36, .bipush (-5), 38, 0), (38, .ireturn, 39, 0)])
theorem o_X7_write : zk_ok m_X7_write := (by decide +kernel : m_X7_write.2.2.2.2.all (zk_chk m_X7_write.2.1) = true)
def m_X7_erase : zk_Mt := (⟨"NamedNext", "erase", "()I"⟩, prog_1_method_3_code, 2, some .int, [(0, .aload_n 0, 1, 0), (1, .getfield 10, 4, 0), (4, .getfield 77, 7, 0), (7, .istore_n 1, 8, 0), (8, .aload_n 0, 9, 0), (9, .getfield 10, 12, 0), (12, .invokevirtual 81, 15, 0), (15, .iload_n 1, 16, 0), (16, .ireturn, 17, 0)])
theorem o_X7_erase : zk_ok m_X7_erase := (by decide +kernel : m_X7_erase.2.2.2.2.all (zk_chk m_X7_erase.2.1) = true)
def m_X7_fault : zk_Mt := (⟨"NamedNext", "fault", "()I"⟩, prog_1_method_4_code, 1, some .int, [(0, .aload_n 0, 1, 0), (1, .getfield 28, 4, 0), (4, .aload_n 0, 5, 0), (5, .getfield 19, 8, 0), (8, .invokevirtual 84, 11, 0), (11, .ireturn, 12, 0)])
theorem o_X7_fault : zk_ok m_X7_fault := (by decide +kernel : m_X7_fault.2.2.2.2.all (zk_chk m_X7_fault.2.1) = true)
def m_X7_library : zk_Mt := (⟨"NamedNext", "library", "()I"⟩, prog_1_method_5_code, 1, some .int, [(0, .aload_n 0, 1, 0), (1, .getfield 28, 4, 0), (4, .aload_n 0, 5, 0), (5, .getfield 19, 8, 0), (8, .invokevirtual 84, 11, 0), (11, .iconst (-1), 12, 0), (12, .if_icmp .eq 6, 15, 18), (15, .bipush (-4), 17, 0), (17, .ireturn, 18, 0), (18, .aload_n 0, 19, 0), (19, .getfield 19, 22, 0), (22, .aload_n 0, 23, 0), (23, .getfield 28, 26, 0), (26, .getfield 88, 29, 0), (29, .invokevirtual 91, 32, 0), (32, .aload_n 0, 33, 0), (33, .getfield 10, 36, 0), (36, .invokevirtual 81, 39, 0), (39, .aload_n 0, 40, 0), (40, .getfield 35, 43, 0), (43, .aload_n 0, 44, 0), (44, .getfield 19, 47, 0), (47, .invokevirtual 94, 50, 0), (50, .aload_n 0, 51, 0), (51, .getfield 42, 54, 0), (54, .invokevirtual 97, 57, 0), (57, .aload_n 0, 58, 0), (58, .iconst 0, 59, 0), (59, .putfield 100, 62, 0), (62, .aload_n 0, 63, 0), (63, .getfield 69, 66, 0), (66, .iconst 0, 67, 0), (67, .putfield 103, 70, 0), (70, .aload_n 0, 71, 0), (71, .getfield 28, 74, 0), (74, .getfield 106, 77, 0), (77, .ireturn, 78, 0)])
theorem o_X7_library : zk_ok m_X7_library := (by decide +kernel : m_X7_library.2.2.2.2.all (zk_chk m_X7_library.2.1) = true)
def m_X7_reader : zk_Mt := (⟨"NamedNext", "reader", "(II)I"⟩, prog_1_method_6_code, 3, some .int, [(0, .aload_n 0, 1, 0), (1, .getfield 19, 4, 0), (4, .iload_n 1, 5, 0), (5, .invokevirtual 109, 8, 0), (8, .ifCond .ne 6, 11, 14), (11, .bipush (-2), 13, 0), (13, .ireturn, 14, 0), (14, .iload_n 2, 15, 0), (15, .tableswitch 89 0 5 #[37, 47, 57, 67, 77, 83], 52, 0), (52, .aload_n 0, 53, 0), (53, .getfield 19, 56, 0), (56, .getfield 113, 59, 0), (59, .iload_n 1, 60, 0), (60, .iaload, 61, 0), (61, .ireturn, 62, 0), (62, .aload_n 0, 63, 0), (63, .getfield 19, 66, 0), (66, .getfield 116, 69, 0), (69, .iload_n 1, 70, 0), (70, .iaload, 71, 0), (71, .ireturn, 72, 0), (72, .aload_n 0, 73, 0), (73, .getfield 19, 76, 0), (76, .getfield 119, 79, 0), (79, .iload_n 1, 80, 0), (80, .iaload, 81, 0), (81, .ireturn, 82, 0), (82, .aload_n 0, 83, 0), (83, .getfield 19, 86, 0), (86, .getfield 122, 89, 0), (89, .iload_n 1, 90, 0), (90, .iaload, 91, 0), (91, .ireturn, 92, 0), (92, .aload_n 0, 93, 0), (93, .iload_n 1, 94, 0), (94, .invokevirtual 125, 97, 0), (97, .ireturn, 98, 0), (98, .aload_n 0, 99, 0), (99, .iload_n 1, 100, 0), (100, .invokevirtual 129, 103, 0), (103, .ireturn, 104, 0), (104, .bipush (-3), 106, 0), (106, .ireturn, 107, 0)])
theorem o_X7_reader : zk_ok m_X7_reader := (by decide +kernel : m_X7_reader.2.2.2.2.all (zk_chk m_X7_reader.2.1) = true)
def m_X7_book : zk_Mt := (⟨"NamedNext", "book", "(II)I"⟩, prog_1_method_7_code, 3, some .int, [(0, .aload_n 0, 1, 0), (1, .getfield 19, 4, 0), (4, .iload_n 1, 5, 0), (5, .invokevirtual 132, 8, 0), (8, .ifCond .ne 6, 11, 14), (11, .bipush (-2), 13, 0), (13, .ireturn, 14, 0), (14, .iload_n 2, 15, 0), (15, .tableswitch 95 0 4 #[33, 43, 53, 71, 85], 48, 0), (48, .aload_n 0, 49, 0), (49, .getfield 35, 52, 0), (52, .getfield 135, 55, 0), (55, .iload_n 1, 56, 0), (56, .iaload, 57, 0), (57, .ireturn, 58, 0), (58, .aload_n 0, 59, 0), (59, .getfield 35, 62, 0), (62, .getfield 138, 65, 0), (65, .iload_n 1, 66, 0), (66, .iaload, 67, 0), (67, .ireturn, 68, 0), (68, .aload_n 0, 69, 0), (69, .getfield 35, 72, 0), (72, .getfield 141, 75, 0), (75, .aload_n 0, 76, 0), (76, .getfield 35, 79, 0), (79, .getfield 144, 82, 0), (82, .iload_n 1, 83, 0), (83, .iaload, 84, 0), (84, .isub, 85, 0), (85, .ireturn, 86, 0), (86, .aload_n 0, 87, 0), (87, .iload_n 1, 88, 0), (88, .invokevirtual 147, 91, 0), (91, .ifCond .eq 7, 94, 98), (94, .iconst 1, 95, 0), (95, .goto 4, 98, 99), (98, .iconst 0, 99, 0), (99, .ireturn, 100, 0), (100, .aload_n 0, 101, 0), (101, .getfield 19, 104, 0), (104, .getfield 150, 107, 0), (107, .iload_n 1, 108, 0), (108, .iaload, 109, 0), (109, .ireturn, 110, 0), (110, .bipush (-3), 112, 0), (112, .ireturn, 113, 0)])
theorem o_X7_book : zk_ok m_X7_book := (by decide +kernel : m_X7_book.2.2.2.2.all (zk_chk m_X7_book.2.1) = true)
def m_X7_as : zk_Mt := (⟨"NamedNext", "as", "(II)I"⟩, prog_1_method_8_code, 3, some .int, [(0, .aload_n 0, 1, 0), (1, .getfield 19, 4, 0), (4, .iload_n 1, 5, 0), (5, .invokevirtual 109, 8, 0), (8, .ifCond .ne 6, 11, 14), (11, .bipush (-2), 13, 0), (13, .ireturn, 14, 0), (14, .iload_n 2, 15, 0), (15, .ifCond .lt 8, 18, 23), (18, .iload_n 2, 19, 0), (19, .iconst 5, 20, 0), (20, .if_icmp .lt 6, 23, 26), (23, .bipush (-3), 25, 0), (25, .ireturn, 26, 0), (26, .getstatic 153, 29, 0), (29, .aload_n 0, 30, 0), (30, .getfield 19, 33, 0), (33, .getfield 113, 36, 0), (36, .iload_n 1, 37, 0), (37, .iaload, 38, 0), (38, .iaload, 39, 0), (39, .iload_n 2, 40, 0), (40, .invokestatic 156, 43, 0), (43, .ifCond .eq 21, 46, 64), (46, .aload_n 0, 47, 0), (47, .getfield 19, 50, 0), (50, .iload_n 1, 51, 0), (51, .aload_n 0, 52, 0), (52, .getfield 35, 55, 0), (55, .getfield 141, 58, 0), (58, .invokevirtual 160, 61, 0), (61, .goto 5, 64, 66), (64, .bipush (-4), 66, 0), (66, .ireturn, 67, 0)])
theorem o_X7_as : zk_ok m_X7_as := (by decide +kernel : m_X7_as.2.2.2.2.all (zk_chk m_X7_as.2.1) = true)
def m_X7_may : zk_Mt := (⟨"NamedNext", "may", "(II)I"⟩, prog_1_method_9_code, 3, some .int, [(0, .aload_n 0, 1, 0), (1, .getfield 19, 4, 0), (4, .iload_n 1, 5, 0), (5, .invokevirtual 132, 8, 0), (8, .ifCond .eq 14, 11, 22), (11, .aload_n 0, 12, 0), (12, .getfield 19, 15, 0), (15, .iload_n 2, 16, 0), (16, .invokevirtual 109, 19, 0), (19, .ifCond .ne 6, 22, 25), (22, .bipush (-2), 24, 0), (24, .ireturn, 25, 0), (25, .aload_n 0, 26, 0), (26, .iload_n 1, 27, 0), (27, .invokevirtual 164, 30, 0), (30, .iload_n 2, 31, 0), (31, .invokestatic 156, 34, 0), (34, .ifCond .eq 7, 37, 41), (37, .iconst 1, 38, 0), (38, .goto 4, 41, 42), (41, .iconst 0, 42, 0), (42, .ireturn, 43, 0)])
theorem o_X7_may : zk_ok m_X7_may := (by decide +kernel : m_X7_may.2.2.2.2.all (zk_chk m_X7_may.2.1) = true)
def m_X7_name : zk_Mt := (⟨"NamedNext", "name", "(II)I"⟩, prog_1_method_10_code, 3, some .int, [(0, .aload_n 0, 1, 0), (1, .getfield 19, 4, 0), (4, .iload_n 1, 5, 0), (5, .invokevirtual 132, 8, 0), (8, .ifCond .eq 14, 11, 22), (11, .aload_n 0, 12, 0), (12, .getfield 19, 15, 0), (15, .iload_n 2, 16, 0), (16, .invokevirtual 109, 19, 0), (19, .ifCond .ne 6, 22, 25), (22, .bipush (-2), 24, 0), (24, .ireturn, 25, 0), (25, .aload_n 0, 26, 0), (26, .iload_n 1, 27, 0), (27, .invokevirtual 164, 30, 0), (30, .iload_n 2, 31, 0), (31, .invokestatic 156, 34, 0), (34, .ifCond .ne 6, 37, 40), (37, .bipush (-4), 39, 0), (39, .ireturn, 40, 0), (40, .aload_n 0, 41, 0), (41, .getfield 35, 44, 0), (44, .getfield 141, 47, 0), (47, .sipush 999, 50, 0), (50, .if_icmp .lt 6, 53, 56), (53, .bipush (-5), 55, 0), (55, .ireturn, 56, 0), (56, .aload_n 0, 57, 0), (57, .getfield 42, 60, 0), (60, .aload_n 0, 61, 0), (61, .getfield 35, 64, 0), (64, .invokevirtual 167, 67, 0), (67, .aload_n 0, 68, 0), (68, .getfield 35, 71, 0), (71, .iload_n 1, 72, 0), (72, .iload_n 2, 73, 0), (73, .invokevirtual 171, 76, 0), (76, .aload_n 0, 77, 0), (77, .getfield 35, 80, 0), (80, .getfield 138, 83, 0), (83, .iload_n 1, 84, 0), (84, .iaload, 85, 0), (85, .invokestatic 175, 88, 0), (88, .ireturn, 89, 0)])
theorem o_X7_name : zk_ok m_X7_name := (by decide +kernel : m_X7_name.2.2.2.2.all (zk_chk m_X7_name.2.1) = true)
def m_X7_day : zk_Mt := (⟨"NamedNext", "day", "()I"⟩, prog_1_method_11_code, 1, some .int, [(0, .aload_n 0, 1, 0), (1, .getfield 35, 4, 0), (4, .getfield 141, 7, 0), (7, .sipush 999, 10, 0), (10, .if_icmp .lt 6, 13, 16), (13, .bipush (-5), 15, 0), (15, .ireturn, 16, 0), (16, .aload_n 0, 17, 0), (17, .getfield 42, 20, 0), (20, .aload_n 0, 21, 0), (21, .getfield 35, 24, 0), (24, .invokevirtual 167, 27, 0), (27, .aload_n 0, 28, 0), (28, .getfield 35, 31, 0), (31, .dup, 32, 0), (32, .getfield 141, 35, 0), (35, .iconst 1, 36, 0), (36, .iadd, 37, 0), (37, .putfield 141, 40, 0), (40, .aload_n 0, 41, 0), (41, .getfield 35, 44, 0), (44, .getfield 141, 47, 0), (47, .ireturn, 48, 0)])
theorem o_X7_day : zk_ok m_X7_day := (by decide +kernel : m_X7_day.2.2.2.2.all (zk_chk m_X7_day.2.1) = true)
def m_X7_undo : zk_Mt := (⟨"NamedNext", "undo", "()I"⟩, prog_1_method_12_code, 1, some .int, [(0, .aload_n 0, 1, 0), (1, .getfield 42, 4, 0), (4, .getfield 180, 7, 0), (7, .ifCond .ne 6, 10, 13), (10, .bipush (-4), 12, 0), (12, .ireturn, 13, 0), (13, .aload_n 0, 14, 0), (14, .getfield 42, 17, 0), (17, .aload_n 0, 18, 0), (18, .getfield 35, 21, 0), (21, .invokevirtual 181, 24, 0), (24, .aload_n 0, 25, 0), (25, .getfield 42, 28, 0), (28, .getfield 180, 31, 0), (31, .ireturn, 32, 0)])
theorem o_X7_undo : zk_ok m_X7_undo := (by decide +kernel : m_X7_undo.2.2.2.2.all (zk_chk m_X7_undo.2.1) = true)
def m_X7_keep : zk_Mt := (⟨"NamedNext", "keep", "(I)I"⟩, prog_1_method_13_code, 2, some .int, [(0, .iload_n 1, 1, 0), (1, .ifCond .lt 8, 4, 9), (4, .iload_n 1, 5, 0), (5, .iconst 2, 6, 0), (6, .if_icmp .lt 6, 9, 12), (9, .bipush (-2), 11, 0), (11, .ireturn, 12, 0), (12, .aload_n 0, 13, 0), (13, .getfield 46, 16, 0), (16, .iload_n 1, 17, 0), (17, .aaload, 18, 0), (18, .aload_n 0, 19, 0), (19, .getfield 35, 22, 0), (22, .invokevirtual 184, 25, 0), (25, .aload_n 0, 26, 0), (26, .dup, 27, 0), (27, .getfield 100, 30, 0), (30, .iconst 1, 31, 0), (31, .iload_n 1, 32, 0), (32, .ishl, 33, 0), (33, .ior, 34, 0), (34, .putfield 100, 37, 0), (37, .aload_n 0, 38, 0), (38, .getfield 35, 41, 0), (41, .getfield 141, 44, 0), (44, .ireturn, 45, 0)])
theorem o_X7_keep : zk_ok m_X7_keep := (by decide +kernel : m_X7_keep.2.2.2.2.all (zk_chk m_X7_keep.2.1) = true)
def m_X7_back : zk_Mt := (⟨"NamedNext", "back", "(I)I"⟩, prog_1_method_14_code, 2, some .int, [(0, .iload_n 1, 1, 0), (1, .ifCond .lt 8, 4, 9), (4, .iload_n 1, 5, 0), (5, .iconst 2, 6, 0), (6, .if_icmp .lt 6, 9, 12), (9, .bipush (-2), 11, 0), (11, .ireturn, 12, 0), (12, .aload_n 0, 13, 0), (13, .getfield 100, 16, 0), (16, .iload_n 1, 17, 0), (17, .invokestatic 156, 20, 0), (20, .ifCond .ne 6, 23, 26), (23, .bipush (-4), 25, 0), (25, .ireturn, 26, 0), (26, .aload_n 0, 27, 0), (27, .getfield 35, 30, 0), (30, .aload_n 0, 31, 0), (31, .getfield 46, 34, 0), (34, .iload_n 1, 35, 0), (35, .aaload, 36, 0), (36, .invokevirtual 184, 39, 0), (39, .aload_n 0, 40, 0), (40, .getfield 42, 43, 0), (43, .invokevirtual 97, 46, 0), (46, .aload_n 0, 47, 0), (47, .getfield 35, 50, 0), (50, .getfield 141, 53, 0), (53, .ireturn, 54, 0)])
theorem o_X7_back : zk_ok m_X7_back := (by decide +kernel : m_X7_back.2.2.2.2.all (zk_chk m_X7_back.2.1) = true)
def m_X7_longest : zk_Mt := (⟨"NamedNext", "longest", "(II)I"⟩, prog_1_method_15_code, 3, some .int, [(0, .aload_n 0, 1, 0), (1, .getfield 19, 4, 0), (4, .iload_n 1, 5, 0), (5, .invokevirtual 132, 8, 0), (8, .ifCond .ne 6, 11, 14), (11, .bipush (-2), 13, 0), (13, .ireturn, 14, 0), (14, .iload_n 2, 15, 0), (15, .ifCond .eq 11, 18, 26), (18, .iload_n 2, 19, 0), (19, .iconst 1, 20, 0), (20, .if_icmp .eq 6, 23, 26), (23, .bipush (-3), 25, 0), (25, .ireturn, 26, 0), (26, .aload_n 0, 27, 0), (27, .getfield 55, 30, 0), (30, .aload_n 0, 31, 0), (31, .getfield 35, 34, 0), (34, .iload_n 1, 35, 0), (35, .iload_n 2, 36, 0), (36, .ifCond .ne 7, 39, 43), (39, .iconst 0, 40, 0), (40, .goto 4, 43, 44), (43, .iconst 1, 44, 0), (44, .invokevirtual 186, 47, 0), (47, .l2i, 48, 0), (48, .ireturn, 49, 0)])
theorem o_X7_longest : zk_ok m_X7_longest := (by decide +kernel : m_X7_longest.2.2.2.2.all (zk_chk m_X7_longest.2.1) = true)
def m_X7_row : zk_Mt := (⟨"NamedNext", "row", "(II)I"⟩, prog_1_method_16_code, 3, some .int, [(0, .aload_n 0, 1, 0), (1, .getfield 19, 4, 0), (4, .iload_n 1, 5, 0), (5, .invokevirtual 132, 8, 0), (8, .ifCond .ne 6, 11, 14), (11, .bipush (-2), 13, 0), (13, .ireturn, 14, 0), (14, .iload_n 2, 15, 0), (15, .ifCond .ge 6, 18, 21), (18, .bipush (-3), 20, 0), (20, .ireturn, 21, 0), (21, .aload_n 0, 22, 0), (22, .getfield 55, 25, 0), (25, .aload_n 0, 26, 0), (26, .getfield 35, 29, 0), (29, .iload_n 1, 30, 0), (30, .iload_n 2, 31, 0), (31, .invokevirtual 190, 34, 0), (34, .ireturn, 35, 0)])
theorem o_X7_row : zk_ok m_X7_row := (by decide +kernel : m_X7_row.2.2.2.2.all (zk_chk m_X7_row.2.1) = true)
def m_X7_shortest : zk_Mt := (⟨"NamedNext", "shortest", "(I)I"⟩, prog_1_method_17_code, 2, some .int, [(0, .aload_n 0, 1, 0), (1, .getfield 19, 4, 0), (4, .iload_n 1, 5, 0), (5, .invokevirtual 132, 8, 0), (8, .ifCond .eq 20, 11, 28), (11, .aload_n 0, 12, 0), (12, .getfield 55, 15, 0), (15, .aload_n 0, 16, 0), (16, .getfield 35, 19, 0), (19, .iload_n 1, 20, 0), (20, .iconst 2, 21, 0), (21, .invokevirtual 186, 24, 0), (24, .l2i, 25, 0), (25, .goto 5, 28, 30), (28, .bipush (-2), 30, 0), (30, .ireturn, 31, 0)])
theorem o_X7_shortest : zk_ok m_X7_shortest := (by decide +kernel : m_X7_shortest.2.2.2.2.all (zk_chk m_X7_shortest.2.1) = true)
def m_X7_can : zk_Mt := (⟨"NamedNext", "can", "(I)I"⟩, prog_1_method_18_code, 2, some .int, [(0, .aload_n 0, 1, 0), (1, .getfield 19, 4, 0), (4, .iload_n 1, 5, 0), (5, .invokevirtual 132, 8, 0), (8, .ifCond .eq 20, 11, 28), (11, .aload_n 0, 12, 0), (12, .getfield 55, 15, 0), (15, .aload_n 0, 16, 0), (16, .getfield 35, 19, 0), (19, .iload_n 1, 20, 0), (20, .iconst 3, 21, 0), (21, .invokevirtual 186, 24, 0), (24, .l2i, 25, 0), (25, .goto 5, 28, 30), (28, .bipush (-2), 30, 0), (30, .ireturn, 31, 0)])
theorem o_X7_can : zk_ok m_X7_can := (by decide +kernel : m_X7_can.2.2.2.2.all (zk_chk m_X7_can.2.1) = true)
def m_X7_all : zk_Mt := (⟨"NamedNext", "all", "(I)I"⟩, prog_1_method_19_code, 2, some .int, [(0, .aload_n 0, 1, 0), (1, .getfield 19, 4, 0), (4, .iload_n 1, 5, 0), (5, .invokevirtual 132, 8, 0), (8, .ifCond .eq 20, 11, 28), (11, .aload_n 0, 12, 0), (12, .getfield 55, 15, 0), (15, .aload_n 0, 16, 0), (16, .getfield 35, 19, 0), (19, .iload_n 1, 20, 0), (20, .iconst 4, 21, 0), (21, .invokevirtual 186, 24, 0), (24, .l2i, 25, 0), (25, .goto 5, 28, 30), (28, .bipush (-2), 30, 0), (30, .ireturn, 31, 0)])
theorem o_X7_all : zk_ok m_X7_all := (by decide +kernel : m_X7_all.2.2.2.2.all (zk_chk m_X7_all.2.1) = true)
def m_X7_fame : zk_Mt := (⟨"NamedNext", "fame", "(I)I"⟩, prog_1_method_20_code, 2, some .int, [(0, .aload_n 0, 1, 0), (1, .getfield 19, 4, 0), (4, .iload_n 1, 5, 0), (5, .invokevirtual 132, 8, 0), (8, .ifCond .eq 20, 11, 28), (11, .aload_n 0, 12, 0), (12, .getfield 55, 15, 0), (15, .aload_n 0, 16, 0), (16, .getfield 35, 19, 0), (19, .iload_n 1, 20, 0), (20, .iconst 5, 21, 0), (21, .invokevirtual 186, 24, 0), (24, .l2i, 25, 0), (25, .goto 5, 28, 30), (28, .bipush (-2), 30, 0), (30, .ireturn, 31, 0)])
theorem o_X7_fame : zk_ok m_X7_fame := (by decide +kernel : m_X7_fame.2.2.2.2.all (zk_chk m_X7_fame.2.1) = true)
def m_X7_mean : zk_Mt := (⟨"NamedNext", "mean", "(II)J"⟩, prog_1_method_21_code, 5, some .long, [(0, .aload_n 0, 1, 0), (1, .getfield 19, 4, 0), (4, .iload_n 1, 5, 0), (5, .invokevirtual 132, 8, 0), (8, .ifCond .ne 7, 11, 15), (11, .ldc2_w 194, 14, 0), (14, .lreturn, 15, 0), (15, .iload_n 2, 16, 0), (16, .ifCond .eq 12, 19, 28), (19, .iload_n 2, 20, 0), (20, .iconst 1, 21, 0), (21, .if_icmp .eq 7, 24, 28), (24, .ldc2_w 196, 27, 0), (27, .lreturn, 28, 0), (28, .aload_n 0, 29, 0), (29, .getfield 55, 32, 0), (32, .aload_n 0, 33, 0), (33, .getfield 35, 36, 0), (36, .iload_n 1, 37, 0), (37, .bipush 6, 39, 0), (39, .invokevirtual 186, 42, 0), (42, .lstore_n 3, 43, 0), (43, .lload_n 3, 44, 0), (44, .aload_n 0, 45, 0), (45, .getfield 55, 48, 0), (48, .invokevirtual 198, 51, 0), (51, .iload_n 2, 52, 0), (52, .invokestatic 202, 55, 0), (55, .lreturn, 56, 0)])
theorem o_X7_mean : zk_ok m_X7_mean := (by decide +kernel : m_X7_mean.2.2.2.2.all (zk_chk m_X7_mean.2.1) = true)
def m_X7_odds : zk_Mt := (⟨"NamedNext", "odds", "(III)J"⟩, prog_1_method_22_code, 6, some .long, [(0, .aload_n 0, 1, 0), (1, .getfield 19, 4, 0), (4, .iload_n 1, 5, 0), (5, .invokevirtual 132, 8, 0), (8, .ifCond .eq 14, 11, 22), (11, .aload_n 0, 12, 0), (12, .getfield 19, 15, 0), (15, .iload_n 2, 16, 0), (16, .invokevirtual 109, 19, 0), (19, .ifCond .ne 7, 22, 26), (22, .ldc2_w 194, 25, 0), (25, .lreturn, 26, 0), (26, .iload_n 3, 27, 0), (27, .ifCond .eq 12, 30, 39), (30, .iload_n 3, 31, 0), (31, .iconst 1, 32, 0), (32, .if_icmp .eq 7, 35, 39), (35, .ldc2_w 196, 38, 0), (38, .lreturn, 39, 0), (39, .aload_n 0, 40, 0), (40, .getfield 35, 43, 0), (43, .getfield 138, 46, 0), (46, .iload_n 1, 47, 0), (47, .iaload, 48, 0), (48, .iload_n 2, 49, 0), (49, .invokestatic 156, 52, 0), (52, .ifCond .eq 5, 55, 57), (55, .lconst 1, 56, 0), (56, .lreturn, 57, 0), (57, .aload_n 0, 58, 0), (58, .getfield 55, 61, 0), (61, .iload_n 2, 62, 0), (62, .putfield 206, 65, 0), (65, .aload_n 0, 66, 0), (66, .getfield 55, 69, 0), (69, .aload_n 0, 70, 0), (70, .getfield 35, 73, 0), (73, .iload_n 1, 74, 0), (74, .bipush 7, 76, 0), (76, .invokevirtual 186, 79, 0), (79, .lstore 4, 81, 0), (81, .lload 4, 83, 0), (83, .aload_n 0, 84, 0), (84, .getfield 55, 87, 0), (87, .invokevirtual 198, 90, 0), (90, .iload_n 3, 91, 0), (91, .invokestatic 202, 94, 0), (94, .lreturn, 95, 0)])
theorem o_X7_odds : zk_ok m_X7_odds := (by decide +kernel : m_X7_odds.2.2.2.2.all (zk_chk m_X7_odds.2.1) = true)
def m_X7_turns : zk_Mt := (⟨"NamedNext", "turns", "(II)I"⟩, prog_1_method_23_code, 4, some .int, [(0, .aload_n 0, 1, 0), (1, .getfield 19, 4, 0), (4, .iload_n 1, 5, 0), (5, .invokevirtual 132, 8, 0), (8, .ifCond .ne 6, 11, 14), (11, .bipush (-2), 13, 0), (13, .ireturn, 14, 0), (14, .iload_n 2, 15, 0), (15, .ifCond .eq 11, 18, 26), (18, .iload_n 2, 19, 0), (19, .iconst 1, 20, 0), (20, .if_icmp .eq 6, 23, 26), (23, .bipush (-3), 25, 0), (25, .ireturn, 26, 0), (26, .aload_n 0, 27, 0), (27, .getfield 55, 30, 0), (30, .aload_n 0, 31, 0), (31, .getfield 35, 34, 0), (34, .iload_n 1, 35, 0), (35, .bipush 8, 37, 0), (37, .invokevirtual 186, 40, 0), (40, .l2i, 41, 0), (41, .istore_n 3, 42, 0), (42, .iload_n 2, 43, 0), (43, .ifCond .ne 7, 46, 50), (46, .iload_n 3, 47, 0), (47, .goto 10, 50, 57), (50, .aload_n 0, 51, 0), (51, .getfield 55, 54, 0), (54, .invokevirtual 209, 57, 0), (57, .ireturn, 58, 0)])
theorem o_X7_turns : zk_ok m_X7_turns := (by decide +kernel : m_X7_turns.2.2.2.2.all (zk_chk m_X7_turns.2.1) = true)
def m_X7_clubs : zk_Mt := (⟨"NamedNext", "clubs", "(I)I"⟩, prog_1_method_24_code, 2, some .int, [(0, .iload_n 1, 1, 0), (1, .iconst 2, 2, 0), (2, .if_icmp .lt 9, 5, 11), (5, .iload_n 1, 6, 0), (6, .bipush 6, 8, 0), (8, .if_icmp .le 6, 11, 14), (11, .bipush (-3), 13, 0), (13, .ireturn, 14, 0), (14, .aload_n 0, 15, 0), (15, .getfield 55, 18, 0), (18, .aload_n 0, 19, 0), (19, .getfield 35, 22, 0), (22, .getfield 141, 25, 0), (25, .iload_n 1, 26, 0), (26, .invokevirtual 213, 29, 0), (29, .ireturn, 30, 0)])
theorem o_X7_clubs : zk_ok m_X7_clubs := (by decide +kernel : m_X7_clubs.2.2.2.2.all (zk_chk m_X7_clubs.2.1) = true)
def m_X7_meet : zk_Mt := (⟨"NamedNext", "meet", "(II)I"⟩, prog_1_method_25_code, 4, some .int, [(0, .aload_n 0, 1, 0), (1, .getfield 19, 4, 0), (4, .iload_n 1, 5, 0), (5, .invokevirtual 132, 8, 0), (8, .ifCond .eq 19, 11, 27), (11, .aload_n 0, 12, 0), (12, .getfield 19, 15, 0), (15, .iload_n 2, 16, 0), (16, .invokevirtual 132, 19, 0), (19, .ifCond .eq 8, 22, 27), (22, .iload_n 1, 23, 0), (23, .iload_n 2, 24, 0), (24, .if_icmp .ne 6, 27, 30), (27, .bipush (-2), 29, 0), (29, .ireturn, 30, 0), (30, .aload_n 0, 31, 0), (31, .getfield 55, 34, 0), (34, .aload_n 0, 35, 0), (35, .getfield 35, 38, 0), (38, .iload_n 1, 39, 0), (39, .aload_n 0, 40, 0), (40, .getfield 59, 43, 0), (43, .invokevirtual 216, 46, 0), (46, .aload_n 0, 47, 0), (47, .getfield 55, 50, 0), (50, .aload_n 0, 51, 0), (51, .getfield 35, 54, 0), (54, .iload_n 2, 55, 0), (55, .aload_n 0, 56, 0), (56, .getfield 63, 59, 0), (59, .invokevirtual 216, 62, 0), (62, .iconst 0, 63, 0), (63, .istore_n 3, 64, 0), (64, .iload_n 3, 65, 0), (65, .bipush 8, 67, 0), (67, .if_icmp .ge 27, 70, 94), (70, .aload_n 0, 71, 0), (71, .getfield 59, 74, 0), (74, .iload_n 3, 75, 0), (75, .iaload, 76, 0), (76, .aload_n 0, 77, 0), (77, .getfield 63, 80, 0), (80, .iload_n 3, 81, 0), (81, .iaload, 82, 0), (82, .iand, 83, 0), (83, .ifCond .eq 5, 86, 88), (86, .iload_n 3, 87, 0), (87, .ireturn, 88, 0), (88, .iinc 3 1, 91, 0), (91, .goto (-27), 94, 64), (94, .iconst (-1), 95, 0), (95, .ireturn, 96, 0)])
theorem o_X7_meet : zk_ok m_X7_meet := (by decide +kernel : m_X7_meet.2.2.2.2.all (zk_chk m_X7_meet.2.1) = true)
def m_X7_slip : zk_Mt := (⟨"NamedNext", "slip", "(II)I"⟩, prog_1_method_26_code, 3, some .int, [(0, .aload_n 0, 1, 0), (1, .getfield 19, 4, 0), (4, .iload_n 1, 5, 0), (5, .invokevirtual 109, 8, 0), (8, .ifCond .eq 19, 11, 27), (11, .aload_n 0, 12, 0), (12, .getfield 19, 15, 0), (15, .iload_n 2, 16, 0), (16, .invokevirtual 109, 19, 0), (19, .ifCond .eq 8, 22, 27), (22, .iload_n 1, 23, 0), (23, .iload_n 2, 24, 0), (24, .if_icmp .ne 6, 27, 30), (27, .bipush (-2), 29, 0), (29, .ireturn, 30, 0), (30, .aload_n 0, 31, 0), (31, .getfield 69, 34, 0), (34, .iload_n 1, 35, 0), (35, .iload_n 2, 36, 0), (36, .invokevirtual 220, 39, 0), (39, .ifCond .eq 13, 42, 52), (42, .aload_n 0, 43, 0), (43, .getfield 69, 46, 0), (46, .getfield 103, 49, 0), (49, .goto 5, 52, 54), (52, .bipush (-5), 54, 0), (54, .ireturn, 55, 0)])
theorem o_X7_slip : zk_ok m_X7_slip := (by decide +kernel : m_X7_slip.2.2.2.2.all (zk_chk m_X7_slip.2.1) = true)
def m_X7_burn : zk_Mt := (⟨"NamedNext", "burn", "()I"⟩, prog_1_method_27_code, 2, some .int, [(0, .aload_n 0, 1, 0), (1, .getfield 69, 4, 0), (4, .getfield 103, 7, 0), (7, .istore_n 1, 8, 0), (8, .aload_n 0, 9, 0), (9, .getfield 69, 12, 0), (12, .iconst 0, 13, 0), (13, .putfield 103, 16, 0), (16, .iload_n 1, 17, 0), (17, .ireturn, 18, 0)])
theorem o_X7_burn : zk_ok m_X7_burn := (by decide +kernel : m_X7_burn.2.2.2.2.all (zk_chk m_X7_burn.2.1) = true)
def m_X7_forged : zk_Mt := (⟨"NamedNext", "forged", "(I)I"⟩, prog_1_method_28_code, 3, some .int, [(0, .iload_n 1, 1, 0), (1, .ifCond .eq 11, 4, 12), (4, .iload_n 1, 5, 0), (5, .iconst 1, 6, 0), (6, .if_icmp .eq 6, 9, 12), (9, .bipush (-3), 11, 0), (11, .ireturn, 12, 0), (12, .aload_n 0, 13, 0), (13, .getfield 69, 16, 0), (16, .aload_n 0, 17, 0), (17, .getfield 19, 20, 0), (20, .invokevirtual 223, 23, 0), (23, .istore_n 2, 24, 0), (24, .iload_n 1, 25, 0), (25, .ifCond .ne 10, 28, 35), (28, .iload_n 2, 29, 0), (29, .invokestatic 175, 32, 0), (32, .goto 4, 35, 36), (35, .iload_n 2, 36, 0), (36, .ireturn, 37, 0)])
theorem o_X7_forged : zk_ok m_X7_forged := (by decide +kernel : m_X7_forged.2.2.2.2.all (zk_chk m_X7_forged.2.1) = true)
def m_X7_holder : zk_Mt := (⟨"NamedNext", "holder", "()I"⟩, prog_1_method_29_code, 1, some .int, [(0, .aload_n 0, 1, 0), (1, .getfield 69, 4, 0), (4, .aload_n 0, 5, 0), (5, .getfield 69, 8, 0), (8, .aload_n 0, 9, 0), (9, .getfield 19, 12, 0), (12, .invokevirtual 223, 15, 0), (15, .invokevirtual 226, 18, 0), (18, .ireturn, 19, 0)])
theorem o_X7_holder : zk_ok m_X7_holder := (by decide +kernel : m_X7_holder.2.2.2.2.all (zk_chk m_X7_holder.2.1) = true)
def m_X7_count : zk_Mt := (⟨"NamedNext", "count", "(I)I"⟩, prog_1_method_30_code, 2, some .int, [(0, .iload_n 1, 1, 0), (1, .tableswitch 117 0 8 #[51, 59, 67, 75, 83, 88, 96, 101, 109], 52, 0), (52, .aload_n 0, 53, 0), (53, .getfield 19, 56, 0), (56, .getfield 229, 59, 0), (59, .ireturn, 60, 0), (60, .aload_n 0, 61, 0), (61, .getfield 19, 64, 0), (64, .getfield 232, 67, 0), (67, .ireturn, 68, 0), (68, .aload_n 0, 69, 0), (69, .getfield 35, 72, 0), (72, .getfield 141, 75, 0), (75, .ireturn, 76, 0), (76, .aload_n 0, 77, 0), (77, .getfield 19, 80, 0), (80, .invokevirtual 235, 83, 0), (83, .ireturn, 84, 0), (84, .aload_n 0, 85, 0), (85, .invokevirtual 238, 88, 0), (88, .ireturn, 89, 0), (89, .aload_n 0, 90, 0), (90, .getfield 69, 93, 0), (93, .getfield 103, 96, 0), (96, .ireturn, 97, 0), (97, .aload_n 0, 98, 0), (98, .invokevirtual 241, 101, 0), (101, .ireturn, 102, 0), (102, .aload_n 0, 103, 0), (103, .getfield 42, 106, 0), (106, .getfield 180, 109, 0), (109, .ireturn, 110, 0), (110, .aload_n 0, 111, 0), (111, .getfield 10, 114, 0), (114, .getfield 77, 117, 0), (117, .ireturn, 118, 0), (118, .bipush (-3), 120, 0), (120, .ireturn, 121, 0)])
theorem o_X7_count : zk_ok m_X7_count := (by decide +kernel : m_X7_count.2.2.2.2.all (zk_chk m_X7_count.2.1) = true)
def m_X7_hasBit : zk_Mt := (⟨"NamedNext", "hasBit", "(II)Z"⟩, prog_1_method_31_code, 2, some .boolean, [(0, .iload_n 0, 1, 0), (1, .iload_n 1, 2, 0), (2, .ishr, 3, 0), (3, .iconst 1, 4, 0), (4, .iand, 5, 0), (5, .iconst 1, 6, 0), (6, .if_icmp .ne 7, 9, 13), (9, .iconst 1, 10, 0), (10, .goto 4, 13, 14), (13, .iconst 0, 14, 0), (14, .ireturn, 15, 0)])
theorem o_X7_hasBit : zk_ok m_X7_hasBit := (by decide +kernel : m_X7_hasBit.2.2.2.2.all (zk_chk m_X7_hasBit.2.1) = true)
def m_X7_leastOf : zk_Mt := (⟨"NamedNext", "leastOf", "(I)I"⟩, prog_1_method_32_code, 2, some .int, [(0, .iconst 0, 1, 0), (1, .istore_n 1, 2, 0), (2, .iload_n 1, 3, 0), (3, .bipush 8, 5, 0), (5, .if_icmp .ge 19, 8, 24), (8, .iload_n 0, 9, 0), (9, .iload_n 1, 10, 0), (10, .invokestatic 156, 13, 0), (13, .ifCond .eq 5, 16, 18), (16, .iload_n 1, 17, 0), (17, .ireturn, 18, 0), (18, .iinc 1 1, 21, 0), (21, .goto (-19), 24, 2), (24, .iconst (-1), 25, 0), (25, .ireturn, 26, 0)])
theorem o_X7_leastOf : zk_ok m_X7_leastOf := (by decide +kernel : m_X7_leastOf.2.2.2.2.all (zk_chk m_X7_leastOf.2.1) = true)
def m_X7_lowestTerms : zk_Mt := (⟨"NamedNext", "lowestTerms", "(JJI)J"⟩, prog_1_method_33_code, 12, some .long, [(0, .lload_n 2, 1, 0), (1, .lstore 5, 3, 0), (3, .lload_n 0, 4, 0), (4, .lstore 7, 6, 0), (6, .iconst 0, 7, 0), (7, .istore 9, 9, 0), (9, .iload 9, 11, 0), (11, .bipush 100, 13, 0), (13, .if_icmp .ge 31, 16, 44), (16, .lload 7, 18, 0), (18, .lconst 0, 19, 0), (19, .lcmp, 20, 0), (20, .ifCond .eq 24, 23, 44), (23, .lload 5, 25, 0), (25, .lload 7, 27, 0), (27, .lrem, 28, 0), (28, .lstore 10, 30, 0), (30, .lload 7, 32, 0), (32, .lstore 5, 34, 0), (34, .lload 10, 36, 0), (36, .lstore 7, 38, 0), (38, .iinc 9 1, 41, 0), (41, .goto (-32), 44, 9), (44, .lload 5, 46, 0), (46, .lconst 0, 47, 0), (47, .lcmp, 48, 0), (48, .ifCond .ne 7, 51, 55), (51, .ldc2_w 196, 54, 0), (54, .lreturn, 55, 0), (55, .iload 4, 57, 0), (57, .ifCond .ne 7, 60, 64), (60, .lload_n 0, 61, 0), (61, .goto 4, 64, 65), (64, .lload_n 2, 65, 0), (65, .lload 5, 67, 0), (67, .ldiv, 68, 0), (68, .lreturn, 69, 0)])
theorem o_X7_lowestTerms : zk_ok m_X7_lowestTerms := (by decide +kernel : m_X7_lowestTerms.2.2.2.2.all (zk_chk m_X7_lowestTerms.2.1) = true)
def m_X7_namableNow : zk_Mt := (⟨"NamedNext", "namableNow", "(I)I"⟩, prog_1_method_34_code, 2, some .int, [(0, .aload_n 0, 1, 0), (1, .getfield 19, 4, 0), (4, .aload_n 0, 5, 0), (5, .getfield 35, 8, 0), (8, .getfield 135, 11, 0), (11, .iload_n 1, 12, 0), (12, .iaload, 13, 0), (13, .aload_n 0, 14, 0), (14, .getfield 35, 17, 0), (17, .getfield 141, 20, 0), (20, .invokevirtual 160, 23, 0), (23, .aload_n 0, 24, 0), (24, .getfield 35, 27, 0), (27, .getfield 138, 30, 0), (30, .iload_n 1, 31, 0), (31, .iaload, 32, 0), (32, .iconst (-1), 33, 0), (33, .ixor, 34, 0), (34, .iand, 35, 0), (35, .ireturn, 36, 0)])
theorem o_X7_namableNow : zk_ok m_X7_namableNow := (by decide +kernel : m_X7_namableNow.2.2.2.2.all (zk_chk m_X7_namableNow.2.1) = true)
def m_X7_isWalled : zk_Mt := (⟨"NamedNext", "isWalled", "(I)Z"⟩, prog_1_method_35_code, 2, some .boolean, [(0, .aload_n 0, 1, 0), (1, .iload_n 1, 2, 0), (2, .invokevirtual 164, 5, 0), (5, .ifCond .ne 7, 8, 12), (8, .iconst 1, 9, 0), (9, .goto 4, 12, 13), (12, .iconst 0, 13, 0), (13, .ireturn, 14, 0)])
theorem o_X7_isWalled : zk_ok m_X7_isWalled := (by decide +kernel : m_X7_isWalled.2.2.2.2.all (zk_chk m_X7_isWalled.2.1) = true)
def m_X7_walledBooks : zk_Mt := (⟨"NamedNext", "walledBooks", "()I"⟩, prog_1_method_36_code, 3, some .int, [(0, .iconst 0, 1, 0), (1, .istore_n 1, 2, 0), (2, .iconst 0, 3, 0), (3, .istore_n 2, 4, 0), (4, .iload_n 2, 5, 0), (5, .aload_n 0, 6, 0), (6, .getfield 19, 9, 0), (9, .getfield 232, 12, 0), (12, .if_icmp .ge 23, 15, 35), (15, .aload_n 0, 16, 0), (16, .iload_n 2, 17, 0), (17, .invokevirtual 147, 20, 0), (20, .ifCond .eq 9, 23, 29), (23, .iload_n 1, 24, 0), (24, .iconst 1, 25, 0), (25, .iload_n 2, 26, 0), (26, .ishl, 27, 0), (27, .ior, 28, 0), (28, .istore_n 1, 29, 0), (29, .iinc 2 1, 32, 0), (32, .goto (-28), 35, 4), (35, .iload_n 1, 36, 0), (36, .ireturn, 37, 0)])
theorem o_X7_walledBooks : zk_ok m_X7_walledBooks := (by decide +kernel : m_X7_walledBooks.2.2.2.2.all (zk_chk m_X7_walledBooks.2.1) = true)
def m_X7_booksHeldBy : zk_Mt := (⟨"NamedNext", "booksHeldBy", "(I)I"⟩, prog_1_method_37_code, 4, some .int, [(0, .iconst 0, 1, 0), (1, .istore_n 2, 2, 0), (2, .iconst 0, 3, 0), (3, .istore_n 3, 4, 0), (4, .iload_n 3, 5, 0), (5, .aload_n 0, 6, 0), (6, .getfield 19, 9, 0), (9, .getfield 232, 12, 0), (12, .if_icmp .ge 28, 15, 40), (15, .aload_n 0, 16, 0), (16, .getfield 35, 19, 0), (19, .getfield 135, 22, 0), (22, .iload_n 3, 23, 0), (23, .iaload, 24, 0), (24, .iload_n 1, 25, 0), (25, .if_icmp .ne 9, 28, 34), (28, .iload_n 2, 29, 0), (29, .iconst 1, 30, 0), (30, .iload_n 3, 31, 0), (31, .ishl, 32, 0), (32, .ior, 33, 0), (33, .istore_n 2, 34, 0), (34, .iinc 3 1, 37, 0), (37, .goto (-33), 40, 4), (40, .iload_n 2, 41, 0), (41, .ireturn, 42, 0)])
theorem o_X7_booksHeldBy : zk_ok m_X7_booksHeldBy := (by decide +kernel : m_X7_booksHeldBy.2.2.2.2.all (zk_chk m_X7_booksHeldBy.2.1) = true)
def m_X7_booksHadBy : zk_Mt := (⟨"NamedNext", "booksHadBy", "(I)I"⟩, prog_1_method_38_code, 4, some .int, [(0, .iconst 0, 1, 0), (1, .istore_n 2, 2, 0), (2, .iconst 0, 3, 0), (3, .istore_n 3, 4, 0), (4, .iload_n 3, 5, 0), (5, .aload_n 0, 6, 0), (6, .getfield 19, 9, 0), (9, .getfield 232, 12, 0), (12, .if_icmp .ge 31, 15, 43), (15, .aload_n 0, 16, 0), (16, .getfield 35, 19, 0), (19, .getfield 138, 22, 0), (22, .iload_n 3, 23, 0), (23, .iaload, 24, 0), (24, .iload_n 1, 25, 0), (25, .invokestatic 156, 28, 0), (28, .ifCond .eq 9, 31, 37), (31, .iload_n 2, 32, 0), (32, .iconst 1, 33, 0), (33, .iload_n 3, 34, 0), (34, .ishl, 35, 0), (35, .ior, 36, 0), (36, .istore_n 2, 37, 0), (37, .iinc 3 1, 40, 0), (40, .goto (-36), 43, 4), (43, .iload_n 2, 44, 0), (44, .ireturn, 45, 0)])
theorem o_X7_booksHadBy : zk_ok m_X7_booksHadBy := (by decide +kernel : m_X7_booksHadBy.2.2.2.2.all (zk_chk m_X7_booksHadBy.2.1) = true)
def m_X7_namings : zk_Mt := (⟨"NamedNext", "namings", "()I"⟩, prog_1_method_39_code, 3, some .int, [(0, .iconst 0, 1, 0), (1, .istore_n 1, 2, 0), (2, .iconst 0, 3, 0), (3, .istore_n 2, 4, 0), (4, .iload_n 2, 5, 0), (5, .aload_n 0, 6, 0), (6, .getfield 19, 9, 0), (9, .getfield 232, 12, 0), (12, .if_icmp .ge 26, 15, 38), (15, .iload_n 1, 16, 0), (16, .aload_n 0, 17, 0), (17, .getfield 35, 20, 0), (20, .getfield 138, 23, 0), (23, .iload_n 2, 24, 0), (24, .iaload, 25, 0), (25, .invokestatic 175, 28, 0), (28, .iconst 1, 29, 0), (29, .isub, 30, 0), (30, .iadd, 31, 0), (31, .istore_n 1, 32, 0), (32, .iinc 2 1, 35, 0), (35, .goto (-31), 38, 4), (38, .iload_n 1, 39, 0), (39, .ireturn, 40, 0)])
theorem o_X7_namings : zk_ok m_X7_namings := (by decide +kernel : m_X7_namings.2.2.2.2.all (zk_chk m_X7_namings.2.1) = true)
end
section
def m_X8_init : zk_Mt := (⟨"NamedNextModel", "<init>", "()V"⟩, prog_10_method_1_code, 1, none, [(0, .aload_n 0, 1, 0), (1, .invokespecial 1, 4, 0), (4, .aload_n 0, 5, 0), (5, .sipush 160, 8, 0), (8, .newarray .int, 10, 0), (10, .putfield 7, 13, 0), (13, .aload_n 0, 14, 0), (14, .bipush 38, 16, 0), (16, .newarray .int, 18, 0), (18, .putfield 13, 21, 0), (21, .aload_n 0, 22, 0), (22, .bipush 38, 24, 0), (24, .newarray .int, 26, 0), (26, .putfield 16, 29, 0), (29, .aload_n 0, 30, 0), (30, .bipush 14, 32, 0), (32, .newarray .int, 34, 0), (34, .putfield 19, 37, 0), (37, .aload_n 0, 38, 0), (38, .bipush 112, 40, 0), (40, .newarray .int, 42, 0), (42, .putfield 22, 45, 0), (45, .aload_n 0, 46, 0), (46, .bipush 28, 48, 0), (48, .newarray .int, 50, 0), (50, .putfield 25, 53, 0), (53, .aload_n 0, 54, 0), (54, .iconst 2, 55, 0), (55, .newarray .boolean, 57, 0), (57, .putfield 28, 60, 0), (60, .aload_n 0, 61, 0), (61, .bipush 8, 63, 0), (63, .newarray .int, 65, 0), (65, .putfield 32, 68, 0), (68, .aload_n 0, 69, 0), (69, .sipush 2048, 72, 0), (72, .newarray .int, 74, 0), (74, .putfield 35, 77, 0), (77, .aload_n 0, 78, 0), (78, .sipush 2048, 81, 0), (81, .newarray .int, 83, 0), (83, .putfield 38, 86, 0), (86, .aload_n 0, 87, 0), (87, .sipush 2048, 90, 0), (90, .newarray .int, 92, 0), (92, .putfield 41, 95, 0), (95, .aload_n 0, 96, 0), (96, .sipush 2048, 99, 0), (99, .newarray .int, 101, 0), (101, .putfield 44, 104, 0), (104, .aload_n 0, 105, 0), (105, .sipush 2048, 108, 0), (108, .newarray .int, 110, 0), (110, .putfield 47, 113, 0), (113, .aload_n 0, 114, 0), (114, .sipush 2048, 117, 0), (117, .newarray .int, 119, 0), (119, .putfield 50, 122, 0), (122, .aload_n 0, 123, 0), (123, .sipush 2048, 126, 0), (126, .newarray .boolean, 128, 0), (128, .putfield 53, 131, 0), (131, .aload_n 0, 132, 0), (132, .sipush 2048, 135, 0), (135, .newarray .long, 137, 0), (137, .putfield 56, 140, 0), (140, .aload_n 0, 141, 0), (141, .bipush 8, 143, 0), (143, .newarray .int, 145, 0), (145, .putfield 60, 148, 0), (148, .return_, 149, 0)])
theorem o_X8_init_0 : ((m_X8_init.2.2.2.2.drop (40 * 0)).take 40).all (zk_chk m_X8_init.2.1) = true := by decide +kernel
theorem o_X8_init_1 : ((m_X8_init.2.2.2.2.drop (40 * 1)).take 40).all (zk_chk m_X8_init.2.1) = true := by decide +kernel
theorem o_X8_init : zk_ok m_X8_init := zk_ok_ch 40 2 (fun i hi => by
  match i, hi with
  | 0, _ => exact o_X8_init_0
  | 1, _ => exact o_X8_init_1
  | i + 2, h => exact absurd h (by omega)) (by decide +kernel)
def m_X8_in : zk_Mt := (⟨"NamedNextModel", "in", "(III)Z"⟩, prog_10_method_3_code, 3, some .boolean, [(0, .iload_n 0, 1, 0), (1, .iload_n 1, 2, 0), (2, .if_icmp .lt 12, 5, 14), (5, .iload_n 0, 6, 0), (6, .iload_n 2, 7, 0), (7, .if_icmp .gt 7, 10, 14), (10, .iconst 1, 11, 0), (11, .goto 4, 14, 15), (14, .iconst 0, 15, 0), (15, .ireturn, 16, 0)])
theorem o_X8_in : zk_ok m_X8_in := (by decide +kernel : m_X8_in.2.2.2.2.all (zk_chk m_X8_in.2.1) = true)
def m_X8_isReader : zk_Mt := (⟨"NamedNextModel", "isReader", "(I)Z"⟩, prog_10_method_4_code, 2, some .boolean, [(0, .iload_n 1, 1, 0), (1, .iconst 0, 2, 0), (2, .aload_n 0, 3, 0), (3, .getfield 13, 6, 0), (6, .iconst 0, 7, 0), (7, .iaload, 8, 0), (8, .iconst 1, 9, 0), (9, .isub, 10, 0), (10, .invokestatic 63, 13, 0), (13, .ireturn, 14, 0)])
theorem o_X8_isReader : zk_ok m_X8_isReader := (by decide +kernel : m_X8_isReader.2.2.2.2.all (zk_chk m_X8_isReader.2.1) = true)
def m_X8_isBook : zk_Mt := (⟨"NamedNextModel", "isBook", "(I)Z"⟩, prog_10_method_5_code, 2, some .boolean, [(0, .iload_n 1, 1, 0), (1, .iconst 0, 2, 0), (2, .aload_n 0, 3, 0), (3, .getfield 13, 6, 0), (6, .iconst 1, 7, 0), (7, .iaload, 8, 0), (8, .iconst 1, 9, 0), (9, .isub, 10, 0), (10, .invokestatic 63, 13, 0), (13, .ireturn, 14, 0)])
theorem o_X8_isBook : zk_ok m_X8_isBook := (by decide +kernel : m_X8_isBook.2.2.2.2.all (zk_chk m_X8_isBook.2.1) = true)
def m_X8_ones : zk_Mt := (⟨"NamedNextModel", "ones", "(I)I"⟩, prog_10_method_6_code, 3, some .int, [(0, .iconst 0, 1, 0), (1, .istore_n 1, 2, 0), (2, .iconst 0, 3, 0), (3, .istore_n 2, 4, 0), (4, .iload_n 2, 5, 0), (5, .bipush 8, 7, 0), (7, .if_icmp .ge 17, 10, 24), (10, .iload_n 1, 11, 0), (11, .iload_n 0, 12, 0), (12, .iload_n 2, 13, 0), (13, .ishr, 14, 0), (14, .iconst 1, 15, 0), (15, .iand, 16, 0), (16, .iadd, 17, 0), (17, .istore_n 1, 18, 0), (18, .iinc 2 1, 21, 0), (21, .goto (-17), 24, 4), (24, .iload_n 1, 25, 0), (25, .ireturn, 26, 0)])
theorem o_X8_ones : zk_ok m_X8_ones := (by decide +kernel : m_X8_ones.2.2.2.2.all (zk_chk m_X8_ones.2.1) = true)
def m_X8_write : zk_Mt := (⟨"NamedNextModel", "write", "(I)I"⟩, prog_10_method_7_code, 2, some .int, [(0, .iload_n 1, 1, 0), (1, .iconst 0, 2, 0), (2, .sipush 255, 5, 0), (5, .invokestatic 63, 8, 0), (8, .ifCond .ne 6, 11, 14), (11, .bipush (-3), 13, 0), (13, .ireturn, 14, 0), (14, .aload_n 0, 15, 0), (15, .getfield 67, 18, 0), (18, .sipush 160, 21, 0), (21, .if_icmp .ne 6, 24, 27), (24, .bipush (-5), 26, 0), (26, .ireturn, 27, 0), (27, .aload_n 0, 28, 0), (28, .getfield 7, 31, 0), (31, .aload_n 0, 32, 0), (32, .getfield 67, 35, 0), (35, .iload_n 1, 36, 0), (36, .iastore, 37, 0), (37, .aload_n 0, 38, 0), (38, .dup, 39, 0), (39, .getfield 67, 42, 0), (42, .iconst 1, 43, 0), (43, .iadd, 44, 0), (44, .putfield 67, 47, 0), (47, .aload_n 0, 48, 0), (48, .getfield 67, 51, 0), (51, .ireturn, 52, 0)])
theorem o_X8_write : zk_ok m_X8_write := (by decide +kernel : m_X8_write.2.2.2.2.all (zk_chk m_X8_write.2.1) = true)
def m_X8_erase : zk_Mt := (⟨"NamedNextModel", "erase", "()I"⟩, prog_10_method_8_code, 2, some .int, [(0, .aload_n 0, 1, 0), (1, .getfield 67, 4, 0), (4, .istore_n 1, 5, 0), (5, .aload_n 0, 6, 0), (6, .iconst 0, 7, 0), (7, .putfield 67, 10, 0), (10, .iload_n 1, 11, 0), (11, .ireturn, 12, 0)])
theorem o_X8_erase : zk_ok m_X8_erase := (by decide +kernel : m_X8_erase.2.2.2.2.all (zk_chk m_X8_erase.2.1) = true)
def m_X8_letterAt : zk_Mt := (⟨"NamedNextModel", "letterAt", "(I)I"⟩, prog_10_method_9_code, 2, some .int, [(0, .iload_n 1, 1, 0), (1, .aload_n 0, 2, 0), (2, .getfield 67, 5, 0), (5, .if_icmp .ge 12, 8, 17), (8, .aload_n 0, 9, 0), (9, .getfield 7, 12, 0), (12, .iload_n 1, 13, 0), (13, .iaload, 14, 0), (14, .goto 4, 17, 18), (17, .iconst (-1), 18, 0), (18, .ireturn, 19, 0)])
theorem o_X8_letterAt : zk_ok m_X8_letterAt := (by decide +kernel : m_X8_letterAt.2.2.2.2.all (zk_chk m_X8_letterAt.2.1) = true)
def m_X8_isLetter : zk_Mt := (⟨"NamedNextModel", "isLetter", "(I)Z"⟩, prog_10_method_10_code, 1, some .boolean, [(0, .iload_n 0, 1, 0), (1, .bipush 97, 3, 0), (3, .bipush 122, 5, 0), (5, .invokestatic 63, 8, 0), (8, .ireturn, 9, 0)])
theorem o_X8_isLetter : zk_ok m_X8_isLetter := (by decide +kernel : m_X8_isLetter.2.2.2.2.all (zk_chk m_X8_isLetter.2.1) = true)
def m_X8_isDigit : zk_Mt := (⟨"NamedNextModel", "isDigit", "(I)Z"⟩, prog_10_method_11_code, 1, some .boolean, [(0, .iload_n 0, 1, 0), (1, .bipush 48, 3, 0), (3, .bipush 57, 5, 0), (5, .invokestatic 63, 8, 0), (8, .ireturn, 9, 0)])
theorem o_X8_isDigit : zk_ok m_X8_isDigit := (by decide +kernel : m_X8_isDigit.2.2.2.2.all (zk_chk m_X8_isDigit.2.1) = true)
def m_X8_token : zk_Mt := (⟨"NamedNextModel", "token", "()V"⟩, prog_10_method_12_code, 2, none, [(0, .aload_n 0, 1, 0), (1, .aload_n 0, 2, 0), (2, .getfield 71, 5, 0), (5, .invokevirtual 74, 8, 0), (8, .bipush 32, 10, 0), (10, .if_icmp .ne 16, 13, 26), (13, .aload_n 0, 14, 0), (14, .dup, 15, 0), (15, .getfield 71, 18, 0), (18, .iconst 1, 19, 0), (19, .iadd, 20, 0), (20, .putfield 71, 23, 0), (23, .goto (-23), 26, 0), (26, .aload_n 0, 27, 0), (27, .aload_n 0, 28, 0), (28, .getfield 71, 31, 0), (31, .putfield 78, 34, 0), (34, .aload_n 0, 35, 0), (35, .aload_n 0, 36, 0), (36, .getfield 71, 39, 0), (39, .invokevirtual 74, 42, 0), (42, .istore_n 1, 43, 0), (43, .aload_n 0, 44, 0), (44, .iload_n 1, 45, 0), (45, .ifCond .ge 7, 48, 52), (48, .iconst 0, 49, 0), (49, .goto 26, 52, 75), (52, .iload_n 1, 53, 0), (53, .invokestatic 81, 56, 0), (56, .ifCond .eq 7, 59, 63), (59, .iconst 1, 60, 0), (60, .goto 15, 63, 75), (63, .iload_n 1, 64, 0), (64, .invokestatic 85, 67, 0), (67, .ifCond .eq 7, 70, 74), (70, .iconst 2, 71, 0), (71, .goto 4, 74, 75), (74, .iconst 3, 75, 0), (75, .putfield 88, 78, 0), (78, .aload_n 0, 79, 0), (79, .iconst 0, 80, 0), (80, .putfield 91, 83, 0), (83, .aload_n 0, 84, 0), (84, .getfield 88, 87, 0), (87, .iconst 1, 88, 0), (88, .if_icmp .ne 30, 91, 118), (91, .aload_n 0, 92, 0), (92, .aload_n 0, 93, 0), (93, .getfield 71, 96, 0), (96, .invokevirtual 74, 99, 0), (99, .invokestatic 81, 102, 0), (102, .ifCond .eq 16, 105, 118), (105, .aload_n 0, 106, 0), (106, .dup, 107, 0), (107, .getfield 71, 110, 0), (110, .iconst 1, 111, 0), (111, .iadd, 112, 0), (112, .putfield 71, 115, 0), (115, .goto (-32), 118, 83), (118, .aload_n 0, 119, 0), (119, .getfield 88, 122, 0), (122, .iconst 2, 123, 0), (123, .if_icmp .ne 72, 126, 195), (126, .aload_n 0, 127, 0), (127, .aload_n 0, 128, 0), (128, .getfield 71, 131, 0), (131, .invokevirtual 74, 134, 0), (134, .invokestatic 85, 137, 0), (137, .ifCond .eq 58, 140, 195), (140, .aload_n 0, 141, 0), (141, .aload_n 0, 142, 0), (142, .getfield 71, 145, 0), (145, .aload_n 0, 146, 0), (146, .getfield 78, 149, 0), (149, .isub, 150, 0), (150, .iconst 2, 151, 0), (151, .if_icmp .ge 26, 154, 177), (154, .bipush 10, 156, 0), (156, .aload_n 0, 157, 0), (157, .getfield 91, 160, 0), (160, .imul, 161, 0), (161, .aload_n 0, 162, 0), (162, .getfield 7, 165, 0), (165, .aload_n 0, 166, 0), (166, .getfield 71, 169, 0), (169, .iaload, 170, 0), (170, .iadd, 171, 0), (171, .bipush 48, 173, 0), (173, .isub, 174, 0), (174, .goto 5, 177, 179), (177, .bipush 100, 179, 0), (179, .putfield 91, 182, 0), (182, .aload_n 0, 183, 0), (183, .dup, 184, 0), (184, .getfield 71, 187, 0), (187, .iconst 1, 188, 0), (188, .iadd, 189, 0), (189, .putfield 71, 192, 0), (192, .goto (-74), 195, 118), (195, .aload_n 0, 196, 0), (196, .dup, 197, 0), (197, .getfield 71, 200, 0), (200, .aload_n 0, 201, 0), (201, .getfield 88, 204, 0), (204, .iconst 3, 205, 0), (205, .if_icmp .ne 7, 208, 212), (208, .iconst 1, 209, 0), (209, .goto 4, 212, 213), (212, .iconst 0, 213, 0), (213, .iadd, 214, 0), (214, .putfield 71, 217, 0), (217, .return_, 218, 0)])
theorem o_X8_token_0 : ((m_X8_token.2.2.2.2.drop (40 * 0)).take 40).all (zk_chk m_X8_token.2.1) = true := by decide +kernel
theorem o_X8_token_1 : ((m_X8_token.2.2.2.2.drop (40 * 1)).take 40).all (zk_chk m_X8_token.2.1) = true := by decide +kernel
theorem o_X8_token_2 : ((m_X8_token.2.2.2.2.drop (40 * 2)).take 40).all (zk_chk m_X8_token.2.1) = true := by decide +kernel
theorem o_X8_token : zk_ok m_X8_token := zk_ok_ch 40 3 (fun i hi => by
  match i, hi with
  | 0, _ => exact o_X8_token_0
  | 1, _ => exact o_X8_token_1
  | 2, _ => exact o_X8_token_2
  | i + 3, h => exact absurd h (by omega)) (by decide +kernel)
def m_X8_isWord : zk_Mt := (⟨"NamedNextModel", "isWord", "(IIIIIIIII)Z"⟩, prog_10_method_13_code, 13, some .boolean, [(0, .aload_n 0, 1, 0), (1, .getfield 88, 4, 0), (4, .iconst 1, 5, 0), (5, .if_icmp .ne 21, 8, 26), (8, .aload_n 0, 9, 0), (9, .getfield 71, 12, 0), (12, .aload_n 0, 13, 0), (13, .getfield 78, 16, 0), (16, .isub, 17, 0), (17, .bipush 10, 19, 0), (19, .if_icmp .ge 7, 22, 26), (22, .iconst 1, 23, 0), (23, .goto 4, 26, 27), (26, .iconst 0, 27, 0), (27, .istore 10, 29, 0), (29, .iconst 0, 30, 0), (30, .istore 11, 32, 0), (32, .iload 11, 34, 0), (34, .bipush 9, 36, 0), (36, .if_icmp .ge 155, 39, 191), (39, .iload 10, 41, 0), (41, .ifCond .eq 150, 44, 191), (44, .iload 11, 46, 0), (46, .ifCond .ne 7, 49, 53), (49, .iload_n 1, 50, 0), (50, .goto 82, 53, 132), (53, .iload 11, 55, 0), (55, .iconst 1, 56, 0), (56, .if_icmp .ne 7, 59, 63), (59, .iload_n 2, 60, 0), (60, .goto 72, 63, 132), (63, .iload 11, 65, 0), (65, .iconst 2, 66, 0), (66, .if_icmp .ne 7, 69, 73), (69, .iload_n 3, 70, 0), (70, .goto 62, 73, 132), (73, .iload 11, 75, 0), (75, .iconst 3, 76, 0), (76, .if_icmp .ne 8, 79, 84), (79, .iload 4, 81, 0), (81, .goto 51, 84, 132), (84, .iload 11, 86, 0), (86, .iconst 4, 87, 0), (87, .if_icmp .ne 8, 90, 95), (90, .iload 5, 92, 0), (92, .goto 40, 95, 132), (95, .iload 11, 97, 0), (97, .iconst 5, 98, 0), (98, .if_icmp .ne 8, 101, 106), (101, .iload 6, 103, 0), (103, .goto 29, 106, 132), (106, .iload 11, 108, 0), (108, .bipush 6, 110, 0), (110, .if_icmp .ne 8, 113, 118), (113, .iload 7, 115, 0), (115, .goto 17, 118, 132), (118, .iload 11, 120, 0), (120, .bipush 7, 122, 0), (122, .if_icmp .ne 8, 125, 130), (125, .iload 8, 127, 0), (127, .goto 5, 130, 132), (130, .iload 9, 132, 0), (132, .istore 12, 134, 0), (134, .aload_n 0, 135, 0), (135, .getfield 78, 138, 0), (138, .iload 11, 140, 0), (140, .iadd, 141, 0), (141, .aload_n 0, 142, 0), (142, .getfield 71, 145, 0), (145, .if_icmp .ge 28, 148, 173), (148, .aload_n 0, 149, 0), (149, .getfield 7, 152, 0), (152, .aload_n 0, 153, 0), (153, .getfield 78, 156, 0), (156, .iload 11, 158, 0), (158, .iadd, 159, 0), (159, .iaload, 160, 0), (160, .iload 12, 162, 0), (162, .if_icmp .ne 7, 165, 169), (165, .iconst 1, 166, 0), (166, .goto 17, 169, 183), (169, .iconst 0, 170, 0), (170, .goto 13, 173, 183), (173, .iload 12, 175, 0), (175, .ifCond .ne 7, 178, 182), (178, .iconst 1, 179, 0), (179, .goto 4, 182, 183), (182, .iconst 0, 183, 0), (183, .istore 10, 185, 0), (185, .iinc 11 1, 188, 0), (188, .goto (-156), 191, 32), (191, .iload 10, 193, 0), (193, .ireturn, 194, 0)])
theorem o_X8_isWord_0 : ((m_X8_isWord.2.2.2.2.drop (40 * 0)).take 40).all (zk_chk m_X8_isWord.2.1) = true := by decide +kernel
theorem o_X8_isWord_1 : ((m_X8_isWord.2.2.2.2.drop (40 * 1)).take 40).all (zk_chk m_X8_isWord.2.1) = true := by decide +kernel
theorem o_X8_isWord_2 : ((m_X8_isWord.2.2.2.2.drop (40 * 2)).take 40).all (zk_chk m_X8_isWord.2.1) = true := by decide +kernel
theorem o_X8_isWord : zk_ok m_X8_isWord := zk_ok_ch 40 3 (fun i hi => by
  match i, hi with
  | 0, _ => exact o_X8_isWord_0
  | 1, _ => exact o_X8_isWord_1
  | 2, _ => exact o_X8_isWord_2
  | i + 3, h => exact absurd h (by omega)) (by decide +kernel)
def m_X8_number : zk_Mt := (⟨"NamedNextModel", "number", "(III)Z"⟩, prog_10_method_14_code, 4, some .boolean, [(0, .aload_n 0, 1, 0), (1, .invokevirtual 94, 4, 0), (4, .aload_n 0, 5, 0), (5, .getfield 16, 8, 0), (8, .iload_n 1, 9, 0), (9, .aload_n 0, 10, 0), (10, .getfield 91, 13, 0), (13, .iastore, 14, 0), (14, .aload_n 0, 15, 0), (15, .getfield 88, 18, 0), (18, .iconst 2, 19, 0), (19, .if_icmp .ne 19, 22, 38), (22, .aload_n 0, 23, 0), (23, .getfield 91, 26, 0), (26, .iload_n 2, 27, 0), (27, .iload_n 3, 28, 0), (28, .invokestatic 63, 31, 0), (31, .ifCond .eq 7, 34, 38), (34, .iconst 1, 35, 0), (35, .goto 4, 38, 39), (38, .iconst 0, 39, 0), (39, .ireturn, 40, 0)])
theorem o_X8_number : zk_ok m_X8_number := (by decide +kernel : m_X8_number.2.2.2.2.all (zk_chk m_X8_number.2.1) = true)
def m_X8_forgets : zk_Mt := (⟨"NamedNextModel", "forgets", "()V"⟩, prog_10_method_15_code, 2, none, [(0, .iconst 0, 1, 0), (1, .istore_n 1, 2, 0), (2, .iload_n 1, 3, 0), (3, .bipush 38, 5, 0), (5, .if_icmp .ge 16, 8, 21), (8, .aload_n 0, 9, 0), (9, .getfield 16, 12, 0), (12, .iload_n 1, 13, 0), (13, .iconst 0, 14, 0), (14, .iastore, 15, 0), (15, .iinc 1 1, 18, 0), (18, .goto (-16), 21, 2), (21, .return_, 22, 0)])
theorem o_X8_forgets : zk_ok m_X8_forgets := (by decide +kernel : m_X8_forgets.2.2.2.2.all (zk_chk m_X8_forgets.2.1) = true)
def m_X8_peace : zk_Mt := (⟨"NamedNextModel", "peace", "()V"⟩, prog_10_method_16_code, 2, none, [(0, .iconst 0, 1, 0), (1, .istore_n 1, 2, 0), (2, .iload_n 1, 3, 0), (3, .bipush 8, 5, 0), (5, .if_icmp .ge 19, 8, 24), (8, .aload_n 0, 9, 0), (9, .getfield 16, 12, 0), (12, .bipush 18, 14, 0), (14, .iload_n 1, 15, 0), (15, .iadd, 16, 0), (16, .iconst 0, 17, 0), (17, .iastore, 18, 0), (18, .iinc 1 1, 21, 0), (21, .goto (-19), 24, 2), (24, .return_, 25, 0)])
theorem o_X8_peace : zk_ok m_X8_peace := (by decide +kernel : m_X8_peace.2.2.2.2.all (zk_chk m_X8_peace.2.1) = true)
def m_X8_readsReader : zk_Mt := (⟨"NamedNextModel", "readsReader", "(I)Z"⟩, prog_10_method_17_code, 3, some .boolean, [(0, .aload_n 0, 1, 0), (1, .getfield 16, 4, 0), (4, .iconst 0, 5, 0), (5, .iaload, 6, 0), (6, .istore_n 2, 7, 0), (7, .iload_n 2, 8, 0), (8, .bipush 8, 10, 0), (10, .if_icmp .eq 17, 13, 27), (13, .aload_n 0, 14, 0), (14, .bipush 10, 16, 0), (16, .iload_n 2, 17, 0), (17, .iadd, 18, 0), (18, .iconst 0, 19, 0), (19, .bipush 9, 21, 0), (21, .invokevirtual 97, 24, 0), (24, .ifCond .ne 5, 27, 29), (27, .iconst 0, 28, 0), (28, .ireturn, 29, 0), (29, .aload_n 0, 30, 0), (30, .getfield 16, 33, 0), (33, .iconst 2, 34, 0), (34, .iload_n 2, 35, 0), (35, .iadd, 36, 0), (36, .iload_n 1, 37, 0), (37, .iastore, 38, 0), (38, .aload_n 0, 39, 0), (39, .getfield 16, 42, 0), (42, .bipush 26, 44, 0), (44, .iload_n 2, 45, 0), (45, .iadd, 46, 0), (46, .bipush 99, 48, 0), (48, .iastore, 49, 0), (49, .aload_n 0, 50, 0), (50, .getfield 16, 53, 0), (53, .bipush 18, 55, 0), (55, .iload_n 2, 56, 0), (56, .iadd, 57, 0), (57, .iconst 0, 58, 0), (58, .iastore, 59, 0), (59, .aload_n 0, 60, 0), (60, .getfield 16, 63, 0), (63, .iconst 0, 64, 0), (64, .dup2, 65, 0), (65, .iaload, 66, 0), (66, .iconst 1, 67, 0), (67, .iadd, 68, 0), (68, .iastore, 69, 0), (69, .iconst 1, 70, 0), (70, .ireturn, 71, 0)])
theorem o_X8_readsReader : zk_ok m_X8_readsReader := (by decide +kernel : m_X8_readsReader.2.2.2.2.all (zk_chk m_X8_readsReader.2.1) = true)
def m_X8_readsFeud : zk_Mt := (⟨"NamedNextModel", "readsFeud", "()Z"⟩, prog_10_method_18_code, 2, some .boolean, [(0, .aload_n 0, 1, 0), (1, .invokevirtual 94, 4, 0), (4, .aload_n 0, 5, 0), (5, .getfield 91, 8, 0), (8, .istore_n 1, 9, 0), (9, .aload_n 0, 10, 0), (10, .getfield 88, 13, 0), (13, .iconst 2, 14, 0), (14, .if_icmp .ne 19, 17, 33), (17, .iload_n 1, 18, 0), (18, .iconst 0, 19, 0), (19, .aload_n 0, 20, 0), (20, .getfield 16, 23, 0), (23, .iconst 0, 24, 0), (24, .iaload, 25, 0), (25, .iconst 1, 26, 0), (26, .isub, 27, 0), (27, .invokestatic 63, 30, 0), (30, .ifCond .ne 5, 33, 35), (33, .iconst 0, 34, 0), (34, .ireturn, 35, 0), (35, .aload_n 0, 36, 0), (36, .invokevirtual 94, 39, 0), (39, .aload_n 0, 40, 0), (40, .getfield 88, 43, 0), (43, .iconst 2, 44, 0), (44, .if_icmp .ne 30, 47, 74), (47, .aload_n 0, 48, 0), (48, .getfield 91, 51, 0), (51, .iconst 0, 52, 0), (52, .aload_n 0, 53, 0), (53, .getfield 16, 56, 0), (56, .iconst 0, 57, 0), (57, .iaload, 58, 0), (58, .iconst 1, 59, 0), (59, .isub, 60, 0), (60, .invokestatic 63, 63, 0), (63, .ifCond .eq 11, 66, 74), (66, .aload_n 0, 67, 0), (67, .getfield 91, 70, 0), (70, .iload_n 1, 71, 0), (71, .if_icmp .ne 5, 74, 76), (74, .iconst 0, 75, 0), (75, .ireturn, 76, 0), (76, .aload_n 0, 77, 0), (77, .getfield 16, 80, 0), (80, .bipush 18, 82, 0), (82, .iload_n 1, 83, 0), (83, .iadd, 84, 0), (84, .dup2, 85, 0), (85, .iaload, 86, 0), (86, .iconst 1, 87, 0), (87, .aload_n 0, 88, 0), (88, .getfield 91, 91, 0), (91, .ishl, 92, 0), (92, .ior, 93, 0), (93, .iastore, 94, 0), (94, .aload_n 0, 95, 0), (95, .getfield 16, 98, 0), (98, .bipush 18, 100, 0), (100, .aload_n 0, 101, 0), (101, .getfield 91, 104, 0), (104, .iadd, 105, 0), (105, .dup2, 106, 0), (106, .iaload, 107, 0), (107, .iconst 1, 108, 0), (108, .iload_n 1, 109, 0), (109, .ishl, 110, 0), (110, .ior, 111, 0), (111, .iastore, 112, 0), (112, .iconst 1, 113, 0), (113, .ireturn, 114, 0)])
theorem o_X8_readsFeud_0 : ((m_X8_readsFeud.2.2.2.2.drop (40 * 0)).take 40).all (zk_chk m_X8_readsFeud.2.1) = true := by decide +kernel
theorem o_X8_readsFeud_1 : ((m_X8_readsFeud.2.2.2.2.drop (40 * 1)).take 40).all (zk_chk m_X8_readsFeud.2.1) = true := by decide +kernel
theorem o_X8_readsFeud : zk_ok m_X8_readsFeud := zk_ok_ch 40 2 (fun i hi => by
  match i, hi with
  | 0, _ => exact o_X8_readsFeud_0
  | 1, _ => exact o_X8_readsFeud_1
  | i + 2, h => exact absurd h (by omega)) (by decide +kernel)
def m_X8_readsMove : zk_Mt := (⟨"NamedNextModel", "readsMove", "()Z"⟩, prog_10_method_19_code, 1, some .boolean, [(0, .aload_n 0, 1, 0), (1, .invokevirtual 94, 4, 0), (4, .aload_n 0, 5, 0), (5, .getfield 88, 8, 0), (8, .iconst 2, 9, 0), (9, .if_icmp .ne 43, 12, 52), (12, .aload_n 0, 13, 0), (13, .getfield 91, 16, 0), (16, .iconst 0, 17, 0), (17, .aload_n 0, 18, 0), (18, .getfield 16, 21, 0), (21, .iconst 0, 22, 0), (22, .iaload, 23, 0), (23, .iconst 1, 24, 0), (24, .isub, 25, 0), (25, .invokestatic 63, 28, 0), (28, .ifCond .eq 24, 31, 52), (31, .aload_n 0, 32, 0), (32, .bipush 26, 34, 0), (34, .aload_n 0, 35, 0), (35, .getfield 91, 38, 0), (38, .iadd, 39, 0), (39, .iconst 0, 40, 0), (40, .bipush 99, 42, 0), (42, .invokevirtual 97, 45, 0), (45, .ifCond .eq 7, 48, 52), (48, .iconst 1, 49, 0), (49, .goto 4, 52, 53), (52, .iconst 0, 53, 0), (53, .ireturn, 54, 0)])
theorem o_X8_readsMove : zk_ok m_X8_readsMove := (by decide +kernel : m_X8_readsMove.2.2.2.2.all (zk_chk m_X8_readsMove.2.1) = true)
def m_X8_readsBook : zk_Mt := (⟨"NamedNextModel", "readsBook", "()Z"⟩, prog_10_method_20_code, 2, some .boolean, [(0, .aload_n 0, 1, 0), (1, .getfield 16, 4, 0), (4, .iconst 1, 5, 0), (5, .iaload, 6, 0), (6, .istore_n 1, 7, 0), (7, .iload_n 1, 8, 0), (8, .iconst 4, 9, 0), (9, .if_icmp .eq 23, 12, 32), (12, .aload_n 0, 13, 0), (13, .bipush 34, 15, 0), (15, .iload_n 1, 16, 0), (16, .iadd, 17, 0), (17, .iconst 0, 18, 0), (18, .aload_n 0, 19, 0), (19, .getfield 16, 22, 0), (22, .iconst 0, 23, 0), (23, .iaload, 24, 0), (24, .iconst 1, 25, 0), (25, .isub, 26, 0), (26, .invokevirtual 97, 29, 0), (29, .ifCond .ne 5, 32, 34), (32, .iconst 0, 33, 0), (33, .ireturn, 34, 0), (34, .aload_n 0, 35, 0), (35, .getfield 16, 38, 0), (38, .iconst 1, 39, 0), (39, .dup2, 40, 0), (40, .iaload, 41, 0), (41, .iconst 1, 42, 0), (42, .iadd, 43, 0), (43, .iastore, 44, 0), (44, .iconst 1, 45, 0), (45, .ireturn, 46, 0)])
theorem o_X8_readsBook : zk_ok m_X8_readsBook := (by decide +kernel : m_X8_readsBook.2.2.2.2.all (zk_chk m_X8_readsBook.2.1) = true)
def m_X8_readsClause : zk_Mt := (⟨"NamedNextModel", "readsClause", "()Z"⟩, prog_10_method_21_code, 1, some .boolean, [(0, .aload_n 0, 1, 0), (1, .bipush 108, 3, 0), (3, .bipush 105, 5, 0), (5, .bipush 98, 7, 0), (7, .bipush 114, 9, 0), (9, .bipush 97, 11, 0), (11, .bipush 114, 13, 0), (13, .bipush 121, 15, 0), (15, .iconst 0, 16, 0), (16, .iconst 0, 17, 0), (17, .invokevirtual 100, 20, 0), (20, .ifCond .eq 9, 23, 29), (23, .aload_n 0, 24, 0), (24, .invokevirtual 104, 27, 0), (27, .iconst 1, 28, 0), (28, .ireturn, 29, 0), (29, .aload_n 0, 30, 0), (30, .bipush 112, 32, 0), (32, .bipush 108, 34, 0), (34, .bipush 97, 36, 0), (36, .bipush 105, 38, 0), (38, .bipush 110, 40, 0), (40, .iconst 0, 41, 0), (41, .iconst 0, 42, 0), (42, .iconst 0, 43, 0), (43, .iconst 0, 44, 0), (44, .invokevirtual 100, 47, 0), (47, .ifCond .eq 9, 50, 56), (50, .aload_n 0, 51, 0), (51, .iconst 0, 52, 0), (52, .invokevirtual 107, 55, 0), (55, .ireturn, 56, 0), (56, .aload_n 0, 57, 0), (57, .bipush 102, 59, 0), (59, .bipush 108, 61, 0), (61, .bipush 97, 63, 0), (63, .bipush 116, 65, 0), (65, .bipush 116, 67, 0), (67, .bipush 101, 69, 0), (69, .bipush 114, 71, 0), (71, .bipush 101, 73, 0), (73, .bipush 114, 75, 0), (75, .invokevirtual 100, 78, 0), (78, .ifCond .eq 9, 81, 87), (81, .aload_n 0, 82, 0), (82, .iconst 1, 83, 0), (83, .invokevirtual 107, 86, 0), (86, .ireturn, 87, 0), (87, .aload_n 0, 88, 0), (88, .bipush 98, 90, 0), (90, .bipush 108, 92, 0), (92, .bipush 105, 94, 0), (94, .bipush 110, 96, 0), (96, .bipush 100, 98, 0), (98, .iconst 0, 99, 0), (99, .iconst 0, 100, 0), (100, .iconst 0, 101, 0), (101, .iconst 0, 102, 0), (102, .invokevirtual 100, 105, 0), (105, .ifCond .eq 9, 108, 114), (108, .aload_n 0, 109, 0), (109, .iconst 2, 110, 0), (110, .invokevirtual 107, 113, 0), (113, .ireturn, 114, 0), (114, .aload_n 0, 115, 0), (115, .bipush 115, 117, 0), (117, .bipush 117, 119, 0), (119, .bipush 108, 121, 0), (121, .bipush 107, 123, 0), (123, .bipush 101, 125, 0), (125, .bipush 114, 127, 0), (127, .iconst 0, 128, 0), (128, .iconst 0, 129, 0), (129, .iconst 0, 130, 0), (130, .invokevirtual 100, 133, 0), (133, .ifCond .eq 9, 136, 142), (136, .aload_n 0, 137, 0), (137, .iconst 3, 138, 0), (138, .invokevirtual 107, 141, 0), (141, .ireturn, 142, 0), (142, .aload_n 0, 143, 0), (143, .bipush 102, 145, 0), (145, .bipush 101, 147, 0), (147, .bipush 117, 149, 0), (149, .bipush 100, 151, 0), (151, .iconst 0, 152, 0), (152, .iconst 0, 153, 0), (153, .iconst 0, 154, 0), (154, .iconst 0, 155, 0), (155, .iconst 0, 156, 0), (156, .invokevirtual 100, 159, 0), (159, .ifCond .eq 8, 162, 167), (162, .aload_n 0, 163, 0), (163, .invokevirtual 110, 166, 0), (166, .ireturn, 167, 0), (167, .aload_n 0, 168, 0), (168, .bipush 109, 170, 0), (170, .bipush 111, 172, 0), (172, .bipush 118, 174, 0), (174, .bipush 101, 176, 0), (176, .iconst 0, 177, 0), (177, .iconst 0, 178, 0), (178, .iconst 0, 179, 0), (179, .iconst 0, 180, 0), (180, .iconst 0, 181, 0), (181, .invokevirtual 100, 184, 0), (184, .ifCond .eq 8, 187, 192), (187, .aload_n 0, 188, 0), (188, .invokevirtual 114, 191, 0), (191, .ireturn, 192, 0), (192, .aload_n 0, 193, 0), (193, .bipush 98, 195, 0), (195, .bipush 111, 197, 0), (197, .bipush 111, 199, 0), (199, .bipush 107, 201, 0), (201, .iconst 0, 202, 0), (202, .iconst 0, 203, 0), (203, .iconst 0, 204, 0), (204, .iconst 0, 205, 0), (205, .iconst 0, 206, 0), (206, .invokevirtual 100, 209, 0), (209, .ifCond .eq 8, 212, 217), (212, .aload_n 0, 213, 0), (213, .invokevirtual 117, 216, 0), (216, .ireturn, 217, 0), (217, .aload_n 0, 218, 0), (218, .bipush 112, 220, 0), (220, .bipush 101, 222, 0), (222, .bipush 97, 224, 0), (224, .bipush 99, 226, 0), (226, .bipush 101, 228, 0), (228, .iconst 0, 229, 0), (229, .iconst 0, 230, 0), (230, .iconst 0, 231, 0), (231, .iconst 0, 232, 0), (232, .invokevirtual 100, 235, 0), (235, .ifCond .eq 9, 238, 244), (238, .aload_n 0, 239, 0), (239, .invokevirtual 120, 242, 0), (242, .iconst 1, 243, 0), (243, .ireturn, 244, 0), (244, .iconst 0, 245, 0), (245, .ireturn, 246, 0)])
theorem o_X8_readsClause_0 : ((m_X8_readsClause.2.2.2.2.drop (40 * 0)).take 40).all (zk_chk m_X8_readsClause.2.1) = true := by decide +kernel
theorem o_X8_readsClause_1 : ((m_X8_readsClause.2.2.2.2.drop (40 * 1)).take 40).all (zk_chk m_X8_readsClause.2.1) = true := by decide +kernel
theorem o_X8_readsClause_2 : ((m_X8_readsClause.2.2.2.2.drop (40 * 2)).take 40).all (zk_chk m_X8_readsClause.2.1) = true := by decide +kernel
theorem o_X8_readsClause_3 : ((m_X8_readsClause.2.2.2.2.drop (40 * 3)).take 40).all (zk_chk m_X8_readsClause.2.1) = true := by decide +kernel
theorem o_X8_readsClause : zk_ok m_X8_readsClause := zk_ok_ch 40 4 (fun i hi => by
  match i, hi with
  | 0, _ => exact o_X8_readsClause_0
  | 1, _ => exact o_X8_readsClause_1
  | 2, _ => exact o_X8_readsClause_2
  | 3, _ => exact o_X8_readsClause_3
  | i + 4, h => exact absurd h (by omega)) (by decide +kernel)
def m_X8_reads : zk_Mt := (⟨"NamedNextModel", "reads", "()I"⟩, prog_10_method_22_code, 3, some .int, [(0, .iconst 0, 1, 0), (1, .istore_n 1, 2, 0), (2, .iload_n 1, 3, 0), (3, .bipush 38, 5, 0), (5, .if_icmp .ge 21, 8, 26), (8, .aload_n 0, 9, 0), (9, .getfield 16, 12, 0), (12, .iload_n 1, 13, 0), (13, .aload_n 0, 14, 0), (14, .getfield 13, 17, 0), (17, .iload_n 1, 18, 0), (18, .iaload, 19, 0), (19, .iastore, 20, 0), (20, .iinc 1 1, 23, 0), (23, .goto (-21), 26, 2), (26, .aload_n 0, 27, 0), (27, .iconst 0, 28, 0), (28, .putfield 71, 31, 0), (31, .iconst 0, 32, 0), (32, .istore_n 1, 33, 0), (33, .iconst 1, 34, 0), (34, .istore_n 2, 35, 0), (35, .iload_n 2, 36, 0), (36, .ifCond .eq 70, 39, 106), (39, .aload_n 0, 40, 0), (40, .invokevirtual 94, 43, 0), (43, .aload_n 0, 44, 0), (44, .invokevirtual 123, 47, 0), (47, .ifCond .ne 5, 50, 52), (50, .iconst (-1), 51, 0), (51, .ireturn, 52, 0), (52, .iinc 1 1, 55, 0), (55, .aload_n 0, 56, 0), (56, .invokevirtual 94, 59, 0), (59, .aload_n 0, 60, 0), (60, .getfield 88, 63, 0), (63, .ifCond .eq 7, 66, 70), (66, .iconst 1, 67, 0), (67, .goto 4, 70, 71), (70, .iconst 0, 71, 0), (71, .istore_n 2, 72, 0), (72, .iload_n 2, 73, 0), (73, .ifCond .eq (-38), 76, 35), (76, .aload_n 0, 77, 0), (77, .getfield 88, 80, 0), (80, .iconst 3, 81, 0), (81, .if_icmp .ne 23, 84, 104), (84, .aload_n 0, 85, 0), (85, .getfield 7, 88, 0), (88, .aload_n 0, 89, 0), (89, .getfield 78, 92, 0), (92, .iaload, 93, 0), (93, .bipush 59, 95, 0), (95, .if_icmp .ne 9, 98, 104), (98, .iload_n 1, 99, 0), (99, .bipush 14, 101, 0), (101, .if_icmp .ne (-66), 104, 35), (104, .iconst (-1), 105, 0), (105, .ireturn, 106, 0), (106, .iload_n 1, 107, 0), (107, .ireturn, 108, 0)])
theorem o_X8_reads_0 : ((m_X8_reads.2.2.2.2.drop (40 * 0)).take 40).all (zk_chk m_X8_reads.2.1) = true := by decide +kernel
theorem o_X8_reads_1 : ((m_X8_reads.2.2.2.2.drop (40 * 1)).take 40).all (zk_chk m_X8_reads.2.1) = true := by decide +kernel
theorem o_X8_reads : zk_ok m_X8_reads := zk_ok_ch 40 2 (fun i hi => by
  match i, hi with
  | 0, _ => exact o_X8_reads_0
  | 1, _ => exact o_X8_reads_1
  | i + 2, h => exact absurd h (by omega)) (by decide +kernel)
def m_X8_fault : zk_Mt := (⟨"NamedNextModel", "fault", "()I"⟩, prog_10_method_23_code, 1, some .int, [(0, .aload_n 0, 1, 0), (1, .invokevirtual 126, 4, 0), (4, .iconst (-1), 5, 0), (5, .if_icmp .ne 10, 8, 15), (8, .aload_n 0, 9, 0), (9, .getfield 78, 12, 0), (12, .goto 4, 15, 16), (15, .iconst (-1), 16, 0), (16, .ireturn, 17, 0)])
theorem o_X8_fault : zk_ok m_X8_fault := (by decide +kernel : m_X8_fault.2.2.2.2.all (zk_chk m_X8_fault.2.1) = true)
def m_X8_library : zk_Mt := (⟨"NamedNextModel", "library", "()I"⟩, prog_10_method_24_code, 3, some .int, [(0, .aload_n 0, 1, 0), (1, .invokevirtual 126, 4, 0), (4, .istore_n 1, 5, 0), (5, .iload_n 1, 6, 0), (6, .iconst (-1), 7, 0), (7, .if_icmp .ne 6, 10, 13), (10, .bipush (-4), 12, 0), (12, .ireturn, 13, 0), (13, .iconst 0, 14, 0), (14, .istore_n 2, 15, 0), (15, .iload_n 2, 16, 0), (16, .bipush 38, 18, 0), (18, .if_icmp .ge 21, 21, 39), (21, .aload_n 0, 22, 0), (22, .getfield 13, 25, 0), (25, .iload_n 2, 26, 0), (26, .aload_n 0, 27, 0), (27, .getfield 16, 30, 0), (30, .iload_n 2, 31, 0), (31, .iaload, 32, 0), (32, .iastore, 33, 0), (33, .iinc 2 1, 36, 0), (36, .goto (-21), 39, 15), (39, .aload_n 0, 40, 0), (40, .getfield 19, 43, 0), (43, .iconst 0, 44, 0), (44, .iconst 0, 45, 0), (45, .iastore, 46, 0), (46, .aload_n 0, 47, 0), (47, .getfield 19, 50, 0), (50, .iconst 1, 51, 0), (51, .iconst 0, 52, 0), (52, .iastore, 53, 0), (53, .iconst 0, 54, 0), (54, .istore_n 2, 55, 0), (55, .iload_n 2, 56, 0), (56, .iconst 4, 57, 0), (57, .if_icmp .ge 70, 60, 127), (60, .aload_n 0, 61, 0), (61, .getfield 19, 64, 0), (64, .iconst 2, 65, 0), (65, .iload_n 2, 66, 0), (66, .iadd, 67, 0), (67, .aload_n 0, 68, 0), (68, .getfield 13, 71, 0), (71, .bipush 34, 73, 0), (73, .iload_n 2, 74, 0), (74, .iadd, 75, 0), (75, .iaload, 76, 0), (76, .iastore, 77, 0), (77, .aload_n 0, 78, 0), (78, .getfield 19, 81, 0), (81, .bipush 6, 83, 0), (83, .iload_n 2, 84, 0), (84, .iadd, 85, 0), (85, .iload_n 2, 86, 0), (86, .aload_n 0, 87, 0), (87, .getfield 13, 90, 0), (90, .iconst 1, 91, 0), (91, .iaload, 92, 0), (92, .if_icmp .ge 17, 95, 109), (95, .iconst 1, 96, 0), (96, .aload_n 0, 97, 0), (97, .getfield 13, 100, 0), (100, .bipush 34, 102, 0), (102, .iload_n 2, 103, 0), (103, .iadd, 104, 0), (104, .iaload, 105, 0), (105, .ishl, 106, 0), (106, .goto 4, 109, 110), (109, .iconst 0, 110, 0), (110, .iastore, 111, 0), (111, .aload_n 0, 112, 0), (112, .getfield 19, 115, 0), (115, .bipush 10, 117, 0), (117, .iload_n 2, 118, 0), (118, .iadd, 119, 0), (119, .iconst 0, 120, 0), (120, .iastore, 121, 0), (121, .iinc 2 1, 124, 0), (124, .goto (-69), 127, 55), (127, .aload_n 0, 128, 0), (128, .iconst 0, 129, 0), (129, .putfield 130, 132, 0), (132, .aload_n 0, 133, 0), (133, .iconst 0, 134, 0), (134, .putfield 133, 137, 0), (137, .aload_n 0, 138, 0), (138, .getfield 28, 141, 0), (141, .iconst 0, 142, 0), (142, .iconst 0, 143, 0), (143, .bastore, 144, 0), (144, .aload_n 0, 145, 0), (145, .getfield 28, 148, 0), (148, .iconst 1, 149, 0), (149, .iconst 0, 150, 0), (150, .bastore, 151, 0), (151, .aload_n 0, 152, 0), (152, .iconst 0, 153, 0), (153, .putfield 67, 156, 0), (156, .iload_n 1, 157, 0), (157, .ireturn, 158, 0)])
theorem o_X8_library_0 : ((m_X8_library.2.2.2.2.drop (40 * 0)).take 40).all (zk_chk m_X8_library.2.1) = true := by decide +kernel
theorem o_X8_library_1 : ((m_X8_library.2.2.2.2.drop (40 * 1)).take 40).all (zk_chk m_X8_library.2.1) = true := by decide +kernel
theorem o_X8_library_2 : ((m_X8_library.2.2.2.2.drop (40 * 2)).take 40).all (zk_chk m_X8_library.2.1) = true := by decide +kernel
theorem o_X8_library : zk_ok m_X8_library := zk_ok_ch 40 3 (fun i hi => by
  match i, hi with
  | 0, _ => exact o_X8_library_0
  | 1, _ => exact o_X8_library_1
  | 2, _ => exact o_X8_library_2
  | i + 3, h => exact absurd h (by omega)) (by decide +kernel)
def m_X8_named : zk_Mt := (⟨"NamedNextModel", "named", "(II)I"⟩, prog_10_method_25_code, 9, some .int, [(0, .iconst 0, 1, 0), (1, .istore_n 3, 2, 0), (2, .iconst 0, 3, 0), (3, .istore 4, 5, 0), (5, .iload 4, 7, 0), (7, .aload_n 0, 8, 0), (8, .getfield 13, 11, 0), (11, .iconst 0, 12, 0), (12, .iaload, 13, 0), (13, .if_icmp .ge 164, 16, 177), (16, .aload_n 0, 17, 0), (17, .getfield 13, 20, 0), (20, .bipush 26, 22, 0), (22, .iload 4, 24, 0), (24, .iadd, 25, 0), (25, .iaload, 26, 0), (26, .istore 5, 28, 0), (28, .aload_n 0, 29, 0), (29, .getfield 13, 32, 0), (32, .iconst 2, 33, 0), (33, .iload_n 1, 34, 0), (34, .iadd, 35, 0), (35, .iaload, 36, 0), (36, .istore 6, 38, 0), (38, .aload_n 0, 39, 0), (39, .getfield 13, 42, 0), (42, .bipush 10, 44, 0), (44, .iload 4, 46, 0), (46, .iadd, 47, 0), (47, .iaload, 48, 0), (48, .aload_n 0, 49, 0), (49, .getfield 13, 52, 0), (52, .bipush 10, 54, 0), (54, .iload_n 1, 55, 0), (55, .iadd, 56, 0), (56, .iaload, 57, 0), (57, .isub, 58, 0), (58, .istore 7, 60, 0), (60, .iload 4, 62, 0), (62, .iload_n 1, 63, 0), (63, .if_icmp .eq 20, 66, 83), (66, .iload 5, 68, 0), (68, .bipush 99, 70, 0), (70, .if_icmp .eq 9, 73, 79), (73, .iload 5, 75, 0), (75, .iload_n 2, 76, 0), (76, .if_icmp .le 7, 79, 83), (79, .iconst 1, 80, 0), (80, .goto 4, 83, 84), (83, .iconst 0, 84, 0), (84, .istore 8, 86, 0), (86, .iload 8, 88, 0), (88, .ifCond .eq 30, 91, 118), (91, .iload 6, 93, 0), (93, .iconst 2, 94, 0), (94, .if_icmp .eq 20, 97, 114), (97, .aload_n 0, 98, 0), (98, .getfield 13, 101, 0), (101, .bipush 18, 103, 0), (103, .iload_n 1, 104, 0), (104, .iadd, 105, 0), (105, .iaload, 106, 0), (106, .iload 4, 108, 0), (108, .ishr, 109, 0), (109, .iconst 1, 110, 0), (110, .iand, 111, 0), (111, .ifCond .ne 7, 114, 118), (114, .iconst 1, 115, 0), (115, .goto 4, 118, 119), (118, .iconst 0, 119, 0), (119, .istore 8, 121, 0), (121, .iload 8, 123, 0), (123, .ifCond .eq 29, 126, 152), (126, .iload 6, 128, 0), (128, .iconst 1, 129, 0), (129, .if_icmp .ne 8, 132, 137), (132, .iload 7, 134, 0), (134, .ifCond .lt 18, 137, 152), (137, .iload 6, 139, 0), (139, .iconst 3, 140, 0), (140, .if_icmp .ne 8, 143, 148), (143, .iload 7, 145, 0), (145, .ifCond .gt 7, 148, 152), (148, .iconst 1, 149, 0), (149, .goto 4, 152, 153), (152, .iconst 0, 153, 0), (153, .istore 8, 155, 0), (155, .iload_n 3, 156, 0), (156, .iload 8, 158, 0), (158, .ifCond .eq 10, 161, 168), (161, .iconst 1, 162, 0), (162, .iload 4, 164, 0), (164, .ishl, 165, 0), (165, .goto 4, 168, 169), (168, .iconst 0, 169, 0), (169, .ior, 170, 0), (170, .istore_n 3, 171, 0), (171, .iinc 4 1, 174, 0), (174, .goto (-169), 177, 5), (177, .iload_n 3, 178, 0), (178, .ireturn, 179, 0)])
theorem o_X8_named_0 : ((m_X8_named.2.2.2.2.drop (40 * 0)).take 40).all (zk_chk m_X8_named.2.1) = true := by decide +kernel
theorem o_X8_named_1 : ((m_X8_named.2.2.2.2.drop (40 * 1)).take 40).all (zk_chk m_X8_named.2.1) = true := by decide +kernel
theorem o_X8_named_2 : ((m_X8_named.2.2.2.2.drop (40 * 2)).take 40).all (zk_chk m_X8_named.2.1) = true := by decide +kernel
theorem o_X8_named : zk_ok m_X8_named := zk_ok_ch 40 3 (fun i hi => by
  match i, hi with
  | 0, _ => exact o_X8_named_0
  | 1, _ => exact o_X8_named_1
  | 2, _ => exact o_X8_named_2
  | i + 3, h => exact absurd h (by omega)) (by decide +kernel)
def m_X8_namedNow : zk_Mt := (⟨"NamedNextModel", "namedNow", "(I)I"⟩, prog_10_method_26_code, 2, some .int, [(0, .aload_n 0, 1, 0), (1, .aload_n 0, 2, 0), (2, .getfield 19, 5, 0), (5, .iconst 2, 6, 0), (6, .iload_n 1, 7, 0), (7, .iadd, 8, 0), (8, .iaload, 9, 0), (9, .aload_n 0, 10, 0), (10, .getfield 19, 13, 0), (13, .iconst 0, 14, 0), (14, .iaload, 15, 0), (15, .invokevirtual 136, 18, 0), (18, .aload_n 0, 19, 0), (19, .getfield 19, 22, 0), (22, .bipush 6, 24, 0), (24, .iload_n 1, 25, 0), (25, .iadd, 26, 0), (26, .iaload, 27, 0), (27, .iconst (-1), 28, 0), (28, .ixor, 29, 0), (29, .iand, 30, 0), (30, .ireturn, 31, 0)])
theorem o_X8_namedNow : zk_ok m_X8_namedNow := (by decide +kernel : m_X8_namedNow.2.2.2.2.all (zk_chk m_X8_namedNow.2.1) = true)
def m_X8_reader : zk_Mt := (⟨"NamedNextModel", "reader", "(II)I"⟩, prog_10_method_27_code, 6, some .int, [(0, .aload_n 0, 1, 0), (1, .iload_n 1, 2, 0), (2, .invokevirtual 140, 5, 0), (5, .ifCond .ne 6, 8, 11), (8, .bipush (-2), 10, 0), (10, .ireturn, 11, 0), (11, .iload_n 2, 12, 0), (12, .iconst 0, 13, 0), (13, .iconst 5, 14, 0), (14, .invokestatic 63, 17, 0), (17, .ifCond .ne 6, 20, 23), (20, .bipush (-3), 22, 0), (22, .ireturn, 23, 0), (23, .iconst 0, 24, 0), (24, .istore_n 3, 25, 0), (25, .iconst 0, 26, 0), (26, .istore 4, 28, 0), (28, .iconst 0, 29, 0), (29, .istore 5, 31, 0), (31, .iload 5, 33, 0), (33, .aload_n 0, 34, 0), (34, .getfield 13, 37, 0), (37, .iconst 1, 38, 0), (38, .iaload, 39, 0), (39, .if_icmp .ge 55, 42, 94), (42, .iload_n 3, 43, 0), (43, .aload_n 0, 44, 0), (44, .getfield 19, 47, 0), (47, .iconst 2, 48, 0), (48, .iload 5, 50, 0), (50, .iadd, 51, 0), (51, .iaload, 52, 0), (52, .iload_n 1, 53, 0), (53, .if_icmp .ne 10, 56, 63), (56, .iconst 1, 57, 0), (57, .iload 5, 59, 0), (59, .ishl, 60, 0), (60, .goto 4, 63, 64), (63, .iconst 0, 64, 0), (64, .ior, 65, 0), (65, .istore_n 3, 66, 0), (66, .iload 4, 68, 0), (68, .aload_n 0, 69, 0), (69, .getfield 19, 72, 0), (72, .bipush 6, 74, 0), (74, .iload 5, 76, 0), (76, .iadd, 77, 0), (77, .iaload, 78, 0), (78, .iload_n 1, 79, 0), (79, .ishr, 80, 0), (80, .iconst 1, 81, 0), (81, .iand, 82, 0), (82, .iload 5, 84, 0), (84, .ishl, 85, 0), (85, .ior, 86, 0), (86, .istore 4, 88, 0), (88, .iinc 5 1, 91, 0), (91, .goto (-60), 94, 31), (94, .iload_n 2, 95, 0), (95, .iconst 4, 96, 0), (96, .if_icmp .ge 19, 99, 115), (99, .aload_n 0, 100, 0), (100, .getfield 13, 103, 0), (103, .iconst 2, 104, 0), (104, .bipush 8, 106, 0), (106, .iload_n 2, 107, 0), (107, .imul, 108, 0), (108, .iadd, 109, 0), (109, .iload_n 1, 110, 0), (110, .iadd, 111, 0), (111, .iaload, 112, 0), (112, .goto 14, 115, 126), (115, .iload_n 2, 116, 0), (116, .iconst 4, 117, 0), (117, .if_icmp .ne 7, 120, 124), (120, .iload_n 3, 121, 0), (121, .goto 5, 124, 126), (124, .iload 4, 126, 0), (126, .ireturn, 127, 0)])
theorem o_X8_reader_0 : ((m_X8_reader.2.2.2.2.drop (40 * 0)).take 40).all (zk_chk m_X8_reader.2.1) = true := by decide +kernel
theorem o_X8_reader_1 : ((m_X8_reader.2.2.2.2.drop (40 * 1)).take 40).all (zk_chk m_X8_reader.2.1) = true := by decide +kernel
theorem o_X8_reader : zk_ok m_X8_reader := zk_ok_ch 40 2 (fun i hi => by
  match i, hi with
  | 0, _ => exact o_X8_reader_0
  | 1, _ => exact o_X8_reader_1
  | i + 2, h => exact absurd h (by omega)) (by decide +kernel)
def m_X8_book : zk_Mt := (⟨"NamedNextModel", "book", "(II)I"⟩, prog_10_method_28_code, 3, some .int, [(0, .aload_n 0, 1, 0), (1, .iload_n 1, 2, 0), (2, .invokevirtual 143, 5, 0), (5, .ifCond .ne 6, 8, 11), (8, .bipush (-2), 10, 0), (10, .ireturn, 11, 0), (11, .iload_n 2, 12, 0), (12, .iconst 0, 13, 0), (13, .iconst 4, 14, 0), (14, .invokestatic 63, 17, 0), (17, .ifCond .ne 6, 20, 23), (20, .bipush (-3), 22, 0), (22, .ireturn, 23, 0), (23, .iload_n 2, 24, 0), (24, .ifCond .ne 14, 27, 38), (27, .aload_n 0, 28, 0), (28, .getfield 19, 31, 0), (31, .iconst 2, 32, 0), (32, .iload_n 1, 33, 0), (33, .iadd, 34, 0), (34, .iaload, 35, 0), (35, .goto 74, 38, 109), (38, .iload_n 2, 39, 0), (39, .iconst 1, 40, 0), (40, .if_icmp .ne 15, 43, 55), (43, .aload_n 0, 44, 0), (44, .getfield 19, 47, 0), (47, .bipush 6, 49, 0), (49, .iload_n 1, 50, 0), (50, .iadd, 51, 0), (51, .iaload, 52, 0), (52, .goto 57, 55, 109), (55, .iload_n 2, 56, 0), (56, .iconst 2, 57, 0), (57, .if_icmp .ne 22, 60, 79), (60, .aload_n 0, 61, 0), (61, .getfield 19, 64, 0), (64, .iconst 0, 65, 0), (65, .iaload, 66, 0), (66, .aload_n 0, 67, 0), (67, .getfield 19, 70, 0), (70, .bipush 10, 72, 0), (72, .iload_n 1, 73, 0), (73, .iadd, 74, 0), (74, .iaload, 75, 0), (75, .isub, 76, 0), (76, .goto 33, 79, 109), (79, .iload_n 2, 80, 0), (80, .iconst 4, 81, 0), (81, .if_icmp .ne 15, 84, 96), (84, .aload_n 0, 85, 0), (85, .getfield 13, 88, 0), (88, .bipush 34, 90, 0), (90, .iload_n 1, 91, 0), (91, .iadd, 92, 0), (92, .iaload, 93, 0), (93, .goto 16, 96, 109), (96, .aload_n 0, 97, 0), (97, .iload_n 1, 98, 0), (98, .invokevirtual 146, 101, 0), (101, .ifCond .ne 7, 104, 108), (104, .iconst 1, 105, 0), (105, .goto 4, 108, 109), (108, .iconst 0, 109, 0), (109, .ireturn, 110, 0)])
theorem o_X8_book_0 : ((m_X8_book.2.2.2.2.drop (40 * 0)).take 40).all (zk_chk m_X8_book.2.1) = true := by decide +kernel
theorem o_X8_book_1 : ((m_X8_book.2.2.2.2.drop (40 * 1)).take 40).all (zk_chk m_X8_book.2.1) = true := by decide +kernel
theorem o_X8_book : zk_ok m_X8_book := zk_ok_ch 40 2 (fun i hi => by
  match i, hi with
  | 0, _ => exact o_X8_book_0
  | 1, _ => exact o_X8_book_1
  | i + 2, h => exact absurd h (by omega)) (by decide +kernel)
def m_X8_as : zk_Mt := (⟨"NamedNextModel", "as", "(II)I"⟩, prog_10_method_29_code, 5, some .int, [(0, .aload_n 0, 1, 0), (1, .iload_n 1, 2, 0), (2, .invokevirtual 140, 5, 0), (5, .ifCond .ne 6, 8, 11), (8, .bipush (-2), 10, 0), (10, .ireturn, 11, 0), (11, .iload_n 2, 12, 0), (12, .iconst 0, 13, 0), (13, .iconst 4, 14, 0), (14, .invokestatic 63, 17, 0), (17, .ifCond .ne 6, 20, 23), (20, .bipush (-3), 22, 0), (22, .ireturn, 23, 0), (23, .aload_n 0, 24, 0), (24, .getfield 13, 27, 0), (27, .iconst 2, 28, 0), (28, .iload_n 1, 29, 0), (29, .iadd, 30, 0), (30, .iaload, 31, 0), (31, .istore_n 3, 32, 0), (32, .iload_n 2, 33, 0), (33, .ifCond .eq 40, 36, 73), (36, .iload_n 3, 37, 0), (37, .iconst 2, 38, 0), (38, .if_icmp .ne 11, 41, 49), (41, .iload_n 2, 42, 0), (42, .iconst 3, 43, 0), (43, .if_icmp .ne 34, 46, 77), (46, .goto 27, 49, 73), (49, .iload_n 2, 50, 0), (50, .iconst 1, 51, 0), (51, .if_icmp .eq 22, 54, 73), (54, .iload_n 2, 55, 0), (55, .iconst 2, 56, 0), (56, .if_icmp .ne 7, 59, 63), (59, .iload_n 3, 60, 0), (60, .ifCond .ne 13, 63, 73), (63, .iload_n 2, 64, 0), (64, .iconst 4, 65, 0), (65, .if_icmp .ne 12, 68, 77), (68, .iload_n 3, 69, 0), (69, .iconst 3, 70, 0), (70, .if_icmp .ne 7, 73, 77), (73, .iconst 1, 74, 0), (74, .goto 4, 77, 78), (77, .iconst 0, 78, 0), (78, .istore 4, 80, 0), (80, .iload 4, 82, 0), (82, .ifCond .eq 17, 85, 99), (85, .aload_n 0, 86, 0), (86, .iload_n 1, 87, 0), (87, .aload_n 0, 88, 0), (88, .getfield 19, 91, 0), (91, .iconst 0, 92, 0), (92, .iaload, 93, 0), (93, .invokevirtual 136, 96, 0), (96, .goto 5, 99, 101), (99, .bipush (-4), 101, 0), (101, .ireturn, 102, 0)])
theorem o_X8_as : zk_ok m_X8_as := (by decide +kernel : m_X8_as.2.2.2.2.all (zk_chk m_X8_as.2.1) = true)
def m_X8_may : zk_Mt := (⟨"NamedNextModel", "may", "(II)I"⟩, prog_10_method_30_code, 3, some .int, [(0, .aload_n 0, 1, 0), (1, .iload_n 1, 2, 0), (2, .invokevirtual 143, 5, 0), (5, .ifCond .eq 23, 8, 28), (8, .aload_n 0, 9, 0), (9, .iload_n 2, 10, 0), (10, .invokevirtual 140, 13, 0), (13, .ifCond .eq 15, 16, 28), (16, .aload_n 0, 17, 0), (17, .iload_n 1, 18, 0), (18, .invokevirtual 146, 21, 0), (21, .iload_n 2, 22, 0), (22, .ishr, 23, 0), (23, .iconst 1, 24, 0), (24, .iand, 25, 0), (25, .goto 5, 28, 30), (28, .bipush (-2), 30, 0), (30, .ireturn, 31, 0)])
theorem o_X8_may : zk_ok m_X8_may := (by decide +kernel : m_X8_may.2.2.2.2.all (zk_chk m_X8_may.2.1) = true)
def m_X8_keeps : zk_Mt := (⟨"NamedNextModel", "keeps", "()V"⟩, prog_10_method_31_code, 2, none, [(0, .aload_n 0, 1, 0), (1, .getfield 130, 4, 0), (4, .bipush 8, 6, 0), (6, .if_icmp .ne 42, 9, 48), (9, .iconst 0, 10, 0), (10, .istore_n 1, 11, 0), (11, .iload_n 1, 12, 0), (12, .bipush 98, 14, 0), (14, .if_icmp .ge 24, 17, 38), (17, .aload_n 0, 18, 0), (18, .getfield 22, 21, 0), (21, .iload_n 1, 22, 0), (22, .aload_n 0, 23, 0), (23, .getfield 22, 26, 0), (26, .iload_n 1, 27, 0), (27, .bipush 14, 29, 0), (29, .iadd, 30, 0), (30, .iaload, 31, 0), (31, .iastore, 32, 0), (32, .iinc 1 1, 35, 0), (35, .goto (-24), 38, 11), (38, .aload_n 0, 39, 0), (39, .dup, 40, 0), (40, .getfield 130, 43, 0), (43, .iconst 1, 44, 0), (44, .isub, 45, 0), (45, .putfield 130, 48, 0), (48, .iconst 0, 49, 0), (49, .istore_n 1, 50, 0), (50, .iload_n 1, 51, 0), (51, .bipush 14, 53, 0), (53, .if_icmp .ge 29, 56, 82), (56, .aload_n 0, 57, 0), (57, .getfield 22, 60, 0), (60, .bipush 14, 62, 0), (62, .aload_n 0, 63, 0), (63, .getfield 130, 66, 0), (66, .imul, 67, 0), (67, .iload_n 1, 68, 0), (68, .iadd, 69, 0), (69, .aload_n 0, 70, 0), (70, .getfield 19, 73, 0), (73, .iload_n 1, 74, 0), (74, .iaload, 75, 0), (75, .iastore, 76, 0), (76, .iinc 1 1, 79, 0), (79, .goto (-29), 82, 50), (82, .aload_n 0, 83, 0), (83, .dup, 84, 0), (84, .getfield 130, 87, 0), (87, .iconst 1, 88, 0), (88, .iadd, 89, 0), (89, .putfield 130, 92, 0), (92, .return_, 93, 0)])
theorem o_X8_keeps : zk_ok m_X8_keeps := (by decide +kernel : m_X8_keeps.2.2.2.2.all (zk_chk m_X8_keeps.2.1) = true)
def m_X8_name : zk_Mt := (⟨"NamedNextModel", "name", "(II)I"⟩, prog_10_method_32_code, 3, some .int, [(0, .aload_n 0, 1, 0), (1, .iload_n 1, 2, 0), (2, .invokevirtual 143, 5, 0), (5, .ifCond .eq 11, 8, 16), (8, .aload_n 0, 9, 0), (9, .iload_n 2, 10, 0), (10, .invokevirtual 140, 13, 0), (13, .ifCond .ne 6, 16, 19), (16, .bipush (-2), 18, 0), (18, .ireturn, 19, 0), (19, .aload_n 0, 20, 0), (20, .iload_n 1, 21, 0), (21, .invokevirtual 146, 24, 0), (24, .iload_n 2, 25, 0), (25, .ishr, 26, 0), (26, .iconst 1, 27, 0), (27, .iand, 28, 0), (28, .ifCond .ne 6, 31, 34), (31, .bipush (-4), 33, 0), (33, .ireturn, 34, 0), (34, .aload_n 0, 35, 0), (35, .getfield 19, 38, 0), (38, .iconst 0, 39, 0), (39, .iaload, 40, 0), (40, .sipush 999, 43, 0), (43, .if_icmp .ne 6, 46, 49), (46, .bipush (-5), 48, 0), (48, .ireturn, 49, 0), (49, .aload_n 0, 50, 0), (50, .invokevirtual 149, 53, 0), (53, .aload_n 0, 54, 0), (54, .getfield 19, 57, 0), (57, .iconst 2, 58, 0), (58, .iload_n 1, 59, 0), (59, .iadd, 60, 0), (60, .iload_n 2, 61, 0), (61, .iastore, 62, 0), (62, .aload_n 0, 63, 0), (63, .getfield 19, 66, 0), (66, .bipush 6, 68, 0), (68, .iload_n 1, 69, 0), (69, .iadd, 70, 0), (70, .dup2, 71, 0), (71, .iaload, 72, 0), (72, .iconst 1, 73, 0), (73, .iload_n 2, 74, 0), (74, .ishl, 75, 0), (75, .ior, 76, 0), (76, .iastore, 77, 0), (77, .aload_n 0, 78, 0), (78, .getfield 19, 81, 0), (81, .bipush 10, 83, 0), (83, .iload_n 1, 84, 0), (84, .iadd, 85, 0), (85, .aload_n 0, 86, 0), (86, .getfield 19, 89, 0), (89, .iconst 0, 90, 0), (90, .iaload, 91, 0), (91, .iastore, 92, 0), (92, .aload_n 0, 93, 0), (93, .getfield 19, 96, 0), (96, .iconst 1, 97, 0), (97, .dup2, 98, 0), (98, .iaload, 99, 0), (99, .iconst 1, 100, 0), (100, .iadd, 101, 0), (101, .iastore, 102, 0), (102, .aload_n 0, 103, 0), (103, .getfield 19, 106, 0), (106, .iconst 0, 107, 0), (107, .dup2, 108, 0), (108, .iaload, 109, 0), (109, .iconst 1, 110, 0), (110, .iadd, 111, 0), (111, .iastore, 112, 0), (112, .aload_n 0, 113, 0), (113, .getfield 19, 116, 0), (116, .bipush 6, 118, 0), (118, .iload_n 1, 119, 0), (119, .iadd, 120, 0), (120, .iaload, 121, 0), (121, .invokestatic 152, 124, 0), (124, .ireturn, 125, 0)])
theorem o_X8_name_0 : ((m_X8_name.2.2.2.2.drop (40 * 0)).take 40).all (zk_chk m_X8_name.2.1) = true := by decide +kernel
theorem o_X8_name_1 : ((m_X8_name.2.2.2.2.drop (40 * 1)).take 40).all (zk_chk m_X8_name.2.1) = true := by decide +kernel
theorem o_X8_name_2 : ((m_X8_name.2.2.2.2.drop (40 * 2)).take 40).all (zk_chk m_X8_name.2.1) = true := by decide +kernel
theorem o_X8_name : zk_ok m_X8_name := zk_ok_ch 40 3 (fun i hi => by
  match i, hi with
  | 0, _ => exact o_X8_name_0
  | 1, _ => exact o_X8_name_1
  | 2, _ => exact o_X8_name_2
  | i + 3, h => exact absurd h (by omega)) (by decide +kernel)
def m_X8_day : zk_Mt := (⟨"NamedNextModel", "day", "()I"⟩, prog_10_method_33_code, 1, some .int, [(0, .aload_n 0, 1, 0), (1, .getfield 19, 4, 0), (4, .iconst 0, 5, 0), (5, .iaload, 6, 0), (6, .sipush 999, 9, 0), (9, .if_icmp .ne 6, 12, 15), (12, .bipush (-5), 14, 0), (14, .ireturn, 15, 0), (15, .aload_n 0, 16, 0), (16, .invokevirtual 149, 19, 0), (19, .aload_n 0, 20, 0), (20, .getfield 19, 23, 0), (23, .iconst 0, 24, 0), (24, .dup2, 25, 0), (25, .iaload, 26, 0), (26, .iconst 1, 27, 0), (27, .iadd, 28, 0), (28, .iastore, 29, 0), (29, .aload_n 0, 30, 0), (30, .getfield 19, 33, 0), (33, .iconst 0, 34, 0), (34, .iaload, 35, 0), (35, .ireturn, 36, 0)])
theorem o_X8_day : zk_ok m_X8_day := (by decide +kernel : m_X8_day.2.2.2.2.all (zk_chk m_X8_day.2.1) = true)
def m_X8_undo : zk_Mt := (⟨"NamedNextModel", "undo", "()I"⟩, prog_10_method_34_code, 2, some .int, [(0, .aload_n 0, 1, 0), (1, .getfield 130, 4, 0), (4, .ifCond .ne 6, 7, 10), (7, .bipush (-4), 9, 0), (9, .ireturn, 10, 0), (10, .aload_n 0, 11, 0), (11, .dup, 12, 0), (12, .getfield 130, 15, 0), (15, .iconst 1, 16, 0), (16, .isub, 17, 0), (17, .putfield 130, 20, 0), (20, .iconst 0, 21, 0), (21, .istore_n 1, 22, 0), (22, .iload_n 1, 23, 0), (23, .bipush 14, 25, 0), (25, .if_icmp .ge 29, 28, 54), (28, .aload_n 0, 29, 0), (29, .getfield 19, 32, 0), (32, .iload_n 1, 33, 0), (33, .aload_n 0, 34, 0), (34, .getfield 22, 37, 0), (37, .bipush 14, 39, 0), (39, .aload_n 0, 40, 0), (40, .getfield 130, 43, 0), (43, .imul, 44, 0), (44, .iload_n 1, 45, 0), (45, .iadd, 46, 0), (46, .iaload, 47, 0), (47, .iastore, 48, 0), (48, .iinc 1 1, 51, 0), (51, .goto (-29), 54, 22), (54, .aload_n 0, 55, 0), (55, .getfield 130, 58, 0), (58, .ireturn, 59, 0)])
theorem o_X8_undo : zk_ok m_X8_undo := (by decide +kernel : m_X8_undo.2.2.2.2.all (zk_chk m_X8_undo.2.1) = true)
def m_X8_keep : zk_Mt := (⟨"NamedNextModel", "keep", "(I)I"⟩, prog_10_method_35_code, 3, some .int, [(0, .iload_n 1, 1, 0), (1, .iconst 0, 2, 0), (2, .iconst 1, 3, 0), (3, .invokestatic 63, 6, 0), (6, .ifCond .ne 6, 9, 12), (9, .bipush (-2), 11, 0), (11, .ireturn, 12, 0), (12, .iconst 0, 13, 0), (13, .istore_n 2, 14, 0), (14, .iload_n 2, 15, 0), (15, .bipush 14, 17, 0), (17, .if_icmp .ge 26, 20, 43), (20, .aload_n 0, 21, 0), (21, .getfield 25, 24, 0), (24, .bipush 14, 26, 0), (26, .iload_n 1, 27, 0), (27, .imul, 28, 0), (28, .iload_n 2, 29, 0), (29, .iadd, 30, 0), (30, .aload_n 0, 31, 0), (31, .getfield 19, 34, 0), (34, .iload_n 2, 35, 0), (35, .iaload, 36, 0), (36, .iastore, 37, 0), (37, .iinc 2 1, 40, 0), (40, .goto (-26), 43, 14), (43, .aload_n 0, 44, 0), (44, .getfield 28, 47, 0), (47, .iload_n 1, 48, 0), (48, .iconst 1, 49, 0), (49, .bastore, 50, 0), (50, .aload_n 0, 51, 0), (51, .getfield 19, 54, 0), (54, .iconst 0, 55, 0), (55, .iaload, 56, 0), (56, .ireturn, 57, 0)])
theorem o_X8_keep : zk_ok m_X8_keep := (by decide +kernel : m_X8_keep.2.2.2.2.all (zk_chk m_X8_keep.2.1) = true)
def m_X8_back : zk_Mt := (⟨"NamedNextModel", "back", "(I)I"⟩, prog_10_method_36_code, 3, some .int, [(0, .iload_n 1, 1, 0), (1, .iconst 0, 2, 0), (2, .iconst 1, 3, 0), (3, .invokestatic 63, 6, 0), (6, .ifCond .ne 6, 9, 12), (9, .bipush (-2), 11, 0), (11, .ireturn, 12, 0), (12, .aload_n 0, 13, 0), (13, .getfield 28, 16, 0), (16, .iload_n 1, 17, 0), (17, .baload, 18, 0), (18, .ifCond .ne 6, 21, 24), (21, .bipush (-4), 23, 0), (23, .ireturn, 24, 0), (24, .iconst 0, 25, 0), (25, .istore_n 2, 26, 0), (26, .iload_n 2, 27, 0), (27, .bipush 14, 29, 0), (29, .if_icmp .ge 26, 32, 55), (32, .aload_n 0, 33, 0), (33, .getfield 19, 36, 0), (36, .iload_n 2, 37, 0), (37, .aload_n 0, 38, 0), (38, .getfield 25, 41, 0), (41, .bipush 14, 43, 0), (43, .iload_n 1, 44, 0), (44, .imul, 45, 0), (45, .iload_n 2, 46, 0), (46, .iadd, 47, 0), (47, .iaload, 48, 0), (48, .iastore, 49, 0), (49, .iinc 2 1, 52, 0), (52, .goto (-26), 55, 26), (55, .aload_n 0, 56, 0), (56, .iconst 0, 57, 0), (57, .putfield 130, 60, 0), (60, .aload_n 0, 61, 0), (61, .getfield 19, 64, 0), (64, .iconst 0, 65, 0), (65, .iaload, 66, 0), (66, .ireturn, 67, 0)])
theorem o_X8_back : zk_ok m_X8_back := (by decide +kernel : m_X8_back.2.2.2.2.all (zk_chk m_X8_back.2.1) = true)
def m_X8_nexts : zk_Mt := (⟨"NamedNextModel", "nexts", "(III)I"⟩, prog_10_method_37_code, 4, some .int, [(0, .aload_n 0, 1, 0), (1, .iload_n 3, 2, 0), (2, .aload_n 0, 3, 0), (3, .getfield 19, 6, 0), (6, .iconst 0, 7, 0), (7, .iaload, 8, 0), (8, .iload_n 2, 9, 0), (9, .invokestatic 152, 12, 0), (12, .iadd, 13, 0), (13, .aload_n 0, 14, 0), (14, .getfield 19, 17, 0), (17, .bipush 6, 19, 0), (19, .iload_n 1, 20, 0), (20, .iadd, 21, 0), (21, .iaload, 22, 0), (22, .invokestatic 152, 25, 0), (25, .isub, 26, 0), (26, .invokevirtual 136, 29, 0), (29, .iload_n 2, 30, 0), (30, .iconst (-1), 31, 0), (31, .ixor, 32, 0), (32, .iand, 33, 0), (33, .ireturn, 34, 0)])
theorem o_X8_nexts : zk_ok m_X8_nexts := (by decide +kernel : m_X8_nexts.2.2.2.2.all (zk_chk m_X8_nexts.2.1) = true)
def m_X8_isState : zk_Mt := (⟨"NamedNextModel", "isState", "(III)Z"⟩, prog_10_method_38_code, 6, some .boolean, [(0, .aload_n 0, 1, 0), (1, .getfield 19, 4, 0), (4, .bipush 6, 6, 0), (6, .iload_n 1, 7, 0), (7, .iadd, 8, 0), (8, .iaload, 9, 0), (9, .istore 4, 11, 0), (11, .iload_n 2, 12, 0), (12, .iload 4, 14, 0), (14, .iand, 15, 0), (15, .iload 4, 17, 0), (17, .if_icmp .ne 27, 20, 44), (20, .iload_n 2, 21, 0), (21, .aload_n 0, 22, 0), (22, .getfield 13, 25, 0), (25, .iconst 0, 26, 0), (26, .iaload, 27, 0), (27, .ishr, 28, 0), (28, .ifCond .ne 16, 31, 44), (31, .iload_n 2, 32, 0), (32, .iload_n 3, 33, 0), (33, .ishr, 34, 0), (34, .iconst 1, 35, 0), (35, .iand, 36, 0), (36, .iconst 1, 37, 0), (37, .if_icmp .ne 7, 40, 44), (40, .iconst 1, 41, 0), (41, .goto 4, 44, 45), (44, .iconst 0, 45, 0), (45, .istore 5, 47, 0), (47, .iload 5, 49, 0), (49, .ifCond .eq 37, 52, 86), (52, .iload_n 2, 53, 0), (53, .iload 4, 55, 0), (55, .if_icmp .ne 18, 58, 73), (58, .iload_n 3, 59, 0), (59, .aload_n 0, 60, 0), (60, .getfield 19, 63, 0), (63, .iconst 2, 64, 0), (64, .iload_n 1, 65, 0), (65, .iadd, 66, 0), (66, .iaload, 67, 0), (67, .if_icmp .ne 19, 70, 86), (70, .goto 12, 73, 82), (73, .iload 4, 75, 0), (75, .iload_n 3, 76, 0), (76, .ishr, 77, 0), (77, .iconst 1, 78, 0), (78, .iand, 79, 0), (79, .ifCond .ne 7, 82, 86), (82, .iconst 1, 83, 0), (83, .goto 4, 86, 87), (86, .iconst 0, 87, 0), (87, .ireturn, 88, 0)])
theorem o_X8_isState : zk_ok m_X8_isState := (by decide +kernel : m_X8_isState.2.2.2.2.all (zk_chk m_X8_isState.2.1) = true)
def m_X8_lays : zk_Mt := (⟨"NamedNextModel", "lays", "(III)V"⟩, prog_10_method_39_code, 11, none, [(0, .bipush 8, 2, 0), (2, .iload_n 2, 3, 0), (3, .imul, 4, 0), (4, .iload_n 3, 5, 0), (5, .iadd, 6, 0), (6, .istore 4, 8, 0), (8, .aload_n 0, 9, 0), (9, .iload_n 1, 10, 0), (10, .iload_n 2, 11, 0), (11, .iload_n 3, 12, 0), (12, .invokevirtual 155, 15, 0), (15, .istore 5, 17, 0), (17, .aload_n 0, 18, 0), (18, .getfield 35, 21, 0), (21, .iload 4, 23, 0), (23, .iconst 0, 24, 0), (24, .iastore, 25, 0), (25, .aload_n 0, 26, 0), (26, .getfield 38, 29, 0), (29, .iload 4, 31, 0), (31, .iload 5, 33, 0), (33, .ifCond .ne 7, 36, 40), (36, .iconst 1, 37, 0), (37, .goto 4, 40, 41), (40, .iconst 0, 41, 0), (41, .iastore, 42, 0), (42, .aload_n 0, 43, 0), (43, .getfield 41, 46, 0), (46, .iload 4, 48, 0), (48, .iconst 0, 49, 0), (49, .iastore, 50, 0), (50, .aload_n 0, 51, 0), (51, .getfield 44, 54, 0), (54, .iload 4, 56, 0), (56, .iload 5, 58, 0), (58, .ifCond .ne 7, 61, 65), (61, .iconst 0, 62, 0), (62, .goto 5, 65, 67), (65, .bipush 99, 67, 0), (67, .iastore, 68, 0), (68, .aload_n 0, 69, 0), (69, .getfield 47, 72, 0), (72, .iload 4, 74, 0), (74, .iconst 0, 75, 0), (75, .iastore, 76, 0), (76, .aload_n 0, 77, 0), (77, .getfield 50, 80, 0), (80, .iload 4, 82, 0), (82, .iconst 0, 83, 0), (83, .iastore, 84, 0), (84, .aload_n 0, 85, 0), (85, .getfield 53, 88, 0), (88, .iload 4, 90, 0), (90, .iconst 0, 91, 0), (91, .bastore, 92, 0), (92, .iconst 0, 93, 0), (93, .istore 6, 95, 0), (95, .iload 6, 97, 0), (97, .bipush 8, 99, 0), (99, .if_icmp .ge 362, 102, 461), (102, .iload 5, 104, 0), (104, .iload 6, 106, 0), (106, .ishr, 107, 0), (107, .iconst 1, 108, 0), (108, .iand, 109, 0), (109, .iconst 1, 110, 0), (110, .if_icmp .ne 345, 113, 455), (113, .bipush 8, 115, 0), (115, .iload_n 2, 116, 0), (116, .iconst 1, 117, 0), (117, .iload 6, 119, 0), (119, .ishl, 120, 0), (120, .ior, 121, 0), (121, .imul, 122, 0), (122, .iload 6, 124, 0), (124, .iadd, 125, 0), (125, .istore 7, 127, 0), (127, .aload_n 0, 128, 0), (128, .getfield 35, 131, 0), (131, .iload 7, 133, 0), (133, .iaload, 134, 0), (134, .iconst 1, 135, 0), (135, .iadd, 136, 0), (136, .istore 8, 138, 0), (138, .aload_n 0, 139, 0), (139, .getfield 41, 142, 0), (142, .iload 7, 144, 0), (144, .iaload, 145, 0), (145, .iconst 1, 146, 0), (146, .iload 6, 148, 0), (148, .ishl, 149, 0), (149, .ior, 150, 0), (150, .istore 9, 152, 0), (152, .aload_n 0, 153, 0), (153, .getfield 41, 156, 0), (156, .iload 4, 158, 0), (158, .iload 8, 160, 0), (160, .aload_n 0, 161, 0), (161, .getfield 35, 164, 0), (164, .iload 4, 166, 0), (166, .iaload, 167, 0), (167, .if_icmp .le 8, 170, 175), (170, .iload 9, 172, 0), (172, .goto 35, 175, 207), (175, .iload 8, 177, 0), (177, .aload_n 0, 178, 0), (178, .getfield 35, 181, 0), (181, .iload 4, 183, 0), (183, .iaload, 184, 0), (184, .if_icmp .ne 16, 187, 200), (187, .aload_n 0, 188, 0), (188, .getfield 41, 191, 0), (191, .iload 4, 193, 0), (193, .iaload, 194, 0), (194, .iload 9, 196, 0), (196, .iand, 197, 0), (197, .goto 10, 200, 207), (200, .aload_n 0, 201, 0), (201, .getfield 41, 204, 0), (204, .iload 4, 206, 0), (206, .iaload, 207, 0), (207, .iastore, 208, 0), (208, .aload_n 0, 209, 0), (209, .getfield 38, 212, 0), (212, .iload 4, 214, 0), (214, .iload 8, 216, 0), (216, .aload_n 0, 217, 0), (217, .getfield 35, 220, 0), (220, .iload 4, 222, 0), (222, .iaload, 223, 0), (223, .if_icmp .le 13, 226, 236), (226, .aload_n 0, 227, 0), (227, .getfield 38, 230, 0), (230, .iload 7, 232, 0), (232, .iaload, 233, 0), (233, .goto 40, 236, 273), (236, .iload 8, 238, 0), (238, .aload_n 0, 239, 0), (239, .getfield 35, 242, 0), (242, .iload 4, 244, 0), (244, .iaload, 245, 0), (245, .if_icmp .ne 21, 248, 266), (248, .aload_n 0, 249, 0), (249, .getfield 38, 252, 0), (252, .iload 4, 254, 0), (254, .iaload, 255, 0), (255, .aload_n 0, 256, 0), (256, .getfield 38, 259, 0), (259, .iload 7, 261, 0), (261, .iaload, 262, 0), (262, .iadd, 263, 0), (263, .goto 10, 266, 273), (266, .aload_n 0, 267, 0), (267, .getfield 38, 270, 0), (270, .iload 4, 272, 0), (272, .iaload, 273, 0), (273, .iastore, 274, 0), (274, .aload_n 0, 275, 0), (275, .getfield 35, 278, 0), (278, .iload 4, 280, 0), (280, .iload 8, 282, 0), (282, .aload_n 0, 283, 0), (283, .getfield 35, 286, 0), (286, .iload 4, 288, 0), (288, .iaload, 289, 0), (289, .if_icmp .le 8, 292, 297), (292, .iload 8, 294, 0), (294, .goto 10, 297, 304), (297, .aload_n 0, 298, 0), (298, .getfield 35, 301, 0), (301, .iload 4, 303, 0), (303, .iaload, 304, 0), (304, .iastore, 305, 0), (305, .aload_n 0, 306, 0), (306, .getfield 44, 309, 0), (309, .iload 4, 311, 0), (311, .aload_n 0, 312, 0), (312, .getfield 44, 315, 0), (315, .iload 7, 317, 0), (317, .iaload, 318, 0), (318, .iconst 1, 319, 0), (319, .iadd, 320, 0), (320, .aload_n 0, 321, 0), (321, .getfield 44, 324, 0), (324, .iload 4, 326, 0), (326, .iaload, 327, 0), (327, .if_icmp .ge 15, 330, 342), (330, .aload_n 0, 331, 0), (331, .getfield 44, 334, 0), (334, .iload 7, 336, 0), (336, .iaload, 337, 0), (337, .iconst 1, 338, 0), (338, .iadd, 339, 0), (339, .goto 10, 342, 349), (342, .aload_n 0, 343, 0), (343, .getfield 44, 346, 0), (346, .iload 4, 348, 0), (348, .iaload, 349, 0), (349, .iastore, 350, 0), (350, .aload_n 0, 351, 0), (351, .getfield 47, 354, 0), (354, .iload 4, 356, 0), (356, .dup2, 357, 0), (357, .iaload, 358, 0), (358, .aload_n 0, 359, 0), (359, .getfield 47, 362, 0), (362, .iload 7, 364, 0), (364, .iaload, 365, 0), (365, .iconst 1, 366, 0), (366, .iload 6, 368, 0), (368, .ishl, 369, 0), (369, .ior, 370, 0), (370, .ior, 371, 0), (371, .iastore, 372, 0), (372, .aload_n 0, 373, 0), (373, .getfield 50, 376, 0), (376, .iload 7, 378, 0), (378, .iaload, 379, 0), (379, .aload_n 0, 380, 0), (380, .getfield 13, 383, 0), (383, .bipush 10, 385, 0), (385, .iload 6, 387, 0), (387, .iadd, 388, 0), (388, .iaload, 389, 0), (389, .iadd, 390, 0), (390, .istore 10, 392, 0), (392, .aload_n 0, 393, 0), (393, .getfield 50, 396, 0), (396, .iload 4, 398, 0), (398, .iload 10, 400, 0), (400, .aload_n 0, 401, 0), (401, .getfield 50, 404, 0), (404, .iload 4, 406, 0), (406, .iaload, 407, 0), (407, .if_icmp .le 8, 410, 415), (410, .iload 10, 412, 0), (412, .goto 10, 415, 422), (415, .aload_n 0, 416, 0), (416, .getfield 50, 419, 0), (419, .iload 4, 421, 0), (421, .iaload, 422, 0), (422, .iastore, 423, 0), (423, .aload_n 0, 424, 0), (424, .getfield 53, 427, 0), (427, .iload 4, 429, 0), (429, .aload_n 0, 430, 0), (430, .getfield 53, 433, 0), (433, .iload 4, 435, 0), (435, .baload, 436, 0), (436, .ifCond .ne 13, 439, 449), (439, .aload_n 0, 440, 0), (440, .getfield 53, 443, 0), (443, .iload 7, 445, 0), (445, .baload, 446, 0), (446, .ifCond .ne 7, 449, 453), (449, .iconst 1, 450, 0), (450, .goto 4, 453, 454), (453, .iconst 0, 454, 0), (454, .bastore, 455, 0), (455, .iinc 6 1, 458, 0), (458, .goto (-363), 461, 95), (461, .return_, 462, 0)])
theorem o_X8_lays_0 : ((m_X8_lays.2.2.2.2.drop (40 * 0)).take 40).all (zk_chk m_X8_lays.2.1) = true := by decide +kernel
theorem o_X8_lays_1 : ((m_X8_lays.2.2.2.2.drop (40 * 1)).take 40).all (zk_chk m_X8_lays.2.1) = true := by decide +kernel
theorem o_X8_lays_2 : ((m_X8_lays.2.2.2.2.drop (40 * 2)).take 40).all (zk_chk m_X8_lays.2.1) = true := by decide +kernel
theorem o_X8_lays_3 : ((m_X8_lays.2.2.2.2.drop (40 * 3)).take 40).all (zk_chk m_X8_lays.2.1) = true := by decide +kernel
theorem o_X8_lays_4 : ((m_X8_lays.2.2.2.2.drop (40 * 4)).take 40).all (zk_chk m_X8_lays.2.1) = true := by decide +kernel
theorem o_X8_lays_5 : ((m_X8_lays.2.2.2.2.drop (40 * 5)).take 40).all (zk_chk m_X8_lays.2.1) = true := by decide +kernel
theorem o_X8_lays_6 : ((m_X8_lays.2.2.2.2.drop (40 * 6)).take 40).all (zk_chk m_X8_lays.2.1) = true := by decide +kernel
theorem o_X8_lays : zk_ok m_X8_lays := zk_ok_ch 40 7 (fun i hi => by
  match i, hi with
  | 0, _ => exact o_X8_lays_0
  | 1, _ => exact o_X8_lays_1
  | 2, _ => exact o_X8_lays_2
  | 3, _ => exact o_X8_lays_3
  | 4, _ => exact o_X8_lays_4
  | 5, _ => exact o_X8_lays_5
  | 6, _ => exact o_X8_lays_6
  | i + 7, h => exact absurd h (by omega)) (by decide +kernel)
def m_X8_laysAll : zk_Mt := (⟨"NamedNextModel", "laysAll", "(I)I"⟩, prog_10_method_40_code, 4, some .int, [(0, .iconst 1, 1, 0), (1, .aload_n 0, 2, 0), (2, .getfield 13, 5, 0), (5, .iconst 0, 6, 0), (6, .iaload, 7, 0), (7, .ishl, 8, 0), (8, .iconst 1, 9, 0), (9, .isub, 10, 0), (10, .istore_n 2, 11, 0), (11, .iload_n 2, 12, 0), (12, .ifCond .lt 44, 15, 56), (15, .iconst 0, 16, 0), (16, .istore_n 3, 17, 0), (17, .iload_n 3, 18, 0), (18, .aload_n 0, 19, 0), (19, .getfield 13, 22, 0), (22, .iconst 0, 23, 0), (23, .iaload, 24, 0), (24, .if_icmp .ge 26, 27, 50), (27, .aload_n 0, 28, 0), (28, .iload_n 1, 29, 0), (29, .iload_n 2, 30, 0), (30, .iload_n 3, 31, 0), (31, .invokevirtual 159, 34, 0), (34, .ifCond .eq 10, 37, 44), (37, .aload_n 0, 38, 0), (38, .iload_n 1, 39, 0), (39, .iload_n 2, 40, 0), (40, .iload_n 3, 41, 0), (41, .invokevirtual 162, 44, 0), (44, .iinc 3 1, 47, 0), (47, .goto (-30), 50, 17), (50, .iinc 2 (-1), 53, 0), (53, .goto (-42), 56, 11), (56, .bipush 8, 58, 0), (58, .aload_n 0, 59, 0), (59, .getfield 19, 62, 0), (62, .bipush 6, 64, 0), (64, .iload_n 1, 65, 0), (65, .iadd, 66, 0), (66, .iaload, 67, 0), (67, .imul, 68, 0), (68, .aload_n 0, 69, 0), (69, .getfield 19, 72, 0), (72, .iconst 2, 73, 0), (73, .iload_n 1, 74, 0), (74, .iadd, 75, 0), (75, .iaload, 76, 0), (76, .iadd, 77, 0), (77, .ireturn, 78, 0)])
theorem o_X8_laysAll : zk_ok m_X8_laysAll := (by decide +kernel : m_X8_laysAll.2.2.2.2.all (zk_chk m_X8_laysAll.2.1) = true)
def m_X8_longest : zk_Mt := (⟨"NamedNextModel", "longest", "(II)I"⟩, prog_10_method_41_code, 4, some .int, [(0, .aload_n 0, 1, 0), (1, .iload_n 1, 2, 0), (2, .invokevirtual 143, 5, 0), (5, .ifCond .ne 6, 8, 11), (8, .bipush (-2), 10, 0), (10, .ireturn, 11, 0), (11, .iload_n 2, 12, 0), (12, .iconst 0, 13, 0), (13, .iconst 1, 14, 0), (14, .invokestatic 63, 17, 0), (17, .ifCond .ne 6, 20, 23), (20, .bipush (-3), 22, 0), (22, .ireturn, 23, 0), (23, .aload_n 0, 24, 0), (24, .iload_n 1, 25, 0), (25, .invokevirtual 166, 28, 0), (28, .istore_n 3, 29, 0), (29, .iload_n 2, 30, 0), (30, .ifCond .ne 12, 33, 42), (33, .aload_n 0, 34, 0), (34, .getfield 35, 37, 0), (37, .iload_n 3, 38, 0), (38, .iaload, 39, 0), (39, .goto 9, 42, 48), (42, .aload_n 0, 43, 0), (43, .getfield 38, 46, 0), (46, .iload_n 3, 47, 0), (47, .iaload, 48, 0), (48, .ireturn, 49, 0)])
theorem o_X8_longest : zk_ok m_X8_longest := (by decide +kernel : m_X8_longest.2.2.2.2.all (zk_chk m_X8_longest.2.1) = true)
def m_X8_row : zk_Mt := (⟨"NamedNextModel", "row", "(II)I"⟩, prog_10_method_42_code, 10, some .int, [(0, .aload_n 0, 1, 0), (1, .iload_n 1, 2, 0), (2, .invokevirtual 143, 5, 0), (5, .ifCond .ne 6, 8, 11), (8, .bipush (-2), 10, 0), (10, .ireturn, 11, 0), (11, .iload_n 2, 12, 0), (12, .ifCond .ge 6, 15, 18), (15, .bipush (-3), 17, 0), (17, .ireturn, 18, 0), (18, .aload_n 0, 19, 0), (19, .iload_n 1, 20, 0), (20, .invokevirtual 166, 23, 0), (23, .istore_n 3, 24, 0), (24, .iconst (-1), 25, 0), (25, .istore 4, 27, 0), (27, .iconst 0, 28, 0), (28, .istore 5, 30, 0), (30, .iload 5, 32, 0), (32, .iload_n 2, 33, 0), (33, .if_icmp .gt 130, 36, 163), (36, .aload_n 0, 37, 0), (37, .getfield 35, 40, 0), (40, .iload_n 3, 41, 0), (41, .iaload, 42, 0), (42, .ifCond .le 121, 45, 163), (45, .iload_n 3, 46, 0), (46, .bipush 8, 48, 0), (48, .idiv, 49, 0), (49, .istore 6, 51, 0), (51, .aload_n 0, 52, 0), (52, .iload_n 1, 53, 0), (53, .iload 6, 55, 0), (55, .iload_n 3, 56, 0), (56, .bipush 8, 58, 0), (58, .irem, 59, 0), (59, .invokevirtual 155, 62, 0), (62, .istore 7, 64, 0), (64, .iconst (-1), 65, 0), (65, .istore 4, 67, 0), (67, .bipush 7, 69, 0), (69, .istore 8, 71, 0), (71, .iload 8, 73, 0), (73, .ifCond .lt 70, 76, 143), (76, .iload 7, 78, 0), (78, .iload 8, 80, 0), (80, .ishr, 81, 0), (81, .iconst 1, 82, 0), (82, .iand, 83, 0), (83, .iconst 1, 84, 0), (84, .if_icmp .ne 36, 87, 120), (87, .aload_n 0, 88, 0), (88, .getfield 35, 91, 0), (91, .bipush 8, 93, 0), (93, .iload 6, 95, 0), (95, .iconst 1, 96, 0), (96, .iload 8, 98, 0), (98, .ishl, 99, 0), (99, .ior, 100, 0), (100, .imul, 101, 0), (101, .iload 8, 103, 0), (103, .iadd, 104, 0), (104, .iaload, 105, 0), (105, .aload_n 0, 106, 0), (106, .getfield 35, 109, 0), (109, .iload_n 3, 110, 0), (110, .iaload, 111, 0), (111, .iconst 1, 112, 0), (112, .isub, 113, 0), (113, .if_icmp .ne 7, 116, 120), (116, .iconst 1, 117, 0), (117, .goto 4, 120, 121), (120, .iconst 0, 121, 0), (121, .istore 9, 123, 0), (123, .iload 9, 125, 0), (125, .ifCond .eq 8, 128, 133), (128, .iload 8, 130, 0), (130, .goto 5, 133, 135), (133, .iload 4, 135, 0), (135, .istore 4, 137, 0), (137, .iinc 8 (-1), 140, 0), (140, .goto (-69), 143, 71), (143, .bipush 8, 145, 0), (145, .iload 6, 147, 0), (147, .iconst 1, 148, 0), (148, .iload 4, 150, 0), (150, .ishl, 151, 0), (151, .ior, 152, 0), (152, .imul, 153, 0), (153, .iload 4, 155, 0), (155, .iadd, 156, 0), (156, .istore_n 3, 157, 0), (157, .iinc 5 1, 160, 0), (160, .goto (-130), 163, 30), (163, .iload 5, 165, 0), (165, .iload_n 2, 166, 0), (166, .if_icmp .le 8, 169, 174), (169, .iload 4, 171, 0), (171, .goto 4, 174, 175), (174, .iconst (-1), 175, 0), (175, .ireturn, 176, 0)])
theorem o_X8_row_0 : ((m_X8_row.2.2.2.2.drop (40 * 0)).take 40).all (zk_chk m_X8_row.2.1) = true := by decide +kernel
theorem o_X8_row_1 : ((m_X8_row.2.2.2.2.drop (40 * 1)).take 40).all (zk_chk m_X8_row.2.1) = true := by decide +kernel
theorem o_X8_row_2 : ((m_X8_row.2.2.2.2.drop (40 * 2)).take 40).all (zk_chk m_X8_row.2.1) = true := by decide +kernel
theorem o_X8_row : zk_ok m_X8_row := zk_ok_ch 40 3 (fun i hi => by
  match i, hi with
  | 0, _ => exact o_X8_row_0
  | 1, _ => exact o_X8_row_1
  | 2, _ => exact o_X8_row_2
  | i + 3, h => exact absurd h (by omega)) (by decide +kernel)
def m_X8_shortest : zk_Mt := (⟨"NamedNextModel", "shortest", "(I)I"⟩, prog_10_method_43_code, 2, some .int, [(0, .aload_n 0, 1, 0), (1, .iload_n 1, 2, 0), (2, .invokevirtual 143, 5, 0), (5, .ifCond .eq 16, 8, 21), (8, .aload_n 0, 9, 0), (9, .getfield 44, 12, 0), (12, .aload_n 0, 13, 0), (13, .iload_n 1, 14, 0), (14, .invokevirtual 166, 17, 0), (17, .iaload, 18, 0), (18, .goto 5, 21, 23), (21, .bipush (-2), 23, 0), (23, .ireturn, 24, 0)])
theorem o_X8_shortest : zk_ok m_X8_shortest := (by decide +kernel : m_X8_shortest.2.2.2.2.all (zk_chk m_X8_shortest.2.1) = true)
def m_X8_can : zk_Mt := (⟨"NamedNextModel", "can", "(I)I"⟩, prog_10_method_44_code, 2, some .int, [(0, .aload_n 0, 1, 0), (1, .iload_n 1, 2, 0), (2, .invokevirtual 143, 5, 0), (5, .ifCond .eq 16, 8, 21), (8, .aload_n 0, 9, 0), (9, .getfield 47, 12, 0), (12, .aload_n 0, 13, 0), (13, .iload_n 1, 14, 0), (14, .invokevirtual 166, 17, 0), (17, .iaload, 18, 0), (18, .goto 5, 21, 23), (21, .bipush (-2), 23, 0), (23, .ireturn, 24, 0)])
theorem o_X8_can : zk_ok m_X8_can := (by decide +kernel : m_X8_can.2.2.2.2.all (zk_chk m_X8_can.2.1) = true)
def m_X8_all : zk_Mt := (⟨"NamedNextModel", "all", "(I)I"⟩, prog_10_method_45_code, 2, some .int, [(0, .aload_n 0, 1, 0), (1, .iload_n 1, 2, 0), (2, .invokevirtual 143, 5, 0), (5, .ifCond .eq 16, 8, 21), (8, .aload_n 0, 9, 0), (9, .getfield 41, 12, 0), (12, .aload_n 0, 13, 0), (13, .iload_n 1, 14, 0), (14, .invokevirtual 166, 17, 0), (17, .iaload, 18, 0), (18, .goto 5, 21, 23), (21, .bipush (-2), 23, 0), (23, .ireturn, 24, 0)])
theorem o_X8_all : zk_ok m_X8_all := (by decide +kernel : m_X8_all.2.2.2.2.all (zk_chk m_X8_all.2.1) = true)
def m_X8_fame : zk_Mt := (⟨"NamedNextModel", "fame", "(I)I"⟩, prog_10_method_46_code, 2, some .int, [(0, .aload_n 0, 1, 0), (1, .iload_n 1, 2, 0), (2, .invokevirtual 143, 5, 0), (5, .ifCond .eq 16, 8, 21), (8, .aload_n 0, 9, 0), (9, .getfield 50, 12, 0), (12, .aload_n 0, 13, 0), (13, .iload_n 1, 14, 0), (14, .invokevirtual 166, 17, 0), (17, .iaload, 18, 0), (18, .goto 5, 21, 23), (21, .bipush (-2), 23, 0), (23, .ireturn, 24, 0)])
theorem o_X8_fame : zk_ok m_X8_fame := (by decide +kernel : m_X8_fame.2.2.2.2.all (zk_chk m_X8_fame.2.1) = true)
def m_X8_laysOdds : zk_Mt := (⟨"NamedNextModel", "laysOdds", "(I)V"⟩, prog_10_method_47_code, 5, none, [(0, .iconst 0, 1, 0), (1, .istore_n 2, 2, 0), (2, .iload_n 2, 3, 0), (3, .sipush 2048, 6, 0), (6, .if_icmp .ge 16, 9, 22), (9, .aload_n 0, 10, 0), (10, .getfield 56, 13, 0), (13, .iload_n 2, 14, 0), (14, .lconst 0, 15, 0), (15, .lastore, 16, 0), (16, .iinc 2 1, 19, 0), (19, .goto (-17), 22, 2), (22, .aload_n 0, 23, 0), (23, .getfield 56, 26, 0), (26, .bipush 8, 28, 0), (28, .aload_n 0, 29, 0), (29, .getfield 19, 32, 0), (32, .bipush 6, 34, 0), (34, .iload_n 1, 35, 0), (35, .iadd, 36, 0), (36, .iaload, 37, 0), (37, .imul, 38, 0), (38, .aload_n 0, 39, 0), (39, .getfield 19, 42, 0), (42, .iconst 2, 43, 0), (43, .iload_n 1, 44, 0), (44, .iadd, 45, 0), (45, .iaload, 46, 0), (46, .iadd, 47, 0), (47, .ldc2_w 169, 50, 0), (50, .lastore, 51, 0), (51, .iconst 0, 52, 0), (52, .istore_n 2, 53, 0), (53, .iload_n 2, 54, 0), (54, .sipush 2048, 57, 0), (57, .if_icmp .ge 99, 60, 156), (60, .aload_n 0, 61, 0), (61, .getfield 56, 64, 0), (64, .iload_n 2, 65, 0), (65, .laload, 66, 0), (66, .lconst 0, 67, 0), (67, .lcmp, 68, 0), (68, .ifCond .le 19, 71, 87), (71, .aload_n 0, 72, 0), (72, .iload_n 1, 73, 0), (73, .iload_n 2, 74, 0), (74, .bipush 8, 76, 0), (76, .idiv, 77, 0), (77, .iload_n 2, 78, 0), (78, .bipush 8, 80, 0), (80, .irem, 81, 0), (81, .invokevirtual 155, 84, 0), (84, .goto 4, 87, 88), (87, .iconst 0, 88, 0), (88, .istore_n 3, 89, 0), (89, .iconst 0, 90, 0), (90, .istore 4, 92, 0), (92, .iload 4, 94, 0), (94, .bipush 8, 96, 0), (96, .if_icmp .ge 54, 99, 150), (99, .iload_n 3, 100, 0), (100, .iload 4, 102, 0), (102, .ishr, 103, 0), (103, .iconst 1, 104, 0), (104, .iand, 105, 0), (105, .iconst 1, 106, 0), (106, .if_icmp .ne 38, 109, 144), (109, .aload_n 0, 110, 0), (110, .getfield 56, 113, 0), (113, .bipush 8, 115, 0), (115, .iload_n 2, 116, 0), (116, .bipush 8, 118, 0), (118, .idiv, 119, 0), (119, .iconst 1, 120, 0), (120, .iload 4, 122, 0), (122, .ishl, 123, 0), (123, .ior, 124, 0), (124, .imul, 125, 0), (125, .iload 4, 127, 0), (127, .iadd, 128, 0), (128, .dup2, 129, 0), (129, .laload, 130, 0), (130, .aload_n 0, 131, 0), (131, .getfield 56, 134, 0), (134, .iload_n 2, 135, 0), (135, .laload, 136, 0), (136, .iload_n 3, 137, 0), (137, .invokestatic 152, 140, 0), (140, .i2l, 141, 0), (141, .ldiv, 142, 0), (142, .ladd, 143, 0), (143, .lastore, 144, 0), (144, .iinc 4 1, 147, 0), (147, .goto (-55), 150, 92), (150, .iinc 2 1, 153, 0), (153, .goto (-100), 156, 53), (156, .return_, 157, 0)])
theorem o_X8_laysOdds_0 : ((m_X8_laysOdds.2.2.2.2.drop (40 * 0)).take 40).all (zk_chk m_X8_laysOdds.2.1) = true := by decide +kernel
theorem o_X8_laysOdds_1 : ((m_X8_laysOdds.2.2.2.2.drop (40 * 1)).take 40).all (zk_chk m_X8_laysOdds.2.1) = true := by decide +kernel
theorem o_X8_laysOdds_2 : ((m_X8_laysOdds.2.2.2.2.drop (40 * 2)).take 40).all (zk_chk m_X8_laysOdds.2.1) = true := by decide +kernel
theorem o_X8_laysOdds : zk_ok m_X8_laysOdds := zk_ok_ch 40 3 (fun i hi => by
  match i, hi with
  | 0, _ => exact o_X8_laysOdds_0
  | 1, _ => exact o_X8_laysOdds_1
  | 2, _ => exact o_X8_laysOdds_2
  | i + 3, h => exact absurd h (by omega)) (by decide +kernel)
def m_X8_part : zk_Mt := (⟨"NamedNextModel", "part", "(JI)J"⟩, prog_10_method_48_code, 9, some .long, [(0, .lload_n 0, 1, 0), (1, .lstore_n 3, 2, 0), (2, .ldc2_w 169, 5, 0), (5, .lstore 5, 7, 0), (7, .lload 5, 9, 0), (9, .lconst 0, 10, 0), (10, .lcmp, 11, 0), (11, .ifCond .eq 19, 14, 30), (14, .lload_n 3, 15, 0), (15, .lload 5, 17, 0), (17, .lrem, 18, 0), (18, .lstore 7, 20, 0), (20, .lload 5, 22, 0), (22, .lstore_n 3, 23, 0), (23, .lload 7, 25, 0), (25, .lstore 5, 27, 0), (27, .goto (-20), 30, 7), (30, .iload_n 2, 31, 0), (31, .ifCond .ne 9, 34, 40), (34, .lload_n 0, 35, 0), (35, .lload_n 3, 36, 0), (36, .ldiv, 37, 0), (37, .goto 8, 40, 45), (40, .ldc2_w 169, 43, 0), (43, .lload_n 3, 44, 0), (44, .ldiv, 45, 0), (45, .lreturn, 46, 0)])
theorem o_X8_part : zk_ok m_X8_part := (by decide +kernel : m_X8_part.2.2.2.2.all (zk_chk m_X8_part.2.1) = true)
def m_X8_mean : zk_Mt := (⟨"NamedNextModel", "mean", "(II)J"⟩, prog_10_method_49_code, 6, some .long, [(0, .aload_n 0, 1, 0), (1, .iload_n 1, 2, 0), (2, .invokevirtual 143, 5, 0), (5, .ifCond .ne 7, 8, 12), (8, .ldc2_w 171, 11, 0), (11, .lreturn, 12, 0), (12, .iload_n 2, 13, 0), (13, .iconst 0, 14, 0), (14, .iconst 1, 15, 0), (15, .invokestatic 63, 18, 0), (18, .ifCond .ne 7, 21, 25), (21, .ldc2_w 173, 24, 0), (24, .lreturn, 25, 0), (25, .aload_n 0, 26, 0), (26, .iload_n 1, 27, 0), (27, .invokevirtual 175, 30, 0), (30, .lconst 0, 31, 0), (31, .lstore_n 3, 32, 0), (32, .iconst 0, 33, 0), (33, .istore 5, 35, 0), (35, .iload 5, 37, 0), (37, .sipush 2048, 40, 0), (40, .if_icmp .ge 40, 43, 80), (43, .lload_n 3, 44, 0), (44, .iload 5, 46, 0), (46, .bipush 8, 48, 0), (48, .idiv, 49, 0), (49, .aload_n 0, 50, 0), (50, .getfield 19, 53, 0), (53, .bipush 6, 55, 0), (55, .iload_n 1, 56, 0), (56, .iadd, 57, 0), (57, .iaload, 58, 0), (58, .if_icmp .ne 7, 61, 65), (61, .lconst 0, 62, 0), (62, .goto 10, 65, 72), (65, .aload_n 0, 66, 0), (66, .getfield 56, 69, 0), (69, .iload 5, 71, 0), (71, .laload, 72, 0), (72, .ladd, 73, 0), (73, .lstore_n 3, 74, 0), (74, .iinc 5 1, 77, 0), (77, .goto (-42), 80, 35), (80, .lload_n 3, 81, 0), (81, .iload_n 2, 82, 0), (82, .invokestatic 179, 85, 0), (85, .lreturn, 86, 0)])
theorem o_X8_mean : zk_ok m_X8_mean := (by decide +kernel : m_X8_mean.2.2.2.2.all (zk_chk m_X8_mean.2.1) = true)
def m_X8_odds : zk_Mt := (⟨"NamedNextModel", "odds", "(III)J"⟩, prog_10_method_50_code, 7, some .long, [(0, .aload_n 0, 1, 0), (1, .iload_n 1, 2, 0), (2, .invokevirtual 143, 5, 0), (5, .ifCond .eq 11, 8, 16), (8, .aload_n 0, 9, 0), (9, .iload_n 2, 10, 0), (10, .invokevirtual 140, 13, 0), (13, .ifCond .ne 7, 16, 20), (16, .ldc2_w 171, 19, 0), (19, .lreturn, 20, 0), (20, .iload_n 3, 21, 0), (21, .iconst 0, 22, 0), (22, .iconst 1, 23, 0), (23, .invokestatic 63, 26, 0), (26, .ifCond .ne 7, 29, 33), (29, .ldc2_w 173, 32, 0), (32, .lreturn, 33, 0), (33, .aload_n 0, 34, 0), (34, .iload_n 1, 35, 0), (35, .invokevirtual 175, 38, 0), (38, .lconst 0, 39, 0), (39, .lstore 4, 41, 0), (41, .iload_n 2, 42, 0), (42, .istore 6, 44, 0), (44, .iload 6, 46, 0), (46, .sipush 2048, 49, 0), (49, .if_icmp .ge 21, 52, 70), (52, .lload 4, 54, 0), (54, .aload_n 0, 55, 0), (55, .getfield 56, 58, 0), (58, .iload 6, 60, 0), (60, .laload, 61, 0), (61, .ladd, 62, 0), (62, .lstore 4, 64, 0), (64, .iinc 6 8, 67, 0), (67, .goto (-23), 70, 44), (70, .aload_n 0, 71, 0), (71, .getfield 19, 74, 0), (74, .bipush 6, 76, 0), (76, .iload_n 1, 77, 0), (77, .iadd, 78, 0), (78, .iaload, 79, 0), (79, .iload_n 2, 80, 0), (80, .ishr, 81, 0), (81, .iconst 1, 82, 0), (82, .iand, 83, 0), (83, .iconst 1, 84, 0), (84, .if_icmp .ne 9, 87, 93), (87, .ldc2_w 169, 90, 0), (90, .goto 5, 93, 95), (93, .lload 4, 95, 0), (95, .iload_n 3, 96, 0), (96, .invokestatic 179, 99, 0), (99, .lreturn, 100, 0)])
theorem o_X8_odds : zk_ok m_X8_odds := (by decide +kernel : m_X8_odds.2.2.2.2.all (zk_chk m_X8_odds.2.1) = true)
def m_X8_turns : zk_Mt := (⟨"NamedNextModel", "turns", "(II)I"⟩, prog_10_method_51_code, 8, some .int, [(0, .aload_n 0, 1, 0), (1, .iload_n 1, 2, 0), (2, .invokevirtual 143, 5, 0), (5, .ifCond .ne 6, 8, 11), (8, .bipush (-2), 10, 0), (10, .ireturn, 11, 0), (11, .iload_n 2, 12, 0), (12, .iconst 0, 13, 0), (13, .iconst 1, 14, 0), (14, .invokestatic 63, 17, 0), (17, .ifCond .ne 6, 20, 23), (20, .bipush (-3), 22, 0), (22, .ireturn, 23, 0), (23, .aload_n 0, 24, 0), (24, .iload_n 1, 25, 0), (25, .invokevirtual 166, 28, 0), (28, .istore_n 3, 29, 0), (29, .aload_n 0, 30, 0), (30, .iload_n 1, 31, 0), (31, .invokevirtual 146, 34, 0), (34, .istore 4, 36, 0), (36, .iconst (-1), 37, 0), (37, .istore 5, 39, 0), (39, .bipush 7, 41, 0), (41, .istore 6, 43, 0), (43, .iload 6, 45, 0), (45, .ifCond .lt 64, 48, 109), (48, .iload 4, 50, 0), (50, .iload 6, 52, 0), (52, .ishr, 53, 0), (53, .iconst 1, 54, 0), (54, .iand, 55, 0), (55, .iconst 1, 56, 0), (56, .if_icmp .ne 30, 59, 86), (59, .aload_n 0, 60, 0), (60, .getfield 53, 63, 0), (63, .bipush 8, 65, 0), (65, .iload_n 3, 66, 0), (66, .bipush 8, 68, 0), (68, .idiv, 69, 0), (69, .iconst 1, 70, 0), (70, .iload 6, 72, 0), (72, .ishl, 73, 0), (73, .ior, 74, 0), (74, .imul, 75, 0), (75, .iload 6, 77, 0), (77, .iadd, 78, 0), (78, .baload, 79, 0), (79, .ifCond .ne 7, 82, 86), (82, .iconst 1, 83, 0), (83, .goto 4, 86, 87), (86, .iconst 0, 87, 0), (87, .istore 7, 89, 0), (89, .iload 7, 91, 0), (91, .ifCond .eq 8, 94, 99), (94, .iload 6, 96, 0), (96, .goto 5, 99, 101), (99, .iload 5, 101, 0), (101, .istore 5, 103, 0), (103, .iinc 6 (-1), 106, 0), (106, .goto (-63), 109, 43), (109, .iload_n 2, 110, 0), (110, .iconst 1, 111, 0), (111, .if_icmp .ne 8, 114, 119), (114, .iload 5, 116, 0), (116, .goto 17, 119, 133), (119, .aload_n 0, 120, 0), (120, .getfield 53, 123, 0), (123, .iload_n 3, 124, 0), (124, .baload, 125, 0), (125, .ifCond .eq 7, 128, 132), (128, .iconst 1, 129, 0), (129, .goto 4, 132, 133), (132, .iconst 0, 133, 0), (133, .ireturn, 134, 0)])
theorem o_X8_turns_0 : ((m_X8_turns.2.2.2.2.drop (40 * 0)).take 40).all (zk_chk m_X8_turns.2.1) = true := by decide +kernel
theorem o_X8_turns_1 : ((m_X8_turns.2.2.2.2.drop (40 * 1)).take 40).all (zk_chk m_X8_turns.2.1) = true := by decide +kernel
theorem o_X8_turns : zk_ok m_X8_turns := zk_ok_ch 40 2 (fun i hi => by
  match i, hi with
  | 0, _ => exact o_X8_turns_0
  | 1, _ => exact o_X8_turns_1
  | i + 2, h => exact absurd h (by omega)) (by decide +kernel)
def m_X8_clubs : zk_Mt := (⟨"NamedNextModel", "clubs", "(I)I"⟩, prog_10_method_52_code, 8, some .int, [(0, .iload_n 1, 1, 0), (1, .iconst 2, 2, 0), (2, .bipush 6, 4, 0), (4, .invokestatic 63, 7, 0), (7, .ifCond .ne 6, 10, 13), (10, .bipush (-3), 12, 0), (12, .ireturn, 13, 0), (13, .iconst 0, 14, 0), (14, .istore_n 2, 15, 0), (15, .iconst 0, 16, 0), (16, .istore_n 3, 17, 0), (17, .iload_n 3, 18, 0), (18, .aload_n 0, 19, 0), (19, .getfield 13, 22, 0), (22, .iconst 0, 23, 0), (23, .iaload, 24, 0), (24, .if_icmp .ge 205, 27, 229), (27, .iconst 0, 28, 0), (28, .istore 4, 30, 0), (30, .iload 4, 32, 0), (32, .sipush 2048, 35, 0), (35, .if_icmp .ge 34, 38, 69), (38, .aload_n 0, 39, 0), (39, .getfield 38, 42, 0), (42, .iload 4, 44, 0), (44, .iload 4, 46, 0), (46, .bipush 8, 48, 0), (48, .iconst 1, 49, 0), (49, .iload_n 3, 50, 0), (50, .ishl, 51, 0), (51, .imul, 52, 0), (52, .iload_n 3, 53, 0), (53, .iadd, 54, 0), (54, .if_icmp .ne 7, 57, 61), (57, .iconst 1, 58, 0), (58, .goto 4, 61, 62), (61, .iconst 0, 62, 0), (62, .iastore, 63, 0), (63, .iinc 4 1, 66, 0), (66, .goto (-36), 69, 30), (69, .iconst 0, 70, 0), (70, .istore 4, 72, 0), (72, .iload 4, 74, 0), (74, .sipush 2048, 77, 0), (77, .if_icmp .ge 146, 80, 223), (80, .iload 4, 82, 0), (82, .bipush 8, 84, 0), (84, .idiv, 85, 0), (85, .istore 5, 87, 0), (87, .aload_n 0, 88, 0), (88, .getfield 38, 91, 0), (91, .iload 4, 93, 0), (93, .iaload, 94, 0), (94, .ifCond .le 21, 97, 115), (97, .aload_n 0, 98, 0), (98, .iload 4, 100, 0), (100, .bipush 8, 102, 0), (102, .irem, 103, 0), (103, .aload_n 0, 104, 0), (104, .getfield 19, 107, 0), (107, .iconst 0, 108, 0), (108, .iaload, 109, 0), (109, .invokevirtual 136, 112, 0), (112, .goto 4, 115, 116), (115, .iconst 0, 116, 0), (116, .istore 6, 118, 0), (118, .iload_n 2, 119, 0), (119, .iload 5, 121, 0), (121, .invokestatic 152, 124, 0), (124, .iload_n 1, 125, 0), (125, .if_icmp .ne 23, 128, 148), (128, .iload 6, 130, 0), (130, .iload_n 3, 131, 0), (131, .ishr, 132, 0), (132, .iconst 1, 133, 0), (133, .iand, 134, 0), (134, .iconst 1, 135, 0), (135, .if_icmp .ne 13, 138, 148), (138, .aload_n 0, 139, 0), (139, .getfield 38, 142, 0), (142, .iload 4, 144, 0), (144, .iaload, 145, 0), (145, .goto 4, 148, 149), (148, .iconst 0, 149, 0), (149, .iadd, 150, 0), (150, .istore_n 2, 151, 0), (151, .iload 6, 153, 0), (153, .iload 5, 155, 0), (155, .iconst (-1), 156, 0), (156, .ixor, 157, 0), (157, .iand, 158, 0), (158, .istore 6, 160, 0), (160, .iload_n 3, 161, 0), (161, .iconst 1, 162, 0), (162, .iadd, 163, 0), (163, .istore 7, 165, 0), (165, .iload 7, 167, 0), (167, .bipush 8, 169, 0), (169, .if_icmp .ge 48, 172, 217), (172, .iload 6, 174, 0), (174, .iload 7, 176, 0), (176, .ishr, 177, 0), (177, .iconst 1, 178, 0), (178, .iand, 179, 0), (179, .iconst 1, 180, 0), (180, .if_icmp .ne 31, 183, 211), (183, .aload_n 0, 184, 0), (184, .getfield 38, 187, 0), (187, .bipush 8, 189, 0), (189, .iload 5, 191, 0), (191, .iconst 1, 192, 0), (192, .iload 7, 194, 0), (194, .ishl, 195, 0), (195, .ior, 196, 0), (196, .imul, 197, 0), (197, .iload 7, 199, 0), (199, .iadd, 200, 0), (200, .dup2, 201, 0), (201, .iaload, 202, 0), (202, .aload_n 0, 203, 0), (203, .getfield 38, 206, 0), (206, .iload 4, 208, 0), (208, .iaload, 209, 0), (209, .iadd, 210, 0), (210, .iastore, 211, 0), (211, .iinc 7 1, 214, 0), (214, .goto (-49), 217, 165), (217, .iinc 4 1, 220, 0), (220, .goto (-148), 223, 72), (223, .iinc 3 1, 226, 0), (226, .goto (-209), 229, 17), (229, .iload_n 2, 230, 0), (230, .ireturn, 231, 0)])
theorem o_X8_clubs_0 : ((m_X8_clubs.2.2.2.2.drop (40 * 0)).take 40).all (zk_chk m_X8_clubs.2.1) = true := by decide +kernel
theorem o_X8_clubs_1 : ((m_X8_clubs.2.2.2.2.drop (40 * 1)).take 40).all (zk_chk m_X8_clubs.2.1) = true := by decide +kernel
theorem o_X8_clubs_2 : ((m_X8_clubs.2.2.2.2.drop (40 * 2)).take 40).all (zk_chk m_X8_clubs.2.1) = true := by decide +kernel
theorem o_X8_clubs_3 : ((m_X8_clubs.2.2.2.2.drop (40 * 3)).take 40).all (zk_chk m_X8_clubs.2.1) = true := by decide +kernel
theorem o_X8_clubs : zk_ok m_X8_clubs := zk_ok_ch 40 4 (fun i hi => by
  match i, hi with
  | 0, _ => exact o_X8_clubs_0
  | 1, _ => exact o_X8_clubs_1
  | 2, _ => exact o_X8_clubs_2
  | 3, _ => exact o_X8_clubs_3
  | i + 4, h => exact absurd h (by omega)) (by decide +kernel)
def m_X8_holders : zk_Mt := (⟨"NamedNextModel", "holders", "(II)I"⟩, prog_10_method_53_code, 5, some .int, [(0, .aload_n 0, 1, 0), (1, .iload_n 1, 2, 0), (2, .invokevirtual 175, 5, 0), (5, .iconst 0, 6, 0), (6, .istore_n 3, 7, 0), (7, .iconst 0, 8, 0), (8, .istore 4, 10, 0), (10, .iload 4, 12, 0), (12, .sipush 2048, 15, 0), (15, .if_icmp .ge 60, 18, 75), (18, .iload_n 3, 19, 0), (19, .aload_n 0, 20, 0), (20, .getfield 56, 23, 0), (23, .iload 4, 25, 0), (25, .laload, 26, 0), (26, .lconst 0, 27, 0), (27, .lcmp, 28, 0), (28, .ifCond .le 38, 31, 66), (31, .iload 4, 33, 0), (33, .bipush 8, 35, 0), (35, .idiv, 36, 0), (36, .invokestatic 152, 39, 0), (39, .aload_n 0, 40, 0), (40, .getfield 19, 43, 0), (43, .bipush 6, 45, 0), (45, .iload_n 1, 46, 0), (46, .iadd, 47, 0), (47, .iaload, 48, 0), (48, .invokestatic 152, 51, 0), (51, .isub, 52, 0), (52, .iload_n 2, 53, 0), (53, .if_icmp .ne 13, 56, 66), (56, .iconst 1, 57, 0), (57, .iload 4, 59, 0), (59, .bipush 8, 61, 0), (61, .irem, 62, 0), (62, .ishl, 63, 0), (63, .goto 4, 66, 67), (66, .iconst 0, 67, 0), (67, .ior, 68, 0), (68, .istore_n 3, 69, 0), (69, .iinc 4 1, 72, 0), (72, .goto (-62), 75, 10), (75, .iload_n 3, 76, 0), (76, .ireturn, 77, 0)])
theorem o_X8_holders : zk_ok m_X8_holders := (by decide +kernel : m_X8_holders.2.2.2.2.all (zk_chk m_X8_holders.2.1) = true)
def m_X8_meet : zk_Mt := (⟨"NamedNextModel", "meet", "(II)I"⟩, prog_10_method_54_code, 5, some .int, [(0, .aload_n 0, 1, 0), (1, .iload_n 1, 2, 0), (2, .invokevirtual 143, 5, 0), (5, .ifCond .eq 16, 8, 21), (8, .aload_n 0, 9, 0), (9, .iload_n 2, 10, 0), (10, .invokevirtual 143, 13, 0), (13, .ifCond .eq 8, 16, 21), (16, .iload_n 1, 17, 0), (17, .iload_n 2, 18, 0), (18, .if_icmp .ne 6, 21, 24), (21, .bipush (-2), 23, 0), (23, .ireturn, 24, 0), (24, .iconst (-1), 25, 0), (25, .istore_n 3, 26, 0), (26, .bipush 7, 28, 0), (28, .istore 4, 30, 0), (30, .iload 4, 32, 0), (32, .ifCond .lt 34, 35, 66), (35, .aload_n 0, 36, 0), (36, .iload_n 1, 37, 0), (37, .iload 4, 39, 0), (39, .invokevirtual 183, 42, 0), (42, .aload_n 0, 43, 0), (43, .iload_n 2, 44, 0), (44, .iload 4, 46, 0), (46, .invokevirtual 183, 49, 0), (49, .iand, 50, 0), (50, .ifCond .eq 8, 53, 58), (53, .iload 4, 55, 0), (55, .goto 4, 58, 59), (58, .iload_n 3, 59, 0), (59, .istore_n 3, 60, 0), (60, .iinc 4 (-1), 63, 0), (63, .goto (-33), 66, 30), (66, .iload_n 3, 67, 0), (67, .ireturn, 68, 0)])
theorem o_X8_meet : zk_ok m_X8_meet := (by decide +kernel : m_X8_meet.2.2.2.2.all (zk_chk m_X8_meet.2.1) = true)
def m_X8_slip : zk_Mt := (⟨"NamedNextModel", "slip", "(II)I"⟩, prog_10_method_55_code, 3, some .int, [(0, .aload_n 0, 1, 0), (1, .iload_n 1, 2, 0), (2, .invokevirtual 140, 5, 0), (5, .ifCond .eq 16, 8, 21), (8, .aload_n 0, 9, 0), (9, .iload_n 2, 10, 0), (10, .invokevirtual 140, 13, 0), (13, .ifCond .eq 8, 16, 21), (16, .iload_n 1, 17, 0), (17, .iload_n 2, 18, 0), (18, .if_icmp .ne 6, 21, 24), (21, .bipush (-2), 23, 0), (23, .ireturn, 24, 0), (24, .aload_n 0, 25, 0), (25, .getfield 133, 28, 0), (28, .bipush 8, 30, 0), (30, .if_icmp .ne 6, 33, 36), (33, .bipush (-5), 35, 0), (35, .ireturn, 36, 0), (36, .aload_n 0, 37, 0), (37, .getfield 32, 40, 0), (40, .aload_n 0, 41, 0), (41, .getfield 133, 44, 0), (44, .bipush 8, 46, 0), (46, .iload_n 1, 47, 0), (47, .imul, 48, 0), (48, .iload_n 2, 49, 0), (49, .iadd, 50, 0), (50, .iastore, 51, 0), (51, .aload_n 0, 52, 0), (52, .dup, 53, 0), (53, .getfield 133, 56, 0), (56, .iconst 1, 57, 0), (57, .iadd, 58, 0), (58, .putfield 133, 61, 0), (61, .aload_n 0, 62, 0), (62, .getfield 133, 65, 0), (65, .ireturn, 66, 0)])
theorem o_X8_slip : zk_ok m_X8_slip := (by decide +kernel : m_X8_slip.2.2.2.2.all (zk_chk m_X8_slip.2.1) = true)
def m_X8_burn : zk_Mt := (⟨"NamedNextModel", "burn", "()I"⟩, prog_10_method_56_code, 2, some .int, [(0, .aload_n 0, 1, 0), (1, .getfield 133, 4, 0), (4, .istore_n 1, 5, 0), (5, .aload_n 0, 6, 0), (6, .iconst 0, 7, 0), (7, .putfield 133, 10, 0), (10, .iload_n 1, 11, 0), (11, .ireturn, 12, 0)])
theorem o_X8_burn : zk_ok m_X8_burn := (by decide +kernel : m_X8_burn.2.2.2.2.all (zk_chk m_X8_burn.2.1) = true)
def m_X8_canBe : zk_Mt := (⟨"NamedNextModel", "canBe", "(I)Z"⟩, prog_10_method_57_code, 7, some .boolean, [(0, .iconst 0, 1, 0), (1, .istore_n 2, 2, 0), (2, .iconst 0, 3, 0), (3, .istore_n 3, 4, 0), (4, .iload_n 3, 5, 0), (5, .bipush 8, 7, 0), (7, .if_icmp .ge 16, 10, 23), (10, .aload_n 0, 11, 0), (11, .getfield 60, 14, 0), (14, .iload_n 3, 15, 0), (15, .iconst (-1), 16, 0), (16, .iastore, 17, 0), (17, .iinc 3 1, 20, 0), (20, .goto (-16), 23, 4), (23, .iconst 0, 24, 0), (24, .istore_n 3, 25, 0), (25, .iload_n 3, 26, 0), (26, .aload_n 0, 27, 0), (27, .getfield 133, 30, 0), (30, .if_icmp .ge 94, 33, 124), (33, .iload_n 1, 34, 0), (34, .iload_n 3, 35, 0), (35, .ishr, 36, 0), (36, .iconst 1, 37, 0), (37, .iand, 38, 0), (38, .iconst 1, 39, 0), (39, .if_icmp .ne 79, 42, 118), (42, .aload_n 0, 43, 0), (43, .getfield 32, 46, 0), (46, .iload_n 3, 47, 0), (47, .iaload, 48, 0), (48, .bipush 8, 50, 0), (50, .idiv, 51, 0), (51, .istore 4, 53, 0), (53, .aload_n 0, 54, 0), (54, .getfield 32, 57, 0), (57, .iload_n 3, 58, 0), (58, .iaload, 59, 0), (59, .bipush 8, 61, 0), (61, .irem, 62, 0), (62, .istore 5, 64, 0), (64, .aload_n 0, 65, 0), (65, .getfield 60, 68, 0), (68, .iload 4, 70, 0), (70, .iaload, 71, 0), (71, .iconst (-1), 72, 0), (72, .if_icmp .ne 28, 75, 100), (75, .iload_n 2, 76, 0), (76, .iload 5, 78, 0), (78, .ishr, 79, 0), (79, .iconst 1, 80, 0), (80, .iand, 81, 0), (81, .iconst 1, 82, 0), (82, .if_icmp .eq 18, 85, 100), (85, .aload_n 0, 86, 0), (86, .iload 4, 88, 0), (88, .iconst 0, 89, 0), (89, .invokevirtual 136, 92, 0), (92, .iload 5, 94, 0), (94, .ishr, 95, 0), (95, .iconst 1, 96, 0), (96, .iand, 97, 0), (97, .ifCond .ne 5, 100, 102), (100, .iconst 0, 101, 0), (101, .ireturn, 102, 0), (102, .aload_n 0, 103, 0), (103, .getfield 60, 106, 0), (106, .iload 4, 108, 0), (108, .iload 5, 110, 0), (110, .iastore, 111, 0), (111, .iload_n 2, 112, 0), (112, .iconst 1, 113, 0), (113, .iload 5, 115, 0), (115, .ishl, 116, 0), (116, .ior, 117, 0), (117, .istore_n 2, 118, 0), (118, .iinc 3 1, 121, 0), (121, .goto (-96), 124, 25), (124, .iconst 1, 125, 0), (125, .istore_n 3, 126, 0), (126, .iconst 0, 127, 0), (127, .istore 4, 129, 0), (129, .iload 4, 131, 0), (131, .bipush 8, 133, 0), (133, .if_icmp .ge 60, 136, 193), (136, .iload 4, 138, 0), (138, .istore 5, 140, 0), (140, .iconst 0, 141, 0), (141, .istore 6, 143, 0), (143, .iload 6, 145, 0), (145, .bipush 8, 147, 0), (147, .if_icmp .ge 24, 150, 171), (150, .iload 5, 152, 0), (152, .iconst (-1), 153, 0), (153, .if_icmp .eq 18, 156, 171), (156, .aload_n 0, 157, 0), (157, .getfield 60, 160, 0), (160, .iload 5, 162, 0), (162, .iaload, 163, 0), (163, .istore 5, 165, 0), (165, .iinc 6 1, 168, 0), (168, .goto (-25), 171, 143), (171, .iload_n 3, 172, 0), (172, .ifCond .eq 13, 175, 185), (175, .iload 5, 177, 0), (177, .iconst (-1), 178, 0), (178, .if_icmp .ne 7, 181, 185), (181, .iconst 1, 182, 0), (182, .goto 4, 185, 186), (185, .iconst 0, 186, 0), (186, .istore_n 3, 187, 0), (187, .iinc 4 1, 190, 0), (190, .goto (-61), 193, 129), (193, .iload_n 3, 194, 0), (194, .ireturn, 195, 0)])
theorem o_X8_canBe_0 : ((m_X8_canBe.2.2.2.2.drop (40 * 0)).take 40).all (zk_chk m_X8_canBe.2.1) = true := by decide +kernel
theorem o_X8_canBe_1 : ((m_X8_canBe.2.2.2.2.drop (40 * 1)).take 40).all (zk_chk m_X8_canBe.2.1) = true := by decide +kernel
theorem o_X8_canBe_2 : ((m_X8_canBe.2.2.2.2.drop (40 * 2)).take 40).all (zk_chk m_X8_canBe.2.1) = true := by decide +kernel
theorem o_X8_canBe : zk_ok m_X8_canBe := zk_ok_ch 40 3 (fun i hi => by
  match i, hi with
  | 0, _ => exact o_X8_canBe_0
  | 1, _ => exact o_X8_canBe_1
  | 2, _ => exact o_X8_canBe_2
  | i + 3, h => exact absurd h (by omega)) (by decide +kernel)
def m_X8_forgedOnes : zk_Mt := (⟨"NamedNextModel", "forgedOnes", "()I"⟩, prog_10_method_58_code, 5, some .int, [(0, .iconst 1, 1, 0), (1, .aload_n 0, 2, 0), (2, .getfield 133, 5, 0), (5, .ishl, 6, 0), (6, .iconst 1, 7, 0), (7, .isub, 8, 0), (8, .istore_n 1, 9, 0), (9, .iload_n 1, 10, 0), (10, .istore_n 2, 11, 0), (11, .iload_n 1, 12, 0), (12, .istore_n 3, 13, 0), (13, .iload_n 3, 14, 0), (14, .ifCond .lt 50, 17, 64), (17, .aload_n 0, 18, 0), (18, .iload_n 1, 19, 0), (19, .iload_n 3, 20, 0), (20, .iconst (-1), 21, 0), (21, .ixor, 22, 0), (22, .iand, 23, 0), (23, .invokevirtual 186, 26, 0), (26, .ifCond .eq 18, 29, 44), (29, .iload_n 3, 30, 0), (30, .invokestatic 152, 33, 0), (33, .iload_n 2, 34, 0), (34, .invokestatic 152, 37, 0), (37, .if_icmp .gt 7, 40, 44), (40, .iconst 1, 41, 0), (41, .goto 4, 44, 45), (44, .iconst 0, 45, 0), (45, .istore 4, 47, 0), (47, .iload 4, 49, 0), (49, .ifCond .eq 7, 52, 56), (52, .iload_n 3, 53, 0), (53, .goto 4, 56, 57), (56, .iload_n 2, 57, 0), (57, .istore_n 2, 58, 0), (58, .iinc 3 (-1), 61, 0), (61, .goto (-48), 64, 13), (64, .iload_n 2, 65, 0), (65, .ireturn, 66, 0)])
theorem o_X8_forgedOnes : zk_ok m_X8_forgedOnes := (by decide +kernel : m_X8_forgedOnes.2.2.2.2.all (zk_chk m_X8_forgedOnes.2.1) = true)
def m_X8_forged : zk_Mt := (⟨"NamedNextModel", "forged", "(I)I"⟩, prog_10_method_59_code, 3, some .int, [(0, .iload_n 1, 1, 0), (1, .iconst 0, 2, 0), (2, .iconst 1, 3, 0), (3, .invokestatic 63, 6, 0), (6, .ifCond .ne 6, 9, 12), (9, .bipush (-3), 11, 0), (11, .ireturn, 12, 0), (12, .aload_n 0, 13, 0), (13, .invokevirtual 189, 16, 0), (16, .istore_n 2, 17, 0), (17, .iload_n 1, 18, 0), (18, .ifCond .ne 10, 21, 28), (21, .iload_n 2, 22, 0), (22, .invokestatic 152, 25, 0), (25, .goto 4, 28, 29), (28, .iload_n 2, 29, 0), (29, .ireturn, 30, 0)])
theorem o_X8_forged : zk_ok m_X8_forged := (by decide +kernel : m_X8_forged.2.2.2.2.all (zk_chk m_X8_forged.2.1) = true)
def m_X8_holder : zk_Mt := (⟨"NamedNextModel", "holder", "()I"⟩, prog_10_method_60_code, 6, some .int, [(0, .aload_n 0, 1, 0), (1, .invokevirtual 189, 4, 0), (4, .istore_n 1, 5, 0), (5, .iconst 0, 6, 0), (6, .istore_n 2, 7, 0), (7, .iconst 0, 8, 0), (8, .istore_n 3, 9, 0), (9, .iconst 0, 10, 0), (10, .istore 4, 12, 0), (12, .iload 4, 14, 0), (14, .aload_n 0, 15, 0), (15, .getfield 133, 18, 0), (18, .if_icmp .ge 73, 21, 91), (21, .iload_n 1, 22, 0), (22, .iload 4, 24, 0), (24, .ishr, 25, 0), (25, .iconst 1, 26, 0), (26, .iand, 27, 0), (27, .ifCond .ne 7, 30, 34), (30, .iconst 1, 31, 0), (31, .goto 4, 34, 35), (34, .iconst 0, 35, 0), (35, .istore 5, 37, 0), (37, .iload_n 2, 38, 0), (38, .iload 5, 40, 0), (40, .ifCond .eq 18, 43, 58), (43, .iconst 1, 44, 0), (44, .aload_n 0, 45, 0), (45, .getfield 32, 48, 0), (48, .iload 4, 50, 0), (50, .iaload, 51, 0), (51, .bipush 8, 53, 0), (53, .irem, 54, 0), (54, .ishl, 55, 0), (55, .goto 4, 58, 59), (58, .iconst 0, 59, 0), (59, .ior, 60, 0), (60, .istore_n 2, 61, 0), (61, .iload_n 3, 62, 0), (62, .iload 5, 64, 0), (64, .ifCond .eq 18, 67, 82), (67, .iconst 1, 68, 0), (68, .aload_n 0, 69, 0), (69, .getfield 32, 72, 0), (72, .iload 4, 74, 0), (74, .iaload, 75, 0), (75, .bipush 8, 77, 0), (77, .idiv, 78, 0), (78, .ishl, 79, 0), (79, .goto 4, 82, 83), (82, .iconst 0, 83, 0), (83, .ior, 84, 0), (84, .istore_n 3, 85, 0), (85, .iinc 4 1, 88, 0), (88, .goto (-76), 91, 12), (91, .iconst (-1), 92, 0), (92, .istore 4, 94, 0), (94, .bipush 7, 96, 0), (96, .istore 5, 98, 0), (98, .iload 5, 100, 0), (100, .ifCond .lt 32, 103, 132), (103, .iload_n 2, 104, 0), (104, .iload_n 3, 105, 0), (105, .iconst (-1), 106, 0), (106, .ixor, 107, 0), (107, .iand, 108, 0), (108, .iload 5, 110, 0), (110, .ishr, 111, 0), (111, .iconst 1, 112, 0), (112, .iand, 113, 0), (113, .iconst 1, 114, 0), (114, .if_icmp .ne 8, 117, 122), (117, .iload 5, 119, 0), (119, .goto 5, 122, 124), (122, .iload 4, 124, 0), (124, .istore 4, 126, 0), (126, .iinc 5 (-1), 129, 0), (129, .goto (-31), 132, 98), (132, .iload 4, 134, 0), (134, .ireturn, 135, 0)])
theorem o_X8_holder_0 : ((m_X8_holder.2.2.2.2.drop (40 * 0)).take 40).all (zk_chk m_X8_holder.2.1) = true := by decide +kernel
theorem o_X8_holder_1 : ((m_X8_holder.2.2.2.2.drop (40 * 1)).take 40).all (zk_chk m_X8_holder.2.1) = true := by decide +kernel
theorem o_X8_holder : zk_ok m_X8_holder := zk_ok_ch 40 2 (fun i hi => by
  match i, hi with
  | 0, _ => exact o_X8_holder_0
  | 1, _ => exact o_X8_holder_1
  | i + 2, h => exact absurd h (by omega)) (by decide +kernel)
def m_X8_count : zk_Mt := (⟨"NamedNextModel", "count", "(I)I"⟩, prog_10_method_61_code, 5, some .int, [(0, .iload_n 1, 1, 0), (1, .iconst 0, 2, 0), (2, .bipush 8, 4, 0), (4, .invokestatic 63, 7, 0), (7, .ifCond .ne 6, 10, 13), (10, .bipush (-3), 12, 0), (12, .ireturn, 13, 0), (13, .iconst 0, 14, 0), (14, .istore_n 2, 15, 0), (15, .iconst 0, 16, 0), (16, .istore_n 3, 17, 0), (17, .iload_n 3, 18, 0), (18, .aload_n 0, 19, 0), (19, .getfield 13, 22, 0), (22, .iconst 0, 23, 0), (23, .iaload, 24, 0), (24, .if_icmp .ge 24, 27, 48), (27, .iload_n 2, 28, 0), (28, .aload_n 0, 29, 0), (29, .getfield 13, 32, 0), (32, .bipush 18, 34, 0), (34, .iload_n 3, 35, 0), (35, .iadd, 36, 0), (36, .iaload, 37, 0), (37, .invokestatic 152, 40, 0), (40, .iadd, 41, 0), (41, .istore_n 2, 42, 0), (42, .iinc 3 1, 45, 0), (45, .goto (-28), 48, 17), (48, .iconst 0, 49, 0), (49, .istore_n 3, 50, 0), (50, .iconst 0, 51, 0), (51, .istore 4, 53, 0), (53, .iload 4, 55, 0), (55, .aload_n 0, 56, 0), (56, .getfield 13, 59, 0), (59, .iconst 1, 60, 0), (60, .iaload, 61, 0), (61, .if_icmp .ge 29, 64, 90), (64, .iload_n 3, 65, 0), (65, .aload_n 0, 66, 0), (66, .iload 4, 68, 0), (68, .invokevirtual 146, 71, 0), (71, .ifCond .ne 10, 74, 81), (74, .iconst 1, 75, 0), (75, .iload 4, 77, 0), (77, .ishl, 78, 0), (78, .goto 4, 81, 82), (81, .iconst 0, 82, 0), (82, .ior, 83, 0), (83, .istore_n 3, 84, 0), (84, .iinc 4 1, 87, 0), (87, .goto (-34), 90, 53), (90, .iload_n 1, 91, 0), (91, .tableswitch 89 0 7 #[45, 52, 59, 66, 70, 72, 77, 84], 136, 0), (136, .aload_n 0, 137, 0), (137, .getfield 13, 140, 0), (140, .iconst 0, 141, 0), (141, .iaload, 142, 0), (142, .ireturn, 143, 0), (143, .aload_n 0, 144, 0), (144, .getfield 13, 147, 0), (147, .iconst 1, 148, 0), (148, .iaload, 149, 0), (149, .ireturn, 150, 0), (150, .aload_n 0, 151, 0), (151, .getfield 19, 154, 0), (154, .iconst 0, 155, 0), (155, .iaload, 156, 0), (156, .ireturn, 157, 0), (157, .iload_n 2, 158, 0), (158, .iconst 2, 159, 0), (159, .idiv, 160, 0), (160, .ireturn, 161, 0), (161, .iload_n 3, 162, 0), (162, .ireturn, 163, 0), (163, .aload_n 0, 164, 0), (164, .getfield 133, 167, 0), (167, .ireturn, 168, 0), (168, .aload_n 0, 169, 0), (169, .getfield 19, 172, 0), (172, .iconst 1, 173, 0), (173, .iaload, 174, 0), (174, .ireturn, 175, 0), (175, .aload_n 0, 176, 0), (176, .getfield 130, 179, 0), (179, .ireturn, 180, 0), (180, .aload_n 0, 181, 0), (181, .getfield 67, 184, 0), (184, .ireturn, 185, 0)])
theorem o_X8_count_0 : ((m_X8_count.2.2.2.2.drop (40 * 0)).take 40).all (zk_chk m_X8_count.2.1) = true := by decide +kernel
theorem o_X8_count_1 : ((m_X8_count.2.2.2.2.drop (40 * 1)).take 40).all (zk_chk m_X8_count.2.1) = true := by decide +kernel
theorem o_X8_count_2 : ((m_X8_count.2.2.2.2.drop (40 * 2)).take 40).all (zk_chk m_X8_count.2.1) = true := by decide +kernel
theorem o_X8_count : zk_ok m_X8_count := zk_ok_ch 40 3 (fun i hi => by
  match i, hi with
  | 0, _ => exact o_X8_count_0
  | 1, _ => exact o_X8_count_1
  | 2, _ => exact o_X8_count_2
  | i + 3, h => exact absurd h (by omega)) (by decide +kernel)
end
section
def m_L_law : zk_Mt := (⟨"NamedNextLaw", "law", "([I)Z"⟩, code, 4, some .boolean, [(0, .new 7, 3, 0), (3, .dup, 4, 0), (4, .invokespecial 9, 7, 0), (7, .astore_n 1, 8, 0), (8, .new 10, 11, 0), (11, .dup, 12, 0), (12, .invokespecial 12, 15, 0), (15, .astore_n 2, 16, 0), (16, .iconst 0, 17, 0), (17, .istore_n 3, 18, 0), (18, .iload_n 3, 19, 0), (19, .aload_n 0, 20, 0), (20, .arraylength, 21, 0), (21, .iconst 4, 22, 0), (22, .isub, 23, 0), (23, .if_icmp .gt 876, 26, 899), (26, .aload_n 0, 27, 0), (27, .iload_n 3, 28, 0), (28, .iaload, 29, 0), (29, .bipush 31, 31, 0), (31, .iand, 32, 0), (32, .tableswitch 861 0 28 #[132, 155, 168, 181, 194, 227, 260, 293, 326, 359, 372, 385, 408, 431, 464, 497, 520, 543, 566, 589, 623, 667, 700, 723, 756, 789, 802, 825, 838], 164, 0), (164, .aload_n 1, 165, 0), (165, .aload_n 0, 166, 0), (166, .iload_n 3, 167, 0), (167, .iconst 1, 168, 0), (168, .iadd, 169, 0), (169, .iaload, 170, 0), (170, .invokevirtual 13, 173, 0), (173, .aload_n 2, 174, 0), (174, .aload_n 0, 175, 0), (175, .iload_n 3, 176, 0), (176, .iconst 1, 177, 0), (177, .iadd, 178, 0), (178, .iaload, 179, 0), (179, .invokevirtual 17, 182, 0), (182, .if_icmp .eq 711, 185, 893), (185, .iconst 0, 186, 0), (186, .ireturn, 187, 0), (187, .aload_n 1, 188, 0), (188, .invokevirtual 18, 191, 0), (191, .aload_n 2, 192, 0), (192, .invokevirtual 22, 195, 0), (195, .if_icmp .eq 698, 198, 893), (198, .iconst 0, 199, 0), (199, .ireturn, 200, 0), (200, .aload_n 1, 201, 0), (201, .invokevirtual 23, 204, 0), (204, .aload_n 2, 205, 0), (205, .invokevirtual 26, 208, 0), (208, .if_icmp .eq 685, 211, 893), (211, .iconst 0, 212, 0), (212, .ireturn, 213, 0), (213, .aload_n 1, 214, 0), (214, .invokevirtual 27, 217, 0), (217, .aload_n 2, 218, 0), (218, .invokevirtual 30, 221, 0), (221, .if_icmp .eq 672, 224, 893), (224, .iconst 0, 225, 0), (225, .ireturn, 226, 0), (226, .aload_n 1, 227, 0), (227, .aload_n 0, 228, 0), (228, .iload_n 3, 229, 0), (229, .iconst 1, 230, 0), (230, .iadd, 231, 0), (231, .iaload, 232, 0), (232, .aload_n 0, 233, 0), (233, .iload_n 3, 234, 0), (234, .iconst 2, 235, 0), (235, .iadd, 236, 0), (236, .iaload, 237, 0), (237, .invokevirtual 31, 240, 0), (240, .aload_n 2, 241, 0), (241, .aload_n 0, 242, 0), (242, .iload_n 3, 243, 0), (243, .iconst 1, 244, 0), (244, .iadd, 245, 0), (245, .iaload, 246, 0), (246, .aload_n 0, 247, 0), (247, .iload_n 3, 248, 0), (248, .iconst 2, 249, 0), (249, .iadd, 250, 0), (250, .iaload, 251, 0), (251, .invokevirtual 35, 254, 0), (254, .if_icmp .eq 639, 257, 893), (257, .iconst 0, 258, 0), (258, .ireturn, 259, 0), (259, .aload_n 1, 260, 0), (260, .aload_n 0, 261, 0), (261, .iload_n 3, 262, 0), (262, .iconst 1, 263, 0), (263, .iadd, 264, 0), (264, .iaload, 265, 0), (265, .aload_n 0, 266, 0), (266, .iload_n 3, 267, 0), (267, .iconst 2, 268, 0), (268, .iadd, 269, 0), (269, .iaload, 270, 0), (270, .invokevirtual 36, 273, 0), (273, .aload_n 2, 274, 0), (274, .aload_n 0, 275, 0), (275, .iload_n 3, 276, 0), (276, .iconst 1, 277, 0), (277, .iadd, 278, 0), (278, .iaload, 279, 0), (279, .aload_n 0, 280, 0), (280, .iload_n 3, 281, 0), (281, .iconst 2, 282, 0), (282, .iadd, 283, 0), (283, .iaload, 284, 0), (284, .invokevirtual 39, 287, 0), (287, .if_icmp .eq 606, 290, 893), (290, .iconst 0, 291, 0), (291, .ireturn, 292, 0), (292, .aload_n 1, 293, 0), (293, .aload_n 0, 294, 0), (294, .iload_n 3, 295, 0), (295, .iconst 1, 296, 0), (296, .iadd, 297, 0), (297, .iaload, 298, 0), (298, .aload_n 0, 299, 0), (299, .iload_n 3, 300, 0), (300, .iconst 2, 301, 0), (301, .iadd, 302, 0), (302, .iaload, 303, 0), (303, .invokevirtual 40, 306, 0), (306, .aload_n 2, 307, 0), (307, .aload_n 0, 308, 0), (308, .iload_n 3, 309, 0), (309, .iconst 1, 310, 0), (310, .iadd, 311, 0), (311, .iaload, 312, 0), (312, .aload_n 0, 313, 0), (313, .iload_n 3, 314, 0), (314, .iconst 2, 315, 0), (315, .iadd, 316, 0), (316, .iaload, 317, 0), (317, .invokevirtual 43, 320, 0), (320, .if_icmp .eq 573, 323, 893), (323, .iconst 0, 324, 0), (324, .ireturn, 325, 0), (325, .aload_n 1, 326, 0), (326, .aload_n 0, 327, 0), (327, .iload_n 3, 328, 0), (328, .iconst 1, 329, 0), (329, .iadd, 330, 0), (330, .iaload, 331, 0), (331, .aload_n 0, 332, 0), (332, .iload_n 3, 333, 0), (333, .iconst 2, 334, 0), (334, .iadd, 335, 0), (335, .iaload, 336, 0), (336, .invokevirtual 44, 339, 0), (339, .aload_n 2, 340, 0), (340, .aload_n 0, 341, 0), (341, .iload_n 3, 342, 0), (342, .iconst 1, 343, 0), (343, .iadd, 344, 0), (344, .iaload, 345, 0), (345, .aload_n 0, 346, 0), (346, .iload_n 3, 347, 0), (347, .iconst 2, 348, 0), (348, .iadd, 349, 0), (349, .iaload, 350, 0), (350, .invokevirtual 47, 353, 0), (353, .if_icmp .eq 540, 356, 893), (356, .iconst 0, 357, 0), (357, .ireturn, 358, 0), (358, .aload_n 1, 359, 0), (359, .aload_n 0, 360, 0), (360, .iload_n 3, 361, 0), (361, .iconst 1, 362, 0), (362, .iadd, 363, 0), (363, .iaload, 364, 0), (364, .aload_n 0, 365, 0), (365, .iload_n 3, 366, 0), (366, .iconst 2, 367, 0), (367, .iadd, 368, 0), (368, .iaload, 369, 0), (369, .invokevirtual 48, 372, 0), (372, .aload_n 2, 373, 0), (373, .aload_n 0, 374, 0), (374, .iload_n 3, 375, 0), (375, .iconst 1, 376, 0), (376, .iadd, 377, 0), (377, .iaload, 378, 0), (378, .aload_n 0, 379, 0), (379, .iload_n 3, 380, 0), (380, .iconst 2, 381, 0), (381, .iadd, 382, 0), (382, .iaload, 383, 0), (383, .invokevirtual 51, 386, 0), (386, .if_icmp .eq 507, 389, 893), (389, .iconst 0, 390, 0), (390, .ireturn, 391, 0), (391, .aload_n 1, 392, 0), (392, .invokevirtual 52, 395, 0), (395, .aload_n 2, 396, 0), (396, .invokevirtual 55, 399, 0), (399, .if_icmp .eq 494, 402, 893), (402, .iconst 0, 403, 0), (403, .ireturn, 404, 0), (404, .aload_n 1, 405, 0), (405, .invokevirtual 56, 408, 0), (408, .aload_n 2, 409, 0), (409, .invokevirtual 59, 412, 0), (412, .if_icmp .eq 481, 415, 893), (415, .iconst 0, 416, 0), (416, .ireturn, 417, 0), (417, .aload_n 1, 418, 0), (418, .aload_n 0, 419, 0), (419, .iload_n 3, 420, 0), (420, .iconst 1, 421, 0), (421, .iadd, 422, 0), (422, .iaload, 423, 0), (423, .invokevirtual 60, 426, 0), (426, .aload_n 2, 427, 0), (427, .aload_n 0, 428, 0), (428, .iload_n 3, 429, 0), (429, .iconst 1, 430, 0), (430, .iadd, 431, 0), (431, .iaload, 432, 0), (432, .invokevirtual 63, 435, 0), (435, .if_icmp .eq 458, 438, 893), (438, .iconst 0, 439, 0), (439, .ireturn, 440, 0), (440, .aload_n 1, 441, 0), (441, .aload_n 0, 442, 0), (442, .iload_n 3, 443, 0), (443, .iconst 1, 444, 0), (444, .iadd, 445, 0), (445, .iaload, 446, 0), (446, .invokevirtual 64, 449, 0), (449, .aload_n 2, 450, 0), (450, .aload_n 0, 451, 0), (451, .iload_n 3, 452, 0), (452, .iconst 1, 453, 0), (453, .iadd, 454, 0), (454, .iaload, 455, 0), (455, .invokevirtual 67, 458, 0), (458, .if_icmp .eq 435, 461, 893), (461, .iconst 0, 462, 0), (462, .ireturn, 463, 0), (463, .aload_n 1, 464, 0), (464, .aload_n 0, 465, 0), (465, .iload_n 3, 466, 0), (466, .iconst 1, 467, 0), (467, .iadd, 468, 0), (468, .iaload, 469, 0), (469, .aload_n 0, 470, 0), (470, .iload_n 3, 471, 0), (471, .iconst 2, 472, 0), (472, .iadd, 473, 0), (473, .iaload, 474, 0), (474, .invokevirtual 68, 477, 0), (477, .aload_n 2, 478, 0), (478, .aload_n 0, 479, 0), (479, .iload_n 3, 480, 0), (480, .iconst 1, 481, 0), (481, .iadd, 482, 0), (482, .iaload, 483, 0), (483, .aload_n 0, 484, 0), (484, .iload_n 3, 485, 0), (485, .iconst 2, 486, 0), (486, .iadd, 487, 0), (487, .iaload, 488, 0), (488, .invokevirtual 71, 491, 0), (491, .if_icmp .eq 402, 494, 893), (494, .iconst 0, 495, 0), (495, .ireturn, 496, 0), (496, .aload_n 1, 497, 0), (497, .aload_n 0, 498, 0), (498, .iload_n 3, 499, 0), (499, .iconst 1, 500, 0), (500, .iadd, 501, 0), (501, .iaload, 502, 0), (502, .aload_n 0, 503, 0), (503, .iload_n 3, 504, 0), (504, .iconst 2, 505, 0), (505, .iadd, 506, 0), (506, .iaload, 507, 0), (507, .invokevirtual 72, 510, 0), (510, .aload_n 2, 511, 0), (511, .aload_n 0, 512, 0), (512, .iload_n 3, 513, 0), (513, .iconst 1, 514, 0), (514, .iadd, 515, 0), (515, .iaload, 516, 0), (516, .aload_n 0, 517, 0), (517, .iload_n 3, 518, 0), (518, .iconst 2, 519, 0), (519, .iadd, 520, 0), (520, .iaload, 521, 0), (521, .invokevirtual 75, 524, 0), (524, .if_icmp .eq 369, 527, 893), (527, .iconst 0, 528, 0), (528, .ireturn, 529, 0), (529, .aload_n 1, 530, 0), (530, .aload_n 0, 531, 0), (531, .iload_n 3, 532, 0), (532, .iconst 1, 533, 0), (533, .iadd, 534, 0), (534, .iaload, 535, 0), (535, .invokevirtual 76, 538, 0), (538, .aload_n 2, 539, 0), (539, .aload_n 0, 540, 0), (540, .iload_n 3, 541, 0), (541, .iconst 1, 542, 0), (542, .iadd, 543, 0), (543, .iaload, 544, 0), (544, .invokevirtual 79, 547, 0), (547, .if_icmp .eq 346, 550, 893), (550, .iconst 0, 551, 0), (551, .ireturn, 552, 0), (552, .aload_n 1, 553, 0), (553, .aload_n 0, 554, 0), (554, .iload_n 3, 555, 0), (555, .iconst 1, 556, 0), (556, .iadd, 557, 0), (557, .iaload, 558, 0), (558, .invokevirtual 80, 561, 0), (561, .aload_n 2, 562, 0), (562, .aload_n 0, 563, 0), (563, .iload_n 3, 564, 0), (564, .iconst 1, 565, 0), (565, .iadd, 566, 0), (566, .iaload, 567, 0), (567, .invokevirtual 83, 570, 0), (570, .if_icmp .eq 323, 573, 893), (573, .iconst 0, 574, 0), (574, .ireturn, 575, 0), (575, .aload_n 1, 576, 0), (576, .aload_n 0, 577, 0), (577, .iload_n 3, 578, 0), (578, .iconst 1, 579, 0), (579, .iadd, 580, 0), (580, .iaload, 581, 0), (581, .invokevirtual 84, 584, 0), (584, .aload_n 2, 585, 0), (585, .aload_n 0, 586, 0), (586, .iload_n 3, 587, 0), (587, .iconst 1, 588, 0), (588, .iadd, 589, 0), (589, .iaload, 590, 0), (590, .invokevirtual 87, 593, 0), (593, .if_icmp .eq 300, 596, 893), (596, .iconst 0, 597, 0), (597, .ireturn, 598, 0), (598, .aload_n 1, 599, 0), (599, .aload_n 0, 600, 0), (600, .iload_n 3, 601, 0), (601, .iconst 1, 602, 0), (602, .iadd, 603, 0), (603, .iaload, 604, 0), (604, .invokevirtual 88, 607, 0), (607, .aload_n 2, 608, 0), (608, .aload_n 0, 609, 0), (609, .iload_n 3, 610, 0), (610, .iconst 1, 611, 0), (611, .iadd, 612, 0), (612, .iaload, 613, 0), (613, .invokevirtual 91, 616, 0), (616, .if_icmp .eq 277, 619, 893), (619, .iconst 0, 620, 0), (620, .ireturn, 621, 0), (621, .aload_n 1, 622, 0), (622, .aload_n 0, 623, 0), (623, .iload_n 3, 624, 0), (624, .iconst 1, 625, 0), (625, .iadd, 626, 0), (626, .iaload, 627, 0), (627, .aload_n 0, 628, 0), (628, .iload_n 3, 629, 0), (629, .iconst 2, 630, 0), (630, .iadd, 631, 0), (631, .iaload, 632, 0), (632, .invokevirtual 92, 635, 0), (635, .aload_n 2, 636, 0), (636, .aload_n 0, 637, 0), (637, .iload_n 3, 638, 0), (638, .iconst 1, 639, 0), (639, .iadd, 640, 0), (640, .iaload, 641, 0), (641, .aload_n 0, 642, 0), (642, .iload_n 3, 643, 0), (643, .iconst 2, 644, 0), (644, .iadd, 645, 0), (645, .iaload, 646, 0), (646, .invokevirtual 96, 649, 0), (649, .lcmp, 650, 0), (650, .ifCond .eq 243, 653, 893), (653, .iconst 0, 654, 0), (654, .ireturn, 655, 0), (655, .aload_n 1, 656, 0), (656, .aload_n 0, 657, 0), (657, .iload_n 3, 658, 0), (658, .iconst 1, 659, 0), (659, .iadd, 660, 0), (660, .iaload, 661, 0), (661, .aload_n 0, 662, 0), (662, .iload_n 3, 663, 0), (663, .iconst 2, 664, 0), (664, .iadd, 665, 0), (665, .iaload, 666, 0), (666, .aload_n 0, 667, 0), (667, .iload_n 3, 668, 0), (668, .iconst 3, 669, 0), (669, .iadd, 670, 0), (670, .iaload, 671, 0), (671, .invokevirtual 97, 674, 0), (674, .aload_n 2, 675, 0), (675, .aload_n 0, 676, 0), (676, .iload_n 3, 677, 0), (677, .iconst 1, 678, 0), (678, .iadd, 679, 0), (679, .iaload, 680, 0), (680, .aload_n 0, 681, 0), (681, .iload_n 3, 682, 0), (682, .iconst 2, 683, 0), (683, .iadd, 684, 0), (684, .iaload, 685, 0), (685, .aload_n 0, 686, 0), (686, .iload_n 3, 687, 0), (687, .iconst 3, 688, 0), (688, .iadd, 689, 0), (689, .iaload, 690, 0), (690, .invokevirtual 101, 693, 0), (693, .lcmp, 694, 0), (694, .ifCond .eq 199, 697, 893), (697, .iconst 0, 698, 0), (698, .ireturn, 699, 0), (699, .aload_n 1, 700, 0), (700, .aload_n 0, 701, 0), (701, .iload_n 3, 702, 0), (702, .iconst 1, 703, 0), (703, .iadd, 704, 0), (704, .iaload, 705, 0), (705, .aload_n 0, 706, 0), (706, .iload_n 3, 707, 0), (707, .iconst 2, 708, 0), (708, .iadd, 709, 0), (709, .iaload, 710, 0), (710, .invokevirtual 102, 713, 0), (713, .aload_n 2, 714, 0), (714, .aload_n 0, 715, 0), (715, .iload_n 3, 716, 0), (716, .iconst 1, 717, 0), (717, .iadd, 718, 0), (718, .iaload, 719, 0), (719, .aload_n 0, 720, 0), (720, .iload_n 3, 721, 0), (721, .iconst 2, 722, 0), (722, .iadd, 723, 0), (723, .iaload, 724, 0), (724, .invokevirtual 105, 727, 0), (727, .if_icmp .eq 166, 730, 893), (730, .iconst 0, 731, 0), (731, .ireturn, 732, 0), (732, .aload_n 1, 733, 0), (733, .aload_n 0, 734, 0), (734, .iload_n 3, 735, 0), (735, .iconst 1, 736, 0), (736, .iadd, 737, 0), (737, .iaload, 738, 0), (738, .invokevirtual 106, 741, 0), (741, .aload_n 2, 742, 0), (742, .aload_n 0, 743, 0), (743, .iload_n 3, 744, 0), (744, .iconst 1, 745, 0), (745, .iadd, 746, 0), (746, .iaload, 747, 0), (747, .invokevirtual 109, 750, 0), (750, .if_icmp .eq 143, 753, 893), (753, .iconst 0, 754, 0), (754, .ireturn, 755, 0), (755, .aload_n 1, 756, 0), (756, .aload_n 0, 757, 0), (757, .iload_n 3, 758, 0), (758, .iconst 1, 759, 0), (759, .iadd, 760, 0), (760, .iaload, 761, 0), (761, .aload_n 0, 762, 0), (762, .iload_n 3, 763, 0), (763, .iconst 2, 764, 0), (764, .iadd, 765, 0), (765, .iaload, 766, 0), (766, .invokevirtual 110, 769, 0), (769, .aload_n 2, 770, 0), (770, .aload_n 0, 771, 0), (771, .iload_n 3, 772, 0), (772, .iconst 1, 773, 0), (773, .iadd, 774, 0), (774, .iaload, 775, 0), (775, .aload_n 0, 776, 0), (776, .iload_n 3, 777, 0), (777, .iconst 2, 778, 0), (778, .iadd, 779, 0), (779, .iaload, 780, 0), (780, .invokevirtual 113, 783, 0), (783, .if_icmp .eq 110, 786, 893), (786, .iconst 0, 787, 0), (787, .ireturn, 788, 0), (788, .aload_n 1, 789, 0), (789, .aload_n 0, 790, 0), (790, .iload_n 3, 791, 0), (791, .iconst 1, 792, 0), (792, .iadd, 793, 0), (793, .iaload, 794, 0), (794, .aload_n 0, 795, 0), (795, .iload_n 3, 796, 0), (796, .iconst 2, 797, 0), (797, .iadd, 798, 0), (798, .iaload, 799, 0), (799, .invokevirtual 114, 802, 0), (802, .aload_n 2, 803, 0), (803, .aload_n 0, 804, 0), (804, .iload_n 3, 805, 0), (805, .iconst 1, 806, 0), (806, .iadd, 807, 0), (807, .iaload, 808, 0), (808, .aload_n 0, 809, 0), (809, .iload_n 3, 810, 0), (810, .iconst 2, 811, 0), (811, .iadd, 812, 0), (812, .iaload, 813, 0), (813, .invokevirtual 117, 816, 0), (816, .if_icmp .eq 77, 819, 893), (819, .iconst 0, 820, 0), (820, .ireturn, 821, 0), (821, .aload_n 1, 822, 0), (822, .invokevirtual 118, 825, 0), (825, .aload_n 2, 826, 0), (826, .invokevirtual 121, 829, 0), (829, .if_icmp .eq 64, 832, 893), (832, .iconst 0, 833, 0), (833, .ireturn, 834, 0), (834, .aload_n 1, 835, 0), (835, .aload_n 0, 836, 0), (836, .iload_n 3, 837, 0), (837, .iconst 1, 838, 0), (838, .iadd, 839, 0), (839, .iaload, 840, 0), (840, .invokevirtual 122, 843, 0), (843, .aload_n 2, 844, 0), (844, .aload_n 0, 845, 0), (845, .iload_n 3, 846, 0), (846, .iconst 1, 847, 0), (847, .iadd, 848, 0), (848, .iaload, 849, 0), (849, .invokevirtual 125, 852, 0), (852, .if_icmp .eq 41, 855, 893), (855, .iconst 0, 856, 0), (856, .ireturn, 857, 0), (857, .aload_n 1, 858, 0), (858, .invokevirtual 126, 861, 0), (861, .aload_n 2, 862, 0), (862, .invokevirtual 129, 865, 0), (865, .if_icmp .eq 28, 868, 893), (868, .iconst 0, 869, 0), (869, .ireturn, 870, 0), (870, .aload_n 1, 871, 0), (871, .aload_n 0, 872, 0), (872, .iload_n 3, 873, 0), (873, .iconst 1, 874, 0), (874, .iadd, 875, 0), (875, .iaload, 876, 0), (876, .invokevirtual 130, 879, 0), (879, .aload_n 2, 880, 0), (880, .aload_n 0, 881, 0), (881, .iload_n 3, 882, 0), (882, .iconst 1, 883, 0), (883, .iadd, 884, 0), (884, .iaload, 885, 0), (885, .invokevirtual 133, 888, 0), (888, .if_icmp .eq 5, 891, 893), (891, .iconst 0, 892, 0), (892, .ireturn, 893, 0), (893, .iinc 3 4, 896, 0), (896, .goto (-878), 899, 18), (899, .iconst 1, 900, 0), (900, .ireturn, 901, 0)])
theorem o_L_law_0 : ((m_L_law.2.2.2.2.drop (40 * 0)).take 40).all (zk_chk m_L_law.2.1) = true := by decide +kernel
theorem o_L_law_1 : ((m_L_law.2.2.2.2.drop (40 * 1)).take 40).all (zk_chk m_L_law.2.1) = true := by decide +kernel
theorem o_L_law_2 : ((m_L_law.2.2.2.2.drop (40 * 2)).take 40).all (zk_chk m_L_law.2.1) = true := by decide +kernel
theorem o_L_law_3 : ((m_L_law.2.2.2.2.drop (40 * 3)).take 40).all (zk_chk m_L_law.2.1) = true := by decide +kernel
theorem o_L_law_4 : ((m_L_law.2.2.2.2.drop (40 * 4)).take 40).all (zk_chk m_L_law.2.1) = true := by decide +kernel
theorem o_L_law_5 : ((m_L_law.2.2.2.2.drop (40 * 5)).take 40).all (zk_chk m_L_law.2.1) = true := by decide +kernel
theorem o_L_law_6 : ((m_L_law.2.2.2.2.drop (40 * 6)).take 40).all (zk_chk m_L_law.2.1) = true := by decide +kernel
theorem o_L_law_7 : ((m_L_law.2.2.2.2.drop (40 * 7)).take 40).all (zk_chk m_L_law.2.1) = true := by decide +kernel
theorem o_L_law_8 : ((m_L_law.2.2.2.2.drop (40 * 8)).take 40).all (zk_chk m_L_law.2.1) = true := by decide +kernel
theorem o_L_law_9 : ((m_L_law.2.2.2.2.drop (40 * 9)).take 40).all (zk_chk m_L_law.2.1) = true := by decide +kernel
theorem o_L_law_10 : ((m_L_law.2.2.2.2.drop (40 * 10)).take 40).all (zk_chk m_L_law.2.1) = true := by decide +kernel
theorem o_L_law_11 : ((m_L_law.2.2.2.2.drop (40 * 11)).take 40).all (zk_chk m_L_law.2.1) = true := by decide +kernel
theorem o_L_law_12 : ((m_L_law.2.2.2.2.drop (40 * 12)).take 40).all (zk_chk m_L_law.2.1) = true := by decide +kernel
theorem o_L_law_13 : ((m_L_law.2.2.2.2.drop (40 * 13)).take 40).all (zk_chk m_L_law.2.1) = true := by decide +kernel
theorem o_L_law_14 : ((m_L_law.2.2.2.2.drop (40 * 14)).take 40).all (zk_chk m_L_law.2.1) = true := by decide +kernel
theorem o_L_law : zk_ok m_L_law := zk_ok_ch 40 15 (fun i hi => by
  match i, hi with
  | 0, _ => exact o_L_law_0
  | 1, _ => exact o_L_law_1
  | 2, _ => exact o_L_law_2
  | 3, _ => exact o_L_law_3
  | 4, _ => exact o_L_law_4
  | 5, _ => exact o_L_law_5
  | 6, _ => exact o_L_law_6
  | 7, _ => exact o_L_law_7
  | 8, _ => exact o_L_law_8
  | 9, _ => exact o_L_law_9
  | 10, _ => exact o_L_law_10
  | 11, _ => exact o_L_law_11
  | 12, _ => exact o_L_law_12
  | 13, _ => exact o_L_law_13
  | 14, _ => exact o_L_law_14
  | i + 15, h => exact absurd h (by omega)) (by decide +kernel)
end
section
/-! links -/
theorem b_X0_init : zk_LB m_X0_init 1 := ⟨o_X0_init, by decide +kernel, by decide +kernel, zk_mem 95 (by decide +kernel) (by decide +kernel), zk_mem 4 (by decide +kernel) (by decide +kernel), by decide +kernel, by decide +kernel, by decide +kernel⟩
theorem b_X0_firstFault : zk_LB m_X0_firstFault 1 := ⟨o_X0_firstFault, by decide +kernel, by decide +kernel, zk_mem 273 (by decide +kernel) (by decide +kernel), zk_mem 4 (by decide +kernel) (by decide +kernel), by decide +kernel, by decide +kernel, by decide +kernel⟩
theorem b_X0_doClause : zk_LB m_X0_doClause 0 := ⟨o_X0_doClause, by decide +kernel, by decide +kernel, zk_mem 295 (by decide +kernel) (by decide +kernel), zk_mem 4 (by decide +kernel) (by decide +kernel), by decide +kernel, by decide +kernel, by decide +kernel⟩
theorem b_X0_kindOfWord : zk_LB m_X0_kindOfWord 0 := ⟨o_X0_kindOfWord, by decide +kernel, by decide +kernel, zk_mem 299 (by decide +kernel) (by decide +kernel), zk_mem 4 (by decide +kernel) (by decide +kernel), by decide +kernel, by decide +kernel, by decide +kernel⟩
theorem b_X0_doReader : zk_LB m_X0_doReader 1 := ⟨o_X0_doReader, by decide +kernel, by decide +kernel, zk_mem 359 (by decide +kernel) (by decide +kernel), zk_mem 4 (by decide +kernel) (by decide +kernel), by decide +kernel, by decide +kernel, by decide +kernel⟩
theorem b_X0_doFeud : zk_LB m_X0_doFeud 0 := ⟨o_X0_doFeud, by decide +kernel, by decide +kernel, zk_mem 377 (by decide +kernel) (by decide +kernel), zk_mem 4 (by decide +kernel) (by decide +kernel), by decide +kernel, by decide +kernel, by decide +kernel⟩
theorem b_X0_doMove : zk_LB m_X0_doMove 0 := ⟨o_X0_doMove, by decide +kernel, by decide +kernel, zk_mem 386 (by decide +kernel) (by decide +kernel), zk_mem 4 (by decide +kernel) (by decide +kernel), by decide +kernel, by decide +kernel, by decide +kernel⟩
theorem b_X0_doBook : zk_LB m_X0_doBook 0 := ⟨o_X0_doBook, by decide +kernel, by decide +kernel, zk_mem 391 (by decide +kernel) (by decide +kernel), zk_mem 4 (by decide +kernel) (by decide +kernel), by decide +kernel, by decide +kernel, by decide +kernel⟩
theorem b_X0_nextNumber : zk_LB m_X0_nextNumber 1 := ⟨o_X0_nextNumber, by decide +kernel, by decide +kernel, zk_mem 363 (by decide +kernel) (by decide +kernel), zk_mem 4 (by decide +kernel) (by decide +kernel), by decide +kernel, by decide +kernel, by decide +kernel⟩
theorem b_X1_init : zk_LB m_X1_init 0 := ⟨o_X1_init, by decide +kernel, by decide +kernel, zk_mem 115 (by decide +kernel) (by decide +kernel), zk_mem 5 (by decide +kernel) (by decide +kernel), by decide +kernel, by decide +kernel, by decide +kernel⟩
theorem b_X1_beginAnew : zk_LB m_X1_beginAnew 1 := ⟨o_X1_beginAnew, by decide +kernel, by decide +kernel, zk_mem 423 (by decide +kernel) (by decide +kernel), zk_mem 5 (by decide +kernel) (by decide +kernel), by decide +kernel, by decide +kernel, by decide +kernel⟩
theorem b_X1_copyFrom : zk_LB m_X1_copyFrom 1 := ⟨o_X1_copyFrom, by decide +kernel, by decide +kernel, zk_mem 501 (by decide +kernel) (by decide +kernel), zk_mem 5 (by decide +kernel) (by decide +kernel), by decide +kernel, by decide +kernel, by decide +kernel⟩
theorem b_X1_passOn : zk_LB m_X1_passOn 2 := ⟨o_X1_passOn, by decide +kernel, by decide +kernel, zk_mem 509 (by decide +kernel) (by decide +kernel), zk_mem 5 (by decide +kernel) (by decide +kernel), by decide +kernel, by decide +kernel, by decide +kernel⟩
theorem b_X2_init : zk_LB m_X2_init 0 := ⟨o_X2_init, by decide +kernel, by decide +kernel, zk_mem 141 (by decide +kernel) (by decide +kernel), zk_mem 6 (by decide +kernel) (by decide +kernel), by decide +kernel, by decide +kernel, by decide +kernel⟩
theorem b_X2_forget : zk_LB m_X2_forget 0 := ⟨o_X2_forget, by decide +kernel, by decide +kernel, zk_mem 427 (by decide +kernel) (by decide +kernel), zk_mem 6 (by decide +kernel) (by decide +kernel), by decide +kernel, by decide +kernel, by decide +kernel⟩
theorem b_X2_remember : zk_LB m_X2_remember 1 := ⟨o_X2_remember, by decide +kernel, by decide +kernel, zk_mem 497 (by decide +kernel) (by decide +kernel), zk_mem 6 (by decide +kernel) (by decide +kernel), by decide +kernel, by decide +kernel, by decide +kernel⟩
theorem b_X2_takeBack : zk_LB m_X2_takeBack 1 := ⟨o_X2_takeBack, by decide +kernel, by decide +kernel, zk_mem 527 (by decide +kernel) (by decide +kernel), zk_mem 6 (by decide +kernel) (by decide +kernel), by decide +kernel, by decide +kernel, by decide +kernel⟩
theorem b_X3_init : zk_LB m_X3_init 1 := ⟨o_X3_init, by decide +kernel, by decide +kernel, zk_mem 161 (by decide +kernel) (by decide +kernel), zk_mem 7 (by decide +kernel) (by decide +kernel), by decide +kernel, by decide +kernel, by decide +kernel⟩
theorem b_X3_foretell : zk_LB m_X3_foretell 3 := ⟨o_X3_foretell, by decide +kernel, by decide +kernel, zk_mem 544 (by decide +kernel) (by decide +kernel), zk_mem 7 (by decide +kernel) (by decide +kernel), by decide +kernel, by decide +kernel, by decide +kernel⟩
theorem b_X3_lotsBelow : zk_LB m_X3_lotsBelow 0 := ⟨o_X3_lotsBelow, by decide +kernel, by decide +kernel, zk_mem 650 (by decide +kernel) (by decide +kernel), zk_mem 7 (by decide +kernel) (by decide +kernel), by decide +kernel, by decide +kernel, by decide +kernel⟩
theorem b_X3_leastWinningChoice : zk_LB m_X3_leastWinningChoice 0 := ⟨o_X3_leastWinningChoice, by decide +kernel, by decide +kernel, zk_mem 665 (by decide +kernel) (by decide +kernel), zk_mem 7 (by decide +kernel) (by decide +kernel), by decide +kernel, by decide +kernel, by decide +kernel⟩
theorem b_X3_readerOfFirstRow : zk_LB m_X3_readerOfFirstRow 3 := ⟨o_X3_readerOfFirstRow, by decide +kernel, by decide +kernel, zk_mem 621 (by decide +kernel) (by decide +kernel), zk_mem 7 (by decide +kernel) (by decide +kernel), by decide +kernel, by decide +kernel, by decide +kernel⟩
theorem b_X3_findPlaces : zk_LB m_X3_findPlaces 3 := ⟨o_X3_findPlaces, by decide +kernel, by decide +kernel, zk_mem 685 (by decide +kernel) (by decide +kernel), zk_mem 7 (by decide +kernel) (by decide +kernel), by decide +kernel, by decide +kernel, by decide +kernel⟩
theorem b_X3_ringsOf : zk_LB m_X3_ringsOf 2 := ⟨o_X3_ringsOf, by decide +kernel, by decide +kernel, zk_mem 673 (by decide +kernel) (by decide +kernel), zk_mem 7 (by decide +kernel) (by decide +kernel), by decide +kernel, by decide +kernel, by decide +kernel⟩
theorem b_X3_ringsThrough : zk_LB m_X3_ringsThrough 4 := ⟨o_X3_ringsThrough, by decide +kernel, by decide +kernel, zk_mem 677 (by decide +kernel) (by decide +kernel), zk_mem 7 (by decide +kernel) (by decide +kernel), by decide +kernel, by decide +kernel, by decide +kernel⟩
theorem b_X3_begin : zk_LB m_X3_begin 2 := ⟨o_X3_begin, by decide +kernel, by decide +kernel, zk_mem 548 (by decide +kernel) (by decide +kernel), zk_mem 7 (by decide +kernel) (by decide +kernel), by decide +kernel, by decide +kernel, by decide +kernel⟩
theorem b_X3_findLiked : zk_LB m_X3_findLiked 0 := ⟨o_X3_findLiked, by decide +kernel, by decide +kernel, zk_mem 552 (by decide +kernel) (by decide +kernel), zk_mem 7 (by decide +kernel) (by decide +kernel), by decide +kernel, by decide +kernel, by decide +kernel⟩
theorem b_X3_spreadFrom : zk_LB m_X3_spreadFrom 1 := ⟨o_X3_spreadFrom, by decide +kernel, by decide +kernel, zk_mem 690 (by decide +kernel) (by decide +kernel), zk_mem 7 (by decide +kernel) (by decide +kernel), by decide +kernel, by decide +kernel, by decide +kernel⟩
theorem b_X3_fill : zk_LB m_X3_fill 2 := ⟨o_X3_fill, by decide +kernel, by decide +kernel, zk_mem 567 (by decide +kernel) (by decide +kernel), zk_mem 7 (by decide +kernel) (by decide +kernel), by decide +kernel, by decide +kernel, by decide +kernel⟩
theorem b_X3_measureOf : zk_LB m_X3_measureOf 4 := ⟨o_X3_measureOf, by decide +kernel, by decide +kernel, zk_mem 575 (by decide +kernel) (by decide +kernel), zk_mem 7 (by decide +kernel) (by decide +kernel), by decide +kernel, by decide +kernel, by decide +kernel⟩
theorem b_X3_throughOne : zk_LB m_X3_throughOne 4 := ⟨o_X3_throughOne, by decide +kernel, by decide +kernel, zk_mem 591 (by decide +kernel) (by decide +kernel), zk_mem 7 (by decide +kernel) (by decide +kernel), by decide +kernel, by decide +kernel, by decide +kernel⟩
theorem b_X3_join : zk_LB m_X3_join 3 := ⟨o_X3_join, by decide +kernel, by decide +kernel, zk_mem 603 (by decide +kernel) (by decide +kernel), zk_mem 7 (by decide +kernel) (by decide +kernel), by decide +kernel, by decide +kernel, by decide +kernel⟩
theorem b_X3_shareOfLot : zk_LB m_X3_shareOfLot 2 := ⟨o_X3_shareOfLot, by decide +kernel, by decide +kernel, zk_mem 613 (by decide +kernel) (by decide +kernel), zk_mem 7 (by decide +kernel) (by decide +kernel), by decide +kernel, by decide +kernel, by decide +kernel⟩
theorem b_X3_lotsOf : zk_LB m_X3_lotsOf 1 := ⟨o_X3_lotsOf, by decide +kernel, by decide +kernel, zk_mem 598 (by decide +kernel) (by decide +kernel), zk_mem 7 (by decide +kernel) (by decide +kernel), by decide +kernel, by decide +kernel, by decide +kernel⟩
theorem b_X3_choicesOf : zk_LB m_X3_choicesOf 2 := ⟨o_X3_choicesOf, by decide +kernel, by decide +kernel, zk_mem 583 (by decide +kernel) (by decide +kernel), zk_mem 7 (by decide +kernel) (by decide +kernel), by decide +kernel, by decide +kernel, by decide +kernel⟩
theorem b_X3_choicesOfLongest : zk_LB m_X3_choicesOfLongest 2 := ⟨o_X3_choicesOfLongest, by decide +kernel, by decide +kernel, zk_mem 579 (by decide +kernel) (by decide +kernel), zk_mem 7 (by decide +kernel) (by decide +kernel), by decide +kernel, by decide +kernel, by decide +kernel⟩
theorem b_X3_stateOf : zk_LB m_X3_stateOf 2 := ⟨o_X3_stateOf, by decide +kernel, by decide +kernel, zk_mem 571 (by decide +kernel) (by decide +kernel), zk_mem 7 (by decide +kernel) (by decide +kernel), by decide +kernel, by decide +kernel, by decide +kernel⟩
theorem b_X3_stateBehind : zk_LB m_X3_stateBehind 2 := ⟨o_X3_stateBehind, by decide +kernel, by decide +kernel, zk_mem 586 (by decide +kernel) (by decide +kernel), zk_mem 7 (by decide +kernel) (by decide +kernel), by decide +kernel, by decide +kernel, by decide +kernel⟩
theorem b_X3_everybody : zk_LB m_X3_everybody 0 := ⟨o_X3_everybody, by decide +kernel, by decide +kernel, zk_mem 558 (by decide +kernel) (by decide +kernel), zk_mem 7 (by decide +kernel) (by decide +kernel), by decide +kernel, by decide +kernel, by decide +kernel⟩
theorem b_X3_namingsTo : zk_LB m_X3_namingsTo 1 := ⟨o_X3_namingsTo, by decide +kernel, by decide +kernel, zk_mem 562 (by decide +kernel) (by decide +kernel), zk_mem 7 (by decide +kernel) (by decide +kernel), by decide +kernel, by decide +kernel, by decide +kernel⟩
theorem b_X3_unread : zk_LB m_X3_unread 1 := ⟨o_X3_unread, by decide +kernel, by decide +kernel, zk_mem 595 (by decide +kernel) (by decide +kernel), zk_mem 7 (by decide +kernel) (by decide +kernel), by decide +kernel, by decide +kernel, by decide +kernel⟩
theorem b_X4_init : zk_LB m_X4_init 0 := ⟨o_X4_init, by decide +kernel, by decide +kernel, zk_mem 200 (by decide +kernel) (by decide +kernel), zk_mem 8 (by decide +kernel) (by decide +kernel), by decide +kernel, by decide +kernel, by decide +kernel⟩
theorem b_X4_add : zk_LB m_X4_add 2 := ⟨o_X4_add, by decide +kernel, by decide +kernel, zk_mem 698 (by decide +kernel) (by decide +kernel), zk_mem 8 (by decide +kernel) (by decide +kernel), by decide +kernel, by decide +kernel, by decide +kernel⟩
theorem b_X4_forgedSet : zk_LB m_X4_forgedSet 1 := ⟨o_X4_forgedSet, by decide +kernel, by decide +kernel, zk_mem 710 (by decide +kernel) (by decide +kernel), zk_mem 8 (by decide +kernel) (by decide +kernel), by decide +kernel, by decide +kernel, by decide +kernel⟩
theorem b_X4_leastLastNamed : zk_LB m_X4_leastLastNamed 1 := ⟨o_X4_leastLastNamed, by decide +kernel, by decide +kernel, zk_mem 734 (by decide +kernel) (by decide +kernel), zk_mem 8 (by decide +kernel) (by decide +kernel), by decide +kernel, by decide +kernel, by decide +kernel⟩
theorem b_X4_forbidden : zk_LB m_X4_forbidden 1 := ⟨o_X4_forbidden, by decide +kernel, by decide +kernel, zk_mem 714 (by decide +kernel) (by decide +kernel), zk_mem 8 (by decide +kernel) (by decide +kernel), by decide +kernel, by decide +kernel, by decide +kernel⟩
theorem b_X4_fitWithout : zk_LB m_X4_fitWithout 1 := ⟨o_X4_fitWithout, by decide +kernel, by decide +kernel, zk_mem 721 (by decide +kernel) (by decide +kernel), zk_mem 8 (by decide +kernel) (by decide +kernel), by decide +kernel, by decide +kernel, by decide +kernel⟩
theorem b_X4_hasRing : zk_LB m_X4_hasRing 0 := ⟨o_X4_hasRing, by decide +kernel, by decide +kernel, zk_mem 726 (by decide +kernel) (by decide +kernel), zk_mem 8 (by decide +kernel) (by decide +kernel), by decide +kernel, by decide +kernel, by decide +kernel⟩
theorem b_X5_init : zk_LB m_X5_init 0 := ⟨o_X5_init, by decide +kernel, by decide +kernel, zk_mem 30 (by decide +kernel) (by decide +kernel), zk_mem 2 (by decide +kernel) (by decide +kernel), by decide +kernel, by decide +kernel, by decide +kernel⟩
theorem b_X5_append : zk_LB m_X5_append 1 := ⟨o_X5_append, by decide +kernel, by decide +kernel, zk_mem 257 (by decide +kernel) (by decide +kernel), zk_mem 2 (by decide +kernel) (by decide +kernel), by decide +kernel, by decide +kernel, by decide +kernel⟩
theorem b_X5_empty : zk_LB m_X5_empty 0 := ⟨o_X5_empty, by decide +kernel, by decide +kernel, zk_mem 265 (by decide +kernel) (by decide +kernel), zk_mem 2 (by decide +kernel) (by decide +kernel), by decide +kernel, by decide +kernel, by decide +kernel⟩
theorem b_X5_goToFirstToken : zk_LB m_X5_goToFirstToken 0 := ⟨o_X5_goToFirstToken, by decide +kernel, by decide +kernel, zk_mem 284 (by decide +kernel) (by decide +kernel), zk_mem 2 (by decide +kernel) (by decide +kernel), by decide +kernel, by decide +kernel, by decide +kernel⟩
theorem b_X5_goToNextToken : zk_LB m_X5_goToNextToken 0 := ⟨o_X5_goToNextToken, by decide +kernel, by decide +kernel, zk_mem 288 (by decide +kernel) (by decide +kernel), zk_mem 2 (by decide +kernel) (by decide +kernel), by decide +kernel, by decide +kernel, by decide +kernel⟩
theorem b_X5_isAtEnd : zk_LB m_X5_isAtEnd 0 := ⟨o_X5_isAtEnd, by decide +kernel, by decide +kernel, zk_mem 412 (by decide +kernel) (by decide +kernel), zk_mem 2 (by decide +kernel) (by decide +kernel), by decide +kernel, by decide +kernel, by decide +kernel⟩
theorem b_X5_tokenIs : zk_LB m_X5_tokenIs 1 := ⟨o_X5_tokenIs, by decide +kernel, by decide +kernel, zk_mem 304 (by decide +kernel) (by decide +kernel), zk_mem 2 (by decide +kernel) (by decide +kernel), by decide +kernel, by decide +kernel, by decide +kernel⟩
theorem b_X5_number : zk_LB m_X5_number 0 := ⟨o_X5_number, by decide +kernel, by decide +kernel, zk_mem 368 (by decide +kernel) (by decide +kernel), zk_mem 2 (by decide +kernel) (by decide +kernel), by decide +kernel, by decide +kernel, by decide +kernel⟩
theorem b_X5_sortOf : zk_LB m_X5_sortOf 1 := ⟨o_X5_sortOf, by decide +kernel, by decide +kernel, zk_mem 291 (by decide +kernel) (by decide +kernel), zk_mem 2 (by decide +kernel) (by decide +kernel), by decide +kernel, by decide +kernel, by decide +kernel⟩
theorem b_X6_init : zk_LB m_X6_init 0 := ⟨o_X6_init, by decide +kernel, by decide +kernel, zk_mem 52 (by decide +kernel) (by decide +kernel), zk_mem 3 (by decide +kernel) (by decide +kernel), by decide +kernel, by decide +kernel, by decide +kernel⟩
theorem b_X6_hasReader : zk_LB m_X6_hasReader 1 := ⟨o_X6_hasReader, by decide +kernel, by decide +kernel, zk_mem 435 (by decide +kernel) (by decide +kernel), zk_mem 3 (by decide +kernel) (by decide +kernel), by decide +kernel, by decide +kernel, by decide +kernel⟩
theorem b_X6_hasBook : zk_LB m_X6_hasBook 1 := ⟨o_X6_hasBook, by decide +kernel, by decide +kernel, zk_mem 454 (by decide +kernel) (by decide +kernel), zk_mem 3 (by decide +kernel) (by decide +kernel), by decide +kernel, by decide +kernel, by decide +kernel⟩
theorem b_X6_copyFrom : zk_LB m_X6_copyFrom 1 := ⟨o_X6_copyFrom, by decide +kernel, by decide +kernel, zk_mem 277 (by decide +kernel) (by decide +kernel), zk_mem 3 (by decide +kernel) (by decide +kernel), by decide +kernel, by decide +kernel, by decide +kernel⟩
theorem b_X6_clear : zk_LB m_X6_clear 0 := ⟨o_X6_clear, by decide +kernel, by decide +kernel, zk_mem 408 (by decide +kernel) (by decide +kernel), zk_mem 3 (by decide +kernel) (by decide +kernel), by decide +kernel, by decide +kernel, by decide +kernel⟩
theorem b_X6_makePeace : zk_LB m_X6_makePeace 0 := ⟨o_X6_makePeace, by decide +kernel, by decide +kernel, zk_mem 400 (by decide +kernel) (by decide +kernel), zk_mem 3 (by decide +kernel) (by decide +kernel), by decide +kernel, by decide +kernel, by decide +kernel⟩
theorem b_X6_addReader : zk_LB m_X6_addReader 2 := ⟨o_X6_addReader, by decide +kernel, by decide +kernel, zk_mem 372 (by decide +kernel) (by decide +kernel), zk_mem 3 (by decide +kernel) (by decide +kernel), by decide +kernel, by decide +kernel, by decide +kernel⟩
theorem b_X6_addBook : zk_LB m_X6_addBook 1 := ⟨o_X6_addBook, by decide +kernel, by decide +kernel, zk_mem 395 (by decide +kernel) (by decide +kernel), zk_mem 3 (by decide +kernel) (by decide +kernel), by decide +kernel, by decide +kernel, by decide +kernel⟩
theorem b_X6_addFeud : zk_LB m_X6_addFeud 2 := ⟨o_X6_addFeud, by decide +kernel, by decide +kernel, zk_mem 381 (by decide +kernel) (by decide +kernel), zk_mem 3 (by decide +kernel) (by decide +kernel), by decide +kernel, by decide +kernel, by decide +kernel⟩
theorem b_X6_feudPairs : zk_LB m_X6_feudPairs 0 := ⟨o_X6_feudPairs, by decide +kernel, by decide +kernel, zk_mem 743 (by decide +kernel) (by decide +kernel), zk_mem 3 (by decide +kernel) (by decide +kernel), by decide +kernel, by decide +kernel, by decide +kernel⟩
theorem b_X6_namable : zk_LB m_X6_namable 2 := ⟨o_X6_namable, by decide +kernel, by decide +kernel, zk_mem 466 (by decide +kernel) (by decide +kernel), zk_mem 3 (by decide +kernel) (by decide +kernel), by decide +kernel, by decide +kernel, by decide +kernel⟩
theorem b_X6_liked : zk_LB m_X6_liked 1 := ⟨o_X6_liked, by decide +kernel, by decide +kernel, zk_mem 470 (by decide +kernel) (by decide +kernel), zk_mem 3 (by decide +kernel) (by decide +kernel), by decide +kernel, by decide +kernel, by decide +kernel⟩
theorem b_X6_stillHere : zk_LB m_X6_stillHere 1 := ⟨o_X6_stillHere, by decide +kernel, by decide +kernel, zk_mem 479 (by decide +kernel) (by decide +kernel), zk_mem 3 (by decide +kernel) (by decide +kernel), by decide +kernel, by decide +kernel, by decide +kernel⟩
theorem b_X6_likes : zk_LB m_X6_likes 2 := ⟨o_X6_likes, by decide +kernel, by decide +kernel, zk_mem 474 (by decide +kernel) (by decide +kernel), zk_mem 3 (by decide +kernel) (by decide +kernel), by decide +kernel, by decide +kernel, by decide +kernel⟩
theorem b_X7_init : zk_LB m_X7_init 0 := ⟨o_X7_init, by decide +kernel, by decide +kernel, zk_mem 22 (by decide +kernel) (by decide +kernel), zk_mem 1 (by decide +kernel) (by decide +kernel), by decide +kernel, by decide +kernel, by decide +kernel⟩
theorem b_X7_write : zk_LB m_X7_write 1 := ⟨o_X7_write, by decide +kernel, by decide +kernel, zk_mem 253 (by decide +kernel) (by decide +kernel), zk_mem 1 (by decide +kernel) (by decide +kernel), by decide +kernel, by decide +kernel, by decide +kernel⟩
theorem b_X7_erase : zk_LB m_X7_erase 0 := ⟨o_X7_erase, by decide +kernel, by decide +kernel, zk_mem 261 (by decide +kernel) (by decide +kernel), zk_mem 1 (by decide +kernel) (by decide +kernel), by decide +kernel, by decide +kernel, by decide +kernel⟩
theorem b_X7_fault : zk_LB m_X7_fault 0 := ⟨o_X7_fault, by decide +kernel, by decide +kernel, zk_mem 269 (by decide +kernel) (by decide +kernel), zk_mem 1 (by decide +kernel) (by decide +kernel), by decide +kernel, by decide +kernel, by decide +kernel⟩
theorem b_X7_library : zk_LB m_X7_library 0 := ⟨o_X7_library, by decide +kernel, by decide +kernel, zk_mem 418 (by decide +kernel) (by decide +kernel), zk_mem 1 (by decide +kernel) (by decide +kernel), by decide +kernel, by decide +kernel, by decide +kernel⟩
theorem b_X7_reader : zk_LB m_X7_reader 2 := ⟨o_X7_reader, by decide +kernel, by decide +kernel, zk_mem 431 (by decide +kernel) (by decide +kernel), zk_mem 1 (by decide +kernel) (by decide +kernel), by decide +kernel, by decide +kernel, by decide +kernel⟩
theorem b_X7_book : zk_LB m_X7_book 2 := ⟨o_X7_book, by decide +kernel, by decide +kernel, zk_mem 450 (by decide +kernel) (by decide +kernel), zk_mem 1 (by decide +kernel) (by decide +kernel), by decide +kernel, by decide +kernel, by decide +kernel⟩
theorem b_X7_as : zk_LB m_X7_as 2 := ⟨o_X7_as, by decide +kernel, by decide +kernel, zk_mem 483 (by decide +kernel) (by decide +kernel), zk_mem 1 (by decide +kernel) (by decide +kernel), by decide +kernel, by decide +kernel, by decide +kernel⟩
theorem b_X7_may : zk_LB m_X7_may 2 := ⟨o_X7_may, by decide +kernel, by decide +kernel, zk_mem 489 (by decide +kernel) (by decide +kernel), zk_mem 1 (by decide +kernel) (by decide +kernel), by decide +kernel, by decide +kernel, by decide +kernel⟩
theorem b_X7_name : zk_LB m_X7_name 2 := ⟨o_X7_name, by decide +kernel, by decide +kernel, zk_mem 493 (by decide +kernel) (by decide +kernel), zk_mem 1 (by decide +kernel) (by decide +kernel), by decide +kernel, by decide +kernel, by decide +kernel⟩
theorem b_X7_day : zk_LB m_X7_day 0 := ⟨o_X7_day, by decide +kernel, by decide +kernel, zk_mem 519 (by decide +kernel) (by decide +kernel), zk_mem 1 (by decide +kernel) (by decide +kernel), by decide +kernel, by decide +kernel, by decide +kernel⟩
theorem b_X7_undo : zk_LB m_X7_undo 0 := ⟨o_X7_undo, by decide +kernel, by decide +kernel, zk_mem 523 (by decide +kernel) (by decide +kernel), zk_mem 1 (by decide +kernel) (by decide +kernel), by decide +kernel, by decide +kernel, by decide +kernel⟩
theorem b_X7_keep : zk_LB m_X7_keep 1 := ⟨o_X7_keep, by decide +kernel, by decide +kernel, zk_mem 531 (by decide +kernel) (by decide +kernel), zk_mem 1 (by decide +kernel) (by decide +kernel), by decide +kernel, by decide +kernel, by decide +kernel⟩
theorem b_X7_back : zk_LB m_X7_back 1 := ⟨o_X7_back, by decide +kernel, by decide +kernel, zk_mem 536 (by decide +kernel) (by decide +kernel), zk_mem 1 (by decide +kernel) (by decide +kernel), by decide +kernel, by decide +kernel, by decide +kernel⟩
theorem b_X7_longest : zk_LB m_X7_longest 2 := ⟨o_X7_longest, by decide +kernel, by decide +kernel, zk_mem 540 (by decide +kernel) (by decide +kernel), zk_mem 1 (by decide +kernel) (by decide +kernel), by decide +kernel, by decide +kernel, by decide +kernel⟩
theorem b_X7_row : zk_LB m_X7_row 2 := ⟨o_X7_row, by decide +kernel, by decide +kernel, zk_mem 617 (by decide +kernel) (by decide +kernel), zk_mem 1 (by decide +kernel) (by decide +kernel), by decide +kernel, by decide +kernel, by decide +kernel⟩
theorem b_X7_shortest : zk_LB m_X7_shortest 1 := ⟨o_X7_shortest, by decide +kernel, by decide +kernel, zk_mem 628 (by decide +kernel) (by decide +kernel), zk_mem 1 (by decide +kernel) (by decide +kernel), by decide +kernel, by decide +kernel, by decide +kernel⟩
theorem b_X7_can : zk_LB m_X7_can 1 := ⟨o_X7_can, by decide +kernel, by decide +kernel, zk_mem 632 (by decide +kernel) (by decide +kernel), zk_mem 1 (by decide +kernel) (by decide +kernel), by decide +kernel, by decide +kernel, by decide +kernel⟩
theorem b_X7_all : zk_LB m_X7_all 1 := ⟨o_X7_all, by decide +kernel, by decide +kernel, zk_mem 636 (by decide +kernel) (by decide +kernel), zk_mem 1 (by decide +kernel) (by decide +kernel), by decide +kernel, by decide +kernel, by decide +kernel⟩
theorem b_X7_fame : zk_LB m_X7_fame 1 := ⟨o_X7_fame, by decide +kernel, by decide +kernel, zk_mem 640 (by decide +kernel) (by decide +kernel), zk_mem 1 (by decide +kernel) (by decide +kernel), by decide +kernel, by decide +kernel, by decide +kernel⟩
theorem b_X7_mean : zk_LB m_X7_mean 2 := ⟨o_X7_mean, by decide +kernel, by decide +kernel, zk_mem 644 (by decide +kernel) (by decide +kernel), zk_mem 1 (by decide +kernel) (by decide +kernel), by decide +kernel, by decide +kernel, by decide +kernel⟩
theorem b_X7_odds : zk_LB m_X7_odds 3 := ⟨o_X7_odds, by decide +kernel, by decide +kernel, zk_mem 657 (by decide +kernel) (by decide +kernel), zk_mem 1 (by decide +kernel) (by decide +kernel), by decide +kernel, by decide +kernel, by decide +kernel⟩
theorem b_X7_turns : zk_LB m_X7_turns 2 := ⟨o_X7_turns, by decide +kernel, by decide +kernel, zk_mem 661 (by decide +kernel) (by decide +kernel), zk_mem 1 (by decide +kernel) (by decide +kernel), by decide +kernel, by decide +kernel, by decide +kernel⟩
theorem b_X7_clubs : zk_LB m_X7_clubs 1 := ⟨o_X7_clubs, by decide +kernel, by decide +kernel, zk_mem 669 (by decide +kernel) (by decide +kernel), zk_mem 1 (by decide +kernel) (by decide +kernel), by decide +kernel, by decide +kernel, by decide +kernel⟩
theorem b_X7_meet : zk_LB m_X7_meet 2 := ⟨o_X7_meet, by decide +kernel, by decide +kernel, zk_mem 681 (by decide +kernel) (by decide +kernel), zk_mem 1 (by decide +kernel) (by decide +kernel), by decide +kernel, by decide +kernel, by decide +kernel⟩
theorem b_X7_slip : zk_LB m_X7_slip 2 := ⟨o_X7_slip, by decide +kernel, by decide +kernel, zk_mem 694 (by decide +kernel) (by decide +kernel), zk_mem 1 (by decide +kernel) (by decide +kernel), by decide +kernel, by decide +kernel, by decide +kernel⟩
theorem b_X7_burn : zk_LB m_X7_burn 0 := ⟨o_X7_burn, by decide +kernel, by decide +kernel, zk_mem 702 (by decide +kernel) (by decide +kernel), zk_mem 1 (by decide +kernel) (by decide +kernel), by decide +kernel, by decide +kernel, by decide +kernel⟩
theorem b_X7_forged : zk_LB m_X7_forged 1 := ⟨o_X7_forged, by decide +kernel, by decide +kernel, zk_mem 706 (by decide +kernel) (by decide +kernel), zk_mem 1 (by decide +kernel) (by decide +kernel), by decide +kernel, by decide +kernel, by decide +kernel⟩
theorem b_X7_holder : zk_LB m_X7_holder 0 := ⟨o_X7_holder, by decide +kernel, by decide +kernel, zk_mem 730 (by decide +kernel) (by decide +kernel), zk_mem 1 (by decide +kernel) (by decide +kernel), by decide +kernel, by decide +kernel, by decide +kernel⟩
theorem b_X7_count : zk_LB m_X7_count 1 := ⟨o_X7_count, by decide +kernel, by decide +kernel, zk_mem 739 (by decide +kernel) (by decide +kernel), zk_mem 1 (by decide +kernel) (by decide +kernel), by decide +kernel, by decide +kernel, by decide +kernel⟩
theorem b_X7_hasBit : zk_LB m_X7_hasBit 2 := ⟨o_X7_hasBit, by decide +kernel, by decide +kernel, zk_mem 446 (by decide +kernel) (by decide +kernel), zk_mem 1 (by decide +kernel) (by decide +kernel), by decide +kernel, by decide +kernel, by decide +kernel⟩
theorem b_X7_leastOf : zk_LB m_X7_leastOf 1 := ⟨o_X7_leastOf, by decide +kernel, by decide +kernel, zk_mem 624 (by decide +kernel) (by decide +kernel), zk_mem 1 (by decide +kernel) (by decide +kernel), by decide +kernel, by decide +kernel, by decide +kernel⟩
theorem b_X7_lowestTerms : zk_LB m_X7_lowestTerms 3 := ⟨o_X7_lowestTerms, by decide +kernel, by decide +kernel, zk_mem 653 (by decide +kernel) (by decide +kernel), zk_mem 1 (by decide +kernel) (by decide +kernel), by decide +kernel, by decide +kernel, by decide +kernel⟩
theorem b_X7_namableNow : zk_LB m_X7_namableNow 1 := ⟨o_X7_namableNow, by decide +kernel, by decide +kernel, zk_mem 462 (by decide +kernel) (by decide +kernel), zk_mem 1 (by decide +kernel) (by decide +kernel), by decide +kernel, by decide +kernel, by decide +kernel⟩
theorem b_X7_isWalled : zk_LB m_X7_isWalled 1 := ⟨o_X7_isWalled, by decide +kernel, by decide +kernel, zk_mem 458 (by decide +kernel) (by decide +kernel), zk_mem 1 (by decide +kernel) (by decide +kernel), by decide +kernel, by decide +kernel, by decide +kernel⟩
theorem b_X7_walledBooks : zk_LB m_X7_walledBooks 0 := ⟨o_X7_walledBooks, by decide +kernel, by decide +kernel, zk_mem 748 (by decide +kernel) (by decide +kernel), zk_mem 1 (by decide +kernel) (by decide +kernel), by decide +kernel, by decide +kernel, by decide +kernel⟩
theorem b_X7_booksHeldBy : zk_LB m_X7_booksHeldBy 1 := ⟨o_X7_booksHeldBy, by decide +kernel, by decide +kernel, zk_mem 439 (by decide +kernel) (by decide +kernel), zk_mem 1 (by decide +kernel) (by decide +kernel), by decide +kernel, by decide +kernel, by decide +kernel⟩
theorem b_X7_booksHadBy : zk_LB m_X7_booksHadBy 1 := ⟨o_X7_booksHadBy, by decide +kernel, by decide +kernel, zk_mem 443 (by decide +kernel) (by decide +kernel), zk_mem 1 (by decide +kernel) (by decide +kernel), by decide +kernel, by decide +kernel, by decide +kernel⟩
theorem b_X7_namings : zk_LB m_X7_namings 0 := ⟨o_X7_namings, by decide +kernel, by decide +kernel, zk_mem 752 (by decide +kernel) (by decide +kernel), zk_mem 1 (by decide +kernel) (by decide +kernel), by decide +kernel, by decide +kernel, by decide +kernel⟩
theorem b_X8_init : zk_LB m_X8_init 0 := ⟨o_X8_init, by decide +kernel, by decide +kernel, zk_mem 757 (by decide +kernel) (by decide +kernel), zk_mem 9 (by decide +kernel) (by decide +kernel), by decide +kernel, by decide +kernel, by decide +kernel⟩
theorem b_X8_in : zk_LB m_X8_in 3 := ⟨o_X8_in, by decide +kernel, by decide +kernel, zk_mem 839 (by decide +kernel) (by decide +kernel), zk_mem 9 (by decide +kernel) (by decide +kernel), by decide +kernel, by decide +kernel, by decide +kernel⟩
theorem b_X8_isReader : zk_LB m_X8_isReader 1 := ⟨o_X8_isReader, by decide +kernel, by decide +kernel, zk_mem 913 (by decide +kernel) (by decide +kernel), zk_mem 9 (by decide +kernel) (by decide +kernel), by decide +kernel, by decide +kernel, by decide +kernel⟩
theorem b_X8_isBook : zk_LB m_X8_isBook 1 := ⟨o_X8_isBook, by decide +kernel, by decide +kernel, zk_mem 921 (by decide +kernel) (by decide +kernel), zk_mem 9 (by decide +kernel) (by decide +kernel), by decide +kernel, by decide +kernel, by decide +kernel⟩
theorem b_X8_ones : zk_LB m_X8_ones 1 := ⟨o_X8_ones, by decide +kernel, by decide +kernel, zk_mem 948 (by decide +kernel) (by decide +kernel), zk_mem 9 (by decide +kernel) (by decide +kernel), by decide +kernel, by decide +kernel, by decide +kernel⟩
theorem b_X8_write : zk_LB m_X8_write 1 := ⟨o_X8_write, by decide +kernel, by decide +kernel, zk_mem 836 (by decide +kernel) (by decide +kernel), zk_mem 9 (by decide +kernel) (by decide +kernel), by decide +kernel, by decide +kernel, by decide +kernel⟩
theorem b_X8_erase : zk_LB m_X8_erase 0 := ⟨o_X8_erase, by decide +kernel, by decide +kernel, zk_mem 843 (by decide +kernel) (by decide +kernel), zk_mem 9 (by decide +kernel) (by decide +kernel), by decide +kernel, by decide +kernel, by decide +kernel⟩
theorem b_X8_letterAt : zk_LB m_X8_letterAt 1 := ⟨o_X8_letterAt, by decide +kernel, by decide +kernel, zk_mem 859 (by decide +kernel) (by decide +kernel), zk_mem 9 (by decide +kernel) (by decide +kernel), by decide +kernel, by decide +kernel, by decide +kernel⟩
theorem b_X8_isLetter : zk_LB m_X8_isLetter 1 := ⟨o_X8_isLetter, by decide +kernel, by decide +kernel, zk_mem 862 (by decide +kernel) (by decide +kernel), zk_mem 9 (by decide +kernel) (by decide +kernel), by decide +kernel, by decide +kernel, by decide +kernel⟩
theorem b_X8_isDigit : zk_LB m_X8_isDigit 1 := ⟨o_X8_isDigit, by decide +kernel, by decide +kernel, zk_mem 865 (by decide +kernel) (by decide +kernel), zk_mem 9 (by decide +kernel) (by decide +kernel), by decide +kernel, by decide +kernel, by decide +kernel⟩
theorem b_X8_token : zk_LB m_X8_token 0 := ⟨o_X8_token, by decide +kernel, by decide +kernel, zk_mem 855 (by decide +kernel) (by decide +kernel), zk_mem 9 (by decide +kernel) (by decide +kernel), by decide +kernel, by decide +kernel, by decide +kernel⟩
theorem b_X8_isWord : zk_LB m_X8_isWord 9 := ⟨o_X8_isWord, by decide +kernel, by decide +kernel, zk_mem 873 (by decide +kernel) (by decide +kernel), zk_mem 9 (by decide +kernel) (by decide +kernel), by decide +kernel, by decide +kernel, by decide +kernel⟩
theorem b_X8_number : zk_LB m_X8_number 3 := ⟨o_X8_number, by decide +kernel, by decide +kernel, zk_mem 885 (by decide +kernel) (by decide +kernel), zk_mem 9 (by decide +kernel) (by decide +kernel), by decide +kernel, by decide +kernel, by decide +kernel⟩
theorem b_X8_forgets : zk_LB m_X8_forgets 0 := ⟨o_X8_forgets, by decide +kernel, by decide +kernel, zk_mem 877 (by decide +kernel) (by decide +kernel), zk_mem 9 (by decide +kernel) (by decide +kernel), by decide +kernel, by decide +kernel, by decide +kernel⟩
theorem b_X8_peace : zk_LB m_X8_peace 0 := ⟨o_X8_peace, by decide +kernel, by decide +kernel, zk_mem 901 (by decide +kernel) (by decide +kernel), zk_mem 9 (by decide +kernel) (by decide +kernel), by decide +kernel, by decide +kernel, by decide +kernel⟩
theorem b_X8_readsReader : zk_LB m_X8_readsReader 1 := ⟨o_X8_readsReader, by decide +kernel, by decide +kernel, zk_mem 881 (by decide +kernel) (by decide +kernel), zk_mem 9 (by decide +kernel) (by decide +kernel), by decide +kernel, by decide +kernel, by decide +kernel⟩
theorem b_X8_readsFeud : zk_LB m_X8_readsFeud 0 := ⟨o_X8_readsFeud, by decide +kernel, by decide +kernel, zk_mem 889 (by decide +kernel) (by decide +kernel), zk_mem 9 (by decide +kernel) (by decide +kernel), by decide +kernel, by decide +kernel, by decide +kernel⟩
theorem b_X8_readsMove : zk_LB m_X8_readsMove 0 := ⟨o_X8_readsMove, by decide +kernel, by decide +kernel, zk_mem 893 (by decide +kernel) (by decide +kernel), zk_mem 9 (by decide +kernel) (by decide +kernel), by decide +kernel, by decide +kernel, by decide +kernel⟩
theorem b_X8_readsBook : zk_LB m_X8_readsBook 0 := ⟨o_X8_readsBook, by decide +kernel, by decide +kernel, zk_mem 897 (by decide +kernel) (by decide +kernel), zk_mem 9 (by decide +kernel) (by decide +kernel), by decide +kernel, by decide +kernel, by decide +kernel⟩
theorem b_X8_readsClause : zk_LB m_X8_readsClause 0 := ⟨o_X8_readsClause, by decide +kernel, by decide +kernel, zk_mem 869 (by decide +kernel) (by decide +kernel), zk_mem 9 (by decide +kernel) (by decide +kernel), by decide +kernel, by decide +kernel, by decide +kernel⟩
theorem b_X8_reads : zk_LB m_X8_reads 0 := ⟨o_X8_reads, by decide +kernel, by decide +kernel, zk_mem 851 (by decide +kernel) (by decide +kernel), zk_mem 9 (by decide +kernel) (by decide +kernel), by decide +kernel, by decide +kernel, by decide +kernel⟩
theorem b_X8_fault : zk_LB m_X8_fault 0 := ⟨o_X8_fault, by decide +kernel, by decide +kernel, zk_mem 847 (by decide +kernel) (by decide +kernel), zk_mem 9 (by decide +kernel) (by decide +kernel), by decide +kernel, by decide +kernel, by decide +kernel⟩
theorem b_X8_library : zk_LB m_X8_library 0 := ⟨o_X8_library, by decide +kernel, by decide +kernel, zk_mem 905 (by decide +kernel) (by decide +kernel), zk_mem 9 (by decide +kernel) (by decide +kernel), by decide +kernel, by decide +kernel, by decide +kernel⟩
theorem b_X8_named : zk_LB m_X8_named 2 := ⟨o_X8_named, by decide +kernel, by decide +kernel, zk_mem 929 (by decide +kernel) (by decide +kernel), zk_mem 9 (by decide +kernel) (by decide +kernel), by decide +kernel, by decide +kernel, by decide +kernel⟩
theorem b_X8_namedNow : zk_LB m_X8_namedNow 1 := ⟨o_X8_namedNow, by decide +kernel, by decide +kernel, zk_mem 925 (by decide +kernel) (by decide +kernel), zk_mem 9 (by decide +kernel) (by decide +kernel), by decide +kernel, by decide +kernel, by decide +kernel⟩
theorem b_X8_reader : zk_LB m_X8_reader 2 := ⟨o_X8_reader, by decide +kernel, by decide +kernel, zk_mem 909 (by decide +kernel) (by decide +kernel), zk_mem 9 (by decide +kernel) (by decide +kernel), by decide +kernel, by decide +kernel, by decide +kernel⟩
theorem b_X8_book : zk_LB m_X8_book 2 := ⟨o_X8_book, by decide +kernel, by decide +kernel, zk_mem 917 (by decide +kernel) (by decide +kernel), zk_mem 9 (by decide +kernel) (by decide +kernel), by decide +kernel, by decide +kernel, by decide +kernel⟩
theorem b_X8_as : zk_LB m_X8_as 2 := ⟨o_X8_as, by decide +kernel, by decide +kernel, zk_mem 933 (by decide +kernel) (by decide +kernel), zk_mem 9 (by decide +kernel) (by decide +kernel), by decide +kernel, by decide +kernel, by decide +kernel⟩
theorem b_X8_may : zk_LB m_X8_may 2 := ⟨o_X8_may, by decide +kernel, by decide +kernel, zk_mem 937 (by decide +kernel) (by decide +kernel), zk_mem 9 (by decide +kernel) (by decide +kernel), by decide +kernel, by decide +kernel, by decide +kernel⟩
theorem b_X8_keeps : zk_LB m_X8_keeps 0 := ⟨o_X8_keeps, by decide +kernel, by decide +kernel, zk_mem 945 (by decide +kernel) (by decide +kernel), zk_mem 9 (by decide +kernel) (by decide +kernel), by decide +kernel, by decide +kernel, by decide +kernel⟩
theorem b_X8_name : zk_LB m_X8_name 2 := ⟨o_X8_name, by decide +kernel, by decide +kernel, zk_mem 941 (by decide +kernel) (by decide +kernel), zk_mem 9 (by decide +kernel) (by decide +kernel), by decide +kernel, by decide +kernel, by decide +kernel⟩
theorem b_X8_day : zk_LB m_X8_day 0 := ⟨o_X8_day, by decide +kernel, by decide +kernel, zk_mem 952 (by decide +kernel) (by decide +kernel), zk_mem 9 (by decide +kernel) (by decide +kernel), by decide +kernel, by decide +kernel, by decide +kernel⟩
theorem b_X8_undo : zk_LB m_X8_undo 0 := ⟨o_X8_undo, by decide +kernel, by decide +kernel, zk_mem 956 (by decide +kernel) (by decide +kernel), zk_mem 9 (by decide +kernel) (by decide +kernel), by decide +kernel, by decide +kernel, by decide +kernel⟩
theorem b_X8_keep : zk_LB m_X8_keep 1 := ⟨o_X8_keep, by decide +kernel, by decide +kernel, zk_mem 960 (by decide +kernel) (by decide +kernel), zk_mem 9 (by decide +kernel) (by decide +kernel), by decide +kernel, by decide +kernel, by decide +kernel⟩
theorem b_X8_back : zk_LB m_X8_back 1 := ⟨o_X8_back, by decide +kernel, by decide +kernel, zk_mem 964 (by decide +kernel) (by decide +kernel), zk_mem 9 (by decide +kernel) (by decide +kernel), by decide +kernel, by decide +kernel, by decide +kernel⟩
theorem b_X8_nexts : zk_LB m_X8_nexts 3 := ⟨o_X8_nexts, by decide +kernel, by decide +kernel, zk_mem 984 (by decide +kernel) (by decide +kernel), zk_mem 9 (by decide +kernel) (by decide +kernel), by decide +kernel, by decide +kernel, by decide +kernel⟩
theorem b_X8_isState : zk_LB m_X8_isState 3 := ⟨o_X8_isState, by decide +kernel, by decide +kernel, zk_mem 976 (by decide +kernel) (by decide +kernel), zk_mem 9 (by decide +kernel) (by decide +kernel), by decide +kernel, by decide +kernel, by decide +kernel⟩
theorem b_X8_lays : zk_LB m_X8_lays 3 := ⟨o_X8_lays, by decide +kernel, by decide +kernel, zk_mem 980 (by decide +kernel) (by decide +kernel), zk_mem 9 (by decide +kernel) (by decide +kernel), by decide +kernel, by decide +kernel, by decide +kernel⟩
theorem b_X8_laysAll : zk_LB m_X8_laysAll 1 := ⟨o_X8_laysAll, by decide +kernel, by decide +kernel, zk_mem 972 (by decide +kernel) (by decide +kernel), zk_mem 9 (by decide +kernel) (by decide +kernel), by decide +kernel, by decide +kernel, by decide +kernel⟩
theorem b_X8_longest : zk_LB m_X8_longest 2 := ⟨o_X8_longest, by decide +kernel, by decide +kernel, zk_mem 968 (by decide +kernel) (by decide +kernel), zk_mem 9 (by decide +kernel) (by decide +kernel), by decide +kernel, by decide +kernel, by decide +kernel⟩
theorem b_X8_row : zk_LB m_X8_row 2 := ⟨o_X8_row, by decide +kernel, by decide +kernel, zk_mem 988 (by decide +kernel) (by decide +kernel), zk_mem 9 (by decide +kernel) (by decide +kernel), by decide +kernel, by decide +kernel, by decide +kernel⟩
theorem b_X8_shortest : zk_LB m_X8_shortest 1 := ⟨o_X8_shortest, by decide +kernel, by decide +kernel, zk_mem 992 (by decide +kernel) (by decide +kernel), zk_mem 9 (by decide +kernel) (by decide +kernel), by decide +kernel, by decide +kernel, by decide +kernel⟩
theorem b_X8_can : zk_LB m_X8_can 1 := ⟨o_X8_can, by decide +kernel, by decide +kernel, zk_mem 996 (by decide +kernel) (by decide +kernel), zk_mem 9 (by decide +kernel) (by decide +kernel), by decide +kernel, by decide +kernel, by decide +kernel⟩
theorem b_X8_all : zk_LB m_X8_all 1 := ⟨o_X8_all, by decide +kernel, by decide +kernel, zk_mem 1000 (by decide +kernel) (by decide +kernel), zk_mem 9 (by decide +kernel) (by decide +kernel), by decide +kernel, by decide +kernel, by decide +kernel⟩
theorem b_X8_fame : zk_LB m_X8_fame 1 := ⟨o_X8_fame, by decide +kernel, by decide +kernel, zk_mem 1004 (by decide +kernel) (by decide +kernel), zk_mem 9 (by decide +kernel) (by decide +kernel), by decide +kernel, by decide +kernel, by decide +kernel⟩
theorem b_X8_laysOdds : zk_LB m_X8_laysOdds 1 := ⟨o_X8_laysOdds, by decide +kernel, by decide +kernel, zk_mem 1014 (by decide +kernel) (by decide +kernel), zk_mem 9 (by decide +kernel) (by decide +kernel), by decide +kernel, by decide +kernel, by decide +kernel⟩
theorem b_X8_part : zk_LB m_X8_part 2 := ⟨o_X8_part, by decide +kernel, by decide +kernel, zk_mem 1018 (by decide +kernel) (by decide +kernel), zk_mem 9 (by decide +kernel) (by decide +kernel), by decide +kernel, by decide +kernel, by decide +kernel⟩
theorem b_X8_mean : zk_LB m_X8_mean 2 := ⟨o_X8_mean, by decide +kernel, by decide +kernel, zk_mem 1008 (by decide +kernel) (by decide +kernel), zk_mem 9 (by decide +kernel) (by decide +kernel), by decide +kernel, by decide +kernel, by decide +kernel⟩
theorem b_X8_odds : zk_LB m_X8_odds 3 := ⟨o_X8_odds, by decide +kernel, by decide +kernel, zk_mem 1022 (by decide +kernel) (by decide +kernel), zk_mem 9 (by decide +kernel) (by decide +kernel), by decide +kernel, by decide +kernel, by decide +kernel⟩
theorem b_X8_turns : zk_LB m_X8_turns 2 := ⟨o_X8_turns, by decide +kernel, by decide +kernel, zk_mem 1026 (by decide +kernel) (by decide +kernel), zk_mem 9 (by decide +kernel) (by decide +kernel), by decide +kernel, by decide +kernel, by decide +kernel⟩
theorem b_X8_clubs : zk_LB m_X8_clubs 1 := ⟨o_X8_clubs, by decide +kernel, by decide +kernel, zk_mem 1030 (by decide +kernel) (by decide +kernel), zk_mem 9 (by decide +kernel) (by decide +kernel), by decide +kernel, by decide +kernel, by decide +kernel⟩
theorem b_X8_holders : zk_LB m_X8_holders 2 := ⟨o_X8_holders, by decide +kernel, by decide +kernel, zk_mem 1038 (by decide +kernel) (by decide +kernel), zk_mem 9 (by decide +kernel) (by decide +kernel), by decide +kernel, by decide +kernel, by decide +kernel⟩
theorem b_X8_meet : zk_LB m_X8_meet 2 := ⟨o_X8_meet, by decide +kernel, by decide +kernel, zk_mem 1034 (by decide +kernel) (by decide +kernel), zk_mem 9 (by decide +kernel) (by decide +kernel), by decide +kernel, by decide +kernel, by decide +kernel⟩
theorem b_X8_slip : zk_LB m_X8_slip 2 := ⟨o_X8_slip, by decide +kernel, by decide +kernel, zk_mem 1042 (by decide +kernel) (by decide +kernel), zk_mem 9 (by decide +kernel) (by decide +kernel), by decide +kernel, by decide +kernel, by decide +kernel⟩
theorem b_X8_burn : zk_LB m_X8_burn 0 := ⟨o_X8_burn, by decide +kernel, by decide +kernel, zk_mem 1046 (by decide +kernel) (by decide +kernel), zk_mem 9 (by decide +kernel) (by decide +kernel), by decide +kernel, by decide +kernel, by decide +kernel⟩
theorem b_X8_canBe : zk_LB m_X8_canBe 1 := ⟨o_X8_canBe, by decide +kernel, by decide +kernel, zk_mem 1058 (by decide +kernel) (by decide +kernel), zk_mem 9 (by decide +kernel) (by decide +kernel), by decide +kernel, by decide +kernel, by decide +kernel⟩
theorem b_X8_forgedOnes : zk_LB m_X8_forgedOnes 0 := ⟨o_X8_forgedOnes, by decide +kernel, by decide +kernel, zk_mem 1054 (by decide +kernel) (by decide +kernel), zk_mem 9 (by decide +kernel) (by decide +kernel), by decide +kernel, by decide +kernel, by decide +kernel⟩
theorem b_X8_forged : zk_LB m_X8_forged 1 := ⟨o_X8_forged, by decide +kernel, by decide +kernel, zk_mem 1050 (by decide +kernel) (by decide +kernel), zk_mem 9 (by decide +kernel) (by decide +kernel), by decide +kernel, by decide +kernel, by decide +kernel⟩
theorem b_X8_holder : zk_LB m_X8_holder 0 := ⟨o_X8_holder, by decide +kernel, by decide +kernel, zk_mem 1062 (by decide +kernel) (by decide +kernel), zk_mem 9 (by decide +kernel) (by decide +kernel), by decide +kernel, by decide +kernel, by decide +kernel⟩
theorem b_X8_count : zk_LB m_X8_count 1 := ⟨o_X8_count, by decide +kernel, by decide +kernel, zk_mem 1066 (by decide +kernel) (by decide +kernel), zk_mem 9 (by decide +kernel) (by decide +kernel), by decide +kernel, by decide +kernel, by decide +kernel⟩
theorem b_J6_bitCount_0f7a4 : zk_LB m_J6_bitCount_0f7a4 1 := ⟨o_J6_bitCount_0f7a4, by decide +kernel, by decide +kernel, zk_mem 512 (by decide +kernel) (by decide +kernel), zk_mem 17 (by decide +kernel) (by decide +kernel), by decide +kernel, by decide +kernel, by decide +kernel⟩
theorem b_J9_max_f86c9 : zk_LB m_J9_max_f86c9 2 := ⟨o_J9_max_f86c9, by decide +kernel, by decide +kernel, zk_mem 609 (by decide +kernel) (by decide +kernel), zk_mem 16 (by decide +kernel) (by decide +kernel), by decide +kernel, by decide +kernel, by decide +kernel⟩
theorem b_J9_min_7cf53 : zk_LB m_J9_min_7cf53 2 := ⟨o_J9_min_7cf53, by decide +kernel, by decide +kernel, zk_mem 505 (by decide +kernel) (by decide +kernel), zk_mem 16 (by decide +kernel) (by decide +kernel), by decide +kernel, by decide +kernel, by decide +kernel⟩
theorem b_J9_min_f86c9 : zk_LB m_J9_min_f86c9 2 := ⟨o_J9_min_f86c9, by decide +kernel, by decide +kernel, zk_mem 606 (by decide +kernel) (by decide +kernel), zk_mem 16 (by decide +kernel) (by decide +kernel), by decide +kernel, by decide +kernel, by decide +kernel⟩
theorem b_J0_length_8abf5 : zk_LB m_J0_length_8abf5 0 := ⟨o_J0_length_8abf5, by decide +kernel, by decide +kernel, zk_mem 308 (by decide +kernel) (by decide +kernel), zk_mem 11 (by decide +kernel) (by decide +kernel), by decide +kernel, by decide +kernel, by decide +kernel⟩
theorem b_J0_charAt_5068e : zk_LB m_J0_charAt_5068e 1 := ⟨o_J0_charAt_5068e, by decide +kernel, by decide +kernel, zk_mem 318 (by decide +kernel) (by decide +kernel), zk_mem 11 (by decide +kernel) (by decide +kernel), by decide +kernel, by decide +kernel, by decide +kernel⟩
theorem b_J0_coder_7d493 : zk_LB m_J0_coder_7d493 0 := ⟨o_J0_coder_7d493, by decide +kernel, by decide +kernel, zk_mem 312 (by decide +kernel) (by decide +kernel), zk_mem 11 (by decide +kernel) (by decide +kernel), by decide +kernel, by decide +kernel, by decide +kernel⟩
theorem b_J0_isLatin1_aae02 : zk_LB m_J0_isLatin1_aae02 0 := ⟨o_J0_isLatin1_aae02, by decide +kernel, by decide +kernel, zk_mem 322 (by decide +kernel) (by decide +kernel), zk_mem 11 (by decide +kernel) (by decide +kernel), by decide +kernel, by decide +kernel, by decide +kernel⟩
theorem b_J0_checkIndex_df160 : zk_LB m_J0_checkIndex_df160 2 := ⟨o_J0_checkIndex_df160, by decide +kernel, by decide +kernel, zk_mem 328 (by decide +kernel) (by decide +kernel), zk_mem 11 (by decide +kernel) (by decide +kernel), by decide +kernel, by decide +kernel, by decide +kernel⟩
theorem b_J1_charAt_3b067 : zk_LB m_J1_charAt_3b067 2 := ⟨o_J1_charAt_3b067, by decide +kernel, by decide +kernel, zk_mem 325 (by decide +kernel) (by decide +kernel), zk_mem 12 (by decide +kernel) (by decide +kernel), by decide +kernel, by decide +kernel, by decide +kernel⟩
theorem b_J7_fill_53178 : zk_LB m_J7_fill_53178 2 := ⟨o_J7_fill_53178, by decide +kernel, by decide +kernel, zk_mem 403 (by decide +kernel) (by decide +kernel), zk_mem 15 (by decide +kernel) (by decide +kernel), by decide +kernel, by decide +kernel, by decide +kernel⟩
theorem b_J3_checkIndex_8e157 : zk_LB m_J3_checkIndex_8e157 3 := ⟨o_J3_checkIndex_8e157, by decide +kernel, by decide +kernel, zk_mem 333 (by decide +kernel) (by decide +kernel), zk_mem 13 (by decide +kernel) (by decide +kernel), by decide +kernel, by decide +kernel, by decide +kernel⟩
theorem lk_X0_11 : zk_LIN "NamedNext$Clauses" 11 m_X6_init 0 := ⟨b_X6_init, ⟨"NamedNext", by decide +kernel⟩, zk_mem 51 (by decide +kernel) (by decide +kernel), rfl, rfl⟩
theorem lk_X0_22 : zk_LV "NamedNext$Clauses" 22 m_X6_copyFrom 1 6 := ⟨b_X6_copyFrom, zk_mem 274 (by decide +kernel) (by decide +kernel), zk_mem 275 (by decide +kernel) (by decide +kernel), zk_mem 276 (by decide +kernel) (by decide +kernel), rfl, by decide⟩
theorem lk_X0_30 : zk_LV "NamedNext$Clauses" 30 m_X5_goToFirstToken 0 5 := ⟨b_X5_goToFirstToken, zk_mem 281 (by decide +kernel) (by decide +kernel), zk_mem 282 (by decide +kernel) (by decide +kernel), zk_mem 283 (by decide +kernel) (by decide +kernel), rfl, by decide⟩
theorem lk_X0_35 : zk_LV "NamedNext$Clauses" 35 m_X0_doClause 0 0 := ⟨b_X0_doClause, zk_mem 292 (by decide +kernel) (by decide +kernel), zk_mem 294 (by decide +kernel) (by decide +kernel), zk_memS 0 (by decide +kernel) (by decide +kernel), rfl, by decide⟩
theorem lk_X0_42 : zk_LV "NamedNext$Clauses" 42 m_X5_isAtEnd 0 5 := ⟨b_X5_isAtEnd, zk_mem 409 (by decide +kernel) (by decide +kernel), zk_mem 410 (by decide +kernel) (by decide +kernel), zk_mem 411 (by decide +kernel) (by decide +kernel), rfl, by decide⟩
theorem lk_X0_47 : zk_LV "NamedNext$Clauses" 47 m_X5_tokenIs 1 5 := ⟨b_X5_tokenIs, zk_mem 301 (by decide +kernel) (by decide +kernel), zk_mem 302 (by decide +kernel) (by decide +kernel), zk_mem 303 (by decide +kernel) (by decide +kernel), rfl, by decide⟩
theorem lk_X0_51 : zk_LV "NamedNext$Clauses" 51 m_X5_goToNextToken 0 5 := ⟨b_X5_goToNextToken, zk_mem 364 (by decide +kernel) (by decide +kernel), zk_mem 286 (by decide +kernel) (by decide +kernel), zk_mem 287 (by decide +kernel) (by decide +kernel), rfl, by decide⟩
theorem lk_X0_54 : zk_LV "NamedNext$Clauses" 54 m_X0_kindOfWord 0 0 := ⟨b_X0_kindOfWord, zk_mem 296 (by decide +kernel) (by decide +kernel), zk_mem 298 (by decide +kernel) (by decide +kernel), zk_memS 1 (by decide +kernel) (by decide +kernel), rfl, by decide⟩
theorem lk_X0_58 : zk_LV "NamedNext$Clauses" 58 m_X0_doReader 1 0 := ⟨b_X0_doReader, zk_mem 356 (by decide +kernel) (by decide +kernel), zk_mem 358 (by decide +kernel) (by decide +kernel), zk_memS 2 (by decide +kernel) (by decide +kernel), rfl, by decide⟩
theorem lk_X0_64 : zk_LV "NamedNext$Clauses" 64 m_X0_doFeud 0 0 := ⟨b_X0_doFeud, zk_mem 374 (by decide +kernel) (by decide +kernel), zk_mem 376 (by decide +kernel) (by decide +kernel), zk_memS 4 (by decide +kernel) (by decide +kernel), rfl, by decide⟩
theorem lk_X0_69 : zk_LV "NamedNext$Clauses" 69 m_X0_doMove 0 0 := ⟨b_X0_doMove, zk_mem 383 (by decide +kernel) (by decide +kernel), zk_mem 385 (by decide +kernel) (by decide +kernel), zk_memS 5 (by decide +kernel) (by decide +kernel), rfl, by decide⟩
theorem lk_X0_74 : zk_LV "NamedNext$Clauses" 74 m_X0_doBook 0 0 := ⟨b_X0_doBook, zk_mem 388 (by decide +kernel) (by decide +kernel), zk_mem 390 (by decide +kernel) (by decide +kernel), zk_memS 6 (by decide +kernel) (by decide +kernel), rfl, by decide⟩
theorem lk_X0_79 : zk_LV "NamedNext$Clauses" 79 m_X6_makePeace 0 6 := ⟨b_X6_makePeace, zk_mem 397 (by decide +kernel) (by decide +kernel), zk_mem 398 (by decide +kernel) (by decide +kernel), zk_mem 399 (by decide +kernel) (by decide +kernel), rfl, by decide⟩
theorem lk_X0_84 : zk_LV "NamedNext$Clauses" 84 m_X6_clear 0 6 := ⟨b_X6_clear, zk_mem 405 (by decide +kernel) (by decide +kernel), zk_mem 406 (by decide +kernel) (by decide +kernel), zk_mem 407 (by decide +kernel) (by decide +kernel), rfl, by decide⟩
theorem lk_X0_98 : zk_LV "NamedNext$Clauses" 98 m_X0_nextNumber 1 0 := ⟨b_X0_nextNumber, zk_mem 360 (by decide +kernel) (by decide +kernel), zk_mem 362 (by decide +kernel) (by decide +kernel), zk_memS 3 (by decide +kernel) (by decide +kernel), rfl, by decide⟩
theorem lk_X0_102 : zk_LV "NamedNext$Clauses" 102 m_X6_addReader 2 6 := ⟨b_X6_addReader, zk_mem 369 (by decide +kernel) (by decide +kernel), zk_mem 370 (by decide +kernel) (by decide +kernel), zk_mem 371 (by decide +kernel) (by decide +kernel), rfl, by decide⟩
theorem lk_X0_106 : zk_LV "NamedNext$Clauses" 106 m_X6_addFeud 2 6 := ⟨b_X6_addFeud, zk_mem 378 (by decide +kernel) (by decide +kernel), zk_mem 379 (by decide +kernel) (by decide +kernel), zk_mem 380 (by decide +kernel) (by decide +kernel), rfl, by decide⟩
theorem lk_X0_116 : zk_LV "NamedNext$Clauses" 116 m_X6_addBook 1 6 := ⟨b_X6_addBook, zk_mem 392 (by decide +kernel) (by decide +kernel), zk_mem 393 (by decide +kernel) (by decide +kernel), zk_mem 394 (by decide +kernel) (by decide +kernel), rfl, by decide⟩
theorem lk_X0_120 : zk_LV "NamedNext$Clauses" 120 m_X5_number 0 5 := ⟨b_X5_number, zk_mem 365 (by decide +kernel) (by decide +kernel), zk_mem 366 (by decide +kernel) (by decide +kernel), zk_mem 367 (by decide +kernel) (by decide +kernel), rfl, by decide⟩
theorem lk_X2_17 : zk_LIN "NamedNext$Past" 17 m_X1_init 0 := ⟨b_X1_init, ⟨"NamedNext", by decide +kernel⟩, zk_mem 114 (by decide +kernel) (by decide +kernel), rfl, rfl⟩
theorem lk_X2_25 : zk_LV "NamedNext$Past" 25 m_X1_copyFrom 1 1 := ⟨b_X1_copyFrom, zk_mem 498 (by decide +kernel) (by decide +kernel), zk_mem 499 (by decide +kernel) (by decide +kernel), zk_mem 500 (by decide +kernel) (by decide +kernel), rfl, by decide⟩
theorem lk_X2_29 : zk_LS "NamedNext$Past" 29 m_J9_min_7cf53 2 := ⟨b_J9_min_7cf53, zk_mem 503 (by decide +kernel) (by decide +kernel), zk_mem 504 (by decide +kernel) (by decide +kernel)⟩
theorem lk_X3_35 : zk_LV "NamedNext$Rows" 35 m_X3_begin 2 3 := ⟨b_X3_begin, zk_mem 545 (by decide +kernel) (by decide +kernel), zk_mem 547 (by decide +kernel) (by decide +kernel), zk_memS 12 (by decide +kernel) (by decide +kernel), rfl, by decide⟩
theorem lk_X3_39 : zk_LV "NamedNext$Rows" 39 m_X3_fill 2 3 := ⟨b_X3_fill, zk_mem 564 (by decide +kernel) (by decide +kernel), zk_mem 566 (by decide +kernel) (by decide +kernel), zk_memS 16 (by decide +kernel) (by decide +kernel), rfl, by decide⟩
theorem lk_X3_50 : zk_LS "NamedNext$Rows" 50 m_X3_stateOf 2 := ⟨b_X3_stateOf, zk_mem 569 (by decide +kernel) (by decide +kernel), zk_mem 570 (by decide +kernel) (by decide +kernel)⟩
theorem lk_X3_54 : zk_LV "NamedNext$Rows" 54 m_X3_unread 1 3 := ⟨b_X3_unread, zk_mem 592 (by decide +kernel) (by decide +kernel), zk_mem 594 (by decide +kernel) (by decide +kernel), zk_memS 21 (by decide +kernel) (by decide +kernel), rfl, by decide⟩
theorem lk_X3_58 : zk_LS "NamedNext$Rows" 58 m_X3_lotsOf 1 := ⟨b_X3_lotsOf, zk_mem 596 (by decide +kernel) (by decide +kernel), zk_mem 597 (by decide +kernel) (by decide +kernel)⟩
theorem lk_X3_62 : zk_LV "NamedNext$Rows" 62 m_X3_choicesOf 2 3 := ⟨b_X3_choicesOf, zk_mem 580 (by decide +kernel) (by decide +kernel), zk_mem 582 (by decide +kernel) (by decide +kernel), zk_memS 19 (by decide +kernel) (by decide +kernel), rfl, by decide⟩
theorem lk_X3_70 : zk_LSN "NamedNext$Rows" 70 m_X7_hasBit 2 := ⟨b_X7_hasBit, ⟨"NamedNext", by decide +kernel⟩, zk_mem 445 (by decide +kernel) (by decide +kernel)⟩
theorem lk_X3_74 : zk_LS "NamedNext$Rows" 74 m_X3_stateBehind 2 := ⟨b_X3_stateBehind, zk_mem 584 (by decide +kernel) (by decide +kernel), zk_mem 585 (by decide +kernel) (by decide +kernel)⟩
theorem lk_X3_77 : zk_LV "NamedNext$Rows" 77 m_X3_choicesOfLongest 2 3 := ⟨b_X3_choicesOfLongest, zk_mem 576 (by decide +kernel) (by decide +kernel), zk_mem 578 (by decide +kernel) (by decide +kernel), zk_memS 18 (by decide +kernel) (by decide +kernel), rfl, by decide⟩
theorem lk_X3_80 : zk_LSN "NamedNext$Rows" 80 m_X7_leastOf 1 := ⟨b_X7_leastOf, ⟨"NamedNext", by decide +kernel⟩, zk_mem 623 (by decide +kernel) (by decide +kernel)⟩
theorem lk_X3_83 : zk_LS "NamedNext$Rows" 83 m_J7_fill_53178 2 := ⟨b_J7_fill_53178, zk_mem 686 (by decide +kernel) (by decide +kernel), zk_mem 402 (by decide +kernel) (by decide +kernel)⟩
theorem lk_X3_88 : zk_LV "NamedNext$Rows" 88 m_X3_everybody 0 3 := ⟨b_X3_everybody, zk_mem 555 (by decide +kernel) (by decide +kernel), zk_mem 557 (by decide +kernel) (by decide +kernel), zk_memS 14 (by decide +kernel) (by decide +kernel), rfl, by decide⟩
theorem lk_X3_92 : zk_LV "NamedNext$Rows" 92 m_X3_namingsTo 1 3 := ⟨b_X3_namingsTo, zk_mem 559 (by decide +kernel) (by decide +kernel), zk_mem 561 (by decide +kernel) (by decide +kernel), zk_memS 15 (by decide +kernel) (by decide +kernel), rfl, by decide⟩
theorem lk_X3_95 : zk_LV "NamedNext$Rows" 95 m_X3_spreadFrom 1 3 := ⟨b_X3_spreadFrom, zk_mem 687 (by decide +kernel) (by decide +kernel), zk_mem 689 (by decide +kernel) (by decide +kernel), zk_memS 24 (by decide +kernel) (by decide +kernel), rfl, by decide⟩
theorem lk_X3_99 : zk_LV "NamedNext$Rows" 99 m_X3_findLiked 0 3 := ⟨b_X3_findLiked, zk_mem 549 (by decide +kernel) (by decide +kernel), zk_mem 551 (by decide +kernel) (by decide +kernel), zk_memS 13 (by decide +kernel) (by decide +kernel), rfl, by decide⟩
theorem lk_X3_102 : zk_LV "NamedNext$Rows" 102 m_X6_stillHere 1 6 := ⟨b_X6_stillHere, zk_mem 554 (by decide +kernel) (by decide +kernel), zk_mem 477 (by decide +kernel) (by decide +kernel), zk_mem 478 (by decide +kernel) (by decide +kernel), rfl, by decide⟩
theorem lk_X3_105 : zk_LV "NamedNext$Rows" 105 m_X3_ringsThrough 4 3 := ⟨b_X3_ringsThrough, zk_mem 674 (by decide +kernel) (by decide +kernel), zk_mem 676 (by decide +kernel) (by decide +kernel), zk_memS 23 (by decide +kernel) (by decide +kernel), rfl, by decide⟩
theorem lk_X3_120 : zk_LV "NamedNext$Rows" 120 m_X6_liked 1 6 := ⟨b_X6_liked, zk_mem 553 (by decide +kernel) (by decide +kernel), zk_mem 468 (by decide +kernel) (by decide +kernel), zk_mem 469 (by decide +kernel) (by decide +kernel), rfl, by decide⟩
theorem lk_X3_122 : zk_LV "NamedNext$Rows" 122 m_X3_measureOf 4 3 := ⟨b_X3_measureOf, zk_mem 572 (by decide +kernel) (by decide +kernel), zk_mem 574 (by decide +kernel) (by decide +kernel), zk_memS 17 (by decide +kernel) (by decide +kernel), rfl, by decide⟩
theorem lk_X3_128 : zk_LV "NamedNext$Rows" 128 m_X3_throughOne 4 3 := ⟨b_X3_throughOne, zk_mem 588 (by decide +kernel) (by decide +kernel), zk_mem 590 (by decide +kernel) (by decide +kernel), zk_memS 20 (by decide +kernel) (by decide +kernel), rfl, by decide⟩
theorem lk_X3_132 : zk_LS "NamedNext$Rows" 132 m_X3_join 3 := ⟨b_X3_join, zk_mem 601 (by decide +kernel) (by decide +kernel), zk_mem 602 (by decide +kernel) (by decide +kernel)⟩
theorem lk_X3_136 : zk_LS "NamedNext$Rows" 136 m_J6_bitCount_0f7a4 1 := ⟨b_J6_bitCount_0f7a4, zk_mem 563 (by decide +kernel) (by decide +kernel), zk_mem 511 (by decide +kernel) (by decide +kernel)⟩
theorem lk_X3_141 : zk_LV "NamedNext$Rows" 141 m_X3_shareOfLot 2 3 := ⟨b_X3_shareOfLot, zk_mem 610 (by decide +kernel) (by decide +kernel), zk_mem 612 (by decide +kernel) (by decide +kernel), zk_memS 22 (by decide +kernel) (by decide +kernel), rfl, by decide⟩
theorem lk_X3_151 : zk_LS "NamedNext$Rows" 151 m_J9_min_f86c9 2 := ⟨b_J9_min_f86c9, zk_mem 604 (by decide +kernel) (by decide +kernel), zk_mem 605 (by decide +kernel) (by decide +kernel)⟩
theorem lk_X3_157 : zk_LS "NamedNext$Rows" 157 m_J9_max_f86c9 2 := ⟨b_J9_max_f86c9, zk_mem 607 (by decide +kernel) (by decide +kernel), zk_mem 608 (by decide +kernel) (by decide +kernel)⟩
theorem lk_X4_25 : zk_LV "NamedNext$Slips" 25 m_X4_forbidden 1 4 := ⟨b_X4_forbidden, zk_mem 711 (by decide +kernel) (by decide +kernel), zk_mem 713 (by decide +kernel) (by decide +kernel), zk_memS 25 (by decide +kernel) (by decide +kernel), rfl, by decide⟩
theorem lk_X4_29 : zk_LS "NamedNext$Slips" 29 m_J6_bitCount_0f7a4 1 := ⟨b_J6_bitCount_0f7a4, zk_mem 717 (by decide +kernel) (by decide +kernel), zk_mem 511 (by decide +kernel) (by decide +kernel)⟩
theorem lk_X4_35 : zk_LV "NamedNext$Slips" 35 m_X4_fitWithout 1 4 := ⟨b_X4_fitWithout, zk_mem 718 (by decide +kernel) (by decide +kernel), zk_mem 720 (by decide +kernel) (by decide +kernel), zk_memS 26 (by decide +kernel) (by decide +kernel), rfl, by decide⟩
theorem lk_X4_39 : zk_LSN "NamedNext$Slips" 39 m_X7_hasBit 2 := ⟨b_X7_hasBit, ⟨"NamedNext", by decide +kernel⟩, zk_mem 445 (by decide +kernel) (by decide +kernel)⟩
theorem lk_X4_43 : zk_LSN "NamedNext$Slips" 43 m_X7_leastOf 1 := ⟨b_X7_leastOf, ⟨"NamedNext", by decide +kernel⟩, zk_mem 623 (by decide +kernel) (by decide +kernel)⟩
theorem lk_X4_46 : zk_LV "NamedNext$Slips" 46 m_X6_namable 2 6 := ⟨b_X6_namable, zk_mem 715 (by decide +kernel) (by decide +kernel), zk_mem 464 (by decide +kernel) (by decide +kernel), zk_mem 465 (by decide +kernel) (by decide +kernel), rfl, by decide⟩
theorem lk_X4_52 : zk_LS "NamedNext$Slips" 52 m_J7_fill_53178 2 := ⟨b_J7_fill_53178, zk_mem 722 (by decide +kernel) (by decide +kernel), zk_mem 402 (by decide +kernel) (by decide +kernel)⟩
theorem lk_X4_58 : zk_LV "NamedNext$Slips" 58 m_X4_hasRing 0 4 := ⟨b_X4_hasRing, zk_mem 723 (by decide +kernel) (by decide +kernel), zk_mem 725 (by decide +kernel) (by decide +kernel), zk_memS 27 (by decide +kernel) (by decide +kernel), rfl, by decide⟩
theorem lk_X5_22 : zk_LV "NamedNext$Text" 22 m_X5_goToNextToken 0 5 := ⟨b_X5_goToNextToken, zk_mem 285 (by decide +kernel) (by decide +kernel), zk_mem 286 (by decide +kernel) (by decide +kernel), zk_mem 287 (by decide +kernel) (by decide +kernel), rfl, by decide⟩
theorem lk_X5_28 : zk_LS "NamedNext$Text" 28 m_X5_sortOf 1 := ⟨b_X5_sortOf, zk_mem 289 (by decide +kernel) (by decide +kernel), zk_mem 290 (by decide +kernel) (by decide +kernel)⟩
theorem lk_X5_32 : zk_LVS "NamedNext$Text" 32 m_J0_length_8abf5 0 := ⟨b_J0_length_8abf5, zk_mem 305 (by decide +kernel) (by decide +kernel), zk_mem 306 (by decide +kernel) (by decide +kernel), zk_mem 307 (by decide +kernel) (by decide +kernel), rfl⟩
theorem lk_X5_37 : zk_LVS "NamedNext$Text" 37 m_J0_charAt_5068e 1 := ⟨b_J0_charAt_5068e, zk_mem 315 (by decide +kernel) (by decide +kernel), zk_mem 316 (by decide +kernel) (by decide +kernel), zk_mem 317 (by decide +kernel) (by decide +kernel), rfl⟩
theorem lk_X6_40 : zk_LS "NamedNext$Told" 40 m_J7_fill_53178 2 := ⟨b_J7_fill_53178, zk_mem 401 (by decide +kernel) (by decide +kernel), zk_mem 402 (by decide +kernel) (by decide +kernel)⟩
theorem lk_X6_46 : zk_LS "NamedNext$Told" 46 m_J6_bitCount_0f7a4 1 := ⟨b_J6_bitCount_0f7a4, zk_mem 744 (by decide +kernel) (by decide +kernel), zk_mem 511 (by decide +kernel) (by decide +kernel)⟩
theorem lk_X6_52 : zk_LV "NamedNext$Told" 52 m_X6_liked 1 6 := ⟨b_X6_liked, zk_mem 467 (by decide +kernel) (by decide +kernel), zk_mem 468 (by decide +kernel) (by decide +kernel), zk_mem 469 (by decide +kernel) (by decide +kernel), rfl, by decide⟩
theorem lk_X6_55 : zk_LV "NamedNext$Told" 55 m_X6_stillHere 1 6 := ⟨b_X6_stillHere, zk_mem 476 (by decide +kernel) (by decide +kernel), zk_mem 477 (by decide +kernel) (by decide +kernel), zk_mem 478 (by decide +kernel) (by decide +kernel), rfl, by decide⟩
theorem lk_X6_58 : zk_LV "NamedNext$Told" 58 m_X6_likes 2 6 := ⟨b_X6_likes, zk_mem 471 (by decide +kernel) (by decide +kernel), zk_mem 473 (by decide +kernel) (by decide +kernel), zk_memS 11 (by decide +kernel) (by decide +kernel), rfl, by decide⟩
theorem lk_X6_62 : zk_LSN "NamedNext$Told" 62 m_X7_hasBit 2 := ⟨b_X7_hasBit, ⟨"NamedNext", by decide +kernel⟩, zk_mem 445 (by decide +kernel) (by decide +kernel)⟩
theorem lk_X7_9 : zk_LIN "NamedNext" 9 m_X5_init 0 := ⟨b_X5_init, ⟨"NamedNext", by decide +kernel⟩, zk_mem 29 (by decide +kernel) (by decide +kernel), rfl, rfl⟩
theorem lk_X7_18 : zk_LIN "NamedNext" 18 m_X6_init 0 := ⟨b_X6_init, ⟨"NamedNext", by decide +kernel⟩, zk_mem 51 (by decide +kernel) (by decide +kernel), rfl, rfl⟩
theorem lk_X7_25 : zk_LI "NamedNext" 25 m_X0_init 1 := ⟨b_X0_init, zk_mem 93 (by decide +kernel) (by decide +kernel), zk_mem 94 (by decide +kernel) (by decide +kernel), rfl, rfl⟩
theorem lk_X7_34 : zk_LIN "NamedNext" 34 m_X1_init 0 := ⟨b_X1_init, ⟨"NamedNext", by decide +kernel⟩, zk_mem 114 (by decide +kernel) (by decide +kernel), rfl, rfl⟩
theorem lk_X7_41 : zk_LI "NamedNext" 41 m_X2_init 0 := ⟨b_X2_init, zk_mem 139 (by decide +kernel) (by decide +kernel), zk_mem 140 (by decide +kernel) (by decide +kernel), rfl, rfl⟩
theorem lk_X7_52 : zk_LI "NamedNext" 52 m_X3_init 1 := ⟨b_X3_init, zk_mem 159 (by decide +kernel) (by decide +kernel), zk_mem 160 (by decide +kernel) (by decide +kernel), rfl, rfl⟩
theorem lk_X7_68 : zk_LIN "NamedNext" 68 m_X4_init 0 := ⟨b_X4_init, ⟨"NamedNext", by decide +kernel⟩, zk_mem 199 (by decide +kernel) (by decide +kernel), rfl, rfl⟩
theorem lk_X7_73 : zk_LV "NamedNext" 73 m_X5_append 1 5 := ⟨b_X5_append, zk_mem 254 (by decide +kernel) (by decide +kernel), zk_mem 255 (by decide +kernel) (by decide +kernel), zk_mem 256 (by decide +kernel) (by decide +kernel), rfl, by decide⟩
theorem lk_X7_81 : zk_LV "NamedNext" 81 m_X5_empty 0 5 := ⟨b_X5_empty, zk_mem 262 (by decide +kernel) (by decide +kernel), zk_mem 263 (by decide +kernel) (by decide +kernel), zk_mem 264 (by decide +kernel) (by decide +kernel), rfl, by decide⟩
theorem lk_X7_84 : zk_LV "NamedNext" 84 m_X0_firstFault 1 0 := ⟨b_X0_firstFault, zk_mem 270 (by decide +kernel) (by decide +kernel), zk_mem 271 (by decide +kernel) (by decide +kernel), zk_mem 272 (by decide +kernel) (by decide +kernel), rfl, by decide⟩
theorem lk_X7_91 : zk_LV "NamedNext" 91 m_X6_copyFrom 1 6 := ⟨b_X6_copyFrom, zk_mem 419 (by decide +kernel) (by decide +kernel), zk_mem 275 (by decide +kernel) (by decide +kernel), zk_mem 276 (by decide +kernel) (by decide +kernel), rfl, by decide⟩
theorem lk_X7_94 : zk_LV "NamedNext" 94 m_X1_beginAnew 1 1 := ⟨b_X1_beginAnew, zk_mem 420 (by decide +kernel) (by decide +kernel), zk_mem 421 (by decide +kernel) (by decide +kernel), zk_mem 422 (by decide +kernel) (by decide +kernel), rfl, by decide⟩
theorem lk_X7_97 : zk_LV "NamedNext" 97 m_X2_forget 0 2 := ⟨b_X2_forget, zk_mem 424 (by decide +kernel) (by decide +kernel), zk_mem 425 (by decide +kernel) (by decide +kernel), zk_mem 426 (by decide +kernel) (by decide +kernel), rfl, by decide⟩
theorem lk_X7_109 : zk_LV "NamedNext" 109 m_X6_hasReader 1 6 := ⟨b_X6_hasReader, zk_mem 432 (by decide +kernel) (by decide +kernel), zk_mem 433 (by decide +kernel) (by decide +kernel), zk_mem 434 (by decide +kernel) (by decide +kernel), rfl, by decide⟩
theorem lk_X7_125 : zk_LV "NamedNext" 125 m_X7_booksHeldBy 1 7 := ⟨b_X7_booksHeldBy, zk_mem 436 (by decide +kernel) (by decide +kernel), zk_mem 438 (by decide +kernel) (by decide +kernel), zk_memS 7 (by decide +kernel) (by decide +kernel), rfl, by decide⟩
theorem lk_X7_129 : zk_LV "NamedNext" 129 m_X7_booksHadBy 1 7 := ⟨b_X7_booksHadBy, zk_mem 440 (by decide +kernel) (by decide +kernel), zk_mem 442 (by decide +kernel) (by decide +kernel), zk_memS 8 (by decide +kernel) (by decide +kernel), rfl, by decide⟩
theorem lk_X7_132 : zk_LV "NamedNext" 132 m_X6_hasBook 1 6 := ⟨b_X6_hasBook, zk_mem 451 (by decide +kernel) (by decide +kernel), zk_mem 452 (by decide +kernel) (by decide +kernel), zk_mem 453 (by decide +kernel) (by decide +kernel), rfl, by decide⟩
theorem lk_X7_147 : zk_LV "NamedNext" 147 m_X7_isWalled 1 7 := ⟨b_X7_isWalled, zk_mem 455 (by decide +kernel) (by decide +kernel), zk_mem 457 (by decide +kernel) (by decide +kernel), zk_memS 9 (by decide +kernel) (by decide +kernel), rfl, by decide⟩
theorem lk_X7_156 : zk_LS "NamedNext" 156 m_X7_hasBit 2 := ⟨b_X7_hasBit, zk_mem 444 (by decide +kernel) (by decide +kernel), zk_mem 445 (by decide +kernel) (by decide +kernel)⟩
theorem lk_X7_160 : zk_LV "NamedNext" 160 m_X6_namable 2 6 := ⟨b_X6_namable, zk_mem 463 (by decide +kernel) (by decide +kernel), zk_mem 464 (by decide +kernel) (by decide +kernel), zk_mem 465 (by decide +kernel) (by decide +kernel), rfl, by decide⟩
theorem lk_X7_164 : zk_LV "NamedNext" 164 m_X7_namableNow 1 7 := ⟨b_X7_namableNow, zk_mem 459 (by decide +kernel) (by decide +kernel), zk_mem 461 (by decide +kernel) (by decide +kernel), zk_memS 10 (by decide +kernel) (by decide +kernel), rfl, by decide⟩
theorem lk_X7_167 : zk_LV "NamedNext" 167 m_X2_remember 1 2 := ⟨b_X2_remember, zk_mem 494 (by decide +kernel) (by decide +kernel), zk_mem 495 (by decide +kernel) (by decide +kernel), zk_mem 496 (by decide +kernel) (by decide +kernel), rfl, by decide⟩
theorem lk_X7_171 : zk_LV "NamedNext" 171 m_X1_passOn 2 1 := ⟨b_X1_passOn, zk_mem 506 (by decide +kernel) (by decide +kernel), zk_mem 507 (by decide +kernel) (by decide +kernel), zk_mem 508 (by decide +kernel) (by decide +kernel), rfl, by decide⟩
theorem lk_X7_175 : zk_LS "NamedNext" 175 m_J6_bitCount_0f7a4 1 := ⟨b_J6_bitCount_0f7a4, zk_mem 510 (by decide +kernel) (by decide +kernel), zk_mem 511 (by decide +kernel) (by decide +kernel)⟩
theorem lk_X7_181 : zk_LV "NamedNext" 181 m_X2_takeBack 1 2 := ⟨b_X2_takeBack, zk_mem 524 (by decide +kernel) (by decide +kernel), zk_mem 525 (by decide +kernel) (by decide +kernel), zk_mem 526 (by decide +kernel) (by decide +kernel), rfl, by decide⟩
theorem lk_X7_184 : zk_LV "NamedNext" 184 m_X1_copyFrom 1 1 := ⟨b_X1_copyFrom, zk_mem 532 (by decide +kernel) (by decide +kernel), zk_mem 499 (by decide +kernel) (by decide +kernel), zk_mem 500 (by decide +kernel) (by decide +kernel), rfl, by decide⟩
theorem lk_X7_186 : zk_LV "NamedNext" 186 m_X3_foretell 3 3 := ⟨b_X3_foretell, zk_mem 541 (by decide +kernel) (by decide +kernel), zk_mem 542 (by decide +kernel) (by decide +kernel), zk_mem 543 (by decide +kernel) (by decide +kernel), rfl, by decide⟩
theorem lk_X7_190 : zk_LV "NamedNext" 190 m_X3_readerOfFirstRow 3 3 := ⟨b_X3_readerOfFirstRow, zk_mem 618 (by decide +kernel) (by decide +kernel), zk_mem 619 (by decide +kernel) (by decide +kernel), zk_mem 620 (by decide +kernel) (by decide +kernel), rfl, by decide⟩
theorem lk_X7_198 : zk_LV "NamedNext" 198 m_X3_lotsBelow 0 3 := ⟨b_X3_lotsBelow, zk_mem 647 (by decide +kernel) (by decide +kernel), zk_mem 648 (by decide +kernel) (by decide +kernel), zk_mem 649 (by decide +kernel) (by decide +kernel), rfl, by decide⟩
theorem lk_X7_202 : zk_LS "NamedNext" 202 m_X7_lowestTerms 3 := ⟨b_X7_lowestTerms, zk_mem 651 (by decide +kernel) (by decide +kernel), zk_mem 652 (by decide +kernel) (by decide +kernel)⟩
theorem lk_X7_209 : zk_LV "NamedNext" 209 m_X3_leastWinningChoice 0 3 := ⟨b_X3_leastWinningChoice, zk_mem 662 (by decide +kernel) (by decide +kernel), zk_mem 663 (by decide +kernel) (by decide +kernel), zk_mem 664 (by decide +kernel) (by decide +kernel), rfl, by decide⟩
theorem lk_X7_213 : zk_LV "NamedNext" 213 m_X3_ringsOf 2 3 := ⟨b_X3_ringsOf, zk_mem 670 (by decide +kernel) (by decide +kernel), zk_mem 671 (by decide +kernel) (by decide +kernel), zk_mem 672 (by decide +kernel) (by decide +kernel), rfl, by decide⟩
theorem lk_X7_216 : zk_LV "NamedNext" 216 m_X3_findPlaces 3 3 := ⟨b_X3_findPlaces, zk_mem 682 (by decide +kernel) (by decide +kernel), zk_mem 683 (by decide +kernel) (by decide +kernel), zk_mem 684 (by decide +kernel) (by decide +kernel), rfl, by decide⟩
theorem lk_X7_220 : zk_LV "NamedNext" 220 m_X4_add 2 4 := ⟨b_X4_add, zk_mem 695 (by decide +kernel) (by decide +kernel), zk_mem 696 (by decide +kernel) (by decide +kernel), zk_mem 697 (by decide +kernel) (by decide +kernel), rfl, by decide⟩
theorem lk_X7_223 : zk_LV "NamedNext" 223 m_X4_forgedSet 1 4 := ⟨b_X4_forgedSet, zk_mem 707 (by decide +kernel) (by decide +kernel), zk_mem 708 (by decide +kernel) (by decide +kernel), zk_mem 709 (by decide +kernel) (by decide +kernel), rfl, by decide⟩
theorem lk_X7_226 : zk_LV "NamedNext" 226 m_X4_leastLastNamed 1 4 := ⟨b_X4_leastLastNamed, zk_mem 731 (by decide +kernel) (by decide +kernel), zk_mem 732 (by decide +kernel) (by decide +kernel), zk_mem 733 (by decide +kernel) (by decide +kernel), rfl, by decide⟩
theorem lk_X7_235 : zk_LV "NamedNext" 235 m_X6_feudPairs 0 6 := ⟨b_X6_feudPairs, zk_mem 740 (by decide +kernel) (by decide +kernel), zk_mem 741 (by decide +kernel) (by decide +kernel), zk_mem 742 (by decide +kernel) (by decide +kernel), rfl, by decide⟩
theorem lk_X7_238 : zk_LV "NamedNext" 238 m_X7_walledBooks 0 7 := ⟨b_X7_walledBooks, zk_mem 745 (by decide +kernel) (by decide +kernel), zk_mem 747 (by decide +kernel) (by decide +kernel), zk_memS 28 (by decide +kernel) (by decide +kernel), rfl, by decide⟩
theorem lk_X7_241 : zk_LV "NamedNext" 241 m_X7_namings 0 7 := ⟨b_X7_namings, zk_mem 749 (by decide +kernel) (by decide +kernel), zk_mem 751 (by decide +kernel) (by decide +kernel), zk_memS 29 (by decide +kernel) (by decide +kernel), rfl, by decide⟩
theorem lk_X8_63 : zk_LS "NamedNextModel" 63 m_X8_in 3 := ⟨b_X8_in, zk_mem 837 (by decide +kernel) (by decide +kernel), zk_mem 838 (by decide +kernel) (by decide +kernel)⟩
theorem lk_X8_74 : zk_LV "NamedNextModel" 74 m_X8_letterAt 1 8 := ⟨b_X8_letterAt, zk_mem 856 (by decide +kernel) (by decide +kernel), zk_mem 858 (by decide +kernel) (by decide +kernel), zk_memS 32 (by decide +kernel) (by decide +kernel), rfl, by decide⟩
theorem lk_X8_81 : zk_LS "NamedNextModel" 81 m_X8_isLetter 1 := ⟨b_X8_isLetter, zk_mem 860 (by decide +kernel) (by decide +kernel), zk_mem 861 (by decide +kernel) (by decide +kernel)⟩
theorem lk_X8_85 : zk_LS "NamedNextModel" 85 m_X8_isDigit 1 := ⟨b_X8_isDigit, zk_mem 863 (by decide +kernel) (by decide +kernel), zk_mem 864 (by decide +kernel) (by decide +kernel)⟩
theorem lk_X8_94 : zk_LV "NamedNextModel" 94 m_X8_token 0 8 := ⟨b_X8_token, zk_mem 852 (by decide +kernel) (by decide +kernel), zk_mem 854 (by decide +kernel) (by decide +kernel), zk_memS 31 (by decide +kernel) (by decide +kernel), rfl, by decide⟩
theorem lk_X8_97 : zk_LV "NamedNextModel" 97 m_X8_number 3 8 := ⟨b_X8_number, zk_mem 882 (by decide +kernel) (by decide +kernel), zk_mem 884 (by decide +kernel) (by decide +kernel), zk_memS 37 (by decide +kernel) (by decide +kernel), rfl, by decide⟩
theorem lk_X8_100 : zk_LV "NamedNextModel" 100 m_X8_isWord 9 8 := ⟨b_X8_isWord, zk_mem 870 (by decide +kernel) (by decide +kernel), zk_mem 872 (by decide +kernel) (by decide +kernel), zk_memS 34 (by decide +kernel) (by decide +kernel), rfl, by decide⟩
theorem lk_X8_104 : zk_LV "NamedNextModel" 104 m_X8_forgets 0 8 := ⟨b_X8_forgets, zk_mem 874 (by decide +kernel) (by decide +kernel), zk_mem 876 (by decide +kernel) (by decide +kernel), zk_memS 35 (by decide +kernel) (by decide +kernel), rfl, by decide⟩
theorem lk_X8_107 : zk_LV "NamedNextModel" 107 m_X8_readsReader 1 8 := ⟨b_X8_readsReader, zk_mem 878 (by decide +kernel) (by decide +kernel), zk_mem 880 (by decide +kernel) (by decide +kernel), zk_memS 36 (by decide +kernel) (by decide +kernel), rfl, by decide⟩
theorem lk_X8_110 : zk_LV "NamedNextModel" 110 m_X8_readsFeud 0 8 := ⟨b_X8_readsFeud, zk_mem 886 (by decide +kernel) (by decide +kernel), zk_mem 888 (by decide +kernel) (by decide +kernel), zk_memS 38 (by decide +kernel) (by decide +kernel), rfl, by decide⟩
theorem lk_X8_114 : zk_LV "NamedNextModel" 114 m_X8_readsMove 0 8 := ⟨b_X8_readsMove, zk_mem 890 (by decide +kernel) (by decide +kernel), zk_mem 892 (by decide +kernel) (by decide +kernel), zk_memS 39 (by decide +kernel) (by decide +kernel), rfl, by decide⟩
theorem lk_X8_117 : zk_LV "NamedNextModel" 117 m_X8_readsBook 0 8 := ⟨b_X8_readsBook, zk_mem 894 (by decide +kernel) (by decide +kernel), zk_mem 896 (by decide +kernel) (by decide +kernel), zk_memS 40 (by decide +kernel) (by decide +kernel), rfl, by decide⟩
theorem lk_X8_120 : zk_LV "NamedNextModel" 120 m_X8_peace 0 8 := ⟨b_X8_peace, zk_mem 898 (by decide +kernel) (by decide +kernel), zk_mem 900 (by decide +kernel) (by decide +kernel), zk_memS 41 (by decide +kernel) (by decide +kernel), rfl, by decide⟩
theorem lk_X8_123 : zk_LV "NamedNextModel" 123 m_X8_readsClause 0 8 := ⟨b_X8_readsClause, zk_mem 866 (by decide +kernel) (by decide +kernel), zk_mem 868 (by decide +kernel) (by decide +kernel), zk_memS 33 (by decide +kernel) (by decide +kernel), rfl, by decide⟩
theorem lk_X8_126 : zk_LV "NamedNextModel" 126 m_X8_reads 0 8 := ⟨b_X8_reads, zk_mem 848 (by decide +kernel) (by decide +kernel), zk_mem 850 (by decide +kernel) (by decide +kernel), zk_memS 30 (by decide +kernel) (by decide +kernel), rfl, by decide⟩
theorem lk_X8_136 : zk_LV "NamedNextModel" 136 m_X8_named 2 8 := ⟨b_X8_named, zk_mem 926 (by decide +kernel) (by decide +kernel), zk_mem 928 (by decide +kernel) (by decide +kernel), zk_memS 45 (by decide +kernel) (by decide +kernel), rfl, by decide⟩
theorem lk_X8_140 : zk_LV "NamedNextModel" 140 m_X8_isReader 1 8 := ⟨b_X8_isReader, zk_mem 910 (by decide +kernel) (by decide +kernel), zk_mem 912 (by decide +kernel) (by decide +kernel), zk_memS 42 (by decide +kernel) (by decide +kernel), rfl, by decide⟩
theorem lk_X8_143 : zk_LV "NamedNextModel" 143 m_X8_isBook 1 8 := ⟨b_X8_isBook, zk_mem 918 (by decide +kernel) (by decide +kernel), zk_mem 920 (by decide +kernel) (by decide +kernel), zk_memS 43 (by decide +kernel) (by decide +kernel), rfl, by decide⟩
theorem lk_X8_146 : zk_LV "NamedNextModel" 146 m_X8_namedNow 1 8 := ⟨b_X8_namedNow, zk_mem 922 (by decide +kernel) (by decide +kernel), zk_mem 924 (by decide +kernel) (by decide +kernel), zk_memS 44 (by decide +kernel) (by decide +kernel), rfl, by decide⟩
theorem lk_X8_149 : zk_LV "NamedNextModel" 149 m_X8_keeps 0 8 := ⟨b_X8_keeps, zk_mem 942 (by decide +kernel) (by decide +kernel), zk_mem 944 (by decide +kernel) (by decide +kernel), zk_memS 46 (by decide +kernel) (by decide +kernel), rfl, by decide⟩
theorem lk_X8_152 : zk_LS "NamedNextModel" 152 m_X8_ones 1 := ⟨b_X8_ones, zk_mem 946 (by decide +kernel) (by decide +kernel), zk_mem 947 (by decide +kernel) (by decide +kernel)⟩
theorem lk_X8_155 : zk_LV "NamedNextModel" 155 m_X8_nexts 3 8 := ⟨b_X8_nexts, zk_mem 981 (by decide +kernel) (by decide +kernel), zk_mem 983 (by decide +kernel) (by decide +kernel), zk_memS 50 (by decide +kernel) (by decide +kernel), rfl, by decide⟩
theorem lk_X8_159 : zk_LV "NamedNextModel" 159 m_X8_isState 3 8 := ⟨b_X8_isState, zk_mem 973 (by decide +kernel) (by decide +kernel), zk_mem 975 (by decide +kernel) (by decide +kernel), zk_memS 48 (by decide +kernel) (by decide +kernel), rfl, by decide⟩
theorem lk_X8_162 : zk_LV "NamedNextModel" 162 m_X8_lays 3 8 := ⟨b_X8_lays, zk_mem 977 (by decide +kernel) (by decide +kernel), zk_mem 979 (by decide +kernel) (by decide +kernel), zk_memS 49 (by decide +kernel) (by decide +kernel), rfl, by decide⟩
theorem lk_X8_166 : zk_LV "NamedNextModel" 166 m_X8_laysAll 1 8 := ⟨b_X8_laysAll, zk_mem 969 (by decide +kernel) (by decide +kernel), zk_mem 971 (by decide +kernel) (by decide +kernel), zk_memS 47 (by decide +kernel) (by decide +kernel), rfl, by decide⟩
theorem lk_X8_175 : zk_LV "NamedNextModel" 175 m_X8_laysOdds 1 8 := ⟨b_X8_laysOdds, zk_mem 1011 (by decide +kernel) (by decide +kernel), zk_mem 1013 (by decide +kernel) (by decide +kernel), zk_memS 51 (by decide +kernel) (by decide +kernel), rfl, by decide⟩
theorem lk_X8_179 : zk_LS "NamedNextModel" 179 m_X8_part 2 := ⟨b_X8_part, zk_mem 1016 (by decide +kernel) (by decide +kernel), zk_mem 1017 (by decide +kernel) (by decide +kernel)⟩
theorem lk_X8_183 : zk_LV "NamedNextModel" 183 m_X8_holders 2 8 := ⟨b_X8_holders, zk_mem 1035 (by decide +kernel) (by decide +kernel), zk_mem 1037 (by decide +kernel) (by decide +kernel), zk_memS 52 (by decide +kernel) (by decide +kernel), rfl, by decide⟩
theorem lk_X8_186 : zk_LV "NamedNextModel" 186 m_X8_canBe 1 8 := ⟨b_X8_canBe, zk_mem 1055 (by decide +kernel) (by decide +kernel), zk_mem 1057 (by decide +kernel) (by decide +kernel), zk_memS 54 (by decide +kernel) (by decide +kernel), rfl, by decide⟩
theorem lk_X8_189 : zk_LV "NamedNextModel" 189 m_X8_forgedOnes 0 8 := ⟨b_X8_forgedOnes, zk_mem 1051 (by decide +kernel) (by decide +kernel), zk_mem 1053 (by decide +kernel) (by decide +kernel), zk_memS 53 (by decide +kernel) (by decide +kernel), rfl, by decide⟩
theorem lk_J0_335 : zk_LVS "java/lang/String" 335 m_J0_coder_7d493 0 := ⟨b_J0_coder_7d493, zk_mem 309 (by decide +kernel) (by decide +kernel), zk_mem 310 (by decide +kernel) (by decide +kernel), zk_mem 311 (by decide +kernel) (by decide +kernel), rfl⟩
theorem lk_J0_492 : zk_LVS "java/lang/String" 492 m_J0_isLatin1_aae02 0 := ⟨b_J0_isLatin1_aae02, zk_mem 319 (by decide +kernel) (by decide +kernel), zk_mem 320 (by decide +kernel) (by decide +kernel), zk_mem 321 (by decide +kernel) (by decide +kernel), rfl⟩
theorem lk_J0_495 : zk_LS "java/lang/String" 495 m_J1_charAt_3b067 2 := ⟨b_J1_charAt_3b067, zk_mem 323 (by decide +kernel) (by decide +kernel), zk_mem 324 (by decide +kernel) (by decide +kernel)⟩
theorem lk_J0_1059 : zk_LS "java/lang/String" 1059 m_J3_checkIndex_8e157 3 := ⟨b_J3_checkIndex_8e157, zk_mem 331 (by decide +kernel) (by decide +kernel), zk_mem 332 (by decide +kernel) (by decide +kernel)⟩
theorem lk_J1_9 : zk_LS "java/lang/StringLatin1" 9 m_J0_checkIndex_df160 2 := ⟨b_J0_checkIndex_df160, zk_mem 326 (by decide +kernel) (by decide +kernel), zk_mem 327 (by decide +kernel) (by decide +kernel)⟩
theorem lk_L_9 : zk_LI "NamedNextLaw" 9 m_X7_init 0 := ⟨b_X7_init, zk_mem 20 (by decide +kernel) (by decide +kernel), zk_mem 21 (by decide +kernel) (by decide +kernel), rfl, rfl⟩
theorem lk_L_12 : zk_LI "NamedNextLaw" 12 m_X8_init 0 := ⟨b_X8_init, zk_mem 755 (by decide +kernel) (by decide +kernel), zk_mem 756 (by decide +kernel) (by decide +kernel), rfl, rfl⟩
theorem lk_L_13 : zk_LV "NamedNextLaw" 13 m_X7_write 1 7 := ⟨b_X7_write, zk_mem 250 (by decide +kernel) (by decide +kernel), zk_mem 251 (by decide +kernel) (by decide +kernel), zk_mem 252 (by decide +kernel) (by decide +kernel), rfl, by decide⟩
theorem lk_L_17 : zk_LV "NamedNextLaw" 17 m_X8_write 1 8 := ⟨b_X8_write, zk_mem 833 (by decide +kernel) (by decide +kernel), zk_mem 834 (by decide +kernel) (by decide +kernel), zk_mem 835 (by decide +kernel) (by decide +kernel), rfl, by decide⟩
theorem lk_L_18 : zk_LV "NamedNextLaw" 18 m_X7_erase 0 7 := ⟨b_X7_erase, zk_mem 258 (by decide +kernel) (by decide +kernel), zk_mem 259 (by decide +kernel) (by decide +kernel), zk_mem 260 (by decide +kernel) (by decide +kernel), rfl, by decide⟩
theorem lk_L_22 : zk_LV "NamedNextLaw" 22 m_X8_erase 0 8 := ⟨b_X8_erase, zk_mem 840 (by decide +kernel) (by decide +kernel), zk_mem 841 (by decide +kernel) (by decide +kernel), zk_mem 842 (by decide +kernel) (by decide +kernel), rfl, by decide⟩
theorem lk_L_23 : zk_LV "NamedNextLaw" 23 m_X7_fault 0 7 := ⟨b_X7_fault, zk_mem 266 (by decide +kernel) (by decide +kernel), zk_mem 267 (by decide +kernel) (by decide +kernel), zk_mem 268 (by decide +kernel) (by decide +kernel), rfl, by decide⟩
theorem lk_L_26 : zk_LV "NamedNextLaw" 26 m_X8_fault 0 8 := ⟨b_X8_fault, zk_mem 844 (by decide +kernel) (by decide +kernel), zk_mem 845 (by decide +kernel) (by decide +kernel), zk_mem 846 (by decide +kernel) (by decide +kernel), rfl, by decide⟩
theorem lk_L_27 : zk_LV "NamedNextLaw" 27 m_X7_library 0 7 := ⟨b_X7_library, zk_mem 415 (by decide +kernel) (by decide +kernel), zk_mem 416 (by decide +kernel) (by decide +kernel), zk_mem 417 (by decide +kernel) (by decide +kernel), rfl, by decide⟩
theorem lk_L_30 : zk_LV "NamedNextLaw" 30 m_X8_library 0 8 := ⟨b_X8_library, zk_mem 902 (by decide +kernel) (by decide +kernel), zk_mem 903 (by decide +kernel) (by decide +kernel), zk_mem 904 (by decide +kernel) (by decide +kernel), rfl, by decide⟩
theorem lk_L_31 : zk_LV "NamedNextLaw" 31 m_X7_reader 2 7 := ⟨b_X7_reader, zk_mem 428 (by decide +kernel) (by decide +kernel), zk_mem 429 (by decide +kernel) (by decide +kernel), zk_mem 430 (by decide +kernel) (by decide +kernel), rfl, by decide⟩
theorem lk_L_35 : zk_LV "NamedNextLaw" 35 m_X8_reader 2 8 := ⟨b_X8_reader, zk_mem 906 (by decide +kernel) (by decide +kernel), zk_mem 907 (by decide +kernel) (by decide +kernel), zk_mem 908 (by decide +kernel) (by decide +kernel), rfl, by decide⟩
theorem lk_L_36 : zk_LV "NamedNextLaw" 36 m_X7_book 2 7 := ⟨b_X7_book, zk_mem 447 (by decide +kernel) (by decide +kernel), zk_mem 448 (by decide +kernel) (by decide +kernel), zk_mem 449 (by decide +kernel) (by decide +kernel), rfl, by decide⟩
theorem lk_L_39 : zk_LV "NamedNextLaw" 39 m_X8_book 2 8 := ⟨b_X8_book, zk_mem 914 (by decide +kernel) (by decide +kernel), zk_mem 915 (by decide +kernel) (by decide +kernel), zk_mem 916 (by decide +kernel) (by decide +kernel), rfl, by decide⟩
theorem lk_L_40 : zk_LV "NamedNextLaw" 40 m_X7_as 2 7 := ⟨b_X7_as, zk_mem 480 (by decide +kernel) (by decide +kernel), zk_mem 481 (by decide +kernel) (by decide +kernel), zk_mem 482 (by decide +kernel) (by decide +kernel), rfl, by decide⟩
theorem lk_L_43 : zk_LV "NamedNextLaw" 43 m_X8_as 2 8 := ⟨b_X8_as, zk_mem 930 (by decide +kernel) (by decide +kernel), zk_mem 931 (by decide +kernel) (by decide +kernel), zk_mem 932 (by decide +kernel) (by decide +kernel), rfl, by decide⟩
theorem lk_L_44 : zk_LV "NamedNextLaw" 44 m_X7_may 2 7 := ⟨b_X7_may, zk_mem 486 (by decide +kernel) (by decide +kernel), zk_mem 487 (by decide +kernel) (by decide +kernel), zk_mem 488 (by decide +kernel) (by decide +kernel), rfl, by decide⟩
theorem lk_L_47 : zk_LV "NamedNextLaw" 47 m_X8_may 2 8 := ⟨b_X8_may, zk_mem 934 (by decide +kernel) (by decide +kernel), zk_mem 935 (by decide +kernel) (by decide +kernel), zk_mem 936 (by decide +kernel) (by decide +kernel), rfl, by decide⟩
theorem lk_L_48 : zk_LV "NamedNextLaw" 48 m_X7_name 2 7 := ⟨b_X7_name, zk_mem 490 (by decide +kernel) (by decide +kernel), zk_mem 491 (by decide +kernel) (by decide +kernel), zk_mem 492 (by decide +kernel) (by decide +kernel), rfl, by decide⟩
theorem lk_L_51 : zk_LV "NamedNextLaw" 51 m_X8_name 2 8 := ⟨b_X8_name, zk_mem 938 (by decide +kernel) (by decide +kernel), zk_mem 939 (by decide +kernel) (by decide +kernel), zk_mem 940 (by decide +kernel) (by decide +kernel), rfl, by decide⟩
theorem lk_L_52 : zk_LV "NamedNextLaw" 52 m_X7_day 0 7 := ⟨b_X7_day, zk_mem 516 (by decide +kernel) (by decide +kernel), zk_mem 517 (by decide +kernel) (by decide +kernel), zk_mem 518 (by decide +kernel) (by decide +kernel), rfl, by decide⟩
theorem lk_L_55 : zk_LV "NamedNextLaw" 55 m_X8_day 0 8 := ⟨b_X8_day, zk_mem 949 (by decide +kernel) (by decide +kernel), zk_mem 950 (by decide +kernel) (by decide +kernel), zk_mem 951 (by decide +kernel) (by decide +kernel), rfl, by decide⟩
theorem lk_L_56 : zk_LV "NamedNextLaw" 56 m_X7_undo 0 7 := ⟨b_X7_undo, zk_mem 520 (by decide +kernel) (by decide +kernel), zk_mem 521 (by decide +kernel) (by decide +kernel), zk_mem 522 (by decide +kernel) (by decide +kernel), rfl, by decide⟩
theorem lk_L_59 : zk_LV "NamedNextLaw" 59 m_X8_undo 0 8 := ⟨b_X8_undo, zk_mem 953 (by decide +kernel) (by decide +kernel), zk_mem 954 (by decide +kernel) (by decide +kernel), zk_mem 955 (by decide +kernel) (by decide +kernel), rfl, by decide⟩
theorem lk_L_60 : zk_LV "NamedNextLaw" 60 m_X7_keep 1 7 := ⟨b_X7_keep, zk_mem 528 (by decide +kernel) (by decide +kernel), zk_mem 529 (by decide +kernel) (by decide +kernel), zk_mem 530 (by decide +kernel) (by decide +kernel), rfl, by decide⟩
theorem lk_L_63 : zk_LV "NamedNextLaw" 63 m_X8_keep 1 8 := ⟨b_X8_keep, zk_mem 957 (by decide +kernel) (by decide +kernel), zk_mem 958 (by decide +kernel) (by decide +kernel), zk_mem 959 (by decide +kernel) (by decide +kernel), rfl, by decide⟩
theorem lk_L_64 : zk_LV "NamedNextLaw" 64 m_X7_back 1 7 := ⟨b_X7_back, zk_mem 533 (by decide +kernel) (by decide +kernel), zk_mem 534 (by decide +kernel) (by decide +kernel), zk_mem 535 (by decide +kernel) (by decide +kernel), rfl, by decide⟩
theorem lk_L_67 : zk_LV "NamedNextLaw" 67 m_X8_back 1 8 := ⟨b_X8_back, zk_mem 961 (by decide +kernel) (by decide +kernel), zk_mem 962 (by decide +kernel) (by decide +kernel), zk_mem 963 (by decide +kernel) (by decide +kernel), rfl, by decide⟩
theorem lk_L_68 : zk_LV "NamedNextLaw" 68 m_X7_longest 2 7 := ⟨b_X7_longest, zk_mem 537 (by decide +kernel) (by decide +kernel), zk_mem 538 (by decide +kernel) (by decide +kernel), zk_mem 539 (by decide +kernel) (by decide +kernel), rfl, by decide⟩
theorem lk_L_71 : zk_LV "NamedNextLaw" 71 m_X8_longest 2 8 := ⟨b_X8_longest, zk_mem 965 (by decide +kernel) (by decide +kernel), zk_mem 966 (by decide +kernel) (by decide +kernel), zk_mem 967 (by decide +kernel) (by decide +kernel), rfl, by decide⟩
theorem lk_L_72 : zk_LV "NamedNextLaw" 72 m_X7_row 2 7 := ⟨b_X7_row, zk_mem 614 (by decide +kernel) (by decide +kernel), zk_mem 615 (by decide +kernel) (by decide +kernel), zk_mem 616 (by decide +kernel) (by decide +kernel), rfl, by decide⟩
theorem lk_L_75 : zk_LV "NamedNextLaw" 75 m_X8_row 2 8 := ⟨b_X8_row, zk_mem 985 (by decide +kernel) (by decide +kernel), zk_mem 986 (by decide +kernel) (by decide +kernel), zk_mem 987 (by decide +kernel) (by decide +kernel), rfl, by decide⟩
theorem lk_L_76 : zk_LV "NamedNextLaw" 76 m_X7_shortest 1 7 := ⟨b_X7_shortest, zk_mem 625 (by decide +kernel) (by decide +kernel), zk_mem 626 (by decide +kernel) (by decide +kernel), zk_mem 627 (by decide +kernel) (by decide +kernel), rfl, by decide⟩
theorem lk_L_79 : zk_LV "NamedNextLaw" 79 m_X8_shortest 1 8 := ⟨b_X8_shortest, zk_mem 989 (by decide +kernel) (by decide +kernel), zk_mem 990 (by decide +kernel) (by decide +kernel), zk_mem 991 (by decide +kernel) (by decide +kernel), rfl, by decide⟩
theorem lk_L_80 : zk_LV "NamedNextLaw" 80 m_X7_can 1 7 := ⟨b_X7_can, zk_mem 629 (by decide +kernel) (by decide +kernel), zk_mem 630 (by decide +kernel) (by decide +kernel), zk_mem 631 (by decide +kernel) (by decide +kernel), rfl, by decide⟩
theorem lk_L_83 : zk_LV "NamedNextLaw" 83 m_X8_can 1 8 := ⟨b_X8_can, zk_mem 993 (by decide +kernel) (by decide +kernel), zk_mem 994 (by decide +kernel) (by decide +kernel), zk_mem 995 (by decide +kernel) (by decide +kernel), rfl, by decide⟩
theorem lk_L_84 : zk_LV "NamedNextLaw" 84 m_X7_all 1 7 := ⟨b_X7_all, zk_mem 633 (by decide +kernel) (by decide +kernel), zk_mem 634 (by decide +kernel) (by decide +kernel), zk_mem 635 (by decide +kernel) (by decide +kernel), rfl, by decide⟩
theorem lk_L_87 : zk_LV "NamedNextLaw" 87 m_X8_all 1 8 := ⟨b_X8_all, zk_mem 997 (by decide +kernel) (by decide +kernel), zk_mem 998 (by decide +kernel) (by decide +kernel), zk_mem 999 (by decide +kernel) (by decide +kernel), rfl, by decide⟩
theorem lk_L_88 : zk_LV "NamedNextLaw" 88 m_X7_fame 1 7 := ⟨b_X7_fame, zk_mem 637 (by decide +kernel) (by decide +kernel), zk_mem 638 (by decide +kernel) (by decide +kernel), zk_mem 639 (by decide +kernel) (by decide +kernel), rfl, by decide⟩
theorem lk_L_91 : zk_LV "NamedNextLaw" 91 m_X8_fame 1 8 := ⟨b_X8_fame, zk_mem 1001 (by decide +kernel) (by decide +kernel), zk_mem 1002 (by decide +kernel) (by decide +kernel), zk_mem 1003 (by decide +kernel) (by decide +kernel), rfl, by decide⟩
theorem lk_L_92 : zk_LV "NamedNextLaw" 92 m_X7_mean 2 7 := ⟨b_X7_mean, zk_mem 641 (by decide +kernel) (by decide +kernel), zk_mem 642 (by decide +kernel) (by decide +kernel), zk_mem 643 (by decide +kernel) (by decide +kernel), rfl, by decide⟩
theorem lk_L_96 : zk_LV "NamedNextLaw" 96 m_X8_mean 2 8 := ⟨b_X8_mean, zk_mem 1005 (by decide +kernel) (by decide +kernel), zk_mem 1006 (by decide +kernel) (by decide +kernel), zk_mem 1007 (by decide +kernel) (by decide +kernel), rfl, by decide⟩
theorem lk_L_97 : zk_LV "NamedNextLaw" 97 m_X7_odds 3 7 := ⟨b_X7_odds, zk_mem 654 (by decide +kernel) (by decide +kernel), zk_mem 655 (by decide +kernel) (by decide +kernel), zk_mem 656 (by decide +kernel) (by decide +kernel), rfl, by decide⟩
theorem lk_L_101 : zk_LV "NamedNextLaw" 101 m_X8_odds 3 8 := ⟨b_X8_odds, zk_mem 1019 (by decide +kernel) (by decide +kernel), zk_mem 1020 (by decide +kernel) (by decide +kernel), zk_mem 1021 (by decide +kernel) (by decide +kernel), rfl, by decide⟩
theorem lk_L_102 : zk_LV "NamedNextLaw" 102 m_X7_turns 2 7 := ⟨b_X7_turns, zk_mem 658 (by decide +kernel) (by decide +kernel), zk_mem 659 (by decide +kernel) (by decide +kernel), zk_mem 660 (by decide +kernel) (by decide +kernel), rfl, by decide⟩
theorem lk_L_105 : zk_LV "NamedNextLaw" 105 m_X8_turns 2 8 := ⟨b_X8_turns, zk_mem 1023 (by decide +kernel) (by decide +kernel), zk_mem 1024 (by decide +kernel) (by decide +kernel), zk_mem 1025 (by decide +kernel) (by decide +kernel), rfl, by decide⟩
theorem lk_L_106 : zk_LV "NamedNextLaw" 106 m_X7_clubs 1 7 := ⟨b_X7_clubs, zk_mem 666 (by decide +kernel) (by decide +kernel), zk_mem 667 (by decide +kernel) (by decide +kernel), zk_mem 668 (by decide +kernel) (by decide +kernel), rfl, by decide⟩
theorem lk_L_109 : zk_LV "NamedNextLaw" 109 m_X8_clubs 1 8 := ⟨b_X8_clubs, zk_mem 1027 (by decide +kernel) (by decide +kernel), zk_mem 1028 (by decide +kernel) (by decide +kernel), zk_mem 1029 (by decide +kernel) (by decide +kernel), rfl, by decide⟩
theorem lk_L_110 : zk_LV "NamedNextLaw" 110 m_X7_meet 2 7 := ⟨b_X7_meet, zk_mem 678 (by decide +kernel) (by decide +kernel), zk_mem 679 (by decide +kernel) (by decide +kernel), zk_mem 680 (by decide +kernel) (by decide +kernel), rfl, by decide⟩
theorem lk_L_113 : zk_LV "NamedNextLaw" 113 m_X8_meet 2 8 := ⟨b_X8_meet, zk_mem 1031 (by decide +kernel) (by decide +kernel), zk_mem 1032 (by decide +kernel) (by decide +kernel), zk_mem 1033 (by decide +kernel) (by decide +kernel), rfl, by decide⟩
theorem lk_L_114 : zk_LV "NamedNextLaw" 114 m_X7_slip 2 7 := ⟨b_X7_slip, zk_mem 691 (by decide +kernel) (by decide +kernel), zk_mem 692 (by decide +kernel) (by decide +kernel), zk_mem 693 (by decide +kernel) (by decide +kernel), rfl, by decide⟩
theorem lk_L_117 : zk_LV "NamedNextLaw" 117 m_X8_slip 2 8 := ⟨b_X8_slip, zk_mem 1039 (by decide +kernel) (by decide +kernel), zk_mem 1040 (by decide +kernel) (by decide +kernel), zk_mem 1041 (by decide +kernel) (by decide +kernel), rfl, by decide⟩
theorem lk_L_118 : zk_LV "NamedNextLaw" 118 m_X7_burn 0 7 := ⟨b_X7_burn, zk_mem 699 (by decide +kernel) (by decide +kernel), zk_mem 700 (by decide +kernel) (by decide +kernel), zk_mem 701 (by decide +kernel) (by decide +kernel), rfl, by decide⟩
theorem lk_L_121 : zk_LV "NamedNextLaw" 121 m_X8_burn 0 8 := ⟨b_X8_burn, zk_mem 1043 (by decide +kernel) (by decide +kernel), zk_mem 1044 (by decide +kernel) (by decide +kernel), zk_mem 1045 (by decide +kernel) (by decide +kernel), rfl, by decide⟩
theorem lk_L_122 : zk_LV "NamedNextLaw" 122 m_X7_forged 1 7 := ⟨b_X7_forged, zk_mem 703 (by decide +kernel) (by decide +kernel), zk_mem 704 (by decide +kernel) (by decide +kernel), zk_mem 705 (by decide +kernel) (by decide +kernel), rfl, by decide⟩
theorem lk_L_125 : zk_LV "NamedNextLaw" 125 m_X8_forged 1 8 := ⟨b_X8_forged, zk_mem 1047 (by decide +kernel) (by decide +kernel), zk_mem 1048 (by decide +kernel) (by decide +kernel), zk_mem 1049 (by decide +kernel) (by decide +kernel), rfl, by decide⟩
theorem lk_L_126 : zk_LV "NamedNextLaw" 126 m_X7_holder 0 7 := ⟨b_X7_holder, zk_mem 727 (by decide +kernel) (by decide +kernel), zk_mem 728 (by decide +kernel) (by decide +kernel), zk_mem 729 (by decide +kernel) (by decide +kernel), rfl, by decide⟩
theorem lk_L_129 : zk_LV "NamedNextLaw" 129 m_X8_holder 0 8 := ⟨b_X8_holder, zk_mem 1059 (by decide +kernel) (by decide +kernel), zk_mem 1060 (by decide +kernel) (by decide +kernel), zk_mem 1061 (by decide +kernel) (by decide +kernel), rfl, by decide⟩
theorem lk_L_130 : zk_LV "NamedNextLaw" 130 m_X7_count 1 7 := ⟨b_X7_count, zk_mem 736 (by decide +kernel) (by decide +kernel), zk_mem 737 (by decide +kernel) (by decide +kernel), zk_mem 738 (by decide +kernel) (by decide +kernel), rfl, by decide⟩
theorem lk_L_133 : zk_LV "NamedNextLaw" 133 m_X8_count 1 8 := ⟨b_X8_count, zk_mem 1063 (by decide +kernel) (by decide +kernel), zk_mem 1064 (by decide +kernel) (by decide +kernel), zk_mem 1065 (by decide +kernel) (by decide +kernel), rfl, by decide⟩
theorem fk_X5_9 : zk_FL "NamedNext$Text" 9 5 0 true := ⟨by decide, by decide +kernel, rfl, zk_mem 32 (by decide +kernel) (by decide +kernel)⟩
theorem fk_X5_15 : zk_FL "NamedNext$Text" 15 5 1 false := ⟨by decide, by decide +kernel, rfl, zk_mem 33 (by decide +kernel) (by decide +kernel)⟩
theorem fk_X7_77 : zk_FL "NamedNext" 77 5 1 false := ⟨by decide, by decide +kernel, rfl, zk_mem 34 (by decide +kernel) (by decide +kernel)⟩
theorem fk_X0_39 : zk_FL "NamedNext$Clauses" 39 5 2 false := ⟨by decide, by decide +kernel, rfl, zk_mem 35 (by decide +kernel) (by decide +kernel)⟩
theorem fk_X5_25 : zk_FL "NamedNext$Text" 25 5 2 false := ⟨by decide, by decide +kernel, rfl, zk_mem 36 (by decide +kernel) (by decide +kernel)⟩
theorem fk_X5_19 : zk_FL "NamedNext$Text" 19 5 3 false := ⟨by decide, by decide +kernel, rfl, zk_mem 37 (by decide +kernel) (by decide +kernel)⟩
theorem fk_X6_27 : zk_FL "NamedNext$Told" 27 6 0 false := ⟨by decide, by decide +kernel, rfl, zk_mem 54 (by decide +kernel) (by decide +kernel)⟩
theorem fk_X3_65 : zk_FL "NamedNext$Rows" 65 6 0 false := ⟨by decide, by decide +kernel, rfl, zk_mem 55 (by decide +kernel) (by decide +kernel)⟩
theorem fk_X0_95 : zk_FL "NamedNext$Clauses" 95 6 0 false := ⟨by decide, by decide +kernel, rfl, zk_mem 56 (by decide +kernel) (by decide +kernel)⟩
theorem fk_X7_229 : zk_FL "NamedNext" 229 6 0 false := ⟨by decide, by decide +kernel, rfl, zk_mem 57 (by decide +kernel) (by decide +kernel)⟩
theorem fk_X1_25 : zk_FL "NamedNext$Days" 25 6 1 false := ⟨by decide, by decide +kernel, rfl, zk_mem 58 (by decide +kernel) (by decide +kernel)⟩
theorem fk_X6_31 : zk_FL "NamedNext$Told" 31 6 1 false := ⟨by decide, by decide +kernel, rfl, zk_mem 59 (by decide +kernel) (by decide +kernel)⟩
theorem fk_X0_113 : zk_FL "NamedNext$Clauses" 113 6 1 false := ⟨by decide, by decide +kernel, rfl, zk_mem 60 (by decide +kernel) (by decide +kernel)⟩
theorem fk_X7_232 : zk_FL "NamedNext" 232 6 1 false := ⟨by decide, by decide +kernel, rfl, zk_mem 61 (by decide +kernel) (by decide +kernel)⟩
theorem fk_X6_9 : zk_FL "NamedNext$Told" 9 6 2 true := ⟨by decide, by decide +kernel, rfl, zk_mem 62 (by decide +kernel) (by decide +kernel)⟩
theorem fk_X7_113 : zk_FL "NamedNext" 113 6 2 true := ⟨by decide, by decide +kernel, rfl, zk_mem 63 (by decide +kernel) (by decide +kernel)⟩
theorem fk_X6_15 : zk_FL "NamedNext$Told" 15 6 3 true := ⟨by decide, by decide +kernel, rfl, zk_mem 64 (by decide +kernel) (by decide +kernel)⟩
theorem fk_X7_116 : zk_FL "NamedNext" 116 6 3 true := ⟨by decide, by decide +kernel, rfl, zk_mem 65 (by decide +kernel) (by decide +kernel)⟩
theorem fk_X3_145 : zk_FL "NamedNext$Rows" 145 6 3 true := ⟨by decide, by decide +kernel, rfl, zk_mem 66 (by decide +kernel) (by decide +kernel)⟩
theorem fk_X6_18 : zk_FL "NamedNext$Told" 18 6 4 true := ⟨by decide, by decide +kernel, rfl, zk_mem 67 (by decide +kernel) (by decide +kernel)⟩
theorem fk_X7_119 : zk_FL "NamedNext" 119 6 4 true := ⟨by decide, by decide +kernel, rfl, zk_mem 68 (by decide +kernel) (by decide +kernel)⟩
theorem fk_X6_21 : zk_FL "NamedNext$Told" 21 6 5 true := ⟨by decide, by decide +kernel, rfl, zk_mem 69 (by decide +kernel) (by decide +kernel)⟩
theorem fk_X7_122 : zk_FL "NamedNext" 122 6 5 true := ⟨by decide, by decide +kernel, rfl, zk_mem 70 (by decide +kernel) (by decide +kernel)⟩
theorem fk_X0_109 : zk_FL "NamedNext$Clauses" 109 6 5 true := ⟨by decide, by decide +kernel, rfl, zk_mem 71 (by decide +kernel) (by decide +kernel)⟩
theorem fk_X6_24 : zk_FL "NamedNext$Told" 24 6 6 true := ⟨by decide, by decide +kernel, rfl, zk_mem 72 (by decide +kernel) (by decide +kernel)⟩
theorem fk_X1_30 : zk_FL "NamedNext$Days" 30 6 6 true := ⟨by decide, by decide +kernel, rfl, zk_mem 73 (by decide +kernel) (by decide +kernel)⟩
theorem fk_X7_150 : zk_FL "NamedNext" 150 6 6 true := ⟨by decide, by decide +kernel, rfl, zk_mem 74 (by decide +kernel) (by decide +kernel)⟩
theorem fk_X0_12 : zk_FL "NamedNext$Clauses" 12 0 0 true := ⟨by decide, by decide +kernel, rfl, zk_mem 99 (by decide +kernel) (by decide +kernel)⟩
theorem fk_X7_88 : zk_FL "NamedNext" 88 0 0 true := ⟨by decide, by decide +kernel, rfl, zk_mem 100 (by decide +kernel) (by decide +kernel)⟩
theorem fk_X0_26 : zk_FL "NamedNext$Clauses" 26 0 1 false := ⟨by decide, by decide +kernel, rfl, zk_mem 101 (by decide +kernel) (by decide +kernel)⟩
theorem fk_X7_106 : zk_FL "NamedNext" 106 0 1 false := ⟨by decide, by decide +kernel, rfl, zk_mem 102 (by decide +kernel) (by decide +kernel)⟩
theorem fk_X0_18 : zk_FL "NamedNext$Clauses" 18 0 2 true := ⟨by decide, by decide +kernel, rfl, zk_mem 103 (by decide +kernel) (by decide +kernel)⟩
theorem fk_X1_21 : zk_FL "NamedNext$Days" 21 1 0 false := ⟨by decide, by decide +kernel, rfl, zk_mem 117 (by decide +kernel) (by decide +kernel)⟩
theorem fk_X7_141 : zk_FL "NamedNext" 141 1 0 false := ⟨by decide, by decide +kernel, rfl, zk_mem 118 (by decide +kernel) (by decide +kernel)⟩
theorem fk_X3_117 : zk_FL "NamedNext$Rows" 117 1 0 false := ⟨by decide, by decide +kernel, rfl, zk_mem 119 (by decide +kernel) (by decide +kernel)⟩
theorem fk_X1_9 : zk_FL "NamedNext$Days" 9 1 1 true := ⟨by decide, by decide +kernel, rfl, zk_mem 120 (by decide +kernel) (by decide +kernel)⟩
theorem fk_X7_135 : zk_FL "NamedNext" 135 1 1 true := ⟨by decide, by decide +kernel, rfl, zk_mem 121 (by decide +kernel) (by decide +kernel)⟩
theorem fk_X3_114 : zk_FL "NamedNext$Rows" 114 1 1 true := ⟨by decide, by decide +kernel, rfl, zk_mem 122 (by decide +kernel) (by decide +kernel)⟩
theorem fk_X1_15 : zk_FL "NamedNext$Days" 15 1 2 true := ⟨by decide, by decide +kernel, rfl, zk_mem 123 (by decide +kernel) (by decide +kernel)⟩
theorem fk_X7_138 : zk_FL "NamedNext" 138 1 2 true := ⟨by decide, by decide +kernel, rfl, zk_mem 124 (by decide +kernel) (by decide +kernel)⟩
theorem fk_X3_109 : zk_FL "NamedNext$Rows" 109 1 2 true := ⟨by decide, by decide +kernel, rfl, zk_mem 125 (by decide +kernel) (by decide +kernel)⟩
theorem fk_X1_18 : zk_FL "NamedNext$Days" 18 1 3 true := ⟨by decide, by decide +kernel, rfl, zk_mem 126 (by decide +kernel) (by decide +kernel)⟩
theorem fk_X7_144 : zk_FL "NamedNext" 144 1 3 true := ⟨by decide, by decide +kernel, rfl, zk_mem 127 (by decide +kernel) (by decide +kernel)⟩
theorem fk_X2_18 : zk_FL "NamedNext$Past" 18 2 0 false := ⟨by decide, by decide +kernel, rfl, zk_mem 146 (by decide +kernel) (by decide +kernel)⟩
theorem fk_X7_180 : zk_FL "NamedNext" 180 2 0 false := ⟨by decide, by decide +kernel, rfl, zk_mem 147 (by decide +kernel) (by decide +kernel)⟩
theorem fk_X2_22 : zk_FL "NamedNext$Past" 22 2 1 false := ⟨by decide, by decide +kernel, rfl, zk_mem 148 (by decide +kernel) (by decide +kernel)⟩
theorem fk_X2_11 : zk_FL "NamedNext$Past" 11 2 2 true := ⟨by decide, by decide +kernel, rfl, zk_mem 149 (by decide +kernel) (by decide +kernel)⟩
theorem fk_X3_148 : zk_FL "NamedNext$Rows" 148 3 0 false := ⟨by decide, by decide +kernel, rfl, zk_mem 163 (by decide +kernel) (by decide +kernel)⟩
theorem fk_X7_206 : zk_FL "NamedNext" 206 3 0 false := ⟨by decide, by decide +kernel, rfl, zk_mem 164 (by decide +kernel) (by decide +kernel)⟩
theorem fk_X3_31 : zk_FL "NamedNext$Rows" 31 3 1 true := ⟨by decide, by decide +kernel, rfl, zk_mem 165 (by decide +kernel) (by decide +kernel)⟩
theorem fk_X3_9 : zk_FL "NamedNext$Rows" 9 3 2 true := ⟨by decide, by decide +kernel, rfl, zk_mem 166 (by decide +kernel) (by decide +kernel)⟩
theorem fk_X3_15 : zk_FL "NamedNext$Rows" 15 3 3 true := ⟨by decide, by decide +kernel, rfl, zk_mem 167 (by decide +kernel) (by decide +kernel)⟩
theorem fk_X3_18 : zk_FL "NamedNext$Rows" 18 3 4 true := ⟨by decide, by decide +kernel, rfl, zk_mem 168 (by decide +kernel) (by decide +kernel)⟩
theorem fk_X3_21 : zk_FL "NamedNext$Rows" 21 3 5 true := ⟨by decide, by decide +kernel, rfl, zk_mem 169 (by decide +kernel) (by decide +kernel)⟩
theorem fk_X3_24 : zk_FL "NamedNext$Rows" 24 3 6 true := ⟨by decide, by decide +kernel, rfl, zk_mem 170 (by decide +kernel) (by decide +kernel)⟩
theorem fk_X3_28 : zk_FL "NamedNext$Rows" 28 3 7 true := ⟨by decide, by decide +kernel, rfl, zk_mem 171 (by decide +kernel) (by decide +kernel)⟩
theorem fk_X3_43 : zk_FL "NamedNext$Rows" 43 3 8 false := ⟨by decide, by decide +kernel, rfl, zk_mem 172 (by decide +kernel) (by decide +kernel)⟩
theorem fk_X3_47 : zk_FL "NamedNext$Rows" 47 3 9 false := ⟨by decide, by decide +kernel, rfl, zk_mem 173 (by decide +kernel) (by decide +kernel)⟩
theorem fk_X4_21 : zk_FL "NamedNext$Slips" 21 4 0 false := ⟨by decide, by decide +kernel, rfl, zk_mem 202 (by decide +kernel) (by decide +kernel)⟩
theorem fk_X7_103 : zk_FL "NamedNext" 103 4 0 false := ⟨by decide, by decide +kernel, rfl, zk_mem 203 (by decide +kernel) (by decide +kernel)⟩
theorem fk_X4_9 : zk_FL "NamedNext$Slips" 9 4 1 true := ⟨by decide, by decide +kernel, rfl, zk_mem 204 (by decide +kernel) (by decide +kernel)⟩
theorem fk_X4_15 : zk_FL "NamedNext$Slips" 15 4 2 true := ⟨by decide, by decide +kernel, rfl, zk_mem 205 (by decide +kernel) (by decide +kernel)⟩
theorem fk_X4_18 : zk_FL "NamedNext$Slips" 18 4 3 true := ⟨by decide, by decide +kernel, rfl, zk_mem 206 (by decide +kernel) (by decide +kernel)⟩
theorem fk_X7_10 : zk_FL "NamedNext" 10 7 0 true := ⟨by decide, by decide +kernel, rfl, zk_mem 216 (by decide +kernel) (by decide +kernel)⟩
theorem fk_X7_19 : zk_FL "NamedNext" 19 7 1 true := ⟨by decide, by decide +kernel, rfl, zk_mem 217 (by decide +kernel) (by decide +kernel)⟩
theorem fk_X7_28 : zk_FL "NamedNext" 28 7 2 true := ⟨by decide, by decide +kernel, rfl, zk_mem 218 (by decide +kernel) (by decide +kernel)⟩
theorem fk_X7_35 : zk_FL "NamedNext" 35 7 3 true := ⟨by decide, by decide +kernel, rfl, zk_mem 219 (by decide +kernel) (by decide +kernel)⟩
theorem fk_X7_42 : zk_FL "NamedNext" 42 7 4 true := ⟨by decide, by decide +kernel, rfl, zk_mem 220 (by decide +kernel) (by decide +kernel)⟩
theorem fk_X7_46 : zk_FL "NamedNext" 46 7 5 true := ⟨by decide, by decide +kernel, rfl, zk_mem 221 (by decide +kernel) (by decide +kernel)⟩
theorem fk_X7_100 : zk_FL "NamedNext" 100 7 6 false := ⟨by decide, by decide +kernel, rfl, zk_mem 222 (by decide +kernel) (by decide +kernel)⟩
theorem fk_X7_55 : zk_FL "NamedNext" 55 7 7 true := ⟨by decide, by decide +kernel, rfl, zk_mem 223 (by decide +kernel) (by decide +kernel)⟩
theorem fk_X7_59 : zk_FL "NamedNext" 59 7 8 true := ⟨by decide, by decide +kernel, rfl, zk_mem 224 (by decide +kernel) (by decide +kernel)⟩
theorem fk_X7_63 : zk_FL "NamedNext" 63 7 9 true := ⟨by decide, by decide +kernel, rfl, zk_mem 225 (by decide +kernel) (by decide +kernel)⟩
theorem fk_X7_69 : zk_FL "NamedNext" 69 7 10 true := ⟨by decide, by decide +kernel, rfl, zk_mem 226 (by decide +kernel) (by decide +kernel)⟩
theorem fk_X8_7 : zk_FL "NamedNextModel" 7 8 0 true := ⟨by decide, by decide +kernel, rfl, zk_mem 759 (by decide +kernel) (by decide +kernel)⟩
theorem fk_X8_67 : zk_FL "NamedNextModel" 67 8 1 false := ⟨by decide, by decide +kernel, rfl, zk_mem 760 (by decide +kernel) (by decide +kernel)⟩
theorem fk_X8_13 : zk_FL "NamedNextModel" 13 8 2 true := ⟨by decide, by decide +kernel, rfl, zk_mem 761 (by decide +kernel) (by decide +kernel)⟩
theorem fk_X8_16 : zk_FL "NamedNextModel" 16 8 3 true := ⟨by decide, by decide +kernel, rfl, zk_mem 762 (by decide +kernel) (by decide +kernel)⟩
theorem fk_X8_19 : zk_FL "NamedNextModel" 19 8 4 true := ⟨by decide, by decide +kernel, rfl, zk_mem 763 (by decide +kernel) (by decide +kernel)⟩
theorem fk_X8_22 : zk_FL "NamedNextModel" 22 8 5 true := ⟨by decide, by decide +kernel, rfl, zk_mem 764 (by decide +kernel) (by decide +kernel)⟩
theorem fk_X8_130 : zk_FL "NamedNextModel" 130 8 6 false := ⟨by decide, by decide +kernel, rfl, zk_mem 765 (by decide +kernel) (by decide +kernel)⟩
theorem fk_X8_25 : zk_FL "NamedNextModel" 25 8 7 true := ⟨by decide, by decide +kernel, rfl, zk_mem 766 (by decide +kernel) (by decide +kernel)⟩
theorem fk_X8_28 : zk_FL "NamedNextModel" 28 8 8 true := ⟨by decide, by decide +kernel, rfl, zk_mem 767 (by decide +kernel) (by decide +kernel)⟩
theorem fk_X8_32 : zk_FL "NamedNextModel" 32 8 9 true := ⟨by decide, by decide +kernel, rfl, zk_mem 768 (by decide +kernel) (by decide +kernel)⟩
theorem fk_X8_133 : zk_FL "NamedNextModel" 133 8 10 false := ⟨by decide, by decide +kernel, rfl, zk_mem 769 (by decide +kernel) (by decide +kernel)⟩
theorem fk_X8_88 : zk_FL "NamedNextModel" 88 8 11 false := ⟨by decide, by decide +kernel, rfl, zk_mem 770 (by decide +kernel) (by decide +kernel)⟩
theorem fk_X8_78 : zk_FL "NamedNextModel" 78 8 12 false := ⟨by decide, by decide +kernel, rfl, zk_mem 771 (by decide +kernel) (by decide +kernel)⟩
theorem fk_X8_71 : zk_FL "NamedNextModel" 71 8 13 false := ⟨by decide, by decide +kernel, rfl, zk_mem 772 (by decide +kernel) (by decide +kernel)⟩
theorem fk_X8_91 : zk_FL "NamedNextModel" 91 8 14 false := ⟨by decide, by decide +kernel, rfl, zk_mem 773 (by decide +kernel) (by decide +kernel)⟩
theorem fk_X8_35 : zk_FL "NamedNextModel" 35 8 15 true := ⟨by decide, by decide +kernel, rfl, zk_mem 774 (by decide +kernel) (by decide +kernel)⟩
theorem fk_X8_38 : zk_FL "NamedNextModel" 38 8 16 true := ⟨by decide, by decide +kernel, rfl, zk_mem 775 (by decide +kernel) (by decide +kernel)⟩
theorem fk_X8_41 : zk_FL "NamedNextModel" 41 8 17 true := ⟨by decide, by decide +kernel, rfl, zk_mem 776 (by decide +kernel) (by decide +kernel)⟩
theorem fk_X8_44 : zk_FL "NamedNextModel" 44 8 18 true := ⟨by decide, by decide +kernel, rfl, zk_mem 777 (by decide +kernel) (by decide +kernel)⟩
theorem fk_X8_47 : zk_FL "NamedNextModel" 47 8 19 true := ⟨by decide, by decide +kernel, rfl, zk_mem 778 (by decide +kernel) (by decide +kernel)⟩
theorem fk_X8_50 : zk_FL "NamedNextModel" 50 8 20 true := ⟨by decide, by decide +kernel, rfl, zk_mem 779 (by decide +kernel) (by decide +kernel)⟩
theorem fk_X8_53 : zk_FL "NamedNextModel" 53 8 21 true := ⟨by decide, by decide +kernel, rfl, zk_mem 780 (by decide +kernel) (by decide +kernel)⟩
theorem fk_X8_56 : zk_FL "NamedNextModel" 56 8 22 true := ⟨by decide, by decide +kernel, rfl, zk_mem 781 (by decide +kernel) (by decide +kernel)⟩
theorem fk_X8_60 : zk_FL "NamedNextModel" 60 8 23 true := ⟨by decide, by decide +kernel, rfl, zk_mem 782 (by decide +kernel) (by decide +kernel)⟩
theorem nk_L_7 : zk_LN "NamedNextLaw" 7 7 := ⟨by decide, zk_mem 18 (by decide +kernel) (by decide +kernel), zk_mem 19 (by decide +kernel) (by decide +kernel), zk_mem 1 (by decide +kernel) (by decide +kernel)⟩
theorem nk_X7_7 : zk_LN "NamedNext" 7 5 := ⟨by decide, zk_mem 26 (by decide +kernel) (by decide +kernel), zk_mem 27 (by decide +kernel) (by decide +kernel), zk_mem 2 (by decide +kernel) (by decide +kernel)⟩
theorem nk_X7_16 : zk_LN "NamedNext" 16 6 := ⟨by decide, zk_mem 48 (by decide +kernel) (by decide +kernel), zk_mem 49 (by decide +kernel) (by decide +kernel), zk_mem 3 (by decide +kernel) (by decide +kernel)⟩
theorem nk_X7_23 : zk_LN "NamedNext" 23 0 := ⟨by decide, zk_mem 91 (by decide +kernel) (by decide +kernel), zk_mem 92 (by decide +kernel) (by decide +kernel), zk_mem 4 (by decide +kernel) (by decide +kernel)⟩
theorem nk_X0_9 : zk_LN "NamedNext$Clauses" 9 6 := ⟨by decide, zk_mem 97 (by decide +kernel) (by decide +kernel), zk_mem 49 (by decide +kernel) (by decide +kernel), zk_mem 3 (by decide +kernel) (by decide +kernel)⟩
theorem nk_X7_32 : zk_LN "NamedNext" 32 1 := ⟨by decide, zk_mem 111 (by decide +kernel) (by decide +kernel), zk_mem 112 (by decide +kernel) (by decide +kernel), zk_mem 5 (by decide +kernel) (by decide +kernel)⟩
theorem nk_X7_39 : zk_LN "NamedNext" 39 2 := ⟨by decide, zk_mem 137 (by decide +kernel) (by decide +kernel), zk_mem 138 (by decide +kernel) (by decide +kernel), zk_mem 6 (by decide +kernel) (by decide +kernel)⟩
theorem nk_X2_9 : zk_LN "NamedNext$Past" 9 1 := ⟨by decide, zk_mem 143 (by decide +kernel) (by decide +kernel), zk_mem 112 (by decide +kernel) (by decide +kernel), zk_mem 5 (by decide +kernel) (by decide +kernel)⟩
theorem nk_X7_50 : zk_LN "NamedNext" 50 3 := ⟨by decide, zk_mem 157 (by decide +kernel) (by decide +kernel), zk_mem 158 (by decide +kernel) (by decide +kernel), zk_mem 7 (by decide +kernel) (by decide +kernel)⟩
theorem nk_X7_66 : zk_LN "NamedNext" 66 4 := ⟨by decide, zk_mem 196 (by decide +kernel) (by decide +kernel), zk_mem 197 (by decide +kernel) (by decide +kernel), zk_mem 8 (by decide +kernel) (by decide +kernel)⟩
theorem nk_L_10 : zk_LN "NamedNextLaw" 10 8 := ⟨by decide, zk_mem 753 (by decide +kernel) (by decide +kernel), zk_mem 754 (by decide +kernel) (by decide +kernel), zk_mem 9 (by decide +kernel) (by decide +kernel)⟩
theorem vi_m1 : Int32.ofInt (-1) = (-1 : Int32) := by decide
theorem vi_0 : Int32.ofInt (0) = (0 : Int32) := by decide
theorem vi_1 : Int32.ofInt (1) = (1 : Int32) := by decide
theorem vi_2 : Int32.ofInt (2) = (2 : Int32) := by decide
theorem vi_3 : Int32.ofInt (3) = (3 : Int32) := by decide
theorem vi_4 : Int32.ofInt (4) = (4 : Int32) := by decide
theorem vi_5 : Int32.ofInt (5) = (5 : Int32) := by decide
theorem vi_8 : Int32.ofInt (8) = (8 : Int32) := by decide
theorem vb_m5 : (Int8.ofInt (-5)).toInt32 = (-5 : Int32) := by decide
theorem vb_m4 : (Int8.ofInt (-4)).toInt32 = (-4 : Int32) := by decide
theorem vb_m3 : (Int8.ofInt (-3)).toInt32 = (-3 : Int32) := by decide
theorem vb_m2 : (Int8.ofInt (-2)).toInt32 = (-2 : Int32) := by decide
theorem vb_6 : (Int8.ofInt (6)).toInt32 = (6 : Int32) := by decide
theorem vb_7 : (Int8.ofInt (7)).toInt32 = (7 : Int32) := by decide
theorem vb_8 : (Int8.ofInt (8)).toInt32 = (8 : Int32) := by decide
theorem vb_9 : (Int8.ofInt (9)).toInt32 = (9 : Int32) := by decide
theorem vb_10 : (Int8.ofInt (10)).toInt32 = (10 : Int32) := by decide
theorem vb_14 : (Int8.ofInt (14)).toInt32 = (14 : Int32) := by decide
theorem vb_16 : (Int8.ofInt (16)).toInt32 = (16 : Int32) := by decide
theorem vb_18 : (Int8.ofInt (18)).toInt32 = (18 : Int32) := by decide
theorem vb_26 : (Int8.ofInt (26)).toInt32 = (26 : Int32) := by decide
theorem vb_28 : (Int8.ofInt (28)).toInt32 = (28 : Int32) := by decide
theorem vb_31 : (Int8.ofInt (31)).toInt32 = (31 : Int32) := by decide
theorem vb_32 : (Int8.ofInt (32)).toInt32 = (32 : Int32) := by decide
theorem vb_34 : (Int8.ofInt (34)).toInt32 = (34 : Int32) := by decide
theorem vb_38 : (Int8.ofInt (38)).toInt32 = (38 : Int32) := by decide
theorem vb_48 : (Int8.ofInt (48)).toInt32 = (48 : Int32) := by decide
theorem vb_57 : (Int8.ofInt (57)).toInt32 = (57 : Int32) := by decide
theorem vb_59 : (Int8.ofInt (59)).toInt32 = (59 : Int32) := by decide
theorem vb_63 : (Int8.ofInt (63)).toInt32 = (63 : Int32) := by decide
theorem vb_97 : (Int8.ofInt (97)).toInt32 = (97 : Int32) := by decide
theorem vb_98 : (Int8.ofInt (98)).toInt32 = (98 : Int32) := by decide
theorem vb_99 : (Int8.ofInt (99)).toInt32 = (99 : Int32) := by decide
theorem vb_100 : (Int8.ofInt (100)).toInt32 = (100 : Int32) := by decide
theorem vb_101 : (Int8.ofInt (101)).toInt32 = (101 : Int32) := by decide
theorem vb_102 : (Int8.ofInt (102)).toInt32 = (102 : Int32) := by decide
theorem vb_105 : (Int8.ofInt (105)).toInt32 = (105 : Int32) := by decide
theorem vb_107 : (Int8.ofInt (107)).toInt32 = (107 : Int32) := by decide
theorem vb_108 : (Int8.ofInt (108)).toInt32 = (108 : Int32) := by decide
theorem vb_109 : (Int8.ofInt (109)).toInt32 = (109 : Int32) := by decide
theorem vb_110 : (Int8.ofInt (110)).toInt32 = (110 : Int32) := by decide
theorem vb_111 : (Int8.ofInt (111)).toInt32 = (111 : Int32) := by decide
theorem vb_112 : (Int8.ofInt (112)).toInt32 = (112 : Int32) := by decide
theorem vb_114 : (Int8.ofInt (114)).toInt32 = (114 : Int32) := by decide
theorem vb_115 : (Int8.ofInt (115)).toInt32 = (115 : Int32) := by decide
theorem vb_116 : (Int8.ofInt (116)).toInt32 = (116 : Int32) := by decide
theorem vb_117 : (Int8.ofInt (117)).toInt32 = (117 : Int32) := by decide
theorem vb_118 : (Int8.ofInt (118)).toInt32 = (118 : Int32) := by decide
theorem vb_121 : (Int8.ofInt (121)).toInt32 = (121 : Int32) := by decide
theorem vb_122 : (Int8.ofInt (122)).toInt32 = (122 : Int32) := by decide
theorem vs_160 : (Int16.ofInt (160)).toInt32 = (160 : Int32) := by decide
theorem vs_255 : (Int16.ofInt (255)).toInt32 = (255 : Int32) := by decide
theorem vs_256 : (Int16.ofInt (256)).toInt32 = (256 : Int32) := by decide
theorem vs_999 : (Int16.ofInt (999)).toInt32 = (999 : Int32) := by decide
theorem vs_2048 : (Int16.ofInt (2048)).toInt32 = (2048 : Int32) := by decide
theorem vl_0 : Int64.ofNat ((0 : Fin 2) : Nat) = (0 : Int64) := by decide
theorem vl_1 : Int64.ofNat ((1 : Fin 2) : Nat) = (1 : Int64) := by decide
theorem vc_J6_265 : Cond.constant "java/lang/Integer" 265 (1431655765 : Int32) ∈ zk_tbl := zk_mem 513 (by decide +kernel) (by decide +kernel)
theorem vc_J6_266 : Cond.constant "java/lang/Integer" 266 (858993459 : Int32) ∈ zk_tbl := zk_mem 514 (by decide +kernel) (by decide +kernel)
theorem vc_J6_267 : Cond.constant "java/lang/Integer" 267 (252645135 : Int32) ∈ zk_tbl := zk_mem 515 (by decide +kernel) (by decide +kernel)
theorem vc_X3_126 : Cond.constantLong "NamedNext$Rows" 126 (-1 : Int64) ∈ zk_tbl := zk_mem 587 (by decide +kernel) (by decide +kernel)
theorem vc_X7_194 : Cond.constantLong "NamedNext" 194 (-2 : Int64) ∈ zk_tbl := zk_mem 645 (by decide +kernel) (by decide +kernel)
theorem vc_X7_196 : Cond.constantLong "NamedNext" 196 (-3 : Int64) ∈ zk_tbl := zk_mem 646 (by decide +kernel) (by decide +kernel)
theorem vc_X8_171 : Cond.constantLong "NamedNextModel" 171 (-2 : Int64) ∈ zk_tbl := zk_mem 1009 (by decide +kernel) (by decide +kernel)
theorem vc_X8_173 : Cond.constantLong "NamedNextModel" 173 (-3 : Int64) ∈ zk_tbl := zk_mem 1010 (by decide +kernel) (by decide +kernel)
theorem vc_X8_169 : Cond.constantLong "NamedNextModel" 169 (217728000 : Int64) ∈ zk_tbl := zk_mem 1015 (by decide +kernel) (by decide +kernel)
theorem lk_X7_1 : Cond.methodLink "NamedNext" 1 Lib.objectInit ∈ zk_tbl := zk_mem 23 (by decide +kernel) (by decide +kernel)
theorem lk_X5_3 : Cond.methodLink "NamedNext$Text" 3 Lib.objectInit ∈ zk_tbl := zk_mem 31 (by decide +kernel) (by decide +kernel)
theorem lk_X6_3 : Cond.methodLink "NamedNext$Told" 3 Lib.objectInit ∈ zk_tbl := zk_mem 53 (by decide +kernel) (by decide +kernel)
theorem lk_X0_3 : Cond.methodLink "NamedNext$Clauses" 3 Lib.objectInit ∈ zk_tbl := zk_mem 96 (by decide +kernel) (by decide +kernel)
theorem lk_X1_3 : Cond.methodLink "NamedNext$Days" 3 Lib.objectInit ∈ zk_tbl := zk_mem 116 (by decide +kernel) (by decide +kernel)
theorem lk_X2_3 : Cond.methodLink "NamedNext$Past" 3 Lib.objectInit ∈ zk_tbl := zk_mem 142 (by decide +kernel) (by decide +kernel)
theorem lk_X3_3 : Cond.methodLink "NamedNext$Rows" 3 Lib.objectInit ∈ zk_tbl := zk_mem 162 (by decide +kernel) (by decide +kernel)
theorem lk_X4_3 : Cond.methodLink "NamedNext$Slips" 3 Lib.objectInit ∈ zk_tbl := zk_mem 201 (by decide +kernel) (by decide +kernel)
theorem lk_X6_34 : Cond.methodLink "NamedNext$Told" 34 arraycopyName ∈ zk_tbl := zk_mem 278 (by decide +kernel) (by decide +kernel)
theorem lk_X1_33 : Cond.methodLink "NamedNext$Days" 33 arraycopyName ∈ zk_tbl := zk_mem 502 (by decide +kernel) (by decide +kernel)
theorem lk_X8_1 : Cond.methodLink "NamedNextModel" 1 Lib.objectInit ∈ zk_tbl := zk_mem 758 (by decide +kernel) (by decide +kernel)
theorem lk_ac1 : Cond.native arraycopyName ∈ zk_tbl := zk_mem 280 (by decide +kernel) (by decide +kernel)
theorem lk_ac2 : Cond.static arraycopyName ∈ zk_tbl := zk_mem 279 (by decide +kernel) (by decide +kernel)
theorem lk_ac3 : Cond.initialized "java/lang/System" ∈ zk_tbl := zk_mem 10 (by decide +kernel) (by decide +kernel)
theorem lk_oi1 : Cond.instanceMethod Lib.objectInit ∈ zk_tbl := zk_mem 24 (by decide +kernel) (by decide +kernel)
theorem lk_oi2 : Cond.code Lib.objectInit ⟨#[0xb1]⟩ 1 none ∈ zk_tbl := zk_mem 25 (by decide +kernel) (by decide +kernel)
theorem fk_J0_38 : Cond.fieldLink "java/lang/String" 38 "java/lang/String" "COMPACT_STRINGS" "Z" ∈ zk_tbl := zk_mem 313 (by decide +kernel) (by decide +kernel)
theorem fk_J0_1053 : Cond.fieldLink "java/lang/String" 1053 "jdk/internal/util/Preconditions" "SIOOBE_FORMATTER" "Ljava/util/function/BiFunction;" ∈ zk_tbl := zk_mem 329 (by decide +kernel) (by decide +kernel)
theorem fk_X7_153 : Cond.fieldLink "NamedNext" 153 "NamedNext" "WHAT_HE_IS" "[I" ∈ zk_tbl := zk_mem 484 (by decide +kernel) (by decide +kernel)
theorem fk_X3_160 : Cond.fieldLink "NamedNext$Rows" 160 "NamedNext$Rows" "LOTS" "[J" ∈ zk_tbl := zk_mem 599 (by decide +kernel) (by decide +kernel)
theorem fk_J0_9 : Cond.fieldLink "java/lang/String" 9 "java/lang/String" "value" "[B" ∈ zk_tbl := zk_mem 1067 (by decide +kernel) (by decide +kernel)
theorem fk_J0_15 : Cond.fieldLink "java/lang/String" 15 "java/lang/String" "coder" "B" ∈ zk_tbl := zk_mem 1068 (by decide +kernel) (by decide +kernel)
theorem lk_aint : Cond.arrayClass .int ∈ zk_tbl := zk_mem 90 (by decide +kernel) (by decide +kernel)
theorem lk_along : Cond.arrayClass .long ∈ zk_tbl := zk_mem 195 (by decide +kernel) (by decide +kernel)
theorem lk_aboolean : Cond.arrayClass .boolean ∈ zk_tbl := zk_mem 832 (by decide +kernel) (by decide +kernel)
theorem lk_achar : Cond.arrayClass .char ∈ zk_tbl := zk_mem 47 (by decide +kernel) (by decide +kernel)
end
