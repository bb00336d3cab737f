section
-- ===== PART A: goes FIRST, ahead of the names: the tables' words, and 'selects' of the private methods out of them =====
/-- a private method of a class that the tables say can be made, by its rows of tables_1 -/
def lw_okq (q : MethodName × Nat) : Prop := (q.1.cls ≠ "java/lang/invoke/MethodHandle" ∧ q.1.cls ≠ "java/lang/invoke/VarHandle") ∧ Cond.instantiable q.1.cls q.2 ∈ tables_1 ∧ Cond.privateMethod q.1 ∈ tables_1 ∧ Cond.instanceMethod q.1 ∈ tables_1
theorem lw_p0 : lw_okq (⟨"CoderTables", "emptyPairs", "()V"⟩, 14) := ⟨⟨by decide +kernel, by decide +kernel⟩, List.mem_of_getElem? (i := 15) (by decide +kernel), List.mem_of_getElem? (i := 101) (by decide +kernel), List.mem_of_getElem? (i := 102) (by decide +kernel)⟩
theorem lw_p1 : lw_okq (⟨"CoderTables$Numbers", "start", "(J)V"⟩, 1) := ⟨⟨by decide +kernel, by decide +kernel⟩, List.mem_of_getElem? (i := 23) (by decide +kernel), List.mem_of_getElem? (i := 105) (by decide +kernel), List.mem_of_getElem? (i := 106) (by decide +kernel)⟩
theorem lw_p2 : lw_okq (⟨"CoderTables", "fillPair", "(I)I"⟩, 14) := ⟨⟨by decide +kernel, by decide +kernel⟩, List.mem_of_getElem? (i := 15) (by decide +kernel), List.mem_of_getElem? (i := 109) (by decide +kernel), List.mem_of_getElem? (i := 110) (by decide +kernel)⟩
theorem lw_p3 : lw_okq (⟨"CoderTables$Numbers", "below", "(I)I"⟩, 1) := ⟨⟨by decide +kernel, by decide +kernel⟩, List.mem_of_getElem? (i := 23) (by decide +kernel), List.mem_of_getElem? (i := 113) (by decide +kernel), List.mem_of_getElem? (i := 114) (by decide +kernel)⟩
theorem lw_p4 : lw_okq (⟨"CoderTables", "markFailed", "(I)V"⟩, 14) := ⟨⟨by decide +kernel, by decide +kernel⟩, List.mem_of_getElem? (i := 15) (by decide +kernel), List.mem_of_getElem? (i := 119) (by decide +kernel), List.mem_of_getElem? (i := 120) (by decide +kernel)⟩
theorem lw_p5 : lw_okq (⟨"CoderTables", "addPoint", "(III)V"⟩, 14) := ⟨⟨by decide +kernel, by decide +kernel⟩, List.mem_of_getElem? (i := 15) (by decide +kernel), List.mem_of_getElem? (i := 123) (by decide +kernel), List.mem_of_getElem? (i := 124) (by decide +kernel)⟩
theorem lw_p6 : lw_okq (⟨"CoderTables$Lines", "start", "()V"⟩, 2) := ⟨⟨by decide +kernel, by decide +kernel⟩, List.mem_of_getElem? (i := 34) (by decide +kernel), List.mem_of_getElem? (i := 131) (by decide +kernel), List.mem_of_getElem? (i := 132) (by decide +kernel)⟩
theorem lw_p7 : lw_okq (⟨"CoderTables$Lines", "putNumber", "(J)V"⟩, 2) := ⟨⟨by decide +kernel, by decide +kernel⟩, List.mem_of_getElem? (i := 34) (by decide +kernel), List.mem_of_getElem? (i := 135) (by decide +kernel), List.mem_of_getElem? (i := 136) (by decide +kernel)⟩
theorem lw_p8 : lw_okq (⟨"CoderTables$Lines", "put", "(C)V"⟩, 2) := ⟨⟨by decide +kernel, by decide +kernel⟩, List.mem_of_getElem? (i := 34) (by decide +kernel), List.mem_of_getElem? (i := 141) (by decide +kernel), List.mem_of_getElem? (i := 142) (by decide +kernel)⟩
theorem lw_p9 : lw_okq (⟨"CoderTables", "countedOf", "(I)I"⟩, 14) := ⟨⟨by decide +kernel, by decide +kernel⟩, List.mem_of_getElem? (i := 15) (by decide +kernel), List.mem_of_getElem? (i := 146) (by decide +kernel), List.mem_of_getElem? (i := 147) (by decide +kernel)⟩
theorem lw_p10 : lw_okq (⟨"CoderTables", "isCounted", "(I)Z"⟩, 14) := ⟨⟨by decide +kernel, by decide +kernel⟩, List.mem_of_getElem? (i := 15) (by decide +kernel), List.mem_of_getElem? (i := 150) (by decide +kernel), List.mem_of_getElem? (i := 151) (by decide +kernel)⟩
theorem lw_p11 : lw_okq (⟨"CoderTables", "sumOf", "(I)J"⟩, 14) := ⟨⟨by decide +kernel, by decide +kernel⟩, List.mem_of_getElem? (i := 15) (by decide +kernel), List.mem_of_getElem? (i := 154) (by decide +kernel), List.mem_of_getElem? (i := 155) (by decide +kernel)⟩
theorem lw_p12 : lw_okq (⟨"CoderTables", "rankOf", "(I)I"⟩, 14) := ⟨⟨by decide +kernel, by decide +kernel⟩, List.mem_of_getElem? (i := 15) (by decide +kernel), List.mem_of_getElem? (i := 158) (by decide +kernel), List.mem_of_getElem? (i := 159) (by decide +kernel)⟩
theorem lw_p13 : lw_okq (⟨"CoderTables", "allPoints", "()I"⟩, 14) := ⟨⟨by decide +kernel, by decide +kernel⟩, List.mem_of_getElem? (i := 15) (by decide +kernel), List.mem_of_getElem? (i := 169) (by decide +kernel), List.mem_of_getElem? (i := 170) (by decide +kernel)⟩
theorem lw_p14 : lw_okq (⟨"CoderTables", "allCounted", "()I"⟩, 14) := ⟨⟨by decide +kernel, by decide +kernel⟩, List.mem_of_getElem? (i := 15) (by decide +kernel), List.mem_of_getElem? (i := 173) (by decide +kernel), List.mem_of_getElem? (i := 174) (by decide +kernel)⟩
theorem lw_p15 : lw_okq (⟨"java/lang/Throwable", "fillInStackTrace", "(I)Ljava/lang/Throwable;"⟩, 6) := ⟨⟨by decide +kernel, by decide +kernel⟩, List.mem_of_getElem? (i := 228) (by decide +kernel), List.mem_of_getElem? (i := 226) (by decide +kernel), List.mem_of_getElem? (i := 227) (by decide +kernel)⟩
def lw_privs_1 : List (MethodName × Nat) := [(⟨"CoderTables", "emptyPairs", "()V"⟩, 14), (⟨"CoderTables$Numbers", "start", "(J)V"⟩, 1), (⟨"CoderTables", "fillPair", "(I)I"⟩, 14), (⟨"CoderTables$Numbers", "below", "(I)I"⟩, 1), (⟨"CoderTables", "markFailed", "(I)V"⟩, 14), (⟨"CoderTables", "addPoint", "(III)V"⟩, 14), (⟨"CoderTables$Lines", "start", "()V"⟩, 2), (⟨"CoderTables$Lines", "putNumber", "(J)V"⟩, 2), (⟨"CoderTables$Lines", "put", "(C)V"⟩, 2), (⟨"CoderTables", "countedOf", "(I)I"⟩, 14), (⟨"CoderTables", "isCounted", "(I)Z"⟩, 14), (⟨"CoderTables", "sumOf", "(I)J"⟩, 14), (⟨"CoderTables", "rankOf", "(I)I"⟩, 14), (⟨"CoderTables", "allPoints", "()I"⟩, 14), (⟨"CoderTables", "allCounted", "()I"⟩, 14), (⟨"java/lang/Throwable", "fillInStackTrace", "(I)Ljava/lang/Throwable;"⟩, 6)]
theorem lw_r1 : ∀ q ∈ lw_privs_1, lw_okq q := List.forall_mem_cons.mpr ⟨lw_p0, List.forall_mem_cons.mpr ⟨lw_p1, List.forall_mem_cons.mpr ⟨lw_p2, List.forall_mem_cons.mpr ⟨lw_p3, List.forall_mem_cons.mpr ⟨lw_p4, List.forall_mem_cons.mpr ⟨lw_p5, List.forall_mem_cons.mpr ⟨lw_p6, List.forall_mem_cons.mpr ⟨lw_p7, List.forall_mem_cons.mpr ⟨lw_p8, List.forall_mem_cons.mpr ⟨lw_p9, List.forall_mem_cons.mpr ⟨lw_p10, List.forall_mem_cons.mpr ⟨lw_p11, List.forall_mem_cons.mpr ⟨lw_p12, List.forall_mem_cons.mpr ⟨lw_p13, List.forall_mem_cons.mpr ⟨lw_p14, List.forall_mem_cons.mpr ⟨lw_p15, fun _ h => absurd h List.not_mem_nil⟩⟩⟩⟩⟩⟩⟩⟩⟩⟩⟩⟩⟩⟩⟩⟩
theorem lw_p16 : lw_okq (⟨"CoderTables", "pairOf", "(II)I"⟩, 14) := ⟨⟨by decide +kernel, by decide +kernel⟩, List.mem_of_getElem? (i := 15) (by decide +kernel), List.mem_of_getElem? (i := 276) (by decide +kernel), List.mem_of_getElem? (i := 277) (by decide +kernel)⟩
theorem lw_p17 : lw_okq (⟨"CoderTables", "needCoder", "(I)V"⟩, 14) := ⟨⟨by decide +kernel, by decide +kernel⟩, List.mem_of_getElem? (i := 15) (by decide +kernel), List.mem_of_getElem? (i := 280) (by decide +kernel), List.mem_of_getElem? (i := 281) (by decide +kernel)⟩
theorem lw_p18 : lw_okq (⟨"CoderTables", "needPicture", "(I)V"⟩, 14) := ⟨⟨by decide +kernel, by decide +kernel⟩, List.mem_of_getElem? (i := 15) (by decide +kernel), List.mem_of_getElem? (i := 300) (by decide +kernel), List.mem_of_getElem? (i := 301) (by decide +kernel)⟩
theorem lw_p19 : lw_okq (⟨"CoderTables", "leastBytesWithin", "(II)I"⟩, 14) := ⟨⟨by decide +kernel, by decide +kernel⟩, List.mem_of_getElem? (i := 15) (by decide +kernel), List.mem_of_getElem? (i := 365) (by decide +kernel), List.mem_of_getElem? (i := 366) (by decide +kernel)⟩
theorem lw_p20 : lw_okq (⟨"CoderTables", "needCounted", "(I)V"⟩, 14) := ⟨⟨by decide +kernel, by decide +kernel⟩, List.mem_of_getElem? (i := 15) (by decide +kernel), List.mem_of_getElem? (i := 384) (by decide +kernel), List.mem_of_getElem? (i := 385) (by decide +kernel)⟩
theorem lw_p21 : lw_okq (⟨"CoderTables", "layHull", "(I)V"⟩, 14) := ⟨⟨by decide +kernel, by decide +kernel⟩, List.mem_of_getElem? (i := 15) (by decide +kernel), List.mem_of_getElem? (i := 406) (by decide +kernel), List.mem_of_getElem? (i := 407) (by decide +kernel)⟩
theorem lw_p22 : lw_okq (⟨"CoderTables", "firstOfRow", "(I)I"⟩, 14) := ⟨⟨by decide +kernel, by decide +kernel⟩, List.mem_of_getElem? (i := 15) (by decide +kernel), List.mem_of_getElem? (i := 410) (by decide +kernel), List.mem_of_getElem? (i := 411) (by decide +kernel)⟩
theorem lw_p23 : lw_okq (⟨"CoderTables", "isBefore", "(II)Z"⟩, 14) := ⟨⟨by decide +kernel, by decide +kernel⟩, List.mem_of_getElem? (i := 15) (by decide +kernel), List.mem_of_getElem? (i := 414) (by decide +kernel), List.mem_of_getElem? (i := 415) (by decide +kernel)⟩
theorem lw_p24 : lw_okq (⟨"CoderTables", "steepestFrom", "(II)I"⟩, 14) := ⟨⟨by decide +kernel, by decide +kernel⟩, List.mem_of_getElem? (i := 15) (by decide +kernel), List.mem_of_getElem? (i := 418) (by decide +kernel), List.mem_of_getElem? (i := 419) (by decide +kernel)⟩
theorem lw_p25 : lw_okq (⟨"CoderTables", "growthTo", "(II)J"⟩, 14) := ⟨⟨by decide +kernel, by decide +kernel⟩, List.mem_of_getElem? (i := 15) (by decide +kernel), List.mem_of_getElem? (i := 422) (by decide +kernel), List.mem_of_getElem? (i := 423) (by decide +kernel)⟩
theorem lw_p26 : lw_okq (⟨"CoderTables", "fallTo", "(II)J"⟩, 14) := ⟨⟨by decide +kernel, by decide +kernel⟩, List.mem_of_getElem? (i := 15) (by decide +kernel), List.mem_of_getElem? (i := 426) (by decide +kernel), List.mem_of_getElem? (i := 427) (by decide +kernel)⟩
theorem lw_p27 : lw_okq (⟨"CoderTables", "isBetterStep", "(III)Z"⟩, 14) := ⟨⟨by decide +kernel, by decide +kernel⟩, List.mem_of_getElem? (i := 15) (by decide +kernel), List.mem_of_getElem? (i := 430) (by decide +kernel), List.mem_of_getElem? (i := 431) (by decide +kernel)⟩
theorem lw_p28 : lw_okq (⟨"CoderTables", "layLeads", "(II)V"⟩, 14) := ⟨⟨by decide +kernel, by decide +kernel⟩, List.mem_of_getElem? (i := 15) (by decide +kernel), List.mem_of_getElem? (i := 459) (by decide +kernel), List.mem_of_getElem? (i := 460) (by decide +kernel)⟩
theorem lw_p29 : lw_okq (⟨"CoderTables", "countLeads", "(Z)I"⟩, 14) := ⟨⟨by decide +kernel, by decide +kernel⟩, List.mem_of_getElem? (i := 15) (by decide +kernel), List.mem_of_getElem? (i := 463) (by decide +kernel), List.mem_of_getElem? (i := 464) (by decide +kernel)⟩
theorem lw_p30 : lw_okq (⟨"CoderTables", "drawnLead", "()J"⟩, 14) := ⟨⟨by decide +kernel, by decide +kernel⟩, List.mem_of_getElem? (i := 15) (by decide +kernel), List.mem_of_getElem? (i := 486) (by decide +kernel), List.mem_of_getElem? (i := 487) (by decide +kernel)⟩
theorem lw_p31 : lw_okq (⟨"CoderTablesModel", "refuses", "(I)Z"⟩, 15) := ⟨⟨by decide +kernel, by decide +kernel⟩, List.mem_of_getElem? (i := 498) (by decide +kernel), List.mem_of_getElem? (i := 560) (by decide +kernel), List.mem_of_getElem? (i := 561) (by decide +kernel)⟩
def lw_privs_2 : List (MethodName × Nat) := [(⟨"CoderTables", "pairOf", "(II)I"⟩, 14), (⟨"CoderTables", "needCoder", "(I)V"⟩, 14), (⟨"CoderTables", "needPicture", "(I)V"⟩, 14), (⟨"CoderTables", "leastBytesWithin", "(II)I"⟩, 14), (⟨"CoderTables", "needCounted", "(I)V"⟩, 14), (⟨"CoderTables", "layHull", "(I)V"⟩, 14), (⟨"CoderTables", "firstOfRow", "(I)I"⟩, 14), (⟨"CoderTables", "isBefore", "(II)Z"⟩, 14), (⟨"CoderTables", "steepestFrom", "(II)I"⟩, 14), (⟨"CoderTables", "growthTo", "(II)J"⟩, 14), (⟨"CoderTables", "fallTo", "(II)J"⟩, 14), (⟨"CoderTables", "isBetterStep", "(III)Z"⟩, 14), (⟨"CoderTables", "layLeads", "(II)V"⟩, 14), (⟨"CoderTables", "countLeads", "(Z)I"⟩, 14), (⟨"CoderTables", "drawnLead", "()J"⟩, 14), (⟨"CoderTablesModel", "refuses", "(I)Z"⟩, 15)]
theorem lw_r2 : ∀ q ∈ lw_privs_2, lw_okq q := List.forall_mem_cons.mpr ⟨lw_p16, List.forall_mem_cons.mpr ⟨lw_p17, List.forall_mem_cons.mpr ⟨lw_p18, List.forall_mem_cons.mpr ⟨lw_p19, List.forall_mem_cons.mpr ⟨lw_p20, List.forall_mem_cons.mpr ⟨lw_p21, List.forall_mem_cons.mpr ⟨lw_p22, List.forall_mem_cons.mpr ⟨lw_p23, List.forall_mem_cons.mpr ⟨lw_p24, List.forall_mem_cons.mpr ⟨lw_p25, List.forall_mem_cons.mpr ⟨lw_p26, List.forall_mem_cons.mpr ⟨lw_p27, List.forall_mem_cons.mpr ⟨lw_p28, List.forall_mem_cons.mpr ⟨lw_p29, List.forall_mem_cons.mpr ⟨lw_p30, List.forall_mem_cons.mpr ⟨lw_p31, fun _ h => absurd h List.not_mem_nil⟩⟩⟩⟩⟩⟩⟩⟩⟩⟩⟩⟩⟩⟩⟩⟩
theorem lw_p32 : lw_okq (⟨"CoderTablesModel", "noPair", "(II)Z"⟩, 15) := ⟨⟨by decide +kernel, by decide +kernel⟩, List.mem_of_getElem? (i := 498) (by decide +kernel), List.mem_of_getElem? (i := 572) (by decide +kernel), List.mem_of_getElem? (i := 573) (by decide +kernel)⟩
theorem lw_p33 : lw_okq (⟨"CoderTablesModel", "noCoder", "(I)Z"⟩, 15) := ⟨⟨by decide +kernel, by decide +kernel⟩, List.mem_of_getElem? (i := 498) (by decide +kernel), List.mem_of_getElem? (i := 576) (by decide +kernel), List.mem_of_getElem? (i := 577) (by decide +kernel)⟩
theorem lw_p34 : lw_okq (⟨"CoderTablesModel", "add", "(III)V"⟩, 15) := ⟨⟨by decide +kernel, by decide +kernel⟩, List.mem_of_getElem? (i := 498) (by decide +kernel), List.mem_of_getElem? (i := 584) (by decide +kernel), List.mem_of_getElem? (i := 585) (by decide +kernel)⟩
theorem lw_p35 : lw_okq (⟨"CoderTablesModel", "fail", "(I)V"⟩, 15) := ⟨⟨by decide +kernel, by decide +kernel⟩, List.mem_of_getElem? (i := 498) (by decide +kernel), List.mem_of_getElem? (i := 592) (by decide +kernel), List.mem_of_getElem? (i := 593) (by decide +kernel)⟩
theorem lw_p36 : lw_okq (⟨"CoderTablesModel", "countedOf", "(I)I"⟩, 15) := ⟨⟨by decide +kernel, by decide +kernel⟩, List.mem_of_getElem? (i := 498) (by decide +kernel), List.mem_of_getElem? (i := 612) (by decide +kernel), List.mem_of_getElem? (i := 613) (by decide +kernel)⟩
theorem lw_p37 : lw_okq (⟨"CoderTablesModel", "sumOf", "(I)J"⟩, 15) := ⟨⟨by decide +kernel, by decide +kernel⟩, List.mem_of_getElem? (i := 498) (by decide +kernel), List.mem_of_getElem? (i := 617) (by decide +kernel), List.mem_of_getElem? (i := 618) (by decide +kernel)⟩
theorem lw_p38 : lw_okq (⟨"CoderTablesModel", "bytes", "(I)I"⟩, 15) := ⟨⟨by decide +kernel, by decide +kernel⟩, List.mem_of_getElem? (i := 498) (by decide +kernel), List.mem_of_getElem? (i := 621) (by decide +kernel), List.mem_of_getElem? (i := 622) (by decide +kernel)⟩
theorem lw_p39 : lw_okq (⟨"CoderTablesModel", "rankOf", "(I)I"⟩, 15) := ⟨⟨by decide +kernel, by decide +kernel⟩, List.mem_of_getElem? (i := 498) (by decide +kernel), List.mem_of_getElem? (i := 639) (by decide +kernel), List.mem_of_getElem? (i := 640) (by decide +kernel)⟩
theorem lw_p40 : lw_okq (⟨"CoderTablesModel", "findHull", "(I)V"⟩, 15) := ⟨⟨by decide +kernel, by decide +kernel⟩, List.mem_of_getElem? (i := 498) (by decide +kernel), List.mem_of_getElem? (i := 647) (by decide +kernel), List.mem_of_getElem? (i := 648) (by decide +kernel)⟩
theorem lw_p41 : lw_okq (⟨"CoderTablesModel", "isBest", "(II)Z"⟩, 15) := ⟨⟨by decide +kernel, by decide +kernel⟩, List.mem_of_getElem? (i := 498) (by decide +kernel), List.mem_of_getElem? (i := 651) (by decide +kernel), List.mem_of_getElem? (i := 652) (by decide +kernel)⟩
theorem lw_p42 : lw_okq (⟨"CoderTablesModel", "isSteeper", "(III)Z"⟩, 15) := ⟨⟨by decide +kernel, by decide +kernel⟩, List.mem_of_getElem? (i := 498) (by decide +kernel), List.mem_of_getElem? (i := 655) (by decide +kernel), List.mem_of_getElem? (i := 656) (by decide +kernel)⟩
theorem lw_p43 : lw_okq (⟨"CoderTablesModel", "noneOnHull", "(IIII)Z"⟩, 15) := ⟨⟨by decide +kernel, by decide +kernel⟩, List.mem_of_getElem? (i := 498) (by decide +kernel), List.mem_of_getElem? (i := 663) (by decide +kernel), List.mem_of_getElem? (i := 664) (by decide +kernel)⟩
theorem lw_p44 : lw_okq (⟨"CoderTablesModel", "less", "(II)I"⟩, 15) := ⟨⟨by decide +kernel, by decide +kernel⟩, List.mem_of_getElem? (i := 498) (by decide +kernel), List.mem_of_getElem? (i := 676) (by decide +kernel), List.mem_of_getElem? (i := 677) (by decide +kernel)⟩
theorem lw_p45 : lw_okq (⟨"CoderTablesModel", "areBoth", "(III)Z"⟩, 15) := ⟨⟨by decide +kernel, by decide +kernel⟩, List.mem_of_getElem? (i := 498) (by decide +kernel), List.mem_of_getElem? (i := 680) (by decide +kernel), List.mem_of_getElem? (i := 681) (by decide +kernel)⟩
theorem lw_p46 : lw_okq (⟨"CoderTablesModel", "draw", "(I)I"⟩, 15) := ⟨⟨by decide +kernel, by decide +kernel⟩, List.mem_of_getElem? (i := 498) (by decide +kernel), List.mem_of_getElem? (i := 690) (by decide +kernel), List.mem_of_getElem? (i := 691) (by decide +kernel)⟩
theorem lw_p47 : lw_okq (⟨"CoderTablesModel", "both", "(III)I"⟩, 15) := ⟨⟨by decide +kernel, by decide +kernel⟩, List.mem_of_getElem? (i := 498) (by decide +kernel), List.mem_of_getElem? (i := 696) (by decide +kernel), List.mem_of_getElem? (i := 697) (by decide +kernel)⟩
def lw_privs_3 : List (MethodName × Nat) := [(⟨"CoderTablesModel", "noPair", "(II)Z"⟩, 15), (⟨"CoderTablesModel", "noCoder", "(I)Z"⟩, 15), (⟨"CoderTablesModel", "add", "(III)V"⟩, 15), (⟨"CoderTablesModel", "fail", "(I)V"⟩, 15), (⟨"CoderTablesModel", "countedOf", "(I)I"⟩, 15), (⟨"CoderTablesModel", "sumOf", "(I)J"⟩, 15), (⟨"CoderTablesModel", "bytes", "(I)I"⟩, 15), (⟨"CoderTablesModel", "rankOf", "(I)I"⟩, 15), (⟨"CoderTablesModel", "findHull", "(I)V"⟩, 15), (⟨"CoderTablesModel", "isBest", "(II)Z"⟩, 15), (⟨"CoderTablesModel", "isSteeper", "(III)Z"⟩, 15), (⟨"CoderTablesModel", "noneOnHull", "(IIII)Z"⟩, 15), (⟨"CoderTablesModel", "less", "(II)I"⟩, 15), (⟨"CoderTablesModel", "areBoth", "(III)Z"⟩, 15), (⟨"CoderTablesModel", "draw", "(I)I"⟩, 15), (⟨"CoderTablesModel", "both", "(III)I"⟩, 15)]
theorem lw_r3 : ∀ q ∈ lw_privs_3, lw_okq q := List.forall_mem_cons.mpr ⟨lw_p32, List.forall_mem_cons.mpr ⟨lw_p33, List.forall_mem_cons.mpr ⟨lw_p34, List.forall_mem_cons.mpr ⟨lw_p35, List.forall_mem_cons.mpr ⟨lw_p36, List.forall_mem_cons.mpr ⟨lw_p37, List.forall_mem_cons.mpr ⟨lw_p38, List.forall_mem_cons.mpr ⟨lw_p39, List.forall_mem_cons.mpr ⟨lw_p40, List.forall_mem_cons.mpr ⟨lw_p41, List.forall_mem_cons.mpr ⟨lw_p42, List.forall_mem_cons.mpr ⟨lw_p43, List.forall_mem_cons.mpr ⟨lw_p44, List.forall_mem_cons.mpr ⟨lw_p45, List.forall_mem_cons.mpr ⟨lw_p46, List.forall_mem_cons.mpr ⟨lw_p47, fun _ h => absurd h List.not_mem_nil⟩⟩⟩⟩⟩⟩⟩⟩⟩⟩⟩⟩⟩⟩⟩⟩
theorem lw_p48 : lw_okq (⟨"CoderTablesModel", "fillPair", "(I)V"⟩, 15) := ⟨⟨by decide +kernel, by decide +kernel⟩, List.mem_of_getElem? (i := 498) (by decide +kernel), List.mem_of_getElem? (i := 704) (by decide +kernel), List.mem_of_getElem? (i := 705) (by decide +kernel)⟩
theorem lw_p49 : lw_okq (⟨"CoderTablesModel", "points", "()I"⟩, 15) := ⟨⟨by decide +kernel, by decide +kernel⟩, List.mem_of_getElem? (i := 498) (by decide +kernel), List.mem_of_getElem? (i := 708) (by decide +kernel), List.mem_of_getElem? (i := 709) (by decide +kernel)⟩
theorem lw_p50 : lw_okq (⟨"CoderTablesModel", "typeNumber", "(J)V"⟩, 15) := ⟨⟨by decide +kernel, by decide +kernel⟩, List.mem_of_getElem? (i := 498) (by decide +kernel), List.mem_of_getElem? (i := 716) (by decide +kernel), List.mem_of_getElem? (i := 717) (by decide +kernel)⟩
theorem lw_p51 : lw_okq (⟨"CoderTablesModel", "type", "(I)V"⟩, 15) := ⟨⟨by decide +kernel, by decide +kernel⟩, List.mem_of_getElem? (i := 498) (by decide +kernel), List.mem_of_getElem? (i := 722) (by decide +kernel), List.mem_of_getElem? (i := 723) (by decide +kernel)⟩
def lw_privs_4 : List (MethodName × Nat) := [(⟨"CoderTablesModel", "fillPair", "(I)V"⟩, 15), (⟨"CoderTablesModel", "points", "()I"⟩, 15), (⟨"CoderTablesModel", "typeNumber", "(J)V"⟩, 15), (⟨"CoderTablesModel", "type", "(I)V"⟩, 15)]
theorem lw_r4 : ∀ q ∈ lw_privs_4, lw_okq q := List.forall_mem_cons.mpr ⟨lw_p48, List.forall_mem_cons.mpr ⟨lw_p49, List.forall_mem_cons.mpr ⟨lw_p50, List.forall_mem_cons.mpr ⟨lw_p51, fun _ h => absurd h List.not_mem_nil⟩⟩⟩⟩
def lw_privs : List (MethodName × Nat) := lw_privs_1 ++ (lw_privs_2 ++ (lw_privs_3 ++ (lw_privs_4)))
def lw_tbl : List Cond := k2_sels lw_privs ++ tables_1
theorem lw_privs_ok : ∀ q ∈ lw_privs, lw_okq q := by
  show ∀ q ∈ lw_privs_1 ++ (lw_privs_2 ++ (lw_privs_3 ++ (lw_privs_4))), lw_okq q
  exact List.forall_mem_append.mpr ⟨lw_r1, List.forall_mem_append.mpr ⟨lw_r2, List.forall_mem_append.mpr ⟨lw_r3, lw_r4⟩⟩⟩
-- ===== end of PART A; then your names; then what follows =====
end
section
/-! names, fields, words: printed by wip/gen/names.py -/
def T_L : u_T := fun k => match k with
  | 0 => ("CoderTables$Lines", "chars", "[C", true)
  | _ => ("CoderTables$Lines", "length", "I", false)
def ty_L : Nat → FieldType := fun k => match k with
  | 0 => .array .char
  | _ => .int
theorem nm_L : ∀ a, a < 2 → ∀ b, b < 2 → a ≠ b → (T_L a).2.1 ≠ (T_L b).2.1 := by decide +kernel
theorem ty_L_ok : ∀ k, k < 2 → parseFieldDescriptor (T_L k).2.2.1 = some (ty_L k) := by decide +kernel
def T_N : u_T := fun k => match k with
  | _ => ("CoderTables$Numbers", "last", "J", false)
def ty_N : Nat → FieldType := fun k => match k with
  | _ => .long
theorem nm_N : ∀ a, a < 1 → ∀ b, b < 1 → a ≠ b → (T_N a).2.1 ≠ (T_N b).2.1 := by decide +kernel
theorem ty_N_ok : ∀ k, k < 1 → parseFieldDescriptor (T_N k).2.2.1 = some (ty_N k) := by decide +kernel
def T_X : u_T := fun k => match k with
  | 0 => ("CoderTables", "coders", "I", false)
  | 1 => ("CoderTables", "pictures", "I", false)
  | 2 => ("CoderTables", "pointCounts", "[I", true)
  | 3 => ("CoderTables", "leastBytes", "[I", true)
  | 4 => ("CoderTables", "pointBytes", "[I", true)
  | 5 => ("CoderTables", "pointErrors", "[I", true)
  | 6 => ("CoderTables", "failedPairs", "[I", true)
  | 7 => ("CoderTables", "failedCount", "I", false)
  | 8 => ("CoderTables", "hullSlots", "[I", true)
  | 9 => ("CoderTables", "hullSize", "I", false)
  | 10 => ("CoderTables", "leads", "[I", true)
  | 11 => ("CoderTables", "leadCount", "I", false)
  | 12 => ("CoderTables", "numbers", "LCoderTables$Numbers;", true)
  | _ => ("CoderTables", "lines", "LCoderTables$Lines;", true)
def ty_X : Nat → FieldType := fun k => match k with
  | 0 => .int
  | 1 => .int
  | 2 => .array .int
  | 3 => .array .int
  | 4 => .array .int
  | 5 => .array .int
  | 6 => .array .int
  | 7 => .int
  | 8 => .array .int
  | 9 => .int
  | 10 => .array .int
  | 11 => .int
  | 12 => .object "CoderTables$Numbers"
  | _ => .object "CoderTables$Lines"
theorem nm_X : ∀ a, a < 14 → ∀ b, b < 14 → a ≠ b → (T_X a).2.1 ≠ (T_X b).2.1 := by decide +kernel
theorem ty_X_ok : ∀ k, k < 14 → parseFieldDescriptor (T_X k).2.2.1 = some (ty_X k) := by decide +kernel
def T_M : u_T := fun k => match k with
  | 0 => ("CoderTablesModel", "code", "I", false)
  | 1 => ("CoderTablesModel", "coders", "I", false)
  | 2 => ("CoderTablesModel", "pictures", "I", false)
  | 3 => ("CoderTablesModel", "count", "[I", true)
  | 4 => ("CoderTablesModel", "hasFailed", "[Z", true)
  | 5 => ("CoderTablesModel", "bytesOf", "[I", true)
  | 6 => ("CoderTablesModel", "errorOf", "[I", true)
  | 7 => ("CoderTablesModel", "failures", "I", false)
  | 8 => ("CoderTablesModel", "failure", "[I", true)
  | 9 => ("CoderTablesModel", "size", "I", false)
  | 10 => ("CoderTablesModel", "text", "[I", true)
  | 11 => ("CoderTablesModel", "state", "J", false)
  | 12 => ("CoderTablesModel", "hullSize", "I", false)
  | 13 => ("CoderTablesModel", "hull", "[I", true)
  | _ => ("CoderTablesModel", "ways", "[J", true)
def ty_M : Nat → FieldType := fun k => match k with
  | 0 => .int
  | 1 => .int
  | 2 => .int
  | 3 => .array .int
  | 4 => .array .boolean
  | 5 => .array .int
  | 6 => .array .int
  | 7 => .int
  | 8 => .array .int
  | 9 => .int
  | 10 => .array .int
  | 11 => .long
  | 12 => .int
  | 13 => .array .int
  | _ => .array .long
theorem nm_M : ∀ a, a < 15 → ∀ b, b < 15 → a ≠ b → (T_M a).2.1 ≠ (T_M b).2.1 := by decide +kernel
theorem ty_M_ok : ∀ k, k < 15 → parseFieldDescriptor (T_M k).2.2.1 = some (ty_M k) := by decide +kernel
abbrev cls4 : List vw_C := [("CoderTables$Lines", T_L, 2), ("CoderTables$Numbers", T_N, 1), ("CoderTables", T_X, 14), ("CoderTablesModel", T_M, 15)]
abbrev b_X_init : ByteArray := prog_1_method_1_code
def y_X_init : MethodName := ⟨"CoderTables", "<init>", "()V"⟩
abbrev b_X_coder : ByteArray := prog_1_method_2_code
def y_X_coder : MethodName := ⟨"CoderTables", "coder", "()I"⟩
abbrev b_X_picture : ByteArray := prog_1_method_3_code
def y_X_picture : MethodName := ⟨"CoderTables", "picture", "()I"⟩
abbrev b_X_point : ByteArray := prog_1_method_4_code
def y_X_point : MethodName := ⟨"CoderTables", "point", "(IIII)I"⟩
abbrev b_X_fails : ByteArray := prog_1_method_5_code
def y_X_fails : MethodName := ⟨"CoderTables", "fails", "(II)I"⟩
abbrev b_X_failed : ByteArray := prog_1_method_6_code
def y_X_failed : MethodName := ⟨"CoderTables", "failed", "()I"⟩
abbrev b_X_failing : ByteArray := prog_1_method_7_code
def y_X_failing : MethodName := ⟨"CoderTables", "failing", "(II)I"⟩
abbrev b_X_least : ByteArray := prog_1_method_8_code
def y_X_least : MethodName := ⟨"CoderTables", "least", "(II)I"⟩
abbrev b_X_sum : ByteArray := prog_1_method_9_code
def y_X_sum : MethodName := ⟨"CoderTables", "sum", "(I)J"⟩
abbrev b_X_mean : ByteArray := prog_1_method_10_code
def y_X_mean : MethodName := ⟨"CoderTables", "mean", "(IZ)J"⟩
abbrev b_X_rank : ByteArray := prog_1_method_11_code
def y_X_rank : MethodName := ⟨"CoderTables", "rank", "(I)I"⟩
abbrev b_X_hull : ByteArray := prog_1_method_12_code
def y_X_hull : MethodName := ⟨"CoderTables", "hull", "(II)I"⟩
abbrev b_X_onHull : ByteArray := prog_1_method_13_code
def y_X_onHull : MethodName := ⟨"CoderTables", "onHull", "(IIII)I"⟩
abbrev b_X_slope : ByteArray := prog_1_method_14_code
def y_X_slope : MethodName := ⟨"CoderTables", "slope", "(IIIZ)J"⟩
abbrev b_X_signs : ByteArray := prog_1_method_15_code
def y_X_signs : MethodName := ⟨"CoderTables", "signs", "(III)J"⟩
abbrev b_X_draws : ByteArray := prog_1_method_16_code
def y_X_draws : MethodName := ⟨"CoderTables", "draws", "(IIJI)I"⟩
abbrev b_X_fill : ByteArray := prog_1_method_17_code
def y_X_fill : MethodName := ⟨"CoderTables", "fill", "(J)I"⟩
abbrev b_X_text : ByteArray := prog_1_method_18_code
def y_X_text : MethodName := ⟨"CoderTables", "text", "()I"⟩
abbrev b_X_charAt : ByteArray := prog_1_method_19_code
def y_X_charAt : MethodName := ⟨"CoderTables", "charAt", "(I)I"⟩
abbrev b_X_told : ByteArray := prog_1_method_20_code
def y_X_told : MethodName := ⟨"CoderTables", "told", "(I)I"⟩
abbrev b_X_clear : ByteArray := prog_1_method_21_code
def y_X_clear : MethodName := ⟨"CoderTables", "clear", "()V"⟩
abbrev b_X_needCoder : ByteArray := prog_1_method_22_code
def y_X_needCoder : MethodName := ⟨"CoderTables", "needCoder", "(I)V"⟩
abbrev b_X_needPicture : ByteArray := prog_1_method_23_code
def y_X_needPicture : MethodName := ⟨"CoderTables", "needPicture", "(I)V"⟩
abbrev b_X_needCounted : ByteArray := prog_1_method_24_code
def y_X_needCounted : MethodName := ⟨"CoderTables", "needCounted", "(I)V"⟩
abbrev b_X_pairOf : ByteArray := prog_1_method_25_code
def y_X_pairOf : MethodName := ⟨"CoderTables", "pairOf", "(II)I"⟩
abbrev b_X_isCounted : ByteArray := prog_1_method_26_code
def y_X_isCounted : MethodName := ⟨"CoderTables", "isCounted", "(I)Z"⟩
abbrev b_X_addPoint : ByteArray := prog_1_method_27_code
def y_X_addPoint : MethodName := ⟨"CoderTables", "addPoint", "(III)V"⟩
abbrev b_X_markFailed : ByteArray := prog_1_method_28_code
def y_X_markFailed : MethodName := ⟨"CoderTables", "markFailed", "(I)V"⟩
abbrev b_X_emptyPairs : ByteArray := prog_1_method_29_code
def y_X_emptyPairs : MethodName := ⟨"CoderTables", "emptyPairs", "()V"⟩
abbrev b_X_fillPair : ByteArray := prog_1_method_30_code
def y_X_fillPair : MethodName := ⟨"CoderTables", "fillPair", "(I)I"⟩
abbrev b_X_allPoints : ByteArray := prog_1_method_31_code
def y_X_allPoints : MethodName := ⟨"CoderTables", "allPoints", "()I"⟩
abbrev b_X_allCounted : ByteArray := prog_1_method_32_code
def y_X_allCounted : MethodName := ⟨"CoderTables", "allCounted", "()I"⟩
abbrev b_X_leastBytesWithin : ByteArray := prog_1_method_33_code
def y_X_leastBytesWithin : MethodName := ⟨"CoderTables", "leastBytesWithin", "(II)I"⟩
abbrev b_X_countedOf : ByteArray := prog_1_method_34_code
def y_X_countedOf : MethodName := ⟨"CoderTables", "countedOf", "(I)I"⟩
abbrev b_X_sumOf : ByteArray := prog_1_method_35_code
def y_X_sumOf : MethodName := ⟨"CoderTables", "sumOf", "(I)J"⟩
abbrev b_X_rankOf : ByteArray := prog_1_method_36_code
def y_X_rankOf : MethodName := ⟨"CoderTables", "rankOf", "(I)I"⟩
abbrev b_X_layHull : ByteArray := prog_1_method_37_code
def y_X_layHull : MethodName := ⟨"CoderTables", "layHull", "(I)V"⟩
abbrev b_X_firstOfRow : ByteArray := prog_1_method_38_code
def y_X_firstOfRow : MethodName := ⟨"CoderTables", "firstOfRow", "(I)I"⟩
abbrev b_X_isBefore : ByteArray := prog_1_method_39_code
def y_X_isBefore : MethodName := ⟨"CoderTables", "isBefore", "(II)Z"⟩
abbrev b_X_steepestFrom : ByteArray := prog_1_method_40_code
def y_X_steepestFrom : MethodName := ⟨"CoderTables", "steepestFrom", "(II)I"⟩
abbrev b_X_isBetterStep : ByteArray := prog_1_method_41_code
def y_X_isBetterStep : MethodName := ⟨"CoderTables", "isBetterStep", "(III)Z"⟩
abbrev b_X_fallTo : ByteArray := prog_1_method_42_code
def y_X_fallTo : MethodName := ⟨"CoderTables", "fallTo", "(II)J"⟩
abbrev b_X_growthTo : ByteArray := prog_1_method_43_code
def y_X_growthTo : MethodName := ⟨"CoderTables", "growthTo", "(II)J"⟩
abbrev b_X_layLeads : ByteArray := prog_1_method_44_code
def y_X_layLeads : MethodName := ⟨"CoderTables", "layLeads", "(II)V"⟩
abbrev b_X_countLeads : ByteArray := prog_1_method_45_code
def y_X_countLeads : MethodName := ⟨"CoderTables", "countLeads", "(Z)I"⟩
abbrev b_X_drawnLead : ByteArray := prog_1_method_46_code
def y_X_drawnLead : MethodName := ⟨"CoderTables", "drawnLead", "()J"⟩
abbrev b_X_odds : ByteArray := prog_1_method_47_code
def y_X_odds : MethodName := ⟨"CoderTables", "odds", "(IIZ)J"⟩
abbrev b_X_inLowestTerms : ByteArray := prog_1_method_48_code
def y_X_inLowestTerms : MethodName := ⟨"CoderTables", "inLowestTerms", "(JJ)J"⟩
abbrev b_M_init : ByteArray := prog_5_method_1_code
def y_M_init : MethodName := ⟨"CoderTablesModel", "<init>", "()V"⟩
abbrev b_M_thrown : ByteArray := prog_5_method_2_code
def y_M_thrown : MethodName := ⟨"CoderTablesModel", "thrown", "()I"⟩
abbrev b_M_refuses : ByteArray := prog_5_method_3_code
def y_M_refuses : MethodName := ⟨"CoderTablesModel", "refuses", "(I)Z"⟩
abbrev b_M_isIn : ByteArray := prog_5_method_4_code
def y_M_isIn : MethodName := ⟨"CoderTablesModel", "isIn", "(JJJ)Z"⟩
abbrev b_M_noCoder : ByteArray := prog_5_method_5_code
def y_M_noCoder : MethodName := ⟨"CoderTablesModel", "noCoder", "(I)Z"⟩
abbrev b_M_noPair : ByteArray := prog_5_method_6_code
def y_M_noPair : MethodName := ⟨"CoderTablesModel", "noPair", "(II)Z"⟩
abbrev b_M_coder : ByteArray := prog_5_method_7_code
def y_M_coder : MethodName := ⟨"CoderTablesModel", "coder", "()I"⟩
abbrev b_M_picture : ByteArray := prog_5_method_8_code
def y_M_picture : MethodName := ⟨"CoderTablesModel", "picture", "()I"⟩
abbrev b_M_add : ByteArray := prog_5_method_9_code
def y_M_add : MethodName := ⟨"CoderTablesModel", "add", "(III)V"⟩
abbrev b_M_point : ByteArray := prog_5_method_10_code
def y_M_point : MethodName := ⟨"CoderTablesModel", "point", "(IIII)I"⟩
abbrev b_M_fail : ByteArray := prog_5_method_11_code
def y_M_fail : MethodName := ⟨"CoderTablesModel", "fail", "(I)V"⟩
abbrev b_M_fails : ByteArray := prog_5_method_12_code
def y_M_fails : MethodName := ⟨"CoderTablesModel", "fails", "(II)I"⟩
abbrev b_M_failed : ByteArray := prog_5_method_13_code
def y_M_failed : MethodName := ⟨"CoderTablesModel", "failed", "()I"⟩
abbrev b_M_failing : ByteArray := prog_5_method_14_code
def y_M_failing : MethodName := ⟨"CoderTablesModel", "failing", "(II)I"⟩
abbrev b_M_least : ByteArray := prog_5_method_15_code
def y_M_least : MethodName := ⟨"CoderTablesModel", "least", "(II)I"⟩
abbrev b_M_bytes : ByteArray := prog_5_method_16_code
def y_M_bytes : MethodName := ⟨"CoderTablesModel", "bytes", "(I)I"⟩
abbrev b_M_sumOf : ByteArray := prog_5_method_17_code
def y_M_sumOf : MethodName := ⟨"CoderTablesModel", "sumOf", "(I)J"⟩
abbrev b_M_countedOf : ByteArray := prog_5_method_18_code
def y_M_countedOf : MethodName := ⟨"CoderTablesModel", "countedOf", "(I)I"⟩
abbrev b_M_sum : ByteArray := prog_5_method_19_code
def y_M_sum : MethodName := ⟨"CoderTablesModel", "sum", "(I)J"⟩
abbrev b_M_common : ByteArray := prog_5_method_20_code
def y_M_common : MethodName := ⟨"CoderTablesModel", "common", "(JJ)J"⟩
abbrev b_M_part : ByteArray := prog_5_method_21_code
def y_M_part : MethodName := ⟨"CoderTablesModel", "part", "(JJZ)J"⟩
abbrev b_M_mean : ByteArray := prog_5_method_22_code
def y_M_mean : MethodName := ⟨"CoderTablesModel", "mean", "(IZ)J"⟩
abbrev b_M_rankOf : ByteArray := prog_5_method_23_code
def y_M_rankOf : MethodName := ⟨"CoderTablesModel", "rankOf", "(I)I"⟩
abbrev b_M_rank : ByteArray := prog_5_method_24_code
def y_M_rank : MethodName := ⟨"CoderTablesModel", "rank", "(I)I"⟩
abbrev b_M_isBest : ByteArray := prog_5_method_25_code
def y_M_isBest : MethodName := ⟨"CoderTablesModel", "isBest", "(II)Z"⟩
abbrev b_M_findHull : ByteArray := prog_5_method_26_code
def y_M_findHull : MethodName := ⟨"CoderTablesModel", "findHull", "(I)V"⟩
abbrev b_M_isSteeper : ByteArray := prog_5_method_27_code
def y_M_isSteeper : MethodName := ⟨"CoderTablesModel", "isSteeper", "(III)Z"⟩
abbrev b_M_hull : ByteArray := prog_5_method_28_code
def y_M_hull : MethodName := ⟨"CoderTablesModel", "hull", "(II)I"⟩
abbrev b_M_noneOnHull : ByteArray := prog_5_method_29_code
def y_M_noneOnHull : MethodName := ⟨"CoderTablesModel", "noneOnHull", "(IIII)Z"⟩
abbrev b_M_onHull : ByteArray := prog_5_method_30_code
def y_M_onHull : MethodName := ⟨"CoderTablesModel", "onHull", "(IIII)I"⟩
abbrev b_M_slope : ByteArray := prog_5_method_31_code
def y_M_slope : MethodName := ⟨"CoderTablesModel", "slope", "(IIIZ)J"⟩
abbrev b_M_areBoth : ByteArray := prog_5_method_32_code
def y_M_areBoth : MethodName := ⟨"CoderTablesModel", "areBoth", "(III)Z"⟩
abbrev b_M_less : ByteArray := prog_5_method_33_code
def y_M_less : MethodName := ⟨"CoderTablesModel", "less", "(II)I"⟩
abbrev b_M_signs : ByteArray := prog_5_method_34_code
def y_M_signs : MethodName := ⟨"CoderTablesModel", "signs", "(III)J"⟩
abbrev b_M_draw : ByteArray := prog_5_method_35_code
def y_M_draw : MethodName := ⟨"CoderTablesModel", "draw", "(I)I"⟩
abbrev b_M_both : ByteArray := prog_5_method_36_code
def y_M_both : MethodName := ⟨"CoderTablesModel", "both", "(III)I"⟩
abbrev b_M_draws : ByteArray := prog_5_method_37_code
def y_M_draws : MethodName := ⟨"CoderTablesModel", "draws", "(IIJI)I"⟩
abbrev b_M_fill : ByteArray := prog_5_method_38_code
def y_M_fill : MethodName := ⟨"CoderTablesModel", "fill", "(J)I"⟩
abbrev b_M_fillPair : ByteArray := prog_5_method_39_code
def y_M_fillPair : MethodName := ⟨"CoderTablesModel", "fillPair", "(I)V"⟩
abbrev b_M_points : ByteArray := prog_5_method_40_code
def y_M_points : MethodName := ⟨"CoderTablesModel", "points", "()I"⟩
abbrev b_M_type : ByteArray := prog_5_method_41_code
def y_M_type : MethodName := ⟨"CoderTablesModel", "type", "(I)V"⟩
abbrev b_M_typeNumber : ByteArray := prog_5_method_42_code
def y_M_typeNumber : MethodName := ⟨"CoderTablesModel", "typeNumber", "(J)V"⟩
abbrev b_M_text : ByteArray := prog_5_method_43_code
def y_M_text : MethodName := ⟨"CoderTablesModel", "text", "()I"⟩
abbrev b_M_charAt : ByteArray := prog_5_method_44_code
def y_M_charAt : MethodName := ⟨"CoderTablesModel", "charAt", "(I)I"⟩
abbrev b_M_told : ByteArray := prog_5_method_45_code
def y_M_told : MethodName := ⟨"CoderTablesModel", "told", "(I)I"⟩
abbrev b_M_clear : ByteArray := prog_5_method_46_code
def y_M_clear : MethodName := ⟨"CoderTablesModel", "clear", "()V"⟩
abbrev b_L_init : ByteArray := prog_2_method_1_code
def y_L_init : MethodName := ⟨"CoderTables$Lines", "<init>", "()V"⟩
abbrev b_L_start : ByteArray := prog_2_method_2_code
def y_L_start : MethodName := ⟨"CoderTables$Lines", "start", "()V"⟩
abbrev b_L_put : ByteArray := prog_2_method_3_code
def y_L_put : MethodName := ⟨"CoderTables$Lines", "put", "(C)V"⟩
abbrev b_L_putNumber : ByteArray := prog_2_method_4_code
def y_L_putNumber : MethodName := ⟨"CoderTables$Lines", "putNumber", "(J)V"⟩
abbrev b_N_init : ByteArray := prog_3_method_1_code
def y_N_init : MethodName := ⟨"CoderTables$Numbers", "<init>", "()V"⟩
abbrev b_N_start : ByteArray := prog_3_method_2_code
def y_N_start : MethodName := ⟨"CoderTables$Numbers", "start", "(J)V"⟩
abbrev b_N_below : ByteArray := prog_3_method_3_code
def y_N_below : MethodName := ⟨"CoderTables$Numbers", "below", "(I)I"⟩
abbrev b_W_coder : ByteArray := method_3_code
def y_W_coder : MethodName := ⟨"CoderTablesLaw", "coder", "(LCoderTables;[J)I"⟩
abbrev b_W_picture : ByteArray := method_4_code
def y_W_picture : MethodName := ⟨"CoderTablesLaw", "picture", "(LCoderTables;[J)I"⟩
abbrev b_W_point : ByteArray := method_5_code
def y_W_point : MethodName := ⟨"CoderTablesLaw", "point", "(LCoderTables;IIII[J)I"⟩
abbrev b_W_fails : ByteArray := method_6_code
def y_W_fails : MethodName := ⟨"CoderTablesLaw", "fails", "(LCoderTables;II[J)I"⟩
abbrev b_W_failing : ByteArray := method_7_code
def y_W_failing : MethodName := ⟨"CoderTablesLaw", "failing", "(LCoderTables;II[J)I"⟩
abbrev b_W_least : ByteArray := method_8_code
def y_W_least : MethodName := ⟨"CoderTablesLaw", "least", "(LCoderTables;II[J)I"⟩
abbrev b_W_sum : ByteArray := method_9_code
def y_W_sum : MethodName := ⟨"CoderTablesLaw", "sum", "(LCoderTables;I[J)I"⟩
abbrev b_W_mean : ByteArray := method_10_code
def y_W_mean : MethodName := ⟨"CoderTablesLaw", "mean", "(LCoderTables;IZ[J)I"⟩
abbrev b_W_rank : ByteArray := method_11_code
def y_W_rank : MethodName := ⟨"CoderTablesLaw", "rank", "(LCoderTables;I[J)I"⟩
abbrev b_W_hull : ByteArray := method_12_code
def y_W_hull : MethodName := ⟨"CoderTablesLaw", "hull", "(LCoderTables;II[J)I"⟩
abbrev b_W_onHull : ByteArray := method_13_code
def y_W_onHull : MethodName := ⟨"CoderTablesLaw", "onHull", "(LCoderTables;IIII[J)I"⟩
abbrev b_W_slope : ByteArray := method_14_code
def y_W_slope : MethodName := ⟨"CoderTablesLaw", "slope", "(LCoderTables;IIIZ[J)I"⟩
abbrev b_W_signs : ByteArray := method_15_code
def y_W_signs : MethodName := ⟨"CoderTablesLaw", "signs", "(LCoderTables;III[J)I"⟩
abbrev b_W_draws : ByteArray := method_16_code
def y_W_draws : MethodName := ⟨"CoderTablesLaw", "draws", "(LCoderTables;IIJI[J)I"⟩
abbrev b_W_charAt : ByteArray := method_17_code
def y_W_charAt : MethodName := ⟨"CoderTablesLaw", "charAt", "(LCoderTables;I[J)I"⟩
abbrev b_W_law : ByteArray := code
def y_W_law : MethodName := ⟨"CoderTablesLaw", "law", "([I)Z"⟩
abbrev b_J_compare : ByteArray := prog_10_method_42_code
def y_J_compare : MethodName := ⟨"java/lang/Long", "compare", "(JJ)I"⟩
abbrev b_A_min_I : ByteArray := prog_11_method_69_code
def y_A_min_I : MethodName := ⟨"java/lang/Math", "min", "(II)I"⟩
abbrev b_A_min_J : ByteArray := prog_11_method_70_code
def y_A_min_J : MethodName := ⟨"java/lang/Math", "min", "(JJ)J"⟩
def GW : List Cond := lw_tbl.filter goodWord
theorem gw_mk {w : Cond} (i : Nat) (h : lw_tbl[i]? = some w) (hg : goodWord w = true) : w ∈ GW := List.mem_filter.mpr ⟨List.mem_of_getElem? h, hg⟩
theorem gw_lw {w : Cond} (h : w ∈ GW) : w ∈ lw_tbl := (List.mem_filter.mp h).1
theorem gw_good : GoodIn GW GW := fun w h => ⟨h, good_of_word (List.mem_filter.mp h).2⟩
theorem in_L : ∀ w ∈ u_ws "CoderTables$Lines" T_L 2, w ∈ GW := by
  intro w hw
  have h : (u_ws "CoderTables$Lines" T_L 2).all (fun w => decide (w ∈ lw_tbl) && goodWord w) = true := by decide +kernel
  have h2 := List.all_eq_true.mp h w hw
  simp only [Bool.and_eq_true, decide_eq_true_eq] at h2
  exact List.mem_filter.mpr h2
theorem in_N : ∀ w ∈ u_ws "CoderTables$Numbers" T_N 1, w ∈ GW := by
  intro w hw
  have h : (u_ws "CoderTables$Numbers" T_N 1).all (fun w => decide (w ∈ lw_tbl) && goodWord w) = true := by decide +kernel
  have h2 := List.all_eq_true.mp h w hw
  simp only [Bool.and_eq_true, decide_eq_true_eq] at h2
  exact List.mem_filter.mpr h2
theorem in_X : ∀ w ∈ u_ws "CoderTables" T_X 14, w ∈ GW := by
  intro w hw
  have h : (u_ws "CoderTables" T_X 14).all (fun w => decide (w ∈ lw_tbl) && goodWord w) = true := by decide +kernel
  have h2 := List.all_eq_true.mp h w hw
  simp only [Bool.and_eq_true, decide_eq_true_eq] at h2
  exact List.mem_filter.mpr h2
theorem in_M : ∀ w ∈ u_ws "CoderTablesModel" T_M 15, w ∈ GW := by
  intro w hw
  have h : (u_ws "CoderTablesModel" T_M 15).all (fun w => decide (w ∈ lw_tbl) && goodWord w) = true := by decide +kernel
  have h2 := List.all_eq_true.mp h w hw
  simp only [Bool.and_eq_true, decide_eq_true_eq] at h2
  exact List.mem_filter.mpr h2
theorem w0 : Cond.selects "CoderTables" ⟨"CoderTables", "emptyPairs", "()V"⟩ ⟨"CoderTables", "emptyPairs", "()V"⟩ ∈ GW := gw_mk 0 (by decide +kernel) (by decide +kernel)
theorem w1 : Cond.selects "CoderTables$Numbers" ⟨"CoderTables$Numbers", "start", "(J)V"⟩ ⟨"CoderTables$Numbers", "start", "(J)V"⟩ ∈ GW := gw_mk 1 (by decide +kernel) (by decide +kernel)
theorem w2 : Cond.selects "CoderTables" ⟨"CoderTables", "fillPair", "(I)I"⟩ ⟨"CoderTables", "fillPair", "(I)I"⟩ ∈ GW := gw_mk 2 (by decide +kernel) (by decide +kernel)
theorem w3 : Cond.selects "CoderTables$Numbers" ⟨"CoderTables$Numbers", "below", "(I)I"⟩ ⟨"CoderTables$Numbers", "below", "(I)I"⟩ ∈ GW := gw_mk 3 (by decide +kernel) (by decide +kernel)
theorem w4 : Cond.selects "CoderTables" ⟨"CoderTables", "markFailed", "(I)V"⟩ ⟨"CoderTables", "markFailed", "(I)V"⟩ ∈ GW := gw_mk 4 (by decide +kernel) (by decide +kernel)
theorem w5 : Cond.selects "CoderTables" ⟨"CoderTables", "addPoint", "(III)V"⟩ ⟨"CoderTables", "addPoint", "(III)V"⟩ ∈ GW := gw_mk 5 (by decide +kernel) (by decide +kernel)
theorem w6 : Cond.selects "CoderTables$Lines" ⟨"CoderTables$Lines", "start", "()V"⟩ ⟨"CoderTables$Lines", "start", "()V"⟩ ∈ GW := gw_mk 6 (by decide +kernel) (by decide +kernel)
theorem w7 : Cond.selects "CoderTables$Lines" ⟨"CoderTables$Lines", "putNumber", "(J)V"⟩ ⟨"CoderTables$Lines", "putNumber", "(J)V"⟩ ∈ GW := gw_mk 7 (by decide +kernel) (by decide +kernel)
theorem w8 : Cond.selects "CoderTables$Lines" ⟨"CoderTables$Lines", "put", "(C)V"⟩ ⟨"CoderTables$Lines", "put", "(C)V"⟩ ∈ GW := gw_mk 8 (by decide +kernel) (by decide +kernel)
theorem w9 : Cond.selects "CoderTables" ⟨"CoderTables", "countedOf", "(I)I"⟩ ⟨"CoderTables", "countedOf", "(I)I"⟩ ∈ GW := gw_mk 9 (by decide +kernel) (by decide +kernel)
theorem w10 : Cond.selects "CoderTables" ⟨"CoderTables", "isCounted", "(I)Z"⟩ ⟨"CoderTables", "isCounted", "(I)Z"⟩ ∈ GW := gw_mk 10 (by decide +kernel) (by decide +kernel)
theorem w11 : Cond.selects "CoderTables" ⟨"CoderTables", "sumOf", "(I)J"⟩ ⟨"CoderTables", "sumOf", "(I)J"⟩ ∈ GW := gw_mk 11 (by decide +kernel) (by decide +kernel)
theorem w12 : Cond.selects "CoderTables" ⟨"CoderTables", "rankOf", "(I)I"⟩ ⟨"CoderTables", "rankOf", "(I)I"⟩ ∈ GW := gw_mk 12 (by decide +kernel) (by decide +kernel)
theorem w13 : Cond.selects "CoderTables" ⟨"CoderTables", "allPoints", "()I"⟩ ⟨"CoderTables", "allPoints", "()I"⟩ ∈ GW := gw_mk 13 (by decide +kernel) (by decide +kernel)
theorem w14 : Cond.selects "CoderTables" ⟨"CoderTables", "allCounted", "()I"⟩ ⟨"CoderTables", "allCounted", "()I"⟩ ∈ GW := gw_mk 14 (by decide +kernel) (by decide +kernel)
theorem w15 : Cond.selects "java/lang/Throwable" ⟨"java/lang/Throwable", "fillInStackTrace", "(I)Ljava/lang/Throwable;"⟩ ⟨"java/lang/Throwable", "fillInStackTrace", "(I)Ljava/lang/Throwable;"⟩ ∈ GW := gw_mk 15 (by decide +kernel) (by decide +kernel)
theorem w16 : Cond.selects "CoderTables" ⟨"CoderTables", "pairOf", "(II)I"⟩ ⟨"CoderTables", "pairOf", "(II)I"⟩ ∈ GW := gw_mk 16 (by decide +kernel) (by decide +kernel)
theorem w17 : Cond.selects "CoderTables" ⟨"CoderTables", "needCoder", "(I)V"⟩ ⟨"CoderTables", "needCoder", "(I)V"⟩ ∈ GW := gw_mk 17 (by decide +kernel) (by decide +kernel)
theorem w18 : Cond.selects "CoderTables" ⟨"CoderTables", "needPicture", "(I)V"⟩ ⟨"CoderTables", "needPicture", "(I)V"⟩ ∈ GW := gw_mk 18 (by decide +kernel) (by decide +kernel)
theorem w19 : Cond.selects "CoderTables" ⟨"CoderTables", "leastBytesWithin", "(II)I"⟩ ⟨"CoderTables", "leastBytesWithin", "(II)I"⟩ ∈ GW := gw_mk 19 (by decide +kernel) (by decide +kernel)
theorem w20 : Cond.selects "CoderTables" ⟨"CoderTables", "needCounted", "(I)V"⟩ ⟨"CoderTables", "needCounted", "(I)V"⟩ ∈ GW := gw_mk 20 (by decide +kernel) (by decide +kernel)
theorem w21 : Cond.selects "CoderTables" ⟨"CoderTables", "layHull", "(I)V"⟩ ⟨"CoderTables", "layHull", "(I)V"⟩ ∈ GW := gw_mk 21 (by decide +kernel) (by decide +kernel)
theorem w22 : Cond.selects "CoderTables" ⟨"CoderTables", "firstOfRow", "(I)I"⟩ ⟨"CoderTables", "firstOfRow", "(I)I"⟩ ∈ GW := gw_mk 22 (by decide +kernel) (by decide +kernel)
theorem w23 : Cond.selects "CoderTables" ⟨"CoderTables", "isBefore", "(II)Z"⟩ ⟨"CoderTables", "isBefore", "(II)Z"⟩ ∈ GW := gw_mk 23 (by decide +kernel) (by decide +kernel)
theorem w24 : Cond.selects "CoderTables" ⟨"CoderTables", "steepestFrom", "(II)I"⟩ ⟨"CoderTables", "steepestFrom", "(II)I"⟩ ∈ GW := gw_mk 24 (by decide +kernel) (by decide +kernel)
theorem w25 : Cond.selects "CoderTables" ⟨"CoderTables", "growthTo", "(II)J"⟩ ⟨"CoderTables", "growthTo", "(II)J"⟩ ∈ GW := gw_mk 25 (by decide +kernel) (by decide +kernel)
theorem w26 : Cond.selects "CoderTables" ⟨"CoderTables", "fallTo", "(II)J"⟩ ⟨"CoderTables", "fallTo", "(II)J"⟩ ∈ GW := gw_mk 26 (by decide +kernel) (by decide +kernel)
theorem w27 : Cond.selects "CoderTables" ⟨"CoderTables", "isBetterStep", "(III)Z"⟩ ⟨"CoderTables", "isBetterStep", "(III)Z"⟩ ∈ GW := gw_mk 27 (by decide +kernel) (by decide +kernel)
theorem w28 : Cond.selects "CoderTables" ⟨"CoderTables", "layLeads", "(II)V"⟩ ⟨"CoderTables", "layLeads", "(II)V"⟩ ∈ GW := gw_mk 28 (by decide +kernel) (by decide +kernel)
theorem w29 : Cond.selects "CoderTables" ⟨"CoderTables", "countLeads", "(Z)I"⟩ ⟨"CoderTables", "countLeads", "(Z)I"⟩ ∈ GW := gw_mk 29 (by decide +kernel) (by decide +kernel)
theorem w30 : Cond.selects "CoderTables" ⟨"CoderTables", "drawnLead", "()J"⟩ ⟨"CoderTables", "drawnLead", "()J"⟩ ∈ GW := gw_mk 30 (by decide +kernel) (by decide +kernel)
theorem w31 : Cond.selects "CoderTablesModel" ⟨"CoderTablesModel", "refuses", "(I)Z"⟩ ⟨"CoderTablesModel", "refuses", "(I)Z"⟩ ∈ GW := gw_mk 31 (by decide +kernel) (by decide +kernel)
theorem w32 : Cond.selects "CoderTablesModel" ⟨"CoderTablesModel", "noPair", "(II)Z"⟩ ⟨"CoderTablesModel", "noPair", "(II)Z"⟩ ∈ GW := gw_mk 32 (by decide +kernel) (by decide +kernel)
theorem w33 : Cond.selects "CoderTablesModel" ⟨"CoderTablesModel", "noCoder", "(I)Z"⟩ ⟨"CoderTablesModel", "noCoder", "(I)Z"⟩ ∈ GW := gw_mk 33 (by decide +kernel) (by decide +kernel)
theorem w34 : Cond.selects "CoderTablesModel" ⟨"CoderTablesModel", "add", "(III)V"⟩ ⟨"CoderTablesModel", "add", "(III)V"⟩ ∈ GW := gw_mk 34 (by decide +kernel) (by decide +kernel)
theorem w35 : Cond.selects "CoderTablesModel" ⟨"CoderTablesModel", "fail", "(I)V"⟩ ⟨"CoderTablesModel", "fail", "(I)V"⟩ ∈ GW := gw_mk 35 (by decide +kernel) (by decide +kernel)
theorem w36 : Cond.selects "CoderTablesModel" ⟨"CoderTablesModel", "countedOf", "(I)I"⟩ ⟨"CoderTablesModel", "countedOf", "(I)I"⟩ ∈ GW := gw_mk 36 (by decide +kernel) (by decide +kernel)
theorem w37 : Cond.selects "CoderTablesModel" ⟨"CoderTablesModel", "sumOf", "(I)J"⟩ ⟨"CoderTablesModel", "sumOf", "(I)J"⟩ ∈ GW := gw_mk 37 (by decide +kernel) (by decide +kernel)
theorem w38 : Cond.selects "CoderTablesModel" ⟨"CoderTablesModel", "bytes", "(I)I"⟩ ⟨"CoderTablesModel", "bytes", "(I)I"⟩ ∈ GW := gw_mk 38 (by decide +kernel) (by decide +kernel)
theorem w39 : Cond.selects "CoderTablesModel" ⟨"CoderTablesModel", "rankOf", "(I)I"⟩ ⟨"CoderTablesModel", "rankOf", "(I)I"⟩ ∈ GW := gw_mk 39 (by decide +kernel) (by decide +kernel)
theorem w40 : Cond.selects "CoderTablesModel" ⟨"CoderTablesModel", "findHull", "(I)V"⟩ ⟨"CoderTablesModel", "findHull", "(I)V"⟩ ∈ GW := gw_mk 40 (by decide +kernel) (by decide +kernel)
theorem w41 : Cond.selects "CoderTablesModel" ⟨"CoderTablesModel", "isBest", "(II)Z"⟩ ⟨"CoderTablesModel", "isBest", "(II)Z"⟩ ∈ GW := gw_mk 41 (by decide +kernel) (by decide +kernel)
theorem w42 : Cond.selects "CoderTablesModel" ⟨"CoderTablesModel", "isSteeper", "(III)Z"⟩ ⟨"CoderTablesModel", "isSteeper", "(III)Z"⟩ ∈ GW := gw_mk 42 (by decide +kernel) (by decide +kernel)
theorem w43 : Cond.selects "CoderTablesModel" ⟨"CoderTablesModel", "noneOnHull", "(IIII)Z"⟩ ⟨"CoderTablesModel", "noneOnHull", "(IIII)Z"⟩ ∈ GW := gw_mk 43 (by decide +kernel) (by decide +kernel)
theorem w44 : Cond.selects "CoderTablesModel" ⟨"CoderTablesModel", "less", "(II)I"⟩ ⟨"CoderTablesModel", "less", "(II)I"⟩ ∈ GW := gw_mk 44 (by decide +kernel) (by decide +kernel)
theorem w45 : Cond.selects "CoderTablesModel" ⟨"CoderTablesModel", "areBoth", "(III)Z"⟩ ⟨"CoderTablesModel", "areBoth", "(III)Z"⟩ ∈ GW := gw_mk 45 (by decide +kernel) (by decide +kernel)
theorem w46 : Cond.selects "CoderTablesModel" ⟨"CoderTablesModel", "draw", "(I)I"⟩ ⟨"CoderTablesModel", "draw", "(I)I"⟩ ∈ GW := gw_mk 46 (by decide +kernel) (by decide +kernel)
theorem w47 : Cond.selects "CoderTablesModel" ⟨"CoderTablesModel", "both", "(III)I"⟩ ⟨"CoderTablesModel", "both", "(III)I"⟩ ∈ GW := gw_mk 47 (by decide +kernel) (by decide +kernel)
theorem w48 : Cond.selects "CoderTablesModel" ⟨"CoderTablesModel", "fillPair", "(I)V"⟩ ⟨"CoderTablesModel", "fillPair", "(I)V"⟩ ∈ GW := gw_mk 48 (by decide +kernel) (by decide +kernel)
theorem w49 : Cond.selects "CoderTablesModel" ⟨"CoderTablesModel", "points", "()I"⟩ ⟨"CoderTablesModel", "points", "()I"⟩ ∈ GW := gw_mk 49 (by decide +kernel) (by decide +kernel)
theorem w50 : Cond.selects "CoderTablesModel" ⟨"CoderTablesModel", "typeNumber", "(J)V"⟩ ⟨"CoderTablesModel", "typeNumber", "(J)V"⟩ ∈ GW := gw_mk 50 (by decide +kernel) (by decide +kernel)
theorem w51 : Cond.selects "CoderTablesModel" ⟨"CoderTablesModel", "type", "(I)V"⟩ ⟨"CoderTablesModel", "type", "(I)V"⟩ ∈ GW := gw_mk 51 (by decide +kernel) (by decide +kernel)
theorem w52 : Cond.initialized "CoderTablesLaw" ∈ GW := gw_mk 52 (by decide +kernel) (by decide +kernel)
theorem w53 : Cond.initialized "CoderTables" ∈ GW := gw_mk 53 (by decide +kernel) (by decide +kernel)
theorem w54 : Cond.initialized "CoderTables$Numbers" ∈ GW := gw_mk 54 (by decide +kernel) (by decide +kernel)
theorem w55 : Cond.initialized "CoderTables$Lines" ∈ GW := gw_mk 55 (by decide +kernel) (by decide +kernel)
theorem w56 : Cond.initialized "CoderTablesModel" ∈ GW := gw_mk 56 (by decide +kernel) (by decide +kernel)
theorem w57 : Cond.initialized "java/lang/Throwable" ∈ GW := gw_mk 57 (by decide +kernel) (by decide +kernel)
theorem w58 : Cond.initialized "java/lang/Exception" ∈ GW := gw_mk 58 (by decide +kernel) (by decide +kernel)
theorem w59 : Cond.initialized "java/lang/RuntimeException" ∈ GW := gw_mk 59 (by decide +kernel) (by decide +kernel)
theorem w60 : Cond.initialized "java/lang/UnsupportedOperationException" ∈ GW := gw_mk 60 (by decide +kernel) (by decide +kernel)
theorem w61 : Cond.initialized "java/lang/IndexOutOfBoundsException" ∈ GW := gw_mk 61 (by decide +kernel) (by decide +kernel)
theorem w62 : Cond.initialized "java/lang/IllegalArgumentException" ∈ GW := gw_mk 62 (by decide +kernel) (by decide +kernel)
theorem w63 : Cond.initialized "java/lang/IllegalStateException" ∈ GW := gw_mk 63 (by decide +kernel) (by decide +kernel)
theorem w64 : Cond.initialized "java/lang/Long" ∈ GW := gw_mk 64 (by decide +kernel) (by decide +kernel)
theorem w65 : Cond.initialized "java/lang/Math" ∈ GW := gw_mk 65 (by decide +kernel) (by decide +kernel)
theorem w66 : Cond.classLink "CoderTablesLaw" 8 "CoderTables" ∈ GW := gw_mk 66 (by decide +kernel) (by decide +kernel)
theorem w67 : Cond.instantiable "CoderTables" 14 ∈ GW := gw_mk 67 (by decide +kernel) (by decide +kernel)
theorem w68 : Cond.methodLink "CoderTablesLaw" 71 ⟨"CoderTables", "<init>", "()V"⟩ ∈ GW := gw_mk 68 (by decide +kernel) (by decide +kernel)
theorem w69 : Cond.instanceMethod ⟨"CoderTables", "<init>", "()V"⟩ ∈ GW := gw_mk 69 (by decide +kernel) (by decide +kernel)
theorem w70 : Cond.code ⟨"CoderTables", "<init>", "()V"⟩ prog_1_method_1_code 1 none ∈ GW := gw_mk 70 (by decide +kernel) (by decide +kernel)
theorem w71 : Cond.methodLink "CoderTables" 3 ⟨"java/lang/Object", "<init>", "()V"⟩ ∈ GW := gw_mk 71 (by decide +kernel) (by decide +kernel)
theorem w72 : Cond.instanceMethod ⟨"java/lang/Object", "<init>", "()V"⟩ ∈ GW := gw_mk 72 (by decide +kernel) (by decide +kernel)
theorem w73 : Cond.code ⟨"java/lang/Object", "<init>", "()V"⟩ object_method_1_code 1 none ∈ GW := gw_mk 73 (by decide +kernel) (by decide +kernel)
theorem w74 : Cond.classLink "CoderTables" 47 "CoderTables$Numbers" ∈ GW := gw_mk 74 (by decide +kernel) (by decide +kernel)
theorem w75 : Cond.instantiable "CoderTables$Numbers" 1 ∈ GW := gw_mk 75 (by decide +kernel) (by decide +kernel)
theorem w77 : Cond.instanceMethod ⟨"CoderTables$Numbers", "<init>", "()V"⟩ ∈ GW := gw_mk 77 (by decide +kernel) (by decide +kernel)
theorem w78 : Cond.code ⟨"CoderTables$Numbers", "<init>", "()V"⟩ prog_3_method_1_code 1 none ∈ GW := gw_mk 78 (by decide +kernel) (by decide +kernel)
theorem w79 : Cond.methodLink "CoderTables$Numbers" 1 ⟨"java/lang/Object", "<init>", "()V"⟩ ∈ GW := gw_mk 79 (by decide +kernel) (by decide +kernel)
theorem w80 : Cond.fieldLink "CoderTables$Numbers" 7 "CoderTables$Numbers" "last" "J" ∈ GW := gw_mk 80 (by decide +kernel) (by decide +kernel)
theorem w84 : Cond.arrayClass .int ∈ GW := gw_mk 84 (by decide +kernel) (by decide +kernel)
theorem w85 : Cond.classLink "CoderTables" 54 "CoderTables$Lines" ∈ GW := gw_mk 85 (by decide +kernel) (by decide +kernel)
theorem w86 : Cond.instantiable "CoderTables$Lines" 2 ∈ GW := gw_mk 86 (by decide +kernel) (by decide +kernel)
theorem w88 : Cond.instanceMethod ⟨"CoderTables$Lines", "<init>", "()V"⟩ ∈ GW := gw_mk 88 (by decide +kernel) (by decide +kernel)
theorem w89 : Cond.code ⟨"CoderTables$Lines", "<init>", "()V"⟩ prog_2_method_1_code 1 none ∈ GW := gw_mk 89 (by decide +kernel) (by decide +kernel)
theorem w90 : Cond.methodLink "CoderTables$Lines" 3 ⟨"java/lang/Object", "<init>", "()V"⟩ ∈ GW := gw_mk 90 (by decide +kernel) (by decide +kernel)
theorem w91 : Cond.fieldLink "CoderTables$Lines" 11 "CoderTables$Lines" "chars" "[C" ∈ GW := gw_mk 91 (by decide +kernel) (by decide +kernel)
theorem w93 : Cond.fieldLink "CoderTables$Lines" 15 "CoderTables$Lines" "length" "I" ∈ GW := gw_mk 93 (by decide +kernel) (by decide +kernel)
theorem w100 : Cond.arrayClass .char ∈ GW := gw_mk 100 (by decide +kernel) (by decide +kernel)
theorem w101 : Cond.fieldLink "CoderTables" 9 "CoderTables" "coders" "I" ∈ GW := gw_mk 101 (by decide +kernel) (by decide +kernel)
theorem w102 : Cond.fieldLink "CoderTables" 13 "CoderTables" "pictures" "I" ∈ GW := gw_mk 102 (by decide +kernel) (by decide +kernel)
theorem w103 : Cond.fieldLink "CoderTables" 16 "CoderTables" "pointCounts" "[I" ∈ GW := gw_mk 103 (by decide +kernel) (by decide +kernel)
theorem w104 : Cond.fieldLink "CoderTables" 20 "CoderTables" "leastBytes" "[I" ∈ GW := gw_mk 104 (by decide +kernel) (by decide +kernel)
theorem w105 : Cond.fieldLink "CoderTables" 23 "CoderTables" "pointBytes" "[I" ∈ GW := gw_mk 105 (by decide +kernel) (by decide +kernel)
theorem w106 : Cond.fieldLink "CoderTables" 26 "CoderTables" "pointErrors" "[I" ∈ GW := gw_mk 106 (by decide +kernel) (by decide +kernel)
theorem w107 : Cond.fieldLink "CoderTables" 29 "CoderTables" "failedPairs" "[I" ∈ GW := gw_mk 107 (by decide +kernel) (by decide +kernel)
theorem w108 : Cond.fieldLink "CoderTables" 32 "CoderTables" "failedCount" "I" ∈ GW := gw_mk 108 (by decide +kernel) (by decide +kernel)
theorem w109 : Cond.fieldLink "CoderTables" 35 "CoderTables" "hullSlots" "[I" ∈ GW := gw_mk 109 (by decide +kernel) (by decide +kernel)
theorem w110 : Cond.fieldLink "CoderTables" 38 "CoderTables" "hullSize" "I" ∈ GW := gw_mk 110 (by decide +kernel) (by decide +kernel)
theorem w111 : Cond.fieldLink "CoderTables" 41 "CoderTables" "leads" "[I" ∈ GW := gw_mk 111 (by decide +kernel) (by decide +kernel)
theorem w112 : Cond.fieldLink "CoderTables" 44 "CoderTables" "leadCount" "I" ∈ GW := gw_mk 112 (by decide +kernel) (by decide +kernel)
theorem w113 : Cond.fieldLink "CoderTables" 50 "CoderTables" "numbers" "LCoderTables$Numbers;" ∈ GW := gw_mk 113 (by decide +kernel) (by decide +kernel)
theorem w114 : Cond.fieldLink "CoderTables" 57 "CoderTables" "lines" "LCoderTables$Lines;" ∈ GW := gw_mk 114 (by decide +kernel) (by decide +kernel)
theorem w144 : Cond.methodLink "CoderTablesLaw" 95 ⟨"CoderTables", "failed", "()I"⟩ ∈ GW := gw_mk 144 (by decide +kernel) (by decide +kernel)
theorem w145 : Cond.instanceMethod ⟨"CoderTables", "failed", "()I"⟩ ∈ GW := gw_mk 145 (by decide +kernel) (by decide +kernel)
theorem w146 : Cond.selects "CoderTables" ⟨"CoderTables", "failed", "()I"⟩ ⟨"CoderTables", "failed", "()I"⟩ ∈ GW := gw_mk 146 (by decide +kernel) (by decide +kernel)
theorem w147 : Cond.code ⟨"CoderTables", "failed", "()I"⟩ prog_1_method_6_code 1 (some .int) ∈ GW := gw_mk 147 (by decide +kernel) (by decide +kernel)
theorem w148 : Cond.methodLink "CoderTablesLaw" 136 ⟨"CoderTables", "fill", "(J)I"⟩ ∈ GW := gw_mk 148 (by decide +kernel) (by decide +kernel)
theorem w149 : Cond.instanceMethod ⟨"CoderTables", "fill", "(J)I"⟩ ∈ GW := gw_mk 149 (by decide +kernel) (by decide +kernel)
theorem w150 : Cond.selects "CoderTables" ⟨"CoderTables", "fill", "(J)I"⟩ ⟨"CoderTables", "fill", "(J)I"⟩ ∈ GW := gw_mk 150 (by decide +kernel) (by decide +kernel)
theorem w151 : Cond.code ⟨"CoderTables", "fill", "(J)I"⟩ prog_1_method_17_code 6 (some .int) ∈ GW := gw_mk 151 (by decide +kernel) (by decide +kernel)
theorem w152 : Cond.methodLink "CoderTables" 184 ⟨"CoderTables", "emptyPairs", "()V"⟩ ∈ GW := gw_mk 152 (by decide +kernel) (by decide +kernel)
theorem w154 : Cond.instanceMethod ⟨"CoderTables", "emptyPairs", "()V"⟩ ∈ GW := gw_mk 154 (by decide +kernel) (by decide +kernel)
theorem w155 : Cond.code ⟨"CoderTables", "emptyPairs", "()V"⟩ prog_1_method_29_code 2 none ∈ GW := gw_mk 155 (by decide +kernel) (by decide +kernel)
theorem w158 : Cond.instanceMethod ⟨"CoderTables$Numbers", "start", "(J)V"⟩ ∈ GW := gw_mk 158 (by decide +kernel) (by decide +kernel)
theorem w159 : Cond.code ⟨"CoderTables$Numbers", "start", "(J)V"⟩ prog_3_method_2_code 3 none ∈ GW := gw_mk 159 (by decide +kernel) (by decide +kernel)
theorem w160 : Cond.methodLink "CoderTables" 187 ⟨"CoderTables", "fillPair", "(I)I"⟩ ∈ GW := gw_mk 160 (by decide +kernel) (by decide +kernel)
theorem w162 : Cond.instanceMethod ⟨"CoderTables", "fillPair", "(I)I"⟩ ∈ GW := gw_mk 162 (by decide +kernel) (by decide +kernel)
theorem w163 : Cond.code ⟨"CoderTables", "fillPair", "(I)I"⟩ prog_1_method_30_code 6 (some .int) ∈ GW := gw_mk 163 (by decide +kernel) (by decide +kernel)
theorem w166 : Cond.instanceMethod ⟨"CoderTables$Numbers", "below", "(I)I"⟩ ∈ GW := gw_mk 166 (by decide +kernel) (by decide +kernel)
theorem w167 : Cond.code ⟨"CoderTables$Numbers", "below", "(I)I"⟩ prog_3_method_3_code 2 (some .int) ∈ GW := gw_mk 167 (by decide +kernel) (by decide +kernel)
theorem w168 : Cond.constantLong "CoderTables$Numbers" 13 (6364136223846793005) ∈ GW := gw_mk 168 (by decide +kernel) (by decide +kernel)
theorem w169 : Cond.constantLong "CoderTables$Numbers" 15 (1442695040888963407) ∈ GW := gw_mk 169 (by decide +kernel) (by decide +kernel)
theorem w170 : Cond.methodLink "CoderTables" 95 ⟨"CoderTables", "markFailed", "(I)V"⟩ ∈ GW := gw_mk 170 (by decide +kernel) (by decide +kernel)
theorem w172 : Cond.instanceMethod ⟨"CoderTables", "markFailed", "(I)V"⟩ ∈ GW := gw_mk 172 (by decide +kernel) (by decide +kernel)
theorem w173 : Cond.code ⟨"CoderTables", "markFailed", "(I)V"⟩ prog_1_method_28_code 2 none ∈ GW := gw_mk 173 (by decide +kernel) (by decide +kernel)
theorem w174 : Cond.methodLink "CoderTables" 89 ⟨"CoderTables", "addPoint", "(III)V"⟩ ∈ GW := gw_mk 174 (by decide +kernel) (by decide +kernel)
theorem w176 : Cond.instanceMethod ⟨"CoderTables", "addPoint", "(III)V"⟩ ∈ GW := gw_mk 176 (by decide +kernel) (by decide +kernel)
theorem w177 : Cond.code ⟨"CoderTables", "addPoint", "(III)V"⟩ prog_1_method_27_code 6 none ∈ GW := gw_mk 177 (by decide +kernel) (by decide +kernel)
theorem w178 : Cond.methodLink "CoderTablesLaw" 141 ⟨"CoderTables", "text", "()I"⟩ ∈ GW := gw_mk 178 (by decide +kernel) (by decide +kernel)
theorem w179 : Cond.instanceMethod ⟨"CoderTables", "text", "()I"⟩ ∈ GW := gw_mk 179 (by decide +kernel) (by decide +kernel)
theorem w180 : Cond.selects "CoderTables" ⟨"CoderTables", "text", "()I"⟩ ⟨"CoderTables", "text", "()I"⟩ ∈ GW := gw_mk 180 (by decide +kernel) (by decide +kernel)
theorem w181 : Cond.code ⟨"CoderTables", "text", "()I"⟩ prog_1_method_18_code 2 (some .int) ∈ GW := gw_mk 181 (by decide +kernel) (by decide +kernel)
theorem w184 : Cond.instanceMethod ⟨"CoderTables$Lines", "start", "()V"⟩ ∈ GW := gw_mk 184 (by decide +kernel) (by decide +kernel)
theorem w185 : Cond.code ⟨"CoderTables$Lines", "start", "()V"⟩ prog_2_method_2_code 1 none ∈ GW := gw_mk 185 (by decide +kernel) (by decide +kernel)
theorem w188 : Cond.instanceMethod ⟨"CoderTables$Lines", "putNumber", "(J)V"⟩ ∈ GW := gw_mk 188 (by decide +kernel) (by decide +kernel)
theorem w189 : Cond.code ⟨"CoderTables$Lines", "putNumber", "(J)V"⟩ prog_2_method_4_code 6 none ∈ GW := gw_mk 189 (by decide +kernel) (by decide +kernel)
theorem w190 : Cond.constantLong "CoderTables$Lines" 19 (10) ∈ GW := gw_mk 190 (by decide +kernel) (by decide +kernel)
theorem w191 : Cond.constantLong "CoderTables$Lines" 21 (48) ∈ GW := gw_mk 191 (by decide +kernel) (by decide +kernel)
theorem w192 : Cond.methodLink "CoderTables$Lines" 23 ⟨"CoderTables$Lines", "put", "(C)V"⟩ ∈ GW := gw_mk 192 (by decide +kernel) (by decide +kernel)
theorem w194 : Cond.instanceMethod ⟨"CoderTables$Lines", "put", "(C)V"⟩ ∈ GW := gw_mk 194 (by decide +kernel) (by decide +kernel)
theorem w195 : Cond.code ⟨"CoderTables$Lines", "put", "(C)V"⟩ prog_2_method_3_code 2 none ∈ GW := gw_mk 195 (by decide +kernel) (by decide +kernel)
theorem w197 : Cond.methodLink "CoderTables" 117 ⟨"CoderTables", "countedOf", "(I)I"⟩ ∈ GW := gw_mk 197 (by decide +kernel) (by decide +kernel)
theorem w199 : Cond.instanceMethod ⟨"CoderTables", "countedOf", "(I)I"⟩ ∈ GW := gw_mk 199 (by decide +kernel) (by decide +kernel)
theorem w200 : Cond.code ⟨"CoderTables", "countedOf", "(I)I"⟩ prog_1_method_34_code 4 (some .int) ∈ GW := gw_mk 200 (by decide +kernel) (by decide +kernel)
theorem w201 : Cond.methodLink "CoderTables" 224 ⟨"CoderTables", "isCounted", "(I)Z"⟩ ∈ GW := gw_mk 201 (by decide +kernel) (by decide +kernel)
theorem w203 : Cond.instanceMethod ⟨"CoderTables", "isCounted", "(I)Z"⟩ ∈ GW := gw_mk 203 (by decide +kernel) (by decide +kernel)
theorem w204 : Cond.code ⟨"CoderTables", "isCounted", "(I)Z"⟩ prog_1_method_26_code 2 (some .boolean) ∈ GW := gw_mk 204 (by decide +kernel) (by decide +kernel)
theorem w205 : Cond.methodLink "CoderTables" 123 ⟨"CoderTables", "sumOf", "(I)J"⟩ ∈ GW := gw_mk 205 (by decide +kernel) (by decide +kernel)
theorem w207 : Cond.instanceMethod ⟨"CoderTables", "sumOf", "(I)J"⟩ ∈ GW := gw_mk 207 (by decide +kernel) (by decide +kernel)
theorem w208 : Cond.code ⟨"CoderTables", "sumOf", "(I)J"⟩ prog_1_method_35_code 6 (some .long) ∈ GW := gw_mk 208 (by decide +kernel) (by decide +kernel)
theorem w209 : Cond.methodLink "CoderTables" 134 ⟨"CoderTables", "rankOf", "(I)I"⟩ ∈ GW := gw_mk 209 (by decide +kernel) (by decide +kernel)
theorem w211 : Cond.instanceMethod ⟨"CoderTables", "rankOf", "(I)I"⟩ ∈ GW := gw_mk 211 (by decide +kernel) (by decide +kernel)
theorem w212 : Cond.code ⟨"CoderTables", "rankOf", "(I)I"⟩ prog_1_method_36_code 12 (some .int) ∈ GW := gw_mk 212 (by decide +kernel) (by decide +kernel)
theorem w213 : Cond.methodLink "CoderTables" 228 ⟨"java/lang/Long", "compare", "(JJ)I"⟩ ∈ GW := gw_mk 213 (by decide +kernel) (by decide +kernel)
theorem w214 : Cond.static ⟨"java/lang/Long", "compare", "(JJ)I"⟩ ∈ GW := gw_mk 214 (by decide +kernel) (by decide +kernel)
theorem w215 : Cond.code ⟨"java/lang/Long", "compare", "(JJ)I"⟩ prog_10_method_42_code 4 (some .int) ∈ GW := gw_mk 215 (by decide +kernel) (by decide +kernel)
theorem w216 : Cond.methodLink "CoderTablesLaw" 148 ⟨"CoderTables", "told", "(I)I"⟩ ∈ GW := gw_mk 216 (by decide +kernel) (by decide +kernel)
theorem w217 : Cond.instanceMethod ⟨"CoderTables", "told", "(I)I"⟩ ∈ GW := gw_mk 217 (by decide +kernel) (by decide +kernel)
theorem w218 : Cond.selects "CoderTables" ⟨"CoderTables", "told", "(I)I"⟩ ⟨"CoderTables", "told", "(I)I"⟩ ∈ GW := gw_mk 218 (by decide +kernel) (by decide +kernel)
theorem w219 : Cond.code ⟨"CoderTables", "told", "(I)I"⟩ prog_1_method_20_code 2 (some .int) ∈ GW := gw_mk 219 (by decide +kernel) (by decide +kernel)
theorem w220 : Cond.methodLink "CoderTables" 208 ⟨"CoderTables", "allPoints", "()I"⟩ ∈ GW := gw_mk 220 (by decide +kernel) (by decide +kernel)
theorem w222 : Cond.instanceMethod ⟨"CoderTables", "allPoints", "()I"⟩ ∈ GW := gw_mk 222 (by decide +kernel) (by decide +kernel)
theorem w223 : Cond.code ⟨"CoderTables", "allPoints", "()I"⟩ prog_1_method_31_code 3 (some .int) ∈ GW := gw_mk 223 (by decide +kernel) (by decide +kernel)
theorem w224 : Cond.methodLink "CoderTables" 212 ⟨"CoderTables", "allCounted", "()I"⟩ ∈ GW := gw_mk 224 (by decide +kernel) (by decide +kernel)
theorem w226 : Cond.instanceMethod ⟨"CoderTables", "allCounted", "()I"⟩ ∈ GW := gw_mk 226 (by decide +kernel) (by decide +kernel)
theorem w227 : Cond.code ⟨"CoderTables", "allCounted", "()I"⟩ prog_1_method_32_code 3 (some .int) ∈ GW := gw_mk 227 (by decide +kernel) (by decide +kernel)
theorem w228 : Cond.methodLink "CoderTablesLaw" 152 ⟨"CoderTables", "clear", "()V"⟩ ∈ GW := gw_mk 228 (by decide +kernel) (by decide +kernel)
theorem w229 : Cond.instanceMethod ⟨"CoderTables", "clear", "()V"⟩ ∈ GW := gw_mk 229 (by decide +kernel) (by decide +kernel)
theorem w230 : Cond.selects "CoderTables" ⟨"CoderTables", "clear", "()V"⟩ ⟨"CoderTables", "clear", "()V"⟩ ∈ GW := gw_mk 230 (by decide +kernel) (by decide +kernel)
theorem w231 : Cond.code ⟨"CoderTables", "clear", "()V"⟩ prog_1_method_21_code 1 none ∈ GW := gw_mk 231 (by decide +kernel) (by decide +kernel)
theorem w232 : Cond.methodLink "CoderTablesLaw" 75 ⟨"CoderTablesLaw", "coder", "(LCoderTables;[J)I"⟩ ∈ GW := gw_mk 232 (by decide +kernel) (by decide +kernel)
theorem w233 : Cond.static ⟨"CoderTablesLaw", "coder", "(LCoderTables;[J)I"⟩ ∈ GW := gw_mk 233 (by decide +kernel) (by decide +kernel)
theorem w234 : Cond.codeWith ⟨"CoderTablesLaw", "coder", "(LCoderTables;[J)I"⟩ method_3_code 3 (some .int) [(0, 8, 11, 13)] ∈ GW := gw_mk 234 (by decide +kernel) (by decide +kernel)
theorem w235 : Cond.classLink "CoderTablesLaw" 13 "java/lang/UnsupportedOperationException" ∈ GW := gw_mk 235 (by decide +kernel) (by decide +kernel)
theorem w236 : Cond.methodLink "CoderTablesLaw" 7 ⟨"CoderTables", "coder", "()I"⟩ ∈ GW := gw_mk 236 (by decide +kernel) (by decide +kernel)
theorem w237 : Cond.instanceMethod ⟨"CoderTables", "coder", "()I"⟩ ∈ GW := gw_mk 237 (by decide +kernel) (by decide +kernel)
theorem w238 : Cond.selects "CoderTables" ⟨"CoderTables", "coder", "()I"⟩ ⟨"CoderTables", "coder", "()I"⟩ ∈ GW := gw_mk 238 (by decide +kernel) (by decide +kernel)
theorem w239 : Cond.code ⟨"CoderTables", "coder", "()I"⟩ prog_1_method_2_code 1 (some .int) ∈ GW := gw_mk 239 (by decide +kernel) (by decide +kernel)
theorem w240 : Cond.classLink "CoderTables" 61 "java/lang/UnsupportedOperationException" ∈ GW := gw_mk 240 (by decide +kernel) (by decide +kernel)
theorem w241 : Cond.instantiable "java/lang/UnsupportedOperationException" 6 ∈ GW := gw_mk 241 (by decide +kernel) (by decide +kernel)
theorem w249 : Cond.selects "java/lang/UnsupportedOperationException" ⟨"java/lang/Throwable", "fillInStackTrace", "(I)Ljava/lang/Throwable;"⟩ ⟨"java/lang/Throwable", "fillInStackTrace", "(I)Ljava/lang/Throwable;"⟩ ∈ GW := gw_mk 249 (by decide +kernel) (by decide +kernel)
theorem w250 : Cond.selects "java/lang/UnsupportedOperationException" ⟨"java/lang/Throwable", "fillInStackTrace", "()Ljava/lang/Throwable;"⟩ ⟨"java/lang/Throwable", "fillInStackTrace", "()Ljava/lang/Throwable;"⟩ ∈ GW := gw_mk 250 (by decide +kernel) (by decide +kernel)
theorem w261 : Cond.fieldLink "java/lang/Throwable" 198 "java/lang/Throwable" "backtrace" "Ljava/lang/Object;" ∈ GW := gw_mk 261 (by decide +kernel) (by decide +kernel)
theorem w263 : Cond.instanceMethod ⟨"java/lang/Throwable", "<init>", "()V"⟩ ∈ GW := gw_mk 263 (by decide +kernel) (by decide +kernel)
theorem w264 : Cond.code ⟨"java/lang/Throwable", "<init>", "()V"⟩ prog_14_method_1_code 1 none ∈ GW := gw_mk 264 (by decide +kernel) (by decide +kernel)
theorem w265 : Cond.methodLink "java/lang/Throwable" 1 ⟨"java/lang/Object", "<init>", "()V"⟩ ∈ GW := gw_mk 265 (by decide +kernel) (by decide +kernel)
theorem w266 : Cond.fieldLink "java/lang/Throwable" 13 "java/lang/Throwable" "UNASSIGNED_STACK" "[Ljava/lang/StackTraceElement;" ∈ GW := gw_mk 266 (by decide +kernel) (by decide +kernel)
theorem w268 : Cond.fieldLink "java/lang/Throwable" 20 "java/lang/Throwable" "SUPPRESSED_SENTINEL" "Ljava/util/List;" ∈ GW := gw_mk 268 (by decide +kernel) (by decide +kernel)
theorem w270 : Cond.methodLink "java/lang/Throwable" 27 ⟨"java/lang/Throwable", "fillInStackTrace", "()Ljava/lang/Throwable;"⟩ ∈ GW := gw_mk 270 (by decide +kernel) (by decide +kernel)
theorem w271 : Cond.instanceMethod ⟨"java/lang/Throwable", "fillInStackTrace", "()Ljava/lang/Throwable;"⟩ ∈ GW := gw_mk 271 (by decide +kernel) (by decide +kernel)
theorem w273 : Cond.selects "java/lang/IllegalArgumentException" ⟨"java/lang/Throwable", "fillInStackTrace", "()Ljava/lang/Throwable;"⟩ ⟨"java/lang/Throwable", "fillInStackTrace", "()Ljava/lang/Throwable;"⟩ ∈ GW := gw_mk 273 (by decide +kernel) (by decide +kernel)
theorem w274 : Cond.selects "java/lang/IllegalStateException" ⟨"java/lang/Throwable", "fillInStackTrace", "()Ljava/lang/Throwable;"⟩ ⟨"java/lang/Throwable", "fillInStackTrace", "()Ljava/lang/Throwable;"⟩ ∈ GW := gw_mk 274 (by decide +kernel) (by decide +kernel)
theorem w275 : Cond.selects "java/lang/IndexOutOfBoundsException" ⟨"java/lang/Throwable", "fillInStackTrace", "()Ljava/lang/Throwable;"⟩ ⟨"java/lang/Throwable", "fillInStackTrace", "()Ljava/lang/Throwable;"⟩ ∈ GW := gw_mk 275 (by decide +kernel) (by decide +kernel)
theorem w277 : Cond.methodLink "java/lang/Throwable" 202 ⟨"java/lang/Throwable", "fillInStackTrace", "(I)Ljava/lang/Throwable;"⟩ ∈ GW := gw_mk 277 (by decide +kernel) (by decide +kernel)
theorem w279 : Cond.instanceMethod ⟨"java/lang/Throwable", "fillInStackTrace", "(I)Ljava/lang/Throwable;"⟩ ∈ GW := gw_mk 279 (by decide +kernel) (by decide +kernel)
theorem w280 : Cond.instantiable "java/lang/Throwable" 6 ∈ GW := gw_mk 280 (by decide +kernel) (by decide +kernel)
theorem w283 : Cond.methodLink "CoderTables" 65 ⟨"java/lang/UnsupportedOperationException", "<init>", "(Ljava/lang/String;)V"⟩ ∈ GW := gw_mk 283 (by decide +kernel) (by decide +kernel)
theorem w284 : Cond.instanceMethod ⟨"java/lang/UnsupportedOperationException", "<init>", "(Ljava/lang/String;)V"⟩ ∈ GW := gw_mk 284 (by decide +kernel) (by decide +kernel)
theorem w285 : Cond.code ⟨"java/lang/UnsupportedOperationException", "<init>", "(Ljava/lang/String;)V"⟩ prog_15_method_2_code 2 none ∈ GW := gw_mk 285 (by decide +kernel) (by decide +kernel)
theorem w286 : Cond.methodLink "java/lang/UnsupportedOperationException" 7 ⟨"java/lang/RuntimeException", "<init>", "(Ljava/lang/String;)V"⟩ ∈ GW := gw_mk 286 (by decide +kernel) (by decide +kernel)
theorem w287 : Cond.instanceMethod ⟨"java/lang/RuntimeException", "<init>", "(Ljava/lang/String;)V"⟩ ∈ GW := gw_mk 287 (by decide +kernel) (by decide +kernel)
theorem w288 : Cond.code ⟨"java/lang/RuntimeException", "<init>", "(Ljava/lang/String;)V"⟩ prog_12_method_2_code 2 none ∈ GW := gw_mk 288 (by decide +kernel) (by decide +kernel)
theorem w289 : Cond.methodLink "java/lang/RuntimeException" 7 ⟨"java/lang/Exception", "<init>", "(Ljava/lang/String;)V"⟩ ∈ GW := gw_mk 289 (by decide +kernel) (by decide +kernel)
theorem w290 : Cond.instanceMethod ⟨"java/lang/Exception", "<init>", "(Ljava/lang/String;)V"⟩ ∈ GW := gw_mk 290 (by decide +kernel) (by decide +kernel)
theorem w291 : Cond.code ⟨"java/lang/Exception", "<init>", "(Ljava/lang/String;)V"⟩ prog_6_method_2_code 2 none ∈ GW := gw_mk 291 (by decide +kernel) (by decide +kernel)
theorem w292 : Cond.methodLink "java/lang/Exception" 7 ⟨"java/lang/Throwable", "<init>", "(Ljava/lang/String;)V"⟩ ∈ GW := gw_mk 292 (by decide +kernel) (by decide +kernel)
theorem w293 : Cond.instanceMethod ⟨"java/lang/Throwable", "<init>", "(Ljava/lang/String;)V"⟩ ∈ GW := gw_mk 293 (by decide +kernel) (by decide +kernel)
theorem w294 : Cond.code ⟨"java/lang/Throwable", "<init>", "(Ljava/lang/String;)V"⟩ prog_14_method_2_code 2 none ∈ GW := gw_mk 294 (by decide +kernel) (by decide +kernel)
theorem w296 : Cond.fieldLink "java/lang/Throwable" 31 "java/lang/Throwable" "detailMessage" "Ljava/lang/String;" ∈ GW := gw_mk 296 (by decide +kernel) (by decide +kernel)
theorem w297 : Cond.fieldLink "java/lang/Throwable" 7 "java/lang/Throwable" "cause" "Ljava/lang/Throwable;" ∈ GW := gw_mk 297 (by decide +kernel) (by decide +kernel)
theorem w298 : Cond.fieldLink "java/lang/Throwable" 17 "java/lang/Throwable" "stackTrace" "[Ljava/lang/StackTraceElement;" ∈ GW := gw_mk 298 (by decide +kernel) (by decide +kernel)
theorem w299 : Cond.fieldLink "java/lang/Throwable" 24 "java/lang/Throwable" "suppressedExceptions" "Ljava/util/List;" ∈ GW := gw_mk 299 (by decide +kernel) (by decide +kernel)
theorem w308 : Cond.arrayClass .byte ∈ GW := gw_mk 308 (by decide +kernel) (by decide +kernel)
theorem w309 : Cond.methodLink "CoderTablesLaw" 84 ⟨"CoderTablesLaw", "picture", "(LCoderTables;[J)I"⟩ ∈ GW := gw_mk 309 (by decide +kernel) (by decide +kernel)
theorem w310 : Cond.static ⟨"CoderTablesLaw", "picture", "(LCoderTables;[J)I"⟩ ∈ GW := gw_mk 310 (by decide +kernel) (by decide +kernel)
theorem w311 : Cond.codeWith ⟨"CoderTablesLaw", "picture", "(LCoderTables;[J)I"⟩ method_4_code 3 (some .int) [(0, 8, 11, 13)] ∈ GW := gw_mk 311 (by decide +kernel) (by decide +kernel)
theorem w312 : Cond.methodLink "CoderTablesLaw" 15 ⟨"CoderTables", "picture", "()I"⟩ ∈ GW := gw_mk 312 (by decide +kernel) (by decide +kernel)
theorem w313 : Cond.instanceMethod ⟨"CoderTables", "picture", "()I"⟩ ∈ GW := gw_mk 313 (by decide +kernel) (by decide +kernel)
theorem w314 : Cond.selects "CoderTables" ⟨"CoderTables", "picture", "()I"⟩ ⟨"CoderTables", "picture", "()I"⟩ ∈ GW := gw_mk 314 (by decide +kernel) (by decide +kernel)
theorem w315 : Cond.code ⟨"CoderTables", "picture", "()I"⟩ prog_1_method_3_code 1 (some .int) ∈ GW := gw_mk 315 (by decide +kernel) (by decide +kernel)
theorem w317 : Cond.methodLink "CoderTablesLaw" 87 ⟨"CoderTablesLaw", "point", "(LCoderTables;IIII[J)I"⟩ ∈ GW := gw_mk 317 (by decide +kernel) (by decide +kernel)
theorem w318 : Cond.static ⟨"CoderTablesLaw", "point", "(LCoderTables;IIII[J)I"⟩ ∈ GW := gw_mk 318 (by decide +kernel) (by decide +kernel)
theorem w319 : Cond.codeWith ⟨"CoderTablesLaw", "point", "(LCoderTables;IIII[J)I"⟩ method_5_code 7 (some .int) [(0, 14, 17, 22), (0, 14, 21, 24), (0, 14, 25, 26), (0, 14, 29, 13)] ∈ GW := gw_mk 319 (by decide +kernel) (by decide +kernel)
theorem w320 : Cond.classLink "CoderTablesLaw" 22 "java/lang/IndexOutOfBoundsException" ∈ GW := gw_mk 320 (by decide +kernel) (by decide +kernel)
theorem w321 : Cond.classLink "CoderTablesLaw" 24 "java/lang/IllegalArgumentException" ∈ GW := gw_mk 321 (by decide +kernel) (by decide +kernel)
theorem w322 : Cond.classLink "CoderTablesLaw" 26 "java/lang/IllegalStateException" ∈ GW := gw_mk 322 (by decide +kernel) (by decide +kernel)
theorem w323 : Cond.methodLink "CoderTablesLaw" 18 ⟨"CoderTables", "point", "(IIII)I"⟩ ∈ GW := gw_mk 323 (by decide +kernel) (by decide +kernel)
theorem w324 : Cond.instanceMethod ⟨"CoderTables", "point", "(IIII)I"⟩ ∈ GW := gw_mk 324 (by decide +kernel) (by decide +kernel)
theorem w325 : Cond.selects "CoderTables" ⟨"CoderTables", "point", "(IIII)I"⟩ ⟨"CoderTables", "point", "(IIII)I"⟩ ∈ GW := gw_mk 325 (by decide +kernel) (by decide +kernel)
theorem w326 : Cond.code ⟨"CoderTables", "point", "(IIII)I"⟩ prog_1_method_4_code 6 (some .int) ∈ GW := gw_mk 326 (by decide +kernel) (by decide +kernel)
theorem w327 : Cond.methodLink "CoderTables" 70 ⟨"CoderTables", "pairOf", "(II)I"⟩ ∈ GW := gw_mk 327 (by decide +kernel) (by decide +kernel)
theorem w329 : Cond.instanceMethod ⟨"CoderTables", "pairOf", "(II)I"⟩ ∈ GW := gw_mk 329 (by decide +kernel) (by decide +kernel)
theorem w330 : Cond.code ⟨"CoderTables", "pairOf", "(II)I"⟩ prog_1_method_25_code 3 (some .int) ∈ GW := gw_mk 330 (by decide +kernel) (by decide +kernel)
theorem w331 : Cond.methodLink "CoderTables" 114 ⟨"CoderTables", "needCoder", "(I)V"⟩ ∈ GW := gw_mk 331 (by decide +kernel) (by decide +kernel)
theorem w333 : Cond.instanceMethod ⟨"CoderTables", "needCoder", "(I)V"⟩ ∈ GW := gw_mk 333 (by decide +kernel) (by decide +kernel)
theorem w334 : Cond.code ⟨"CoderTables", "needCoder", "(I)V"⟩ prog_1_method_22_code 2 none ∈ GW := gw_mk 334 (by decide +kernel) (by decide +kernel)
theorem w335 : Cond.classLink "CoderTables" 99 "java/lang/IndexOutOfBoundsException" ∈ GW := gw_mk 335 (by decide +kernel) (by decide +kernel)
theorem w336 : Cond.instantiable "java/lang/IndexOutOfBoundsException" 6 ∈ GW := gw_mk 336 (by decide +kernel) (by decide +kernel)
theorem w338 : Cond.selects "java/lang/IndexOutOfBoundsException" ⟨"java/lang/Throwable", "fillInStackTrace", "(I)Ljava/lang/Throwable;"⟩ ⟨"java/lang/Throwable", "fillInStackTrace", "(I)Ljava/lang/Throwable;"⟩ ∈ GW := gw_mk 338 (by decide +kernel) (by decide +kernel)
theorem w345 : Cond.methodLink "CoderTables" 103 ⟨"java/lang/IndexOutOfBoundsException", "<init>", "(Ljava/lang/String;)V"⟩ ∈ GW := gw_mk 345 (by decide +kernel) (by decide +kernel)
theorem w346 : Cond.instanceMethod ⟨"java/lang/IndexOutOfBoundsException", "<init>", "(Ljava/lang/String;)V"⟩ ∈ GW := gw_mk 346 (by decide +kernel) (by decide +kernel)
theorem w347 : Cond.code ⟨"java/lang/IndexOutOfBoundsException", "<init>", "(Ljava/lang/String;)V"⟩ prog_9_method_2_code 2 none ∈ GW := gw_mk 347 (by decide +kernel) (by decide +kernel)
theorem w348 : Cond.methodLink "java/lang/IndexOutOfBoundsException" 7 ⟨"java/lang/RuntimeException", "<init>", "(Ljava/lang/String;)V"⟩ ∈ GW := gw_mk 348 (by decide +kernel) (by decide +kernel)
theorem w351 : Cond.methodLink "CoderTables" 106 ⟨"CoderTables", "needPicture", "(I)V"⟩ ∈ GW := gw_mk 351 (by decide +kernel) (by decide +kernel)
theorem w353 : Cond.instanceMethod ⟨"CoderTables", "needPicture", "(I)V"⟩ ∈ GW := gw_mk 353 (by decide +kernel) (by decide +kernel)
theorem w354 : Cond.code ⟨"CoderTables", "needPicture", "(I)V"⟩ prog_1_method_23_code 2 none ∈ GW := gw_mk 354 (by decide +kernel) (by decide +kernel)
theorem w356 : Cond.constant "CoderTables" 74 (1000000000) ∈ GW := gw_mk 356 (by decide +kernel) (by decide +kernel)
theorem w357 : Cond.classLink "CoderTables" 75 "java/lang/IllegalArgumentException" ∈ GW := gw_mk 357 (by decide +kernel) (by decide +kernel)
theorem w358 : Cond.instantiable "java/lang/IllegalArgumentException" 6 ∈ GW := gw_mk 358 (by decide +kernel) (by decide +kernel)
theorem w360 : Cond.selects "java/lang/IllegalArgumentException" ⟨"java/lang/Throwable", "fillInStackTrace", "(I)Ljava/lang/Throwable;"⟩ ⟨"java/lang/Throwable", "fillInStackTrace", "(I)Ljava/lang/Throwable;"⟩ ∈ GW := gw_mk 360 (by decide +kernel) (by decide +kernel)
theorem w367 : Cond.methodLink "CoderTables" 79 ⟨"java/lang/IllegalArgumentException", "<init>", "(Ljava/lang/String;)V"⟩ ∈ GW := gw_mk 367 (by decide +kernel) (by decide +kernel)
theorem w368 : Cond.instanceMethod ⟨"java/lang/IllegalArgumentException", "<init>", "(Ljava/lang/String;)V"⟩ ∈ GW := gw_mk 368 (by decide +kernel) (by decide +kernel)
theorem w369 : Cond.code ⟨"java/lang/IllegalArgumentException", "<init>", "(Ljava/lang/String;)V"⟩ prog_7_method_2_code 2 none ∈ GW := gw_mk 369 (by decide +kernel) (by decide +kernel)
theorem w370 : Cond.methodLink "java/lang/IllegalArgumentException" 7 ⟨"java/lang/RuntimeException", "<init>", "(Ljava/lang/String;)V"⟩ ∈ GW := gw_mk 370 (by decide +kernel) (by decide +kernel)
theorem w374 : Cond.classLink "CoderTables" 82 "java/lang/IllegalStateException" ∈ GW := gw_mk 374 (by decide +kernel) (by decide +kernel)
theorem w375 : Cond.instantiable "java/lang/IllegalStateException" 6 ∈ GW := gw_mk 375 (by decide +kernel) (by decide +kernel)
theorem w377 : Cond.selects "java/lang/IllegalStateException" ⟨"java/lang/Throwable", "fillInStackTrace", "(I)Ljava/lang/Throwable;"⟩ ⟨"java/lang/Throwable", "fillInStackTrace", "(I)Ljava/lang/Throwable;"⟩ ∈ GW := gw_mk 377 (by decide +kernel) (by decide +kernel)
theorem w384 : Cond.methodLink "CoderTables" 86 ⟨"java/lang/IllegalStateException", "<init>", "(Ljava/lang/String;)V"⟩ ∈ GW := gw_mk 384 (by decide +kernel) (by decide +kernel)
theorem w385 : Cond.instanceMethod ⟨"java/lang/IllegalStateException", "<init>", "(Ljava/lang/String;)V"⟩ ∈ GW := gw_mk 385 (by decide +kernel) (by decide +kernel)
theorem w386 : Cond.code ⟨"java/lang/IllegalStateException", "<init>", "(Ljava/lang/String;)V"⟩ prog_8_method_2_code 2 none ∈ GW := gw_mk 386 (by decide +kernel) (by decide +kernel)
theorem w387 : Cond.methodLink "java/lang/IllegalStateException" 7 ⟨"java/lang/RuntimeException", "<init>", "(Ljava/lang/String;)V"⟩ ∈ GW := gw_mk 387 (by decide +kernel) (by decide +kernel)
theorem w391 : Cond.methodLink "CoderTablesLaw" 91 ⟨"CoderTablesLaw", "fails", "(LCoderTables;II[J)I"⟩ ∈ GW := gw_mk 391 (by decide +kernel) (by decide +kernel)
theorem w392 : Cond.static ⟨"CoderTablesLaw", "fails", "(LCoderTables;II[J)I"⟩ ∈ GW := gw_mk 392 (by decide +kernel) (by decide +kernel)
theorem w393 : Cond.codeWith ⟨"CoderTablesLaw", "fails", "(LCoderTables;II[J)I"⟩ method_6_code 5 (some .int) [(0, 10, 13, 22), (0, 10, 17, 26)] ∈ GW := gw_mk 393 (by decide +kernel) (by decide +kernel)
theorem w394 : Cond.methodLink "CoderTablesLaw" 28 ⟨"CoderTables", "fails", "(II)I"⟩ ∈ GW := gw_mk 394 (by decide +kernel) (by decide +kernel)
theorem w395 : Cond.instanceMethod ⟨"CoderTables", "fails", "(II)I"⟩ ∈ GW := gw_mk 395 (by decide +kernel) (by decide +kernel)
theorem w396 : Cond.selects "CoderTables" ⟨"CoderTables", "fails", "(II)I"⟩ ⟨"CoderTables", "fails", "(II)I"⟩ ∈ GW := gw_mk 396 (by decide +kernel) (by decide +kernel)
theorem w397 : Cond.code ⟨"CoderTables", "fails", "(II)I"⟩ prog_1_method_5_code 5 (some .int) ∈ GW := gw_mk 397 (by decide +kernel) (by decide +kernel)
theorem w399 : Cond.methodLink "CoderTablesLaw" 99 ⟨"CoderTablesLaw", "failing", "(LCoderTables;II[J)I"⟩ ∈ GW := gw_mk 399 (by decide +kernel) (by decide +kernel)
theorem w400 : Cond.static ⟨"CoderTablesLaw", "failing", "(LCoderTables;II[J)I"⟩ ∈ GW := gw_mk 400 (by decide +kernel) (by decide +kernel)
theorem w401 : Cond.codeWith ⟨"CoderTablesLaw", "failing", "(LCoderTables;II[J)I"⟩ method_7_code 5 (some .int) [(0, 10, 13, 22), (0, 10, 17, 24)] ∈ GW := gw_mk 401 (by decide +kernel) (by decide +kernel)
theorem w402 : Cond.methodLink "CoderTablesLaw" 32 ⟨"CoderTables", "failing", "(II)I"⟩ ∈ GW := gw_mk 402 (by decide +kernel) (by decide +kernel)
theorem w403 : Cond.instanceMethod ⟨"CoderTables", "failing", "(II)I"⟩ ∈ GW := gw_mk 403 (by decide +kernel) (by decide +kernel)
theorem w404 : Cond.selects "CoderTables" ⟨"CoderTables", "failing", "(II)I"⟩ ⟨"CoderTables", "failing", "(II)I"⟩ ∈ GW := gw_mk 404 (by decide +kernel) (by decide +kernel)
theorem w405 : Cond.code ⟨"CoderTables", "failing", "(II)I"⟩ prog_1_method_7_code 4 (some .int) ∈ GW := gw_mk 405 (by decide +kernel) (by decide +kernel)
theorem w408 : Cond.methodLink "CoderTablesLaw" 102 ⟨"CoderTablesLaw", "least", "(LCoderTables;II[J)I"⟩ ∈ GW := gw_mk 408 (by decide +kernel) (by decide +kernel)
theorem w409 : Cond.static ⟨"CoderTablesLaw", "least", "(LCoderTables;II[J)I"⟩ ∈ GW := gw_mk 409 (by decide +kernel) (by decide +kernel)
theorem w410 : Cond.codeWith ⟨"CoderTablesLaw", "least", "(LCoderTables;II[J)I"⟩ method_8_code 5 (some .int) [(0, 10, 13, 22), (0, 10, 17, 24)] ∈ GW := gw_mk 410 (by decide +kernel) (by decide +kernel)
theorem w411 : Cond.methodLink "CoderTablesLaw" 35 ⟨"CoderTables", "least", "(II)I"⟩ ∈ GW := gw_mk 411 (by decide +kernel) (by decide +kernel)
theorem w412 : Cond.instanceMethod ⟨"CoderTables", "least", "(II)I"⟩ ∈ GW := gw_mk 412 (by decide +kernel) (by decide +kernel)
theorem w413 : Cond.selects "CoderTables" ⟨"CoderTables", "least", "(II)I"⟩ ⟨"CoderTables", "least", "(II)I"⟩ ∈ GW := gw_mk 413 (by decide +kernel) (by decide +kernel)
theorem w414 : Cond.code ⟨"CoderTables", "least", "(II)I"⟩ prog_1_method_8_code 7 (some .int) ∈ GW := gw_mk 414 (by decide +kernel) (by decide +kernel)
theorem w416 : Cond.methodLink "CoderTables" 111 ⟨"CoderTables", "leastBytesWithin", "(II)I"⟩ ∈ GW := gw_mk 416 (by decide +kernel) (by decide +kernel)
theorem w418 : Cond.instanceMethod ⟨"CoderTables", "leastBytesWithin", "(II)I"⟩ ∈ GW := gw_mk 418 (by decide +kernel) (by decide +kernel)
theorem w419 : Cond.code ⟨"CoderTables", "leastBytesWithin", "(II)I"⟩ prog_1_method_33_code 7 (some .int) ∈ GW := gw_mk 419 (by decide +kernel) (by decide +kernel)
theorem w420 : Cond.methodLink "CoderTablesLaw" 105 ⟨"CoderTablesLaw", "sum", "(LCoderTables;I[J)I"⟩ ∈ GW := gw_mk 420 (by decide +kernel) (by decide +kernel)
theorem w421 : Cond.static ⟨"CoderTablesLaw", "sum", "(LCoderTables;I[J)I"⟩ ∈ GW := gw_mk 421 (by decide +kernel) (by decide +kernel)
theorem w422 : Cond.codeWith ⟨"CoderTablesLaw", "sum", "(LCoderTables;I[J)I"⟩ method_9_code 4 (some .int) [(0, 8, 11, 22)] ∈ GW := gw_mk 422 (by decide +kernel) (by decide +kernel)
theorem w423 : Cond.methodLink "CoderTablesLaw" 38 ⟨"CoderTables", "sum", "(I)J"⟩ ∈ GW := gw_mk 423 (by decide +kernel) (by decide +kernel)
theorem w424 : Cond.instanceMethod ⟨"CoderTables", "sum", "(I)J"⟩ ∈ GW := gw_mk 424 (by decide +kernel) (by decide +kernel)
theorem w425 : Cond.selects "CoderTables" ⟨"CoderTables", "sum", "(I)J"⟩ ⟨"CoderTables", "sum", "(I)J"⟩ ∈ GW := gw_mk 425 (by decide +kernel) (by decide +kernel)
theorem w426 : Cond.code ⟨"CoderTables", "sum", "(I)J"⟩ prog_1_method_9_code 2 (some .long) ∈ GW := gw_mk 426 (by decide +kernel) (by decide +kernel)
theorem w427 : Cond.constantLong "CoderTables" 121 (-1) ∈ GW := gw_mk 427 (by decide +kernel) (by decide +kernel)
theorem w428 : Cond.methodLink "CoderTablesLaw" 109 ⟨"CoderTablesLaw", "mean", "(LCoderTables;IZ[J)I"⟩ ∈ GW := gw_mk 428 (by decide +kernel) (by decide +kernel)
theorem w429 : Cond.static ⟨"CoderTablesLaw", "mean", "(LCoderTables;IZ[J)I"⟩ ∈ GW := gw_mk 429 (by decide +kernel) (by decide +kernel)
theorem w430 : Cond.codeWith ⟨"CoderTablesLaw", "mean", "(LCoderTables;IZ[J)I"⟩ method_10_code 5 (some .int) [(0, 9, 12, 22), (0, 9, 16, 26)] ∈ GW := gw_mk 430 (by decide +kernel) (by decide +kernel)
theorem w431 : Cond.methodLink "CoderTablesLaw" 42 ⟨"CoderTables", "mean", "(IZ)J"⟩ ∈ GW := gw_mk 431 (by decide +kernel) (by decide +kernel)
theorem w432 : Cond.instanceMethod ⟨"CoderTables", "mean", "(IZ)J"⟩ ∈ GW := gw_mk 432 (by decide +kernel) (by decide +kernel)
theorem w433 : Cond.selects "CoderTables" ⟨"CoderTables", "mean", "(IZ)J"⟩ ⟨"CoderTables", "mean", "(IZ)J"⟩ ∈ GW := gw_mk 433 (by decide +kernel) (by decide +kernel)
theorem w434 : Cond.code ⟨"CoderTables", "mean", "(IZ)J"⟩ prog_1_method_10_code 7 (some .long) ∈ GW := gw_mk 434 (by decide +kernel) (by decide +kernel)
theorem w435 : Cond.methodLink "CoderTables" 127 ⟨"CoderTables", "needCounted", "(I)V"⟩ ∈ GW := gw_mk 435 (by decide +kernel) (by decide +kernel)
theorem w437 : Cond.instanceMethod ⟨"CoderTables", "needCounted", "(I)V"⟩ ∈ GW := gw_mk 437 (by decide +kernel) (by decide +kernel)
theorem w438 : Cond.code ⟨"CoderTables", "needCounted", "(I)V"⟩ prog_1_method_24_code 2 none ∈ GW := gw_mk 438 (by decide +kernel) (by decide +kernel)
theorem w440 : Cond.methodLink "CoderTables" 130 ⟨"CoderTables", "inLowestTerms", "(JJ)J"⟩ ∈ GW := gw_mk 440 (by decide +kernel) (by decide +kernel)
theorem w441 : Cond.static ⟨"CoderTables", "inLowestTerms", "(JJ)J"⟩ ∈ GW := gw_mk 441 (by decide +kernel) (by decide +kernel)
theorem w442 : Cond.code ⟨"CoderTables", "inLowestTerms", "(JJ)J"⟩ prog_1_method_48_code 11 (some .long) ∈ GW := gw_mk 442 (by decide +kernel) (by decide +kernel)
theorem w443 : Cond.methodLink "CoderTablesLaw" 113 ⟨"CoderTablesLaw", "rank", "(LCoderTables;I[J)I"⟩ ∈ GW := gw_mk 443 (by decide +kernel) (by decide +kernel)
theorem w444 : Cond.static ⟨"CoderTablesLaw", "rank", "(LCoderTables;I[J)I"⟩ ∈ GW := gw_mk 444 (by decide +kernel) (by decide +kernel)
theorem w445 : Cond.codeWith ⟨"CoderTablesLaw", "rank", "(LCoderTables;I[J)I"⟩ method_11_code 4 (some .int) [(0, 9, 12, 22), (0, 9, 15, 26)] ∈ GW := gw_mk 445 (by decide +kernel) (by decide +kernel)
theorem w446 : Cond.methodLink "CoderTablesLaw" 46 ⟨"CoderTables", "rank", "(I)I"⟩ ∈ GW := gw_mk 446 (by decide +kernel) (by decide +kernel)
theorem w447 : Cond.instanceMethod ⟨"CoderTables", "rank", "(I)I"⟩ ∈ GW := gw_mk 447 (by decide +kernel) (by decide +kernel)
theorem w448 : Cond.selects "CoderTables" ⟨"CoderTables", "rank", "(I)I"⟩ ⟨"CoderTables", "rank", "(I)I"⟩ ∈ GW := gw_mk 448 (by decide +kernel) (by decide +kernel)
theorem w449 : Cond.code ⟨"CoderTables", "rank", "(I)I"⟩ prog_1_method_11_code 2 (some .int) ∈ GW := gw_mk 449 (by decide +kernel) (by decide +kernel)
theorem w450 : Cond.methodLink "CoderTablesLaw" 116 ⟨"CoderTablesLaw", "hull", "(LCoderTables;II[J)I"⟩ ∈ GW := gw_mk 450 (by decide +kernel) (by decide +kernel)
theorem w451 : Cond.static ⟨"CoderTablesLaw", "hull", "(LCoderTables;II[J)I"⟩ ∈ GW := gw_mk 451 (by decide +kernel) (by decide +kernel)
theorem w452 : Cond.codeWith ⟨"CoderTablesLaw", "hull", "(LCoderTables;II[J)I"⟩ method_12_code 5 (some .int) [(0, 10, 13, 22)] ∈ GW := gw_mk 452 (by decide +kernel) (by decide +kernel)
theorem w453 : Cond.methodLink "CoderTablesLaw" 50 ⟨"CoderTables", "hull", "(II)I"⟩ ∈ GW := gw_mk 453 (by decide +kernel) (by decide +kernel)
theorem w454 : Cond.instanceMethod ⟨"CoderTables", "hull", "(II)I"⟩ ∈ GW := gw_mk 454 (by decide +kernel) (by decide +kernel)
theorem w455 : Cond.selects "CoderTables" ⟨"CoderTables", "hull", "(II)I"⟩ ⟨"CoderTables", "hull", "(II)I"⟩ ∈ GW := gw_mk 455 (by decide +kernel) (by decide +kernel)
theorem w456 : Cond.code ⟨"CoderTables", "hull", "(II)I"⟩ prog_1_method_12_code 3 (some .int) ∈ GW := gw_mk 456 (by decide +kernel) (by decide +kernel)
theorem w457 : Cond.methodLink "CoderTables" 137 ⟨"CoderTables", "layHull", "(I)V"⟩ ∈ GW := gw_mk 457 (by decide +kernel) (by decide +kernel)
theorem w459 : Cond.instanceMethod ⟨"CoderTables", "layHull", "(I)V"⟩ ∈ GW := gw_mk 459 (by decide +kernel) (by decide +kernel)
theorem w460 : Cond.code ⟨"CoderTables", "layHull", "(I)V"⟩ prog_1_method_37_code 3 none ∈ GW := gw_mk 460 (by decide +kernel) (by decide +kernel)
theorem w461 : Cond.methodLink "CoderTables" 234 ⟨"CoderTables", "firstOfRow", "(I)I"⟩ ∈ GW := gw_mk 461 (by decide +kernel) (by decide +kernel)
theorem w463 : Cond.instanceMethod ⟨"CoderTables", "firstOfRow", "(I)I"⟩ ∈ GW := gw_mk 463 (by decide +kernel) (by decide +kernel)
theorem w464 : Cond.code ⟨"CoderTables", "firstOfRow", "(I)I"⟩ prog_1_method_38_code 5 (some .int) ∈ GW := gw_mk 464 (by decide +kernel) (by decide +kernel)
theorem w465 : Cond.methodLink "CoderTables" 240 ⟨"CoderTables", "isBefore", "(II)Z"⟩ ∈ GW := gw_mk 465 (by decide +kernel) (by decide +kernel)
theorem w467 : Cond.instanceMethod ⟨"CoderTables", "isBefore", "(II)Z"⟩ ∈ GW := gw_mk 467 (by decide +kernel) (by decide +kernel)
theorem w468 : Cond.code ⟨"CoderTables", "isBefore", "(II)Z"⟩ prog_1_method_39_code 3 (some .boolean) ∈ GW := gw_mk 468 (by decide +kernel) (by decide +kernel)
theorem w469 : Cond.methodLink "CoderTables" 237 ⟨"CoderTables", "steepestFrom", "(II)I"⟩ ∈ GW := gw_mk 469 (by decide +kernel) (by decide +kernel)
theorem w471 : Cond.instanceMethod ⟨"CoderTables", "steepestFrom", "(II)I"⟩ ∈ GW := gw_mk 471 (by decide +kernel) (by decide +kernel)
theorem w472 : Cond.code ⟨"CoderTables", "steepestFrom", "(II)I"⟩ prog_1_method_40_code 6 (some .int) ∈ GW := gw_mk 472 (by decide +kernel) (by decide +kernel)
theorem w473 : Cond.methodLink "CoderTables" 150 ⟨"CoderTables", "growthTo", "(II)J"⟩ ∈ GW := gw_mk 473 (by decide +kernel) (by decide +kernel)
theorem w475 : Cond.instanceMethod ⟨"CoderTables", "growthTo", "(II)J"⟩ ∈ GW := gw_mk 475 (by decide +kernel) (by decide +kernel)
theorem w476 : Cond.code ⟨"CoderTables", "growthTo", "(II)J"⟩ prog_1_method_43_code 3 (some .long) ∈ GW := gw_mk 476 (by decide +kernel) (by decide +kernel)
theorem w477 : Cond.methodLink "CoderTables" 146 ⟨"CoderTables", "fallTo", "(II)J"⟩ ∈ GW := gw_mk 477 (by decide +kernel) (by decide +kernel)
theorem w479 : Cond.instanceMethod ⟨"CoderTables", "fallTo", "(II)J"⟩ ∈ GW := gw_mk 479 (by decide +kernel) (by decide +kernel)
theorem w480 : Cond.code ⟨"CoderTables", "fallTo", "(II)J"⟩ prog_1_method_42_code 3 (some .long) ∈ GW := gw_mk 480 (by decide +kernel) (by decide +kernel)
theorem w481 : Cond.methodLink "CoderTables" 244 ⟨"CoderTables", "isBetterStep", "(III)Z"⟩ ∈ GW := gw_mk 481 (by decide +kernel) (by decide +kernel)
theorem w483 : Cond.instanceMethod ⟨"CoderTables", "isBetterStep", "(III)Z"⟩ ∈ GW := gw_mk 483 (by decide +kernel) (by decide +kernel)
theorem w484 : Cond.code ⟨"CoderTables", "isBetterStep", "(III)Z"⟩ prog_1_method_41_code 9 (some .boolean) ∈ GW := gw_mk 484 (by decide +kernel) (by decide +kernel)
theorem w485 : Cond.methodLink "CoderTablesLaw" 119 ⟨"CoderTablesLaw", "onHull", "(LCoderTables;IIII[J)I"⟩ ∈ GW := gw_mk 485 (by decide +kernel) (by decide +kernel)
theorem w486 : Cond.static ⟨"CoderTablesLaw", "onHull", "(LCoderTables;IIII[J)I"⟩ ∈ GW := gw_mk 486 (by decide +kernel) (by decide +kernel)
theorem w487 : Cond.codeWith ⟨"CoderTablesLaw", "onHull", "(LCoderTables;IIII[J)I"⟩ method_13_code 7 (some .int) [(0, 14, 17, 22), (0, 14, 21, 24)] ∈ GW := gw_mk 487 (by decide +kernel) (by decide +kernel)
theorem w488 : Cond.methodLink "CoderTablesLaw" 53 ⟨"CoderTables", "onHull", "(IIII)I"⟩ ∈ GW := gw_mk 488 (by decide +kernel) (by decide +kernel)
theorem w489 : Cond.instanceMethod ⟨"CoderTables", "onHull", "(IIII)I"⟩ ∈ GW := gw_mk 489 (by decide +kernel) (by decide +kernel)
theorem w490 : Cond.selects "CoderTables" ⟨"CoderTables", "onHull", "(IIII)I"⟩ ⟨"CoderTables", "onHull", "(IIII)I"⟩ ∈ GW := gw_mk 490 (by decide +kernel) (by decide +kernel)
theorem w491 : Cond.code ⟨"CoderTables", "onHull", "(IIII)I"⟩ prog_1_method_13_code 6 (some .int) ∈ GW := gw_mk 491 (by decide +kernel) (by decide +kernel)
theorem w494 : Cond.methodLink "CoderTablesLaw" 122 ⟨"CoderTablesLaw", "slope", "(LCoderTables;IIIZ[J)I"⟩ ∈ GW := gw_mk 494 (by decide +kernel) (by decide +kernel)
theorem w495 : Cond.static ⟨"CoderTablesLaw", "slope", "(LCoderTables;IIIZ[J)I"⟩ ∈ GW := gw_mk 495 (by decide +kernel) (by decide +kernel)
theorem w496 : Cond.codeWith ⟨"CoderTablesLaw", "slope", "(LCoderTables;IIIZ[J)I"⟩ method_14_code 7 (some .int) [(0, 13, 16, 22)] ∈ GW := gw_mk 496 (by decide +kernel) (by decide +kernel)
theorem w497 : Cond.methodLink "CoderTablesLaw" 56 ⟨"CoderTables", "slope", "(IIIZ)J"⟩ ∈ GW := gw_mk 497 (by decide +kernel) (by decide +kernel)
theorem w498 : Cond.instanceMethod ⟨"CoderTables", "slope", "(IIIZ)J"⟩ ∈ GW := gw_mk 498 (by decide +kernel) (by decide +kernel)
theorem w499 : Cond.selects "CoderTables" ⟨"CoderTables", "slope", "(IIIZ)J"⟩ ⟨"CoderTables", "slope", "(IIIZ)J"⟩ ∈ GW := gw_mk 499 (by decide +kernel) (by decide +kernel)
theorem w500 : Cond.code ⟨"CoderTables", "slope", "(IIIZ)J"⟩ prog_1_method_14_code 9 (some .long) ∈ GW := gw_mk 500 (by decide +kernel) (by decide +kernel)
theorem w502 : Cond.methodLink "CoderTablesLaw" 126 ⟨"CoderTablesLaw", "signs", "(LCoderTables;III[J)I"⟩ ∈ GW := gw_mk 502 (by decide +kernel) (by decide +kernel)
theorem w503 : Cond.static ⟨"CoderTablesLaw", "signs", "(LCoderTables;III[J)I"⟩ ∈ GW := gw_mk 503 (by decide +kernel) (by decide +kernel)
theorem w504 : Cond.codeWith ⟨"CoderTablesLaw", "signs", "(LCoderTables;III[J)I"⟩ method_15_code 6 (some .int) [(0, 11, 14, 22), (0, 11, 18, 24)] ∈ GW := gw_mk 504 (by decide +kernel) (by decide +kernel)
theorem w505 : Cond.methodLink "CoderTablesLaw" 60 ⟨"CoderTables", "signs", "(III)J"⟩ ∈ GW := gw_mk 505 (by decide +kernel) (by decide +kernel)
theorem w506 : Cond.instanceMethod ⟨"CoderTables", "signs", "(III)J"⟩ ∈ GW := gw_mk 506 (by decide +kernel) (by decide +kernel)
theorem w507 : Cond.selects "CoderTables" ⟨"CoderTables", "signs", "(III)J"⟩ ⟨"CoderTables", "signs", "(III)J"⟩ ∈ GW := gw_mk 507 (by decide +kernel) (by decide +kernel)
theorem w508 : Cond.code ⟨"CoderTables", "signs", "(III)J"⟩ prog_1_method_15_code 6 (some .long) ∈ GW := gw_mk 508 (by decide +kernel) (by decide +kernel)
theorem w510 : Cond.methodLink "CoderTables" 155 ⟨"CoderTables", "layLeads", "(II)V"⟩ ∈ GW := gw_mk 510 (by decide +kernel) (by decide +kernel)
theorem w512 : Cond.instanceMethod ⟨"CoderTables", "layLeads", "(II)V"⟩ ∈ GW := gw_mk 512 (by decide +kernel) (by decide +kernel)
theorem w513 : Cond.code ⟨"CoderTables", "layLeads", "(II)V"⟩ prog_1_method_44_code 6 none ∈ GW := gw_mk 513 (by decide +kernel) (by decide +kernel)
theorem w514 : Cond.methodLink "CoderTables" 159 ⟨"CoderTables", "countLeads", "(Z)I"⟩ ∈ GW := gw_mk 514 (by decide +kernel) (by decide +kernel)
theorem w516 : Cond.instanceMethod ⟨"CoderTables", "countLeads", "(Z)I"⟩ ∈ GW := gw_mk 516 (by decide +kernel) (by decide +kernel)
theorem w517 : Cond.code ⟨"CoderTables", "countLeads", "(Z)I"⟩ prog_1_method_45_code 4 (some .int) ∈ GW := gw_mk 517 (by decide +kernel) (by decide +kernel)
theorem w518 : Cond.methodLink "CoderTables" 163 ⟨"java/lang/Math", "min", "(II)I"⟩ ∈ GW := gw_mk 518 (by decide +kernel) (by decide +kernel)
theorem w519 : Cond.static ⟨"java/lang/Math", "min", "(II)I"⟩ ∈ GW := gw_mk 519 (by decide +kernel) (by decide +kernel)
theorem w520 : Cond.code ⟨"java/lang/Math", "min", "(II)I"⟩ prog_11_method_69_code 2 (some .int) ∈ GW := gw_mk 520 (by decide +kernel) (by decide +kernel)
theorem w521 : Cond.methodLink "CoderTables" 168 ⟨"CoderTables", "odds", "(IIZ)J"⟩ ∈ GW := gw_mk 521 (by decide +kernel) (by decide +kernel)
theorem w522 : Cond.static ⟨"CoderTables", "odds", "(IIZ)J"⟩ ∈ GW := gw_mk 522 (by decide +kernel) (by decide +kernel)
theorem w523 : Cond.code ⟨"CoderTables", "odds", "(IIZ)J"⟩ prog_1_method_47_code 11 (some .long) ∈ GW := gw_mk 523 (by decide +kernel) (by decide +kernel)
theorem w524 : Cond.constantLong "CoderTables" 248 (2) ∈ GW := gw_mk 524 (by decide +kernel) (by decide +kernel)
theorem w525 : Cond.methodLink "CoderTables" 250 ⟨"java/lang/Math", "min", "(JJ)J"⟩ ∈ GW := gw_mk 525 (by decide +kernel) (by decide +kernel)
theorem w526 : Cond.static ⟨"java/lang/Math", "min", "(JJ)J"⟩ ∈ GW := gw_mk 526 (by decide +kernel) (by decide +kernel)
theorem w527 : Cond.code ⟨"java/lang/Math", "min", "(JJ)J"⟩ prog_11_method_70_code 4 (some .long) ∈ GW := gw_mk 527 (by decide +kernel) (by decide +kernel)
theorem w528 : Cond.methodLink "CoderTablesLaw" 132 ⟨"CoderTablesLaw", "draws", "(LCoderTables;IIJI[J)I"⟩ ∈ GW := gw_mk 528 (by decide +kernel) (by decide +kernel)
theorem w529 : Cond.static ⟨"CoderTablesLaw", "draws", "(LCoderTables;IIJI[J)I"⟩ ∈ GW := gw_mk 529 (by decide +kernel) (by decide +kernel)
theorem w530 : Cond.codeWith ⟨"CoderTablesLaw", "draws", "(LCoderTables;IIJI[J)I"⟩ method_16_code 8 (some .int) [(0, 14, 17, 22), (0, 14, 21, 24), (0, 14, 25, 26)] ∈ GW := gw_mk 530 (by decide +kernel) (by decide +kernel)
theorem w531 : Cond.methodLink "CoderTablesLaw" 64 ⟨"CoderTables", "draws", "(IIJI)I"⟩ ∈ GW := gw_mk 531 (by decide +kernel) (by decide +kernel)
theorem w532 : Cond.instanceMethod ⟨"CoderTables", "draws", "(IIJI)I"⟩ ∈ GW := gw_mk 532 (by decide +kernel) (by decide +kernel)
theorem w533 : Cond.selects "CoderTables" ⟨"CoderTables", "draws", "(IIJI)I"⟩ ⟨"CoderTables", "draws", "(IIJI)I"⟩ ∈ GW := gw_mk 533 (by decide +kernel) (by decide +kernel)
theorem w534 : Cond.code ⟨"CoderTables", "draws", "(IIJI)I"⟩ prog_1_method_16_code 8 (some .int) ∈ GW := gw_mk 534 (by decide +kernel) (by decide +kernel)
theorem w537 : Cond.methodLink "CoderTables" 180 ⟨"CoderTables", "drawnLead", "()J"⟩ ∈ GW := gw_mk 537 (by decide +kernel) (by decide +kernel)
theorem w539 : Cond.instanceMethod ⟨"CoderTables", "drawnLead", "()J"⟩ ∈ GW := gw_mk 539 (by decide +kernel) (by decide +kernel)
theorem w540 : Cond.code ⟨"CoderTables", "drawnLead", "()J"⟩ prog_1_method_46_code 4 (some .long) ∈ GW := gw_mk 540 (by decide +kernel) (by decide +kernel)
theorem w541 : Cond.methodLink "CoderTablesLaw" 145 ⟨"CoderTablesLaw", "charAt", "(LCoderTables;I[J)I"⟩ ∈ GW := gw_mk 541 (by decide +kernel) (by decide +kernel)
theorem w542 : Cond.static ⟨"CoderTablesLaw", "charAt", "(LCoderTables;I[J)I"⟩ ∈ GW := gw_mk 542 (by decide +kernel) (by decide +kernel)
theorem w543 : Cond.codeWith ⟨"CoderTablesLaw", "charAt", "(LCoderTables;I[J)I"⟩ method_17_code 4 (some .int) [(0, 9, 12, 22)] ∈ GW := gw_mk 543 (by decide +kernel) (by decide +kernel)
theorem w544 : Cond.methodLink "CoderTablesLaw" 68 ⟨"CoderTables", "charAt", "(I)I"⟩ ∈ GW := gw_mk 544 (by decide +kernel) (by decide +kernel)
theorem w545 : Cond.instanceMethod ⟨"CoderTables", "charAt", "(I)I"⟩ ∈ GW := gw_mk 545 (by decide +kernel) (by decide +kernel)
theorem w546 : Cond.selects "CoderTables" ⟨"CoderTables", "charAt", "(I)I"⟩ ⟨"CoderTables", "charAt", "(I)I"⟩ ∈ GW := gw_mk 546 (by decide +kernel) (by decide +kernel)
theorem w547 : Cond.code ⟨"CoderTables", "charAt", "(I)I"⟩ prog_1_method_19_code 2 (some .int) ∈ GW := gw_mk 547 (by decide +kernel) (by decide +kernel)
theorem w549 : Cond.classLink "CoderTablesLaw" 72 "CoderTablesModel" ∈ GW := gw_mk 549 (by decide +kernel) (by decide +kernel)
theorem w550 : Cond.instantiable "CoderTablesModel" 15 ∈ GW := gw_mk 550 (by decide +kernel) (by decide +kernel)
theorem w551 : Cond.methodLink "CoderTablesLaw" 74 ⟨"CoderTablesModel", "<init>", "()V"⟩ ∈ GW := gw_mk 551 (by decide +kernel) (by decide +kernel)
theorem w552 : Cond.instanceMethod ⟨"CoderTablesModel", "<init>", "()V"⟩ ∈ GW := gw_mk 552 (by decide +kernel) (by decide +kernel)
theorem w553 : Cond.code ⟨"CoderTablesModel", "<init>", "()V"⟩ prog_5_method_1_code 1 none ∈ GW := gw_mk 553 (by decide +kernel) (by decide +kernel)
theorem w554 : Cond.methodLink "CoderTablesModel" 1 ⟨"java/lang/Object", "<init>", "()V"⟩ ∈ GW := gw_mk 554 (by decide +kernel) (by decide +kernel)
theorem w555 : Cond.fieldLink "CoderTablesModel" 36 "CoderTablesModel" "code" "I" ∈ GW := gw_mk 555 (by decide +kernel) (by decide +kernel)
theorem w556 : Cond.fieldLink "CoderTablesModel" 40 "CoderTablesModel" "coders" "I" ∈ GW := gw_mk 556 (by decide +kernel) (by decide +kernel)
theorem w557 : Cond.fieldLink "CoderTablesModel" 47 "CoderTablesModel" "pictures" "I" ∈ GW := gw_mk 557 (by decide +kernel) (by decide +kernel)
theorem w558 : Cond.fieldLink "CoderTablesModel" 7 "CoderTablesModel" "count" "[I" ∈ GW := gw_mk 558 (by decide +kernel) (by decide +kernel)
theorem w559 : Cond.fieldLink "CoderTablesModel" 13 "CoderTablesModel" "hasFailed" "[Z" ∈ GW := gw_mk 559 (by decide +kernel) (by decide +kernel)
theorem w560 : Cond.fieldLink "CoderTablesModel" 17 "CoderTablesModel" "bytesOf" "[I" ∈ GW := gw_mk 560 (by decide +kernel) (by decide +kernel)
theorem w561 : Cond.fieldLink "CoderTablesModel" 20 "CoderTablesModel" "errorOf" "[I" ∈ GW := gw_mk 561 (by decide +kernel) (by decide +kernel)
theorem w562 : Cond.fieldLink "CoderTablesModel" 67 "CoderTablesModel" "failures" "I" ∈ GW := gw_mk 562 (by decide +kernel) (by decide +kernel)
theorem w563 : Cond.fieldLink "CoderTablesModel" 23 "CoderTablesModel" "failure" "[I" ∈ GW := gw_mk 563 (by decide +kernel) (by decide +kernel)
theorem w564 : Cond.fieldLink "CoderTablesModel" 150 "CoderTablesModel" "size" "I" ∈ GW := gw_mk 564 (by decide +kernel) (by decide +kernel)
theorem w565 : Cond.fieldLink "CoderTablesModel" 26 "CoderTablesModel" "text" "[I" ∈ GW := gw_mk 565 (by decide +kernel) (by decide +kernel)
theorem w566 : Cond.fieldLink "CoderTablesModel" 126 "CoderTablesModel" "state" "J" ∈ GW := gw_mk 566 (by decide +kernel) (by decide +kernel)
theorem w567 : Cond.fieldLink "CoderTablesModel" 98 "CoderTablesModel" "hullSize" "I" ∈ GW := gw_mk 567 (by decide +kernel) (by decide +kernel)
theorem w568 : Cond.fieldLink "CoderTablesModel" 29 "CoderTablesModel" "hull" "[I" ∈ GW := gw_mk 568 (by decide +kernel) (by decide +kernel)
theorem w569 : Cond.fieldLink "CoderTablesModel" 32 "CoderTablesModel" "ways" "[J" ∈ GW := gw_mk 569 (by decide +kernel) (by decide +kernel)
theorem w601 : Cond.arrayClass .boolean ∈ GW := gw_mk 601 (by decide +kernel) (by decide +kernel)
theorem w602 : Cond.arrayClass .long ∈ GW := gw_mk 602 (by decide +kernel) (by decide +kernel)
theorem w603 : Cond.methodLink "CoderTablesLaw" 81 ⟨"CoderTablesModel", "thrown", "()I"⟩ ∈ GW := gw_mk 603 (by decide +kernel) (by decide +kernel)
theorem w604 : Cond.instanceMethod ⟨"CoderTablesModel", "thrown", "()I"⟩ ∈ GW := gw_mk 604 (by decide +kernel) (by decide +kernel)
theorem w605 : Cond.selects "CoderTablesModel" ⟨"CoderTablesModel", "thrown", "()I"⟩ ⟨"CoderTablesModel", "thrown", "()I"⟩ ∈ GW := gw_mk 605 (by decide +kernel) (by decide +kernel)
theorem w606 : Cond.code ⟨"CoderTablesModel", "thrown", "()I"⟩ prog_5_method_2_code 1 (some .int) ∈ GW := gw_mk 606 (by decide +kernel) (by decide +kernel)
theorem w607 : Cond.methodLink "CoderTablesLaw" 80 ⟨"CoderTablesModel", "coder", "()I"⟩ ∈ GW := gw_mk 607 (by decide +kernel) (by decide +kernel)
theorem w608 : Cond.instanceMethod ⟨"CoderTablesModel", "coder", "()I"⟩ ∈ GW := gw_mk 608 (by decide +kernel) (by decide +kernel)
theorem w609 : Cond.selects "CoderTablesModel" ⟨"CoderTablesModel", "coder", "()I"⟩ ⟨"CoderTablesModel", "coder", "()I"⟩ ∈ GW := gw_mk 609 (by decide +kernel) (by decide +kernel)
theorem w610 : Cond.code ⟨"CoderTablesModel", "coder", "()I"⟩ prog_5_method_7_code 1 (some .int) ∈ GW := gw_mk 610 (by decide +kernel) (by decide +kernel)
theorem w611 : Cond.methodLink "CoderTablesModel" 50 ⟨"CoderTablesModel", "refuses", "(I)Z"⟩ ∈ GW := gw_mk 611 (by decide +kernel) (by decide +kernel)
theorem w613 : Cond.instanceMethod ⟨"CoderTablesModel", "refuses", "(I)Z"⟩ ∈ GW := gw_mk 613 (by decide +kernel) (by decide +kernel)
theorem w614 : Cond.code ⟨"CoderTablesModel", "refuses", "(I)Z"⟩ prog_5_method_3_code 2 (some .boolean) ∈ GW := gw_mk 614 (by decide +kernel) (by decide +kernel)
theorem w615 : Cond.methodLink "CoderTablesLaw" 86 ⟨"CoderTablesModel", "picture", "()I"⟩ ∈ GW := gw_mk 615 (by decide +kernel) (by decide +kernel)
theorem w616 : Cond.instanceMethod ⟨"CoderTablesModel", "picture", "()I"⟩ ∈ GW := gw_mk 616 (by decide +kernel) (by decide +kernel)
theorem w617 : Cond.selects "CoderTablesModel" ⟨"CoderTablesModel", "picture", "()I"⟩ ⟨"CoderTablesModel", "picture", "()I"⟩ ∈ GW := gw_mk 617 (by decide +kernel) (by decide +kernel)
theorem w618 : Cond.code ⟨"CoderTablesModel", "picture", "()I"⟩ prog_5_method_8_code 1 (some .int) ∈ GW := gw_mk 618 (by decide +kernel) (by decide +kernel)
theorem w619 : Cond.methodLink "CoderTablesLaw" 90 ⟨"CoderTablesModel", "point", "(IIII)I"⟩ ∈ GW := gw_mk 619 (by decide +kernel) (by decide +kernel)
theorem w620 : Cond.instanceMethod ⟨"CoderTablesModel", "point", "(IIII)I"⟩ ∈ GW := gw_mk 620 (by decide +kernel) (by decide +kernel)
theorem w621 : Cond.selects "CoderTablesModel" ⟨"CoderTablesModel", "point", "(IIII)I"⟩ ⟨"CoderTablesModel", "point", "(IIII)I"⟩ ∈ GW := gw_mk 621 (by decide +kernel) (by decide +kernel)
theorem w622 : Cond.code ⟨"CoderTablesModel", "point", "(IIII)I"⟩ prog_5_method_10_code 7 (some .int) ∈ GW := gw_mk 622 (by decide +kernel) (by decide +kernel)
theorem w623 : Cond.methodLink "CoderTablesModel" 53 ⟨"CoderTablesModel", "noPair", "(II)Z"⟩ ∈ GW := gw_mk 623 (by decide +kernel) (by decide +kernel)
theorem w625 : Cond.instanceMethod ⟨"CoderTablesModel", "noPair", "(II)Z"⟩ ∈ GW := gw_mk 625 (by decide +kernel) (by decide +kernel)
theorem w626 : Cond.code ⟨"CoderTablesModel", "noPair", "(II)Z"⟩ prog_5_method_6_code 3 (some .boolean) ∈ GW := gw_mk 626 (by decide +kernel) (by decide +kernel)
theorem w627 : Cond.methodLink "CoderTablesModel" 43 ⟨"CoderTablesModel", "noCoder", "(I)Z"⟩ ∈ GW := gw_mk 627 (by decide +kernel) (by decide +kernel)
theorem w629 : Cond.instanceMethod ⟨"CoderTablesModel", "noCoder", "(I)Z"⟩ ∈ GW := gw_mk 629 (by decide +kernel) (by decide +kernel)
theorem w630 : Cond.code ⟨"CoderTablesModel", "noCoder", "(I)Z"⟩ prog_5_method_5_code 2 (some .boolean) ∈ GW := gw_mk 630 (by decide +kernel) (by decide +kernel)
theorem w631 : Cond.constantLong "CoderTablesModel" 57 (1000000000) ∈ GW := gw_mk 631 (by decide +kernel) (by decide +kernel)
theorem w632 : Cond.methodLink "CoderTablesModel" 59 ⟨"CoderTablesModel", "isIn", "(JJJ)Z"⟩ ∈ GW := gw_mk 632 (by decide +kernel) (by decide +kernel)
theorem w633 : Cond.static ⟨"CoderTablesModel", "isIn", "(JJJ)Z"⟩ ∈ GW := gw_mk 633 (by decide +kernel) (by decide +kernel)
theorem w634 : Cond.code ⟨"CoderTablesModel", "isIn", "(JJJ)Z"⟩ prog_5_method_4_code 6 (some .boolean) ∈ GW := gw_mk 634 (by decide +kernel) (by decide +kernel)
theorem w635 : Cond.methodLink "CoderTablesModel" 63 ⟨"CoderTablesModel", "add", "(III)V"⟩ ∈ GW := gw_mk 635 (by decide +kernel) (by decide +kernel)
theorem w637 : Cond.instanceMethod ⟨"CoderTablesModel", "add", "(III)V"⟩ ∈ GW := gw_mk 637 (by decide +kernel) (by decide +kernel)
theorem w638 : Cond.code ⟨"CoderTablesModel", "add", "(III)V"⟩ prog_5_method_9_code 4 none ∈ GW := gw_mk 638 (by decide +kernel) (by decide +kernel)
theorem w639 : Cond.methodLink "CoderTablesLaw" 94 ⟨"CoderTablesModel", "fails", "(II)I"⟩ ∈ GW := gw_mk 639 (by decide +kernel) (by decide +kernel)
theorem w640 : Cond.instanceMethod ⟨"CoderTablesModel", "fails", "(II)I"⟩ ∈ GW := gw_mk 640 (by decide +kernel) (by decide +kernel)
theorem w641 : Cond.selects "CoderTablesModel" ⟨"CoderTablesModel", "fails", "(II)I"⟩ ⟨"CoderTablesModel", "fails", "(II)I"⟩ ∈ GW := gw_mk 641 (by decide +kernel) (by decide +kernel)
theorem w642 : Cond.code ⟨"CoderTablesModel", "fails", "(II)I"⟩ prog_5_method_12_code 6 (some .int) ∈ GW := gw_mk 642 (by decide +kernel) (by decide +kernel)
theorem w643 : Cond.methodLink "CoderTablesModel" 70 ⟨"CoderTablesModel", "fail", "(I)V"⟩ ∈ GW := gw_mk 643 (by decide +kernel) (by decide +kernel)
theorem w645 : Cond.instanceMethod ⟨"CoderTablesModel", "fail", "(I)V"⟩ ∈ GW := gw_mk 645 (by decide +kernel) (by decide +kernel)
theorem w646 : Cond.code ⟨"CoderTablesModel", "fail", "(I)V"⟩ prog_5_method_11_code 2 none ∈ GW := gw_mk 646 (by decide +kernel) (by decide +kernel)
theorem w647 : Cond.methodLink "CoderTablesLaw" 98 ⟨"CoderTablesModel", "failed", "()I"⟩ ∈ GW := gw_mk 647 (by decide +kernel) (by decide +kernel)
theorem w648 : Cond.instanceMethod ⟨"CoderTablesModel", "failed", "()I"⟩ ∈ GW := gw_mk 648 (by decide +kernel) (by decide +kernel)
theorem w649 : Cond.selects "CoderTablesModel" ⟨"CoderTablesModel", "failed", "()I"⟩ ⟨"CoderTablesModel", "failed", "()I"⟩ ∈ GW := gw_mk 649 (by decide +kernel) (by decide +kernel)
theorem w650 : Cond.code ⟨"CoderTablesModel", "failed", "()I"⟩ prog_5_method_13_code 1 (some .int) ∈ GW := gw_mk 650 (by decide +kernel) (by decide +kernel)
theorem w651 : Cond.methodLink "CoderTablesLaw" 101 ⟨"CoderTablesModel", "failing", "(II)I"⟩ ∈ GW := gw_mk 651 (by decide +kernel) (by decide +kernel)
theorem w652 : Cond.instanceMethod ⟨"CoderTablesModel", "failing", "(II)I"⟩ ∈ GW := gw_mk 652 (by decide +kernel) (by decide +kernel)
theorem w653 : Cond.selects "CoderTablesModel" ⟨"CoderTablesModel", "failing", "(II)I"⟩ ⟨"CoderTablesModel", "failing", "(II)I"⟩ ∈ GW := gw_mk 653 (by decide +kernel) (by decide +kernel)
theorem w654 : Cond.code ⟨"CoderTablesModel", "failing", "(II)I"⟩ prog_5_method_14_code 3 (some .int) ∈ GW := gw_mk 654 (by decide +kernel) (by decide +kernel)
theorem w655 : Cond.methodLink "CoderTablesLaw" 104 ⟨"CoderTablesModel", "least", "(II)I"⟩ ∈ GW := gw_mk 655 (by decide +kernel) (by decide +kernel)
theorem w656 : Cond.instanceMethod ⟨"CoderTablesModel", "least", "(II)I"⟩ ∈ GW := gw_mk 656 (by decide +kernel) (by decide +kernel)
theorem w657 : Cond.selects "CoderTablesModel" ⟨"CoderTablesModel", "least", "(II)I"⟩ ⟨"CoderTablesModel", "least", "(II)I"⟩ ∈ GW := gw_mk 657 (by decide +kernel) (by decide +kernel)
theorem w658 : Cond.code ⟨"CoderTablesModel", "least", "(II)I"⟩ prog_5_method_15_code 8 (some .int) ∈ GW := gw_mk 658 (by decide +kernel) (by decide +kernel)
theorem w659 : Cond.methodLink "CoderTablesLaw" 108 ⟨"CoderTablesModel", "sum", "(I)J"⟩ ∈ GW := gw_mk 659 (by decide +kernel) (by decide +kernel)
theorem w660 : Cond.instanceMethod ⟨"CoderTablesModel", "sum", "(I)J"⟩ ∈ GW := gw_mk 660 (by decide +kernel) (by decide +kernel)
theorem w661 : Cond.selects "CoderTablesModel" ⟨"CoderTablesModel", "sum", "(I)J"⟩ ⟨"CoderTablesModel", "sum", "(I)J"⟩ ∈ GW := gw_mk 661 (by decide +kernel) (by decide +kernel)
theorem w662 : Cond.code ⟨"CoderTablesModel", "sum", "(I)J"⟩ prog_5_method_19_code 2 (some .long) ∈ GW := gw_mk 662 (by decide +kernel) (by decide +kernel)
theorem w663 : Cond.methodLink "CoderTablesModel" 78 ⟨"CoderTablesModel", "countedOf", "(I)I"⟩ ∈ GW := gw_mk 663 (by decide +kernel) (by decide +kernel)
theorem w665 : Cond.instanceMethod ⟨"CoderTablesModel", "countedOf", "(I)I"⟩ ∈ GW := gw_mk 665 (by decide +kernel) (by decide +kernel)
theorem w666 : Cond.code ⟨"CoderTablesModel", "countedOf", "(I)I"⟩ prog_5_method_18_code 4 (some .int) ∈ GW := gw_mk 666 (by decide +kernel) (by decide +kernel)
theorem w667 : Cond.constantLong "CoderTablesModel" 81 (-1) ∈ GW := gw_mk 667 (by decide +kernel) (by decide +kernel)
theorem w668 : Cond.methodLink "CoderTablesModel" 83 ⟨"CoderTablesModel", "sumOf", "(I)J"⟩ ∈ GW := gw_mk 668 (by decide +kernel) (by decide +kernel)
theorem w670 : Cond.instanceMethod ⟨"CoderTablesModel", "sumOf", "(I)J"⟩ ∈ GW := gw_mk 670 (by decide +kernel) (by decide +kernel)
theorem w671 : Cond.code ⟨"CoderTablesModel", "sumOf", "(I)J"⟩ prog_5_method_17_code 5 (some .long) ∈ GW := gw_mk 671 (by decide +kernel) (by decide +kernel)
theorem w672 : Cond.methodLink "CoderTablesModel" 74 ⟨"CoderTablesModel", "bytes", "(I)I"⟩ ∈ GW := gw_mk 672 (by decide +kernel) (by decide +kernel)
theorem w674 : Cond.instanceMethod ⟨"CoderTablesModel", "bytes", "(I)I"⟩ ∈ GW := gw_mk 674 (by decide +kernel) (by decide +kernel)
theorem w675 : Cond.code ⟨"CoderTablesModel", "bytes", "(I)I"⟩ prog_5_method_16_code 5 (some .int) ∈ GW := gw_mk 675 (by decide +kernel) (by decide +kernel)
theorem w676 : Cond.methodLink "CoderTablesLaw" 112 ⟨"CoderTablesModel", "mean", "(IZ)J"⟩ ∈ GW := gw_mk 676 (by decide +kernel) (by decide +kernel)
theorem w677 : Cond.instanceMethod ⟨"CoderTablesModel", "mean", "(IZ)J"⟩ ∈ GW := gw_mk 677 (by decide +kernel) (by decide +kernel)
theorem w678 : Cond.selects "CoderTablesModel" ⟨"CoderTablesModel", "mean", "(IZ)J"⟩ ⟨"CoderTablesModel", "mean", "(IZ)J"⟩ ∈ GW := gw_mk 678 (by decide +kernel) (by decide +kernel)
theorem w679 : Cond.code ⟨"CoderTablesModel", "mean", "(IZ)J"⟩ prog_5_method_22_code 3 (some .long) ∈ GW := gw_mk 679 (by decide +kernel) (by decide +kernel)
theorem w680 : Cond.methodLink "CoderTablesModel" 91 ⟨"CoderTablesModel", "part", "(JJZ)J"⟩ ∈ GW := gw_mk 680 (by decide +kernel) (by decide +kernel)
theorem w681 : Cond.static ⟨"CoderTablesModel", "part", "(JJZ)J"⟩ ∈ GW := gw_mk 681 (by decide +kernel) (by decide +kernel)
theorem w682 : Cond.code ⟨"CoderTablesModel", "part", "(JJZ)J"⟩ prog_5_method_21_code 7 (some .long) ∈ GW := gw_mk 682 (by decide +kernel) (by decide +kernel)
theorem w683 : Cond.methodLink "CoderTablesModel" 87 ⟨"CoderTablesModel", "common", "(JJ)J"⟩ ∈ GW := gw_mk 683 (by decide +kernel) (by decide +kernel)
theorem w684 : Cond.static ⟨"CoderTablesModel", "common", "(JJ)J"⟩ ∈ GW := gw_mk 684 (by decide +kernel) (by decide +kernel)
theorem w685 : Cond.code ⟨"CoderTablesModel", "common", "(JJ)J"⟩ prog_5_method_20_code 10 (some .long) ∈ GW := gw_mk 685 (by decide +kernel) (by decide +kernel)
theorem w686 : Cond.methodLink "CoderTablesLaw" 115 ⟨"CoderTablesModel", "rank", "(I)I"⟩ ∈ GW := gw_mk 686 (by decide +kernel) (by decide +kernel)
theorem w687 : Cond.instanceMethod ⟨"CoderTablesModel", "rank", "(I)I"⟩ ∈ GW := gw_mk 687 (by decide +kernel) (by decide +kernel)
theorem w688 : Cond.selects "CoderTablesModel" ⟨"CoderTablesModel", "rank", "(I)I"⟩ ⟨"CoderTablesModel", "rank", "(I)I"⟩ ∈ GW := gw_mk 688 (by decide +kernel) (by decide +kernel)
theorem w689 : Cond.code ⟨"CoderTablesModel", "rank", "(I)I"⟩ prog_5_method_24_code 2 (some .int) ∈ GW := gw_mk 689 (by decide +kernel) (by decide +kernel)
theorem w690 : Cond.methodLink "CoderTablesModel" 95 ⟨"CoderTablesModel", "rankOf", "(I)I"⟩ ∈ GW := gw_mk 690 (by decide +kernel) (by decide +kernel)
theorem w692 : Cond.instanceMethod ⟨"CoderTablesModel", "rankOf", "(I)I"⟩ ∈ GW := gw_mk 692 (by decide +kernel) (by decide +kernel)
theorem w693 : Cond.code ⟨"CoderTablesModel", "rankOf", "(I)I"⟩ prog_5_method_23_code 8 (some .int) ∈ GW := gw_mk 693 (by decide +kernel) (by decide +kernel)
theorem w694 : Cond.methodLink "CoderTablesLaw" 118 ⟨"CoderTablesModel", "hull", "(II)I"⟩ ∈ GW := gw_mk 694 (by decide +kernel) (by decide +kernel)
theorem w695 : Cond.instanceMethod ⟨"CoderTablesModel", "hull", "(II)I"⟩ ∈ GW := gw_mk 695 (by decide +kernel) (by decide +kernel)
theorem w696 : Cond.selects "CoderTablesModel" ⟨"CoderTablesModel", "hull", "(II)I"⟩ ⟨"CoderTablesModel", "hull", "(II)I"⟩ ∈ GW := gw_mk 696 (by decide +kernel) (by decide +kernel)
theorem w697 : Cond.code ⟨"CoderTablesModel", "hull", "(II)I"⟩ prog_5_method_28_code 3 (some .int) ∈ GW := gw_mk 697 (by decide +kernel) (by decide +kernel)
theorem w698 : Cond.methodLink "CoderTablesModel" 108 ⟨"CoderTablesModel", "findHull", "(I)V"⟩ ∈ GW := gw_mk 698 (by decide +kernel) (by decide +kernel)
theorem w700 : Cond.instanceMethod ⟨"CoderTablesModel", "findHull", "(I)V"⟩ ∈ GW := gw_mk 700 (by decide +kernel) (by decide +kernel)
theorem w701 : Cond.code ⟨"CoderTablesModel", "findHull", "(I)V"⟩ prog_5_method_26_code 5 none ∈ GW := gw_mk 701 (by decide +kernel) (by decide +kernel)
theorem w702 : Cond.methodLink "CoderTablesModel" 101 ⟨"CoderTablesModel", "isBest", "(II)Z"⟩ ∈ GW := gw_mk 702 (by decide +kernel) (by decide +kernel)
theorem w704 : Cond.instanceMethod ⟨"CoderTablesModel", "isBest", "(II)Z"⟩ ∈ GW := gw_mk 704 (by decide +kernel) (by decide +kernel)
theorem w705 : Cond.code ⟨"CoderTablesModel", "isBest", "(II)Z"⟩ prog_5_method_25_code 6 (some .boolean) ∈ GW := gw_mk 705 (by decide +kernel) (by decide +kernel)
theorem w706 : Cond.methodLink "CoderTablesModel" 104 ⟨"CoderTablesModel", "isSteeper", "(III)Z"⟩ ∈ GW := gw_mk 706 (by decide +kernel) (by decide +kernel)
theorem w708 : Cond.instanceMethod ⟨"CoderTablesModel", "isSteeper", "(III)Z"⟩ ∈ GW := gw_mk 708 (by decide +kernel) (by decide +kernel)
theorem w709 : Cond.code ⟨"CoderTablesModel", "isSteeper", "(III)Z"⟩ prog_5_method_27_code 8 (some .boolean) ∈ GW := gw_mk 709 (by decide +kernel) (by decide +kernel)
theorem w710 : Cond.methodLink "CoderTablesLaw" 121 ⟨"CoderTablesModel", "onHull", "(IIII)I"⟩ ∈ GW := gw_mk 710 (by decide +kernel) (by decide +kernel)
theorem w711 : Cond.instanceMethod ⟨"CoderTablesModel", "onHull", "(IIII)I"⟩ ∈ GW := gw_mk 711 (by decide +kernel) (by decide +kernel)
theorem w712 : Cond.selects "CoderTablesModel" ⟨"CoderTablesModel", "onHull", "(IIII)I"⟩ ⟨"CoderTablesModel", "onHull", "(IIII)I"⟩ ∈ GW := gw_mk 712 (by decide +kernel) (by decide +kernel)
theorem w713 : Cond.code ⟨"CoderTablesModel", "onHull", "(IIII)I"⟩ prog_5_method_30_code 5 (some .int) ∈ GW := gw_mk 713 (by decide +kernel) (by decide +kernel)
theorem w714 : Cond.methodLink "CoderTablesModel" 111 ⟨"CoderTablesModel", "noneOnHull", "(IIII)Z"⟩ ∈ GW := gw_mk 714 (by decide +kernel) (by decide +kernel)
theorem w716 : Cond.instanceMethod ⟨"CoderTablesModel", "noneOnHull", "(IIII)Z"⟩ ∈ GW := gw_mk 716 (by decide +kernel) (by decide +kernel)
theorem w717 : Cond.code ⟨"CoderTablesModel", "noneOnHull", "(IIII)Z"⟩ prog_5_method_29_code 5 (some .boolean) ∈ GW := gw_mk 717 (by decide +kernel) (by decide +kernel)
theorem w718 : Cond.methodLink "CoderTablesLaw" 125 ⟨"CoderTablesModel", "slope", "(IIIZ)J"⟩ ∈ GW := gw_mk 718 (by decide +kernel) (by decide +kernel)
theorem w719 : Cond.instanceMethod ⟨"CoderTablesModel", "slope", "(IIIZ)J"⟩ ∈ GW := gw_mk 719 (by decide +kernel) (by decide +kernel)
theorem w720 : Cond.selects "CoderTablesModel" ⟨"CoderTablesModel", "slope", "(IIIZ)J"⟩ ⟨"CoderTablesModel", "slope", "(IIIZ)J"⟩ ∈ GW := gw_mk 720 (by decide +kernel) (by decide +kernel)
theorem w721 : Cond.code ⟨"CoderTablesModel", "slope", "(IIIZ)J"⟩ prog_5_method_31_code 7 (some .long) ∈ GW := gw_mk 721 (by decide +kernel) (by decide +kernel)
theorem w722 : Cond.methodLink "CoderTablesLaw" 129 ⟨"CoderTablesModel", "signs", "(III)J"⟩ ∈ GW := gw_mk 722 (by decide +kernel) (by decide +kernel)
theorem w723 : Cond.instanceMethod ⟨"CoderTablesModel", "signs", "(III)J"⟩ ∈ GW := gw_mk 723 (by decide +kernel) (by decide +kernel)
theorem w724 : Cond.selects "CoderTablesModel" ⟨"CoderTablesModel", "signs", "(III)J"⟩ ⟨"CoderTablesModel", "signs", "(III)J"⟩ ∈ GW := gw_mk 724 (by decide +kernel) (by decide +kernel)
theorem w725 : Cond.code ⟨"CoderTablesModel", "signs", "(III)J"⟩ prog_5_method_34_code 11 (some .long) ∈ GW := gw_mk 725 (by decide +kernel) (by decide +kernel)
theorem w726 : Cond.constantLong "CoderTablesModel" 118 (3) ∈ GW := gw_mk 726 (by decide +kernel) (by decide +kernel)
theorem w727 : Cond.methodLink "CoderTablesModel" 120 ⟨"CoderTablesModel", "less", "(II)I"⟩ ∈ GW := gw_mk 727 (by decide +kernel) (by decide +kernel)
theorem w729 : Cond.instanceMethod ⟨"CoderTablesModel", "less", "(II)I"⟩ ∈ GW := gw_mk 729 (by decide +kernel) (by decide +kernel)
theorem w730 : Cond.code ⟨"CoderTablesModel", "less", "(II)I"⟩ prog_5_method_33_code 5 (some .int) ∈ GW := gw_mk 730 (by decide +kernel) (by decide +kernel)
theorem w731 : Cond.methodLink "CoderTablesModel" 115 ⟨"CoderTablesModel", "areBoth", "(III)Z"⟩ ∈ GW := gw_mk 731 (by decide +kernel) (by decide +kernel)
theorem w733 : Cond.instanceMethod ⟨"CoderTablesModel", "areBoth", "(III)Z"⟩ ∈ GW := gw_mk 733 (by decide +kernel) (by decide +kernel)
theorem w734 : Cond.code ⟨"CoderTablesModel", "areBoth", "(III)Z"⟩ prog_5_method_32_code 4 (some .boolean) ∈ GW := gw_mk 734 (by decide +kernel) (by decide +kernel)
theorem w735 : Cond.constantLong "CoderTablesModel" 124 (2) ∈ GW := gw_mk 735 (by decide +kernel) (by decide +kernel)
theorem w736 : Cond.methodLink "CoderTablesLaw" 135 ⟨"CoderTablesModel", "draws", "(IIJI)I"⟩ ∈ GW := gw_mk 736 (by decide +kernel) (by decide +kernel)
theorem w737 : Cond.instanceMethod ⟨"CoderTablesModel", "draws", "(IIJI)I"⟩ ∈ GW := gw_mk 737 (by decide +kernel) (by decide +kernel)
theorem w738 : Cond.selects "CoderTablesModel" ⟨"CoderTablesModel", "draws", "(IIJI)I"⟩ ⟨"CoderTablesModel", "draws", "(IIJI)I"⟩ ∈ GW := gw_mk 738 (by decide +kernel) (by decide +kernel)
theorem w739 : Cond.code ⟨"CoderTablesModel", "draws", "(IIJI)I"⟩ prog_5_method_37_code 16 (some .int) ∈ GW := gw_mk 739 (by decide +kernel) (by decide +kernel)
theorem w740 : Cond.constantLong "CoderTablesModel" 134 (200) ∈ GW := gw_mk 740 (by decide +kernel) (by decide +kernel)
theorem w741 : Cond.methodLink "CoderTablesModel" 136 ⟨"CoderTablesModel", "draw", "(I)I"⟩ ∈ GW := gw_mk 741 (by decide +kernel) (by decide +kernel)
theorem w743 : Cond.instanceMethod ⟨"CoderTablesModel", "draw", "(I)I"⟩ ∈ GW := gw_mk 743 (by decide +kernel) (by decide +kernel)
theorem w744 : Cond.code ⟨"CoderTablesModel", "draw", "(I)I"⟩ prog_5_method_35_code 2 (some .int) ∈ GW := gw_mk 744 (by decide +kernel) (by decide +kernel)
theorem w745 : Cond.constantLong "CoderTablesModel" 130 (6364136223846793005) ∈ GW := gw_mk 745 (by decide +kernel) (by decide +kernel)
theorem w746 : Cond.constantLong "CoderTablesModel" 132 (1442695040888963407) ∈ GW := gw_mk 746 (by decide +kernel) (by decide +kernel)
theorem w747 : Cond.methodLink "CoderTablesModel" 139 ⟨"CoderTablesModel", "both", "(III)I"⟩ ∈ GW := gw_mk 747 (by decide +kernel) (by decide +kernel)
theorem w749 : Cond.instanceMethod ⟨"CoderTablesModel", "both", "(III)I"⟩ ∈ GW := gw_mk 749 (by decide +kernel) (by decide +kernel)
theorem w750 : Cond.code ⟨"CoderTablesModel", "both", "(III)I"⟩ prog_5_method_36_code 6 (some .int) ∈ GW := gw_mk 750 (by decide +kernel) (by decide +kernel)
theorem w751 : Cond.methodLink "CoderTablesLaw" 140 ⟨"CoderTablesModel", "fill", "(J)I"⟩ ∈ GW := gw_mk 751 (by decide +kernel) (by decide +kernel)
theorem w752 : Cond.instanceMethod ⟨"CoderTablesModel", "fill", "(J)I"⟩ ∈ GW := gw_mk 752 (by decide +kernel) (by decide +kernel)
theorem w753 : Cond.selects "CoderTablesModel" ⟨"CoderTablesModel", "fill", "(J)I"⟩ ⟨"CoderTablesModel", "fill", "(J)I"⟩ ∈ GW := gw_mk 753 (by decide +kernel) (by decide +kernel)
theorem w754 : Cond.code ⟨"CoderTablesModel", "fill", "(J)I"⟩ prog_5_method_38_code 5 (some .int) ∈ GW := gw_mk 754 (by decide +kernel) (by decide +kernel)
theorem w755 : Cond.methodLink "CoderTablesModel" 143 ⟨"CoderTablesModel", "fillPair", "(I)V"⟩ ∈ GW := gw_mk 755 (by decide +kernel) (by decide +kernel)
theorem w757 : Cond.instanceMethod ⟨"CoderTablesModel", "fillPair", "(I)V"⟩ ∈ GW := gw_mk 757 (by decide +kernel) (by decide +kernel)
theorem w758 : Cond.code ⟨"CoderTablesModel", "fillPair", "(I)V"⟩ prog_5_method_39_code 5 none ∈ GW := gw_mk 758 (by decide +kernel) (by decide +kernel)
theorem w759 : Cond.methodLink "CoderTablesModel" 146 ⟨"CoderTablesModel", "points", "()I"⟩ ∈ GW := gw_mk 759 (by decide +kernel) (by decide +kernel)
theorem w761 : Cond.instanceMethod ⟨"CoderTablesModel", "points", "()I"⟩ ∈ GW := gw_mk 761 (by decide +kernel) (by decide +kernel)
theorem w762 : Cond.code ⟨"CoderTablesModel", "points", "()I"⟩ prog_5_method_40_code 3 (some .int) ∈ GW := gw_mk 762 (by decide +kernel) (by decide +kernel)
theorem w763 : Cond.methodLink "CoderTablesLaw" 144 ⟨"CoderTablesModel", "text", "()I"⟩ ∈ GW := gw_mk 763 (by decide +kernel) (by decide +kernel)
theorem w764 : Cond.instanceMethod ⟨"CoderTablesModel", "text", "()I"⟩ ∈ GW := gw_mk 764 (by decide +kernel) (by decide +kernel)
theorem w765 : Cond.selects "CoderTablesModel" ⟨"CoderTablesModel", "text", "()I"⟩ ⟨"CoderTablesModel", "text", "()I"⟩ ∈ GW := gw_mk 765 (by decide +kernel) (by decide +kernel)
theorem w766 : Cond.code ⟨"CoderTablesModel", "text", "()I"⟩ prog_5_method_43_code 2 (some .int) ∈ GW := gw_mk 766 (by decide +kernel) (by decide +kernel)
theorem w767 : Cond.methodLink "CoderTablesModel" 160 ⟨"CoderTablesModel", "typeNumber", "(J)V"⟩ ∈ GW := gw_mk 767 (by decide +kernel) (by decide +kernel)
theorem w769 : Cond.instanceMethod ⟨"CoderTablesModel", "typeNumber", "(J)V"⟩ ∈ GW := gw_mk 769 (by decide +kernel) (by decide +kernel)
theorem w770 : Cond.code ⟨"CoderTablesModel", "typeNumber", "(J)V"⟩ prog_5_method_42_code 5 none ∈ GW := gw_mk 770 (by decide +kernel) (by decide +kernel)
theorem w771 : Cond.constantLong "CoderTablesModel" 153 (9) ∈ GW := gw_mk 771 (by decide +kernel) (by decide +kernel)
theorem w772 : Cond.constantLong "CoderTablesModel" 155 (10) ∈ GW := gw_mk 772 (by decide +kernel) (by decide +kernel)
theorem w773 : Cond.methodLink "CoderTablesModel" 157 ⟨"CoderTablesModel", "type", "(I)V"⟩ ∈ GW := gw_mk 773 (by decide +kernel) (by decide +kernel)
theorem w775 : Cond.instanceMethod ⟨"CoderTablesModel", "type", "(I)V"⟩ ∈ GW := gw_mk 775 (by decide +kernel) (by decide +kernel)
theorem w776 : Cond.code ⟨"CoderTablesModel", "type", "(I)V"⟩ prog_5_method_41_code 2 none ∈ GW := gw_mk 776 (by decide +kernel) (by decide +kernel)
theorem w777 : Cond.methodLink "CoderTablesLaw" 147 ⟨"CoderTablesModel", "charAt", "(I)I"⟩ ∈ GW := gw_mk 777 (by decide +kernel) (by decide +kernel)
theorem w778 : Cond.instanceMethod ⟨"CoderTablesModel", "charAt", "(I)I"⟩ ∈ GW := gw_mk 778 (by decide +kernel) (by decide +kernel)
theorem w779 : Cond.selects "CoderTablesModel" ⟨"CoderTablesModel", "charAt", "(I)I"⟩ ⟨"CoderTablesModel", "charAt", "(I)I"⟩ ∈ GW := gw_mk 779 (by decide +kernel) (by decide +kernel)
theorem w780 : Cond.code ⟨"CoderTablesModel", "charAt", "(I)I"⟩ prog_5_method_44_code 2 (some .int) ∈ GW := gw_mk 780 (by decide +kernel) (by decide +kernel)
theorem w781 : Cond.methodLink "CoderTablesLaw" 151 ⟨"CoderTablesModel", "told", "(I)I"⟩ ∈ GW := gw_mk 781 (by decide +kernel) (by decide +kernel)
theorem w782 : Cond.instanceMethod ⟨"CoderTablesModel", "told", "(I)I"⟩ ∈ GW := gw_mk 782 (by decide +kernel) (by decide +kernel)
theorem w783 : Cond.selects "CoderTablesModel" ⟨"CoderTablesModel", "told", "(I)I"⟩ ⟨"CoderTablesModel", "told", "(I)I"⟩ ∈ GW := gw_mk 783 (by decide +kernel) (by decide +kernel)
theorem w784 : Cond.code ⟨"CoderTablesModel", "told", "(I)I"⟩ prog_5_method_45_code 4 (some .int) ∈ GW := gw_mk 784 (by decide +kernel) (by decide +kernel)
theorem w785 : Cond.methodLink "CoderTablesLaw" 155 ⟨"CoderTablesModel", "clear", "()V"⟩ ∈ GW := gw_mk 785 (by decide +kernel) (by decide +kernel)
theorem w786 : Cond.instanceMethod ⟨"CoderTablesModel", "clear", "()V"⟩ ∈ GW := gw_mk 786 (by decide +kernel) (by decide +kernel)
theorem w787 : Cond.selects "CoderTablesModel" ⟨"CoderTablesModel", "clear", "()V"⟩ ⟨"CoderTablesModel", "clear", "()V"⟩ ∈ GW := gw_mk 787 (by decide +kernel) (by decide +kernel)
theorem w788 : Cond.code ⟨"CoderTablesModel", "clear", "()V"⟩ prog_5_method_46_code 2 none ∈ GW := gw_mk 788 (by decide +kernel) (by decide +kernel)
theorem w789 : Cond.constantLong "CoderTablesLaw" 130 (4294967295) ∈ GW := gw_mk 789 (by decide +kernel) (by decide +kernel)
end
section
theorem d_X_init_0 : decode b_X_init 0 = .ok (.aload_n 0, 1) := by decide +kernel
theorem d_X_init_1 : decode b_X_init 1 = .ok (.invokespecial 3, 3) := by decide +kernel
theorem d_X_init_4 : decode b_X_init 4 = .ok (.aload_n 0, 1) := by decide +kernel
theorem d_X_init_5 : decode b_X_init 5 = .ok (.iconst 0, 1) := by decide +kernel
theorem d_X_init_6 : decode b_X_init 6 = .ok (.putfield 9, 3) := by decide +kernel
theorem d_X_init_9 : decode b_X_init 9 = .ok (.aload_n 0, 1) := by decide +kernel
theorem d_X_init_10 : decode b_X_init 10 = .ok (.iconst 0, 1) := by decide +kernel
theorem d_X_init_11 : decode b_X_init 11 = .ok (.putfield 13, 3) := by decide +kernel
theorem d_X_init_14 : decode b_X_init 14 = .ok (.aload_n 0, 1) := by decide +kernel
theorem d_X_init_15 : decode b_X_init 15 = .ok (.sipush 192, 3) := by decide +kernel
theorem d_X_init_18 : decode b_X_init 18 = .ok (.newarray .int, 2) := by decide +kernel
theorem d_X_init_20 : decode b_X_init 20 = .ok (.putfield 16, 3) := by decide +kernel
theorem d_X_init_23 : decode b_X_init 23 = .ok (.aload_n 0, 1) := by decide +kernel
theorem d_X_init_24 : decode b_X_init 24 = .ok (.sipush 192, 3) := by decide +kernel
theorem d_X_init_27 : decode b_X_init 27 = .ok (.newarray .int, 2) := by decide +kernel
theorem d_X_init_29 : decode b_X_init 29 = .ok (.putfield 20, 3) := by decide +kernel
theorem d_X_init_32 : decode b_X_init 32 = .ok (.aload_n 0, 1) := by decide +kernel
theorem d_X_init_33 : decode b_X_init 33 = .ok (.sipush 1152, 3) := by decide +kernel
theorem d_X_init_36 : decode b_X_init 36 = .ok (.newarray .int, 2) := by decide +kernel
theorem d_X_init_38 : decode b_X_init 38 = .ok (.putfield 23, 3) := by decide +kernel
theorem d_X_init_41 : decode b_X_init 41 = .ok (.aload_n 0, 1) := by decide +kernel
theorem d_X_init_42 : decode b_X_init 42 = .ok (.sipush 1152, 3) := by decide +kernel
theorem d_X_init_45 : decode b_X_init 45 = .ok (.newarray .int, 2) := by decide +kernel
theorem d_X_init_47 : decode b_X_init 47 = .ok (.putfield 26, 3) := by decide +kernel
theorem d_X_init_50 : decode b_X_init 50 = .ok (.aload_n 0, 1) := by decide +kernel
theorem d_X_init_51 : decode b_X_init 51 = .ok (.sipush 192, 3) := by decide +kernel
theorem d_X_init_54 : decode b_X_init 54 = .ok (.newarray .int, 2) := by decide +kernel
theorem d_X_init_56 : decode b_X_init 56 = .ok (.putfield 29, 3) := by decide +kernel
theorem d_X_init_59 : decode b_X_init 59 = .ok (.aload_n 0, 1) := by decide +kernel
theorem d_X_init_60 : decode b_X_init 60 = .ok (.iconst 0, 1) := by decide +kernel
theorem d_X_init_61 : decode b_X_init 61 = .ok (.putfield 32, 3) := by decide +kernel
theorem d_X_init_64 : decode b_X_init 64 = .ok (.aload_n 0, 1) := by decide +kernel
theorem d_X_init_65 : decode b_X_init 65 = .ok (.bipush 6, 2) := by decide +kernel
theorem d_X_init_67 : decode b_X_init 67 = .ok (.newarray .int, 2) := by decide +kernel
theorem d_X_init_69 : decode b_X_init 69 = .ok (.putfield 35, 3) := by decide +kernel
theorem d_X_init_72 : decode b_X_init 72 = .ok (.aload_n 0, 1) := by decide +kernel
theorem d_X_init_73 : decode b_X_init 73 = .ok (.iconst 0, 1) := by decide +kernel
theorem d_X_init_74 : decode b_X_init 74 = .ok (.putfield 38, 3) := by decide +kernel
theorem d_X_init_77 : decode b_X_init 77 = .ok (.aload_n 0, 1) := by decide +kernel
theorem d_X_init_78 : decode b_X_init 78 = .ok (.bipush 24, 2) := by decide +kernel
theorem d_X_init_80 : decode b_X_init 80 = .ok (.newarray .int, 2) := by decide +kernel
theorem d_X_init_82 : decode b_X_init 82 = .ok (.putfield 41, 3) := by decide +kernel
theorem d_X_init_85 : decode b_X_init 85 = .ok (.aload_n 0, 1) := by decide +kernel
theorem d_X_init_86 : decode b_X_init 86 = .ok (.iconst 0, 1) := by decide +kernel
theorem d_X_init_87 : decode b_X_init 87 = .ok (.putfield 44, 3) := by decide +kernel
theorem d_X_init_90 : decode b_X_init 90 = .ok (.aload_n 0, 1) := by decide +kernel
theorem d_X_init_91 : decode b_X_init 91 = .ok (.new 47, 3) := by decide +kernel
theorem d_X_init_94 : decode b_X_init 94 = .ok (.dup, 1) := by decide +kernel
theorem d_X_init_95 : decode b_X_init 95 = .ok (.invokespecial 49, 3) := by decide +kernel
theorem d_X_init_98 : decode b_X_init 98 = .ok (.putfield 50, 3) := by decide +kernel
theorem d_X_init_101 : decode b_X_init 101 = .ok (.aload_n 0, 1) := by decide +kernel
theorem d_X_init_102 : decode b_X_init 102 = .ok (.new 54, 3) := by decide +kernel
theorem d_X_init_105 : decode b_X_init 105 = .ok (.dup, 1) := by decide +kernel
theorem d_X_init_106 : decode b_X_init 106 = .ok (.invokespecial 56, 3) := by decide +kernel
theorem d_X_init_109 : decode b_X_init 109 = .ok (.putfield 57, 3) := by decide +kernel
theorem d_X_init_112 : decode b_X_init 112 = .ok (.return_, 1) := by decide +kernel
theorem d_X_coder_0 : decode b_X_coder 0 = .ok (.aload_n 0, 1) := by decide +kernel
theorem d_X_coder_1 : decode b_X_coder 1 = .ok (.getfield 9, 3) := by decide +kernel
theorem d_X_coder_4 : decode b_X_coder 4 = .ok (.bipush 8, 2) := by decide +kernel
theorem d_X_coder_6 : decode b_X_coder 6 = .ok (.if_icmp .lt 13, 3) := by decide +kernel
theorem d_X_coder_9 : decode b_X_coder 9 = .ok (.new 61, 3) := by decide +kernel
theorem d_X_coder_12 : decode b_X_coder 12 = .ok (.dup, 1) := by decide +kernel
theorem d_X_coder_13 : decode b_X_coder 13 = .ok (.ldc 63, 2) := by decide +kernel
theorem d_X_coder_15 : decode b_X_coder 15 = .ok (.invokespecial 65, 3) := by decide +kernel
theorem d_X_coder_18 : decode b_X_coder 18 = .ok (.athrow, 1) := by decide +kernel
theorem d_X_coder_19 : decode b_X_coder 19 = .ok (.aload_n 0, 1) := by decide +kernel
theorem d_X_coder_20 : decode b_X_coder 20 = .ok (.dup, 1) := by decide +kernel
theorem d_X_coder_21 : decode b_X_coder 21 = .ok (.getfield 9, 3) := by decide +kernel
theorem d_X_coder_24 : decode b_X_coder 24 = .ok (.iconst 1, 1) := by decide +kernel
theorem d_X_coder_25 : decode b_X_coder 25 = .ok (.iadd, 1) := by decide +kernel
theorem d_X_coder_26 : decode b_X_coder 26 = .ok (.putfield 9, 3) := by decide +kernel
theorem d_X_coder_29 : decode b_X_coder 29 = .ok (.aload_n 0, 1) := by decide +kernel
theorem d_X_coder_30 : decode b_X_coder 30 = .ok (.getfield 9, 3) := by decide +kernel
theorem d_X_coder_33 : decode b_X_coder 33 = .ok (.iconst 1, 1) := by decide +kernel
theorem d_X_coder_34 : decode b_X_coder 34 = .ok (.isub, 1) := by decide +kernel
theorem d_X_coder_35 : decode b_X_coder 35 = .ok (.ireturn, 1) := by decide +kernel
theorem d_X_picture_0 : decode b_X_picture 0 = .ok (.aload_n 0, 1) := by decide +kernel
theorem d_X_picture_1 : decode b_X_picture 1 = .ok (.getfield 13, 3) := by decide +kernel
theorem d_X_picture_4 : decode b_X_picture 4 = .ok (.bipush 24, 2) := by decide +kernel
theorem d_X_picture_6 : decode b_X_picture 6 = .ok (.if_icmp .lt 13, 3) := by decide +kernel
theorem d_X_picture_9 : decode b_X_picture 9 = .ok (.new 61, 3) := by decide +kernel
theorem d_X_picture_12 : decode b_X_picture 12 = .ok (.dup, 1) := by decide +kernel
theorem d_X_picture_13 : decode b_X_picture 13 = .ok (.ldc 68, 2) := by decide +kernel
theorem d_X_picture_15 : decode b_X_picture 15 = .ok (.invokespecial 65, 3) := by decide +kernel
theorem d_X_picture_18 : decode b_X_picture 18 = .ok (.athrow, 1) := by decide +kernel
theorem d_X_picture_19 : decode b_X_picture 19 = .ok (.aload_n 0, 1) := by decide +kernel
theorem d_X_picture_20 : decode b_X_picture 20 = .ok (.dup, 1) := by decide +kernel
theorem d_X_picture_21 : decode b_X_picture 21 = .ok (.getfield 13, 3) := by decide +kernel
theorem d_X_picture_24 : decode b_X_picture 24 = .ok (.iconst 1, 1) := by decide +kernel
theorem d_X_picture_25 : decode b_X_picture 25 = .ok (.iadd, 1) := by decide +kernel
theorem d_X_picture_26 : decode b_X_picture 26 = .ok (.putfield 13, 3) := by decide +kernel
theorem d_X_picture_29 : decode b_X_picture 29 = .ok (.aload_n 0, 1) := by decide +kernel
theorem d_X_picture_30 : decode b_X_picture 30 = .ok (.getfield 13, 3) := by decide +kernel
theorem d_X_picture_33 : decode b_X_picture 33 = .ok (.iconst 1, 1) := by decide +kernel
theorem d_X_picture_34 : decode b_X_picture 34 = .ok (.isub, 1) := by decide +kernel
theorem d_X_picture_35 : decode b_X_picture 35 = .ok (.ireturn, 1) := by decide +kernel
theorem d_X_point_0 : decode b_X_point 0 = .ok (.aload_n 0, 1) := by decide +kernel
theorem d_X_point_1 : decode b_X_point 1 = .ok (.iload_n 1, 1) := by decide +kernel
theorem d_X_point_2 : decode b_X_point 2 = .ok (.iload_n 2, 1) := by decide +kernel
theorem d_X_point_3 : decode b_X_point 3 = .ok (.invokevirtual 70, 3) := by decide +kernel
theorem d_X_point_6 : decode b_X_point 6 = .ok (.istore 5, 2) := by decide +kernel
theorem d_X_point_8 : decode b_X_point 8 = .ok (.iload_n 3, 1) := by decide +kernel
theorem d_X_point_9 : decode b_X_point 9 = .ok (.iconst 1, 1) := by decide +kernel
theorem d_X_point_10 : decode b_X_point 10 = .ok (.if_icmp .lt 9, 3) := by decide +kernel
theorem d_X_point_13 : decode b_X_point 13 = .ok (.iload_n 3, 1) := by decide +kernel
theorem d_X_point_14 : decode b_X_point 14 = .ok (.ldc 74, 2) := by decide +kernel
theorem d_X_point_16 : decode b_X_point 16 = .ok (.if_icmp .le 13, 3) := by decide +kernel
theorem d_X_point_19 : decode b_X_point 19 = .ok (.new 75, 3) := by decide +kernel
theorem d_X_point_22 : decode b_X_point 22 = .ok (.dup, 1) := by decide +kernel
theorem d_X_point_23 : decode b_X_point 23 = .ok (.ldc 77, 2) := by decide +kernel
theorem d_X_point_25 : decode b_X_point 25 = .ok (.invokespecial 79, 3) := by decide +kernel
theorem d_X_point_28 : decode b_X_point 28 = .ok (.athrow, 1) := by decide +kernel
theorem d_X_point_29 : decode b_X_point 29 = .ok (.iload 4, 2) := by decide +kernel
theorem d_X_point_31 : decode b_X_point 31 = .ok (.ifCond .lt 10, 3) := by decide +kernel
theorem d_X_point_34 : decode b_X_point 34 = .ok (.iload 4, 2) := by decide +kernel
theorem d_X_point_36 : decode b_X_point 36 = .ok (.ldc 74, 2) := by decide +kernel
theorem d_X_point_38 : decode b_X_point 38 = .ok (.if_icmp .le 13, 3) := by decide +kernel
theorem d_X_point_41 : decode b_X_point 41 = .ok (.new 75, 3) := by decide +kernel
theorem d_X_point_44 : decode b_X_point 44 = .ok (.dup, 1) := by decide +kernel
theorem d_X_point_45 : decode b_X_point 45 = .ok (.ldc 80, 2) := by decide +kernel
theorem d_X_point_47 : decode b_X_point 47 = .ok (.invokespecial 79, 3) := by decide +kernel
theorem d_X_point_50 : decode b_X_point 50 = .ok (.athrow, 1) := by decide +kernel
theorem d_X_point_51 : decode b_X_point 51 = .ok (.aload_n 0, 1) := by decide +kernel
theorem d_X_point_52 : decode b_X_point 52 = .ok (.getfield 16, 3) := by decide +kernel
theorem d_X_point_55 : decode b_X_point 55 = .ok (.iload 5, 2) := by decide +kernel
theorem d_X_point_57 : decode b_X_point 57 = .ok (.iaload, 1) := by decide +kernel
theorem d_X_point_58 : decode b_X_point 58 = .ok (.iconst (-1), 1) := by decide +kernel
theorem d_X_point_59 : decode b_X_point 59 = .ok (.if_icmp .ne 13, 3) := by decide +kernel
theorem d_X_point_62 : decode b_X_point 62 = .ok (.new 82, 3) := by decide +kernel
theorem d_X_point_65 : decode b_X_point 65 = .ok (.dup, 1) := by decide +kernel
theorem d_X_point_66 : decode b_X_point 66 = .ok (.ldc 84, 2) := by decide +kernel
theorem d_X_point_68 : decode b_X_point 68 = .ok (.invokespecial 86, 3) := by decide +kernel
theorem d_X_point_71 : decode b_X_point 71 = .ok (.athrow, 1) := by decide +kernel
theorem d_X_point_72 : decode b_X_point 72 = .ok (.aload_n 0, 1) := by decide +kernel
theorem d_X_point_73 : decode b_X_point 73 = .ok (.getfield 16, 3) := by decide +kernel
theorem d_X_point_76 : decode b_X_point 76 = .ok (.iload 5, 2) := by decide +kernel
theorem d_X_point_78 : decode b_X_point 78 = .ok (.iaload, 1) := by decide +kernel
theorem d_X_point_79 : decode b_X_point 79 = .ok (.bipush 6, 2) := by decide +kernel
theorem d_X_point_81 : decode b_X_point 81 = .ok (.if_icmp .lt 13, 3) := by decide +kernel
theorem d_X_point_84 : decode b_X_point 84 = .ok (.new 61, 3) := by decide +kernel
theorem d_X_point_87 : decode b_X_point 87 = .ok (.dup, 1) := by decide +kernel
theorem d_X_point_88 : decode b_X_point 88 = .ok (.ldc 87, 2) := by decide +kernel
theorem d_X_point_90 : decode b_X_point 90 = .ok (.invokespecial 65, 3) := by decide +kernel
theorem d_X_point_93 : decode b_X_point 93 = .ok (.athrow, 1) := by decide +kernel
theorem d_X_point_94 : decode b_X_point 94 = .ok (.aload_n 0, 1) := by decide +kernel
theorem d_X_point_95 : decode b_X_point 95 = .ok (.iload 5, 2) := by decide +kernel
theorem d_X_point_97 : decode b_X_point 97 = .ok (.iload_n 3, 1) := by decide +kernel
theorem d_X_point_98 : decode b_X_point 98 = .ok (.iload 4, 2) := by decide +kernel
theorem d_X_point_100 : decode b_X_point 100 = .ok (.invokevirtual 89, 3) := by decide +kernel
theorem d_X_point_103 : decode b_X_point 103 = .ok (.aload_n 0, 1) := by decide +kernel
theorem d_X_point_104 : decode b_X_point 104 = .ok (.getfield 16, 3) := by decide +kernel
theorem d_X_point_107 : decode b_X_point 107 = .ok (.iload 5, 2) := by decide +kernel
theorem d_X_point_109 : decode b_X_point 109 = .ok (.iaload, 1) := by decide +kernel
theorem d_X_point_110 : decode b_X_point 110 = .ok (.ireturn, 1) := by decide +kernel
theorem d_X_fails_0 : decode b_X_fails 0 = .ok (.aload_n 0, 1) := by decide +kernel
theorem d_X_fails_1 : decode b_X_fails 1 = .ok (.iload_n 1, 1) := by decide +kernel
theorem d_X_fails_2 : decode b_X_fails 2 = .ok (.iload_n 2, 1) := by decide +kernel
theorem d_X_fails_3 : decode b_X_fails 3 = .ok (.invokevirtual 70, 3) := by decide +kernel
theorem d_X_fails_6 : decode b_X_fails 6 = .ok (.istore_n 3, 1) := by decide +kernel
theorem d_X_fails_7 : decode b_X_fails 7 = .ok (.aload_n 0, 1) := by decide +kernel
theorem d_X_fails_8 : decode b_X_fails 8 = .ok (.getfield 16, 3) := by decide +kernel
theorem d_X_fails_11 : decode b_X_fails 11 = .ok (.iload_n 3, 1) := by decide +kernel
theorem d_X_fails_12 : decode b_X_fails 12 = .ok (.iaload, 1) := by decide +kernel
theorem d_X_fails_13 : decode b_X_fails 13 = .ok (.istore 4, 2) := by decide +kernel
theorem d_X_fails_15 : decode b_X_fails 15 = .ok (.iload 4, 2) := by decide +kernel
theorem d_X_fails_17 : decode b_X_fails 17 = .ok (.iconst (-1), 1) := by decide +kernel
theorem d_X_fails_18 : decode b_X_fails 18 = .ok (.if_icmp .ne 13, 3) := by decide +kernel
theorem d_X_fails_21 : decode b_X_fails 21 = .ok (.new 82, 3) := by decide +kernel
theorem d_X_fails_24 : decode b_X_fails 24 = .ok (.dup, 1) := by decide +kernel
theorem d_X_fails_25 : decode b_X_fails 25 = .ok (.ldc 93, 2) := by decide +kernel
theorem d_X_fails_27 : decode b_X_fails 27 = .ok (.invokespecial 86, 3) := by decide +kernel
theorem d_X_fails_30 : decode b_X_fails 30 = .ok (.athrow, 1) := by decide +kernel
theorem d_X_fails_31 : decode b_X_fails 31 = .ok (.aload_n 0, 1) := by decide +kernel
theorem d_X_fails_32 : decode b_X_fails 32 = .ok (.iload_n 3, 1) := by decide +kernel
theorem d_X_fails_33 : decode b_X_fails 33 = .ok (.invokevirtual 95, 3) := by decide +kernel
theorem d_X_fails_36 : decode b_X_fails 36 = .ok (.iload 4, 2) := by decide +kernel
theorem d_X_fails_38 : decode b_X_fails 38 = .ok (.ireturn, 1) := by decide +kernel
theorem d_X_failed_0 : decode b_X_failed 0 = .ok (.aload_n 0, 1) := by decide +kernel
theorem d_X_failed_1 : decode b_X_failed 1 = .ok (.getfield 32, 3) := by decide +kernel
theorem d_X_failed_4 : decode b_X_failed 4 = .ok (.ireturn, 1) := by decide +kernel
theorem d_X_failing_0 : decode b_X_failing 0 = .ok (.iload_n 1, 1) := by decide +kernel
theorem d_X_failing_1 : decode b_X_failing 1 = .ok (.ifCond .lt 11, 3) := by decide +kernel
theorem d_X_failing_4 : decode b_X_failing 4 = .ok (.iload_n 1, 1) := by decide +kernel
theorem d_X_failing_5 : decode b_X_failing 5 = .ok (.aload_n 0, 1) := by decide +kernel
theorem d_X_failing_6 : decode b_X_failing 6 = .ok (.getfield 32, 3) := by decide +kernel
theorem d_X_failing_9 : decode b_X_failing 9 = .ok (.if_icmp .lt 13, 3) := by decide +kernel
theorem d_X_failing_12 : decode b_X_failing 12 = .ok (.new 99, 3) := by decide +kernel
theorem d_X_failing_15 : decode b_X_failing 15 = .ok (.dup, 1) := by decide +kernel
theorem d_X_failing_16 : decode b_X_failing 16 = .ok (.ldc 101, 2) := by decide +kernel
theorem d_X_failing_18 : decode b_X_failing 18 = .ok (.invokespecial 103, 3) := by decide +kernel
theorem d_X_failing_21 : decode b_X_failing 21 = .ok (.athrow, 1) := by decide +kernel
theorem d_X_failing_22 : decode b_X_failing 22 = .ok (.iload_n 2, 1) := by decide +kernel
theorem d_X_failing_23 : decode b_X_failing 23 = .ok (.ifCond .eq 18, 3) := by decide +kernel
theorem d_X_failing_26 : decode b_X_failing 26 = .ok (.iload_n 2, 1) := by decide +kernel
theorem d_X_failing_27 : decode b_X_failing 27 = .ok (.iconst 1, 1) := by decide +kernel
theorem d_X_failing_28 : decode b_X_failing 28 = .ok (.if_icmp .eq 13, 3) := by decide +kernel
theorem d_X_failing_31 : decode b_X_failing 31 = .ok (.new 75, 3) := by decide +kernel
theorem d_X_failing_34 : decode b_X_failing 34 = .ok (.dup, 1) := by decide +kernel
theorem d_X_failing_35 : decode b_X_failing 35 = .ok (.ldc 104, 2) := by decide +kernel
theorem d_X_failing_37 : decode b_X_failing 37 = .ok (.invokespecial 79, 3) := by decide +kernel
theorem d_X_failing_40 : decode b_X_failing 40 = .ok (.athrow, 1) := by decide +kernel
theorem d_X_failing_41 : decode b_X_failing 41 = .ok (.aload_n 0, 1) := by decide +kernel
theorem d_X_failing_42 : decode b_X_failing 42 = .ok (.getfield 29, 3) := by decide +kernel
theorem d_X_failing_45 : decode b_X_failing 45 = .ok (.iload_n 1, 1) := by decide +kernel
theorem d_X_failing_46 : decode b_X_failing 46 = .ok (.iaload, 1) := by decide +kernel
theorem d_X_failing_47 : decode b_X_failing 47 = .ok (.istore_n 3, 1) := by decide +kernel
theorem d_X_failing_48 : decode b_X_failing 48 = .ok (.iload_n 2, 1) := by decide +kernel
theorem d_X_failing_49 : decode b_X_failing 49 = .ok (.ifCond .ne 10, 3) := by decide +kernel
theorem d_X_failing_52 : decode b_X_failing 52 = .ok (.iload_n 3, 1) := by decide +kernel
theorem d_X_failing_53 : decode b_X_failing 53 = .ok (.bipush 24, 2) := by decide +kernel
theorem d_X_failing_55 : decode b_X_failing 55 = .ok (.idiv, 1) := by decide +kernel
theorem d_X_failing_56 : decode b_X_failing 56 = .ok (.goto 7, 3) := by decide +kernel
theorem d_X_failing_59 : decode b_X_failing 59 = .ok (.iload_n 3, 1) := by decide +kernel
theorem d_X_failing_60 : decode b_X_failing 60 = .ok (.bipush 24, 2) := by decide +kernel
theorem d_X_failing_62 : decode b_X_failing 62 = .ok (.irem, 1) := by decide +kernel
theorem d_X_failing_63 : decode b_X_failing 63 = .ok (.ireturn, 1) := by decide +kernel
theorem d_X_least_0 : decode b_X_least 0 = .ok (.aload_n 0, 1) := by decide +kernel
theorem d_X_least_1 : decode b_X_least 1 = .ok (.iload_n 1, 1) := by decide +kernel
theorem d_X_least_2 : decode b_X_least 2 = .ok (.invokevirtual 106, 3) := by decide +kernel
theorem d_X_least_5 : decode b_X_least 5 = .ok (.iload_n 2, 1) := by decide +kernel
theorem d_X_least_6 : decode b_X_least 6 = .ok (.ifCond .ge 13, 3) := by decide +kernel
theorem d_X_least_9 : decode b_X_least 9 = .ok (.new 75, 3) := by decide +kernel
theorem d_X_least_12 : decode b_X_least 12 = .ok (.dup, 1) := by decide +kernel
theorem d_X_least_13 : decode b_X_least 13 = .ok (.ldc 109, 2) := by decide +kernel
theorem d_X_least_15 : decode b_X_least 15 = .ok (.invokespecial 79, 3) := by decide +kernel
theorem d_X_least_18 : decode b_X_least 18 = .ok (.athrow, 1) := by decide +kernel
theorem d_X_least_19 : decode b_X_least 19 = .ok (.iconst (-1), 1) := by decide +kernel
theorem d_X_least_20 : decode b_X_least 20 = .ok (.istore_n 3, 1) := by decide +kernel
theorem d_X_least_21 : decode b_X_least 21 = .ok (.iconst 0, 1) := by decide +kernel
theorem d_X_least_22 : decode b_X_least 22 = .ok (.istore 4, 2) := by decide +kernel
theorem d_X_least_24 : decode b_X_least 24 = .ok (.iconst 0, 1) := by decide +kernel
theorem d_X_least_25 : decode b_X_least 25 = .ok (.istore 5, 2) := by decide +kernel
theorem d_X_least_27 : decode b_X_least 27 = .ok (.iload 5, 2) := by decide +kernel
theorem d_X_least_29 : decode b_X_least 29 = .ok (.aload_n 0, 1) := by decide +kernel
theorem d_X_least_30 : decode b_X_least 30 = .ok (.getfield 9, 3) := by decide +kernel
theorem d_X_least_33 : decode b_X_least 33 = .ok (.if_icmp .ge 48, 3) := by decide +kernel
theorem d_X_least_36 : decode b_X_least 36 = .ok (.aload_n 0, 1) := by decide +kernel
theorem d_X_least_37 : decode b_X_least 37 = .ok (.iload 5, 2) := by decide +kernel
theorem d_X_least_39 : decode b_X_least 39 = .ok (.bipush 24, 2) := by decide +kernel
theorem d_X_least_41 : decode b_X_least 41 = .ok (.imul, 1) := by decide +kernel
theorem d_X_least_42 : decode b_X_least 42 = .ok (.iload_n 1, 1) := by decide +kernel
theorem d_X_least_43 : decode b_X_least 43 = .ok (.iadd, 1) := by decide +kernel
theorem d_X_least_44 : decode b_X_least 44 = .ok (.iload_n 2, 1) := by decide +kernel
theorem d_X_least_45 : decode b_X_least 45 = .ok (.invokevirtual 111, 3) := by decide +kernel
theorem d_X_least_48 : decode b_X_least 48 = .ok (.istore 6, 2) := by decide +kernel
theorem d_X_least_50 : decode b_X_least 50 = .ok (.iload 6, 2) := by decide +kernel
theorem d_X_least_52 : decode b_X_least 52 = .ok (.iconst (-1), 1) := by decide +kernel
theorem d_X_least_53 : decode b_X_least 53 = .ok (.if_icmp .eq 22, 3) := by decide +kernel
theorem d_X_least_56 : decode b_X_least 56 = .ok (.iload_n 3, 1) := by decide +kernel
theorem d_X_least_57 : decode b_X_least 57 = .ok (.iconst (-1), 1) := by decide +kernel
theorem d_X_least_58 : decode b_X_least 58 = .ok (.if_icmp .eq 10, 3) := by decide +kernel
theorem d_X_least_61 : decode b_X_least 61 = .ok (.iload 6, 2) := by decide +kernel
theorem d_X_least_63 : decode b_X_least 63 = .ok (.iload 4, 2) := by decide +kernel
theorem d_X_least_65 : decode b_X_least 65 = .ok (.if_icmp .ge 10, 3) := by decide +kernel
theorem d_X_least_68 : decode b_X_least 68 = .ok (.iload 5, 2) := by decide +kernel
theorem d_X_least_70 : decode b_X_least 70 = .ok (.istore_n 3, 1) := by decide +kernel
theorem d_X_least_71 : decode b_X_least 71 = .ok (.iload 6, 2) := by decide +kernel
theorem d_X_least_73 : decode b_X_least 73 = .ok (.istore 4, 2) := by decide +kernel
theorem d_X_least_75 : decode b_X_least 75 = .ok (.iinc 5 1, 3) := by decide +kernel
theorem d_X_least_78 : decode b_X_least 78 = .ok (.goto (-51), 3) := by decide +kernel
theorem d_X_least_81 : decode b_X_least 81 = .ok (.iload_n 3, 1) := by decide +kernel
theorem d_X_least_82 : decode b_X_least 82 = .ok (.ireturn, 1) := by decide +kernel
theorem d_X_sum_0 : decode b_X_sum 0 = .ok (.aload_n 0, 1) := by decide +kernel
theorem d_X_sum_1 : decode b_X_sum 1 = .ok (.iload_n 1, 1) := by decide +kernel
theorem d_X_sum_2 : decode b_X_sum 2 = .ok (.invokevirtual 114, 3) := by decide +kernel
theorem d_X_sum_5 : decode b_X_sum 5 = .ok (.aload_n 0, 1) := by decide +kernel
theorem d_X_sum_6 : decode b_X_sum 6 = .ok (.iload_n 1, 1) := by decide +kernel
theorem d_X_sum_7 : decode b_X_sum 7 = .ok (.invokevirtual 117, 3) := by decide +kernel
theorem d_X_sum_10 : decode b_X_sum 10 = .ok (.ifCond .ne 9, 3) := by decide +kernel
theorem d_X_sum_13 : decode b_X_sum 13 = .ok (.ldc2_w 121, 3) := by decide +kernel
theorem d_X_sum_16 : decode b_X_sum 16 = .ok (.goto 8, 3) := by decide +kernel
theorem d_X_sum_19 : decode b_X_sum 19 = .ok (.aload_n 0, 1) := by decide +kernel
theorem d_X_sum_20 : decode b_X_sum 20 = .ok (.iload_n 1, 1) := by decide +kernel
theorem d_X_sum_21 : decode b_X_sum 21 = .ok (.invokevirtual 123, 3) := by decide +kernel
theorem d_X_sum_24 : decode b_X_sum 24 = .ok (.lreturn, 1) := by decide +kernel
theorem d_X_mean_0 : decode b_X_mean 0 = .ok (.aload_n 0, 1) := by decide +kernel
theorem d_X_mean_1 : decode b_X_mean 1 = .ok (.iload_n 1, 1) := by decide +kernel
theorem d_X_mean_2 : decode b_X_mean 2 = .ok (.invokevirtual 114, 3) := by decide +kernel
theorem d_X_mean_5 : decode b_X_mean 5 = .ok (.aload_n 0, 1) := by decide +kernel
theorem d_X_mean_6 : decode b_X_mean 6 = .ok (.iload_n 1, 1) := by decide +kernel
theorem d_X_mean_7 : decode b_X_mean 7 = .ok (.invokevirtual 127, 3) := by decide +kernel
theorem d_X_mean_10 : decode b_X_mean 10 = .ok (.aload_n 0, 1) := by decide +kernel
theorem d_X_mean_11 : decode b_X_mean 11 = .ok (.iload_n 1, 1) := by decide +kernel
theorem d_X_mean_12 : decode b_X_mean 12 = .ok (.invokevirtual 123, 3) := by decide +kernel
theorem d_X_mean_15 : decode b_X_mean 15 = .ok (.lstore_n 3, 1) := by decide +kernel
theorem d_X_mean_16 : decode b_X_mean 16 = .ok (.aload_n 0, 1) := by decide +kernel
theorem d_X_mean_17 : decode b_X_mean 17 = .ok (.iload_n 1, 1) := by decide +kernel
theorem d_X_mean_18 : decode b_X_mean 18 = .ok (.invokevirtual 117, 3) := by decide +kernel
theorem d_X_mean_21 : decode b_X_mean 21 = .ok (.i2l, 1) := by decide +kernel
theorem d_X_mean_22 : decode b_X_mean 22 = .ok (.lstore 5, 2) := by decide +kernel
theorem d_X_mean_24 : decode b_X_mean 24 = .ok (.iload_n 2, 1) := by decide +kernel
theorem d_X_mean_25 : decode b_X_mean 25 = .ok (.ifCond .eq 12, 3) := by decide +kernel
theorem d_X_mean_28 : decode b_X_mean 28 = .ok (.lload_n 3, 1) := by decide +kernel
theorem d_X_mean_29 : decode b_X_mean 29 = .ok (.lload 5, 2) := by decide +kernel
theorem d_X_mean_31 : decode b_X_mean 31 = .ok (.invokestatic 130, 3) := by decide +kernel
theorem d_X_mean_34 : decode b_X_mean 34 = .ok (.goto 9, 3) := by decide +kernel
theorem d_X_mean_37 : decode b_X_mean 37 = .ok (.lload 5, 2) := by decide +kernel
theorem d_X_mean_39 : decode b_X_mean 39 = .ok (.lload_n 3, 1) := by decide +kernel
theorem d_X_mean_40 : decode b_X_mean 40 = .ok (.invokestatic 130, 3) := by decide +kernel
theorem d_X_mean_43 : decode b_X_mean 43 = .ok (.lreturn, 1) := by decide +kernel
theorem d_X_rank_0 : decode b_X_rank 0 = .ok (.aload_n 0, 1) := by decide +kernel
theorem d_X_rank_1 : decode b_X_rank 1 = .ok (.iload_n 1, 1) := by decide +kernel
theorem d_X_rank_2 : decode b_X_rank 2 = .ok (.invokevirtual 114, 3) := by decide +kernel
theorem d_X_rank_5 : decode b_X_rank 5 = .ok (.aload_n 0, 1) := by decide +kernel
theorem d_X_rank_6 : decode b_X_rank 6 = .ok (.iload_n 1, 1) := by decide +kernel
theorem d_X_rank_7 : decode b_X_rank 7 = .ok (.invokevirtual 127, 3) := by decide +kernel
theorem d_X_rank_10 : decode b_X_rank 10 = .ok (.aload_n 0, 1) := by decide +kernel
theorem d_X_rank_11 : decode b_X_rank 11 = .ok (.iload_n 1, 1) := by decide +kernel
theorem d_X_rank_12 : decode b_X_rank 12 = .ok (.invokevirtual 134, 3) := by decide +kernel
theorem d_X_rank_15 : decode b_X_rank 15 = .ok (.ireturn, 1) := by decide +kernel
theorem d_X_hull_0 : decode b_X_hull 0 = .ok (.aload_n 0, 1) := by decide +kernel
theorem d_X_hull_1 : decode b_X_hull 1 = .ok (.aload_n 0, 1) := by decide +kernel
theorem d_X_hull_2 : decode b_X_hull 2 = .ok (.iload_n 1, 1) := by decide +kernel
theorem d_X_hull_3 : decode b_X_hull 3 = .ok (.iload_n 2, 1) := by decide +kernel
theorem d_X_hull_4 : decode b_X_hull 4 = .ok (.invokevirtual 70, 3) := by decide +kernel
theorem d_X_hull_7 : decode b_X_hull 7 = .ok (.invokevirtual 137, 3) := by decide +kernel
theorem d_X_hull_10 : decode b_X_hull 10 = .ok (.aload_n 0, 1) := by decide +kernel
theorem d_X_hull_11 : decode b_X_hull 11 = .ok (.getfield 38, 3) := by decide +kernel
theorem d_X_hull_14 : decode b_X_hull 14 = .ok (.ireturn, 1) := by decide +kernel
theorem d_X_onHull_0 : decode b_X_onHull 0 = .ok (.aload_n 0, 1) := by decide +kernel
theorem d_X_onHull_1 : decode b_X_onHull 1 = .ok (.aload_n 0, 1) := by decide +kernel
theorem d_X_onHull_2 : decode b_X_onHull 2 = .ok (.iload_n 1, 1) := by decide +kernel
theorem d_X_onHull_3 : decode b_X_onHull 3 = .ok (.iload_n 2, 1) := by decide +kernel
theorem d_X_onHull_4 : decode b_X_onHull 4 = .ok (.invokevirtual 70, 3) := by decide +kernel
theorem d_X_onHull_7 : decode b_X_onHull 7 = .ok (.invokevirtual 137, 3) := by decide +kernel
theorem d_X_onHull_10 : decode b_X_onHull 10 = .ok (.iload_n 3, 1) := by decide +kernel
theorem d_X_onHull_11 : decode b_X_onHull 11 = .ok (.ifCond .lt 11, 3) := by decide +kernel
theorem d_X_onHull_14 : decode b_X_onHull 14 = .ok (.iload_n 3, 1) := by decide +kernel
theorem d_X_onHull_15 : decode b_X_onHull 15 = .ok (.aload_n 0, 1) := by decide +kernel
theorem d_X_onHull_16 : decode b_X_onHull 16 = .ok (.getfield 38, 3) := by decide +kernel
theorem d_X_onHull_19 : decode b_X_onHull 19 = .ok (.if_icmp .lt 13, 3) := by decide +kernel
theorem d_X_onHull_22 : decode b_X_onHull 22 = .ok (.new 99, 3) := by decide +kernel
theorem d_X_onHull_25 : decode b_X_onHull 25 = .ok (.dup, 1) := by decide +kernel
theorem d_X_onHull_26 : decode b_X_onHull 26 = .ok (.ldc 140, 2) := by decide +kernel
theorem d_X_onHull_28 : decode b_X_onHull 28 = .ok (.invokespecial 103, 3) := by decide +kernel
theorem d_X_onHull_31 : decode b_X_onHull 31 = .ok (.athrow, 1) := by decide +kernel
theorem d_X_onHull_32 : decode b_X_onHull 32 = .ok (.iload 4, 2) := by decide +kernel
theorem d_X_onHull_34 : decode b_X_onHull 34 = .ok (.ifCond .eq 19, 3) := by decide +kernel
theorem d_X_onHull_37 : decode b_X_onHull 37 = .ok (.iload 4, 2) := by decide +kernel
theorem d_X_onHull_39 : decode b_X_onHull 39 = .ok (.iconst 1, 1) := by decide +kernel
theorem d_X_onHull_40 : decode b_X_onHull 40 = .ok (.if_icmp .eq 13, 3) := by decide +kernel
theorem d_X_onHull_43 : decode b_X_onHull 43 = .ok (.new 75, 3) := by decide +kernel
theorem d_X_onHull_46 : decode b_X_onHull 46 = .ok (.dup, 1) := by decide +kernel
theorem d_X_onHull_47 : decode b_X_onHull 47 = .ok (.ldc 142, 2) := by decide +kernel
theorem d_X_onHull_49 : decode b_X_onHull 49 = .ok (.invokespecial 79, 3) := by decide +kernel
theorem d_X_onHull_52 : decode b_X_onHull 52 = .ok (.athrow, 1) := by decide +kernel
theorem d_X_onHull_53 : decode b_X_onHull 53 = .ok (.aload_n 0, 1) := by decide +kernel
theorem d_X_onHull_54 : decode b_X_onHull 54 = .ok (.getfield 35, 3) := by decide +kernel
theorem d_X_onHull_57 : decode b_X_onHull 57 = .ok (.iload_n 3, 1) := by decide +kernel
theorem d_X_onHull_58 : decode b_X_onHull 58 = .ok (.iaload, 1) := by decide +kernel
theorem d_X_onHull_59 : decode b_X_onHull 59 = .ok (.istore 5, 2) := by decide +kernel
theorem d_X_onHull_61 : decode b_X_onHull 61 = .ok (.iload 4, 2) := by decide +kernel
theorem d_X_onHull_63 : decode b_X_onHull 63 = .ok (.ifCond .ne 13, 3) := by decide +kernel
theorem d_X_onHull_66 : decode b_X_onHull 66 = .ok (.aload_n 0, 1) := by decide +kernel
theorem d_X_onHull_67 : decode b_X_onHull 67 = .ok (.getfield 23, 3) := by decide +kernel
theorem d_X_onHull_70 : decode b_X_onHull 70 = .ok (.iload 5, 2) := by decide +kernel
theorem d_X_onHull_72 : decode b_X_onHull 72 = .ok (.iaload, 1) := by decide +kernel
theorem d_X_onHull_73 : decode b_X_onHull 73 = .ok (.goto 10, 3) := by decide +kernel
theorem d_X_onHull_76 : decode b_X_onHull 76 = .ok (.aload_n 0, 1) := by decide +kernel
theorem d_X_onHull_77 : decode b_X_onHull 77 = .ok (.getfield 26, 3) := by decide +kernel
theorem d_X_onHull_80 : decode b_X_onHull 80 = .ok (.iload 5, 2) := by decide +kernel
theorem d_X_onHull_82 : decode b_X_onHull 82 = .ok (.iaload, 1) := by decide +kernel
theorem d_X_onHull_83 : decode b_X_onHull 83 = .ok (.ireturn, 1) := by decide +kernel
theorem d_X_slope_0 : decode b_X_slope 0 = .ok (.aload_n 0, 1) := by decide +kernel
theorem d_X_slope_1 : decode b_X_slope 1 = .ok (.aload_n 0, 1) := by decide +kernel
theorem d_X_slope_2 : decode b_X_slope 2 = .ok (.iload_n 1, 1) := by decide +kernel
theorem d_X_slope_3 : decode b_X_slope 3 = .ok (.iload_n 2, 1) := by decide +kernel
theorem d_X_slope_4 : decode b_X_slope 4 = .ok (.invokevirtual 70, 3) := by decide +kernel
theorem d_X_slope_7 : decode b_X_slope 7 = .ok (.invokevirtual 137, 3) := by decide +kernel
theorem d_X_slope_10 : decode b_X_slope 10 = .ok (.iload_n 3, 1) := by decide +kernel
theorem d_X_slope_11 : decode b_X_slope 11 = .ok (.ifCond .lt 13, 3) := by decide +kernel
theorem d_X_slope_14 : decode b_X_slope 14 = .ok (.iload_n 3, 1) := by decide +kernel
theorem d_X_slope_15 : decode b_X_slope 15 = .ok (.aload_n 0, 1) := by decide +kernel
theorem d_X_slope_16 : decode b_X_slope 16 = .ok (.getfield 38, 3) := by decide +kernel
theorem d_X_slope_19 : decode b_X_slope 19 = .ok (.iconst 1, 1) := by decide +kernel
theorem d_X_slope_20 : decode b_X_slope 20 = .ok (.isub, 1) := by decide +kernel
theorem d_X_slope_21 : decode b_X_slope 21 = .ok (.if_icmp .lt 13, 3) := by decide +kernel
theorem d_X_slope_24 : decode b_X_slope 24 = .ok (.new 99, 3) := by decide +kernel
theorem d_X_slope_27 : decode b_X_slope 27 = .ok (.dup, 1) := by decide +kernel
theorem d_X_slope_28 : decode b_X_slope 28 = .ok (.ldc 144, 2) := by decide +kernel
theorem d_X_slope_30 : decode b_X_slope 30 = .ok (.invokespecial 103, 3) := by decide +kernel
theorem d_X_slope_33 : decode b_X_slope 33 = .ok (.athrow, 1) := by decide +kernel
theorem d_X_slope_34 : decode b_X_slope 34 = .ok (.aload_n 0, 1) := by decide +kernel
theorem d_X_slope_35 : decode b_X_slope 35 = .ok (.aload_n 0, 1) := by decide +kernel
theorem d_X_slope_36 : decode b_X_slope 36 = .ok (.getfield 35, 3) := by decide +kernel
theorem d_X_slope_39 : decode b_X_slope 39 = .ok (.iload_n 3, 1) := by decide +kernel
theorem d_X_slope_40 : decode b_X_slope 40 = .ok (.iaload, 1) := by decide +kernel
theorem d_X_slope_41 : decode b_X_slope 41 = .ok (.aload_n 0, 1) := by decide +kernel
theorem d_X_slope_42 : decode b_X_slope 42 = .ok (.getfield 35, 3) := by decide +kernel
theorem d_X_slope_45 : decode b_X_slope 45 = .ok (.iload_n 3, 1) := by decide +kernel
theorem d_X_slope_46 : decode b_X_slope 46 = .ok (.iconst 1, 1) := by decide +kernel
theorem d_X_slope_47 : decode b_X_slope 47 = .ok (.iadd, 1) := by decide +kernel
theorem d_X_slope_48 : decode b_X_slope 48 = .ok (.iaload, 1) := by decide +kernel
theorem d_X_slope_49 : decode b_X_slope 49 = .ok (.invokevirtual 146, 3) := by decide +kernel
theorem d_X_slope_52 : decode b_X_slope 52 = .ok (.lstore 5, 2) := by decide +kernel
theorem d_X_slope_54 : decode b_X_slope 54 = .ok (.aload_n 0, 1) := by decide +kernel
theorem d_X_slope_55 : decode b_X_slope 55 = .ok (.aload_n 0, 1) := by decide +kernel
theorem d_X_slope_56 : decode b_X_slope 56 = .ok (.getfield 35, 3) := by decide +kernel
theorem d_X_slope_59 : decode b_X_slope 59 = .ok (.iload_n 3, 1) := by decide +kernel
theorem d_X_slope_60 : decode b_X_slope 60 = .ok (.iaload, 1) := by decide +kernel
theorem d_X_slope_61 : decode b_X_slope 61 = .ok (.aload_n 0, 1) := by decide +kernel
theorem d_X_slope_62 : decode b_X_slope 62 = .ok (.getfield 35, 3) := by decide +kernel
theorem d_X_slope_65 : decode b_X_slope 65 = .ok (.iload_n 3, 1) := by decide +kernel
theorem d_X_slope_66 : decode b_X_slope 66 = .ok (.iconst 1, 1) := by decide +kernel
theorem d_X_slope_67 : decode b_X_slope 67 = .ok (.iadd, 1) := by decide +kernel
theorem d_X_slope_68 : decode b_X_slope 68 = .ok (.iaload, 1) := by decide +kernel
theorem d_X_slope_69 : decode b_X_slope 69 = .ok (.invokevirtual 150, 3) := by decide +kernel
theorem d_X_slope_72 : decode b_X_slope 72 = .ok (.lstore 7, 2) := by decide +kernel
theorem d_X_slope_74 : decode b_X_slope 74 = .ok (.iload 4, 2) := by decide +kernel
theorem d_X_slope_76 : decode b_X_slope 76 = .ok (.ifCond .eq 13, 3) := by decide +kernel
theorem d_X_slope_79 : decode b_X_slope 79 = .ok (.lload 5, 2) := by decide +kernel
theorem d_X_slope_81 : decode b_X_slope 81 = .ok (.lload 7, 2) := by decide +kernel
theorem d_X_slope_83 : decode b_X_slope 83 = .ok (.invokestatic 130, 3) := by decide +kernel
theorem d_X_slope_86 : decode b_X_slope 86 = .ok (.goto 10, 3) := by decide +kernel
theorem d_X_slope_89 : decode b_X_slope 89 = .ok (.lload 7, 2) := by decide +kernel
theorem d_X_slope_91 : decode b_X_slope 91 = .ok (.lload 5, 2) := by decide +kernel
theorem d_X_slope_93 : decode b_X_slope 93 = .ok (.invokestatic 130, 3) := by decide +kernel
theorem d_X_slope_96 : decode b_X_slope 96 = .ok (.lreturn, 1) := by decide +kernel
theorem d_X_signs_0 : decode b_X_signs 0 = .ok (.aload_n 0, 1) := by decide +kernel
theorem d_X_signs_1 : decode b_X_signs 1 = .ok (.iload_n 1, 1) := by decide +kernel
theorem d_X_signs_2 : decode b_X_signs 2 = .ok (.invokevirtual 114, 3) := by decide +kernel
theorem d_X_signs_5 : decode b_X_signs 5 = .ok (.aload_n 0, 1) := by decide +kernel
theorem d_X_signs_6 : decode b_X_signs 6 = .ok (.iload_n 2, 1) := by decide +kernel
theorem d_X_signs_7 : decode b_X_signs 7 = .ok (.invokevirtual 114, 3) := by decide +kernel
theorem d_X_signs_10 : decode b_X_signs 10 = .ok (.iload_n 3, 1) := by decide +kernel
theorem d_X_signs_11 : decode b_X_signs 11 = .ok (.ifCond .lt 8, 3) := by decide +kernel
theorem d_X_signs_14 : decode b_X_signs 14 = .ok (.iload_n 3, 1) := by decide +kernel
theorem d_X_signs_15 : decode b_X_signs 15 = .ok (.iconst 3, 1) := by decide +kernel
theorem d_X_signs_16 : decode b_X_signs 16 = .ok (.if_icmp .le 13, 3) := by decide +kernel
theorem d_X_signs_19 : decode b_X_signs 19 = .ok (.new 75, 3) := by decide +kernel
theorem d_X_signs_22 : decode b_X_signs 22 = .ok (.dup, 1) := by decide +kernel
theorem d_X_signs_23 : decode b_X_signs 23 = .ok (.ldc 153, 2) := by decide +kernel
theorem d_X_signs_25 : decode b_X_signs 25 = .ok (.invokespecial 79, 3) := by decide +kernel
theorem d_X_signs_28 : decode b_X_signs 28 = .ok (.athrow, 1) := by decide +kernel
theorem d_X_signs_29 : decode b_X_signs 29 = .ok (.aload_n 0, 1) := by decide +kernel
theorem d_X_signs_30 : decode b_X_signs 30 = .ok (.iload_n 1, 1) := by decide +kernel
theorem d_X_signs_31 : decode b_X_signs 31 = .ok (.iload_n 2, 1) := by decide +kernel
theorem d_X_signs_32 : decode b_X_signs 32 = .ok (.invokevirtual 155, 3) := by decide +kernel
theorem d_X_signs_35 : decode b_X_signs 35 = .ok (.aload_n 0, 1) := by decide +kernel
theorem d_X_signs_36 : decode b_X_signs 36 = .ok (.iconst 1, 1) := by decide +kernel
theorem d_X_signs_37 : decode b_X_signs 37 = .ok (.invokevirtual 159, 3) := by decide +kernel
theorem d_X_signs_40 : decode b_X_signs 40 = .ok (.istore 4, 2) := by decide +kernel
theorem d_X_signs_42 : decode b_X_signs 42 = .ok (.aload_n 0, 1) := by decide +kernel
theorem d_X_signs_43 : decode b_X_signs 43 = .ok (.iconst 0, 1) := by decide +kernel
theorem d_X_signs_44 : decode b_X_signs 44 = .ok (.invokevirtual 159, 3) := by decide +kernel
theorem d_X_signs_47 : decode b_X_signs 47 = .ok (.istore 5, 2) := by decide +kernel
theorem d_X_signs_49 : decode b_X_signs 49 = .ok (.iload_n 3, 1) := by decide +kernel
theorem d_X_signs_50 : decode b_X_signs 50 = .ok (.lookupswitch 34 #[(0, 26), (1, 30)], 26) := by decide +kernel
theorem d_X_signs_76 : decode b_X_signs 76 = .ok (.iload 4, 2) := by decide +kernel
theorem d_X_signs_78 : decode b_X_signs 78 = .ok (.i2l, 1) := by decide +kernel
theorem d_X_signs_79 : decode b_X_signs 79 = .ok (.lreturn, 1) := by decide +kernel
theorem d_X_signs_80 : decode b_X_signs 80 = .ok (.iload 5, 2) := by decide +kernel
theorem d_X_signs_82 : decode b_X_signs 82 = .ok (.i2l, 1) := by decide +kernel
theorem d_X_signs_83 : decode b_X_signs 83 = .ok (.lreturn, 1) := by decide +kernel
theorem d_X_signs_84 : decode b_X_signs 84 = .ok (.iload 4, 2) := by decide +kernel
theorem d_X_signs_86 : decode b_X_signs 86 = .ok (.iload 5, 2) := by decide +kernel
theorem d_X_signs_88 : decode b_X_signs 88 = .ok (.iadd, 1) := by decide +kernel
theorem d_X_signs_89 : decode b_X_signs 89 = .ok (.iload 4, 2) := by decide +kernel
theorem d_X_signs_91 : decode b_X_signs 91 = .ok (.iload 5, 2) := by decide +kernel
theorem d_X_signs_93 : decode b_X_signs 93 = .ok (.invokestatic 163, 3) := by decide +kernel
theorem d_X_signs_96 : decode b_X_signs 96 = .ok (.iload_n 3, 1) := by decide +kernel
theorem d_X_signs_97 : decode b_X_signs 97 = .ok (.iconst 2, 1) := by decide +kernel
theorem d_X_signs_98 : decode b_X_signs 98 = .ok (.if_icmp .ne 7, 3) := by decide +kernel
theorem d_X_signs_101 : decode b_X_signs 101 = .ok (.iconst 1, 1) := by decide +kernel
theorem d_X_signs_102 : decode b_X_signs 102 = .ok (.goto 4, 3) := by decide +kernel
theorem d_X_signs_105 : decode b_X_signs 105 = .ok (.iconst 0, 1) := by decide +kernel
theorem d_X_signs_106 : decode b_X_signs 106 = .ok (.invokestatic 168, 3) := by decide +kernel
theorem d_X_signs_109 : decode b_X_signs 109 = .ok (.lreturn, 1) := by decide +kernel
theorem d_X_draws_0 : decode b_X_draws 0 = .ok (.aload_n 0, 1) := by decide +kernel
theorem d_X_draws_1 : decode b_X_draws 1 = .ok (.iload_n 1, 1) := by decide +kernel
theorem d_X_draws_2 : decode b_X_draws 2 = .ok (.invokevirtual 114, 3) := by decide +kernel
theorem d_X_draws_5 : decode b_X_draws 5 = .ok (.aload_n 0, 1) := by decide +kernel
theorem d_X_draws_6 : decode b_X_draws 6 = .ok (.iload_n 2, 1) := by decide +kernel
theorem d_X_draws_7 : decode b_X_draws 7 = .ok (.invokevirtual 114, 3) := by decide +kernel
theorem d_X_draws_10 : decode b_X_draws 10 = .ok (.iload 5, 2) := by decide +kernel
theorem d_X_draws_12 : decode b_X_draws 12 = .ok (.ifCond .lt 11, 3) := by decide +kernel
theorem d_X_draws_15 : decode b_X_draws 15 = .ok (.iload 5, 2) := by decide +kernel
theorem d_X_draws_17 : decode b_X_draws 17 = .ok (.sipush 200, 3) := by decide +kernel
theorem d_X_draws_20 : decode b_X_draws 20 = .ok (.if_icmp .le 13, 3) := by decide +kernel
theorem d_X_draws_23 : decode b_X_draws 23 = .ok (.new 75, 3) := by decide +kernel
theorem d_X_draws_26 : decode b_X_draws 26 = .ok (.dup, 1) := by decide +kernel
theorem d_X_draws_27 : decode b_X_draws 27 = .ok (.ldc 172, 2) := by decide +kernel
theorem d_X_draws_29 : decode b_X_draws 29 = .ok (.invokespecial 79, 3) := by decide +kernel
theorem d_X_draws_32 : decode b_X_draws 32 = .ok (.athrow, 1) := by decide +kernel
theorem d_X_draws_33 : decode b_X_draws 33 = .ok (.aload_n 0, 1) := by decide +kernel
theorem d_X_draws_34 : decode b_X_draws 34 = .ok (.iload_n 1, 1) := by decide +kernel
theorem d_X_draws_35 : decode b_X_draws 35 = .ok (.iload_n 2, 1) := by decide +kernel
theorem d_X_draws_36 : decode b_X_draws 36 = .ok (.invokevirtual 155, 3) := by decide +kernel
theorem d_X_draws_39 : decode b_X_draws 39 = .ok (.aload_n 0, 1) := by decide +kernel
theorem d_X_draws_40 : decode b_X_draws 40 = .ok (.getfield 44, 3) := by decide +kernel
theorem d_X_draws_43 : decode b_X_draws 43 = .ok (.ifCond .ne 13, 3) := by decide +kernel
theorem d_X_draws_46 : decode b_X_draws 46 = .ok (.new 82, 3) := by decide +kernel
theorem d_X_draws_49 : decode b_X_draws 49 = .ok (.dup, 1) := by decide +kernel
theorem d_X_draws_50 : decode b_X_draws 50 = .ok (.ldc 174, 2) := by decide +kernel
theorem d_X_draws_52 : decode b_X_draws 52 = .ok (.invokespecial 86, 3) := by decide +kernel
theorem d_X_draws_55 : decode b_X_draws 55 = .ok (.athrow, 1) := by decide +kernel
theorem d_X_draws_56 : decode b_X_draws 56 = .ok (.aload_n 0, 1) := by decide +kernel
theorem d_X_draws_57 : decode b_X_draws 57 = .ok (.getfield 50, 3) := by decide +kernel
theorem d_X_draws_60 : decode b_X_draws 60 = .ok (.lload_n 3, 1) := by decide +kernel
theorem d_X_draws_61 : decode b_X_draws 61 = .ok (.invokevirtual 176, 3) := by decide +kernel
theorem d_X_draws_64 : decode b_X_draws 64 = .ok (.iconst 0, 1) := by decide +kernel
theorem d_X_draws_65 : decode b_X_draws 65 = .ok (.istore 6, 2) := by decide +kernel
theorem d_X_draws_67 : decode b_X_draws 67 = .ok (.iconst 0, 1) := by decide +kernel
theorem d_X_draws_68 : decode b_X_draws 68 = .ok (.istore 7, 2) := by decide +kernel
theorem d_X_draws_70 : decode b_X_draws 70 = .ok (.iload 7, 2) := by decide +kernel
theorem d_X_draws_72 : decode b_X_draws 72 = .ok (.iload 5, 2) := by decide +kernel
theorem d_X_draws_74 : decode b_X_draws 74 = .ok (.if_icmp .ge 21, 3) := by decide +kernel
theorem d_X_draws_77 : decode b_X_draws 77 = .ok (.aload_n 0, 1) := by decide +kernel
theorem d_X_draws_78 : decode b_X_draws 78 = .ok (.invokevirtual 180, 3) := by decide +kernel
theorem d_X_draws_81 : decode b_X_draws 81 = .ok (.lconst 0, 1) := by decide +kernel
theorem d_X_draws_82 : decode b_X_draws 82 = .ok (.lcmp, 1) := by decide +kernel
theorem d_X_draws_83 : decode b_X_draws 83 = .ok (.ifCond .ge 6, 3) := by decide +kernel
theorem d_X_draws_86 : decode b_X_draws 86 = .ok (.iinc 6 1, 3) := by decide +kernel
theorem d_X_draws_89 : decode b_X_draws 89 = .ok (.iinc 7 1, 3) := by decide +kernel
theorem d_X_draws_92 : decode b_X_draws 92 = .ok (.goto (-22), 3) := by decide +kernel
theorem d_X_draws_95 : decode b_X_draws 95 = .ok (.iload 6, 2) := by decide +kernel
theorem d_X_draws_97 : decode b_X_draws 97 = .ok (.ireturn, 1) := by decide +kernel
theorem d_X_fill_0 : decode b_X_fill 0 = .ok (.aload_n 0, 1) := by decide +kernel
theorem d_X_fill_1 : decode b_X_fill 1 = .ok (.invokevirtual 184, 3) := by decide +kernel
theorem d_X_fill_4 : decode b_X_fill 4 = .ok (.aload_n 0, 1) := by decide +kernel
theorem d_X_fill_5 : decode b_X_fill 5 = .ok (.getfield 50, 3) := by decide +kernel
theorem d_X_fill_8 : decode b_X_fill 8 = .ok (.lload_n 1, 1) := by decide +kernel
theorem d_X_fill_9 : decode b_X_fill 9 = .ok (.invokevirtual 176, 3) := by decide +kernel
theorem d_X_fill_12 : decode b_X_fill 12 = .ok (.iconst 0, 1) := by decide +kernel
theorem d_X_fill_13 : decode b_X_fill 13 = .ok (.istore_n 3, 1) := by decide +kernel
theorem d_X_fill_14 : decode b_X_fill 14 = .ok (.iconst 0, 1) := by decide +kernel
theorem d_X_fill_15 : decode b_X_fill 15 = .ok (.istore 4, 2) := by decide +kernel
theorem d_X_fill_17 : decode b_X_fill 17 = .ok (.iload 4, 2) := by decide +kernel
theorem d_X_fill_19 : decode b_X_fill 19 = .ok (.aload_n 0, 1) := by decide +kernel
theorem d_X_fill_20 : decode b_X_fill 20 = .ok (.getfield 9, 3) := by decide +kernel
theorem d_X_fill_23 : decode b_X_fill 23 = .ok (.if_icmp .ge 42, 3) := by decide +kernel
theorem d_X_fill_26 : decode b_X_fill 26 = .ok (.iconst 0, 1) := by decide +kernel
theorem d_X_fill_27 : decode b_X_fill 27 = .ok (.istore 5, 2) := by decide +kernel
theorem d_X_fill_29 : decode b_X_fill 29 = .ok (.iload 5, 2) := by decide +kernel
theorem d_X_fill_31 : decode b_X_fill 31 = .ok (.aload_n 0, 1) := by decide +kernel
theorem d_X_fill_32 : decode b_X_fill 32 = .ok (.getfield 13, 3) := by decide +kernel
theorem d_X_fill_35 : decode b_X_fill 35 = .ok (.if_icmp .ge 24, 3) := by decide +kernel
theorem d_X_fill_38 : decode b_X_fill 38 = .ok (.iload_n 3, 1) := by decide +kernel
theorem d_X_fill_39 : decode b_X_fill 39 = .ok (.aload_n 0, 1) := by decide +kernel
theorem d_X_fill_40 : decode b_X_fill 40 = .ok (.iload 4, 2) := by decide +kernel
theorem d_X_fill_42 : decode b_X_fill 42 = .ok (.bipush 24, 2) := by decide +kernel
theorem d_X_fill_44 : decode b_X_fill 44 = .ok (.imul, 1) := by decide +kernel
theorem d_X_fill_45 : decode b_X_fill 45 = .ok (.iload 5, 2) := by decide +kernel
theorem d_X_fill_47 : decode b_X_fill 47 = .ok (.iadd, 1) := by decide +kernel
theorem d_X_fill_48 : decode b_X_fill 48 = .ok (.invokevirtual 187, 3) := by decide +kernel
theorem d_X_fill_51 : decode b_X_fill 51 = .ok (.iadd, 1) := by decide +kernel
theorem d_X_fill_52 : decode b_X_fill 52 = .ok (.istore_n 3, 1) := by decide +kernel
theorem d_X_fill_53 : decode b_X_fill 53 = .ok (.iinc 5 1, 3) := by decide +kernel
theorem d_X_fill_56 : decode b_X_fill 56 = .ok (.goto (-27), 3) := by decide +kernel
theorem d_X_fill_59 : decode b_X_fill 59 = .ok (.iinc 4 1, 3) := by decide +kernel
theorem d_X_fill_62 : decode b_X_fill 62 = .ok (.goto (-45), 3) := by decide +kernel
theorem d_X_fill_65 : decode b_X_fill 65 = .ok (.iload_n 3, 1) := by decide +kernel
theorem d_X_fill_66 : decode b_X_fill 66 = .ok (.ireturn, 1) := by decide +kernel
theorem d_X_text_0 : decode b_X_text 0 = .ok (.aload_n 0, 1) := by decide +kernel
theorem d_X_text_1 : decode b_X_text 1 = .ok (.getfield 57, 3) := by decide +kernel
theorem d_X_text_4 : decode b_X_text 4 = .ok (.invokevirtual 190, 3) := by decide +kernel
theorem d_X_text_7 : decode b_X_text 7 = .ok (.iconst 0, 1) := by decide +kernel
theorem d_X_text_8 : decode b_X_text 8 = .ok (.istore_n 1, 1) := by decide +kernel
theorem d_X_text_9 : decode b_X_text 9 = .ok (.iload_n 1, 1) := by decide +kernel
theorem d_X_text_10 : decode b_X_text 10 = .ok (.aload_n 0, 1) := by decide +kernel
theorem d_X_text_11 : decode b_X_text 11 = .ok (.getfield 9, 3) := by decide +kernel
theorem d_X_text_14 : decode b_X_text 14 = .ok (.if_icmp .ge 90, 3) := by decide +kernel
theorem d_X_text_17 : decode b_X_text 17 = .ok (.aload_n 0, 1) := by decide +kernel
theorem d_X_text_18 : decode b_X_text 18 = .ok (.getfield 57, 3) := by decide +kernel
theorem d_X_text_21 : decode b_X_text 21 = .ok (.iload_n 1, 1) := by decide +kernel
theorem d_X_text_22 : decode b_X_text 22 = .ok (.i2l, 1) := by decide +kernel
theorem d_X_text_23 : decode b_X_text 23 = .ok (.invokevirtual 192, 3) := by decide +kernel
theorem d_X_text_26 : decode b_X_text 26 = .ok (.aload_n 0, 1) := by decide +kernel
theorem d_X_text_27 : decode b_X_text 27 = .ok (.getfield 57, 3) := by decide +kernel
theorem d_X_text_30 : decode b_X_text 30 = .ok (.bipush 32, 2) := by decide +kernel
theorem d_X_text_32 : decode b_X_text 32 = .ok (.invokevirtual 195, 3) := by decide +kernel
theorem d_X_text_35 : decode b_X_text 35 = .ok (.aload_n 0, 1) := by decide +kernel
theorem d_X_text_36 : decode b_X_text 36 = .ok (.iload_n 1, 1) := by decide +kernel
theorem d_X_text_37 : decode b_X_text 37 = .ok (.invokevirtual 117, 3) := by decide +kernel
theorem d_X_text_40 : decode b_X_text 40 = .ok (.ifCond .ne 15, 3) := by decide +kernel
theorem d_X_text_43 : decode b_X_text 43 = .ok (.aload_n 0, 1) := by decide +kernel
theorem d_X_text_44 : decode b_X_text 44 = .ok (.getfield 57, 3) := by decide +kernel
theorem d_X_text_47 : decode b_X_text 47 = .ok (.bipush 45, 2) := by decide +kernel
theorem d_X_text_49 : decode b_X_text 49 = .ok (.invokevirtual 195, 3) := by decide +kernel
theorem d_X_text_52 : decode b_X_text 52 = .ok (.goto 37, 3) := by decide +kernel
theorem d_X_text_55 : decode b_X_text 55 = .ok (.aload_n 0, 1) := by decide +kernel
theorem d_X_text_56 : decode b_X_text 56 = .ok (.getfield 57, 3) := by decide +kernel
theorem d_X_text_59 : decode b_X_text 59 = .ok (.aload_n 0, 1) := by decide +kernel
theorem d_X_text_60 : decode b_X_text 60 = .ok (.iload_n 1, 1) := by decide +kernel
theorem d_X_text_61 : decode b_X_text 61 = .ok (.invokevirtual 123, 3) := by decide +kernel
theorem d_X_text_64 : decode b_X_text 64 = .ok (.invokevirtual 192, 3) := by decide +kernel
theorem d_X_text_67 : decode b_X_text 67 = .ok (.aload_n 0, 1) := by decide +kernel
theorem d_X_text_68 : decode b_X_text 68 = .ok (.getfield 57, 3) := by decide +kernel
theorem d_X_text_71 : decode b_X_text 71 = .ok (.bipush 32, 2) := by decide +kernel
theorem d_X_text_73 : decode b_X_text 73 = .ok (.invokevirtual 195, 3) := by decide +kernel
theorem d_X_text_76 : decode b_X_text 76 = .ok (.aload_n 0, 1) := by decide +kernel
theorem d_X_text_77 : decode b_X_text 77 = .ok (.getfield 57, 3) := by decide +kernel
theorem d_X_text_80 : decode b_X_text 80 = .ok (.aload_n 0, 1) := by decide +kernel
theorem d_X_text_81 : decode b_X_text 81 = .ok (.iload_n 1, 1) := by decide +kernel
theorem d_X_text_82 : decode b_X_text 82 = .ok (.invokevirtual 134, 3) := by decide +kernel
theorem d_X_text_85 : decode b_X_text 85 = .ok (.i2l, 1) := by decide +kernel
theorem d_X_text_86 : decode b_X_text 86 = .ok (.invokevirtual 192, 3) := by decide +kernel
theorem d_X_text_89 : decode b_X_text 89 = .ok (.aload_n 0, 1) := by decide +kernel
theorem d_X_text_90 : decode b_X_text 90 = .ok (.getfield 57, 3) := by decide +kernel
theorem d_X_text_93 : decode b_X_text 93 = .ok (.bipush 10, 2) := by decide +kernel
theorem d_X_text_95 : decode b_X_text 95 = .ok (.invokevirtual 195, 3) := by decide +kernel
theorem d_X_text_98 : decode b_X_text 98 = .ok (.iinc 1 1, 3) := by decide +kernel
theorem d_X_text_101 : decode b_X_text 101 = .ok (.goto (-92), 3) := by decide +kernel
theorem d_X_text_104 : decode b_X_text 104 = .ok (.aload_n 0, 1) := by decide +kernel
theorem d_X_text_105 : decode b_X_text 105 = .ok (.getfield 57, 3) := by decide +kernel
theorem d_X_text_108 : decode b_X_text 108 = .ok (.getfield 199, 3) := by decide +kernel
theorem d_X_text_111 : decode b_X_text 111 = .ok (.ireturn, 1) := by decide +kernel
theorem d_X_charAt_0 : decode b_X_charAt 0 = .ok (.iload_n 1, 1) := by decide +kernel
theorem d_X_charAt_1 : decode b_X_charAt 1 = .ok (.ifCond .lt 14, 3) := by decide +kernel
theorem d_X_charAt_4 : decode b_X_charAt 4 = .ok (.iload_n 1, 1) := by decide +kernel
theorem d_X_charAt_5 : decode b_X_charAt 5 = .ok (.aload_n 0, 1) := by decide +kernel
theorem d_X_charAt_6 : decode b_X_charAt 6 = .ok (.getfield 57, 3) := by decide +kernel
theorem d_X_charAt_9 : decode b_X_charAt 9 = .ok (.getfield 199, 3) := by decide +kernel
theorem d_X_charAt_12 : decode b_X_charAt 12 = .ok (.if_icmp .lt 13, 3) := by decide +kernel
theorem d_X_charAt_15 : decode b_X_charAt 15 = .ok (.new 99, 3) := by decide +kernel
theorem d_X_charAt_18 : decode b_X_charAt 18 = .ok (.dup, 1) := by decide +kernel
theorem d_X_charAt_19 : decode b_X_charAt 19 = .ok (.ldc 202, 2) := by decide +kernel
theorem d_X_charAt_21 : decode b_X_charAt 21 = .ok (.invokespecial 103, 3) := by decide +kernel
theorem d_X_charAt_24 : decode b_X_charAt 24 = .ok (.athrow, 1) := by decide +kernel
theorem d_X_charAt_25 : decode b_X_charAt 25 = .ok (.aload_n 0, 1) := by decide +kernel
theorem d_X_charAt_26 : decode b_X_charAt 26 = .ok (.getfield 57, 3) := by decide +kernel
theorem d_X_charAt_29 : decode b_X_charAt 29 = .ok (.getfield 204, 3) := by decide +kernel
theorem d_X_charAt_32 : decode b_X_charAt 32 = .ok (.iload_n 1, 1) := by decide +kernel
theorem d_X_charAt_33 : decode b_X_charAt 33 = .ok (.caload, 1) := by decide +kernel
theorem d_X_charAt_34 : decode b_X_charAt 34 = .ok (.ireturn, 1) := by decide +kernel
theorem d_X_told_0 : decode b_X_told 0 = .ok (.iload_n 1, 1) := by decide +kernel
theorem d_X_told_1 : decode b_X_told 1 = .ok (.tableswitch 51 0 3 #[31, 36, 41, 46], 31) := by decide +kernel
theorem d_X_told_32 : decode b_X_told 32 = .ok (.aload_n 0, 1) := by decide +kernel
theorem d_X_told_33 : decode b_X_told 33 = .ok (.getfield 9, 3) := by decide +kernel
theorem d_X_told_36 : decode b_X_told 36 = .ok (.ireturn, 1) := by decide +kernel
theorem d_X_told_37 : decode b_X_told 37 = .ok (.aload_n 0, 1) := by decide +kernel
theorem d_X_told_38 : decode b_X_told 38 = .ok (.getfield 13, 3) := by decide +kernel
theorem d_X_told_41 : decode b_X_told 41 = .ok (.ireturn, 1) := by decide +kernel
theorem d_X_told_42 : decode b_X_told 42 = .ok (.aload_n 0, 1) := by decide +kernel
theorem d_X_told_43 : decode b_X_told 43 = .ok (.invokevirtual 208, 3) := by decide +kernel
theorem d_X_told_46 : decode b_X_told 46 = .ok (.ireturn, 1) := by decide +kernel
theorem d_X_told_47 : decode b_X_told 47 = .ok (.aload_n 0, 1) := by decide +kernel
theorem d_X_told_48 : decode b_X_told 48 = .ok (.invokevirtual 212, 3) := by decide +kernel
theorem d_X_told_51 : decode b_X_told 51 = .ok (.ireturn, 1) := by decide +kernel
theorem d_X_told_52 : decode b_X_told 52 = .ok (.iconst (-1), 1) := by decide +kernel
theorem d_X_told_53 : decode b_X_told 53 = .ok (.ireturn, 1) := by decide +kernel
theorem d_X_clear_0 : decode b_X_clear 0 = .ok (.aload_n 0, 1) := by decide +kernel
theorem d_X_clear_1 : decode b_X_clear 1 = .ok (.iconst 0, 1) := by decide +kernel
theorem d_X_clear_2 : decode b_X_clear 2 = .ok (.putfield 9, 3) := by decide +kernel
theorem d_X_clear_5 : decode b_X_clear 5 = .ok (.aload_n 0, 1) := by decide +kernel
theorem d_X_clear_6 : decode b_X_clear 6 = .ok (.iconst 0, 1) := by decide +kernel
theorem d_X_clear_7 : decode b_X_clear 7 = .ok (.putfield 13, 3) := by decide +kernel
theorem d_X_clear_10 : decode b_X_clear 10 = .ok (.aload_n 0, 1) := by decide +kernel
theorem d_X_clear_11 : decode b_X_clear 11 = .ok (.invokevirtual 184, 3) := by decide +kernel
theorem d_X_clear_14 : decode b_X_clear 14 = .ok (.aload_n 0, 1) := by decide +kernel
theorem d_X_clear_15 : decode b_X_clear 15 = .ok (.getfield 57, 3) := by decide +kernel
theorem d_X_clear_18 : decode b_X_clear 18 = .ok (.invokevirtual 190, 3) := by decide +kernel
theorem d_X_clear_21 : decode b_X_clear 21 = .ok (.return_, 1) := by decide +kernel
theorem d_X_needCoder_0 : decode b_X_needCoder 0 = .ok (.iload_n 1, 1) := by decide +kernel
theorem d_X_needCoder_1 : decode b_X_needCoder 1 = .ok (.ifCond .lt 11, 3) := by decide +kernel
theorem d_X_needCoder_4 : decode b_X_needCoder 4 = .ok (.iload_n 1, 1) := by decide +kernel
theorem d_X_needCoder_5 : decode b_X_needCoder 5 = .ok (.aload_n 0, 1) := by decide +kernel
theorem d_X_needCoder_6 : decode b_X_needCoder 6 = .ok (.getfield 9, 3) := by decide +kernel
theorem d_X_needCoder_9 : decode b_X_needCoder 9 = .ok (.if_icmp .lt 13, 3) := by decide +kernel
theorem d_X_needCoder_12 : decode b_X_needCoder 12 = .ok (.new 99, 3) := by decide +kernel
theorem d_X_needCoder_15 : decode b_X_needCoder 15 = .ok (.dup, 1) := by decide +kernel
theorem d_X_needCoder_16 : decode b_X_needCoder 16 = .ok (.ldc 215, 2) := by decide +kernel
theorem d_X_needCoder_18 : decode b_X_needCoder 18 = .ok (.invokespecial 103, 3) := by decide +kernel
theorem d_X_needCoder_21 : decode b_X_needCoder 21 = .ok (.athrow, 1) := by decide +kernel
theorem d_X_needCoder_22 : decode b_X_needCoder 22 = .ok (.return_, 1) := by decide +kernel
theorem d_X_needPicture_0 : decode b_X_needPicture 0 = .ok (.iload_n 1, 1) := by decide +kernel
theorem d_X_needPicture_1 : decode b_X_needPicture 1 = .ok (.ifCond .lt 11, 3) := by decide +kernel
theorem d_X_needPicture_4 : decode b_X_needPicture 4 = .ok (.iload_n 1, 1) := by decide +kernel
theorem d_X_needPicture_5 : decode b_X_needPicture 5 = .ok (.aload_n 0, 1) := by decide +kernel
theorem d_X_needPicture_6 : decode b_X_needPicture 6 = .ok (.getfield 13, 3) := by decide +kernel
theorem d_X_needPicture_9 : decode b_X_needPicture 9 = .ok (.if_icmp .lt 13, 3) := by decide +kernel
theorem d_X_needPicture_12 : decode b_X_needPicture 12 = .ok (.new 99, 3) := by decide +kernel
theorem d_X_needPicture_15 : decode b_X_needPicture 15 = .ok (.dup, 1) := by decide +kernel
theorem d_X_needPicture_16 : decode b_X_needPicture 16 = .ok (.ldc 217, 2) := by decide +kernel
theorem d_X_needPicture_18 : decode b_X_needPicture 18 = .ok (.invokespecial 103, 3) := by decide +kernel
theorem d_X_needPicture_21 : decode b_X_needPicture 21 = .ok (.athrow, 1) := by decide +kernel
theorem d_X_needPicture_22 : decode b_X_needPicture 22 = .ok (.return_, 1) := by decide +kernel
theorem d_X_needCounted_0 : decode b_X_needCounted 0 = .ok (.aload_n 0, 1) := by decide +kernel
theorem d_X_needCounted_1 : decode b_X_needCounted 1 = .ok (.iload_n 1, 1) := by decide +kernel
theorem d_X_needCounted_2 : decode b_X_needCounted 2 = .ok (.invokevirtual 117, 3) := by decide +kernel
theorem d_X_needCounted_5 : decode b_X_needCounted 5 = .ok (.ifCond .ne 13, 3) := by decide +kernel
theorem d_X_needCounted_8 : decode b_X_needCounted 8 = .ok (.new 82, 3) := by decide +kernel
theorem d_X_needCounted_11 : decode b_X_needCounted 11 = .ok (.dup, 1) := by decide +kernel
theorem d_X_needCounted_12 : decode b_X_needCounted 12 = .ok (.ldc 219, 2) := by decide +kernel
theorem d_X_needCounted_14 : decode b_X_needCounted 14 = .ok (.invokespecial 86, 3) := by decide +kernel
theorem d_X_needCounted_17 : decode b_X_needCounted 17 = .ok (.athrow, 1) := by decide +kernel
theorem d_X_needCounted_18 : decode b_X_needCounted 18 = .ok (.return_, 1) := by decide +kernel
theorem d_X_pairOf_0 : decode b_X_pairOf 0 = .ok (.aload_n 0, 1) := by decide +kernel
theorem d_X_pairOf_1 : decode b_X_pairOf 1 = .ok (.iload_n 1, 1) := by decide +kernel
theorem d_X_pairOf_2 : decode b_X_pairOf 2 = .ok (.invokevirtual 114, 3) := by decide +kernel
theorem d_X_pairOf_5 : decode b_X_pairOf 5 = .ok (.aload_n 0, 1) := by decide +kernel
theorem d_X_pairOf_6 : decode b_X_pairOf 6 = .ok (.iload_n 2, 1) := by decide +kernel
theorem d_X_pairOf_7 : decode b_X_pairOf 7 = .ok (.invokevirtual 106, 3) := by decide +kernel
theorem d_X_pairOf_10 : decode b_X_pairOf 10 = .ok (.iload_n 1, 1) := by decide +kernel
theorem d_X_pairOf_11 : decode b_X_pairOf 11 = .ok (.bipush 24, 2) := by decide +kernel
theorem d_X_pairOf_13 : decode b_X_pairOf 13 = .ok (.imul, 1) := by decide +kernel
theorem d_X_pairOf_14 : decode b_X_pairOf 14 = .ok (.iload_n 2, 1) := by decide +kernel
theorem d_X_pairOf_15 : decode b_X_pairOf 15 = .ok (.iadd, 1) := by decide +kernel
theorem d_X_pairOf_16 : decode b_X_pairOf 16 = .ok (.ireturn, 1) := by decide +kernel
theorem d_X_isCounted_0 : decode b_X_isCounted 0 = .ok (.aload_n 0, 1) := by decide +kernel
theorem d_X_isCounted_1 : decode b_X_isCounted 1 = .ok (.getfield 16, 3) := by decide +kernel
theorem d_X_isCounted_4 : decode b_X_isCounted 4 = .ok (.iload_n 1, 1) := by decide +kernel
theorem d_X_isCounted_5 : decode b_X_isCounted 5 = .ok (.iaload, 1) := by decide +kernel
theorem d_X_isCounted_6 : decode b_X_isCounted 6 = .ok (.ifCond .le 7, 3) := by decide +kernel
theorem d_X_isCounted_9 : decode b_X_isCounted 9 = .ok (.iconst 1, 1) := by decide +kernel
theorem d_X_isCounted_10 : decode b_X_isCounted 10 = .ok (.goto 4, 3) := by decide +kernel
theorem d_X_isCounted_13 : decode b_X_isCounted 13 = .ok (.iconst 0, 1) := by decide +kernel
theorem d_X_isCounted_14 : decode b_X_isCounted 14 = .ok (.ireturn, 1) := by decide +kernel
theorem d_X_addPoint_0 : decode b_X_addPoint 0 = .ok (.aload_n 0, 1) := by decide +kernel
theorem d_X_addPoint_1 : decode b_X_addPoint 1 = .ok (.getfield 16, 3) := by decide +kernel
theorem d_X_addPoint_4 : decode b_X_addPoint 4 = .ok (.iload_n 1, 1) := by decide +kernel
theorem d_X_addPoint_5 : decode b_X_addPoint 5 = .ok (.iaload, 1) := by decide +kernel
theorem d_X_addPoint_6 : decode b_X_addPoint 6 = .ok (.istore 4, 2) := by decide +kernel
theorem d_X_addPoint_8 : decode b_X_addPoint 8 = .ok (.iload 4, 2) := by decide +kernel
theorem d_X_addPoint_10 : decode b_X_addPoint 10 = .ok (.ifCond .lt 10, 3) := by decide +kernel
theorem d_X_addPoint_13 : decode b_X_addPoint 13 = .ok (.iload 4, 2) := by decide +kernel
theorem d_X_addPoint_15 : decode b_X_addPoint 15 = .ok (.bipush 6, 2) := by decide +kernel
theorem d_X_addPoint_17 : decode b_X_addPoint 17 = .ok (.if_icmp .lt 4, 3) := by decide +kernel
theorem d_X_addPoint_20 : decode b_X_addPoint 20 = .ok (.return_, 1) := by decide +kernel
theorem d_X_addPoint_21 : decode b_X_addPoint 21 = .ok (.iload_n 1, 1) := by decide +kernel
theorem d_X_addPoint_22 : decode b_X_addPoint 22 = .ok (.bipush 6, 2) := by decide +kernel
theorem d_X_addPoint_24 : decode b_X_addPoint 24 = .ok (.imul, 1) := by decide +kernel
theorem d_X_addPoint_25 : decode b_X_addPoint 25 = .ok (.iload 4, 2) := by decide +kernel
theorem d_X_addPoint_27 : decode b_X_addPoint 27 = .ok (.iadd, 1) := by decide +kernel
theorem d_X_addPoint_28 : decode b_X_addPoint 28 = .ok (.istore 5, 2) := by decide +kernel
theorem d_X_addPoint_30 : decode b_X_addPoint 30 = .ok (.aload_n 0, 1) := by decide +kernel
theorem d_X_addPoint_31 : decode b_X_addPoint 31 = .ok (.getfield 23, 3) := by decide +kernel
theorem d_X_addPoint_34 : decode b_X_addPoint 34 = .ok (.iload 5, 2) := by decide +kernel
theorem d_X_addPoint_36 : decode b_X_addPoint 36 = .ok (.iload_n 2, 1) := by decide +kernel
theorem d_X_addPoint_37 : decode b_X_addPoint 37 = .ok (.iastore, 1) := by decide +kernel
theorem d_X_addPoint_38 : decode b_X_addPoint 38 = .ok (.aload_n 0, 1) := by decide +kernel
theorem d_X_addPoint_39 : decode b_X_addPoint 39 = .ok (.getfield 26, 3) := by decide +kernel
theorem d_X_addPoint_42 : decode b_X_addPoint 42 = .ok (.iload 5, 2) := by decide +kernel
theorem d_X_addPoint_44 : decode b_X_addPoint 44 = .ok (.iload_n 3, 1) := by decide +kernel
theorem d_X_addPoint_45 : decode b_X_addPoint 45 = .ok (.iastore, 1) := by decide +kernel
theorem d_X_addPoint_46 : decode b_X_addPoint 46 = .ok (.iload 4, 2) := by decide +kernel
theorem d_X_addPoint_48 : decode b_X_addPoint 48 = .ok (.ifCond .eq 13, 3) := by decide +kernel
theorem d_X_addPoint_51 : decode b_X_addPoint 51 = .ok (.iload_n 2, 1) := by decide +kernel
theorem d_X_addPoint_52 : decode b_X_addPoint 52 = .ok (.aload_n 0, 1) := by decide +kernel
theorem d_X_addPoint_53 : decode b_X_addPoint 53 = .ok (.getfield 20, 3) := by decide +kernel
theorem d_X_addPoint_56 : decode b_X_addPoint 56 = .ok (.iload_n 1, 1) := by decide +kernel
theorem d_X_addPoint_57 : decode b_X_addPoint 57 = .ok (.iaload, 1) := by decide +kernel
theorem d_X_addPoint_58 : decode b_X_addPoint 58 = .ok (.if_icmp .ge 10, 3) := by decide +kernel
theorem d_X_addPoint_61 : decode b_X_addPoint 61 = .ok (.aload_n 0, 1) := by decide +kernel
theorem d_X_addPoint_62 : decode b_X_addPoint 62 = .ok (.getfield 20, 3) := by decide +kernel
theorem d_X_addPoint_65 : decode b_X_addPoint 65 = .ok (.iload_n 1, 1) := by decide +kernel
theorem d_X_addPoint_66 : decode b_X_addPoint 66 = .ok (.iload_n 2, 1) := by decide +kernel
theorem d_X_addPoint_67 : decode b_X_addPoint 67 = .ok (.iastore, 1) := by decide +kernel
theorem d_X_addPoint_68 : decode b_X_addPoint 68 = .ok (.aload_n 0, 1) := by decide +kernel
theorem d_X_addPoint_69 : decode b_X_addPoint 69 = .ok (.getfield 16, 3) := by decide +kernel
theorem d_X_addPoint_72 : decode b_X_addPoint 72 = .ok (.iload_n 1, 1) := by decide +kernel
theorem d_X_addPoint_73 : decode b_X_addPoint 73 = .ok (.iload 4, 2) := by decide +kernel
theorem d_X_addPoint_75 : decode b_X_addPoint 75 = .ok (.iconst 1, 1) := by decide +kernel
theorem d_X_addPoint_76 : decode b_X_addPoint 76 = .ok (.iadd, 1) := by decide +kernel
theorem d_X_addPoint_77 : decode b_X_addPoint 77 = .ok (.iastore, 1) := by decide +kernel
theorem d_X_addPoint_78 : decode b_X_addPoint 78 = .ok (.return_, 1) := by decide +kernel
theorem d_X_markFailed_0 : decode b_X_markFailed 0 = .ok (.aload_n 0, 1) := by decide +kernel
theorem d_X_markFailed_1 : decode b_X_markFailed 1 = .ok (.getfield 32, 3) := by decide +kernel
theorem d_X_markFailed_4 : decode b_X_markFailed 4 = .ok (.sipush 192, 3) := by decide +kernel
theorem d_X_markFailed_7 : decode b_X_markFailed 7 = .ok (.if_icmp .ge 30, 3) := by decide +kernel
theorem d_X_markFailed_10 : decode b_X_markFailed 10 = .ok (.aload_n 0, 1) := by decide +kernel
theorem d_X_markFailed_11 : decode b_X_markFailed 11 = .ok (.getfield 16, 3) := by decide +kernel
theorem d_X_markFailed_14 : decode b_X_markFailed 14 = .ok (.iload_n 1, 1) := by decide +kernel
theorem d_X_markFailed_15 : decode b_X_markFailed 15 = .ok (.iconst (-1), 1) := by decide +kernel
theorem d_X_markFailed_16 : decode b_X_markFailed 16 = .ok (.iastore, 1) := by decide +kernel
theorem d_X_markFailed_17 : decode b_X_markFailed 17 = .ok (.aload_n 0, 1) := by decide +kernel
theorem d_X_markFailed_18 : decode b_X_markFailed 18 = .ok (.getfield 29, 3) := by decide +kernel
theorem d_X_markFailed_21 : decode b_X_markFailed 21 = .ok (.aload_n 0, 1) := by decide +kernel
theorem d_X_markFailed_22 : decode b_X_markFailed 22 = .ok (.getfield 32, 3) := by decide +kernel
theorem d_X_markFailed_25 : decode b_X_markFailed 25 = .ok (.iload_n 1, 1) := by decide +kernel
theorem d_X_markFailed_26 : decode b_X_markFailed 26 = .ok (.iastore, 1) := by decide +kernel
theorem d_X_markFailed_27 : decode b_X_markFailed 27 = .ok (.aload_n 0, 1) := by decide +kernel
theorem d_X_markFailed_28 : decode b_X_markFailed 28 = .ok (.dup, 1) := by decide +kernel
theorem d_X_markFailed_29 : decode b_X_markFailed 29 = .ok (.getfield 32, 3) := by decide +kernel
theorem d_X_markFailed_32 : decode b_X_markFailed 32 = .ok (.iconst 1, 1) := by decide +kernel
theorem d_X_markFailed_33 : decode b_X_markFailed 33 = .ok (.iadd, 1) := by decide +kernel
theorem d_X_markFailed_34 : decode b_X_markFailed 34 = .ok (.putfield 32, 3) := by decide +kernel
theorem d_X_markFailed_37 : decode b_X_markFailed 37 = .ok (.return_, 1) := by decide +kernel
theorem d_X_emptyPairs_0 : decode b_X_emptyPairs 0 = .ok (.iconst 0, 1) := by decide +kernel
theorem d_X_emptyPairs_1 : decode b_X_emptyPairs 1 = .ok (.istore_n 1, 1) := by decide +kernel
theorem d_X_emptyPairs_2 : decode b_X_emptyPairs 2 = .ok (.iload_n 1, 1) := by decide +kernel
theorem d_X_emptyPairs_3 : decode b_X_emptyPairs 3 = .ok (.sipush 192, 3) := by decide +kernel
theorem d_X_emptyPairs_6 : decode b_X_emptyPairs 6 = .ok (.if_icmp .ge 16, 3) := by decide +kernel
theorem d_X_emptyPairs_9 : decode b_X_emptyPairs 9 = .ok (.aload_n 0, 1) := by decide +kernel
theorem d_X_emptyPairs_10 : decode b_X_emptyPairs 10 = .ok (.getfield 16, 3) := by decide +kernel
theorem d_X_emptyPairs_13 : decode b_X_emptyPairs 13 = .ok (.iload_n 1, 1) := by decide +kernel
theorem d_X_emptyPairs_14 : decode b_X_emptyPairs 14 = .ok (.iconst 0, 1) := by decide +kernel
theorem d_X_emptyPairs_15 : decode b_X_emptyPairs 15 = .ok (.iastore, 1) := by decide +kernel
theorem d_X_emptyPairs_16 : decode b_X_emptyPairs 16 = .ok (.iinc 1 1, 3) := by decide +kernel
theorem d_X_emptyPairs_19 : decode b_X_emptyPairs 19 = .ok (.goto (-17), 3) := by decide +kernel
theorem d_X_emptyPairs_22 : decode b_X_emptyPairs 22 = .ok (.aload_n 0, 1) := by decide +kernel
theorem d_X_emptyPairs_23 : decode b_X_emptyPairs 23 = .ok (.iconst 0, 1) := by decide +kernel
theorem d_X_emptyPairs_24 : decode b_X_emptyPairs 24 = .ok (.putfield 32, 3) := by decide +kernel
theorem d_X_emptyPairs_27 : decode b_X_emptyPairs 27 = .ok (.return_, 1) := by decide +kernel
theorem d_X_fillPair_0 : decode b_X_fillPair 0 = .ok (.aload_n 0, 1) := by decide +kernel
theorem d_X_fillPair_1 : decode b_X_fillPair 1 = .ok (.getfield 50, 3) := by decide +kernel
theorem d_X_fillPair_4 : decode b_X_fillPair 4 = .ok (.bipush 9, 2) := by decide +kernel
theorem d_X_fillPair_6 : decode b_X_fillPair 6 = .ok (.invokevirtual 221, 3) := by decide +kernel
theorem d_X_fillPair_9 : decode b_X_fillPair 9 = .ok (.bipush 8, 2) := by decide +kernel
theorem d_X_fillPair_11 : decode b_X_fillPair 11 = .ok (.if_icmp .ne 10, 3) := by decide +kernel
theorem d_X_fillPair_14 : decode b_X_fillPair 14 = .ok (.aload_n 0, 1) := by decide +kernel
theorem d_X_fillPair_15 : decode b_X_fillPair 15 = .ok (.iload_n 1, 1) := by decide +kernel
theorem d_X_fillPair_16 : decode b_X_fillPair 16 = .ok (.invokevirtual 95, 3) := by decide +kernel
theorem d_X_fillPair_19 : decode b_X_fillPair 19 = .ok (.iconst 0, 1) := by decide +kernel
theorem d_X_fillPair_20 : decode b_X_fillPair 20 = .ok (.ireturn, 1) := by decide +kernel
theorem d_X_fillPair_21 : decode b_X_fillPair 21 = .ok (.aload_n 0, 1) := by decide +kernel
theorem d_X_fillPair_22 : decode b_X_fillPair 22 = .ok (.getfield 50, 3) := by decide +kernel
theorem d_X_fillPair_25 : decode b_X_fillPair 25 = .ok (.bipush 7, 2) := by decide +kernel
theorem d_X_fillPair_27 : decode b_X_fillPair 27 = .ok (.invokevirtual 221, 3) := by decide +kernel
theorem d_X_fillPair_30 : decode b_X_fillPair 30 = .ok (.istore_n 2, 1) := by decide +kernel
theorem d_X_fillPair_31 : decode b_X_fillPair 31 = .ok (.iconst 0, 1) := by decide +kernel
theorem d_X_fillPair_32 : decode b_X_fillPair 32 = .ok (.istore_n 3, 1) := by decide +kernel
theorem d_X_fillPair_33 : decode b_X_fillPair 33 = .ok (.iload_n 3, 1) := by decide +kernel
theorem d_X_fillPair_34 : decode b_X_fillPair 34 = .ok (.iload_n 2, 1) := by decide +kernel
theorem d_X_fillPair_35 : decode b_X_fillPair 35 = .ok (.if_icmp .ge 44, 3) := by decide +kernel
theorem d_X_fillPair_38 : decode b_X_fillPair 38 = .ok (.aload_n 0, 1) := by decide +kernel
theorem d_X_fillPair_39 : decode b_X_fillPair 39 = .ok (.getfield 50, 3) := by decide +kernel
theorem d_X_fillPair_42 : decode b_X_fillPair 42 = .ok (.sipush 1000, 3) := by decide +kernel
theorem d_X_fillPair_45 : decode b_X_fillPair 45 = .ok (.invokevirtual 221, 3) := by decide +kernel
theorem d_X_fillPair_48 : decode b_X_fillPair 48 = .ok (.iconst 1, 1) := by decide +kernel
theorem d_X_fillPair_49 : decode b_X_fillPair 49 = .ok (.iadd, 1) := by decide +kernel
theorem d_X_fillPair_50 : decode b_X_fillPair 50 = .ok (.istore 4, 2) := by decide +kernel
theorem d_X_fillPair_52 : decode b_X_fillPair 52 = .ok (.aload_n 0, 1) := by decide +kernel
theorem d_X_fillPair_53 : decode b_X_fillPair 53 = .ok (.getfield 50, 3) := by decide +kernel
theorem d_X_fillPair_56 : decode b_X_fillPair 56 = .ok (.sipush 1000, 3) := by decide +kernel
theorem d_X_fillPair_59 : decode b_X_fillPair 59 = .ok (.invokevirtual 221, 3) := by decide +kernel
theorem d_X_fillPair_62 : decode b_X_fillPair 62 = .ok (.istore 5, 2) := by decide +kernel
theorem d_X_fillPair_64 : decode b_X_fillPair 64 = .ok (.aload_n 0, 1) := by decide +kernel
theorem d_X_fillPair_65 : decode b_X_fillPair 65 = .ok (.iload_n 1, 1) := by decide +kernel
theorem d_X_fillPair_66 : decode b_X_fillPair 66 = .ok (.iload 4, 2) := by decide +kernel
theorem d_X_fillPair_68 : decode b_X_fillPair 68 = .ok (.iload 5, 2) := by decide +kernel
theorem d_X_fillPair_70 : decode b_X_fillPair 70 = .ok (.invokevirtual 89, 3) := by decide +kernel
theorem d_X_fillPair_73 : decode b_X_fillPair 73 = .ok (.iinc 3 1, 3) := by decide +kernel
theorem d_X_fillPair_76 : decode b_X_fillPair 76 = .ok (.goto (-43), 3) := by decide +kernel
theorem d_X_fillPair_79 : decode b_X_fillPair 79 = .ok (.iload_n 2, 1) := by decide +kernel
theorem d_X_fillPair_80 : decode b_X_fillPair 80 = .ok (.ireturn, 1) := by decide +kernel
theorem d_X_allPoints_0 : decode b_X_allPoints 0 = .ok (.iconst 0, 1) := by decide +kernel
theorem d_X_allPoints_1 : decode b_X_allPoints 1 = .ok (.istore_n 1, 1) := by decide +kernel
theorem d_X_allPoints_2 : decode b_X_allPoints 2 = .ok (.iconst 0, 1) := by decide +kernel
theorem d_X_allPoints_3 : decode b_X_allPoints 3 = .ok (.istore_n 2, 1) := by decide +kernel
theorem d_X_allPoints_4 : decode b_X_allPoints 4 = .ok (.iload_n 2, 1) := by decide +kernel
theorem d_X_allPoints_5 : decode b_X_allPoints 5 = .ok (.sipush 192, 3) := by decide +kernel
theorem d_X_allPoints_8 : decode b_X_allPoints 8 = .ok (.if_icmp .ge 26, 3) := by decide +kernel
theorem d_X_allPoints_11 : decode b_X_allPoints 11 = .ok (.aload_n 0, 1) := by decide +kernel
theorem d_X_allPoints_12 : decode b_X_allPoints 12 = .ok (.iload_n 2, 1) := by decide +kernel
theorem d_X_allPoints_13 : decode b_X_allPoints 13 = .ok (.invokevirtual 224, 3) := by decide +kernel
theorem d_X_allPoints_16 : decode b_X_allPoints 16 = .ok (.ifCond .eq 12, 3) := by decide +kernel
theorem d_X_allPoints_19 : decode b_X_allPoints 19 = .ok (.iload_n 1, 1) := by decide +kernel
theorem d_X_allPoints_20 : decode b_X_allPoints 20 = .ok (.aload_n 0, 1) := by decide +kernel
theorem d_X_allPoints_21 : decode b_X_allPoints 21 = .ok (.getfield 16, 3) := by decide +kernel
theorem d_X_allPoints_24 : decode b_X_allPoints 24 = .ok (.iload_n 2, 1) := by decide +kernel
theorem d_X_allPoints_25 : decode b_X_allPoints 25 = .ok (.iaload, 1) := by decide +kernel
theorem d_X_allPoints_26 : decode b_X_allPoints 26 = .ok (.iadd, 1) := by decide +kernel
theorem d_X_allPoints_27 : decode b_X_allPoints 27 = .ok (.istore_n 1, 1) := by decide +kernel
theorem d_X_allPoints_28 : decode b_X_allPoints 28 = .ok (.iinc 2 1, 3) := by decide +kernel
theorem d_X_allPoints_31 : decode b_X_allPoints 31 = .ok (.goto (-27), 3) := by decide +kernel
theorem d_X_allPoints_34 : decode b_X_allPoints 34 = .ok (.iload_n 1, 1) := by decide +kernel
theorem d_X_allPoints_35 : decode b_X_allPoints 35 = .ok (.ireturn, 1) := by decide +kernel
theorem d_X_allCounted_0 : decode b_X_allCounted 0 = .ok (.iconst 0, 1) := by decide +kernel
theorem d_X_allCounted_1 : decode b_X_allCounted 1 = .ok (.istore_n 1, 1) := by decide +kernel
theorem d_X_allCounted_2 : decode b_X_allCounted 2 = .ok (.iconst 0, 1) := by decide +kernel
theorem d_X_allCounted_3 : decode b_X_allCounted 3 = .ok (.istore_n 2, 1) := by decide +kernel
theorem d_X_allCounted_4 : decode b_X_allCounted 4 = .ok (.iload_n 2, 1) := by decide +kernel
theorem d_X_allCounted_5 : decode b_X_allCounted 5 = .ok (.aload_n 0, 1) := by decide +kernel
theorem d_X_allCounted_6 : decode b_X_allCounted 6 = .ok (.getfield 9, 3) := by decide +kernel
theorem d_X_allCounted_9 : decode b_X_allCounted 9 = .ok (.if_icmp .ge 17, 3) := by decide +kernel
theorem d_X_allCounted_12 : decode b_X_allCounted 12 = .ok (.iload_n 1, 1) := by decide +kernel
theorem d_X_allCounted_13 : decode b_X_allCounted 13 = .ok (.aload_n 0, 1) := by decide +kernel
theorem d_X_allCounted_14 : decode b_X_allCounted 14 = .ok (.iload_n 2, 1) := by decide +kernel
theorem d_X_allCounted_15 : decode b_X_allCounted 15 = .ok (.invokevirtual 117, 3) := by decide +kernel
theorem d_X_allCounted_18 : decode b_X_allCounted 18 = .ok (.iadd, 1) := by decide +kernel
theorem d_X_allCounted_19 : decode b_X_allCounted 19 = .ok (.istore_n 1, 1) := by decide +kernel
theorem d_X_allCounted_20 : decode b_X_allCounted 20 = .ok (.iinc 2 1, 3) := by decide +kernel
theorem d_X_allCounted_23 : decode b_X_allCounted 23 = .ok (.goto (-19), 3) := by decide +kernel
theorem d_X_allCounted_26 : decode b_X_allCounted 26 = .ok (.iload_n 1, 1) := by decide +kernel
theorem d_X_allCounted_27 : decode b_X_allCounted 27 = .ok (.ireturn, 1) := by decide +kernel
theorem d_X_leastBytesWithin_0 : decode b_X_leastBytesWithin 0 = .ok (.iconst (-1), 1) := by decide +kernel
theorem d_X_leastBytesWithin_1 : decode b_X_leastBytesWithin 1 = .ok (.istore_n 3, 1) := by decide +kernel
theorem d_X_leastBytesWithin_2 : decode b_X_leastBytesWithin 2 = .ok (.iload_n 1, 1) := by decide +kernel
theorem d_X_leastBytesWithin_3 : decode b_X_leastBytesWithin 3 = .ok (.bipush 6, 2) := by decide +kernel
theorem d_X_leastBytesWithin_5 : decode b_X_leastBytesWithin 5 = .ok (.imul, 1) := by decide +kernel
theorem d_X_leastBytesWithin_6 : decode b_X_leastBytesWithin 6 = .ok (.istore 4, 2) := by decide +kernel
theorem d_X_leastBytesWithin_8 : decode b_X_leastBytesWithin 8 = .ok (.iconst 0, 1) := by decide +kernel
theorem d_X_leastBytesWithin_9 : decode b_X_leastBytesWithin 9 = .ok (.istore 5, 2) := by decide +kernel
theorem d_X_leastBytesWithin_11 : decode b_X_leastBytesWithin 11 = .ok (.iload 5, 2) := by decide +kernel
theorem d_X_leastBytesWithin_13 : decode b_X_leastBytesWithin 13 = .ok (.aload_n 0, 1) := by decide +kernel
theorem d_X_leastBytesWithin_14 : decode b_X_leastBytesWithin 14 = .ok (.getfield 16, 3) := by decide +kernel
theorem d_X_leastBytesWithin_17 : decode b_X_leastBytesWithin 17 = .ok (.iload_n 1, 1) := by decide +kernel
theorem d_X_leastBytesWithin_18 : decode b_X_leastBytesWithin 18 = .ok (.iaload, 1) := by decide +kernel
theorem d_X_leastBytesWithin_19 : decode b_X_leastBytesWithin 19 = .ok (.if_icmp .ge 49, 3) := by decide +kernel
theorem d_X_leastBytesWithin_22 : decode b_X_leastBytesWithin 22 = .ok (.aload_n 0, 1) := by decide +kernel
theorem d_X_leastBytesWithin_23 : decode b_X_leastBytesWithin 23 = .ok (.getfield 23, 3) := by decide +kernel
theorem d_X_leastBytesWithin_26 : decode b_X_leastBytesWithin 26 = .ok (.iload 4, 2) := by decide +kernel
theorem d_X_leastBytesWithin_28 : decode b_X_leastBytesWithin 28 = .ok (.iload 5, 2) := by decide +kernel
theorem d_X_leastBytesWithin_30 : decode b_X_leastBytesWithin 30 = .ok (.iadd, 1) := by decide +kernel
theorem d_X_leastBytesWithin_31 : decode b_X_leastBytesWithin 31 = .ok (.iaload, 1) := by decide +kernel
theorem d_X_leastBytesWithin_32 : decode b_X_leastBytesWithin 32 = .ok (.istore 6, 2) := by decide +kernel
theorem d_X_leastBytesWithin_34 : decode b_X_leastBytesWithin 34 = .ok (.aload_n 0, 1) := by decide +kernel
theorem d_X_leastBytesWithin_35 : decode b_X_leastBytesWithin 35 = .ok (.getfield 26, 3) := by decide +kernel
theorem d_X_leastBytesWithin_38 : decode b_X_leastBytesWithin 38 = .ok (.iload 4, 2) := by decide +kernel
theorem d_X_leastBytesWithin_40 : decode b_X_leastBytesWithin 40 = .ok (.iload 5, 2) := by decide +kernel
theorem d_X_leastBytesWithin_42 : decode b_X_leastBytesWithin 42 = .ok (.iadd, 1) := by decide +kernel
theorem d_X_leastBytesWithin_43 : decode b_X_leastBytesWithin 43 = .ok (.iaload, 1) := by decide +kernel
theorem d_X_leastBytesWithin_44 : decode b_X_leastBytesWithin 44 = .ok (.iload_n 2, 1) := by decide +kernel
theorem d_X_leastBytesWithin_45 : decode b_X_leastBytesWithin 45 = .ok (.if_icmp .gt 17, 3) := by decide +kernel
theorem d_X_leastBytesWithin_48 : decode b_X_leastBytesWithin 48 = .ok (.iload_n 3, 1) := by decide +kernel
theorem d_X_leastBytesWithin_49 : decode b_X_leastBytesWithin 49 = .ok (.iconst (-1), 1) := by decide +kernel
theorem d_X_leastBytesWithin_50 : decode b_X_leastBytesWithin 50 = .ok (.if_icmp .eq 9, 3) := by decide +kernel
theorem d_X_leastBytesWithin_53 : decode b_X_leastBytesWithin 53 = .ok (.iload 6, 2) := by decide +kernel
theorem d_X_leastBytesWithin_55 : decode b_X_leastBytesWithin 55 = .ok (.iload_n 3, 1) := by decide +kernel
theorem d_X_leastBytesWithin_56 : decode b_X_leastBytesWithin 56 = .ok (.if_icmp .ge 6, 3) := by decide +kernel
theorem d_X_leastBytesWithin_59 : decode b_X_leastBytesWithin 59 = .ok (.iload 6, 2) := by decide +kernel
theorem d_X_leastBytesWithin_61 : decode b_X_leastBytesWithin 61 = .ok (.istore_n 3, 1) := by decide +kernel
theorem d_X_leastBytesWithin_62 : decode b_X_leastBytesWithin 62 = .ok (.iinc 5 1, 3) := by decide +kernel
theorem d_X_leastBytesWithin_65 : decode b_X_leastBytesWithin 65 = .ok (.goto (-54), 3) := by decide +kernel
theorem d_X_leastBytesWithin_68 : decode b_X_leastBytesWithin 68 = .ok (.iload_n 3, 1) := by decide +kernel
theorem d_X_leastBytesWithin_69 : decode b_X_leastBytesWithin 69 = .ok (.ireturn, 1) := by decide +kernel
theorem d_X_countedOf_0 : decode b_X_countedOf 0 = .ok (.iconst 0, 1) := by decide +kernel
theorem d_X_countedOf_1 : decode b_X_countedOf 1 = .ok (.istore_n 2, 1) := by decide +kernel
theorem d_X_countedOf_2 : decode b_X_countedOf 2 = .ok (.iconst 0, 1) := by decide +kernel
theorem d_X_countedOf_3 : decode b_X_countedOf 3 = .ok (.istore_n 3, 1) := by decide +kernel
theorem d_X_countedOf_4 : decode b_X_countedOf 4 = .ok (.iload_n 3, 1) := by decide +kernel
theorem d_X_countedOf_5 : decode b_X_countedOf 5 = .ok (.aload_n 0, 1) := by decide +kernel
theorem d_X_countedOf_6 : decode b_X_countedOf 6 = .ok (.getfield 13, 3) := by decide +kernel
theorem d_X_countedOf_9 : decode b_X_countedOf 9 = .ok (.if_icmp .ge 25, 3) := by decide +kernel
theorem d_X_countedOf_12 : decode b_X_countedOf 12 = .ok (.aload_n 0, 1) := by decide +kernel
theorem d_X_countedOf_13 : decode b_X_countedOf 13 = .ok (.iload_n 1, 1) := by decide +kernel
theorem d_X_countedOf_14 : decode b_X_countedOf 14 = .ok (.bipush 24, 2) := by decide +kernel
theorem d_X_countedOf_16 : decode b_X_countedOf 16 = .ok (.imul, 1) := by decide +kernel
theorem d_X_countedOf_17 : decode b_X_countedOf 17 = .ok (.iload_n 3, 1) := by decide +kernel
theorem d_X_countedOf_18 : decode b_X_countedOf 18 = .ok (.iadd, 1) := by decide +kernel
theorem d_X_countedOf_19 : decode b_X_countedOf 19 = .ok (.invokevirtual 224, 3) := by decide +kernel
theorem d_X_countedOf_22 : decode b_X_countedOf 22 = .ok (.ifCond .eq 6, 3) := by decide +kernel
theorem d_X_countedOf_25 : decode b_X_countedOf 25 = .ok (.iinc 2 1, 3) := by decide +kernel
theorem d_X_countedOf_28 : decode b_X_countedOf 28 = .ok (.iinc 3 1, 3) := by decide +kernel
theorem d_X_countedOf_31 : decode b_X_countedOf 31 = .ok (.goto (-27), 3) := by decide +kernel
theorem d_X_countedOf_34 : decode b_X_countedOf 34 = .ok (.iload_n 2, 1) := by decide +kernel
theorem d_X_countedOf_35 : decode b_X_countedOf 35 = .ok (.ireturn, 1) := by decide +kernel
theorem d_X_sumOf_0 : decode b_X_sumOf 0 = .ok (.lconst 0, 1) := by decide +kernel
theorem d_X_sumOf_1 : decode b_X_sumOf 1 = .ok (.lstore_n 2, 1) := by decide +kernel
theorem d_X_sumOf_2 : decode b_X_sumOf 2 = .ok (.iconst 0, 1) := by decide +kernel
theorem d_X_sumOf_3 : decode b_X_sumOf 3 = .ok (.istore 4, 2) := by decide +kernel
theorem d_X_sumOf_5 : decode b_X_sumOf 5 = .ok (.iload 4, 2) := by decide +kernel
theorem d_X_sumOf_7 : decode b_X_sumOf 7 = .ok (.aload_n 0, 1) := by decide +kernel
theorem d_X_sumOf_8 : decode b_X_sumOf 8 = .ok (.getfield 13, 3) := by decide +kernel
theorem d_X_sumOf_11 : decode b_X_sumOf 11 = .ok (.if_icmp .ge 38, 3) := by decide +kernel
theorem d_X_sumOf_14 : decode b_X_sumOf 14 = .ok (.iload_n 1, 1) := by decide +kernel
theorem d_X_sumOf_15 : decode b_X_sumOf 15 = .ok (.bipush 24, 2) := by decide +kernel
theorem d_X_sumOf_17 : decode b_X_sumOf 17 = .ok (.imul, 1) := by decide +kernel
theorem d_X_sumOf_18 : decode b_X_sumOf 18 = .ok (.iload 4, 2) := by decide +kernel
theorem d_X_sumOf_20 : decode b_X_sumOf 20 = .ok (.iadd, 1) := by decide +kernel
theorem d_X_sumOf_21 : decode b_X_sumOf 21 = .ok (.istore 5, 2) := by decide +kernel
theorem d_X_sumOf_23 : decode b_X_sumOf 23 = .ok (.aload_n 0, 1) := by decide +kernel
theorem d_X_sumOf_24 : decode b_X_sumOf 24 = .ok (.iload 5, 2) := by decide +kernel
theorem d_X_sumOf_26 : decode b_X_sumOf 26 = .ok (.invokevirtual 224, 3) := by decide +kernel
theorem d_X_sumOf_29 : decode b_X_sumOf 29 = .ok (.ifCond .eq 14, 3) := by decide +kernel
theorem d_X_sumOf_32 : decode b_X_sumOf 32 = .ok (.lload_n 2, 1) := by decide +kernel
theorem d_X_sumOf_33 : decode b_X_sumOf 33 = .ok (.aload_n 0, 1) := by decide +kernel
theorem d_X_sumOf_34 : decode b_X_sumOf 34 = .ok (.getfield 20, 3) := by decide +kernel
theorem d_X_sumOf_37 : decode b_X_sumOf 37 = .ok (.iload 5, 2) := by decide +kernel
theorem d_X_sumOf_39 : decode b_X_sumOf 39 = .ok (.iaload, 1) := by decide +kernel
theorem d_X_sumOf_40 : decode b_X_sumOf 40 = .ok (.i2l, 1) := by decide +kernel
theorem d_X_sumOf_41 : decode b_X_sumOf 41 = .ok (.ladd, 1) := by decide +kernel
theorem d_X_sumOf_42 : decode b_X_sumOf 42 = .ok (.lstore_n 2, 1) := by decide +kernel
theorem d_X_sumOf_43 : decode b_X_sumOf 43 = .ok (.iinc 4 1, 3) := by decide +kernel
theorem d_X_sumOf_46 : decode b_X_sumOf 46 = .ok (.goto (-41), 3) := by decide +kernel
theorem d_X_sumOf_49 : decode b_X_sumOf 49 = .ok (.lload_n 2, 1) := by decide +kernel
theorem d_X_sumOf_50 : decode b_X_sumOf 50 = .ok (.lreturn, 1) := by decide +kernel
theorem d_X_rankOf_0 : decode b_X_rankOf 0 = .ok (.aload_n 0, 1) := by decide +kernel
theorem d_X_rankOf_1 : decode b_X_rankOf 1 = .ok (.iload_n 1, 1) := by decide +kernel
theorem d_X_rankOf_2 : decode b_X_rankOf 2 = .ok (.invokevirtual 123, 3) := by decide +kernel
theorem d_X_rankOf_5 : decode b_X_rankOf 5 = .ok (.lstore_n 2, 1) := by decide +kernel
theorem d_X_rankOf_6 : decode b_X_rankOf 6 = .ok (.aload_n 0, 1) := by decide +kernel
theorem d_X_rankOf_7 : decode b_X_rankOf 7 = .ok (.iload_n 1, 1) := by decide +kernel
theorem d_X_rankOf_8 : decode b_X_rankOf 8 = .ok (.invokevirtual 117, 3) := by decide +kernel
theorem d_X_rankOf_11 : decode b_X_rankOf 11 = .ok (.i2l, 1) := by decide +kernel
theorem d_X_rankOf_12 : decode b_X_rankOf 12 = .ok (.lstore 4, 2) := by decide +kernel
theorem d_X_rankOf_14 : decode b_X_rankOf 14 = .ok (.iconst 0, 1) := by decide +kernel
theorem d_X_rankOf_15 : decode b_X_rankOf 15 = .ok (.istore 6, 2) := by decide +kernel
theorem d_X_rankOf_17 : decode b_X_rankOf 17 = .ok (.iconst 0, 1) := by decide +kernel
theorem d_X_rankOf_18 : decode b_X_rankOf 18 = .ok (.istore 7, 2) := by decide +kernel
theorem d_X_rankOf_20 : decode b_X_rankOf 20 = .ok (.iconst 0, 1) := by decide +kernel
theorem d_X_rankOf_21 : decode b_X_rankOf 21 = .ok (.istore 8, 2) := by decide +kernel
theorem d_X_rankOf_23 : decode b_X_rankOf 23 = .ok (.iload 8, 2) := by decide +kernel
theorem d_X_rankOf_25 : decode b_X_rankOf 25 = .ok (.aload_n 0, 1) := by decide +kernel
theorem d_X_rankOf_26 : decode b_X_rankOf 26 = .ok (.getfield 9, 3) := by decide +kernel
theorem d_X_rankOf_29 : decode b_X_rankOf 29 = .ok (.if_icmp .ge 62, 3) := by decide +kernel
theorem d_X_rankOf_32 : decode b_X_rankOf 32 = .ok (.aload_n 0, 1) := by decide +kernel
theorem d_X_rankOf_33 : decode b_X_rankOf 33 = .ok (.iload 8, 2) := by decide +kernel
theorem d_X_rankOf_35 : decode b_X_rankOf 35 = .ok (.invokevirtual 117, 3) := by decide +kernel
theorem d_X_rankOf_38 : decode b_X_rankOf 38 = .ok (.i2l, 1) := by decide +kernel
theorem d_X_rankOf_39 : decode b_X_rankOf 39 = .ok (.lstore 9, 2) := by decide +kernel
theorem d_X_rankOf_41 : decode b_X_rankOf 41 = .ok (.lload 9, 2) := by decide +kernel
theorem d_X_rankOf_43 : decode b_X_rankOf 43 = .ok (.lconst 0, 1) := by decide +kernel
theorem d_X_rankOf_44 : decode b_X_rankOf 44 = .ok (.lcmp, 1) := by decide +kernel
theorem d_X_rankOf_45 : decode b_X_rankOf 45 = .ok (.ifCond .le 40, 3) := by decide +kernel
theorem d_X_rankOf_48 : decode b_X_rankOf 48 = .ok (.aload_n 0, 1) := by decide +kernel
theorem d_X_rankOf_49 : decode b_X_rankOf 49 = .ok (.iload 8, 2) := by decide +kernel
theorem d_X_rankOf_51 : decode b_X_rankOf 51 = .ok (.invokevirtual 123, 3) := by decide +kernel
theorem d_X_rankOf_54 : decode b_X_rankOf 54 = .ok (.lload 4, 2) := by decide +kernel
theorem d_X_rankOf_56 : decode b_X_rankOf 56 = .ok (.lmul, 1) := by decide +kernel
theorem d_X_rankOf_57 : decode b_X_rankOf 57 = .ok (.lload_n 2, 1) := by decide +kernel
theorem d_X_rankOf_58 : decode b_X_rankOf 58 = .ok (.lload 9, 2) := by decide +kernel
theorem d_X_rankOf_60 : decode b_X_rankOf 60 = .ok (.lmul, 1) := by decide +kernel
theorem d_X_rankOf_61 : decode b_X_rankOf 61 = .ok (.invokestatic 228, 3) := by decide +kernel
theorem d_X_rankOf_64 : decode b_X_rankOf 64 = .ok (.istore 11, 2) := by decide +kernel
theorem d_X_rankOf_66 : decode b_X_rankOf 66 = .ok (.iload 11, 2) := by decide +kernel
theorem d_X_rankOf_68 : decode b_X_rankOf 68 = .ok (.ifCond .ge 9, 3) := by decide +kernel
theorem d_X_rankOf_71 : decode b_X_rankOf 71 = .ok (.iinc 6 1, 3) := by decide +kernel
theorem d_X_rankOf_74 : decode b_X_rankOf 74 = .ok (.goto 11, 3) := by decide +kernel
theorem d_X_rankOf_77 : decode b_X_rankOf 77 = .ok (.iload 11, 2) := by decide +kernel
theorem d_X_rankOf_79 : decode b_X_rankOf 79 = .ok (.ifCond .ne 6, 3) := by decide +kernel
theorem d_X_rankOf_82 : decode b_X_rankOf 82 = .ok (.iinc 7 1, 3) := by decide +kernel
theorem d_X_rankOf_85 : decode b_X_rankOf 85 = .ok (.iinc 8 1, 3) := by decide +kernel
theorem d_X_rankOf_88 : decode b_X_rankOf 88 = .ok (.goto (-65), 3) := by decide +kernel
theorem d_X_rankOf_91 : decode b_X_rankOf 91 = .ok (.iconst 2, 1) := by decide +kernel
theorem d_X_rankOf_92 : decode b_X_rankOf 92 = .ok (.iload 6, 2) := by decide +kernel
theorem d_X_rankOf_94 : decode b_X_rankOf 94 = .ok (.imul, 1) := by decide +kernel
theorem d_X_rankOf_95 : decode b_X_rankOf 95 = .ok (.iload 7, 2) := by decide +kernel
theorem d_X_rankOf_97 : decode b_X_rankOf 97 = .ok (.iadd, 1) := by decide +kernel
theorem d_X_rankOf_98 : decode b_X_rankOf 98 = .ok (.iconst 1, 1) := by decide +kernel
theorem d_X_rankOf_99 : decode b_X_rankOf 99 = .ok (.iadd, 1) := by decide +kernel
theorem d_X_rankOf_100 : decode b_X_rankOf 100 = .ok (.ireturn, 1) := by decide +kernel
theorem d_X_layHull_0 : decode b_X_layHull 0 = .ok (.aload_n 0, 1) := by decide +kernel
theorem d_X_layHull_1 : decode b_X_layHull 1 = .ok (.iconst 0, 1) := by decide +kernel
theorem d_X_layHull_2 : decode b_X_layHull 2 = .ok (.putfield 38, 3) := by decide +kernel
theorem d_X_layHull_5 : decode b_X_layHull 5 = .ok (.aload_n 0, 1) := by decide +kernel
theorem d_X_layHull_6 : decode b_X_layHull 6 = .ok (.iload_n 1, 1) := by decide +kernel
theorem d_X_layHull_7 : decode b_X_layHull 7 = .ok (.invokevirtual 234, 3) := by decide +kernel
theorem d_X_layHull_10 : decode b_X_layHull 10 = .ok (.istore_n 2, 1) := by decide +kernel
theorem d_X_layHull_11 : decode b_X_layHull 11 = .ok (.aload_n 0, 1) := by decide +kernel
theorem d_X_layHull_12 : decode b_X_layHull 12 = .ok (.getfield 38, 3) := by decide +kernel
theorem d_X_layHull_15 : decode b_X_layHull 15 = .ok (.bipush 6, 2) := by decide +kernel
theorem d_X_layHull_17 : decode b_X_layHull 17 = .ok (.if_icmp .ge 38, 3) := by decide +kernel
theorem d_X_layHull_20 : decode b_X_layHull 20 = .ok (.iload_n 2, 1) := by decide +kernel
theorem d_X_layHull_21 : decode b_X_layHull 21 = .ok (.iconst (-1), 1) := by decide +kernel
theorem d_X_layHull_22 : decode b_X_layHull 22 = .ok (.if_icmp .eq 33, 3) := by decide +kernel
theorem d_X_layHull_25 : decode b_X_layHull 25 = .ok (.aload_n 0, 1) := by decide +kernel
theorem d_X_layHull_26 : decode b_X_layHull 26 = .ok (.getfield 35, 3) := by decide +kernel
theorem d_X_layHull_29 : decode b_X_layHull 29 = .ok (.aload_n 0, 1) := by decide +kernel
theorem d_X_layHull_30 : decode b_X_layHull 30 = .ok (.getfield 38, 3) := by decide +kernel
theorem d_X_layHull_33 : decode b_X_layHull 33 = .ok (.iload_n 2, 1) := by decide +kernel
theorem d_X_layHull_34 : decode b_X_layHull 34 = .ok (.iastore, 1) := by decide +kernel
theorem d_X_layHull_35 : decode b_X_layHull 35 = .ok (.aload_n 0, 1) := by decide +kernel
theorem d_X_layHull_36 : decode b_X_layHull 36 = .ok (.dup, 1) := by decide +kernel
theorem d_X_layHull_37 : decode b_X_layHull 37 = .ok (.getfield 38, 3) := by decide +kernel
theorem d_X_layHull_40 : decode b_X_layHull 40 = .ok (.iconst 1, 1) := by decide +kernel
theorem d_X_layHull_41 : decode b_X_layHull 41 = .ok (.iadd, 1) := by decide +kernel
theorem d_X_layHull_42 : decode b_X_layHull 42 = .ok (.putfield 38, 3) := by decide +kernel
theorem d_X_layHull_45 : decode b_X_layHull 45 = .ok (.aload_n 0, 1) := by decide +kernel
theorem d_X_layHull_46 : decode b_X_layHull 46 = .ok (.iload_n 1, 1) := by decide +kernel
theorem d_X_layHull_47 : decode b_X_layHull 47 = .ok (.iload_n 2, 1) := by decide +kernel
theorem d_X_layHull_48 : decode b_X_layHull 48 = .ok (.invokevirtual 237, 3) := by decide +kernel
theorem d_X_layHull_51 : decode b_X_layHull 51 = .ok (.istore_n 2, 1) := by decide +kernel
theorem d_X_layHull_52 : decode b_X_layHull 52 = .ok (.goto (-41), 3) := by decide +kernel
theorem d_X_layHull_55 : decode b_X_layHull 55 = .ok (.return_, 1) := by decide +kernel
theorem d_X_firstOfRow_0 : decode b_X_firstOfRow 0 = .ok (.iconst (-1), 1) := by decide +kernel
theorem d_X_firstOfRow_1 : decode b_X_firstOfRow 1 = .ok (.istore_n 2, 1) := by decide +kernel
theorem d_X_firstOfRow_2 : decode b_X_firstOfRow 2 = .ok (.iload_n 1, 1) := by decide +kernel
theorem d_X_firstOfRow_3 : decode b_X_firstOfRow 3 = .ok (.bipush 6, 2) := by decide +kernel
theorem d_X_firstOfRow_5 : decode b_X_firstOfRow 5 = .ok (.imul, 1) := by decide +kernel
theorem d_X_firstOfRow_6 : decode b_X_firstOfRow 6 = .ok (.istore_n 3, 1) := by decide +kernel
theorem d_X_firstOfRow_7 : decode b_X_firstOfRow 7 = .ok (.iload_n 3, 1) := by decide +kernel
theorem d_X_firstOfRow_8 : decode b_X_firstOfRow 8 = .ok (.istore 4, 2) := by decide +kernel
theorem d_X_firstOfRow_10 : decode b_X_firstOfRow 10 = .ok (.iload 4, 2) := by decide +kernel
theorem d_X_firstOfRow_12 : decode b_X_firstOfRow 12 = .ok (.iload_n 3, 1) := by decide +kernel
theorem d_X_firstOfRow_13 : decode b_X_firstOfRow 13 = .ok (.aload_n 0, 1) := by decide +kernel
theorem d_X_firstOfRow_14 : decode b_X_firstOfRow 14 = .ok (.getfield 16, 3) := by decide +kernel
theorem d_X_firstOfRow_17 : decode b_X_firstOfRow 17 = .ok (.iload_n 1, 1) := by decide +kernel
theorem d_X_firstOfRow_18 : decode b_X_firstOfRow 18 = .ok (.iaload, 1) := by decide +kernel
theorem d_X_firstOfRow_19 : decode b_X_firstOfRow 19 = .ok (.iadd, 1) := by decide +kernel
theorem d_X_firstOfRow_20 : decode b_X_firstOfRow 20 = .ok (.if_icmp .ge 27, 3) := by decide +kernel
theorem d_X_firstOfRow_23 : decode b_X_firstOfRow 23 = .ok (.iload_n 2, 1) := by decide +kernel
theorem d_X_firstOfRow_24 : decode b_X_firstOfRow 24 = .ok (.iconst (-1), 1) := by decide +kernel
theorem d_X_firstOfRow_25 : decode b_X_firstOfRow 25 = .ok (.if_icmp .eq 13, 3) := by decide +kernel
theorem d_X_firstOfRow_28 : decode b_X_firstOfRow 28 = .ok (.aload_n 0, 1) := by decide +kernel
theorem d_X_firstOfRow_29 : decode b_X_firstOfRow 29 = .ok (.iload 4, 2) := by decide +kernel
theorem d_X_firstOfRow_31 : decode b_X_firstOfRow 31 = .ok (.iload_n 2, 1) := by decide +kernel
theorem d_X_firstOfRow_32 : decode b_X_firstOfRow 32 = .ok (.invokevirtual 240, 3) := by decide +kernel
theorem d_X_firstOfRow_35 : decode b_X_firstOfRow 35 = .ok (.ifCond .eq 6, 3) := by decide +kernel
theorem d_X_firstOfRow_38 : decode b_X_firstOfRow 38 = .ok (.iload 4, 2) := by decide +kernel
theorem d_X_firstOfRow_40 : decode b_X_firstOfRow 40 = .ok (.istore_n 2, 1) := by decide +kernel
theorem d_X_firstOfRow_41 : decode b_X_firstOfRow 41 = .ok (.iinc 4 1, 3) := by decide +kernel
theorem d_X_firstOfRow_44 : decode b_X_firstOfRow 44 = .ok (.goto (-34), 3) := by decide +kernel
theorem d_X_firstOfRow_47 : decode b_X_firstOfRow 47 = .ok (.iload_n 2, 1) := by decide +kernel
theorem d_X_firstOfRow_48 : decode b_X_firstOfRow 48 = .ok (.ireturn, 1) := by decide +kernel
theorem d_X_isBefore_0 : decode b_X_isBefore 0 = .ok (.aload_n 0, 1) := by decide +kernel
theorem d_X_isBefore_1 : decode b_X_isBefore 1 = .ok (.getfield 23, 3) := by decide +kernel
theorem d_X_isBefore_4 : decode b_X_isBefore 4 = .ok (.iload_n 1, 1) := by decide +kernel
theorem d_X_isBefore_5 : decode b_X_isBefore 5 = .ok (.iaload, 1) := by decide +kernel
theorem d_X_isBefore_6 : decode b_X_isBefore 6 = .ok (.aload_n 0, 1) := by decide +kernel
theorem d_X_isBefore_7 : decode b_X_isBefore 7 = .ok (.getfield 23, 3) := by decide +kernel
theorem d_X_isBefore_10 : decode b_X_isBefore 10 = .ok (.iload_n 2, 1) := by decide +kernel
theorem d_X_isBefore_11 : decode b_X_isBefore 11 = .ok (.iaload, 1) := by decide +kernel
theorem d_X_isBefore_12 : decode b_X_isBefore 12 = .ok (.if_icmp .eq 24, 3) := by decide +kernel
theorem d_X_isBefore_15 : decode b_X_isBefore 15 = .ok (.aload_n 0, 1) := by decide +kernel
theorem d_X_isBefore_16 : decode b_X_isBefore 16 = .ok (.getfield 23, 3) := by decide +kernel
theorem d_X_isBefore_19 : decode b_X_isBefore 19 = .ok (.iload_n 1, 1) := by decide +kernel
theorem d_X_isBefore_20 : decode b_X_isBefore 20 = .ok (.iaload, 1) := by decide +kernel
theorem d_X_isBefore_21 : decode b_X_isBefore 21 = .ok (.aload_n 0, 1) := by decide +kernel
theorem d_X_isBefore_22 : decode b_X_isBefore 22 = .ok (.getfield 23, 3) := by decide +kernel
theorem d_X_isBefore_25 : decode b_X_isBefore 25 = .ok (.iload_n 2, 1) := by decide +kernel
theorem d_X_isBefore_26 : decode b_X_isBefore 26 = .ok (.iaload, 1) := by decide +kernel
theorem d_X_isBefore_27 : decode b_X_isBefore 27 = .ok (.if_icmp .ge 7, 3) := by decide +kernel
theorem d_X_isBefore_30 : decode b_X_isBefore 30 = .ok (.iconst 1, 1) := by decide +kernel
theorem d_X_isBefore_31 : decode b_X_isBefore 31 = .ok (.goto 4, 3) := by decide +kernel
theorem d_X_isBefore_34 : decode b_X_isBefore 34 = .ok (.iconst 0, 1) := by decide +kernel
theorem d_X_isBefore_35 : decode b_X_isBefore 35 = .ok (.ireturn, 1) := by decide +kernel
theorem d_X_isBefore_36 : decode b_X_isBefore 36 = .ok (.aload_n 0, 1) := by decide +kernel
theorem d_X_isBefore_37 : decode b_X_isBefore 37 = .ok (.getfield 26, 3) := by decide +kernel
theorem d_X_isBefore_40 : decode b_X_isBefore 40 = .ok (.iload_n 1, 1) := by decide +kernel
theorem d_X_isBefore_41 : decode b_X_isBefore 41 = .ok (.iaload, 1) := by decide +kernel
theorem d_X_isBefore_42 : decode b_X_isBefore 42 = .ok (.aload_n 0, 1) := by decide +kernel
theorem d_X_isBefore_43 : decode b_X_isBefore 43 = .ok (.getfield 26, 3) := by decide +kernel
theorem d_X_isBefore_46 : decode b_X_isBefore 46 = .ok (.iload_n 2, 1) := by decide +kernel
theorem d_X_isBefore_47 : decode b_X_isBefore 47 = .ok (.iaload, 1) := by decide +kernel
theorem d_X_isBefore_48 : decode b_X_isBefore 48 = .ok (.if_icmp .ge 7, 3) := by decide +kernel
theorem d_X_isBefore_51 : decode b_X_isBefore 51 = .ok (.iconst 1, 1) := by decide +kernel
theorem d_X_isBefore_52 : decode b_X_isBefore 52 = .ok (.goto 4, 3) := by decide +kernel
theorem d_X_isBefore_55 : decode b_X_isBefore 55 = .ok (.iconst 0, 1) := by decide +kernel
theorem d_X_isBefore_56 : decode b_X_isBefore 56 = .ok (.ireturn, 1) := by decide +kernel
theorem d_X_steepestFrom_0 : decode b_X_steepestFrom 0 = .ok (.iconst (-1), 1) := by decide +kernel
theorem d_X_steepestFrom_1 : decode b_X_steepestFrom 1 = .ok (.istore_n 3, 1) := by decide +kernel
theorem d_X_steepestFrom_2 : decode b_X_steepestFrom 2 = .ok (.iload_n 1, 1) := by decide +kernel
theorem d_X_steepestFrom_3 : decode b_X_steepestFrom 3 = .ok (.bipush 6, 2) := by decide +kernel
theorem d_X_steepestFrom_5 : decode b_X_steepestFrom 5 = .ok (.imul, 1) := by decide +kernel
theorem d_X_steepestFrom_6 : decode b_X_steepestFrom 6 = .ok (.istore 4, 2) := by decide +kernel
theorem d_X_steepestFrom_8 : decode b_X_steepestFrom 8 = .ok (.iload 4, 2) := by decide +kernel
theorem d_X_steepestFrom_10 : decode b_X_steepestFrom 10 = .ok (.istore 5, 2) := by decide +kernel
theorem d_X_steepestFrom_12 : decode b_X_steepestFrom 12 = .ok (.iload 5, 2) := by decide +kernel
theorem d_X_steepestFrom_14 : decode b_X_steepestFrom 14 = .ok (.iload 4, 2) := by decide +kernel
theorem d_X_steepestFrom_16 : decode b_X_steepestFrom 16 = .ok (.aload_n 0, 1) := by decide +kernel
theorem d_X_steepestFrom_17 : decode b_X_steepestFrom 17 = .ok (.getfield 16, 3) := by decide +kernel
theorem d_X_steepestFrom_20 : decode b_X_steepestFrom 20 = .ok (.iload_n 1, 1) := by decide +kernel
theorem d_X_steepestFrom_21 : decode b_X_steepestFrom 21 = .ok (.iaload, 1) := by decide +kernel
theorem d_X_steepestFrom_22 : decode b_X_steepestFrom 22 = .ok (.iadd, 1) := by decide +kernel
theorem d_X_steepestFrom_23 : decode b_X_steepestFrom 23 = .ok (.if_icmp .ge 52, 3) := by decide +kernel
theorem d_X_steepestFrom_26 : decode b_X_steepestFrom 26 = .ok (.aload_n 0, 1) := by decide +kernel
theorem d_X_steepestFrom_27 : decode b_X_steepestFrom 27 = .ok (.iload_n 2, 1) := by decide +kernel
theorem d_X_steepestFrom_28 : decode b_X_steepestFrom 28 = .ok (.iload 5, 2) := by decide +kernel
theorem d_X_steepestFrom_30 : decode b_X_steepestFrom 30 = .ok (.invokevirtual 150, 3) := by decide +kernel
theorem d_X_steepestFrom_33 : decode b_X_steepestFrom 33 = .ok (.lconst 0, 1) := by decide +kernel
theorem d_X_steepestFrom_34 : decode b_X_steepestFrom 34 = .ok (.lcmp, 1) := by decide +kernel
theorem d_X_steepestFrom_35 : decode b_X_steepestFrom 35 = .ok (.ifCond .le 34, 3) := by decide +kernel
theorem d_X_steepestFrom_38 : decode b_X_steepestFrom 38 = .ok (.aload_n 0, 1) := by decide +kernel
theorem d_X_steepestFrom_39 : decode b_X_steepestFrom 39 = .ok (.iload_n 2, 1) := by decide +kernel
theorem d_X_steepestFrom_40 : decode b_X_steepestFrom 40 = .ok (.iload 5, 2) := by decide +kernel
theorem d_X_steepestFrom_42 : decode b_X_steepestFrom 42 = .ok (.invokevirtual 146, 3) := by decide +kernel
theorem d_X_steepestFrom_45 : decode b_X_steepestFrom 45 = .ok (.lconst 0, 1) := by decide +kernel
theorem d_X_steepestFrom_46 : decode b_X_steepestFrom 46 = .ok (.lcmp, 1) := by decide +kernel
theorem d_X_steepestFrom_47 : decode b_X_steepestFrom 47 = .ok (.ifCond .le 22, 3) := by decide +kernel
theorem d_X_steepestFrom_50 : decode b_X_steepestFrom 50 = .ok (.iload_n 3, 1) := by decide +kernel
theorem d_X_steepestFrom_51 : decode b_X_steepestFrom 51 = .ok (.iconst (-1), 1) := by decide +kernel
theorem d_X_steepestFrom_52 : decode b_X_steepestFrom 52 = .ok (.if_icmp .eq 14, 3) := by decide +kernel
theorem d_X_steepestFrom_55 : decode b_X_steepestFrom 55 = .ok (.aload_n 0, 1) := by decide +kernel
theorem d_X_steepestFrom_56 : decode b_X_steepestFrom 56 = .ok (.iload_n 2, 1) := by decide +kernel
theorem d_X_steepestFrom_57 : decode b_X_steepestFrom 57 = .ok (.iload 5, 2) := by decide +kernel
theorem d_X_steepestFrom_59 : decode b_X_steepestFrom 59 = .ok (.iload_n 3, 1) := by decide +kernel
theorem d_X_steepestFrom_60 : decode b_X_steepestFrom 60 = .ok (.invokevirtual 244, 3) := by decide +kernel
theorem d_X_steepestFrom_63 : decode b_X_steepestFrom 63 = .ok (.ifCond .eq 6, 3) := by decide +kernel
theorem d_X_steepestFrom_66 : decode b_X_steepestFrom 66 = .ok (.iload 5, 2) := by decide +kernel
theorem d_X_steepestFrom_68 : decode b_X_steepestFrom 68 = .ok (.istore_n 3, 1) := by decide +kernel
theorem d_X_steepestFrom_69 : decode b_X_steepestFrom 69 = .ok (.iinc 5 1, 3) := by decide +kernel
theorem d_X_steepestFrom_72 : decode b_X_steepestFrom 72 = .ok (.goto (-60), 3) := by decide +kernel
theorem d_X_steepestFrom_75 : decode b_X_steepestFrom 75 = .ok (.iload_n 3, 1) := by decide +kernel
theorem d_X_steepestFrom_76 : decode b_X_steepestFrom 76 = .ok (.ireturn, 1) := by decide +kernel
theorem d_X_isBetterStep_0 : decode b_X_isBetterStep 0 = .ok (.aload_n 0, 1) := by decide +kernel
theorem d_X_isBetterStep_1 : decode b_X_isBetterStep 1 = .ok (.iload_n 1, 1) := by decide +kernel
theorem d_X_isBetterStep_2 : decode b_X_isBetterStep 2 = .ok (.iload_n 2, 1) := by decide +kernel
theorem d_X_isBetterStep_3 : decode b_X_isBetterStep 3 = .ok (.invokevirtual 150, 3) := by decide +kernel
theorem d_X_isBetterStep_6 : decode b_X_isBetterStep 6 = .ok (.lstore 4, 2) := by decide +kernel
theorem d_X_isBetterStep_8 : decode b_X_isBetterStep 8 = .ok (.aload_n 0, 1) := by decide +kernel
theorem d_X_isBetterStep_9 : decode b_X_isBetterStep 9 = .ok (.iload_n 1, 1) := by decide +kernel
theorem d_X_isBetterStep_10 : decode b_X_isBetterStep 10 = .ok (.iload_n 3, 1) := by decide +kernel
theorem d_X_isBetterStep_11 : decode b_X_isBetterStep 11 = .ok (.invokevirtual 150, 3) := by decide +kernel
theorem d_X_isBetterStep_14 : decode b_X_isBetterStep 14 = .ok (.lstore 6, 2) := by decide +kernel
theorem d_X_isBetterStep_16 : decode b_X_isBetterStep 16 = .ok (.aload_n 0, 1) := by decide +kernel
theorem d_X_isBetterStep_17 : decode b_X_isBetterStep 17 = .ok (.iload_n 1, 1) := by decide +kernel
theorem d_X_isBetterStep_18 : decode b_X_isBetterStep 18 = .ok (.iload_n 2, 1) := by decide +kernel
theorem d_X_isBetterStep_19 : decode b_X_isBetterStep 19 = .ok (.invokevirtual 146, 3) := by decide +kernel
theorem d_X_isBetterStep_22 : decode b_X_isBetterStep 22 = .ok (.lload 6, 2) := by decide +kernel
theorem d_X_isBetterStep_24 : decode b_X_isBetterStep 24 = .ok (.lmul, 1) := by decide +kernel
theorem d_X_isBetterStep_25 : decode b_X_isBetterStep 25 = .ok (.aload_n 0, 1) := by decide +kernel
theorem d_X_isBetterStep_26 : decode b_X_isBetterStep 26 = .ok (.iload_n 1, 1) := by decide +kernel
theorem d_X_isBetterStep_27 : decode b_X_isBetterStep 27 = .ok (.iload_n 3, 1) := by decide +kernel
theorem d_X_isBetterStep_28 : decode b_X_isBetterStep 28 = .ok (.invokevirtual 146, 3) := by decide +kernel
theorem d_X_isBetterStep_31 : decode b_X_isBetterStep 31 = .ok (.lload 4, 2) := by decide +kernel
theorem d_X_isBetterStep_33 : decode b_X_isBetterStep 33 = .ok (.lmul, 1) := by decide +kernel
theorem d_X_isBetterStep_34 : decode b_X_isBetterStep 34 = .ok (.invokestatic 228, 3) := by decide +kernel
theorem d_X_isBetterStep_37 : decode b_X_isBetterStep 37 = .ok (.istore 8, 2) := by decide +kernel
theorem d_X_isBetterStep_39 : decode b_X_isBetterStep 39 = .ok (.iload 8, 2) := by decide +kernel
theorem d_X_isBetterStep_41 : decode b_X_isBetterStep 41 = .ok (.ifCond .gt 16, 3) := by decide +kernel
theorem d_X_isBetterStep_44 : decode b_X_isBetterStep 44 = .ok (.iload 8, 2) := by decide +kernel
theorem d_X_isBetterStep_46 : decode b_X_isBetterStep 46 = .ok (.ifCond .ne 15, 3) := by decide +kernel
theorem d_X_isBetterStep_49 : decode b_X_isBetterStep 49 = .ok (.lload 4, 2) := by decide +kernel
theorem d_X_isBetterStep_51 : decode b_X_isBetterStep 51 = .ok (.lload 6, 2) := by decide +kernel
theorem d_X_isBetterStep_53 : decode b_X_isBetterStep 53 = .ok (.lcmp, 1) := by decide +kernel
theorem d_X_isBetterStep_54 : decode b_X_isBetterStep 54 = .ok (.ifCond .le 7, 3) := by decide +kernel
theorem d_X_isBetterStep_57 : decode b_X_isBetterStep 57 = .ok (.iconst 1, 1) := by decide +kernel
theorem d_X_isBetterStep_58 : decode b_X_isBetterStep 58 = .ok (.goto 4, 3) := by decide +kernel
theorem d_X_isBetterStep_61 : decode b_X_isBetterStep 61 = .ok (.iconst 0, 1) := by decide +kernel
theorem d_X_isBetterStep_62 : decode b_X_isBetterStep 62 = .ok (.ireturn, 1) := by decide +kernel
theorem d_X_fallTo_0 : decode b_X_fallTo 0 = .ok (.aload_n 0, 1) := by decide +kernel
theorem d_X_fallTo_1 : decode b_X_fallTo 1 = .ok (.getfield 26, 3) := by decide +kernel
theorem d_X_fallTo_4 : decode b_X_fallTo 4 = .ok (.iload_n 1, 1) := by decide +kernel
theorem d_X_fallTo_5 : decode b_X_fallTo 5 = .ok (.iaload, 1) := by decide +kernel
theorem d_X_fallTo_6 : decode b_X_fallTo 6 = .ok (.i2l, 1) := by decide +kernel
theorem d_X_fallTo_7 : decode b_X_fallTo 7 = .ok (.aload_n 0, 1) := by decide +kernel
theorem d_X_fallTo_8 : decode b_X_fallTo 8 = .ok (.getfield 26, 3) := by decide +kernel
theorem d_X_fallTo_11 : decode b_X_fallTo 11 = .ok (.iload_n 2, 1) := by decide +kernel
theorem d_X_fallTo_12 : decode b_X_fallTo 12 = .ok (.iaload, 1) := by decide +kernel
theorem d_X_fallTo_13 : decode b_X_fallTo 13 = .ok (.i2l, 1) := by decide +kernel
theorem d_X_fallTo_14 : decode b_X_fallTo 14 = .ok (.lsub, 1) := by decide +kernel
theorem d_X_fallTo_15 : decode b_X_fallTo 15 = .ok (.lreturn, 1) := by decide +kernel
theorem d_X_growthTo_0 : decode b_X_growthTo 0 = .ok (.aload_n 0, 1) := by decide +kernel
theorem d_X_growthTo_1 : decode b_X_growthTo 1 = .ok (.getfield 23, 3) := by decide +kernel
theorem d_X_growthTo_4 : decode b_X_growthTo 4 = .ok (.iload_n 2, 1) := by decide +kernel
theorem d_X_growthTo_5 : decode b_X_growthTo 5 = .ok (.iaload, 1) := by decide +kernel
theorem d_X_growthTo_6 : decode b_X_growthTo 6 = .ok (.i2l, 1) := by decide +kernel
theorem d_X_growthTo_7 : decode b_X_growthTo 7 = .ok (.aload_n 0, 1) := by decide +kernel
theorem d_X_growthTo_8 : decode b_X_growthTo 8 = .ok (.getfield 23, 3) := by decide +kernel
theorem d_X_growthTo_11 : decode b_X_growthTo 11 = .ok (.iload_n 1, 1) := by decide +kernel
theorem d_X_growthTo_12 : decode b_X_growthTo 12 = .ok (.iaload, 1) := by decide +kernel
theorem d_X_growthTo_13 : decode b_X_growthTo 13 = .ok (.i2l, 1) := by decide +kernel
theorem d_X_growthTo_14 : decode b_X_growthTo 14 = .ok (.lsub, 1) := by decide +kernel
theorem d_X_growthTo_15 : decode b_X_growthTo 15 = .ok (.lreturn, 1) := by decide +kernel
theorem d_X_layLeads_0 : decode b_X_layLeads 0 = .ok (.aload_n 0, 1) := by decide +kernel
theorem d_X_layLeads_1 : decode b_X_layLeads 1 = .ok (.iconst 0, 1) := by decide +kernel
theorem d_X_layLeads_2 : decode b_X_layLeads 2 = .ok (.putfield 44, 3) := by decide +kernel
theorem d_X_layLeads_5 : decode b_X_layLeads 5 = .ok (.iconst 0, 1) := by decide +kernel
theorem d_X_layLeads_6 : decode b_X_layLeads 6 = .ok (.istore_n 3, 1) := by decide +kernel
theorem d_X_layLeads_7 : decode b_X_layLeads 7 = .ok (.iload_n 3, 1) := by decide +kernel
theorem d_X_layLeads_8 : decode b_X_layLeads 8 = .ok (.aload_n 0, 1) := by decide +kernel
theorem d_X_layLeads_9 : decode b_X_layLeads 9 = .ok (.getfield 13, 3) := by decide +kernel
theorem d_X_layLeads_12 : decode b_X_layLeads 12 = .ok (.if_icmp .ge 77, 3) := by decide +kernel
theorem d_X_layLeads_15 : decode b_X_layLeads 15 = .ok (.iload_n 1, 1) := by decide +kernel
theorem d_X_layLeads_16 : decode b_X_layLeads 16 = .ok (.bipush 24, 2) := by decide +kernel
theorem d_X_layLeads_18 : decode b_X_layLeads 18 = .ok (.imul, 1) := by decide +kernel
theorem d_X_layLeads_19 : decode b_X_layLeads 19 = .ok (.iload_n 3, 1) := by decide +kernel
theorem d_X_layLeads_20 : decode b_X_layLeads 20 = .ok (.iadd, 1) := by decide +kernel
theorem d_X_layLeads_21 : decode b_X_layLeads 21 = .ok (.istore 4, 2) := by decide +kernel
theorem d_X_layLeads_23 : decode b_X_layLeads 23 = .ok (.iload_n 2, 1) := by decide +kernel
theorem d_X_layLeads_24 : decode b_X_layLeads 24 = .ok (.bipush 24, 2) := by decide +kernel
theorem d_X_layLeads_26 : decode b_X_layLeads 26 = .ok (.imul, 1) := by decide +kernel
theorem d_X_layLeads_27 : decode b_X_layLeads 27 = .ok (.iload_n 3, 1) := by decide +kernel
theorem d_X_layLeads_28 : decode b_X_layLeads 28 = .ok (.iadd, 1) := by decide +kernel
theorem d_X_layLeads_29 : decode b_X_layLeads 29 = .ok (.istore 5, 2) := by decide +kernel
theorem d_X_layLeads_31 : decode b_X_layLeads 31 = .ok (.aload_n 0, 1) := by decide +kernel
theorem d_X_layLeads_32 : decode b_X_layLeads 32 = .ok (.iload 4, 2) := by decide +kernel
theorem d_X_layLeads_34 : decode b_X_layLeads 34 = .ok (.invokevirtual 224, 3) := by decide +kernel
theorem d_X_layLeads_37 : decode b_X_layLeads 37 = .ok (.ifCond .eq 46, 3) := by decide +kernel
theorem d_X_layLeads_40 : decode b_X_layLeads 40 = .ok (.aload_n 0, 1) := by decide +kernel
theorem d_X_layLeads_41 : decode b_X_layLeads 41 = .ok (.iload 5, 2) := by decide +kernel
theorem d_X_layLeads_43 : decode b_X_layLeads 43 = .ok (.invokevirtual 224, 3) := by decide +kernel
theorem d_X_layLeads_46 : decode b_X_layLeads 46 = .ok (.ifCond .eq 37, 3) := by decide +kernel
theorem d_X_layLeads_49 : decode b_X_layLeads 49 = .ok (.aload_n 0, 1) := by decide +kernel
theorem d_X_layLeads_50 : decode b_X_layLeads 50 = .ok (.getfield 41, 3) := by decide +kernel
theorem d_X_layLeads_53 : decode b_X_layLeads 53 = .ok (.aload_n 0, 1) := by decide +kernel
theorem d_X_layLeads_54 : decode b_X_layLeads 54 = .ok (.getfield 44, 3) := by decide +kernel
theorem d_X_layLeads_57 : decode b_X_layLeads 57 = .ok (.aload_n 0, 1) := by decide +kernel
theorem d_X_layLeads_58 : decode b_X_layLeads 58 = .ok (.getfield 20, 3) := by decide +kernel
theorem d_X_layLeads_61 : decode b_X_layLeads 61 = .ok (.iload 4, 2) := by decide +kernel
theorem d_X_layLeads_63 : decode b_X_layLeads 63 = .ok (.iaload, 1) := by decide +kernel
theorem d_X_layLeads_64 : decode b_X_layLeads 64 = .ok (.aload_n 0, 1) := by decide +kernel
theorem d_X_layLeads_65 : decode b_X_layLeads 65 = .ok (.getfield 20, 3) := by decide +kernel
theorem d_X_layLeads_68 : decode b_X_layLeads 68 = .ok (.iload 5, 2) := by decide +kernel
theorem d_X_layLeads_70 : decode b_X_layLeads 70 = .ok (.iaload, 1) := by decide +kernel
theorem d_X_layLeads_71 : decode b_X_layLeads 71 = .ok (.isub, 1) := by decide +kernel
theorem d_X_layLeads_72 : decode b_X_layLeads 72 = .ok (.iastore, 1) := by decide +kernel
theorem d_X_layLeads_73 : decode b_X_layLeads 73 = .ok (.aload_n 0, 1) := by decide +kernel
theorem d_X_layLeads_74 : decode b_X_layLeads 74 = .ok (.dup, 1) := by decide +kernel
theorem d_X_layLeads_75 : decode b_X_layLeads 75 = .ok (.getfield 44, 3) := by decide +kernel
theorem d_X_layLeads_78 : decode b_X_layLeads 78 = .ok (.iconst 1, 1) := by decide +kernel
theorem d_X_layLeads_79 : decode b_X_layLeads 79 = .ok (.iadd, 1) := by decide +kernel
theorem d_X_layLeads_80 : decode b_X_layLeads 80 = .ok (.putfield 44, 3) := by decide +kernel
theorem d_X_layLeads_83 : decode b_X_layLeads 83 = .ok (.iinc 3 1, 3) := by decide +kernel
theorem d_X_layLeads_86 : decode b_X_layLeads 86 = .ok (.goto (-79), 3) := by decide +kernel
theorem d_X_layLeads_89 : decode b_X_layLeads 89 = .ok (.return_, 1) := by decide +kernel
theorem d_X_countLeads_0 : decode b_X_countLeads 0 = .ok (.iconst 0, 1) := by decide +kernel
theorem d_X_countLeads_1 : decode b_X_countLeads 1 = .ok (.istore_n 2, 1) := by decide +kernel
theorem d_X_countLeads_2 : decode b_X_countLeads 2 = .ok (.iconst 0, 1) := by decide +kernel
theorem d_X_countLeads_3 : decode b_X_countLeads 3 = .ok (.istore_n 3, 1) := by decide +kernel
theorem d_X_countLeads_4 : decode b_X_countLeads 4 = .ok (.iload_n 3, 1) := by decide +kernel
theorem d_X_countLeads_5 : decode b_X_countLeads 5 = .ok (.aload_n 0, 1) := by decide +kernel
theorem d_X_countLeads_6 : decode b_X_countLeads 6 = .ok (.getfield 44, 3) := by decide +kernel
theorem d_X_countLeads_9 : decode b_X_countLeads 9 = .ok (.if_icmp .ge 37, 3) := by decide +kernel
theorem d_X_countLeads_12 : decode b_X_countLeads 12 = .ok (.iload_n 1, 1) := by decide +kernel
theorem d_X_countLeads_13 : decode b_X_countLeads 13 = .ok (.ifCond .eq 15, 3) := by decide +kernel
theorem d_X_countLeads_16 : decode b_X_countLeads 16 = .ok (.aload_n 0, 1) := by decide +kernel
theorem d_X_countLeads_17 : decode b_X_countLeads 17 = .ok (.getfield 41, 3) := by decide +kernel
theorem d_X_countLeads_20 : decode b_X_countLeads 20 = .ok (.iload_n 3, 1) := by decide +kernel
theorem d_X_countLeads_21 : decode b_X_countLeads 21 = .ok (.iaload, 1) := by decide +kernel
theorem d_X_countLeads_22 : decode b_X_countLeads 22 = .ok (.ifCond .ge 18, 3) := by decide +kernel
theorem d_X_countLeads_25 : decode b_X_countLeads 25 = .ok (.goto 12, 3) := by decide +kernel
theorem d_X_countLeads_28 : decode b_X_countLeads 28 = .ok (.aload_n 0, 1) := by decide +kernel
theorem d_X_countLeads_29 : decode b_X_countLeads 29 = .ok (.getfield 41, 3) := by decide +kernel
theorem d_X_countLeads_32 : decode b_X_countLeads 32 = .ok (.iload_n 3, 1) := by decide +kernel
theorem d_X_countLeads_33 : decode b_X_countLeads 33 = .ok (.iaload, 1) := by decide +kernel
theorem d_X_countLeads_34 : decode b_X_countLeads 34 = .ok (.ifCond .le 6, 3) := by decide +kernel
theorem d_X_countLeads_37 : decode b_X_countLeads 37 = .ok (.iinc 2 1, 3) := by decide +kernel
theorem d_X_countLeads_40 : decode b_X_countLeads 40 = .ok (.iinc 3 1, 3) := by decide +kernel
theorem d_X_countLeads_43 : decode b_X_countLeads 43 = .ok (.goto (-39), 3) := by decide +kernel
theorem d_X_countLeads_46 : decode b_X_countLeads 46 = .ok (.iload_n 2, 1) := by decide +kernel
theorem d_X_countLeads_47 : decode b_X_countLeads 47 = .ok (.ireturn, 1) := by decide +kernel
theorem d_X_drawnLead_0 : decode b_X_drawnLead 0 = .ok (.lconst 0, 1) := by decide +kernel
theorem d_X_drawnLead_1 : decode b_X_drawnLead 1 = .ok (.lstore_n 1, 1) := by decide +kernel
theorem d_X_drawnLead_2 : decode b_X_drawnLead 2 = .ok (.iconst 0, 1) := by decide +kernel
theorem d_X_drawnLead_3 : decode b_X_drawnLead 3 = .ok (.istore_n 3, 1) := by decide +kernel
theorem d_X_drawnLead_4 : decode b_X_drawnLead 4 = .ok (.iload_n 3, 1) := by decide +kernel
theorem d_X_drawnLead_5 : decode b_X_drawnLead 5 = .ok (.aload_n 0, 1) := by decide +kernel
theorem d_X_drawnLead_6 : decode b_X_drawnLead 6 = .ok (.getfield 44, 3) := by decide +kernel
theorem d_X_drawnLead_9 : decode b_X_drawnLead 9 = .ok (.if_icmp .ge 29, 3) := by decide +kernel
theorem d_X_drawnLead_12 : decode b_X_drawnLead 12 = .ok (.lload_n 1, 1) := by decide +kernel
theorem d_X_drawnLead_13 : decode b_X_drawnLead 13 = .ok (.aload_n 0, 1) := by decide +kernel
theorem d_X_drawnLead_14 : decode b_X_drawnLead 14 = .ok (.getfield 41, 3) := by decide +kernel
theorem d_X_drawnLead_17 : decode b_X_drawnLead 17 = .ok (.aload_n 0, 1) := by decide +kernel
theorem d_X_drawnLead_18 : decode b_X_drawnLead 18 = .ok (.getfield 50, 3) := by decide +kernel
theorem d_X_drawnLead_21 : decode b_X_drawnLead 21 = .ok (.aload_n 0, 1) := by decide +kernel
theorem d_X_drawnLead_22 : decode b_X_drawnLead 22 = .ok (.getfield 44, 3) := by decide +kernel
theorem d_X_drawnLead_25 : decode b_X_drawnLead 25 = .ok (.invokevirtual 221, 3) := by decide +kernel
theorem d_X_drawnLead_28 : decode b_X_drawnLead 28 = .ok (.iaload, 1) := by decide +kernel
theorem d_X_drawnLead_29 : decode b_X_drawnLead 29 = .ok (.i2l, 1) := by decide +kernel
theorem d_X_drawnLead_30 : decode b_X_drawnLead 30 = .ok (.ladd, 1) := by decide +kernel
theorem d_X_drawnLead_31 : decode b_X_drawnLead 31 = .ok (.lstore_n 1, 1) := by decide +kernel
theorem d_X_drawnLead_32 : decode b_X_drawnLead 32 = .ok (.iinc 3 1, 3) := by decide +kernel
theorem d_X_drawnLead_35 : decode b_X_drawnLead 35 = .ok (.goto (-31), 3) := by decide +kernel
theorem d_X_drawnLead_38 : decode b_X_drawnLead 38 = .ok (.lload_n 1, 1) := by decide +kernel
theorem d_X_drawnLead_39 : decode b_X_drawnLead 39 = .ok (.lreturn, 1) := by decide +kernel
theorem d_X_odds_0 : decode b_X_odds 0 = .ok (.lconst 1, 1) := by decide +kernel
theorem d_X_odds_1 : decode b_X_odds 1 = .ok (.lstore_n 3, 1) := by decide +kernel
theorem d_X_odds_2 : decode b_X_odds 2 = .ok (.lconst 1, 1) := by decide +kernel
theorem d_X_odds_3 : decode b_X_odds 3 = .ok (.lstore 5, 2) := by decide +kernel
theorem d_X_odds_5 : decode b_X_odds 5 = .ok (.iconst 1, 1) := by decide +kernel
theorem d_X_odds_6 : decode b_X_odds 6 = .ok (.istore 7, 2) := by decide +kernel
theorem d_X_odds_8 : decode b_X_odds 8 = .ok (.iload 7, 2) := by decide +kernel
theorem d_X_odds_10 : decode b_X_odds 10 = .ok (.iload_n 1, 1) := by decide +kernel
theorem d_X_odds_11 : decode b_X_odds 11 = .ok (.if_icmp .gt 29, 3) := by decide +kernel
theorem d_X_odds_14 : decode b_X_odds 14 = .ok (.lload_n 3, 1) := by decide +kernel
theorem d_X_odds_15 : decode b_X_odds 15 = .ok (.iload_n 0, 1) := by decide +kernel
theorem d_X_odds_16 : decode b_X_odds 16 = .ok (.iload 7, 2) := by decide +kernel
theorem d_X_odds_18 : decode b_X_odds 18 = .ok (.isub, 1) := by decide +kernel
theorem d_X_odds_19 : decode b_X_odds 19 = .ok (.iconst 1, 1) := by decide +kernel
theorem d_X_odds_20 : decode b_X_odds 20 = .ok (.iadd, 1) := by decide +kernel
theorem d_X_odds_21 : decode b_X_odds 21 = .ok (.i2l, 1) := by decide +kernel
theorem d_X_odds_22 : decode b_X_odds 22 = .ok (.lmul, 1) := by decide +kernel
theorem d_X_odds_23 : decode b_X_odds 23 = .ok (.iload 7, 2) := by decide +kernel
theorem d_X_odds_25 : decode b_X_odds 25 = .ok (.i2l, 1) := by decide +kernel
theorem d_X_odds_26 : decode b_X_odds 26 = .ok (.ldiv, 1) := by decide +kernel
theorem d_X_odds_27 : decode b_X_odds 27 = .ok (.lstore_n 3, 1) := by decide +kernel
theorem d_X_odds_28 : decode b_X_odds 28 = .ok (.lload 5, 2) := by decide +kernel
theorem d_X_odds_30 : decode b_X_odds 30 = .ok (.lload_n 3, 1) := by decide +kernel
theorem d_X_odds_31 : decode b_X_odds 31 = .ok (.ladd, 1) := by decide +kernel
theorem d_X_odds_32 : decode b_X_odds 32 = .ok (.lstore 5, 2) := by decide +kernel
theorem d_X_odds_34 : decode b_X_odds 34 = .ok (.iinc 7 1, 3) := by decide +kernel
theorem d_X_odds_37 : decode b_X_odds 37 = .ok (.goto (-29), 3) := by decide +kernel
theorem d_X_odds_40 : decode b_X_odds 40 = .ok (.lconst 1, 1) := by decide +kernel
theorem d_X_odds_41 : decode b_X_odds 41 = .ok (.iload_n 0, 1) := by decide +kernel
theorem d_X_odds_42 : decode b_X_odds 42 = .ok (.lshl, 1) := by decide +kernel
theorem d_X_odds_43 : decode b_X_odds 43 = .ok (.lstore 7, 2) := by decide +kernel
theorem d_X_odds_45 : decode b_X_odds 45 = .ok (.ldc2_w 248, 3) := by decide +kernel
theorem d_X_odds_48 : decode b_X_odds 48 = .ok (.lload 5, 2) := by decide +kernel
theorem d_X_odds_50 : decode b_X_odds 50 = .ok (.lmul, 1) := by decide +kernel
theorem d_X_odds_51 : decode b_X_odds 51 = .ok (.lload 7, 2) := by decide +kernel
theorem d_X_odds_53 : decode b_X_odds 53 = .ok (.invokestatic 250, 3) := by decide +kernel
theorem d_X_odds_56 : decode b_X_odds 56 = .ok (.lstore 9, 2) := by decide +kernel
theorem d_X_odds_58 : decode b_X_odds 58 = .ok (.iload_n 2, 1) := by decide +kernel
theorem d_X_odds_59 : decode b_X_odds 59 = .ok (.ifCond .eq 13, 3) := by decide +kernel
theorem d_X_odds_62 : decode b_X_odds 62 = .ok (.lload 9, 2) := by decide +kernel
theorem d_X_odds_64 : decode b_X_odds 64 = .ok (.lload 7, 2) := by decide +kernel
theorem d_X_odds_66 : decode b_X_odds 66 = .ok (.invokestatic 130, 3) := by decide +kernel
theorem d_X_odds_69 : decode b_X_odds 69 = .ok (.goto 10, 3) := by decide +kernel
theorem d_X_odds_72 : decode b_X_odds 72 = .ok (.lload 7, 2) := by decide +kernel
theorem d_X_odds_74 : decode b_X_odds 74 = .ok (.lload 9, 2) := by decide +kernel
theorem d_X_odds_76 : decode b_X_odds 76 = .ok (.invokestatic 130, 3) := by decide +kernel
theorem d_X_odds_79 : decode b_X_odds 79 = .ok (.lreturn, 1) := by decide +kernel
theorem d_X_inLowestTerms_0 : decode b_X_inLowestTerms 0 = .ok (.lload_n 0, 1) := by decide +kernel
theorem d_X_inLowestTerms_1 : decode b_X_inLowestTerms 1 = .ok (.lstore 4, 2) := by decide +kernel
theorem d_X_inLowestTerms_3 : decode b_X_inLowestTerms 3 = .ok (.lload_n 2, 1) := by decide +kernel
theorem d_X_inLowestTerms_4 : decode b_X_inLowestTerms 4 = .ok (.lstore 6, 2) := by decide +kernel
theorem d_X_inLowestTerms_6 : decode b_X_inLowestTerms 6 = .ok (.iconst 0, 1) := by decide +kernel
theorem d_X_inLowestTerms_7 : decode b_X_inLowestTerms 7 = .ok (.istore 8, 2) := by decide +kernel
theorem d_X_inLowestTerms_9 : decode b_X_inLowestTerms 9 = .ok (.iload 8, 2) := by decide +kernel
theorem d_X_inLowestTerms_11 : decode b_X_inLowestTerms 11 = .ok (.bipush 100, 2) := by decide +kernel
theorem d_X_inLowestTerms_13 : decode b_X_inLowestTerms 13 = .ok (.if_icmp .ge 31, 3) := by decide +kernel
theorem d_X_inLowestTerms_16 : decode b_X_inLowestTerms 16 = .ok (.lload 6, 2) := by decide +kernel
theorem d_X_inLowestTerms_18 : decode b_X_inLowestTerms 18 = .ok (.lconst 0, 1) := by decide +kernel
theorem d_X_inLowestTerms_19 : decode b_X_inLowestTerms 19 = .ok (.lcmp, 1) := by decide +kernel
theorem d_X_inLowestTerms_20 : decode b_X_inLowestTerms 20 = .ok (.ifCond .eq 24, 3) := by decide +kernel
theorem d_X_inLowestTerms_23 : decode b_X_inLowestTerms 23 = .ok (.lload 4, 2) := by decide +kernel
theorem d_X_inLowestTerms_25 : decode b_X_inLowestTerms 25 = .ok (.lload 6, 2) := by decide +kernel
theorem d_X_inLowestTerms_27 : decode b_X_inLowestTerms 27 = .ok (.lrem, 1) := by decide +kernel
theorem d_X_inLowestTerms_28 : decode b_X_inLowestTerms 28 = .ok (.lstore 9, 2) := by decide +kernel
theorem d_X_inLowestTerms_30 : decode b_X_inLowestTerms 30 = .ok (.lload 6, 2) := by decide +kernel
theorem d_X_inLowestTerms_32 : decode b_X_inLowestTerms 32 = .ok (.lstore 4, 2) := by decide +kernel
theorem d_X_inLowestTerms_34 : decode b_X_inLowestTerms 34 = .ok (.lload 9, 2) := by decide +kernel
theorem d_X_inLowestTerms_36 : decode b_X_inLowestTerms 36 = .ok (.lstore 6, 2) := by decide +kernel
theorem d_X_inLowestTerms_38 : decode b_X_inLowestTerms 38 = .ok (.iinc 8 1, 3) := by decide +kernel
theorem d_X_inLowestTerms_41 : decode b_X_inLowestTerms 41 = .ok (.goto (-32), 3) := by decide +kernel
theorem d_X_inLowestTerms_44 : decode b_X_inLowestTerms 44 = .ok (.lload 4, 2) := by decide +kernel
theorem d_X_inLowestTerms_46 : decode b_X_inLowestTerms 46 = .ok (.lconst 0, 1) := by decide +kernel
theorem d_X_inLowestTerms_47 : decode b_X_inLowestTerms 47 = .ok (.lcmp, 1) := by decide +kernel
theorem d_X_inLowestTerms_48 : decode b_X_inLowestTerms 48 = .ok (.ifCond .ne 7, 3) := by decide +kernel
theorem d_X_inLowestTerms_51 : decode b_X_inLowestTerms 51 = .ok (.lload_n 0, 1) := by decide +kernel
theorem d_X_inLowestTerms_52 : decode b_X_inLowestTerms 52 = .ok (.goto 7, 3) := by decide +kernel
theorem d_X_inLowestTerms_55 : decode b_X_inLowestTerms 55 = .ok (.lload_n 0, 1) := by decide +kernel
theorem d_X_inLowestTerms_56 : decode b_X_inLowestTerms 56 = .ok (.lload 4, 2) := by decide +kernel
theorem d_X_inLowestTerms_58 : decode b_X_inLowestTerms 58 = .ok (.ldiv, 1) := by decide +kernel
theorem d_X_inLowestTerms_59 : decode b_X_inLowestTerms 59 = .ok (.lreturn, 1) := by decide +kernel
theorem d_M_init_0 : decode b_M_init 0 = .ok (.aload_n 0, 1) := by decide +kernel
theorem d_M_init_1 : decode b_M_init 1 = .ok (.invokespecial 1, 3) := by decide +kernel
theorem d_M_init_4 : decode b_M_init 4 = .ok (.aload_n 0, 1) := by decide +kernel
theorem d_M_init_5 : decode b_M_init 5 = .ok (.sipush 192, 3) := by decide +kernel
theorem d_M_init_8 : decode b_M_init 8 = .ok (.newarray .int, 2) := by decide +kernel
theorem d_M_init_10 : decode b_M_init 10 = .ok (.putfield 7, 3) := by decide +kernel
theorem d_M_init_13 : decode b_M_init 13 = .ok (.aload_n 0, 1) := by decide +kernel
theorem d_M_init_14 : decode b_M_init 14 = .ok (.sipush 192, 3) := by decide +kernel
theorem d_M_init_17 : decode b_M_init 17 = .ok (.newarray .boolean, 2) := by decide +kernel
theorem d_M_init_19 : decode b_M_init 19 = .ok (.putfield 13, 3) := by decide +kernel
theorem d_M_init_22 : decode b_M_init 22 = .ok (.aload_n 0, 1) := by decide +kernel
theorem d_M_init_23 : decode b_M_init 23 = .ok (.sipush 1152, 3) := by decide +kernel
theorem d_M_init_26 : decode b_M_init 26 = .ok (.newarray .int, 2) := by decide +kernel
theorem d_M_init_28 : decode b_M_init 28 = .ok (.putfield 17, 3) := by decide +kernel
theorem d_M_init_31 : decode b_M_init 31 = .ok (.aload_n 0, 1) := by decide +kernel
theorem d_M_init_32 : decode b_M_init 32 = .ok (.sipush 1152, 3) := by decide +kernel
theorem d_M_init_35 : decode b_M_init 35 = .ok (.newarray .int, 2) := by decide +kernel
theorem d_M_init_37 : decode b_M_init 37 = .ok (.putfield 20, 3) := by decide +kernel
theorem d_M_init_40 : decode b_M_init 40 = .ok (.aload_n 0, 1) := by decide +kernel
theorem d_M_init_41 : decode b_M_init 41 = .ok (.sipush 192, 3) := by decide +kernel
theorem d_M_init_44 : decode b_M_init 44 = .ok (.newarray .int, 2) := by decide +kernel
theorem d_M_init_46 : decode b_M_init 46 = .ok (.putfield 23, 3) := by decide +kernel
theorem d_M_init_49 : decode b_M_init 49 = .ok (.aload_n 0, 1) := by decide +kernel
theorem d_M_init_50 : decode b_M_init 50 = .ok (.sipush 256, 3) := by decide +kernel
theorem d_M_init_53 : decode b_M_init 53 = .ok (.newarray .int, 2) := by decide +kernel
theorem d_M_init_55 : decode b_M_init 55 = .ok (.putfield 26, 3) := by decide +kernel
theorem d_M_init_58 : decode b_M_init 58 = .ok (.aload_n 0, 1) := by decide +kernel
theorem d_M_init_59 : decode b_M_init 59 = .ok (.bipush 6, 2) := by decide +kernel
theorem d_M_init_61 : decode b_M_init 61 = .ok (.newarray .int, 2) := by decide +kernel
theorem d_M_init_63 : decode b_M_init 63 = .ok (.putfield 29, 3) := by decide +kernel
theorem d_M_init_66 : decode b_M_init 66 = .ok (.aload_n 0, 1) := by decide +kernel
theorem d_M_init_67 : decode b_M_init 67 = .ok (.bipush 25, 2) := by decide +kernel
theorem d_M_init_69 : decode b_M_init 69 = .ok (.newarray .long, 2) := by decide +kernel
theorem d_M_init_71 : decode b_M_init 71 = .ok (.putfield 32, 3) := by decide +kernel
theorem d_M_init_74 : decode b_M_init 74 = .ok (.return_, 1) := by decide +kernel
theorem d_M_thrown_0 : decode b_M_thrown 0 = .ok (.aload_n 0, 1) := by decide +kernel
theorem d_M_thrown_1 : decode b_M_thrown 1 = .ok (.getfield 36, 3) := by decide +kernel
theorem d_M_thrown_4 : decode b_M_thrown 4 = .ok (.ireturn, 1) := by decide +kernel
theorem d_M_refuses_0 : decode b_M_refuses 0 = .ok (.aload_n 0, 1) := by decide +kernel
theorem d_M_refuses_1 : decode b_M_refuses 1 = .ok (.iload_n 1, 1) := by decide +kernel
theorem d_M_refuses_2 : decode b_M_refuses 2 = .ok (.putfield 36, 3) := by decide +kernel
theorem d_M_refuses_5 : decode b_M_refuses 5 = .ok (.iload_n 1, 1) := by decide +kernel
theorem d_M_refuses_6 : decode b_M_refuses 6 = .ok (.ifCond .le 7, 3) := by decide +kernel
theorem d_M_refuses_9 : decode b_M_refuses 9 = .ok (.iconst 1, 1) := by decide +kernel
theorem d_M_refuses_10 : decode b_M_refuses 10 = .ok (.goto 4, 3) := by decide +kernel
theorem d_M_refuses_13 : decode b_M_refuses 13 = .ok (.iconst 0, 1) := by decide +kernel
theorem d_M_refuses_14 : decode b_M_refuses 14 = .ok (.ireturn, 1) := by decide +kernel
theorem d_M_isIn_0 : decode b_M_isIn 0 = .ok (.lload_n 0, 1) := by decide +kernel
theorem d_M_isIn_1 : decode b_M_isIn 1 = .ok (.lload_n 2, 1) := by decide +kernel
theorem d_M_isIn_2 : decode b_M_isIn 2 = .ok (.lcmp, 1) := by decide +kernel
theorem d_M_isIn_3 : decode b_M_isIn 3 = .ok (.ifCond .lt 14, 3) := by decide +kernel
theorem d_M_isIn_6 : decode b_M_isIn 6 = .ok (.lload_n 0, 1) := by decide +kernel
theorem d_M_isIn_7 : decode b_M_isIn 7 = .ok (.lload 4, 2) := by decide +kernel
theorem d_M_isIn_9 : decode b_M_isIn 9 = .ok (.lcmp, 1) := by decide +kernel
theorem d_M_isIn_10 : decode b_M_isIn 10 = .ok (.ifCond .gt 7, 3) := by decide +kernel
theorem d_M_isIn_13 : decode b_M_isIn 13 = .ok (.iconst 1, 1) := by decide +kernel
theorem d_M_isIn_14 : decode b_M_isIn 14 = .ok (.goto 4, 3) := by decide +kernel
theorem d_M_isIn_17 : decode b_M_isIn 17 = .ok (.iconst 0, 1) := by decide +kernel
theorem d_M_isIn_18 : decode b_M_isIn 18 = .ok (.ireturn, 1) := by decide +kernel
theorem d_M_noCoder_0 : decode b_M_noCoder 0 = .ok (.iload_n 1, 1) := by decide +kernel
theorem d_M_noCoder_1 : decode b_M_noCoder 1 = .ok (.ifCond .lt 11, 3) := by decide +kernel
theorem d_M_noCoder_4 : decode b_M_noCoder 4 = .ok (.iload_n 1, 1) := by decide +kernel
theorem d_M_noCoder_5 : decode b_M_noCoder 5 = .ok (.aload_n 0, 1) := by decide +kernel
theorem d_M_noCoder_6 : decode b_M_noCoder 6 = .ok (.getfield 40, 3) := by decide +kernel
theorem d_M_noCoder_9 : decode b_M_noCoder 9 = .ok (.if_icmp .lt 7, 3) := by decide +kernel
theorem d_M_noCoder_12 : decode b_M_noCoder 12 = .ok (.iconst 1, 1) := by decide +kernel
theorem d_M_noCoder_13 : decode b_M_noCoder 13 = .ok (.goto 4, 3) := by decide +kernel
theorem d_M_noCoder_16 : decode b_M_noCoder 16 = .ok (.iconst 0, 1) := by decide +kernel
theorem d_M_noCoder_17 : decode b_M_noCoder 17 = .ok (.ireturn, 1) := by decide +kernel
theorem d_M_noPair_0 : decode b_M_noPair 0 = .ok (.aload_n 0, 1) := by decide +kernel
theorem d_M_noPair_1 : decode b_M_noPair 1 = .ok (.iload_n 1, 1) := by decide +kernel
theorem d_M_noPair_2 : decode b_M_noPair 2 = .ok (.invokevirtual 43, 3) := by decide +kernel
theorem d_M_noPair_5 : decode b_M_noPair 5 = .ok (.ifCond .ne 15, 3) := by decide +kernel
theorem d_M_noPair_8 : decode b_M_noPair 8 = .ok (.iload_n 2, 1) := by decide +kernel
theorem d_M_noPair_9 : decode b_M_noPair 9 = .ok (.ifCond .lt 11, 3) := by decide +kernel
theorem d_M_noPair_12 : decode b_M_noPair 12 = .ok (.iload_n 2, 1) := by decide +kernel
theorem d_M_noPair_13 : decode b_M_noPair 13 = .ok (.aload_n 0, 1) := by decide +kernel
theorem d_M_noPair_14 : decode b_M_noPair 14 = .ok (.getfield 47, 3) := by decide +kernel
theorem d_M_noPair_17 : decode b_M_noPair 17 = .ok (.if_icmp .lt 7, 3) := by decide +kernel
theorem d_M_noPair_20 : decode b_M_noPair 20 = .ok (.iconst 1, 1) := by decide +kernel
theorem d_M_noPair_21 : decode b_M_noPair 21 = .ok (.goto 4, 3) := by decide +kernel
theorem d_M_noPair_24 : decode b_M_noPair 24 = .ok (.iconst 0, 1) := by decide +kernel
theorem d_M_noPair_25 : decode b_M_noPair 25 = .ok (.ireturn, 1) := by decide +kernel
theorem d_M_coder_0 : decode b_M_coder 0 = .ok (.aload_n 0, 1) := by decide +kernel
theorem d_M_coder_1 : decode b_M_coder 1 = .ok (.aload_n 0, 1) := by decide +kernel
theorem d_M_coder_2 : decode b_M_coder 2 = .ok (.getfield 40, 3) := by decide +kernel
theorem d_M_coder_5 : decode b_M_coder 5 = .ok (.bipush 8, 2) := by decide +kernel
theorem d_M_coder_7 : decode b_M_coder 7 = .ok (.if_icmp .ne 7, 3) := by decide +kernel
theorem d_M_coder_10 : decode b_M_coder 10 = .ok (.iconst 1, 1) := by decide +kernel
theorem d_M_coder_11 : decode b_M_coder 11 = .ok (.goto 4, 3) := by decide +kernel
theorem d_M_coder_14 : decode b_M_coder 14 = .ok (.iconst 0, 1) := by decide +kernel
theorem d_M_coder_15 : decode b_M_coder 15 = .ok (.invokevirtual 50, 3) := by decide +kernel
end
section
theorem d_M_coder_18 : decode b_M_coder 18 = .ok (.ifCond .eq 5, 3) := by decide +kernel
theorem d_M_coder_21 : decode b_M_coder 21 = .ok (.iconst 0, 1) := by decide +kernel
theorem d_M_coder_22 : decode b_M_coder 22 = .ok (.ireturn, 1) := by decide +kernel
theorem d_M_coder_23 : decode b_M_coder 23 = .ok (.aload_n 0, 1) := by decide +kernel
theorem d_M_coder_24 : decode b_M_coder 24 = .ok (.dup, 1) := by decide +kernel
theorem d_M_coder_25 : decode b_M_coder 25 = .ok (.getfield 40, 3) := by decide +kernel
theorem d_M_coder_28 : decode b_M_coder 28 = .ok (.iconst 1, 1) := by decide +kernel
theorem d_M_coder_29 : decode b_M_coder 29 = .ok (.iadd, 1) := by decide +kernel
theorem d_M_coder_30 : decode b_M_coder 30 = .ok (.putfield 40, 3) := by decide +kernel
theorem d_M_coder_33 : decode b_M_coder 33 = .ok (.aload_n 0, 1) := by decide +kernel
theorem d_M_coder_34 : decode b_M_coder 34 = .ok (.getfield 40, 3) := by decide +kernel
theorem d_M_coder_37 : decode b_M_coder 37 = .ok (.iconst 1, 1) := by decide +kernel
theorem d_M_coder_38 : decode b_M_coder 38 = .ok (.isub, 1) := by decide +kernel
theorem d_M_coder_39 : decode b_M_coder 39 = .ok (.ireturn, 1) := by decide +kernel
theorem d_M_picture_0 : decode b_M_picture 0 = .ok (.aload_n 0, 1) := by decide +kernel
theorem d_M_picture_1 : decode b_M_picture 1 = .ok (.aload_n 0, 1) := by decide +kernel
theorem d_M_picture_2 : decode b_M_picture 2 = .ok (.getfield 47, 3) := by decide +kernel
theorem d_M_picture_5 : decode b_M_picture 5 = .ok (.bipush 24, 2) := by decide +kernel
theorem d_M_picture_7 : decode b_M_picture 7 = .ok (.if_icmp .ne 7, 3) := by decide +kernel
theorem d_M_picture_10 : decode b_M_picture 10 = .ok (.iconst 1, 1) := by decide +kernel
theorem d_M_picture_11 : decode b_M_picture 11 = .ok (.goto 4, 3) := by decide +kernel
theorem d_M_picture_14 : decode b_M_picture 14 = .ok (.iconst 0, 1) := by decide +kernel
theorem d_M_picture_15 : decode b_M_picture 15 = .ok (.invokevirtual 50, 3) := by decide +kernel
theorem d_M_picture_18 : decode b_M_picture 18 = .ok (.ifCond .eq 5, 3) := by decide +kernel
theorem d_M_picture_21 : decode b_M_picture 21 = .ok (.iconst 0, 1) := by decide +kernel
theorem d_M_picture_22 : decode b_M_picture 22 = .ok (.ireturn, 1) := by decide +kernel
theorem d_M_picture_23 : decode b_M_picture 23 = .ok (.aload_n 0, 1) := by decide +kernel
theorem d_M_picture_24 : decode b_M_picture 24 = .ok (.dup, 1) := by decide +kernel
theorem d_M_picture_25 : decode b_M_picture 25 = .ok (.getfield 47, 3) := by decide +kernel
theorem d_M_picture_28 : decode b_M_picture 28 = .ok (.iconst 1, 1) := by decide +kernel
theorem d_M_picture_29 : decode b_M_picture 29 = .ok (.iadd, 1) := by decide +kernel
theorem d_M_picture_30 : decode b_M_picture 30 = .ok (.putfield 47, 3) := by decide +kernel
theorem d_M_picture_33 : decode b_M_picture 33 = .ok (.aload_n 0, 1) := by decide +kernel
theorem d_M_picture_34 : decode b_M_picture 34 = .ok (.getfield 47, 3) := by decide +kernel
theorem d_M_picture_37 : decode b_M_picture 37 = .ok (.iconst 1, 1) := by decide +kernel
theorem d_M_picture_38 : decode b_M_picture 38 = .ok (.isub, 1) := by decide +kernel
theorem d_M_picture_39 : decode b_M_picture 39 = .ok (.ireturn, 1) := by decide +kernel
theorem d_M_add_0 : decode b_M_add 0 = .ok (.aload_n 0, 1) := by decide +kernel
theorem d_M_add_1 : decode b_M_add 1 = .ok (.getfield 17, 3) := by decide +kernel
theorem d_M_add_4 : decode b_M_add 4 = .ok (.bipush 6, 2) := by decide +kernel
theorem d_M_add_6 : decode b_M_add 6 = .ok (.iload_n 1, 1) := by decide +kernel
theorem d_M_add_7 : decode b_M_add 7 = .ok (.imul, 1) := by decide +kernel
theorem d_M_add_8 : decode b_M_add 8 = .ok (.aload_n 0, 1) := by decide +kernel
theorem d_M_add_9 : decode b_M_add 9 = .ok (.getfield 7, 3) := by decide +kernel
theorem d_M_add_12 : decode b_M_add 12 = .ok (.iload_n 1, 1) := by decide +kernel
theorem d_M_add_13 : decode b_M_add 13 = .ok (.iaload, 1) := by decide +kernel
theorem d_M_add_14 : decode b_M_add 14 = .ok (.iadd, 1) := by decide +kernel
theorem d_M_add_15 : decode b_M_add 15 = .ok (.iload_n 2, 1) := by decide +kernel
theorem d_M_add_16 : decode b_M_add 16 = .ok (.iastore, 1) := by decide +kernel
theorem d_M_add_17 : decode b_M_add 17 = .ok (.aload_n 0, 1) := by decide +kernel
theorem d_M_add_18 : decode b_M_add 18 = .ok (.getfield 20, 3) := by decide +kernel
theorem d_M_add_21 : decode b_M_add 21 = .ok (.bipush 6, 2) := by decide +kernel
theorem d_M_add_23 : decode b_M_add 23 = .ok (.iload_n 1, 1) := by decide +kernel
theorem d_M_add_24 : decode b_M_add 24 = .ok (.imul, 1) := by decide +kernel
theorem d_M_add_25 : decode b_M_add 25 = .ok (.aload_n 0, 1) := by decide +kernel
theorem d_M_add_26 : decode b_M_add 26 = .ok (.getfield 7, 3) := by decide +kernel
theorem d_M_add_29 : decode b_M_add 29 = .ok (.iload_n 1, 1) := by decide +kernel
theorem d_M_add_30 : decode b_M_add 30 = .ok (.iaload, 1) := by decide +kernel
theorem d_M_add_31 : decode b_M_add 31 = .ok (.iadd, 1) := by decide +kernel
theorem d_M_add_32 : decode b_M_add 32 = .ok (.iload_n 3, 1) := by decide +kernel
theorem d_M_add_33 : decode b_M_add 33 = .ok (.iastore, 1) := by decide +kernel
theorem d_M_add_34 : decode b_M_add 34 = .ok (.aload_n 0, 1) := by decide +kernel
theorem d_M_add_35 : decode b_M_add 35 = .ok (.getfield 7, 3) := by decide +kernel
theorem d_M_add_38 : decode b_M_add 38 = .ok (.iload_n 1, 1) := by decide +kernel
theorem d_M_add_39 : decode b_M_add 39 = .ok (.dup2, 1) := by decide +kernel
theorem d_M_add_40 : decode b_M_add 40 = .ok (.iaload, 1) := by decide +kernel
theorem d_M_add_41 : decode b_M_add 41 = .ok (.iconst 1, 1) := by decide +kernel
theorem d_M_add_42 : decode b_M_add 42 = .ok (.iadd, 1) := by decide +kernel
theorem d_M_add_43 : decode b_M_add 43 = .ok (.iastore, 1) := by decide +kernel
theorem d_M_add_44 : decode b_M_add 44 = .ok (.return_, 1) := by decide +kernel
theorem d_M_point_0 : decode b_M_point 0 = .ok (.aload_n 0, 1) := by decide +kernel
theorem d_M_point_1 : decode b_M_point 1 = .ok (.iload_n 1, 1) := by decide +kernel
theorem d_M_point_2 : decode b_M_point 2 = .ok (.iload_n 2, 1) := by decide +kernel
theorem d_M_point_3 : decode b_M_point 3 = .ok (.invokevirtual 53, 3) := by decide +kernel
theorem d_M_point_6 : decode b_M_point 6 = .ok (.istore 5, 2) := by decide +kernel
theorem d_M_point_8 : decode b_M_point 8 = .ok (.iload 5, 2) := by decide +kernel
theorem d_M_point_10 : decode b_M_point 10 = .ok (.ifCond .eq 7, 3) := by decide +kernel
theorem d_M_point_13 : decode b_M_point 13 = .ok (.iconst 0, 1) := by decide +kernel
theorem d_M_point_14 : decode b_M_point 14 = .ok (.goto 9, 3) := by decide +kernel
theorem d_M_point_17 : decode b_M_point 17 = .ok (.bipush 24, 2) := by decide +kernel
theorem d_M_point_19 : decode b_M_point 19 = .ok (.iload_n 1, 1) := by decide +kernel
theorem d_M_point_20 : decode b_M_point 20 = .ok (.imul, 1) := by decide +kernel
theorem d_M_point_21 : decode b_M_point 21 = .ok (.iload_n 2, 1) := by decide +kernel
theorem d_M_point_22 : decode b_M_point 22 = .ok (.iadd, 1) := by decide +kernel
theorem d_M_point_23 : decode b_M_point 23 = .ok (.istore 6, 2) := by decide +kernel
theorem d_M_point_25 : decode b_M_point 25 = .ok (.aload_n 0, 1) := by decide +kernel
theorem d_M_point_26 : decode b_M_point 26 = .ok (.iload 5, 2) := by decide +kernel
theorem d_M_point_28 : decode b_M_point 28 = .ok (.ifCond .eq 7, 3) := by decide +kernel
theorem d_M_point_31 : decode b_M_point 31 = .ok (.iconst 1, 1) := by decide +kernel
theorem d_M_point_32 : decode b_M_point 32 = .ok (.goto 63, 3) := by decide +kernel
theorem d_M_point_35 : decode b_M_point 35 = .ok (.iload_n 3, 1) := by decide +kernel
theorem d_M_point_36 : decode b_M_point 36 = .ok (.i2l, 1) := by decide +kernel
theorem d_M_point_37 : decode b_M_point 37 = .ok (.lconst 1, 1) := by decide +kernel
theorem d_M_point_38 : decode b_M_point 38 = .ok (.ldc2_w 57, 3) := by decide +kernel
theorem d_M_point_41 : decode b_M_point 41 = .ok (.invokestatic 59, 3) := by decide +kernel
theorem d_M_point_44 : decode b_M_point 44 = .ok (.ifCond .eq 16, 3) := by decide +kernel
theorem d_M_point_47 : decode b_M_point 47 = .ok (.iload 4, 2) := by decide +kernel
theorem d_M_point_49 : decode b_M_point 49 = .ok (.i2l, 1) := by decide +kernel
theorem d_M_point_50 : decode b_M_point 50 = .ok (.lconst 0, 1) := by decide +kernel
theorem d_M_point_51 : decode b_M_point 51 = .ok (.ldc2_w 57, 3) := by decide +kernel
theorem d_M_point_54 : decode b_M_point 54 = .ok (.invokestatic 59, 3) := by decide +kernel
theorem d_M_point_57 : decode b_M_point 57 = .ok (.ifCond .ne 7, 3) := by decide +kernel
theorem d_M_point_60 : decode b_M_point 60 = .ok (.iconst 2, 1) := by decide +kernel
theorem d_M_point_61 : decode b_M_point 61 = .ok (.goto 34, 3) := by decide +kernel
theorem d_M_point_64 : decode b_M_point 64 = .ok (.aload_n 0, 1) := by decide +kernel
theorem d_M_point_65 : decode b_M_point 65 = .ok (.getfield 13, 3) := by decide +kernel
theorem d_M_point_68 : decode b_M_point 68 = .ok (.iload 6, 2) := by decide +kernel
theorem d_M_point_70 : decode b_M_point 70 = .ok (.baload, 1) := by decide +kernel
theorem d_M_point_71 : decode b_M_point 71 = .ok (.ifCond .eq 7, 3) := by decide +kernel
theorem d_M_point_74 : decode b_M_point 74 = .ok (.iconst 3, 1) := by decide +kernel
theorem d_M_point_75 : decode b_M_point 75 = .ok (.goto 20, 3) := by decide +kernel
theorem d_M_point_78 : decode b_M_point 78 = .ok (.aload_n 0, 1) := by decide +kernel
theorem d_M_point_79 : decode b_M_point 79 = .ok (.getfield 7, 3) := by decide +kernel
theorem d_M_point_82 : decode b_M_point 82 = .ok (.iload 6, 2) := by decide +kernel
theorem d_M_point_84 : decode b_M_point 84 = .ok (.iaload, 1) := by decide +kernel
theorem d_M_point_85 : decode b_M_point 85 = .ok (.bipush 6, 2) := by decide +kernel
theorem d_M_point_87 : decode b_M_point 87 = .ok (.if_icmp .ne 7, 3) := by decide +kernel
theorem d_M_point_90 : decode b_M_point 90 = .ok (.iconst 4, 1) := by decide +kernel
theorem d_M_point_91 : decode b_M_point 91 = .ok (.goto 4, 3) := by decide +kernel
theorem d_M_point_94 : decode b_M_point 94 = .ok (.iconst 0, 1) := by decide +kernel
theorem d_M_point_95 : decode b_M_point 95 = .ok (.invokevirtual 50, 3) := by decide +kernel
theorem d_M_point_98 : decode b_M_point 98 = .ok (.ifCond .eq 5, 3) := by decide +kernel
theorem d_M_point_101 : decode b_M_point 101 = .ok (.iconst 0, 1) := by decide +kernel
theorem d_M_point_102 : decode b_M_point 102 = .ok (.ireturn, 1) := by decide +kernel
theorem d_M_point_103 : decode b_M_point 103 = .ok (.aload_n 0, 1) := by decide +kernel
theorem d_M_point_104 : decode b_M_point 104 = .ok (.iload 6, 2) := by decide +kernel
theorem d_M_point_106 : decode b_M_point 106 = .ok (.iload_n 3, 1) := by decide +kernel
theorem d_M_point_107 : decode b_M_point 107 = .ok (.iload 4, 2) := by decide +kernel
theorem d_M_point_109 : decode b_M_point 109 = .ok (.invokevirtual 63, 3) := by decide +kernel
theorem d_M_point_112 : decode b_M_point 112 = .ok (.aload_n 0, 1) := by decide +kernel
theorem d_M_point_113 : decode b_M_point 113 = .ok (.getfield 7, 3) := by decide +kernel
theorem d_M_point_116 : decode b_M_point 116 = .ok (.iload 6, 2) := by decide +kernel
theorem d_M_point_118 : decode b_M_point 118 = .ok (.iaload, 1) := by decide +kernel
theorem d_M_point_119 : decode b_M_point 119 = .ok (.ireturn, 1) := by decide +kernel
theorem d_M_fail_0 : decode b_M_fail 0 = .ok (.aload_n 0, 1) := by decide +kernel
theorem d_M_fail_1 : decode b_M_fail 1 = .ok (.getfield 13, 3) := by decide +kernel
theorem d_M_fail_4 : decode b_M_fail 4 = .ok (.iload_n 1, 1) := by decide +kernel
theorem d_M_fail_5 : decode b_M_fail 5 = .ok (.iconst 1, 1) := by decide +kernel
theorem d_M_fail_6 : decode b_M_fail 6 = .ok (.bastore, 1) := by decide +kernel
theorem d_M_fail_7 : decode b_M_fail 7 = .ok (.aload_n 0, 1) := by decide +kernel
theorem d_M_fail_8 : decode b_M_fail 8 = .ok (.getfield 7, 3) := by decide +kernel
theorem d_M_fail_11 : decode b_M_fail 11 = .ok (.iload_n 1, 1) := by decide +kernel
theorem d_M_fail_12 : decode b_M_fail 12 = .ok (.iconst 0, 1) := by decide +kernel
theorem d_M_fail_13 : decode b_M_fail 13 = .ok (.iastore, 1) := by decide +kernel
theorem d_M_fail_14 : decode b_M_fail 14 = .ok (.aload_n 0, 1) := by decide +kernel
theorem d_M_fail_15 : decode b_M_fail 15 = .ok (.getfield 23, 3) := by decide +kernel
theorem d_M_fail_18 : decode b_M_fail 18 = .ok (.aload_n 0, 1) := by decide +kernel
theorem d_M_fail_19 : decode b_M_fail 19 = .ok (.getfield 67, 3) := by decide +kernel
theorem d_M_fail_22 : decode b_M_fail 22 = .ok (.iload_n 1, 1) := by decide +kernel
theorem d_M_fail_23 : decode b_M_fail 23 = .ok (.iastore, 1) := by decide +kernel
theorem d_M_fail_24 : decode b_M_fail 24 = .ok (.aload_n 0, 1) := by decide +kernel
theorem d_M_fail_25 : decode b_M_fail 25 = .ok (.dup, 1) := by decide +kernel
theorem d_M_fail_26 : decode b_M_fail 26 = .ok (.getfield 67, 3) := by decide +kernel
theorem d_M_fail_29 : decode b_M_fail 29 = .ok (.iconst 1, 1) := by decide +kernel
theorem d_M_fail_30 : decode b_M_fail 30 = .ok (.iadd, 1) := by decide +kernel
theorem d_M_fail_31 : decode b_M_fail 31 = .ok (.putfield 67, 3) := by decide +kernel
theorem d_M_fail_34 : decode b_M_fail 34 = .ok (.return_, 1) := by decide +kernel
theorem d_M_fails_0 : decode b_M_fails 0 = .ok (.aload_n 0, 1) := by decide +kernel
theorem d_M_fails_1 : decode b_M_fails 1 = .ok (.iload_n 1, 1) := by decide +kernel
theorem d_M_fails_2 : decode b_M_fails 2 = .ok (.iload_n 2, 1) := by decide +kernel
theorem d_M_fails_3 : decode b_M_fails 3 = .ok (.invokevirtual 53, 3) := by decide +kernel
theorem d_M_fails_6 : decode b_M_fails 6 = .ok (.istore_n 3, 1) := by decide +kernel
theorem d_M_fails_7 : decode b_M_fails 7 = .ok (.iload_n 3, 1) := by decide +kernel
theorem d_M_fails_8 : decode b_M_fails 8 = .ok (.ifCond .eq 7, 3) := by decide +kernel
theorem d_M_fails_11 : decode b_M_fails 11 = .ok (.iconst 0, 1) := by decide +kernel
theorem d_M_fails_12 : decode b_M_fails 12 = .ok (.goto 9, 3) := by decide +kernel
theorem d_M_fails_15 : decode b_M_fails 15 = .ok (.bipush 24, 2) := by decide +kernel
theorem d_M_fails_17 : decode b_M_fails 17 = .ok (.iload_n 1, 1) := by decide +kernel
theorem d_M_fails_18 : decode b_M_fails 18 = .ok (.imul, 1) := by decide +kernel
theorem d_M_fails_19 : decode b_M_fails 19 = .ok (.iload_n 2, 1) := by decide +kernel
theorem d_M_fails_20 : decode b_M_fails 20 = .ok (.iadd, 1) := by decide +kernel
theorem d_M_fails_21 : decode b_M_fails 21 = .ok (.istore 4, 2) := by decide +kernel
theorem d_M_fails_23 : decode b_M_fails 23 = .ok (.aload_n 0, 1) := by decide +kernel
theorem d_M_fails_24 : decode b_M_fails 24 = .ok (.iload_n 3, 1) := by decide +kernel
theorem d_M_fails_25 : decode b_M_fails 25 = .ok (.ifCond .eq 7, 3) := by decide +kernel
theorem d_M_fails_28 : decode b_M_fails 28 = .ok (.iconst 1, 1) := by decide +kernel
theorem d_M_fails_29 : decode b_M_fails 29 = .ok (.goto 18, 3) := by decide +kernel
theorem d_M_fails_32 : decode b_M_fails 32 = .ok (.aload_n 0, 1) := by decide +kernel
theorem d_M_fails_33 : decode b_M_fails 33 = .ok (.getfield 13, 3) := by decide +kernel
theorem d_M_fails_36 : decode b_M_fails 36 = .ok (.iload 4, 2) := by decide +kernel
theorem d_M_fails_38 : decode b_M_fails 38 = .ok (.baload, 1) := by decide +kernel
theorem d_M_fails_39 : decode b_M_fails 39 = .ok (.ifCond .eq 7, 3) := by decide +kernel
theorem d_M_fails_42 : decode b_M_fails 42 = .ok (.iconst 2, 1) := by decide +kernel
theorem d_M_fails_43 : decode b_M_fails 43 = .ok (.goto 4, 3) := by decide +kernel
theorem d_M_fails_46 : decode b_M_fails 46 = .ok (.iconst 0, 1) := by decide +kernel
theorem d_M_fails_47 : decode b_M_fails 47 = .ok (.invokevirtual 50, 3) := by decide +kernel
theorem d_M_fails_50 : decode b_M_fails 50 = .ok (.ifCond .eq 5, 3) := by decide +kernel
theorem d_M_fails_53 : decode b_M_fails 53 = .ok (.iconst 0, 1) := by decide +kernel
theorem d_M_fails_54 : decode b_M_fails 54 = .ok (.ireturn, 1) := by decide +kernel
theorem d_M_fails_55 : decode b_M_fails 55 = .ok (.aload_n 0, 1) := by decide +kernel
theorem d_M_fails_56 : decode b_M_fails 56 = .ok (.getfield 7, 3) := by decide +kernel
theorem d_M_fails_59 : decode b_M_fails 59 = .ok (.iload 4, 2) := by decide +kernel
theorem d_M_fails_61 : decode b_M_fails 61 = .ok (.iaload, 1) := by decide +kernel
theorem d_M_fails_62 : decode b_M_fails 62 = .ok (.istore 5, 2) := by decide +kernel
theorem d_M_fails_64 : decode b_M_fails 64 = .ok (.aload_n 0, 1) := by decide +kernel
theorem d_M_fails_65 : decode b_M_fails 65 = .ok (.iload 4, 2) := by decide +kernel
theorem d_M_fails_67 : decode b_M_fails 67 = .ok (.invokevirtual 70, 3) := by decide +kernel
theorem d_M_fails_70 : decode b_M_fails 70 = .ok (.iload 5, 2) := by decide +kernel
theorem d_M_fails_72 : decode b_M_fails 72 = .ok (.ireturn, 1) := by decide +kernel
theorem d_M_failed_0 : decode b_M_failed 0 = .ok (.aload_n 0, 1) := by decide +kernel
theorem d_M_failed_1 : decode b_M_failed 1 = .ok (.iconst 0, 1) := by decide +kernel
theorem d_M_failed_2 : decode b_M_failed 2 = .ok (.putfield 36, 3) := by decide +kernel
theorem d_M_failed_5 : decode b_M_failed 5 = .ok (.aload_n 0, 1) := by decide +kernel
theorem d_M_failed_6 : decode b_M_failed 6 = .ok (.getfield 67, 3) := by decide +kernel
theorem d_M_failed_9 : decode b_M_failed 9 = .ok (.ireturn, 1) := by decide +kernel
theorem d_M_failing_0 : decode b_M_failing 0 = .ok (.aload_n 0, 1) := by decide +kernel
theorem d_M_failing_1 : decode b_M_failing 1 = .ok (.iload_n 1, 1) := by decide +kernel
theorem d_M_failing_2 : decode b_M_failing 2 = .ok (.ifCond .lt 11, 3) := by decide +kernel
theorem d_M_failing_5 : decode b_M_failing 5 = .ok (.iload_n 1, 1) := by decide +kernel
theorem d_M_failing_6 : decode b_M_failing 6 = .ok (.aload_n 0, 1) := by decide +kernel
theorem d_M_failing_7 : decode b_M_failing 7 = .ok (.getfield 67, 3) := by decide +kernel
theorem d_M_failing_10 : decode b_M_failing 10 = .ok (.if_icmp .lt 7, 3) := by decide +kernel
theorem d_M_failing_13 : decode b_M_failing 13 = .ok (.iconst 1, 1) := by decide +kernel
theorem d_M_failing_14 : decode b_M_failing 14 = .ok (.goto 17, 3) := by decide +kernel
theorem d_M_failing_17 : decode b_M_failing 17 = .ok (.iload_n 2, 1) := by decide +kernel
theorem d_M_failing_18 : decode b_M_failing 18 = .ok (.ifCond .eq 12, 3) := by decide +kernel
theorem d_M_failing_21 : decode b_M_failing 21 = .ok (.iload_n 2, 1) := by decide +kernel
theorem d_M_failing_22 : decode b_M_failing 22 = .ok (.iconst 1, 1) := by decide +kernel
theorem d_M_failing_23 : decode b_M_failing 23 = .ok (.if_icmp .eq 7, 3) := by decide +kernel
theorem d_M_failing_26 : decode b_M_failing 26 = .ok (.iconst 2, 1) := by decide +kernel
theorem d_M_failing_27 : decode b_M_failing 27 = .ok (.goto 4, 3) := by decide +kernel
theorem d_M_failing_30 : decode b_M_failing 30 = .ok (.iconst 0, 1) := by decide +kernel
theorem d_M_failing_31 : decode b_M_failing 31 = .ok (.invokevirtual 50, 3) := by decide +kernel
theorem d_M_failing_34 : decode b_M_failing 34 = .ok (.ifCond .eq 5, 3) := by decide +kernel
theorem d_M_failing_37 : decode b_M_failing 37 = .ok (.iconst 0, 1) := by decide +kernel
theorem d_M_failing_38 : decode b_M_failing 38 = .ok (.ireturn, 1) := by decide +kernel
theorem d_M_failing_39 : decode b_M_failing 39 = .ok (.iload_n 2, 1) := by decide +kernel
theorem d_M_failing_40 : decode b_M_failing 40 = .ok (.ifCond .ne 15, 3) := by decide +kernel
theorem d_M_failing_43 : decode b_M_failing 43 = .ok (.aload_n 0, 1) := by decide +kernel
theorem d_M_failing_44 : decode b_M_failing 44 = .ok (.getfield 23, 3) := by decide +kernel
theorem d_M_failing_47 : decode b_M_failing 47 = .ok (.iload_n 1, 1) := by decide +kernel
theorem d_M_failing_48 : decode b_M_failing 48 = .ok (.iaload, 1) := by decide +kernel
theorem d_M_failing_49 : decode b_M_failing 49 = .ok (.bipush 24, 2) := by decide +kernel
theorem d_M_failing_51 : decode b_M_failing 51 = .ok (.idiv, 1) := by decide +kernel
theorem d_M_failing_52 : decode b_M_failing 52 = .ok (.goto 12, 3) := by decide +kernel
theorem d_M_failing_55 : decode b_M_failing 55 = .ok (.aload_n 0, 1) := by decide +kernel
theorem d_M_failing_56 : decode b_M_failing 56 = .ok (.getfield 23, 3) := by decide +kernel
theorem d_M_failing_59 : decode b_M_failing 59 = .ok (.iload_n 1, 1) := by decide +kernel
theorem d_M_failing_60 : decode b_M_failing 60 = .ok (.iaload, 1) := by decide +kernel
theorem d_M_failing_61 : decode b_M_failing 61 = .ok (.bipush 24, 2) := by decide +kernel
theorem d_M_failing_63 : decode b_M_failing 63 = .ok (.irem, 1) := by decide +kernel
theorem d_M_failing_64 : decode b_M_failing 64 = .ok (.ireturn, 1) := by decide +kernel
theorem d_M_least_0 : decode b_M_least 0 = .ok (.aload_n 0, 1) := by decide +kernel
theorem d_M_least_1 : decode b_M_least 1 = .ok (.iload_n 1, 1) := by decide +kernel
theorem d_M_least_2 : decode b_M_least 2 = .ok (.ifCond .lt 11, 3) := by decide +kernel
theorem d_M_least_5 : decode b_M_least 5 = .ok (.iload_n 1, 1) := by decide +kernel
theorem d_M_least_6 : decode b_M_least 6 = .ok (.aload_n 0, 1) := by decide +kernel
theorem d_M_least_7 : decode b_M_least 7 = .ok (.getfield 47, 3) := by decide +kernel
theorem d_M_least_10 : decode b_M_least 10 = .ok (.if_icmp .lt 7, 3) := by decide +kernel
theorem d_M_least_13 : decode b_M_least 13 = .ok (.iconst 1, 1) := by decide +kernel
theorem d_M_least_14 : decode b_M_least 14 = .ok (.goto 12, 3) := by decide +kernel
theorem d_M_least_17 : decode b_M_least 17 = .ok (.iload_n 2, 1) := by decide +kernel
theorem d_M_least_18 : decode b_M_least 18 = .ok (.ifCond .ge 7, 3) := by decide +kernel
theorem d_M_least_21 : decode b_M_least 21 = .ok (.iconst 2, 1) := by decide +kernel
theorem d_M_least_22 : decode b_M_least 22 = .ok (.goto 4, 3) := by decide +kernel
theorem d_M_least_25 : decode b_M_least 25 = .ok (.iconst 0, 1) := by decide +kernel
theorem d_M_least_26 : decode b_M_least 26 = .ok (.invokevirtual 50, 3) := by decide +kernel
theorem d_M_least_29 : decode b_M_least 29 = .ok (.ifCond .eq 5, 3) := by decide +kernel
theorem d_M_least_32 : decode b_M_least 32 = .ok (.iconst 0, 1) := by decide +kernel
theorem d_M_least_33 : decode b_M_least 33 = .ok (.ireturn, 1) := by decide +kernel
theorem d_M_least_34 : decode b_M_least 34 = .ok (.iconst (-1), 1) := by decide +kernel
theorem d_M_least_35 : decode b_M_least 35 = .ok (.istore_n 3, 1) := by decide +kernel
theorem d_M_least_36 : decode b_M_least 36 = .ok (.iconst 0, 1) := by decide +kernel
theorem d_M_least_37 : decode b_M_least 37 = .ok (.istore 4, 2) := by decide +kernel
theorem d_M_least_39 : decode b_M_least 39 = .ok (.iconst 0, 1) := by decide +kernel
theorem d_M_least_40 : decode b_M_least 40 = .ok (.istore 5, 2) := by decide +kernel
theorem d_M_least_42 : decode b_M_least 42 = .ok (.iload 5, 2) := by decide +kernel
theorem d_M_least_44 : decode b_M_least 44 = .ok (.aload_n 0, 1) := by decide +kernel
theorem d_M_least_45 : decode b_M_least 45 = .ok (.getfield 40, 3) := by decide +kernel
theorem d_M_least_48 : decode b_M_least 48 = .ok (.if_icmp .ge 89, 3) := by decide +kernel
theorem d_M_least_51 : decode b_M_least 51 = .ok (.bipush 24, 2) := by decide +kernel
theorem d_M_least_53 : decode b_M_least 53 = .ok (.iload 5, 2) := by decide +kernel
theorem d_M_least_55 : decode b_M_least 55 = .ok (.imul, 1) := by decide +kernel
theorem d_M_least_56 : decode b_M_least 56 = .ok (.iload_n 1, 1) := by decide +kernel
theorem d_M_least_57 : decode b_M_least 57 = .ok (.iadd, 1) := by decide +kernel
theorem d_M_least_58 : decode b_M_least 58 = .ok (.istore 6, 2) := by decide +kernel
theorem d_M_least_60 : decode b_M_least 60 = .ok (.bipush 6, 2) := by decide +kernel
theorem d_M_least_62 : decode b_M_least 62 = .ok (.iload 6, 2) := by decide +kernel
theorem d_M_least_64 : decode b_M_least 64 = .ok (.imul, 1) := by decide +kernel
theorem d_M_least_65 : decode b_M_least 65 = .ok (.istore 7, 2) := by decide +kernel
theorem d_M_least_67 : decode b_M_least 67 = .ok (.iload 7, 2) := by decide +kernel
theorem d_M_least_69 : decode b_M_least 69 = .ok (.bipush 6, 2) := by decide +kernel
theorem d_M_least_71 : decode b_M_least 71 = .ok (.iload 6, 2) := by decide +kernel
theorem d_M_least_73 : decode b_M_least 73 = .ok (.imul, 1) := by decide +kernel
theorem d_M_least_74 : decode b_M_least 74 = .ok (.aload_n 0, 1) := by decide +kernel
theorem d_M_least_75 : decode b_M_least 75 = .ok (.getfield 7, 3) := by decide +kernel
theorem d_M_least_78 : decode b_M_least 78 = .ok (.iload 6, 2) := by decide +kernel
theorem d_M_least_80 : decode b_M_least 80 = .ok (.iaload, 1) := by decide +kernel
theorem d_M_least_81 : decode b_M_least 81 = .ok (.iadd, 1) := by decide +kernel
theorem d_M_least_82 : decode b_M_least 82 = .ok (.if_icmp .ge 49, 3) := by decide +kernel
theorem d_M_least_85 : decode b_M_least 85 = .ok (.aload_n 0, 1) := by decide +kernel
theorem d_M_least_86 : decode b_M_least 86 = .ok (.getfield 20, 3) := by decide +kernel
theorem d_M_least_89 : decode b_M_least 89 = .ok (.iload 7, 2) := by decide +kernel
theorem d_M_least_91 : decode b_M_least 91 = .ok (.iaload, 1) := by decide +kernel
theorem d_M_least_92 : decode b_M_least 92 = .ok (.iload_n 2, 1) := by decide +kernel
theorem d_M_least_93 : decode b_M_least 93 = .ok (.if_icmp .gt 32, 3) := by decide +kernel
theorem d_M_least_96 : decode b_M_least 96 = .ok (.iload_n 3, 1) := by decide +kernel
theorem d_M_least_97 : decode b_M_least 97 = .ok (.iconst (-1), 1) := by decide +kernel
theorem d_M_least_98 : decode b_M_least 98 = .ok (.if_icmp .eq 15, 3) := by decide +kernel
theorem d_M_least_101 : decode b_M_least 101 = .ok (.aload_n 0, 1) := by decide +kernel
theorem d_M_least_102 : decode b_M_least 102 = .ok (.getfield 17, 3) := by decide +kernel
theorem d_M_least_105 : decode b_M_least 105 = .ok (.iload 7, 2) := by decide +kernel
theorem d_M_least_107 : decode b_M_least 107 = .ok (.iaload, 1) := by decide +kernel
theorem d_M_least_108 : decode b_M_least 108 = .ok (.iload 4, 2) := by decide +kernel
theorem d_M_least_110 : decode b_M_least 110 = .ok (.if_icmp .ge 15, 3) := by decide +kernel
theorem d_M_least_113 : decode b_M_least 113 = .ok (.iload 5, 2) := by decide +kernel
theorem d_M_least_115 : decode b_M_least 115 = .ok (.istore_n 3, 1) := by decide +kernel
theorem d_M_least_116 : decode b_M_least 116 = .ok (.aload_n 0, 1) := by decide +kernel
theorem d_M_least_117 : decode b_M_least 117 = .ok (.getfield 17, 3) := by decide +kernel
theorem d_M_least_120 : decode b_M_least 120 = .ok (.iload 7, 2) := by decide +kernel
theorem d_M_least_122 : decode b_M_least 122 = .ok (.iaload, 1) := by decide +kernel
theorem d_M_least_123 : decode b_M_least 123 = .ok (.istore 4, 2) := by decide +kernel
theorem d_M_least_125 : decode b_M_least 125 = .ok (.iinc 7 1, 3) := by decide +kernel
theorem d_M_least_128 : decode b_M_least 128 = .ok (.goto (-61), 3) := by decide +kernel
theorem d_M_least_131 : decode b_M_least 131 = .ok (.iinc 5 1, 3) := by decide +kernel
theorem d_M_least_134 : decode b_M_least 134 = .ok (.goto (-92), 3) := by decide +kernel
theorem d_M_least_137 : decode b_M_least 137 = .ok (.iload_n 3, 1) := by decide +kernel
theorem d_M_least_138 : decode b_M_least 138 = .ok (.ireturn, 1) := by decide +kernel
theorem d_M_bytes_0 : decode b_M_bytes 0 = .ok (.aload_n 0, 1) := by decide +kernel
theorem d_M_bytes_1 : decode b_M_bytes 1 = .ok (.getfield 17, 3) := by decide +kernel
theorem d_M_bytes_4 : decode b_M_bytes 4 = .ok (.bipush 6, 2) := by decide +kernel
theorem d_M_bytes_6 : decode b_M_bytes 6 = .ok (.iload_n 1, 1) := by decide +kernel
theorem d_M_bytes_7 : decode b_M_bytes 7 = .ok (.imul, 1) := by decide +kernel
theorem d_M_bytes_8 : decode b_M_bytes 8 = .ok (.iaload, 1) := by decide +kernel
theorem d_M_bytes_9 : decode b_M_bytes 9 = .ok (.istore_n 2, 1) := by decide +kernel
theorem d_M_bytes_10 : decode b_M_bytes 10 = .ok (.iconst 1, 1) := by decide +kernel
theorem d_M_bytes_11 : decode b_M_bytes 11 = .ok (.istore_n 3, 1) := by decide +kernel
theorem d_M_bytes_12 : decode b_M_bytes 12 = .ok (.iload_n 3, 1) := by decide +kernel
theorem d_M_bytes_13 : decode b_M_bytes 13 = .ok (.aload_n 0, 1) := by decide +kernel
theorem d_M_bytes_14 : decode b_M_bytes 14 = .ok (.getfield 7, 3) := by decide +kernel
theorem d_M_bytes_17 : decode b_M_bytes 17 = .ok (.iload_n 1, 1) := by decide +kernel
theorem d_M_bytes_18 : decode b_M_bytes 18 = .ok (.iaload, 1) := by decide +kernel
theorem d_M_bytes_19 : decode b_M_bytes 19 = .ok (.if_icmp .ge 35, 3) := by decide +kernel
theorem d_M_bytes_22 : decode b_M_bytes 22 = .ok (.aload_n 0, 1) := by decide +kernel
theorem d_M_bytes_23 : decode b_M_bytes 23 = .ok (.getfield 17, 3) := by decide +kernel
theorem d_M_bytes_26 : decode b_M_bytes 26 = .ok (.bipush 6, 2) := by decide +kernel
theorem d_M_bytes_28 : decode b_M_bytes 28 = .ok (.iload_n 1, 1) := by decide +kernel
theorem d_M_bytes_29 : decode b_M_bytes 29 = .ok (.imul, 1) := by decide +kernel
theorem d_M_bytes_30 : decode b_M_bytes 30 = .ok (.iload_n 3, 1) := by decide +kernel
theorem d_M_bytes_31 : decode b_M_bytes 31 = .ok (.iadd, 1) := by decide +kernel
theorem d_M_bytes_32 : decode b_M_bytes 32 = .ok (.iaload, 1) := by decide +kernel
theorem d_M_bytes_33 : decode b_M_bytes 33 = .ok (.istore 4, 2) := by decide +kernel
theorem d_M_bytes_35 : decode b_M_bytes 35 = .ok (.iload 4, 2) := by decide +kernel
theorem d_M_bytes_37 : decode b_M_bytes 37 = .ok (.iload_n 2, 1) := by decide +kernel
theorem d_M_bytes_38 : decode b_M_bytes 38 = .ok (.if_icmp .ge 8, 3) := by decide +kernel
theorem d_M_bytes_41 : decode b_M_bytes 41 = .ok (.iload 4, 2) := by decide +kernel
theorem d_M_bytes_43 : decode b_M_bytes 43 = .ok (.goto 4, 3) := by decide +kernel
theorem d_M_bytes_46 : decode b_M_bytes 46 = .ok (.iload_n 2, 1) := by decide +kernel
theorem d_M_bytes_47 : decode b_M_bytes 47 = .ok (.istore_n 2, 1) := by decide +kernel
theorem d_M_bytes_48 : decode b_M_bytes 48 = .ok (.iinc 3 1, 3) := by decide +kernel
theorem d_M_bytes_51 : decode b_M_bytes 51 = .ok (.goto (-39), 3) := by decide +kernel
theorem d_M_bytes_54 : decode b_M_bytes 54 = .ok (.iload_n 2, 1) := by decide +kernel
theorem d_M_bytes_55 : decode b_M_bytes 55 = .ok (.ireturn, 1) := by decide +kernel
theorem d_M_sumOf_0 : decode b_M_sumOf 0 = .ok (.lconst 0, 1) := by decide +kernel
theorem d_M_sumOf_1 : decode b_M_sumOf 1 = .ok (.lstore_n 2, 1) := by decide +kernel
theorem d_M_sumOf_2 : decode b_M_sumOf 2 = .ok (.iconst 0, 1) := by decide +kernel
theorem d_M_sumOf_3 : decode b_M_sumOf 3 = .ok (.istore 4, 2) := by decide +kernel
theorem d_M_sumOf_5 : decode b_M_sumOf 5 = .ok (.iload 4, 2) := by decide +kernel
theorem d_M_sumOf_7 : decode b_M_sumOf 7 = .ok (.aload_n 0, 1) := by decide +kernel
theorem d_M_sumOf_8 : decode b_M_sumOf 8 = .ok (.getfield 47, 3) := by decide +kernel
theorem d_M_sumOf_11 : decode b_M_sumOf 11 = .ok (.if_icmp .ge 43, 3) := by decide +kernel
theorem d_M_sumOf_14 : decode b_M_sumOf 14 = .ok (.lload_n 2, 1) := by decide +kernel
theorem d_M_sumOf_15 : decode b_M_sumOf 15 = .ok (.aload_n 0, 1) := by decide +kernel
theorem d_M_sumOf_16 : decode b_M_sumOf 16 = .ok (.getfield 7, 3) := by decide +kernel
theorem d_M_sumOf_19 : decode b_M_sumOf 19 = .ok (.bipush 24, 2) := by decide +kernel
theorem d_M_sumOf_21 : decode b_M_sumOf 21 = .ok (.iload_n 1, 1) := by decide +kernel
theorem d_M_sumOf_22 : decode b_M_sumOf 22 = .ok (.imul, 1) := by decide +kernel
theorem d_M_sumOf_23 : decode b_M_sumOf 23 = .ok (.iload 4, 2) := by decide +kernel
theorem d_M_sumOf_25 : decode b_M_sumOf 25 = .ok (.iadd, 1) := by decide +kernel
theorem d_M_sumOf_26 : decode b_M_sumOf 26 = .ok (.iaload, 1) := by decide +kernel
theorem d_M_sumOf_27 : decode b_M_sumOf 27 = .ok (.ifCond .le 18, 3) := by decide +kernel
theorem d_M_sumOf_30 : decode b_M_sumOf 30 = .ok (.aload_n 0, 1) := by decide +kernel
theorem d_M_sumOf_31 : decode b_M_sumOf 31 = .ok (.bipush 24, 2) := by decide +kernel
theorem d_M_sumOf_33 : decode b_M_sumOf 33 = .ok (.iload_n 1, 1) := by decide +kernel
theorem d_M_sumOf_34 : decode b_M_sumOf 34 = .ok (.imul, 1) := by decide +kernel
theorem d_M_sumOf_35 : decode b_M_sumOf 35 = .ok (.iload 4, 2) := by decide +kernel
theorem d_M_sumOf_37 : decode b_M_sumOf 37 = .ok (.iadd, 1) := by decide +kernel
theorem d_M_sumOf_38 : decode b_M_sumOf 38 = .ok (.invokevirtual 74, 3) := by decide +kernel
theorem d_M_sumOf_41 : decode b_M_sumOf 41 = .ok (.i2l, 1) := by decide +kernel
theorem d_M_sumOf_42 : decode b_M_sumOf 42 = .ok (.goto 4, 3) := by decide +kernel
theorem d_M_sumOf_45 : decode b_M_sumOf 45 = .ok (.lconst 0, 1) := by decide +kernel
theorem d_M_sumOf_46 : decode b_M_sumOf 46 = .ok (.ladd, 1) := by decide +kernel
theorem d_M_sumOf_47 : decode b_M_sumOf 47 = .ok (.lstore_n 2, 1) := by decide +kernel
theorem d_M_sumOf_48 : decode b_M_sumOf 48 = .ok (.iinc 4 1, 3) := by decide +kernel
theorem d_M_sumOf_51 : decode b_M_sumOf 51 = .ok (.goto (-46), 3) := by decide +kernel
theorem d_M_sumOf_54 : decode b_M_sumOf 54 = .ok (.lload_n 2, 1) := by decide +kernel
theorem d_M_sumOf_55 : decode b_M_sumOf 55 = .ok (.lreturn, 1) := by decide +kernel
theorem d_M_countedOf_0 : decode b_M_countedOf 0 = .ok (.iconst 0, 1) := by decide +kernel
theorem d_M_countedOf_1 : decode b_M_countedOf 1 = .ok (.istore_n 2, 1) := by decide +kernel
theorem d_M_countedOf_2 : decode b_M_countedOf 2 = .ok (.iconst 0, 1) := by decide +kernel
theorem d_M_countedOf_3 : decode b_M_countedOf 3 = .ok (.istore_n 3, 1) := by decide +kernel
theorem d_M_countedOf_4 : decode b_M_countedOf 4 = .ok (.iload_n 3, 1) := by decide +kernel
theorem d_M_countedOf_5 : decode b_M_countedOf 5 = .ok (.aload_n 0, 1) := by decide +kernel
theorem d_M_countedOf_6 : decode b_M_countedOf 6 = .ok (.getfield 47, 3) := by decide +kernel
theorem d_M_countedOf_9 : decode b_M_countedOf 9 = .ok (.if_icmp .ge 31, 3) := by decide +kernel
theorem d_M_countedOf_12 : decode b_M_countedOf 12 = .ok (.iload_n 2, 1) := by decide +kernel
theorem d_M_countedOf_13 : decode b_M_countedOf 13 = .ok (.aload_n 0, 1) := by decide +kernel
theorem d_M_countedOf_14 : decode b_M_countedOf 14 = .ok (.getfield 7, 3) := by decide +kernel
theorem d_M_countedOf_17 : decode b_M_countedOf 17 = .ok (.bipush 24, 2) := by decide +kernel
theorem d_M_countedOf_19 : decode b_M_countedOf 19 = .ok (.iload_n 1, 1) := by decide +kernel
theorem d_M_countedOf_20 : decode b_M_countedOf 20 = .ok (.imul, 1) := by decide +kernel
theorem d_M_countedOf_21 : decode b_M_countedOf 21 = .ok (.iload_n 3, 1) := by decide +kernel
theorem d_M_countedOf_22 : decode b_M_countedOf 22 = .ok (.iadd, 1) := by decide +kernel
theorem d_M_countedOf_23 : decode b_M_countedOf 23 = .ok (.iaload, 1) := by decide +kernel
theorem d_M_countedOf_24 : decode b_M_countedOf 24 = .ok (.ifCond .le 7, 3) := by decide +kernel
theorem d_M_countedOf_27 : decode b_M_countedOf 27 = .ok (.iconst 1, 1) := by decide +kernel
theorem d_M_countedOf_28 : decode b_M_countedOf 28 = .ok (.goto 4, 3) := by decide +kernel
theorem d_M_countedOf_31 : decode b_M_countedOf 31 = .ok (.iconst 0, 1) := by decide +kernel
theorem d_M_countedOf_32 : decode b_M_countedOf 32 = .ok (.iadd, 1) := by decide +kernel
theorem d_M_countedOf_33 : decode b_M_countedOf 33 = .ok (.istore_n 2, 1) := by decide +kernel
theorem d_M_countedOf_34 : decode b_M_countedOf 34 = .ok (.iinc 3 1, 3) := by decide +kernel
theorem d_M_countedOf_37 : decode b_M_countedOf 37 = .ok (.goto (-33), 3) := by decide +kernel
theorem d_M_countedOf_40 : decode b_M_countedOf 40 = .ok (.iload_n 2, 1) := by decide +kernel
theorem d_M_countedOf_41 : decode b_M_countedOf 41 = .ok (.ireturn, 1) := by decide +kernel
theorem d_M_sum_0 : decode b_M_sum 0 = .ok (.aload_n 0, 1) := by decide +kernel
theorem d_M_sum_1 : decode b_M_sum 1 = .ok (.aload_n 0, 1) := by decide +kernel
theorem d_M_sum_2 : decode b_M_sum 2 = .ok (.iload_n 1, 1) := by decide +kernel
theorem d_M_sum_3 : decode b_M_sum 3 = .ok (.invokevirtual 43, 3) := by decide +kernel
theorem d_M_sum_6 : decode b_M_sum 6 = .ok (.ifCond .eq 7, 3) := by decide +kernel
theorem d_M_sum_9 : decode b_M_sum 9 = .ok (.iconst 1, 1) := by decide +kernel
theorem d_M_sum_10 : decode b_M_sum 10 = .ok (.goto 4, 3) := by decide +kernel
theorem d_M_sum_13 : decode b_M_sum 13 = .ok (.iconst 0, 1) := by decide +kernel
theorem d_M_sum_14 : decode b_M_sum 14 = .ok (.invokevirtual 50, 3) := by decide +kernel
theorem d_M_sum_17 : decode b_M_sum 17 = .ok (.ifCond .eq 5, 3) := by decide +kernel
theorem d_M_sum_20 : decode b_M_sum 20 = .ok (.lconst 0, 1) := by decide +kernel
theorem d_M_sum_21 : decode b_M_sum 21 = .ok (.lreturn, 1) := by decide +kernel
theorem d_M_sum_22 : decode b_M_sum 22 = .ok (.aload_n 0, 1) := by decide +kernel
theorem d_M_sum_23 : decode b_M_sum 23 = .ok (.iload_n 1, 1) := by decide +kernel
theorem d_M_sum_24 : decode b_M_sum 24 = .ok (.invokevirtual 78, 3) := by decide +kernel
theorem d_M_sum_27 : decode b_M_sum 27 = .ok (.ifCond .ne 9, 3) := by decide +kernel
theorem d_M_sum_30 : decode b_M_sum 30 = .ok (.ldc2_w 81, 3) := by decide +kernel
theorem d_M_sum_33 : decode b_M_sum 33 = .ok (.goto 8, 3) := by decide +kernel
theorem d_M_sum_36 : decode b_M_sum 36 = .ok (.aload_n 0, 1) := by decide +kernel
theorem d_M_sum_37 : decode b_M_sum 37 = .ok (.iload_n 1, 1) := by decide +kernel
theorem d_M_sum_38 : decode b_M_sum 38 = .ok (.invokevirtual 83, 3) := by decide +kernel
theorem d_M_sum_41 : decode b_M_sum 41 = .ok (.lreturn, 1) := by decide +kernel
theorem d_M_common_0 : decode b_M_common 0 = .ok (.lload_n 0, 1) := by decide +kernel
theorem d_M_common_1 : decode b_M_common 1 = .ok (.lstore 4, 2) := by decide +kernel
theorem d_M_common_3 : decode b_M_common 3 = .ok (.lload_n 2, 1) := by decide +kernel
theorem d_M_common_4 : decode b_M_common 4 = .ok (.lstore 6, 2) := by decide +kernel
theorem d_M_common_6 : decode b_M_common 6 = .ok (.lload 6, 2) := by decide +kernel
theorem d_M_common_8 : decode b_M_common 8 = .ok (.lconst 0, 1) := by decide +kernel
theorem d_M_common_9 : decode b_M_common 9 = .ok (.lcmp, 1) := by decide +kernel
theorem d_M_common_10 : decode b_M_common 10 = .ok (.ifCond .eq 21, 3) := by decide +kernel
theorem d_M_common_13 : decode b_M_common 13 = .ok (.lload 4, 2) := by decide +kernel
theorem d_M_common_15 : decode b_M_common 15 = .ok (.lload 6, 2) := by decide +kernel
theorem d_M_common_17 : decode b_M_common 17 = .ok (.lrem, 1) := by decide +kernel
theorem d_M_common_18 : decode b_M_common 18 = .ok (.lstore 8, 2) := by decide +kernel
theorem d_M_common_20 : decode b_M_common 20 = .ok (.lload 6, 2) := by decide +kernel
theorem d_M_common_22 : decode b_M_common 22 = .ok (.lstore 4, 2) := by decide +kernel
theorem d_M_common_24 : decode b_M_common 24 = .ok (.lload 8, 2) := by decide +kernel
theorem d_M_common_26 : decode b_M_common 26 = .ok (.lstore 6, 2) := by decide +kernel
theorem d_M_common_28 : decode b_M_common 28 = .ok (.goto (-22), 3) := by decide +kernel
theorem d_M_common_31 : decode b_M_common 31 = .ok (.lload 4, 2) := by decide +kernel
theorem d_M_common_33 : decode b_M_common 33 = .ok (.lreturn, 1) := by decide +kernel
theorem d_M_part_0 : decode b_M_part 0 = .ok (.lload_n 0, 1) := by decide +kernel
theorem d_M_part_1 : decode b_M_part 1 = .ok (.lload_n 2, 1) := by decide +kernel
theorem d_M_part_2 : decode b_M_part 2 = .ok (.invokestatic 87, 3) := by decide +kernel
theorem d_M_part_5 : decode b_M_part 5 = .ok (.lstore 5, 2) := by decide +kernel
theorem d_M_part_7 : decode b_M_part 7 = .ok (.iload 4, 2) := by decide +kernel
theorem d_M_part_9 : decode b_M_part 9 = .ok (.ifCond .eq 10, 3) := by decide +kernel
theorem d_M_part_12 : decode b_M_part 12 = .ok (.lload_n 0, 1) := by decide +kernel
theorem d_M_part_13 : decode b_M_part 13 = .ok (.lload 5, 2) := by decide +kernel
theorem d_M_part_15 : decode b_M_part 15 = .ok (.ldiv, 1) := by decide +kernel
theorem d_M_part_16 : decode b_M_part 16 = .ok (.goto 7, 3) := by decide +kernel
theorem d_M_part_19 : decode b_M_part 19 = .ok (.lload_n 2, 1) := by decide +kernel
theorem d_M_part_20 : decode b_M_part 20 = .ok (.lload 5, 2) := by decide +kernel
theorem d_M_part_22 : decode b_M_part 22 = .ok (.ldiv, 1) := by decide +kernel
theorem d_M_part_23 : decode b_M_part 23 = .ok (.lreturn, 1) := by decide +kernel
theorem d_M_mean_0 : decode b_M_mean 0 = .ok (.aload_n 0, 1) := by decide +kernel
theorem d_M_mean_1 : decode b_M_mean 1 = .ok (.aload_n 0, 1) := by decide +kernel
theorem d_M_mean_2 : decode b_M_mean 2 = .ok (.iload_n 1, 1) := by decide +kernel
theorem d_M_mean_3 : decode b_M_mean 3 = .ok (.invokevirtual 43, 3) := by decide +kernel
theorem d_M_mean_6 : decode b_M_mean 6 = .ok (.ifCond .eq 7, 3) := by decide +kernel
theorem d_M_mean_9 : decode b_M_mean 9 = .ok (.iconst 1, 1) := by decide +kernel
theorem d_M_mean_10 : decode b_M_mean 10 = .ok (.goto 16, 3) := by decide +kernel
theorem d_M_mean_13 : decode b_M_mean 13 = .ok (.aload_n 0, 1) := by decide +kernel
theorem d_M_mean_14 : decode b_M_mean 14 = .ok (.iload_n 1, 1) := by decide +kernel
theorem d_M_mean_15 : decode b_M_mean 15 = .ok (.invokevirtual 78, 3) := by decide +kernel
theorem d_M_mean_18 : decode b_M_mean 18 = .ok (.ifCond .ne 7, 3) := by decide +kernel
theorem d_M_mean_21 : decode b_M_mean 21 = .ok (.iconst 2, 1) := by decide +kernel
theorem d_M_mean_22 : decode b_M_mean 22 = .ok (.goto 4, 3) := by decide +kernel
theorem d_M_mean_25 : decode b_M_mean 25 = .ok (.iconst 0, 1) := by decide +kernel
theorem d_M_mean_26 : decode b_M_mean 26 = .ok (.invokevirtual 50, 3) := by decide +kernel
theorem d_M_mean_29 : decode b_M_mean 29 = .ok (.ifCond .eq 5, 3) := by decide +kernel
theorem d_M_mean_32 : decode b_M_mean 32 = .ok (.lconst 0, 1) := by decide +kernel
theorem d_M_mean_33 : decode b_M_mean 33 = .ok (.lreturn, 1) := by decide +kernel
theorem d_M_mean_34 : decode b_M_mean 34 = .ok (.aload_n 0, 1) := by decide +kernel
theorem d_M_mean_35 : decode b_M_mean 35 = .ok (.iload_n 1, 1) := by decide +kernel
theorem d_M_mean_36 : decode b_M_mean 36 = .ok (.invokevirtual 83, 3) := by decide +kernel
theorem d_M_mean_39 : decode b_M_mean 39 = .ok (.aload_n 0, 1) := by decide +kernel
theorem d_M_mean_40 : decode b_M_mean 40 = .ok (.iload_n 1, 1) := by decide +kernel
theorem d_M_mean_41 : decode b_M_mean 41 = .ok (.invokevirtual 78, 3) := by decide +kernel
theorem d_M_mean_44 : decode b_M_mean 44 = .ok (.i2l, 1) := by decide +kernel
theorem d_M_mean_45 : decode b_M_mean 45 = .ok (.iload_n 2, 1) := by decide +kernel
theorem d_M_mean_46 : decode b_M_mean 46 = .ok (.invokestatic 91, 3) := by decide +kernel
theorem d_M_mean_49 : decode b_M_mean 49 = .ok (.lreturn, 1) := by decide +kernel
theorem d_M_rankOf_0 : decode b_M_rankOf 0 = .ok (.iconst 1, 1) := by decide +kernel
theorem d_M_rankOf_1 : decode b_M_rankOf 1 = .ok (.istore_n 2, 1) := by decide +kernel
theorem d_M_rankOf_2 : decode b_M_rankOf 2 = .ok (.iconst 0, 1) := by decide +kernel
theorem d_M_rankOf_3 : decode b_M_rankOf 3 = .ok (.istore_n 3, 1) := by decide +kernel
theorem d_M_rankOf_4 : decode b_M_rankOf 4 = .ok (.iload_n 3, 1) := by decide +kernel
theorem d_M_rankOf_5 : decode b_M_rankOf 5 = .ok (.aload_n 0, 1) := by decide +kernel
theorem d_M_rankOf_6 : decode b_M_rankOf 6 = .ok (.getfield 40, 3) := by decide +kernel
theorem d_M_rankOf_9 : decode b_M_rankOf 9 = .ok (.if_icmp .ge 73, 3) := by decide +kernel
theorem d_M_rankOf_12 : decode b_M_rankOf 12 = .ok (.aload_n 0, 1) := by decide +kernel
theorem d_M_rankOf_13 : decode b_M_rankOf 13 = .ok (.iload_n 3, 1) := by decide +kernel
theorem d_M_rankOf_14 : decode b_M_rankOf 14 = .ok (.invokevirtual 78, 3) := by decide +kernel
theorem d_M_rankOf_17 : decode b_M_rankOf 17 = .ok (.ifCond .le 59, 3) := by decide +kernel
theorem d_M_rankOf_20 : decode b_M_rankOf 20 = .ok (.aload_n 0, 1) := by decide +kernel
theorem d_M_rankOf_21 : decode b_M_rankOf 21 = .ok (.iload_n 3, 1) := by decide +kernel
theorem d_M_rankOf_22 : decode b_M_rankOf 22 = .ok (.invokevirtual 83, 3) := by decide +kernel
theorem d_M_rankOf_25 : decode b_M_rankOf 25 = .ok (.aload_n 0, 1) := by decide +kernel
theorem d_M_rankOf_26 : decode b_M_rankOf 26 = .ok (.iload_n 1, 1) := by decide +kernel
theorem d_M_rankOf_27 : decode b_M_rankOf 27 = .ok (.invokevirtual 78, 3) := by decide +kernel
theorem d_M_rankOf_30 : decode b_M_rankOf 30 = .ok (.i2l, 1) := by decide +kernel
theorem d_M_rankOf_31 : decode b_M_rankOf 31 = .ok (.lmul, 1) := by decide +kernel
theorem d_M_rankOf_32 : decode b_M_rankOf 32 = .ok (.lstore 4, 2) := by decide +kernel
theorem d_M_rankOf_34 : decode b_M_rankOf 34 = .ok (.aload_n 0, 1) := by decide +kernel
theorem d_M_rankOf_35 : decode b_M_rankOf 35 = .ok (.iload_n 1, 1) := by decide +kernel
theorem d_M_rankOf_36 : decode b_M_rankOf 36 = .ok (.invokevirtual 83, 3) := by decide +kernel
theorem d_M_rankOf_39 : decode b_M_rankOf 39 = .ok (.aload_n 0, 1) := by decide +kernel
theorem d_M_rankOf_40 : decode b_M_rankOf 40 = .ok (.iload_n 3, 1) := by decide +kernel
theorem d_M_rankOf_41 : decode b_M_rankOf 41 = .ok (.invokevirtual 78, 3) := by decide +kernel
theorem d_M_rankOf_44 : decode b_M_rankOf 44 = .ok (.i2l, 1) := by decide +kernel
theorem d_M_rankOf_45 : decode b_M_rankOf 45 = .ok (.lmul, 1) := by decide +kernel
theorem d_M_rankOf_46 : decode b_M_rankOf 46 = .ok (.lstore 6, 2) := by decide +kernel
theorem d_M_rankOf_48 : decode b_M_rankOf 48 = .ok (.iload_n 2, 1) := by decide +kernel
theorem d_M_rankOf_49 : decode b_M_rankOf 49 = .ok (.lload 4, 2) := by decide +kernel
theorem d_M_rankOf_51 : decode b_M_rankOf 51 = .ok (.lload 6, 2) := by decide +kernel
theorem d_M_rankOf_53 : decode b_M_rankOf 53 = .ok (.lcmp, 1) := by decide +kernel
theorem d_M_rankOf_54 : decode b_M_rankOf 54 = .ok (.ifCond .ge 7, 3) := by decide +kernel
theorem d_M_rankOf_57 : decode b_M_rankOf 57 = .ok (.iconst 2, 1) := by decide +kernel
theorem d_M_rankOf_58 : decode b_M_rankOf 58 = .ok (.goto 16, 3) := by decide +kernel
theorem d_M_rankOf_61 : decode b_M_rankOf 61 = .ok (.lload 4, 2) := by decide +kernel
theorem d_M_rankOf_63 : decode b_M_rankOf 63 = .ok (.lload 6, 2) := by decide +kernel
theorem d_M_rankOf_65 : decode b_M_rankOf 65 = .ok (.lcmp, 1) := by decide +kernel
theorem d_M_rankOf_66 : decode b_M_rankOf 66 = .ok (.ifCond .ne 7, 3) := by decide +kernel
theorem d_M_rankOf_69 : decode b_M_rankOf 69 = .ok (.iconst 1, 1) := by decide +kernel
theorem d_M_rankOf_70 : decode b_M_rankOf 70 = .ok (.goto 4, 3) := by decide +kernel
theorem d_M_rankOf_73 : decode b_M_rankOf 73 = .ok (.iconst 0, 1) := by decide +kernel
theorem d_M_rankOf_74 : decode b_M_rankOf 74 = .ok (.iadd, 1) := by decide +kernel
theorem d_M_rankOf_75 : decode b_M_rankOf 75 = .ok (.istore_n 2, 1) := by decide +kernel
theorem d_M_rankOf_76 : decode b_M_rankOf 76 = .ok (.iinc 3 1, 3) := by decide +kernel
theorem d_M_rankOf_79 : decode b_M_rankOf 79 = .ok (.goto (-75), 3) := by decide +kernel
theorem d_M_rankOf_82 : decode b_M_rankOf 82 = .ok (.iload_n 2, 1) := by decide +kernel
theorem d_M_rankOf_83 : decode b_M_rankOf 83 = .ok (.ireturn, 1) := by decide +kernel
theorem d_M_rank_0 : decode b_M_rank 0 = .ok (.aload_n 0, 1) := by decide +kernel
theorem d_M_rank_1 : decode b_M_rank 1 = .ok (.aload_n 0, 1) := by decide +kernel
theorem d_M_rank_2 : decode b_M_rank 2 = .ok (.iload_n 1, 1) := by decide +kernel
theorem d_M_rank_3 : decode b_M_rank 3 = .ok (.invokevirtual 43, 3) := by decide +kernel
theorem d_M_rank_6 : decode b_M_rank 6 = .ok (.ifCond .eq 7, 3) := by decide +kernel
theorem d_M_rank_9 : decode b_M_rank 9 = .ok (.iconst 1, 1) := by decide +kernel
theorem d_M_rank_10 : decode b_M_rank 10 = .ok (.goto 16, 3) := by decide +kernel
theorem d_M_rank_13 : decode b_M_rank 13 = .ok (.aload_n 0, 1) := by decide +kernel
theorem d_M_rank_14 : decode b_M_rank 14 = .ok (.iload_n 1, 1) := by decide +kernel
theorem d_M_rank_15 : decode b_M_rank 15 = .ok (.invokevirtual 78, 3) := by decide +kernel
theorem d_M_rank_18 : decode b_M_rank 18 = .ok (.ifCond .ne 7, 3) := by decide +kernel
theorem d_M_rank_21 : decode b_M_rank 21 = .ok (.iconst 2, 1) := by decide +kernel
theorem d_M_rank_22 : decode b_M_rank 22 = .ok (.goto 4, 3) := by decide +kernel
theorem d_M_rank_25 : decode b_M_rank 25 = .ok (.iconst 0, 1) := by decide +kernel
theorem d_M_rank_26 : decode b_M_rank 26 = .ok (.invokevirtual 50, 3) := by decide +kernel
theorem d_M_rank_29 : decode b_M_rank 29 = .ok (.ifCond .eq 5, 3) := by decide +kernel
theorem d_M_rank_32 : decode b_M_rank 32 = .ok (.iconst 0, 1) := by decide +kernel
theorem d_M_rank_33 : decode b_M_rank 33 = .ok (.ireturn, 1) := by decide +kernel
theorem d_M_rank_34 : decode b_M_rank 34 = .ok (.aload_n 0, 1) := by decide +kernel
theorem d_M_rank_35 : decode b_M_rank 35 = .ok (.iload_n 1, 1) := by decide +kernel
theorem d_M_rank_36 : decode b_M_rank 36 = .ok (.invokevirtual 95, 3) := by decide +kernel
theorem d_M_rank_39 : decode b_M_rank 39 = .ok (.ireturn, 1) := by decide +kernel
theorem d_M_isBest_0 : decode b_M_isBest 0 = .ok (.iconst 1, 1) := by decide +kernel
theorem d_M_isBest_1 : decode b_M_isBest 1 = .ok (.istore_n 3, 1) := by decide +kernel
theorem d_M_isBest_2 : decode b_M_isBest 2 = .ok (.bipush 6, 2) := by decide +kernel
theorem d_M_isBest_4 : decode b_M_isBest 4 = .ok (.iload_n 1, 1) := by decide +kernel
theorem d_M_isBest_5 : decode b_M_isBest 5 = .ok (.imul, 1) := by decide +kernel
theorem d_M_isBest_6 : decode b_M_isBest 6 = .ok (.istore 4, 2) := by decide +kernel
theorem d_M_isBest_8 : decode b_M_isBest 8 = .ok (.iload 4, 2) := by decide +kernel
theorem d_M_isBest_10 : decode b_M_isBest 10 = .ok (.bipush 6, 2) := by decide +kernel
theorem d_M_isBest_12 : decode b_M_isBest 12 = .ok (.iload_n 1, 1) := by decide +kernel
theorem d_M_isBest_13 : decode b_M_isBest 13 = .ok (.imul, 1) := by decide +kernel
theorem d_M_isBest_14 : decode b_M_isBest 14 = .ok (.aload_n 0, 1) := by decide +kernel
theorem d_M_isBest_15 : decode b_M_isBest 15 = .ok (.getfield 7, 3) := by decide +kernel
theorem d_M_isBest_18 : decode b_M_isBest 18 = .ok (.iload_n 1, 1) := by decide +kernel
theorem d_M_isBest_19 : decode b_M_isBest 19 = .ok (.iaload, 1) := by decide +kernel
theorem d_M_isBest_20 : decode b_M_isBest 20 = .ok (.iadd, 1) := by decide +kernel
theorem d_M_isBest_21 : decode b_M_isBest 21 = .ok (.if_icmp .ge 104, 3) := by decide +kernel
theorem d_M_isBest_24 : decode b_M_isBest 24 = .ok (.aload_n 0, 1) := by decide +kernel
theorem d_M_isBest_25 : decode b_M_isBest 25 = .ok (.getfield 17, 3) := by decide +kernel
theorem d_M_isBest_28 : decode b_M_isBest 28 = .ok (.iload 4, 2) := by decide +kernel
theorem d_M_isBest_30 : decode b_M_isBest 30 = .ok (.iaload, 1) := by decide +kernel
theorem d_M_isBest_31 : decode b_M_isBest 31 = .ok (.aload_n 0, 1) := by decide +kernel
theorem d_M_isBest_32 : decode b_M_isBest 32 = .ok (.getfield 17, 3) := by decide +kernel
theorem d_M_isBest_35 : decode b_M_isBest 35 = .ok (.iload_n 2, 1) := by decide +kernel
theorem d_M_isBest_36 : decode b_M_isBest 36 = .ok (.iaload, 1) := by decide +kernel
theorem d_M_isBest_37 : decode b_M_isBest 37 = .ok (.if_icmp .ne 23, 3) := by decide +kernel
theorem d_M_isBest_40 : decode b_M_isBest 40 = .ok (.aload_n 0, 1) := by decide +kernel
theorem d_M_isBest_41 : decode b_M_isBest 41 = .ok (.getfield 20, 3) := by decide +kernel
theorem d_M_isBest_44 : decode b_M_isBest 44 = .ok (.iload 4, 2) := by decide +kernel
theorem d_M_isBest_46 : decode b_M_isBest 46 = .ok (.iaload, 1) := by decide +kernel
theorem d_M_isBest_47 : decode b_M_isBest 47 = .ok (.aload_n 0, 1) := by decide +kernel
theorem d_M_isBest_48 : decode b_M_isBest 48 = .ok (.getfield 20, 3) := by decide +kernel
theorem d_M_isBest_51 : decode b_M_isBest 51 = .ok (.iload_n 2, 1) := by decide +kernel
theorem d_M_isBest_52 : decode b_M_isBest 52 = .ok (.iaload, 1) := by decide +kernel
theorem d_M_isBest_53 : decode b_M_isBest 53 = .ok (.if_icmp .ne 7, 3) := by decide +kernel
theorem d_M_isBest_56 : decode b_M_isBest 56 = .ok (.iconst 1, 1) := by decide +kernel
theorem d_M_isBest_57 : decode b_M_isBest 57 = .ok (.goto 4, 3) := by decide +kernel
theorem d_M_isBest_60 : decode b_M_isBest 60 = .ok (.iconst 0, 1) := by decide +kernel
theorem d_M_isBest_61 : decode b_M_isBest 61 = .ok (.istore 5, 2) := by decide +kernel
theorem d_M_isBest_63 : decode b_M_isBest 63 = .ok (.iload_n 3, 1) := by decide +kernel
theorem d_M_isBest_64 : decode b_M_isBest 64 = .ok (.ifCond .eq 53, 3) := by decide +kernel
theorem d_M_isBest_67 : decode b_M_isBest 67 = .ok (.iload 5, 2) := by decide +kernel
theorem d_M_isBest_69 : decode b_M_isBest 69 = .ok (.ifCond .eq 12, 3) := by decide +kernel
theorem d_M_isBest_72 : decode b_M_isBest 72 = .ok (.iload 4, 2) := by decide +kernel
theorem d_M_isBest_74 : decode b_M_isBest 74 = .ok (.iload_n 2, 1) := by decide +kernel
theorem d_M_isBest_75 : decode b_M_isBest 75 = .ok (.if_icmp .lt 42, 3) := by decide +kernel
theorem d_M_isBest_78 : decode b_M_isBest 78 = .ok (.goto 35, 3) := by decide +kernel
theorem d_M_isBest_81 : decode b_M_isBest 81 = .ok (.aload_n 0, 1) := by decide +kernel
theorem d_M_isBest_82 : decode b_M_isBest 82 = .ok (.getfield 17, 3) := by decide +kernel
theorem d_M_isBest_85 : decode b_M_isBest 85 = .ok (.iload 4, 2) := by decide +kernel
theorem d_M_isBest_87 : decode b_M_isBest 87 = .ok (.iaload, 1) := by decide +kernel
theorem d_M_isBest_88 : decode b_M_isBest 88 = .ok (.aload_n 0, 1) := by decide +kernel
theorem d_M_isBest_89 : decode b_M_isBest 89 = .ok (.getfield 17, 3) := by decide +kernel
theorem d_M_isBest_92 : decode b_M_isBest 92 = .ok (.iload_n 2, 1) := by decide +kernel
theorem d_M_isBest_93 : decode b_M_isBest 93 = .ok (.iaload, 1) := by decide +kernel
theorem d_M_isBest_94 : decode b_M_isBest 94 = .ok (.if_icmp .gt 19, 3) := by decide +kernel
theorem d_M_isBest_97 : decode b_M_isBest 97 = .ok (.aload_n 0, 1) := by decide +kernel
theorem d_M_isBest_98 : decode b_M_isBest 98 = .ok (.getfield 20, 3) := by decide +kernel
theorem d_M_isBest_101 : decode b_M_isBest 101 = .ok (.iload 4, 2) := by decide +kernel
theorem d_M_isBest_103 : decode b_M_isBest 103 = .ok (.iaload, 1) := by decide +kernel
theorem d_M_isBest_104 : decode b_M_isBest 104 = .ok (.aload_n 0, 1) := by decide +kernel
theorem d_M_isBest_105 : decode b_M_isBest 105 = .ok (.getfield 20, 3) := by decide +kernel
theorem d_M_isBest_108 : decode b_M_isBest 108 = .ok (.iload_n 2, 1) := by decide +kernel
theorem d_M_isBest_109 : decode b_M_isBest 109 = .ok (.iaload, 1) := by decide +kernel
theorem d_M_isBest_110 : decode b_M_isBest 110 = .ok (.if_icmp .le 7, 3) := by decide +kernel
theorem d_M_isBest_113 : decode b_M_isBest 113 = .ok (.iconst 1, 1) := by decide +kernel
theorem d_M_isBest_114 : decode b_M_isBest 114 = .ok (.goto 4, 3) := by decide +kernel
theorem d_M_isBest_117 : decode b_M_isBest 117 = .ok (.iconst 0, 1) := by decide +kernel
theorem d_M_isBest_118 : decode b_M_isBest 118 = .ok (.istore_n 3, 1) := by decide +kernel
theorem d_M_isBest_119 : decode b_M_isBest 119 = .ok (.iinc 4 1, 3) := by decide +kernel
theorem d_M_isBest_122 : decode b_M_isBest 122 = .ok (.goto (-114), 3) := by decide +kernel
theorem d_M_isBest_125 : decode b_M_isBest 125 = .ok (.iload_n 3, 1) := by decide +kernel
theorem d_M_isBest_126 : decode b_M_isBest 126 = .ok (.ireturn, 1) := by decide +kernel
theorem d_M_findHull_0 : decode b_M_findHull 0 = .ok (.aload_n 0, 1) := by decide +kernel
theorem d_M_findHull_1 : decode b_M_findHull 1 = .ok (.iconst 0, 1) := by decide +kernel
theorem d_M_findHull_2 : decode b_M_findHull 2 = .ok (.putfield 98, 3) := by decide +kernel
theorem d_M_findHull_5 : decode b_M_findHull 5 = .ok (.iconst (-1), 1) := by decide +kernel
theorem d_M_findHull_6 : decode b_M_findHull 6 = .ok (.istore_n 2, 1) := by decide +kernel
theorem d_M_findHull_7 : decode b_M_findHull 7 = .ok (.bipush 6, 2) := by decide +kernel
theorem d_M_findHull_9 : decode b_M_findHull 9 = .ok (.iload_n 1, 1) := by decide +kernel
theorem d_M_findHull_10 : decode b_M_findHull 10 = .ok (.imul, 1) := by decide +kernel
theorem d_M_findHull_11 : decode b_M_findHull 11 = .ok (.istore_n 3, 1) := by decide +kernel
theorem d_M_findHull_12 : decode b_M_findHull 12 = .ok (.iload_n 3, 1) := by decide +kernel
theorem d_M_findHull_13 : decode b_M_findHull 13 = .ok (.bipush 6, 2) := by decide +kernel
theorem d_M_findHull_15 : decode b_M_findHull 15 = .ok (.iload_n 1, 1) := by decide +kernel
theorem d_M_findHull_16 : decode b_M_findHull 16 = .ok (.imul, 1) := by decide +kernel
theorem d_M_findHull_17 : decode b_M_findHull 17 = .ok (.aload_n 0, 1) := by decide +kernel
theorem d_M_findHull_18 : decode b_M_findHull 18 = .ok (.getfield 7, 3) := by decide +kernel
theorem d_M_findHull_21 : decode b_M_findHull 21 = .ok (.iload_n 1, 1) := by decide +kernel
theorem d_M_findHull_22 : decode b_M_findHull 22 = .ok (.iaload, 1) := by decide +kernel
theorem d_M_findHull_23 : decode b_M_findHull 23 = .ok (.iadd, 1) := by decide +kernel
theorem d_M_findHull_24 : decode b_M_findHull 24 = .ok (.if_icmp .ge 40, 3) := by decide +kernel
theorem d_M_findHull_27 : decode b_M_findHull 27 = .ok (.aload_n 0, 1) := by decide +kernel
theorem d_M_findHull_28 : decode b_M_findHull 28 = .ok (.iload_n 1, 1) := by decide +kernel
theorem d_M_findHull_29 : decode b_M_findHull 29 = .ok (.iload_n 3, 1) := by decide +kernel
theorem d_M_findHull_30 : decode b_M_findHull 30 = .ok (.invokevirtual 101, 3) := by decide +kernel
theorem d_M_findHull_33 : decode b_M_findHull 33 = .ok (.ifCond .eq 25, 3) := by decide +kernel
theorem d_M_findHull_36 : decode b_M_findHull 36 = .ok (.iload_n 2, 1) := by decide +kernel
theorem d_M_findHull_37 : decode b_M_findHull 37 = .ok (.iconst (-1), 1) := by decide +kernel
theorem d_M_findHull_38 : decode b_M_findHull 38 = .ok (.if_icmp .eq 18, 3) := by decide +kernel
theorem d_M_findHull_41 : decode b_M_findHull 41 = .ok (.aload_n 0, 1) := by decide +kernel
theorem d_M_findHull_42 : decode b_M_findHull 42 = .ok (.getfield 17, 3) := by decide +kernel
theorem d_M_findHull_45 : decode b_M_findHull 45 = .ok (.iload_n 3, 1) := by decide +kernel
theorem d_M_findHull_46 : decode b_M_findHull 46 = .ok (.iaload, 1) := by decide +kernel
theorem d_M_findHull_47 : decode b_M_findHull 47 = .ok (.aload_n 0, 1) := by decide +kernel
theorem d_M_findHull_48 : decode b_M_findHull 48 = .ok (.getfield 17, 3) := by decide +kernel
theorem d_M_findHull_51 : decode b_M_findHull 51 = .ok (.iload_n 2, 1) := by decide +kernel
theorem d_M_findHull_52 : decode b_M_findHull 52 = .ok (.iaload, 1) := by decide +kernel
theorem d_M_findHull_53 : decode b_M_findHull 53 = .ok (.if_icmp .ge 5, 3) := by decide +kernel
theorem d_M_findHull_56 : decode b_M_findHull 56 = .ok (.iload_n 3, 1) := by decide +kernel
theorem d_M_findHull_57 : decode b_M_findHull 57 = .ok (.istore_n 2, 1) := by decide +kernel
theorem d_M_findHull_58 : decode b_M_findHull 58 = .ok (.iinc 3 1, 3) := by decide +kernel
theorem d_M_findHull_61 : decode b_M_findHull 61 = .ok (.goto (-49), 3) := by decide +kernel
theorem d_M_findHull_64 : decode b_M_findHull 64 = .ok (.iload_n 2, 1) := by decide +kernel
theorem d_M_findHull_65 : decode b_M_findHull 65 = .ok (.iconst (-1), 1) := by decide +kernel
theorem d_M_findHull_66 : decode b_M_findHull 66 = .ok (.if_icmp .eq 103, 3) := by decide +kernel
theorem d_M_findHull_69 : decode b_M_findHull 69 = .ok (.aload_n 0, 1) := by decide +kernel
theorem d_M_findHull_70 : decode b_M_findHull 70 = .ok (.getfield 29, 3) := by decide +kernel
theorem d_M_findHull_73 : decode b_M_findHull 73 = .ok (.aload_n 0, 1) := by decide +kernel
theorem d_M_findHull_74 : decode b_M_findHull 74 = .ok (.getfield 98, 3) := by decide +kernel
theorem d_M_findHull_77 : decode b_M_findHull 77 = .ok (.iload_n 2, 1) := by decide +kernel
theorem d_M_findHull_78 : decode b_M_findHull 78 = .ok (.iastore, 1) := by decide +kernel
theorem d_M_findHull_79 : decode b_M_findHull 79 = .ok (.aload_n 0, 1) := by decide +kernel
theorem d_M_findHull_80 : decode b_M_findHull 80 = .ok (.dup, 1) := by decide +kernel
theorem d_M_findHull_81 : decode b_M_findHull 81 = .ok (.getfield 98, 3) := by decide +kernel
theorem d_M_findHull_84 : decode b_M_findHull 84 = .ok (.iconst 1, 1) := by decide +kernel
theorem d_M_findHull_85 : decode b_M_findHull 85 = .ok (.iadd, 1) := by decide +kernel
theorem d_M_findHull_86 : decode b_M_findHull 86 = .ok (.putfield 98, 3) := by decide +kernel
theorem d_M_findHull_89 : decode b_M_findHull 89 = .ok (.iconst (-1), 1) := by decide +kernel
theorem d_M_findHull_90 : decode b_M_findHull 90 = .ok (.istore_n 3, 1) := by decide +kernel
theorem d_M_findHull_91 : decode b_M_findHull 91 = .ok (.bipush 6, 2) := by decide +kernel
theorem d_M_findHull_93 : decode b_M_findHull 93 = .ok (.iload_n 1, 1) := by decide +kernel
theorem d_M_findHull_94 : decode b_M_findHull 94 = .ok (.imul, 1) := by decide +kernel
theorem d_M_findHull_95 : decode b_M_findHull 95 = .ok (.istore 4, 2) := by decide +kernel
theorem d_M_findHull_97 : decode b_M_findHull 97 = .ok (.iload 4, 2) := by decide +kernel
theorem d_M_findHull_99 : decode b_M_findHull 99 = .ok (.bipush 6, 2) := by decide +kernel
theorem d_M_findHull_101 : decode b_M_findHull 101 = .ok (.iload_n 1, 1) := by decide +kernel
theorem d_M_findHull_102 : decode b_M_findHull 102 = .ok (.imul, 1) := by decide +kernel
theorem d_M_findHull_103 : decode b_M_findHull 103 = .ok (.aload_n 0, 1) := by decide +kernel
theorem d_M_findHull_104 : decode b_M_findHull 104 = .ok (.getfield 7, 3) := by decide +kernel
theorem d_M_findHull_107 : decode b_M_findHull 107 = .ok (.iload_n 1, 1) := by decide +kernel
theorem d_M_findHull_108 : decode b_M_findHull 108 = .ok (.iaload, 1) := by decide +kernel
theorem d_M_findHull_109 : decode b_M_findHull 109 = .ok (.iadd, 1) := by decide +kernel
theorem d_M_findHull_110 : decode b_M_findHull 110 = .ok (.if_icmp .ge 54, 3) := by decide +kernel
theorem d_M_findHull_113 : decode b_M_findHull 113 = .ok (.aload_n 0, 1) := by decide +kernel
theorem d_M_findHull_114 : decode b_M_findHull 114 = .ok (.iload_n 1, 1) := by decide +kernel
theorem d_M_findHull_115 : decode b_M_findHull 115 = .ok (.iload 4, 2) := by decide +kernel
theorem d_M_findHull_117 : decode b_M_findHull 117 = .ok (.invokevirtual 101, 3) := by decide +kernel
theorem d_M_findHull_120 : decode b_M_findHull 120 = .ok (.ifCond .eq 38, 3) := by decide +kernel
theorem d_M_findHull_123 : decode b_M_findHull 123 = .ok (.aload_n 0, 1) := by decide +kernel
theorem d_M_findHull_124 : decode b_M_findHull 124 = .ok (.getfield 17, 3) := by decide +kernel
theorem d_M_findHull_127 : decode b_M_findHull 127 = .ok (.iload 4, 2) := by decide +kernel
theorem d_M_findHull_129 : decode b_M_findHull 129 = .ok (.iaload, 1) := by decide +kernel
theorem d_M_findHull_130 : decode b_M_findHull 130 = .ok (.aload_n 0, 1) := by decide +kernel
theorem d_M_findHull_131 : decode b_M_findHull 131 = .ok (.getfield 17, 3) := by decide +kernel
theorem d_M_findHull_134 : decode b_M_findHull 134 = .ok (.iload_n 2, 1) := by decide +kernel
theorem d_M_findHull_135 : decode b_M_findHull 135 = .ok (.iaload, 1) := by decide +kernel
theorem d_M_findHull_136 : decode b_M_findHull 136 = .ok (.if_icmp .le 22, 3) := by decide +kernel
theorem d_M_findHull_139 : decode b_M_findHull 139 = .ok (.iload_n 3, 1) := by decide +kernel
theorem d_M_findHull_140 : decode b_M_findHull 140 = .ok (.iconst (-1), 1) := by decide +kernel
theorem d_M_findHull_141 : decode b_M_findHull 141 = .ok (.if_icmp .eq 14, 3) := by decide +kernel
theorem d_M_findHull_144 : decode b_M_findHull 144 = .ok (.aload_n 0, 1) := by decide +kernel
theorem d_M_findHull_145 : decode b_M_findHull 145 = .ok (.iload_n 2, 1) := by decide +kernel
theorem d_M_findHull_146 : decode b_M_findHull 146 = .ok (.iload 4, 2) := by decide +kernel
theorem d_M_findHull_148 : decode b_M_findHull 148 = .ok (.iload_n 3, 1) := by decide +kernel
theorem d_M_findHull_149 : decode b_M_findHull 149 = .ok (.invokevirtual 104, 3) := by decide +kernel
theorem d_M_findHull_152 : decode b_M_findHull 152 = .ok (.ifCond .eq 6, 3) := by decide +kernel
theorem d_M_findHull_155 : decode b_M_findHull 155 = .ok (.iload 4, 2) := by decide +kernel
theorem d_M_findHull_157 : decode b_M_findHull 157 = .ok (.istore_n 3, 1) := by decide +kernel
theorem d_M_findHull_158 : decode b_M_findHull 158 = .ok (.iinc 4 1, 3) := by decide +kernel
theorem d_M_findHull_161 : decode b_M_findHull 161 = .ok (.goto (-64), 3) := by decide +kernel
theorem d_M_findHull_164 : decode b_M_findHull 164 = .ok (.iload_n 3, 1) := by decide +kernel
theorem d_M_findHull_165 : decode b_M_findHull 165 = .ok (.istore_n 2, 1) := by decide +kernel
theorem d_M_findHull_166 : decode b_M_findHull 166 = .ok (.goto (-102), 3) := by decide +kernel
theorem d_M_findHull_169 : decode b_M_findHull 169 = .ok (.return_, 1) := by decide +kernel
theorem d_M_isSteeper_0 : decode b_M_isSteeper 0 = .ok (.aload_n 0, 1) := by decide +kernel
theorem d_M_isSteeper_1 : decode b_M_isSteeper 1 = .ok (.getfield 20, 3) := by decide +kernel
theorem d_M_isSteeper_4 : decode b_M_isSteeper 4 = .ok (.iload_n 1, 1) := by decide +kernel
theorem d_M_isSteeper_5 : decode b_M_isSteeper 5 = .ok (.iaload, 1) := by decide +kernel
theorem d_M_isSteeper_6 : decode b_M_isSteeper 6 = .ok (.aload_n 0, 1) := by decide +kernel
theorem d_M_isSteeper_7 : decode b_M_isSteeper 7 = .ok (.getfield 20, 3) := by decide +kernel
theorem d_M_isSteeper_10 : decode b_M_isSteeper 10 = .ok (.iload_n 2, 1) := by decide +kernel
theorem d_M_isSteeper_11 : decode b_M_isSteeper 11 = .ok (.iaload, 1) := by decide +kernel
theorem d_M_isSteeper_12 : decode b_M_isSteeper 12 = .ok (.isub, 1) := by decide +kernel
theorem d_M_isSteeper_13 : decode b_M_isSteeper 13 = .ok (.i2l, 1) := by decide +kernel
theorem d_M_isSteeper_14 : decode b_M_isSteeper 14 = .ok (.aload_n 0, 1) := by decide +kernel
theorem d_M_isSteeper_15 : decode b_M_isSteeper 15 = .ok (.getfield 17, 3) := by decide +kernel
theorem d_M_isSteeper_18 : decode b_M_isSteeper 18 = .ok (.iload_n 3, 1) := by decide +kernel
theorem d_M_isSteeper_19 : decode b_M_isSteeper 19 = .ok (.iaload, 1) := by decide +kernel
theorem d_M_isSteeper_20 : decode b_M_isSteeper 20 = .ok (.aload_n 0, 1) := by decide +kernel
theorem d_M_isSteeper_21 : decode b_M_isSteeper 21 = .ok (.getfield 17, 3) := by decide +kernel
theorem d_M_isSteeper_24 : decode b_M_isSteeper 24 = .ok (.iload_n 1, 1) := by decide +kernel
theorem d_M_isSteeper_25 : decode b_M_isSteeper 25 = .ok (.iaload, 1) := by decide +kernel
theorem d_M_isSteeper_26 : decode b_M_isSteeper 26 = .ok (.isub, 1) := by decide +kernel
theorem d_M_isSteeper_27 : decode b_M_isSteeper 27 = .ok (.i2l, 1) := by decide +kernel
theorem d_M_isSteeper_28 : decode b_M_isSteeper 28 = .ok (.lmul, 1) := by decide +kernel
theorem d_M_isSteeper_29 : decode b_M_isSteeper 29 = .ok (.lstore 4, 2) := by decide +kernel
theorem d_M_isSteeper_31 : decode b_M_isSteeper 31 = .ok (.aload_n 0, 1) := by decide +kernel
theorem d_M_isSteeper_32 : decode b_M_isSteeper 32 = .ok (.getfield 20, 3) := by decide +kernel
theorem d_M_isSteeper_35 : decode b_M_isSteeper 35 = .ok (.iload_n 1, 1) := by decide +kernel
theorem d_M_isSteeper_36 : decode b_M_isSteeper 36 = .ok (.iaload, 1) := by decide +kernel
theorem d_M_isSteeper_37 : decode b_M_isSteeper 37 = .ok (.aload_n 0, 1) := by decide +kernel
theorem d_M_isSteeper_38 : decode b_M_isSteeper 38 = .ok (.getfield 20, 3) := by decide +kernel
theorem d_M_isSteeper_41 : decode b_M_isSteeper 41 = .ok (.iload_n 3, 1) := by decide +kernel
theorem d_M_isSteeper_42 : decode b_M_isSteeper 42 = .ok (.iaload, 1) := by decide +kernel
theorem d_M_isSteeper_43 : decode b_M_isSteeper 43 = .ok (.isub, 1) := by decide +kernel
theorem d_M_isSteeper_44 : decode b_M_isSteeper 44 = .ok (.i2l, 1) := by decide +kernel
theorem d_M_isSteeper_45 : decode b_M_isSteeper 45 = .ok (.aload_n 0, 1) := by decide +kernel
theorem d_M_isSteeper_46 : decode b_M_isSteeper 46 = .ok (.getfield 17, 3) := by decide +kernel
theorem d_M_isSteeper_49 : decode b_M_isSteeper 49 = .ok (.iload_n 2, 1) := by decide +kernel
theorem d_M_isSteeper_50 : decode b_M_isSteeper 50 = .ok (.iaload, 1) := by decide +kernel
theorem d_M_isSteeper_51 : decode b_M_isSteeper 51 = .ok (.aload_n 0, 1) := by decide +kernel
theorem d_M_isSteeper_52 : decode b_M_isSteeper 52 = .ok (.getfield 17, 3) := by decide +kernel
theorem d_M_isSteeper_55 : decode b_M_isSteeper 55 = .ok (.iload_n 1, 1) := by decide +kernel
theorem d_M_isSteeper_56 : decode b_M_isSteeper 56 = .ok (.iaload, 1) := by decide +kernel
theorem d_M_isSteeper_57 : decode b_M_isSteeper 57 = .ok (.isub, 1) := by decide +kernel
theorem d_M_isSteeper_58 : decode b_M_isSteeper 58 = .ok (.i2l, 1) := by decide +kernel
theorem d_M_isSteeper_59 : decode b_M_isSteeper 59 = .ok (.lmul, 1) := by decide +kernel
theorem d_M_isSteeper_60 : decode b_M_isSteeper 60 = .ok (.lstore 6, 2) := by decide +kernel
theorem d_M_isSteeper_62 : decode b_M_isSteeper 62 = .ok (.lload 4, 2) := by decide +kernel
theorem d_M_isSteeper_64 : decode b_M_isSteeper 64 = .ok (.lload 6, 2) := by decide +kernel
theorem d_M_isSteeper_66 : decode b_M_isSteeper 66 = .ok (.lcmp, 1) := by decide +kernel
theorem d_M_isSteeper_67 : decode b_M_isSteeper 67 = .ok (.ifCond .gt 26, 3) := by decide +kernel
theorem d_M_isSteeper_70 : decode b_M_isSteeper 70 = .ok (.lload 4, 2) := by decide +kernel
theorem d_M_isSteeper_72 : decode b_M_isSteeper 72 = .ok (.lload 6, 2) := by decide +kernel
theorem d_M_isSteeper_74 : decode b_M_isSteeper 74 = .ok (.lcmp, 1) := by decide +kernel
theorem d_M_isSteeper_75 : decode b_M_isSteeper 75 = .ok (.ifCond .ne 22, 3) := by decide +kernel
theorem d_M_isSteeper_78 : decode b_M_isSteeper 78 = .ok (.aload_n 0, 1) := by decide +kernel
theorem d_M_isSteeper_79 : decode b_M_isSteeper 79 = .ok (.getfield 17, 3) := by decide +kernel
theorem d_M_isSteeper_82 : decode b_M_isSteeper 82 = .ok (.iload_n 2, 1) := by decide +kernel
theorem d_M_isSteeper_83 : decode b_M_isSteeper 83 = .ok (.iaload, 1) := by decide +kernel
theorem d_M_isSteeper_84 : decode b_M_isSteeper 84 = .ok (.aload_n 0, 1) := by decide +kernel
theorem d_M_isSteeper_85 : decode b_M_isSteeper 85 = .ok (.getfield 17, 3) := by decide +kernel
theorem d_M_isSteeper_88 : decode b_M_isSteeper 88 = .ok (.iload_n 3, 1) := by decide +kernel
theorem d_M_isSteeper_89 : decode b_M_isSteeper 89 = .ok (.iaload, 1) := by decide +kernel
theorem d_M_isSteeper_90 : decode b_M_isSteeper 90 = .ok (.if_icmp .le 7, 3) := by decide +kernel
theorem d_M_isSteeper_93 : decode b_M_isSteeper 93 = .ok (.iconst 1, 1) := by decide +kernel
theorem d_M_isSteeper_94 : decode b_M_isSteeper 94 = .ok (.goto 4, 3) := by decide +kernel
theorem d_M_isSteeper_97 : decode b_M_isSteeper 97 = .ok (.iconst 0, 1) := by decide +kernel
theorem d_M_isSteeper_98 : decode b_M_isSteeper 98 = .ok (.ireturn, 1) := by decide +kernel
theorem d_M_hull_0 : decode b_M_hull 0 = .ok (.aload_n 0, 1) := by decide +kernel
theorem d_M_hull_1 : decode b_M_hull 1 = .ok (.aload_n 0, 1) := by decide +kernel
theorem d_M_hull_2 : decode b_M_hull 2 = .ok (.iload_n 1, 1) := by decide +kernel
theorem d_M_hull_3 : decode b_M_hull 3 = .ok (.iload_n 2, 1) := by decide +kernel
theorem d_M_hull_4 : decode b_M_hull 4 = .ok (.invokevirtual 53, 3) := by decide +kernel
theorem d_M_hull_7 : decode b_M_hull 7 = .ok (.ifCond .eq 7, 3) := by decide +kernel
theorem d_M_hull_10 : decode b_M_hull 10 = .ok (.iconst 1, 1) := by decide +kernel
theorem d_M_hull_11 : decode b_M_hull 11 = .ok (.goto 4, 3) := by decide +kernel
theorem d_M_hull_14 : decode b_M_hull 14 = .ok (.iconst 0, 1) := by decide +kernel
theorem d_M_hull_15 : decode b_M_hull 15 = .ok (.invokevirtual 50, 3) := by decide +kernel
theorem d_M_hull_18 : decode b_M_hull 18 = .ok (.ifCond .eq 5, 3) := by decide +kernel
theorem d_M_hull_21 : decode b_M_hull 21 = .ok (.iconst 0, 1) := by decide +kernel
theorem d_M_hull_22 : decode b_M_hull 22 = .ok (.ireturn, 1) := by decide +kernel
theorem d_M_hull_23 : decode b_M_hull 23 = .ok (.aload_n 0, 1) := by decide +kernel
theorem d_M_hull_24 : decode b_M_hull 24 = .ok (.bipush 24, 2) := by decide +kernel
theorem d_M_hull_26 : decode b_M_hull 26 = .ok (.iload_n 1, 1) := by decide +kernel
theorem d_M_hull_27 : decode b_M_hull 27 = .ok (.imul, 1) := by decide +kernel
theorem d_M_hull_28 : decode b_M_hull 28 = .ok (.iload_n 2, 1) := by decide +kernel
theorem d_M_hull_29 : decode b_M_hull 29 = .ok (.iadd, 1) := by decide +kernel
theorem d_M_hull_30 : decode b_M_hull 30 = .ok (.invokevirtual 108, 3) := by decide +kernel
theorem d_M_hull_33 : decode b_M_hull 33 = .ok (.aload_n 0, 1) := by decide +kernel
theorem d_M_hull_34 : decode b_M_hull 34 = .ok (.getfield 98, 3) := by decide +kernel
theorem d_M_hull_37 : decode b_M_hull 37 = .ok (.ireturn, 1) := by decide +kernel
theorem d_M_noneOnHull_0 : decode b_M_noneOnHull 0 = .ok (.aload_n 0, 1) := by decide +kernel
theorem d_M_noneOnHull_1 : decode b_M_noneOnHull 1 = .ok (.iload_n 1, 1) := by decide +kernel
theorem d_M_noneOnHull_2 : decode b_M_noneOnHull 2 = .ok (.iload_n 2, 1) := by decide +kernel
theorem d_M_noneOnHull_3 : decode b_M_noneOnHull 3 = .ok (.invokevirtual 53, 3) := by decide +kernel
theorem d_M_noneOnHull_6 : decode b_M_noneOnHull 6 = .ok (.ifCond .eq 5, 3) := by decide +kernel
theorem d_M_noneOnHull_9 : decode b_M_noneOnHull 9 = .ok (.iconst 1, 1) := by decide +kernel
theorem d_M_noneOnHull_10 : decode b_M_noneOnHull 10 = .ok (.ireturn, 1) := by decide +kernel
theorem d_M_noneOnHull_11 : decode b_M_noneOnHull 11 = .ok (.aload_n 0, 1) := by decide +kernel
theorem d_M_noneOnHull_12 : decode b_M_noneOnHull 12 = .ok (.bipush 24, 2) := by decide +kernel
theorem d_M_noneOnHull_14 : decode b_M_noneOnHull 14 = .ok (.iload_n 1, 1) := by decide +kernel
theorem d_M_noneOnHull_15 : decode b_M_noneOnHull 15 = .ok (.imul, 1) := by decide +kernel
theorem d_M_noneOnHull_16 : decode b_M_noneOnHull 16 = .ok (.iload_n 2, 1) := by decide +kernel
theorem d_M_noneOnHull_17 : decode b_M_noneOnHull 17 = .ok (.iadd, 1) := by decide +kernel
theorem d_M_noneOnHull_18 : decode b_M_noneOnHull 18 = .ok (.invokevirtual 108, 3) := by decide +kernel
theorem d_M_noneOnHull_21 : decode b_M_noneOnHull 21 = .ok (.iload_n 3, 1) := by decide +kernel
theorem d_M_noneOnHull_22 : decode b_M_noneOnHull 22 = .ok (.ifCond .lt 14, 3) := by decide +kernel
theorem d_M_noneOnHull_25 : decode b_M_noneOnHull 25 = .ok (.iload_n 3, 1) := by decide +kernel
theorem d_M_noneOnHull_26 : decode b_M_noneOnHull 26 = .ok (.aload_n 0, 1) := by decide +kernel
theorem d_M_noneOnHull_27 : decode b_M_noneOnHull 27 = .ok (.getfield 98, 3) := by decide +kernel
theorem d_M_noneOnHull_30 : decode b_M_noneOnHull 30 = .ok (.iload 4, 2) := by decide +kernel
theorem d_M_noneOnHull_32 : decode b_M_noneOnHull 32 = .ok (.isub, 1) := by decide +kernel
theorem d_M_noneOnHull_33 : decode b_M_noneOnHull 33 = .ok (.if_icmp .lt 7, 3) := by decide +kernel
theorem d_M_noneOnHull_36 : decode b_M_noneOnHull 36 = .ok (.iconst 1, 1) := by decide +kernel
theorem d_M_noneOnHull_37 : decode b_M_noneOnHull 37 = .ok (.goto 4, 3) := by decide +kernel
theorem d_M_noneOnHull_40 : decode b_M_noneOnHull 40 = .ok (.iconst 0, 1) := by decide +kernel
theorem d_M_noneOnHull_41 : decode b_M_noneOnHull 41 = .ok (.ireturn, 1) := by decide +kernel
theorem d_M_onHull_0 : decode b_M_onHull 0 = .ok (.aload_n 0, 1) := by decide +kernel
theorem d_M_onHull_1 : decode b_M_onHull 1 = .ok (.aload_n 0, 1) := by decide +kernel
theorem d_M_onHull_2 : decode b_M_onHull 2 = .ok (.iload_n 1, 1) := by decide +kernel
theorem d_M_onHull_3 : decode b_M_onHull 3 = .ok (.iload_n 2, 1) := by decide +kernel
theorem d_M_onHull_4 : decode b_M_onHull 4 = .ok (.iload_n 3, 1) := by decide +kernel
theorem d_M_onHull_5 : decode b_M_onHull 5 = .ok (.iconst 0, 1) := by decide +kernel
theorem d_M_onHull_6 : decode b_M_onHull 6 = .ok (.invokevirtual 111, 3) := by decide +kernel
theorem d_M_onHull_9 : decode b_M_onHull 9 = .ok (.ifCond .eq 7, 3) := by decide +kernel
theorem d_M_onHull_12 : decode b_M_onHull 12 = .ok (.iconst 1, 1) := by decide +kernel
theorem d_M_onHull_13 : decode b_M_onHull 13 = .ok (.goto 19, 3) := by decide +kernel
theorem d_M_onHull_16 : decode b_M_onHull 16 = .ok (.iload 4, 2) := by decide +kernel
theorem d_M_onHull_18 : decode b_M_onHull 18 = .ok (.ifCond .eq 13, 3) := by decide +kernel
theorem d_M_onHull_21 : decode b_M_onHull 21 = .ok (.iload 4, 2) := by decide +kernel
theorem d_M_onHull_23 : decode b_M_onHull 23 = .ok (.iconst 1, 1) := by decide +kernel
theorem d_M_onHull_24 : decode b_M_onHull 24 = .ok (.if_icmp .eq 7, 3) := by decide +kernel
theorem d_M_onHull_27 : decode b_M_onHull 27 = .ok (.iconst 2, 1) := by decide +kernel
theorem d_M_onHull_28 : decode b_M_onHull 28 = .ok (.goto 4, 3) := by decide +kernel
theorem d_M_onHull_31 : decode b_M_onHull 31 = .ok (.iconst 0, 1) := by decide +kernel
theorem d_M_onHull_32 : decode b_M_onHull 32 = .ok (.invokevirtual 50, 3) := by decide +kernel
theorem d_M_onHull_35 : decode b_M_onHull 35 = .ok (.ifCond .eq 5, 3) := by decide +kernel
theorem d_M_onHull_38 : decode b_M_onHull 38 = .ok (.iconst 0, 1) := by decide +kernel
theorem d_M_onHull_39 : decode b_M_onHull 39 = .ok (.ireturn, 1) := by decide +kernel
theorem d_M_onHull_40 : decode b_M_onHull 40 = .ok (.iload 4, 2) := by decide +kernel
theorem d_M_onHull_42 : decode b_M_onHull 42 = .ok (.ifCond .ne 17, 3) := by decide +kernel
theorem d_M_onHull_45 : decode b_M_onHull 45 = .ok (.aload_n 0, 1) := by decide +kernel
theorem d_M_onHull_46 : decode b_M_onHull 46 = .ok (.getfield 17, 3) := by decide +kernel
theorem d_M_onHull_49 : decode b_M_onHull 49 = .ok (.aload_n 0, 1) := by decide +kernel
theorem d_M_onHull_50 : decode b_M_onHull 50 = .ok (.getfield 29, 3) := by decide +kernel
theorem d_M_onHull_53 : decode b_M_onHull 53 = .ok (.iload_n 3, 1) := by decide +kernel
theorem d_M_onHull_54 : decode b_M_onHull 54 = .ok (.iaload, 1) := by decide +kernel
theorem d_M_onHull_55 : decode b_M_onHull 55 = .ok (.iaload, 1) := by decide +kernel
theorem d_M_onHull_56 : decode b_M_onHull 56 = .ok (.goto 14, 3) := by decide +kernel
theorem d_M_onHull_59 : decode b_M_onHull 59 = .ok (.aload_n 0, 1) := by decide +kernel
theorem d_M_onHull_60 : decode b_M_onHull 60 = .ok (.getfield 20, 3) := by decide +kernel
theorem d_M_onHull_63 : decode b_M_onHull 63 = .ok (.aload_n 0, 1) := by decide +kernel
theorem d_M_onHull_64 : decode b_M_onHull 64 = .ok (.getfield 29, 3) := by decide +kernel
theorem d_M_onHull_67 : decode b_M_onHull 67 = .ok (.iload_n 3, 1) := by decide +kernel
theorem d_M_onHull_68 : decode b_M_onHull 68 = .ok (.iaload, 1) := by decide +kernel
theorem d_M_onHull_69 : decode b_M_onHull 69 = .ok (.iaload, 1) := by decide +kernel
theorem d_M_onHull_70 : decode b_M_onHull 70 = .ok (.ireturn, 1) := by decide +kernel
theorem d_M_slope_0 : decode b_M_slope 0 = .ok (.aload_n 0, 1) := by decide +kernel
theorem d_M_slope_1 : decode b_M_slope 1 = .ok (.aload_n 0, 1) := by decide +kernel
theorem d_M_slope_2 : decode b_M_slope 2 = .ok (.iload_n 1, 1) := by decide +kernel
theorem d_M_slope_3 : decode b_M_slope 3 = .ok (.iload_n 2, 1) := by decide +kernel
theorem d_M_slope_4 : decode b_M_slope 4 = .ok (.iload_n 3, 1) := by decide +kernel
theorem d_M_slope_5 : decode b_M_slope 5 = .ok (.iconst 1, 1) := by decide +kernel
theorem d_M_slope_6 : decode b_M_slope 6 = .ok (.invokevirtual 111, 3) := by decide +kernel
theorem d_M_slope_9 : decode b_M_slope 9 = .ok (.ifCond .eq 7, 3) := by decide +kernel
theorem d_M_slope_12 : decode b_M_slope 12 = .ok (.iconst 1, 1) := by decide +kernel
theorem d_M_slope_13 : decode b_M_slope 13 = .ok (.goto 4, 3) := by decide +kernel
theorem d_M_slope_16 : decode b_M_slope 16 = .ok (.iconst 0, 1) := by decide +kernel
theorem d_M_slope_17 : decode b_M_slope 17 = .ok (.invokevirtual 50, 3) := by decide +kernel
theorem d_M_slope_20 : decode b_M_slope 20 = .ok (.ifCond .eq 5, 3) := by decide +kernel
theorem d_M_slope_23 : decode b_M_slope 23 = .ok (.lconst 0, 1) := by decide +kernel
theorem d_M_slope_24 : decode b_M_slope 24 = .ok (.lreturn, 1) := by decide +kernel
theorem d_M_slope_25 : decode b_M_slope 25 = .ok (.aload_n 0, 1) := by decide +kernel
theorem d_M_slope_26 : decode b_M_slope 26 = .ok (.getfield 29, 3) := by decide +kernel
theorem d_M_slope_29 : decode b_M_slope 29 = .ok (.iload_n 3, 1) := by decide +kernel
theorem d_M_slope_30 : decode b_M_slope 30 = .ok (.iaload, 1) := by decide +kernel
theorem d_M_slope_31 : decode b_M_slope 31 = .ok (.istore 5, 2) := by decide +kernel
theorem d_M_slope_33 : decode b_M_slope 33 = .ok (.aload_n 0, 1) := by decide +kernel
theorem d_M_slope_34 : decode b_M_slope 34 = .ok (.getfield 29, 3) := by decide +kernel
theorem d_M_slope_37 : decode b_M_slope 37 = .ok (.iload_n 3, 1) := by decide +kernel
theorem d_M_slope_38 : decode b_M_slope 38 = .ok (.iconst 1, 1) := by decide +kernel
theorem d_M_slope_39 : decode b_M_slope 39 = .ok (.iadd, 1) := by decide +kernel
theorem d_M_slope_40 : decode b_M_slope 40 = .ok (.iaload, 1) := by decide +kernel
theorem d_M_slope_41 : decode b_M_slope 41 = .ok (.istore 6, 2) := by decide +kernel
theorem d_M_slope_43 : decode b_M_slope 43 = .ok (.aload_n 0, 1) := by decide +kernel
theorem d_M_slope_44 : decode b_M_slope 44 = .ok (.getfield 20, 3) := by decide +kernel
theorem d_M_slope_47 : decode b_M_slope 47 = .ok (.iload 5, 2) := by decide +kernel
theorem d_M_slope_49 : decode b_M_slope 49 = .ok (.iaload, 1) := by decide +kernel
theorem d_M_slope_50 : decode b_M_slope 50 = .ok (.aload_n 0, 1) := by decide +kernel
theorem d_M_slope_51 : decode b_M_slope 51 = .ok (.getfield 20, 3) := by decide +kernel
theorem d_M_slope_54 : decode b_M_slope 54 = .ok (.iload 6, 2) := by decide +kernel
theorem d_M_slope_56 : decode b_M_slope 56 = .ok (.iaload, 1) := by decide +kernel
theorem d_M_slope_57 : decode b_M_slope 57 = .ok (.isub, 1) := by decide +kernel
theorem d_M_slope_58 : decode b_M_slope 58 = .ok (.i2l, 1) := by decide +kernel
theorem d_M_slope_59 : decode b_M_slope 59 = .ok (.aload_n 0, 1) := by decide +kernel
theorem d_M_slope_60 : decode b_M_slope 60 = .ok (.getfield 17, 3) := by decide +kernel
theorem d_M_slope_63 : decode b_M_slope 63 = .ok (.iload 6, 2) := by decide +kernel
theorem d_M_slope_65 : decode b_M_slope 65 = .ok (.iaload, 1) := by decide +kernel
theorem d_M_slope_66 : decode b_M_slope 66 = .ok (.aload_n 0, 1) := by decide +kernel
theorem d_M_slope_67 : decode b_M_slope 67 = .ok (.getfield 17, 3) := by decide +kernel
theorem d_M_slope_70 : decode b_M_slope 70 = .ok (.iload 5, 2) := by decide +kernel
theorem d_M_slope_72 : decode b_M_slope 72 = .ok (.iaload, 1) := by decide +kernel
theorem d_M_slope_73 : decode b_M_slope 73 = .ok (.isub, 1) := by decide +kernel
theorem d_M_slope_74 : decode b_M_slope 74 = .ok (.i2l, 1) := by decide +kernel
theorem d_M_slope_75 : decode b_M_slope 75 = .ok (.iload 4, 2) := by decide +kernel
theorem d_M_slope_77 : decode b_M_slope 77 = .ok (.invokestatic 91, 3) := by decide +kernel
theorem d_M_slope_80 : decode b_M_slope 80 = .ok (.lreturn, 1) := by decide +kernel
theorem d_M_areBoth_0 : decode b_M_areBoth 0 = .ok (.aload_n 0, 1) := by decide +kernel
theorem d_M_areBoth_1 : decode b_M_areBoth 1 = .ok (.getfield 7, 3) := by decide +kernel
theorem d_M_areBoth_4 : decode b_M_areBoth 4 = .ok (.bipush 24, 2) := by decide +kernel
theorem d_M_areBoth_6 : decode b_M_areBoth 6 = .ok (.iload_n 1, 1) := by decide +kernel
theorem d_M_areBoth_7 : decode b_M_areBoth 7 = .ok (.imul, 1) := by decide +kernel
theorem d_M_areBoth_8 : decode b_M_areBoth 8 = .ok (.iload_n 3, 1) := by decide +kernel
theorem d_M_areBoth_9 : decode b_M_areBoth 9 = .ok (.iadd, 1) := by decide +kernel
theorem d_M_areBoth_10 : decode b_M_areBoth 10 = .ok (.iaload, 1) := by decide +kernel
theorem d_M_areBoth_11 : decode b_M_areBoth 11 = .ok (.ifCond .le 21, 3) := by decide +kernel
theorem d_M_areBoth_14 : decode b_M_areBoth 14 = .ok (.aload_n 0, 1) := by decide +kernel
theorem d_M_areBoth_15 : decode b_M_areBoth 15 = .ok (.getfield 7, 3) := by decide +kernel
theorem d_M_areBoth_18 : decode b_M_areBoth 18 = .ok (.bipush 24, 2) := by decide +kernel
theorem d_M_areBoth_20 : decode b_M_areBoth 20 = .ok (.iload_n 2, 1) := by decide +kernel
theorem d_M_areBoth_21 : decode b_M_areBoth 21 = .ok (.imul, 1) := by decide +kernel
theorem d_M_areBoth_22 : decode b_M_areBoth 22 = .ok (.iload_n 3, 1) := by decide +kernel
theorem d_M_areBoth_23 : decode b_M_areBoth 23 = .ok (.iadd, 1) := by decide +kernel
theorem d_M_areBoth_24 : decode b_M_areBoth 24 = .ok (.iaload, 1) := by decide +kernel
theorem d_M_areBoth_25 : decode b_M_areBoth 25 = .ok (.ifCond .le 7, 3) := by decide +kernel
theorem d_M_areBoth_28 : decode b_M_areBoth 28 = .ok (.iconst 1, 1) := by decide +kernel
theorem d_M_areBoth_29 : decode b_M_areBoth 29 = .ok (.goto 4, 3) := by decide +kernel
theorem d_M_areBoth_32 : decode b_M_areBoth 32 = .ok (.iconst 0, 1) := by decide +kernel
theorem d_M_areBoth_33 : decode b_M_areBoth 33 = .ok (.ireturn, 1) := by decide +kernel
theorem d_M_less_0 : decode b_M_less 0 = .ok (.iconst 0, 1) := by decide +kernel
theorem d_M_less_1 : decode b_M_less 1 = .ok (.istore_n 3, 1) := by decide +kernel
theorem d_M_less_2 : decode b_M_less 2 = .ok (.iconst 0, 1) := by decide +kernel
theorem d_M_less_3 : decode b_M_less 3 = .ok (.istore 4, 2) := by decide +kernel
theorem d_M_less_5 : decode b_M_less 5 = .ok (.iload 4, 2) := by decide +kernel
theorem d_M_less_7 : decode b_M_less 7 = .ok (.aload_n 0, 1) := by decide +kernel
theorem d_M_less_8 : decode b_M_less 8 = .ok (.getfield 47, 3) := by decide +kernel
theorem d_M_less_11 : decode b_M_less 11 = .ok (.if_icmp .ge 53, 3) := by decide +kernel
theorem d_M_less_14 : decode b_M_less 14 = .ok (.iload_n 3, 1) := by decide +kernel
theorem d_M_less_15 : decode b_M_less 15 = .ok (.aload_n 0, 1) := by decide +kernel
theorem d_M_less_16 : decode b_M_less 16 = .ok (.iload_n 1, 1) := by decide +kernel
theorem d_M_less_17 : decode b_M_less 17 = .ok (.iload_n 2, 1) := by decide +kernel
theorem d_M_less_18 : decode b_M_less 18 = .ok (.iload 4, 2) := by decide +kernel
theorem d_M_less_20 : decode b_M_less 20 = .ok (.invokevirtual 115, 3) := by decide +kernel
theorem d_M_less_23 : decode b_M_less 23 = .ok (.ifCond .eq 32, 3) := by decide +kernel
theorem d_M_less_26 : decode b_M_less 26 = .ok (.aload_n 0, 1) := by decide +kernel
theorem d_M_less_27 : decode b_M_less 27 = .ok (.bipush 24, 2) := by decide +kernel
theorem d_M_less_29 : decode b_M_less 29 = .ok (.iload_n 1, 1) := by decide +kernel
theorem d_M_less_30 : decode b_M_less 30 = .ok (.imul, 1) := by decide +kernel
theorem d_M_less_31 : decode b_M_less 31 = .ok (.iload 4, 2) := by decide +kernel
theorem d_M_less_33 : decode b_M_less 33 = .ok (.iadd, 1) := by decide +kernel
theorem d_M_less_34 : decode b_M_less 34 = .ok (.invokevirtual 74, 3) := by decide +kernel
theorem d_M_less_37 : decode b_M_less 37 = .ok (.aload_n 0, 1) := by decide +kernel
theorem d_M_less_38 : decode b_M_less 38 = .ok (.bipush 24, 2) := by decide +kernel
theorem d_M_less_40 : decode b_M_less 40 = .ok (.iload_n 2, 1) := by decide +kernel
theorem d_M_less_41 : decode b_M_less 41 = .ok (.imul, 1) := by decide +kernel
theorem d_M_less_42 : decode b_M_less 42 = .ok (.iload 4, 2) := by decide +kernel
theorem d_M_less_44 : decode b_M_less 44 = .ok (.iadd, 1) := by decide +kernel
theorem d_M_less_45 : decode b_M_less 45 = .ok (.invokevirtual 74, 3) := by decide +kernel
theorem d_M_less_48 : decode b_M_less 48 = .ok (.if_icmp .ge 7, 3) := by decide +kernel
theorem d_M_less_51 : decode b_M_less 51 = .ok (.iconst 1, 1) := by decide +kernel
theorem d_M_less_52 : decode b_M_less 52 = .ok (.goto 4, 3) := by decide +kernel
theorem d_M_less_55 : decode b_M_less 55 = .ok (.iconst 0, 1) := by decide +kernel
theorem d_M_less_56 : decode b_M_less 56 = .ok (.iadd, 1) := by decide +kernel
theorem d_M_less_57 : decode b_M_less 57 = .ok (.istore_n 3, 1) := by decide +kernel
theorem d_M_less_58 : decode b_M_less 58 = .ok (.iinc 4 1, 3) := by decide +kernel
theorem d_M_less_61 : decode b_M_less 61 = .ok (.goto (-56), 3) := by decide +kernel
theorem d_M_less_64 : decode b_M_less 64 = .ok (.iload_n 3, 1) := by decide +kernel
theorem d_M_less_65 : decode b_M_less 65 = .ok (.ireturn, 1) := by decide +kernel
theorem d_M_signs_0 : decode b_M_signs 0 = .ok (.aload_n 0, 1) := by decide +kernel
theorem d_M_signs_1 : decode b_M_signs 1 = .ok (.aload_n 0, 1) := by decide +kernel
theorem d_M_signs_2 : decode b_M_signs 2 = .ok (.iload_n 1, 1) := by decide +kernel
theorem d_M_signs_3 : decode b_M_signs 3 = .ok (.invokevirtual 43, 3) := by decide +kernel
theorem d_M_signs_6 : decode b_M_signs 6 = .ok (.ifCond .ne 11, 3) := by decide +kernel
theorem d_M_signs_9 : decode b_M_signs 9 = .ok (.aload_n 0, 1) := by decide +kernel
theorem d_M_signs_10 : decode b_M_signs 10 = .ok (.iload_n 2, 1) := by decide +kernel
theorem d_M_signs_11 : decode b_M_signs 11 = .ok (.invokevirtual 43, 3) := by decide +kernel
theorem d_M_signs_14 : decode b_M_signs 14 = .ok (.ifCond .eq 7, 3) := by decide +kernel
theorem d_M_signs_17 : decode b_M_signs 17 = .ok (.iconst 1, 1) := by decide +kernel
theorem d_M_signs_18 : decode b_M_signs 18 = .ok (.goto 20, 3) := by decide +kernel
theorem d_M_signs_21 : decode b_M_signs 21 = .ok (.iload_n 3, 1) := by decide +kernel
theorem d_M_signs_22 : decode b_M_signs 22 = .ok (.i2l, 1) := by decide +kernel
theorem d_M_signs_23 : decode b_M_signs 23 = .ok (.lconst 0, 1) := by decide +kernel
theorem d_M_signs_24 : decode b_M_signs 24 = .ok (.ldc2_w 118, 3) := by decide +kernel
theorem d_M_signs_27 : decode b_M_signs 27 = .ok (.invokestatic 59, 3) := by decide +kernel
theorem d_M_signs_30 : decode b_M_signs 30 = .ok (.ifCond .ne 7, 3) := by decide +kernel
theorem d_M_signs_33 : decode b_M_signs 33 = .ok (.iconst 2, 1) := by decide +kernel
theorem d_M_signs_34 : decode b_M_signs 34 = .ok (.goto 4, 3) := by decide +kernel
theorem d_M_signs_37 : decode b_M_signs 37 = .ok (.iconst 0, 1) := by decide +kernel
theorem d_M_signs_38 : decode b_M_signs 38 = .ok (.invokevirtual 50, 3) := by decide +kernel
theorem d_M_signs_41 : decode b_M_signs 41 = .ok (.ifCond .eq 5, 3) := by decide +kernel
theorem d_M_signs_44 : decode b_M_signs 44 = .ok (.lconst 0, 1) := by decide +kernel
theorem d_M_signs_45 : decode b_M_signs 45 = .ok (.lreturn, 1) := by decide +kernel
theorem d_M_signs_46 : decode b_M_signs 46 = .ok (.aload_n 0, 1) := by decide +kernel
theorem d_M_signs_47 : decode b_M_signs 47 = .ok (.iload_n 1, 1) := by decide +kernel
theorem d_M_signs_48 : decode b_M_signs 48 = .ok (.iload_n 2, 1) := by decide +kernel
theorem d_M_signs_49 : decode b_M_signs 49 = .ok (.invokevirtual 120, 3) := by decide +kernel
theorem d_M_signs_52 : decode b_M_signs 52 = .ok (.istore 4, 2) := by decide +kernel
theorem d_M_signs_54 : decode b_M_signs 54 = .ok (.aload_n 0, 1) := by decide +kernel
theorem d_M_signs_55 : decode b_M_signs 55 = .ok (.iload_n 2, 1) := by decide +kernel
theorem d_M_signs_56 : decode b_M_signs 56 = .ok (.iload_n 1, 1) := by decide +kernel
theorem d_M_signs_57 : decode b_M_signs 57 = .ok (.invokevirtual 120, 3) := by decide +kernel
theorem d_M_signs_60 : decode b_M_signs 60 = .ok (.istore 5, 2) := by decide +kernel
theorem d_M_signs_62 : decode b_M_signs 62 = .ok (.iload_n 3, 1) := by decide +kernel
theorem d_M_signs_63 : decode b_M_signs 63 = .ok (.iconst 2, 1) := by decide +kernel
theorem d_M_signs_64 : decode b_M_signs 64 = .ok (.if_icmp .ge 17, 3) := by decide +kernel
theorem d_M_signs_67 : decode b_M_signs 67 = .ok (.iload_n 3, 1) := by decide +kernel
theorem d_M_signs_68 : decode b_M_signs 68 = .ok (.ifCond .ne 9, 3) := by decide +kernel
theorem d_M_signs_71 : decode b_M_signs 71 = .ok (.iload 4, 2) := by decide +kernel
theorem d_M_signs_73 : decode b_M_signs 73 = .ok (.i2l, 1) := by decide +kernel
theorem d_M_signs_74 : decode b_M_signs 74 = .ok (.goto 6, 3) := by decide +kernel
theorem d_M_signs_77 : decode b_M_signs 77 = .ok (.iload 5, 2) := by decide +kernel
theorem d_M_signs_79 : decode b_M_signs 79 = .ok (.i2l, 1) := by decide +kernel
theorem d_M_signs_80 : decode b_M_signs 80 = .ok (.lreturn, 1) := by decide +kernel
theorem d_M_signs_81 : decode b_M_signs 81 = .ok (.iconst 0, 1) := by decide +kernel
theorem d_M_signs_82 : decode b_M_signs 82 = .ok (.istore 6, 2) := by decide +kernel
theorem d_M_signs_84 : decode b_M_signs 84 = .ok (.iload 6, 2) := by decide +kernel
theorem d_M_signs_86 : decode b_M_signs 86 = .ok (.bipush 25, 2) := by decide +kernel
theorem d_M_signs_88 : decode b_M_signs 88 = .ok (.if_icmp .ge 26, 3) := by decide +kernel
theorem d_M_signs_91 : decode b_M_signs 91 = .ok (.aload_n 0, 1) := by decide +kernel
theorem d_M_signs_92 : decode b_M_signs 92 = .ok (.getfield 32, 3) := by decide +kernel
theorem d_M_signs_95 : decode b_M_signs 95 = .ok (.iload 6, 2) := by decide +kernel
theorem d_M_signs_97 : decode b_M_signs 97 = .ok (.iload 6, 2) := by decide +kernel
theorem d_M_signs_99 : decode b_M_signs 99 = .ok (.ifCond .ne 7, 3) := by decide +kernel
theorem d_M_signs_102 : decode b_M_signs 102 = .ok (.lconst 1, 1) := by decide +kernel
theorem d_M_signs_103 : decode b_M_signs 103 = .ok (.goto 4, 3) := by decide +kernel
theorem d_M_signs_106 : decode b_M_signs 106 = .ok (.lconst 0, 1) := by decide +kernel
theorem d_M_signs_107 : decode b_M_signs 107 = .ok (.lastore, 1) := by decide +kernel
theorem d_M_signs_108 : decode b_M_signs 108 = .ok (.iinc 6 1, 3) := by decide +kernel
theorem d_M_signs_111 : decode b_M_signs 111 = .ok (.goto (-27), 3) := by decide +kernel
theorem d_M_signs_114 : decode b_M_signs 114 = .ok (.iconst 1, 1) := by decide +kernel
theorem d_M_signs_115 : decode b_M_signs 115 = .ok (.istore 6, 2) := by decide +kernel
theorem d_M_signs_117 : decode b_M_signs 117 = .ok (.iload 6, 2) := by decide +kernel
theorem d_M_signs_119 : decode b_M_signs 119 = .ok (.iload 4, 2) := by decide +kernel
theorem d_M_signs_121 : decode b_M_signs 121 = .ok (.iload 5, 2) := by decide +kernel
theorem d_M_signs_123 : decode b_M_signs 123 = .ok (.iadd, 1) := by decide +kernel
theorem d_M_signs_124 : decode b_M_signs 124 = .ok (.if_icmp .gt 43, 3) := by decide +kernel
theorem d_M_signs_127 : decode b_M_signs 127 = .ok (.iload 6, 2) := by decide +kernel
theorem d_M_signs_129 : decode b_M_signs 129 = .ok (.istore 7, 2) := by decide +kernel
theorem d_M_signs_131 : decode b_M_signs 131 = .ok (.iload 7, 2) := by decide +kernel
theorem d_M_signs_133 : decode b_M_signs 133 = .ok (.ifCond .le 28, 3) := by decide +kernel
theorem d_M_signs_136 : decode b_M_signs 136 = .ok (.aload_n 0, 1) := by decide +kernel
theorem d_M_signs_137 : decode b_M_signs 137 = .ok (.getfield 32, 3) := by decide +kernel
theorem d_M_signs_140 : decode b_M_signs 140 = .ok (.iload 7, 2) := by decide +kernel
theorem d_M_signs_142 : decode b_M_signs 142 = .ok (.dup2, 1) := by decide +kernel
theorem d_M_signs_143 : decode b_M_signs 143 = .ok (.laload, 1) := by decide +kernel
theorem d_M_signs_144 : decode b_M_signs 144 = .ok (.aload_n 0, 1) := by decide +kernel
theorem d_M_signs_145 : decode b_M_signs 145 = .ok (.getfield 32, 3) := by decide +kernel
theorem d_M_signs_148 : decode b_M_signs 148 = .ok (.iload 7, 2) := by decide +kernel
theorem d_M_signs_150 : decode b_M_signs 150 = .ok (.iconst 1, 1) := by decide +kernel
theorem d_M_signs_151 : decode b_M_signs 151 = .ok (.isub, 1) := by decide +kernel
theorem d_M_signs_152 : decode b_M_signs 152 = .ok (.laload, 1) := by decide +kernel
theorem d_M_signs_153 : decode b_M_signs 153 = .ok (.ladd, 1) := by decide +kernel
theorem d_M_signs_154 : decode b_M_signs 154 = .ok (.lastore, 1) := by decide +kernel
theorem d_M_signs_155 : decode b_M_signs 155 = .ok (.iinc 7 (-1), 3) := by decide +kernel
theorem d_M_signs_158 : decode b_M_signs 158 = .ok (.goto (-27), 3) := by decide +kernel
theorem d_M_signs_161 : decode b_M_signs 161 = .ok (.iinc 6 1, 3) := by decide +kernel
theorem d_M_signs_164 : decode b_M_signs 164 = .ok (.goto (-47), 3) := by decide +kernel
theorem d_M_signs_167 : decode b_M_signs 167 = .ok (.lconst 1, 1) := by decide +kernel
theorem d_M_signs_168 : decode b_M_signs 168 = .ok (.iload 4, 2) := by decide +kernel
theorem d_M_signs_170 : decode b_M_signs 170 = .ok (.iload 5, 2) := by decide +kernel
theorem d_M_signs_172 : decode b_M_signs 172 = .ok (.iadd, 1) := by decide +kernel
theorem d_M_signs_173 : decode b_M_signs 173 = .ok (.lshl, 1) := by decide +kernel
theorem d_M_signs_174 : decode b_M_signs 174 = .ok (.lstore 6, 2) := by decide +kernel
theorem d_M_signs_176 : decode b_M_signs 176 = .ok (.lconst 0, 1) := by decide +kernel
theorem d_M_signs_177 : decode b_M_signs 177 = .ok (.lstore 8, 2) := by decide +kernel
theorem d_M_signs_179 : decode b_M_signs 179 = .ok (.iconst 0, 1) := by decide +kernel
theorem d_M_signs_180 : decode b_M_signs 180 = .ok (.istore 10, 2) := by decide +kernel
theorem d_M_signs_182 : decode b_M_signs 182 = .ok (.iload 10, 2) := by decide +kernel
theorem d_M_signs_184 : decode b_M_signs 184 = .ok (.iload 4, 2) := by decide +kernel
theorem d_M_signs_186 : decode b_M_signs 186 = .ok (.if_icmp .gt 32, 3) := by decide +kernel
theorem d_M_signs_189 : decode b_M_signs 189 = .ok (.iload 10, 2) := by decide +kernel
theorem d_M_signs_191 : decode b_M_signs 191 = .ok (.iload 5, 2) := by decide +kernel
theorem d_M_signs_193 : decode b_M_signs 193 = .ok (.if_icmp .gt 25, 3) := by decide +kernel
theorem d_M_signs_196 : decode b_M_signs 196 = .ok (.lload 8, 2) := by decide +kernel
theorem d_M_signs_198 : decode b_M_signs 198 = .ok (.ldc2_w 124, 3) := by decide +kernel
theorem d_M_signs_201 : decode b_M_signs 201 = .ok (.aload_n 0, 1) := by decide +kernel
theorem d_M_signs_202 : decode b_M_signs 202 = .ok (.getfield 32, 3) := by decide +kernel
theorem d_M_signs_205 : decode b_M_signs 205 = .ok (.iload 10, 2) := by decide +kernel
theorem d_M_signs_207 : decode b_M_signs 207 = .ok (.laload, 1) := by decide +kernel
theorem d_M_signs_208 : decode b_M_signs 208 = .ok (.lmul, 1) := by decide +kernel
theorem d_M_signs_209 : decode b_M_signs 209 = .ok (.ladd, 1) := by decide +kernel
theorem d_M_signs_210 : decode b_M_signs 210 = .ok (.lstore 8, 2) := by decide +kernel
theorem d_M_signs_212 : decode b_M_signs 212 = .ok (.iinc 10 1, 3) := by decide +kernel
theorem d_M_signs_215 : decode b_M_signs 215 = .ok (.goto (-33), 3) := by decide +kernel
theorem d_M_signs_218 : decode b_M_signs 218 = .ok (.lload 8, 2) := by decide +kernel
theorem d_M_signs_220 : decode b_M_signs 220 = .ok (.lload 6, 2) := by decide +kernel
theorem d_M_signs_222 : decode b_M_signs 222 = .ok (.lcmp, 1) := by decide +kernel
theorem d_M_signs_223 : decode b_M_signs 223 = .ok (.ifCond .le 8, 3) := by decide +kernel
theorem d_M_signs_226 : decode b_M_signs 226 = .ok (.lload 6, 2) := by decide +kernel
theorem d_M_signs_228 : decode b_M_signs 228 = .ok (.goto 5, 3) := by decide +kernel
theorem d_M_signs_231 : decode b_M_signs 231 = .ok (.lload 8, 2) := by decide +kernel
theorem d_M_signs_233 : decode b_M_signs 233 = .ok (.lload 6, 2) := by decide +kernel
theorem d_M_signs_235 : decode b_M_signs 235 = .ok (.iload_n 3, 1) := by decide +kernel
theorem d_M_signs_236 : decode b_M_signs 236 = .ok (.iconst 2, 1) := by decide +kernel
theorem d_M_signs_237 : decode b_M_signs 237 = .ok (.if_icmp .ne 7, 3) := by decide +kernel
theorem d_M_signs_240 : decode b_M_signs 240 = .ok (.iconst 1, 1) := by decide +kernel
theorem d_M_signs_241 : decode b_M_signs 241 = .ok (.goto 4, 3) := by decide +kernel
theorem d_M_signs_244 : decode b_M_signs 244 = .ok (.iconst 0, 1) := by decide +kernel
theorem d_M_signs_245 : decode b_M_signs 245 = .ok (.invokestatic 91, 3) := by decide +kernel
theorem d_M_signs_248 : decode b_M_signs 248 = .ok (.lreturn, 1) := by decide +kernel
theorem d_M_draw_0 : decode b_M_draw 0 = .ok (.aload_n 0, 1) := by decide +kernel
theorem d_M_draw_1 : decode b_M_draw 1 = .ok (.aload_n 0, 1) := by decide +kernel
theorem d_M_draw_2 : decode b_M_draw 2 = .ok (.getfield 126, 3) := by decide +kernel
theorem d_M_draw_5 : decode b_M_draw 5 = .ok (.ldc2_w 130, 3) := by decide +kernel
theorem d_M_draw_8 : decode b_M_draw 8 = .ok (.lmul, 1) := by decide +kernel
theorem d_M_draw_9 : decode b_M_draw 9 = .ok (.ldc2_w 132, 3) := by decide +kernel
theorem d_M_draw_12 : decode b_M_draw 12 = .ok (.ladd, 1) := by decide +kernel
theorem d_M_draw_13 : decode b_M_draw 13 = .ok (.putfield 126, 3) := by decide +kernel
theorem d_M_draw_16 : decode b_M_draw 16 = .ok (.aload_n 0, 1) := by decide +kernel
theorem d_M_draw_17 : decode b_M_draw 17 = .ok (.getfield 126, 3) := by decide +kernel
theorem d_M_draw_20 : decode b_M_draw 20 = .ok (.bipush 33, 2) := by decide +kernel
theorem d_M_draw_22 : decode b_M_draw 22 = .ok (.lushr, 1) := by decide +kernel
theorem d_M_draw_23 : decode b_M_draw 23 = .ok (.iload_n 1, 1) := by decide +kernel
theorem d_M_draw_24 : decode b_M_draw 24 = .ok (.i2l, 1) := by decide +kernel
theorem d_M_draw_25 : decode b_M_draw 25 = .ok (.lrem, 1) := by decide +kernel
theorem d_M_draw_26 : decode b_M_draw 26 = .ok (.l2i, 1) := by decide +kernel
theorem d_M_draw_27 : decode b_M_draw 27 = .ok (.ireturn, 1) := by decide +kernel
theorem d_M_both_0 : decode b_M_both 0 = .ok (.iload_n 3, 1) := by decide +kernel
theorem d_M_both_1 : decode b_M_both 1 = .ok (.istore 4, 2) := by decide +kernel
theorem d_M_both_3 : decode b_M_both 3 = .ok (.iconst 0, 1) := by decide +kernel
theorem d_M_both_4 : decode b_M_both 4 = .ok (.istore 5, 2) := by decide +kernel
theorem d_M_both_6 : decode b_M_both 6 = .ok (.iload 4, 2) := by decide +kernel
theorem d_M_both_8 : decode b_M_both 8 = .ok (.ifCond .gt 14, 3) := by decide +kernel
theorem d_M_both_11 : decode b_M_both 11 = .ok (.aload_n 0, 1) := by decide +kernel
theorem d_M_both_12 : decode b_M_both 12 = .ok (.iload_n 1, 1) := by decide +kernel
theorem d_M_both_13 : decode b_M_both 13 = .ok (.iload_n 2, 1) := by decide +kernel
theorem d_M_both_14 : decode b_M_both 14 = .ok (.iload 5, 2) := by decide +kernel
theorem d_M_both_16 : decode b_M_both 16 = .ok (.invokevirtual 115, 3) := by decide +kernel
theorem d_M_both_19 : decode b_M_both 19 = .ok (.ifCond .ne 30, 3) := by decide +kernel
theorem d_M_both_22 : decode b_M_both 22 = .ok (.iload 4, 2) := by decide +kernel
theorem d_M_both_24 : decode b_M_both 24 = .ok (.aload_n 0, 1) := by decide +kernel
theorem d_M_both_25 : decode b_M_both 25 = .ok (.iload_n 1, 1) := by decide +kernel
theorem d_M_both_26 : decode b_M_both 26 = .ok (.iload_n 2, 1) := by decide +kernel
theorem d_M_both_27 : decode b_M_both 27 = .ok (.iload 5, 2) := by decide +kernel
theorem d_M_both_29 : decode b_M_both 29 = .ok (.invokevirtual 115, 3) := by decide +kernel
theorem d_M_both_32 : decode b_M_both 32 = .ok (.ifCond .eq 7, 3) := by decide +kernel
theorem d_M_both_35 : decode b_M_both 35 = .ok (.iconst 1, 1) := by decide +kernel
theorem d_M_both_36 : decode b_M_both 36 = .ok (.goto 4, 3) := by decide +kernel
theorem d_M_both_39 : decode b_M_both 39 = .ok (.iconst 0, 1) := by decide +kernel
theorem d_M_both_40 : decode b_M_both 40 = .ok (.isub, 1) := by decide +kernel
theorem d_M_both_41 : decode b_M_both 41 = .ok (.istore 4, 2) := by decide +kernel
theorem d_M_both_43 : decode b_M_both 43 = .ok (.iinc 5 1, 3) := by decide +kernel
theorem d_M_both_46 : decode b_M_both 46 = .ok (.goto (-40), 3) := by decide +kernel
theorem d_M_both_49 : decode b_M_both 49 = .ok (.iload 5, 2) := by decide +kernel
theorem d_M_both_51 : decode b_M_both 51 = .ok (.ireturn, 1) := by decide +kernel
theorem d_M_draws_0 : decode b_M_draws 0 = .ok (.aload_n 0, 1) := by decide +kernel
theorem d_M_draws_1 : decode b_M_draws 1 = .ok (.iload_n 1, 1) := by decide +kernel
theorem d_M_draws_2 : decode b_M_draws 2 = .ok (.invokevirtual 43, 3) := by decide +kernel
theorem d_M_draws_5 : decode b_M_draws 5 = .ok (.ifCond .ne 11, 3) := by decide +kernel
theorem d_M_draws_8 : decode b_M_draws 8 = .ok (.aload_n 0, 1) := by decide +kernel
theorem d_M_draws_9 : decode b_M_draws 9 = .ok (.iload_n 2, 1) := by decide +kernel
theorem d_M_draws_10 : decode b_M_draws 10 = .ok (.invokevirtual 43, 3) := by decide +kernel
theorem d_M_draws_13 : decode b_M_draws 13 = .ok (.ifCond .eq 7, 3) := by decide +kernel
theorem d_M_draws_16 : decode b_M_draws 16 = .ok (.iconst 1, 1) := by decide +kernel
theorem d_M_draws_17 : decode b_M_draws 17 = .ok (.goto 4, 3) := by decide +kernel
theorem d_M_draws_20 : decode b_M_draws 20 = .ok (.iconst 0, 1) := by decide +kernel
theorem d_M_draws_21 : decode b_M_draws 21 = .ok (.istore 6, 2) := by decide +kernel
theorem d_M_draws_23 : decode b_M_draws 23 = .ok (.iconst 0, 1) := by decide +kernel
theorem d_M_draws_24 : decode b_M_draws 24 = .ok (.istore 7, 2) := by decide +kernel
theorem d_M_draws_26 : decode b_M_draws 26 = .ok (.iconst 0, 1) := by decide +kernel
theorem d_M_draws_27 : decode b_M_draws 27 = .ok (.istore 8, 2) := by decide +kernel
theorem d_M_draws_29 : decode b_M_draws 29 = .ok (.iload 8, 2) := by decide +kernel
theorem d_M_draws_31 : decode b_M_draws 31 = .ok (.aload_n 0, 1) := by decide +kernel
theorem d_M_draws_32 : decode b_M_draws 32 = .ok (.getfield 47, 3) := by decide +kernel
theorem d_M_draws_35 : decode b_M_draws 35 = .ok (.if_icmp .ge 35, 3) := by decide +kernel
theorem d_M_draws_38 : decode b_M_draws 38 = .ok (.iload 6, 2) := by decide +kernel
theorem d_M_draws_40 : decode b_M_draws 40 = .ok (.ifCond .ne 30, 3) := by decide +kernel
theorem d_M_draws_43 : decode b_M_draws 43 = .ok (.iload 7, 2) := by decide +kernel
theorem d_M_draws_45 : decode b_M_draws 45 = .ok (.aload_n 0, 1) := by decide +kernel
theorem d_M_draws_46 : decode b_M_draws 46 = .ok (.iload_n 1, 1) := by decide +kernel
theorem d_M_draws_47 : decode b_M_draws 47 = .ok (.iload_n 2, 1) := by decide +kernel
theorem d_M_draws_48 : decode b_M_draws 48 = .ok (.iload 8, 2) := by decide +kernel
theorem d_M_draws_50 : decode b_M_draws 50 = .ok (.invokevirtual 115, 3) := by decide +kernel
theorem d_M_draws_53 : decode b_M_draws 53 = .ok (.ifCond .eq 7, 3) := by decide +kernel
theorem d_M_draws_56 : decode b_M_draws 56 = .ok (.iconst 1, 1) := by decide +kernel
theorem d_M_draws_57 : decode b_M_draws 57 = .ok (.goto 4, 3) := by decide +kernel
theorem d_M_draws_60 : decode b_M_draws 60 = .ok (.iconst 0, 1) := by decide +kernel
theorem d_M_draws_61 : decode b_M_draws 61 = .ok (.iadd, 1) := by decide +kernel
theorem d_M_draws_62 : decode b_M_draws 62 = .ok (.istore 7, 2) := by decide +kernel
theorem d_M_draws_64 : decode b_M_draws 64 = .ok (.iinc 8 1, 3) := by decide +kernel
theorem d_M_draws_67 : decode b_M_draws 67 = .ok (.goto (-38), 3) := by decide +kernel
theorem d_M_draws_70 : decode b_M_draws 70 = .ok (.aload_n 0, 1) := by decide +kernel
theorem d_M_draws_71 : decode b_M_draws 71 = .ok (.iload 6, 2) := by decide +kernel
theorem d_M_draws_73 : decode b_M_draws 73 = .ok (.ifCond .eq 7, 3) := by decide +kernel
theorem d_M_draws_76 : decode b_M_draws 76 = .ok (.iconst 1, 1) := by decide +kernel
theorem d_M_draws_77 : decode b_M_draws 77 = .ok (.goto 30, 3) := by decide +kernel
theorem d_M_draws_80 : decode b_M_draws 80 = .ok (.iload 5, 2) := by decide +kernel
theorem d_M_draws_82 : decode b_M_draws 82 = .ok (.i2l, 1) := by decide +kernel
theorem d_M_draws_83 : decode b_M_draws 83 = .ok (.lconst 0, 1) := by decide +kernel
theorem d_M_draws_84 : decode b_M_draws 84 = .ok (.ldc2_w 134, 3) := by decide +kernel
theorem d_M_draws_87 : decode b_M_draws 87 = .ok (.invokestatic 59, 3) := by decide +kernel
theorem d_M_draws_90 : decode b_M_draws 90 = .ok (.ifCond .ne 7, 3) := by decide +kernel
theorem d_M_draws_93 : decode b_M_draws 93 = .ok (.iconst 2, 1) := by decide +kernel
theorem d_M_draws_94 : decode b_M_draws 94 = .ok (.goto 13, 3) := by decide +kernel
theorem d_M_draws_97 : decode b_M_draws 97 = .ok (.iload 7, 2) := by decide +kernel
theorem d_M_draws_99 : decode b_M_draws 99 = .ok (.ifCond .ne 7, 3) := by decide +kernel
theorem d_M_draws_102 : decode b_M_draws 102 = .ok (.iconst 3, 1) := by decide +kernel
theorem d_M_draws_103 : decode b_M_draws 103 = .ok (.goto 4, 3) := by decide +kernel
theorem d_M_draws_106 : decode b_M_draws 106 = .ok (.iconst 0, 1) := by decide +kernel
theorem d_M_draws_107 : decode b_M_draws 107 = .ok (.invokevirtual 50, 3) := by decide +kernel
theorem d_M_draws_110 : decode b_M_draws 110 = .ok (.ifCond .eq 5, 3) := by decide +kernel
theorem d_M_draws_113 : decode b_M_draws 113 = .ok (.iconst 0, 1) := by decide +kernel
theorem d_M_draws_114 : decode b_M_draws 114 = .ok (.ireturn, 1) := by decide +kernel
theorem d_M_draws_115 : decode b_M_draws 115 = .ok (.aload_n 0, 1) := by decide +kernel
theorem d_M_draws_116 : decode b_M_draws 116 = .ok (.lload_n 3, 1) := by decide +kernel
theorem d_M_draws_117 : decode b_M_draws 117 = .ok (.putfield 126, 3) := by decide +kernel
theorem d_M_draws_120 : decode b_M_draws 120 = .ok (.iconst 0, 1) := by decide +kernel
theorem d_M_draws_121 : decode b_M_draws 121 = .ok (.istore 8, 2) := by decide +kernel
theorem d_M_draws_123 : decode b_M_draws 123 = .ok (.iconst 0, 1) := by decide +kernel
theorem d_M_draws_124 : decode b_M_draws 124 = .ok (.istore 9, 2) := by decide +kernel
theorem d_M_draws_126 : decode b_M_draws 126 = .ok (.iload 9, 2) := by decide +kernel
theorem d_M_draws_128 : decode b_M_draws 128 = .ok (.iload 5, 2) := by decide +kernel
theorem d_M_draws_130 : decode b_M_draws 130 = .ok (.if_icmp .ge 97, 3) := by decide +kernel
theorem d_M_draws_133 : decode b_M_draws 133 = .ok (.lconst 0, 1) := by decide +kernel
theorem d_M_draws_134 : decode b_M_draws 134 = .ok (.lstore 10, 2) := by decide +kernel
theorem d_M_draws_136 : decode b_M_draws 136 = .ok (.lconst 0, 1) := by decide +kernel
theorem d_M_draws_137 : decode b_M_draws 137 = .ok (.lstore 12, 2) := by decide +kernel
theorem d_M_draws_139 : decode b_M_draws 139 = .ok (.iconst 0, 1) := by decide +kernel
theorem d_M_draws_140 : decode b_M_draws 140 = .ok (.istore 14, 2) := by decide +kernel
theorem d_M_draws_142 : decode b_M_draws 142 = .ok (.iload 14, 2) := by decide +kernel
theorem d_M_draws_144 : decode b_M_draws 144 = .ok (.iload 7, 2) := by decide +kernel
theorem d_M_draws_146 : decode b_M_draws 146 = .ok (.if_icmp .ge 57, 3) := by decide +kernel
theorem d_M_draws_149 : decode b_M_draws 149 = .ok (.aload_n 0, 1) := by decide +kernel
theorem d_M_draws_150 : decode b_M_draws 150 = .ok (.iload_n 1, 1) := by decide +kernel
theorem d_M_draws_151 : decode b_M_draws 151 = .ok (.iload_n 2, 1) := by decide +kernel
theorem d_M_draws_152 : decode b_M_draws 152 = .ok (.aload_n 0, 1) := by decide +kernel
theorem d_M_draws_153 : decode b_M_draws 153 = .ok (.iload 7, 2) := by decide +kernel
theorem d_M_draws_155 : decode b_M_draws 155 = .ok (.invokevirtual 136, 3) := by decide +kernel
theorem d_M_draws_158 : decode b_M_draws 158 = .ok (.invokevirtual 139, 3) := by decide +kernel
theorem d_M_draws_161 : decode b_M_draws 161 = .ok (.istore 15, 2) := by decide +kernel
theorem d_M_draws_163 : decode b_M_draws 163 = .ok (.lload 10, 2) := by decide +kernel
theorem d_M_draws_165 : decode b_M_draws 165 = .ok (.aload_n 0, 1) := by decide +kernel
theorem d_M_draws_166 : decode b_M_draws 166 = .ok (.bipush 24, 2) := by decide +kernel
theorem d_M_draws_168 : decode b_M_draws 168 = .ok (.iload_n 1, 1) := by decide +kernel
theorem d_M_draws_169 : decode b_M_draws 169 = .ok (.imul, 1) := by decide +kernel
theorem d_M_draws_170 : decode b_M_draws 170 = .ok (.iload 15, 2) := by decide +kernel
theorem d_M_draws_172 : decode b_M_draws 172 = .ok (.iadd, 1) := by decide +kernel
theorem d_M_draws_173 : decode b_M_draws 173 = .ok (.invokevirtual 74, 3) := by decide +kernel
theorem d_M_draws_176 : decode b_M_draws 176 = .ok (.i2l, 1) := by decide +kernel
theorem d_M_draws_177 : decode b_M_draws 177 = .ok (.ladd, 1) := by decide +kernel
theorem d_M_draws_178 : decode b_M_draws 178 = .ok (.lstore 10, 2) := by decide +kernel
theorem d_M_draws_180 : decode b_M_draws 180 = .ok (.lload 12, 2) := by decide +kernel
theorem d_M_draws_182 : decode b_M_draws 182 = .ok (.aload_n 0, 1) := by decide +kernel
theorem d_M_draws_183 : decode b_M_draws 183 = .ok (.bipush 24, 2) := by decide +kernel
theorem d_M_draws_185 : decode b_M_draws 185 = .ok (.iload_n 2, 1) := by decide +kernel
theorem d_M_draws_186 : decode b_M_draws 186 = .ok (.imul, 1) := by decide +kernel
theorem d_M_draws_187 : decode b_M_draws 187 = .ok (.iload 15, 2) := by decide +kernel
theorem d_M_draws_189 : decode b_M_draws 189 = .ok (.iadd, 1) := by decide +kernel
theorem d_M_draws_190 : decode b_M_draws 190 = .ok (.invokevirtual 74, 3) := by decide +kernel
theorem d_M_draws_193 : decode b_M_draws 193 = .ok (.i2l, 1) := by decide +kernel
theorem d_M_draws_194 : decode b_M_draws 194 = .ok (.ladd, 1) := by decide +kernel
theorem d_M_draws_195 : decode b_M_draws 195 = .ok (.lstore 12, 2) := by decide +kernel
theorem d_M_draws_197 : decode b_M_draws 197 = .ok (.iinc 14 1, 3) := by decide +kernel
theorem d_M_draws_200 : decode b_M_draws 200 = .ok (.goto (-58), 3) := by decide +kernel
theorem d_M_draws_203 : decode b_M_draws 203 = .ok (.iload 8, 2) := by decide +kernel
theorem d_M_draws_205 : decode b_M_draws 205 = .ok (.lload 10, 2) := by decide +kernel
theorem d_M_draws_207 : decode b_M_draws 207 = .ok (.lload 12, 2) := by decide +kernel
theorem d_M_draws_209 : decode b_M_draws 209 = .ok (.lcmp, 1) := by decide +kernel
theorem d_M_draws_210 : decode b_M_draws 210 = .ok (.ifCond .ge 7, 3) := by decide +kernel
theorem d_M_draws_213 : decode b_M_draws 213 = .ok (.iconst 1, 1) := by decide +kernel
theorem d_M_draws_214 : decode b_M_draws 214 = .ok (.goto 4, 3) := by decide +kernel
theorem d_M_draws_217 : decode b_M_draws 217 = .ok (.iconst 0, 1) := by decide +kernel
theorem d_M_draws_218 : decode b_M_draws 218 = .ok (.iadd, 1) := by decide +kernel
theorem d_M_draws_219 : decode b_M_draws 219 = .ok (.istore 8, 2) := by decide +kernel
theorem d_M_draws_221 : decode b_M_draws 221 = .ok (.iinc 9 1, 3) := by decide +kernel
theorem d_M_draws_224 : decode b_M_draws 224 = .ok (.goto (-98), 3) := by decide +kernel
theorem d_M_draws_227 : decode b_M_draws 227 = .ok (.iload 8, 2) := by decide +kernel
theorem d_M_draws_229 : decode b_M_draws 229 = .ok (.ireturn, 1) := by decide +kernel
theorem d_M_fill_0 : decode b_M_fill 0 = .ok (.aload_n 0, 1) := by decide +kernel
theorem d_M_fill_1 : decode b_M_fill 1 = .ok (.iconst 0, 1) := by decide +kernel
theorem d_M_fill_2 : decode b_M_fill 2 = .ok (.putfield 36, 3) := by decide +kernel
theorem d_M_fill_5 : decode b_M_fill 5 = .ok (.aload_n 0, 1) := by decide +kernel
theorem d_M_fill_6 : decode b_M_fill 6 = .ok (.lload_n 1, 1) := by decide +kernel
theorem d_M_fill_7 : decode b_M_fill 7 = .ok (.putfield 126, 3) := by decide +kernel
theorem d_M_fill_10 : decode b_M_fill 10 = .ok (.aload_n 0, 1) := by decide +kernel
theorem d_M_fill_11 : decode b_M_fill 11 = .ok (.iconst 0, 1) := by decide +kernel
theorem d_M_fill_12 : decode b_M_fill 12 = .ok (.putfield 67, 3) := by decide +kernel
theorem d_M_fill_15 : decode b_M_fill 15 = .ok (.iconst 0, 1) := by decide +kernel
theorem d_M_fill_16 : decode b_M_fill 16 = .ok (.istore_n 3, 1) := by decide +kernel
theorem d_M_fill_17 : decode b_M_fill 17 = .ok (.iload_n 3, 1) := by decide +kernel
theorem d_M_fill_18 : decode b_M_fill 18 = .ok (.sipush 192, 3) := by decide +kernel
theorem d_M_fill_21 : decode b_M_fill 21 = .ok (.if_icmp .ge 23, 3) := by decide +kernel
theorem d_M_fill_24 : decode b_M_fill 24 = .ok (.aload_n 0, 1) := by decide +kernel
theorem d_M_fill_25 : decode b_M_fill 25 = .ok (.getfield 7, 3) := by decide +kernel
theorem d_M_fill_28 : decode b_M_fill 28 = .ok (.iload_n 3, 1) := by decide +kernel
theorem d_M_fill_29 : decode b_M_fill 29 = .ok (.iconst 0, 1) := by decide +kernel
theorem d_M_fill_30 : decode b_M_fill 30 = .ok (.iastore, 1) := by decide +kernel
theorem d_M_fill_31 : decode b_M_fill 31 = .ok (.aload_n 0, 1) := by decide +kernel
theorem d_M_fill_32 : decode b_M_fill 32 = .ok (.getfield 13, 3) := by decide +kernel
theorem d_M_fill_35 : decode b_M_fill 35 = .ok (.iload_n 3, 1) := by decide +kernel
theorem d_M_fill_36 : decode b_M_fill 36 = .ok (.iconst 0, 1) := by decide +kernel
theorem d_M_fill_37 : decode b_M_fill 37 = .ok (.bastore, 1) := by decide +kernel
theorem d_M_fill_38 : decode b_M_fill 38 = .ok (.iinc 3 1, 3) := by decide +kernel
theorem d_M_fill_41 : decode b_M_fill 41 = .ok (.goto (-24), 3) := by decide +kernel
theorem d_M_fill_44 : decode b_M_fill 44 = .ok (.iconst 0, 1) := by decide +kernel
theorem d_M_fill_45 : decode b_M_fill 45 = .ok (.istore_n 3, 1) := by decide +kernel
theorem d_M_fill_46 : decode b_M_fill 46 = .ok (.iload_n 3, 1) := by decide +kernel
theorem d_M_fill_47 : decode b_M_fill 47 = .ok (.aload_n 0, 1) := by decide +kernel
theorem d_M_fill_48 : decode b_M_fill 48 = .ok (.getfield 40, 3) := by decide +kernel
theorem d_M_fill_51 : decode b_M_fill 51 = .ok (.if_icmp .ge 38, 3) := by decide +kernel
theorem d_M_fill_54 : decode b_M_fill 54 = .ok (.iconst 0, 1) := by decide +kernel
theorem d_M_fill_55 : decode b_M_fill 55 = .ok (.istore 4, 2) := by decide +kernel
theorem d_M_fill_57 : decode b_M_fill 57 = .ok (.iload 4, 2) := by decide +kernel
theorem d_M_fill_59 : decode b_M_fill 59 = .ok (.aload_n 0, 1) := by decide +kernel
theorem d_M_fill_60 : decode b_M_fill 60 = .ok (.getfield 47, 3) := by decide +kernel
theorem d_M_fill_63 : decode b_M_fill 63 = .ok (.if_icmp .ge 20, 3) := by decide +kernel
theorem d_M_fill_66 : decode b_M_fill 66 = .ok (.aload_n 0, 1) := by decide +kernel
theorem d_M_fill_67 : decode b_M_fill 67 = .ok (.bipush 24, 2) := by decide +kernel
theorem d_M_fill_69 : decode b_M_fill 69 = .ok (.iload_n 3, 1) := by decide +kernel
theorem d_M_fill_70 : decode b_M_fill 70 = .ok (.imul, 1) := by decide +kernel
theorem d_M_fill_71 : decode b_M_fill 71 = .ok (.iload 4, 2) := by decide +kernel
theorem d_M_fill_73 : decode b_M_fill 73 = .ok (.iadd, 1) := by decide +kernel
theorem d_M_fill_74 : decode b_M_fill 74 = .ok (.invokevirtual 143, 3) := by decide +kernel
theorem d_M_fill_77 : decode b_M_fill 77 = .ok (.iinc 4 1, 3) := by decide +kernel
theorem d_M_fill_80 : decode b_M_fill 80 = .ok (.goto (-23), 3) := by decide +kernel
theorem d_M_fill_83 : decode b_M_fill 83 = .ok (.iinc 3 1, 3) := by decide +kernel
theorem d_M_fill_86 : decode b_M_fill 86 = .ok (.goto (-40), 3) := by decide +kernel
theorem d_M_fill_89 : decode b_M_fill 89 = .ok (.aload_n 0, 1) := by decide +kernel
theorem d_M_fill_90 : decode b_M_fill 90 = .ok (.invokevirtual 146, 3) := by decide +kernel
theorem d_M_fill_93 : decode b_M_fill 93 = .ok (.ireturn, 1) := by decide +kernel
theorem d_M_fillPair_0 : decode b_M_fillPair 0 = .ok (.aload_n 0, 1) := by decide +kernel
theorem d_M_fillPair_1 : decode b_M_fillPair 1 = .ok (.bipush 9, 2) := by decide +kernel
theorem d_M_fillPair_3 : decode b_M_fillPair 3 = .ok (.invokevirtual 136, 3) := by decide +kernel
theorem d_M_fillPair_6 : decode b_M_fillPair 6 = .ok (.bipush 8, 2) := by decide +kernel
theorem d_M_fillPair_8 : decode b_M_fillPair 8 = .ok (.if_icmp .ne 9, 3) := by decide +kernel
theorem d_M_fillPair_11 : decode b_M_fillPair 11 = .ok (.aload_n 0, 1) := by decide +kernel
theorem d_M_fillPair_12 : decode b_M_fillPair 12 = .ok (.iload_n 1, 1) := by decide +kernel
theorem d_M_fillPair_13 : decode b_M_fillPair 13 = .ok (.invokevirtual 70, 3) := by decide +kernel
theorem d_M_fillPair_16 : decode b_M_fillPair 16 = .ok (.return_, 1) := by decide +kernel
theorem d_M_fillPair_17 : decode b_M_fillPair 17 = .ok (.aload_n 0, 1) := by decide +kernel
theorem d_M_fillPair_18 : decode b_M_fillPair 18 = .ok (.bipush 7, 2) := by decide +kernel
theorem d_M_fillPair_20 : decode b_M_fillPair 20 = .ok (.invokevirtual 136, 3) := by decide +kernel
theorem d_M_fillPair_23 : decode b_M_fillPair 23 = .ok (.istore_n 2, 1) := by decide +kernel
theorem d_M_fillPair_24 : decode b_M_fillPair 24 = .ok (.iconst 0, 1) := by decide +kernel
theorem d_M_fillPair_25 : decode b_M_fillPair 25 = .ok (.istore_n 3, 1) := by decide +kernel
theorem d_M_fillPair_26 : decode b_M_fillPair 26 = .ok (.iload_n 3, 1) := by decide +kernel
theorem d_M_fillPair_27 : decode b_M_fillPair 27 = .ok (.iload_n 2, 1) := by decide +kernel
theorem d_M_fillPair_28 : decode b_M_fillPair 28 = .ok (.if_icmp .ge 34, 3) := by decide +kernel
theorem d_M_fillPair_31 : decode b_M_fillPair 31 = .ok (.aload_n 0, 1) := by decide +kernel
theorem d_M_fillPair_32 : decode b_M_fillPair 32 = .ok (.sipush 1000, 3) := by decide +kernel
theorem d_M_fillPair_35 : decode b_M_fillPair 35 = .ok (.invokevirtual 136, 3) := by decide +kernel
theorem d_M_fillPair_38 : decode b_M_fillPair 38 = .ok (.iconst 1, 1) := by decide +kernel
theorem d_M_fillPair_39 : decode b_M_fillPair 39 = .ok (.iadd, 1) := by decide +kernel
theorem d_M_fillPair_40 : decode b_M_fillPair 40 = .ok (.istore 4, 2) := by decide +kernel
theorem d_M_fillPair_42 : decode b_M_fillPair 42 = .ok (.aload_n 0, 1) := by decide +kernel
theorem d_M_fillPair_43 : decode b_M_fillPair 43 = .ok (.iload_n 1, 1) := by decide +kernel
theorem d_M_fillPair_44 : decode b_M_fillPair 44 = .ok (.iload 4, 2) := by decide +kernel
theorem d_M_fillPair_46 : decode b_M_fillPair 46 = .ok (.aload_n 0, 1) := by decide +kernel
theorem d_M_fillPair_47 : decode b_M_fillPair 47 = .ok (.sipush 1000, 3) := by decide +kernel
theorem d_M_fillPair_50 : decode b_M_fillPair 50 = .ok (.invokevirtual 136, 3) := by decide +kernel
theorem d_M_fillPair_53 : decode b_M_fillPair 53 = .ok (.invokevirtual 63, 3) := by decide +kernel
theorem d_M_fillPair_56 : decode b_M_fillPair 56 = .ok (.iinc 3 1, 3) := by decide +kernel
theorem d_M_fillPair_59 : decode b_M_fillPair 59 = .ok (.goto (-33), 3) := by decide +kernel
theorem d_M_fillPair_62 : decode b_M_fillPair 62 = .ok (.return_, 1) := by decide +kernel
theorem d_M_points_0 : decode b_M_points 0 = .ok (.iconst 0, 1) := by decide +kernel
theorem d_M_points_1 : decode b_M_points 1 = .ok (.istore_n 1, 1) := by decide +kernel
theorem d_M_points_2 : decode b_M_points 2 = .ok (.iconst 0, 1) := by decide +kernel
theorem d_M_points_3 : decode b_M_points 3 = .ok (.istore_n 2, 1) := by decide +kernel
theorem d_M_points_4 : decode b_M_points 4 = .ok (.iload_n 2, 1) := by decide +kernel
theorem d_M_points_5 : decode b_M_points 5 = .ok (.sipush 192, 3) := by decide +kernel
theorem d_M_points_8 : decode b_M_points 8 = .ok (.if_icmp .ge 18, 3) := by decide +kernel
theorem d_M_points_11 : decode b_M_points 11 = .ok (.iload_n 1, 1) := by decide +kernel
theorem d_M_points_12 : decode b_M_points 12 = .ok (.aload_n 0, 1) := by decide +kernel
theorem d_M_points_13 : decode b_M_points 13 = .ok (.getfield 7, 3) := by decide +kernel
theorem d_M_points_16 : decode b_M_points 16 = .ok (.iload_n 2, 1) := by decide +kernel
theorem d_M_points_17 : decode b_M_points 17 = .ok (.iaload, 1) := by decide +kernel
theorem d_M_points_18 : decode b_M_points 18 = .ok (.iadd, 1) := by decide +kernel
theorem d_M_points_19 : decode b_M_points 19 = .ok (.istore_n 1, 1) := by decide +kernel
theorem d_M_points_20 : decode b_M_points 20 = .ok (.iinc 2 1, 3) := by decide +kernel
theorem d_M_points_23 : decode b_M_points 23 = .ok (.goto (-19), 3) := by decide +kernel
theorem d_M_points_26 : decode b_M_points 26 = .ok (.iload_n 1, 1) := by decide +kernel
theorem d_M_points_27 : decode b_M_points 27 = .ok (.ireturn, 1) := by decide +kernel
theorem d_M_type_0 : decode b_M_type 0 = .ok (.aload_n 0, 1) := by decide +kernel
theorem d_M_type_1 : decode b_M_type 1 = .ok (.getfield 26, 3) := by decide +kernel
theorem d_M_type_4 : decode b_M_type 4 = .ok (.aload_n 0, 1) := by decide +kernel
theorem d_M_type_5 : decode b_M_type 5 = .ok (.getfield 150, 3) := by decide +kernel
theorem d_M_type_8 : decode b_M_type 8 = .ok (.iload_n 1, 1) := by decide +kernel
theorem d_M_type_9 : decode b_M_type 9 = .ok (.iastore, 1) := by decide +kernel
theorem d_M_type_10 : decode b_M_type 10 = .ok (.aload_n 0, 1) := by decide +kernel
theorem d_M_type_11 : decode b_M_type 11 = .ok (.dup, 1) := by decide +kernel
theorem d_M_type_12 : decode b_M_type 12 = .ok (.getfield 150, 3) := by decide +kernel
theorem d_M_type_15 : decode b_M_type 15 = .ok (.iconst 1, 1) := by decide +kernel
theorem d_M_type_16 : decode b_M_type 16 = .ok (.iadd, 1) := by decide +kernel
theorem d_M_type_17 : decode b_M_type 17 = .ok (.putfield 150, 3) := by decide +kernel
theorem d_M_type_20 : decode b_M_type 20 = .ok (.return_, 1) := by decide +kernel
theorem d_M_typeNumber_0 : decode b_M_typeNumber 0 = .ok (.lconst 1, 1) := by decide +kernel
theorem d_M_typeNumber_1 : decode b_M_typeNumber 1 = .ok (.lstore_n 3, 1) := by decide +kernel
theorem d_M_typeNumber_2 : decode b_M_typeNumber 2 = .ok (.lload_n 1, 1) := by decide +kernel
theorem d_M_typeNumber_3 : decode b_M_typeNumber 3 = .ok (.lload_n 3, 1) := by decide +kernel
theorem d_M_typeNumber_4 : decode b_M_typeNumber 4 = .ok (.ldiv, 1) := by decide +kernel
theorem d_M_typeNumber_5 : decode b_M_typeNumber 5 = .ok (.ldc2_w 153, 3) := by decide +kernel
theorem d_M_typeNumber_8 : decode b_M_typeNumber 8 = .ok (.lcmp, 1) := by decide +kernel
theorem d_M_typeNumber_9 : decode b_M_typeNumber 9 = .ok (.ifCond .le 12, 3) := by decide +kernel
theorem d_M_typeNumber_12 : decode b_M_typeNumber 12 = .ok (.ldc2_w 155, 3) := by decide +kernel
theorem d_M_typeNumber_15 : decode b_M_typeNumber 15 = .ok (.lload_n 3, 1) := by decide +kernel
theorem d_M_typeNumber_16 : decode b_M_typeNumber 16 = .ok (.lmul, 1) := by decide +kernel
theorem d_M_typeNumber_17 : decode b_M_typeNumber 17 = .ok (.lstore_n 3, 1) := by decide +kernel
theorem d_M_typeNumber_18 : decode b_M_typeNumber 18 = .ok (.goto (-16), 3) := by decide +kernel
theorem d_M_typeNumber_21 : decode b_M_typeNumber 21 = .ok (.lload_n 3, 1) := by decide +kernel
theorem d_M_typeNumber_22 : decode b_M_typeNumber 22 = .ok (.lconst 0, 1) := by decide +kernel
theorem d_M_typeNumber_23 : decode b_M_typeNumber 23 = .ok (.lcmp, 1) := by decide +kernel
theorem d_M_typeNumber_24 : decode b_M_typeNumber 24 = .ok (.ifCond .le 27, 3) := by decide +kernel
theorem d_M_typeNumber_27 : decode b_M_typeNumber 27 = .ok (.aload_n 0, 1) := by decide +kernel
theorem d_M_typeNumber_28 : decode b_M_typeNumber 28 = .ok (.bipush 48, 2) := by decide +kernel
theorem d_M_typeNumber_30 : decode b_M_typeNumber 30 = .ok (.lload_n 1, 1) := by decide +kernel
theorem d_M_typeNumber_31 : decode b_M_typeNumber 31 = .ok (.lload_n 3, 1) := by decide +kernel
theorem d_M_typeNumber_32 : decode b_M_typeNumber 32 = .ok (.ldiv, 1) := by decide +kernel
theorem d_M_typeNumber_33 : decode b_M_typeNumber 33 = .ok (.ldc2_w 155, 3) := by decide +kernel
theorem d_M_typeNumber_36 : decode b_M_typeNumber 36 = .ok (.lrem, 1) := by decide +kernel
theorem d_M_typeNumber_37 : decode b_M_typeNumber 37 = .ok (.l2i, 1) := by decide +kernel
theorem d_M_typeNumber_38 : decode b_M_typeNumber 38 = .ok (.iadd, 1) := by decide +kernel
theorem d_M_typeNumber_39 : decode b_M_typeNumber 39 = .ok (.invokevirtual 157, 3) := by decide +kernel
theorem d_M_typeNumber_42 : decode b_M_typeNumber 42 = .ok (.lload_n 3, 1) := by decide +kernel
theorem d_M_typeNumber_43 : decode b_M_typeNumber 43 = .ok (.ldc2_w 155, 3) := by decide +kernel
theorem d_M_typeNumber_46 : decode b_M_typeNumber 46 = .ok (.ldiv, 1) := by decide +kernel
theorem d_M_typeNumber_47 : decode b_M_typeNumber 47 = .ok (.lstore_n 3, 1) := by decide +kernel
theorem d_M_typeNumber_48 : decode b_M_typeNumber 48 = .ok (.goto (-27), 3) := by decide +kernel
theorem d_M_typeNumber_51 : decode b_M_typeNumber 51 = .ok (.return_, 1) := by decide +kernel
theorem d_M_text_0 : decode b_M_text 0 = .ok (.aload_n 0, 1) := by decide +kernel
theorem d_M_text_1 : decode b_M_text 1 = .ok (.iconst 0, 1) := by decide +kernel
theorem d_M_text_2 : decode b_M_text 2 = .ok (.putfield 36, 3) := by decide +kernel
theorem d_M_text_5 : decode b_M_text 5 = .ok (.aload_n 0, 1) := by decide +kernel
theorem d_M_text_6 : decode b_M_text 6 = .ok (.iconst 0, 1) := by decide +kernel
theorem d_M_text_7 : decode b_M_text 7 = .ok (.putfield 150, 3) := by decide +kernel
theorem d_M_text_10 : decode b_M_text 10 = .ok (.iconst 0, 1) := by decide +kernel
theorem d_M_text_11 : decode b_M_text 11 = .ok (.istore_n 1, 1) := by decide +kernel
theorem d_M_text_12 : decode b_M_text 12 = .ok (.iload_n 1, 1) := by decide +kernel
theorem d_M_text_13 : decode b_M_text 13 = .ok (.aload_n 0, 1) := by decide +kernel
theorem d_M_text_14 : decode b_M_text 14 = .ok (.getfield 40, 3) := by decide +kernel
theorem d_M_text_17 : decode b_M_text 17 = .ok (.if_icmp .ge 69, 3) := by decide +kernel
theorem d_M_text_20 : decode b_M_text 20 = .ok (.aload_n 0, 1) := by decide +kernel
theorem d_M_text_21 : decode b_M_text 21 = .ok (.iload_n 1, 1) := by decide +kernel
theorem d_M_text_22 : decode b_M_text 22 = .ok (.i2l, 1) := by decide +kernel
theorem d_M_text_23 : decode b_M_text 23 = .ok (.invokevirtual 160, 3) := by decide +kernel
theorem d_M_text_26 : decode b_M_text 26 = .ok (.aload_n 0, 1) := by decide +kernel
theorem d_M_text_27 : decode b_M_text 27 = .ok (.bipush 32, 2) := by decide +kernel
theorem d_M_text_29 : decode b_M_text 29 = .ok (.invokevirtual 157, 3) := by decide +kernel
theorem d_M_text_32 : decode b_M_text 32 = .ok (.aload_n 0, 1) := by decide +kernel
theorem d_M_text_33 : decode b_M_text 33 = .ok (.iload_n 1, 1) := by decide +kernel
theorem d_M_text_34 : decode b_M_text 34 = .ok (.invokevirtual 78, 3) := by decide +kernel
theorem d_M_text_37 : decode b_M_text 37 = .ok (.ifCond .le 31, 3) := by decide +kernel
theorem d_M_text_40 : decode b_M_text 40 = .ok (.aload_n 0, 1) := by decide +kernel
theorem d_M_text_41 : decode b_M_text 41 = .ok (.aload_n 0, 1) := by decide +kernel
theorem d_M_text_42 : decode b_M_text 42 = .ok (.iload_n 1, 1) := by decide +kernel
theorem d_M_text_43 : decode b_M_text 43 = .ok (.invokevirtual 83, 3) := by decide +kernel
theorem d_M_text_46 : decode b_M_text 46 = .ok (.invokevirtual 160, 3) := by decide +kernel
theorem d_M_text_49 : decode b_M_text 49 = .ok (.aload_n 0, 1) := by decide +kernel
theorem d_M_text_50 : decode b_M_text 50 = .ok (.bipush 32, 2) := by decide +kernel
theorem d_M_text_52 : decode b_M_text 52 = .ok (.invokevirtual 157, 3) := by decide +kernel
theorem d_M_text_55 : decode b_M_text 55 = .ok (.aload_n 0, 1) := by decide +kernel
theorem d_M_text_56 : decode b_M_text 56 = .ok (.aload_n 0, 1) := by decide +kernel
theorem d_M_text_57 : decode b_M_text 57 = .ok (.iload_n 1, 1) := by decide +kernel
theorem d_M_text_58 : decode b_M_text 58 = .ok (.invokevirtual 95, 3) := by decide +kernel
theorem d_M_text_61 : decode b_M_text 61 = .ok (.i2l, 1) := by decide +kernel
theorem d_M_text_62 : decode b_M_text 62 = .ok (.invokevirtual 160, 3) := by decide +kernel
theorem d_M_text_65 : decode b_M_text 65 = .ok (.goto 9, 3) := by decide +kernel
theorem d_M_text_68 : decode b_M_text 68 = .ok (.aload_n 0, 1) := by decide +kernel
theorem d_M_text_69 : decode b_M_text 69 = .ok (.bipush 45, 2) := by decide +kernel
theorem d_M_text_71 : decode b_M_text 71 = .ok (.invokevirtual 157, 3) := by decide +kernel
theorem d_M_text_74 : decode b_M_text 74 = .ok (.aload_n 0, 1) := by decide +kernel
end
section
theorem d_M_text_75 : decode b_M_text 75 = .ok (.bipush 10, 2) := by decide +kernel
theorem d_M_text_77 : decode b_M_text 77 = .ok (.invokevirtual 157, 3) := by decide +kernel
theorem d_M_text_80 : decode b_M_text 80 = .ok (.iinc 1 1, 3) := by decide +kernel
theorem d_M_text_83 : decode b_M_text 83 = .ok (.goto (-71), 3) := by decide +kernel
theorem d_M_text_86 : decode b_M_text 86 = .ok (.aload_n 0, 1) := by decide +kernel
theorem d_M_text_87 : decode b_M_text 87 = .ok (.getfield 150, 3) := by decide +kernel
theorem d_M_text_90 : decode b_M_text 90 = .ok (.ireturn, 1) := by decide +kernel
theorem d_M_charAt_0 : decode b_M_charAt 0 = .ok (.aload_n 0, 1) := by decide +kernel
theorem d_M_charAt_1 : decode b_M_charAt 1 = .ok (.iload_n 1, 1) := by decide +kernel
theorem d_M_charAt_2 : decode b_M_charAt 2 = .ok (.ifCond .lt 11, 3) := by decide +kernel
theorem d_M_charAt_5 : decode b_M_charAt 5 = .ok (.iload_n 1, 1) := by decide +kernel
theorem d_M_charAt_6 : decode b_M_charAt 6 = .ok (.aload_n 0, 1) := by decide +kernel
theorem d_M_charAt_7 : decode b_M_charAt 7 = .ok (.getfield 150, 3) := by decide +kernel
theorem d_M_charAt_10 : decode b_M_charAt 10 = .ok (.if_icmp .lt 7, 3) := by decide +kernel
theorem d_M_charAt_13 : decode b_M_charAt 13 = .ok (.iconst 1, 1) := by decide +kernel
theorem d_M_charAt_14 : decode b_M_charAt 14 = .ok (.goto 4, 3) := by decide +kernel
theorem d_M_charAt_17 : decode b_M_charAt 17 = .ok (.iconst 0, 1) := by decide +kernel
theorem d_M_charAt_18 : decode b_M_charAt 18 = .ok (.invokevirtual 50, 3) := by decide +kernel
theorem d_M_charAt_21 : decode b_M_charAt 21 = .ok (.ifCond .eq 5, 3) := by decide +kernel
theorem d_M_charAt_24 : decode b_M_charAt 24 = .ok (.iconst 0, 1) := by decide +kernel
theorem d_M_charAt_25 : decode b_M_charAt 25 = .ok (.ireturn, 1) := by decide +kernel
theorem d_M_charAt_26 : decode b_M_charAt 26 = .ok (.aload_n 0, 1) := by decide +kernel
theorem d_M_charAt_27 : decode b_M_charAt 27 = .ok (.getfield 26, 3) := by decide +kernel
theorem d_M_charAt_30 : decode b_M_charAt 30 = .ok (.iload_n 1, 1) := by decide +kernel
theorem d_M_charAt_31 : decode b_M_charAt 31 = .ok (.iaload, 1) := by decide +kernel
theorem d_M_charAt_32 : decode b_M_charAt 32 = .ok (.ireturn, 1) := by decide +kernel
theorem d_M_told_0 : decode b_M_told 0 = .ok (.aload_n 0, 1) := by decide +kernel
theorem d_M_told_1 : decode b_M_told 1 = .ok (.iconst 0, 1) := by decide +kernel
theorem d_M_told_2 : decode b_M_told 2 = .ok (.putfield 36, 3) := by decide +kernel
theorem d_M_told_5 : decode b_M_told 5 = .ok (.iconst 0, 1) := by decide +kernel
theorem d_M_told_6 : decode b_M_told 6 = .ok (.istore_n 2, 1) := by decide +kernel
theorem d_M_told_7 : decode b_M_told 7 = .ok (.iconst 0, 1) := by decide +kernel
theorem d_M_told_8 : decode b_M_told 8 = .ok (.istore_n 3, 1) := by decide +kernel
theorem d_M_told_9 : decode b_M_told 9 = .ok (.iload_n 3, 1) := by decide +kernel
theorem d_M_told_10 : decode b_M_told 10 = .ok (.aload_n 0, 1) := by decide +kernel
theorem d_M_told_11 : decode b_M_told 11 = .ok (.getfield 40, 3) := by decide +kernel
theorem d_M_told_14 : decode b_M_told 14 = .ok (.if_icmp .ge 17, 3) := by decide +kernel
theorem d_M_told_17 : decode b_M_told 17 = .ok (.iload_n 2, 1) := by decide +kernel
theorem d_M_told_18 : decode b_M_told 18 = .ok (.aload_n 0, 1) := by decide +kernel
theorem d_M_told_19 : decode b_M_told 19 = .ok (.iload_n 3, 1) := by decide +kernel
theorem d_M_told_20 : decode b_M_told 20 = .ok (.invokevirtual 78, 3) := by decide +kernel
theorem d_M_told_23 : decode b_M_told 23 = .ok (.iadd, 1) := by decide +kernel
theorem d_M_told_24 : decode b_M_told 24 = .ok (.istore_n 2, 1) := by decide +kernel
theorem d_M_told_25 : decode b_M_told 25 = .ok (.iinc 3 1, 3) := by decide +kernel
theorem d_M_told_28 : decode b_M_told 28 = .ok (.goto (-19), 3) := by decide +kernel
theorem d_M_told_31 : decode b_M_told 31 = .ok (.iload_n 1, 1) := by decide +kernel
theorem d_M_told_32 : decode b_M_told 32 = .ok (.ifCond .ne 10, 3) := by decide +kernel
theorem d_M_told_35 : decode b_M_told 35 = .ok (.aload_n 0, 1) := by decide +kernel
theorem d_M_told_36 : decode b_M_told 36 = .ok (.getfield 40, 3) := by decide +kernel
theorem d_M_told_39 : decode b_M_told 39 = .ok (.goto 37, 3) := by decide +kernel
theorem d_M_told_42 : decode b_M_told 42 = .ok (.iload_n 1, 1) := by decide +kernel
theorem d_M_told_43 : decode b_M_told 43 = .ok (.iconst 1, 1) := by decide +kernel
theorem d_M_told_44 : decode b_M_told 44 = .ok (.if_icmp .ne 10, 3) := by decide +kernel
theorem d_M_told_47 : decode b_M_told 47 = .ok (.aload_n 0, 1) := by decide +kernel
theorem d_M_told_48 : decode b_M_told 48 = .ok (.getfield 47, 3) := by decide +kernel
theorem d_M_told_51 : decode b_M_told 51 = .ok (.goto 25, 3) := by decide +kernel
theorem d_M_told_54 : decode b_M_told 54 = .ok (.iload_n 1, 1) := by decide +kernel
theorem d_M_told_55 : decode b_M_told 55 = .ok (.iconst 2, 1) := by decide +kernel
theorem d_M_told_56 : decode b_M_told 56 = .ok (.if_icmp .ne 10, 3) := by decide +kernel
theorem d_M_told_59 : decode b_M_told 59 = .ok (.aload_n 0, 1) := by decide +kernel
theorem d_M_told_60 : decode b_M_told 60 = .ok (.invokevirtual 146, 3) := by decide +kernel
theorem d_M_told_63 : decode b_M_told 63 = .ok (.goto 13, 3) := by decide +kernel
theorem d_M_told_66 : decode b_M_told 66 = .ok (.iload_n 1, 1) := by decide +kernel
theorem d_M_told_67 : decode b_M_told 67 = .ok (.iconst 3, 1) := by decide +kernel
theorem d_M_told_68 : decode b_M_told 68 = .ok (.if_icmp .ne 7, 3) := by decide +kernel
theorem d_M_told_71 : decode b_M_told 71 = .ok (.iload_n 2, 1) := by decide +kernel
theorem d_M_told_72 : decode b_M_told 72 = .ok (.goto 4, 3) := by decide +kernel
theorem d_M_told_75 : decode b_M_told 75 = .ok (.iconst (-1), 1) := by decide +kernel
theorem d_M_told_76 : decode b_M_told 76 = .ok (.ireturn, 1) := by decide +kernel
theorem d_M_clear_0 : decode b_M_clear 0 = .ok (.aload_n 0, 1) := by decide +kernel
theorem d_M_clear_1 : decode b_M_clear 1 = .ok (.iconst 0, 1) := by decide +kernel
theorem d_M_clear_2 : decode b_M_clear 2 = .ok (.putfield 36, 3) := by decide +kernel
theorem d_M_clear_5 : decode b_M_clear 5 = .ok (.aload_n 0, 1) := by decide +kernel
theorem d_M_clear_6 : decode b_M_clear 6 = .ok (.iconst 0, 1) := by decide +kernel
theorem d_M_clear_7 : decode b_M_clear 7 = .ok (.putfield 40, 3) := by decide +kernel
theorem d_M_clear_10 : decode b_M_clear 10 = .ok (.aload_n 0, 1) := by decide +kernel
theorem d_M_clear_11 : decode b_M_clear 11 = .ok (.iconst 0, 1) := by decide +kernel
theorem d_M_clear_12 : decode b_M_clear 12 = .ok (.putfield 47, 3) := by decide +kernel
theorem d_M_clear_15 : decode b_M_clear 15 = .ok (.aload_n 0, 1) := by decide +kernel
theorem d_M_clear_16 : decode b_M_clear 16 = .ok (.iconst 0, 1) := by decide +kernel
theorem d_M_clear_17 : decode b_M_clear 17 = .ok (.putfield 67, 3) := by decide +kernel
theorem d_M_clear_20 : decode b_M_clear 20 = .ok (.aload_n 0, 1) := by decide +kernel
theorem d_M_clear_21 : decode b_M_clear 21 = .ok (.iconst 0, 1) := by decide +kernel
theorem d_M_clear_22 : decode b_M_clear 22 = .ok (.putfield 150, 3) := by decide +kernel
theorem d_M_clear_25 : decode b_M_clear 25 = .ok (.iconst 0, 1) := by decide +kernel
theorem d_M_clear_26 : decode b_M_clear 26 = .ok (.istore_n 1, 1) := by decide +kernel
theorem d_M_clear_27 : decode b_M_clear 27 = .ok (.iload_n 1, 1) := by decide +kernel
theorem d_M_clear_28 : decode b_M_clear 28 = .ok (.sipush 192, 3) := by decide +kernel
theorem d_M_clear_31 : decode b_M_clear 31 = .ok (.if_icmp .ge 23, 3) := by decide +kernel
theorem d_M_clear_34 : decode b_M_clear 34 = .ok (.aload_n 0, 1) := by decide +kernel
theorem d_M_clear_35 : decode b_M_clear 35 = .ok (.getfield 7, 3) := by decide +kernel
theorem d_M_clear_38 : decode b_M_clear 38 = .ok (.iload_n 1, 1) := by decide +kernel
theorem d_M_clear_39 : decode b_M_clear 39 = .ok (.iconst 0, 1) := by decide +kernel
theorem d_M_clear_40 : decode b_M_clear 40 = .ok (.iastore, 1) := by decide +kernel
theorem d_M_clear_41 : decode b_M_clear 41 = .ok (.aload_n 0, 1) := by decide +kernel
theorem d_M_clear_42 : decode b_M_clear 42 = .ok (.getfield 13, 3) := by decide +kernel
theorem d_M_clear_45 : decode b_M_clear 45 = .ok (.iload_n 1, 1) := by decide +kernel
theorem d_M_clear_46 : decode b_M_clear 46 = .ok (.iconst 0, 1) := by decide +kernel
theorem d_M_clear_47 : decode b_M_clear 47 = .ok (.bastore, 1) := by decide +kernel
theorem d_M_clear_48 : decode b_M_clear 48 = .ok (.iinc 1 1, 3) := by decide +kernel
theorem d_M_clear_51 : decode b_M_clear 51 = .ok (.goto (-24), 3) := by decide +kernel
theorem d_M_clear_54 : decode b_M_clear 54 = .ok (.return_, 1) := by decide +kernel
theorem d_L_init_0 : decode b_L_init 0 = .ok (.aload_n 0, 1) := by decide +kernel
theorem d_L_init_1 : decode b_L_init 1 = .ok (.invokespecial 3, 3) := by decide +kernel
theorem d_L_init_4 : decode b_L_init 4 = .ok (.aload_n 0, 1) := by decide +kernel
theorem d_L_init_5 : decode b_L_init 5 = .ok (.sipush 136, 3) := by decide +kernel
theorem d_L_init_8 : decode b_L_init 8 = .ok (.newarray .char, 2) := by decide +kernel
theorem d_L_init_10 : decode b_L_init 10 = .ok (.putfield 11, 3) := by decide +kernel
theorem d_L_init_13 : decode b_L_init 13 = .ok (.return_, 1) := by decide +kernel
theorem d_L_start_0 : decode b_L_start 0 = .ok (.aload_n 0, 1) := by decide +kernel
theorem d_L_start_1 : decode b_L_start 1 = .ok (.iconst 0, 1) := by decide +kernel
theorem d_L_start_2 : decode b_L_start 2 = .ok (.putfield 15, 3) := by decide +kernel
theorem d_L_start_5 : decode b_L_start 5 = .ok (.return_, 1) := by decide +kernel
theorem d_L_put_0 : decode b_L_put 0 = .ok (.aload_n 0, 1) := by decide +kernel
theorem d_L_put_1 : decode b_L_put 1 = .ok (.getfield 15, 3) := by decide +kernel
theorem d_L_put_4 : decode b_L_put 4 = .ok (.aload_n 0, 1) := by decide +kernel
theorem d_L_put_5 : decode b_L_put 5 = .ok (.getfield 11, 3) := by decide +kernel
theorem d_L_put_8 : decode b_L_put 8 = .ok (.arraylength, 1) := by decide +kernel
theorem d_L_put_9 : decode b_L_put 9 = .ok (.if_icmp .ge 23, 3) := by decide +kernel
theorem d_L_put_12 : decode b_L_put 12 = .ok (.aload_n 0, 1) := by decide +kernel
theorem d_L_put_13 : decode b_L_put 13 = .ok (.getfield 11, 3) := by decide +kernel
theorem d_L_put_16 : decode b_L_put 16 = .ok (.aload_n 0, 1) := by decide +kernel
theorem d_L_put_17 : decode b_L_put 17 = .ok (.getfield 15, 3) := by decide +kernel
theorem d_L_put_20 : decode b_L_put 20 = .ok (.iload_n 1, 1) := by decide +kernel
theorem d_L_put_21 : decode b_L_put 21 = .ok (.castore, 1) := by decide +kernel
theorem d_L_put_22 : decode b_L_put 22 = .ok (.aload_n 0, 1) := by decide +kernel
theorem d_L_put_23 : decode b_L_put 23 = .ok (.dup, 1) := by decide +kernel
theorem d_L_put_24 : decode b_L_put 24 = .ok (.getfield 15, 3) := by decide +kernel
theorem d_L_put_27 : decode b_L_put 27 = .ok (.iconst 1, 1) := by decide +kernel
theorem d_L_put_28 : decode b_L_put 28 = .ok (.iadd, 1) := by decide +kernel
theorem d_L_put_29 : decode b_L_put 29 = .ok (.putfield 15, 3) := by decide +kernel
theorem d_L_put_32 : decode b_L_put 32 = .ok (.return_, 1) := by decide +kernel
theorem d_L_putNumber_0 : decode b_L_putNumber 0 = .ok (.lconst 1, 1) := by decide +kernel
theorem d_L_putNumber_1 : decode b_L_putNumber 1 = .ok (.lstore_n 3, 1) := by decide +kernel
theorem d_L_putNumber_2 : decode b_L_putNumber 2 = .ok (.iconst 1, 1) := by decide +kernel
theorem d_L_putNumber_3 : decode b_L_putNumber 3 = .ok (.istore 5, 2) := by decide +kernel
theorem d_L_putNumber_5 : decode b_L_putNumber 5 = .ok (.iload 5, 2) := by decide +kernel
theorem d_L_putNumber_7 : decode b_L_putNumber 7 = .ok (.bipush 11, 2) := by decide +kernel
theorem d_L_putNumber_9 : decode b_L_putNumber 9 = .ok (.if_icmp .ge 25, 3) := by decide +kernel
theorem d_L_putNumber_12 : decode b_L_putNumber 12 = .ok (.lload_n 3, 1) := by decide +kernel
theorem d_L_putNumber_13 : decode b_L_putNumber 13 = .ok (.lload_n 1, 1) := by decide +kernel
theorem d_L_putNumber_14 : decode b_L_putNumber 14 = .ok (.ldc2_w 19, 3) := by decide +kernel
theorem d_L_putNumber_17 : decode b_L_putNumber 17 = .ok (.ldiv, 1) := by decide +kernel
theorem d_L_putNumber_18 : decode b_L_putNumber 18 = .ok (.lcmp, 1) := by decide +kernel
theorem d_L_putNumber_19 : decode b_L_putNumber 19 = .ok (.ifCond .gt 15, 3) := by decide +kernel
theorem d_L_putNumber_22 : decode b_L_putNumber 22 = .ok (.lload_n 3, 1) := by decide +kernel
theorem d_L_putNumber_23 : decode b_L_putNumber 23 = .ok (.ldc2_w 19, 3) := by decide +kernel
theorem d_L_putNumber_26 : decode b_L_putNumber 26 = .ok (.lmul, 1) := by decide +kernel
theorem d_L_putNumber_27 : decode b_L_putNumber 27 = .ok (.lstore_n 3, 1) := by decide +kernel
theorem d_L_putNumber_28 : decode b_L_putNumber 28 = .ok (.iinc 5 1, 3) := by decide +kernel
theorem d_L_putNumber_31 : decode b_L_putNumber 31 = .ok (.goto (-26), 3) := by decide +kernel
theorem d_L_putNumber_34 : decode b_L_putNumber 34 = .ok (.iconst 0, 1) := by decide +kernel
theorem d_L_putNumber_35 : decode b_L_putNumber 35 = .ok (.istore 5, 2) := by decide +kernel
theorem d_L_putNumber_37 : decode b_L_putNumber 37 = .ok (.iload 5, 2) := by decide +kernel
theorem d_L_putNumber_39 : decode b_L_putNumber 39 = .ok (.bipush 11, 2) := by decide +kernel
theorem d_L_putNumber_41 : decode b_L_putNumber 41 = .ok (.if_icmp .ge 38, 3) := by decide +kernel
theorem d_L_putNumber_44 : decode b_L_putNumber 44 = .ok (.lload_n 3, 1) := by decide +kernel
theorem d_L_putNumber_45 : decode b_L_putNumber 45 = .ok (.lconst 0, 1) := by decide +kernel
theorem d_L_putNumber_46 : decode b_L_putNumber 46 = .ok (.lcmp, 1) := by decide +kernel
theorem d_L_putNumber_47 : decode b_L_putNumber 47 = .ok (.ifCond .le 32, 3) := by decide +kernel
theorem d_L_putNumber_50 : decode b_L_putNumber 50 = .ok (.aload_n 0, 1) := by decide +kernel
theorem d_L_putNumber_51 : decode b_L_putNumber 51 = .ok (.ldc2_w 21, 3) := by decide +kernel
theorem d_L_putNumber_54 : decode b_L_putNumber 54 = .ok (.lload_n 1, 1) := by decide +kernel
theorem d_L_putNumber_55 : decode b_L_putNumber 55 = .ok (.lload_n 3, 1) := by decide +kernel
theorem d_L_putNumber_56 : decode b_L_putNumber 56 = .ok (.ldiv, 1) := by decide +kernel
theorem d_L_putNumber_57 : decode b_L_putNumber 57 = .ok (.ldc2_w 19, 3) := by decide +kernel
theorem d_L_putNumber_60 : decode b_L_putNumber 60 = .ok (.lrem, 1) := by decide +kernel
theorem d_L_putNumber_61 : decode b_L_putNumber 61 = .ok (.ladd, 1) := by decide +kernel
theorem d_L_putNumber_62 : decode b_L_putNumber 62 = .ok (.l2i, 1) := by decide +kernel
theorem d_L_putNumber_63 : decode b_L_putNumber 63 = .ok (.i2c, 1) := by decide +kernel
theorem d_L_putNumber_64 : decode b_L_putNumber 64 = .ok (.invokevirtual 23, 3) := by decide +kernel
theorem d_L_putNumber_67 : decode b_L_putNumber 67 = .ok (.lload_n 3, 1) := by decide +kernel
theorem d_L_putNumber_68 : decode b_L_putNumber 68 = .ok (.ldc2_w 19, 3) := by decide +kernel
theorem d_L_putNumber_71 : decode b_L_putNumber 71 = .ok (.ldiv, 1) := by decide +kernel
theorem d_L_putNumber_72 : decode b_L_putNumber 72 = .ok (.lstore_n 3, 1) := by decide +kernel
theorem d_L_putNumber_73 : decode b_L_putNumber 73 = .ok (.iinc 5 1, 3) := by decide +kernel
theorem d_L_putNumber_76 : decode b_L_putNumber 76 = .ok (.goto (-39), 3) := by decide +kernel
theorem d_L_putNumber_79 : decode b_L_putNumber 79 = .ok (.return_, 1) := by decide +kernel
theorem d_N_init_0 : decode b_N_init 0 = .ok (.aload_n 0, 1) := by decide +kernel
theorem d_N_init_1 : decode b_N_init 1 = .ok (.invokespecial 1, 3) := by decide +kernel
theorem d_N_init_4 : decode b_N_init 4 = .ok (.return_, 1) := by decide +kernel
theorem d_N_start_0 : decode b_N_start 0 = .ok (.aload_n 0, 1) := by decide +kernel
theorem d_N_start_1 : decode b_N_start 1 = .ok (.lload_n 1, 1) := by decide +kernel
theorem d_N_start_2 : decode b_N_start 2 = .ok (.putfield 7, 3) := by decide +kernel
theorem d_N_start_5 : decode b_N_start 5 = .ok (.return_, 1) := by decide +kernel
theorem d_N_below_0 : decode b_N_below 0 = .ok (.aload_n 0, 1) := by decide +kernel
theorem d_N_below_1 : decode b_N_below 1 = .ok (.aload_n 0, 1) := by decide +kernel
theorem d_N_below_2 : decode b_N_below 2 = .ok (.getfield 7, 3) := by decide +kernel
theorem d_N_below_5 : decode b_N_below 5 = .ok (.ldc2_w 13, 3) := by decide +kernel
theorem d_N_below_8 : decode b_N_below 8 = .ok (.lmul, 1) := by decide +kernel
theorem d_N_below_9 : decode b_N_below 9 = .ok (.ldc2_w 15, 3) := by decide +kernel
theorem d_N_below_12 : decode b_N_below 12 = .ok (.ladd, 1) := by decide +kernel
theorem d_N_below_13 : decode b_N_below 13 = .ok (.putfield 7, 3) := by decide +kernel
theorem d_N_below_16 : decode b_N_below 16 = .ok (.iload_n 1, 1) := by decide +kernel
theorem d_N_below_17 : decode b_N_below 17 = .ok (.ifCond .gt 7, 3) := by decide +kernel
theorem d_N_below_20 : decode b_N_below 20 = .ok (.iconst 0, 1) := by decide +kernel
theorem d_N_below_21 : decode b_N_below 21 = .ok (.goto 13, 3) := by decide +kernel
theorem d_N_below_24 : decode b_N_below 24 = .ok (.aload_n 0, 1) := by decide +kernel
theorem d_N_below_25 : decode b_N_below 25 = .ok (.getfield 7, 3) := by decide +kernel
theorem d_N_below_28 : decode b_N_below 28 = .ok (.bipush 33, 2) := by decide +kernel
theorem d_N_below_30 : decode b_N_below 30 = .ok (.lushr, 1) := by decide +kernel
theorem d_N_below_31 : decode b_N_below 31 = .ok (.l2i, 1) := by decide +kernel
theorem d_N_below_32 : decode b_N_below 32 = .ok (.iload_n 1, 1) := by decide +kernel
theorem d_N_below_33 : decode b_N_below 33 = .ok (.irem, 1) := by decide +kernel
theorem d_N_below_34 : decode b_N_below 34 = .ok (.ireturn, 1) := by decide +kernel
theorem d_W_coder_0 : decode b_W_coder 0 = .ok (.aload_n 1, 1) := by decide +kernel
theorem d_W_coder_1 : decode b_W_coder 1 = .ok (.iconst 0, 1) := by decide +kernel
theorem d_W_coder_2 : decode b_W_coder 2 = .ok (.aload_n 0, 1) := by decide +kernel
theorem d_W_coder_3 : decode b_W_coder 3 = .ok (.invokevirtual 7, 3) := by decide +kernel
theorem d_W_coder_6 : decode b_W_coder 6 = .ok (.i2l, 1) := by decide +kernel
theorem d_W_coder_7 : decode b_W_coder 7 = .ok (.lastore, 1) := by decide +kernel
theorem d_W_coder_8 : decode b_W_coder 8 = .ok (.goto 6, 3) := by decide +kernel
theorem d_W_coder_11 : decode b_W_coder 11 = .ok (.astore_n 2, 1) := by decide +kernel
theorem d_W_coder_12 : decode b_W_coder 12 = .ok (.iconst 1, 1) := by decide +kernel
theorem d_W_coder_13 : decode b_W_coder 13 = .ok (.ireturn, 1) := by decide +kernel
theorem d_W_coder_14 : decode b_W_coder 14 = .ok (.iconst 0, 1) := by decide +kernel
theorem d_W_coder_15 : decode b_W_coder 15 = .ok (.ireturn, 1) := by decide +kernel
theorem d_W_picture_0 : decode b_W_picture 0 = .ok (.aload_n 1, 1) := by decide +kernel
theorem d_W_picture_1 : decode b_W_picture 1 = .ok (.iconst 0, 1) := by decide +kernel
theorem d_W_picture_2 : decode b_W_picture 2 = .ok (.aload_n 0, 1) := by decide +kernel
theorem d_W_picture_3 : decode b_W_picture 3 = .ok (.invokevirtual 15, 3) := by decide +kernel
theorem d_W_picture_6 : decode b_W_picture 6 = .ok (.i2l, 1) := by decide +kernel
theorem d_W_picture_7 : decode b_W_picture 7 = .ok (.lastore, 1) := by decide +kernel
theorem d_W_picture_8 : decode b_W_picture 8 = .ok (.goto 6, 3) := by decide +kernel
theorem d_W_picture_11 : decode b_W_picture 11 = .ok (.astore_n 2, 1) := by decide +kernel
theorem d_W_picture_12 : decode b_W_picture 12 = .ok (.iconst 1, 1) := by decide +kernel
theorem d_W_picture_13 : decode b_W_picture 13 = .ok (.ireturn, 1) := by decide +kernel
theorem d_W_picture_14 : decode b_W_picture 14 = .ok (.iconst 0, 1) := by decide +kernel
theorem d_W_picture_15 : decode b_W_picture 15 = .ok (.ireturn, 1) := by decide +kernel
theorem d_W_point_0 : decode b_W_point 0 = .ok (.aload 5, 2) := by decide +kernel
theorem d_W_point_2 : decode b_W_point 2 = .ok (.iconst 0, 1) := by decide +kernel
theorem d_W_point_3 : decode b_W_point 3 = .ok (.aload_n 0, 1) := by decide +kernel
theorem d_W_point_4 : decode b_W_point 4 = .ok (.iload_n 1, 1) := by decide +kernel
theorem d_W_point_5 : decode b_W_point 5 = .ok (.iload_n 2, 1) := by decide +kernel
theorem d_W_point_6 : decode b_W_point 6 = .ok (.iload_n 3, 1) := by decide +kernel
theorem d_W_point_7 : decode b_W_point 7 = .ok (.iload 4, 2) := by decide +kernel
theorem d_W_point_9 : decode b_W_point 9 = .ok (.invokevirtual 18, 3) := by decide +kernel
theorem d_W_point_12 : decode b_W_point 12 = .ok (.i2l, 1) := by decide +kernel
theorem d_W_point_13 : decode b_W_point 13 = .ok (.lastore, 1) := by decide +kernel
theorem d_W_point_14 : decode b_W_point 14 = .ok (.goto 19, 3) := by decide +kernel
theorem d_W_point_17 : decode b_W_point 17 = .ok (.astore 6, 2) := by decide +kernel
theorem d_W_point_19 : decode b_W_point 19 = .ok (.iconst 1, 1) := by decide +kernel
theorem d_W_point_20 : decode b_W_point 20 = .ok (.ireturn, 1) := by decide +kernel
theorem d_W_point_21 : decode b_W_point 21 = .ok (.astore 6, 2) := by decide +kernel
theorem d_W_point_23 : decode b_W_point 23 = .ok (.iconst 2, 1) := by decide +kernel
theorem d_W_point_24 : decode b_W_point 24 = .ok (.ireturn, 1) := by decide +kernel
theorem d_W_point_25 : decode b_W_point 25 = .ok (.astore 6, 2) := by decide +kernel
theorem d_W_point_27 : decode b_W_point 27 = .ok (.iconst 3, 1) := by decide +kernel
theorem d_W_point_28 : decode b_W_point 28 = .ok (.ireturn, 1) := by decide +kernel
theorem d_W_point_29 : decode b_W_point 29 = .ok (.astore 6, 2) := by decide +kernel
theorem d_W_point_31 : decode b_W_point 31 = .ok (.iconst 4, 1) := by decide +kernel
theorem d_W_point_32 : decode b_W_point 32 = .ok (.ireturn, 1) := by decide +kernel
theorem d_W_point_33 : decode b_W_point 33 = .ok (.iconst 0, 1) := by decide +kernel
theorem d_W_point_34 : decode b_W_point 34 = .ok (.ireturn, 1) := by decide +kernel
theorem d_W_fails_0 : decode b_W_fails 0 = .ok (.aload_n 3, 1) := by decide +kernel
theorem d_W_fails_1 : decode b_W_fails 1 = .ok (.iconst 0, 1) := by decide +kernel
theorem d_W_fails_2 : decode b_W_fails 2 = .ok (.aload_n 0, 1) := by decide +kernel
theorem d_W_fails_3 : decode b_W_fails 3 = .ok (.iload_n 1, 1) := by decide +kernel
theorem d_W_fails_4 : decode b_W_fails 4 = .ok (.iload_n 2, 1) := by decide +kernel
theorem d_W_fails_5 : decode b_W_fails 5 = .ok (.invokevirtual 28, 3) := by decide +kernel
theorem d_W_fails_8 : decode b_W_fails 8 = .ok (.i2l, 1) := by decide +kernel
theorem d_W_fails_9 : decode b_W_fails 9 = .ok (.lastore, 1) := by decide +kernel
theorem d_W_fails_10 : decode b_W_fails 10 = .ok (.goto 11, 3) := by decide +kernel
theorem d_W_fails_13 : decode b_W_fails 13 = .ok (.astore 4, 2) := by decide +kernel
theorem d_W_fails_15 : decode b_W_fails 15 = .ok (.iconst 1, 1) := by decide +kernel
theorem d_W_fails_16 : decode b_W_fails 16 = .ok (.ireturn, 1) := by decide +kernel
theorem d_W_fails_17 : decode b_W_fails 17 = .ok (.astore 4, 2) := by decide +kernel
theorem d_W_fails_19 : decode b_W_fails 19 = .ok (.iconst 2, 1) := by decide +kernel
theorem d_W_fails_20 : decode b_W_fails 20 = .ok (.ireturn, 1) := by decide +kernel
theorem d_W_fails_21 : decode b_W_fails 21 = .ok (.iconst 0, 1) := by decide +kernel
theorem d_W_fails_22 : decode b_W_fails 22 = .ok (.ireturn, 1) := by decide +kernel
theorem d_W_failing_0 : decode b_W_failing 0 = .ok (.aload_n 3, 1) := by decide +kernel
theorem d_W_failing_1 : decode b_W_failing 1 = .ok (.iconst 0, 1) := by decide +kernel
theorem d_W_failing_2 : decode b_W_failing 2 = .ok (.aload_n 0, 1) := by decide +kernel
theorem d_W_failing_3 : decode b_W_failing 3 = .ok (.iload_n 1, 1) := by decide +kernel
theorem d_W_failing_4 : decode b_W_failing 4 = .ok (.iload_n 2, 1) := by decide +kernel
theorem d_W_failing_5 : decode b_W_failing 5 = .ok (.invokevirtual 32, 3) := by decide +kernel
theorem d_W_failing_8 : decode b_W_failing 8 = .ok (.i2l, 1) := by decide +kernel
theorem d_W_failing_9 : decode b_W_failing 9 = .ok (.lastore, 1) := by decide +kernel
theorem d_W_failing_10 : decode b_W_failing 10 = .ok (.goto 11, 3) := by decide +kernel
theorem d_W_failing_13 : decode b_W_failing 13 = .ok (.astore 4, 2) := by decide +kernel
theorem d_W_failing_15 : decode b_W_failing 15 = .ok (.iconst 1, 1) := by decide +kernel
theorem d_W_failing_16 : decode b_W_failing 16 = .ok (.ireturn, 1) := by decide +kernel
theorem d_W_failing_17 : decode b_W_failing 17 = .ok (.astore 4, 2) := by decide +kernel
theorem d_W_failing_19 : decode b_W_failing 19 = .ok (.iconst 2, 1) := by decide +kernel
theorem d_W_failing_20 : decode b_W_failing 20 = .ok (.ireturn, 1) := by decide +kernel
theorem d_W_failing_21 : decode b_W_failing 21 = .ok (.iconst 0, 1) := by decide +kernel
theorem d_W_failing_22 : decode b_W_failing 22 = .ok (.ireturn, 1) := by decide +kernel
theorem d_W_least_0 : decode b_W_least 0 = .ok (.aload_n 3, 1) := by decide +kernel
theorem d_W_least_1 : decode b_W_least 1 = .ok (.iconst 0, 1) := by decide +kernel
theorem d_W_least_2 : decode b_W_least 2 = .ok (.aload_n 0, 1) := by decide +kernel
theorem d_W_least_3 : decode b_W_least 3 = .ok (.iload_n 1, 1) := by decide +kernel
theorem d_W_least_4 : decode b_W_least 4 = .ok (.iload_n 2, 1) := by decide +kernel
theorem d_W_least_5 : decode b_W_least 5 = .ok (.invokevirtual 35, 3) := by decide +kernel
theorem d_W_least_8 : decode b_W_least 8 = .ok (.i2l, 1) := by decide +kernel
theorem d_W_least_9 : decode b_W_least 9 = .ok (.lastore, 1) := by decide +kernel
theorem d_W_least_10 : decode b_W_least 10 = .ok (.goto 11, 3) := by decide +kernel
theorem d_W_least_13 : decode b_W_least 13 = .ok (.astore 4, 2) := by decide +kernel
theorem d_W_least_15 : decode b_W_least 15 = .ok (.iconst 1, 1) := by decide +kernel
theorem d_W_least_16 : decode b_W_least 16 = .ok (.ireturn, 1) := by decide +kernel
theorem d_W_least_17 : decode b_W_least 17 = .ok (.astore 4, 2) := by decide +kernel
theorem d_W_least_19 : decode b_W_least 19 = .ok (.iconst 2, 1) := by decide +kernel
theorem d_W_least_20 : decode b_W_least 20 = .ok (.ireturn, 1) := by decide +kernel
theorem d_W_least_21 : decode b_W_least 21 = .ok (.iconst 0, 1) := by decide +kernel
theorem d_W_least_22 : decode b_W_least 22 = .ok (.ireturn, 1) := by decide +kernel
theorem d_W_sum_0 : decode b_W_sum 0 = .ok (.aload_n 2, 1) := by decide +kernel
theorem d_W_sum_1 : decode b_W_sum 1 = .ok (.iconst 0, 1) := by decide +kernel
theorem d_W_sum_2 : decode b_W_sum 2 = .ok (.aload_n 0, 1) := by decide +kernel
theorem d_W_sum_3 : decode b_W_sum 3 = .ok (.iload_n 1, 1) := by decide +kernel
theorem d_W_sum_4 : decode b_W_sum 4 = .ok (.invokevirtual 38, 3) := by decide +kernel
theorem d_W_sum_7 : decode b_W_sum 7 = .ok (.lastore, 1) := by decide +kernel
theorem d_W_sum_8 : decode b_W_sum 8 = .ok (.goto 6, 3) := by decide +kernel
theorem d_W_sum_11 : decode b_W_sum 11 = .ok (.astore_n 3, 1) := by decide +kernel
theorem d_W_sum_12 : decode b_W_sum 12 = .ok (.iconst 1, 1) := by decide +kernel
theorem d_W_sum_13 : decode b_W_sum 13 = .ok (.ireturn, 1) := by decide +kernel
theorem d_W_sum_14 : decode b_W_sum 14 = .ok (.iconst 0, 1) := by decide +kernel
theorem d_W_sum_15 : decode b_W_sum 15 = .ok (.ireturn, 1) := by decide +kernel
theorem d_W_mean_0 : decode b_W_mean 0 = .ok (.aload_n 3, 1) := by decide +kernel
theorem d_W_mean_1 : decode b_W_mean 1 = .ok (.iconst 0, 1) := by decide +kernel
theorem d_W_mean_2 : decode b_W_mean 2 = .ok (.aload_n 0, 1) := by decide +kernel
theorem d_W_mean_3 : decode b_W_mean 3 = .ok (.iload_n 1, 1) := by decide +kernel
theorem d_W_mean_4 : decode b_W_mean 4 = .ok (.iload_n 2, 1) := by decide +kernel
theorem d_W_mean_5 : decode b_W_mean 5 = .ok (.invokevirtual 42, 3) := by decide +kernel
theorem d_W_mean_8 : decode b_W_mean 8 = .ok (.lastore, 1) := by decide +kernel
theorem d_W_mean_9 : decode b_W_mean 9 = .ok (.goto 11, 3) := by decide +kernel
theorem d_W_mean_12 : decode b_W_mean 12 = .ok (.astore 4, 2) := by decide +kernel
theorem d_W_mean_14 : decode b_W_mean 14 = .ok (.iconst 1, 1) := by decide +kernel
theorem d_W_mean_15 : decode b_W_mean 15 = .ok (.ireturn, 1) := by decide +kernel
theorem d_W_mean_16 : decode b_W_mean 16 = .ok (.astore 4, 2) := by decide +kernel
theorem d_W_mean_18 : decode b_W_mean 18 = .ok (.iconst 2, 1) := by decide +kernel
theorem d_W_mean_19 : decode b_W_mean 19 = .ok (.ireturn, 1) := by decide +kernel
theorem d_W_mean_20 : decode b_W_mean 20 = .ok (.iconst 0, 1) := by decide +kernel
theorem d_W_mean_21 : decode b_W_mean 21 = .ok (.ireturn, 1) := by decide +kernel
theorem d_W_rank_0 : decode b_W_rank 0 = .ok (.aload_n 2, 1) := by decide +kernel
theorem d_W_rank_1 : decode b_W_rank 1 = .ok (.iconst 0, 1) := by decide +kernel
theorem d_W_rank_2 : decode b_W_rank 2 = .ok (.aload_n 0, 1) := by decide +kernel
theorem d_W_rank_3 : decode b_W_rank 3 = .ok (.iload_n 1, 1) := by decide +kernel
theorem d_W_rank_4 : decode b_W_rank 4 = .ok (.invokevirtual 46, 3) := by decide +kernel
theorem d_W_rank_7 : decode b_W_rank 7 = .ok (.i2l, 1) := by decide +kernel
theorem d_W_rank_8 : decode b_W_rank 8 = .ok (.lastore, 1) := by decide +kernel
theorem d_W_rank_9 : decode b_W_rank 9 = .ok (.goto 9, 3) := by decide +kernel
theorem d_W_rank_12 : decode b_W_rank 12 = .ok (.astore_n 3, 1) := by decide +kernel
theorem d_W_rank_13 : decode b_W_rank 13 = .ok (.iconst 1, 1) := by decide +kernel
theorem d_W_rank_14 : decode b_W_rank 14 = .ok (.ireturn, 1) := by decide +kernel
theorem d_W_rank_15 : decode b_W_rank 15 = .ok (.astore_n 3, 1) := by decide +kernel
theorem d_W_rank_16 : decode b_W_rank 16 = .ok (.iconst 2, 1) := by decide +kernel
theorem d_W_rank_17 : decode b_W_rank 17 = .ok (.ireturn, 1) := by decide +kernel
theorem d_W_rank_18 : decode b_W_rank 18 = .ok (.iconst 0, 1) := by decide +kernel
theorem d_W_rank_19 : decode b_W_rank 19 = .ok (.ireturn, 1) := by decide +kernel
theorem d_W_hull_0 : decode b_W_hull 0 = .ok (.aload_n 3, 1) := by decide +kernel
theorem d_W_hull_1 : decode b_W_hull 1 = .ok (.iconst 0, 1) := by decide +kernel
theorem d_W_hull_2 : decode b_W_hull 2 = .ok (.aload_n 0, 1) := by decide +kernel
theorem d_W_hull_3 : decode b_W_hull 3 = .ok (.iload_n 1, 1) := by decide +kernel
theorem d_W_hull_4 : decode b_W_hull 4 = .ok (.iload_n 2, 1) := by decide +kernel
theorem d_W_hull_5 : decode b_W_hull 5 = .ok (.invokevirtual 50, 3) := by decide +kernel
theorem d_W_hull_8 : decode b_W_hull 8 = .ok (.i2l, 1) := by decide +kernel
theorem d_W_hull_9 : decode b_W_hull 9 = .ok (.lastore, 1) := by decide +kernel
theorem d_W_hull_10 : decode b_W_hull 10 = .ok (.goto 7, 3) := by decide +kernel
theorem d_W_hull_13 : decode b_W_hull 13 = .ok (.astore 4, 2) := by decide +kernel
theorem d_W_hull_15 : decode b_W_hull 15 = .ok (.iconst 1, 1) := by decide +kernel
theorem d_W_hull_16 : decode b_W_hull 16 = .ok (.ireturn, 1) := by decide +kernel
theorem d_W_hull_17 : decode b_W_hull 17 = .ok (.iconst 0, 1) := by decide +kernel
theorem d_W_hull_18 : decode b_W_hull 18 = .ok (.ireturn, 1) := by decide +kernel
theorem d_W_onHull_0 : decode b_W_onHull 0 = .ok (.aload 5, 2) := by decide +kernel
theorem d_W_onHull_2 : decode b_W_onHull 2 = .ok (.iconst 0, 1) := by decide +kernel
theorem d_W_onHull_3 : decode b_W_onHull 3 = .ok (.aload_n 0, 1) := by decide +kernel
theorem d_W_onHull_4 : decode b_W_onHull 4 = .ok (.iload_n 1, 1) := by decide +kernel
theorem d_W_onHull_5 : decode b_W_onHull 5 = .ok (.iload_n 2, 1) := by decide +kernel
theorem d_W_onHull_6 : decode b_W_onHull 6 = .ok (.iload_n 3, 1) := by decide +kernel
theorem d_W_onHull_7 : decode b_W_onHull 7 = .ok (.iload 4, 2) := by decide +kernel
theorem d_W_onHull_9 : decode b_W_onHull 9 = .ok (.invokevirtual 53, 3) := by decide +kernel
theorem d_W_onHull_12 : decode b_W_onHull 12 = .ok (.i2l, 1) := by decide +kernel
theorem d_W_onHull_13 : decode b_W_onHull 13 = .ok (.lastore, 1) := by decide +kernel
theorem d_W_onHull_14 : decode b_W_onHull 14 = .ok (.goto 11, 3) := by decide +kernel
theorem d_W_onHull_17 : decode b_W_onHull 17 = .ok (.astore 6, 2) := by decide +kernel
theorem d_W_onHull_19 : decode b_W_onHull 19 = .ok (.iconst 1, 1) := by decide +kernel
theorem d_W_onHull_20 : decode b_W_onHull 20 = .ok (.ireturn, 1) := by decide +kernel
theorem d_W_onHull_21 : decode b_W_onHull 21 = .ok (.astore 6, 2) := by decide +kernel
theorem d_W_onHull_23 : decode b_W_onHull 23 = .ok (.iconst 2, 1) := by decide +kernel
theorem d_W_onHull_24 : decode b_W_onHull 24 = .ok (.ireturn, 1) := by decide +kernel
theorem d_W_onHull_25 : decode b_W_onHull 25 = .ok (.iconst 0, 1) := by decide +kernel
theorem d_W_onHull_26 : decode b_W_onHull 26 = .ok (.ireturn, 1) := by decide +kernel
theorem d_W_slope_0 : decode b_W_slope 0 = .ok (.aload 5, 2) := by decide +kernel
theorem d_W_slope_2 : decode b_W_slope 2 = .ok (.iconst 0, 1) := by decide +kernel
theorem d_W_slope_3 : decode b_W_slope 3 = .ok (.aload_n 0, 1) := by decide +kernel
theorem d_W_slope_4 : decode b_W_slope 4 = .ok (.iload_n 1, 1) := by decide +kernel
theorem d_W_slope_5 : decode b_W_slope 5 = .ok (.iload_n 2, 1) := by decide +kernel
theorem d_W_slope_6 : decode b_W_slope 6 = .ok (.iload_n 3, 1) := by decide +kernel
theorem d_W_slope_7 : decode b_W_slope 7 = .ok (.iload 4, 2) := by decide +kernel
theorem d_W_slope_9 : decode b_W_slope 9 = .ok (.invokevirtual 56, 3) := by decide +kernel
theorem d_W_slope_12 : decode b_W_slope 12 = .ok (.lastore, 1) := by decide +kernel
theorem d_W_slope_13 : decode b_W_slope 13 = .ok (.goto 7, 3) := by decide +kernel
theorem d_W_slope_16 : decode b_W_slope 16 = .ok (.astore 6, 2) := by decide +kernel
theorem d_W_slope_18 : decode b_W_slope 18 = .ok (.iconst 1, 1) := by decide +kernel
theorem d_W_slope_19 : decode b_W_slope 19 = .ok (.ireturn, 1) := by decide +kernel
theorem d_W_slope_20 : decode b_W_slope 20 = .ok (.iconst 0, 1) := by decide +kernel
theorem d_W_slope_21 : decode b_W_slope 21 = .ok (.ireturn, 1) := by decide +kernel
theorem d_W_signs_0 : decode b_W_signs 0 = .ok (.aload 4, 2) := by decide +kernel
theorem d_W_signs_2 : decode b_W_signs 2 = .ok (.iconst 0, 1) := by decide +kernel
theorem d_W_signs_3 : decode b_W_signs 3 = .ok (.aload_n 0, 1) := by decide +kernel
theorem d_W_signs_4 : decode b_W_signs 4 = .ok (.iload_n 1, 1) := by decide +kernel
theorem d_W_signs_5 : decode b_W_signs 5 = .ok (.iload_n 2, 1) := by decide +kernel
theorem d_W_signs_6 : decode b_W_signs 6 = .ok (.iload_n 3, 1) := by decide +kernel
theorem d_W_signs_7 : decode b_W_signs 7 = .ok (.invokevirtual 60, 3) := by decide +kernel
theorem d_W_signs_10 : decode b_W_signs 10 = .ok (.lastore, 1) := by decide +kernel
theorem d_W_signs_11 : decode b_W_signs 11 = .ok (.goto 11, 3) := by decide +kernel
theorem d_W_signs_14 : decode b_W_signs 14 = .ok (.astore 5, 2) := by decide +kernel
theorem d_W_signs_16 : decode b_W_signs 16 = .ok (.iconst 1, 1) := by decide +kernel
theorem d_W_signs_17 : decode b_W_signs 17 = .ok (.ireturn, 1) := by decide +kernel
theorem d_W_signs_18 : decode b_W_signs 18 = .ok (.astore 5, 2) := by decide +kernel
theorem d_W_signs_20 : decode b_W_signs 20 = .ok (.iconst 2, 1) := by decide +kernel
theorem d_W_signs_21 : decode b_W_signs 21 = .ok (.ireturn, 1) := by decide +kernel
theorem d_W_signs_22 : decode b_W_signs 22 = .ok (.iconst 0, 1) := by decide +kernel
theorem d_W_signs_23 : decode b_W_signs 23 = .ok (.ireturn, 1) := by decide +kernel
theorem d_W_draws_0 : decode b_W_draws 0 = .ok (.aload 6, 2) := by decide +kernel
theorem d_W_draws_2 : decode b_W_draws 2 = .ok (.iconst 0, 1) := by decide +kernel
theorem d_W_draws_3 : decode b_W_draws 3 = .ok (.aload_n 0, 1) := by decide +kernel
theorem d_W_draws_4 : decode b_W_draws 4 = .ok (.iload_n 1, 1) := by decide +kernel
theorem d_W_draws_5 : decode b_W_draws 5 = .ok (.iload_n 2, 1) := by decide +kernel
theorem d_W_draws_6 : decode b_W_draws 6 = .ok (.lload_n 3, 1) := by decide +kernel
theorem d_W_draws_7 : decode b_W_draws 7 = .ok (.iload 5, 2) := by decide +kernel
theorem d_W_draws_9 : decode b_W_draws 9 = .ok (.invokevirtual 64, 3) := by decide +kernel
theorem d_W_draws_12 : decode b_W_draws 12 = .ok (.i2l, 1) := by decide +kernel
theorem d_W_draws_13 : decode b_W_draws 13 = .ok (.lastore, 1) := by decide +kernel
theorem d_W_draws_14 : decode b_W_draws 14 = .ok (.goto 15, 3) := by decide +kernel
theorem d_W_draws_17 : decode b_W_draws 17 = .ok (.astore 7, 2) := by decide +kernel
theorem d_W_draws_19 : decode b_W_draws 19 = .ok (.iconst 1, 1) := by decide +kernel
theorem d_W_draws_20 : decode b_W_draws 20 = .ok (.ireturn, 1) := by decide +kernel
theorem d_W_draws_21 : decode b_W_draws 21 = .ok (.astore 7, 2) := by decide +kernel
theorem d_W_draws_23 : decode b_W_draws 23 = .ok (.iconst 2, 1) := by decide +kernel
theorem d_W_draws_24 : decode b_W_draws 24 = .ok (.ireturn, 1) := by decide +kernel
theorem d_W_draws_25 : decode b_W_draws 25 = .ok (.astore 7, 2) := by decide +kernel
theorem d_W_draws_27 : decode b_W_draws 27 = .ok (.iconst 3, 1) := by decide +kernel
theorem d_W_draws_28 : decode b_W_draws 28 = .ok (.ireturn, 1) := by decide +kernel
theorem d_W_draws_29 : decode b_W_draws 29 = .ok (.iconst 0, 1) := by decide +kernel
theorem d_W_draws_30 : decode b_W_draws 30 = .ok (.ireturn, 1) := by decide +kernel
theorem d_W_charAt_0 : decode b_W_charAt 0 = .ok (.aload_n 2, 1) := by decide +kernel
theorem d_W_charAt_1 : decode b_W_charAt 1 = .ok (.iconst 0, 1) := by decide +kernel
theorem d_W_charAt_2 : decode b_W_charAt 2 = .ok (.aload_n 0, 1) := by decide +kernel
theorem d_W_charAt_3 : decode b_W_charAt 3 = .ok (.iload_n 1, 1) := by decide +kernel
theorem d_W_charAt_4 : decode b_W_charAt 4 = .ok (.invokevirtual 68, 3) := by decide +kernel
theorem d_W_charAt_7 : decode b_W_charAt 7 = .ok (.i2l, 1) := by decide +kernel
theorem d_W_charAt_8 : decode b_W_charAt 8 = .ok (.lastore, 1) := by decide +kernel
theorem d_W_charAt_9 : decode b_W_charAt 9 = .ok (.goto 6, 3) := by decide +kernel
theorem d_W_charAt_12 : decode b_W_charAt 12 = .ok (.astore_n 3, 1) := by decide +kernel
theorem d_W_charAt_13 : decode b_W_charAt 13 = .ok (.iconst 1, 1) := by decide +kernel
theorem d_W_charAt_14 : decode b_W_charAt 14 = .ok (.ireturn, 1) := by decide +kernel
theorem d_W_charAt_15 : decode b_W_charAt 15 = .ok (.iconst 0, 1) := by decide +kernel
theorem d_W_charAt_16 : decode b_W_charAt 16 = .ok (.ireturn, 1) := by decide +kernel
theorem d_W_law_0 : decode b_W_law 0 = .ok (.new 8, 3) := by decide +kernel
theorem d_W_law_3 : decode b_W_law 3 = .ok (.dup, 1) := by decide +kernel
theorem d_W_law_4 : decode b_W_law 4 = .ok (.invokespecial 71, 3) := by decide +kernel
theorem d_W_law_7 : decode b_W_law 7 = .ok (.astore_n 1, 1) := by decide +kernel
theorem d_W_law_8 : decode b_W_law 8 = .ok (.new 72, 3) := by decide +kernel
theorem d_W_law_11 : decode b_W_law 11 = .ok (.dup, 1) := by decide +kernel
theorem d_W_law_12 : decode b_W_law 12 = .ok (.invokespecial 74, 3) := by decide +kernel
theorem d_W_law_15 : decode b_W_law 15 = .ok (.astore_n 2, 1) := by decide +kernel
theorem d_W_law_16 : decode b_W_law 16 = .ok (.iconst 1, 1) := by decide +kernel
theorem d_W_law_17 : decode b_W_law 17 = .ok (.newarray .long, 2) := by decide +kernel
theorem d_W_law_19 : decode b_W_law 19 = .ok (.astore_n 3, 1) := by decide +kernel
theorem d_W_law_20 : decode b_W_law 20 = .ok (.iconst 0, 1) := by decide +kernel
theorem d_W_law_21 : decode b_W_law 21 = .ok (.istore 4, 2) := by decide +kernel
theorem d_W_law_23 : decode b_W_law 23 = .ok (.iload 4, 2) := by decide +kernel
theorem d_W_law_25 : decode b_W_law 25 = .ok (.aload_n 0, 1) := by decide +kernel
theorem d_W_law_26 : decode b_W_law 26 = .ok (.arraylength, 1) := by decide +kernel
theorem d_W_law_27 : decode b_W_law 27 = .ok (.bipush 6, 2) := by decide +kernel
theorem d_W_law_29 : decode b_W_law 29 = .ok (.isub, 1) := by decide +kernel
theorem d_W_law_30 : decode b_W_law 30 = .ok (.if_icmp .gt 1335, 3) := by decide +kernel
theorem d_W_law_33 : decode b_W_law 33 = .ok (.aload_n 0, 1) := by decide +kernel
theorem d_W_law_34 : decode b_W_law 34 = .ok (.iload 4, 2) := by decide +kernel
theorem d_W_law_36 : decode b_W_law 36 = .ok (.iaload, 1) := by decide +kernel
theorem d_W_law_37 : decode b_W_law 37 = .ok (.bipush 31, 2) := by decide +kernel
theorem d_W_law_39 : decode b_W_law 39 = .ok (.iand, 1) := by decide +kernel
theorem d_W_law_40 : decode b_W_law 40 = .ok (.tableswitch 1319 0 19 #[96, 140, 184, 276, 344, 357, 425, 493, 548, 631, 687, 755, 847, 954, 1033, 1157, 1214, 1227, 1283, 1308], 96) := by decide +kernel
theorem d_W_law_136 : decode b_W_law 136 = .ok (.aload_n 1, 1) := by decide +kernel
theorem d_W_law_137 : decode b_W_law 137 = .ok (.aload_n 3, 1) := by decide +kernel
theorem d_W_law_138 : decode b_W_law 138 = .ok (.invokestatic 75, 3) := by decide +kernel
theorem d_W_law_141 : decode b_W_law 141 = .ok (.istore 5, 2) := by decide +kernel
theorem d_W_law_143 : decode b_W_law 143 = .ok (.aload_n 2, 1) := by decide +kernel
theorem d_W_law_144 : decode b_W_law 144 = .ok (.invokevirtual 80, 3) := by decide +kernel
theorem d_W_law_147 : decode b_W_law 147 = .ok (.istore 6, 2) := by decide +kernel
theorem d_W_law_149 : decode b_W_law 149 = .ok (.aload_n 2, 1) := by decide +kernel
theorem d_W_law_150 : decode b_W_law 150 = .ok (.invokevirtual 81, 3) := by decide +kernel
theorem d_W_law_153 : decode b_W_law 153 = .ok (.iload 5, 2) := by decide +kernel
theorem d_W_law_155 : decode b_W_law 155 = .ok (.if_icmp .eq 5, 3) := by decide +kernel
theorem d_W_law_158 : decode b_W_law 158 = .ok (.iconst 0, 1) := by decide +kernel
theorem d_W_law_159 : decode b_W_law 159 = .ok (.ireturn, 1) := by decide +kernel
theorem d_W_law_160 : decode b_W_law 160 = .ok (.iload 5, 2) := by decide +kernel
theorem d_W_law_162 : decode b_W_law 162 = .ok (.ifCond .ne 15, 3) := by decide +kernel
theorem d_W_law_165 : decode b_W_law 165 = .ok (.aload_n 3, 1) := by decide +kernel
theorem d_W_law_166 : decode b_W_law 166 = .ok (.iconst 0, 1) := by decide +kernel
theorem d_W_law_167 : decode b_W_law 167 = .ok (.laload, 1) := by decide +kernel
theorem d_W_law_168 : decode b_W_law 168 = .ok (.iload 6, 2) := by decide +kernel
theorem d_W_law_170 : decode b_W_law 170 = .ok (.i2l, 1) := by decide +kernel
theorem d_W_law_171 : decode b_W_law 171 = .ok (.lcmp, 1) := by decide +kernel
theorem d_W_law_172 : decode b_W_law 172 = .ok (.ifCond .eq 5, 3) := by decide +kernel
theorem d_W_law_175 : decode b_W_law 175 = .ok (.iconst 0, 1) := by decide +kernel
theorem d_W_law_176 : decode b_W_law 176 = .ok (.ireturn, 1) := by decide +kernel
theorem d_W_law_177 : decode b_W_law 177 = .ok (.goto 1182, 3) := by decide +kernel
theorem d_W_law_180 : decode b_W_law 180 = .ok (.aload_n 1, 1) := by decide +kernel
theorem d_W_law_181 : decode b_W_law 181 = .ok (.aload_n 3, 1) := by decide +kernel
theorem d_W_law_182 : decode b_W_law 182 = .ok (.invokestatic 84, 3) := by decide +kernel
theorem d_W_law_185 : decode b_W_law 185 = .ok (.istore 5, 2) := by decide +kernel
theorem d_W_law_187 : decode b_W_law 187 = .ok (.aload_n 2, 1) := by decide +kernel
theorem d_W_law_188 : decode b_W_law 188 = .ok (.invokevirtual 86, 3) := by decide +kernel
theorem d_W_law_191 : decode b_W_law 191 = .ok (.istore 6, 2) := by decide +kernel
theorem d_W_law_193 : decode b_W_law 193 = .ok (.aload_n 2, 1) := by decide +kernel
theorem d_W_law_194 : decode b_W_law 194 = .ok (.invokevirtual 81, 3) := by decide +kernel
theorem d_W_law_197 : decode b_W_law 197 = .ok (.iload 5, 2) := by decide +kernel
theorem d_W_law_199 : decode b_W_law 199 = .ok (.if_icmp .eq 5, 3) := by decide +kernel
theorem d_W_law_202 : decode b_W_law 202 = .ok (.iconst 0, 1) := by decide +kernel
theorem d_W_law_203 : decode b_W_law 203 = .ok (.ireturn, 1) := by decide +kernel
theorem d_W_law_204 : decode b_W_law 204 = .ok (.iload 5, 2) := by decide +kernel
theorem d_W_law_206 : decode b_W_law 206 = .ok (.ifCond .ne 15, 3) := by decide +kernel
theorem d_W_law_209 : decode b_W_law 209 = .ok (.aload_n 3, 1) := by decide +kernel
theorem d_W_law_210 : decode b_W_law 210 = .ok (.iconst 0, 1) := by decide +kernel
theorem d_W_law_211 : decode b_W_law 211 = .ok (.laload, 1) := by decide +kernel
theorem d_W_law_212 : decode b_W_law 212 = .ok (.iload 6, 2) := by decide +kernel
theorem d_W_law_214 : decode b_W_law 214 = .ok (.i2l, 1) := by decide +kernel
theorem d_W_law_215 : decode b_W_law 215 = .ok (.lcmp, 1) := by decide +kernel
theorem d_W_law_216 : decode b_W_law 216 = .ok (.ifCond .eq 5, 3) := by decide +kernel
theorem d_W_law_219 : decode b_W_law 219 = .ok (.iconst 0, 1) := by decide +kernel
theorem d_W_law_220 : decode b_W_law 220 = .ok (.ireturn, 1) := by decide +kernel
theorem d_W_law_221 : decode b_W_law 221 = .ok (.goto 1138, 3) := by decide +kernel
theorem d_W_law_224 : decode b_W_law 224 = .ok (.aload_n 1, 1) := by decide +kernel
theorem d_W_law_225 : decode b_W_law 225 = .ok (.aload_n 0, 1) := by decide +kernel
theorem d_W_law_226 : decode b_W_law 226 = .ok (.iload 4, 2) := by decide +kernel
theorem d_W_law_228 : decode b_W_law 228 = .ok (.iconst 1, 1) := by decide +kernel
theorem d_W_law_229 : decode b_W_law 229 = .ok (.iadd, 1) := by decide +kernel
theorem d_W_law_230 : decode b_W_law 230 = .ok (.iaload, 1) := by decide +kernel
theorem d_W_law_231 : decode b_W_law 231 = .ok (.aload_n 0, 1) := by decide +kernel
theorem d_W_law_232 : decode b_W_law 232 = .ok (.iload 4, 2) := by decide +kernel
theorem d_W_law_234 : decode b_W_law 234 = .ok (.iconst 2, 1) := by decide +kernel
theorem d_W_law_235 : decode b_W_law 235 = .ok (.iadd, 1) := by decide +kernel
theorem d_W_law_236 : decode b_W_law 236 = .ok (.iaload, 1) := by decide +kernel
theorem d_W_law_237 : decode b_W_law 237 = .ok (.aload_n 0, 1) := by decide +kernel
theorem d_W_law_238 : decode b_W_law 238 = .ok (.iload 4, 2) := by decide +kernel
theorem d_W_law_240 : decode b_W_law 240 = .ok (.iconst 3, 1) := by decide +kernel
theorem d_W_law_241 : decode b_W_law 241 = .ok (.iadd, 1) := by decide +kernel
theorem d_W_law_242 : decode b_W_law 242 = .ok (.iaload, 1) := by decide +kernel
theorem d_W_law_243 : decode b_W_law 243 = .ok (.aload_n 0, 1) := by decide +kernel
theorem d_W_law_244 : decode b_W_law 244 = .ok (.iload 4, 2) := by decide +kernel
theorem d_W_law_246 : decode b_W_law 246 = .ok (.iconst 4, 1) := by decide +kernel
theorem d_W_law_247 : decode b_W_law 247 = .ok (.iadd, 1) := by decide +kernel
theorem d_W_law_248 : decode b_W_law 248 = .ok (.iaload, 1) := by decide +kernel
theorem d_W_law_249 : decode b_W_law 249 = .ok (.aload_n 3, 1) := by decide +kernel
theorem d_W_law_250 : decode b_W_law 250 = .ok (.invokestatic 87, 3) := by decide +kernel
theorem d_W_law_253 : decode b_W_law 253 = .ok (.istore 5, 2) := by decide +kernel
theorem d_W_law_255 : decode b_W_law 255 = .ok (.aload_n 2, 1) := by decide +kernel
theorem d_W_law_256 : decode b_W_law 256 = .ok (.aload_n 0, 1) := by decide +kernel
theorem d_W_law_257 : decode b_W_law 257 = .ok (.iload 4, 2) := by decide +kernel
theorem d_W_law_259 : decode b_W_law 259 = .ok (.iconst 1, 1) := by decide +kernel
theorem d_W_law_260 : decode b_W_law 260 = .ok (.iadd, 1) := by decide +kernel
theorem d_W_law_261 : decode b_W_law 261 = .ok (.iaload, 1) := by decide +kernel
theorem d_W_law_262 : decode b_W_law 262 = .ok (.aload_n 0, 1) := by decide +kernel
theorem d_W_law_263 : decode b_W_law 263 = .ok (.iload 4, 2) := by decide +kernel
theorem d_W_law_265 : decode b_W_law 265 = .ok (.iconst 2, 1) := by decide +kernel
theorem d_W_law_266 : decode b_W_law 266 = .ok (.iadd, 1) := by decide +kernel
theorem d_W_law_267 : decode b_W_law 267 = .ok (.iaload, 1) := by decide +kernel
theorem d_W_law_268 : decode b_W_law 268 = .ok (.aload_n 0, 1) := by decide +kernel
theorem d_W_law_269 : decode b_W_law 269 = .ok (.iload 4, 2) := by decide +kernel
theorem d_W_law_271 : decode b_W_law 271 = .ok (.iconst 3, 1) := by decide +kernel
theorem d_W_law_272 : decode b_W_law 272 = .ok (.iadd, 1) := by decide +kernel
theorem d_W_law_273 : decode b_W_law 273 = .ok (.iaload, 1) := by decide +kernel
theorem d_W_law_274 : decode b_W_law 274 = .ok (.aload_n 0, 1) := by decide +kernel
theorem d_W_law_275 : decode b_W_law 275 = .ok (.iload 4, 2) := by decide +kernel
theorem d_W_law_277 : decode b_W_law 277 = .ok (.iconst 4, 1) := by decide +kernel
theorem d_W_law_278 : decode b_W_law 278 = .ok (.iadd, 1) := by decide +kernel
theorem d_W_law_279 : decode b_W_law 279 = .ok (.iaload, 1) := by decide +kernel
theorem d_W_law_280 : decode b_W_law 280 = .ok (.invokevirtual 90, 3) := by decide +kernel
theorem d_W_law_283 : decode b_W_law 283 = .ok (.istore 6, 2) := by decide +kernel
theorem d_W_law_285 : decode b_W_law 285 = .ok (.aload_n 2, 1) := by decide +kernel
theorem d_W_law_286 : decode b_W_law 286 = .ok (.invokevirtual 81, 3) := by decide +kernel
theorem d_W_law_289 : decode b_W_law 289 = .ok (.iload 5, 2) := by decide +kernel
theorem d_W_law_291 : decode b_W_law 291 = .ok (.if_icmp .eq 5, 3) := by decide +kernel
theorem d_W_law_294 : decode b_W_law 294 = .ok (.iconst 0, 1) := by decide +kernel
theorem d_W_law_295 : decode b_W_law 295 = .ok (.ireturn, 1) := by decide +kernel
theorem d_W_law_296 : decode b_W_law 296 = .ok (.iload 5, 2) := by decide +kernel
theorem d_W_law_298 : decode b_W_law 298 = .ok (.ifCond .ne 15, 3) := by decide +kernel
theorem d_W_law_301 : decode b_W_law 301 = .ok (.aload_n 3, 1) := by decide +kernel
theorem d_W_law_302 : decode b_W_law 302 = .ok (.iconst 0, 1) := by decide +kernel
theorem d_W_law_303 : decode b_W_law 303 = .ok (.laload, 1) := by decide +kernel
theorem d_W_law_304 : decode b_W_law 304 = .ok (.iload 6, 2) := by decide +kernel
theorem d_W_law_306 : decode b_W_law 306 = .ok (.i2l, 1) := by decide +kernel
theorem d_W_law_307 : decode b_W_law 307 = .ok (.lcmp, 1) := by decide +kernel
theorem d_W_law_308 : decode b_W_law 308 = .ok (.ifCond .eq 5, 3) := by decide +kernel
theorem d_W_law_311 : decode b_W_law 311 = .ok (.iconst 0, 1) := by decide +kernel
theorem d_W_law_312 : decode b_W_law 312 = .ok (.ireturn, 1) := by decide +kernel
theorem d_W_law_313 : decode b_W_law 313 = .ok (.goto 1046, 3) := by decide +kernel
theorem d_W_law_316 : decode b_W_law 316 = .ok (.aload_n 1, 1) := by decide +kernel
theorem d_W_law_317 : decode b_W_law 317 = .ok (.aload_n 0, 1) := by decide +kernel
theorem d_W_law_318 : decode b_W_law 318 = .ok (.iload 4, 2) := by decide +kernel
theorem d_W_law_320 : decode b_W_law 320 = .ok (.iconst 1, 1) := by decide +kernel
theorem d_W_law_321 : decode b_W_law 321 = .ok (.iadd, 1) := by decide +kernel
theorem d_W_law_322 : decode b_W_law 322 = .ok (.iaload, 1) := by decide +kernel
theorem d_W_law_323 : decode b_W_law 323 = .ok (.aload_n 0, 1) := by decide +kernel
theorem d_W_law_324 : decode b_W_law 324 = .ok (.iload 4, 2) := by decide +kernel
theorem d_W_law_326 : decode b_W_law 326 = .ok (.iconst 2, 1) := by decide +kernel
theorem d_W_law_327 : decode b_W_law 327 = .ok (.iadd, 1) := by decide +kernel
theorem d_W_law_328 : decode b_W_law 328 = .ok (.iaload, 1) := by decide +kernel
theorem d_W_law_329 : decode b_W_law 329 = .ok (.aload_n 3, 1) := by decide +kernel
theorem d_W_law_330 : decode b_W_law 330 = .ok (.invokestatic 91, 3) := by decide +kernel
theorem d_W_law_333 : decode b_W_law 333 = .ok (.istore 5, 2) := by decide +kernel
theorem d_W_law_335 : decode b_W_law 335 = .ok (.aload_n 2, 1) := by decide +kernel
theorem d_W_law_336 : decode b_W_law 336 = .ok (.aload_n 0, 1) := by decide +kernel
theorem d_W_law_337 : decode b_W_law 337 = .ok (.iload 4, 2) := by decide +kernel
theorem d_W_law_339 : decode b_W_law 339 = .ok (.iconst 1, 1) := by decide +kernel
theorem d_W_law_340 : decode b_W_law 340 = .ok (.iadd, 1) := by decide +kernel
theorem d_W_law_341 : decode b_W_law 341 = .ok (.iaload, 1) := by decide +kernel
theorem d_W_law_342 : decode b_W_law 342 = .ok (.aload_n 0, 1) := by decide +kernel
theorem d_W_law_343 : decode b_W_law 343 = .ok (.iload 4, 2) := by decide +kernel
theorem d_W_law_345 : decode b_W_law 345 = .ok (.iconst 2, 1) := by decide +kernel
theorem d_W_law_346 : decode b_W_law 346 = .ok (.iadd, 1) := by decide +kernel
theorem d_W_law_347 : decode b_W_law 347 = .ok (.iaload, 1) := by decide +kernel
theorem d_W_law_348 : decode b_W_law 348 = .ok (.invokevirtual 94, 3) := by decide +kernel
theorem d_W_law_351 : decode b_W_law 351 = .ok (.istore 6, 2) := by decide +kernel
theorem d_W_law_353 : decode b_W_law 353 = .ok (.aload_n 2, 1) := by decide +kernel
theorem d_W_law_354 : decode b_W_law 354 = .ok (.invokevirtual 81, 3) := by decide +kernel
theorem d_W_law_357 : decode b_W_law 357 = .ok (.iload 5, 2) := by decide +kernel
theorem d_W_law_359 : decode b_W_law 359 = .ok (.if_icmp .eq 5, 3) := by decide +kernel
theorem d_W_law_362 : decode b_W_law 362 = .ok (.iconst 0, 1) := by decide +kernel
theorem d_W_law_363 : decode b_W_law 363 = .ok (.ireturn, 1) := by decide +kernel
theorem d_W_law_364 : decode b_W_law 364 = .ok (.iload 5, 2) := by decide +kernel
theorem d_W_law_366 : decode b_W_law 366 = .ok (.ifCond .ne 15, 3) := by decide +kernel
theorem d_W_law_369 : decode b_W_law 369 = .ok (.aload_n 3, 1) := by decide +kernel
theorem d_W_law_370 : decode b_W_law 370 = .ok (.iconst 0, 1) := by decide +kernel
theorem d_W_law_371 : decode b_W_law 371 = .ok (.laload, 1) := by decide +kernel
theorem d_W_law_372 : decode b_W_law 372 = .ok (.iload 6, 2) := by decide +kernel
theorem d_W_law_374 : decode b_W_law 374 = .ok (.i2l, 1) := by decide +kernel
theorem d_W_law_375 : decode b_W_law 375 = .ok (.lcmp, 1) := by decide +kernel
theorem d_W_law_376 : decode b_W_law 376 = .ok (.ifCond .eq 5, 3) := by decide +kernel
theorem d_W_law_379 : decode b_W_law 379 = .ok (.iconst 0, 1) := by decide +kernel
theorem d_W_law_380 : decode b_W_law 380 = .ok (.ireturn, 1) := by decide +kernel
theorem d_W_law_381 : decode b_W_law 381 = .ok (.goto 978, 3) := by decide +kernel
theorem d_W_law_384 : decode b_W_law 384 = .ok (.aload_n 1, 1) := by decide +kernel
theorem d_W_law_385 : decode b_W_law 385 = .ok (.invokevirtual 95, 3) := by decide +kernel
theorem d_W_law_388 : decode b_W_law 388 = .ok (.aload_n 2, 1) := by decide +kernel
theorem d_W_law_389 : decode b_W_law 389 = .ok (.invokevirtual 98, 3) := by decide +kernel
theorem d_W_law_392 : decode b_W_law 392 = .ok (.if_icmp .eq 967, 3) := by decide +kernel
theorem d_W_law_395 : decode b_W_law 395 = .ok (.iconst 0, 1) := by decide +kernel
theorem d_W_law_396 : decode b_W_law 396 = .ok (.ireturn, 1) := by decide +kernel
theorem d_W_law_397 : decode b_W_law 397 = .ok (.aload_n 1, 1) := by decide +kernel
theorem d_W_law_398 : decode b_W_law 398 = .ok (.aload_n 0, 1) := by decide +kernel
theorem d_W_law_399 : decode b_W_law 399 = .ok (.iload 4, 2) := by decide +kernel
theorem d_W_law_401 : decode b_W_law 401 = .ok (.iconst 1, 1) := by decide +kernel
theorem d_W_law_402 : decode b_W_law 402 = .ok (.iadd, 1) := by decide +kernel
theorem d_W_law_403 : decode b_W_law 403 = .ok (.iaload, 1) := by decide +kernel
theorem d_W_law_404 : decode b_W_law 404 = .ok (.aload_n 0, 1) := by decide +kernel
theorem d_W_law_405 : decode b_W_law 405 = .ok (.iload 4, 2) := by decide +kernel
theorem d_W_law_407 : decode b_W_law 407 = .ok (.iconst 2, 1) := by decide +kernel
theorem d_W_law_408 : decode b_W_law 408 = .ok (.iadd, 1) := by decide +kernel
theorem d_W_law_409 : decode b_W_law 409 = .ok (.iaload, 1) := by decide +kernel
theorem d_W_law_410 : decode b_W_law 410 = .ok (.aload_n 3, 1) := by decide +kernel
theorem d_W_law_411 : decode b_W_law 411 = .ok (.invokestatic 99, 3) := by decide +kernel
theorem d_W_law_414 : decode b_W_law 414 = .ok (.istore 5, 2) := by decide +kernel
theorem d_W_law_416 : decode b_W_law 416 = .ok (.aload_n 2, 1) := by decide +kernel
theorem d_W_law_417 : decode b_W_law 417 = .ok (.aload_n 0, 1) := by decide +kernel
theorem d_W_law_418 : decode b_W_law 418 = .ok (.iload 4, 2) := by decide +kernel
theorem d_W_law_420 : decode b_W_law 420 = .ok (.iconst 1, 1) := by decide +kernel
theorem d_W_law_421 : decode b_W_law 421 = .ok (.iadd, 1) := by decide +kernel
theorem d_W_law_422 : decode b_W_law 422 = .ok (.iaload, 1) := by decide +kernel
theorem d_W_law_423 : decode b_W_law 423 = .ok (.aload_n 0, 1) := by decide +kernel
theorem d_W_law_424 : decode b_W_law 424 = .ok (.iload 4, 2) := by decide +kernel
theorem d_W_law_426 : decode b_W_law 426 = .ok (.iconst 2, 1) := by decide +kernel
theorem d_W_law_427 : decode b_W_law 427 = .ok (.iadd, 1) := by decide +kernel
theorem d_W_law_428 : decode b_W_law 428 = .ok (.iaload, 1) := by decide +kernel
theorem d_W_law_429 : decode b_W_law 429 = .ok (.invokevirtual 101, 3) := by decide +kernel
theorem d_W_law_432 : decode b_W_law 432 = .ok (.istore 6, 2) := by decide +kernel
theorem d_W_law_434 : decode b_W_law 434 = .ok (.aload_n 2, 1) := by decide +kernel
theorem d_W_law_435 : decode b_W_law 435 = .ok (.invokevirtual 81, 3) := by decide +kernel
theorem d_W_law_438 : decode b_W_law 438 = .ok (.iload 5, 2) := by decide +kernel
theorem d_W_law_440 : decode b_W_law 440 = .ok (.if_icmp .eq 5, 3) := by decide +kernel
theorem d_W_law_443 : decode b_W_law 443 = .ok (.iconst 0, 1) := by decide +kernel
theorem d_W_law_444 : decode b_W_law 444 = .ok (.ireturn, 1) := by decide +kernel
theorem d_W_law_445 : decode b_W_law 445 = .ok (.iload 5, 2) := by decide +kernel
theorem d_W_law_447 : decode b_W_law 447 = .ok (.ifCond .ne 15, 3) := by decide +kernel
theorem d_W_law_450 : decode b_W_law 450 = .ok (.aload_n 3, 1) := by decide +kernel
theorem d_W_law_451 : decode b_W_law 451 = .ok (.iconst 0, 1) := by decide +kernel
theorem d_W_law_452 : decode b_W_law 452 = .ok (.laload, 1) := by decide +kernel
theorem d_W_law_453 : decode b_W_law 453 = .ok (.iload 6, 2) := by decide +kernel
theorem d_W_law_455 : decode b_W_law 455 = .ok (.i2l, 1) := by decide +kernel
theorem d_W_law_456 : decode b_W_law 456 = .ok (.lcmp, 1) := by decide +kernel
theorem d_W_law_457 : decode b_W_law 457 = .ok (.ifCond .eq 5, 3) := by decide +kernel
theorem d_W_law_460 : decode b_W_law 460 = .ok (.iconst 0, 1) := by decide +kernel
theorem d_W_law_461 : decode b_W_law 461 = .ok (.ireturn, 1) := by decide +kernel
theorem d_W_law_462 : decode b_W_law 462 = .ok (.goto 897, 3) := by decide +kernel
theorem d_W_law_465 : decode b_W_law 465 = .ok (.aload_n 1, 1) := by decide +kernel
theorem d_W_law_466 : decode b_W_law 466 = .ok (.aload_n 0, 1) := by decide +kernel
theorem d_W_law_467 : decode b_W_law 467 = .ok (.iload 4, 2) := by decide +kernel
theorem d_W_law_469 : decode b_W_law 469 = .ok (.iconst 1, 1) := by decide +kernel
theorem d_W_law_470 : decode b_W_law 470 = .ok (.iadd, 1) := by decide +kernel
theorem d_W_law_471 : decode b_W_law 471 = .ok (.iaload, 1) := by decide +kernel
theorem d_W_law_472 : decode b_W_law 472 = .ok (.aload_n 0, 1) := by decide +kernel
theorem d_W_law_473 : decode b_W_law 473 = .ok (.iload 4, 2) := by decide +kernel
theorem d_W_law_475 : decode b_W_law 475 = .ok (.iconst 2, 1) := by decide +kernel
theorem d_W_law_476 : decode b_W_law 476 = .ok (.iadd, 1) := by decide +kernel
theorem d_W_law_477 : decode b_W_law 477 = .ok (.iaload, 1) := by decide +kernel
theorem d_W_law_478 : decode b_W_law 478 = .ok (.aload_n 3, 1) := by decide +kernel
theorem d_W_law_479 : decode b_W_law 479 = .ok (.invokestatic 102, 3) := by decide +kernel
theorem d_W_law_482 : decode b_W_law 482 = .ok (.istore 5, 2) := by decide +kernel
theorem d_W_law_484 : decode b_W_law 484 = .ok (.aload_n 2, 1) := by decide +kernel
theorem d_W_law_485 : decode b_W_law 485 = .ok (.aload_n 0, 1) := by decide +kernel
theorem d_W_law_486 : decode b_W_law 486 = .ok (.iload 4, 2) := by decide +kernel
theorem d_W_law_488 : decode b_W_law 488 = .ok (.iconst 1, 1) := by decide +kernel
theorem d_W_law_489 : decode b_W_law 489 = .ok (.iadd, 1) := by decide +kernel
theorem d_W_law_490 : decode b_W_law 490 = .ok (.iaload, 1) := by decide +kernel
theorem d_W_law_491 : decode b_W_law 491 = .ok (.aload_n 0, 1) := by decide +kernel
theorem d_W_law_492 : decode b_W_law 492 = .ok (.iload 4, 2) := by decide +kernel
theorem d_W_law_494 : decode b_W_law 494 = .ok (.iconst 2, 1) := by decide +kernel
theorem d_W_law_495 : decode b_W_law 495 = .ok (.iadd, 1) := by decide +kernel
theorem d_W_law_496 : decode b_W_law 496 = .ok (.iaload, 1) := by decide +kernel
theorem d_W_law_497 : decode b_W_law 497 = .ok (.invokevirtual 104, 3) := by decide +kernel
theorem d_W_law_500 : decode b_W_law 500 = .ok (.istore 6, 2) := by decide +kernel
theorem d_W_law_502 : decode b_W_law 502 = .ok (.aload_n 2, 1) := by decide +kernel
theorem d_W_law_503 : decode b_W_law 503 = .ok (.invokevirtual 81, 3) := by decide +kernel
theorem d_W_law_506 : decode b_W_law 506 = .ok (.iload 5, 2) := by decide +kernel
theorem d_W_law_508 : decode b_W_law 508 = .ok (.if_icmp .eq 5, 3) := by decide +kernel
theorem d_W_law_511 : decode b_W_law 511 = .ok (.iconst 0, 1) := by decide +kernel
theorem d_W_law_512 : decode b_W_law 512 = .ok (.ireturn, 1) := by decide +kernel
theorem d_W_law_513 : decode b_W_law 513 = .ok (.iload 5, 2) := by decide +kernel
theorem d_W_law_515 : decode b_W_law 515 = .ok (.ifCond .ne 15, 3) := by decide +kernel
theorem d_W_law_518 : decode b_W_law 518 = .ok (.aload_n 3, 1) := by decide +kernel
theorem d_W_law_519 : decode b_W_law 519 = .ok (.iconst 0, 1) := by decide +kernel
theorem d_W_law_520 : decode b_W_law 520 = .ok (.laload, 1) := by decide +kernel
theorem d_W_law_521 : decode b_W_law 521 = .ok (.iload 6, 2) := by decide +kernel
theorem d_W_law_523 : decode b_W_law 523 = .ok (.i2l, 1) := by decide +kernel
theorem d_W_law_524 : decode b_W_law 524 = .ok (.lcmp, 1) := by decide +kernel
theorem d_W_law_525 : decode b_W_law 525 = .ok (.ifCond .eq 5, 3) := by decide +kernel
theorem d_W_law_528 : decode b_W_law 528 = .ok (.iconst 0, 1) := by decide +kernel
theorem d_W_law_529 : decode b_W_law 529 = .ok (.ireturn, 1) := by decide +kernel
theorem d_W_law_530 : decode b_W_law 530 = .ok (.goto 829, 3) := by decide +kernel
theorem d_W_law_533 : decode b_W_law 533 = .ok (.aload_n 1, 1) := by decide +kernel
theorem d_W_law_534 : decode b_W_law 534 = .ok (.aload_n 0, 1) := by decide +kernel
theorem d_W_law_535 : decode b_W_law 535 = .ok (.iload 4, 2) := by decide +kernel
theorem d_W_law_537 : decode b_W_law 537 = .ok (.iconst 1, 1) := by decide +kernel
theorem d_W_law_538 : decode b_W_law 538 = .ok (.iadd, 1) := by decide +kernel
theorem d_W_law_539 : decode b_W_law 539 = .ok (.iaload, 1) := by decide +kernel
theorem d_W_law_540 : decode b_W_law 540 = .ok (.aload_n 3, 1) := by decide +kernel
theorem d_W_law_541 : decode b_W_law 541 = .ok (.invokestatic 105, 3) := by decide +kernel
theorem d_W_law_544 : decode b_W_law 544 = .ok (.istore 5, 2) := by decide +kernel
theorem d_W_law_546 : decode b_W_law 546 = .ok (.aload_n 2, 1) := by decide +kernel
theorem d_W_law_547 : decode b_W_law 547 = .ok (.aload_n 0, 1) := by decide +kernel
theorem d_W_law_548 : decode b_W_law 548 = .ok (.iload 4, 2) := by decide +kernel
theorem d_W_law_550 : decode b_W_law 550 = .ok (.iconst 1, 1) := by decide +kernel
theorem d_W_law_551 : decode b_W_law 551 = .ok (.iadd, 1) := by decide +kernel
theorem d_W_law_552 : decode b_W_law 552 = .ok (.iaload, 1) := by decide +kernel
theorem d_W_law_553 : decode b_W_law 553 = .ok (.invokevirtual 108, 3) := by decide +kernel
theorem d_W_law_556 : decode b_W_law 556 = .ok (.lstore 6, 2) := by decide +kernel
theorem d_W_law_558 : decode b_W_law 558 = .ok (.aload_n 2, 1) := by decide +kernel
theorem d_W_law_559 : decode b_W_law 559 = .ok (.invokevirtual 81, 3) := by decide +kernel
theorem d_W_law_562 : decode b_W_law 562 = .ok (.iload 5, 2) := by decide +kernel
theorem d_W_law_564 : decode b_W_law 564 = .ok (.if_icmp .eq 5, 3) := by decide +kernel
theorem d_W_law_567 : decode b_W_law 567 = .ok (.iconst 0, 1) := by decide +kernel
theorem d_W_law_568 : decode b_W_law 568 = .ok (.ireturn, 1) := by decide +kernel
theorem d_W_law_569 : decode b_W_law 569 = .ok (.iload 5, 2) := by decide +kernel
theorem d_W_law_571 : decode b_W_law 571 = .ok (.ifCond .ne 14, 3) := by decide +kernel
theorem d_W_law_574 : decode b_W_law 574 = .ok (.aload_n 3, 1) := by decide +kernel
theorem d_W_law_575 : decode b_W_law 575 = .ok (.iconst 0, 1) := by decide +kernel
theorem d_W_law_576 : decode b_W_law 576 = .ok (.laload, 1) := by decide +kernel
theorem d_W_law_577 : decode b_W_law 577 = .ok (.lload 6, 2) := by decide +kernel
theorem d_W_law_579 : decode b_W_law 579 = .ok (.lcmp, 1) := by decide +kernel
theorem d_W_law_580 : decode b_W_law 580 = .ok (.ifCond .eq 5, 3) := by decide +kernel
theorem d_W_law_583 : decode b_W_law 583 = .ok (.iconst 0, 1) := by decide +kernel
theorem d_W_law_584 : decode b_W_law 584 = .ok (.ireturn, 1) := by decide +kernel
theorem d_W_law_585 : decode b_W_law 585 = .ok (.goto 774, 3) := by decide +kernel
theorem d_W_law_588 : decode b_W_law 588 = .ok (.aload_n 1, 1) := by decide +kernel
theorem d_W_law_589 : decode b_W_law 589 = .ok (.aload_n 0, 1) := by decide +kernel
theorem d_W_law_590 : decode b_W_law 590 = .ok (.iload 4, 2) := by decide +kernel
theorem d_W_law_592 : decode b_W_law 592 = .ok (.iconst 1, 1) := by decide +kernel
theorem d_W_law_593 : decode b_W_law 593 = .ok (.iadd, 1) := by decide +kernel
theorem d_W_law_594 : decode b_W_law 594 = .ok (.iaload, 1) := by decide +kernel
theorem d_W_law_595 : decode b_W_law 595 = .ok (.aload_n 0, 1) := by decide +kernel
theorem d_W_law_596 : decode b_W_law 596 = .ok (.iload 4, 2) := by decide +kernel
theorem d_W_law_598 : decode b_W_law 598 = .ok (.iconst 2, 1) := by decide +kernel
theorem d_W_law_599 : decode b_W_law 599 = .ok (.iadd, 1) := by decide +kernel
theorem d_W_law_600 : decode b_W_law 600 = .ok (.iaload, 1) := by decide +kernel
theorem d_W_law_601 : decode b_W_law 601 = .ok (.ifCond .eq 7, 3) := by decide +kernel
theorem d_W_law_604 : decode b_W_law 604 = .ok (.iconst 1, 1) := by decide +kernel
theorem d_W_law_605 : decode b_W_law 605 = .ok (.goto 4, 3) := by decide +kernel
theorem d_W_law_608 : decode b_W_law 608 = .ok (.iconst 0, 1) := by decide +kernel
theorem d_W_law_609 : decode b_W_law 609 = .ok (.aload_n 3, 1) := by decide +kernel
theorem d_W_law_610 : decode b_W_law 610 = .ok (.invokestatic 109, 3) := by decide +kernel
theorem d_W_law_613 : decode b_W_law 613 = .ok (.istore 5, 2) := by decide +kernel
theorem d_W_law_615 : decode b_W_law 615 = .ok (.aload_n 2, 1) := by decide +kernel
theorem d_W_law_616 : decode b_W_law 616 = .ok (.aload_n 0, 1) := by decide +kernel
theorem d_W_law_617 : decode b_W_law 617 = .ok (.iload 4, 2) := by decide +kernel
theorem d_W_law_619 : decode b_W_law 619 = .ok (.iconst 1, 1) := by decide +kernel
theorem d_W_law_620 : decode b_W_law 620 = .ok (.iadd, 1) := by decide +kernel
theorem d_W_law_621 : decode b_W_law 621 = .ok (.iaload, 1) := by decide +kernel
theorem d_W_law_622 : decode b_W_law 622 = .ok (.aload_n 0, 1) := by decide +kernel
theorem d_W_law_623 : decode b_W_law 623 = .ok (.iload 4, 2) := by decide +kernel
theorem d_W_law_625 : decode b_W_law 625 = .ok (.iconst 2, 1) := by decide +kernel
theorem d_W_law_626 : decode b_W_law 626 = .ok (.iadd, 1) := by decide +kernel
theorem d_W_law_627 : decode b_W_law 627 = .ok (.iaload, 1) := by decide +kernel
theorem d_W_law_628 : decode b_W_law 628 = .ok (.ifCond .eq 7, 3) := by decide +kernel
theorem d_W_law_631 : decode b_W_law 631 = .ok (.iconst 1, 1) := by decide +kernel
theorem d_W_law_632 : decode b_W_law 632 = .ok (.goto 4, 3) := by decide +kernel
theorem d_W_law_635 : decode b_W_law 635 = .ok (.iconst 0, 1) := by decide +kernel
theorem d_W_law_636 : decode b_W_law 636 = .ok (.invokevirtual 112, 3) := by decide +kernel
theorem d_W_law_639 : decode b_W_law 639 = .ok (.lstore 6, 2) := by decide +kernel
theorem d_W_law_641 : decode b_W_law 641 = .ok (.aload_n 2, 1) := by decide +kernel
theorem d_W_law_642 : decode b_W_law 642 = .ok (.invokevirtual 81, 3) := by decide +kernel
theorem d_W_law_645 : decode b_W_law 645 = .ok (.iload 5, 2) := by decide +kernel
theorem d_W_law_647 : decode b_W_law 647 = .ok (.if_icmp .eq 5, 3) := by decide +kernel
theorem d_W_law_650 : decode b_W_law 650 = .ok (.iconst 0, 1) := by decide +kernel
theorem d_W_law_651 : decode b_W_law 651 = .ok (.ireturn, 1) := by decide +kernel
theorem d_W_law_652 : decode b_W_law 652 = .ok (.iload 5, 2) := by decide +kernel
theorem d_W_law_654 : decode b_W_law 654 = .ok (.ifCond .ne 14, 3) := by decide +kernel
theorem d_W_law_657 : decode b_W_law 657 = .ok (.aload_n 3, 1) := by decide +kernel
theorem d_W_law_658 : decode b_W_law 658 = .ok (.iconst 0, 1) := by decide +kernel
theorem d_W_law_659 : decode b_W_law 659 = .ok (.laload, 1) := by decide +kernel
theorem d_W_law_660 : decode b_W_law 660 = .ok (.lload 6, 2) := by decide +kernel
theorem d_W_law_662 : decode b_W_law 662 = .ok (.lcmp, 1) := by decide +kernel
theorem d_W_law_663 : decode b_W_law 663 = .ok (.ifCond .eq 5, 3) := by decide +kernel
theorem d_W_law_666 : decode b_W_law 666 = .ok (.iconst 0, 1) := by decide +kernel
theorem d_W_law_667 : decode b_W_law 667 = .ok (.ireturn, 1) := by decide +kernel
theorem d_W_law_668 : decode b_W_law 668 = .ok (.goto 691, 3) := by decide +kernel
theorem d_W_law_671 : decode b_W_law 671 = .ok (.aload_n 1, 1) := by decide +kernel
theorem d_W_law_672 : decode b_W_law 672 = .ok (.aload_n 0, 1) := by decide +kernel
theorem d_W_law_673 : decode b_W_law 673 = .ok (.iload 4, 2) := by decide +kernel
theorem d_W_law_675 : decode b_W_law 675 = .ok (.iconst 1, 1) := by decide +kernel
theorem d_W_law_676 : decode b_W_law 676 = .ok (.iadd, 1) := by decide +kernel
theorem d_W_law_677 : decode b_W_law 677 = .ok (.iaload, 1) := by decide +kernel
theorem d_W_law_678 : decode b_W_law 678 = .ok (.aload_n 3, 1) := by decide +kernel
theorem d_W_law_679 : decode b_W_law 679 = .ok (.invokestatic 113, 3) := by decide +kernel
theorem d_W_law_682 : decode b_W_law 682 = .ok (.istore 5, 2) := by decide +kernel
theorem d_W_law_684 : decode b_W_law 684 = .ok (.aload_n 2, 1) := by decide +kernel
theorem d_W_law_685 : decode b_W_law 685 = .ok (.aload_n 0, 1) := by decide +kernel
theorem d_W_law_686 : decode b_W_law 686 = .ok (.iload 4, 2) := by decide +kernel
theorem d_W_law_688 : decode b_W_law 688 = .ok (.iconst 1, 1) := by decide +kernel
theorem d_W_law_689 : decode b_W_law 689 = .ok (.iadd, 1) := by decide +kernel
theorem d_W_law_690 : decode b_W_law 690 = .ok (.iaload, 1) := by decide +kernel
theorem d_W_law_691 : decode b_W_law 691 = .ok (.invokevirtual 115, 3) := by decide +kernel
theorem d_W_law_694 : decode b_W_law 694 = .ok (.istore 6, 2) := by decide +kernel
theorem d_W_law_696 : decode b_W_law 696 = .ok (.aload_n 2, 1) := by decide +kernel
theorem d_W_law_697 : decode b_W_law 697 = .ok (.invokevirtual 81, 3) := by decide +kernel
theorem d_W_law_700 : decode b_W_law 700 = .ok (.iload 5, 2) := by decide +kernel
theorem d_W_law_702 : decode b_W_law 702 = .ok (.if_icmp .eq 5, 3) := by decide +kernel
theorem d_W_law_705 : decode b_W_law 705 = .ok (.iconst 0, 1) := by decide +kernel
theorem d_W_law_706 : decode b_W_law 706 = .ok (.ireturn, 1) := by decide +kernel
theorem d_W_law_707 : decode b_W_law 707 = .ok (.iload 5, 2) := by decide +kernel
theorem d_W_law_709 : decode b_W_law 709 = .ok (.ifCond .ne 15, 3) := by decide +kernel
theorem d_W_law_712 : decode b_W_law 712 = .ok (.aload_n 3, 1) := by decide +kernel
theorem d_W_law_713 : decode b_W_law 713 = .ok (.iconst 0, 1) := by decide +kernel
theorem d_W_law_714 : decode b_W_law 714 = .ok (.laload, 1) := by decide +kernel
theorem d_W_law_715 : decode b_W_law 715 = .ok (.iload 6, 2) := by decide +kernel
theorem d_W_law_717 : decode b_W_law 717 = .ok (.i2l, 1) := by decide +kernel
theorem d_W_law_718 : decode b_W_law 718 = .ok (.lcmp, 1) := by decide +kernel
theorem d_W_law_719 : decode b_W_law 719 = .ok (.ifCond .eq 5, 3) := by decide +kernel
theorem d_W_law_722 : decode b_W_law 722 = .ok (.iconst 0, 1) := by decide +kernel
theorem d_W_law_723 : decode b_W_law 723 = .ok (.ireturn, 1) := by decide +kernel
theorem d_W_law_724 : decode b_W_law 724 = .ok (.goto 635, 3) := by decide +kernel
theorem d_W_law_727 : decode b_W_law 727 = .ok (.aload_n 1, 1) := by decide +kernel
theorem d_W_law_728 : decode b_W_law 728 = .ok (.aload_n 0, 1) := by decide +kernel
theorem d_W_law_729 : decode b_W_law 729 = .ok (.iload 4, 2) := by decide +kernel
theorem d_W_law_731 : decode b_W_law 731 = .ok (.iconst 1, 1) := by decide +kernel
theorem d_W_law_732 : decode b_W_law 732 = .ok (.iadd, 1) := by decide +kernel
theorem d_W_law_733 : decode b_W_law 733 = .ok (.iaload, 1) := by decide +kernel
theorem d_W_law_734 : decode b_W_law 734 = .ok (.aload_n 0, 1) := by decide +kernel
theorem d_W_law_735 : decode b_W_law 735 = .ok (.iload 4, 2) := by decide +kernel
theorem d_W_law_737 : decode b_W_law 737 = .ok (.iconst 2, 1) := by decide +kernel
theorem d_W_law_738 : decode b_W_law 738 = .ok (.iadd, 1) := by decide +kernel
theorem d_W_law_739 : decode b_W_law 739 = .ok (.iaload, 1) := by decide +kernel
theorem d_W_law_740 : decode b_W_law 740 = .ok (.aload_n 3, 1) := by decide +kernel
theorem d_W_law_741 : decode b_W_law 741 = .ok (.invokestatic 116, 3) := by decide +kernel
theorem d_W_law_744 : decode b_W_law 744 = .ok (.istore 5, 2) := by decide +kernel
theorem d_W_law_746 : decode b_W_law 746 = .ok (.aload_n 2, 1) := by decide +kernel
theorem d_W_law_747 : decode b_W_law 747 = .ok (.aload_n 0, 1) := by decide +kernel
theorem d_W_law_748 : decode b_W_law 748 = .ok (.iload 4, 2) := by decide +kernel
theorem d_W_law_750 : decode b_W_law 750 = .ok (.iconst 1, 1) := by decide +kernel
theorem d_W_law_751 : decode b_W_law 751 = .ok (.iadd, 1) := by decide +kernel
theorem d_W_law_752 : decode b_W_law 752 = .ok (.iaload, 1) := by decide +kernel
theorem d_W_law_753 : decode b_W_law 753 = .ok (.aload_n 0, 1) := by decide +kernel
theorem d_W_law_754 : decode b_W_law 754 = .ok (.iload 4, 2) := by decide +kernel
theorem d_W_law_756 : decode b_W_law 756 = .ok (.iconst 2, 1) := by decide +kernel
theorem d_W_law_757 : decode b_W_law 757 = .ok (.iadd, 1) := by decide +kernel
theorem d_W_law_758 : decode b_W_law 758 = .ok (.iaload, 1) := by decide +kernel
theorem d_W_law_759 : decode b_W_law 759 = .ok (.invokevirtual 118, 3) := by decide +kernel
theorem d_W_law_762 : decode b_W_law 762 = .ok (.istore 6, 2) := by decide +kernel
theorem d_W_law_764 : decode b_W_law 764 = .ok (.aload_n 2, 1) := by decide +kernel
theorem d_W_law_765 : decode b_W_law 765 = .ok (.invokevirtual 81, 3) := by decide +kernel
theorem d_W_law_768 : decode b_W_law 768 = .ok (.iload 5, 2) := by decide +kernel
theorem d_W_law_770 : decode b_W_law 770 = .ok (.if_icmp .eq 5, 3) := by decide +kernel
theorem d_W_law_773 : decode b_W_law 773 = .ok (.iconst 0, 1) := by decide +kernel
theorem d_W_law_774 : decode b_W_law 774 = .ok (.ireturn, 1) := by decide +kernel
theorem d_W_law_775 : decode b_W_law 775 = .ok (.iload 5, 2) := by decide +kernel
theorem d_W_law_777 : decode b_W_law 777 = .ok (.ifCond .ne 15, 3) := by decide +kernel
theorem d_W_law_780 : decode b_W_law 780 = .ok (.aload_n 3, 1) := by decide +kernel
theorem d_W_law_781 : decode b_W_law 781 = .ok (.iconst 0, 1) := by decide +kernel
theorem d_W_law_782 : decode b_W_law 782 = .ok (.laload, 1) := by decide +kernel
theorem d_W_law_783 : decode b_W_law 783 = .ok (.iload 6, 2) := by decide +kernel
theorem d_W_law_785 : decode b_W_law 785 = .ok (.i2l, 1) := by decide +kernel
theorem d_W_law_786 : decode b_W_law 786 = .ok (.lcmp, 1) := by decide +kernel
theorem d_W_law_787 : decode b_W_law 787 = .ok (.ifCond .eq 5, 3) := by decide +kernel
theorem d_W_law_790 : decode b_W_law 790 = .ok (.iconst 0, 1) := by decide +kernel
theorem d_W_law_791 : decode b_W_law 791 = .ok (.ireturn, 1) := by decide +kernel
theorem d_W_law_792 : decode b_W_law 792 = .ok (.goto 567, 3) := by decide +kernel
theorem d_W_law_795 : decode b_W_law 795 = .ok (.aload_n 1, 1) := by decide +kernel
theorem d_W_law_796 : decode b_W_law 796 = .ok (.aload_n 0, 1) := by decide +kernel
theorem d_W_law_797 : decode b_W_law 797 = .ok (.iload 4, 2) := by decide +kernel
theorem d_W_law_799 : decode b_W_law 799 = .ok (.iconst 1, 1) := by decide +kernel
theorem d_W_law_800 : decode b_W_law 800 = .ok (.iadd, 1) := by decide +kernel
theorem d_W_law_801 : decode b_W_law 801 = .ok (.iaload, 1) := by decide +kernel
theorem d_W_law_802 : decode b_W_law 802 = .ok (.aload_n 0, 1) := by decide +kernel
theorem d_W_law_803 : decode b_W_law 803 = .ok (.iload 4, 2) := by decide +kernel
theorem d_W_law_805 : decode b_W_law 805 = .ok (.iconst 2, 1) := by decide +kernel
theorem d_W_law_806 : decode b_W_law 806 = .ok (.iadd, 1) := by decide +kernel
theorem d_W_law_807 : decode b_W_law 807 = .ok (.iaload, 1) := by decide +kernel
theorem d_W_law_808 : decode b_W_law 808 = .ok (.aload_n 0, 1) := by decide +kernel
theorem d_W_law_809 : decode b_W_law 809 = .ok (.iload 4, 2) := by decide +kernel
theorem d_W_law_811 : decode b_W_law 811 = .ok (.iconst 3, 1) := by decide +kernel
theorem d_W_law_812 : decode b_W_law 812 = .ok (.iadd, 1) := by decide +kernel
theorem d_W_law_813 : decode b_W_law 813 = .ok (.iaload, 1) := by decide +kernel
theorem d_W_law_814 : decode b_W_law 814 = .ok (.aload_n 0, 1) := by decide +kernel
theorem d_W_law_815 : decode b_W_law 815 = .ok (.iload 4, 2) := by decide +kernel
theorem d_W_law_817 : decode b_W_law 817 = .ok (.iconst 4, 1) := by decide +kernel
theorem d_W_law_818 : decode b_W_law 818 = .ok (.iadd, 1) := by decide +kernel
theorem d_W_law_819 : decode b_W_law 819 = .ok (.iaload, 1) := by decide +kernel
theorem d_W_law_820 : decode b_W_law 820 = .ok (.aload_n 3, 1) := by decide +kernel
theorem d_W_law_821 : decode b_W_law 821 = .ok (.invokestatic 119, 3) := by decide +kernel
theorem d_W_law_824 : decode b_W_law 824 = .ok (.istore 5, 2) := by decide +kernel
theorem d_W_law_826 : decode b_W_law 826 = .ok (.aload_n 2, 1) := by decide +kernel
theorem d_W_law_827 : decode b_W_law 827 = .ok (.aload_n 0, 1) := by decide +kernel
theorem d_W_law_828 : decode b_W_law 828 = .ok (.iload 4, 2) := by decide +kernel
theorem d_W_law_830 : decode b_W_law 830 = .ok (.iconst 1, 1) := by decide +kernel
theorem d_W_law_831 : decode b_W_law 831 = .ok (.iadd, 1) := by decide +kernel
theorem d_W_law_832 : decode b_W_law 832 = .ok (.iaload, 1) := by decide +kernel
theorem d_W_law_833 : decode b_W_law 833 = .ok (.aload_n 0, 1) := by decide +kernel
theorem d_W_law_834 : decode b_W_law 834 = .ok (.iload 4, 2) := by decide +kernel
theorem d_W_law_836 : decode b_W_law 836 = .ok (.iconst 2, 1) := by decide +kernel
theorem d_W_law_837 : decode b_W_law 837 = .ok (.iadd, 1) := by decide +kernel
theorem d_W_law_838 : decode b_W_law 838 = .ok (.iaload, 1) := by decide +kernel
theorem d_W_law_839 : decode b_W_law 839 = .ok (.aload_n 0, 1) := by decide +kernel
theorem d_W_law_840 : decode b_W_law 840 = .ok (.iload 4, 2) := by decide +kernel
theorem d_W_law_842 : decode b_W_law 842 = .ok (.iconst 3, 1) := by decide +kernel
theorem d_W_law_843 : decode b_W_law 843 = .ok (.iadd, 1) := by decide +kernel
theorem d_W_law_844 : decode b_W_law 844 = .ok (.iaload, 1) := by decide +kernel
theorem d_W_law_845 : decode b_W_law 845 = .ok (.aload_n 0, 1) := by decide +kernel
theorem d_W_law_846 : decode b_W_law 846 = .ok (.iload 4, 2) := by decide +kernel
theorem d_W_law_848 : decode b_W_law 848 = .ok (.iconst 4, 1) := by decide +kernel
theorem d_W_law_849 : decode b_W_law 849 = .ok (.iadd, 1) := by decide +kernel
theorem d_W_law_850 : decode b_W_law 850 = .ok (.iaload, 1) := by decide +kernel
theorem d_W_law_851 : decode b_W_law 851 = .ok (.invokevirtual 121, 3) := by decide +kernel
theorem d_W_law_854 : decode b_W_law 854 = .ok (.istore 6, 2) := by decide +kernel
theorem d_W_law_856 : decode b_W_law 856 = .ok (.aload_n 2, 1) := by decide +kernel
theorem d_W_law_857 : decode b_W_law 857 = .ok (.invokevirtual 81, 3) := by decide +kernel
theorem d_W_law_860 : decode b_W_law 860 = .ok (.iload 5, 2) := by decide +kernel
theorem d_W_law_862 : decode b_W_law 862 = .ok (.if_icmp .eq 5, 3) := by decide +kernel
theorem d_W_law_865 : decode b_W_law 865 = .ok (.iconst 0, 1) := by decide +kernel
theorem d_W_law_866 : decode b_W_law 866 = .ok (.ireturn, 1) := by decide +kernel
theorem d_W_law_867 : decode b_W_law 867 = .ok (.iload 5, 2) := by decide +kernel
theorem d_W_law_869 : decode b_W_law 869 = .ok (.ifCond .ne 15, 3) := by decide +kernel
theorem d_W_law_872 : decode b_W_law 872 = .ok (.aload_n 3, 1) := by decide +kernel
theorem d_W_law_873 : decode b_W_law 873 = .ok (.iconst 0, 1) := by decide +kernel
theorem d_W_law_874 : decode b_W_law 874 = .ok (.laload, 1) := by decide +kernel
theorem d_W_law_875 : decode b_W_law 875 = .ok (.iload 6, 2) := by decide +kernel
theorem d_W_law_877 : decode b_W_law 877 = .ok (.i2l, 1) := by decide +kernel
theorem d_W_law_878 : decode b_W_law 878 = .ok (.lcmp, 1) := by decide +kernel
theorem d_W_law_879 : decode b_W_law 879 = .ok (.ifCond .eq 5, 3) := by decide +kernel
theorem d_W_law_882 : decode b_W_law 882 = .ok (.iconst 0, 1) := by decide +kernel
theorem d_W_law_883 : decode b_W_law 883 = .ok (.ireturn, 1) := by decide +kernel
theorem d_W_law_884 : decode b_W_law 884 = .ok (.goto 475, 3) := by decide +kernel
theorem d_W_law_887 : decode b_W_law 887 = .ok (.aload_n 1, 1) := by decide +kernel
theorem d_W_law_888 : decode b_W_law 888 = .ok (.aload_n 0, 1) := by decide +kernel
theorem d_W_law_889 : decode b_W_law 889 = .ok (.iload 4, 2) := by decide +kernel
theorem d_W_law_891 : decode b_W_law 891 = .ok (.iconst 1, 1) := by decide +kernel
theorem d_W_law_892 : decode b_W_law 892 = .ok (.iadd, 1) := by decide +kernel
theorem d_W_law_893 : decode b_W_law 893 = .ok (.iaload, 1) := by decide +kernel
theorem d_W_law_894 : decode b_W_law 894 = .ok (.aload_n 0, 1) := by decide +kernel
theorem d_W_law_895 : decode b_W_law 895 = .ok (.iload 4, 2) := by decide +kernel
theorem d_W_law_897 : decode b_W_law 897 = .ok (.iconst 2, 1) := by decide +kernel
theorem d_W_law_898 : decode b_W_law 898 = .ok (.iadd, 1) := by decide +kernel
theorem d_W_law_899 : decode b_W_law 899 = .ok (.iaload, 1) := by decide +kernel
theorem d_W_law_900 : decode b_W_law 900 = .ok (.aload_n 0, 1) := by decide +kernel
theorem d_W_law_901 : decode b_W_law 901 = .ok (.iload 4, 2) := by decide +kernel
theorem d_W_law_903 : decode b_W_law 903 = .ok (.iconst 3, 1) := by decide +kernel
theorem d_W_law_904 : decode b_W_law 904 = .ok (.iadd, 1) := by decide +kernel
theorem d_W_law_905 : decode b_W_law 905 = .ok (.iaload, 1) := by decide +kernel
theorem d_W_law_906 : decode b_W_law 906 = .ok (.aload_n 0, 1) := by decide +kernel
theorem d_W_law_907 : decode b_W_law 907 = .ok (.iload 4, 2) := by decide +kernel
theorem d_W_law_909 : decode b_W_law 909 = .ok (.iconst 4, 1) := by decide +kernel
theorem d_W_law_910 : decode b_W_law 910 = .ok (.iadd, 1) := by decide +kernel
theorem d_W_law_911 : decode b_W_law 911 = .ok (.iaload, 1) := by decide +kernel
theorem d_W_law_912 : decode b_W_law 912 = .ok (.ifCond .eq 7, 3) := by decide +kernel
theorem d_W_law_915 : decode b_W_law 915 = .ok (.iconst 1, 1) := by decide +kernel
theorem d_W_law_916 : decode b_W_law 916 = .ok (.goto 4, 3) := by decide +kernel
theorem d_W_law_919 : decode b_W_law 919 = .ok (.iconst 0, 1) := by decide +kernel
theorem d_W_law_920 : decode b_W_law 920 = .ok (.aload_n 3, 1) := by decide +kernel
theorem d_W_law_921 : decode b_W_law 921 = .ok (.invokestatic 122, 3) := by decide +kernel
theorem d_W_law_924 : decode b_W_law 924 = .ok (.istore 5, 2) := by decide +kernel
theorem d_W_law_926 : decode b_W_law 926 = .ok (.aload_n 2, 1) := by decide +kernel
theorem d_W_law_927 : decode b_W_law 927 = .ok (.aload_n 0, 1) := by decide +kernel
theorem d_W_law_928 : decode b_W_law 928 = .ok (.iload 4, 2) := by decide +kernel
theorem d_W_law_930 : decode b_W_law 930 = .ok (.iconst 1, 1) := by decide +kernel
theorem d_W_law_931 : decode b_W_law 931 = .ok (.iadd, 1) := by decide +kernel
theorem d_W_law_932 : decode b_W_law 932 = .ok (.iaload, 1) := by decide +kernel
theorem d_W_law_933 : decode b_W_law 933 = .ok (.aload_n 0, 1) := by decide +kernel
theorem d_W_law_934 : decode b_W_law 934 = .ok (.iload 4, 2) := by decide +kernel
theorem d_W_law_936 : decode b_W_law 936 = .ok (.iconst 2, 1) := by decide +kernel
theorem d_W_law_937 : decode b_W_law 937 = .ok (.iadd, 1) := by decide +kernel
theorem d_W_law_938 : decode b_W_law 938 = .ok (.iaload, 1) := by decide +kernel
theorem d_W_law_939 : decode b_W_law 939 = .ok (.aload_n 0, 1) := by decide +kernel
theorem d_W_law_940 : decode b_W_law 940 = .ok (.iload 4, 2) := by decide +kernel
theorem d_W_law_942 : decode b_W_law 942 = .ok (.iconst 3, 1) := by decide +kernel
theorem d_W_law_943 : decode b_W_law 943 = .ok (.iadd, 1) := by decide +kernel
theorem d_W_law_944 : decode b_W_law 944 = .ok (.iaload, 1) := by decide +kernel
theorem d_W_law_945 : decode b_W_law 945 = .ok (.aload_n 0, 1) := by decide +kernel
theorem d_W_law_946 : decode b_W_law 946 = .ok (.iload 4, 2) := by decide +kernel
theorem d_W_law_948 : decode b_W_law 948 = .ok (.iconst 4, 1) := by decide +kernel
theorem d_W_law_949 : decode b_W_law 949 = .ok (.iadd, 1) := by decide +kernel
theorem d_W_law_950 : decode b_W_law 950 = .ok (.iaload, 1) := by decide +kernel
theorem d_W_law_951 : decode b_W_law 951 = .ok (.ifCond .eq 7, 3) := by decide +kernel
theorem d_W_law_954 : decode b_W_law 954 = .ok (.iconst 1, 1) := by decide +kernel
theorem d_W_law_955 : decode b_W_law 955 = .ok (.goto 4, 3) := by decide +kernel
theorem d_W_law_958 : decode b_W_law 958 = .ok (.iconst 0, 1) := by decide +kernel
theorem d_W_law_959 : decode b_W_law 959 = .ok (.invokevirtual 125, 3) := by decide +kernel
theorem d_W_law_962 : decode b_W_law 962 = .ok (.lstore 6, 2) := by decide +kernel
theorem d_W_law_964 : decode b_W_law 964 = .ok (.aload_n 2, 1) := by decide +kernel
theorem d_W_law_965 : decode b_W_law 965 = .ok (.invokevirtual 81, 3) := by decide +kernel
theorem d_W_law_968 : decode b_W_law 968 = .ok (.iload 5, 2) := by decide +kernel
theorem d_W_law_970 : decode b_W_law 970 = .ok (.if_icmp .eq 5, 3) := by decide +kernel
theorem d_W_law_973 : decode b_W_law 973 = .ok (.iconst 0, 1) := by decide +kernel
theorem d_W_law_974 : decode b_W_law 974 = .ok (.ireturn, 1) := by decide +kernel
theorem d_W_law_975 : decode b_W_law 975 = .ok (.iload 5, 2) := by decide +kernel
theorem d_W_law_977 : decode b_W_law 977 = .ok (.ifCond .ne 14, 3) := by decide +kernel
theorem d_W_law_980 : decode b_W_law 980 = .ok (.aload_n 3, 1) := by decide +kernel
theorem d_W_law_981 : decode b_W_law 981 = .ok (.iconst 0, 1) := by decide +kernel
theorem d_W_law_982 : decode b_W_law 982 = .ok (.laload, 1) := by decide +kernel
theorem d_W_law_983 : decode b_W_law 983 = .ok (.lload 6, 2) := by decide +kernel
theorem d_W_law_985 : decode b_W_law 985 = .ok (.lcmp, 1) := by decide +kernel
theorem d_W_law_986 : decode b_W_law 986 = .ok (.ifCond .eq 5, 3) := by decide +kernel
theorem d_W_law_989 : decode b_W_law 989 = .ok (.iconst 0, 1) := by decide +kernel
theorem d_W_law_990 : decode b_W_law 990 = .ok (.ireturn, 1) := by decide +kernel
theorem d_W_law_991 : decode b_W_law 991 = .ok (.goto 368, 3) := by decide +kernel
theorem d_W_law_994 : decode b_W_law 994 = .ok (.aload_n 1, 1) := by decide +kernel
theorem d_W_law_995 : decode b_W_law 995 = .ok (.aload_n 0, 1) := by decide +kernel
theorem d_W_law_996 : decode b_W_law 996 = .ok (.iload 4, 2) := by decide +kernel
theorem d_W_law_998 : decode b_W_law 998 = .ok (.iconst 1, 1) := by decide +kernel
theorem d_W_law_999 : decode b_W_law 999 = .ok (.iadd, 1) := by decide +kernel
theorem d_W_law_1000 : decode b_W_law 1000 = .ok (.iaload, 1) := by decide +kernel
theorem d_W_law_1001 : decode b_W_law 1001 = .ok (.aload_n 0, 1) := by decide +kernel
theorem d_W_law_1002 : decode b_W_law 1002 = .ok (.iload 4, 2) := by decide +kernel
theorem d_W_law_1004 : decode b_W_law 1004 = .ok (.iconst 2, 1) := by decide +kernel
theorem d_W_law_1005 : decode b_W_law 1005 = .ok (.iadd, 1) := by decide +kernel
theorem d_W_law_1006 : decode b_W_law 1006 = .ok (.iaload, 1) := by decide +kernel
theorem d_W_law_1007 : decode b_W_law 1007 = .ok (.aload_n 0, 1) := by decide +kernel
theorem d_W_law_1008 : decode b_W_law 1008 = .ok (.iload 4, 2) := by decide +kernel
theorem d_W_law_1010 : decode b_W_law 1010 = .ok (.iconst 3, 1) := by decide +kernel
theorem d_W_law_1011 : decode b_W_law 1011 = .ok (.iadd, 1) := by decide +kernel
theorem d_W_law_1012 : decode b_W_law 1012 = .ok (.iaload, 1) := by decide +kernel
theorem d_W_law_1013 : decode b_W_law 1013 = .ok (.aload_n 3, 1) := by decide +kernel
theorem d_W_law_1014 : decode b_W_law 1014 = .ok (.invokestatic 126, 3) := by decide +kernel
theorem d_W_law_1017 : decode b_W_law 1017 = .ok (.istore 5, 2) := by decide +kernel
theorem d_W_law_1019 : decode b_W_law 1019 = .ok (.aload_n 2, 1) := by decide +kernel
theorem d_W_law_1020 : decode b_W_law 1020 = .ok (.aload_n 0, 1) := by decide +kernel
theorem d_W_law_1021 : decode b_W_law 1021 = .ok (.iload 4, 2) := by decide +kernel
theorem d_W_law_1023 : decode b_W_law 1023 = .ok (.iconst 1, 1) := by decide +kernel
theorem d_W_law_1024 : decode b_W_law 1024 = .ok (.iadd, 1) := by decide +kernel
theorem d_W_law_1025 : decode b_W_law 1025 = .ok (.iaload, 1) := by decide +kernel
theorem d_W_law_1026 : decode b_W_law 1026 = .ok (.aload_n 0, 1) := by decide +kernel
theorem d_W_law_1027 : decode b_W_law 1027 = .ok (.iload 4, 2) := by decide +kernel
theorem d_W_law_1029 : decode b_W_law 1029 = .ok (.iconst 2, 1) := by decide +kernel
theorem d_W_law_1030 : decode b_W_law 1030 = .ok (.iadd, 1) := by decide +kernel
theorem d_W_law_1031 : decode b_W_law 1031 = .ok (.iaload, 1) := by decide +kernel
theorem d_W_law_1032 : decode b_W_law 1032 = .ok (.aload_n 0, 1) := by decide +kernel
theorem d_W_law_1033 : decode b_W_law 1033 = .ok (.iload 4, 2) := by decide +kernel
theorem d_W_law_1035 : decode b_W_law 1035 = .ok (.iconst 3, 1) := by decide +kernel
theorem d_W_law_1036 : decode b_W_law 1036 = .ok (.iadd, 1) := by decide +kernel
theorem d_W_law_1037 : decode b_W_law 1037 = .ok (.iaload, 1) := by decide +kernel
theorem d_W_law_1038 : decode b_W_law 1038 = .ok (.invokevirtual 129, 3) := by decide +kernel
theorem d_W_law_1041 : decode b_W_law 1041 = .ok (.lstore 6, 2) := by decide +kernel
theorem d_W_law_1043 : decode b_W_law 1043 = .ok (.aload_n 2, 1) := by decide +kernel
theorem d_W_law_1044 : decode b_W_law 1044 = .ok (.invokevirtual 81, 3) := by decide +kernel
theorem d_W_law_1047 : decode b_W_law 1047 = .ok (.iload 5, 2) := by decide +kernel
theorem d_W_law_1049 : decode b_W_law 1049 = .ok (.if_icmp .eq 5, 3) := by decide +kernel
theorem d_W_law_1052 : decode b_W_law 1052 = .ok (.iconst 0, 1) := by decide +kernel
theorem d_W_law_1053 : decode b_W_law 1053 = .ok (.ireturn, 1) := by decide +kernel
theorem d_W_law_1054 : decode b_W_law 1054 = .ok (.iload 5, 2) := by decide +kernel
theorem d_W_law_1056 : decode b_W_law 1056 = .ok (.ifCond .ne 14, 3) := by decide +kernel
theorem d_W_law_1059 : decode b_W_law 1059 = .ok (.aload_n 3, 1) := by decide +kernel
theorem d_W_law_1060 : decode b_W_law 1060 = .ok (.iconst 0, 1) := by decide +kernel
theorem d_W_law_1061 : decode b_W_law 1061 = .ok (.laload, 1) := by decide +kernel
theorem d_W_law_1062 : decode b_W_law 1062 = .ok (.lload 6, 2) := by decide +kernel
theorem d_W_law_1064 : decode b_W_law 1064 = .ok (.lcmp, 1) := by decide +kernel
theorem d_W_law_1065 : decode b_W_law 1065 = .ok (.ifCond .eq 5, 3) := by decide +kernel
theorem d_W_law_1068 : decode b_W_law 1068 = .ok (.iconst 0, 1) := by decide +kernel
theorem d_W_law_1069 : decode b_W_law 1069 = .ok (.ireturn, 1) := by decide +kernel
theorem d_W_law_1070 : decode b_W_law 1070 = .ok (.goto 289, 3) := by decide +kernel
theorem d_W_law_1073 : decode b_W_law 1073 = .ok (.aload_n 1, 1) := by decide +kernel
theorem d_W_law_1074 : decode b_W_law 1074 = .ok (.aload_n 0, 1) := by decide +kernel
theorem d_W_law_1075 : decode b_W_law 1075 = .ok (.iload 4, 2) := by decide +kernel
theorem d_W_law_1077 : decode b_W_law 1077 = .ok (.iconst 1, 1) := by decide +kernel
theorem d_W_law_1078 : decode b_W_law 1078 = .ok (.iadd, 1) := by decide +kernel
theorem d_W_law_1079 : decode b_W_law 1079 = .ok (.iaload, 1) := by decide +kernel
theorem d_W_law_1080 : decode b_W_law 1080 = .ok (.aload_n 0, 1) := by decide +kernel
theorem d_W_law_1081 : decode b_W_law 1081 = .ok (.iload 4, 2) := by decide +kernel
theorem d_W_law_1083 : decode b_W_law 1083 = .ok (.iconst 2, 1) := by decide +kernel
theorem d_W_law_1084 : decode b_W_law 1084 = .ok (.iadd, 1) := by decide +kernel
theorem d_W_law_1085 : decode b_W_law 1085 = .ok (.iaload, 1) := by decide +kernel
theorem d_W_law_1086 : decode b_W_law 1086 = .ok (.aload_n 0, 1) := by decide +kernel
theorem d_W_law_1087 : decode b_W_law 1087 = .ok (.iload 4, 2) := by decide +kernel
theorem d_W_law_1089 : decode b_W_law 1089 = .ok (.iconst 3, 1) := by decide +kernel
theorem d_W_law_1090 : decode b_W_law 1090 = .ok (.iadd, 1) := by decide +kernel
theorem d_W_law_1091 : decode b_W_law 1091 = .ok (.iaload, 1) := by decide +kernel
theorem d_W_law_1092 : decode b_W_law 1092 = .ok (.i2l, 1) := by decide +kernel
theorem d_W_law_1093 : decode b_W_law 1093 = .ok (.bipush 32, 2) := by decide +kernel
theorem d_W_law_1095 : decode b_W_law 1095 = .ok (.lshl, 1) := by decide +kernel
theorem d_W_law_1096 : decode b_W_law 1096 = .ok (.aload_n 0, 1) := by decide +kernel
theorem d_W_law_1097 : decode b_W_law 1097 = .ok (.iload 4, 2) := by decide +kernel
theorem d_W_law_1099 : decode b_W_law 1099 = .ok (.iconst 4, 1) := by decide +kernel
theorem d_W_law_1100 : decode b_W_law 1100 = .ok (.iadd, 1) := by decide +kernel
theorem d_W_law_1101 : decode b_W_law 1101 = .ok (.iaload, 1) := by decide +kernel
theorem d_W_law_1102 : decode b_W_law 1102 = .ok (.i2l, 1) := by decide +kernel
theorem d_W_law_1103 : decode b_W_law 1103 = .ok (.ldc2_w 130, 3) := by decide +kernel
theorem d_W_law_1106 : decode b_W_law 1106 = .ok (.land, 1) := by decide +kernel
theorem d_W_law_1107 : decode b_W_law 1107 = .ok (.lor, 1) := by decide +kernel
theorem d_W_law_1108 : decode b_W_law 1108 = .ok (.aload_n 0, 1) := by decide +kernel
theorem d_W_law_1109 : decode b_W_law 1109 = .ok (.iload 4, 2) := by decide +kernel
theorem d_W_law_1111 : decode b_W_law 1111 = .ok (.iconst 5, 1) := by decide +kernel
theorem d_W_law_1112 : decode b_W_law 1112 = .ok (.iadd, 1) := by decide +kernel
theorem d_W_law_1113 : decode b_W_law 1113 = .ok (.iaload, 1) := by decide +kernel
theorem d_W_law_1114 : decode b_W_law 1114 = .ok (.aload_n 3, 1) := by decide +kernel
theorem d_W_law_1115 : decode b_W_law 1115 = .ok (.invokestatic 132, 3) := by decide +kernel
theorem d_W_law_1118 : decode b_W_law 1118 = .ok (.istore 5, 2) := by decide +kernel
theorem d_W_law_1120 : decode b_W_law 1120 = .ok (.aload_n 2, 1) := by decide +kernel
theorem d_W_law_1121 : decode b_W_law 1121 = .ok (.aload_n 0, 1) := by decide +kernel
theorem d_W_law_1122 : decode b_W_law 1122 = .ok (.iload 4, 2) := by decide +kernel
theorem d_W_law_1124 : decode b_W_law 1124 = .ok (.iconst 1, 1) := by decide +kernel
theorem d_W_law_1125 : decode b_W_law 1125 = .ok (.iadd, 1) := by decide +kernel
theorem d_W_law_1126 : decode b_W_law 1126 = .ok (.iaload, 1) := by decide +kernel
theorem d_W_law_1127 : decode b_W_law 1127 = .ok (.aload_n 0, 1) := by decide +kernel
theorem d_W_law_1128 : decode b_W_law 1128 = .ok (.iload 4, 2) := by decide +kernel
theorem d_W_law_1130 : decode b_W_law 1130 = .ok (.iconst 2, 1) := by decide +kernel
theorem d_W_law_1131 : decode b_W_law 1131 = .ok (.iadd, 1) := by decide +kernel
theorem d_W_law_1132 : decode b_W_law 1132 = .ok (.iaload, 1) := by decide +kernel
theorem d_W_law_1133 : decode b_W_law 1133 = .ok (.aload_n 0, 1) := by decide +kernel
theorem d_W_law_1134 : decode b_W_law 1134 = .ok (.iload 4, 2) := by decide +kernel
theorem d_W_law_1136 : decode b_W_law 1136 = .ok (.iconst 3, 1) := by decide +kernel
theorem d_W_law_1137 : decode b_W_law 1137 = .ok (.iadd, 1) := by decide +kernel
theorem d_W_law_1138 : decode b_W_law 1138 = .ok (.iaload, 1) := by decide +kernel
theorem d_W_law_1139 : decode b_W_law 1139 = .ok (.i2l, 1) := by decide +kernel
theorem d_W_law_1140 : decode b_W_law 1140 = .ok (.bipush 32, 2) := by decide +kernel
theorem d_W_law_1142 : decode b_W_law 1142 = .ok (.lshl, 1) := by decide +kernel
theorem d_W_law_1143 : decode b_W_law 1143 = .ok (.aload_n 0, 1) := by decide +kernel
theorem d_W_law_1144 : decode b_W_law 1144 = .ok (.iload 4, 2) := by decide +kernel
theorem d_W_law_1146 : decode b_W_law 1146 = .ok (.iconst 4, 1) := by decide +kernel
theorem d_W_law_1147 : decode b_W_law 1147 = .ok (.iadd, 1) := by decide +kernel
theorem d_W_law_1148 : decode b_W_law 1148 = .ok (.iaload, 1) := by decide +kernel
theorem d_W_law_1149 : decode b_W_law 1149 = .ok (.i2l, 1) := by decide +kernel
theorem d_W_law_1150 : decode b_W_law 1150 = .ok (.ldc2_w 130, 3) := by decide +kernel
theorem d_W_law_1153 : decode b_W_law 1153 = .ok (.land, 1) := by decide +kernel
theorem d_W_law_1154 : decode b_W_law 1154 = .ok (.lor, 1) := by decide +kernel
theorem d_W_law_1155 : decode b_W_law 1155 = .ok (.aload_n 0, 1) := by decide +kernel
theorem d_W_law_1156 : decode b_W_law 1156 = .ok (.iload 4, 2) := by decide +kernel
theorem d_W_law_1158 : decode b_W_law 1158 = .ok (.iconst 5, 1) := by decide +kernel
theorem d_W_law_1159 : decode b_W_law 1159 = .ok (.iadd, 1) := by decide +kernel
theorem d_W_law_1160 : decode b_W_law 1160 = .ok (.iaload, 1) := by decide +kernel
theorem d_W_law_1161 : decode b_W_law 1161 = .ok (.invokevirtual 135, 3) := by decide +kernel
theorem d_W_law_1164 : decode b_W_law 1164 = .ok (.istore 6, 2) := by decide +kernel
theorem d_W_law_1166 : decode b_W_law 1166 = .ok (.aload_n 2, 1) := by decide +kernel
theorem d_W_law_1167 : decode b_W_law 1167 = .ok (.invokevirtual 81, 3) := by decide +kernel
theorem d_W_law_1170 : decode b_W_law 1170 = .ok (.iload 5, 2) := by decide +kernel
theorem d_W_law_1172 : decode b_W_law 1172 = .ok (.if_icmp .eq 5, 3) := by decide +kernel
theorem d_W_law_1175 : decode b_W_law 1175 = .ok (.iconst 0, 1) := by decide +kernel
theorem d_W_law_1176 : decode b_W_law 1176 = .ok (.ireturn, 1) := by decide +kernel
theorem d_W_law_1177 : decode b_W_law 1177 = .ok (.iload 5, 2) := by decide +kernel
theorem d_W_law_1179 : decode b_W_law 1179 = .ok (.ifCond .ne 15, 3) := by decide +kernel
theorem d_W_law_1182 : decode b_W_law 1182 = .ok (.aload_n 3, 1) := by decide +kernel
theorem d_W_law_1183 : decode b_W_law 1183 = .ok (.iconst 0, 1) := by decide +kernel
theorem d_W_law_1184 : decode b_W_law 1184 = .ok (.laload, 1) := by decide +kernel
theorem d_W_law_1185 : decode b_W_law 1185 = .ok (.iload 6, 2) := by decide +kernel
theorem d_W_law_1187 : decode b_W_law 1187 = .ok (.i2l, 1) := by decide +kernel
theorem d_W_law_1188 : decode b_W_law 1188 = .ok (.lcmp, 1) := by decide +kernel
theorem d_W_law_1189 : decode b_W_law 1189 = .ok (.ifCond .eq 5, 3) := by decide +kernel
theorem d_W_law_1192 : decode b_W_law 1192 = .ok (.iconst 0, 1) := by decide +kernel
theorem d_W_law_1193 : decode b_W_law 1193 = .ok (.ireturn, 1) := by decide +kernel
theorem d_W_law_1194 : decode b_W_law 1194 = .ok (.goto 165, 3) := by decide +kernel
theorem d_W_law_1197 : decode b_W_law 1197 = .ok (.aload_n 1, 1) := by decide +kernel
theorem d_W_law_1198 : decode b_W_law 1198 = .ok (.aload_n 0, 1) := by decide +kernel
theorem d_W_law_1199 : decode b_W_law 1199 = .ok (.iload 4, 2) := by decide +kernel
theorem d_W_law_1201 : decode b_W_law 1201 = .ok (.iconst 1, 1) := by decide +kernel
theorem d_W_law_1202 : decode b_W_law 1202 = .ok (.iadd, 1) := by decide +kernel
theorem d_W_law_1203 : decode b_W_law 1203 = .ok (.iaload, 1) := by decide +kernel
theorem d_W_law_1204 : decode b_W_law 1204 = .ok (.i2l, 1) := by decide +kernel
theorem d_W_law_1205 : decode b_W_law 1205 = .ok (.bipush 32, 2) := by decide +kernel
theorem d_W_law_1207 : decode b_W_law 1207 = .ok (.lshl, 1) := by decide +kernel
theorem d_W_law_1208 : decode b_W_law 1208 = .ok (.aload_n 0, 1) := by decide +kernel
theorem d_W_law_1209 : decode b_W_law 1209 = .ok (.iload 4, 2) := by decide +kernel
theorem d_W_law_1211 : decode b_W_law 1211 = .ok (.iconst 2, 1) := by decide +kernel
theorem d_W_law_1212 : decode b_W_law 1212 = .ok (.iadd, 1) := by decide +kernel
theorem d_W_law_1213 : decode b_W_law 1213 = .ok (.iaload, 1) := by decide +kernel
theorem d_W_law_1214 : decode b_W_law 1214 = .ok (.i2l, 1) := by decide +kernel
theorem d_W_law_1215 : decode b_W_law 1215 = .ok (.ldc2_w 130, 3) := by decide +kernel
theorem d_W_law_1218 : decode b_W_law 1218 = .ok (.land, 1) := by decide +kernel
theorem d_W_law_1219 : decode b_W_law 1219 = .ok (.lor, 1) := by decide +kernel
theorem d_W_law_1220 : decode b_W_law 1220 = .ok (.invokevirtual 136, 3) := by decide +kernel
theorem d_W_law_1223 : decode b_W_law 1223 = .ok (.aload_n 2, 1) := by decide +kernel
theorem d_W_law_1224 : decode b_W_law 1224 = .ok (.aload_n 0, 1) := by decide +kernel
theorem d_W_law_1225 : decode b_W_law 1225 = .ok (.iload 4, 2) := by decide +kernel
theorem d_W_law_1227 : decode b_W_law 1227 = .ok (.iconst 1, 1) := by decide +kernel
theorem d_W_law_1228 : decode b_W_law 1228 = .ok (.iadd, 1) := by decide +kernel
theorem d_W_law_1229 : decode b_W_law 1229 = .ok (.iaload, 1) := by decide +kernel
theorem d_W_law_1230 : decode b_W_law 1230 = .ok (.i2l, 1) := by decide +kernel
theorem d_W_law_1231 : decode b_W_law 1231 = .ok (.bipush 32, 2) := by decide +kernel
theorem d_W_law_1233 : decode b_W_law 1233 = .ok (.lshl, 1) := by decide +kernel
theorem d_W_law_1234 : decode b_W_law 1234 = .ok (.aload_n 0, 1) := by decide +kernel
theorem d_W_law_1235 : decode b_W_law 1235 = .ok (.iload 4, 2) := by decide +kernel
theorem d_W_law_1237 : decode b_W_law 1237 = .ok (.iconst 2, 1) := by decide +kernel
theorem d_W_law_1238 : decode b_W_law 1238 = .ok (.iadd, 1) := by decide +kernel
theorem d_W_law_1239 : decode b_W_law 1239 = .ok (.iaload, 1) := by decide +kernel
theorem d_W_law_1240 : decode b_W_law 1240 = .ok (.i2l, 1) := by decide +kernel
theorem d_W_law_1241 : decode b_W_law 1241 = .ok (.ldc2_w 130, 3) := by decide +kernel
theorem d_W_law_1244 : decode b_W_law 1244 = .ok (.land, 1) := by decide +kernel
theorem d_W_law_1245 : decode b_W_law 1245 = .ok (.lor, 1) := by decide +kernel
theorem d_W_law_1246 : decode b_W_law 1246 = .ok (.invokevirtual 140, 3) := by decide +kernel
theorem d_W_law_1249 : decode b_W_law 1249 = .ok (.if_icmp .eq 110, 3) := by decide +kernel
theorem d_W_law_1252 : decode b_W_law 1252 = .ok (.iconst 0, 1) := by decide +kernel
theorem d_W_law_1253 : decode b_W_law 1253 = .ok (.ireturn, 1) := by decide +kernel
theorem d_W_law_1254 : decode b_W_law 1254 = .ok (.aload_n 1, 1) := by decide +kernel
theorem d_W_law_1255 : decode b_W_law 1255 = .ok (.invokevirtual 141, 3) := by decide +kernel
theorem d_W_law_1258 : decode b_W_law 1258 = .ok (.aload_n 2, 1) := by decide +kernel
theorem d_W_law_1259 : decode b_W_law 1259 = .ok (.invokevirtual 144, 3) := by decide +kernel
theorem d_W_law_1262 : decode b_W_law 1262 = .ok (.if_icmp .eq 97, 3) := by decide +kernel
theorem d_W_law_1265 : decode b_W_law 1265 = .ok (.iconst 0, 1) := by decide +kernel
theorem d_W_law_1266 : decode b_W_law 1266 = .ok (.ireturn, 1) := by decide +kernel
theorem d_W_law_1267 : decode b_W_law 1267 = .ok (.aload_n 1, 1) := by decide +kernel
theorem d_W_law_1268 : decode b_W_law 1268 = .ok (.aload_n 0, 1) := by decide +kernel
theorem d_W_law_1269 : decode b_W_law 1269 = .ok (.iload 4, 2) := by decide +kernel
theorem d_W_law_1271 : decode b_W_law 1271 = .ok (.iconst 1, 1) := by decide +kernel
theorem d_W_law_1272 : decode b_W_law 1272 = .ok (.iadd, 1) := by decide +kernel
theorem d_W_law_1273 : decode b_W_law 1273 = .ok (.iaload, 1) := by decide +kernel
theorem d_W_law_1274 : decode b_W_law 1274 = .ok (.aload_n 3, 1) := by decide +kernel
theorem d_W_law_1275 : decode b_W_law 1275 = .ok (.invokestatic 145, 3) := by decide +kernel
theorem d_W_law_1278 : decode b_W_law 1278 = .ok (.istore 5, 2) := by decide +kernel
theorem d_W_law_1280 : decode b_W_law 1280 = .ok (.aload_n 2, 1) := by decide +kernel
theorem d_W_law_1281 : decode b_W_law 1281 = .ok (.aload_n 0, 1) := by decide +kernel
theorem d_W_law_1282 : decode b_W_law 1282 = .ok (.iload 4, 2) := by decide +kernel
theorem d_W_law_1284 : decode b_W_law 1284 = .ok (.iconst 1, 1) := by decide +kernel
theorem d_W_law_1285 : decode b_W_law 1285 = .ok (.iadd, 1) := by decide +kernel
theorem d_W_law_1286 : decode b_W_law 1286 = .ok (.iaload, 1) := by decide +kernel
theorem d_W_law_1287 : decode b_W_law 1287 = .ok (.invokevirtual 147, 3) := by decide +kernel
theorem d_W_law_1290 : decode b_W_law 1290 = .ok (.istore 6, 2) := by decide +kernel
theorem d_W_law_1292 : decode b_W_law 1292 = .ok (.aload_n 2, 1) := by decide +kernel
theorem d_W_law_1293 : decode b_W_law 1293 = .ok (.invokevirtual 81, 3) := by decide +kernel
theorem d_W_law_1296 : decode b_W_law 1296 = .ok (.iload 5, 2) := by decide +kernel
theorem d_W_law_1298 : decode b_W_law 1298 = .ok (.if_icmp .eq 5, 3) := by decide +kernel
theorem d_W_law_1301 : decode b_W_law 1301 = .ok (.iconst 0, 1) := by decide +kernel
theorem d_W_law_1302 : decode b_W_law 1302 = .ok (.ireturn, 1) := by decide +kernel
theorem d_W_law_1303 : decode b_W_law 1303 = .ok (.iload 5, 2) := by decide +kernel
theorem d_W_law_1305 : decode b_W_law 1305 = .ok (.ifCond .ne 15, 3) := by decide +kernel
theorem d_W_law_1308 : decode b_W_law 1308 = .ok (.aload_n 3, 1) := by decide +kernel
theorem d_W_law_1309 : decode b_W_law 1309 = .ok (.iconst 0, 1) := by decide +kernel
theorem d_W_law_1310 : decode b_W_law 1310 = .ok (.laload, 1) := by decide +kernel
theorem d_W_law_1311 : decode b_W_law 1311 = .ok (.iload 6, 2) := by decide +kernel
theorem d_W_law_1313 : decode b_W_law 1313 = .ok (.i2l, 1) := by decide +kernel
theorem d_W_law_1314 : decode b_W_law 1314 = .ok (.lcmp, 1) := by decide +kernel
theorem d_W_law_1315 : decode b_W_law 1315 = .ok (.ifCond .eq 5, 3) := by decide +kernel
theorem d_W_law_1318 : decode b_W_law 1318 = .ok (.iconst 0, 1) := by decide +kernel
theorem d_W_law_1319 : decode b_W_law 1319 = .ok (.ireturn, 1) := by decide +kernel
theorem d_W_law_1320 : decode b_W_law 1320 = .ok (.goto 39, 3) := by decide +kernel
theorem d_W_law_1323 : decode b_W_law 1323 = .ok (.aload_n 1, 1) := by decide +kernel
theorem d_W_law_1324 : decode b_W_law 1324 = .ok (.aload_n 0, 1) := by decide +kernel
theorem d_W_law_1325 : decode b_W_law 1325 = .ok (.iload 4, 2) := by decide +kernel
theorem d_W_law_1327 : decode b_W_law 1327 = .ok (.iconst 1, 1) := by decide +kernel
theorem d_W_law_1328 : decode b_W_law 1328 = .ok (.iadd, 1) := by decide +kernel
theorem d_W_law_1329 : decode b_W_law 1329 = .ok (.iaload, 1) := by decide +kernel
theorem d_W_law_1330 : decode b_W_law 1330 = .ok (.invokevirtual 148, 3) := by decide +kernel
theorem d_W_law_1333 : decode b_W_law 1333 = .ok (.aload_n 2, 1) := by decide +kernel
theorem d_W_law_1334 : decode b_W_law 1334 = .ok (.aload_n 0, 1) := by decide +kernel
theorem d_W_law_1335 : decode b_W_law 1335 = .ok (.iload 4, 2) := by decide +kernel
theorem d_W_law_1337 : decode b_W_law 1337 = .ok (.iconst 1, 1) := by decide +kernel
theorem d_W_law_1338 : decode b_W_law 1338 = .ok (.iadd, 1) := by decide +kernel
theorem d_W_law_1339 : decode b_W_law 1339 = .ok (.iaload, 1) := by decide +kernel
theorem d_W_law_1340 : decode b_W_law 1340 = .ok (.invokevirtual 151, 3) := by decide +kernel
theorem d_W_law_1343 : decode b_W_law 1343 = .ok (.if_icmp .eq 16, 3) := by decide +kernel
theorem d_W_law_1346 : decode b_W_law 1346 = .ok (.iconst 0, 1) := by decide +kernel
theorem d_W_law_1347 : decode b_W_law 1347 = .ok (.ireturn, 1) := by decide +kernel
theorem d_W_law_1348 : decode b_W_law 1348 = .ok (.aload_n 1, 1) := by decide +kernel
theorem d_W_law_1349 : decode b_W_law 1349 = .ok (.invokevirtual 152, 3) := by decide +kernel
theorem d_W_law_1352 : decode b_W_law 1352 = .ok (.aload_n 2, 1) := by decide +kernel
theorem d_W_law_1353 : decode b_W_law 1353 = .ok (.invokevirtual 155, 3) := by decide +kernel
theorem d_W_law_1356 : decode b_W_law 1356 = .ok (.goto 3, 3) := by decide +kernel
theorem d_W_law_1359 : decode b_W_law 1359 = .ok (.iinc 4 6, 3) := by decide +kernel
theorem d_W_law_1362 : decode b_W_law 1362 = .ok (.goto (-1339), 3) := by decide +kernel
theorem d_W_law_1365 : decode b_W_law 1365 = .ok (.iconst 1, 1) := by decide +kernel
theorem d_W_law_1366 : decode b_W_law 1366 = .ok (.ireturn, 1) := by decide +kernel
theorem d_J_compare_0 : decode b_J_compare 0 = .ok (.lload_n 0, 1) := by decide +kernel
theorem d_J_compare_1 : decode b_J_compare 1 = .ok (.lload_n 2, 1) := by decide +kernel
theorem d_J_compare_2 : decode b_J_compare 2 = .ok (.lcmp, 1) := by decide +kernel
theorem d_J_compare_3 : decode b_J_compare 3 = .ok (.ifCond .ge 7, 3) := by decide +kernel
theorem d_J_compare_6 : decode b_J_compare 6 = .ok (.iconst (-1), 1) := by decide +kernel
theorem d_J_compare_7 : decode b_J_compare 7 = .ok (.goto 14, 3) := by decide +kernel
theorem d_J_compare_10 : decode b_J_compare 10 = .ok (.lload_n 0, 1) := by decide +kernel
theorem d_J_compare_11 : decode b_J_compare 11 = .ok (.lload_n 2, 1) := by decide +kernel
theorem d_J_compare_12 : decode b_J_compare 12 = .ok (.lcmp, 1) := by decide +kernel
theorem d_J_compare_13 : decode b_J_compare 13 = .ok (.ifCond .ne 7, 3) := by decide +kernel
theorem d_J_compare_16 : decode b_J_compare 16 = .ok (.iconst 0, 1) := by decide +kernel
theorem d_J_compare_17 : decode b_J_compare 17 = .ok (.goto 4, 3) := by decide +kernel
theorem d_J_compare_20 : decode b_J_compare 20 = .ok (.iconst 1, 1) := by decide +kernel
theorem d_J_compare_21 : decode b_J_compare 21 = .ok (.ireturn, 1) := by decide +kernel
theorem d_A_min_I_0 : decode b_A_min_I 0 = .ok (.iload_n 0, 1) := by decide +kernel
theorem d_A_min_I_1 : decode b_A_min_I 1 = .ok (.iload_n 1, 1) := by decide +kernel
theorem d_A_min_I_2 : decode b_A_min_I 2 = .ok (.if_icmp .gt 7, 3) := by decide +kernel
theorem d_A_min_I_5 : decode b_A_min_I 5 = .ok (.iload_n 0, 1) := by decide +kernel
theorem d_A_min_I_6 : decode b_A_min_I 6 = .ok (.goto 4, 3) := by decide +kernel
theorem d_A_min_I_9 : decode b_A_min_I 9 = .ok (.iload_n 1, 1) := by decide +kernel
theorem d_A_min_I_10 : decode b_A_min_I 10 = .ok (.ireturn, 1) := by decide +kernel
theorem d_A_min_J_0 : decode b_A_min_J 0 = .ok (.lload_n 0, 1) := by decide +kernel
theorem d_A_min_J_1 : decode b_A_min_J 1 = .ok (.lload_n 2, 1) := by decide +kernel
theorem d_A_min_J_2 : decode b_A_min_J 2 = .ok (.lcmp, 1) := by decide +kernel
theorem d_A_min_J_3 : decode b_A_min_J 3 = .ok (.ifCond .gt 7, 3) := by decide +kernel
theorem d_A_min_J_6 : decode b_A_min_J 6 = .ok (.lload_n 0, 1) := by decide +kernel
theorem d_A_min_J_7 : decode b_A_min_J 7 = .ok (.goto 4, 3) := by decide +kernel
theorem d_A_min_J_10 : decode b_A_min_J 10 = .ok (.lload_n 2, 1) := by decide +kernel
theorem d_A_min_J_11 : decode b_A_min_J 11 = .ok (.lreturn, 1) := by decide +kernel
end
section
/-! ===== BEGIN words of one list among another's, by their places ===== -/
theorem goodIn_r {big : List Cond} (ws : List Cond) (ps : List Nat) (hp : ws = ps.filterMap (fun i => big[i]?)) (h : ws.all goodWord = true) : GoodIn big ws := by
  intro w hw
  have h1 := List.all_eq_true.mp h w hw
  rw [hp] at hw
  obtain ⟨i, -, hi⟩ := List.mem_filterMap.mp hw
  have hm : w ∈ big := by first | exact List.mem_of_getElem? hi | exact List.getElem?_mem hi
  exact ⟨hm, good_of_word h1⟩
theorem goodIn_app {big a b : List Cond} (ha : GoodIn big a) (hb : GoodIn big b) : GoodIn big (a ++ b) := fun w h => (List.mem_append.mp h).elim (ha w) (hb w)
theorem goodIn_ca {big a b : List Cond} {c : Cond} (ha : GoodIn big (c :: a)) (hb : GoodIn big b) : GoodIn big (c :: (a ++ b)) := fun w h => (List.mem_cons.mp h).elim (fun e => ha w (List.mem_cons.mpr (Or.inl e))) (fun h => (List.mem_append.mp h).elim (fun h => ha w (List.mem_cons.mpr (Or.inr h))) (hb w))
theorem goodIn_sub {big ws : List Cond} (hm : ∀ w ∈ ws, w ∈ big) (h : ws.all goodWord = true) : GoodIn big ws := fun w hw => ⟨hm w hw, good_of_word (List.all_eq_true.mp h w hw)⟩
/-! ===== END ===== -/

/-! ===== BEGIN exceptions that leave a method, and their catching by the caller (launches without stack traces) ===== -/
section VXA
/-! The laws vx_back, vx_callV, vx_callS, vx_callSW, vx_throw0, vx_throwS follow proofs of the library, with one case more: JvmDerived/Free/Laws.lean (Back.of_free), Shelf42/LK1.lean (callV, callS), Shelf/KitTraced.lean (throwNew0V, throwNewS). -/
/-- where a method has thrown q: the class by its name, the cell, what was written, the world -/
def vx_T (XC : String → State → State → Prop) (st : State) (q : Addr) (t : State) (mc ms : Nat) (free : Addr → Prop) : Prop :=
  ∃ (E : String) (ce : Cell) (L : List Loc), XC E st t ∧ t.heap[q]? = some ce ∧ ce.vm = .none ∧ st.vm.findClass E = some ce.cls ∧ st.WarmedH t.vm ∧ st.sameButNew ({ t with vm := st.vm } : State) L mc ms ∧ ∀ z ∈ L, free z.base
def vx_Q (Qc : Array Value → State → Outcome → State → Prop) (XC : String → State → State → Prop) (mc ms mx sx : Nat) (free : Addr → Prop) : Array Value → State → Outcome → State → Prop := fun a st o t =>
  (Qc a st o t ∧ ∃ L, FrameEnd st o t L mc ms ∧ ∀ q ∈ L, free q.base) ∨ ∃ q, o = .threw q ∧ vx_T XC st q t mx sx free
/-- a callee that returns or throws -/
def vx_Met (l : Launch) (y : MethodName) (ws : List Cond) (rm : Room) (Pc : Array Value → State → Prop) (Qc : Array Value → State → Outcome → State → Prop) (XC : String → State → State → Prop) (mc ms mx sx : Nat) (free : Addr → Prop) : Prop :=
  MetFree l y (headSpec ws rm) Pc (fun _ _ _ _ _ => True) (vx_Q Qc XC mc ms mx sx free)
def vx_Post (XC : String → State → State → Prop) (mc ms : Nat) (free : Addr → Prop) : Pt → Array Value → Addr → Pt → Prop := fun A a q B =>
  ∃ (g : JFrame) (mk : MethodId) (t : State) (L : List Loc) (E : String) (ce : Cell), B.U.heap = t.heap ∧ B.U.vm = t.vm ∧ XC E (A.U.calling g mk a) t ∧ t.heap[q]? = some ce ∧ ce.vm = .none ∧ A.U.vm.findClass E = some ce.cls ∧ B.locs = A.locs ++ L ∧ (∀ z ∈ L, free z.base) ∧ B.cells = A.cells + mc ∧ B.slots = A.slots + ms
def vx_Back (l : Launch) (R : Room) (p : Program) (e : Env) (below : List Frame) (s : State) (sargs : Array Value) (y : MethodName) (len W9 : Nat)
    (Pre : Pt → Array Value → Prop) (Post : Pt → Array Value → Option Value → Pt → Prop) (PostX : Pt → Array Value → Addr → Pt → Prop) : Prop :=
  ∀ (m : MethodId) (meth : Method) (c : Code) (A : Pt) (g : JFrame) (ig : Instr) (mk : MethodId) (a : Array Value),
    Stand p l e R s m sargs below meth c A.U A.locs A.cells A.slots → g.method = m → g.locals.size = c.maxLocals → decode c.code g.pc = .ok (ig, len) →
    2 * g.monitorRoom + (g.stack.map fun v => v.category).sum ≤ W9 → A.U.methodNamed? y = some mk → Pre A a →
    (∃ (v : Option Value) (B : Pt), Stand p l e R s m sargs below meth c B.U B.locs B.cells B.slots ∧ Post A a v B ∧
      Steps p.tables e below (doInvoke e (A.U.setTop g) [] mk a).1 (B.U.setTop { g with pc := g.pc + len, stack := v.toList ++ g.stack })) ∨
    (∃ (q : Addr) (B : Pt), Stand p l e R s m sargs below meth c B.U B.locs B.cells B.slots ∧ PostX A a q B ∧
      Steps p.tables e below (doInvoke e (A.U.setTop g) [] mk a).1 ((B.U.setTop g).pushFrame (.throwing q)))
section Payer
variable {l : Launch} {R : Room} {p : Program} {e : Env} {below : List Frame} {s : State} {sargs : Array Value} {y : MethodName} {len W9 : Nat}
theorem vx_back {ws : List Cond} {rm : Room} {Pc : Array Value → State → Prop} {Qc : Array Value → State → Outcome → State → Prop} {XC : String → State → State → Prop} {mc ms mx sx : Nat} {free : Addr → Prop} {bytes : ByteArray} {maxL : Nat} {ret : Option FieldType}
    (hM : vx_Met l y ws rm Pc Qc XC mc ms mx sx free) (hblind : FrameBlind Pc) (hrc : rm.cells = mx) (hrs : rm.slots = sx)
    (hframes : rm.frames + 1 ≤ R.frames) (hlocals : W9 + (maxL + 11) + rm.locals ≤ R.locals)
    (hws : ∀ w ∈ ws, ∀ a' U, s.WarmedH U.vm → w.before a' U = true) (hcode : Cond.code y bytes maxL ret ∈ ws) (hinit : ∀ a' U, s.WarmedH U.vm → (Cond.initialized y.cls).before a' U = true) :
    vx_Back l R p e below s sargs y len W9 (PreOf R mx sx Pc) (PostOf Qc mc ms free) (vx_Post XC mx sx free) := by
  intro m meth c A g ig mk a X hg hsize hdg hW hn hp
  have h1 : (headSpec ws rm).pre.before a A.U = true := atoms_intro fun w hw => hws w hw _ _ X.warmed
  have h2 : (Cond.code y bytes maxL ret).before a A.U = true := hws _ hcode _ _ X.warmed
  have h3 : (Cond.initialized y.cls).before a A.U = true := hinit _ _ X.warmed
  have h4 : A.cells + (headSpec ws rm).room.cells ≤ R.cells := by rw [show (headSpec ws rm).room.cells = mx from hrc]; exact hp.1
  have h5 : A.slots + (headSpec ws rm).room.slots ≤ R.slots := by rw [show (headSpec ws rm).room.slots = sx from hrs]; exact hp.2.1
  have hPc : Pc a (A.U.calling g mk a) := hblind _ _ _ _ hp.2.2
  obtain ⟨U, Ls, c0, s0⟩ := A
  dsimp only [Pt.U, Pt.locs, Pt.cells, Pt.slots] at h1 h2 h3 h4 h5 X hn hPc ⊢
  obtain ⟨methY, cY, hmY, hcY, -, hlY, -, -, -, -⟩ := Cond.code_spec hn h2
  obtain ⟨kY, hkY, -⟩ := className_of_methodNamed hn
  have hinitY : kY.init = .initialized := Cond.initialized_spec (findClass_of_methodNamed hn) hkY h3
  have h : At U g.method c below := by rw [hg]; exact X.here
  have hlocals9 : W9 + (maxL + 11) + (headSpec ws rm).room.locals ≤ R.locals := hlocals
  have happ : (headSpec ws rm).appliesLoose y e.platform (U.calling g mk a) = true :=
    Spec.appliesLoose_calling (g := g) h hdg hn hkY hinitY
      (X.room_calling (g := g) (R' := (headSpec ws rm).room) hsize hmY hcY hframes (by rw [hlY]; omega) h4 h5) h1
  obtain ⟨mid, hmid⟩ := h.above
  have hfr : (U.setTop g).frames = (.java g :: mid) ++ below := by rw [State.frames_setTop' g h.top, hmid]; rfl
  obtain ⟨o, s₂, hsteps, -, hend, hq⟩ := Steps.callFree hM p X.admits X.cas X.clock (acts := []) hfr happ hPc trivial
  have hq' : vx_Q Qc XC mc ms mx sx free a (U.calling g mk a) o s₂ := hq
  rw [State.frames_setTop' g h.top] at hend
  obtain ⟨g₀, hg0⟩ := Option.isSome_iff_exists.mp h.top
  obtain ⟨r, hr⟩ := State.topJava?_eq_some.mp hg0
  have hr' : (({ U with heap := s₂.heap, slotsUsed := s₂.slotsUsed } : State).setVm s₂.vm).frames = .java g₀ :: r := hr
  rcases hq' with ⟨hqc, L, hfe, hL⟩ | ⟨q, rfl, E, ce, L, hx, hce, hcv, hcl, hW₂, hsm, hL⟩
  · obtain ⟨⟨v, rfl⟩, hW₂, e2, q2, q3, q4, q5, q6⟩ := id hfe
    have e3 : s₂ = ({ (U.calling g mk a).setFrames s₂.frames with heap := s₂.heap, slotsUsed := s₂.slotsUsed } : State).setVm s₂.vm := by
      have : s₂ = ({ s₂ with vm := (U.calling g mk a).vm } : State).setVm s₂.vm := rfl
      rw [e2] at this
      exact this
    obtain ⟨c₂, i₂, len₂, hc₂, hd₂, hf₂⟩ := hend
    have hW' : U.WarmedH s₂.vm := hW₂
    have hcc : c₂ = c := by
      have h1 : s₂.code? g.method = U.code? g.method := by
        rw [State.code?_eq, State.code?_eq, hW'.alike.method?]
      exact Option.some.inj (hc₂.symm.trans (h1.trans h.code))
    subst hcc
    have hlen : len₂ = len := by rw [hdg] at hd₂; cases hd₂; rfl
    subst hlen
    have hs₂ : s₂ = (({ U with heap := s₂.heap, slotsUsed := s₂.slotsUsed } : State).setVm s₂.vm).setTop { g with pc := g.pc + len₂, stack := v.toList ++ g.stack } := by
      refine e3.trans ?_
      rw [hf₂, State.calling_eq h.top, State.setFrames_setFrames, State.setTop_of_frames _ hr', hr]
      rfl
    have hsame : U.sameButNew ({ U with heap := s₂.heap, slotsUsed := s₂.slotsUsed } : State) L mc ms := by
      refine ⟨?_, q2, q3, q4, q5, q6⟩
      obtain ⟨t, ht, -⟩ := State.frames_cons hr
      show ({ U with heap := s₂.heap, slotsUsed := s₂.slotsUsed } : State) = { U.setFrames U.frames with heap := s₂.heap, slotsUsed := s₂.slotsUsed }
      rw [State.setFrames_self ht]
    subst hg
    refine Or.inl ⟨v, ⟨(({ U with heap := s₂.heap, slotsUsed := s₂.slotsUsed } : State).setVm s₂.vm), Ls ++ L, c0 + mc, s0 + ms⟩,
      ⟨X.admits, X.cas, X.clock, X.frames, X.room, X.hears, X.method, X.code, (X.here.setHeapUsed s₂.heap s₂.slotsUsed).setVm hW'.alike, X.tail, State.WarmedH.trans X.warmed hW', X.limits, X.bytes, X.same.trans (hsame.setVm s.vm)⟩,
      ⟨g, mk, s₂, L, rfl, rfl, hqc, rfl, hL, rfl, rfl⟩, ?_⟩
    show Steps p.tables e below _ ((({ U with heap := s₂.heap, slotsUsed := s₂.slotsUsed } : State).setVm s₂.vm).setTop { g with pc := g.pc + len₂, stack := v.toList ++ g.stack })
    rw [← hs₂]
    exact hsteps
  · obtain ⟨e2, q2, q3, q4, q5, q6⟩ := id hsm
    have e3 : s₂ = ({ (U.calling g mk a).setFrames s₂.frames with heap := s₂.heap, slotsUsed := s₂.slotsUsed } : State).setVm s₂.vm := by
      have : s₂ = ({ s₂ with vm := (U.calling g mk a).vm } : State).setVm s₂.vm := rfl
      rw [e2] at this
      exact this
    have hf₂ : s₂.frames = .throwing q :: .java g :: U.frames.tail := hend
    have hW' : U.WarmedH s₂.vm := hW₂
    have hs₂ : s₂ = ((({ U with heap := s₂.heap, slotsUsed := s₂.slotsUsed } : State).setVm s₂.vm).setTop g).pushFrame (.throwing q) := by
      refine e3.trans ?_
      rw [hf₂, State.calling_eq h.top, State.setFrames_setFrames, State.pushFrame, State.frames_setTop _ hr', State.setTop_of_frames _ hr', State.setFrames_setFrames, hr]
      rfl
    have hsame : U.sameButNew ({ U with heap := s₂.heap, slotsUsed := s₂.slotsUsed } : State) L mx sx := by
      refine ⟨?_, q2, q3, q4, q5, q6⟩
      obtain ⟨t, ht, -⟩ := State.frames_cons hr
      show ({ U with heap := s₂.heap, slotsUsed := s₂.slotsUsed } : State) = { U.setFrames U.frames with heap := s₂.heap, slotsUsed := s₂.slotsUsed }
      rw [State.setFrames_self ht]
    subst hg
    refine Or.inr ⟨q, ⟨(({ U with heap := s₂.heap, slotsUsed := s₂.slotsUsed } : State).setVm s₂.vm), Ls ++ L, c0 + mx, s0 + sx⟩,
      ⟨X.admits, X.cas, X.clock, X.frames, X.room, X.hears, X.method, X.code, (X.here.setHeapUsed s₂.heap s₂.slotsUsed).setVm hW'.alike, X.tail, State.WarmedH.trans X.warmed hW', X.limits, X.bytes, X.same.trans (hsame.setVm s.vm)⟩,
      ⟨g, mk, s₂, L, E, ce, rfl, rfl, hx, hce, hcv, hcl, rfl, hL, rfl, rfl⟩, ?_⟩
    show Steps p.tables e below _ (((({ U with heap := s₂.heap, slotsUsed := s₂.slotsUsed } : State).setVm s₂.vm).setTop g).pushFrame (.throwing q))
    rw [← hs₂]
    exact hsteps
end Payer
section Calls
variable {p : Program} {l : Launch} {e : Env} {R : Room} {s : State} {m : MethodId} {args : Array Value} {below : List Frame} {meth : Method} {c : Code} {T : State} {locs : List Loc} {cells slots : Nat}
theorem vx_callV (X : Stand p l e R s m args below meth c T locs cells slots) (hexec : p.tables.exec = Jvm.exec) {own C : String} {index : Nat} {y : MethodName} {bytes : ByteArray} {maxL : Nat} {ret : Option FieldType}
    (hown : s.vm.findClass own = some m.cls) (hlink : (Cond.methodLink own index y).before args s = true) (hinst : (Cond.instanceMethod y).before args s = true) (hsel : (Cond.selects C y y).before args s = true)
    (hcode : (Cond.code y bytes maxL ret).before args s = true) (hy : y.cls ≠ "java/lang/invoke/MethodHandle" ∧ y.cls ≠ "java/lang/invoke/VarHandle")
    {W9 : Nat} {Pre : Pt → Array Value → Prop} {Post : Pt → Array Value → Option Value → Pt → Prop} {PostX : Pt → Array Value → Addr → Pt → Prop} (hK : vx_Back l R p e below s args y 3 W9 Pre Post PostX)
    {b : Addr} {cellB : Cell} (hcell : T.heap[b]? = some cellB) (hobj : cellB.vm.isStatics = false) (hcls : s.vm.findClass C = some cellB.cls)
    {g : JFrame} (hg : g.method = m) (hsize : g.locals.size = c.maxLocals) {argsL rest : List Value} (hlen : ∀ sig, parseMethodDescriptor y.desc = some sig → argsL.length = sig.parameters.length)
    (hstack : g.stack = argsL.reverse ++ .ref b :: rest) (hW : 2 * g.monitorRoom + (rest.map fun v => v.category).sum ≤ W9) (hdg : decode c.code g.pc = .ok (.invokevirtual index, 3))
    (hpre : ∀ vm₁, s.WarmedH vm₁ → Pre ⟨T.setVm vm₁, locs, cells, slots⟩ (Value.ref b :: argsL).toArray) :
    (∃ (v : Option Value) (vm₁ : Vm) (B : Pt), s.WarmedH vm₁ ∧ Stand p l e R s m args below meth c B.U B.locs B.cells B.slots ∧ Post ⟨T.setVm vm₁, locs, cells, slots⟩ (Value.ref b :: argsL).toArray v B ∧
      ∀ target, Steps p.tables e below (B.U.setTop { g with pc := g.pc + 3, stack := v.toList ++ rest }) target → Steps p.tables e below (T.setTop g) target) ∨
    (∃ (q : Addr) (vm₁ : Vm) (B : Pt), s.WarmedH vm₁ ∧ Stand p l e R s m args below meth c B.U B.locs B.cells B.slots ∧ PostX ⟨T.setVm vm₁, locs, cells, slots⟩ (Value.ref b :: argsL).toArray q B ∧
      Steps p.tables e below (T.setTop g) ((B.U.setTop { g with stack := rest }).pushFrame (.throwing q))) := by
  obtain ⟨mk, methM, hnamed, hmethM, hstM, habM⟩ := Cond.instanceMethod_spec hinst
  obtain ⟨methM', cM, hmethM', -, -, -, -, -, -, hsigM⟩ := Cond.code_spec hnamed hcode
  cases hmethM.symm.trans hmethM'
  obtain ⟨c2, r2, m2, q1, q2, q3, q4, kP, hkP, hkPi⟩ := Cond.selects_spec hsel
  cases hcls.symm.trans q1
  cases (State.methodFound?_of_named hnamed hy).symm.trans q2
  cases hnamed.symm.trans q3
  have hselP : selectMethod e.platform s.vm cellB.cls mk = .method mk := by rw [Launch.admits_selectMethod X.admits]; exact q4
  obtain ⟨vm₁, X₁, hstep₁⟩ := X.invokevirtual hexec hown hlink hnamed hmethM hstM hkP hkPi hy (a := b) (cell := cellB) hcell
    (fun z h => by rw [h] at hobj; cases hobj) hselP hmethM habM hkP hkPi (g := g) hg (argsL := argsL) (rest := rest) (hlen _ hsigM) hstack hdg
  rcases hK m meth c ⟨T.setVm vm₁, locs, cells, slots⟩ { g with stack := rest } (.invokevirtual index) mk (Value.ref b :: argsL).toArray X₁ hg hsize hdg hW (X₁.named hnamed) (hpre vm₁ X₁.warmed) with ⟨v, B, X', hpost, hsteps⟩ | ⟨q, B, X', hpost, hsteps⟩
  · exact Or.inl ⟨v, vm₁, B, X₁.warmed, X', hpost, fun target h => hstep₁ _ fun acts => by rw [doInvoke_state]; exact hsteps.trans h⟩
  · exact Or.inr ⟨q, vm₁, B, X₁.warmed, X', hpost, hstep₁ _ fun acts => by rw [doInvoke_state]; exact hsteps⟩
theorem vx_callS (X : Stand p l e R s m args below meth c T locs cells slots) (hexec : p.tables.exec = Jvm.exec) {own : String} {index : Nat} {y : MethodName} {bytes : ByteArray} {maxL : Nat} {ret : Option FieldType}
    (hown : s.vm.findClass own = some m.cls) (hlink : (Cond.methodLink own index y).before args s = true) (hstat : (Cond.static y).before args s = true) (hinit : (Cond.initialized y.cls).before args s = true)
    (hcode : (Cond.code y bytes maxL ret).before args s = true) (hy : y.cls ≠ "java/lang/invoke/MethodHandle" ∧ y.cls ≠ "java/lang/invoke/VarHandle")
    {W9 : Nat} {Pre : Pt → Array Value → Prop} {Post : Pt → Array Value → Option Value → Pt → Prop} {PostX : Pt → Array Value → Addr → Pt → Prop} (hK : vx_Back l R p e below s args y 3 W9 Pre Post PostX)
    {g : JFrame} (hg : g.method = m) (hsize : g.locals.size = c.maxLocals) {argsL rest : List Value} (hlen : ∀ sig, parseMethodDescriptor y.desc = some sig → argsL.length = sig.parameters.length)
    (hstack : g.stack = argsL.reverse ++ rest) (hW : 2 * g.monitorRoom + (rest.map fun v => v.category).sum ≤ W9) (hdg : decode c.code g.pc = .ok (.invokestatic index, 3))
    (hpre : ∀ vm₁, s.WarmedH vm₁ → Pre ⟨T.setVm vm₁, locs, cells, slots⟩ argsL.toArray) :
    (∃ (v : Option Value) (vm₁ : Vm) (B : Pt), s.WarmedH vm₁ ∧ Stand p l e R s m args below meth c B.U B.locs B.cells B.slots ∧ Post ⟨T.setVm vm₁, locs, cells, slots⟩ argsL.toArray v B ∧
      ∀ target, Steps p.tables e below (B.U.setTop { g with pc := g.pc + 3, stack := v.toList ++ rest }) target → Steps p.tables e below (T.setTop g) target) ∨
    (∃ (q : Addr) (vm₁ : Vm) (B : Pt), s.WarmedH vm₁ ∧ Stand p l e R s m args below meth c B.U B.locs B.cells B.slots ∧ PostX ⟨T.setVm vm₁, locs, cells, slots⟩ argsL.toArray q B ∧
      Steps p.tables e below (T.setTop g) ((B.U.setTop { g with stack := rest }).pushFrame (.throwing q))) := by
  obtain ⟨mk, hnamed⟩ := Cond.code_named hcode
  obtain ⟨methM, cM, hmethM, -, -, -, -, -, -, hsigM⟩ := Cond.code_spec hnamed hcode
  have hstatic : methM.isStatic = true := Cond.static_spec hnamed hmethM hstat
  obtain ⟨kP, hkP, -⟩ := className_of_methodNamed hnamed
  have hinitP : kP.init = .initialized := Cond.initialized_spec (findClass_of_methodNamed hnamed) hkP hinit
  obtain ⟨vm₁, X₁, hstep₁⟩ := X.invokestatic hexec hown hlink hnamed hmethM hstatic hkP hinitP hy (g := g) hg (argsL := argsL) (rest := rest) (hlen _ hsigM) hstack hdg
  rcases hK m meth c ⟨T.setVm vm₁, locs, cells, slots⟩ { g with stack := rest } (.invokestatic index) mk argsL.toArray X₁ hg hsize hdg hW (X₁.named hnamed) (hpre vm₁ X₁.warmed) with ⟨v, B, X', hpost, hsteps⟩ | ⟨q, B, X', hpost, hsteps⟩
  · exact Or.inl ⟨v, vm₁, B, X₁.warmed, X', hpost, fun target h => hstep₁ _ fun acts => by rw [doInvoke_state]; exact hsteps.trans h⟩
  · exact Or.inr ⟨q, vm₁, B, X₁.warmed, X', hpost, hstep₁ _ fun acts => by rw [doInvoke_state]; exact hsteps⟩
end Calls
theorem vx_cls {s : State} {T : State} {vm₁ : Vm} {E : String} {k : ClassId} (hW : s.WarmedH vm₁) (h : (T.setVm vm₁).vm.findClass E = some k) : s.vm.findClass E = some k := by
  have h1 : vm₁.findClass E = some k := h
  rw [hW.alike.findClass] at h1
  exact h1
/-- the method's frame g, with q thrown over it -/
def vx_W (p : Program) (l : Launch) (e : Env) (R : Room) (s : State) (m : MethodId) (args : Array Value) (below : List Frame) (meth : Method) (c : Code) (H : Heap) (locs : List Loc) (cells slots : Nat) (Q : State → Prop) (g : JFrame) (q : Addr) : Prop :=
  ∀ T : State, T.heap = H → Stand p l e R s m args below meth c T locs cells slots → ∃ t, Steps p.tables e below ((T.setTop g).pushFrame (.throwing q)) t ∧ Q t
def vx_Run (p : Program) (l : Launch) (e : Env) (R : Room) (s : State) (m : MethodId) (args : Array Value) (below : List Frame) (meth : Method) (c : Code) (H : Heap) (locs : List Loc) (cells slots mc ms mx sx : Nat) (g : JFrame) (rest : List Value) (Qa : State → Outcome → State → Prop) (XC : String → State → State → Prop) (free : Addr → Prop) : Prop :=
  ∀ T : State, T.heap = H → Stand p l e R s m args below meth c T locs cells slots →
    (∃ (v : Option Value) (st₀ t T' : State) (L : List Loc), st₀.heap = H ∧ Stand p l e R s m args below meth c T' (locs ++ L) (cells + mc) (slots + ms) ∧ (∀ q ∈ L, free q.base) ∧ T'.heap = t.heap ∧ T'.vm = t.vm ∧ Qa st₀ (.returned v) t ∧
      Goes p e below T g T' { g with pc := g.pc + 3, stack := v.toList ++ rest }) ∨
    (∃ (q : Addr) (st₀ t T' : State) (L : List Loc) (E : String) (ce : Cell), st₀.heap = H ∧ Stand p l e R s m args below meth c T' (locs ++ L) (cells + mx) (slots + sx) ∧ (∀ z ∈ L, free z.base) ∧ T'.heap = t.heap ∧ T'.vm = t.vm ∧ XC E st₀ t ∧ t.heap[q]? = some ce ∧ ce.vm = .none ∧ s.vm.findClass E = some ce.cls ∧
      Steps p.tables e below (T.setTop g) ((T'.setTop { g with stack := rest }).pushFrame (.throwing q)))
def vx_X {S : Type} (px : S → Prop) (B : String → S → State → Prop) (A : Nat → Prop) : String → State → State → Prop := fun E st t => ∃ u : S, px u ∧ B E u t ∧ va_F A st t
section Runs
variable {p : Program} {l : Launch} {e : Env} {R : Room} {s : State} {m : MethodId} {args : Array Value} {below : List Frame} {meth : Method} {c : Code} {H : Heap} {locs : List Loc} {cells slots : Nat}
variable {y : MethodName} {bytes cc : ByteArray} {maxL nL mc ms mx sx n index : Nat} {ret : Option FieldType} {ws : List Cond} {rm : Room} {Pc : Array Value → State → Prop} {Qc : Array Value → State → Outcome → State → Prop} {XC : String → State → State → Prop} {free : Addr → Prop} {Ts : List Cond} {own C : String} {b : Addr} {As rest : List Value} {g : JFrame}
theorem vx_callBack (cb : CallB R s args own index y bytes maxL ret ws rm mx sx n) (hM : vx_Met l y ws rm Pc Qc XC mc ms mx sx free) (hbl : FrameBlind Pc) : vx_Back l R p e below s args y 3 8 (PreOf R mx sx Pc) (PostOf Qc mc ms free) (vx_Post XC mx sx free) := by
  obtain ⟨hrc, hrs, hfr, hlo, hws, hcw, -, hini, -⟩ := cb
  exact vx_back (bytes := bytes) (maxL := maxL) (ret := ret) hM hbl hrc hrs hfr hlo hws hcw (fun a' U hW => word_at hW (Or.inl (by first | rfl | simp [Cond.onTables, Cond.keeps, Cond.steady])) hini)
theorem vx_runV (S : CallFix p m c cc nL s args Ts own) (hM : vx_Met l y ws rm Pc Qc XC mc ms mx sx free) (cw : CallW R s args own C index y bytes maxL ret ws rm mx sx n) (hp : PreV s H C b Pc As)
    (hg : g.method = m) (hn : As.length = n) (hsize : g.locals.size = nL) (hstack : g.stack = As.reverse ++ .ref b :: rest) (hW : 2 * g.monitorRoom + (rest.map fun v => v.category).sum ≤ 8) (hdg : decode cc g.pc = .ok (.invokevirtual index, 3)) (hf : cells + mx ≤ R.cells ∧ slots + sx ≤ R.slots) :
    vx_Run p l e R s m args below meth c H locs cells slots mc ms mx sx g rest (Qc (Value.ref b :: As).toArray) XC free := by
  have hK : vx_Back l R p e below s args y 3 8 (PreOf R mx sx Pc) (PostOf Qc mc ms free) (vx_Post XC mx sx free) := vx_callBack cw.1 hM hp.1
  obtain ⟨⟨-, -, -, -, -, -, hcode, -, hy, hlen, hl⟩, hin, hse⟩ := cw
  obtain ⟨hx, hb, hml, ho, -⟩ := S
  obtain ⟨-, ⟨cellB, hcB, hoB, hclB⟩, hPc⟩ := hp
  intro T hT X
  rcases vx_callV X hx (C := C) (bytes := bytes) (maxL := maxL) (ret := ret) ho hl hin hse hcode hy hK (by rw [hT]; exact hcB) hoB hclB hg (hsize.trans hml.symm) (argsL := As) (rest := rest) (fun sig h => hn.trans (hlen sig h)) hstack hW (by rw [hb]; exact hdg)
    (fun vm₁ hW₁ => ⟨hf.1, hf.2, hPc (T.setVm vm₁) hT hW₁⟩) with ⟨v, vm₁, ⟨U', l2, c2, s2⟩, hW₁, X', ⟨g', mk, t, L, e1, e2, hq, h1, hL, h2, h3⟩, st⟩ | ⟨q, vm₁, ⟨U', l2, c2, s2⟩, hW₁, X', ⟨g', mk, t, L, E, ce, e1, e2, hq, hce, hcv, hcl, h1, hL, h2, h3⟩, st⟩
  · dsimp only [Pt.U, Pt.locs, Pt.cells, Pt.slots] at X' e1 e2 h1 h2 h3 st
    subst h1; subst h2; subst h3
    exact Or.inl ⟨v, (T.setVm vm₁).calling g' mk (Value.ref b :: As).toArray, t, U', L, hT, X', hL, e1, e2, hq, st⟩
  · dsimp only [Pt.U, Pt.locs, Pt.cells, Pt.slots] at X' e1 e2 h1 h2 h3 st hcl
    subst h1; subst h2; subst h3
    exact Or.inr ⟨q, (T.setVm vm₁).calling g' mk (Value.ref b :: As).toArray, t, U', L, E, ce, hT, X', hL, e1, e2, hq, hce, hcv, vx_cls hW₁ hcl, st⟩
theorem vx_runS (S : CallFix p m c cc nL s args Ts own) (hM : vx_Met l y ws rm Pc Qc XC mc ms mx sx free) (cw : CallB R s args own index y bytes maxL ret ws rm mx sx n ∧ (Cond.static y).before args s = true) (hp : PreS s H Pc As)
    (hg : g.method = m) (hn : As.length = n) (hsize : g.locals.size = nL) (hstack : g.stack = As.reverse ++ rest) (hW : 2 * g.monitorRoom + (rest.map fun v => v.category).sum ≤ 8) (hdg : decode cc g.pc = .ok (.invokestatic index, 3)) (hf : cells + mx ≤ R.cells ∧ slots + sx ≤ R.slots) :
    vx_Run p l e R s m args below meth c H locs cells slots mc ms mx sx g rest (Qc As.toArray) XC free := by
  have hK : vx_Back l R p e below s args y 3 8 (PreOf R mx sx Pc) (PostOf Qc mc ms free) (vx_Post XC mx sx free) := vx_callBack cw.1 hM hp.1
  obtain ⟨⟨-, -, -, -, -, -, hcode, hini, hy, hlen, hl⟩, hstt⟩ := cw
  obtain ⟨hx, hb, hml, ho, -⟩ := S
  intro T hT X
  rcases vx_callS X hx (bytes := bytes) (maxL := maxL) (ret := ret) ho hl hstt hini hcode hy hK hg (hsize.trans hml.symm) (argsL := As) (rest := rest) (fun sig h => hn.trans (hlen sig h)) hstack hW (by rw [hb]; exact hdg)
    (fun vm₁ hW₁ => ⟨hf.1, hf.2, hp.2 (T.setVm vm₁) hT hW₁⟩) with ⟨v, vm₁, ⟨U', l2, c2, s2⟩, hW₁, X', ⟨g', mk, t, L, e1, e2, hq, h1, hL, h2, h3⟩, st⟩ | ⟨q, vm₁, ⟨U', l2, c2, s2⟩, hW₁, X', ⟨g', mk, t, L, E, ce, e1, e2, hq, hce, hcv, hcl, h1, hL, h2, h3⟩, st⟩
  · dsimp only [Pt.U, Pt.locs, Pt.cells, Pt.slots] at X' e1 e2 h1 h2 h3 st
    subst h1; subst h2; subst h3
    exact Or.inl ⟨v, (T.setVm vm₁).calling g' mk As.toArray, t, U', L, hT, X', hL, e1, e2, hq, st⟩
  · dsimp only [Pt.U, Pt.locs, Pt.cells, Pt.slots] at X' e1 e2 h1 h2 h3 st hcl
    subst h1; subst h2; subst h3
    exact Or.inr ⟨q, (T.setVm vm₁).calling g' mk As.toArray, t, U', L, E, ce, hT, X', hL, e1, e2, hq, hce, hcv, vx_cls hW₁ hcl, st⟩
end Runs
section Rows
variable {p : Program} {l : Launch} {e : Env} {R : Room} {s : State} {m : MethodId} {args : Array Value} {below : List Frame} {meth : Method} {c : Code} {H : Heap} {locs : List Loc} {cells slots : Nat} {Q : State → Prop}
variable {mc ms mx sx : Nat} {free : Addr → Prop} {A0 A1 : Nat → Prop} {H0 : Heap} {a : Array Value} {pc : Nat} {ls : Array Slot} {st0 rest : List Value}
theorem vx_keep {st₀ t T' : State} {L : List Loc} (h0 : st₀.heap = H) (e1 : T'.heap = t.heap) (hS : va_S A0 H0 H locs) (hA : ∀ q, q < H.size → A1 q → A0 q) (hf : ∀ q, free q → A0 q) (hL : ∀ q ∈ L, free q.base) (hF : va_F A1 st₀ t) :
    H.size ≤ T'.heap.size ∧ (∀ q : Nat, q < H.size → ¬ A1 q → T'.heap[q]? = H[q]?) ∧ va_S A0 H0 T'.heap (locs ++ L) := by
  obtain ⟨hz, hk⟩ := hF
  rw [h0] at hz hk
  exact ⟨by rw [e1]; exact hz, fun q h1 h2 => by rw [e1]; exact hk q h1 h2,
    ⟨Nat.le_trans hS.1 (by rw [e1]; exact hz), fun q h1 h2 => by rw [e1, hk q (Nat.lt_of_lt_of_le h1 hS.1) (fun z => h2 (hA q (Nat.lt_of_lt_of_le h1 hS.1) z))]; exact hS.2.1 q h1 h2, fun q hq => by
      rcases List.mem_append.mp hq with h | h
      · exact hS.2.2 q h
      · exact hf _ (hL q h)⟩⟩
theorem vx_calli {S SX : Type} {post : Int32 → S → Prop} {px : SX → Prop} {B : S → State → Prop} {BX : String → SX → State → Prop} {AX : Nat → Prop} (hr : vx_Run p l e R s m args below meth c H locs cells slots mc ms mx sx (F0 m pc ls st0) rest (va_Qi post B A1 a) (vx_X px BX AX) free) (hS : va_S A0 H0 H locs) (hA : ∀ q, q < H.size → A1 q → A0 q) (hf : ∀ q, free q → A0 q) (hAX : ∀ q, q < H.size → AX q → A0 q)
    (kx : ∀ (E : String) (ce : Cell) (q9 : Addr) (u : SX) (t : State) (H1 : Heap) (locs1 : List Loc), t.heap = H1 → s.vm.Alike t.vm → px u → BX E u t → H.size ≤ H1.size → (∀ q : Nat, q < H.size → ¬ AX q → H1[q]? = H[q]?) → va_S A0 H0 H1 locs1 → H1[q9]? = some ce → ce.vm = .none → s.vm.findClass E = some ce.cls → vx_W p l e R s m args below meth c H1 locs1 (cells + mx) (slots + sx) Q (F0 m pc ls rest) q9)
    (kk : ∀ (r : Int32) (u : S) (t : State) (H1 : Heap) (locs1 : List Loc), t.heap = H1 → s.vm.Alike t.vm → post r u → B u t → H.size ≤ H1.size → (∀ q : Nat, q < H.size → ¬ A1 q → H1[q]? = H[q]?) → va_S A0 H0 H1 locs1 → W p l e R s m args below meth c H1 locs1 (cells + mc) (slots + ms) Q (F0 m (pc + 3) ls (.int r :: rest))) : W p l e R s m args below meth c H locs cells slots Q (F0 m pc ls st0) := by
  intro T hT X
  rcases hr T hT X with ⟨v, st₀, t, T', L, h0, X', hL, e1, e2, ⟨⟨r, u, hv, hp, hb⟩, hF⟩, st⟩ | ⟨q, st₀, t, T', L, E, ce, h0, X', hL, e1, e2, ⟨u, hp, hb, hF⟩, hce, hcv, hcl, st⟩
  · cases hv
    obtain ⟨k1, k2, k3⟩ := vx_keep h0 e1 hS hA hf hL hF
    obtain ⟨t2, a1, b1⟩ := kk r u t T'.heap (locs ++ L) e1.symm (by rw [← e2]; exact X'.warmed.alike) hp hb k1 k2 k3 T' rfl X'
    exact ⟨t2, st t2 a1, b1⟩
  · obtain ⟨k1, k2, k3⟩ := vx_keep h0 e1 hS hAX hf hL hF
    obtain ⟨t2, a1, b1⟩ := kx E ce q u t T'.heap (locs ++ L) e1.symm (by rw [← e2]; exact X'.warmed.alike) hp hb k1 k2 k3 (by rw [e1]; exact hce) hcv hcl T' rfl X'
    exact ⟨t2, st.trans a1, b1⟩
theorem vx_calll {S SX : Type} {post : Int64 → S → Prop} {px : SX → Prop} {B : S → State → Prop} {BX : String → SX → State → Prop} {AX : Nat → Prop} (hr : vx_Run p l e R s m args below meth c H locs cells slots mc ms mx sx (F0 m pc ls st0) rest (va_Ql post B A1 a) (vx_X px BX AX) free) (hS : va_S A0 H0 H locs) (hA : ∀ q, q < H.size → A1 q → A0 q) (hf : ∀ q, free q → A0 q) (hAX : ∀ q, q < H.size → AX q → A0 q)
    (kx : ∀ (E : String) (ce : Cell) (q9 : Addr) (u : SX) (t : State) (H1 : Heap) (locs1 : List Loc), t.heap = H1 → s.vm.Alike t.vm → px u → BX E u t → H.size ≤ H1.size → (∀ q : Nat, q < H.size → ¬ AX q → H1[q]? = H[q]?) → va_S A0 H0 H1 locs1 → H1[q9]? = some ce → ce.vm = .none → s.vm.findClass E = some ce.cls → vx_W p l e R s m args below meth c H1 locs1 (cells + mx) (slots + sx) Q (F0 m pc ls rest) q9)
    (kk : ∀ (r : Int64) (u : S) (t : State) (H1 : Heap) (locs1 : List Loc), t.heap = H1 → s.vm.Alike t.vm → post r u → B u t → H.size ≤ H1.size → (∀ q : Nat, q < H.size → ¬ A1 q → H1[q]? = H[q]?) → va_S A0 H0 H1 locs1 → W p l e R s m args below meth c H1 locs1 (cells + mc) (slots + ms) Q (F0 m (pc + 3) ls (.long r :: rest))) : W p l e R s m args below meth c H locs cells slots Q (F0 m pc ls st0) := by
  intro T hT X
  rcases hr T hT X with ⟨v, st₀, t, T', L, h0, X', hL, e1, e2, ⟨⟨r, u, hv, hp, hb⟩, hF⟩, st⟩ | ⟨q, st₀, t, T', L, E, ce, h0, X', hL, e1, e2, ⟨u, hp, hb, hF⟩, hce, hcv, hcl, st⟩
  · cases hv
    obtain ⟨k1, k2, k3⟩ := vx_keep h0 e1 hS hA hf hL hF
    obtain ⟨t2, a1, b1⟩ := kk r u t T'.heap (locs ++ L) e1.symm (by rw [← e2]; exact X'.warmed.alike) hp hb k1 k2 k3 T' rfl X'
    exact ⟨t2, st t2 a1, b1⟩
  · obtain ⟨k1, k2, k3⟩ := vx_keep h0 e1 hS hAX hf hL hF
    obtain ⟨t2, a1, b1⟩ := kx E ce q u t T'.heap (locs ++ L) e1.symm (by rw [← e2]; exact X'.warmed.alike) hp hb k1 k2 k3 (by rw [e1]; exact hce) hcv hcl T' rfl X'
    exact ⟨t2, st.trans a1, b1⟩
theorem vx_callf {S SX : Type} {post : UInt32 → S → Prop} {px : SX → Prop} {B : S → State → Prop} {BX : String → SX → State → Prop} {AX : Nat → Prop} (hr : vx_Run p l e R s m args below meth c H locs cells slots mc ms mx sx (F0 m pc ls st0) rest (va_Qf post B A1 a) (vx_X px BX AX) free) (hS : va_S A0 H0 H locs) (hA : ∀ q, q < H.size → A1 q → A0 q) (hf : ∀ q, free q → A0 q) (hAX : ∀ q, q < H.size → AX q → A0 q)
    (kx : ∀ (E : String) (ce : Cell) (q9 : Addr) (u : SX) (t : State) (H1 : Heap) (locs1 : List Loc), t.heap = H1 → s.vm.Alike t.vm → px u → BX E u t → H.size ≤ H1.size → (∀ q : Nat, q < H.size → ¬ AX q → H1[q]? = H[q]?) → va_S A0 H0 H1 locs1 → H1[q9]? = some ce → ce.vm = .none → s.vm.findClass E = some ce.cls → vx_W p l e R s m args below meth c H1 locs1 (cells + mx) (slots + sx) Q (F0 m pc ls rest) q9)
    (kk : ∀ (r : UInt32) (u : S) (t : State) (H1 : Heap) (locs1 : List Loc), t.heap = H1 → s.vm.Alike t.vm → post r u → B u t → H.size ≤ H1.size → (∀ q : Nat, q < H.size → ¬ A1 q → H1[q]? = H[q]?) → va_S A0 H0 H1 locs1 → W p l e R s m args below meth c H1 locs1 (cells + mc) (slots + ms) Q (F0 m (pc + 3) ls (.float r :: rest))) : W p l e R s m args below meth c H locs cells slots Q (F0 m pc ls st0) := by
  intro T hT X
  rcases hr T hT X with ⟨v, st₀, t, T', L, h0, X', hL, e1, e2, ⟨⟨r, u, hv, hp, hb⟩, hF⟩, st⟩ | ⟨q, st₀, t, T', L, E, ce, h0, X', hL, e1, e2, ⟨u, hp, hb, hF⟩, hce, hcv, hcl, st⟩
  · cases hv
    obtain ⟨k1, k2, k3⟩ := vx_keep h0 e1 hS hA hf hL hF
    obtain ⟨t2, a1, b1⟩ := kk r u t T'.heap (locs ++ L) e1.symm (by rw [← e2]; exact X'.warmed.alike) hp hb k1 k2 k3 T' rfl X'
    exact ⟨t2, st t2 a1, b1⟩
  · obtain ⟨k1, k2, k3⟩ := vx_keep h0 e1 hS hAX hf hL hF
    obtain ⟨t2, a1, b1⟩ := kx E ce q u t T'.heap (locs ++ L) e1.symm (by rw [← e2]; exact X'.warmed.alike) hp hb k1 k2 k3 (by rw [e1]; exact hce) hcv hcl T' rfl X'
    exact ⟨t2, st.trans a1, b1⟩
theorem vx_calld {S SX : Type} {post : UInt64 → S → Prop} {px : SX → Prop} {B : S → State → Prop} {BX : String → SX → State → Prop} {AX : Nat → Prop} (hr : vx_Run p l e R s m args below meth c H locs cells slots mc ms mx sx (F0 m pc ls st0) rest (va_Qd post B A1 a) (vx_X px BX AX) free) (hS : va_S A0 H0 H locs) (hA : ∀ q, q < H.size → A1 q → A0 q) (hf : ∀ q, free q → A0 q) (hAX : ∀ q, q < H.size → AX q → A0 q)
    (kx : ∀ (E : String) (ce : Cell) (q9 : Addr) (u : SX) (t : State) (H1 : Heap) (locs1 : List Loc), t.heap = H1 → s.vm.Alike t.vm → px u → BX E u t → H.size ≤ H1.size → (∀ q : Nat, q < H.size → ¬ AX q → H1[q]? = H[q]?) → va_S A0 H0 H1 locs1 → H1[q9]? = some ce → ce.vm = .none → s.vm.findClass E = some ce.cls → vx_W p l e R s m args below meth c H1 locs1 (cells + mx) (slots + sx) Q (F0 m pc ls rest) q9)
    (kk : ∀ (r : UInt64) (u : S) (t : State) (H1 : Heap) (locs1 : List Loc), t.heap = H1 → s.vm.Alike t.vm → post r u → B u t → H.size ≤ H1.size → (∀ q : Nat, q < H.size → ¬ A1 q → H1[q]? = H[q]?) → va_S A0 H0 H1 locs1 → W p l e R s m args below meth c H1 locs1 (cells + mc) (slots + ms) Q (F0 m (pc + 3) ls (.double r :: rest))) : W p l e R s m args below meth c H locs cells slots Q (F0 m pc ls st0) := by
  intro T hT X
  rcases hr T hT X with ⟨v, st₀, t, T', L, h0, X', hL, e1, e2, ⟨⟨r, u, hv, hp, hb⟩, hF⟩, st⟩ | ⟨q, st₀, t, T', L, E, ce, h0, X', hL, e1, e2, ⟨u, hp, hb, hF⟩, hce, hcv, hcl, st⟩
  · cases hv
    obtain ⟨k1, k2, k3⟩ := vx_keep h0 e1 hS hA hf hL hF
    obtain ⟨t2, a1, b1⟩ := kk r u t T'.heap (locs ++ L) e1.symm (by rw [← e2]; exact X'.warmed.alike) hp hb k1 k2 k3 T' rfl X'
    exact ⟨t2, st t2 a1, b1⟩
  · obtain ⟨k1, k2, k3⟩ := vx_keep h0 e1 hS hAX hf hL hF
    obtain ⟨t2, a1, b1⟩ := kx E ce q u t T'.heap (locs ++ L) e1.symm (by rw [← e2]; exact X'.warmed.alike) hp hb k1 k2 k3 (by rw [e1]; exact hce) hcv hcl T' rfl X'
    exact ⟨t2, st.trans a1, b1⟩
theorem vx_callv {S SX : Type} {post : S → Prop} {px : SX → Prop} {B : S → State → Prop} {BX : String → SX → State → Prop} {AX : Nat → Prop} (hr : vx_Run p l e R s m args below meth c H locs cells slots mc ms mx sx (F0 m pc ls st0) rest (va_Qv post B A1 a) (vx_X px BX AX) free) (hS : va_S A0 H0 H locs) (hA : ∀ q, q < H.size → A1 q → A0 q) (hf : ∀ q, free q → A0 q) (hAX : ∀ q, q < H.size → AX q → A0 q)
    (kx : ∀ (E : String) (ce : Cell) (q9 : Addr) (u : SX) (t : State) (H1 : Heap) (locs1 : List Loc), t.heap = H1 → s.vm.Alike t.vm → px u → BX E u t → H.size ≤ H1.size → (∀ q : Nat, q < H.size → ¬ AX q → H1[q]? = H[q]?) → va_S A0 H0 H1 locs1 → H1[q9]? = some ce → ce.vm = .none → s.vm.findClass E = some ce.cls → vx_W p l e R s m args below meth c H1 locs1 (cells + mx) (slots + sx) Q (F0 m pc ls rest) q9)
    (kk : ∀ (u : S) (t : State) (H1 : Heap) (locs1 : List Loc), t.heap = H1 → s.vm.Alike t.vm → post u → B u t → H.size ≤ H1.size → (∀ q : Nat, q < H.size → ¬ A1 q → H1[q]? = H[q]?) → va_S A0 H0 H1 locs1 → W p l e R s m args below meth c H1 locs1 (cells + mc) (slots + ms) Q (F0 m (pc + 3) ls (rest))) : W p l e R s m args below meth c H locs cells slots Q (F0 m pc ls st0) := by
  intro T hT X
  rcases hr T hT X with ⟨v, st₀, t, T', L, h0, X', hL, e1, e2, ⟨⟨u, hv, hp, hb⟩, hF⟩, st⟩ | ⟨q, st₀, t, T', L, E, ce, h0, X', hL, e1, e2, ⟨u, hp, hb, hF⟩, hce, hcv, hcl, st⟩
  · cases hv
    obtain ⟨k1, k2, k3⟩ := vx_keep h0 e1 hS hA hf hL hF
    obtain ⟨t2, a1, b1⟩ := kk u t T'.heap (locs ++ L) e1.symm (by rw [← e2]; exact X'.warmed.alike) hp hb k1 k2 k3 T' rfl X'
    exact ⟨t2, st t2 a1, b1⟩
  · obtain ⟨k1, k2, k3⟩ := vx_keep h0 e1 hS hAX hf hL hF
    obtain ⟨t2, a1, b1⟩ := kx E ce q u t T'.heap (locs ++ L) e1.symm (by rw [← e2]; exact X'.warmed.alike) hp hb k1 k2 k3 (by rw [e1]; exact hce) hcv hcl T' rfl X'
    exact ⟨t2, st.trans a1, b1⟩
/-- caught by the row x of this method's table; the rows ahead don't take it -/
theorem vx_catch {own name : String} {E : String} {ce : Cell} {q : Addr} (hown : s.vm.findClass own = some m.cls) (pre : List ExceptionTableEntry) (x : ExceptionTableEntry) (suf : List ExceptionTableEntry) (hsplit : c.exceptionTable.toList = pre ++ x :: suf)
    (hpass : ∀ z ∈ pre, covers z pc = false ∨ (z.catchType ≠ 0 ∧ ∃ nm : String, (Cond.classLink own z.catchType nm).before args s = true ∧ va_Nc E nm s)) (hx : covers x pc = true) (h0 : x.catchType ≠ 0)
    (hlink : (Cond.classLink own x.catchType name).before args s = true) (hcast : (Cond.castable E name).before args s = true) (hcell : H[q]? = some ce) (hv : ce.vm = .none) (hcl : s.vm.findClass E = some ce.cls)
    (kk : W p l e R s m args below meth c H locs cells slots Q (F0 m x.handlerPc ls [.ref q])) : vx_W p l e R s m args below meth c H locs cells slots Q (F0 m pc ls rest) q := by
  intro T hT X
  have hpl : e.platform.magicAccessors = ({} : Platform).magicAccessors := by rw [X.admits.platform]
  obtain ⟨c3, c4, hc3, hc4, hasg⟩ := Cond.castable_spec hcast
  cases Option.some.inj (hc3.symm.trans hcl)
  obtain ⟨c5, hc5, hcl5⟩ := Cond.classLink_spec hown hlink e.platform hpl
  cases Option.some.inj (hc4.symm.trans hc5)
  obtain ⟨vm', X', st⟩ := X.thenCaughtThrough q (g := F0 m pc ls rest) rfl (Steps.refl _) (by rw [hT]; exact hcell) (by rw [hv]; rfl) (by obtain ⟨k9, h9, -⟩ := Vm.findClass_spec hcl; exact ⟨k9, h9⟩) pre x suf hsplit
    (fun z hz => by
      rcases hpass z hz with h | ⟨hz0, nm, hl1, hn1⟩
      · exact Or.inl h
      · obtain ⟨c6, hc6, hcl6⟩ := Cond.classLink_spec hown hl1 e.platform hpl
        obtain ⟨a8, b8, h1, h2, h3⟩ := hn1
        cases Option.some.inj (h1.symm.trans hcl)
        cases Option.some.inj (h2.symm.trans hc6)
        exact Or.inr ⟨hz0, _, hcl6, h3⟩) hx (Or.inr ⟨h0, c4, hcl5, hasg⟩)
  obtain ⟨t, a1, b1⟩ := kk (T.setVm vm') hT X'
  exact ⟨t, st.trans a1, b1⟩
end Rows
section Ends
variable {p : Program} {l : Launch} {e : Env} {R : Room} {s : State} {m : MethodId} {args : Array Value} {below : List Frame} {meth : Method} {c : Code} {H : Heap} {locs : List Loc} {cells slots : Nat} {Q : State → Prop}
variable {mc ms mx sx : Nat} {free : Addr → Prop} {A0 A1 : Nat → Prop} {H0 : Heap} {a : Array Value} {ls : Array Slot} {st0 rest : List Value}
variable {Qc : Array Value → State → Outcome → State → Prop} {XC : String → State → State → Prop}
/-- what a body that may throw owes at its end -/
def vx_MQ (below : List Frame) (Qc : Array Value → State → Outcome → State → Prop) (XC : String → State → State → Prop) (a : Array Value) (s : State) (mc ms mx sx : Nat) (free : Addr → Prop) : State → Prop := fun t =>
  ∃ o, t.status = .running ∧ Ended t below o ∧ vx_Q Qc XC mc ms mx sx free a s o t
theorem vx_ret {g : JFrame} {mc ms mx sx : Nat} (k : W p l e R s m args below meth c H locs cells slots (MQ below Qc args s mc ms free) g) : W p l e R s m args below meth c H locs cells slots (vx_MQ below Qc XC args s mc ms mx sx free) g := by
  intro T hT X
  obtain ⟨t, a1, o, b1, b2, b3, b4⟩ := k T hT X
  exact ⟨t, a1, o, b1, b2, Or.inl ⟨b3, b4⟩⟩
/-- not caught here: it goes on to the caller -/
theorem vx_widen {g : JFrame} {q : Addr} {k n : Nat} (h1 : cells ≤ k) (h2 : slots ≤ n) (kk : vx_W p l e R s m args below meth c H locs k n Q g q) : vx_W p l e R s m args below meth c H locs cells slots Q g q := fun T hT X => kk T hT (stand_widen X h1 h2)
theorem vx_out {pc : Nat} {E : String} {ce : Cell} {q : Addr} {mc ms mx sx : Nat} (hout : ∀ x ∈ c.exceptionTable.toList, covers x pc = false) (hlocks : meth.locks = false) (hcell : H[q]? = some ce) (hv : ce.vm = .none) (hcl : s.vm.findClass E = some ce.cls)
    (hx : ∀ t : State, t.heap = H → s.vm.Alike t.vm → XC E s t) (hf : ∀ z ∈ locs, free z.base) (hc : cells ≤ mx) (hs : slots ≤ sx) :
    vx_W p l e R s m args below meth c H locs cells slots (vx_MQ below Qc XC args s mc ms mx sx free) (F0 m pc ls rest) q := by
  intro T hT X
  obtain ⟨st1, hrun, hend, hW, hsm⟩ := X.leaveThrown q (g := F0 m pc ls rest) rfl rfl rfl hout hlocks
  have hcell9 : (T.setFrames (.throwing q :: below)).heap[q]? = some ce := by
    show T.heap[q]? = some ce
    rw [hT]; exact hcell
  exact ⟨_, st1, .threw q, hrun, hend, Or.inr ⟨q, rfl, E, ce, locs, hx _ hT hW.alike, hcell9, hv, hcl, hW, hsm.mono hc hs, hf⟩⟩
theorem vx_frame {U : State} {k n : Nat} (h : s.sameButNew ({ U with vm := s.vm } : State) locs k n) : s.heap.size ≤ U.heap.size ∧ ∀ q : Nat, q < s.heap.size → (∀ z ∈ locs, z.base ≠ q) → U.heap[q]? = s.heap[q]? := by
  obtain ⟨-, h2, -, -, -, h6⟩ := h
  refine ⟨h2, fun q hq hz => ?_⟩
  obtain ⟨c9, e1, e2, e3, e4⟩ := h6 q _ (Array.getElem?_eq_getElem hq)
  have hs : c9.slots = (s.heap[q]).slots := Array.ext_getElem? fun i => e4 i fun hm => hz _ hm rfl
  have h9 : c9 = s.heap[q] := by
    rw [hs] at e2
    exact e2
  have e5 : U.heap[q]? = some c9 := e1
  rw [e5, h9, Array.getElem?_eq_getElem hq]
/-- the words of a throw but the four that speak of the heap -/
def vx_no (w : Cond) : Bool := decide (w ≠ .isRef (.static Bundle.tN "UNASSIGNED_STACK" Bundle.steD)) && decide (w ≠ .isRef (.static Bundle.tN "SUPPRESSED_SENTINEL" Bundle.listD)) && decide (w ≠ .laysStatic Bundle.tN "UNASSIGNED_STACK" Bundle.steD) && decide (w ≠ .laysStatic Bundle.tN "SUPPRESSED_SENTINEL" Bundle.listD)
def vx_at0 (own : String) (ic : Nat) (X : String) (names : List String) : List Cond := (Bundle.ownAtoms0 own ic X names).filter vx_no
def vx_atS (own : String) (ic : Nat) (X : String) (names : List String) : List Cond := (Bundle.ownAtoms own ic X names).filter vx_no
/-- a word that the tables alone decide, or a good one -/
def vx_ot (w : Cond) : Bool := w.onTables || goodWord w
theorem vx_ot_at {args a' : Array Value} {s U : State} {w : Cond} (hW : s.WarmedH U.vm) (hvm : s.vm = U.vm) (hg : vx_ot w = true) (h : w.before args s = true) : w.before a' U = true := by
  simp only [vx_ot, Bool.or_eq_true] at hg
  rcases hg with hg | hg
  · exact va_tabs hg hvm h
  · exact word_at hW (good_of_word hg) h
/-- a list's words: the good ones out of the method's own list, the others by premises of their own -/
theorem vx_hat {args : Array Value} {s : State} {L B : List Cond} (h1 : ∀ w ∈ L.filter goodWord, w.before args s = true) (h2 : ∀ w ∈ L.filter (fun w => !goodWord w), w ∈ B) (h3 : ∀ w ∈ B, w.before args s = true) : ∀ w ∈ L, w.before args s = true := by
  intro w hw
  by_cases g : goodWord w = true
  · exact h1 w (List.mem_filter.mpr ⟨hw, g⟩)
  · refine h3 w (h2 w (List.mem_filter.mpr ⟨hw, ?_⟩))
    show (!goodWord w) = true
    cases hgw : goodWord w
    · rfl
    · exact absurd hgw g
theorem vx_c {args : Array Value} {s : State} {w : Cond} {B : List Cond} (h : w.before args s = true) (t : ∀ w ∈ B, w.before args s = true) : ∀ w' ∈ w :: B, w'.before args s = true := fun w' h' => (List.mem_cons.mp h').elim (fun e => by rw [e]; exact h) (t w')
theorem vx_n {args : Array Value} {s : State} : ∀ w ∈ ([] : List Cond), w.before args s = true := fun _ h => nomatch h
theorem vx_own {args : Array Value} {s : State} {L : List Cond} (h1 : ∀ w ∈ L.filter vx_no, w.before args s = true)
    (hU : (Cond.isRef (.static Bundle.tN "UNASSIGNED_STACK" Bundle.steD)).before args s = true) (hN : (Cond.isRef (.static Bundle.tN "SUPPRESSED_SENTINEL" Bundle.listD)).before args s = true)
    (lU : (Cond.laysStatic Bundle.tN "UNASSIGNED_STACK" Bundle.steD).before args s = true) (lN : (Cond.laysStatic Bundle.tN "SUPPRESSED_SENTINEL" Bundle.listD).before args s = true) : ∀ w ∈ L, w.before args s = true := by
  intro w hw
  by_cases e1 : w = .isRef (.static Bundle.tN "UNASSIGNED_STACK" Bundle.steD)
  · rw [e1]; exact hU
  · by_cases e2 : w = .isRef (.static Bundle.tN "SUPPRESSED_SENTINEL" Bundle.listD)
    · rw [e2]; exact hN
    · by_cases e3 : w = .laysStatic Bundle.tN "UNASSIGNED_STACK" Bundle.steD
      · rw [e3]; exact lU
      · by_cases e4 : w = .laysStatic Bundle.tN "SUPPRESSED_SENTINEL" Bundle.listD
        · rw [e4]; exact lN
        · exact h1 w (List.mem_filter.mpr ⟨hw, by unfold vx_no; rw [decide_eq_true e1, decide_eq_true e2, decide_eq_true e3, decide_eq_true e4]; rfl⟩)
/-- where a static field lies, its class's statics cell in H -/
def vx_L (C n d : String) (A : Nat → Prop) (U : State) (H : Heap) : Prop := ∃ (c : ClassId) (k : Class) (i : Nat) (f : Field) (a : Nat) (cell : Cell), U.vm.findClass C = some c ∧ U.fieldFound? C n d = some (c, k, i, f) ∧ f.isStatic = true ∧ k.statics = some a ∧ H[a]? = some cell ∧ cell.vm.isStatics = true ∧ cell.cls = c ∧ f.slot < cell.slots.size ∧ k.staticTypes[f.slot]? = some f.type ∧ ¬ A a
theorem vx_L.moved {C n d : String} {A : Nat → Prop} {u U : State} {H : Heap} (hvm : u.vm.Alike U.vm) (h : vx_L C n d A u H) : vx_L C n d A U H := by
  obtain ⟨c, k, i, f, a, cell, h1, h2, h3, h4, h5, h6, h7, h8, h9, h10⟩ := h
  obtain ⟨k', hi', he⟩ := State.fieldFound?_setVm hvm h2
  exact ⟨c, k', i, f, a, cell, by rw [hvm.findClass]; exact h1, hi', h3, by rw [he]; exact h4, h5, h6, h7, h8, by rw [he]; exact h9, h10⟩
theorem vx_L.kept {C n d : String} {A : Nat → Prop} {U : State} {H H1 : Heap} (h : vx_L C n d A U H) (hq : ∀ a : Nat, a < H.size → ¬ A a → H1[a]? = H[a]?) : vx_L C n d A U H1 := by
  obtain ⟨c, k, i, f, a, cell, h1, h2, h3, h4, h5, h6, h7, h8, h9, h10⟩ := h
  exact ⟨c, k, i, f, a, cell, h1, h2, h3, h4, by rw [hq a (Array.getElem?_eq_some_iff.mp h5).1 h10]; exact h5, h6, h7, h8, h9, h10⟩
theorem vx_L.narrow {C n d : String} {A B : Nat → Prop} {U : State} {H : Heap} (h : vx_L C n d A U H) (hAB : ∀ q, B q → A q) : vx_L C n d B U H := by
  obtain ⟨c, k, i, f, a, cell, h1, h2, h3, h4, h5, h6, h7, h8, h9, h10⟩ := h
  exact ⟨c, k, i, f, a, cell, h1, h2, h3, h4, h5, h6, h7, h8, h9, fun z => h10 (hAB _ z)⟩
theorem vx_L.word {C n d : String} {A : Nat → Prop} {s : State} {args : Array Value} (h : vx_L C n d A s s.heap) : (Cond.laysStatic C n d).before args s = true := by
  obtain ⟨c, k, i, f, a, cell, h1, h2, h3, h4, h5, h6, h7, h8, h9, -⟩ := h
  show (Cond.laysStatic C n d).holds args s none s [] = true
  exact Cond.laysStatic_of h1 h2 h3 h4 h5 h6 h7 h8 h9
/-- .. and what it holds: null or some reference -/
def vx_Zq (C n d : String) (A : Nat → Prop) (U : State) (H : Heap) : Prop := va_Zq C n d A U H ∧ vx_L C n d A U H
theorem vx_Zq.moved {C n d : String} {A : Nat → Prop} {u U : State} {H : Heap} (hvm : u.vm.Alike U.vm) (h : vx_Zq C n d A u H) : vx_Zq C n d A U H := ⟨va_Zq.moved hvm h.1, vx_L.moved hvm h.2⟩
theorem vx_Zq.kept {C n d : String} {A : Nat → Prop} {U : State} {H H1 : Heap} (h : vx_Zq C n d A U H) (hq : ∀ a : Nat, a < H.size → ¬ A a → H1[a]? = H[a]?) : vx_Zq C n d A U H1 := ⟨va_Zq.kept h.1 hq, vx_L.kept h.2 hq⟩
theorem vx_Zq.narrow {C n d : String} {A B : Nat → Prop} {U : State} {H : Heap} (h : vx_Zq C n d A U H) (hAB : ∀ q, B q → A q) : vx_Zq C n d B U H := ⟨va_Zq.narrow h.1 hAB, vx_L.narrow h.2 hAB⟩
theorem vx_Zqof {args : Array Value} {s : State} {C n d : String} {A : Nat → Prop} (hl : (Cond.laysStatic C n d).before args s = true) (hini : (Cond.initialized C).before args s = true) (h : (Cond.isRef (.static C n d)).before args s = true) (hA : ∀ a : Nat, a < s.heap.size → ¬ A a) : vx_Zq C n d A s s.heap := by
  refine ⟨va_Zqof hl hini h hA, ?_⟩
  obtain ⟨c, k, i, f, a, cell, h1, h2, h3, h4, h5, h6, h7, h8, h9⟩ := Cond.laysStatic_spec hl
  exact ⟨c, k, i, f, a, cell, h1, h2, h3, h4, h5, h6, h7, h8, h9, hA a (Array.getElem?_eq_some_iff.mp h5).1⟩
theorem vx_isRef {C n d : String} {v : Value} {A : Nat → Prop} {s : State} {args : Array Value} (h : va_Z C n d v A s s.heap) (hv : v.isRef = true) : (Cond.isRef (.static C n d)).before args s = true := by
  obtain ⟨cf, kf, fi, f, a, cell, h1, h2, h3, h4, h5, h6, h7, -⟩ := h
  have he : (Term.static C n d).eval args s none [] s = some v := by
    simp [Term.eval, State.fieldNamed?, h1, h2, h4, h5, h6, h7]
  simp only [Cond.before, Cond.holds, Cond.value, he]
  cases v <;> simp_all [Value.isRef]
theorem vx_isRefq {C n d : String} {A : Nat → Prop} {s : State} {args : Array Value} (h : va_Zq C n d A s s.heap) : (Cond.isRef (.static C n d)).before args s = true := by
  rcases h with h | ⟨t, h⟩
  · exact vx_isRef h rfl
  · exact vx_isRef h rfl
/-- the same frame, seen from here: as if the method were called anew in this heap -/
theorem vx_rebase {T : State} (X : Stand p l e R s m args below meth c T locs cells slots) {R' : Room} (hf : R'.frames ≤ R.frames) (hl : R'.locals ≤ R.locals) (hc : cells + R'.cells ≤ R.cells) (hs : slots + R'.slots ≤ R.slots) :
    Stand p l e R' ((T.setVm s.vm).setFrames (.invoking m args :: below)) m args below meth c T [] 0 0 := by
  have htop : (T.setVm s.vm).topJava?.isSome := X.here.top
  have hF : ((T.setVm s.vm).setFrames (.invoking m args :: below)).frames = .invoking m args :: below := State.frames_setFrames _ (State.cur_lt_of_top htop)
  obtain ⟨g₀, hg0⟩ := Option.isSome_iff_exists.mp htop
  obtain ⟨r, hr⟩ := State.topJava?_eq_some.mp hg0
  have hl9 : e.platform.stackLimits (T.setVm s.vm).me = e.platform.stackLimits s.me := X.limits
  have hb9 : (T.setVm s.vm).me.stackBytes = s.me.stackBytes := X.bytes
  refine ⟨X.admits, X.cas, X.clock, hF, ?_, X.hears, X.method, X.code, X.here, X.tail, X.warmed, ?_, ?_, ?_⟩
  · have h := X.room
    have hU : ((T.setVm s.vm).setFrames (.invoking m args :: below)).localsInUse = s.localsInUse := by
      rw [State.localsInUse_invoking hF (meth := meth) (c := c) X.method X.code, State.localsInUse_invoking X.frames X.method X.code]
    simp only [State.hasRoom, Bool.and_eq_true, decide_eq_true_eq] at h ⊢
    obtain ⟨⟨⟨⟨h1, h2, h3, h4, h5, h6⟩, h7⟩, h8⟩, h9⟩ := h
    rw [X.frames, List.length_cons] at h2 h3
    have q1 := X.heapSize
    have q2 := X.used
    simp only [hF, hU, List.length_cons, State.stackLimits_setFrames, State.stackBytes_setFrames, hl9, hb9]
    refine ⟨⟨⟨⟨by omega, by omega, by omega, by omega, by omega, h6⟩, ?_⟩, ?_⟩, X.book⟩
    · show T.heap.size + R'.cells ≤ e.platform.maxCells
      omega
    · show T.slotsUsed + R'.slots ≤ e.platform.maxSlots
      omega
  · rw [State.stackLimits_setFrames]; rfl
  · rw [State.stackBytes_setFrames]; rfl
  · refine ⟨?_, Nat.le_refl _, Nat.le_refl _, ?_, ?_, fun a c9 h9 => ⟨c9, h9, rfl, rfl, fun _ _ => rfl⟩⟩
    · obtain ⟨t, ht, -⟩ := State.frames_cons hr
      show T.setVm s.vm = { ((T.setVm s.vm).setFrames (.invoking m args :: below)).setFrames (T.setVm s.vm).frames with heap := T.heap, slotsUsed := T.slotsUsed }
      rw [State.setFrames_setFrames, State.setFrames_self ht]
      rfl
    · show T.slotsUsed = T.slotsUsed + ((T.heap.toList.drop T.heap.size).map (·.slots.size)).sum
      rw [List.drop_eq_nil_of_le (Nat.le_of_eq Array.length_toList)]
      rfl
    · show ((T.heap.toList.drop T.heap.size).map (·.slots.size)).sum ≤ 0
      rw [List.drop_eq_nil_of_le (Nat.le_of_eq Array.length_toList)]
      exact Nat.le_refl _
/-- 'throw new E()': new; dup; invokespecial; athrow -/
theorem vx_throw0 {cc : ByteArray} {pc : Nat} (hexec : p.tables.exec = Jvm.exec) (hb : c.code = cc) (hl : l.stackTraces = false) {own cls : String} {names : List String} {ik ic mc ms mx sx : Nat} {A : Nat → Prop}
    (hown : s.vm.findClass own = some m.cls) (hcls : Bundle.fit cls = true) (hnames : ∀ n ∈ names, Bundle.fit n = true)
    (hk : (Cond.classLink own ik cls).before args s = true) (hini : (Cond.initialized cls).before args s = true) (hat : ∀ w ∈ vx_at0 own ic cls names, w.before args s = true)
    (hgood : ∀ w ∈ Cond.classLink own ik cls :: Cond.initialized cls :: vx_at0 own ic cls names, vx_ot w = true)
    (hU : vx_Zq Bundle.tN "UNASSIGNED_STACK" Bundle.steD A s s.heap) (hN : vx_Zq Bundle.tN "SUPPRESSED_SENTINEL" Bundle.listD A s s.heap) (hS : va_S A s.heap H locs) (hsize : ls.size = c.maxLocals)
    (d0 : decode cc pc = .ok (.new ik, 3)) (d3 : decode cc (pc + 3) = .ok (.dup, 1)) (d4 : decode cc (pc + 4) = .ok (.invokespecial ic, 3)) (d7 : decode cc (pc + 7) = .ok (.athrow, 1))
    (hout : ∀ x ∈ c.exceptionTable.toList, covers x (pc + 7) = false)
    (hRframes : names.length + 3 < R.frames) (hRlocals : (rest.map fun v => v.category).sum + (13 * (names.length + 1) + 42) ≤ R.locals) (hRcells : cells + 1 ≤ R.cells) (hRslots : slots + 6 ≤ R.slots) (hlocks : meth.locks = false)
    (hx : ∀ t : State, s.vm.Alike t.vm → H.size ≤ t.heap.size → (∀ q : Nat, q < H.size → t.heap[q]? = H[q]?) → XC cls s t)
    (hf : ∀ z ∈ locs, free z.base) (hc : cells + 1 ≤ mx) (hs : slots + 6 ≤ sx) :
    W p l e R s m args below meth c H locs cells slots (vx_MQ below Qc XC args s mc ms mx sx free) (F0 m pc ls rest) := by
  intro T hT X
  have htr : e.platform.stackTraces = false := (show e.platform.stackTraces = l.stackTraces by rw [X.admits.platform]).trans hl
  have Y := vx_rebase X (R' := { frames := R.frames, locals := R.locals, cells := 1, slots := 6 }) (Nat.le_refl _) (Nat.le_refl _) hRcells hRslots
  obtain ⟨s', hA⟩ : ∃ z, z = (T.setVm s.vm).setFrames (.invoking m args :: below) := ⟨_, rfl⟩
  rw [← hA] at Y
  have hvm : s'.vm = s.vm := by rw [hA]; rfl
  have hhp : s'.heap = H := by rw [hA]; exact hT
  have hW0 : s.WarmedH s'.vm := by rw [hvm]; exact State.WarmedH.refl s
  have hat' : ∀ w ∈ vx_at0 own ic cls names, w.before args s' = true := fun w hw => vx_ot_at hW0 hvm.symm (hgood w (List.mem_cons_of_mem _ (List.mem_cons_of_mem _ hw))) (hat w hw)
  have hk' : (Cond.classLink own ik cls).before args s' = true := vx_ot_at hW0 hvm.symm (hgood _ List.mem_cons_self) hk
  have hini' : (Cond.initialized cls).before args s' = true := vx_ot_at hW0 hvm.symm (hgood _ (List.mem_cons_of_mem _ List.mem_cons_self)) hini
  have hU' : vx_Zq Bundle.tN "UNASSIGNED_STACK" Bundle.steD A s' s'.heap := by rw [hhp]; exact vx_Zq.moved hW0.alike (hU.kept hS.2.1)
  have hN' : vx_Zq Bundle.tN "SUPPRESSED_SENTINEL" Bundle.listD A s' s'.heap := by rw [hhp]; exact vx_Zq.moved hW0.alike (hN.kept hS.2.1)
  have h : ∀ w ∈ Bundle.ownAtoms0 own ic cls names, w.before args s' = true := vx_own hat' (vx_isRefq hU'.1) (vx_isRefq hN'.1) hU'.2.word hN'.2.word
  have hown' : s'.vm.findClass own = some m.cls := by rw [hvm]; exact hown
  have hins : (Cond.instantiable cls 6).before args s' = true := h _ (by simp [Bundle.ownAtoms0])
  obtain ⟨vm₁, cX, kX, hfX, hkX, -, -, X₁, st1⟩ := Y.newCold hexec (own := own) (C := cls) (index := ik) (n := 6) hown' hk' hins hini'
    (g := F0 m pc ls rest) rfl (by rw [hb]; exact d0) (Nat.le_refl _) (Nat.le_refl _)
  generalize hT1 : (T.setVm vm₁).pushCell { cls := cX, slots := kX.instanceTypes.map defaultValue, vm := .none } = T1 at X₁ st1
  have hcat : (Value.ref T.heap.size).category = 1 := rfl
  have hcellA : T1.heap[T.heap.size]? = some (freshCell cX kX) := by rw [← hT1]; exact State.heap_pushCell_size _ _
  have d3' : decode c.code (pc + 3) = .ok (.dup, 1) := by rw [hb]; exact d3
  obtain ⟨U, hsteps, hrun, hend, hW, hsame, ce, hce, hO⟩ := X₁.ctorThrow0 hexec htr (own := own) (cls := cls) (names := names) (ic := ic) hown' hcls hnames h (fun x hx => nomatch hx) hfX hkX hcellA (by rw [hhp, hT]; exact Nat.le_refl _)
    (g := { method := m, pc := pc + 4, locals := ls, stack := .ref T.heap.size :: .ref T.heap.size :: rest, locked := none }) rfl hsize rfl rfl (rest := rest) rfl
    (by rw [hb]; exact d4) (by rw [hb]; exact d7) hout hRframes (by simp only [List.map_cons, List.sum_cons, hcat]; omega) hlocks
  obtain ⟨f1, f2⟩ := vx_frame hsame
  rw [hhp] at f1 f2
  have hWs : s.WarmedH U.vm := State.WarmedH.trans hW0 hW
  have hcl : s.vm.findClass cls = some ce.cls := by
    have h9 := hO.cls
    rw [hvm] at h9
    exact h9
  have hall : s.sameButNew ({ U with vm := s.vm } : State) locs mx sx := by
    subst hA
    obtain ⟨e1, e2⟩ := hsame
    rw [State.setFrames_setFrames] at e1
    have h2 : (T.setVm s.vm).sameButNew ({ U with vm := s.vm } : State) [] (0 + 1) (0 + 6) := ⟨e1, e2⟩
    have h3 := X.same.trans h2
    rw [List.append_nil] at h3
    exact h3.mono hc hs
  refine ⟨U, ?_, .threw T.heap.size, hrun, hend, Or.inr ⟨T.heap.size, rfl, cls, ce, locs, hx U hWs.alike f1 (fun q hq => f2 q hq (fun z hz => nomatch hz)), hce, hO.vm, hcl, hWs, hall, hf⟩⟩
  refine st1 _ ?_
  show Steps p.tables e below (T1.setTop { method := m, pc := pc + 3, locals := ls, stack := .ref T.heap.size :: rest, locked := none }) _
  jvm_step X₁.here [X₁.here.top, hexec, d3', Value.category]
  exact hsteps
/-- 'throw new E("text")': new; dup; ldc; invokespecial; athrow -/
theorem vx_throwS {cc : ByteArray} {pc : Nat} (hexec : p.tables.exec = Jvm.exec) (hb : c.code = cc) (hl : l.stackTraces = false) {own cls text : String} {names : List String} {ik is ic mc ms mx sx sa : Nat} {A : Nat → Prop}
    (hown : s.vm.findClass own = some m.cls) (hcls : Bundle.fit cls = true) (hnames : ∀ n ∈ names, Bundle.fit n = true)
    (hk : (Cond.classLink own ik cls).before args s = true) (hini : (Cond.initialized cls).before args s = true) (hstr : vk_R own is text sa s) (hat : ∀ w ∈ vx_atS own ic cls names, w.before args s = true)
    (hgood : ∀ w ∈ Cond.classLink own ik cls :: Cond.initialized cls :: vx_atS own ic cls names, vx_ot w = true)
    (hU : vx_Zq Bundle.tN "UNASSIGNED_STACK" Bundle.steD A s s.heap) (hN : vx_Zq Bundle.tN "SUPPRESSED_SENTINEL" Bundle.listD A s s.heap) (hS : va_S A s.heap H locs) (hsize : ls.size = c.maxLocals)
    (d0 : decode cc pc = .ok (.new ik, 3)) (d3 : decode cc (pc + 3) = .ok (.dup, 1)) (d4 : decode cc (pc + 4) = .ok (.ldc is, 2)) (d6 : decode cc (pc + 6) = .ok (.invokespecial ic, 3)) (d9 : decode cc (pc + 9) = .ok (.athrow, 1))
    (hout : ∀ x ∈ c.exceptionTable.toList, covers x (pc + 9) = false)
    (hRframes : names.length + 3 < R.frames) (hRlocals : (rest.map fun v => v.category).sum + (13 * (names.length + 1) + 43) ≤ R.locals) (hRcells : cells + 1 ≤ R.cells) (hRslots : slots + 6 ≤ R.slots) (hlocks : meth.locks = false)
    (hx : ∀ t : State, s.vm.Alike t.vm → H.size ≤ t.heap.size → (∀ q : Nat, q < H.size → t.heap[q]? = H[q]?) → XC cls s t)
    (hf : ∀ z ∈ locs, free z.base) (hc : cells + 1 ≤ mx) (hs : slots + 6 ≤ sx) :
    W p l e R s m args below meth c H locs cells slots (vx_MQ below Qc XC args s mc ms mx sx free) (F0 m pc ls rest) := by
  intro T hT X
  have htr : e.platform.stackTraces = false := (show e.platform.stackTraces = l.stackTraces by rw [X.admits.platform]).trans hl
  have Y := vx_rebase X (R' := { frames := R.frames, locals := R.locals, cells := 1, slots := 6 }) (Nat.le_refl _) (Nat.le_refl _) hRcells hRslots
  obtain ⟨s', hA⟩ : ∃ z, z = (T.setVm s.vm).setFrames (.invoking m args :: below) := ⟨_, rfl⟩
  rw [← hA] at Y
  have hvm : s'.vm = s.vm := by rw [hA]; rfl
  have hhp : s'.heap = H := by rw [hA]; exact hT
  have hW0 : s.WarmedH s'.vm := by rw [hvm]; exact State.WarmedH.refl s
  have hat' : ∀ w ∈ vx_atS own ic cls names, w.before args s' = true := fun w hw => vx_ot_at hW0 hvm.symm (hgood w (List.mem_cons_of_mem _ (List.mem_cons_of_mem _ hw))) (hat w hw)
  have hk' : (Cond.classLink own ik cls).before args s' = true := vx_ot_at hW0 hvm.symm (hgood _ List.mem_cons_self) hk
  have hini' : (Cond.initialized cls).before args s' = true := vx_ot_at hW0 hvm.symm (hgood _ (List.mem_cons_of_mem _ List.mem_cons_self)) hini
  have hU' : vx_Zq Bundle.tN "UNASSIGNED_STACK" Bundle.steD A s' s'.heap := by rw [hhp]; exact vx_Zq.moved hW0.alike (hU.kept hS.2.1)
  have hN' : vx_Zq Bundle.tN "SUPPRESSED_SENTINEL" Bundle.listD A s' s'.heap := by rw [hhp]; exact vx_Zq.moved hW0.alike (hN.kept hS.2.1)
  have h : ∀ w ∈ Bundle.ownAtoms own ic cls names, w.before args s' = true := vx_own hat' (vx_isRefq hU'.1) (vx_isRefq hN'.1) hU'.2.word hN'.2.word
  have hown' : s'.vm.findClass own = some m.cls := by rw [hvm]; exact hown
  have hins : (Cond.instantiable cls 6).before args s' = true := h _ (by simp [Bundle.ownAtoms])
  obtain ⟨vm₁, cX, kX, hfX, hkX, -, -, X₁, st1⟩ := Y.newCold hexec (own := own) (C := cls) (index := ik) (n := 6) hown' hk' hins hini'
    (g := F0 m pc ls rest) rfl (by rw [hb]; exact d0) (Nat.le_refl _) (Nat.le_refl _)
  generalize hT1 : (T.setVm vm₁).pushCell { cls := cX, slots := kX.instanceTypes.map defaultValue, vm := .none } = T1 at X₁ st1
  have hcat : (Value.ref T.heap.size).category = 1 := rfl
  have hcellA : T1.heap[T.heap.size]? = some (freshCell cX kX) := by rw [← hT1]; exact State.heap_pushCell_size _ _
  have d3' : decode c.code (pc + 3) = .ok (.dup, 1) := by rw [hb]; exact d3
  have d4' : decode c.code (pc + 4) = .ok (.ldc is, 2) := by rw [hb]; exact d4
  have hstr' : vk_R own is text sa s' := vk_R.warm hW0 hstr
  obtain ⟨U, hsteps, hrun, hend, hW, hsame, ce, hce, hO⟩ := X₁.ctorThrowS hexec htr (own := own) (cls := cls) (names := names) (ic := ic) hown' hcls hnames h (fun x hx => nomatch hx) hfX hkX hcellA (by rw [hhp, hT]; exact Nat.le_refl _) (msg := .ref sa) rfl
    (g := { method := m, pc := pc + 6, locals := ls, stack := .ref sa :: .ref T.heap.size :: .ref T.heap.size :: rest, locked := none }) rfl hsize rfl rfl (rest := rest) rfl
    (by rw [hb]; exact d6) (by rw [hb]; exact d9) hout hRframes (by simp only [List.map_cons, List.sum_cons, hcat]; omega) hlocks
  obtain ⟨f1, f2⟩ := vx_frame hsame
  rw [hhp] at f1 f2
  have hWs : s.WarmedH U.vm := State.WarmedH.trans hW0 hW
  have hcl : s.vm.findClass cls = some ce.cls := by
    have h9 := hO.cls
    rw [hvm] at h9
    exact h9
  have hall : s.sameButNew ({ U with vm := s.vm } : State) locs mx sx := by
    subst hA
    obtain ⟨e1, e2⟩ := hsame
    rw [State.setFrames_setFrames] at e1
    have h2 : (T.setVm s.vm).sameButNew ({ U with vm := s.vm } : State) [] (0 + 1) (0 + 6) := ⟨e1, e2⟩
    have h3 := X.same.trans h2
    rw [List.append_nil] at h3
    exact h3.mono hc hs
  refine ⟨U, ?_, .threw T.heap.size, hrun, hend, Or.inr ⟨T.heap.size, rfl, cls, ce, locs, hx U hWs.alike f1 (fun q hq => f2 q hq (fun z hz => nomatch hz)), hce, hO.vm, hcl, hWs, hall, hf⟩⟩
  refine st1 _ ?_
  show Steps p.tables e below (T1.setTop { method := m, pc := pc + 3, locals := ls, stack := .ref T.heap.size :: rest, locked := none }) _
  jvm_step X₁.here [X₁.here.top, hexec, d3', Value.category]
  exact X₁.ldcString hexec (own := own) (text := text) (index := is) (a := sa) hown' hstr'.1 hstr'.2
    (g := { method := m, pc := pc + 4, locals := ls, stack := .ref T.heap.size :: .ref T.heap.size :: rest, locked := none }) rfl d4' _ hsteps
/-- 'throw new E("text")', the text by a wide index -/
theorem vx_throwSW {cc : ByteArray} {pc : Nat} (hexec : p.tables.exec = Jvm.exec) (hb : c.code = cc) (hl : l.stackTraces = false) {own cls text : String} {names : List String} {ik is ic mc ms mx sx sa : Nat} {A : Nat → Prop}
    (hown : s.vm.findClass own = some m.cls) (hcls : Bundle.fit cls = true) (hnames : ∀ n ∈ names, Bundle.fit n = true)
    (hk : (Cond.classLink own ik cls).before args s = true) (hini : (Cond.initialized cls).before args s = true) (hstr : vk_R own is text sa s) (hat : ∀ w ∈ vx_atS own ic cls names, w.before args s = true)
    (hgood : ∀ w ∈ Cond.classLink own ik cls :: Cond.initialized cls :: vx_atS own ic cls names, vx_ot w = true)
    (hU : vx_Zq Bundle.tN "UNASSIGNED_STACK" Bundle.steD A s s.heap) (hN : vx_Zq Bundle.tN "SUPPRESSED_SENTINEL" Bundle.listD A s s.heap) (hS : va_S A s.heap H locs) (hsize : ls.size = c.maxLocals)
    (d0 : decode cc pc = .ok (.new ik, 3)) (d3 : decode cc (pc + 3) = .ok (.dup, 1)) (d4 : decode cc (pc + 4) = .ok (.ldc_w is, 3)) (d7 : decode cc (pc + 7) = .ok (.invokespecial ic, 3)) (d10 : decode cc (pc + 10) = .ok (.athrow, 1))
    (hout : ∀ x ∈ c.exceptionTable.toList, covers x (pc + 10) = false)
    (hRframes : names.length + 3 < R.frames) (hRlocals : (rest.map fun v => v.category).sum + (13 * (names.length + 1) + 43) ≤ R.locals) (hRcells : cells + 1 ≤ R.cells) (hRslots : slots + 6 ≤ R.slots) (hlocks : meth.locks = false)
    (hx : ∀ t : State, s.vm.Alike t.vm → H.size ≤ t.heap.size → (∀ q : Nat, q < H.size → t.heap[q]? = H[q]?) → XC cls s t)
    (hf : ∀ z ∈ locs, free z.base) (hc : cells + 1 ≤ mx) (hs : slots + 6 ≤ sx) :
    W p l e R s m args below meth c H locs cells slots (vx_MQ below Qc XC args s mc ms mx sx free) (F0 m pc ls rest) := by
  intro T hT X
  have htr : e.platform.stackTraces = false := (show e.platform.stackTraces = l.stackTraces by rw [X.admits.platform]).trans hl
  have Y := vx_rebase X (R' := { frames := R.frames, locals := R.locals, cells := 1, slots := 6 }) (Nat.le_refl _) (Nat.le_refl _) hRcells hRslots
  obtain ⟨s', hA⟩ : ∃ z, z = (T.setVm s.vm).setFrames (.invoking m args :: below) := ⟨_, rfl⟩
  rw [← hA] at Y
  have hvm : s'.vm = s.vm := by rw [hA]; rfl
  have hhp : s'.heap = H := by rw [hA]; exact hT
  have hW0 : s.WarmedH s'.vm := by rw [hvm]; exact State.WarmedH.refl s
  have hat' : ∀ w ∈ vx_atS own ic cls names, w.before args s' = true := fun w hw => vx_ot_at hW0 hvm.symm (hgood w (List.mem_cons_of_mem _ (List.mem_cons_of_mem _ hw))) (hat w hw)
  have hk' : (Cond.classLink own ik cls).before args s' = true := vx_ot_at hW0 hvm.symm (hgood _ List.mem_cons_self) hk
  have hini' : (Cond.initialized cls).before args s' = true := vx_ot_at hW0 hvm.symm (hgood _ (List.mem_cons_of_mem _ List.mem_cons_self)) hini
  have hU' : vx_Zq Bundle.tN "UNASSIGNED_STACK" Bundle.steD A s' s'.heap := by rw [hhp]; exact vx_Zq.moved hW0.alike (hU.kept hS.2.1)
  have hN' : vx_Zq Bundle.tN "SUPPRESSED_SENTINEL" Bundle.listD A s' s'.heap := by rw [hhp]; exact vx_Zq.moved hW0.alike (hN.kept hS.2.1)
  have h : ∀ w ∈ Bundle.ownAtoms own ic cls names, w.before args s' = true := vx_own hat' (vx_isRefq hU'.1) (vx_isRefq hN'.1) hU'.2.word hN'.2.word
  have hown' : s'.vm.findClass own = some m.cls := by rw [hvm]; exact hown
  have hins : (Cond.instantiable cls 6).before args s' = true := h _ (by simp [Bundle.ownAtoms])
  obtain ⟨vm₁, cX, kX, hfX, hkX, -, -, X₁, st1⟩ := Y.newCold hexec (own := own) (C := cls) (index := ik) (n := 6) hown' hk' hins hini'
    (g := F0 m pc ls rest) rfl (by rw [hb]; exact d0) (Nat.le_refl _) (Nat.le_refl _)
  generalize hT1 : (T.setVm vm₁).pushCell { cls := cX, slots := kX.instanceTypes.map defaultValue, vm := .none } = T1 at X₁ st1
  have hcat : (Value.ref T.heap.size).category = 1 := rfl
  have hcellA : T1.heap[T.heap.size]? = some (freshCell cX kX) := by rw [← hT1]; exact State.heap_pushCell_size _ _
  have d3' : decode c.code (pc + 3) = .ok (.dup, 1) := by rw [hb]; exact d3
  have d4' : decode c.code (pc + 4) = .ok (.ldc_w is, 3) := by rw [hb]; exact d4
  have hstr' : vk_R own is text sa s' := vk_R.warm hW0 hstr
  obtain ⟨U, hsteps, hrun, hend, hW, hsame, ce, hce, hO⟩ := X₁.ctorThrowS hexec htr (own := own) (cls := cls) (names := names) (ic := ic) hown' hcls hnames h (fun x hx => nomatch hx) hfX hkX hcellA (by rw [hhp, hT]; exact Nat.le_refl _) (msg := .ref sa) rfl
    (g := { method := m, pc := pc + 7, locals := ls, stack := .ref sa :: .ref T.heap.size :: .ref T.heap.size :: rest, locked := none }) rfl hsize rfl rfl (rest := rest) rfl
    (by rw [hb]; exact d7) (by rw [hb]; exact d10) hout hRframes (by simp only [List.map_cons, List.sum_cons, hcat]; omega) hlocks
  obtain ⟨f1, f2⟩ := vx_frame hsame
  rw [hhp] at f1 f2
  have hWs : s.WarmedH U.vm := State.WarmedH.trans hW0 hW
  have hcl : s.vm.findClass cls = some ce.cls := by
    have h9 := hO.cls
    rw [hvm] at h9
    exact h9
  have hall : s.sameButNew ({ U with vm := s.vm } : State) locs mx sx := by
    subst hA
    obtain ⟨e1, e2⟩ := hsame
    rw [State.setFrames_setFrames] at e1
    have h2 : (T.setVm s.vm).sameButNew ({ U with vm := s.vm } : State) [] (0 + 1) (0 + 6) := ⟨e1, e2⟩
    have h3 := X.same.trans h2
    rw [List.append_nil] at h3
    exact h3.mono hc hs
  refine ⟨U, ?_, .threw T.heap.size, hrun, hend, Or.inr ⟨T.heap.size, rfl, cls, ce, locs, hx U hWs.alike f1 (fun q hq => f2 q hq (fun z hz => nomatch hz)), hce, hO.vm, hcl, hWs, hall, hf⟩⟩
  refine st1 _ ?_
  show Steps p.tables e below (T1.setTop { method := m, pc := pc + 3, locals := ls, stack := .ref T.heap.size :: rest, locked := none }) _
  jvm_step X₁.here [X₁.here.top, hexec, d3', Value.category]
  exact X₁.ldcStringW hexec (own := own) (text := text) (index := is) (a := sa) hown' hstr'.1 hstr'.2
    (g := { method := m, pc := pc + 4, locals := ls, stack := .ref T.heap.size :: .ref T.heap.size :: rest, locked := none }) rfl d4' _ hsteps
end Ends
section Bodies
variable {l : Launch}
theorem vx_ofW {y : MethodName} {ws ws' : List Cond} {rm : Room} {Pc : Array Value → State → Prop} {Qc : Array Value → State → Outcome → State → Prop} {XC : String → State → State → Prop} {mc ms mx sx : Nat} {free : Addr → Prop} {cc : ByteArray} {maxL : Nat} {ret : Option FieldType}
    (hy : plainName y.cls = true) (hw : ws = Cond.code y cc maxL ret :: ws')
    (body : ∀ p e s m args below meth c s₁, BodyLoose p l y (headSpec ws rm) cc maxL ret e s m args below meth c s₁ → c.maxLocals = maxL → (∀ x ∈ c.exceptionTable.toList, False) → Pc args s →
      W p l e (headSpec ws rm).room s m args below meth c s.heap [] 0 0 (vx_MQ below Qc XC args s mc ms mx sx free) (entryFrame m args maxL)) : vx_Met l y ws rm Pc Qc XC mc ms mx sx free := by
  refine MetFree.of_bodyS (code := cc) (maxLocals := maxL) (ret := ret) hy ?_ ?_
  · intro args s m h hn
    obtain ⟨meth, c, h1, h2, h3, h4, h5, h6, -, -⟩ := Cond.code_spec hn (atoms_spec (ws := ws) h _ (by rw [hw]; exact List.mem_cons_self))
    exact ⟨meth, c, h1, h2, h3, h4, h5, h6⟩
  · intro p e s m args below meth c s₁ B hml hP _
    have hh0 : s₁.heap = s.heap := by rw [B.state]; rfl
    have ht : ∀ x ∈ c.exceptionTable.toList, False := by
      obtain ⟨meth9, c9, h1, h2, -, -, -, -, h7, -⟩ := Cond.code_spec B.named (atoms_spec (ws := ws) B.pre _ (by rw [hw]; exact List.mem_cons_self))
      cases Option.some.inj (h1.symm.trans B.method)
      cases Option.some.inj (h2.symm.trans (Stand.of_body B).code)
      intro x hx
      rw [Array.isEmpty_iff.mp h7] at hx
      cases hx
    obtain ⟨t, a1, o, b1, b2, b3⟩ := body p e s m args below meth c s₁ B hml ht hP s₁ hh0 (Stand.of_body B)
    exact ⟨t, o, a1, b1, b2, b3⟩
/-- the table of a body with handlers -/
theorem vx_table {p : Program} {x y : MethodName} {S : Spec} {cc bytes : ByteArray} {maxL maxL' : Nat} {ret ret' : Option FieldType} {e : Env} {s s₁ : State} {m : MethodId} {args : Array Value} {below : List Frame} {meth : Method} {c : Code} {hh : List (Nat × Nat × Nat × Nat)}
    (B : BodyLoose p l y S cc maxL ret e s m args below meth c s₁) (h : (Cond.codeWith y bytes maxL' ret' hh).before args s = true) : c.exceptionTable.toList = tableOf hh := by
  obtain ⟨m9, meth9, c9, hn9, h1, h2, -, -, h6, -⟩ := Cond.codeWith_spec h
  cases Option.some.inj (hn9.symm.trans B.named)
  cases Option.some.inj (h1.symm.trans B.method)
  cases Option.some.inj (h2.symm.trans (Stand.of_body B).code)
  rw [← h6, table_eq]
end Bodies
end VXA
/-! ===== END ===== -/
/-! ===== BEGIN a static call of a method with an exception table ===== -/
section VXS
variable {p : Program} {l : Launch} {e : Env} {R : Room} {s : State} {m : MethodId} {args : Array Value} {below : List Frame} {meth : Method} {c : Code} {T : State} {H : Heap} {locs : List Loc} {cells slots : Nat}
abbrev vx_CSW (R : Room) (s : State) (args : Array Value) (own : String) (index : Nat) (y : MethodName) (bytes : ByteArray) (maxL : Nat) (ret : Option FieldType) (hh : List (Nat × Nat × Nat × Nat)) (ws : List Cond) (rm : Room) (mc ms n : Nat) : Prop :=
  (rm.cells = mc ∧ rm.slots = ms ∧ rm.frames + 1 ≤ R.frames ∧ 8 + (maxL + 11) + rm.locals ≤ R.locals ∧ (∀ w ∈ ws, ∀ (a' : Array Value) (U : State), s.WarmedH U.vm → w.before a' U = true) ∧ Cond.codeWith y bytes maxL ret hh ∈ ws) ∧
  (Cond.codeWith y bytes maxL ret hh).before args s = true ∧ (Cond.initialized y.cls).before args s = true ∧ (y.cls ≠ "java/lang/invoke/MethodHandle" ∧ y.cls ≠ "java/lang/invoke/VarHandle") ∧
  (∀ sig, parseMethodDescriptor y.desc = some sig → n = sig.parameters.length) ∧ (Cond.methodLink own index y).before args s = true ∧ (Cond.static y).before args s = true
theorem vx_cwSW {own : String} {index maxL mc ms : Nat} {y : MethodName} {bytes : ByteArray} {ret : Option FieldType} {hh : List (Nat × Nat × Nat × Nat)} {Ts ws ws' : List Cond} {rm : Room} (n : Nat) (ht : ∀ w ∈ Ts, w.before args s = true) (hT : GoodIn Ts (va_wsS own index y ws)) (hw : ws = Cond.codeWith y bytes maxL ret hh :: ws') (hrc : rm.cells = mc) (hrs : rm.slots = ms)
    (hd : y.cls ≠ "java/lang/invoke/MethodHandle" ∧ y.cls ≠ "java/lang/invoke/VarHandle" ∧ (parseMethodDescriptor y.desc).map (fun d => d.parameters.length) = some n) (hR : rm.frames + 1 ≤ R.frames ∧ 8 + (maxL + 11) + rm.locals ≤ R.locals) :
    vx_CSW R s args own index y bytes maxL ret hh ws rm mc ms n := by
  have ok : ∀ w ∈ va_wsS own index y ws, w.before args s = true := fun w h => ht w (hT w h).1
  have hG : GoodIn Ts ws := fun w h => hT w (by unfold va_wsS; exact List.mem_append_right _ h)
  have hc : Cond.codeWith y bytes maxL ret hh ∈ ws := by rw [hw]; exact List.mem_cons_self
  refine ⟨⟨hrc, hrs, hR.1, hR.2, pay_in ht hG, hc⟩, ht _ (hG _ hc).1, ok _ (by simp [va_wsS]), ⟨hd.1, hd.2.1⟩, fun sig h => ?_, ok _ (by simp [va_wsS]), ok _ (by simp [va_wsS])⟩
  have h2 := hd.2.2
  rw [h] at h2
  exact (Option.some.inj h2).symm
theorem vx_callSW (X : Stand p l e R s m args below meth c T locs cells slots) (hexec : p.tables.exec = Jvm.exec) {own : String} {index : Nat} {y : MethodName} {bytes : ByteArray} {maxL : Nat} {ret : Option FieldType} {hh : List (Nat × Nat × Nat × Nat)}
    (hown : s.vm.findClass own = some m.cls) (hlink : (Cond.methodLink own index y).before args s = true) (hstat : (Cond.static y).before args s = true) (hinit : (Cond.initialized y.cls).before args s = true)
    (hcode : (Cond.codeWith y bytes maxL ret hh).before args s = true) (hy : y.cls ≠ "java/lang/invoke/MethodHandle" ∧ y.cls ≠ "java/lang/invoke/VarHandle")
    {W9 : Nat} {Pre : Pt → Array Value → Prop} {Post : Pt → Array Value → Option Value → Pt → Prop} (hK : Back l R p e below s args y 3 W9 Pre Post)
    {g : JFrame} (hg : g.method = m) (hsize : g.locals.size = c.maxLocals) {argsL rest : List Value} (hlen : ∀ sig, parseMethodDescriptor y.desc = some sig → argsL.length = sig.parameters.length)
    (hstack : g.stack = argsL.reverse ++ rest) (hW : 2 * g.monitorRoom + (rest.map fun v => v.category).sum ≤ W9) (hdg : decode c.code g.pc = .ok (.invokestatic index, 3))
    (hpre : ∀ vm₁, s.WarmedH vm₁ → Pre ⟨T.setVm vm₁, locs, cells, slots⟩ argsL.toArray) :
    ∃ (v : Option Value) (vm₁ : Vm) (B : Pt), s.WarmedH vm₁ ∧ Stand p l e R s m args below meth c B.U B.locs B.cells B.slots ∧ Post ⟨T.setVm vm₁, locs, cells, slots⟩ argsL.toArray v B ∧
      ∀ target, Steps p.tables e below (B.U.setTop { g with pc := g.pc + 3, stack := v.toList ++ rest }) target → Steps p.tables e below (T.setTop g) target := by
  obtain ⟨mk, methM, cM, hnamed, hmethM, -, -, -, -, -, -, hsigM⟩ := Cond.codeWith_spec hcode
  have hstatic : methM.isStatic = true := Cond.static_spec hnamed hmethM hstat
  obtain ⟨kP, hkP, -⟩ := className_of_methodNamed hnamed
  have hinitP : kP.init = .initialized := Cond.initialized_spec (findClass_of_methodNamed hnamed) hkP hinit
  obtain ⟨vm₁, X₁, hstep₁⟩ := X.invokestatic hexec hown hlink hnamed hmethM hstatic hkP hinitP hy (g := g) hg (argsL := argsL) (rest := rest) (hlen _ hsigM) hstack hdg
  obtain ⟨v, B, X', hpost, hsteps⟩ := hK m meth c ⟨T.setVm vm₁, locs, cells, slots⟩ { g with stack := rest } (.invokestatic index) mk argsL.toArray X₁ hg hsize hdg hW (X₁.named hnamed) (hpre vm₁ X₁.warmed)
  exact ⟨v, vm₁, B, X₁.warmed, X', hpost, fun target h => hstep₁ _ fun acts => by rw [doInvoke_state]; exact hsteps.trans h⟩
theorem vx_runSW {y : MethodName} {bytes cc : ByteArray} {maxL nL mc ms n index : Nat} {ret : Option FieldType} {hh : List (Nat × Nat × Nat × Nat)} {ws : List Cond} {rm : Room} {Pc : Array Value → State → Prop} {Qc : Array Value → State → Outcome → State → Prop} {free : Addr → Prop} {Ts : List Cond} {own : String} {As rest : List Value} {g : JFrame}
    (S : CallFix p m c cc nL s args Ts own) (hM : Met l y ws rm Pc Qc mc ms free) (cw : vx_CSW R s args own index y bytes maxL ret hh ws rm mc ms n) (hp : PreS s H Pc As)
    (hg : g.method = m) (hn : As.length = n) (hsize : g.locals.size = nL) (hstack : g.stack = As.reverse ++ rest) (hW : 2 * g.monitorRoom + (rest.map fun v => v.category).sum ≤ 8) (hdg : decode cc g.pc = .ok (.invokestatic index, 3)) (hf : cells + mc ≤ R.cells ∧ slots + ms ≤ R.slots) :
    va_Run p l e R s m args below meth c H locs cells slots mc ms g rest (Qc As.toArray) (free) := by
  obtain ⟨⟨hrc, hrs, hfr, hlo, hws, hcw⟩, hcode, hini, hy, hlen, hl, hstt⟩ := cw
  have hK : Back l R p e below s args y 3 8 (PreOf R mc ms Pc) (PostOf Qc mc ms free) := va_backW (hh := hh) (bytes := bytes) (maxL := maxL) (ret := ret) hM hp.1 hrc hrs hfr hlo hws hcw (fun a' U hW => word_at hW (Or.inl (by first | rfl | simp [Cond.onTables, Cond.keeps, Cond.steady])) hini)
  obtain ⟨hx, hb, hml, ho, -⟩ := S
  intro T hT X
  obtain ⟨v, vm₁, ⟨U', l2, c2, s2⟩, hW₁, X', ⟨g', mk, t, L, e1, e2, hq, h1, hL, h2, h3⟩, st⟩ := vx_callSW X hx (hh := hh) (bytes := bytes) (maxL := maxL) (ret := ret) ho hl hstt hini hcode hy hK hg (hsize.trans hml.symm) (argsL := As) (rest := rest) (fun sig h => hn.trans (hlen sig h)) hstack hW (by rw [hb]; exact hdg)
    (fun vm₁ hW₁ => ⟨hf.1, hf.2, hp.2 (T.setVm vm₁) hT hW₁⟩)
  dsimp only [Pt.U, Pt.locs, Pt.cells, Pt.slots] at X' e1 e2 h1 h2 h3 st
  subst h1; subst h2; subst h3
  exact ⟨v, (T.setVm vm₁).calling g' mk As.toArray, t, U', L, hT, X', hL, e1, e2, hq, st⟩
/-- not caught here, past rows that name other classes: it goes on to the caller -/
theorem vx_outP {p : Program} {l : Launch} {e : Env} {R : Room} {s : State} {m : MethodId} {args : Array Value} {below : List Frame} {meth : Method} {c : Code} {H : Heap} {locs : List Loc} {cells slots : Nat} {free : Addr → Prop} {ls : Array Slot} {rest : List Value} {Qc : Array Value → State → Outcome → State → Prop} {XC : String → State → State → Prop}
    {pc : Nat} {own E : String} {ce : Cell} {q : Addr} {mc ms mx sx : Nat} (hown : s.vm.findClass own = some m.cls) (hlocks : meth.locks = false)
    (hpass : ∀ z ∈ c.exceptionTable.toList, covers z pc = false ∨ (z.catchType ≠ 0 ∧ ∃ nm : String, (Cond.classLink own z.catchType nm).before args s = true ∧ va_Nc E nm s)) (hcell : H[q]? = some ce) (hv : ce.vm = .none) (hcl : s.vm.findClass E = some ce.cls)
    (hx : ∀ t : State, t.heap = H → s.vm.Alike t.vm → XC E s t) (hf : ∀ z ∈ locs, free z.base) (hc : cells ≤ mx) (hs : slots ≤ sx) :
    vx_W p l e R s m args below meth c H locs cells slots (vx_MQ below Qc XC args s mc ms mx sx free) (F0 m pc ls rest) q := by
  intro T hT X
  have hpl : e.platform.magicAccessors = ({} : Platform).magicAccessors := by rw [X.admits.platform]
  obtain ⟨vm', hW', X', st⟩ := X.outThrough hlocks q (g := F0 m pc ls rest) rfl rfl rfl (cell := ce) (by rw [hT]; exact hcell) (by rw [hv]; rfl)
    (by obtain ⟨k9, h9, -⟩ := Vm.findClass_spec hcl; exact ⟨k9, h9⟩) (fun z hz => by
      rcases hpass z hz with h | ⟨hz0, nm, hl1, hn1⟩
      · exact Or.inl h
      · obtain ⟨c6, hc6, hcl6⟩ := Cond.classLink_spec hown hl1 e.platform hpl
        obtain ⟨a8, b8, h1, h2, h3⟩ := hn1
        cases Option.some.inj (h1.symm.trans hcl)
        cases Option.some.inj (h2.symm.trans hc6)
        exact Or.inr ⟨hz0, _, hcl6, h3⟩)
  obtain ⟨g₀, hfr⟩ := X'.frames_eq
  have hcell9 : ((T.setVm vm').setFrames (.throwing q :: below)).heap[q]? = some ce := by
    show T.heap[q]? = some ce
    rw [hT]; exact hcell
  have hend : Ended ((T.setVm vm').setFrames (.throwing q :: below)) below (.threw q) := State.frames_setFrames _ (State.cur_lt_of_frames hfr)
  refine ⟨(T.setVm vm').setFrames (.throwing q :: below), ?_, .threw q, X'.here.running, hend, Or.inr ⟨q, rfl, E, ce, locs, hx _ hT (X'.ends _).1.alike, hcell9, hv, hcl, (X'.ends _).1, (X'.ends _).2.mono hc hs, hf⟩⟩
  rw [X.pushThrowing_eq]
  exact st
/-- a thing of a world lies in the heap -/
theorem vx_lt {D : va_G} {cl : List vw_C} {ws : va_W} {H1 : Heap} (h : va_P D cl ws H1) {k : Nat} {q : Nat × va_E} (hk : ws[k]? = some q) : q.1 < H1.size := (h k q hk).lt
end VXS
/-! ===== END ===== -/
end
section
/-! ===== own rows: contracts over the cells that a state gives, with a frame behind them ===== -/
abbrev ZT : Type := va_G × (Nat → ClassId) × (Nat → Nat)
abbrev tyl (q : Nat → ClassId) : List (ClassId × FieldType) := [(q 0, .int), (q 1, .char), (q 2, .boolean), (q 3, .long)]
abbrev KX (Z : ZT) (U : State) : Prop := va_K Z.1 cls4 (tyl Z.2.1) U
def NG : List Cond := [Cond.methodLinkNest "CoderTables" 49 ⟨"CoderTables$Numbers", "<init>", "()V"⟩ "CoderTables", Cond.methodLinkNest "CoderTables" 56 ⟨"CoderTables$Lines", "<init>", "()V"⟩ "CoderTables", Cond.fieldLinkNest "CoderTables" 204 "CoderTables$Lines" "chars" "[C" "CoderTables", Cond.fieldLinkNest "CoderTables" 199 "CoderTables$Lines" "length" "I" "CoderTables", Cond.methodLinkNest "CoderTables" 176 ⟨"CoderTables$Numbers", "start", "(J)V"⟩ "CoderTables", Cond.methodLinkNest "CoderTables" 221 ⟨"CoderTables$Numbers", "below", "(I)I"⟩ "CoderTables", Cond.methodLinkNest "CoderTables" 190 ⟨"CoderTables$Lines", "start", "()V"⟩ "CoderTables", Cond.methodLinkNest "CoderTables" 192 ⟨"CoderTables$Lines", "putNumber", "(J)V"⟩ "CoderTables", Cond.methodLinkNest "CoderTables" 195 ⟨"CoderTables$Lines", "put", "(C)V"⟩ "CoderTables", Cond.castable "java/lang/UnsupportedOperationException" "java/lang/UnsupportedOperationException", Cond.declares ⟨"java/lang/RuntimeException", "<init>", "(Ljava/lang/String;)V"⟩, Cond.declares ⟨"java/lang/Exception", "<init>", "(Ljava/lang/String;)V"⟩, Cond.declares ⟨"java/lang/Throwable", "<init>", "(Ljava/lang/String;)V"⟩, Cond.castable "java/lang/IndexOutOfBoundsException" "java/lang/IndexOutOfBoundsException", Cond.castable "java/lang/IllegalArgumentException" "java/lang/IllegalArgumentException", Cond.castable "java/lang/IllegalStateException" "java/lang/IllegalStateException"]
def SG : List (Nat × String) := [(63, "there are eight coders already"), (68, "there are twenty-four pictures already"), (215, "there is no such coder"), (217, "there is no such picture"), (77, "bytes are 1 to 1000000000"), (80, "an error is 0 to 1000000000"), (84, "the pair has failed"), (87, "the pair has six points already"), (93, "the pair has failed already"), (101, "so many pairs have not failed"), (104, "what is 0 for the coder, 1 for the picture"), (109, "an error is not below 0"), (219, "the coder has no counted pair"), (140, "there is no such point on the hull"), (142, "what is 0 for bytes, 1 for the error"), (144, "there is no such slope on the hull"), (153, "what is 0 to 3"), (172, "the times are 0 to 200"), (174, "there is no picture that both have counted"), (202, "there is no such character")]
def NC : List (String × String) := [("java/lang/UnsupportedOperationException", "java/lang/IndexOutOfBoundsException"), ("java/lang/UnsupportedOperationException", "java/lang/IllegalArgumentException"), ("java/lang/UnsupportedOperationException", "java/lang/IllegalStateException"), ("java/lang/IndexOutOfBoundsException", "java/lang/UnsupportedOperationException"), ("java/lang/IndexOutOfBoundsException", "java/lang/IllegalArgumentException"), ("java/lang/IndexOutOfBoundsException", "java/lang/IllegalStateException"), ("java/lang/IllegalArgumentException", "java/lang/UnsupportedOperationException"), ("java/lang/IllegalArgumentException", "java/lang/IndexOutOfBoundsException"), ("java/lang/IllegalArgumentException", "java/lang/IllegalStateException"), ("java/lang/IllegalStateException", "java/lang/UnsupportedOperationException"), ("java/lang/IllegalStateException", "java/lang/IndexOutOfBoundsException"), ("java/lang/IllegalStateException", "java/lang/IllegalArgumentException")]
theorem NG_tab : ∀ w ∈ NG, w.onTables = true := by decide +kernel
theorem NG_warm {s U : State} (hW : s.WarmedH U.vm) (h : ∀ w ∈ NG, va_Nw w s) : ∀ w ∈ NG, va_Nw w U := by
  intro w hw
  have h1 := h w hw
  simp only [NG, List.mem_cons, List.not_mem_nil, or_false] at hw
  rcases hw with rfl | rfl | rfl | rfl | rfl | rfl | rfl | rfl | rfl | rfl | rfl | rfl | rfl | rfl | rfl | rfl
  · exact va_Nw.warmM hW h1
  · exact va_Nw.warmM hW h1
  · exact va_Nw.warmF hW h1
  · exact va_Nw.warmF hW h1
  · exact va_Nw.warmM hW h1
  · exact va_Nw.warmM hW h1
  · exact va_Nw.warmM hW h1
  · exact va_Nw.warmM hW h1
  · exact va_Nw.warmM hW h1
  · exact va_tabs rfl (rfl : (s.setVm U.vm).vm = U.vm) (by rw [Cond.castable_setVm hW.alike]; exact h1)
  · exact va_tabs rfl (rfl : (s.setVm U.vm).vm = U.vm) (by rw [Cond.declares_setVm hW.alike]; exact h1)
  · exact va_tabs rfl (rfl : (s.setVm U.vm).vm = U.vm) (by rw [Cond.declares_setVm hW.alike]; exact h1)
  · exact va_tabs rfl (rfl : (s.setVm U.vm).vm = U.vm) (by rw [Cond.declares_setVm hW.alike]; exact h1)
  · exact va_tabs rfl (rfl : (s.setVm U.vm).vm = U.vm) (by rw [Cond.castable_setVm hW.alike]; exact h1)
  · exact va_tabs rfl (rfl : (s.setVm U.vm).vm = U.vm) (by rw [Cond.castable_setVm hW.alike]; exact h1)
  · exact va_tabs rfl (rfl : (s.setVm U.vm).vm = U.vm) (by rw [Cond.castable_setVm hW.alike]; exact h1)
/-- what a state must hold beside the good words -/
def EX (sa : Nat → Nat) (A : Nat → Prop) (U : State) : Prop :=
  (∀ w ∈ NG, va_Nw w U) ∧ (∀ k ∈ SG, vk_R "CoderTables" k.1 k.2 (sa k.1) U) ∧ (∀ k ∈ NC, va_Nc k.1 k.2 U) ∧ vx_Zq Bundle.tN "UNASSIGNED_STACK" Bundle.steD A U U.heap ∧ vx_Zq Bundle.tN "SUPPRESSED_SENTINEL" Bundle.listD A U U.heap
theorem EX.go {sa : Nat → Nat} {A B : Nat → Prop} {s V : State} {H : Heap} (h : EX sa A s) (hS : ∀ a : Nat, a < s.heap.size → ¬ A a → H[a]? = s.heap[a]?) (hV : V.heap = H) (hW : s.WarmedH V.vm) (hAB : ∀ q, B q → A q) : EX sa B V := by
  obtain ⟨h1, h2, h3, h4, h5⟩ := h
  refine ⟨NG_warm hW h1, fun k hk => vk_R.warm hW (h2 k hk), fun k hk => va_Nc.moved hW.alike (h3 k hk), ?_, ?_⟩
  · rw [hV]; exact ((h4.kept hS).narrow hAB).moved hW.alike
  · rw [hV]; exact ((h5.kept hS).narrow hAB).moved hW.alike
theorem EX.same {sa : Nat → Nat} {A : Nat → Prop} {U V : State} (hv : U.vm = V.vm) (hh : V.heap = U.heap) (h : EX sa A U) : EX sa A V := by
  obtain ⟨h1, h2, h3, h4, h5⟩ := h
  have ha : U.vm.Alike V.vm := by rw [hv]; exact Vm.Alike.refl _
  refine ⟨fun w hw => va_Nw.same (NG_tab w hw) hv (h1 w hw), fun k hk => vk_R.same hv.symm (h2 k hk), fun k hk => va_Nc.moved ha (h3 k hk), ?_, ?_⟩
  · rw [hh]; exact h4.moved ha
  · rw [hh]; exact h5.moved ha
section OWJ
variable {D : va_G} {cl : List vw_C} {a b wc wr w1 : va_W} {H H1 : Heap} {A A0 : Nat → Prop}
theorem o_at {k : Nat} {q : Nat × va_E} (hk : a[k]? = some q) : (a ++ b)[k]? = some q := by
  rw [List.getElem?_append_left (List.getElem?_eq_some_iff.mp hk).1]; exact hk
theorem o_bt {k : Nat} {q : Nat × va_E} (hk : b[k]? = some q) : (a ++ b)[a.length + k]? = some q := by
  rw [List.getElem?_append_right (by omega)]
  rw [show a.length + k - a.length = k by omega]; exact hk
theorem o_left (h : va_P D cl (a ++ b) H) : va_P D cl a H := fun k q hk => h k q (o_at hk)
theorem o_right (h : va_P D cl (a ++ b) H) : va_P D cl b H := fun k q hk => h (a.length + k) q (o_bt hk)
theorem o_dleft (h : va_D A (a ++ b)) : va_D A a := ⟨fun i j p q hi hj e => h.1 i j p q (o_at hi) (o_at hj) e, fun k q hk => h.2 k q (o_at hk)⟩
theorem o_dright (h : va_D A (a ++ b)) : va_D A b := ⟨fun i j p q hi hj e => by have := h.1 _ _ p q (o_bt hi) (o_bt hj) e; omega, fun k q hk => h.2 _ q (o_bt hk)⟩
theorem o_dne {i j : Nat} {p q : Nat × va_E} (h : va_D A (a ++ b)) (hi : a[i]? = some p) (hj : b[j]? = some q) : p.1 ≠ q.1 := fun e => by
  have h1 := h.1 _ _ p q (o_at hi) (o_bt hj) e
  have h2 := (List.getElem?_eq_some_iff.mp hi).1
  omega
theorem o_join (hP : va_P D cl (wc ++ wr) H) (hD : va_D A0 (wc ++ wr)) (hk : ∀ q : Nat, q < H.size → ¬ va_A wc H.size q → H1[q]? = H[q]?) (hF : ∀ q, va_A wc H.size q → A0 q) (hP1 : va_P D cl w1 H1) (hD1 : va_D (va_A wc H.size) w1) : va_P D cl (w1 ++ wr) H1 ∧ va_D A0 (w1 ++ wr) := by
  have hr := o_right hP
  have hlt : ∀ (k : Nat) (q : Nat × va_E), wr[k]? = some q → q.1 < H.size := fun k q h => (hr k q h).lt
  have hna : ∀ (k : Nat) (q : Nat × va_E), wr[k]? = some q → ¬ va_A wc H.size q.1 := by
    intro k q hq hA
    rcases hA with ⟨i, e, hi⟩ | h
    · exact o_dne hD hi hq rfl
    · exact absurd (hlt k q hq) (Nat.not_lt.mpr h)
  exact ⟨hP1.app (hr.kept (fun k q hq => hk q.1 (hlt k q hq) (hna k q hq))), (hD1.weaken (fun _ q _ h => hF q.1 h)).app (o_dright hD) (fun i j p q hp hq e => hna j q hq (by rw [← e]; exact hD1.2 i p hp))⟩
theorem o_free {s : State} {locs : List Loc} (hD : va_D A (wc ++ wr)) (hS : va_S A s.heap H locs) (hA : ∀ q, s.heap.size ≤ q → A q) : ∀ q, va_A wc H.size q → A q := by
  intro q h
  rcases h with ⟨i, e, hi⟩ | h
  · exact hD.2 i _ (o_at hi)
  · exact hA q (Nat.le_trans hS.1 h)
end OWJ
/-- what a walk of a method stands on -/
def CX (own : String) (cc : ByteArray) (nL : Nat) (rt : Option FieldType) (Z : ZT) (A : Nat → Prop) (p : Program) (l : Launch) (s : State) (m : MethodId) (args : Array Value) (meth : Method) (c : Code) : Prop :=
  l.stackTraces = false ∧ p.tables.exec = Jvm.exec ∧ c.code = cc ∧ c.maxLocals = nL ∧ s.vm.findClass own = some m.cls ∧ (∀ w ∈ GW, w.before args s = true) ∧ meth.sig.returnType = rt ∧ meth.locks = false ∧ KX Z s ∧ EX Z.2.2 A s ∧ (∀ q, s.heap.size ≤ q → A q)
/-- the world: the cells ws in the heap H, apart, in A; nothing outside A has changed -/
def WD (Z : ZT) (A : Nat → Prop) (s : State) (ws : va_W) (H : Heap) (locs : List Loc) : Prop := va_P Z.1 cls4 ws H ∧ va_D A ws ∧ va_S A s.heap H locs
abbrev pP (Z : ZT) (av : List Value) (wc : va_W) (sz : Nat) : Array Value → State → Prop :=
  va_Pc av (fun U => U.heap.size = sz ∧ va_P Z.1 cls4 wc U.heap ∧ KX Z U ∧ va_D (fun _ => True) wc ∧ EX Z.2.2 (va_A wc sz) U)
theorem pP_blind {Z : ZT} {av : List Value} {wc : va_W} {sz : Nat} : FrameBlind (pP Z av wc sz) := fun a U g mk q => by
  obtain ⟨q0, q1, qP, qK, qD, qE⟩ := q
  exact ⟨q0, q1, qP, va_K.moved (u := U) (U := U.calling g mk a) (Vm.Alike.refl U.vm) qK, qD, EX.same (U := U) (V := U.calling g mk a) rfl rfl qE⟩
abbrev pB {σ : Type} (Z : ZT) (f : σ → va_W) (wc : va_W) (sz : Nat) (u : σ) (t : State) : Prop := va_P Z.1 cls4 (f u) t.heap ∧ va_D (va_A wc sz) (f u)
abbrev pQi {σ : Type} (Z : ZT) (f : σ → va_W) (wc : va_W) (sz : Nat) (post : Int32 → σ → Prop) : Array Value → State → Outcome → State → Prop := va_Qi post (pB Z f wc sz) (va_A wc sz)
abbrev pQl {σ : Type} (Z : ZT) (f : σ → va_W) (wc : va_W) (sz : Nat) (post : Int64 → σ → Prop) : Array Value → State → Outcome → State → Prop := va_Ql post (pB Z f wc sz) (va_A wc sz)
abbrev pQv {σ : Type} (Z : ZT) (f : σ → va_W) (wc : va_W) (sz : Nat) (post : σ → Prop) : Array Value → State → Outcome → State → Prop := va_Qv post (pB Z f wc sz) (va_A wc sz)
abbrev pX {σ : Type} (Z : ZT) (f : σ → va_W) (wc : va_W) (sz : Nat) (ex : String → σ → Prop) : String → State → State → Prop := vx_X (fun z : String × σ => ex z.1 z.2) (fun E z t => z.1 = E ∧ pB Z f wc sz z.2 t) (va_A wc sz)
theorem gw_cons {w : Cond} (h : w ∈ GW) : GoodIn GW (w :: GW) := fun v hv => (List.mem_cons.mp hv).elim (fun e => by rw [e]; exact gw_good _ h) (gw_good v)
/-- a call's words -/
def gV (own : String) (index : Nat) (y : MethodName) (bytes : ByteArray) (maxL : Nat) (rt : Option FieldType) (n : Nat) : Prop :=
  Cond.methodLink own index y ∈ GW ∧ Cond.instanceMethod y ∈ GW ∧ Cond.selects y.cls y y ∈ GW ∧ Cond.initialized y.cls ∈ GW ∧ Cond.code y bytes maxL rt ∈ GW ∧ y.cls ≠ "java/lang/invoke/MethodHandle" ∧ y.cls ≠ "java/lang/invoke/VarHandle" ∧ (parseMethodDescriptor y.desc).map (fun d => d.parameters.length) = some n
def gS (own : String) (index : Nat) (y : MethodName) (bytes : ByteArray) (maxL : Nat) (rt : Option FieldType) (n : Nat) : Prop :=
  Cond.methodLink own index y ∈ GW ∧ Cond.static y ∈ GW ∧ Cond.initialized y.cls ∈ GW ∧ Cond.code y bytes maxL rt ∈ GW ∧ y.cls ≠ "java/lang/invoke/MethodHandle" ∧ y.cls ≠ "java/lang/invoke/VarHandle" ∧ (parseMethodDescriptor y.desc).map (fun d => d.parameters.length) = some n
def gN (own : String) (index : Nat) (y : MethodName) (host : String) (bytes : ByteArray) (maxL : Nat) (rt : Option FieldType) (n : Nat) : Prop :=
  Cond.methodLinkNest own index y host ∈ NG ∧ Cond.instanceMethod y ∈ GW ∧ Cond.selects y.cls y y ∈ GW ∧ Cond.initialized y.cls ∈ GW ∧ Cond.code y bytes maxL rt ∈ GW ∧ y.cls ≠ "java/lang/invoke/MethodHandle" ∧ y.cls ≠ "java/lang/invoke/VarHandle" ∧ (parseMethodDescriptor y.desc).map (fun d => d.parameters.length) = some n
abbrev rmOk (rm : Room) (maxL : Nat) (R : Room) (cells slots : Nat) : Prop := rm.frames + 1 ≤ R.frames ∧ 8 + (maxL + 11) + rm.locals ≤ R.locals ∧ cells + rm.cells ≤ R.cells ∧ slots + rm.slots ≤ R.slots
section OWC
variable {σ : Type} {f : σ → va_W} {u : σ} {wr : va_W} {own host : String} {cc bytes : ByteArray} {nL maxL index n : Nat} {rt0 rt : Option FieldType} {Z : ZT} {A : Nat → Prop}
variable {p : Program} {l : Launch} {e : Env} {R : Room} {s : State} {m : MethodId} {args : Array Value} {below : List Frame} {meth : Method} {c : Code} {H : Heap} {locs : List Loc} {cells slots : Nat} {Q : State → Prop}
variable {y : MethodName} {rm : Room} {b : Addr} {As rest st0 : List Value} {ex : String → σ → Prop} {pc : Nat} {ls : Array Slot} {ci : Nat} {fs : List Value} {T : u_T} {N : Nat}
theorem g_pre (C : CX own cc nL rt0 Z A p l s m args meth c) (hw : WD Z A s (f u ++ wr) H locs) (av : List Value) : ∀ U : State, U.heap = H → s.WarmedH U.vm → pP Z av (f u) H.size av.toArray U := by
  intro U hU hW
  obtain ⟨hlt, hx, hb, hml, hown, hts, hr, hlk, hK, hE, hA⟩ := C
  obtain ⟨hP, hD, hS⟩ := hw
  exact ⟨rfl, by rw [hU], by rw [hU]; exact o_left hP, va_K.moved hW.alike hK, (o_dleft hD).weaken (fun _ _ _ _ => trivial), hE.go hS.2.1 hU hW (o_free hD hS hA)⟩
theorem g_join {u' : σ} {t : State} {H1 : Heap} {locs1 : List Loc} (C : CX own cc nL rt0 Z A p l s m args meth c) (hw : WD Z A s (f u ++ wr) H locs) (ht : t.heap = H1) (hB : pB Z f (f u) H.size u' t) (hk : ∀ q : Nat, q < H.size → ¬ va_A (f u) H.size q → H1[q]? = H[q]?) (hS1 : va_S A s.heap H1 locs1) : WD Z A s (f u' ++ wr) H1 locs1 := by
  obtain ⟨hlt, hx, hb, hml, hown, hts, hr, hlk, hK, hE, hA⟩ := C
  obtain ⟨hP, hD, hS⟩ := hw
  obtain ⟨hP1, hD1⟩ := hB
  rw [ht] at hP1
  obtain ⟨h1, h2⟩ := o_join hP hD hk (o_free hD hS hA) hP1 hD1
  exact ⟨h1, h2, hS1⟩
theorem g_V_i {post : Int32 → σ → Prop} (C : CX own cc nL rt0 Z A p l s m args meth c) (hw : WD Z A s (f u ++ wr) H locs)
    (hM : ∀ sz, vx_Met l y (Cond.code y bytes maxL rt :: GW) rm (pP Z (.ref b :: As) (f u) sz) (pQi Z f (f u) sz post) (pX Z f (f u) sz ex) 0 0 rm.cells rm.slots (va_A (f u) sz))
    (hg : gV own index y bytes maxL rt n) (hR : rmOk rm maxL R cells slots) (q0 : Nat) (he : (f u)[q0]? = some (b, .inr (ci, fs))) (hc : cls4[ci]? = some (y.cls, T, N))
    (hn : As.length = n) (hl : ls.size = nL) (hst : st0 = As.reverse ++ .ref b :: rest) (hW : (rest.map fun v => v.category).sum ≤ 8) (hdg : decode cc pc = .ok (.invokevirtual index, 3))
    (kx : ∀ (E : String) (u' : σ) (q9 : Addr) (ce : Cell) (H1 : Heap) (locs1 : List Loc), ex E u' → WD Z A s (f u' ++ wr) H1 locs1 → H1[q9]? = some ce → ce.vm = .none → s.vm.findClass E = some ce.cls → vx_W p l e R s m args below meth c H1 locs1 (cells + rm.cells) (slots + rm.slots) Q (F0 m pc ls rest) q9)
    (kk : ∀ (r : Int32) (u' : σ) (H1 : Heap) (locs1 : List Loc), post r u' → WD Z A s (f u' ++ wr) H1 locs1 → W p l e R s m args below meth c H1 locs1 cells slots Q (F0 m (pc + 3) ls (.int r :: rest))) : W p l e R s m args below meth c H locs cells slots Q (F0 m pc ls st0) := by
  obtain ⟨g1, g2, g3, g4, g5, g6, g7, g8⟩ := hg
  obtain ⟨r1, r2, r3, r4⟩ := hR
  have hpre := g_pre C hw (.ref b :: As)
  have hF := o_free hw.2.1 hw.2.2 C.2.2.2.2.2.2.2.2.2.2
  have hrec : ∃ cellB : Cell, H[b]? = some cellB ∧ cellB.vm.isStatics = false ∧ s.vm.findClass y.cls = some cellB.cls := va_recv C.2.2.2.2.2.2.2.2.1 (o_left hw.1) (q0 := q0) hc he
  have hgw := C.2.2.2.2.2.1
  subst hst
  refine vx_calli (vx_runV (As := As) (rest := rest) ⟨C.2.1, C.2.2.1, C.2.2.2.1, C.2.2.2.2.1, hgw⟩ (hM H.size) ⟨callB_of n hgw (gw_cons g5) rfl rfl rfl (hgw _ g4) (hgw _ g1) ⟨g6, g7, g8⟩ ⟨r1, r2⟩, hgw _ g2, hgw _ g3⟩ ⟨pP_blind, hrec, hpre⟩ rfl hn hl rfl (lv_room hW) hdg ⟨r3, r4⟩) hw.2.2 (fun q _ h => hF q h) hF (fun q _ h => hF q h) ?_ ?_
  · intro E ce q9 z t H1 locs1 ht hvm hp hB hz hk hS1 h1 h2 h3
    obtain ⟨E', u'⟩ := z
    obtain ⟨rfl, hB⟩ := hB
    exact kx _ u' q9 ce H1 locs1 hp (g_join C hw ht hB hk hS1) h1 h2 h3
  · intro r u' t H1 locs1 ht hvm hp hB hz hk hS1
    exact kk r u' H1 locs1 hp (g_join C hw ht hB hk hS1)
theorem g_S_i {post : Int32 → σ → Prop} (C : CX own cc nL rt0 Z A p l s m args meth c) (hw : WD Z A s (f u ++ wr) H locs)
    (hM : ∀ sz, vx_Met l y (Cond.code y bytes maxL rt :: GW) rm (pP Z As (f u) sz) (pQi Z f (f u) sz post) (pX Z f (f u) sz ex) 0 0 rm.cells rm.slots (va_A (f u) sz))
    (hg : gS own index y bytes maxL rt n) (hR : rmOk rm maxL R cells slots)
    (hn : As.length = n) (hl : ls.size = nL) (hst : st0 = As.reverse ++ rest) (hW : (rest.map fun v => v.category).sum ≤ 8) (hdg : decode cc pc = .ok (.invokestatic index, 3))
    (kx : ∀ (E : String) (u' : σ) (q9 : Addr) (ce : Cell) (H1 : Heap) (locs1 : List Loc), ex E u' → WD Z A s (f u' ++ wr) H1 locs1 → H1[q9]? = some ce → ce.vm = .none → s.vm.findClass E = some ce.cls → vx_W p l e R s m args below meth c H1 locs1 (cells + rm.cells) (slots + rm.slots) Q (F0 m pc ls rest) q9)
    (kk : ∀ (r : Int32) (u' : σ) (H1 : Heap) (locs1 : List Loc), post r u' → WD Z A s (f u' ++ wr) H1 locs1 → W p l e R s m args below meth c H1 locs1 cells slots Q (F0 m (pc + 3) ls (.int r :: rest))) : W p l e R s m args below meth c H locs cells slots Q (F0 m pc ls st0) := by
  obtain ⟨g1, g2, g4, g5, g6, g7, g8⟩ := hg
  obtain ⟨r1, r2, r3, r4⟩ := hR
  have hpre := g_pre C hw As
  have hF := o_free hw.2.1 hw.2.2 C.2.2.2.2.2.2.2.2.2.2
  have hgw := C.2.2.2.2.2.1
  subst hst
  refine vx_calli (vx_runS (As := As) (rest := rest) ⟨C.2.1, C.2.2.1, C.2.2.2.1, C.2.2.2.2.1, hgw⟩ (hM H.size) ⟨callB_of n hgw (gw_cons g5) rfl rfl rfl (hgw _ g4) (hgw _ g1) ⟨g6, g7, g8⟩ ⟨r1, r2⟩, hgw _ g2⟩ ⟨pP_blind, hpre⟩ rfl hn hl rfl (lv_room hW) hdg ⟨r3, r4⟩) hw.2.2 (fun q _ h => hF q h) hF (fun q _ h => hF q h) ?_ ?_
  · intro E ce q9 z t H1 locs1 ht hvm hp hB hz hk hS1 h1 h2 h3
    obtain ⟨E', u'⟩ := z
    obtain ⟨rfl, hB⟩ := hB
    exact kx _ u' q9 ce H1 locs1 hp (g_join C hw ht hB hk hS1) h1 h2 h3
  · intro r u' t H1 locs1 ht hvm hp hB hz hk hS1
    exact kk r u' H1 locs1 hp (g_join C hw ht hB hk hS1)
theorem g_N_i {post : Int32 → σ → Prop} (C : CX own cc nL rt0 Z A p l s m args meth c) (hw : WD Z A s (f u ++ wr) H locs)
    (hM : ∀ sz, Met l y (Cond.code y bytes maxL rt :: GW) rm (pP Z (.ref b :: As) (f u) sz) (pQi Z f (f u) sz post) 0 0 (va_A (f u) sz)) (hm0 : rm.cells = 0) (hs0 : rm.slots = 0)
    (hg : gN own index y host bytes maxL rt n) (hR : rmOk rm maxL R cells slots) (q0 : Nat) (he : (f u)[q0]? = some (b, .inr (ci, fs))) (hc : cls4[ci]? = some (y.cls, T, N))
    (hn : As.length = n) (hl : ls.size = nL) (hst : st0 = As.reverse ++ .ref b :: rest) (hW : (rest.map fun v => v.category).sum ≤ 8) (hdg : decode cc pc = .ok (.invokevirtual index, 3))
    (kk : ∀ (r : Int32) (u' : σ) (H1 : Heap) (locs1 : List Loc), post r u' → WD Z A s (f u' ++ wr) H1 locs1 → W p l e R s m args below meth c H1 locs1 cells slots Q (F0 m (pc + 3) ls (.int r :: rest))) : W p l e R s m args below meth c H locs cells slots Q (F0 m pc ls st0) := by
  obtain ⟨g1, g2, g3, g4, g5, g6, g7, g8⟩ := hg
  obtain ⟨r1, r2, r3, r4⟩ := hR
  have hpre := g_pre C hw (.ref b :: As)
  have hF := o_free hw.2.1 hw.2.2 C.2.2.2.2.2.2.2.2.2.2
  have hrec : ∃ cellB : Cell, H[b]? = some cellB ∧ cellB.vm.isStatics = false ∧ s.vm.findClass y.cls = some cellB.cls := va_recv C.2.2.2.2.2.2.2.2.1 (o_left hw.1) (q0 := q0) hc he
  have hgw := C.2.2.2.2.2.1
  subst hst
  refine va_calli (va_runVN (As := As) (rest := rest) (C := y.cls) ⟨C.2.1, C.2.2.1, C.2.2.2.1, C.2.2.2.2.1, hgw⟩ (hM H.size) ⟨va_cnB n hgw (gw_cons g5) rfl hm0 hs0 (C.2.2.2.2.2.2.2.2.2.1.1 _ g1) (hgw _ g4) ⟨g6, g7, g8⟩ ⟨r1, r2⟩, hgw _ g2, hgw _ g3⟩ ⟨pP_blind, hrec, hpre⟩ rfl hn hl rfl (lv_room hW) hdg ⟨by omega, by omega⟩) hw.2.2 (fun q _ h => hF q h) hF ?_
  intro r u' t H1 locs1 ht hvm hp hB hz hk hS1
  exact kk r u' H1 locs1 hp (g_join C hw ht hB hk hS1)
theorem g_V_l {post : Int64 → σ → Prop} (C : CX own cc nL rt0 Z A p l s m args meth c) (hw : WD Z A s (f u ++ wr) H locs)
    (hM : ∀ sz, vx_Met l y (Cond.code y bytes maxL rt :: GW) rm (pP Z (.ref b :: As) (f u) sz) (pQl Z f (f u) sz post) (pX Z f (f u) sz ex) 0 0 rm.cells rm.slots (va_A (f u) sz))
    (hg : gV own index y bytes maxL rt n) (hR : rmOk rm maxL R cells slots) (q0 : Nat) (he : (f u)[q0]? = some (b, .inr (ci, fs))) (hc : cls4[ci]? = some (y.cls, T, N))
    (hn : As.length = n) (hl : ls.size = nL) (hst : st0 = As.reverse ++ .ref b :: rest) (hW : (rest.map fun v => v.category).sum ≤ 8) (hdg : decode cc pc = .ok (.invokevirtual index, 3))
    (kx : ∀ (E : String) (u' : σ) (q9 : Addr) (ce : Cell) (H1 : Heap) (locs1 : List Loc), ex E u' → WD Z A s (f u' ++ wr) H1 locs1 → H1[q9]? = some ce → ce.vm = .none → s.vm.findClass E = some ce.cls → vx_W p l e R s m args below meth c H1 locs1 (cells + rm.cells) (slots + rm.slots) Q (F0 m pc ls rest) q9)
    (kk : ∀ (r : Int64) (u' : σ) (H1 : Heap) (locs1 : List Loc), post r u' → WD Z A s (f u' ++ wr) H1 locs1 → W p l e R s m args below meth c H1 locs1 cells slots Q (F0 m (pc + 3) ls (.long r :: rest))) : W p l e R s m args below meth c H locs cells slots Q (F0 m pc ls st0) := by
  obtain ⟨g1, g2, g3, g4, g5, g6, g7, g8⟩ := hg
  obtain ⟨r1, r2, r3, r4⟩ := hR
  have hpre := g_pre C hw (.ref b :: As)
  have hF := o_free hw.2.1 hw.2.2 C.2.2.2.2.2.2.2.2.2.2
  have hrec : ∃ cellB : Cell, H[b]? = some cellB ∧ cellB.vm.isStatics = false ∧ s.vm.findClass y.cls = some cellB.cls := va_recv C.2.2.2.2.2.2.2.2.1 (o_left hw.1) (q0 := q0) hc he
  have hgw := C.2.2.2.2.2.1
  subst hst
  refine vx_calll (vx_runV (As := As) (rest := rest) ⟨C.2.1, C.2.2.1, C.2.2.2.1, C.2.2.2.2.1, hgw⟩ (hM H.size) ⟨callB_of n hgw (gw_cons g5) rfl rfl rfl (hgw _ g4) (hgw _ g1) ⟨g6, g7, g8⟩ ⟨r1, r2⟩, hgw _ g2, hgw _ g3⟩ ⟨pP_blind, hrec, hpre⟩ rfl hn hl rfl (lv_room hW) hdg ⟨r3, r4⟩) hw.2.2 (fun q _ h => hF q h) hF (fun q _ h => hF q h) ?_ ?_
  · intro E ce q9 z t H1 locs1 ht hvm hp hB hz hk hS1 h1 h2 h3
    obtain ⟨E', u'⟩ := z
    obtain ⟨rfl, hB⟩ := hB
    exact kx _ u' q9 ce H1 locs1 hp (g_join C hw ht hB hk hS1) h1 h2 h3
  · intro r u' t H1 locs1 ht hvm hp hB hz hk hS1
    exact kk r u' H1 locs1 hp (g_join C hw ht hB hk hS1)
theorem g_S_l {post : Int64 → σ → Prop} (C : CX own cc nL rt0 Z A p l s m args meth c) (hw : WD Z A s (f u ++ wr) H locs)
    (hM : ∀ sz, vx_Met l y (Cond.code y bytes maxL rt :: GW) rm (pP Z As (f u) sz) (pQl Z f (f u) sz post) (pX Z f (f u) sz ex) 0 0 rm.cells rm.slots (va_A (f u) sz))
    (hg : gS own index y bytes maxL rt n) (hR : rmOk rm maxL R cells slots)
    (hn : As.length = n) (hl : ls.size = nL) (hst : st0 = As.reverse ++ rest) (hW : (rest.map fun v => v.category).sum ≤ 8) (hdg : decode cc pc = .ok (.invokestatic index, 3))
    (kx : ∀ (E : String) (u' : σ) (q9 : Addr) (ce : Cell) (H1 : Heap) (locs1 : List Loc), ex E u' → WD Z A s (f u' ++ wr) H1 locs1 → H1[q9]? = some ce → ce.vm = .none → s.vm.findClass E = some ce.cls → vx_W p l e R s m args below meth c H1 locs1 (cells + rm.cells) (slots + rm.slots) Q (F0 m pc ls rest) q9)
    (kk : ∀ (r : Int64) (u' : σ) (H1 : Heap) (locs1 : List Loc), post r u' → WD Z A s (f u' ++ wr) H1 locs1 → W p l e R s m args below meth c H1 locs1 cells slots Q (F0 m (pc + 3) ls (.long r :: rest))) : W p l e R s m args below meth c H locs cells slots Q (F0 m pc ls st0) := by
  obtain ⟨g1, g2, g4, g5, g6, g7, g8⟩ := hg
  obtain ⟨r1, r2, r3, r4⟩ := hR
  have hpre := g_pre C hw As
  have hF := o_free hw.2.1 hw.2.2 C.2.2.2.2.2.2.2.2.2.2
  have hgw := C.2.2.2.2.2.1
  subst hst
  refine vx_calll (vx_runS (As := As) (rest := rest) ⟨C.2.1, C.2.2.1, C.2.2.2.1, C.2.2.2.2.1, hgw⟩ (hM H.size) ⟨callB_of n hgw (gw_cons g5) rfl rfl rfl (hgw _ g4) (hgw _ g1) ⟨g6, g7, g8⟩ ⟨r1, r2⟩, hgw _ g2⟩ ⟨pP_blind, hpre⟩ rfl hn hl rfl (lv_room hW) hdg ⟨r3, r4⟩) hw.2.2 (fun q _ h => hF q h) hF (fun q _ h => hF q h) ?_ ?_
  · intro E ce q9 z t H1 locs1 ht hvm hp hB hz hk hS1 h1 h2 h3
    obtain ⟨E', u'⟩ := z
    obtain ⟨rfl, hB⟩ := hB
    exact kx _ u' q9 ce H1 locs1 hp (g_join C hw ht hB hk hS1) h1 h2 h3
  · intro r u' t H1 locs1 ht hvm hp hB hz hk hS1
    exact kk r u' H1 locs1 hp (g_join C hw ht hB hk hS1)
theorem g_N_l {post : Int64 → σ → Prop} (C : CX own cc nL rt0 Z A p l s m args meth c) (hw : WD Z A s (f u ++ wr) H locs)
    (hM : ∀ sz, Met l y (Cond.code y bytes maxL rt :: GW) rm (pP Z (.ref b :: As) (f u) sz) (pQl Z f (f u) sz post) 0 0 (va_A (f u) sz)) (hm0 : rm.cells = 0) (hs0 : rm.slots = 0)
    (hg : gN own index y host bytes maxL rt n) (hR : rmOk rm maxL R cells slots) (q0 : Nat) (he : (f u)[q0]? = some (b, .inr (ci, fs))) (hc : cls4[ci]? = some (y.cls, T, N))
    (hn : As.length = n) (hl : ls.size = nL) (hst : st0 = As.reverse ++ .ref b :: rest) (hW : (rest.map fun v => v.category).sum ≤ 8) (hdg : decode cc pc = .ok (.invokevirtual index, 3))
    (kk : ∀ (r : Int64) (u' : σ) (H1 : Heap) (locs1 : List Loc), post r u' → WD Z A s (f u' ++ wr) H1 locs1 → W p l e R s m args below meth c H1 locs1 cells slots Q (F0 m (pc + 3) ls (.long r :: rest))) : W p l e R s m args below meth c H locs cells slots Q (F0 m pc ls st0) := by
  obtain ⟨g1, g2, g3, g4, g5, g6, g7, g8⟩ := hg
  obtain ⟨r1, r2, r3, r4⟩ := hR
  have hpre := g_pre C hw (.ref b :: As)
  have hF := o_free hw.2.1 hw.2.2 C.2.2.2.2.2.2.2.2.2.2
  have hrec : ∃ cellB : Cell, H[b]? = some cellB ∧ cellB.vm.isStatics = false ∧ s.vm.findClass y.cls = some cellB.cls := va_recv C.2.2.2.2.2.2.2.2.1 (o_left hw.1) (q0 := q0) hc he
  have hgw := C.2.2.2.2.2.1
  subst hst
  refine va_calll (va_runVN (As := As) (rest := rest) (C := y.cls) ⟨C.2.1, C.2.2.1, C.2.2.2.1, C.2.2.2.2.1, hgw⟩ (hM H.size) ⟨va_cnB n hgw (gw_cons g5) rfl hm0 hs0 (C.2.2.2.2.2.2.2.2.2.1.1 _ g1) (hgw _ g4) ⟨g6, g7, g8⟩ ⟨r1, r2⟩, hgw _ g2, hgw _ g3⟩ ⟨pP_blind, hrec, hpre⟩ rfl hn hl rfl (lv_room hW) hdg ⟨by omega, by omega⟩) hw.2.2 (fun q _ h => hF q h) hF ?_
  intro r u' t H1 locs1 ht hvm hp hB hz hk hS1
  exact kk r u' H1 locs1 hp (g_join C hw ht hB hk hS1)
theorem g_V_v {post : σ → Prop} (C : CX own cc nL rt0 Z A p l s m args meth c) (hw : WD Z A s (f u ++ wr) H locs)
    (hM : ∀ sz, vx_Met l y (Cond.code y bytes maxL rt :: GW) rm (pP Z (.ref b :: As) (f u) sz) (pQv Z f (f u) sz post) (pX Z f (f u) sz ex) 0 0 rm.cells rm.slots (va_A (f u) sz))
    (hg : gV own index y bytes maxL rt n) (hR : rmOk rm maxL R cells slots) (q0 : Nat) (he : (f u)[q0]? = some (b, .inr (ci, fs))) (hc : cls4[ci]? = some (y.cls, T, N))
    (hn : As.length = n) (hl : ls.size = nL) (hst : st0 = As.reverse ++ .ref b :: rest) (hW : (rest.map fun v => v.category).sum ≤ 8) (hdg : decode cc pc = .ok (.invokevirtual index, 3))
    (kx : ∀ (E : String) (u' : σ) (q9 : Addr) (ce : Cell) (H1 : Heap) (locs1 : List Loc), ex E u' → WD Z A s (f u' ++ wr) H1 locs1 → H1[q9]? = some ce → ce.vm = .none → s.vm.findClass E = some ce.cls → vx_W p l e R s m args below meth c H1 locs1 (cells + rm.cells) (slots + rm.slots) Q (F0 m pc ls rest) q9)
    (kk : ∀ (u' : σ) (H1 : Heap) (locs1 : List Loc), post u' → WD Z A s (f u' ++ wr) H1 locs1 → W p l e R s m args below meth c H1 locs1 cells slots Q (F0 m (pc + 3) ls (rest))) : W p l e R s m args below meth c H locs cells slots Q (F0 m pc ls st0) := by
  obtain ⟨g1, g2, g3, g4, g5, g6, g7, g8⟩ := hg
  obtain ⟨r1, r2, r3, r4⟩ := hR
  have hpre := g_pre C hw (.ref b :: As)
  have hF := o_free hw.2.1 hw.2.2 C.2.2.2.2.2.2.2.2.2.2
  have hrec : ∃ cellB : Cell, H[b]? = some cellB ∧ cellB.vm.isStatics = false ∧ s.vm.findClass y.cls = some cellB.cls := va_recv C.2.2.2.2.2.2.2.2.1 (o_left hw.1) (q0 := q0) hc he
  have hgw := C.2.2.2.2.2.1
  subst hst
  refine vx_callv (vx_runV (As := As) (rest := rest) ⟨C.2.1, C.2.2.1, C.2.2.2.1, C.2.2.2.2.1, hgw⟩ (hM H.size) ⟨callB_of n hgw (gw_cons g5) rfl rfl rfl (hgw _ g4) (hgw _ g1) ⟨g6, g7, g8⟩ ⟨r1, r2⟩, hgw _ g2, hgw _ g3⟩ ⟨pP_blind, hrec, hpre⟩ rfl hn hl rfl (lv_room hW) hdg ⟨r3, r4⟩) hw.2.2 (fun q _ h => hF q h) hF (fun q _ h => hF q h) ?_ ?_
  · intro E ce q9 z t H1 locs1 ht hvm hp hB hz hk hS1 h1 h2 h3
    obtain ⟨E', u'⟩ := z
    obtain ⟨rfl, hB⟩ := hB
    exact kx _ u' q9 ce H1 locs1 hp (g_join C hw ht hB hk hS1) h1 h2 h3
  · intro u' t H1 locs1 ht hvm hp hB hz hk hS1
    exact kk u' H1 locs1 hp (g_join C hw ht hB hk hS1)
theorem g_S_v {post : σ → Prop} (C : CX own cc nL rt0 Z A p l s m args meth c) (hw : WD Z A s (f u ++ wr) H locs)
    (hM : ∀ sz, vx_Met l y (Cond.code y bytes maxL rt :: GW) rm (pP Z As (f u) sz) (pQv Z f (f u) sz post) (pX Z f (f u) sz ex) 0 0 rm.cells rm.slots (va_A (f u) sz))
    (hg : gS own index y bytes maxL rt n) (hR : rmOk rm maxL R cells slots)
    (hn : As.length = n) (hl : ls.size = nL) (hst : st0 = As.reverse ++ rest) (hW : (rest.map fun v => v.category).sum ≤ 8) (hdg : decode cc pc = .ok (.invokestatic index, 3))
    (kx : ∀ (E : String) (u' : σ) (q9 : Addr) (ce : Cell) (H1 : Heap) (locs1 : List Loc), ex E u' → WD Z A s (f u' ++ wr) H1 locs1 → H1[q9]? = some ce → ce.vm = .none → s.vm.findClass E = some ce.cls → vx_W p l e R s m args below meth c H1 locs1 (cells + rm.cells) (slots + rm.slots) Q (F0 m pc ls rest) q9)
    (kk : ∀ (u' : σ) (H1 : Heap) (locs1 : List Loc), post u' → WD Z A s (f u' ++ wr) H1 locs1 → W p l e R s m args below meth c H1 locs1 cells slots Q (F0 m (pc + 3) ls (rest))) : W p l e R s m args below meth c H locs cells slots Q (F0 m pc ls st0) := by
  obtain ⟨g1, g2, g4, g5, g6, g7, g8⟩ := hg
  obtain ⟨r1, r2, r3, r4⟩ := hR
  have hpre := g_pre C hw As
  have hF := o_free hw.2.1 hw.2.2 C.2.2.2.2.2.2.2.2.2.2
  have hgw := C.2.2.2.2.2.1
  subst hst
  refine vx_callv (vx_runS (As := As) (rest := rest) ⟨C.2.1, C.2.2.1, C.2.2.2.1, C.2.2.2.2.1, hgw⟩ (hM H.size) ⟨callB_of n hgw (gw_cons g5) rfl rfl rfl (hgw _ g4) (hgw _ g1) ⟨g6, g7, g8⟩ ⟨r1, r2⟩, hgw _ g2⟩ ⟨pP_blind, hpre⟩ rfl hn hl rfl (lv_room hW) hdg ⟨r3, r4⟩) hw.2.2 (fun q _ h => hF q h) hF (fun q _ h => hF q h) ?_ ?_
  · intro E ce q9 z t H1 locs1 ht hvm hp hB hz hk hS1 h1 h2 h3
    obtain ⟨E', u'⟩ := z
    obtain ⟨rfl, hB⟩ := hB
    exact kx _ u' q9 ce H1 locs1 hp (g_join C hw ht hB hk hS1) h1 h2 h3
  · intro u' t H1 locs1 ht hvm hp hB hz hk hS1
    exact kk u' H1 locs1 hp (g_join C hw ht hB hk hS1)
theorem g_N_v {post : σ → Prop} (C : CX own cc nL rt0 Z A p l s m args meth c) (hw : WD Z A s (f u ++ wr) H locs)
    (hM : ∀ sz, Met l y (Cond.code y bytes maxL rt :: GW) rm (pP Z (.ref b :: As) (f u) sz) (pQv Z f (f u) sz post) 0 0 (va_A (f u) sz)) (hm0 : rm.cells = 0) (hs0 : rm.slots = 0)
    (hg : gN own index y host bytes maxL rt n) (hR : rmOk rm maxL R cells slots) (q0 : Nat) (he : (f u)[q0]? = some (b, .inr (ci, fs))) (hc : cls4[ci]? = some (y.cls, T, N))
    (hn : As.length = n) (hl : ls.size = nL) (hst : st0 = As.reverse ++ .ref b :: rest) (hW : (rest.map fun v => v.category).sum ≤ 8) (hdg : decode cc pc = .ok (.invokevirtual index, 3))
    (kk : ∀ (u' : σ) (H1 : Heap) (locs1 : List Loc), post u' → WD Z A s (f u' ++ wr) H1 locs1 → W p l e R s m args below meth c H1 locs1 cells slots Q (F0 m (pc + 3) ls (rest))) : W p l e R s m args below meth c H locs cells slots Q (F0 m pc ls st0) := by
  obtain ⟨g1, g2, g3, g4, g5, g6, g7, g8⟩ := hg
  obtain ⟨r1, r2, r3, r4⟩ := hR
  have hpre := g_pre C hw (.ref b :: As)
  have hF := o_free hw.2.1 hw.2.2 C.2.2.2.2.2.2.2.2.2.2
  have hrec : ∃ cellB : Cell, H[b]? = some cellB ∧ cellB.vm.isStatics = false ∧ s.vm.findClass y.cls = some cellB.cls := va_recv C.2.2.2.2.2.2.2.2.1 (o_left hw.1) (q0 := q0) hc he
  have hgw := C.2.2.2.2.2.1
  subst hst
  refine va_callv (va_runVN (As := As) (rest := rest) (C := y.cls) ⟨C.2.1, C.2.2.1, C.2.2.2.1, C.2.2.2.2.1, hgw⟩ (hM H.size) ⟨va_cnB n hgw (gw_cons g5) rfl hm0 hs0 (C.2.2.2.2.2.2.2.2.2.1.1 _ g1) (hgw _ g4) ⟨g6, g7, g8⟩ ⟨r1, r2⟩, hgw _ g2, hgw _ g3⟩ ⟨pP_blind, hrec, hpre⟩ rfl hn hl rfl (lv_room hW) hdg ⟨by omega, by omega⟩) hw.2.2 (fun q _ h => hF q h) hF ?_
  intro u' t H1 locs1 ht hvm hp hB hz hk hS1
  exact kk u' H1 locs1 hp (g_join C hw ht hB hk hS1)
theorem g_V0_i {post : Int32 → σ → Prop} (C : CX own cc nL rt0 Z A p l s m args meth c) (hw : WD Z A s (f u) H locs)
    (hM : ∀ sz, vx_Met l y (Cond.code y bytes maxL rt :: GW) rm (pP Z (.ref b :: As) (f u) sz) (pQi Z f (f u) sz post) (pX Z f (f u) sz ex) 0 0 rm.cells rm.slots (va_A (f u) sz))
    (hg : gV own index y bytes maxL rt n) (hR : rmOk rm maxL R cells slots) (q0 : Nat) (he : (f u)[q0]? = some (b, .inr (ci, fs))) (hc : cls4[ci]? = some (y.cls, T, N))
    (hn : As.length = n) (hl : ls.size = nL) (hst : st0 = As.reverse ++ .ref b :: rest) (hW : (rest.map fun v => v.category).sum ≤ 8) (hdg : decode cc pc = .ok (.invokevirtual index, 3))
    (kx : ∀ (E : String) (u' : σ) (q9 : Addr) (ce : Cell) (H1 : Heap) (locs1 : List Loc), ex E u' → WD Z A s (f u') H1 locs1 → H1[q9]? = some ce → ce.vm = .none → s.vm.findClass E = some ce.cls → vx_W p l e R s m args below meth c H1 locs1 (cells + rm.cells) (slots + rm.slots) Q (F0 m pc ls rest) q9)
    (kk : ∀ (r : Int32) (u' : σ) (H1 : Heap) (locs1 : List Loc), post r u' → WD Z A s (f u') H1 locs1 → W p l e R s m args below meth c H1 locs1 cells slots Q (F0 m (pc + 3) ls (.int r :: rest))) : W p l e R s m args below meth c H locs cells slots Q (F0 m pc ls st0) :=
  g_V_i (wr := []) C (by rw [List.append_nil]; exact hw) hM hg hR q0 he hc hn hl hst hW hdg (fun E u' q9 ce H1 locs1 h1 h2 h3 h4 h5 => kx E u' q9 ce H1 locs1 h1 (by rw [List.append_nil] at h2; exact h2) h3 h4 h5) (fun r u' H1 locs1 h1 h2 => kk r u' H1 locs1 h1 (by rw [List.append_nil] at h2; exact h2))
theorem g_S0_i {post : Int32 → σ → Prop} (C : CX own cc nL rt0 Z A p l s m args meth c) (hw : WD Z A s (f u) H locs)
    (hM : ∀ sz, vx_Met l y (Cond.code y bytes maxL rt :: GW) rm (pP Z As (f u) sz) (pQi Z f (f u) sz post) (pX Z f (f u) sz ex) 0 0 rm.cells rm.slots (va_A (f u) sz))
    (hg : gS own index y bytes maxL rt n) (hR : rmOk rm maxL R cells slots)
    (hn : As.length = n) (hl : ls.size = nL) (hst : st0 = As.reverse ++ rest) (hW : (rest.map fun v => v.category).sum ≤ 8) (hdg : decode cc pc = .ok (.invokestatic index, 3))
    (kx : ∀ (E : String) (u' : σ) (q9 : Addr) (ce : Cell) (H1 : Heap) (locs1 : List Loc), ex E u' → WD Z A s (f u') H1 locs1 → H1[q9]? = some ce → ce.vm = .none → s.vm.findClass E = some ce.cls → vx_W p l e R s m args below meth c H1 locs1 (cells + rm.cells) (slots + rm.slots) Q (F0 m pc ls rest) q9)
    (kk : ∀ (r : Int32) (u' : σ) (H1 : Heap) (locs1 : List Loc), post r u' → WD Z A s (f u') H1 locs1 → W p l e R s m args below meth c H1 locs1 cells slots Q (F0 m (pc + 3) ls (.int r :: rest))) : W p l e R s m args below meth c H locs cells slots Q (F0 m pc ls st0) :=
  g_S_i (wr := []) C (by rw [List.append_nil]; exact hw) hM hg hR hn hl hst hW hdg (fun E u' q9 ce H1 locs1 h1 h2 h3 h4 h5 => kx E u' q9 ce H1 locs1 h1 (by rw [List.append_nil] at h2; exact h2) h3 h4 h5) (fun r u' H1 locs1 h1 h2 => kk r u' H1 locs1 h1 (by rw [List.append_nil] at h2; exact h2))
theorem g_N0_i {post : Int32 → σ → Prop} (C : CX own cc nL rt0 Z A p l s m args meth c) (hw : WD Z A s (f u) H locs)
    (hM : ∀ sz, Met l y (Cond.code y bytes maxL rt :: GW) rm (pP Z (.ref b :: As) (f u) sz) (pQi Z f (f u) sz post) 0 0 (va_A (f u) sz)) (hm0 : rm.cells = 0) (hs0 : rm.slots = 0)
    (hg : gN own index y host bytes maxL rt n) (hR : rmOk rm maxL R cells slots) (q0 : Nat) (he : (f u)[q0]? = some (b, .inr (ci, fs))) (hc : cls4[ci]? = some (y.cls, T, N))
    (hn : As.length = n) (hl : ls.size = nL) (hst : st0 = As.reverse ++ .ref b :: rest) (hW : (rest.map fun v => v.category).sum ≤ 8) (hdg : decode cc pc = .ok (.invokevirtual index, 3))
    (kk : ∀ (r : Int32) (u' : σ) (H1 : Heap) (locs1 : List Loc), post r u' → WD Z A s (f u') H1 locs1 → W p l e R s m args below meth c H1 locs1 cells slots Q (F0 m (pc + 3) ls (.int r :: rest))) : W p l e R s m args below meth c H locs cells slots Q (F0 m pc ls st0) :=
  g_N_i (wr := []) C (by rw [List.append_nil]; exact hw) hM hm0 hs0 hg hR q0 he hc hn hl hst hW hdg (fun r u' H1 locs1 h1 h2 => kk r u' H1 locs1 h1 (by rw [List.append_nil] at h2; exact h2))
theorem g_V0_l {post : Int64 → σ → Prop} (C : CX own cc nL rt0 Z A p l s m args meth c) (hw : WD Z A s (f u) H locs)
    (hM : ∀ sz, vx_Met l y (Cond.code y bytes maxL rt :: GW) rm (pP Z (.ref b :: As) (f u) sz) (pQl Z f (f u) sz post) (pX Z f (f u) sz ex) 0 0 rm.cells rm.slots (va_A (f u) sz))
    (hg : gV own index y bytes maxL rt n) (hR : rmOk rm maxL R cells slots) (q0 : Nat) (he : (f u)[q0]? = some (b, .inr (ci, fs))) (hc : cls4[ci]? = some (y.cls, T, N))
    (hn : As.length = n) (hl : ls.size = nL) (hst : st0 = As.reverse ++ .ref b :: rest) (hW : (rest.map fun v => v.category).sum ≤ 8) (hdg : decode cc pc = .ok (.invokevirtual index, 3))
    (kx : ∀ (E : String) (u' : σ) (q9 : Addr) (ce : Cell) (H1 : Heap) (locs1 : List Loc), ex E u' → WD Z A s (f u') H1 locs1 → H1[q9]? = some ce → ce.vm = .none → s.vm.findClass E = some ce.cls → vx_W p l e R s m args below meth c H1 locs1 (cells + rm.cells) (slots + rm.slots) Q (F0 m pc ls rest) q9)
    (kk : ∀ (r : Int64) (u' : σ) (H1 : Heap) (locs1 : List Loc), post r u' → WD Z A s (f u') H1 locs1 → W p l e R s m args below meth c H1 locs1 cells slots Q (F0 m (pc + 3) ls (.long r :: rest))) : W p l e R s m args below meth c H locs cells slots Q (F0 m pc ls st0) :=
  g_V_l (wr := []) C (by rw [List.append_nil]; exact hw) hM hg hR q0 he hc hn hl hst hW hdg (fun E u' q9 ce H1 locs1 h1 h2 h3 h4 h5 => kx E u' q9 ce H1 locs1 h1 (by rw [List.append_nil] at h2; exact h2) h3 h4 h5) (fun r u' H1 locs1 h1 h2 => kk r u' H1 locs1 h1 (by rw [List.append_nil] at h2; exact h2))
theorem g_S0_l {post : Int64 → σ → Prop} (C : CX own cc nL rt0 Z A p l s m args meth c) (hw : WD Z A s (f u) H locs)
    (hM : ∀ sz, vx_Met l y (Cond.code y bytes maxL rt :: GW) rm (pP Z As (f u) sz) (pQl Z f (f u) sz post) (pX Z f (f u) sz ex) 0 0 rm.cells rm.slots (va_A (f u) sz))
    (hg : gS own index y bytes maxL rt n) (hR : rmOk rm maxL R cells slots)
    (hn : As.length = n) (hl : ls.size = nL) (hst : st0 = As.reverse ++ rest) (hW : (rest.map fun v => v.category).sum ≤ 8) (hdg : decode cc pc = .ok (.invokestatic index, 3))
    (kx : ∀ (E : String) (u' : σ) (q9 : Addr) (ce : Cell) (H1 : Heap) (locs1 : List Loc), ex E u' → WD Z A s (f u') H1 locs1 → H1[q9]? = some ce → ce.vm = .none → s.vm.findClass E = some ce.cls → vx_W p l e R s m args below meth c H1 locs1 (cells + rm.cells) (slots + rm.slots) Q (F0 m pc ls rest) q9)
    (kk : ∀ (r : Int64) (u' : σ) (H1 : Heap) (locs1 : List Loc), post r u' → WD Z A s (f u') H1 locs1 → W p l e R s m args below meth c H1 locs1 cells slots Q (F0 m (pc + 3) ls (.long r :: rest))) : W p l e R s m args below meth c H locs cells slots Q (F0 m pc ls st0) :=
  g_S_l (wr := []) C (by rw [List.append_nil]; exact hw) hM hg hR hn hl hst hW hdg (fun E u' q9 ce H1 locs1 h1 h2 h3 h4 h5 => kx E u' q9 ce H1 locs1 h1 (by rw [List.append_nil] at h2; exact h2) h3 h4 h5) (fun r u' H1 locs1 h1 h2 => kk r u' H1 locs1 h1 (by rw [List.append_nil] at h2; exact h2))
theorem g_N0_l {post : Int64 → σ → Prop} (C : CX own cc nL rt0 Z A p l s m args meth c) (hw : WD Z A s (f u) H locs)
    (hM : ∀ sz, Met l y (Cond.code y bytes maxL rt :: GW) rm (pP Z (.ref b :: As) (f u) sz) (pQl Z f (f u) sz post) 0 0 (va_A (f u) sz)) (hm0 : rm.cells = 0) (hs0 : rm.slots = 0)
    (hg : gN own index y host bytes maxL rt n) (hR : rmOk rm maxL R cells slots) (q0 : Nat) (he : (f u)[q0]? = some (b, .inr (ci, fs))) (hc : cls4[ci]? = some (y.cls, T, N))
    (hn : As.length = n) (hl : ls.size = nL) (hst : st0 = As.reverse ++ .ref b :: rest) (hW : (rest.map fun v => v.category).sum ≤ 8) (hdg : decode cc pc = .ok (.invokevirtual index, 3))
    (kk : ∀ (r : Int64) (u' : σ) (H1 : Heap) (locs1 : List Loc), post r u' → WD Z A s (f u') H1 locs1 → W p l e R s m args below meth c H1 locs1 cells slots Q (F0 m (pc + 3) ls (.long r :: rest))) : W p l e R s m args below meth c H locs cells slots Q (F0 m pc ls st0) :=
  g_N_l (wr := []) C (by rw [List.append_nil]; exact hw) hM hm0 hs0 hg hR q0 he hc hn hl hst hW hdg (fun r u' H1 locs1 h1 h2 => kk r u' H1 locs1 h1 (by rw [List.append_nil] at h2; exact h2))
theorem g_V0_v {post : σ → Prop} (C : CX own cc nL rt0 Z A p l s m args meth c) (hw : WD Z A s (f u) H locs)
    (hM : ∀ sz, vx_Met l y (Cond.code y bytes maxL rt :: GW) rm (pP Z (.ref b :: As) (f u) sz) (pQv Z f (f u) sz post) (pX Z f (f u) sz ex) 0 0 rm.cells rm.slots (va_A (f u) sz))
    (hg : gV own index y bytes maxL rt n) (hR : rmOk rm maxL R cells slots) (q0 : Nat) (he : (f u)[q0]? = some (b, .inr (ci, fs))) (hc : cls4[ci]? = some (y.cls, T, N))
    (hn : As.length = n) (hl : ls.size = nL) (hst : st0 = As.reverse ++ .ref b :: rest) (hW : (rest.map fun v => v.category).sum ≤ 8) (hdg : decode cc pc = .ok (.invokevirtual index, 3))
    (kx : ∀ (E : String) (u' : σ) (q9 : Addr) (ce : Cell) (H1 : Heap) (locs1 : List Loc), ex E u' → WD Z A s (f u') H1 locs1 → H1[q9]? = some ce → ce.vm = .none → s.vm.findClass E = some ce.cls → vx_W p l e R s m args below meth c H1 locs1 (cells + rm.cells) (slots + rm.slots) Q (F0 m pc ls rest) q9)
    (kk : ∀ (u' : σ) (H1 : Heap) (locs1 : List Loc), post u' → WD Z A s (f u') H1 locs1 → W p l e R s m args below meth c H1 locs1 cells slots Q (F0 m (pc + 3) ls (rest))) : W p l e R s m args below meth c H locs cells slots Q (F0 m pc ls st0) :=
  g_V_v (wr := []) C (by rw [List.append_nil]; exact hw) hM hg hR q0 he hc hn hl hst hW hdg (fun E u' q9 ce H1 locs1 h1 h2 h3 h4 h5 => kx E u' q9 ce H1 locs1 h1 (by rw [List.append_nil] at h2; exact h2) h3 h4 h5) (fun u' H1 locs1 h1 h2 => kk u' H1 locs1 h1 (by rw [List.append_nil] at h2; exact h2))
theorem g_S0_v {post : σ → Prop} (C : CX own cc nL rt0 Z A p l s m args meth c) (hw : WD Z A s (f u) H locs)
    (hM : ∀ sz, vx_Met l y (Cond.code y bytes maxL rt :: GW) rm (pP Z As (f u) sz) (pQv Z f (f u) sz post) (pX Z f (f u) sz ex) 0 0 rm.cells rm.slots (va_A (f u) sz))
    (hg : gS own index y bytes maxL rt n) (hR : rmOk rm maxL R cells slots)
    (hn : As.length = n) (hl : ls.size = nL) (hst : st0 = As.reverse ++ rest) (hW : (rest.map fun v => v.category).sum ≤ 8) (hdg : decode cc pc = .ok (.invokestatic index, 3))
    (kx : ∀ (E : String) (u' : σ) (q9 : Addr) (ce : Cell) (H1 : Heap) (locs1 : List Loc), ex E u' → WD Z A s (f u') H1 locs1 → H1[q9]? = some ce → ce.vm = .none → s.vm.findClass E = some ce.cls → vx_W p l e R s m args below meth c H1 locs1 (cells + rm.cells) (slots + rm.slots) Q (F0 m pc ls rest) q9)
    (kk : ∀ (u' : σ) (H1 : Heap) (locs1 : List Loc), post u' → WD Z A s (f u') H1 locs1 → W p l e R s m args below meth c H1 locs1 cells slots Q (F0 m (pc + 3) ls (rest))) : W p l e R s m args below meth c H locs cells slots Q (F0 m pc ls st0) :=
  g_S_v (wr := []) C (by rw [List.append_nil]; exact hw) hM hg hR hn hl hst hW hdg (fun E u' q9 ce H1 locs1 h1 h2 h3 h4 h5 => kx E u' q9 ce H1 locs1 h1 (by rw [List.append_nil] at h2; exact h2) h3 h4 h5) (fun u' H1 locs1 h1 h2 => kk u' H1 locs1 h1 (by rw [List.append_nil] at h2; exact h2))
theorem g_N0_v {post : σ → Prop} (C : CX own cc nL rt0 Z A p l s m args meth c) (hw : WD Z A s (f u) H locs)
    (hM : ∀ sz, Met l y (Cond.code y bytes maxL rt :: GW) rm (pP Z (.ref b :: As) (f u) sz) (pQv Z f (f u) sz post) 0 0 (va_A (f u) sz)) (hm0 : rm.cells = 0) (hs0 : rm.slots = 0)
    (hg : gN own index y host bytes maxL rt n) (hR : rmOk rm maxL R cells slots) (q0 : Nat) (he : (f u)[q0]? = some (b, .inr (ci, fs))) (hc : cls4[ci]? = some (y.cls, T, N))
    (hn : As.length = n) (hl : ls.size = nL) (hst : st0 = As.reverse ++ .ref b :: rest) (hW : (rest.map fun v => v.category).sum ≤ 8) (hdg : decode cc pc = .ok (.invokevirtual index, 3))
    (kk : ∀ (u' : σ) (H1 : Heap) (locs1 : List Loc), post u' → WD Z A s (f u') H1 locs1 → W p l e R s m args below meth c H1 locs1 cells slots Q (F0 m (pc + 3) ls (rest))) : W p l e R s m args below meth c H locs cells slots Q (F0 m pc ls st0) :=
  g_N_v (wr := []) C (by rw [List.append_nil]; exact hw) hM hm0 hs0 hg hR q0 he hc hn hl hst hW hdg (fun u' H1 locs1 h1 h2 => kk u' H1 locs1 h1 (by rw [List.append_nil] at h2; exact h2))
/-- entry of a method without a table -/
theorem g_ent {av : List Value} {Qc : Nat → Array Value → State → Outcome → State → Prop} {XC : Nat → String → State → State → Prop}
    (hl : l.stackTraces = false) (hy : plainName y.cls = true) (hav : (lg_sl av).length ≤ maxL)
    (body : ∀ (p : Program) (e : Env) (s : State) (m : MethodId) (args : Array Value) (below : List Frame) (meth : Method) (c : Code) (ls : Array Slot), CX y.cls bytes maxL rt Z (va_A (f u) s.heap.size) p l s m args meth c → (∀ x ∈ c.exceptionTable.toList, False) → WD Z (va_A (f u) s.heap.size) s (f u) s.heap [] → lv_has ls maxL (lv_args 0 av) →
      W p l e rm s m args below meth c s.heap [] 0 0 (vx_MQ below (Qc s.heap.size) (XC s.heap.size) args s 0 0 rm.cells rm.slots (va_A (f u) s.heap.size)) (F0 m 0 ls [])) :
    ∀ sz, vx_Met l y (Cond.code y bytes maxL rt :: GW) rm (pP Z av (f u) sz) (Qc sz) (XC sz) 0 0 rm.cells rm.slots (va_A (f u) sz) := by
  intro sz
  refine vx_ofW (cc := bytes) (maxL := maxL) (ret := rt) hy rfl ?_
  intro p e s m args below meth c s₁ B hml htab hv
  obtain ⟨rfl, hsz, hP, hK, hD0, hE⟩ := hv
  subst hsz
  have hts := atoms_spec (ws := Cond.code y bytes maxL rt :: GW) B.pre
  have hl9 := lv_entry av (n := maxL) hav
  rw [lg_entry_eq]
  exact body p e s m _ below meth c _ ⟨hl, B.exec, B.bytes, hml, findClass_of_methodNamed B.named, fun w h => hts w (List.mem_cons_of_mem _ h), B.returns, B.notSynchronized, hK, hE, fun q h => Or.inr h⟩ htab ⟨hP, hD0.self, va_S.rf⟩ hl9
theorem vx_toMet {ws : List Cond} {Pc : Array Value → State → Prop} {Qc : Array Value → State → Outcome → State → Prop} {XC : String → State → State → Prop} {mc ms mx sx : Nat} {free : Addr → Prop} (h : vx_Met l y ws rm Pc Qc XC mc ms mx sx free) (hX : ∀ E st t, ¬ XC E st t) : Met l y ws rm Pc Qc mc ms free := by
  refine MetFree.mono h (fun _ _ h => h) (fun _ _ _ _ _ h => h) ?_
  intro a st o t _ hq
  rcases hq with hq | ⟨q, -, E, ce, L, hx, -⟩
  · exact hq
  · exact absurd hx (hX E st t)
section OWR
variable {u0 : σ} {mx sx : Nat} {XC : String → State → State → Prop}
theorem g_iret {ty : FieldType} {v : Int32} {post : Int32 → σ → Prop} (C : CX own cc nL (some ty) Z (va_A (f u0) s.heap.size) p l s m args meth c) (hw : WD Z (va_A (f u0) s.heap.size) s (f u) H locs) (hn : narrow ty (.int v) = .int v) (h : post v u) (hdg : decode cc pc = .ok (.ireturn, 1)) :
    W p l e R s m args below meth c H locs 0 0 (vx_MQ below (pQi Z f (f u0) s.heap.size post) XC args s 0 0 mx sx (va_A (f u0) s.heap.size)) (F0 m pc ls [.int v]) :=
  vx_ret (W.zret C.2.1 C.2.2.1 C.2.2.2.2.2.2.1 hn (fun t ht hW => ⟨⟨v, u, rfl, h, by rw [ht]; exact hw.1, hw.2.1⟩, hw.2.2.F ht⟩) hw.2.2.2.2 hdg C.2.2.2.2.2.2.2.1)
theorem g_lret {v : Int64} {post : Int64 → σ → Prop} (C : CX own cc nL (some .long) Z (va_A (f u0) s.heap.size) p l s m args meth c) (hw : WD Z (va_A (f u0) s.heap.size) s (f u) H locs) (h : post v u) (hdg : decode cc pc = .ok (.lreturn, 1)) :
    W p l e R s m args below meth c H locs 0 0 (vx_MQ below (pQl Z f (f u0) s.heap.size post) XC args s 0 0 mx sx (va_A (f u0) s.heap.size)) (F0 m pc ls [.long v]) :=
  vx_ret (W.lret C.2.1 C.2.2.1 C.2.2.2.2.2.2.1 (fun t ht hW => ⟨⟨v, u, rfl, h, by rw [ht]; exact hw.1, hw.2.1⟩, hw.2.2.F ht⟩) hw.2.2.2.2 hdg C.2.2.2.2.2.2.2.1)
theorem g_vret {post : σ → Prop} (C : CX own cc nL none Z (va_A (f u0) s.heap.size) p l s m args meth c) (hw : WD Z (va_A (f u0) s.heap.size) s (f u) H locs) (h : post u) (hdg : decode cc pc = .ok (.return_, 1)) :
    W p l e R s m args below meth c H locs 0 0 (vx_MQ below (pQv Z f (f u0) s.heap.size post) XC args s 0 0 mx sx (va_A (f u0) s.heap.size)) (F0 m pc ls []) :=
  vx_ret (W.vret C.2.1 C.2.2.1 C.2.2.2.2.2.2.1 (fun t ht hW => ⟨⟨u, rfl, h, by rw [ht]; exact hw.1, hw.2.1⟩, hw.2.2.F ht⟩) hw.2.2.2.2 hdg C.2.2.2.2.2.2.2.1)
theorem g_out {Qc : Array Value → State → Outcome → State → Prop} {E : String} {ce : Cell} {q9 : Addr} (C : CX own cc nL rt0 Z (va_A (f u0) s.heap.size) p l s m args meth c) (htab : ∀ x ∈ c.exceptionTable.toList, False) (hw : WD Z (va_A (f u0) s.heap.size) s (f u) H locs) (h : ex E u) (h1 : H[q9]? = some ce) (h2 : ce.vm = .none) (h3 : s.vm.findClass E = some ce.cls) (hc : cells ≤ mx) (hs : slots ≤ sx) :
    vx_W p l e R s m args below meth c H locs cells slots (vx_MQ below Qc (pX Z f (f u0) s.heap.size ex) args s 0 0 mx sx (va_A (f u0) s.heap.size)) (F0 m pc ls rest) q9 :=
  vx_out (fun x hx => (htab x hx).elim) C.2.2.2.2.2.2.2.1 h1 h2 h3 (fun t ht hvm => ⟨(E, u), h, ⟨rfl, by rw [ht]; exact hw.1, hw.2.1⟩, hw.2.2.F ht⟩) hw.2.2.2.2 hc hs
theorem g_throw {Qc : Array Value → State → Outcome → State → Prop} {E text : String} {ik is ic : Nat} (C : CX "CoderTables" cc nL rt0 Z (va_A (f u0) s.heap.size) p l s m args meth c) (htab : ∀ x ∈ c.exceptionTable.toList, False) (hw : WD Z (va_A (f u0) s.heap.size) s (f u) H locs)
    (hE : Bundle.fit E = true ∧ Cond.classLink "CoderTables" ik E ∈ GW ∧ Cond.initialized E ∈ GW ∧ (∀ w ∈ (vx_atS "CoderTables" ic E ["java/lang/RuntimeException", "java/lang/Exception"]).filter goodWord, w ∈ lw_tbl) ∧ (∀ w ∈ (vx_atS "CoderTables" ic E ["java/lang/RuntimeException", "java/lang/Exception"]).filter (fun w => !goodWord w), w ∈ NG) ∧ (∀ w ∈ Cond.classLink "CoderTables" ik E :: Cond.initialized E :: vx_atS "CoderTables" ic E ["java/lang/RuntimeException", "java/lang/Exception"], vx_ot w = true))
    (hk : (is, text) ∈ SG) (h : ex E u) (hl : ls.size = nL) (d0 : decode cc pc = .ok (.new ik, 3)) (d3 : decode cc (pc + 3) = .ok (.dup, 1)) (d4 : decode cc (pc + 4) = .ok (.ldc is, 2)) (d6 : decode cc (pc + 6) = .ok (.invokespecial ic, 3)) (d9 : decode cc (pc + 9) = .ok (.athrow, 1))
    (hR : 5 < R.frames ∧ (rest.map fun v => v.category).sum + 82 ≤ R.locals ∧ cells + 1 ≤ R.cells ∧ slots + 6 ≤ R.slots) (hc : cells + 1 ≤ mx) (hs : slots + 6 ≤ sx) :
    W p l e R s m args below meth c H locs cells slots (vx_MQ below Qc (pX Z f (f u0) s.heap.size ex) args s 0 0 mx sx (va_A (f u0) s.heap.size)) (F0 m pc ls rest) := by
  obtain ⟨e1, e2, e3, e4, e5, e7⟩ := hE
  obtain ⟨r1, r2, r3, r4⟩ := hR
  have hgw := C.2.2.2.2.2.1
  have hEX := C.2.2.2.2.2.2.2.2.2.1
  have hat : ∀ w ∈ vx_atS "CoderTables" ic E ["java/lang/RuntimeException", "java/lang/Exception"], w.before args s = true :=
    vx_hat (fun w hw => hgw w (List.mem_filter.mpr ⟨e4 w hw, (List.mem_filter.mp hw).2⟩)) e5 (fun w h => va_Nw.use (NG_tab w h) (hEX.1 w h))
  refine vx_throwS (own := "CoderTables") (cls := E) (text := text) (names := ["java/lang/RuntimeException", "java/lang/Exception"]) (sa := Z.2.2 is) C.2.1 C.2.2.1 C.1 C.2.2.2.2.1 e1 (by decide +kernel) (hgw _ e2) (hgw _ e3) (hEX.2.1 _ hk) hat e7 hEX.2.2.2.1 hEX.2.2.2.2 hw.2.2 (by rw [hl]; exact C.2.2.2.1.symm) d0 d3 d4 d6 d9 (fun x hx => (htab x hx).elim) r1 r2 r3 r4 C.2.2.2.2.2.2.2.1 ?_ hw.2.2.2.2 hc hs
  intro t hvm hle hq
  exact ⟨(E, u), h, ⟨rfl, hw.1.kept (fun k q hk => hq q.1 ((hw.1 k q hk).lt)), hw.2.1⟩, Nat.le_trans hw.2.2.1 hle, fun q h1 h2 => (hq q (Nat.lt_of_lt_of_le h1 hw.2.2.1)).trans (hw.2.2.2.1 q h1 h2)⟩
end OWR
section OWF
variable {ws : va_W} {a : Nat} {Cn : String}
theorem g_get (C : CX own cc nL rt0 Z A p l s m args meth c) (hw : WD Z A s ws H locs) (q0 : Nat) (he : ws[q0]? = some (a, .inr (ci, fs))) (hc : cls4[ci]? = some (Cn, T, N)) (hin : ∀ w ∈ u_ws Cn T N, w ∈ GW) (k : Nat) (hk : k < N) (hlink : Cond.fieldLink own index Cn (T k).2.1 (T k).2.2.1 ∈ GW) (hT : (T k).1 = Cn) {v : Value} (hv : fs[k]? = some v) (hdg : decode cc pc = .ok (.getfield index, 3))
    (kk : W p l e R s m args below meth c H locs cells slots Q (F0 m (pc + 3) ls (v :: rest))) : W p l e R s m args below meth c H locs cells slots Q (F0 m pc ls (.ref a :: rest)) :=
  va_get C.2.1 C.2.2.1 C.2.2.2.2.2.1 hin C.2.2.2.2.1 C.2.2.2.2.2.2.2.2.1 hw.1 q0 he hc k hk (C.2.2.2.2.2.1 _ hlink) (fun x h => by rw [hT] at h; exact h) hv hdg kk
theorem g_getN (C : CX own cc nL rt0 Z A p l s m args meth c) (hw : WD Z A s ws H locs) (q0 : Nat) (he : ws[q0]? = some (a, .inr (ci, fs))) (hc : cls4[ci]? = some (Cn, T, N)) (hin : ∀ w ∈ u_ws Cn T N, w ∈ GW) (k : Nat) (hk : k < N) (hlink : Cond.fieldLinkNest own index Cn (T k).2.1 (T k).2.2.1 host ∈ NG) (hT : (T k).1 = Cn) {v : Value} (hv : fs[k]? = some v) (hdg : decode cc pc = .ok (.getfield index, 3))
    (kk : W p l e R s m args below meth c H locs cells slots Q (F0 m (pc + 3) ls (v :: rest))) : W p l e R s m args below meth c H locs cells slots Q (F0 m pc ls (.ref a :: rest)) :=
  va_getN C.2.1 C.2.2.1 C.2.2.2.2.2.1 hin C.2.2.2.2.1 C.2.2.2.2.2.2.2.2.1 hw.1 q0 he hc k hk (va_Nw.use (NG_tab _ hlink) (C.2.2.2.2.2.2.2.2.2.1.1 _ hlink)) (fun x h => by rw [hT] at h; exact h) hv hdg kk
theorem g_put (C : CX own cc nL rt0 Z A p l s m args meth c) (hw : WD Z A s ws H locs) (q0 : Nat) (he : ws[q0]? = some (a, .inr (ci, fs))) (hc : cls4[ci]? = some (Cn, T, N)) (hin : ∀ w ∈ u_ws Cn T N, w ∈ GW) (ty0 : Nat → FieldType) (hty : ∀ k, k < N → parseFieldDescriptor (T k).2.2.1 = some (ty0 k)) (hnm : ∀ a, a < N → ∀ b, b < N → a ≠ b → (T a).2.1 ≠ (T b).2.1) (k : Nat) (hk : k < N) (hlink : Cond.fieldLink own index Cn (T k).2.1 (T k).2.2.1 ∈ GW) (hT : (T k).1 = Cn) (hfin : (T k).2.2.2 = false) {v : Value} (hn : narrow (ty0 k) v = v) (hfit : fits (ty0 k) v = true) (hl : k < fs.length) (hdg : decode cc pc = .ok (.putfield index, 3))
    (kk : ∀ (H1 : Heap) (locs1 : List Loc), WD Z A s (ws.set q0 (a, .inr (ci, fs.set k v))) H1 locs1 → W p l e R s m args below meth c H1 locs1 cells slots Q (F0 m (pc + 3) ls rest)) : W p l e R s m args below meth c H locs cells slots Q (F0 m pc ls (v :: .ref a :: rest)) :=
  va_put C.2.1 C.2.2.1 C.2.2.2.2.2.1 hin ty0 hty hnm C.2.2.2.2.1 C.2.2.2.2.2.2.2.2.1 hw.1 hw.2.1 hw.2.2 q0 he hc k hk (C.2.2.2.2.2.1 _ hlink) (fun x h => by rw [hT] at h; exact h) hfin (hty k hk) hn hfit hl hdg (fun H1 locs1 h1 h2 h3 => kk H1 locs1 ⟨h1, h2, h3⟩)
theorem g_ldi {k9 : Nat} {f : Nat → Int32} (C : CX own cc nL rt0 Z A p l s m args meth c) (hw : WD Z A s ws H locs) (q0 : Nat) (ha : ws[q0]? = some (a, .inl (Z.2.1 0, k9, .inl f))) {i : Int32} (hin : vp_in i k9) (hdg : decode cc pc = .ok (.iaload, 1))
    (kk : W p l e R s m args below meth c H locs cells slots Q (F0 m (pc + 1) ls (.int (f i.toNatClampNeg) :: rest))) : W p l e R s m args below meth c H locs cells slots Q (F0 m pc ls (.int i :: .ref a :: rest)) :=
  va_iald C.2.1 C.2.2.1 C.2.2.2.2.2.2.2.2.1 hw.1 q0 0 ha rfl hin hdg kk
theorem g_sti {k9 : Nat} {f : Nat → Int32} (C : CX own cc nL rt0 Z A p l s m args meth c) (hw : WD Z A s ws H locs) (q0 : Nat) (ha : ws[q0]? = some (a, .inl (Z.2.1 0, k9, .inl f))) {i : Int32} {x : Int32} (hin : vp_in i k9) (hdg : decode cc pc = .ok (.iastore, 1))
    (kk : ∀ (H1 : Heap) (locs1 : List Loc), WD Z A s (ws.set q0 (a, .inl (Z.2.1 0, k9, .inl (upd f i.toNatClampNeg x)))) H1 locs1 → W p l e R s m args below meth c H1 locs1 cells slots Q (F0 m (pc + 1) ls rest)) : W p l e R s m args below meth c H locs cells slots Q (F0 m pc ls (.int x :: .int i :: .ref a :: rest)) :=
  va_iast C.2.1 C.2.2.1 C.2.2.2.2.2.2.2.2.1 hw.1 hw.2.1 hw.2.2 q0 0 ha rfl hin hdg (fun H1 locs1 h1 h2 h3 => kk H1 locs1 ⟨h1, h2, h3⟩)
theorem g_ldc {k9 : Nat} {f : Nat → Int32} (C : CX own cc nL rt0 Z A p l s m args meth c) (hw : WD Z A s ws H locs) (q0 : Nat) (ha : ws[q0]? = some (a, .inl (Z.2.1 1, k9, .inl f))) {i : Int32} (hin : vp_in i k9) (hdg : decode cc pc = .ok (.caload, 1))
    (kk : W p l e R s m args below meth c H locs cells slots Q (F0 m (pc + 1) ls (.int (f i.toNatClampNeg) :: rest))) : W p l e R s m args below meth c H locs cells slots Q (F0 m pc ls (.int i :: .ref a :: rest)) :=
  va_cald C.2.1 C.2.2.1 C.2.2.2.2.2.2.2.2.1 hw.1 q0 1 ha rfl hin hdg kk
theorem g_stc {k9 : Nat} {f : Nat → Int32} (C : CX own cc nL rt0 Z A p l s m args meth c) (hw : WD Z A s ws H locs) (q0 : Nat) (ha : ws[q0]? = some (a, .inl (Z.2.1 1, k9, .inl f))) {i : Int32} {x : Int32} (hin : vp_in i k9) (hdg : decode cc pc = .ok (.castore, 1))
    (kk : ∀ (H1 : Heap) (locs1 : List Loc), WD Z A s (ws.set q0 (a, .inl (Z.2.1 1, k9, .inl (upd f i.toNatClampNeg (vp_nar .char x))))) H1 locs1 → W p l e R s m args below meth c H1 locs1 cells slots Q (F0 m (pc + 1) ls rest)) : W p l e R s m args below meth c H locs cells slots Q (F0 m pc ls (.int x :: .int i :: .ref a :: rest)) :=
  va_cast C.2.1 C.2.2.1 C.2.2.2.2.2.2.2.2.1 hw.1 hw.2.1 hw.2.2 q0 1 ha rfl hin hdg (fun H1 locs1 h1 h2 h3 => kk H1 locs1 ⟨h1, h2, h3⟩)
theorem g_ldz {k9 : Nat} {f : Nat → Int32} (C : CX own cc nL rt0 Z A p l s m args meth c) (hw : WD Z A s ws H locs) (q0 : Nat) (ha : ws[q0]? = some (a, .inl (Z.2.1 2, k9, .inl f))) {i : Int32} (hin : vp_in i k9) (hdg : decode cc pc = .ok (.baload, 1))
    (kk : W p l e R s m args below meth c H locs cells slots Q (F0 m (pc + 1) ls (.int (f i.toNatClampNeg) :: rest))) : W p l e R s m args below meth c H locs cells slots Q (F0 m pc ls (.int i :: .ref a :: rest)) :=
  va_zald C.2.1 C.2.2.1 C.2.2.2.2.2.2.2.2.1 hw.1 q0 2 ha rfl hin hdg kk
theorem g_stz {k9 : Nat} {f : Nat → Int32} (C : CX own cc nL rt0 Z A p l s m args meth c) (hw : WD Z A s ws H locs) (q0 : Nat) (ha : ws[q0]? = some (a, .inl (Z.2.1 2, k9, .inl f))) {i : Int32} {x : Int32} (hin : vp_in i k9) (hdg : decode cc pc = .ok (.bastore, 1))
    (kk : ∀ (H1 : Heap) (locs1 : List Loc), WD Z A s (ws.set q0 (a, .inl (Z.2.1 2, k9, .inl (upd f i.toNatClampNeg (vp_nar .boolean x))))) H1 locs1 → W p l e R s m args below meth c H1 locs1 cells slots Q (F0 m (pc + 1) ls rest)) : W p l e R s m args below meth c H locs cells slots Q (F0 m pc ls (.int x :: .int i :: .ref a :: rest)) :=
  va_zast C.2.1 C.2.2.1 C.2.2.2.2.2.2.2.2.1 hw.1 hw.2.1 hw.2.2 q0 2 ha rfl hin hdg (fun H1 locs1 h1 h2 h3 => kk H1 locs1 ⟨h1, h2, h3⟩)
theorem g_ldl {k9 : Nat} {f : Nat → Int64} (C : CX own cc nL rt0 Z A p l s m args meth c) (hw : WD Z A s ws H locs) (q0 : Nat) (ha : ws[q0]? = some (a, .inl (Z.2.1 3, k9, .inr (.inl f)))) {i : Int32} (hin : vp_in i k9) (hdg : decode cc pc = .ok (.laload, 1))
    (kk : W p l e R s m args below meth c H locs cells slots Q (F0 m (pc + 1) ls (.long (f i.toNatClampNeg) :: rest))) : W p l e R s m args below meth c H locs cells slots Q (F0 m pc ls (.int i :: .ref a :: rest)) :=
  va_lald C.2.1 C.2.2.1 C.2.2.2.2.2.2.2.2.1 hw.1 q0 3 ha rfl hin hdg kk
theorem g_stl {k9 : Nat} {f : Nat → Int64} (C : CX own cc nL rt0 Z A p l s m args meth c) (hw : WD Z A s ws H locs) (q0 : Nat) (ha : ws[q0]? = some (a, .inl (Z.2.1 3, k9, .inr (.inl f)))) {i : Int32} {x : Int64} (hin : vp_in i k9) (hdg : decode cc pc = .ok (.lastore, 1))
    (kk : ∀ (H1 : Heap) (locs1 : List Loc), WD Z A s (ws.set q0 (a, .inl (Z.2.1 3, k9, .inr (.inl (vp_updL f i.toNatClampNeg x))))) H1 locs1 → W p l e R s m args below meth c H1 locs1 cells slots Q (F0 m (pc + 1) ls rest)) : W p l e R s m args below meth c H locs cells slots Q (F0 m pc ls (.long x :: .int i :: .ref a :: rest)) :=
  va_last C.2.1 C.2.2.1 C.2.2.2.2.2.2.2.2.1 hw.1 hw.2.1 hw.2.2 q0 3 ha rfl hin hdg (fun H1 locs1 h1 h2 h3 => kk H1 locs1 ⟨h1, h2, h3⟩)
theorem g_len {k9 : vp_A} {t0 : Nat} {ty : FieldType} (C : CX own cc nL rt0 Z A p l s m args meth c) (hw : WD Z A s ws H locs) (q0 : Nat) (ha : ws[q0]? = some (a, .inl (Z.2.1 t0, k9))) (ht : (tyl Z.2.1)[t0]? = some (Z.2.1 t0, ty)) {v : Int32} (hv : Int32.ofNat k9.1 = v) (hdg : decode cc pc = .ok (.arraylength, 1))
    (kk : W p l e R s m args below meth c H locs cells slots Q (F0 m (pc + 1) ls (.int v :: rest))) : W p l e R s m args below meth c H locs cells slots Q (F0 m pc ls (.ref a :: rest)) :=
  va_alen C.2.1 C.2.2.1 C.2.2.2.2.2.2.2.2.1 hw.1 q0 t0 ha ht hv hdg kk

end OWF
end OWC
theorem hE_U : Bundle.fit "java/lang/UnsupportedOperationException" = true ∧ Cond.classLink "CoderTables" 61 "java/lang/UnsupportedOperationException" ∈ GW ∧ Cond.initialized "java/lang/UnsupportedOperationException" ∈ GW ∧ (∀ w ∈ (vx_atS "CoderTables" 65 "java/lang/UnsupportedOperationException" ["java/lang/RuntimeException", "java/lang/Exception"]).filter goodWord, w ∈ lw_tbl) ∧ (∀ w ∈ (vx_atS "CoderTables" 65 "java/lang/UnsupportedOperationException" ["java/lang/RuntimeException", "java/lang/Exception"]).filter (fun w => !goodWord w), w ∈ NG) ∧ (∀ w ∈ Cond.classLink "CoderTables" 61 "java/lang/UnsupportedOperationException" :: Cond.initialized "java/lang/UnsupportedOperationException" :: vx_atS "CoderTables" 65 "java/lang/UnsupportedOperationException" ["java/lang/RuntimeException", "java/lang/Exception"], vx_ot w = true) :=
  ⟨by decide +kernel, w240, w60, by decide +kernel, by decide +kernel, by decide +kernel⟩
theorem hE_O : Bundle.fit "java/lang/IndexOutOfBoundsException" = true ∧ Cond.classLink "CoderTables" 99 "java/lang/IndexOutOfBoundsException" ∈ GW ∧ Cond.initialized "java/lang/IndexOutOfBoundsException" ∈ GW ∧ (∀ w ∈ (vx_atS "CoderTables" 103 "java/lang/IndexOutOfBoundsException" ["java/lang/RuntimeException", "java/lang/Exception"]).filter goodWord, w ∈ lw_tbl) ∧ (∀ w ∈ (vx_atS "CoderTables" 103 "java/lang/IndexOutOfBoundsException" ["java/lang/RuntimeException", "java/lang/Exception"]).filter (fun w => !goodWord w), w ∈ NG) ∧ (∀ w ∈ Cond.classLink "CoderTables" 99 "java/lang/IndexOutOfBoundsException" :: Cond.initialized "java/lang/IndexOutOfBoundsException" :: vx_atS "CoderTables" 103 "java/lang/IndexOutOfBoundsException" ["java/lang/RuntimeException", "java/lang/Exception"], vx_ot w = true) :=
  ⟨by decide +kernel, w335, w61, by decide +kernel, by decide +kernel, by decide +kernel⟩
theorem hE_G : Bundle.fit "java/lang/IllegalArgumentException" = true ∧ Cond.classLink "CoderTables" 75 "java/lang/IllegalArgumentException" ∈ GW ∧ Cond.initialized "java/lang/IllegalArgumentException" ∈ GW ∧ (∀ w ∈ (vx_atS "CoderTables" 79 "java/lang/IllegalArgumentException" ["java/lang/RuntimeException", "java/lang/Exception"]).filter goodWord, w ∈ lw_tbl) ∧ (∀ w ∈ (vx_atS "CoderTables" 79 "java/lang/IllegalArgumentException" ["java/lang/RuntimeException", "java/lang/Exception"]).filter (fun w => !goodWord w), w ∈ NG) ∧ (∀ w ∈ Cond.classLink "CoderTables" 75 "java/lang/IllegalArgumentException" :: Cond.initialized "java/lang/IllegalArgumentException" :: vx_atS "CoderTables" 79 "java/lang/IllegalArgumentException" ["java/lang/RuntimeException", "java/lang/Exception"], vx_ot w = true) :=
  ⟨by decide +kernel, w357, w62, by decide +kernel, by decide +kernel, by decide +kernel⟩
theorem hE_T : Bundle.fit "java/lang/IllegalStateException" = true ∧ Cond.classLink "CoderTables" 82 "java/lang/IllegalStateException" ∈ GW ∧ Cond.initialized "java/lang/IllegalStateException" ∈ GW ∧ (∀ w ∈ (vx_atS "CoderTables" 86 "java/lang/IllegalStateException" ["java/lang/RuntimeException", "java/lang/Exception"]).filter goodWord, w ∈ lw_tbl) ∧ (∀ w ∈ (vx_atS "CoderTables" 86 "java/lang/IllegalStateException" ["java/lang/RuntimeException", "java/lang/Exception"]).filter (fun w => !goodWord w), w ∈ NG) ∧ (∀ w ∈ Cond.classLink "CoderTables" 82 "java/lang/IllegalStateException" :: Cond.initialized "java/lang/IllegalStateException" :: vx_atS "CoderTables" 86 "java/lang/IllegalStateException" ["java/lang/RuntimeException", "java/lang/Exception"], vx_ot w = true) :=
  ⟨by decide +kernel, w374, w63, by decide +kernel, by decide +kernel, by decide +kernel⟩
theorem sg_63 : (63, "there are eight coders already") ∈ SG := by decide +kernel
theorem sg_68 : (68, "there are twenty-four pictures already") ∈ SG := by decide +kernel
theorem sg_215 : (215, "there is no such coder") ∈ SG := by decide +kernel
theorem sg_217 : (217, "there is no such picture") ∈ SG := by decide +kernel
theorem sg_77 : (77, "bytes are 1 to 1000000000") ∈ SG := by decide +kernel
theorem sg_80 : (80, "an error is 0 to 1000000000") ∈ SG := by decide +kernel
theorem sg_84 : (84, "the pair has failed") ∈ SG := by decide +kernel
theorem sg_87 : (87, "the pair has six points already") ∈ SG := by decide +kernel
theorem sg_93 : (93, "the pair has failed already") ∈ SG := by decide +kernel
theorem sg_101 : (101, "so many pairs have not failed") ∈ SG := by decide +kernel
theorem sg_104 : (104, "what is 0 for the coder, 1 for the picture") ∈ SG := by decide +kernel
theorem sg_109 : (109, "an error is not below 0") ∈ SG := by decide +kernel
theorem sg_219 : (219, "the coder has no counted pair") ∈ SG := by decide +kernel
theorem sg_140 : (140, "there is no such point on the hull") ∈ SG := by decide +kernel
theorem sg_142 : (142, "what is 0 for bytes, 1 for the error") ∈ SG := by decide +kernel
theorem sg_144 : (144, "there is no such slope on the hull") ∈ SG := by decide +kernel
theorem sg_153 : (153, "what is 0 to 3") ∈ SG := by decide +kernel
theorem sg_172 : (172, "the times are 0 to 200") ∈ SG := by decide +kernel
theorem sg_174 : (174, "there is no picture that both have counted") ∈ SG := by decide +kernel
theorem sg_202 : (202, "there is no such character") ∈ SG := by decide +kernel
end
section
/-! the pure states of class and reference, their cells; rows of their fields and arrays: printed by wip/gen/state.py -/
abbrev CT : Type := Int32 × Int32 × (Nat → Int32) × (Nat → Int32) × (Nat → Int32) × (Nat → Int32) × (Nat → Int32) × Int32 × (Nat → Int32) × Int32 × (Nat → Int32) × Int32 × Int64 × (Nat → Int32) × Int32
abbrev x_coders (u : CT) : Int32 := u.1
abbrev x_pictures (u : CT) : Int32 := u.2.1
abbrev x_pointCounts (u : CT) : Nat → Int32 := u.2.2.1
abbrev x_leastBytes (u : CT) : Nat → Int32 := u.2.2.2.1
abbrev x_pointBytes (u : CT) : Nat → Int32 := u.2.2.2.2.1
abbrev x_pointErrors (u : CT) : Nat → Int32 := u.2.2.2.2.2.1
abbrev x_failedPairs (u : CT) : Nat → Int32 := u.2.2.2.2.2.2.1
abbrev x_failedCount (u : CT) : Int32 := u.2.2.2.2.2.2.2.1
abbrev x_hullSlots (u : CT) : Nat → Int32 := u.2.2.2.2.2.2.2.2.1
abbrev x_hullSize (u : CT) : Int32 := u.2.2.2.2.2.2.2.2.2.1
abbrev x_leads (u : CT) : Nat → Int32 := u.2.2.2.2.2.2.2.2.2.2.1
abbrev x_leadCount (u : CT) : Int32 := u.2.2.2.2.2.2.2.2.2.2.2.1
abbrev x_last (u : CT) : Int64 := u.2.2.2.2.2.2.2.2.2.2.2.2.1
abbrev x_chars (u : CT) : Nat → Int32 := u.2.2.2.2.2.2.2.2.2.2.2.2.2.1
abbrev x_length (u : CT) : Int32 := u.2.2.2.2.2.2.2.2.2.2.2.2.2.2
abbrev x_coders_s (u : CT) (v : Int32) : CT := (v, u.2.1, u.2.2.1, u.2.2.2.1, u.2.2.2.2.1, u.2.2.2.2.2.1, u.2.2.2.2.2.2.1, u.2.2.2.2.2.2.2.1, u.2.2.2.2.2.2.2.2.1, u.2.2.2.2.2.2.2.2.2.1, u.2.2.2.2.2.2.2.2.2.2.1, u.2.2.2.2.2.2.2.2.2.2.2.1, u.2.2.2.2.2.2.2.2.2.2.2.2.1, u.2.2.2.2.2.2.2.2.2.2.2.2.2.1, u.2.2.2.2.2.2.2.2.2.2.2.2.2.2)
abbrev x_pictures_s (u : CT) (v : Int32) : CT := (u.1, v, u.2.2.1, u.2.2.2.1, u.2.2.2.2.1, u.2.2.2.2.2.1, u.2.2.2.2.2.2.1, u.2.2.2.2.2.2.2.1, u.2.2.2.2.2.2.2.2.1, u.2.2.2.2.2.2.2.2.2.1, u.2.2.2.2.2.2.2.2.2.2.1, u.2.2.2.2.2.2.2.2.2.2.2.1, u.2.2.2.2.2.2.2.2.2.2.2.2.1, u.2.2.2.2.2.2.2.2.2.2.2.2.2.1, u.2.2.2.2.2.2.2.2.2.2.2.2.2.2)
abbrev x_pointCounts_s (u : CT) (v : Nat → Int32) : CT := (u.1, u.2.1, v, u.2.2.2.1, u.2.2.2.2.1, u.2.2.2.2.2.1, u.2.2.2.2.2.2.1, u.2.2.2.2.2.2.2.1, u.2.2.2.2.2.2.2.2.1, u.2.2.2.2.2.2.2.2.2.1, u.2.2.2.2.2.2.2.2.2.2.1, u.2.2.2.2.2.2.2.2.2.2.2.1, u.2.2.2.2.2.2.2.2.2.2.2.2.1, u.2.2.2.2.2.2.2.2.2.2.2.2.2.1, u.2.2.2.2.2.2.2.2.2.2.2.2.2.2)
abbrev x_leastBytes_s (u : CT) (v : Nat → Int32) : CT := (u.1, u.2.1, u.2.2.1, v, u.2.2.2.2.1, u.2.2.2.2.2.1, u.2.2.2.2.2.2.1, u.2.2.2.2.2.2.2.1, u.2.2.2.2.2.2.2.2.1, u.2.2.2.2.2.2.2.2.2.1, u.2.2.2.2.2.2.2.2.2.2.1, u.2.2.2.2.2.2.2.2.2.2.2.1, u.2.2.2.2.2.2.2.2.2.2.2.2.1, u.2.2.2.2.2.2.2.2.2.2.2.2.2.1, u.2.2.2.2.2.2.2.2.2.2.2.2.2.2)
abbrev x_pointBytes_s (u : CT) (v : Nat → Int32) : CT := (u.1, u.2.1, u.2.2.1, u.2.2.2.1, v, u.2.2.2.2.2.1, u.2.2.2.2.2.2.1, u.2.2.2.2.2.2.2.1, u.2.2.2.2.2.2.2.2.1, u.2.2.2.2.2.2.2.2.2.1, u.2.2.2.2.2.2.2.2.2.2.1, u.2.2.2.2.2.2.2.2.2.2.2.1, u.2.2.2.2.2.2.2.2.2.2.2.2.1, u.2.2.2.2.2.2.2.2.2.2.2.2.2.1, u.2.2.2.2.2.2.2.2.2.2.2.2.2.2)
abbrev x_pointErrors_s (u : CT) (v : Nat → Int32) : CT := (u.1, u.2.1, u.2.2.1, u.2.2.2.1, u.2.2.2.2.1, v, u.2.2.2.2.2.2.1, u.2.2.2.2.2.2.2.1, u.2.2.2.2.2.2.2.2.1, u.2.2.2.2.2.2.2.2.2.1, u.2.2.2.2.2.2.2.2.2.2.1, u.2.2.2.2.2.2.2.2.2.2.2.1, u.2.2.2.2.2.2.2.2.2.2.2.2.1, u.2.2.2.2.2.2.2.2.2.2.2.2.2.1, u.2.2.2.2.2.2.2.2.2.2.2.2.2.2)
abbrev x_failedPairs_s (u : CT) (v : Nat → Int32) : CT := (u.1, u.2.1, u.2.2.1, u.2.2.2.1, u.2.2.2.2.1, u.2.2.2.2.2.1, v, u.2.2.2.2.2.2.2.1, u.2.2.2.2.2.2.2.2.1, u.2.2.2.2.2.2.2.2.2.1, u.2.2.2.2.2.2.2.2.2.2.1, u.2.2.2.2.2.2.2.2.2.2.2.1, u.2.2.2.2.2.2.2.2.2.2.2.2.1, u.2.2.2.2.2.2.2.2.2.2.2.2.2.1, u.2.2.2.2.2.2.2.2.2.2.2.2.2.2)
abbrev x_failedCount_s (u : CT) (v : Int32) : CT := (u.1, u.2.1, u.2.2.1, u.2.2.2.1, u.2.2.2.2.1, u.2.2.2.2.2.1, u.2.2.2.2.2.2.1, v, u.2.2.2.2.2.2.2.2.1, u.2.2.2.2.2.2.2.2.2.1, u.2.2.2.2.2.2.2.2.2.2.1, u.2.2.2.2.2.2.2.2.2.2.2.1, u.2.2.2.2.2.2.2.2.2.2.2.2.1, u.2.2.2.2.2.2.2.2.2.2.2.2.2.1, u.2.2.2.2.2.2.2.2.2.2.2.2.2.2)
abbrev x_hullSlots_s (u : CT) (v : Nat → Int32) : CT := (u.1, u.2.1, u.2.2.1, u.2.2.2.1, u.2.2.2.2.1, u.2.2.2.2.2.1, u.2.2.2.2.2.2.1, u.2.2.2.2.2.2.2.1, v, u.2.2.2.2.2.2.2.2.2.1, u.2.2.2.2.2.2.2.2.2.2.1, u.2.2.2.2.2.2.2.2.2.2.2.1, u.2.2.2.2.2.2.2.2.2.2.2.2.1, u.2.2.2.2.2.2.2.2.2.2.2.2.2.1, u.2.2.2.2.2.2.2.2.2.2.2.2.2.2)
abbrev x_hullSize_s (u : CT) (v : Int32) : CT := (u.1, u.2.1, u.2.2.1, u.2.2.2.1, u.2.2.2.2.1, u.2.2.2.2.2.1, u.2.2.2.2.2.2.1, u.2.2.2.2.2.2.2.1, u.2.2.2.2.2.2.2.2.1, v, u.2.2.2.2.2.2.2.2.2.2.1, u.2.2.2.2.2.2.2.2.2.2.2.1, u.2.2.2.2.2.2.2.2.2.2.2.2.1, u.2.2.2.2.2.2.2.2.2.2.2.2.2.1, u.2.2.2.2.2.2.2.2.2.2.2.2.2.2)
abbrev x_leads_s (u : CT) (v : Nat → Int32) : CT := (u.1, u.2.1, u.2.2.1, u.2.2.2.1, u.2.2.2.2.1, u.2.2.2.2.2.1, u.2.2.2.2.2.2.1, u.2.2.2.2.2.2.2.1, u.2.2.2.2.2.2.2.2.1, u.2.2.2.2.2.2.2.2.2.1, v, u.2.2.2.2.2.2.2.2.2.2.2.1, u.2.2.2.2.2.2.2.2.2.2.2.2.1, u.2.2.2.2.2.2.2.2.2.2.2.2.2.1, u.2.2.2.2.2.2.2.2.2.2.2.2.2.2)
abbrev x_leadCount_s (u : CT) (v : Int32) : CT := (u.1, u.2.1, u.2.2.1, u.2.2.2.1, u.2.2.2.2.1, u.2.2.2.2.2.1, u.2.2.2.2.2.2.1, u.2.2.2.2.2.2.2.1, u.2.2.2.2.2.2.2.2.1, u.2.2.2.2.2.2.2.2.2.1, u.2.2.2.2.2.2.2.2.2.2.1, v, u.2.2.2.2.2.2.2.2.2.2.2.2.1, u.2.2.2.2.2.2.2.2.2.2.2.2.2.1, u.2.2.2.2.2.2.2.2.2.2.2.2.2.2)
abbrev x_last_s (u : CT) (v : Int64) : CT := (u.1, u.2.1, u.2.2.1, u.2.2.2.1, u.2.2.2.2.1, u.2.2.2.2.2.1, u.2.2.2.2.2.2.1, u.2.2.2.2.2.2.2.1, u.2.2.2.2.2.2.2.2.1, u.2.2.2.2.2.2.2.2.2.1, u.2.2.2.2.2.2.2.2.2.2.1, u.2.2.2.2.2.2.2.2.2.2.2.1, v, u.2.2.2.2.2.2.2.2.2.2.2.2.2.1, u.2.2.2.2.2.2.2.2.2.2.2.2.2.2)
abbrev x_chars_s (u : CT) (v : Nat → Int32) : CT := (u.1, u.2.1, u.2.2.1, u.2.2.2.1, u.2.2.2.2.1, u.2.2.2.2.2.1, u.2.2.2.2.2.2.1, u.2.2.2.2.2.2.2.1, u.2.2.2.2.2.2.2.2.1, u.2.2.2.2.2.2.2.2.2.1, u.2.2.2.2.2.2.2.2.2.2.1, u.2.2.2.2.2.2.2.2.2.2.2.1, u.2.2.2.2.2.2.2.2.2.2.2.2.1, v, u.2.2.2.2.2.2.2.2.2.2.2.2.2.2)
abbrev x_length_s (u : CT) (v : Int32) : CT := (u.1, u.2.1, u.2.2.1, u.2.2.2.1, u.2.2.2.2.1, u.2.2.2.2.2.1, u.2.2.2.2.2.2.1, u.2.2.2.2.2.2.2.1, u.2.2.2.2.2.2.2.2.1, u.2.2.2.2.2.2.2.2.2.1, u.2.2.2.2.2.2.2.2.2.2.1, u.2.2.2.2.2.2.2.2.2.2.2.1, u.2.2.2.2.2.2.2.2.2.2.2.2.1, u.2.2.2.2.2.2.2.2.2.2.2.2.2.1, v)
def cX (Z : ZT) (ad : Nat → Nat) (u : CT) : va_W := [(ad 0, .inr (2, [.int (x_coders u), .int (x_pictures u), .ref (ad 1), .ref (ad 2), .ref (ad 3), .ref (ad 4), .ref (ad 5), .int (x_failedCount u), .ref (ad 6), .int (x_hullSize u), .ref (ad 7), .int (x_leadCount u), .ref (ad 8), .ref (ad 9)])), (ad 1, .inl (Z.2.1 0, 192, .inl (x_pointCounts u))), (ad 2, .inl (Z.2.1 0, 192, .inl (x_leastBytes u))), (ad 3, .inl (Z.2.1 0, 1152, .inl (x_pointBytes u))), (ad 4, .inl (Z.2.1 0, 1152, .inl (x_pointErrors u))), (ad 5, .inl (Z.2.1 0, 192, .inl (x_failedPairs u))), (ad 6, .inl (Z.2.1 0, 6, .inl (x_hullSlots u))), (ad 7, .inl (Z.2.1 0, 24, .inl (x_leads u))), (ad 8, .inr (1, [.long (x_last u)])), (ad 9, .inr (0, [.ref (ad 10), .int (x_length u)])), (ad 10, .inl (Z.2.1 1, 136, .inl (x_chars u)))]
abbrev MT : Type := Int32 × Int32 × Int32 × (Nat → Int32) × (Nat → Int32) × (Nat → Int32) × (Nat → Int32) × Int32 × (Nat → Int32) × Int32 × (Nat → Int32) × Int64 × Int32 × (Nat → Int32) × (Nat → Int64)
abbrev m_code (u : MT) : Int32 := u.1
abbrev m_coders (u : MT) : Int32 := u.2.1
abbrev m_pictures (u : MT) : Int32 := u.2.2.1
abbrev m_count (u : MT) : Nat → Int32 := u.2.2.2.1
abbrev m_hasFailed (u : MT) : Nat → Int32 := u.2.2.2.2.1
abbrev m_bytesOf (u : MT) : Nat → Int32 := u.2.2.2.2.2.1
abbrev m_errorOf (u : MT) : Nat → Int32 := u.2.2.2.2.2.2.1
abbrev m_failures (u : MT) : Int32 := u.2.2.2.2.2.2.2.1
abbrev m_failure (u : MT) : Nat → Int32 := u.2.2.2.2.2.2.2.2.1
abbrev m_size (u : MT) : Int32 := u.2.2.2.2.2.2.2.2.2.1
abbrev m_text (u : MT) : Nat → Int32 := u.2.2.2.2.2.2.2.2.2.2.1
abbrev m_state (u : MT) : Int64 := u.2.2.2.2.2.2.2.2.2.2.2.1
abbrev m_hullSize (u : MT) : Int32 := u.2.2.2.2.2.2.2.2.2.2.2.2.1
abbrev m_hull (u : MT) : Nat → Int32 := u.2.2.2.2.2.2.2.2.2.2.2.2.2.1
abbrev m_ways (u : MT) : Nat → Int64 := u.2.2.2.2.2.2.2.2.2.2.2.2.2.2
abbrev m_code_s (u : MT) (v : Int32) : MT := (v, u.2.1, u.2.2.1, u.2.2.2.1, u.2.2.2.2.1, u.2.2.2.2.2.1, u.2.2.2.2.2.2.1, u.2.2.2.2.2.2.2.1, u.2.2.2.2.2.2.2.2.1, u.2.2.2.2.2.2.2.2.2.1, u.2.2.2.2.2.2.2.2.2.2.1, u.2.2.2.2.2.2.2.2.2.2.2.1, u.2.2.2.2.2.2.2.2.2.2.2.2.1, u.2.2.2.2.2.2.2.2.2.2.2.2.2.1, u.2.2.2.2.2.2.2.2.2.2.2.2.2.2)
abbrev m_coders_s (u : MT) (v : Int32) : MT := (u.1, v, u.2.2.1, u.2.2.2.1, u.2.2.2.2.1, u.2.2.2.2.2.1, u.2.2.2.2.2.2.1, u.2.2.2.2.2.2.2.1, u.2.2.2.2.2.2.2.2.1, u.2.2.2.2.2.2.2.2.2.1, u.2.2.2.2.2.2.2.2.2.2.1, u.2.2.2.2.2.2.2.2.2.2.2.1, u.2.2.2.2.2.2.2.2.2.2.2.2.1, u.2.2.2.2.2.2.2.2.2.2.2.2.2.1, u.2.2.2.2.2.2.2.2.2.2.2.2.2.2)
abbrev m_pictures_s (u : MT) (v : Int32) : MT := (u.1, u.2.1, v, u.2.2.2.1, u.2.2.2.2.1, u.2.2.2.2.2.1, u.2.2.2.2.2.2.1, u.2.2.2.2.2.2.2.1, u.2.2.2.2.2.2.2.2.1, u.2.2.2.2.2.2.2.2.2.1, u.2.2.2.2.2.2.2.2.2.2.1, u.2.2.2.2.2.2.2.2.2.2.2.1, u.2.2.2.2.2.2.2.2.2.2.2.2.1, u.2.2.2.2.2.2.2.2.2.2.2.2.2.1, u.2.2.2.2.2.2.2.2.2.2.2.2.2.2)
abbrev m_count_s (u : MT) (v : Nat → Int32) : MT := (u.1, u.2.1, u.2.2.1, v, u.2.2.2.2.1, u.2.2.2.2.2.1, u.2.2.2.2.2.2.1, u.2.2.2.2.2.2.2.1, u.2.2.2.2.2.2.2.2.1, u.2.2.2.2.2.2.2.2.2.1, u.2.2.2.2.2.2.2.2.2.2.1, u.2.2.2.2.2.2.2.2.2.2.2.1, u.2.2.2.2.2.2.2.2.2.2.2.2.1, u.2.2.2.2.2.2.2.2.2.2.2.2.2.1, u.2.2.2.2.2.2.2.2.2.2.2.2.2.2)
abbrev m_hasFailed_s (u : MT) (v : Nat → Int32) : MT := (u.1, u.2.1, u.2.2.1, u.2.2.2.1, v, u.2.2.2.2.2.1, u.2.2.2.2.2.2.1, u.2.2.2.2.2.2.2.1, u.2.2.2.2.2.2.2.2.1, u.2.2.2.2.2.2.2.2.2.1, u.2.2.2.2.2.2.2.2.2.2.1, u.2.2.2.2.2.2.2.2.2.2.2.1, u.2.2.2.2.2.2.2.2.2.2.2.2.1, u.2.2.2.2.2.2.2.2.2.2.2.2.2.1, u.2.2.2.2.2.2.2.2.2.2.2.2.2.2)
abbrev m_bytesOf_s (u : MT) (v : Nat → Int32) : MT := (u.1, u.2.1, u.2.2.1, u.2.2.2.1, u.2.2.2.2.1, v, u.2.2.2.2.2.2.1, u.2.2.2.2.2.2.2.1, u.2.2.2.2.2.2.2.2.1, u.2.2.2.2.2.2.2.2.2.1, u.2.2.2.2.2.2.2.2.2.2.1, u.2.2.2.2.2.2.2.2.2.2.2.1, u.2.2.2.2.2.2.2.2.2.2.2.2.1, u.2.2.2.2.2.2.2.2.2.2.2.2.2.1, u.2.2.2.2.2.2.2.2.2.2.2.2.2.2)
abbrev m_errorOf_s (u : MT) (v : Nat → Int32) : MT := (u.1, u.2.1, u.2.2.1, u.2.2.2.1, u.2.2.2.2.1, u.2.2.2.2.2.1, v, u.2.2.2.2.2.2.2.1, u.2.2.2.2.2.2.2.2.1, u.2.2.2.2.2.2.2.2.2.1, u.2.2.2.2.2.2.2.2.2.2.1, u.2.2.2.2.2.2.2.2.2.2.2.1, u.2.2.2.2.2.2.2.2.2.2.2.2.1, u.2.2.2.2.2.2.2.2.2.2.2.2.2.1, u.2.2.2.2.2.2.2.2.2.2.2.2.2.2)
abbrev m_failures_s (u : MT) (v : Int32) : MT := (u.1, u.2.1, u.2.2.1, u.2.2.2.1, u.2.2.2.2.1, u.2.2.2.2.2.1, u.2.2.2.2.2.2.1, v, u.2.2.2.2.2.2.2.2.1, u.2.2.2.2.2.2.2.2.2.1, u.2.2.2.2.2.2.2.2.2.2.1, u.2.2.2.2.2.2.2.2.2.2.2.1, u.2.2.2.2.2.2.2.2.2.2.2.2.1, u.2.2.2.2.2.2.2.2.2.2.2.2.2.1, u.2.2.2.2.2.2.2.2.2.2.2.2.2.2)
abbrev m_failure_s (u : MT) (v : Nat → Int32) : MT := (u.1, u.2.1, u.2.2.1, u.2.2.2.1, u.2.2.2.2.1, u.2.2.2.2.2.1, u.2.2.2.2.2.2.1, u.2.2.2.2.2.2.2.1, v, u.2.2.2.2.2.2.2.2.2.1, u.2.2.2.2.2.2.2.2.2.2.1, u.2.2.2.2.2.2.2.2.2.2.2.1, u.2.2.2.2.2.2.2.2.2.2.2.2.1, u.2.2.2.2.2.2.2.2.2.2.2.2.2.1, u.2.2.2.2.2.2.2.2.2.2.2.2.2.2)
abbrev m_size_s (u : MT) (v : Int32) : MT := (u.1, u.2.1, u.2.2.1, u.2.2.2.1, u.2.2.2.2.1, u.2.2.2.2.2.1, u.2.2.2.2.2.2.1, u.2.2.2.2.2.2.2.1, u.2.2.2.2.2.2.2.2.1, v, u.2.2.2.2.2.2.2.2.2.2.1, u.2.2.2.2.2.2.2.2.2.2.2.1, u.2.2.2.2.2.2.2.2.2.2.2.2.1, u.2.2.2.2.2.2.2.2.2.2.2.2.2.1, u.2.2.2.2.2.2.2.2.2.2.2.2.2.2)
abbrev m_text_s (u : MT) (v : Nat → Int32) : MT := (u.1, u.2.1, u.2.2.1, u.2.2.2.1, u.2.2.2.2.1, u.2.2.2.2.2.1, u.2.2.2.2.2.2.1, u.2.2.2.2.2.2.2.1, u.2.2.2.2.2.2.2.2.1, u.2.2.2.2.2.2.2.2.2.1, v, u.2.2.2.2.2.2.2.2.2.2.2.1, u.2.2.2.2.2.2.2.2.2.2.2.2.1, u.2.2.2.2.2.2.2.2.2.2.2.2.2.1, u.2.2.2.2.2.2.2.2.2.2.2.2.2.2)
abbrev m_state_s (u : MT) (v : Int64) : MT := (u.1, u.2.1, u.2.2.1, u.2.2.2.1, u.2.2.2.2.1, u.2.2.2.2.2.1, u.2.2.2.2.2.2.1, u.2.2.2.2.2.2.2.1, u.2.2.2.2.2.2.2.2.1, u.2.2.2.2.2.2.2.2.2.1, u.2.2.2.2.2.2.2.2.2.2.1, v, u.2.2.2.2.2.2.2.2.2.2.2.2.1, u.2.2.2.2.2.2.2.2.2.2.2.2.2.1, u.2.2.2.2.2.2.2.2.2.2.2.2.2.2)
abbrev m_hullSize_s (u : MT) (v : Int32) : MT := (u.1, u.2.1, u.2.2.1, u.2.2.2.1, u.2.2.2.2.1, u.2.2.2.2.2.1, u.2.2.2.2.2.2.1, u.2.2.2.2.2.2.2.1, u.2.2.2.2.2.2.2.2.1, u.2.2.2.2.2.2.2.2.2.1, u.2.2.2.2.2.2.2.2.2.2.1, u.2.2.2.2.2.2.2.2.2.2.2.1, v, u.2.2.2.2.2.2.2.2.2.2.2.2.2.1, u.2.2.2.2.2.2.2.2.2.2.2.2.2.2)
abbrev m_hull_s (u : MT) (v : Nat → Int32) : MT := (u.1, u.2.1, u.2.2.1, u.2.2.2.1, u.2.2.2.2.1, u.2.2.2.2.2.1, u.2.2.2.2.2.2.1, u.2.2.2.2.2.2.2.1, u.2.2.2.2.2.2.2.2.1, u.2.2.2.2.2.2.2.2.2.1, u.2.2.2.2.2.2.2.2.2.2.1, u.2.2.2.2.2.2.2.2.2.2.2.1, u.2.2.2.2.2.2.2.2.2.2.2.2.1, v, u.2.2.2.2.2.2.2.2.2.2.2.2.2.2)
abbrev m_ways_s (u : MT) (v : Nat → Int64) : MT := (u.1, u.2.1, u.2.2.1, u.2.2.2.1, u.2.2.2.2.1, u.2.2.2.2.2.1, u.2.2.2.2.2.2.1, u.2.2.2.2.2.2.2.1, u.2.2.2.2.2.2.2.2.1, u.2.2.2.2.2.2.2.2.2.1, u.2.2.2.2.2.2.2.2.2.2.1, u.2.2.2.2.2.2.2.2.2.2.2.1, u.2.2.2.2.2.2.2.2.2.2.2.2.1, u.2.2.2.2.2.2.2.2.2.2.2.2.2.1, v)
def cM (Z : ZT) (ad : Nat → Nat) (u : MT) : va_W := [(ad 0, .inr (3, [.int (m_code u), .int (m_coders u), .int (m_pictures u), .ref (ad 1), .ref (ad 2), .ref (ad 3), .ref (ad 4), .int (m_failures u), .ref (ad 5), .int (m_size u), .ref (ad 6), .long (m_state u), .int (m_hullSize u), .ref (ad 7), .ref (ad 8)])), (ad 1, .inl (Z.2.1 0, 192, .inl (m_count u))), (ad 2, .inl (Z.2.1 2, 192, .inl (m_hasFailed u))), (ad 3, .inl (Z.2.1 0, 1152, .inl (m_bytesOf u))), (ad 4, .inl (Z.2.1 0, 1152, .inl (m_errorOf u))), (ad 5, .inl (Z.2.1 0, 192, .inl (m_failure u))), (ad 6, .inl (Z.2.1 0, 256, .inl (m_text u))), (ad 7, .inl (Z.2.1 0, 6, .inl (m_hull u))), (ad 8, .inl (Z.2.1 3, 25, .inr (.inl (m_ways u))))]
section STR
variable {own host : String} {cc bytes : ByteArray} {nL maxL index n : Nat} {rt0 rt : Option FieldType} {Z : ZT} {ad : Nat → Nat} {A : Nat → Prop}
variable {p : Program} {l : Launch} {e : Env} {R : Room} {s : State} {m : MethodId} {args : Array Value} {below : List Frame} {meth : Method} {c : Code} {H : Heap} {locs : List Loc} {cells slots : Nat} {Q : State → Prop} {rest : List Value} {pc : Nat} {ls : Array Slot}
variable {ux : CT} {um : MT}
theorem r_N_7 (C : CX "CoderTables$Numbers" cc nL rt0 Z A p l s m args meth c) (hw : WD Z A s (cX Z ad ux) H locs) (hdg : decode cc pc = .ok (.getfield 7, 3)) (kk : W p l e R s m args below meth c H locs cells slots Q (F0 m (pc + 3) ls (.long (x_last ux) :: rest))) : W p l e R s m args below meth c H locs cells slots Q (F0 m pc ls (.ref (ad 8) :: rest)) :=
  g_get C hw 8 rfl rfl in_N 0 (by decide) w80 rfl rfl hdg kk
theorem s_N_7 {v : Int64} (C : CX "CoderTables$Numbers" cc nL rt0 Z A p l s m args meth c) (hw : WD Z A s (cX Z ad ux) H locs) (hdg : decode cc pc = .ok (.putfield 7, 3)) (kk : ∀ (H1 : Heap) (locs1 : List Loc), WD Z A s (cX Z ad (x_last_s ux v)) H1 locs1 → W p l e R s m args below meth c H1 locs1 cells slots Q (F0 m (pc + 3) ls rest)) : W p l e R s m args below meth c H locs cells slots Q (F0 m pc ls (.long v :: .ref (ad 8) :: rest)) :=
  g_put C hw 8 rfl rfl in_N ty_N ty_N_ok nm_N 0 (by decide) w80 rfl rfl rfl rfl (Nat.le_of_ble_eq_true rfl) hdg kk
theorem r_L_11 (C : CX "CoderTables$Lines" cc nL rt0 Z A p l s m args meth c) (hw : WD Z A s (cX Z ad ux) H locs) (hdg : decode cc pc = .ok (.getfield 11, 3)) (kk : W p l e R s m args below meth c H locs cells slots Q (F0 m (pc + 3) ls (.ref (ad 10) :: rest))) : W p l e R s m args below meth c H locs cells slots Q (F0 m pc ls (.ref (ad 9) :: rest)) :=
  g_get C hw 9 rfl rfl in_L 0 (by decide) w91 rfl rfl hdg kk
theorem r_X_204 (C : CX "CoderTables" cc nL rt0 Z A p l s m args meth c) (hw : WD Z A s (cX Z ad ux) H locs) (hdg : decode cc pc = .ok (.getfield 204, 3)) (kk : W p l e R s m args below meth c H locs cells slots Q (F0 m (pc + 3) ls (.ref (ad 10) :: rest))) : W p l e R s m args below meth c H locs cells slots Q (F0 m pc ls (.ref (ad 9) :: rest)) :=
  g_getN (host := "CoderTables") C hw 9 rfl rfl in_L 0 (by decide) (by decide +kernel) rfl rfl hdg kk
theorem r_L_15 (C : CX "CoderTables$Lines" cc nL rt0 Z A p l s m args meth c) (hw : WD Z A s (cX Z ad ux) H locs) (hdg : decode cc pc = .ok (.getfield 15, 3)) (kk : W p l e R s m args below meth c H locs cells slots Q (F0 m (pc + 3) ls (.int (x_length ux) :: rest))) : W p l e R s m args below meth c H locs cells slots Q (F0 m pc ls (.ref (ad 9) :: rest)) :=
  g_get C hw 9 rfl rfl in_L 1 (by decide) w93 rfl rfl hdg kk
theorem s_L_15 {v : Int32} (C : CX "CoderTables$Lines" cc nL rt0 Z A p l s m args meth c) (hw : WD Z A s (cX Z ad ux) H locs) (hdg : decode cc pc = .ok (.putfield 15, 3)) (kk : ∀ (H1 : Heap) (locs1 : List Loc), WD Z A s (cX Z ad (x_length_s ux v)) H1 locs1 → W p l e R s m args below meth c H1 locs1 cells slots Q (F0 m (pc + 3) ls rest)) : W p l e R s m args below meth c H locs cells slots Q (F0 m pc ls (.int v :: .ref (ad 9) :: rest)) :=
  g_put C hw 9 rfl rfl in_L ty_L ty_L_ok nm_L 1 (by decide) w93 rfl rfl rfl rfl (Nat.le_of_ble_eq_true rfl) hdg kk
theorem r_X_199 (C : CX "CoderTables" cc nL rt0 Z A p l s m args meth c) (hw : WD Z A s (cX Z ad ux) H locs) (hdg : decode cc pc = .ok (.getfield 199, 3)) (kk : W p l e R s m args below meth c H locs cells slots Q (F0 m (pc + 3) ls (.int (x_length ux) :: rest))) : W p l e R s m args below meth c H locs cells slots Q (F0 m pc ls (.ref (ad 9) :: rest)) :=
  g_getN (host := "CoderTables") C hw 9 rfl rfl in_L 1 (by decide) (by decide +kernel) rfl rfl hdg kk
theorem r_X_9 (C : CX "CoderTables" cc nL rt0 Z A p l s m args meth c) (hw : WD Z A s (cX Z ad ux) H locs) (hdg : decode cc pc = .ok (.getfield 9, 3)) (kk : W p l e R s m args below meth c H locs cells slots Q (F0 m (pc + 3) ls (.int (x_coders ux) :: rest))) : W p l e R s m args below meth c H locs cells slots Q (F0 m pc ls (.ref (ad 0) :: rest)) :=
  g_get C hw 0 rfl rfl in_X 0 (by decide) w101 rfl rfl hdg kk
theorem s_X_9 {v : Int32} (C : CX "CoderTables" cc nL rt0 Z A p l s m args meth c) (hw : WD Z A s (cX Z ad ux) H locs) (hdg : decode cc pc = .ok (.putfield 9, 3)) (kk : ∀ (H1 : Heap) (locs1 : List Loc), WD Z A s (cX Z ad (x_coders_s ux v)) H1 locs1 → W p l e R s m args below meth c H1 locs1 cells slots Q (F0 m (pc + 3) ls rest)) : W p l e R s m args below meth c H locs cells slots Q (F0 m pc ls (.int v :: .ref (ad 0) :: rest)) :=
  g_put C hw 0 rfl rfl in_X ty_X ty_X_ok nm_X 0 (by decide) w101 rfl rfl rfl rfl (Nat.le_of_ble_eq_true rfl) hdg kk
theorem r_X_13 (C : CX "CoderTables" cc nL rt0 Z A p l s m args meth c) (hw : WD Z A s (cX Z ad ux) H locs) (hdg : decode cc pc = .ok (.getfield 13, 3)) (kk : W p l e R s m args below meth c H locs cells slots Q (F0 m (pc + 3) ls (.int (x_pictures ux) :: rest))) : W p l e R s m args below meth c H locs cells slots Q (F0 m pc ls (.ref (ad 0) :: rest)) :=
  g_get C hw 0 rfl rfl in_X 1 (by decide) w102 rfl rfl hdg kk
theorem s_X_13 {v : Int32} (C : CX "CoderTables" cc nL rt0 Z A p l s m args meth c) (hw : WD Z A s (cX Z ad ux) H locs) (hdg : decode cc pc = .ok (.putfield 13, 3)) (kk : ∀ (H1 : Heap) (locs1 : List Loc), WD Z A s (cX Z ad (x_pictures_s ux v)) H1 locs1 → W p l e R s m args below meth c H1 locs1 cells slots Q (F0 m (pc + 3) ls rest)) : W p l e R s m args below meth c H locs cells slots Q (F0 m pc ls (.int v :: .ref (ad 0) :: rest)) :=
  g_put C hw 0 rfl rfl in_X ty_X ty_X_ok nm_X 1 (by decide) w102 rfl rfl rfl rfl (Nat.le_of_ble_eq_true rfl) hdg kk
theorem r_X_16 (C : CX "CoderTables" cc nL rt0 Z A p l s m args meth c) (hw : WD Z A s (cX Z ad ux) H locs) (hdg : decode cc pc = .ok (.getfield 16, 3)) (kk : W p l e R s m args below meth c H locs cells slots Q (F0 m (pc + 3) ls (.ref (ad 1) :: rest))) : W p l e R s m args below meth c H locs cells slots Q (F0 m pc ls (.ref (ad 0) :: rest)) :=
  g_get C hw 0 rfl rfl in_X 2 (by decide) w103 rfl rfl hdg kk
theorem r_X_20 (C : CX "CoderTables" cc nL rt0 Z A p l s m args meth c) (hw : WD Z A s (cX Z ad ux) H locs) (hdg : decode cc pc = .ok (.getfield 20, 3)) (kk : W p l e R s m args below meth c H locs cells slots Q (F0 m (pc + 3) ls (.ref (ad 2) :: rest))) : W p l e R s m args below meth c H locs cells slots Q (F0 m pc ls (.ref (ad 0) :: rest)) :=
  g_get C hw 0 rfl rfl in_X 3 (by decide) w104 rfl rfl hdg kk
theorem r_X_23 (C : CX "CoderTables" cc nL rt0 Z A p l s m args meth c) (hw : WD Z A s (cX Z ad ux) H locs) (hdg : decode cc pc = .ok (.getfield 23, 3)) (kk : W p l e R s m args below meth c H locs cells slots Q (F0 m (pc + 3) ls (.ref (ad 3) :: rest))) : W p l e R s m args below meth c H locs cells slots Q (F0 m pc ls (.ref (ad 0) :: rest)) :=
  g_get C hw 0 rfl rfl in_X 4 (by decide) w105 rfl rfl hdg kk
theorem r_X_26 (C : CX "CoderTables" cc nL rt0 Z A p l s m args meth c) (hw : WD Z A s (cX Z ad ux) H locs) (hdg : decode cc pc = .ok (.getfield 26, 3)) (kk : W p l e R s m args below meth c H locs cells slots Q (F0 m (pc + 3) ls (.ref (ad 4) :: rest))) : W p l e R s m args below meth c H locs cells slots Q (F0 m pc ls (.ref (ad 0) :: rest)) :=
  g_get C hw 0 rfl rfl in_X 5 (by decide) w106 rfl rfl hdg kk
theorem r_X_29 (C : CX "CoderTables" cc nL rt0 Z A p l s m args meth c) (hw : WD Z A s (cX Z ad ux) H locs) (hdg : decode cc pc = .ok (.getfield 29, 3)) (kk : W p l e R s m args below meth c H locs cells slots Q (F0 m (pc + 3) ls (.ref (ad 5) :: rest))) : W p l e R s m args below meth c H locs cells slots Q (F0 m pc ls (.ref (ad 0) :: rest)) :=
  g_get C hw 0 rfl rfl in_X 6 (by decide) w107 rfl rfl hdg kk
theorem r_X_32 (C : CX "CoderTables" cc nL rt0 Z A p l s m args meth c) (hw : WD Z A s (cX Z ad ux) H locs) (hdg : decode cc pc = .ok (.getfield 32, 3)) (kk : W p l e R s m args below meth c H locs cells slots Q (F0 m (pc + 3) ls (.int (x_failedCount ux) :: rest))) : W p l e R s m args below meth c H locs cells slots Q (F0 m pc ls (.ref (ad 0) :: rest)) :=
  g_get C hw 0 rfl rfl in_X 7 (by decide) w108 rfl rfl hdg kk
theorem s_X_32 {v : Int32} (C : CX "CoderTables" cc nL rt0 Z A p l s m args meth c) (hw : WD Z A s (cX Z ad ux) H locs) (hdg : decode cc pc = .ok (.putfield 32, 3)) (kk : ∀ (H1 : Heap) (locs1 : List Loc), WD Z A s (cX Z ad (x_failedCount_s ux v)) H1 locs1 → W p l e R s m args below meth c H1 locs1 cells slots Q (F0 m (pc + 3) ls rest)) : W p l e R s m args below meth c H locs cells slots Q (F0 m pc ls (.int v :: .ref (ad 0) :: rest)) :=
  g_put C hw 0 rfl rfl in_X ty_X ty_X_ok nm_X 7 (by decide) w108 rfl rfl rfl rfl (Nat.le_of_ble_eq_true rfl) hdg kk
theorem r_X_35 (C : CX "CoderTables" cc nL rt0 Z A p l s m args meth c) (hw : WD Z A s (cX Z ad ux) H locs) (hdg : decode cc pc = .ok (.getfield 35, 3)) (kk : W p l e R s m args below meth c H locs cells slots Q (F0 m (pc + 3) ls (.ref (ad 6) :: rest))) : W p l e R s m args below meth c H locs cells slots Q (F0 m pc ls (.ref (ad 0) :: rest)) :=
  g_get C hw 0 rfl rfl in_X 8 (by decide) w109 rfl rfl hdg kk
theorem r_X_38 (C : CX "CoderTables" cc nL rt0 Z A p l s m args meth c) (hw : WD Z A s (cX Z ad ux) H locs) (hdg : decode cc pc = .ok (.getfield 38, 3)) (kk : W p l e R s m args below meth c H locs cells slots Q (F0 m (pc + 3) ls (.int (x_hullSize ux) :: rest))) : W p l e R s m args below meth c H locs cells slots Q (F0 m pc ls (.ref (ad 0) :: rest)) :=
  g_get C hw 0 rfl rfl in_X 9 (by decide) w110 rfl rfl hdg kk
theorem s_X_38 {v : Int32} (C : CX "CoderTables" cc nL rt0 Z A p l s m args meth c) (hw : WD Z A s (cX Z ad ux) H locs) (hdg : decode cc pc = .ok (.putfield 38, 3)) (kk : ∀ (H1 : Heap) (locs1 : List Loc), WD Z A s (cX Z ad (x_hullSize_s ux v)) H1 locs1 → W p l e R s m args below meth c H1 locs1 cells slots Q (F0 m (pc + 3) ls rest)) : W p l e R s m args below meth c H locs cells slots Q (F0 m pc ls (.int v :: .ref (ad 0) :: rest)) :=
  g_put C hw 0 rfl rfl in_X ty_X ty_X_ok nm_X 9 (by decide) w110 rfl rfl rfl rfl (Nat.le_of_ble_eq_true rfl) hdg kk
theorem r_X_41 (C : CX "CoderTables" cc nL rt0 Z A p l s m args meth c) (hw : WD Z A s (cX Z ad ux) H locs) (hdg : decode cc pc = .ok (.getfield 41, 3)) (kk : W p l e R s m args below meth c H locs cells slots Q (F0 m (pc + 3) ls (.ref (ad 7) :: rest))) : W p l e R s m args below meth c H locs cells slots Q (F0 m pc ls (.ref (ad 0) :: rest)) :=
  g_get C hw 0 rfl rfl in_X 10 (by decide) w111 rfl rfl hdg kk
theorem r_X_44 (C : CX "CoderTables" cc nL rt0 Z A p l s m args meth c) (hw : WD Z A s (cX Z ad ux) H locs) (hdg : decode cc pc = .ok (.getfield 44, 3)) (kk : W p l e R s m args below meth c H locs cells slots Q (F0 m (pc + 3) ls (.int (x_leadCount ux) :: rest))) : W p l e R s m args below meth c H locs cells slots Q (F0 m pc ls (.ref (ad 0) :: rest)) :=
  g_get C hw 0 rfl rfl in_X 11 (by decide) w112 rfl rfl hdg kk
theorem s_X_44 {v : Int32} (C : CX "CoderTables" cc nL rt0 Z A p l s m args meth c) (hw : WD Z A s (cX Z ad ux) H locs) (hdg : decode cc pc = .ok (.putfield 44, 3)) (kk : ∀ (H1 : Heap) (locs1 : List Loc), WD Z A s (cX Z ad (x_leadCount_s ux v)) H1 locs1 → W p l e R s m args below meth c H1 locs1 cells slots Q (F0 m (pc + 3) ls rest)) : W p l e R s m args below meth c H locs cells slots Q (F0 m pc ls (.int v :: .ref (ad 0) :: rest)) :=
  g_put C hw 0 rfl rfl in_X ty_X ty_X_ok nm_X 11 (by decide) w112 rfl rfl rfl rfl (Nat.le_of_ble_eq_true rfl) hdg kk
theorem r_X_50 (C : CX "CoderTables" cc nL rt0 Z A p l s m args meth c) (hw : WD Z A s (cX Z ad ux) H locs) (hdg : decode cc pc = .ok (.getfield 50, 3)) (kk : W p l e R s m args below meth c H locs cells slots Q (F0 m (pc + 3) ls (.ref (ad 8) :: rest))) : W p l e R s m args below meth c H locs cells slots Q (F0 m pc ls (.ref (ad 0) :: rest)) :=
  g_get C hw 0 rfl rfl in_X 12 (by decide) w113 rfl rfl hdg kk
theorem r_X_57 (C : CX "CoderTables" cc nL rt0 Z A p l s m args meth c) (hw : WD Z A s (cX Z ad ux) H locs) (hdg : decode cc pc = .ok (.getfield 57, 3)) (kk : W p l e R s m args below meth c H locs cells slots Q (F0 m (pc + 3) ls (.ref (ad 9) :: rest))) : W p l e R s m args below meth c H locs cells slots Q (F0 m pc ls (.ref (ad 0) :: rest)) :=
  g_get C hw 0 rfl rfl in_X 13 (by decide) w114 rfl rfl hdg kk
theorem r_M_36 (C : CX "CoderTablesModel" cc nL rt0 Z A p l s m args meth c) (hw : WD Z A s (cM Z ad um) H locs) (hdg : decode cc pc = .ok (.getfield 36, 3)) (kk : W p l e R s m args below meth c H locs cells slots Q (F0 m (pc + 3) ls (.int (m_code um) :: rest))) : W p l e R s m args below meth c H locs cells slots Q (F0 m pc ls (.ref (ad 0) :: rest)) :=
  g_get C hw 0 rfl rfl in_M 0 (by decide) w555 rfl rfl hdg kk
theorem s_M_36 {v : Int32} (C : CX "CoderTablesModel" cc nL rt0 Z A p l s m args meth c) (hw : WD Z A s (cM Z ad um) H locs) (hdg : decode cc pc = .ok (.putfield 36, 3)) (kk : ∀ (H1 : Heap) (locs1 : List Loc), WD Z A s (cM Z ad (m_code_s um v)) H1 locs1 → W p l e R s m args below meth c H1 locs1 cells slots Q (F0 m (pc + 3) ls rest)) : W p l e R s m args below meth c H locs cells slots Q (F0 m pc ls (.int v :: .ref (ad 0) :: rest)) :=
  g_put C hw 0 rfl rfl in_M ty_M ty_M_ok nm_M 0 (by decide) w555 rfl rfl rfl rfl (Nat.le_of_ble_eq_true rfl) hdg kk
theorem r_M_40 (C : CX "CoderTablesModel" cc nL rt0 Z A p l s m args meth c) (hw : WD Z A s (cM Z ad um) H locs) (hdg : decode cc pc = .ok (.getfield 40, 3)) (kk : W p l e R s m args below meth c H locs cells slots Q (F0 m (pc + 3) ls (.int (m_coders um) :: rest))) : W p l e R s m args below meth c H locs cells slots Q (F0 m pc ls (.ref (ad 0) :: rest)) :=
  g_get C hw 0 rfl rfl in_M 1 (by decide) w556 rfl rfl hdg kk
theorem s_M_40 {v : Int32} (C : CX "CoderTablesModel" cc nL rt0 Z A p l s m args meth c) (hw : WD Z A s (cM Z ad um) H locs) (hdg : decode cc pc = .ok (.putfield 40, 3)) (kk : ∀ (H1 : Heap) (locs1 : List Loc), WD Z A s (cM Z ad (m_coders_s um v)) H1 locs1 → W p l e R s m args below meth c H1 locs1 cells slots Q (F0 m (pc + 3) ls rest)) : W p l e R s m args below meth c H locs cells slots Q (F0 m pc ls (.int v :: .ref (ad 0) :: rest)) :=
  g_put C hw 0 rfl rfl in_M ty_M ty_M_ok nm_M 1 (by decide) w556 rfl rfl rfl rfl (Nat.le_of_ble_eq_true rfl) hdg kk
theorem r_M_47 (C : CX "CoderTablesModel" cc nL rt0 Z A p l s m args meth c) (hw : WD Z A s (cM Z ad um) H locs) (hdg : decode cc pc = .ok (.getfield 47, 3)) (kk : W p l e R s m args below meth c H locs cells slots Q (F0 m (pc + 3) ls (.int (m_pictures um) :: rest))) : W p l e R s m args below meth c H locs cells slots Q (F0 m pc ls (.ref (ad 0) :: rest)) :=
  g_get C hw 0 rfl rfl in_M 2 (by decide) w557 rfl rfl hdg kk
theorem s_M_47 {v : Int32} (C : CX "CoderTablesModel" cc nL rt0 Z A p l s m args meth c) (hw : WD Z A s (cM Z ad um) H locs) (hdg : decode cc pc = .ok (.putfield 47, 3)) (kk : ∀ (H1 : Heap) (locs1 : List Loc), WD Z A s (cM Z ad (m_pictures_s um v)) H1 locs1 → W p l e R s m args below meth c H1 locs1 cells slots Q (F0 m (pc + 3) ls rest)) : W p l e R s m args below meth c H locs cells slots Q (F0 m pc ls (.int v :: .ref (ad 0) :: rest)) :=
  g_put C hw 0 rfl rfl in_M ty_M ty_M_ok nm_M 2 (by decide) w557 rfl rfl rfl rfl (Nat.le_of_ble_eq_true rfl) hdg kk
theorem r_M_7 (C : CX "CoderTablesModel" cc nL rt0 Z A p l s m args meth c) (hw : WD Z A s (cM Z ad um) H locs) (hdg : decode cc pc = .ok (.getfield 7, 3)) (kk : W p l e R s m args below meth c H locs cells slots Q (F0 m (pc + 3) ls (.ref (ad 1) :: rest))) : W p l e R s m args below meth c H locs cells slots Q (F0 m pc ls (.ref (ad 0) :: rest)) :=
  g_get C hw 0 rfl rfl in_M 3 (by decide) w558 rfl rfl hdg kk
theorem r_M_13 (C : CX "CoderTablesModel" cc nL rt0 Z A p l s m args meth c) (hw : WD Z A s (cM Z ad um) H locs) (hdg : decode cc pc = .ok (.getfield 13, 3)) (kk : W p l e R s m args below meth c H locs cells slots Q (F0 m (pc + 3) ls (.ref (ad 2) :: rest))) : W p l e R s m args below meth c H locs cells slots Q (F0 m pc ls (.ref (ad 0) :: rest)) :=
  g_get C hw 0 rfl rfl in_M 4 (by decide) w559 rfl rfl hdg kk
theorem r_M_17 (C : CX "CoderTablesModel" cc nL rt0 Z A p l s m args meth c) (hw : WD Z A s (cM Z ad um) H locs) (hdg : decode cc pc = .ok (.getfield 17, 3)) (kk : W p l e R s m args below meth c H locs cells slots Q (F0 m (pc + 3) ls (.ref (ad 3) :: rest))) : W p l e R s m args below meth c H locs cells slots Q (F0 m pc ls (.ref (ad 0) :: rest)) :=
  g_get C hw 0 rfl rfl in_M 5 (by decide) w560 rfl rfl hdg kk
theorem r_M_20 (C : CX "CoderTablesModel" cc nL rt0 Z A p l s m args meth c) (hw : WD Z A s (cM Z ad um) H locs) (hdg : decode cc pc = .ok (.getfield 20, 3)) (kk : W p l e R s m args below meth c H locs cells slots Q (F0 m (pc + 3) ls (.ref (ad 4) :: rest))) : W p l e R s m args below meth c H locs cells slots Q (F0 m pc ls (.ref (ad 0) :: rest)) :=
  g_get C hw 0 rfl rfl in_M 6 (by decide) w561 rfl rfl hdg kk
theorem r_M_67 (C : CX "CoderTablesModel" cc nL rt0 Z A p l s m args meth c) (hw : WD Z A s (cM Z ad um) H locs) (hdg : decode cc pc = .ok (.getfield 67, 3)) (kk : W p l e R s m args below meth c H locs cells slots Q (F0 m (pc + 3) ls (.int (m_failures um) :: rest))) : W p l e R s m args below meth c H locs cells slots Q (F0 m pc ls (.ref (ad 0) :: rest)) :=
  g_get C hw 0 rfl rfl in_M 7 (by decide) w562 rfl rfl hdg kk
theorem s_M_67 {v : Int32} (C : CX "CoderTablesModel" cc nL rt0 Z A p l s m args meth c) (hw : WD Z A s (cM Z ad um) H locs) (hdg : decode cc pc = .ok (.putfield 67, 3)) (kk : ∀ (H1 : Heap) (locs1 : List Loc), WD Z A s (cM Z ad (m_failures_s um v)) H1 locs1 → W p l e R s m args below meth c H1 locs1 cells slots Q (F0 m (pc + 3) ls rest)) : W p l e R s m args below meth c H locs cells slots Q (F0 m pc ls (.int v :: .ref (ad 0) :: rest)) :=
  g_put C hw 0 rfl rfl in_M ty_M ty_M_ok nm_M 7 (by decide) w562 rfl rfl rfl rfl (Nat.le_of_ble_eq_true rfl) hdg kk
theorem r_M_23 (C : CX "CoderTablesModel" cc nL rt0 Z A p l s m args meth c) (hw : WD Z A s (cM Z ad um) H locs) (hdg : decode cc pc = .ok (.getfield 23, 3)) (kk : W p l e R s m args below meth c H locs cells slots Q (F0 m (pc + 3) ls (.ref (ad 5) :: rest))) : W p l e R s m args below meth c H locs cells slots Q (F0 m pc ls (.ref (ad 0) :: rest)) :=
  g_get C hw 0 rfl rfl in_M 8 (by decide) w563 rfl rfl hdg kk
theorem r_M_150 (C : CX "CoderTablesModel" cc nL rt0 Z A p l s m args meth c) (hw : WD Z A s (cM Z ad um) H locs) (hdg : decode cc pc = .ok (.getfield 150, 3)) (kk : W p l e R s m args below meth c H locs cells slots Q (F0 m (pc + 3) ls (.int (m_size um) :: rest))) : W p l e R s m args below meth c H locs cells slots Q (F0 m pc ls (.ref (ad 0) :: rest)) :=
  g_get C hw 0 rfl rfl in_M 9 (by decide) w564 rfl rfl hdg kk
theorem s_M_150 {v : Int32} (C : CX "CoderTablesModel" cc nL rt0 Z A p l s m args meth c) (hw : WD Z A s (cM Z ad um) H locs) (hdg : decode cc pc = .ok (.putfield 150, 3)) (kk : ∀ (H1 : Heap) (locs1 : List Loc), WD Z A s (cM Z ad (m_size_s um v)) H1 locs1 → W p l e R s m args below meth c H1 locs1 cells slots Q (F0 m (pc + 3) ls rest)) : W p l e R s m args below meth c H locs cells slots Q (F0 m pc ls (.int v :: .ref (ad 0) :: rest)) :=
  g_put C hw 0 rfl rfl in_M ty_M ty_M_ok nm_M 9 (by decide) w564 rfl rfl rfl rfl (Nat.le_of_ble_eq_true rfl) hdg kk
theorem r_M_26 (C : CX "CoderTablesModel" cc nL rt0 Z A p l s m args meth c) (hw : WD Z A s (cM Z ad um) H locs) (hdg : decode cc pc = .ok (.getfield 26, 3)) (kk : W p l e R s m args below meth c H locs cells slots Q (F0 m (pc + 3) ls (.ref (ad 6) :: rest))) : W p l e R s m args below meth c H locs cells slots Q (F0 m pc ls (.ref (ad 0) :: rest)) :=
  g_get C hw 0 rfl rfl in_M 10 (by decide) w565 rfl rfl hdg kk
theorem r_M_126 (C : CX "CoderTablesModel" cc nL rt0 Z A p l s m args meth c) (hw : WD Z A s (cM Z ad um) H locs) (hdg : decode cc pc = .ok (.getfield 126, 3)) (kk : W p l e R s m args below meth c H locs cells slots Q (F0 m (pc + 3) ls (.long (m_state um) :: rest))) : W p l e R s m args below meth c H locs cells slots Q (F0 m pc ls (.ref (ad 0) :: rest)) :=
  g_get C hw 0 rfl rfl in_M 11 (by decide) w566 rfl rfl hdg kk
theorem s_M_126 {v : Int64} (C : CX "CoderTablesModel" cc nL rt0 Z A p l s m args meth c) (hw : WD Z A s (cM Z ad um) H locs) (hdg : decode cc pc = .ok (.putfield 126, 3)) (kk : ∀ (H1 : Heap) (locs1 : List Loc), WD Z A s (cM Z ad (m_state_s um v)) H1 locs1 → W p l e R s m args below meth c H1 locs1 cells slots Q (F0 m (pc + 3) ls rest)) : W p l e R s m args below meth c H locs cells slots Q (F0 m pc ls (.long v :: .ref (ad 0) :: rest)) :=
  g_put C hw 0 rfl rfl in_M ty_M ty_M_ok nm_M 11 (by decide) w566 rfl rfl rfl rfl (Nat.le_of_ble_eq_true rfl) hdg kk
theorem r_M_98 (C : CX "CoderTablesModel" cc nL rt0 Z A p l s m args meth c) (hw : WD Z A s (cM Z ad um) H locs) (hdg : decode cc pc = .ok (.getfield 98, 3)) (kk : W p l e R s m args below meth c H locs cells slots Q (F0 m (pc + 3) ls (.int (m_hullSize um) :: rest))) : W p l e R s m args below meth c H locs cells slots Q (F0 m pc ls (.ref (ad 0) :: rest)) :=
  g_get C hw 0 rfl rfl in_M 12 (by decide) w567 rfl rfl hdg kk
theorem s_M_98 {v : Int32} (C : CX "CoderTablesModel" cc nL rt0 Z A p l s m args meth c) (hw : WD Z A s (cM Z ad um) H locs) (hdg : decode cc pc = .ok (.putfield 98, 3)) (kk : ∀ (H1 : Heap) (locs1 : List Loc), WD Z A s (cM Z ad (m_hullSize_s um v)) H1 locs1 → W p l e R s m args below meth c H1 locs1 cells slots Q (F0 m (pc + 3) ls rest)) : W p l e R s m args below meth c H locs cells slots Q (F0 m pc ls (.int v :: .ref (ad 0) :: rest)) :=
  g_put C hw 0 rfl rfl in_M ty_M ty_M_ok nm_M 12 (by decide) w567 rfl rfl rfl rfl (Nat.le_of_ble_eq_true rfl) hdg kk
theorem r_M_29 (C : CX "CoderTablesModel" cc nL rt0 Z A p l s m args meth c) (hw : WD Z A s (cM Z ad um) H locs) (hdg : decode cc pc = .ok (.getfield 29, 3)) (kk : W p l e R s m args below meth c H locs cells slots Q (F0 m (pc + 3) ls (.ref (ad 7) :: rest))) : W p l e R s m args below meth c H locs cells slots Q (F0 m pc ls (.ref (ad 0) :: rest)) :=
  g_get C hw 0 rfl rfl in_M 13 (by decide) w568 rfl rfl hdg kk
theorem r_M_32 (C : CX "CoderTablesModel" cc nL rt0 Z A p l s m args meth c) (hw : WD Z A s (cM Z ad um) H locs) (hdg : decode cc pc = .ok (.getfield 32, 3)) (kk : W p l e R s m args below meth c H locs cells slots Q (F0 m (pc + 3) ls (.ref (ad 8) :: rest))) : W p l e R s m args below meth c H locs cells slots Q (F0 m pc ls (.ref (ad 0) :: rest)) :=
  g_get C hw 0 rfl rfl in_M 14 (by decide) w569 rfl rfl hdg kk
theorem al_X_1 {i : Int32} (C : CX own cc nL rt0 Z A p l s m args meth c) (hw : WD Z A s (cX Z ad ux) H locs) (hin : vp_in i 192) (hdg : decode cc pc = .ok (.iaload, 1)) (kk : W p l e R s m args below meth c H locs cells slots Q (F0 m (pc + 1) ls (.int (x_pointCounts ux i.toNatClampNeg) :: rest))) : W p l e R s m args below meth c H locs cells slots Q (F0 m pc ls (.int i :: .ref (ad 1) :: rest)) :=
  g_ldi C hw 1 rfl hin hdg kk
theorem as_X_1 {i : Int32} {v : Int32} (C : CX own cc nL rt0 Z A p l s m args meth c) (hw : WD Z A s (cX Z ad ux) H locs) (hin : vp_in i 192) (hdg : decode cc pc = .ok (.iastore, 1)) (kk : ∀ (H1 : Heap) (locs1 : List Loc), WD Z A s (cX Z ad (x_pointCounts_s ux (upd (x_pointCounts ux) i.toNatClampNeg v))) H1 locs1 → W p l e R s m args below meth c H1 locs1 cells slots Q (F0 m (pc + 1) ls rest)) : W p l e R s m args below meth c H locs cells slots Q (F0 m pc ls (.int v :: .int i :: .ref (ad 1) :: rest)) :=
  g_sti C hw 1 rfl hin hdg kk
theorem an_X_1 (C : CX own cc nL rt0 Z A p l s m args meth c) (hw : WD Z A s (cX Z ad ux) H locs) (hdg : decode cc pc = .ok (.arraylength, 1)) (kk : W p l e R s m args below meth c H locs cells slots Q (F0 m (pc + 1) ls (.int 192 :: rest))) : W p l e R s m args below meth c H locs cells slots Q (F0 m pc ls (.ref (ad 1) :: rest)) :=
  g_len (t0 := 0) C hw 1 rfl rfl rfl hdg kk
theorem al_X_2 {i : Int32} (C : CX own cc nL rt0 Z A p l s m args meth c) (hw : WD Z A s (cX Z ad ux) H locs) (hin : vp_in i 192) (hdg : decode cc pc = .ok (.iaload, 1)) (kk : W p l e R s m args below meth c H locs cells slots Q (F0 m (pc + 1) ls (.int (x_leastBytes ux i.toNatClampNeg) :: rest))) : W p l e R s m args below meth c H locs cells slots Q (F0 m pc ls (.int i :: .ref (ad 2) :: rest)) :=
  g_ldi C hw 2 rfl hin hdg kk
theorem as_X_2 {i : Int32} {v : Int32} (C : CX own cc nL rt0 Z A p l s m args meth c) (hw : WD Z A s (cX Z ad ux) H locs) (hin : vp_in i 192) (hdg : decode cc pc = .ok (.iastore, 1)) (kk : ∀ (H1 : Heap) (locs1 : List Loc), WD Z A s (cX Z ad (x_leastBytes_s ux (upd (x_leastBytes ux) i.toNatClampNeg v))) H1 locs1 → W p l e R s m args below meth c H1 locs1 cells slots Q (F0 m (pc + 1) ls rest)) : W p l e R s m args below meth c H locs cells slots Q (F0 m pc ls (.int v :: .int i :: .ref (ad 2) :: rest)) :=
  g_sti C hw 2 rfl hin hdg kk
theorem an_X_2 (C : CX own cc nL rt0 Z A p l s m args meth c) (hw : WD Z A s (cX Z ad ux) H locs) (hdg : decode cc pc = .ok (.arraylength, 1)) (kk : W p l e R s m args below meth c H locs cells slots Q (F0 m (pc + 1) ls (.int 192 :: rest))) : W p l e R s m args below meth c H locs cells slots Q (F0 m pc ls (.ref (ad 2) :: rest)) :=
  g_len (t0 := 0) C hw 2 rfl rfl rfl hdg kk
theorem al_X_3 {i : Int32} (C : CX own cc nL rt0 Z A p l s m args meth c) (hw : WD Z A s (cX Z ad ux) H locs) (hin : vp_in i 1152) (hdg : decode cc pc = .ok (.iaload, 1)) (kk : W p l e R s m args below meth c H locs cells slots Q (F0 m (pc + 1) ls (.int (x_pointBytes ux i.toNatClampNeg) :: rest))) : W p l e R s m args below meth c H locs cells slots Q (F0 m pc ls (.int i :: .ref (ad 3) :: rest)) :=
  g_ldi C hw 3 rfl hin hdg kk
theorem as_X_3 {i : Int32} {v : Int32} (C : CX own cc nL rt0 Z A p l s m args meth c) (hw : WD Z A s (cX Z ad ux) H locs) (hin : vp_in i 1152) (hdg : decode cc pc = .ok (.iastore, 1)) (kk : ∀ (H1 : Heap) (locs1 : List Loc), WD Z A s (cX Z ad (x_pointBytes_s ux (upd (x_pointBytes ux) i.toNatClampNeg v))) H1 locs1 → W p l e R s m args below meth c H1 locs1 cells slots Q (F0 m (pc + 1) ls rest)) : W p l e R s m args below meth c H locs cells slots Q (F0 m pc ls (.int v :: .int i :: .ref (ad 3) :: rest)) :=
  g_sti C hw 3 rfl hin hdg kk
theorem an_X_3 (C : CX own cc nL rt0 Z A p l s m args meth c) (hw : WD Z A s (cX Z ad ux) H locs) (hdg : decode cc pc = .ok (.arraylength, 1)) (kk : W p l e R s m args below meth c H locs cells slots Q (F0 m (pc + 1) ls (.int 1152 :: rest))) : W p l e R s m args below meth c H locs cells slots Q (F0 m pc ls (.ref (ad 3) :: rest)) :=
  g_len (t0 := 0) C hw 3 rfl rfl rfl hdg kk
theorem al_X_4 {i : Int32} (C : CX own cc nL rt0 Z A p l s m args meth c) (hw : WD Z A s (cX Z ad ux) H locs) (hin : vp_in i 1152) (hdg : decode cc pc = .ok (.iaload, 1)) (kk : W p l e R s m args below meth c H locs cells slots Q (F0 m (pc + 1) ls (.int (x_pointErrors ux i.toNatClampNeg) :: rest))) : W p l e R s m args below meth c H locs cells slots Q (F0 m pc ls (.int i :: .ref (ad 4) :: rest)) :=
  g_ldi C hw 4 rfl hin hdg kk
theorem as_X_4 {i : Int32} {v : Int32} (C : CX own cc nL rt0 Z A p l s m args meth c) (hw : WD Z A s (cX Z ad ux) H locs) (hin : vp_in i 1152) (hdg : decode cc pc = .ok (.iastore, 1)) (kk : ∀ (H1 : Heap) (locs1 : List Loc), WD Z A s (cX Z ad (x_pointErrors_s ux (upd (x_pointErrors ux) i.toNatClampNeg v))) H1 locs1 → W p l e R s m args below meth c H1 locs1 cells slots Q (F0 m (pc + 1) ls rest)) : W p l e R s m args below meth c H locs cells slots Q (F0 m pc ls (.int v :: .int i :: .ref (ad 4) :: rest)) :=
  g_sti C hw 4 rfl hin hdg kk
theorem an_X_4 (C : CX own cc nL rt0 Z A p l s m args meth c) (hw : WD Z A s (cX Z ad ux) H locs) (hdg : decode cc pc = .ok (.arraylength, 1)) (kk : W p l e R s m args below meth c H locs cells slots Q (F0 m (pc + 1) ls (.int 1152 :: rest))) : W p l e R s m args below meth c H locs cells slots Q (F0 m pc ls (.ref (ad 4) :: rest)) :=
  g_len (t0 := 0) C hw 4 rfl rfl rfl hdg kk
theorem al_X_5 {i : Int32} (C : CX own cc nL rt0 Z A p l s m args meth c) (hw : WD Z A s (cX Z ad ux) H locs) (hin : vp_in i 192) (hdg : decode cc pc = .ok (.iaload, 1)) (kk : W p l e R s m args below meth c H locs cells slots Q (F0 m (pc + 1) ls (.int (x_failedPairs ux i.toNatClampNeg) :: rest))) : W p l e R s m args below meth c H locs cells slots Q (F0 m pc ls (.int i :: .ref (ad 5) :: rest)) :=
  g_ldi C hw 5 rfl hin hdg kk
theorem as_X_5 {i : Int32} {v : Int32} (C : CX own cc nL rt0 Z A p l s m args meth c) (hw : WD Z A s (cX Z ad ux) H locs) (hin : vp_in i 192) (hdg : decode cc pc = .ok (.iastore, 1)) (kk : ∀ (H1 : Heap) (locs1 : List Loc), WD Z A s (cX Z ad (x_failedPairs_s ux (upd (x_failedPairs ux) i.toNatClampNeg v))) H1 locs1 → W p l e R s m args below meth c H1 locs1 cells slots Q (F0 m (pc + 1) ls rest)) : W p l e R s m args below meth c H locs cells slots Q (F0 m pc ls (.int v :: .int i :: .ref (ad 5) :: rest)) :=
  g_sti C hw 5 rfl hin hdg kk
theorem an_X_5 (C : CX own cc nL rt0 Z A p l s m args meth c) (hw : WD Z A s (cX Z ad ux) H locs) (hdg : decode cc pc = .ok (.arraylength, 1)) (kk : W p l e R s m args below meth c H locs cells slots Q (F0 m (pc + 1) ls (.int 192 :: rest))) : W p l e R s m args below meth c H locs cells slots Q (F0 m pc ls (.ref (ad 5) :: rest)) :=
  g_len (t0 := 0) C hw 5 rfl rfl rfl hdg kk
theorem al_X_6 {i : Int32} (C : CX own cc nL rt0 Z A p l s m args meth c) (hw : WD Z A s (cX Z ad ux) H locs) (hin : vp_in i 6) (hdg : decode cc pc = .ok (.iaload, 1)) (kk : W p l e R s m args below meth c H locs cells slots Q (F0 m (pc + 1) ls (.int (x_hullSlots ux i.toNatClampNeg) :: rest))) : W p l e R s m args below meth c H locs cells slots Q (F0 m pc ls (.int i :: .ref (ad 6) :: rest)) :=
  g_ldi C hw 6 rfl hin hdg kk
theorem as_X_6 {i : Int32} {v : Int32} (C : CX own cc nL rt0 Z A p l s m args meth c) (hw : WD Z A s (cX Z ad ux) H locs) (hin : vp_in i 6) (hdg : decode cc pc = .ok (.iastore, 1)) (kk : ∀ (H1 : Heap) (locs1 : List Loc), WD Z A s (cX Z ad (x_hullSlots_s ux (upd (x_hullSlots ux) i.toNatClampNeg v))) H1 locs1 → W p l e R s m args below meth c H1 locs1 cells slots Q (F0 m (pc + 1) ls rest)) : W p l e R s m args below meth c H locs cells slots Q (F0 m pc ls (.int v :: .int i :: .ref (ad 6) :: rest)) :=
  g_sti C hw 6 rfl hin hdg kk
theorem an_X_6 (C : CX own cc nL rt0 Z A p l s m args meth c) (hw : WD Z A s (cX Z ad ux) H locs) (hdg : decode cc pc = .ok (.arraylength, 1)) (kk : W p l e R s m args below meth c H locs cells slots Q (F0 m (pc + 1) ls (.int 6 :: rest))) : W p l e R s m args below meth c H locs cells slots Q (F0 m pc ls (.ref (ad 6) :: rest)) :=
  g_len (t0 := 0) C hw 6 rfl rfl rfl hdg kk
theorem al_X_7 {i : Int32} (C : CX own cc nL rt0 Z A p l s m args meth c) (hw : WD Z A s (cX Z ad ux) H locs) (hin : vp_in i 24) (hdg : decode cc pc = .ok (.iaload, 1)) (kk : W p l e R s m args below meth c H locs cells slots Q (F0 m (pc + 1) ls (.int (x_leads ux i.toNatClampNeg) :: rest))) : W p l e R s m args below meth c H locs cells slots Q (F0 m pc ls (.int i :: .ref (ad 7) :: rest)) :=
  g_ldi C hw 7 rfl hin hdg kk
theorem as_X_7 {i : Int32} {v : Int32} (C : CX own cc nL rt0 Z A p l s m args meth c) (hw : WD Z A s (cX Z ad ux) H locs) (hin : vp_in i 24) (hdg : decode cc pc = .ok (.iastore, 1)) (kk : ∀ (H1 : Heap) (locs1 : List Loc), WD Z A s (cX Z ad (x_leads_s ux (upd (x_leads ux) i.toNatClampNeg v))) H1 locs1 → W p l e R s m args below meth c H1 locs1 cells slots Q (F0 m (pc + 1) ls rest)) : W p l e R s m args below meth c H locs cells slots Q (F0 m pc ls (.int v :: .int i :: .ref (ad 7) :: rest)) :=
  g_sti C hw 7 rfl hin hdg kk
theorem an_X_7 (C : CX own cc nL rt0 Z A p l s m args meth c) (hw : WD Z A s (cX Z ad ux) H locs) (hdg : decode cc pc = .ok (.arraylength, 1)) (kk : W p l e R s m args below meth c H locs cells slots Q (F0 m (pc + 1) ls (.int 24 :: rest))) : W p l e R s m args below meth c H locs cells slots Q (F0 m pc ls (.ref (ad 7) :: rest)) :=
  g_len (t0 := 0) C hw 7 rfl rfl rfl hdg kk
theorem al_X_10 {i : Int32} (C : CX own cc nL rt0 Z A p l s m args meth c) (hw : WD Z A s (cX Z ad ux) H locs) (hin : vp_in i 136) (hdg : decode cc pc = .ok (.caload, 1)) (kk : W p l e R s m args below meth c H locs cells slots Q (F0 m (pc + 1) ls (.int (x_chars ux i.toNatClampNeg) :: rest))) : W p l e R s m args below meth c H locs cells slots Q (F0 m pc ls (.int i :: .ref (ad 10) :: rest)) :=
  g_ldc C hw 10 rfl hin hdg kk
theorem as_X_10 {i : Int32} {v : Int32} (C : CX own cc nL rt0 Z A p l s m args meth c) (hw : WD Z A s (cX Z ad ux) H locs) (hin : vp_in i 136) (hdg : decode cc pc = .ok (.castore, 1)) (kk : ∀ (H1 : Heap) (locs1 : List Loc), WD Z A s (cX Z ad (x_chars_s ux (upd (x_chars ux) i.toNatClampNeg (vp_nar .char v)))) H1 locs1 → W p l e R s m args below meth c H1 locs1 cells slots Q (F0 m (pc + 1) ls rest)) : W p l e R s m args below meth c H locs cells slots Q (F0 m pc ls (.int v :: .int i :: .ref (ad 10) :: rest)) :=
  g_stc C hw 10 rfl hin hdg kk
theorem an_X_10 (C : CX own cc nL rt0 Z A p l s m args meth c) (hw : WD Z A s (cX Z ad ux) H locs) (hdg : decode cc pc = .ok (.arraylength, 1)) (kk : W p l e R s m args below meth c H locs cells slots Q (F0 m (pc + 1) ls (.int 136 :: rest))) : W p l e R s m args below meth c H locs cells slots Q (F0 m pc ls (.ref (ad 10) :: rest)) :=
  g_len (t0 := 1) C hw 10 rfl rfl rfl hdg kk
theorem al_M_1 {i : Int32} (C : CX own cc nL rt0 Z A p l s m args meth c) (hw : WD Z A s (cM Z ad um) H locs) (hin : vp_in i 192) (hdg : decode cc pc = .ok (.iaload, 1)) (kk : W p l e R s m args below meth c H locs cells slots Q (F0 m (pc + 1) ls (.int (m_count um i.toNatClampNeg) :: rest))) : W p l e R s m args below meth c H locs cells slots Q (F0 m pc ls (.int i :: .ref (ad 1) :: rest)) :=
  g_ldi C hw 1 rfl hin hdg kk
theorem as_M_1 {i : Int32} {v : Int32} (C : CX own cc nL rt0 Z A p l s m args meth c) (hw : WD Z A s (cM Z ad um) H locs) (hin : vp_in i 192) (hdg : decode cc pc = .ok (.iastore, 1)) (kk : ∀ (H1 : Heap) (locs1 : List Loc), WD Z A s (cM Z ad (m_count_s um (upd (m_count um) i.toNatClampNeg v))) H1 locs1 → W p l e R s m args below meth c H1 locs1 cells slots Q (F0 m (pc + 1) ls rest)) : W p l e R s m args below meth c H locs cells slots Q (F0 m pc ls (.int v :: .int i :: .ref (ad 1) :: rest)) :=
  g_sti C hw 1 rfl hin hdg kk
theorem an_M_1 (C : CX own cc nL rt0 Z A p l s m args meth c) (hw : WD Z A s (cM Z ad um) H locs) (hdg : decode cc pc = .ok (.arraylength, 1)) (kk : W p l e R s m args below meth c H locs cells slots Q (F0 m (pc + 1) ls (.int 192 :: rest))) : W p l e R s m args below meth c H locs cells slots Q (F0 m pc ls (.ref (ad 1) :: rest)) :=
  g_len (t0 := 0) C hw 1 rfl rfl rfl hdg kk
theorem al_M_2 {i : Int32} (C : CX own cc nL rt0 Z A p l s m args meth c) (hw : WD Z A s (cM Z ad um) H locs) (hin : vp_in i 192) (hdg : decode cc pc = .ok (.baload, 1)) (kk : W p l e R s m args below meth c H locs cells slots Q (F0 m (pc + 1) ls (.int (m_hasFailed um i.toNatClampNeg) :: rest))) : W p l e R s m args below meth c H locs cells slots Q (F0 m pc ls (.int i :: .ref (ad 2) :: rest)) :=
  g_ldz C hw 2 rfl hin hdg kk
theorem as_M_2 {i : Int32} {v : Int32} (C : CX own cc nL rt0 Z A p l s m args meth c) (hw : WD Z A s (cM Z ad um) H locs) (hin : vp_in i 192) (hdg : decode cc pc = .ok (.bastore, 1)) (kk : ∀ (H1 : Heap) (locs1 : List Loc), WD Z A s (cM Z ad (m_hasFailed_s um (upd (m_hasFailed um) i.toNatClampNeg (vp_nar .boolean v)))) H1 locs1 → W p l e R s m args below meth c H1 locs1 cells slots Q (F0 m (pc + 1) ls rest)) : W p l e R s m args below meth c H locs cells slots Q (F0 m pc ls (.int v :: .int i :: .ref (ad 2) :: rest)) :=
  g_stz C hw 2 rfl hin hdg kk
theorem an_M_2 (C : CX own cc nL rt0 Z A p l s m args meth c) (hw : WD Z A s (cM Z ad um) H locs) (hdg : decode cc pc = .ok (.arraylength, 1)) (kk : W p l e R s m args below meth c H locs cells slots Q (F0 m (pc + 1) ls (.int 192 :: rest))) : W p l e R s m args below meth c H locs cells slots Q (F0 m pc ls (.ref (ad 2) :: rest)) :=
  g_len (t0 := 2) C hw 2 rfl rfl rfl hdg kk
theorem al_M_3 {i : Int32} (C : CX own cc nL rt0 Z A p l s m args meth c) (hw : WD Z A s (cM Z ad um) H locs) (hin : vp_in i 1152) (hdg : decode cc pc = .ok (.iaload, 1)) (kk : W p l e R s m args below meth c H locs cells slots Q (F0 m (pc + 1) ls (.int (m_bytesOf um i.toNatClampNeg) :: rest))) : W p l e R s m args below meth c H locs cells slots Q (F0 m pc ls (.int i :: .ref (ad 3) :: rest)) :=
  g_ldi C hw 3 rfl hin hdg kk
theorem as_M_3 {i : Int32} {v : Int32} (C : CX own cc nL rt0 Z A p l s m args meth c) (hw : WD Z A s (cM Z ad um) H locs) (hin : vp_in i 1152) (hdg : decode cc pc = .ok (.iastore, 1)) (kk : ∀ (H1 : Heap) (locs1 : List Loc), WD Z A s (cM Z ad (m_bytesOf_s um (upd (m_bytesOf um) i.toNatClampNeg v))) H1 locs1 → W p l e R s m args below meth c H1 locs1 cells slots Q (F0 m (pc + 1) ls rest)) : W p l e R s m args below meth c H locs cells slots Q (F0 m pc ls (.int v :: .int i :: .ref (ad 3) :: rest)) :=
  g_sti C hw 3 rfl hin hdg kk
theorem an_M_3 (C : CX own cc nL rt0 Z A p l s m args meth c) (hw : WD Z A s (cM Z ad um) H locs) (hdg : decode cc pc = .ok (.arraylength, 1)) (kk : W p l e R s m args below meth c H locs cells slots Q (F0 m (pc + 1) ls (.int 1152 :: rest))) : W p l e R s m args below meth c H locs cells slots Q (F0 m pc ls (.ref (ad 3) :: rest)) :=
  g_len (t0 := 0) C hw 3 rfl rfl rfl hdg kk
theorem al_M_4 {i : Int32} (C : CX own cc nL rt0 Z A p l s m args meth c) (hw : WD Z A s (cM Z ad um) H locs) (hin : vp_in i 1152) (hdg : decode cc pc = .ok (.iaload, 1)) (kk : W p l e R s m args below meth c H locs cells slots Q (F0 m (pc + 1) ls (.int (m_errorOf um i.toNatClampNeg) :: rest))) : W p l e R s m args below meth c H locs cells slots Q (F0 m pc ls (.int i :: .ref (ad 4) :: rest)) :=
  g_ldi C hw 4 rfl hin hdg kk
theorem as_M_4 {i : Int32} {v : Int32} (C : CX own cc nL rt0 Z A p l s m args meth c) (hw : WD Z A s (cM Z ad um) H locs) (hin : vp_in i 1152) (hdg : decode cc pc = .ok (.iastore, 1)) (kk : ∀ (H1 : Heap) (locs1 : List Loc), WD Z A s (cM Z ad (m_errorOf_s um (upd (m_errorOf um) i.toNatClampNeg v))) H1 locs1 → W p l e R s m args below meth c H1 locs1 cells slots Q (F0 m (pc + 1) ls rest)) : W p l e R s m args below meth c H locs cells slots Q (F0 m pc ls (.int v :: .int i :: .ref (ad 4) :: rest)) :=
  g_sti C hw 4 rfl hin hdg kk
theorem an_M_4 (C : CX own cc nL rt0 Z A p l s m args meth c) (hw : WD Z A s (cM Z ad um) H locs) (hdg : decode cc pc = .ok (.arraylength, 1)) (kk : W p l e R s m args below meth c H locs cells slots Q (F0 m (pc + 1) ls (.int 1152 :: rest))) : W p l e R s m args below meth c H locs cells slots Q (F0 m pc ls (.ref (ad 4) :: rest)) :=
  g_len (t0 := 0) C hw 4 rfl rfl rfl hdg kk
theorem al_M_5 {i : Int32} (C : CX own cc nL rt0 Z A p l s m args meth c) (hw : WD Z A s (cM Z ad um) H locs) (hin : vp_in i 192) (hdg : decode cc pc = .ok (.iaload, 1)) (kk : W p l e R s m args below meth c H locs cells slots Q (F0 m (pc + 1) ls (.int (m_failure um i.toNatClampNeg) :: rest))) : W p l e R s m args below meth c H locs cells slots Q (F0 m pc ls (.int i :: .ref (ad 5) :: rest)) :=
  g_ldi C hw 5 rfl hin hdg kk
theorem as_M_5 {i : Int32} {v : Int32} (C : CX own cc nL rt0 Z A p l s m args meth c) (hw : WD Z A s (cM Z ad um) H locs) (hin : vp_in i 192) (hdg : decode cc pc = .ok (.iastore, 1)) (kk : ∀ (H1 : Heap) (locs1 : List Loc), WD Z A s (cM Z ad (m_failure_s um (upd (m_failure um) i.toNatClampNeg v))) H1 locs1 → W p l e R s m args below meth c H1 locs1 cells slots Q (F0 m (pc + 1) ls rest)) : W p l e R s m args below meth c H locs cells slots Q (F0 m pc ls (.int v :: .int i :: .ref (ad 5) :: rest)) :=
  g_sti C hw 5 rfl hin hdg kk
theorem an_M_5 (C : CX own cc nL rt0 Z A p l s m args meth c) (hw : WD Z A s (cM Z ad um) H locs) (hdg : decode cc pc = .ok (.arraylength, 1)) (kk : W p l e R s m args below meth c H locs cells slots Q (F0 m (pc + 1) ls (.int 192 :: rest))) : W p l e R s m args below meth c H locs cells slots Q (F0 m pc ls (.ref (ad 5) :: rest)) :=
  g_len (t0 := 0) C hw 5 rfl rfl rfl hdg kk
theorem al_M_6 {i : Int32} (C : CX own cc nL rt0 Z A p l s m args meth c) (hw : WD Z A s (cM Z ad um) H locs) (hin : vp_in i 256) (hdg : decode cc pc = .ok (.iaload, 1)) (kk : W p l e R s m args below meth c H locs cells slots Q (F0 m (pc + 1) ls (.int (m_text um i.toNatClampNeg) :: rest))) : W p l e R s m args below meth c H locs cells slots Q (F0 m pc ls (.int i :: .ref (ad 6) :: rest)) :=
  g_ldi C hw 6 rfl hin hdg kk
theorem as_M_6 {i : Int32} {v : Int32} (C : CX own cc nL rt0 Z A p l s m args meth c) (hw : WD Z A s (cM Z ad um) H locs) (hin : vp_in i 256) (hdg : decode cc pc = .ok (.iastore, 1)) (kk : ∀ (H1 : Heap) (locs1 : List Loc), WD Z A s (cM Z ad (m_text_s um (upd (m_text um) i.toNatClampNeg v))) H1 locs1 → W p l e R s m args below meth c H1 locs1 cells slots Q (F0 m (pc + 1) ls rest)) : W p l e R s m args below meth c H locs cells slots Q (F0 m pc ls (.int v :: .int i :: .ref (ad 6) :: rest)) :=
  g_sti C hw 6 rfl hin hdg kk
theorem an_M_6 (C : CX own cc nL rt0 Z A p l s m args meth c) (hw : WD Z A s (cM Z ad um) H locs) (hdg : decode cc pc = .ok (.arraylength, 1)) (kk : W p l e R s m args below meth c H locs cells slots Q (F0 m (pc + 1) ls (.int 256 :: rest))) : W p l e R s m args below meth c H locs cells slots Q (F0 m pc ls (.ref (ad 6) :: rest)) :=
  g_len (t0 := 0) C hw 6 rfl rfl rfl hdg kk
theorem al_M_7 {i : Int32} (C : CX own cc nL rt0 Z A p l s m args meth c) (hw : WD Z A s (cM Z ad um) H locs) (hin : vp_in i 6) (hdg : decode cc pc = .ok (.iaload, 1)) (kk : W p l e R s m args below meth c H locs cells slots Q (F0 m (pc + 1) ls (.int (m_hull um i.toNatClampNeg) :: rest))) : W p l e R s m args below meth c H locs cells slots Q (F0 m pc ls (.int i :: .ref (ad 7) :: rest)) :=
  g_ldi C hw 7 rfl hin hdg kk
theorem as_M_7 {i : Int32} {v : Int32} (C : CX own cc nL rt0 Z A p l s m args meth c) (hw : WD Z A s (cM Z ad um) H locs) (hin : vp_in i 6) (hdg : decode cc pc = .ok (.iastore, 1)) (kk : ∀ (H1 : Heap) (locs1 : List Loc), WD Z A s (cM Z ad (m_hull_s um (upd (m_hull um) i.toNatClampNeg v))) H1 locs1 → W p l e R s m args below meth c H1 locs1 cells slots Q (F0 m (pc + 1) ls rest)) : W p l e R s m args below meth c H locs cells slots Q (F0 m pc ls (.int v :: .int i :: .ref (ad 7) :: rest)) :=
  g_sti C hw 7 rfl hin hdg kk
theorem an_M_7 (C : CX own cc nL rt0 Z A p l s m args meth c) (hw : WD Z A s (cM Z ad um) H locs) (hdg : decode cc pc = .ok (.arraylength, 1)) (kk : W p l e R s m args below meth c H locs cells slots Q (F0 m (pc + 1) ls (.int 6 :: rest))) : W p l e R s m args below meth c H locs cells slots Q (F0 m pc ls (.ref (ad 7) :: rest)) :=
  g_len (t0 := 0) C hw 7 rfl rfl rfl hdg kk
theorem al_M_8 {i : Int32} (C : CX own cc nL rt0 Z A p l s m args meth c) (hw : WD Z A s (cM Z ad um) H locs) (hin : vp_in i 25) (hdg : decode cc pc = .ok (.laload, 1)) (kk : W p l e R s m args below meth c H locs cells slots Q (F0 m (pc + 1) ls (.long (m_ways um i.toNatClampNeg) :: rest))) : W p l e R s m args below meth c H locs cells slots Q (F0 m pc ls (.int i :: .ref (ad 8) :: rest)) :=
  g_ldl C hw 8 rfl hin hdg kk
theorem as_M_8 {i : Int32} {v : Int64} (C : CX own cc nL rt0 Z A p l s m args meth c) (hw : WD Z A s (cM Z ad um) H locs) (hin : vp_in i 25) (hdg : decode cc pc = .ok (.lastore, 1)) (kk : ∀ (H1 : Heap) (locs1 : List Loc), WD Z A s (cM Z ad (m_ways_s um (vp_updL (m_ways um) i.toNatClampNeg v))) H1 locs1 → W p l e R s m args below meth c H1 locs1 cells slots Q (F0 m (pc + 1) ls rest)) : W p l e R s m args below meth c H locs cells slots Q (F0 m pc ls (.long v :: .int i :: .ref (ad 8) :: rest)) :=
  g_stl C hw 8 rfl hin hdg kk
theorem an_M_8 (C : CX own cc nL rt0 Z A p l s m args meth c) (hw : WD Z A s (cM Z ad um) H locs) (hdg : decode cc pc = .ok (.arraylength, 1)) (kk : W p l e R s m args below meth c H locs cells slots Q (F0 m (pc + 1) ls (.int 25 :: rest))) : W p l e R s m args below meth c H locs cells slots Q (F0 m pc ls (.ref (ad 8) :: rest)) :=
  g_len (t0 := 3) C hw 8 rfl rfl rfl hdg kk
end STR
end
section
/-! CoderTables.coder()I -/
abbrev rm_X_coder : Room := { frames := 6, cells := 1, slots := 6, locals := 90 }
def q_X_coder (u : CT) (post : Int32 → CT → Prop) (ex : String → CT → Prop) : Prop :=
  (((x_coders (u)) < (((8) : Int32)) → post ((x_coders (x_coders_s (u) ((x_coders (u)) + (((1) : Int32))))) - (((1) : Int32))) (x_coders_s (u) ((x_coders (u)) + (((1) : Int32))))) ∧ (¬ (x_coders (u)) < (((8) : Int32)) → ex "java/lang/UnsupportedOperationException" (u)))
set_option maxRecDepth 100000 in
theorem c_X_coder {l : Launch} {Z : ZT} {ad : Nat → Nat} {u : CT} {post : Int32 → CT → Prop} {ex : String → CT → Prop} (hl0 : l.stackTraces = false) (h : q_X_coder u post ex) : ∀ sz, vx_Met l y_X_coder (Cond.code y_X_coder b_X_coder 1 (some .int) :: GW) rm_X_coder (pP Z [.ref (ad 0)] (cX Z ad u) sz) (pQi Z (cX Z ad) (cX Z ad u) sz post) (pX Z (cX Z ad) (cX Z ad u) sz ex) 0 0 rm_X_coder.cells rm_X_coder.slots (va_A (cX Z ad u) sz) := by
  refine g_ent (f := cX Z ad) (Qc := fun sz => pQi Z (cX Z ad) (cX Z ad u) sz post) (XC := fun sz => pX Z (cX Z ad) (cX Z ad u) sz ex) hl0 (by decide +kernel) (Nat.le_of_ble_eq_true rfl) ?_
  intro p e s m args below meth c ls C htab hw hl
  have hl : lv_has ls 1 [(0, .ref (ad 0))] := hl
  unfold q_X_coder at h
  refine lv_aload_n C.2.1 C.2.2.1 d_X_coder_0 rfl (lv_at hl 0 rfl) ?_
  refine r_X_9 C hw d_X_coder_1 ?_
  refine lv_bipush (v := (8)) C.2.1 C.2.2.1 d_X_coder_4 (by decide) ?_
  refine lv_icmp_lt (tgt := 19) C.2.1 C.2.2.1 d_X_coder_6 (by decide) (fun c => ?_) (fun c => ?_)
  · have h := h.1 c
    refine lv_aload_n C.2.1 C.2.2.1 d_X_coder_19 rfl (lv_at hl 0 rfl) ?_
    refine lv_dup C.2.1 C.2.2.1 d_X_coder_20 rfl ?_
    refine r_X_9 C hw d_X_coder_21 ?_
    refine lv_iconst (v := (1)) C.2.1 C.2.2.1 d_X_coder_24 (by decide) ?_
    refine lv_iadd C.2.1 C.2.2.1 d_X_coder_25 ?_
    refine s_X_9 C hw d_X_coder_26 (fun H locs hw => ?_)
    refine lv_aload_n C.2.1 C.2.2.1 d_X_coder_29 rfl (lv_at hl 0 rfl) ?_
    refine r_X_9 C hw d_X_coder_30 ?_
    refine lv_iconst (v := (1)) C.2.1 C.2.2.1 d_X_coder_33 (by decide) ?_
    refine lv_isub C.2.1 C.2.2.1 d_X_coder_34 ?_
    exact g_iret C hw rfl h d_X_coder_35
  · have h := h.2 c
    exact g_throw C htab hw hE_U sg_63 h hl.1 d_X_coder_9 d_X_coder_12 d_X_coder_13 d_X_coder_15 d_X_coder_18 ⟨Nat.le_of_ble_eq_true rfl, Nat.le_of_ble_eq_true rfl, Nat.le_of_ble_eq_true rfl, Nat.le_of_ble_eq_true rfl⟩ (Nat.le_of_ble_eq_true rfl) (Nat.le_of_ble_eq_true rfl)
/-! CoderTables.picture()I -/
abbrev rm_X_picture : Room := { frames := 6, cells := 1, slots := 6, locals := 90 }
def q_X_picture (u : CT) (post : Int32 → CT → Prop) (ex : String → CT → Prop) : Prop :=
  (((x_pictures (u)) < (((24) : Int32)) → post ((x_pictures (x_pictures_s (u) ((x_pictures (u)) + (((1) : Int32))))) - (((1) : Int32))) (x_pictures_s (u) ((x_pictures (u)) + (((1) : Int32))))) ∧ (¬ (x_pictures (u)) < (((24) : Int32)) → ex "java/lang/UnsupportedOperationException" (u)))
set_option maxRecDepth 100000 in
theorem c_X_picture {l : Launch} {Z : ZT} {ad : Nat → Nat} {u : CT} {post : Int32 → CT → Prop} {ex : String → CT → Prop} (hl0 : l.stackTraces = false) (h : q_X_picture u post ex) : ∀ sz, vx_Met l y_X_picture (Cond.code y_X_picture b_X_picture 1 (some .int) :: GW) rm_X_picture (pP Z [.ref (ad 0)] (cX Z ad u) sz) (pQi Z (cX Z ad) (cX Z ad u) sz post) (pX Z (cX Z ad) (cX Z ad u) sz ex) 0 0 rm_X_picture.cells rm_X_picture.slots (va_A (cX Z ad u) sz) := by
  refine g_ent (f := cX Z ad) (Qc := fun sz => pQi Z (cX Z ad) (cX Z ad u) sz post) (XC := fun sz => pX Z (cX Z ad) (cX Z ad u) sz ex) hl0 (by decide +kernel) (Nat.le_of_ble_eq_true rfl) ?_
  intro p e s m args below meth c ls C htab hw hl
  have hl : lv_has ls 1 [(0, .ref (ad 0))] := hl
  unfold q_X_picture at h
  refine lv_aload_n C.2.1 C.2.2.1 d_X_picture_0 rfl (lv_at hl 0 rfl) ?_
  refine r_X_13 C hw d_X_picture_1 ?_
  refine lv_bipush (v := (24)) C.2.1 C.2.2.1 d_X_picture_4 (by decide) ?_
  refine lv_icmp_lt (tgt := 19) C.2.1 C.2.2.1 d_X_picture_6 (by decide) (fun c => ?_) (fun c => ?_)
  · have h := h.1 c
    refine lv_aload_n C.2.1 C.2.2.1 d_X_picture_19 rfl (lv_at hl 0 rfl) ?_
    refine lv_dup C.2.1 C.2.2.1 d_X_picture_20 rfl ?_
    refine r_X_13 C hw d_X_picture_21 ?_
    refine lv_iconst (v := (1)) C.2.1 C.2.2.1 d_X_picture_24 (by decide) ?_
    refine lv_iadd C.2.1 C.2.2.1 d_X_picture_25 ?_
    refine s_X_13 C hw d_X_picture_26 (fun H locs hw => ?_)
    refine lv_aload_n C.2.1 C.2.2.1 d_X_picture_29 rfl (lv_at hl 0 rfl) ?_
    refine r_X_13 C hw d_X_picture_30 ?_
    refine lv_iconst (v := (1)) C.2.1 C.2.2.1 d_X_picture_33 (by decide) ?_
    refine lv_isub C.2.1 C.2.2.1 d_X_picture_34 ?_
    exact g_iret C hw rfl h d_X_picture_35
  · have h := h.2 c
    exact g_throw C htab hw hE_U sg_68 h hl.1 d_X_picture_9 d_X_picture_12 d_X_picture_13 d_X_picture_15 d_X_picture_18 ⟨Nat.le_of_ble_eq_true rfl, Nat.le_of_ble_eq_true rfl, Nat.le_of_ble_eq_true rfl, Nat.le_of_ble_eq_true rfl⟩ (Nat.le_of_ble_eq_true rfl) (Nat.le_of_ble_eq_true rfl)
/-! CoderTables.needCoder(I)V -/
abbrev rm_X_needCoder : Room := { frames := 6, cells := 1, slots := 6, locals := 90 }
def q_X_needCoder_12  (u : CT) (post : CT → Prop) (ex : String → CT → Prop) : Prop :=
  ex "java/lang/IndexOutOfBoundsException" (u)
set_option maxRecDepth 100000 in
theorem w_X_needCoder_12 {p : Program} {l : Launch} {e : Env} {s : State} {m : MethodId} {args : Array Value} {below : List Frame} {meth : Method} {c : Code} {Z : ZT} {ad : Nat → Nat} {u0 : CT} {post : CT → Prop} {ex : String → CT → Prop} (C : CX "CoderTables" b_X_needCoder 2 none Z (va_A (cX Z ad u0) s.heap.size) p l s m args meth c) (htab : ∀ x ∈ c.exceptionTable.toList, False)  (u : CT) (H : Heap) (locs : List Loc) (ls : Array Slot) (hw : WD Z (va_A (cX Z ad u0) s.heap.size) s (cX Z ad u) H locs) (hl : lv_has ls 2 []) (h : q_X_needCoder_12  u post ex) : W p l e rm_X_needCoder s m args below meth c H locs 0 0 (vx_MQ below (pQv Z (cX Z ad) (cX Z ad u0) s.heap.size post) (pX Z (cX Z ad) (cX Z ad u0) s.heap.size ex) args s 0 0 rm_X_needCoder.cells rm_X_needCoder.slots (va_A (cX Z ad u0) s.heap.size)) (F0 m 12 ls []) := by
  unfold q_X_needCoder_12 at h
  exact g_throw C htab hw hE_O sg_215 h hl.1 d_X_needCoder_12 d_X_needCoder_15 d_X_needCoder_16 d_X_needCoder_18 d_X_needCoder_21 ⟨Nat.le_of_ble_eq_true rfl, Nat.le_of_ble_eq_true rfl, Nat.le_of_ble_eq_true rfl, Nat.le_of_ble_eq_true rfl⟩ (Nat.le_of_ble_eq_true rfl) (Nat.le_of_ble_eq_true rfl)
def q_X_needCoder (p1 : Int32) (u : CT) (post : CT → Prop) (ex : String → CT → Prop) : Prop :=
  (((p1) < 0 → q_X_needCoder_12  (u) post ex) ∧ (¬ (p1) < 0 → (((p1) < (x_coders (u)) → post (u)) ∧ (¬ (p1) < (x_coders (u)) → q_X_needCoder_12  (u) post ex))))
set_option maxRecDepth 100000 in
theorem c_X_needCoder {l : Launch} {Z : ZT} {ad : Nat → Nat} {u : CT} {post : CT → Prop} {ex : String → CT → Prop} {p1 : Int32} (hl0 : l.stackTraces = false) (h : q_X_needCoder p1 u post ex) : ∀ sz, vx_Met l y_X_needCoder (Cond.code y_X_needCoder b_X_needCoder 2 none :: GW) rm_X_needCoder (pP Z [.ref (ad 0), .int (p1)] (cX Z ad u) sz) (pQv Z (cX Z ad) (cX Z ad u) sz post) (pX Z (cX Z ad) (cX Z ad u) sz ex) 0 0 rm_X_needCoder.cells rm_X_needCoder.slots (va_A (cX Z ad u) sz) := by
  refine g_ent (f := cX Z ad) (Qc := fun sz => pQv Z (cX Z ad) (cX Z ad u) sz post) (XC := fun sz => pX Z (cX Z ad) (cX Z ad u) sz ex) hl0 (by decide +kernel) (Nat.le_of_ble_eq_true rfl) ?_
  intro p e s m args below meth c ls C htab hw hl
  have hl : lv_has ls 2 [(0, .ref (ad 0)), (1, .int (p1))] := hl
  unfold q_X_needCoder at h
  refine lv_iload_n C.2.1 C.2.2.1 d_X_needCoder_0 rfl (lv_at hl 1 rfl) ?_
  refine lv_if_lt (tgt := 12) C.2.1 C.2.2.1 d_X_needCoder_1 (by decide) (fun c => ?_) (fun c => ?_)
  · have h := h.1 c
    exact w_X_needCoder_12 C htab  _ _ _ _ hw (lv_sub hl [] rfl) h
  · have h := h.2 c
    refine lv_iload_n C.2.1 C.2.2.1 d_X_needCoder_4 rfl (lv_at hl 1 rfl) ?_
    refine lv_aload_n C.2.1 C.2.2.1 d_X_needCoder_5 rfl (lv_at hl 0 rfl) ?_
    refine r_X_9 C hw d_X_needCoder_6 ?_
    refine lv_icmp_lt (tgt := 22) C.2.1 C.2.2.1 d_X_needCoder_9 (by decide) (fun c => ?_) (fun c => ?_)
    · have h := h.1 c
      exact g_vret C hw h d_X_needCoder_22
    · have h := h.2 c
      exact w_X_needCoder_12 C htab  _ _ _ _ hw (lv_sub hl [] rfl) h
section KR
variable {own host : String} {cc bytes : ByteArray} {nL maxL index n : Nat} {rt0 rt : Option FieldType} {Z : ZT} {ad : Nat → Nat} {A : Nat → Prop}
variable {p : Program} {l : Launch} {e : Env} {R : Room} {s : State} {m : MethodId} {args : Array Value} {below : List Frame} {meth : Method} {c : Code} {H : Heap} {locs : List Loc} {cells slots : Nat} {Q : State → Prop} {rest : List Value} {pc : Nat} {ls : Array Slot}
theorem k_X_114 {u : CT} {p1 : Int32} {post : CT → Prop} {ex : String → CT → Prop} (C : CX "CoderTables" cc nL rt0 Z A p l s m args meth c) (hw : WD Z A s (cX Z ad u) H locs) (h : q_X_needCoder p1 u post ex) (hR : rmOk rm_X_needCoder 2 R cells slots) (hl : ls.size = nL) (hW : (rest.map fun v => v.category).sum ≤ 8) (hdg : decode cc pc = .ok (.invokevirtual 114, 3)) (kx : ∀ (E : String) (u' : CT) (q9 : Addr) (ce : Cell) (H1 : Heap) (locs1 : List Loc), ex E u' → WD Z A s (cX Z ad u') H1 locs1 → H1[q9]? = some ce → ce.vm = .none → s.vm.findClass E = some ce.cls → vx_W p l e R s m args below meth c H1 locs1 (cells + rm_X_needCoder.cells) (slots + rm_X_needCoder.slots) Q (F0 m pc ls rest) q9) (kk : ∀ (u' : CT) (H1 : Heap) (locs1 : List Loc), post u' → WD Z A s (cX Z ad u') H1 locs1 → W p l e R s m args below meth c H1 locs1 cells slots Q (F0 m (pc + 3) ls (rest))) : W p l e R s m args below meth c H locs cells slots Q (F0 m pc ls (.int (p1) :: .ref (ad 0) :: rest)) :=
  g_V0_v (f := cX Z ad) (As := [.int (p1)]) C hw (c_X_needCoder C.1 h) ⟨w331, w333, w17, w53, w334, (by decide +kernel), (by decide +kernel), (by decide +kernel)⟩ hR 0 rfl rfl rfl hl rfl hW hdg kx kk
end KR
/-! CoderTables.needPicture(I)V -/
abbrev rm_X_needPicture : Room := { frames := 6, cells := 1, slots := 6, locals := 90 }
def q_X_needPicture_12  (u : CT) (post : CT → Prop) (ex : String → CT → Prop) : Prop :=
  ex "java/lang/IndexOutOfBoundsException" (u)
set_option maxRecDepth 100000 in
theorem w_X_needPicture_12 {p : Program} {l : Launch} {e : Env} {s : State} {m : MethodId} {args : Array Value} {below : List Frame} {meth : Method} {c : Code} {Z : ZT} {ad : Nat → Nat} {u0 : CT} {post : CT → Prop} {ex : String → CT → Prop} (C : CX "CoderTables" b_X_needPicture 2 none Z (va_A (cX Z ad u0) s.heap.size) p l s m args meth c) (htab : ∀ x ∈ c.exceptionTable.toList, False)  (u : CT) (H : Heap) (locs : List Loc) (ls : Array Slot) (hw : WD Z (va_A (cX Z ad u0) s.heap.size) s (cX Z ad u) H locs) (hl : lv_has ls 2 []) (h : q_X_needPicture_12  u post ex) : W p l e rm_X_needPicture s m args below meth c H locs 0 0 (vx_MQ below (pQv Z (cX Z ad) (cX Z ad u0) s.heap.size post) (pX Z (cX Z ad) (cX Z ad u0) s.heap.size ex) args s 0 0 rm_X_needPicture.cells rm_X_needPicture.slots (va_A (cX Z ad u0) s.heap.size)) (F0 m 12 ls []) := by
  unfold q_X_needPicture_12 at h
  exact g_throw C htab hw hE_O sg_217 h hl.1 d_X_needPicture_12 d_X_needPicture_15 d_X_needPicture_16 d_X_needPicture_18 d_X_needPicture_21 ⟨Nat.le_of_ble_eq_true rfl, Nat.le_of_ble_eq_true rfl, Nat.le_of_ble_eq_true rfl, Nat.le_of_ble_eq_true rfl⟩ (Nat.le_of_ble_eq_true rfl) (Nat.le_of_ble_eq_true rfl)
def q_X_needPicture (p1 : Int32) (u : CT) (post : CT → Prop) (ex : String → CT → Prop) : Prop :=
  (((p1) < 0 → q_X_needPicture_12  (u) post ex) ∧ (¬ (p1) < 0 → (((p1) < (x_pictures (u)) → post (u)) ∧ (¬ (p1) < (x_pictures (u)) → q_X_needPicture_12  (u) post ex))))
set_option maxRecDepth 100000 in
theorem c_X_needPicture {l : Launch} {Z : ZT} {ad : Nat → Nat} {u : CT} {post : CT → Prop} {ex : String → CT → Prop} {p1 : Int32} (hl0 : l.stackTraces = false) (h : q_X_needPicture p1 u post ex) : ∀ sz, vx_Met l y_X_needPicture (Cond.code y_X_needPicture b_X_needPicture 2 none :: GW) rm_X_needPicture (pP Z [.ref (ad 0), .int (p1)] (cX Z ad u) sz) (pQv Z (cX Z ad) (cX Z ad u) sz post) (pX Z (cX Z ad) (cX Z ad u) sz ex) 0 0 rm_X_needPicture.cells rm_X_needPicture.slots (va_A (cX Z ad u) sz) := by
  refine g_ent (f := cX Z ad) (Qc := fun sz => pQv Z (cX Z ad) (cX Z ad u) sz post) (XC := fun sz => pX Z (cX Z ad) (cX Z ad u) sz ex) hl0 (by decide +kernel) (Nat.le_of_ble_eq_true rfl) ?_
  intro p e s m args below meth c ls C htab hw hl
  have hl : lv_has ls 2 [(0, .ref (ad 0)), (1, .int (p1))] := hl
  unfold q_X_needPicture at h
  refine lv_iload_n C.2.1 C.2.2.1 d_X_needPicture_0 rfl (lv_at hl 1 rfl) ?_
  refine lv_if_lt (tgt := 12) C.2.1 C.2.2.1 d_X_needPicture_1 (by decide) (fun c => ?_) (fun c => ?_)
  · have h := h.1 c
    exact w_X_needPicture_12 C htab  _ _ _ _ hw (lv_sub hl [] rfl) h
  · have h := h.2 c
    refine lv_iload_n C.2.1 C.2.2.1 d_X_needPicture_4 rfl (lv_at hl 1 rfl) ?_
    refine lv_aload_n C.2.1 C.2.2.1 d_X_needPicture_5 rfl (lv_at hl 0 rfl) ?_
    refine r_X_13 C hw d_X_needPicture_6 ?_
    refine lv_icmp_lt (tgt := 22) C.2.1 C.2.2.1 d_X_needPicture_9 (by decide) (fun c => ?_) (fun c => ?_)
    · have h := h.1 c
      exact g_vret C hw h d_X_needPicture_22
    · have h := h.2 c
      exact w_X_needPicture_12 C htab  _ _ _ _ hw (lv_sub hl [] rfl) h
section KR
variable {own host : String} {cc bytes : ByteArray} {nL maxL index n : Nat} {rt0 rt : Option FieldType} {Z : ZT} {ad : Nat → Nat} {A : Nat → Prop}
variable {p : Program} {l : Launch} {e : Env} {R : Room} {s : State} {m : MethodId} {args : Array Value} {below : List Frame} {meth : Method} {c : Code} {H : Heap} {locs : List Loc} {cells slots : Nat} {Q : State → Prop} {rest : List Value} {pc : Nat} {ls : Array Slot}
theorem k_X_106 {u : CT} {p1 : Int32} {post : CT → Prop} {ex : String → CT → Prop} (C : CX "CoderTables" cc nL rt0 Z A p l s m args meth c) (hw : WD Z A s (cX Z ad u) H locs) (h : q_X_needPicture p1 u post ex) (hR : rmOk rm_X_needPicture 2 R cells slots) (hl : ls.size = nL) (hW : (rest.map fun v => v.category).sum ≤ 8) (hdg : decode cc pc = .ok (.invokevirtual 106, 3)) (kx : ∀ (E : String) (u' : CT) (q9 : Addr) (ce : Cell) (H1 : Heap) (locs1 : List Loc), ex E u' → WD Z A s (cX Z ad u') H1 locs1 → H1[q9]? = some ce → ce.vm = .none → s.vm.findClass E = some ce.cls → vx_W p l e R s m args below meth c H1 locs1 (cells + rm_X_needPicture.cells) (slots + rm_X_needPicture.slots) Q (F0 m pc ls rest) q9) (kk : ∀ (u' : CT) (H1 : Heap) (locs1 : List Loc), post u' → WD Z A s (cX Z ad u') H1 locs1 → W p l e R s m args below meth c H1 locs1 cells slots Q (F0 m (pc + 3) ls (rest))) : W p l e R s m args below meth c H locs cells slots Q (F0 m pc ls (.int (p1) :: .ref (ad 0) :: rest)) :=
  g_V0_v (f := cX Z ad) (As := [.int (p1)]) C hw (c_X_needPicture C.1 h) ⟨w351, w353, w18, w53, w354, (by decide +kernel), (by decide +kernel), (by decide +kernel)⟩ hR 0 rfl rfl rfl hl rfl hW hdg kx kk
end KR
/-! CoderTables.pairOf(II)I -/
abbrev rm_X_pairOf : Room := { frames := 7, cells := 1, slots := 6, locals := 111 }
def q_X_pairOf (p1 : Int32) (p2 : Int32) (u : CT) (post : Int32 → CT → Prop) (ex : String → CT → Prop) : Prop :=
  q_X_needCoder (p1) (u) (fun u2 => q_X_needPicture (p2) (u2) (fun u4 => post (((p1) * (((24) : Int32))) + (p2)) (u4)) ex) ex
set_option maxRecDepth 100000 in
theorem c_X_pairOf {l : Launch} {Z : ZT} {ad : Nat → Nat} {u : CT} {post : Int32 → CT → Prop} {ex : String → CT → Prop} {p1 : Int32} {p2 : Int32} (hl0 : l.stackTraces = false) (h : q_X_pairOf p1 p2 u post ex) : ∀ sz, vx_Met l y_X_pairOf (Cond.code y_X_pairOf b_X_pairOf 3 (some .int) :: GW) rm_X_pairOf (pP Z [.ref (ad 0), .int (p1), .int (p2)] (cX Z ad u) sz) (pQi Z (cX Z ad) (cX Z ad u) sz post) (pX Z (cX Z ad) (cX Z ad u) sz ex) 0 0 rm_X_pairOf.cells rm_X_pairOf.slots (va_A (cX Z ad u) sz) := by
  refine g_ent (f := cX Z ad) (Qc := fun sz => pQi Z (cX Z ad) (cX Z ad u) sz post) (XC := fun sz => pX Z (cX Z ad) (cX Z ad u) sz ex) hl0 (by decide +kernel) (Nat.le_of_ble_eq_true rfl) ?_
  intro p e s m args below meth c ls C htab hw hl
  have hl : lv_has ls 3 [(0, .ref (ad 0)), (1, .int (p1)), (2, .int (p2))] := hl
  unfold q_X_pairOf at h
  refine lv_aload_n C.2.1 C.2.2.1 d_X_pairOf_0 rfl (lv_at hl 0 rfl) ?_
  refine lv_iload_n C.2.1 C.2.2.1 d_X_pairOf_1 rfl (lv_at hl 1 rfl) ?_
  refine k_X_114 C hw h ⟨Nat.le_of_ble_eq_true rfl, Nat.le_of_ble_eq_true rfl, Nat.le_of_ble_eq_true rfl, Nat.le_of_ble_eq_true rfl⟩ hl.1 (Nat.le_of_ble_eq_true rfl) d_X_pairOf_2 (fun _ _ _ _ _ _ he hw h1 h2 h3 => g_out C htab hw he h1 h2 h3 (Nat.le_of_ble_eq_true rfl) (Nat.le_of_ble_eq_true rfl)) (fun u2 H locs h hw => ?_)
  refine lv_aload_n C.2.1 C.2.2.1 d_X_pairOf_5 rfl (lv_at hl 0 rfl) ?_
  refine lv_iload_n C.2.1 C.2.2.1 d_X_pairOf_6 rfl (lv_at hl 2 rfl) ?_
  refine k_X_106 C hw h ⟨Nat.le_of_ble_eq_true rfl, Nat.le_of_ble_eq_true rfl, Nat.le_of_ble_eq_true rfl, Nat.le_of_ble_eq_true rfl⟩ hl.1 (Nat.le_of_ble_eq_true rfl) d_X_pairOf_7 (fun _ _ _ _ _ _ he hw h1 h2 h3 => g_out C htab hw he h1 h2 h3 (Nat.le_of_ble_eq_true rfl) (Nat.le_of_ble_eq_true rfl)) (fun u4 H locs h hw => ?_)
  refine lv_iload_n C.2.1 C.2.2.1 d_X_pairOf_10 rfl (lv_at hl 1 rfl) ?_
  refine lv_bipush (v := (24)) C.2.1 C.2.2.1 d_X_pairOf_11 (by decide) ?_
  refine lv_imul C.2.1 C.2.2.1 d_X_pairOf_13 ?_
  refine lv_iload_n C.2.1 C.2.2.1 d_X_pairOf_14 rfl (lv_at hl 2 rfl) ?_
  refine lv_iadd C.2.1 C.2.2.1 d_X_pairOf_15 ?_
  exact g_iret C hw rfl h d_X_pairOf_16
section KR
variable {own host : String} {cc bytes : ByteArray} {nL maxL index n : Nat} {rt0 rt : Option FieldType} {Z : ZT} {ad : Nat → Nat} {A : Nat → Prop}
variable {p : Program} {l : Launch} {e : Env} {R : Room} {s : State} {m : MethodId} {args : Array Value} {below : List Frame} {meth : Method} {c : Code} {H : Heap} {locs : List Loc} {cells slots : Nat} {Q : State → Prop} {rest : List Value} {pc : Nat} {ls : Array Slot}
theorem k_X_70 {u : CT} {p1 : Int32} {p2 : Int32} {post : Int32 → CT → Prop} {ex : String → CT → Prop} (C : CX "CoderTables" cc nL rt0 Z A p l s m args meth c) (hw : WD Z A s (cX Z ad u) H locs) (h : q_X_pairOf p1 p2 u post ex) (hR : rmOk rm_X_pairOf 3 R cells slots) (hl : ls.size = nL) (hW : (rest.map fun v => v.category).sum ≤ 8) (hdg : decode cc pc = .ok (.invokevirtual 70, 3)) (kx : ∀ (E : String) (u' : CT) (q9 : Addr) (ce : Cell) (H1 : Heap) (locs1 : List Loc), ex E u' → WD Z A s (cX Z ad u') H1 locs1 → H1[q9]? = some ce → ce.vm = .none → s.vm.findClass E = some ce.cls → vx_W p l e R s m args below meth c H1 locs1 (cells + rm_X_pairOf.cells) (slots + rm_X_pairOf.slots) Q (F0 m pc ls rest) q9) (kk : ∀ (r : Int32) (u' : CT) (H1 : Heap) (locs1 : List Loc), post r u' → WD Z A s (cX Z ad u') H1 locs1 → W p l e R s m args below meth c H1 locs1 cells slots Q (F0 m (pc + 3) ls (.int r :: rest))) : W p l e R s m args below meth c H locs cells slots Q (F0 m pc ls (.int (p2) :: .int (p1) :: .ref (ad 0) :: rest)) :=
  g_V0_i (f := cX Z ad) (As := [.int (p1), .int (p2)]) C hw (c_X_pairOf C.1 h) ⟨w327, w329, w16, w53, w330, (by decide +kernel), (by decide +kernel), (by decide +kernel)⟩ hR 0 rfl rfl rfl hl rfl hW hdg kx kk
end KR
/-! CoderTables.addPoint(III)V -/
abbrev rm_X_addPoint : Room := { frames := 0, cells := 0, slots := 0, locals := 0 }
def q_X_addPoint_68 (x1 : Int32) (x4 : Int32) (u : CT) (post : CT → Prop) : Prop :=
  (vp_in (x1) 192 ∧ post (x_pointCounts_s (u) (upd (x_pointCounts (u)) (x1).toNatClampNeg ((x4) + (((1) : Int32))))))
set_option maxRecDepth 100000 in
theorem w_X_addPoint_68 {p : Program} {l : Launch} {e : Env} {s : State} {m : MethodId} {args : Array Value} {below : List Frame} {meth : Method} {c : Code} {Z : ZT} {ad : Nat → Nat} {u0 : CT} {post : CT → Prop} (C : CX "CoderTables" b_X_addPoint 6 none Z (va_A (cX Z ad u0) s.heap.size) p l s m args meth c) (htab : ∀ x ∈ c.exceptionTable.toList, False) (x1 : Int32) (x4 : Int32) (u : CT) (H : Heap) (locs : List Loc) (ls : Array Slot) (hw : WD Z (va_A (cX Z ad u0) s.heap.size) s (cX Z ad u) H locs) (hl : lv_has ls 6 [(0, .ref (ad 0)), (1, .int (x1)), (4, .int (x4))]) (h : q_X_addPoint_68 x1 x4 u post) : W p l e rm_X_addPoint s m args below meth c H locs 0 0 (vx_MQ below (pQv Z (cX Z ad) (cX Z ad u0) s.heap.size post) (pX Z (cX Z ad) (cX Z ad u0) s.heap.size (fun _ _ => False)) args s 0 0 rm_X_addPoint.cells rm_X_addPoint.slots (va_A (cX Z ad u0) s.heap.size)) (F0 m 68 ls []) := by
  unfold q_X_addPoint_68 at h
  refine lv_aload_n C.2.1 C.2.2.1 d_X_addPoint_68 rfl (lv_at hl 0 rfl) ?_
  refine r_X_16 C hw d_X_addPoint_69 ?_
  refine lv_iload_n C.2.1 C.2.2.1 d_X_addPoint_72 rfl (lv_at hl 1 rfl) ?_
  refine lv_iload C.2.1 C.2.2.1 d_X_addPoint_73 (lv_at hl 2 rfl) ?_
  refine lv_iconst (v := (1)) C.2.1 C.2.2.1 d_X_addPoint_75 (by decide) ?_
  refine lv_iadd C.2.1 C.2.2.1 d_X_addPoint_76 ?_
  obtain ⟨hi, h⟩ := h
  refine as_X_1 C hw hi d_X_addPoint_77 (fun H locs hw => ?_)
  exact g_vret C hw h d_X_addPoint_78
def q_X_addPoint_61 (x1 : Int32) (x2 : Int32) (x4 : Int32) (u : CT) (post : CT → Prop) : Prop :=
  (vp_in (x1) 192 ∧ q_X_addPoint_68 (x1) (x4) (x_leastBytes_s (u) (upd (x_leastBytes (u)) (x1).toNatClampNeg (x2))) post)
set_option maxRecDepth 100000 in
theorem w_X_addPoint_61 {p : Program} {l : Launch} {e : Env} {s : State} {m : MethodId} {args : Array Value} {below : List Frame} {meth : Method} {c : Code} {Z : ZT} {ad : Nat → Nat} {u0 : CT} {post : CT → Prop} (C : CX "CoderTables" b_X_addPoint 6 none Z (va_A (cX Z ad u0) s.heap.size) p l s m args meth c) (htab : ∀ x ∈ c.exceptionTable.toList, False) (x1 : Int32) (x2 : Int32) (x4 : Int32) (u : CT) (H : Heap) (locs : List Loc) (ls : Array Slot) (hw : WD Z (va_A (cX Z ad u0) s.heap.size) s (cX Z ad u) H locs) (hl : lv_has ls 6 [(0, .ref (ad 0)), (1, .int (x1)), (2, .int (x2)), (4, .int (x4))]) (h : q_X_addPoint_61 x1 x2 x4 u post) : W p l e rm_X_addPoint s m args below meth c H locs 0 0 (vx_MQ below (pQv Z (cX Z ad) (cX Z ad u0) s.heap.size post) (pX Z (cX Z ad) (cX Z ad u0) s.heap.size (fun _ _ => False)) args s 0 0 rm_X_addPoint.cells rm_X_addPoint.slots (va_A (cX Z ad u0) s.heap.size)) (F0 m 61 ls []) := by
  unfold q_X_addPoint_61 at h
  refine lv_aload_n C.2.1 C.2.2.1 d_X_addPoint_61 rfl (lv_at hl 0 rfl) ?_
  refine r_X_20 C hw d_X_addPoint_62 ?_
  refine lv_iload_n C.2.1 C.2.2.1 d_X_addPoint_65 rfl (lv_at hl 1 rfl) ?_
  refine lv_iload_n C.2.1 C.2.2.1 d_X_addPoint_66 rfl (lv_at hl 2 rfl) ?_
  obtain ⟨hi, h⟩ := h
  refine as_X_2 C hw hi d_X_addPoint_67 (fun H locs hw => ?_)
  exact w_X_addPoint_68 C htab (x1) (x4) _ _ _ _ hw (lv_sub hl [0, 1, 3] rfl) h
def q_X_addPoint (p1 : Int32) (p2 : Int32) (p3 : Int32) (u : CT) (post : CT → Prop) : Prop :=
  (vp_in (p1) 192 ∧ (((x_pointCounts (u) (p1).toNatClampNeg) < 0 → post (u)) ∧ (¬ (x_pointCounts (u) (p1).toNatClampNeg) < 0 → (((x_pointCounts (u) (p1).toNatClampNeg) < (((6) : Int32)) → (vp_in (((p1) * (((6) : Int32))) + (x_pointCounts (u) (p1).toNatClampNeg)) 1152 ∧ (vp_in (((p1) * (((6) : Int32))) + (x_pointCounts (u) (p1).toNatClampNeg)) 1152 ∧ (((x_pointCounts (u) (p1).toNatClampNeg) = 0 → q_X_addPoint_61 (p1) (p2) (x_pointCounts (u) (p1).toNatClampNeg) (x_pointErrors_s (x_pointBytes_s (u) (upd (x_pointBytes (u)) (((p1) * (((6) : Int32))) + (x_pointCounts (u) (p1).toNatClampNeg)).toNatClampNeg (p2))) (upd (x_pointErrors (x_pointBytes_s (u) (upd (x_pointBytes (u)) (((p1) * (((6) : Int32))) + (x_pointCounts (u) (p1).toNatClampNeg)).toNatClampNeg (p2)))) (((p1) * (((6) : Int32))) + (x_pointCounts (u) (p1).toNatClampNeg)).toNatClampNeg (p3))) post) ∧ (¬ (x_pointCounts (u) (p1).toNatClampNeg) = 0 → (vp_in (p1) 192 ∧ (((x_leastBytes (x_pointErrors_s (x_pointBytes_s (u) (upd (x_pointBytes (u)) (((p1) * (((6) : Int32))) + (x_pointCounts (u) (p1).toNatClampNeg)).toNatClampNeg (p2))) (upd (x_pointErrors (x_pointBytes_s (u) (upd (x_pointBytes (u)) (((p1) * (((6) : Int32))) + (x_pointCounts (u) (p1).toNatClampNeg)).toNatClampNeg (p2)))) (((p1) * (((6) : Int32))) + (x_pointCounts (u) (p1).toNatClampNeg)).toNatClampNeg (p3))) (p1).toNatClampNeg) ≤ (p2) → q_X_addPoint_68 (p1) (x_pointCounts (u) (p1).toNatClampNeg) (x_pointErrors_s (x_pointBytes_s (u) (upd (x_pointBytes (u)) (((p1) * (((6) : Int32))) + (x_pointCounts (u) (p1).toNatClampNeg)).toNatClampNeg (p2))) (upd (x_pointErrors (x_pointBytes_s (u) (upd (x_pointBytes (u)) (((p1) * (((6) : Int32))) + (x_pointCounts (u) (p1).toNatClampNeg)).toNatClampNeg (p2)))) (((p1) * (((6) : Int32))) + (x_pointCounts (u) (p1).toNatClampNeg)).toNatClampNeg (p3))) post) ∧ (¬ (x_leastBytes (x_pointErrors_s (x_pointBytes_s (u) (upd (x_pointBytes (u)) (((p1) * (((6) : Int32))) + (x_pointCounts (u) (p1).toNatClampNeg)).toNatClampNeg (p2))) (upd (x_pointErrors (x_pointBytes_s (u) (upd (x_pointBytes (u)) (((p1) * (((6) : Int32))) + (x_pointCounts (u) (p1).toNatClampNeg)).toNatClampNeg (p2)))) (((p1) * (((6) : Int32))) + (x_pointCounts (u) (p1).toNatClampNeg)).toNatClampNeg (p3))) (p1).toNatClampNeg) ≤ (p2) → q_X_addPoint_61 (p1) (p2) (x_pointCounts (u) (p1).toNatClampNeg) (x_pointErrors_s (x_pointBytes_s (u) (upd (x_pointBytes (u)) (((p1) * (((6) : Int32))) + (x_pointCounts (u) (p1).toNatClampNeg)).toNatClampNeg (p2))) (upd (x_pointErrors (x_pointBytes_s (u) (upd (x_pointBytes (u)) (((p1) * (((6) : Int32))) + (x_pointCounts (u) (p1).toNatClampNeg)).toNatClampNeg (p2)))) (((p1) * (((6) : Int32))) + (x_pointCounts (u) (p1).toNatClampNeg)).toNatClampNeg (p3))) post)))))))) ∧ (¬ (x_pointCounts (u) (p1).toNatClampNeg) < (((6) : Int32)) → post (u))))))
set_option maxRecDepth 100000 in
theorem c_X_addPoint {l : Launch} {Z : ZT} {ad : Nat → Nat} {u : CT} {post : CT → Prop} {p1 : Int32} {p2 : Int32} {p3 : Int32} (hl0 : l.stackTraces = false) (h : q_X_addPoint p1 p2 p3 u post) : ∀ sz, vx_Met l y_X_addPoint (Cond.code y_X_addPoint b_X_addPoint 6 none :: GW) rm_X_addPoint (pP Z [.ref (ad 0), .int (p1), .int (p2), .int (p3)] (cX Z ad u) sz) (pQv Z (cX Z ad) (cX Z ad u) sz post) (pX Z (cX Z ad) (cX Z ad u) sz (fun _ _ => False)) 0 0 rm_X_addPoint.cells rm_X_addPoint.slots (va_A (cX Z ad u) sz) := by
  refine g_ent (f := cX Z ad) (Qc := fun sz => pQv Z (cX Z ad) (cX Z ad u) sz post) (XC := fun sz => pX Z (cX Z ad) (cX Z ad u) sz (fun _ _ => False)) hl0 (by decide +kernel) (Nat.le_of_ble_eq_true rfl) ?_
  intro p e s m args below meth c ls C htab hw hl
  have hl : lv_has ls 6 [(0, .ref (ad 0)), (1, .int (p1)), (2, .int (p2)), (3, .int (p3))] := hl
  unfold q_X_addPoint at h
  refine lv_aload_n C.2.1 C.2.2.1 d_X_addPoint_0 rfl (lv_at hl 0 rfl) ?_
  refine r_X_16 C hw d_X_addPoint_1 ?_
  refine lv_iload_n C.2.1 C.2.2.1 d_X_addPoint_4 rfl (lv_at hl 1 rfl) ?_
  obtain ⟨hi, h⟩ := h
  refine al_X_1 C hw hi d_X_addPoint_5 ?_
  refine lv_istore (lv' := [(4, .int (x_pointCounts (u) (p1).toNatClampNeg)), (0, .ref (ad 0)), (1, .int (p1)), (2, .int (p2)), (3, .int (p3))]) C.2.1 C.2.2.1 d_X_addPoint_6 hl (by decide) rfl (fun ls hl => ?_)
  refine lv_iload C.2.1 C.2.2.1 d_X_addPoint_8 (lv_at hl 0 rfl) ?_
  refine lv_if_lt (tgt := 20) C.2.1 C.2.2.1 d_X_addPoint_10 (by decide) (fun c => ?_) (fun c => ?_)
  · have h := h.1 c
    exact g_vret C hw h d_X_addPoint_20
  · have h := h.2 c
    refine lv_iload C.2.1 C.2.2.1 d_X_addPoint_13 (lv_at hl 0 rfl) ?_
    refine lv_bipush (v := (6)) C.2.1 C.2.2.1 d_X_addPoint_15 (by decide) ?_
    refine lv_icmp_lt (tgt := 21) C.2.1 C.2.2.1 d_X_addPoint_17 (by decide) (fun c => ?_) (fun c => ?_)
    · have h := h.1 c
      refine lv_iload_n C.2.1 C.2.2.1 d_X_addPoint_21 rfl (lv_at hl 2 rfl) ?_
      refine lv_bipush (v := (6)) C.2.1 C.2.2.1 d_X_addPoint_22 (by decide) ?_
      refine lv_imul C.2.1 C.2.2.1 d_X_addPoint_24 ?_
      refine lv_iload C.2.1 C.2.2.1 d_X_addPoint_25 (lv_at hl 0 rfl) ?_
      refine lv_iadd C.2.1 C.2.2.1 d_X_addPoint_27 ?_
      refine lv_istore (lv' := [(5, .int (((p1) * (((6) : Int32))) + (x_pointCounts (u) (p1).toNatClampNeg))), (4, .int (x_pointCounts (u) (p1).toNatClampNeg)), (0, .ref (ad 0)), (1, .int (p1)), (2, .int (p2)), (3, .int (p3))]) C.2.1 C.2.2.1 d_X_addPoint_28 hl (by decide) rfl (fun ls hl => ?_)
      refine lv_aload_n C.2.1 C.2.2.1 d_X_addPoint_30 rfl (lv_at hl 2 rfl) ?_
      refine r_X_23 C hw d_X_addPoint_31 ?_
      refine lv_iload C.2.1 C.2.2.1 d_X_addPoint_34 (lv_at hl 0 rfl) ?_
      refine lv_iload_n C.2.1 C.2.2.1 d_X_addPoint_36 rfl (lv_at hl 4 rfl) ?_
      obtain ⟨hi, h⟩ := h
      refine as_X_3 C hw hi d_X_addPoint_37 (fun H locs hw => ?_)
      refine lv_aload_n C.2.1 C.2.2.1 d_X_addPoint_38 rfl (lv_at hl 2 rfl) ?_
      refine r_X_26 C hw d_X_addPoint_39 ?_
      refine lv_iload C.2.1 C.2.2.1 d_X_addPoint_42 (lv_at hl 0 rfl) ?_
      refine lv_iload_n C.2.1 C.2.2.1 d_X_addPoint_44 rfl (lv_at hl 5 rfl) ?_
      obtain ⟨hi, h⟩ := h
      refine as_X_4 C hw hi d_X_addPoint_45 (fun H locs hw => ?_)
      refine lv_iload C.2.1 C.2.2.1 d_X_addPoint_46 (lv_at hl 1 rfl) ?_
      refine lv_if_eq (tgt := 61) C.2.1 C.2.2.1 d_X_addPoint_48 (by decide) (fun c => ?_) (fun c => ?_)
      · have h := h.1 c
        exact w_X_addPoint_61 C htab (p1) (p2) (x_pointCounts (u) (p1).toNatClampNeg) _ _ _ _ hw (lv_sub hl [2, 3, 4, 1] rfl) h
      · have h := h.2 c
        refine lv_iload_n C.2.1 C.2.2.1 d_X_addPoint_51 rfl (lv_at hl 4 rfl) ?_
        refine lv_aload_n C.2.1 C.2.2.1 d_X_addPoint_52 rfl (lv_at hl 2 rfl) ?_
        refine r_X_20 C hw d_X_addPoint_53 ?_
        refine lv_iload_n C.2.1 C.2.2.1 d_X_addPoint_56 rfl (lv_at hl 3 rfl) ?_
        obtain ⟨hi, h⟩ := h
        refine al_X_2 C hw hi d_X_addPoint_57 ?_
        refine lv_icmp_ge (tgt := 68) C.2.1 C.2.2.1 d_X_addPoint_58 (by decide) (fun c => ?_) (fun c => ?_)
        · have h := h.1 c
          exact w_X_addPoint_68 C htab (p1) (x_pointCounts (u) (p1).toNatClampNeg) _ _ _ _ hw (lv_sub hl [2, 3, 1] rfl) h
        · have h := h.2 c
          exact w_X_addPoint_61 C htab (p1) (p2) (x_pointCounts (u) (p1).toNatClampNeg) _ _ _ _ hw (lv_sub hl [2, 3, 4, 1] rfl) h
    · have h := h.2 c
      exact g_vret C hw h d_X_addPoint_20
section KR
variable {own host : String} {cc bytes : ByteArray} {nL maxL index n : Nat} {rt0 rt : Option FieldType} {Z : ZT} {ad : Nat → Nat} {A : Nat → Prop}
variable {p : Program} {l : Launch} {e : Env} {R : Room} {s : State} {m : MethodId} {args : Array Value} {below : List Frame} {meth : Method} {c : Code} {H : Heap} {locs : List Loc} {cells slots : Nat} {Q : State → Prop} {rest : List Value} {pc : Nat} {ls : Array Slot}
theorem k_X_89 {u : CT} {p1 : Int32} {p2 : Int32} {p3 : Int32} {post : CT → Prop} (C : CX "CoderTables" cc nL rt0 Z A p l s m args meth c) (hw : WD Z A s (cX Z ad u) H locs) (h : q_X_addPoint p1 p2 p3 u post) (hR : rmOk rm_X_addPoint 6 R cells slots) (hl : ls.size = nL) (hW : (rest.map fun v => v.category).sum ≤ 8) (hdg : decode cc pc = .ok (.invokevirtual 89, 3)) (kk : ∀ (u' : CT) (H1 : Heap) (locs1 : List Loc), post u' → WD Z A s (cX Z ad u') H1 locs1 → W p l e R s m args below meth c H1 locs1 cells slots Q (F0 m (pc + 3) ls (rest))) : W p l e R s m args below meth c H locs cells slots Q (F0 m pc ls (.int (p3) :: .int (p2) :: .int (p1) :: .ref (ad 0) :: rest)) :=
  g_V0_v (f := cX Z ad) (As := [.int (p1), .int (p2), .int (p3)]) C hw (c_X_addPoint C.1 h) ⟨w174, w176, w5, w53, w177, (by decide +kernel), (by decide +kernel), (by decide +kernel)⟩ hR 0 rfl rfl rfl hl rfl hW hdg (fun _ _ _ _ _ _ h => h.elim) kk
end KR
/-! CoderTables.isCounted(I)Z -/
abbrev rm_X_isCounted : Room := { frames := 0, cells := 0, slots := 0, locals := 0 }
def q_X_isCounted (p1 : Int32) (u : CT) (post : Int32 → CT → Prop) : Prop :=
  (vp_in (p1) 192 ∧ (((x_pointCounts (u) (p1).toNatClampNeg) ≤ 0 → (narrow .boolean (.int (((0) : Int32))) = .int (((0) : Int32)) ∧ post (((0) : Int32)) (u))) ∧ (¬ (x_pointCounts (u) (p1).toNatClampNeg) ≤ 0 → (narrow .boolean (.int (((1) : Int32))) = .int (((1) : Int32)) ∧ post (((1) : Int32)) (u)))))
set_option maxRecDepth 100000 in
theorem c_X_isCounted {l : Launch} {Z : ZT} {ad : Nat → Nat} {u : CT} {post : Int32 → CT → Prop} {p1 : Int32} (hl0 : l.stackTraces = false) (h : q_X_isCounted p1 u post) : ∀ sz, vx_Met l y_X_isCounted (Cond.code y_X_isCounted b_X_isCounted 2 (some .boolean) :: GW) rm_X_isCounted (pP Z [.ref (ad 0), .int (p1)] (cX Z ad u) sz) (pQi Z (cX Z ad) (cX Z ad u) sz post) (pX Z (cX Z ad) (cX Z ad u) sz (fun _ _ => False)) 0 0 rm_X_isCounted.cells rm_X_isCounted.slots (va_A (cX Z ad u) sz) := by
  refine g_ent (f := cX Z ad) (Qc := fun sz => pQi Z (cX Z ad) (cX Z ad u) sz post) (XC := fun sz => pX Z (cX Z ad) (cX Z ad u) sz (fun _ _ => False)) hl0 (by decide +kernel) (Nat.le_of_ble_eq_true rfl) ?_
  intro p e s m args below meth c ls C htab hw hl
  have hl : lv_has ls 2 [(0, .ref (ad 0)), (1, .int (p1))] := hl
  unfold q_X_isCounted at h
  refine lv_aload_n C.2.1 C.2.2.1 d_X_isCounted_0 rfl (lv_at hl 0 rfl) ?_
  refine r_X_16 C hw d_X_isCounted_1 ?_
  refine lv_iload_n C.2.1 C.2.2.1 d_X_isCounted_4 rfl (lv_at hl 1 rfl) ?_
  obtain ⟨hi, h⟩ := h
  refine al_X_1 C hw hi d_X_isCounted_5 ?_
  refine lv_if_le (tgt := 13) C.2.1 C.2.2.1 d_X_isCounted_6 (by decide) (fun c => ?_) (fun c => ?_)
  · have h := h.1 c
    refine lv_iconst (v := (0)) C.2.1 C.2.2.1 d_X_isCounted_13 (by decide) ?_
    exact g_iret C hw h.1 h.2 d_X_isCounted_14
  · have h := h.2 c
    refine lv_iconst (v := (1)) C.2.1 C.2.2.1 d_X_isCounted_9 (by decide) ?_
    refine lv_goto (tgt := 14) C.2.1 C.2.2.1 d_X_isCounted_10 (by decide) ?_
    exact g_iret C hw h.1 h.2 d_X_isCounted_14
section KR
variable {own host : String} {cc bytes : ByteArray} {nL maxL index n : Nat} {rt0 rt : Option FieldType} {Z : ZT} {ad : Nat → Nat} {A : Nat → Prop}
variable {p : Program} {l : Launch} {e : Env} {R : Room} {s : State} {m : MethodId} {args : Array Value} {below : List Frame} {meth : Method} {c : Code} {H : Heap} {locs : List Loc} {cells slots : Nat} {Q : State → Prop} {rest : List Value} {pc : Nat} {ls : Array Slot}
theorem k_X_224 {u : CT} {p1 : Int32} {post : Int32 → CT → Prop} (C : CX "CoderTables" cc nL rt0 Z A p l s m args meth c) (hw : WD Z A s (cX Z ad u) H locs) (h : q_X_isCounted p1 u post) (hR : rmOk rm_X_isCounted 2 R cells slots) (hl : ls.size = nL) (hW : (rest.map fun v => v.category).sum ≤ 8) (hdg : decode cc pc = .ok (.invokevirtual 224, 3)) (kk : ∀ (r : Int32) (u' : CT) (H1 : Heap) (locs1 : List Loc), post r u' → WD Z A s (cX Z ad u') H1 locs1 → W p l e R s m args below meth c H1 locs1 cells slots Q (F0 m (pc + 3) ls (.int r :: rest))) : W p l e R s m args below meth c H locs cells slots Q (F0 m pc ls (.int (p1) :: .ref (ad 0) :: rest)) :=
  g_V0_i (f := cX Z ad) (As := [.int (p1)]) C hw (c_X_isCounted C.1 h) ⟨w201, w203, w10, w53, w204, (by decide +kernel), (by decide +kernel), (by decide +kernel)⟩ hR 0 rfl rfl rfl hl rfl hW hdg (fun _ _ _ _ _ _ h => h.elim) kk
end KR
/-! CoderTables.countedOf(I)I -/
abbrev rm_X_countedOf : Room := { frames := 1, cells := 0, slots := 0, locals := 21 }
def q_X_countedOf_28 (K4 : Int32 → Int32 → Int32 → CT → Prop) (x1 : Int32) (x2 : Int32) (x3 : Int32) (u : CT) (post : Int32 → CT → Prop) : Prop :=
  K4 (x1) (x2) ((x3) + 1) (u)
set_option maxRecDepth 100000 in
theorem w_X_countedOf_28 {p : Program} {l : Launch} {e : Env} {s : State} {m : MethodId} {args : Array Value} {below : List Frame} {meth : Method} {c : Code} {Z : ZT} {ad : Nat → Nat} {u0 : CT} {post : Int32 → CT → Prop} {K4 : Int32 → Int32 → Int32 → CT → Prop} (C : CX "CoderTables" b_X_countedOf 4 (some .int) Z (va_A (cX Z ad u0) s.heap.size) p l s m args meth c) (htab : ∀ x ∈ c.exceptionTable.toList, False) (hK4 : ∀ (x1 : Int32) (x2 : Int32) (x3 : Int32) (u : CT) (H : Heap) (locs : List Loc) (ls : Array Slot), K4 x1 x2 x3 u → WD Z (va_A (cX Z ad u0) s.heap.size) s (cX Z ad u) H locs → lv_has ls 4 [(0, .ref (ad 0)), (1, .int (x1)), (2, .int (x2)), (3, .int (x3))] → W p l e rm_X_countedOf s m args below meth c H locs 0 0 (vx_MQ below (pQi Z (cX Z ad) (cX Z ad u0) s.heap.size post) (pX Z (cX Z ad) (cX Z ad u0) s.heap.size (fun _ _ => False)) args s 0 0 rm_X_countedOf.cells rm_X_countedOf.slots (va_A (cX Z ad u0) s.heap.size)) (F0 m 4 ls [])) (x1 : Int32) (x2 : Int32) (x3 : Int32) (u : CT) (H : Heap) (locs : List Loc) (ls : Array Slot) (hw : WD Z (va_A (cX Z ad u0) s.heap.size) s (cX Z ad u) H locs) (hl : lv_has ls 4 [(0, .ref (ad 0)), (1, .int (x1)), (2, .int (x2)), (3, .int (x3))]) (h : q_X_countedOf_28 K4 x1 x2 x3 u post) : W p l e rm_X_countedOf s m args below meth c H locs 0 0 (vx_MQ below (pQi Z (cX Z ad) (cX Z ad u0) s.heap.size post) (pX Z (cX Z ad) (cX Z ad u0) s.heap.size (fun _ _ => False)) args s 0 0 rm_X_countedOf.cells rm_X_countedOf.slots (va_A (cX Z ad u0) s.heap.size)) (F0 m 28 ls []) := by
  unfold q_X_countedOf_28 at h
  refine lv_iinc (v := (x3) + 1) (lv' := [(3, .int ((x3) + 1)), (0, .ref (ad 0)), (1, .int (x1)), (2, .int (x2))]) C.2.1 C.2.2.1 d_X_countedOf_28 hl (k := 3) rfl rfl (by decide) rfl (fun ls hl => ?_)
  refine lv_goto (tgt := 4) C.2.1 C.2.2.1 d_X_countedOf_31 (by decide) ?_
  exact hK4 (x1) (x2) ((x3) + 1) _ _ _ _ h hw (lv_sub hl [1, 2, 3, 0] rfl)
def q_X_countedOf_4 (K4 : Int32 → Int32 → Int32 → CT → Prop) (x1 : Int32) (x2 : Int32) (x3 : Int32) (u : CT) (post : Int32 → CT → Prop) : Prop :=
  (((x_pictures (u)) ≤ (x3) → post (x2) (u)) ∧ (¬ (x_pictures (u)) ≤ (x3) → q_X_isCounted (((x1) * (((24) : Int32))) + (x3)) (u) (fun r1 u2 => (((r1) = 0 → q_X_countedOf_28 K4 (x1) (x2) (x3) (u2) post) ∧ (¬ (r1) = 0 → q_X_countedOf_28 K4 (x1) ((x2) + 1) (x3) (u2) post)))))
set_option maxRecDepth 100000 in
theorem w_X_countedOf_4 {p : Program} {l : Launch} {e : Env} {s : State} {m : MethodId} {args : Array Value} {below : List Frame} {meth : Method} {c : Code} {Z : ZT} {ad : Nat → Nat} {u0 : CT} {post : Int32 → CT → Prop} {K4 : Int32 → Int32 → Int32 → CT → Prop} (C : CX "CoderTables" b_X_countedOf 4 (some .int) Z (va_A (cX Z ad u0) s.heap.size) p l s m args meth c) (htab : ∀ x ∈ c.exceptionTable.toList, False) (hK4 : ∀ (x1 : Int32) (x2 : Int32) (x3 : Int32) (u : CT) (H : Heap) (locs : List Loc) (ls : Array Slot), K4 x1 x2 x3 u → WD Z (va_A (cX Z ad u0) s.heap.size) s (cX Z ad u) H locs → lv_has ls 4 [(0, .ref (ad 0)), (1, .int (x1)), (2, .int (x2)), (3, .int (x3))] → W p l e rm_X_countedOf s m args below meth c H locs 0 0 (vx_MQ below (pQi Z (cX Z ad) (cX Z ad u0) s.heap.size post) (pX Z (cX Z ad) (cX Z ad u0) s.heap.size (fun _ _ => False)) args s 0 0 rm_X_countedOf.cells rm_X_countedOf.slots (va_A (cX Z ad u0) s.heap.size)) (F0 m 4 ls [])) (x1 : Int32) (x2 : Int32) (x3 : Int32) (u : CT) (H : Heap) (locs : List Loc) (ls : Array Slot) (hw : WD Z (va_A (cX Z ad u0) s.heap.size) s (cX Z ad u) H locs) (hl : lv_has ls 4 [(0, .ref (ad 0)), (1, .int (x1)), (2, .int (x2)), (3, .int (x3))]) (h : q_X_countedOf_4 K4 x1 x2 x3 u post) : W p l e rm_X_countedOf s m args below meth c H locs 0 0 (vx_MQ below (pQi Z (cX Z ad) (cX Z ad u0) s.heap.size post) (pX Z (cX Z ad) (cX Z ad u0) s.heap.size (fun _ _ => False)) args s 0 0 rm_X_countedOf.cells rm_X_countedOf.slots (va_A (cX Z ad u0) s.heap.size)) (F0 m 4 ls []) := by
  unfold q_X_countedOf_4 at h
  refine lv_iload_n C.2.1 C.2.2.1 d_X_countedOf_4 rfl (lv_at hl 3 rfl) ?_
  refine lv_aload_n C.2.1 C.2.2.1 d_X_countedOf_5 rfl (lv_at hl 0 rfl) ?_
  refine r_X_13 C hw d_X_countedOf_6 ?_
  refine lv_icmp_ge (tgt := 34) C.2.1 C.2.2.1 d_X_countedOf_9 (by decide) (fun c => ?_) (fun c => ?_)
  · have h := h.1 c
    refine lv_iload_n C.2.1 C.2.2.1 d_X_countedOf_34 rfl (lv_at hl 2 rfl) ?_
    exact g_iret C hw rfl h d_X_countedOf_35
  · have h := h.2 c
    refine lv_aload_n C.2.1 C.2.2.1 d_X_countedOf_12 rfl (lv_at hl 0 rfl) ?_
    refine lv_iload_n C.2.1 C.2.2.1 d_X_countedOf_13 rfl (lv_at hl 1 rfl) ?_
    refine lv_bipush (v := (24)) C.2.1 C.2.2.1 d_X_countedOf_14 (by decide) ?_
    refine lv_imul C.2.1 C.2.2.1 d_X_countedOf_16 ?_
    refine lv_iload_n C.2.1 C.2.2.1 d_X_countedOf_17 rfl (lv_at hl 3 rfl) ?_
    refine lv_iadd C.2.1 C.2.2.1 d_X_countedOf_18 ?_
    refine k_X_224 C hw h ⟨Nat.le_of_ble_eq_true rfl, Nat.le_of_ble_eq_true rfl, Nat.le_of_ble_eq_true rfl, Nat.le_of_ble_eq_true rfl⟩ hl.1 (Nat.le_of_ble_eq_true rfl) d_X_countedOf_19 (fun r1 u2 H locs h hw => ?_)
    refine lv_if_eq (tgt := 28) C.2.1 C.2.2.1 d_X_countedOf_22 (by decide) (fun c => ?_) (fun c => ?_)
    · have h := h.1 c
      exact w_X_countedOf_28 C htab hK4 (x1) (x2) (x3) _ _ _ _ hw (lv_sub hl [0, 1, 2, 3] rfl) h
    · have h := h.2 c
      refine lv_iinc (v := (x2) + 1) (lv' := [(2, .int ((x2) + 1)), (0, .ref (ad 0)), (1, .int (x1)), (3, .int (x3))]) C.2.1 C.2.2.1 d_X_countedOf_25 hl (k := 2) rfl rfl (by decide) rfl (fun ls hl => ?_)
      exact w_X_countedOf_28 C htab hK4 (x1) ((x2) + 1) (x3) _ _ _ _ hw (lv_sub hl [1, 2, 0, 3] rfl) h
def q_X_countedOf_4N : Nat → Int32 → Int32 → Int32 → CT → (Int32 → CT → Prop) → Prop
  | 0 => fun _ _ _ _ _ => False
  | n + 1 => fun x1 x2 x3 u post => q_X_countedOf_4 (fun x1 x2 x3 u => q_X_countedOf_4N n x1 x2 x3 u post) x1 x2 x3 u post
theorem w_X_countedOf_4N {p : Program} {l : Launch} {e : Env} {s : State} {m : MethodId} {args : Array Value} {below : List Frame} {meth : Method} {c : Code} {Z : ZT} {ad : Nat → Nat} {u0 : CT} {post : Int32 → CT → Prop} (C : CX "CoderTables" b_X_countedOf 4 (some .int) Z (va_A (cX Z ad u0) s.heap.size) p l s m args meth c) (htab : ∀ x ∈ c.exceptionTable.toList, False) : ∀ (n : Nat) (x1 : Int32) (x2 : Int32) (x3 : Int32) (u : CT) (H : Heap) (locs : List Loc) (ls : Array Slot), WD Z (va_A (cX Z ad u0) s.heap.size) s (cX Z ad u) H locs → lv_has ls 4 [(0, .ref (ad 0)), (1, .int (x1)), (2, .int (x2)), (3, .int (x3))] → q_X_countedOf_4N n x1 x2 x3 u post → W p l e rm_X_countedOf s m args below meth c H locs 0 0 (vx_MQ below (pQi Z (cX Z ad) (cX Z ad u0) s.heap.size post) (pX Z (cX Z ad) (cX Z ad u0) s.heap.size (fun _ _ => False)) args s 0 0 rm_X_countedOf.cells rm_X_countedOf.slots (va_A (cX Z ad u0) s.heap.size)) (F0 m 4 ls []) := by
  intro n
  induction n with
  | zero => intro x1 x2 x3 u H locs ls hw hl h; exact h.elim
  | succ n ih => intro x1 x2 x3 u H locs ls hw hl h; exact w_X_countedOf_4 C htab (fun x1 x2 x3 u H locs ls h hw hl => ih x1 x2 x3 u H locs ls hw hl h) x1 x2 x3 u H locs ls hw hl h
def q_X_countedOf (p1 : Int32) (u : CT) (post : Int32 → CT → Prop) : Prop :=
  ∃ n, q_X_countedOf_4N n (p1) (((0) : Int32)) (((0) : Int32)) (u) post
set_option maxRecDepth 100000 in
theorem c_X_countedOf {l : Launch} {Z : ZT} {ad : Nat → Nat} {u : CT} {post : Int32 → CT → Prop} {p1 : Int32} (hl0 : l.stackTraces = false) (h : q_X_countedOf p1 u post) : ∀ sz, vx_Met l y_X_countedOf (Cond.code y_X_countedOf b_X_countedOf 4 (some .int) :: GW) rm_X_countedOf (pP Z [.ref (ad 0), .int (p1)] (cX Z ad u) sz) (pQi Z (cX Z ad) (cX Z ad u) sz post) (pX Z (cX Z ad) (cX Z ad u) sz (fun _ _ => False)) 0 0 rm_X_countedOf.cells rm_X_countedOf.slots (va_A (cX Z ad u) sz) := by
  refine g_ent (f := cX Z ad) (Qc := fun sz => pQi Z (cX Z ad) (cX Z ad u) sz post) (XC := fun sz => pX Z (cX Z ad) (cX Z ad u) sz (fun _ _ => False)) hl0 (by decide +kernel) (Nat.le_of_ble_eq_true rfl) ?_
  intro p e s m args below meth c ls C htab hw hl
  have hl : lv_has ls 4 [(0, .ref (ad 0)), (1, .int (p1))] := hl
  unfold q_X_countedOf at h
  refine lv_iconst (v := (0)) C.2.1 C.2.2.1 d_X_countedOf_0 (by decide) ?_
  refine lv_istore_n (lv' := [(2, .int (((0) : Int32))), (0, .ref (ad 0)), (1, .int (p1))]) C.2.1 C.2.2.1 d_X_countedOf_1 rfl hl (by decide) rfl (fun ls hl => ?_)
  refine lv_iconst (v := (0)) C.2.1 C.2.2.1 d_X_countedOf_2 (by decide) ?_
  refine lv_istore_n (lv' := [(3, .int (((0) : Int32))), (2, .int (((0) : Int32))), (0, .ref (ad 0)), (1, .int (p1))]) C.2.1 C.2.2.1 d_X_countedOf_3 rfl hl (by decide) rfl (fun ls hl => ?_)
  obtain ⟨n, h⟩ := h
  exact w_X_countedOf_4N C htab n (p1) (((0) : Int32)) (((0) : Int32)) _ _ _ _ hw (lv_sub hl [2, 3, 1, 0] rfl) h
section KR
variable {own host : String} {cc bytes : ByteArray} {nL maxL index n : Nat} {rt0 rt : Option FieldType} {Z : ZT} {ad : Nat → Nat} {A : Nat → Prop}
variable {p : Program} {l : Launch} {e : Env} {R : Room} {s : State} {m : MethodId} {args : Array Value} {below : List Frame} {meth : Method} {c : Code} {H : Heap} {locs : List Loc} {cells slots : Nat} {Q : State → Prop} {rest : List Value} {pc : Nat} {ls : Array Slot}
theorem k_X_117 {u : CT} {p1 : Int32} {post : Int32 → CT → Prop} (C : CX "CoderTables" cc nL rt0 Z A p l s m args meth c) (hw : WD Z A s (cX Z ad u) H locs) (h : q_X_countedOf p1 u post) (hR : rmOk rm_X_countedOf 4 R cells slots) (hl : ls.size = nL) (hW : (rest.map fun v => v.category).sum ≤ 8) (hdg : decode cc pc = .ok (.invokevirtual 117, 3)) (kk : ∀ (r : Int32) (u' : CT) (H1 : Heap) (locs1 : List Loc), post r u' → WD Z A s (cX Z ad u') H1 locs1 → W p l e R s m args below meth c H1 locs1 cells slots Q (F0 m (pc + 3) ls (.int r :: rest))) : W p l e R s m args below meth c H locs cells slots Q (F0 m pc ls (.int (p1) :: .ref (ad 0) :: rest)) :=
  g_V0_i (f := cX Z ad) (As := [.int (p1)]) C hw (c_X_countedOf C.1 h) ⟨w197, w199, w9, w53, w200, (by decide +kernel), (by decide +kernel), (by decide +kernel)⟩ hR 0 rfl rfl rfl hl rfl hW hdg (fun _ _ _ _ _ _ h => h.elim) kk
end KR
end
