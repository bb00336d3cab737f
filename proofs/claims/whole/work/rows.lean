section
-- ===== PART A: goes FIRST, ahead of the names: the tables' words, and 'selects' of the private methods out of them =====
/-- a private method of a class that the tables say can be made, by its rows of tables_1 -/
def lw_okq (q : MethodName × Nat) : Prop := (q.1.cls ≠ "java/lang/invoke/MethodHandle" ∧ q.1.cls ≠ "java/lang/invoke/VarHandle") ∧ Cond.instantiable q.1.cls q.2 ∈ tables_1 ∧ Cond.privateMethod q.1 ∈ tables_1 ∧ Cond.instanceMethod q.1 ∈ tables_1
theorem lw_p0 : lw_okq (⟨"CoderTables", "emptyPairs", "()V"⟩, 14) := ⟨⟨by decide +kernel, by decide +kernel⟩, List.mem_of_getElem? (i := 15) (by decide +kernel), List.mem_of_getElem? (i := 101) (by decide +kernel), List.mem_of_getElem? (i := 102) (by decide +kernel)⟩
theorem lw_p1 : lw_okq (⟨"CoderTables$Numbers", "start", "(J)V"⟩, 1) := ⟨⟨by decide +kernel, by decide +kernel⟩, List.mem_of_getElem? (i := 23) (by decide +kernel), List.mem_of_getElem? (i := 105) (by decide +kernel), List.mem_of_getElem? (i := 106) (by decide +kernel)⟩
theorem lw_p2 : lw_okq (⟨"CoderTables", "fillPair", "(I)I"⟩, 14) := ⟨⟨by decide +kernel, by decide +kernel⟩, List.mem_of_getElem? (i := 15) (by decide +kernel), List.mem_of_getElem? (i := 109) (by decide +kernel), List.mem_of_getElem? (i := 110) (by decide +kernel)⟩
theorem lw_p3 : lw_okq (⟨"CoderTables$Numbers", "below", "(I)I"⟩, 1) := ⟨⟨by decide +kernel, by decide +kernel⟩, List.mem_of_getElem? (i := 23) (by decide +kernel), List.mem_of_getElem? (i := 113) (by decide +kernel), List.mem_of_getElem? (i := 114) (by decide +kernel)⟩
theorem lw_p4 : lw_okq (⟨"CoderTables", "markFailed", "(I)V"⟩, 14) := ⟨⟨by decide +kernel, by decide +kernel⟩, List.mem_of_getElem? (i := 15) (by decide +kernel), List.mem_of_getElem? (i := 119) (by decide +kernel), List.mem_of_getElem? (i := 120) (by decide +kernel)⟩
theorem lw_p5 : lw_okq (⟨"CoderTables", "addPoint", "(III)V"⟩, 14) := ⟨⟨by decide +kernel, by decide +kernel⟩, List.mem_of_getElem? (i := 15) (by decide +kernel), List.mem_of_getElem? (i := 123) (by decide +kernel), List.mem_of_getElem? (i := 124) (by decide +kernel)⟩
theorem lw_p6 : lw_okq (⟨"CoderTables$Lines", "start", "()V"⟩, 2) := ⟨⟨by decide +kernel, by decide +kernel⟩, List.mem_of_getElem? (i := 34) (by decide +kernel), List.mem_of_getElem? (i := 131) (by decide +kernel), List.mem_of_getElem? (i := 132) (by decide +kernel)⟩
theorem lw_p7 : lw_okq (⟨"CoderTables$Lines", "putNumber", "(J)V"⟩, 2) := ⟨⟨by decide +kernel, by decide +kernel⟩, List.mem_of_getElem? (i := 34) (by decide +kernel), List.mem_of_getElem? (i := 135) (by decide +kernel), List.mem_of_getElem? (i := 136) (by decide +kernel)⟩
theorem lw_p8 : lw_okq (⟨"CoderTables$Lines", "put", "(C)V"⟩, 2) := ⟨⟨by decide +kernel, by decide +kernel⟩, List.mem_of_getElem? (i := 34) (by decide +kernel), List.mem_of_getElem? (i := 141) (by decide +kernel), List.mem_of_getElem? (i := 142) (by decide +kernel)⟩
theorem lw_p9 : lw_okq (⟨"CoderTables", "countedOf", "(I)I"⟩, 14) := ⟨⟨by decide +kernel, by decide +kernel⟩, List.mem_of_getElem? (i := 15) (by decide +kernel), List.mem_of_getElem? (i := 146) (by decide +kernel), List.mem_of_getElem? (i := 147) (by decide +kernel)⟩
theorem lw_p10 : lw_okq (⟨"CoderTables", "isCounted", "(I)Z"⟩, 14) := ⟨⟨by decide +kernel, by decide +kernel⟩, List.mem_of_getElem? (i := 15) (by decide +kernel), List.mem_of_getElem? (i := 150) (by decide +kernel), List.mem_of_getElem? (i := 151) (by decide +kernel)⟩
theorem lw_p11 : lw_okq (⟨"CoderTables", "sumOf", "(I)J"⟩, 14) := ⟨⟨by decide +kernel, by decide +kernel⟩, List.mem_of_getElem? (i := 15) (by decide +kernel), List.mem_of_getElem? (i := 154) (by decide +kernel), List.mem_of_getElem? (i := 155) (by decide +kernel)⟩
theorem lw_p12 : lw_okq (⟨"CoderTables", "rankOf", "(I)I"⟩, 14) := ⟨⟨by decide +kernel, by decide +kernel⟩, List.mem_of_getElem? (i := 15) (by decide +kernel), List.mem_of_getElem? (i := 158) (by decide +kernel), List.mem_of_getElem? (i := 159) (by decide +kernel)⟩
theorem lw_p13 : lw_okq (⟨"CoderTables", "allPoints", "()I"⟩, 14) := ⟨⟨by decide +kernel, by decide +kernel⟩, List.mem_of_getElem? (i := 15) (by decide +kernel), List.mem_of_getElem? (i := 169) (by decide +kernel), List.mem_of_getElem? (i := 170) (by decide +kernel)⟩
theorem lw_p14 : lw_okq (⟨"CoderTables", "allCounted", "()I"⟩, 14) := ⟨⟨by decide +kernel, by decide +kernel⟩, List.mem_of_getElem? (i := 15) (by decide +kernel), List.mem_of_getElem? (i := 173) (by decide +kernel), List.mem_of_getElem? (i := 174) (by decide +kernel)⟩
theorem lw_p15 : lw_okq (⟨"java/lang/Throwable", "fillInStackTrace", "(I)Ljava/lang/Throwable;"⟩, 6) := ⟨⟨by decide +kernel, by decide +kernel⟩, List.mem_of_getElem? (i := 228) (by decide +kernel), List.mem_of_getElem? (i := 226) (by decide +kernel), List.mem_of_getElem? (i := 227) (by decide +kernel)⟩
def lw_privs_1 : List (MethodName × Nat) := [(⟨"CoderTables", "emptyPairs", "()V"⟩, 14), (⟨"CoderTables$Numbers", "start", "(J)V"⟩, 1), (⟨"CoderTables", "fillPair", "(I)I"⟩, 14), (⟨"CoderTables$Numbers", "below", "(I)I"⟩, 1), (⟨"CoderTables", "markFailed", "(I)V"⟩, 14), (⟨"CoderTables", "addPoint", "(III)V"⟩, 14), (⟨"CoderTables$Lines", "start", "()V"⟩, 2), (⟨"CoderTables$Lines", "putNumber", "(J)V"⟩, 2), (⟨"CoderTables$Lines", "put", "(C)V"⟩, 2), (⟨"CoderTables", "countedOf", "(I)I"⟩, 14), (⟨"CoderTables", "isCounted", "(I)Z"⟩, 14), (⟨"CoderTables", "sumOf", "(I)J"⟩, 14), (⟨"CoderTables", "rankOf", "(I)I"⟩, 14), (⟨"CoderTables", "allPoints", "()I"⟩, 14), (⟨"CoderTables", "allCounted", "()I"⟩, 14), (⟨"java/lang/Throwable", "fillInStackTrace", "(I)Ljava/lang/Throwable;"⟩, 6)]
theorem lw_r1 : ∀ q ∈ lw_privs_1, lw_okq q := List.forall_mem_cons.mpr ⟨lw_p0, List.forall_mem_cons.mpr ⟨lw_p1, List.forall_mem_cons.mpr ⟨lw_p2, List.forall_mem_cons.mpr ⟨lw_p3, List.forall_mem_cons.mpr ⟨lw_p4, List.forall_mem_cons.mpr ⟨lw_p5, List.forall_mem_cons.mpr ⟨lw_p6, List.forall_mem_cons.mpr ⟨lw_p7, List.forall_mem_cons.mpr ⟨lw_p8, List.forall_mem_cons.mpr ⟨lw_p9, List.forall_mem_cons.mpr ⟨lw_p10, List.forall_mem_cons.mpr ⟨lw_p11, List.forall_mem_cons.mpr ⟨lw_p12, List.forall_mem_cons.mpr ⟨lw_p13, List.forall_mem_cons.mpr ⟨lw_p14, List.forall_mem_cons.mpr ⟨lw_p15, fun _ h => absurd h List.not_mem_nil⟩⟩⟩⟩⟩⟩⟩⟩⟩⟩⟩⟩⟩⟩⟩⟩
theorem lw_p16 : lw_okq (⟨"CoderTables", "pairOf", "(II)I"⟩, 14) := ⟨⟨by decide +kernel, by decide +kernel⟩, List.mem_of_getElem? (i := 15) (by decide +kernel), List.mem_of_getElem? (i := 276) (by decide +kernel), List.mem_of_getElem? (i := 277) (by decide +kernel)⟩
theorem lw_p17 : lw_okq (⟨"CoderTables", "needCoder", "(I)V"⟩, 14) := ⟨⟨by decide +kernel, by decide +kernel⟩, List.mem_of_getElem? (i := 15) (by decide +kernel), List.mem_of_getElem? (i := 280) (by decide +kernel), List.mem_of_getElem? (i := 281) (by decide +kernel)⟩
theorem lw_p18 : lw_okq (⟨"CoderTables", "needPicture", "(I)V"⟩, 14) := ⟨⟨by decide +kernel, by decide +kernel⟩, List.mem_of_getElem? (i := 15) (by decide +kernel), List.mem_of_getElem? (i := 300) (by decide +kernel), List.mem_of_getElem? (i := 301) (by decide +kernel)⟩
theorem lw_p19 : lw_okq (⟨"CoderTables", "leastBytesWithin", "(II)I"⟩, 14) := ⟨⟨by decide +kernel, by decide +kernel⟩, List.mem_of_getElem? (i := 15) (by decide +kernel), List.mem_of_getElem? (i := 365) (by decide +kernel), List.mem_of_getElem? (i := 366) (by decide +kernel)⟩
theorem lw_p20 : lw_okq (⟨"CoderTables", "needCounted", "(I)V"⟩, 14) := ⟨⟨by decide +kernel, by decide +kernel⟩, List.mem_of_getElem? (i := 15) (by decide +kernel), List.mem_of_getElem? (i := 384) (by decide +kernel), List.mem_of_getElem? (i := 385) (by decide +kernel)⟩
theorem lw_p21 : lw_okq (⟨"CoderTables", "layHull", "(I)V"⟩, 14) := ⟨⟨by decide +kernel, by decide +kernel⟩, List.mem_of_getElem? (i := 15) (by decide +kernel), List.mem_of_getElem? (i := 406) (by decide +kernel), List.mem_of_getElem? (i := 407) (by decide +kernel)⟩
theorem lw_p22 : lw_okq (⟨"CoderTables", "firstOfRow", "(I)I"⟩, 14) := ⟨⟨by decide +kernel, by decide +kernel⟩, List.mem_of_getElem? (i := 15) (by decide +kernel), List.mem_of_getElem? (i := 410) (by decide +kernel), List.mem_of_getElem? (i := 411) (by decide +kernel)⟩
theorem lw_p23 : lw_okq (⟨"CoderTables", "isBefore", "(II)Z"⟩, 14) := ⟨⟨by decide +kernel, by decide +kernel⟩, List.mem_of_getElem? (i := 15) (by decide +kernel), List.mem_of_getElem? (i := 414) (by decide +kernel), List.mem_of_getElem? (i := 415) (by decide +kernel)⟩
theorem lw_p24 : lw_okq (⟨"CoderTables", "steepestFrom", "(II)I"⟩, 14) := ⟨⟨by decide +kernel, by decide +kernel⟩, List.mem_of_getElem? (i := 15) (by decide +kernel), List.mem_of_getElem? (i := 418) (by decide +kernel), List.mem_of_getElem? (i := 419) (by decide +kernel)⟩
theorem lw_p25 : lw_okq (⟨"CoderTables", "growthTo", "(II)J"⟩, 14) := ⟨⟨by decide +kernel, by decide +kernel⟩, List.mem_of_getElem? (i := 15) (by decide +kernel), List.mem_of_getElem? (i := 422) (by decide +kernel), List.mem_of_getElem? (i := 423) (by decide +kernel)⟩
theorem lw_p26 : lw_okq (⟨"CoderTables", "fallTo", "(II)J"⟩, 14) := ⟨⟨by decide +kernel, by decide +kernel⟩, List.mem_of_getElem? (i := 15) (by decide +kernel), List.mem_of_getElem? (i := 426) (by decide +kernel), List.mem_of_getElem? (i := 427) (by decide +kernel)⟩
theorem lw_p27 : lw_okq (⟨"CoderTables", "isBetterStep", "(III)Z"⟩, 14) := ⟨⟨by decide +kernel, by decide +kernel⟩, List.mem_of_getElem? (i := 15) (by decide +kernel), List.mem_of_getElem? (i := 430) (by decide +kernel), List.mem_of_getElem? (i := 431) (by decide +kernel)⟩
theorem lw_p28 : lw_okq (⟨"CoderTables", "layLeads", "(II)V"⟩, 14) := ⟨⟨by decide +kernel, by decide +kernel⟩, List.mem_of_getElem? (i := 15) (by decide +kernel), List.mem_of_getElem? (i := 459) (by decide +kernel), List.mem_of_getElem? (i := 460) (by decide +kernel)⟩
theorem lw_p29 : lw_okq (⟨"CoderTables", "countLeads", "(Z)I"⟩, 14) := ⟨⟨by decide +kernel, by decide +kernel⟩, List.mem_of_getElem? (i := 15) (by decide +kernel), List.mem_of_getElem? (i := 463) (by decide +kernel), List.mem_of_getElem? (i := 464) (by decide +kernel)⟩
theorem lw_p30 : lw_okq (⟨"CoderTables", "drawnLead", "()J"⟩, 14) := ⟨⟨by decide +kernel, by decide +kernel⟩, List.mem_of_getElem? (i := 15) (by decide +kernel), List.mem_of_getElem? (i := 486) (by decide +kernel), List.mem_of_getElem? (i := 487) (by decide +kernel)⟩
theorem lw_p31 : lw_okq (⟨"CoderTablesModel", "refuses", "(I)Z"⟩, 15) := ⟨⟨by decide +kernel, by decide +kernel⟩, List.mem_of_getElem? (i := 498) (by decide +kernel), List.mem_of_getElem? (i := 560) (by decide +kernel), List.mem_of_getElem? (i := 561) (by decide +kernel)⟩
def lw_privs_2 : List (MethodName × Nat) := [(⟨"CoderTables", "pairOf", "(II)I"⟩, 14), (⟨"CoderTables", "needCoder", "(I)V"⟩, 14), (⟨"CoderTables", "needPicture", "(I)V"⟩, 14), (⟨"CoderTables", "leastBytesWithin", "(II)I"⟩, 14), (⟨"CoderTables", "needCounted", "(I)V"⟩, 14), (⟨"CoderTables", "layHull", "(I)V"⟩, 14), (⟨"CoderTables", "firstOfRow", "(I)I"⟩, 14), (⟨"CoderTables", "isBefore", "(II)Z"⟩, 14), (⟨"CoderTables", "steepestFrom", "(II)I"⟩, 14), (⟨"CoderTables", "growthTo", "(II)J"⟩, 14), (⟨"CoderTables", "fallTo", "(II)J"⟩, 14), (⟨"CoderTables", "isBetterStep", "(III)Z"⟩, 14), (⟨"CoderTables", "layLeads", "(II)V"⟩, 14), (⟨"CoderTables", "countLeads", "(Z)I"⟩, 14), (⟨"CoderTables", "drawnLead", "()J"⟩, 14), (⟨"CoderTablesModel", "refuses", "(I)Z"⟩, 15)]
theorem lw_r2 : ∀ q ∈ lw_privs_2, lw_okq q := List.forall_mem_cons.mpr ⟨lw_p16, List.forall_mem_cons.mpr ⟨lw_p17, List.forall_mem_cons.mpr ⟨lw_p18, List.forall_mem_cons.mpr ⟨lw_p19, List.forall_mem_cons.mpr ⟨lw_p20, List.forall_mem_cons.mpr ⟨lw_p21, List.forall_mem_cons.mpr ⟨lw_p22, List.forall_mem_cons.mpr ⟨lw_p23, List.forall_mem_cons.mpr ⟨lw_p24, List.forall_mem_cons.mpr ⟨lw_p25, List.forall_mem_cons.mpr ⟨lw_p26, List.forall_mem_cons.mpr ⟨lw_p27, List.forall_mem_cons.mpr ⟨lw_p28, List.forall_mem_cons.mpr ⟨lw_p29, List.forall_mem_cons.mpr ⟨lw_p30, List.forall_mem_cons.mpr ⟨lw_p31, fun _ h => absurd h List.not_mem_nil⟩⟩⟩⟩⟩⟩⟩⟩⟩⟩⟩⟩⟩⟩⟩⟩
theorem lw_p32 : lw_okq (⟨"CoderTablesModel", "noPair", "(II)Z"⟩, 15) := ⟨⟨by decide +kernel, by decide +kernel⟩, List.mem_of_getElem? (i := 498) (by decide +kernel), List.mem_of_getElem? (i := 572) (by decide +kernel), List.mem_of_getElem? (i := 573) (by decide +kernel)⟩
theorem lw_p33 : lw_okq (⟨"CoderTablesModel", "noCoder", "(I)Z"⟩, 15) := ⟨⟨by decide +kernel, by decide +kernel⟩, List.mem_of_getElem? (i := 498) (by decide +kernel), List.mem_of_getElem? (i := 576) (by decide +kernel), List.mem_of_getElem? (i := 577) (by decide +kernel)⟩
theorem lw_p34 : lw_okq (⟨"CoderTablesModel", "add", "(III)V"⟩, 15) := ⟨⟨by decide +kernel, by decide +kernel⟩, List.mem_of_getElem? (i := 498) (by decide +kernel), List.mem_of_getElem? (i := 584) (by decide +kernel), List.mem_of_getElem? (i := 585) (by decide +kernel)⟩
theorem lw_p35 : lw_okq (⟨"CoderTablesModel", "fail", "(I)V"⟩, 15) := ⟨⟨by decide +kernel, by decide +kernel⟩, List.mem_of_getElem? (i := 498) (by decide +kernel), List.mem_of_getElem? (i := 592) (by decide +kernel), List.mem_of_getElem? (i := 593) (by decide +kernel)⟩
theorem lw_p36 : lw_okq (⟨"CoderTablesModel", "countedOf", "(I)I"⟩, 15) := ⟨⟨by decide +kernel, by decide +kernel⟩, List.mem_of_getElem? (i := 498) (by decide +kernel), List.mem_of_getElem? (i := 612) (by decide +kernel), List.mem_of_getElem? (i := 613) (by decide +kernel)⟩
theorem lw_p37 : lw_okq (⟨"CoderTablesModel", "sumOf", "(I)J"⟩, 15) := ⟨⟨by decide +kernel, by decide +kernel⟩, List.mem_of_getElem? (i := 498) (by decide +kernel), List.mem_of_getElem? (i := 617) (by decide +kernel), List.mem_of_getElem? (i := 618) (by decide +kernel)⟩
theorem lw_p38 : lw_okq (⟨"CoderTablesModel", "bytes", "(I)I"⟩, 15) := ⟨⟨by decide +kernel, by decide +kernel⟩, List.mem_of_getElem? (i := 498) (by decide +kernel), List.mem_of_getElem? (i := 621) (by decide +kernel), List.mem_of_getElem? (i := 622) (by decide +kernel)⟩
theorem lw_p39 : lw_okq (⟨"CoderTablesModel", "rankOf", "(I)I"⟩, 15) := ⟨⟨by decide +kernel, by decide +kernel⟩, List.mem_of_getElem? (i := 498) (by decide +kernel), List.mem_of_getElem? (i := 639) (by decide +kernel), List.mem_of_getElem? (i := 640) (by decide +kernel)⟩
theorem lw_p40 : lw_okq (⟨"CoderTablesModel", "findHull", "(I)V"⟩, 15) := ⟨⟨by decide +kernel, by decide +kernel⟩, List.mem_of_getElem? (i := 498) (by decide +kernel), List.mem_of_getElem? (i := 647) (by decide +kernel), List.mem_of_getElem? (i := 648) (by decide +kernel)⟩
theorem lw_p41 : lw_okq (⟨"CoderTablesModel", "isBest", "(II)Z"⟩, 15) := ⟨⟨by decide +kernel, by decide +kernel⟩, List.mem_of_getElem? (i := 498) (by decide +kernel), List.mem_of_getElem? (i := 651) (by decide +kernel), List.mem_of_getElem? (i := 652) (by decide +kernel)⟩
theorem lw_p42 : lw_okq (⟨"CoderTablesModel", "isSteeper", "(III)Z"⟩, 15) := ⟨⟨by decide +kernel, by decide +kernel⟩, List.mem_of_getElem? (i := 498) (by decide +kernel), List.mem_of_getElem? (i := 655) (by decide +kernel), List.mem_of_getElem? (i := 656) (by decide +kernel)⟩
theorem lw_p43 : lw_okq (⟨"CoderTablesModel", "noneOnHull", "(IIII)Z"⟩, 15) := ⟨⟨by decide +kernel, by decide +kernel⟩, List.mem_of_getElem? (i := 498) (by decide +kernel), List.mem_of_getElem? (i := 663) (by decide +kernel), List.mem_of_getElem? (i := 664) (by decide +kernel)⟩
theorem lw_p44 : lw_okq (⟨"CoderTablesModel", "less", "(II)I"⟩, 15) := ⟨⟨by decide +kernel, by decide +kernel⟩, List.mem_of_getElem? (i := 498) (by decide +kernel), List.mem_of_getElem? (i := 676) (by decide +kernel), List.mem_of_getElem? (i := 677) (by decide +kernel)⟩
theorem lw_p45 : lw_okq (⟨"CoderTablesModel", "areBoth", "(III)Z"⟩, 15) := ⟨⟨by decide +kernel, by decide +kernel⟩, List.mem_of_getElem? (i := 498) (by decide +kernel), List.mem_of_getElem? (i := 680) (by decide +kernel), List.mem_of_getElem? (i := 681) (by decide +kernel)⟩
theorem lw_p46 : lw_okq (⟨"CoderTablesModel", "draw", "(I)I"⟩, 15) := ⟨⟨by decide +kernel, by decide +kernel⟩, List.mem_of_getElem? (i := 498) (by decide +kernel), List.mem_of_getElem? (i := 690) (by decide +kernel), List.mem_of_getElem? (i := 691) (by decide +kernel)⟩
theorem lw_p47 : lw_okq (⟨"CoderTablesModel", "both", "(III)I"⟩, 15) := ⟨⟨by decide +kernel, by decide +kernel⟩, List.mem_of_getElem? (i := 498) (by decide +kernel), List.mem_of_getElem? (i := 696) (by decide +kernel), List.mem_of_getElem? (i := 697) (by decide +kernel)⟩
def lw_privs_3 : List (MethodName × Nat) := [(⟨"CoderTablesModel", "noPair", "(II)Z"⟩, 15), (⟨"CoderTablesModel", "noCoder", "(I)Z"⟩, 15), (⟨"CoderTablesModel", "add", "(III)V"⟩, 15), (⟨"CoderTablesModel", "fail", "(I)V"⟩, 15), (⟨"CoderTablesModel", "countedOf", "(I)I"⟩, 15), (⟨"CoderTablesModel", "sumOf", "(I)J"⟩, 15), (⟨"CoderTablesModel", "bytes", "(I)I"⟩, 15), (⟨"CoderTablesModel", "rankOf", "(I)I"⟩, 15), (⟨"CoderTablesModel", "findHull", "(I)V"⟩, 15), (⟨"CoderTablesModel", "isBest", "(II)Z"⟩, 15), (⟨"CoderTablesModel", "isSteeper", "(III)Z"⟩, 15), (⟨"CoderTablesModel", "noneOnHull", "(IIII)Z"⟩, 15), (⟨"CoderTablesModel", "less", "(II)I"⟩, 15), (⟨"CoderTablesModel", "areBoth", "(III)Z"⟩, 15), (⟨"CoderTablesModel", "draw", "(I)I"⟩, 15), (⟨"CoderTablesModel", "both", "(III)I"⟩, 15)]
theorem lw_r3 : ∀ q ∈ lw_privs_3, lw_okq q := List.forall_mem_cons.mpr ⟨lw_p32, List.forall_mem_cons.mpr ⟨lw_p33, List.forall_mem_cons.mpr ⟨lw_p34, List.forall_mem_cons.mpr ⟨lw_p35, List.forall_mem_cons.mpr ⟨lw_p36, List.forall_mem_cons.mpr ⟨lw_p37, List.forall_mem_cons.mpr ⟨lw_p38, List.forall_mem_cons.mpr ⟨lw_p39, List.forall_mem_cons.mpr ⟨lw_p40, List.forall_mem_cons.mpr ⟨lw_p41, List.forall_mem_cons.mpr ⟨lw_p42, List.forall_mem_cons.mpr ⟨lw_p43, List.forall_mem_cons.mpr ⟨lw_p44, List.forall_mem_cons.mpr ⟨lw_p45, List.forall_mem_cons.mpr ⟨lw_p46, List.forall_mem_cons.mpr ⟨lw_p47, fun _ h => absurd h List.not_mem_nil⟩⟩⟩⟩⟩⟩⟩⟩⟩⟩⟩⟩⟩⟩⟩⟩
theorem lw_p48 : lw_okq (⟨"CoderTablesModel", "fillPair", "(I)V"⟩, 15) := ⟨⟨by decide +kernel, by decide +kernel⟩, List.mem_of_getElem? (i := 498) (by decide +kernel), List.mem_of_getElem? (i := 704) (by decide +kernel), List.mem_of_getElem? (i := 705) (by decide +kernel)⟩
theorem lw_p49 : lw_okq (⟨"CoderTablesModel", "points", "()I"⟩, 15) := ⟨⟨by decide +kernel, by decide +kernel⟩, List.mem_of_getElem? (i := 498) (by decide +kernel), List.mem_of_getElem? (i := 708) (by decide +kernel), List.mem_of_getElem? (i := 709) (by decide +kernel)⟩
theorem lw_p50 : lw_okq (⟨"CoderTablesModel", "typeNumber", "(J)V"⟩, 15) := ⟨⟨by decide +kernel, by decide +kernel⟩, List.mem_of_getElem? (i := 498) (by decide +kernel), List.mem_of_getElem? (i := 716) (by decide +kernel), List.mem_of_getElem? (i := 717) (by decide +kernel)⟩
theorem lw_p51 : lw_okq (⟨"CoderTablesModel", "type", "(I)V"⟩, 15) := ⟨⟨by decide +kernel, by decide +kernel⟩, List.mem_of_getElem? (i := 498) (by decide +kernel), List.mem_of_getElem? (i := 722) (by decide +kernel), List.mem_of_getElem? (i := 723) (by decide +kernel)⟩
def lw_privs_4 : List (MethodName × Nat) := [(⟨"CoderTablesModel", "fillPair", "(I)V"⟩, 15), (⟨"CoderTablesModel", "points", "()I"⟩, 15), (⟨"CoderTablesModel", "typeNumber", "(J)V"⟩, 15), (⟨"CoderTablesModel", "type", "(I)V"⟩, 15)]
theorem lw_r4 : ∀ q ∈ lw_privs_4, lw_okq q := List.forall_mem_cons.mpr ⟨lw_p48, List.forall_mem_cons.mpr ⟨lw_p49, List.forall_mem_cons.mpr ⟨lw_p50, List.forall_mem_cons.mpr ⟨lw_p51, fun _ h => absurd h List.not_mem_nil⟩⟩⟩⟩
def lw_privs : List (MethodName × Nat) := lw_privs_1 ++ (lw_privs_2 ++ (lw_privs_3 ++ (lw_privs_4)))
def lw_tbl : List Cond := k2_sels lw_privs ++ tables_1
theorem lw_privs_ok : ∀ q ∈ lw_privs, lw_okq q := by
  show ∀ q ∈ lw_privs_1 ++ (lw_privs_2 ++ (lw_privs_3 ++ (lw_privs_4))), lw_okq q
  exact List.forall_mem_append.mpr ⟨lw_r1, List.forall_mem_append.mpr ⟨lw_r2, List.forall_mem_append.mpr ⟨lw_r3, lw_r4⟩⟩⟩
-- ===== end of PART A; then your names; then what follows =====
end
section
/-! ===== BEGIN words of one list among another's, by their places ===== -/
theorem goodIn_r {big : List Cond} (ws : List Cond) (ps : List Nat) (hp : ws = ps.filterMap (fun i => big[i]?)) (h : ws.all goodWord = true) : GoodIn big ws := by
  intro w hw
  have h1 := List.all_eq_true.mp h w hw
  rw [hp] at hw
  obtain ⟨i, -, hi⟩ := List.mem_filterMap.mp hw
  have hm : w ∈ big := by first | exact List.mem_of_getElem? hi | exact List.getElem?_mem hi
  exact ⟨hm, good_of_word h1⟩
theorem goodIn_app {big a b : List Cond} (ha : GoodIn big a) (hb : GoodIn big b) : GoodIn big (a ++ b) := fun w h => (List.mem_append.mp h).elim (ha w) (hb w)
theorem goodIn_ca {big a b : List Cond} {c : Cond} (ha : GoodIn big (c :: a)) (hb : GoodIn big b) : GoodIn big (c :: (a ++ b)) := fun w h => (List.mem_cons.mp h).elim (fun e => ha w (List.mem_cons.mpr (Or.inl e))) (fun h => (List.mem_append.mp h).elim (fun h => ha w (List.mem_cons.mpr (Or.inr h))) (hb w))
theorem goodIn_sub {big ws : List Cond} (hm : ∀ w ∈ ws, w ∈ big) (h : ws.all goodWord = true) : GoodIn big ws := fun w hw => ⟨hm w hw, good_of_word (List.all_eq_true.mp h w hw)⟩
/-! ===== END ===== -/

/-! ===== BEGIN exceptions that leave a method, and their catching by the caller (launches without stack traces) ===== -/
section VXA
/-! The laws vx_back, vx_callV, vx_callS, vx_callSW, vx_throw0, vx_throwS follow proofs of the library, with one case more: JvmDerived/Free/Laws.lean (Back.of_free), Shelf42/LK1.lean (callV, callS), Shelf/KitTraced.lean (throwNew0V, throwNewS). -/
/-- where a method has thrown q: the class by its name, the cell, what was written, the world -/
def vx_T (XC : String → State → State → Prop) (st : State) (q : Addr) (t : State) (mc ms : Nat) (free : Addr → Prop) : Prop :=
  ∃ (E : String) (ce : Cell) (L : List Loc), XC E st t ∧ t.heap[q]? = some ce ∧ ce.vm = .none ∧ st.vm.findClass E = some ce.cls ∧ st.WarmedH t.vm ∧ st.sameButNew ({ t with vm := st.vm } : State) L mc ms ∧ ∀ z ∈ L, free z.base
def vx_Q (Qc : Array Value → State → Outcome → State → Prop) (XC : String → State → State → Prop) (mc ms : Nat) (free : Addr → Prop) : Array Value → State → Outcome → State → Prop := fun a st o t =>
  (Qc a st o t ∧ ∃ L, FrameEnd st o t L mc ms ∧ ∀ q ∈ L, free q.base) ∨ ∃ q, o = .threw q ∧ vx_T XC st q t mc ms free
/-- a callee that returns or throws -/
def vx_Met (l : Launch) (y : MethodName) (ws : List Cond) (rm : Room) (Pc : Array Value → State → Prop) (Qc : Array Value → State → Outcome → State → Prop) (XC : String → State → State → Prop) (mc ms : Nat) (free : Addr → Prop) : Prop :=
  MetFree l y (headSpec ws rm) Pc (fun _ _ _ _ _ => True) (vx_Q Qc XC mc ms free)
def vx_Post (XC : String → State → State → Prop) (mc ms : Nat) (free : Addr → Prop) : Pt → Array Value → Addr → Pt → Prop := fun A a q B =>
  ∃ (g : JFrame) (mk : MethodId) (t : State) (L : List Loc) (E : String) (ce : Cell), B.U.heap = t.heap ∧ B.U.vm = t.vm ∧ XC E (A.U.calling g mk a) t ∧ t.heap[q]? = some ce ∧ ce.vm = .none ∧ A.U.vm.findClass E = some ce.cls ∧ B.locs = A.locs ++ L ∧ (∀ z ∈ L, free z.base) ∧ B.cells = A.cells + mc ∧ B.slots = A.slots + ms
def vx_Back (l : Launch) (R : Room) (p : Program) (e : Env) (below : List Frame) (s : State) (sargs : Array Value) (y : MethodName) (len W9 : Nat)
    (Pre : Pt → Array Value → Prop) (Post : Pt → Array Value → Option Value → Pt → Prop) (PostX : Pt → Array Value → Addr → Pt → Prop) : Prop :=
  ∀ (m : MethodId) (meth : Method) (c : Code) (A : Pt) (g : JFrame) (ig : Instr) (mk : MethodId) (a : Array Value),
    Stand p l e R s m sargs below meth c A.U A.locs A.cells A.slots → g.method = m → g.locals.size = c.maxLocals → decode c.code g.pc = .ok (ig, len) →
    2 * g.monitorRoom + (g.stack.map fun v => v.category).sum ≤ W9 → A.U.methodNamed? y = some mk → Pre A a →
    (∃ (v : Option Value) (B : Pt), Stand p l e R s m sargs below meth c B.U B.locs B.cells B.slots ∧ Post A a v B ∧
      Steps p.tables e below (doInvoke e (A.U.setTop g) [] mk a).1 (B.U.setTop { g with pc := g.pc + len, stack := v.toList ++ g.stack })) ∨
    (∃ (q : Addr) (B : Pt), Stand p l e R s m sargs below meth c B.U B.locs B.cells B.slots ∧ PostX A a q B ∧
      Steps p.tables e below (doInvoke e (A.U.setTop g) [] mk a).1 ((B.U.setTop g).pushFrame (.throwing q)))
section Payer
variable {l : Launch} {R : Room} {p : Program} {e : Env} {below : List Frame} {s : State} {sargs : Array Value} {y : MethodName} {len W9 : Nat}
theorem vx_back {ws : List Cond} {rm : Room} {Pc : Array Value → State → Prop} {Qc : Array Value → State → Outcome → State → Prop} {XC : String → State → State → Prop} {mc ms : Nat} {free : Addr → Prop} {bytes : ByteArray} {maxL : Nat} {ret : Option FieldType}
    (hM : vx_Met l y ws rm Pc Qc XC mc ms free) (hblind : FrameBlind Pc) (hrc : rm.cells = mc) (hrs : rm.slots = ms)
    (hframes : rm.frames + 1 ≤ R.frames) (hlocals : W9 + (maxL + 11) + rm.locals ≤ R.locals)
    (hws : ∀ w ∈ ws, ∀ a' U, s.WarmedH U.vm → w.before a' U = true) (hcode : Cond.code y bytes maxL ret ∈ ws) (hinit : ∀ a' U, s.WarmedH U.vm → (Cond.initialized y.cls).before a' U = true) :
    vx_Back l R p e below s sargs y len W9 (PreOf R mc ms Pc) (PostOf Qc mc ms free) (vx_Post XC mc ms free) := by
  intro m meth c A g ig mk a X hg hsize hdg hW hn hp
  have h1 : (headSpec ws rm).pre.before a A.U = true := atoms_intro fun w hw => hws w hw _ _ X.warmed
  have h2 : (Cond.code y bytes maxL ret).before a A.U = true := hws _ hcode _ _ X.warmed
  have h3 : (Cond.initialized y.cls).before a A.U = true := hinit _ _ X.warmed
  have h4 : A.cells + (headSpec ws rm).room.cells ≤ R.cells := by rw [show (headSpec ws rm).room.cells = mc from hrc]; exact hp.1
  have h5 : A.slots + (headSpec ws rm).room.slots ≤ R.slots := by rw [show (headSpec ws rm).room.slots = ms from hrs]; exact hp.2.1
  have hPc : Pc a (A.U.calling g mk a) := hblind _ _ _ _ hp.2.2
  obtain ⟨U, Ls, c0, s0⟩ := A
  dsimp only [Pt.U, Pt.locs, Pt.cells, Pt.slots] at h1 h2 h3 h4 h5 X hn hPc ⊢
  obtain ⟨methY, cY, hmY, hcY, -, hlY, -, -, -, -⟩ := Cond.code_spec hn h2
  obtain ⟨kY, hkY, -⟩ := className_of_methodNamed hn
  have hinitY : kY.init = .initialized := Cond.initialized_spec (findClass_of_methodNamed hn) hkY h3
  have h : At U g.method c below := by rw [hg]; exact X.here
  have hlocals9 : W9 + (maxL + 11) + (headSpec ws rm).room.locals ≤ R.locals := hlocals
  have happ : (headSpec ws rm).appliesLoose y e.platform (U.calling g mk a) = true :=
    Spec.appliesLoose_calling (g := g) h hdg hn hkY hinitY
      (X.room_calling (g := g) (R' := (headSpec ws rm).room) hsize hmY hcY hframes (by rw [hlY]; omega) h4 h5) h1
  obtain ⟨mid, hmid⟩ := h.above
  have hfr : (U.setTop g).frames = (.java g :: mid) ++ below := by rw [State.frames_setTop' g h.top, hmid]; rfl
  obtain ⟨o, s₂, hsteps, -, hend, hq⟩ := Steps.callFree hM p X.admits X.cas X.clock (acts := []) hfr happ hPc trivial
  have hq' : vx_Q Qc XC mc ms free a (U.calling g mk a) o s₂ := hq
  rw [State.frames_setTop' g h.top] at hend
  obtain ⟨g₀, hg0⟩ := Option.isSome_iff_exists.mp h.top
  obtain ⟨r, hr⟩ := State.topJava?_eq_some.mp hg0
  have hr' : (({ U with heap := s₂.heap, slotsUsed := s₂.slotsUsed } : State).setVm s₂.vm).frames = .java g₀ :: r := hr
  rcases hq' with ⟨hqc, L, hfe, hL⟩ | ⟨q, rfl, E, ce, L, hx, hce, hcv, hcl, hW₂, hsm, hL⟩
  · obtain ⟨⟨v, rfl⟩, hW₂, e2, q2, q3, q4, q5, q6⟩ := id hfe
    have e3 : s₂ = ({ (U.calling g mk a).setFrames s₂.frames with heap := s₂.heap, slotsUsed := s₂.slotsUsed } : State).setVm s₂.vm := by
      have : s₂ = ({ s₂ with vm := (U.calling g mk a).vm } : State).setVm s₂.vm := rfl
      rw [e2] at this
      exact this
    obtain ⟨c₂, i₂, len₂, hc₂, hd₂, hf₂⟩ := hend
    have hW' : U.WarmedH s₂.vm := hW₂
    have hcc : c₂ = c := by
      have h1 : s₂.code? g.method = U.code? g.method := by
        rw [State.code?_eq, State.code?_eq, hW'.alike.method?]
      exact Option.some.inj (hc₂.symm.trans (h1.trans h.code))
    subst hcc
    have hlen : len₂ = len := by rw [hdg] at hd₂; cases hd₂; rfl
    subst hlen
    have hs₂ : s₂ = (({ U with heap := s₂.heap, slotsUsed := s₂.slotsUsed } : State).setVm s₂.vm).setTop { g with pc := g.pc + len₂, stack := v.toList ++ g.stack } := by
      refine e3.trans ?_
      rw [hf₂, State.calling_eq h.top, State.setFrames_setFrames, State.setTop_of_frames _ hr', hr]
      rfl
    have hsame : U.sameButNew ({ U with heap := s₂.heap, slotsUsed := s₂.slotsUsed } : State) L mc ms := by
      refine ⟨?_, q2, q3, q4, q5, q6⟩
      obtain ⟨t, ht, -⟩ := State.frames_cons hr
      show ({ U with heap := s₂.heap, slotsUsed := s₂.slotsUsed } : State) = { U.setFrames U.frames with heap := s₂.heap, slotsUsed := s₂.slotsUsed }
      rw [State.setFrames_self ht]
    subst hg
    refine Or.inl ⟨v, ⟨(({ U with heap := s₂.heap, slotsUsed := s₂.slotsUsed } : State).setVm s₂.vm), Ls ++ L, c0 + mc, s0 + ms⟩,
      ⟨X.admits, X.cas, X.clock, X.frames, X.room, X.hears, X.method, X.code, (X.here.setHeapUsed s₂.heap s₂.slotsUsed).setVm hW'.alike, X.tail, State.WarmedH.trans X.warmed hW', X.limits, X.bytes, X.same.trans (hsame.setVm s.vm)⟩,
      ⟨g, mk, s₂, L, rfl, rfl, hqc, rfl, hL, rfl, rfl⟩, ?_⟩
    show Steps p.tables e below _ ((({ U with heap := s₂.heap, slotsUsed := s₂.slotsUsed } : State).setVm s₂.vm).setTop { g with pc := g.pc + len₂, stack := v.toList ++ g.stack })
    rw [← hs₂]
    exact hsteps
  · obtain ⟨e2, q2, q3, q4, q5, q6⟩ := id hsm
    have e3 : s₂ = ({ (U.calling g mk a).setFrames s₂.frames with heap := s₂.heap, slotsUsed := s₂.slotsUsed } : State).setVm s₂.vm := by
      have : s₂ = ({ s₂ with vm := (U.calling g mk a).vm } : State).setVm s₂.vm := rfl
      rw [e2] at this
      exact this
    have hf₂ : s₂.frames = .throwing q :: .java g :: U.frames.tail := hend
    have hW' : U.WarmedH s₂.vm := hW₂
    have hs₂ : s₂ = ((({ U with heap := s₂.heap, slotsUsed := s₂.slotsUsed } : State).setVm s₂.vm).setTop g).pushFrame (.throwing q) := by
      refine e3.trans ?_
      rw [hf₂, State.calling_eq h.top, State.setFrames_setFrames, State.pushFrame, State.frames_setTop _ hr', State.setTop_of_frames _ hr', State.setFrames_setFrames, hr]
      rfl
    have hsame : U.sameButNew ({ U with heap := s₂.heap, slotsUsed := s₂.slotsUsed } : State) L mc ms := by
      refine ⟨?_, q2, q3, q4, q5, q6⟩
      obtain ⟨t, ht, -⟩ := State.frames_cons hr
      show ({ U with heap := s₂.heap, slotsUsed := s₂.slotsUsed } : State) = { U.setFrames U.frames with heap := s₂.heap, slotsUsed := s₂.slotsUsed }
      rw [State.setFrames_self ht]
    subst hg
    refine Or.inr ⟨q, ⟨(({ U with heap := s₂.heap, slotsUsed := s₂.slotsUsed } : State).setVm s₂.vm), Ls ++ L, c0 + mc, s0 + ms⟩,
      ⟨X.admits, X.cas, X.clock, X.frames, X.room, X.hears, X.method, X.code, (X.here.setHeapUsed s₂.heap s₂.slotsUsed).setVm hW'.alike, X.tail, State.WarmedH.trans X.warmed hW', X.limits, X.bytes, X.same.trans (hsame.setVm s.vm)⟩,
      ⟨g, mk, s₂, L, E, ce, rfl, rfl, hx, hce, hcv, hcl, rfl, hL, rfl, rfl⟩, ?_⟩
    show Steps p.tables e below _ (((({ U with heap := s₂.heap, slotsUsed := s₂.slotsUsed } : State).setVm s₂.vm).setTop g).pushFrame (.throwing q))
    rw [← hs₂]
    exact hsteps
end Payer
section Calls
variable {p : Program} {l : Launch} {e : Env} {R : Room} {s : State} {m : MethodId} {args : Array Value} {below : List Frame} {meth : Method} {c : Code} {T : State} {locs : List Loc} {cells slots : Nat}
theorem vx_callV (X : Stand p l e R s m args below meth c T locs cells slots) (hexec : p.tables.exec = Jvm.exec) {own C : String} {index : Nat} {y : MethodName} {bytes : ByteArray} {maxL : Nat} {ret : Option FieldType}
    (hown : s.vm.findClass own = some m.cls) (hlink : (Cond.methodLink own index y).before args s = true) (hinst : (Cond.instanceMethod y).before args s = true) (hsel : (Cond.selects C y y).before args s = true)
    (hcode : (Cond.code y bytes maxL ret).before args s = true) (hy : y.cls ≠ "java/lang/invoke/MethodHandle" ∧ y.cls ≠ "java/lang/invoke/VarHandle")
    {W9 : Nat} {Pre : Pt → Array Value → Prop} {Post : Pt → Array Value → Option Value → Pt → Prop} {PostX : Pt → Array Value → Addr → Pt → Prop} (hK : vx_Back l R p e below s args y 3 W9 Pre Post PostX)
    {b : Addr} {cellB : Cell} (hcell : T.heap[b]? = some cellB) (hobj : cellB.vm.isStatics = false) (hcls : s.vm.findClass C = some cellB.cls)
    {g : JFrame} (hg : g.method = m) (hsize : g.locals.size = c.maxLocals) {argsL rest : List Value} (hlen : ∀ sig, parseMethodDescriptor y.desc = some sig → argsL.length = sig.parameters.length)
    (hstack : g.stack = argsL.reverse ++ .ref b :: rest) (hW : 2 * g.monitorRoom + (rest.map fun v => v.category).sum ≤ W9) (hdg : decode c.code g.pc = .ok (.invokevirtual index, 3))
    (hpre : ∀ vm₁, s.WarmedH vm₁ → Pre ⟨T.setVm vm₁, locs, cells, slots⟩ (Value.ref b :: argsL).toArray) :
    (∃ (v : Option Value) (vm₁ : Vm) (B : Pt), s.WarmedH vm₁ ∧ Stand p l e R s m args below meth c B.U B.locs B.cells B.slots ∧ Post ⟨T.setVm vm₁, locs, cells, slots⟩ (Value.ref b :: argsL).toArray v B ∧
      ∀ target, Steps p.tables e below (B.U.setTop { g with pc := g.pc + 3, stack := v.toList ++ rest }) target → Steps p.tables e below (T.setTop g) target) ∨
    (∃ (q : Addr) (vm₁ : Vm) (B : Pt), s.WarmedH vm₁ ∧ Stand p l e R s m args below meth c B.U B.locs B.cells B.slots ∧ PostX ⟨T.setVm vm₁, locs, cells, slots⟩ (Value.ref b :: argsL).toArray q B ∧
      Steps p.tables e below (T.setTop g) ((B.U.setTop { g with stack := rest }).pushFrame (.throwing q))) := by
  obtain ⟨mk, methM, hnamed, hmethM, hstM, habM⟩ := Cond.instanceMethod_spec hinst
  obtain ⟨methM', cM, hmethM', -, -, -, -, -, -, hsigM⟩ := Cond.code_spec hnamed hcode
  cases hmethM.symm.trans hmethM'
  obtain ⟨c2, r2, m2, q1, q2, q3, q4, kP, hkP, hkPi⟩ := Cond.selects_spec hsel
  cases hcls.symm.trans q1
  cases (State.methodFound?_of_named hnamed hy).symm.trans q2
  cases hnamed.symm.trans q3
  have hselP : selectMethod e.platform s.vm cellB.cls mk = .method mk := by rw [Launch.admits_selectMethod X.admits]; exact q4
  obtain ⟨vm₁, X₁, hstep₁⟩ := X.invokevirtual hexec hown hlink hnamed hmethM hstM hkP hkPi hy (a := b) (cell := cellB) hcell
    (fun z h => by rw [h] at hobj; cases hobj) hselP hmethM habM hkP hkPi (g := g) hg (argsL := argsL) (rest := rest) (hlen _ hsigM) hstack hdg
  rcases hK m meth c ⟨T.setVm vm₁, locs, cells, slots⟩ { g with stack := rest } (.invokevirtual index) mk (Value.ref b :: argsL).toArray X₁ hg hsize hdg hW (X₁.named hnamed) (hpre vm₁ X₁.warmed) with ⟨v, B, X', hpost, hsteps⟩ | ⟨q, B, X', hpost, hsteps⟩
  · exact Or.inl ⟨v, vm₁, B, X₁.warmed, X', hpost, fun target h => hstep₁ _ fun acts => by rw [doInvoke_state]; exact hsteps.trans h⟩
  · exact Or.inr ⟨q, vm₁, B, X₁.warmed, X', hpost, hstep₁ _ fun acts => by rw [doInvoke_state]; exact hsteps⟩
theorem vx_callS (X : Stand p l e R s m args below meth c T locs cells slots) (hexec : p.tables.exec = Jvm.exec) {own : String} {index : Nat} {y : MethodName} {bytes : ByteArray} {maxL : Nat} {ret : Option FieldType}
    (hown : s.vm.findClass own = some m.cls) (hlink : (Cond.methodLink own index y).before args s = true) (hstat : (Cond.static y).before args s = true) (hinit : (Cond.initialized y.cls).before args s = true)
    (hcode : (Cond.code y bytes maxL ret).before args s = true) (hy : y.cls ≠ "java/lang/invoke/MethodHandle" ∧ y.cls ≠ "java/lang/invoke/VarHandle")
    {W9 : Nat} {Pre : Pt → Array Value → Prop} {Post : Pt → Array Value → Option Value → Pt → Prop} {PostX : Pt → Array Value → Addr → Pt → Prop} (hK : vx_Back l R p e below s args y 3 W9 Pre Post PostX)
    {g : JFrame} (hg : g.method = m) (hsize : g.locals.size = c.maxLocals) {argsL rest : List Value} (hlen : ∀ sig, parseMethodDescriptor y.desc = some sig → argsL.length = sig.parameters.length)
    (hstack : g.stack = argsL.reverse ++ rest) (hW : 2 * g.monitorRoom + (rest.map fun v => v.category).sum ≤ W9) (hdg : decode c.code g.pc = .ok (.invokestatic index, 3))
    (hpre : ∀ vm₁, s.WarmedH vm₁ → Pre ⟨T.setVm vm₁, locs, cells, slots⟩ argsL.toArray) :
    (∃ (v : Option Value) (vm₁ : Vm) (B : Pt), s.WarmedH vm₁ ∧ Stand p l e R s m args below meth c B.U B.locs B.cells B.slots ∧ Post ⟨T.setVm vm₁, locs, cells, slots⟩ argsL.toArray v B ∧
      ∀ target, Steps p.tables e below (B.U.setTop { g with pc := g.pc + 3, stack := v.toList ++ rest }) target → Steps p.tables e below (T.setTop g) target) ∨
    (∃ (q : Addr) (vm₁ : Vm) (B : Pt), s.WarmedH vm₁ ∧ Stand p l e R s m args below meth c B.U B.locs B.cells B.slots ∧ PostX ⟨T.setVm vm₁, locs, cells, slots⟩ argsL.toArray q B ∧
      Steps p.tables e below (T.setTop g) ((B.U.setTop { g with stack := rest }).pushFrame (.throwing q))) := by
  obtain ⟨mk, hnamed⟩ := Cond.code_named hcode
  obtain ⟨methM, cM, hmethM, -, -, -, -, -, -, hsigM⟩ := Cond.code_spec hnamed hcode
  have hstatic : methM.isStatic = true := Cond.static_spec hnamed hmethM hstat
  obtain ⟨kP, hkP, -⟩ := className_of_methodNamed hnamed
  have hinitP : kP.init = .initialized := Cond.initialized_spec (findClass_of_methodNamed hnamed) hkP hinit
  obtain ⟨vm₁, X₁, hstep₁⟩ := X.invokestatic hexec hown hlink hnamed hmethM hstatic hkP hinitP hy (g := g) hg (argsL := argsL) (rest := rest) (hlen _ hsigM) hstack hdg
  rcases hK m meth c ⟨T.setVm vm₁, locs, cells, slots⟩ { g with stack := rest } (.invokestatic index) mk argsL.toArray X₁ hg hsize hdg hW (X₁.named hnamed) (hpre vm₁ X₁.warmed) with ⟨v, B, X', hpost, hsteps⟩ | ⟨q, B, X', hpost, hsteps⟩
  · exact Or.inl ⟨v, vm₁, B, X₁.warmed, X', hpost, fun target h => hstep₁ _ fun acts => by rw [doInvoke_state]; exact hsteps.trans h⟩
  · exact Or.inr ⟨q, vm₁, B, X₁.warmed, X', hpost, hstep₁ _ fun acts => by rw [doInvoke_state]; exact hsteps⟩
end Calls
theorem vx_cls {s : State} {T : State} {vm₁ : Vm} {E : String} {k : ClassId} (hW : s.WarmedH vm₁) (h : (T.setVm vm₁).vm.findClass E = some k) : s.vm.findClass E = some k := by
  have h1 : vm₁.findClass E = some k := h
  rw [hW.alike.findClass] at h1
  exact h1
/-- the method's frame g, with q thrown over it -/
def vx_W (p : Program) (l : Launch) (e : Env) (R : Room) (s : State) (m : MethodId) (args : Array Value) (below : List Frame) (meth : Method) (c : Code) (H : Heap) (locs : List Loc) (cells slots : Nat) (Q : State → Prop) (g : JFrame) (q : Addr) : Prop :=
  ∀ T : State, T.heap = H → Stand p l e R s m args below meth c T locs cells slots → ∃ t, Steps p.tables e below ((T.setTop g).pushFrame (.throwing q)) t ∧ Q t
def vx_Run (p : Program) (l : Launch) (e : Env) (R : Room) (s : State) (m : MethodId) (args : Array Value) (below : List Frame) (meth : Method) (c : Code) (H : Heap) (locs : List Loc) (cells slots mc ms : Nat) (g : JFrame) (rest : List Value) (Qa : State → Outcome → State → Prop) (XC : String → State → State → Prop) (free : Addr → Prop) : Prop :=
  ∀ T : State, T.heap = H → Stand p l e R s m args below meth c T locs cells slots →
    (∃ (v : Option Value) (st₀ t T' : State) (L : List Loc), st₀.heap = H ∧ Stand p l e R s m args below meth c T' (locs ++ L) (cells + mc) (slots + ms) ∧ (∀ q ∈ L, free q.base) ∧ T'.heap = t.heap ∧ T'.vm = t.vm ∧ Qa st₀ (.returned v) t ∧
      Goes p e below T g T' { g with pc := g.pc + 3, stack := v.toList ++ rest }) ∨
    (∃ (q : Addr) (st₀ t T' : State) (L : List Loc) (E : String) (ce : Cell), st₀.heap = H ∧ Stand p l e R s m args below meth c T' (locs ++ L) (cells + mc) (slots + ms) ∧ (∀ z ∈ L, free z.base) ∧ T'.heap = t.heap ∧ T'.vm = t.vm ∧ XC E st₀ t ∧ t.heap[q]? = some ce ∧ ce.vm = .none ∧ s.vm.findClass E = some ce.cls ∧
      Steps p.tables e below (T.setTop g) ((T'.setTop { g with stack := rest }).pushFrame (.throwing q)))
def vx_X {S : Type} (px : S → Prop) (B : String → S → State → Prop) (A : Nat → Prop) : String → State → State → Prop := fun E st t => ∃ u : S, px u ∧ B E u t ∧ va_F A st t
section Runs
variable {p : Program} {l : Launch} {e : Env} {R : Room} {s : State} {m : MethodId} {args : Array Value} {below : List Frame} {meth : Method} {c : Code} {H : Heap} {locs : List Loc} {cells slots : Nat}
variable {y : MethodName} {bytes cc : ByteArray} {maxL nL mc ms n index : Nat} {ret : Option FieldType} {ws : List Cond} {rm : Room} {Pc : Array Value → State → Prop} {Qc : Array Value → State → Outcome → State → Prop} {XC : String → State → State → Prop} {free : Addr → Prop} {Ts : List Cond} {own C : String} {b : Addr} {As rest : List Value} {g : JFrame}
theorem vx_callBack (cb : CallB R s args own index y bytes maxL ret ws rm mc ms n) (hM : vx_Met l y ws rm Pc Qc XC mc ms free) (hbl : FrameBlind Pc) : vx_Back l R p e below s args y 3 8 (PreOf R mc ms Pc) (PostOf Qc mc ms free) (vx_Post XC mc ms free) := by
  obtain ⟨hrc, hrs, hfr, hlo, hws, hcw, -, hini, -⟩ := cb
  exact vx_back (bytes := bytes) (maxL := maxL) (ret := ret) hM hbl hrc hrs hfr hlo hws hcw (fun a' U hW => word_at hW (Or.inl (by first | rfl | simp [Cond.onTables, Cond.keeps, Cond.steady])) hini)
theorem vx_runV (S : CallFix p m c cc nL s args Ts own) (hM : vx_Met l y ws rm Pc Qc XC mc ms free) (cw : CallW R s args own C index y bytes maxL ret ws rm mc ms n) (hp : PreV s H C b Pc As)
    (hg : g.method = m) (hn : As.length = n) (hsize : g.locals.size = nL) (hstack : g.stack = As.reverse ++ .ref b :: rest) (hW : 2 * g.monitorRoom + (rest.map fun v => v.category).sum ≤ 8) (hdg : decode cc g.pc = .ok (.invokevirtual index, 3)) (hf : cells + mc ≤ R.cells ∧ slots + ms ≤ R.slots) :
    vx_Run p l e R s m args below meth c H locs cells slots mc ms g rest (Qc (Value.ref b :: As).toArray) XC free := by
  have hK : vx_Back l R p e below s args y 3 8 (PreOf R mc ms Pc) (PostOf Qc mc ms free) (vx_Post XC mc ms free) := vx_callBack cw.1 hM hp.1
  obtain ⟨⟨-, -, -, -, -, -, hcode, -, hy, hlen, hl⟩, hin, hse⟩ := cw
  obtain ⟨hx, hb, hml, ho, -⟩ := S
  obtain ⟨-, ⟨cellB, hcB, hoB, hclB⟩, hPc⟩ := hp
  intro T hT X
  rcases vx_callV X hx (C := C) (bytes := bytes) (maxL := maxL) (ret := ret) ho hl hin hse hcode hy hK (by rw [hT]; exact hcB) hoB hclB hg (hsize.trans hml.symm) (argsL := As) (rest := rest) (fun sig h => hn.trans (hlen sig h)) hstack hW (by rw [hb]; exact hdg)
    (fun vm₁ hW₁ => ⟨hf.1, hf.2, hPc (T.setVm vm₁) hT hW₁⟩) with ⟨v, vm₁, ⟨U', l2, c2, s2⟩, hW₁, X', ⟨g', mk, t, L, e1, e2, hq, h1, hL, h2, h3⟩, st⟩ | ⟨q, vm₁, ⟨U', l2, c2, s2⟩, hW₁, X', ⟨g', mk, t, L, E, ce, e1, e2, hq, hce, hcv, hcl, h1, hL, h2, h3⟩, st⟩
  · dsimp only [Pt.U, Pt.locs, Pt.cells, Pt.slots] at X' e1 e2 h1 h2 h3 st
    subst h1; subst h2; subst h3
    exact Or.inl ⟨v, (T.setVm vm₁).calling g' mk (Value.ref b :: As).toArray, t, U', L, hT, X', hL, e1, e2, hq, st⟩
  · dsimp only [Pt.U, Pt.locs, Pt.cells, Pt.slots] at X' e1 e2 h1 h2 h3 st hcl
    subst h1; subst h2; subst h3
    exact Or.inr ⟨q, (T.setVm vm₁).calling g' mk (Value.ref b :: As).toArray, t, U', L, E, ce, hT, X', hL, e1, e2, hq, hce, hcv, vx_cls hW₁ hcl, st⟩
theorem vx_runS (S : CallFix p m c cc nL s args Ts own) (hM : vx_Met l y ws rm Pc Qc XC mc ms free) (cw : CallB R s args own index y bytes maxL ret ws rm mc ms n ∧ (Cond.static y).before args s = true) (hp : PreS s H Pc As)
    (hg : g.method = m) (hn : As.length = n) (hsize : g.locals.size = nL) (hstack : g.stack = As.reverse ++ rest) (hW : 2 * g.monitorRoom + (rest.map fun v => v.category).sum ≤ 8) (hdg : decode cc g.pc = .ok (.invokestatic index, 3)) (hf : cells + mc ≤ R.cells ∧ slots + ms ≤ R.slots) :
    vx_Run p l e R s m args below meth c H locs cells slots mc ms g rest (Qc As.toArray) XC free := by
  have hK : vx_Back l R p e below s args y 3 8 (PreOf R mc ms Pc) (PostOf Qc mc ms free) (vx_Post XC mc ms free) := vx_callBack cw.1 hM hp.1
  obtain ⟨⟨-, -, -, -, -, -, hcode, hini, hy, hlen, hl⟩, hstt⟩ := cw
  obtain ⟨hx, hb, hml, ho, -⟩ := S
  intro T hT X
  rcases vx_callS X hx (bytes := bytes) (maxL := maxL) (ret := ret) ho hl hstt hini hcode hy hK hg (hsize.trans hml.symm) (argsL := As) (rest := rest) (fun sig h => hn.trans (hlen sig h)) hstack hW (by rw [hb]; exact hdg)
    (fun vm₁ hW₁ => ⟨hf.1, hf.2, hp.2 (T.setVm vm₁) hT hW₁⟩) with ⟨v, vm₁, ⟨U', l2, c2, s2⟩, hW₁, X', ⟨g', mk, t, L, e1, e2, hq, h1, hL, h2, h3⟩, st⟩ | ⟨q, vm₁, ⟨U', l2, c2, s2⟩, hW₁, X', ⟨g', mk, t, L, E, ce, e1, e2, hq, hce, hcv, hcl, h1, hL, h2, h3⟩, st⟩
  · dsimp only [Pt.U, Pt.locs, Pt.cells, Pt.slots] at X' e1 e2 h1 h2 h3 st
    subst h1; subst h2; subst h3
    exact Or.inl ⟨v, (T.setVm vm₁).calling g' mk As.toArray, t, U', L, hT, X', hL, e1, e2, hq, st⟩
  · dsimp only [Pt.U, Pt.locs, Pt.cells, Pt.slots] at X' e1 e2 h1 h2 h3 st hcl
    subst h1; subst h2; subst h3
    exact Or.inr ⟨q, (T.setVm vm₁).calling g' mk As.toArray, t, U', L, E, ce, hT, X', hL, e1, e2, hq, hce, hcv, vx_cls hW₁ hcl, st⟩
end Runs
section Rows
variable {p : Program} {l : Launch} {e : Env} {R : Room} {s : State} {m : MethodId} {args : Array Value} {below : List Frame} {meth : Method} {c : Code} {H : Heap} {locs : List Loc} {cells slots : Nat} {Q : State → Prop}
variable {mc ms : Nat} {free : Addr → Prop} {A0 A1 : Nat → Prop} {H0 : Heap} {a : Array Value} {pc : Nat} {ls : Array Slot} {st0 rest : List Value}
theorem vx_keep {st₀ t T' : State} {L : List Loc} (h0 : st₀.heap = H) (e1 : T'.heap = t.heap) (hS : va_S A0 H0 H locs) (hA : ∀ q, q < H.size → A1 q → A0 q) (hf : ∀ q, free q → A0 q) (hL : ∀ q ∈ L, free q.base) (hF : va_F A1 st₀ t) :
    H.size ≤ T'.heap.size ∧ (∀ q : Nat, q < H.size → ¬ A1 q → T'.heap[q]? = H[q]?) ∧ va_S A0 H0 T'.heap (locs ++ L) := by
  obtain ⟨hz, hk⟩ := hF
  rw [h0] at hz hk
  exact ⟨by rw [e1]; exact hz, fun q h1 h2 => by rw [e1]; exact hk q h1 h2,
    ⟨Nat.le_trans hS.1 (by rw [e1]; exact hz), fun q h1 h2 => by rw [e1, hk q (Nat.lt_of_lt_of_le h1 hS.1) (fun z => h2 (hA q (Nat.lt_of_lt_of_le h1 hS.1) z))]; exact hS.2.1 q h1 h2, fun q hq => by
      rcases List.mem_append.mp hq with h | h
      · exact hS.2.2 q h
      · exact hf _ (hL q h)⟩⟩
theorem vx_calli {S SX : Type} {post : Int32 → S → Prop} {px : SX → Prop} {B : S → State → Prop} {BX : String → SX → State → Prop} {AX : Nat → Prop} (hr : vx_Run p l e R s m args below meth c H locs cells slots mc ms (F0 m pc ls st0) rest (va_Qi post B A1 a) (vx_X px BX AX) free) (hS : va_S A0 H0 H locs) (hA : ∀ q, q < H.size → A1 q → A0 q) (hf : ∀ q, free q → A0 q) (hAX : ∀ q, q < H.size → AX q → A0 q)
    (kx : ∀ (E : String) (ce : Cell) (q9 : Addr) (u : SX) (t : State) (H1 : Heap) (locs1 : List Loc), t.heap = H1 → s.vm.Alike t.vm → px u → BX E u t → H.size ≤ H1.size → (∀ q : Nat, q < H.size → ¬ AX q → H1[q]? = H[q]?) → va_S A0 H0 H1 locs1 → H1[q9]? = some ce → ce.vm = .none → s.vm.findClass E = some ce.cls → vx_W p l e R s m args below meth c H1 locs1 (cells + mc) (slots + ms) Q (F0 m pc ls rest) q9)
    (kk : ∀ (r : Int32) (u : S) (t : State) (H1 : Heap) (locs1 : List Loc), t.heap = H1 → s.vm.Alike t.vm → post r u → B u t → H.size ≤ H1.size → (∀ q : Nat, q < H.size → ¬ A1 q → H1[q]? = H[q]?) → va_S A0 H0 H1 locs1 → W p l e R s m args below meth c H1 locs1 (cells + mc) (slots + ms) Q (F0 m (pc + 3) ls (.int r :: rest))) : W p l e R s m args below meth c H locs cells slots Q (F0 m pc ls st0) := by
  intro T hT X
  rcases hr T hT X with ⟨v, st₀, t, T', L, h0, X', hL, e1, e2, ⟨⟨r, u, hv, hp, hb⟩, hF⟩, st⟩ | ⟨q, st₀, t, T', L, E, ce, h0, X', hL, e1, e2, ⟨u, hp, hb, hF⟩, hce, hcv, hcl, st⟩
  · cases hv
    obtain ⟨k1, k2, k3⟩ := vx_keep h0 e1 hS hA hf hL hF
    obtain ⟨t2, a1, b1⟩ := kk r u t T'.heap (locs ++ L) e1.symm (by rw [← e2]; exact X'.warmed.alike) hp hb k1 k2 k3 T' rfl X'
    exact ⟨t2, st t2 a1, b1⟩
  · obtain ⟨k1, k2, k3⟩ := vx_keep h0 e1 hS hAX hf hL hF
    obtain ⟨t2, a1, b1⟩ := kx E ce q u t T'.heap (locs ++ L) e1.symm (by rw [← e2]; exact X'.warmed.alike) hp hb k1 k2 k3 (by rw [e1]; exact hce) hcv hcl T' rfl X'
    exact ⟨t2, st.trans a1, b1⟩
theorem vx_calll {S SX : Type} {post : Int64 → S → Prop} {px : SX → Prop} {B : S → State → Prop} {BX : String → SX → State → Prop} {AX : Nat → Prop} (hr : vx_Run p l e R s m args below meth c H locs cells slots mc ms (F0 m pc ls st0) rest (va_Ql post B A1 a) (vx_X px BX AX) free) (hS : va_S A0 H0 H locs) (hA : ∀ q, q < H.size → A1 q → A0 q) (hf : ∀ q, free q → A0 q) (hAX : ∀ q, q < H.size → AX q → A0 q)
    (kx : ∀ (E : String) (ce : Cell) (q9 : Addr) (u : SX) (t : State) (H1 : Heap) (locs1 : List Loc), t.heap = H1 → s.vm.Alike t.vm → px u → BX E u t → H.size ≤ H1.size → (∀ q : Nat, q < H.size → ¬ AX q → H1[q]? = H[q]?) → va_S A0 H0 H1 locs1 → H1[q9]? = some ce → ce.vm = .none → s.vm.findClass E = some ce.cls → vx_W p l e R s m args below meth c H1 locs1 (cells + mc) (slots + ms) Q (F0 m pc ls rest) q9)
    (kk : ∀ (r : Int64) (u : S) (t : State) (H1 : Heap) (locs1 : List Loc), t.heap = H1 → s.vm.Alike t.vm → post r u → B u t → H.size ≤ H1.size → (∀ q : Nat, q < H.size → ¬ A1 q → H1[q]? = H[q]?) → va_S A0 H0 H1 locs1 → W p l e R s m args below meth c H1 locs1 (cells + mc) (slots + ms) Q (F0 m (pc + 3) ls (.long r :: rest))) : W p l e R s m args below meth c H locs cells slots Q (F0 m pc ls st0) := by
  intro T hT X
  rcases hr T hT X with ⟨v, st₀, t, T', L, h0, X', hL, e1, e2, ⟨⟨r, u, hv, hp, hb⟩, hF⟩, st⟩ | ⟨q, st₀, t, T', L, E, ce, h0, X', hL, e1, e2, ⟨u, hp, hb, hF⟩, hce, hcv, hcl, st⟩
  · cases hv
    obtain ⟨k1, k2, k3⟩ := vx_keep h0 e1 hS hA hf hL hF
    obtain ⟨t2, a1, b1⟩ := kk r u t T'.heap (locs ++ L) e1.symm (by rw [← e2]; exact X'.warmed.alike) hp hb k1 k2 k3 T' rfl X'
    exact ⟨t2, st t2 a1, b1⟩
  · obtain ⟨k1, k2, k3⟩ := vx_keep h0 e1 hS hAX hf hL hF
    obtain ⟨t2, a1, b1⟩ := kx E ce q u t T'.heap (locs ++ L) e1.symm (by rw [← e2]; exact X'.warmed.alike) hp hb k1 k2 k3 (by rw [e1]; exact hce) hcv hcl T' rfl X'
    exact ⟨t2, st.trans a1, b1⟩
theorem vx_callf {S SX : Type} {post : UInt32 → S → Prop} {px : SX → Prop} {B : S → State → Prop} {BX : String → SX → State → Prop} {AX : Nat → Prop} (hr : vx_Run p l e R s m args below meth c H locs cells slots mc ms (F0 m pc ls st0) rest (va_Qf post B A1 a) (vx_X px BX AX) free) (hS : va_S A0 H0 H locs) (hA : ∀ q, q < H.size → A1 q → A0 q) (hf : ∀ q, free q → A0 q) (hAX : ∀ q, q < H.size → AX q → A0 q)
    (kx : ∀ (E : String) (ce : Cell) (q9 : Addr) (u : SX) (t : State) (H1 : Heap) (locs1 : List Loc), t.heap = H1 → s.vm.Alike t.vm → px u → BX E u t → H.size ≤ H1.size → (∀ q : Nat, q < H.size → ¬ AX q → H1[q]? = H[q]?) → va_S A0 H0 H1 locs1 → H1[q9]? = some ce → ce.vm = .none → s.vm.findClass E = some ce.cls → vx_W p l e R s m args below meth c H1 locs1 (cells + mc) (slots + ms) Q (F0 m pc ls rest) q9)
    (kk : ∀ (r : UInt32) (u : S) (t : State) (H1 : Heap) (locs1 : List Loc), t.heap = H1 → s.vm.Alike t.vm → post r u → B u t → H.size ≤ H1.size → (∀ q : Nat, q < H.size → ¬ A1 q → H1[q]? = H[q]?) → va_S A0 H0 H1 locs1 → W p l e R s m args below meth c H1 locs1 (cells + mc) (slots + ms) Q (F0 m (pc + 3) ls (.float r :: rest))) : W p l e R s m args below meth c H locs cells slots Q (F0 m pc ls st0) := by
  intro T hT X
  rcases hr T hT X with ⟨v, st₀, t, T', L, h0, X', hL, e1, e2, ⟨⟨r, u, hv, hp, hb⟩, hF⟩, st⟩ | ⟨q, st₀, t, T', L, E, ce, h0, X', hL, e1, e2, ⟨u, hp, hb, hF⟩, hce, hcv, hcl, st⟩
  · cases hv
    obtain ⟨k1, k2, k3⟩ := vx_keep h0 e1 hS hA hf hL hF
    obtain ⟨t2, a1, b1⟩ := kk r u t T'.heap (locs ++ L) e1.symm (by rw [← e2]; exact X'.warmed.alike) hp hb k1 k2 k3 T' rfl X'
    exact ⟨t2, st t2 a1, b1⟩
  · obtain ⟨k1, k2, k3⟩ := vx_keep h0 e1 hS hAX hf hL hF
    obtain ⟨t2, a1, b1⟩ := kx E ce q u t T'.heap (locs ++ L) e1.symm (by rw [← e2]; exact X'.warmed.alike) hp hb k1 k2 k3 (by rw [e1]; exact hce) hcv hcl T' rfl X'
    exact ⟨t2, st.trans a1, b1⟩
theorem vx_calld {S SX : Type} {post : UInt64 → S → Prop} {px : SX → Prop} {B : S → State → Prop} {BX : String → SX → State → Prop} {AX : Nat → Prop} (hr : vx_Run p l e R s m args below meth c H locs cells slots mc ms (F0 m pc ls st0) rest (va_Qd post B A1 a) (vx_X px BX AX) free) (hS : va_S A0 H0 H locs) (hA : ∀ q, q < H.size → A1 q → A0 q) (hf : ∀ q, free q → A0 q) (hAX : ∀ q, q < H.size → AX q → A0 q)
    (kx : ∀ (E : String) (ce : Cell) (q9 : Addr) (u : SX) (t : State) (H1 : Heap) (locs1 : List Loc), t.heap = H1 → s.vm.Alike t.vm → px u → BX E u t → H.size ≤ H1.size → (∀ q : Nat, q < H.size → ¬ AX q → H1[q]? = H[q]?) → va_S A0 H0 H1 locs1 → H1[q9]? = some ce → ce.vm = .none → s.vm.findClass E = some ce.cls → vx_W p l e R s m args below meth c H1 locs1 (cells + mc) (slots + ms) Q (F0 m pc ls rest) q9)
    (kk : ∀ (r : UInt64) (u : S) (t : State) (H1 : Heap) (locs1 : List Loc), t.heap = H1 → s.vm.Alike t.vm → post r u → B u t → H.size ≤ H1.size → (∀ q : Nat, q < H.size → ¬ A1 q → H1[q]? = H[q]?) → va_S A0 H0 H1 locs1 → W p l e R s m args below meth c H1 locs1 (cells + mc) (slots + ms) Q (F0 m (pc + 3) ls (.double r :: rest))) : W p l e R s m args below meth c H locs cells slots Q (F0 m pc ls st0) := by
  intro T hT X
  rcases hr T hT X with ⟨v, st₀, t, T', L, h0, X', hL, e1, e2, ⟨⟨r, u, hv, hp, hb⟩, hF⟩, st⟩ | ⟨q, st₀, t, T', L, E, ce, h0, X', hL, e1, e2, ⟨u, hp, hb, hF⟩, hce, hcv, hcl, st⟩
  · cases hv
    obtain ⟨k1, k2, k3⟩ := vx_keep h0 e1 hS hA hf hL hF
    obtain ⟨t2, a1, b1⟩ := kk r u t T'.heap (locs ++ L) e1.symm (by rw [← e2]; exact X'.warmed.alike) hp hb k1 k2 k3 T' rfl X'
    exact ⟨t2, st t2 a1, b1⟩
  · obtain ⟨k1, k2, k3⟩ := vx_keep h0 e1 hS hAX hf hL hF
    obtain ⟨t2, a1, b1⟩ := kx E ce q u t T'.heap (locs ++ L) e1.symm (by rw [← e2]; exact X'.warmed.alike) hp hb k1 k2 k3 (by rw [e1]; exact hce) hcv hcl T' rfl X'
    exact ⟨t2, st.trans a1, b1⟩
theorem vx_callv {S SX : Type} {post : S → Prop} {px : SX → Prop} {B : S → State → Prop} {BX : String → SX → State → Prop} {AX : Nat → Prop} (hr : vx_Run p l e R s m args below meth c H locs cells slots mc ms (F0 m pc ls st0) rest (va_Qv post B A1 a) (vx_X px BX AX) free) (hS : va_S A0 H0 H locs) (hA : ∀ q, q < H.size → A1 q → A0 q) (hf : ∀ q, free q → A0 q) (hAX : ∀ q, q < H.size → AX q → A0 q)
    (kx : ∀ (E : String) (ce : Cell) (q9 : Addr) (u : SX) (t : State) (H1 : Heap) (locs1 : List Loc), t.heap = H1 → s.vm.Alike t.vm → px u → BX E u t → H.size ≤ H1.size → (∀ q : Nat, q < H.size → ¬ AX q → H1[q]? = H[q]?) → va_S A0 H0 H1 locs1 → H1[q9]? = some ce → ce.vm = .none → s.vm.findClass E = some ce.cls → vx_W p l e R s m args below meth c H1 locs1 (cells + mc) (slots + ms) Q (F0 m pc ls rest) q9)
    (kk : ∀ (u : S) (t : State) (H1 : Heap) (locs1 : List Loc), t.heap = H1 → s.vm.Alike t.vm → post u → B u t → H.size ≤ H1.size → (∀ q : Nat, q < H.size → ¬ A1 q → H1[q]? = H[q]?) → va_S A0 H0 H1 locs1 → W p l e R s m args below meth c H1 locs1 (cells + mc) (slots + ms) Q (F0 m (pc + 3) ls (rest))) : W p l e R s m args below meth c H locs cells slots Q (F0 m pc ls st0) := by
  intro T hT X
  rcases hr T hT X with ⟨v, st₀, t, T', L, h0, X', hL, e1, e2, ⟨⟨u, hv, hp, hb⟩, hF⟩, st⟩ | ⟨q, st₀, t, T', L, E, ce, h0, X', hL, e1, e2, ⟨u, hp, hb, hF⟩, hce, hcv, hcl, st⟩
  · cases hv
    obtain ⟨k1, k2, k3⟩ := vx_keep h0 e1 hS hA hf hL hF
    obtain ⟨t2, a1, b1⟩ := kk u t T'.heap (locs ++ L) e1.symm (by rw [← e2]; exact X'.warmed.alike) hp hb k1 k2 k3 T' rfl X'
    exact ⟨t2, st t2 a1, b1⟩
  · obtain ⟨k1, k2, k3⟩ := vx_keep h0 e1 hS hAX hf hL hF
    obtain ⟨t2, a1, b1⟩ := kx E ce q u t T'.heap (locs ++ L) e1.symm (by rw [← e2]; exact X'.warmed.alike) hp hb k1 k2 k3 (by rw [e1]; exact hce) hcv hcl T' rfl X'
    exact ⟨t2, st.trans a1, b1⟩
/-- caught by the row x of this method's table; the rows ahead don't take it -/
theorem vx_catch {own name : String} {E : String} {ce : Cell} {q : Addr} (hown : s.vm.findClass own = some m.cls) (pre : List ExceptionTableEntry) (x : ExceptionTableEntry) (suf : List ExceptionTableEntry) (hsplit : c.exceptionTable.toList = pre ++ x :: suf)
    (hpass : ∀ z ∈ pre, covers z pc = false ∨ (z.catchType ≠ 0 ∧ ∃ nm : String, (Cond.classLink own z.catchType nm).before args s = true ∧ va_Nc E nm s)) (hx : covers x pc = true) (h0 : x.catchType ≠ 0)
    (hlink : (Cond.classLink own x.catchType name).before args s = true) (hcast : (Cond.castable E name).before args s = true) (hcell : H[q]? = some ce) (hv : ce.vm = .none) (hcl : s.vm.findClass E = some ce.cls)
    (kk : W p l e R s m args below meth c H locs cells slots Q (F0 m x.handlerPc ls [.ref q])) : vx_W p l e R s m args below meth c H locs cells slots Q (F0 m pc ls rest) q := by
  intro T hT X
  have hpl : e.platform.magicAccessors = ({} : Platform).magicAccessors := by rw [X.admits.platform]
  obtain ⟨c3, c4, hc3, hc4, hasg⟩ := Cond.castable_spec hcast
  cases Option.some.inj (hc3.symm.trans hcl)
  obtain ⟨c5, hc5, hcl5⟩ := Cond.classLink_spec hown hlink e.platform hpl
  cases Option.some.inj (hc4.symm.trans hc5)
  obtain ⟨vm', X', st⟩ := X.thenCaughtThrough q (g := F0 m pc ls rest) rfl (Steps.refl _) (by rw [hT]; exact hcell) (by rw [hv]; rfl) (by obtain ⟨k9, h9, -⟩ := Vm.findClass_spec hcl; exact ⟨k9, h9⟩) pre x suf hsplit
    (fun z hz => by
      rcases hpass z hz with h | ⟨hz0, nm, hl1, hn1⟩
      · exact Or.inl h
      · obtain ⟨c6, hc6, hcl6⟩ := Cond.classLink_spec hown hl1 e.platform hpl
        obtain ⟨a8, b8, h1, h2, h3⟩ := hn1
        cases Option.some.inj (h1.symm.trans hcl)
        cases Option.some.inj (h2.symm.trans hc6)
        exact Or.inr ⟨hz0, _, hcl6, h3⟩) hx (Or.inr ⟨h0, c4, hcl5, hasg⟩)
  obtain ⟨t, a1, b1⟩ := kk (T.setVm vm') hT X'
  exact ⟨t, st.trans a1, b1⟩
end Rows
section Ends
variable {p : Program} {l : Launch} {e : Env} {R : Room} {s : State} {m : MethodId} {args : Array Value} {below : List Frame} {meth : Method} {c : Code} {H : Heap} {locs : List Loc} {cells slots : Nat} {Q : State → Prop}
variable {mc ms : Nat} {free : Addr → Prop} {A0 A1 : Nat → Prop} {H0 : Heap} {a : Array Value} {ls : Array Slot} {st0 rest : List Value}
variable {Qc : Array Value → State → Outcome → State → Prop} {XC : String → State → State → Prop}
/-- what a body that may throw owes at its end -/
def vx_MQ (below : List Frame) (Qc : Array Value → State → Outcome → State → Prop) (XC : String → State → State → Prop) (a : Array Value) (s : State) (mc ms : Nat) (free : Addr → Prop) : State → Prop := fun t =>
  ∃ o, t.status = .running ∧ Ended t below o ∧ vx_Q Qc XC mc ms free a s o t
theorem vx_ret {g : JFrame} {mc ms : Nat} (k : W p l e R s m args below meth c H locs cells slots (MQ below Qc args s mc ms free) g) : W p l e R s m args below meth c H locs cells slots (vx_MQ below Qc XC args s mc ms free) g := by
  intro T hT X
  obtain ⟨t, a1, o, b1, b2, b3, b4⟩ := k T hT X
  exact ⟨t, a1, o, b1, b2, Or.inl ⟨b3, b4⟩⟩
/-- not caught here: it goes on to the caller -/
theorem vx_widen {g : JFrame} {q : Addr} {k n : Nat} (h1 : cells ≤ k) (h2 : slots ≤ n) (kk : vx_W p l e R s m args below meth c H locs k n Q g q) : vx_W p l e R s m args below meth c H locs cells slots Q g q := fun T hT X => kk T hT (stand_widen X h1 h2)
theorem vx_out {pc : Nat} {E : String} {ce : Cell} {q : Addr} {mc ms : Nat} (hout : ∀ x ∈ c.exceptionTable.toList, covers x pc = false) (hlocks : meth.locks = false) (hcell : H[q]? = some ce) (hv : ce.vm = .none) (hcl : s.vm.findClass E = some ce.cls)
    (hx : ∀ t : State, t.heap = H → s.vm.Alike t.vm → XC E s t) (hf : ∀ z ∈ locs, free z.base) (hc : cells ≤ mc) (hs : slots ≤ ms) :
    vx_W p l e R s m args below meth c H locs cells slots (vx_MQ below Qc XC args s mc ms free) (F0 m pc ls rest) q := by
  intro T hT X
  obtain ⟨st1, hrun, hend, hW, hsm⟩ := X.leaveThrown q (g := F0 m pc ls rest) rfl rfl rfl hout hlocks
  have hcell9 : (T.setFrames (.throwing q :: below)).heap[q]? = some ce := by
    show T.heap[q]? = some ce
    rw [hT]; exact hcell
  exact ⟨_, st1, .threw q, hrun, hend, Or.inr ⟨q, rfl, E, ce, locs, hx _ hT hW.alike, hcell9, hv, hcl, hW, hsm.mono hc hs, hf⟩⟩
theorem vx_frame {U : State} {k n : Nat} (h : s.sameButNew ({ U with vm := s.vm } : State) locs k n) : s.heap.size ≤ U.heap.size ∧ ∀ q : Nat, q < s.heap.size → (∀ z ∈ locs, z.base ≠ q) → U.heap[q]? = s.heap[q]? := by
  obtain ⟨-, h2, -, -, -, h6⟩ := h
  refine ⟨h2, fun q hq hz => ?_⟩
  obtain ⟨c9, e1, e2, e3, e4⟩ := h6 q _ (Array.getElem?_eq_getElem hq)
  have hs : c9.slots = (s.heap[q]).slots := Array.ext_getElem? fun i => e4 i fun hm => hz _ hm rfl
  have h9 : c9 = s.heap[q] := by
    rw [hs] at e2
    exact e2
  have e5 : U.heap[q]? = some c9 := e1
  rw [e5, h9, Array.getElem?_eq_getElem hq]
/-- the words of a throw but the four that speak of the heap -/
def vx_no (w : Cond) : Bool := decide (w ≠ .isRef (.static Bundle.tN "UNASSIGNED_STACK" Bundle.steD)) && decide (w ≠ .isRef (.static Bundle.tN "SUPPRESSED_SENTINEL" Bundle.listD)) && decide (w ≠ .laysStatic Bundle.tN "UNASSIGNED_STACK" Bundle.steD) && decide (w ≠ .laysStatic Bundle.tN "SUPPRESSED_SENTINEL" Bundle.listD)
def vx_at0 (own : String) (ic : Nat) (X : String) (names : List String) : List Cond := (Bundle.ownAtoms0 own ic X names).filter vx_no
def vx_atS (own : String) (ic : Nat) (X : String) (names : List String) : List Cond := (Bundle.ownAtoms own ic X names).filter vx_no
/-- a word that the tables alone decide, or a good one -/
def vx_ot (w : Cond) : Bool := w.onTables || goodWord w
theorem vx_ot_at {args a' : Array Value} {s U : State} {w : Cond} (hW : s.WarmedH U.vm) (hvm : s.vm = U.vm) (hg : vx_ot w = true) (h : w.before args s = true) : w.before a' U = true := by
  simp only [vx_ot, Bool.or_eq_true] at hg
  rcases hg with hg | hg
  · exact va_tabs hg hvm h
  · exact word_at hW (good_of_word hg) h
/-- a list's words: the good ones out of the method's own list, the others by premises of their own -/
theorem vx_hat {args : Array Value} {s : State} {L B : List Cond} (h1 : ∀ w ∈ L.filter goodWord, w.before args s = true) (h2 : ∀ w ∈ L.filter (fun w => !goodWord w), w ∈ B) (h3 : ∀ w ∈ B, w.before args s = true) : ∀ w ∈ L, w.before args s = true := by
  intro w hw
  by_cases g : goodWord w = true
  · exact h1 w (List.mem_filter.mpr ⟨hw, g⟩)
  · refine h3 w (h2 w (List.mem_filter.mpr ⟨hw, ?_⟩))
    show (!goodWord w) = true
    cases hgw : goodWord w
    · rfl
    · exact absurd hgw g
theorem vx_c {args : Array Value} {s : State} {w : Cond} {B : List Cond} (h : w.before args s = true) (t : ∀ w ∈ B, w.before args s = true) : ∀ w' ∈ w :: B, w'.before args s = true := fun w' h' => (List.mem_cons.mp h').elim (fun e => by rw [e]; exact h) (t w')
theorem vx_n {args : Array Value} {s : State} : ∀ w ∈ ([] : List Cond), w.before args s = true := fun _ h => nomatch h
theorem vx_own {args : Array Value} {s : State} {L : List Cond} (h1 : ∀ w ∈ L.filter vx_no, w.before args s = true)
    (hU : (Cond.isRef (.static Bundle.tN "UNASSIGNED_STACK" Bundle.steD)).before args s = true) (hN : (Cond.isRef (.static Bundle.tN "SUPPRESSED_SENTINEL" Bundle.listD)).before args s = true)
    (lU : (Cond.laysStatic Bundle.tN "UNASSIGNED_STACK" Bundle.steD).before args s = true) (lN : (Cond.laysStatic Bundle.tN "SUPPRESSED_SENTINEL" Bundle.listD).before args s = true) : ∀ w ∈ L, w.before args s = true := by
  intro w hw
  by_cases e1 : w = .isRef (.static Bundle.tN "UNASSIGNED_STACK" Bundle.steD)
  · rw [e1]; exact hU
  · by_cases e2 : w = .isRef (.static Bundle.tN "SUPPRESSED_SENTINEL" Bundle.listD)
    · rw [e2]; exact hN
    · by_cases e3 : w = .laysStatic Bundle.tN "UNASSIGNED_STACK" Bundle.steD
      · rw [e3]; exact lU
      · by_cases e4 : w = .laysStatic Bundle.tN "SUPPRESSED_SENTINEL" Bundle.listD
        · rw [e4]; exact lN
        · exact h1 w (List.mem_filter.mpr ⟨hw, by unfold vx_no; rw [decide_eq_true e1, decide_eq_true e2, decide_eq_true e3, decide_eq_true e4]; rfl⟩)
/-- where a static field lies, its class's statics cell in H -/
def vx_L (C n d : String) (A : Nat → Prop) (U : State) (H : Heap) : Prop := ∃ (c : ClassId) (k : Class) (i : Nat) (f : Field) (a : Nat) (cell : Cell), U.vm.findClass C = some c ∧ U.fieldFound? C n d = some (c, k, i, f) ∧ f.isStatic = true ∧ k.statics = some a ∧ H[a]? = some cell ∧ cell.vm.isStatics = true ∧ cell.cls = c ∧ f.slot < cell.slots.size ∧ k.staticTypes[f.slot]? = some f.type ∧ ¬ A a
theorem vx_L.moved {C n d : String} {A : Nat → Prop} {u U : State} {H : Heap} (hvm : u.vm.Alike U.vm) (h : vx_L C n d A u H) : vx_L C n d A U H := by
  obtain ⟨c, k, i, f, a, cell, h1, h2, h3, h4, h5, h6, h7, h8, h9, h10⟩ := h
  obtain ⟨k', hi', he⟩ := State.fieldFound?_setVm hvm h2
  exact ⟨c, k', i, f, a, cell, by rw [hvm.findClass]; exact h1, hi', h3, by rw [he]; exact h4, h5, h6, h7, h8, by rw [he]; exact h9, h10⟩
theorem vx_L.kept {C n d : String} {A : Nat → Prop} {U : State} {H H1 : Heap} (h : vx_L C n d A U H) (hq : ∀ a : Nat, a < H.size → ¬ A a → H1[a]? = H[a]?) : vx_L C n d A U H1 := by
  obtain ⟨c, k, i, f, a, cell, h1, h2, h3, h4, h5, h6, h7, h8, h9, h10⟩ := h
  exact ⟨c, k, i, f, a, cell, h1, h2, h3, h4, by rw [hq a (Array.getElem?_eq_some_iff.mp h5).1 h10]; exact h5, h6, h7, h8, h9, h10⟩
theorem vx_L.narrow {C n d : String} {A B : Nat → Prop} {U : State} {H : Heap} (h : vx_L C n d A U H) (hAB : ∀ q, B q → A q) : vx_L C n d B U H := by
  obtain ⟨c, k, i, f, a, cell, h1, h2, h3, h4, h5, h6, h7, h8, h9, h10⟩ := h
  exact ⟨c, k, i, f, a, cell, h1, h2, h3, h4, h5, h6, h7, h8, h9, fun z => h10 (hAB _ z)⟩
theorem vx_L.word {C n d : String} {A : Nat → Prop} {s : State} {args : Array Value} (h : vx_L C n d A s s.heap) : (Cond.laysStatic C n d).before args s = true := by
  obtain ⟨c, k, i, f, a, cell, h1, h2, h3, h4, h5, h6, h7, h8, h9, -⟩ := h
  show (Cond.laysStatic C n d).holds args s none s [] = true
  exact Cond.laysStatic_of h1 h2 h3 h4 h5 h6 h7 h8 h9
/-- .. and what it holds: null or some reference -/
def vx_Zq (C n d : String) (A : Nat → Prop) (U : State) (H : Heap) : Prop := va_Zq C n d A U H ∧ vx_L C n d A U H
theorem vx_Zq.moved {C n d : String} {A : Nat → Prop} {u U : State} {H : Heap} (hvm : u.vm.Alike U.vm) (h : vx_Zq C n d A u H) : vx_Zq C n d A U H := ⟨va_Zq.moved hvm h.1, vx_L.moved hvm h.2⟩
theorem vx_Zq.kept {C n d : String} {A : Nat → Prop} {U : State} {H H1 : Heap} (h : vx_Zq C n d A U H) (hq : ∀ a : Nat, a < H.size → ¬ A a → H1[a]? = H[a]?) : vx_Zq C n d A U H1 := ⟨va_Zq.kept h.1 hq, vx_L.kept h.2 hq⟩
theorem vx_Zq.narrow {C n d : String} {A B : Nat → Prop} {U : State} {H : Heap} (h : vx_Zq C n d A U H) (hAB : ∀ q, B q → A q) : vx_Zq C n d B U H := ⟨va_Zq.narrow h.1 hAB, vx_L.narrow h.2 hAB⟩
theorem vx_Zqof {args : Array Value} {s : State} {C n d : String} {A : Nat → Prop} (hl : (Cond.laysStatic C n d).before args s = true) (hini : (Cond.initialized C).before args s = true) (h : (Cond.isRef (.static C n d)).before args s = true) (hA : ∀ a : Nat, a < s.heap.size → ¬ A a) : vx_Zq C n d A s s.heap := by
  refine ⟨va_Zqof hl hini h hA, ?_⟩
  obtain ⟨c, k, i, f, a, cell, h1, h2, h3, h4, h5, h6, h7, h8, h9⟩ := Cond.laysStatic_spec hl
  exact ⟨c, k, i, f, a, cell, h1, h2, h3, h4, h5, h6, h7, h8, h9, hA a (Array.getElem?_eq_some_iff.mp h5).1⟩
theorem vx_isRef {C n d : String} {v : Value} {A : Nat → Prop} {s : State} {args : Array Value} (h : va_Z C n d v A s s.heap) (hv : v.isRef = true) : (Cond.isRef (.static C n d)).before args s = true := by
  obtain ⟨cf, kf, fi, f, a, cell, h1, h2, h3, h4, h5, h6, h7, -⟩ := h
  have he : (Term.static C n d).eval args s none [] s = some v := by
    simp [Term.eval, State.fieldNamed?, h1, h2, h4, h5, h6, h7]
  simp only [Cond.before, Cond.holds, Cond.value, he]
  cases v <;> simp_all [Value.isRef]
theorem vx_isRefq {C n d : String} {A : Nat → Prop} {s : State} {args : Array Value} (h : va_Zq C n d A s s.heap) : (Cond.isRef (.static C n d)).before args s = true := by
  rcases h with h | ⟨t, h⟩
  · exact vx_isRef h rfl
  · exact vx_isRef h rfl
/-- the same frame, seen from here: as if the method were called anew in this heap -/
theorem vx_rebase {T : State} (X : Stand p l e R s m args below meth c T locs cells slots) {R' : Room} (hf : R'.frames ≤ R.frames) (hl : R'.locals ≤ R.locals) (hc : cells + R'.cells ≤ R.cells) (hs : slots + R'.slots ≤ R.slots) :
    Stand p l e R' ((T.setVm s.vm).setFrames (.invoking m args :: below)) m args below meth c T [] 0 0 := by
  have htop : (T.setVm s.vm).topJava?.isSome := X.here.top
  have hF : ((T.setVm s.vm).setFrames (.invoking m args :: below)).frames = .invoking m args :: below := State.frames_setFrames _ (State.cur_lt_of_top htop)
  obtain ⟨g₀, hg0⟩ := Option.isSome_iff_exists.mp htop
  obtain ⟨r, hr⟩ := State.topJava?_eq_some.mp hg0
  have hl9 : e.platform.stackLimits (T.setVm s.vm).me = e.platform.stackLimits s.me := X.limits
  have hb9 : (T.setVm s.vm).me.stackBytes = s.me.stackBytes := X.bytes
  refine ⟨X.admits, X.cas, X.clock, hF, ?_, X.hears, X.method, X.code, X.here, X.tail, X.warmed, ?_, ?_, ?_⟩
  · have h := X.room
    have hU : ((T.setVm s.vm).setFrames (.invoking m args :: below)).localsInUse = s.localsInUse := by
      rw [State.localsInUse_invoking hF (meth := meth) (c := c) X.method X.code, State.localsInUse_invoking X.frames X.method X.code]
    simp only [State.hasRoom, Bool.and_eq_true, decide_eq_true_eq] at h ⊢
    obtain ⟨⟨⟨⟨h1, h2, h3, h4, h5, h6⟩, h7⟩, h8⟩, h9⟩ := h
    rw [X.frames, List.length_cons] at h2 h3
    have q1 := X.heapSize
    have q2 := X.used
    simp only [hF, hU, List.length_cons, State.stackLimits_setFrames, State.stackBytes_setFrames, hl9, hb9]
    refine ⟨⟨⟨⟨by omega, by omega, by omega, by omega, by omega, h6⟩, ?_⟩, ?_⟩, X.book⟩
    · show T.heap.size + R'.cells ≤ e.platform.maxCells
      omega
    · show T.slotsUsed + R'.slots ≤ e.platform.maxSlots
      omega
  · rw [State.stackLimits_setFrames]; rfl
  · rw [State.stackBytes_setFrames]; rfl
  · refine ⟨?_, Nat.le_refl _, Nat.le_refl _, ?_, ?_, fun a c9 h9 => ⟨c9, h9, rfl, rfl, fun _ _ => rfl⟩⟩
    · obtain ⟨t, ht, -⟩ := State.frames_cons hr
      show T.setVm s.vm = { ((T.setVm s.vm).setFrames (.invoking m args :: below)).setFrames (T.setVm s.vm).frames with heap := T.heap, slotsUsed := T.slotsUsed }
      rw [State.setFrames_setFrames, State.setFrames_self ht]
      rfl
    · show T.slotsUsed = T.slotsUsed + ((T.heap.toList.drop T.heap.size).map (·.slots.size)).sum
      rw [List.drop_eq_nil_of_le (Nat.le_of_eq Array.length_toList)]
      rfl
    · show ((T.heap.toList.drop T.heap.size).map (·.slots.size)).sum ≤ 0
      rw [List.drop_eq_nil_of_le (Nat.le_of_eq Array.length_toList)]
      exact Nat.le_refl _
/-- 'throw new E()': new; dup; invokespecial; athrow -/
theorem vx_throw0 {cc : ByteArray} {pc : Nat} (hexec : p.tables.exec = Jvm.exec) (hb : c.code = cc) (hl : l.stackTraces = false) {own cls : String} {names : List String} {ik ic mc ms : Nat} {A : Nat → Prop}
    (hown : s.vm.findClass own = some m.cls) (hcls : Bundle.fit cls = true) (hnames : ∀ n ∈ names, Bundle.fit n = true)
    (hk : (Cond.classLink own ik cls).before args s = true) (hini : (Cond.initialized cls).before args s = true) (hat : ∀ w ∈ vx_at0 own ic cls names, w.before args s = true)
    (hgood : ∀ w ∈ Cond.classLink own ik cls :: Cond.initialized cls :: vx_at0 own ic cls names, vx_ot w = true)
    (hU : vx_Zq Bundle.tN "UNASSIGNED_STACK" Bundle.steD A s s.heap) (hN : vx_Zq Bundle.tN "SUPPRESSED_SENTINEL" Bundle.listD A s s.heap) (hS : va_S A s.heap H locs) (hsize : ls.size = c.maxLocals)
    (d0 : decode cc pc = .ok (.new ik, 3)) (d3 : decode cc (pc + 3) = .ok (.dup, 1)) (d4 : decode cc (pc + 4) = .ok (.invokespecial ic, 3)) (d7 : decode cc (pc + 7) = .ok (.athrow, 1))
    (hout : ∀ x ∈ c.exceptionTable.toList, covers x (pc + 7) = false)
    (hRframes : names.length + 3 < R.frames) (hRlocals : (rest.map fun v => v.category).sum + (13 * (names.length + 1) + 42) ≤ R.locals) (hRcells : cells + 1 ≤ R.cells) (hRslots : slots + 6 ≤ R.slots) (hlocks : meth.locks = false)
    (hx : ∀ t : State, s.vm.Alike t.vm → H.size ≤ t.heap.size → (∀ q : Nat, q < H.size → t.heap[q]? = H[q]?) → XC cls s t)
    (hf : ∀ z ∈ locs, free z.base) (hc : cells + 1 ≤ mc) (hs : slots + 6 ≤ ms) :
    W p l e R s m args below meth c H locs cells slots (vx_MQ below Qc XC args s mc ms free) (F0 m pc ls rest) := by
  intro T hT X
  have htr : e.platform.stackTraces = false := (show e.platform.stackTraces = l.stackTraces by rw [X.admits.platform]).trans hl
  have Y := vx_rebase X (R' := { frames := R.frames, locals := R.locals, cells := 1, slots := 6 }) (Nat.le_refl _) (Nat.le_refl _) hRcells hRslots
  obtain ⟨s', hA⟩ : ∃ z, z = (T.setVm s.vm).setFrames (.invoking m args :: below) := ⟨_, rfl⟩
  rw [← hA] at Y
  have hvm : s'.vm = s.vm := by rw [hA]; rfl
  have hhp : s'.heap = H := by rw [hA]; exact hT
  have hW0 : s.WarmedH s'.vm := by rw [hvm]; exact State.WarmedH.refl s
  have hat' : ∀ w ∈ vx_at0 own ic cls names, w.before args s' = true := fun w hw => vx_ot_at hW0 hvm.symm (hgood w (List.mem_cons_of_mem _ (List.mem_cons_of_mem _ hw))) (hat w hw)
  have hk' : (Cond.classLink own ik cls).before args s' = true := vx_ot_at hW0 hvm.symm (hgood _ List.mem_cons_self) hk
  have hini' : (Cond.initialized cls).before args s' = true := vx_ot_at hW0 hvm.symm (hgood _ (List.mem_cons_of_mem _ List.mem_cons_self)) hini
  have hU' : vx_Zq Bundle.tN "UNASSIGNED_STACK" Bundle.steD A s' s'.heap := by rw [hhp]; exact vx_Zq.moved hW0.alike (hU.kept hS.2.1)
  have hN' : vx_Zq Bundle.tN "SUPPRESSED_SENTINEL" Bundle.listD A s' s'.heap := by rw [hhp]; exact vx_Zq.moved hW0.alike (hN.kept hS.2.1)
  have h : ∀ w ∈ Bundle.ownAtoms0 own ic cls names, w.before args s' = true := vx_own hat' (vx_isRefq hU'.1) (vx_isRefq hN'.1) hU'.2.word hN'.2.word
  have hown' : s'.vm.findClass own = some m.cls := by rw [hvm]; exact hown
  have hins : (Cond.instantiable cls 6).before args s' = true := h _ (by simp [Bundle.ownAtoms0])
  obtain ⟨vm₁, cX, kX, hfX, hkX, -, -, X₁, st1⟩ := Y.newCold hexec (own := own) (C := cls) (index := ik) (n := 6) hown' hk' hins hini'
    (g := F0 m pc ls rest) rfl (by rw [hb]; exact d0) (Nat.le_refl _) (Nat.le_refl _)
  generalize hT1 : (T.setVm vm₁).pushCell { cls := cX, slots := kX.instanceTypes.map defaultValue, vm := .none } = T1 at X₁ st1
  have hcat : (Value.ref T.heap.size).category = 1 := rfl
  have hcellA : T1.heap[T.heap.size]? = some (freshCell cX kX) := by rw [← hT1]; exact State.heap_pushCell_size _ _
  have d3' : decode c.code (pc + 3) = .ok (.dup, 1) := by rw [hb]; exact d3
  obtain ⟨U, hsteps, hrun, hend, hW, hsame, ce, hce, hO⟩ := X₁.ctorThrow0 hexec htr (own := own) (cls := cls) (names := names) (ic := ic) hown' hcls hnames h (fun x hx => nomatch hx) hfX hkX hcellA (by rw [hhp, hT]; exact Nat.le_refl _)
    (g := { method := m, pc := pc + 4, locals := ls, stack := .ref T.heap.size :: .ref T.heap.size :: rest, locked := none }) rfl hsize rfl rfl (rest := rest) rfl
    (by rw [hb]; exact d4) (by rw [hb]; exact d7) hout hRframes (by simp only [List.map_cons, List.sum_cons, hcat]; omega) hlocks
  obtain ⟨f1, f2⟩ := vx_frame hsame
  rw [hhp] at f1 f2
  have hWs : s.WarmedH U.vm := State.WarmedH.trans hW0 hW
  have hcl : s.vm.findClass cls = some ce.cls := by
    have h9 := hO.cls
    rw [hvm] at h9
    exact h9
  have hall : s.sameButNew ({ U with vm := s.vm } : State) locs mc ms := by
    subst hA
    obtain ⟨e1, e2⟩ := hsame
    rw [State.setFrames_setFrames] at e1
    have h2 : (T.setVm s.vm).sameButNew ({ U with vm := s.vm } : State) [] (0 + 1) (0 + 6) := ⟨e1, e2⟩
    have h3 := X.same.trans h2
    rw [List.append_nil] at h3
    exact h3.mono hc hs
  refine ⟨U, ?_, .threw T.heap.size, hrun, hend, Or.inr ⟨T.heap.size, rfl, cls, ce, locs, hx U hWs.alike f1 (fun q hq => f2 q hq (fun z hz => nomatch hz)), hce, hO.vm, hcl, hWs, hall, hf⟩⟩
  refine st1 _ ?_
  show Steps p.tables e below (T1.setTop { method := m, pc := pc + 3, locals := ls, stack := .ref T.heap.size :: rest, locked := none }) _
  jvm_step X₁.here [X₁.here.top, hexec, d3', Value.category]
  exact hsteps
/-- 'throw new E("text")': new; dup; ldc; invokespecial; athrow -/
theorem vx_throwS {cc : ByteArray} {pc : Nat} (hexec : p.tables.exec = Jvm.exec) (hb : c.code = cc) (hl : l.stackTraces = false) {own cls text : String} {names : List String} {ik is ic mc ms sa : Nat} {A : Nat → Prop}
    (hown : s.vm.findClass own = some m.cls) (hcls : Bundle.fit cls = true) (hnames : ∀ n ∈ names, Bundle.fit n = true)
    (hk : (Cond.classLink own ik cls).before args s = true) (hini : (Cond.initialized cls).before args s = true) (hstr : vk_R own is text sa s) (hat : ∀ w ∈ vx_atS own ic cls names, w.before args s = true)
    (hgood : ∀ w ∈ Cond.classLink own ik cls :: Cond.initialized cls :: vx_atS own ic cls names, vx_ot w = true)
    (hU : vx_Zq Bundle.tN "UNASSIGNED_STACK" Bundle.steD A s s.heap) (hN : vx_Zq Bundle.tN "SUPPRESSED_SENTINEL" Bundle.listD A s s.heap) (hS : va_S A s.heap H locs) (hsize : ls.size = c.maxLocals)
    (d0 : decode cc pc = .ok (.new ik, 3)) (d3 : decode cc (pc + 3) = .ok (.dup, 1)) (d4 : decode cc (pc + 4) = .ok (.ldc is, 2)) (d6 : decode cc (pc + 6) = .ok (.invokespecial ic, 3)) (d9 : decode cc (pc + 9) = .ok (.athrow, 1))
    (hout : ∀ x ∈ c.exceptionTable.toList, covers x (pc + 9) = false)
    (hRframes : names.length + 3 < R.frames) (hRlocals : (rest.map fun v => v.category).sum + (13 * (names.length + 1) + 43) ≤ R.locals) (hRcells : cells + 1 ≤ R.cells) (hRslots : slots + 6 ≤ R.slots) (hlocks : meth.locks = false)
    (hx : ∀ t : State, s.vm.Alike t.vm → H.size ≤ t.heap.size → (∀ q : Nat, q < H.size → t.heap[q]? = H[q]?) → XC cls s t)
    (hf : ∀ z ∈ locs, free z.base) (hc : cells + 1 ≤ mc) (hs : slots + 6 ≤ ms) :
    W p l e R s m args below meth c H locs cells slots (vx_MQ below Qc XC args s mc ms free) (F0 m pc ls rest) := by
  intro T hT X
  have htr : e.platform.stackTraces = false := (show e.platform.stackTraces = l.stackTraces by rw [X.admits.platform]).trans hl
  have Y := vx_rebase X (R' := { frames := R.frames, locals := R.locals, cells := 1, slots := 6 }) (Nat.le_refl _) (Nat.le_refl _) hRcells hRslots
  obtain ⟨s', hA⟩ : ∃ z, z = (T.setVm s.vm).setFrames (.invoking m args :: below) := ⟨_, rfl⟩
  rw [← hA] at Y
  have hvm : s'.vm = s.vm := by rw [hA]; rfl
  have hhp : s'.heap = H := by rw [hA]; exact hT
  have hW0 : s.WarmedH s'.vm := by rw [hvm]; exact State.WarmedH.refl s
  have hat' : ∀ w ∈ vx_atS own ic cls names, w.before args s' = true := fun w hw => vx_ot_at hW0 hvm.symm (hgood w (List.mem_cons_of_mem _ (List.mem_cons_of_mem _ hw))) (hat w hw)
  have hk' : (Cond.classLink own ik cls).before args s' = true := vx_ot_at hW0 hvm.symm (hgood _ List.mem_cons_self) hk
  have hini' : (Cond.initialized cls).before args s' = true := vx_ot_at hW0 hvm.symm (hgood _ (List.mem_cons_of_mem _ List.mem_cons_self)) hini
  have hU' : vx_Zq Bundle.tN "UNASSIGNED_STACK" Bundle.steD A s' s'.heap := by rw [hhp]; exact vx_Zq.moved hW0.alike (hU.kept hS.2.1)
  have hN' : vx_Zq Bundle.tN "SUPPRESSED_SENTINEL" Bundle.listD A s' s'.heap := by rw [hhp]; exact vx_Zq.moved hW0.alike (hN.kept hS.2.1)
  have h : ∀ w ∈ Bundle.ownAtoms own ic cls names, w.before args s' = true := vx_own hat' (vx_isRefq hU'.1) (vx_isRefq hN'.1) hU'.2.word hN'.2.word
  have hown' : s'.vm.findClass own = some m.cls := by rw [hvm]; exact hown
  have hins : (Cond.instantiable cls 6).before args s' = true := h _ (by simp [Bundle.ownAtoms])
  obtain ⟨vm₁, cX, kX, hfX, hkX, -, -, X₁, st1⟩ := Y.newCold hexec (own := own) (C := cls) (index := ik) (n := 6) hown' hk' hins hini'
    (g := F0 m pc ls rest) rfl (by rw [hb]; exact d0) (Nat.le_refl _) (Nat.le_refl _)
  generalize hT1 : (T.setVm vm₁).pushCell { cls := cX, slots := kX.instanceTypes.map defaultValue, vm := .none } = T1 at X₁ st1
  have hcat : (Value.ref T.heap.size).category = 1 := rfl
  have hcellA : T1.heap[T.heap.size]? = some (freshCell cX kX) := by rw [← hT1]; exact State.heap_pushCell_size _ _
  have d3' : decode c.code (pc + 3) = .ok (.dup, 1) := by rw [hb]; exact d3
  have d4' : decode c.code (pc + 4) = .ok (.ldc is, 2) := by rw [hb]; exact d4
  have hstr' : vk_R own is text sa s' := vk_R.warm hW0 hstr
  obtain ⟨U, hsteps, hrun, hend, hW, hsame, ce, hce, hO⟩ := X₁.ctorThrowS hexec htr (own := own) (cls := cls) (names := names) (ic := ic) hown' hcls hnames h (fun x hx => nomatch hx) hfX hkX hcellA (by rw [hhp, hT]; exact Nat.le_refl _) (msg := .ref sa) rfl
    (g := { method := m, pc := pc + 6, locals := ls, stack := .ref sa :: .ref T.heap.size :: .ref T.heap.size :: rest, locked := none }) rfl hsize rfl rfl (rest := rest) rfl
    (by rw [hb]; exact d6) (by rw [hb]; exact d9) hout hRframes (by simp only [List.map_cons, List.sum_cons, hcat]; omega) hlocks
  obtain ⟨f1, f2⟩ := vx_frame hsame
  rw [hhp] at f1 f2
  have hWs : s.WarmedH U.vm := State.WarmedH.trans hW0 hW
  have hcl : s.vm.findClass cls = some ce.cls := by
    have h9 := hO.cls
    rw [hvm] at h9
    exact h9
  have hall : s.sameButNew ({ U with vm := s.vm } : State) locs mc ms := by
    subst hA
    obtain ⟨e1, e2⟩ := hsame
    rw [State.setFrames_setFrames] at e1
    have h2 : (T.setVm s.vm).sameButNew ({ U with vm := s.vm } : State) [] (0 + 1) (0 + 6) := ⟨e1, e2⟩
    have h3 := X.same.trans h2
    rw [List.append_nil] at h3
    exact h3.mono hc hs
  refine ⟨U, ?_, .threw T.heap.size, hrun, hend, Or.inr ⟨T.heap.size, rfl, cls, ce, locs, hx U hWs.alike f1 (fun q hq => f2 q hq (fun z hz => nomatch hz)), hce, hO.vm, hcl, hWs, hall, hf⟩⟩
  refine st1 _ ?_
  show Steps p.tables e below (T1.setTop { method := m, pc := pc + 3, locals := ls, stack := .ref T.heap.size :: rest, locked := none }) _
  jvm_step X₁.here [X₁.here.top, hexec, d3', Value.category]
  exact X₁.ldcString hexec (own := own) (text := text) (index := is) (a := sa) hown' hstr'.1 hstr'.2
    (g := { method := m, pc := pc + 4, locals := ls, stack := .ref T.heap.size :: .ref T.heap.size :: rest, locked := none }) rfl d4' _ hsteps
/-- 'throw new E("text")', the text by a wide index -/
theorem vx_throwSW {cc : ByteArray} {pc : Nat} (hexec : p.tables.exec = Jvm.exec) (hb : c.code = cc) (hl : l.stackTraces = false) {own cls text : String} {names : List String} {ik is ic mc ms sa : Nat} {A : Nat → Prop}
    (hown : s.vm.findClass own = some m.cls) (hcls : Bundle.fit cls = true) (hnames : ∀ n ∈ names, Bundle.fit n = true)
    (hk : (Cond.classLink own ik cls).before args s = true) (hini : (Cond.initialized cls).before args s = true) (hstr : vk_R own is text sa s) (hat : ∀ w ∈ vx_atS own ic cls names, w.before args s = true)
    (hgood : ∀ w ∈ Cond.classLink own ik cls :: Cond.initialized cls :: vx_atS own ic cls names, vx_ot w = true)
    (hU : vx_Zq Bundle.tN "UNASSIGNED_STACK" Bundle.steD A s s.heap) (hN : vx_Zq Bundle.tN "SUPPRESSED_SENTINEL" Bundle.listD A s s.heap) (hS : va_S A s.heap H locs) (hsize : ls.size = c.maxLocals)
    (d0 : decode cc pc = .ok (.new ik, 3)) (d3 : decode cc (pc + 3) = .ok (.dup, 1)) (d4 : decode cc (pc + 4) = .ok (.ldc_w is, 3)) (d7 : decode cc (pc + 7) = .ok (.invokespecial ic, 3)) (d10 : decode cc (pc + 10) = .ok (.athrow, 1))
    (hout : ∀ x ∈ c.exceptionTable.toList, covers x (pc + 10) = false)
    (hRframes : names.length + 3 < R.frames) (hRlocals : (rest.map fun v => v.category).sum + (13 * (names.length + 1) + 43) ≤ R.locals) (hRcells : cells + 1 ≤ R.cells) (hRslots : slots + 6 ≤ R.slots) (hlocks : meth.locks = false)
    (hx : ∀ t : State, s.vm.Alike t.vm → H.size ≤ t.heap.size → (∀ q : Nat, q < H.size → t.heap[q]? = H[q]?) → XC cls s t)
    (hf : ∀ z ∈ locs, free z.base) (hc : cells + 1 ≤ mc) (hs : slots + 6 ≤ ms) :
    W p l e R s m args below meth c H locs cells slots (vx_MQ below Qc XC args s mc ms free) (F0 m pc ls rest) := by
  intro T hT X
  have htr : e.platform.stackTraces = false := (show e.platform.stackTraces = l.stackTraces by rw [X.admits.platform]).trans hl
  have Y := vx_rebase X (R' := { frames := R.frames, locals := R.locals, cells := 1, slots := 6 }) (Nat.le_refl _) (Nat.le_refl _) hRcells hRslots
  obtain ⟨s', hA⟩ : ∃ z, z = (T.setVm s.vm).setFrames (.invoking m args :: below) := ⟨_, rfl⟩
  rw [← hA] at Y
  have hvm : s'.vm = s.vm := by rw [hA]; rfl
  have hhp : s'.heap = H := by rw [hA]; exact hT
  have hW0 : s.WarmedH s'.vm := by rw [hvm]; exact State.WarmedH.refl s
  have hat' : ∀ w ∈ vx_atS own ic cls names, w.before args s' = true := fun w hw => vx_ot_at hW0 hvm.symm (hgood w (List.mem_cons_of_mem _ (List.mem_cons_of_mem _ hw))) (hat w hw)
  have hk' : (Cond.classLink own ik cls).before args s' = true := vx_ot_at hW0 hvm.symm (hgood _ List.mem_cons_self) hk
  have hini' : (Cond.initialized cls).before args s' = true := vx_ot_at hW0 hvm.symm (hgood _ (List.mem_cons_of_mem _ List.mem_cons_self)) hini
  have hU' : vx_Zq Bundle.tN "UNASSIGNED_STACK" Bundle.steD A s' s'.heap := by rw [hhp]; exact vx_Zq.moved hW0.alike (hU.kept hS.2.1)
  have hN' : vx_Zq Bundle.tN "SUPPRESSED_SENTINEL" Bundle.listD A s' s'.heap := by rw [hhp]; exact vx_Zq.moved hW0.alike (hN.kept hS.2.1)
  have h : ∀ w ∈ Bundle.ownAtoms own ic cls names, w.before args s' = true := vx_own hat' (vx_isRefq hU'.1) (vx_isRefq hN'.1) hU'.2.word hN'.2.word
  have hown' : s'.vm.findClass own = some m.cls := by rw [hvm]; exact hown
  have hins : (Cond.instantiable cls 6).before args s' = true := h _ (by simp [Bundle.ownAtoms])
  obtain ⟨vm₁, cX, kX, hfX, hkX, -, -, X₁, st1⟩ := Y.newCold hexec (own := own) (C := cls) (index := ik) (n := 6) hown' hk' hins hini'
    (g := F0 m pc ls rest) rfl (by rw [hb]; exact d0) (Nat.le_refl _) (Nat.le_refl _)
  generalize hT1 : (T.setVm vm₁).pushCell { cls := cX, slots := kX.instanceTypes.map defaultValue, vm := .none } = T1 at X₁ st1
  have hcat : (Value.ref T.heap.size).category = 1 := rfl
  have hcellA : T1.heap[T.heap.size]? = some (freshCell cX kX) := by rw [← hT1]; exact State.heap_pushCell_size _ _
  have d3' : decode c.code (pc + 3) = .ok (.dup, 1) := by rw [hb]; exact d3
  have d4' : decode c.code (pc + 4) = .ok (.ldc_w is, 3) := by rw [hb]; exact d4
  have hstr' : vk_R own is text sa s' := vk_R.warm hW0 hstr
  obtain ⟨U, hsteps, hrun, hend, hW, hsame, ce, hce, hO⟩ := X₁.ctorThrowS hexec htr (own := own) (cls := cls) (names := names) (ic := ic) hown' hcls hnames h (fun x hx => nomatch hx) hfX hkX hcellA (by rw [hhp, hT]; exact Nat.le_refl _) (msg := .ref sa) rfl
    (g := { method := m, pc := pc + 7, locals := ls, stack := .ref sa :: .ref T.heap.size :: .ref T.heap.size :: rest, locked := none }) rfl hsize rfl rfl (rest := rest) rfl
    (by rw [hb]; exact d7) (by rw [hb]; exact d10) hout hRframes (by simp only [List.map_cons, List.sum_cons, hcat]; omega) hlocks
  obtain ⟨f1, f2⟩ := vx_frame hsame
  rw [hhp] at f1 f2
  have hWs : s.WarmedH U.vm := State.WarmedH.trans hW0 hW
  have hcl : s.vm.findClass cls = some ce.cls := by
    have h9 := hO.cls
    rw [hvm] at h9
    exact h9
  have hall : s.sameButNew ({ U with vm := s.vm } : State) locs mc ms := by
    subst hA
    obtain ⟨e1, e2⟩ := hsame
    rw [State.setFrames_setFrames] at e1
    have h2 : (T.setVm s.vm).sameButNew ({ U with vm := s.vm } : State) [] (0 + 1) (0 + 6) := ⟨e1, e2⟩
    have h3 := X.same.trans h2
    rw [List.append_nil] at h3
    exact h3.mono hc hs
  refine ⟨U, ?_, .threw T.heap.size, hrun, hend, Or.inr ⟨T.heap.size, rfl, cls, ce, locs, hx U hWs.alike f1 (fun q hq => f2 q hq (fun z hz => nomatch hz)), hce, hO.vm, hcl, hWs, hall, hf⟩⟩
  refine st1 _ ?_
  show Steps p.tables e below (T1.setTop { method := m, pc := pc + 3, locals := ls, stack := .ref T.heap.size :: rest, locked := none }) _
  jvm_step X₁.here [X₁.here.top, hexec, d3', Value.category]
  exact X₁.ldcStringW hexec (own := own) (text := text) (index := is) (a := sa) hown' hstr'.1 hstr'.2
    (g := { method := m, pc := pc + 4, locals := ls, stack := .ref T.heap.size :: .ref T.heap.size :: rest, locked := none }) rfl d4' _ hsteps
end Ends
section Bodies
variable {l : Launch}
theorem vx_ofW {y : MethodName} {ws ws' : List Cond} {rm : Room} {Pc : Array Value → State → Prop} {Qc : Array Value → State → Outcome → State → Prop} {XC : String → State → State → Prop} {mc ms : Nat} {free : Addr → Prop} {cc : ByteArray} {maxL : Nat} {ret : Option FieldType}
    (hy : plainName y.cls = true) (hw : ws = Cond.code y cc maxL ret :: ws')
    (body : ∀ p e s m args below meth c s₁, BodyLoose p l y (headSpec ws rm) cc maxL ret e s m args below meth c s₁ → c.maxLocals = maxL → (∀ x ∈ c.exceptionTable.toList, False) → Pc args s →
      W p l e (headSpec ws rm).room s m args below meth c s.heap [] 0 0 (vx_MQ below Qc XC args s mc ms free) (entryFrame m args maxL)) : vx_Met l y ws rm Pc Qc XC mc ms free := by
  refine MetFree.of_bodyS (code := cc) (maxLocals := maxL) (ret := ret) hy ?_ ?_
  · intro args s m h hn
    obtain ⟨meth, c, h1, h2, h3, h4, h5, h6, -, -⟩ := Cond.code_spec hn (atoms_spec (ws := ws) h _ (by rw [hw]; exact List.mem_cons_self))
    exact ⟨meth, c, h1, h2, h3, h4, h5, h6⟩
  · intro p e s m args below meth c s₁ B hml hP _
    have hh0 : s₁.heap = s.heap := by rw [B.state]; rfl
    have ht : ∀ x ∈ c.exceptionTable.toList, False := by
      obtain ⟨meth9, c9, h1, h2, -, -, -, -, h7, -⟩ := Cond.code_spec B.named (atoms_spec (ws := ws) B.pre _ (by rw [hw]; exact List.mem_cons_self))
      cases Option.some.inj (h1.symm.trans B.method)
      cases Option.some.inj (h2.symm.trans (Stand.of_body B).code)
      intro x hx
      rw [Array.isEmpty_iff.mp h7] at hx
      cases hx
    obtain ⟨t, a1, o, b1, b2, b3⟩ := body p e s m args below meth c s₁ B hml ht hP s₁ hh0 (Stand.of_body B)
    exact ⟨t, o, a1, b1, b2, b3⟩
/-- the table of a body with handlers -/
theorem vx_table {p : Program} {x y : MethodName} {S : Spec} {cc bytes : ByteArray} {maxL maxL' : Nat} {ret ret' : Option FieldType} {e : Env} {s s₁ : State} {m : MethodId} {args : Array Value} {below : List Frame} {meth : Method} {c : Code} {hh : List (Nat × Nat × Nat × Nat)}
    (B : BodyLoose p l y S cc maxL ret e s m args below meth c s₁) (h : (Cond.codeWith y bytes maxL' ret' hh).before args s = true) : c.exceptionTable.toList = tableOf hh := by
  obtain ⟨m9, meth9, c9, hn9, h1, h2, -, -, h6, -⟩ := Cond.codeWith_spec h
  cases Option.some.inj (hn9.symm.trans B.named)
  cases Option.some.inj (h1.symm.trans B.method)
  cases Option.some.inj (h2.symm.trans (Stand.of_body B).code)
  rw [← h6, table_eq]
end Bodies
end VXA
/-! ===== END ===== -/
/-! ===== BEGIN a static call of a method with an exception table ===== -/
section VXS
variable {p : Program} {l : Launch} {e : Env} {R : Room} {s : State} {m : MethodId} {args : Array Value} {below : List Frame} {meth : Method} {c : Code} {T : State} {H : Heap} {locs : List Loc} {cells slots : Nat}
abbrev vx_CSW (R : Room) (s : State) (args : Array Value) (own : String) (index : Nat) (y : MethodName) (bytes : ByteArray) (maxL : Nat) (ret : Option FieldType) (hh : List (Nat × Nat × Nat × Nat)) (ws : List Cond) (rm : Room) (mc ms n : Nat) : Prop :=
  (rm.cells = mc ∧ rm.slots = ms ∧ rm.frames + 1 ≤ R.frames ∧ 8 + (maxL + 11) + rm.locals ≤ R.locals ∧ (∀ w ∈ ws, ∀ (a' : Array Value) (U : State), s.WarmedH U.vm → w.before a' U = true) ∧ Cond.codeWith y bytes maxL ret hh ∈ ws) ∧
  (Cond.codeWith y bytes maxL ret hh).before args s = true ∧ (Cond.initialized y.cls).before args s = true ∧ (y.cls ≠ "java/lang/invoke/MethodHandle" ∧ y.cls ≠ "java/lang/invoke/VarHandle") ∧
  (∀ sig, parseMethodDescriptor y.desc = some sig → n = sig.parameters.length) ∧ (Cond.methodLink own index y).before args s = true ∧ (Cond.static y).before args s = true
theorem vx_cwSW {own : String} {index maxL mc ms : Nat} {y : MethodName} {bytes : ByteArray} {ret : Option FieldType} {hh : List (Nat × Nat × Nat × Nat)} {Ts ws ws' : List Cond} {rm : Room} (n : Nat) (ht : ∀ w ∈ Ts, w.before args s = true) (hT : GoodIn Ts (va_wsS own index y ws)) (hw : ws = Cond.codeWith y bytes maxL ret hh :: ws') (hrc : rm.cells = mc) (hrs : rm.slots = ms)
    (hd : y.cls ≠ "java/lang/invoke/MethodHandle" ∧ y.cls ≠ "java/lang/invoke/VarHandle" ∧ (parseMethodDescriptor y.desc).map (fun d => d.parameters.length) = some n) (hR : rm.frames + 1 ≤ R.frames ∧ 8 + (maxL + 11) + rm.locals ≤ R.locals) :
    vx_CSW R s args own index y bytes maxL ret hh ws rm mc ms n := by
  have ok : ∀ w ∈ va_wsS own index y ws, w.before args s = true := fun w h => ht w (hT w h).1
  have hG : GoodIn Ts ws := fun w h => hT w (by unfold va_wsS; exact List.mem_append_right _ h)
  have hc : Cond.codeWith y bytes maxL ret hh ∈ ws := by rw [hw]; exact List.mem_cons_self
  refine ⟨⟨hrc, hrs, hR.1, hR.2, pay_in ht hG, hc⟩, ht _ (hG _ hc).1, ok _ (by simp [va_wsS]), ⟨hd.1, hd.2.1⟩, fun sig h => ?_, ok _ (by simp [va_wsS]), ok _ (by simp [va_wsS])⟩
  have h2 := hd.2.2
  rw [h] at h2
  exact (Option.some.inj h2).symm
theorem vx_callSW (X : Stand p l e R s m args below meth c T locs cells slots) (hexec : p.tables.exec = Jvm.exec) {own : String} {index : Nat} {y : MethodName} {bytes : ByteArray} {maxL : Nat} {ret : Option FieldType} {hh : List (Nat × Nat × Nat × Nat)}
    (hown : s.vm.findClass own = some m.cls) (hlink : (Cond.methodLink own index y).before args s = true) (hstat : (Cond.static y).before args s = true) (hinit : (Cond.initialized y.cls).before args s = true)
    (hcode : (Cond.codeWith y bytes maxL ret hh).before args s = true) (hy : y.cls ≠ "java/lang/invoke/MethodHandle" ∧ y.cls ≠ "java/lang/invoke/VarHandle")
    {W9 : Nat} {Pre : Pt → Array Value → Prop} {Post : Pt → Array Value → Option Value → Pt → Prop} (hK : Back l R p e below s args y 3 W9 Pre Post)
    {g : JFrame} (hg : g.method = m) (hsize : g.locals.size = c.maxLocals) {argsL rest : List Value} (hlen : ∀ sig, parseMethodDescriptor y.desc = some sig → argsL.length = sig.parameters.length)
    (hstack : g.stack = argsL.reverse ++ rest) (hW : 2 * g.monitorRoom + (rest.map fun v => v.category).sum ≤ W9) (hdg : decode c.code g.pc = .ok (.invokestatic index, 3))
    (hpre : ∀ vm₁, s.WarmedH vm₁ → Pre ⟨T.setVm vm₁, locs, cells, slots⟩ argsL.toArray) :
    ∃ (v : Option Value) (vm₁ : Vm) (B : Pt), s.WarmedH vm₁ ∧ Stand p l e R s m args below meth c B.U B.locs B.cells B.slots ∧ Post ⟨T.setVm vm₁, locs, cells, slots⟩ argsL.toArray v B ∧
      ∀ target, Steps p.tables e below (B.U.setTop { g with pc := g.pc + 3, stack := v.toList ++ rest }) target → Steps p.tables e below (T.setTop g) target := by
  obtain ⟨mk, methM, cM, hnamed, hmethM, -, -, -, -, -, -, hsigM⟩ := Cond.codeWith_spec hcode
  have hstatic : methM.isStatic = true := Cond.static_spec hnamed hmethM hstat
  obtain ⟨kP, hkP, -⟩ := className_of_methodNamed hnamed
  have hinitP : kP.init = .initialized := Cond.initialized_spec (findClass_of_methodNamed hnamed) hkP hinit
  obtain ⟨vm₁, X₁, hstep₁⟩ := X.invokestatic hexec hown hlink hnamed hmethM hstatic hkP hinitP hy (g := g) hg (argsL := argsL) (rest := rest) (hlen _ hsigM) hstack hdg
  obtain ⟨v, B, X', hpost, hsteps⟩ := hK m meth c ⟨T.setVm vm₁, locs, cells, slots⟩ { g with stack := rest } (.invokestatic index) mk argsL.toArray X₁ hg hsize hdg hW (X₁.named hnamed) (hpre vm₁ X₁.warmed)
  exact ⟨v, vm₁, B, X₁.warmed, X', hpost, fun target h => hstep₁ _ fun acts => by rw [doInvoke_state]; exact hsteps.trans h⟩
theorem vx_runSW {y : MethodName} {bytes cc : ByteArray} {maxL nL mc ms n index : Nat} {ret : Option FieldType} {hh : List (Nat × Nat × Nat × Nat)} {ws : List Cond} {rm : Room} {Pc : Array Value → State → Prop} {Qc : Array Value → State → Outcome → State → Prop} {free : Addr → Prop} {Ts : List Cond} {own : String} {As rest : List Value} {g : JFrame}
    (S : CallFix p m c cc nL s args Ts own) (hM : Met l y ws rm Pc Qc mc ms free) (cw : vx_CSW R s args own index y bytes maxL ret hh ws rm mc ms n) (hp : PreS s H Pc As)
    (hg : g.method = m) (hn : As.length = n) (hsize : g.locals.size = nL) (hstack : g.stack = As.reverse ++ rest) (hW : 2 * g.monitorRoom + (rest.map fun v => v.category).sum ≤ 8) (hdg : decode cc g.pc = .ok (.invokestatic index, 3)) (hf : cells + mc ≤ R.cells ∧ slots + ms ≤ R.slots) :
    va_Run p l e R s m args below meth c H locs cells slots mc ms g rest (Qc As.toArray) (free) := by
  obtain ⟨⟨hrc, hrs, hfr, hlo, hws, hcw⟩, hcode, hini, hy, hlen, hl, hstt⟩ := cw
  have hK : Back l R p e below s args y 3 8 (PreOf R mc ms Pc) (PostOf Qc mc ms free) := va_backW (hh := hh) (bytes := bytes) (maxL := maxL) (ret := ret) hM hp.1 hrc hrs hfr hlo hws hcw (fun a' U hW => word_at hW (Or.inl (by first | rfl | simp [Cond.onTables, Cond.keeps, Cond.steady])) hini)
  obtain ⟨hx, hb, hml, ho, -⟩ := S
  intro T hT X
  obtain ⟨v, vm₁, ⟨U', l2, c2, s2⟩, hW₁, X', ⟨g', mk, t, L, e1, e2, hq, h1, hL, h2, h3⟩, st⟩ := vx_callSW X hx (hh := hh) (bytes := bytes) (maxL := maxL) (ret := ret) ho hl hstt hini hcode hy hK hg (hsize.trans hml.symm) (argsL := As) (rest := rest) (fun sig h => hn.trans (hlen sig h)) hstack hW (by rw [hb]; exact hdg)
    (fun vm₁ hW₁ => ⟨hf.1, hf.2, hp.2 (T.setVm vm₁) hT hW₁⟩)
  dsimp only [Pt.U, Pt.locs, Pt.cells, Pt.slots] at X' e1 e2 h1 h2 h3 st
  subst h1; subst h2; subst h3
  exact ⟨v, (T.setVm vm₁).calling g' mk As.toArray, t, U', L, hT, X', hL, e1, e2, hq, st⟩
/-- not caught here, past rows that name other classes: it goes on to the caller -/
theorem vx_outP {p : Program} {l : Launch} {e : Env} {R : Room} {s : State} {m : MethodId} {args : Array Value} {below : List Frame} {meth : Method} {c : Code} {H : Heap} {locs : List Loc} {cells slots : Nat} {free : Addr → Prop} {ls : Array Slot} {rest : List Value} {Qc : Array Value → State → Outcome → State → Prop} {XC : String → State → State → Prop}
    {pc : Nat} {own E : String} {ce : Cell} {q : Addr} {mc ms : Nat} (hown : s.vm.findClass own = some m.cls) (hlocks : meth.locks = false)
    (hpass : ∀ z ∈ c.exceptionTable.toList, covers z pc = false ∨ (z.catchType ≠ 0 ∧ ∃ nm : String, (Cond.classLink own z.catchType nm).before args s = true ∧ va_Nc E nm s)) (hcell : H[q]? = some ce) (hv : ce.vm = .none) (hcl : s.vm.findClass E = some ce.cls)
    (hx : ∀ t : State, t.heap = H → s.vm.Alike t.vm → XC E s t) (hf : ∀ z ∈ locs, free z.base) (hc : cells ≤ mc) (hs : slots ≤ ms) :
    vx_W p l e R s m args below meth c H locs cells slots (vx_MQ below Qc XC args s mc ms free) (F0 m pc ls rest) q := by
  intro T hT X
  have hpl : e.platform.magicAccessors = ({} : Platform).magicAccessors := by rw [X.admits.platform]
  obtain ⟨vm', hW', X', st⟩ := X.outThrough hlocks q (g := F0 m pc ls rest) rfl rfl rfl (cell := ce) (by rw [hT]; exact hcell) (by rw [hv]; rfl)
    (by obtain ⟨k9, h9, -⟩ := Vm.findClass_spec hcl; exact ⟨k9, h9⟩) (fun z hz => by
      rcases hpass z hz with h | ⟨hz0, nm, hl1, hn1⟩
      · exact Or.inl h
      · obtain ⟨c6, hc6, hcl6⟩ := Cond.classLink_spec hown hl1 e.platform hpl
        obtain ⟨a8, b8, h1, h2, h3⟩ := hn1
        cases Option.some.inj (h1.symm.trans hcl)
        cases Option.some.inj (h2.symm.trans hc6)
        exact Or.inr ⟨hz0, _, hcl6, h3⟩)
  obtain ⟨g₀, hfr⟩ := X'.frames_eq
  have hcell9 : ((T.setVm vm').setFrames (.throwing q :: below)).heap[q]? = some ce := by
    show T.heap[q]? = some ce
    rw [hT]; exact hcell
  have hend : Ended ((T.setVm vm').setFrames (.throwing q :: below)) below (.threw q) := State.frames_setFrames _ (State.cur_lt_of_frames hfr)
  refine ⟨(T.setVm vm').setFrames (.throwing q :: below), ?_, .threw q, X'.here.running, hend, Or.inr ⟨q, rfl, E, ce, locs, hx _ hT (X'.ends _).1.alike, hcell9, hv, hcl, (X'.ends _).1, (X'.ends _).2.mono hc hs, hf⟩⟩
  rw [X.pushThrowing_eq]
  exact st
/-- a thing of a world lies in the heap -/
theorem vx_lt {D : va_G} {cl : List vw_C} {ws : va_W} {H1 : Heap} (h : va_P D cl ws H1) {k : Nat} {q : Nat × va_E} (hk : ws[k]? = some q) : q.1 < H1.size := (h k q hk).lt
end VXS
/-! ===== END ===== -/
/-! ===== BEGIN methods with a table of their own: called by a name, returning or throwing ===== -/
section VXH
/-! vx_backW, vx_callVX, vx_callSX, vx_callVW, vx_runVW, vx_runVX, vx_runSX, vx_ofWH follow the same proofs as their sisters above (Free/Laws.lean, Shelf42/LK1.lean); vx_outP calls Shelf42/NT130.lean (outThrough). -/
section
variable {l : Launch} {R : Room} {p : Program} {e : Env} {below : List Frame} {s : State} {sargs : Array Value} {y : MethodName} {len W9 : Nat}
theorem vx_backW {ws : List Cond} {rm : Room} {Pc : Array Value → State → Prop} {Qc : Array Value → State → Outcome → State → Prop} {XC : String → State → State → Prop} {mc ms : Nat} {free : Addr → Prop} {bytes : ByteArray} {maxL : Nat} {ret : Option FieldType} {hh : List (Nat × Nat × Nat × Nat)}
    (hM : vx_Met l y ws rm Pc Qc XC mc ms free) (hblind : FrameBlind Pc) (hrc : rm.cells = mc) (hrs : rm.slots = ms)
    (hframes : rm.frames + 1 ≤ R.frames) (hlocals : W9 + (maxL + 11) + rm.locals ≤ R.locals)
    (hws : ∀ w ∈ ws, ∀ a' U, s.WarmedH U.vm → w.before a' U = true) (hcode : Cond.codeWith y bytes maxL ret hh ∈ ws) (hinit : ∀ a' U, s.WarmedH U.vm → (Cond.initialized y.cls).before a' U = true) :
    vx_Back l R p e below s sargs y len W9 (PreOf R mc ms Pc) (PostOf Qc mc ms free) (vx_Post XC mc ms free) := by
  intro m meth c A g ig mk a X hg hsize hdg hW hn hp
  have h1 : (headSpec ws rm).pre.before a A.U = true := atoms_intro fun w hw => hws w hw _ _ X.warmed
  have h2 : (Cond.codeWith y bytes maxL ret hh).before a A.U = true := hws _ hcode _ _ X.warmed
  have h3 : (Cond.initialized y.cls).before a A.U = true := hinit _ _ X.warmed
  have h4 : A.cells + (headSpec ws rm).room.cells ≤ R.cells := by rw [show (headSpec ws rm).room.cells = mc from hrc]; exact hp.1
  have h5 : A.slots + (headSpec ws rm).room.slots ≤ R.slots := by rw [show (headSpec ws rm).room.slots = ms from hrs]; exact hp.2.1
  have hPc : Pc a (A.U.calling g mk a) := hblind _ _ _ _ hp.2.2
  obtain ⟨U, Ls, c0, s0⟩ := A
  dsimp only [Pt.U, Pt.locs, Pt.cells, Pt.slots] at h1 h2 h3 h4 h5 X hn hPc ⊢
  obtain ⟨m9, methY, cY, hn9, hmY, hcY, -, hlY, -⟩ := Cond.codeWith_spec h2
  cases Option.some.inj (hn9.symm.trans hn)
  obtain ⟨kY, hkY, -⟩ := className_of_methodNamed hn
  have hinitY : kY.init = .initialized := Cond.initialized_spec (findClass_of_methodNamed hn) hkY h3
  have h : At U g.method c below := by rw [hg]; exact X.here
  have hlocals9 : W9 + (maxL + 11) + (headSpec ws rm).room.locals ≤ R.locals := hlocals
  have happ : (headSpec ws rm).appliesLoose y e.platform (U.calling g mk a) = true :=
    Spec.appliesLoose_calling (g := g) h hdg hn hkY hinitY
      (X.room_calling (g := g) (R' := (headSpec ws rm).room) hsize hmY hcY hframes (by rw [hlY]; omega) h4 h5) h1
  obtain ⟨mid, hmid⟩ := h.above
  have hfr : (U.setTop g).frames = (.java g :: mid) ++ below := by rw [State.frames_setTop' g h.top, hmid]; rfl
  obtain ⟨o, s₂, hsteps, -, hend, hq⟩ := Steps.callFree hM p X.admits X.cas X.clock (acts := []) hfr happ hPc trivial
  have hq' : vx_Q Qc XC mc ms free a (U.calling g mk a) o s₂ := hq
  rw [State.frames_setTop' g h.top] at hend
  obtain ⟨g₀, hg0⟩ := Option.isSome_iff_exists.mp h.top
  obtain ⟨r, hr⟩ := State.topJava?_eq_some.mp hg0
  have hr' : (({ U with heap := s₂.heap, slotsUsed := s₂.slotsUsed } : State).setVm s₂.vm).frames = .java g₀ :: r := hr
  rcases hq' with ⟨hqc, L, hfe, hL⟩ | ⟨q, rfl, E, ce, L, hx, hce, hcv, hcl, hW₂, hsm, hL⟩
  · obtain ⟨⟨v, rfl⟩, hW₂, e2, q2, q3, q4, q5, q6⟩ := id hfe
    have e3 : s₂ = ({ (U.calling g mk a).setFrames s₂.frames with heap := s₂.heap, slotsUsed := s₂.slotsUsed } : State).setVm s₂.vm := by
      have : s₂ = ({ s₂ with vm := (U.calling g mk a).vm } : State).setVm s₂.vm := rfl
      rw [e2] at this
      exact this
    obtain ⟨c₂, i₂, len₂, hc₂, hd₂, hf₂⟩ := hend
    have hW' : U.WarmedH s₂.vm := hW₂
    have hcc : c₂ = c := by
      have h1 : s₂.code? g.method = U.code? g.method := by
        rw [State.code?_eq, State.code?_eq, hW'.alike.method?]
      exact Option.some.inj (hc₂.symm.trans (h1.trans h.code))
    subst hcc
    have hlen : len₂ = len := by rw [hdg] at hd₂; cases hd₂; rfl
    subst hlen
    have hs₂ : s₂ = (({ U with heap := s₂.heap, slotsUsed := s₂.slotsUsed } : State).setVm s₂.vm).setTop { g with pc := g.pc + len₂, stack := v.toList ++ g.stack } := by
      refine e3.trans ?_
      rw [hf₂, State.calling_eq h.top, State.setFrames_setFrames, State.setTop_of_frames _ hr', hr]
      rfl
    have hsame : U.sameButNew ({ U with heap := s₂.heap, slotsUsed := s₂.slotsUsed } : State) L mc ms := by
      refine ⟨?_, q2, q3, q4, q5, q6⟩
      obtain ⟨t, ht, -⟩ := State.frames_cons hr
      show ({ U with heap := s₂.heap, slotsUsed := s₂.slotsUsed } : State) = { U.setFrames U.frames with heap := s₂.heap, slotsUsed := s₂.slotsUsed }
      rw [State.setFrames_self ht]
    subst hg
    refine Or.inl ⟨v, ⟨(({ U with heap := s₂.heap, slotsUsed := s₂.slotsUsed } : State).setVm s₂.vm), Ls ++ L, c0 + mc, s0 + ms⟩,
      ⟨X.admits, X.cas, X.clock, X.frames, X.room, X.hears, X.method, X.code, (X.here.setHeapUsed s₂.heap s₂.slotsUsed).setVm hW'.alike, X.tail, State.WarmedH.trans X.warmed hW', X.limits, X.bytes, X.same.trans (hsame.setVm s.vm)⟩,
      ⟨g, mk, s₂, L, rfl, rfl, hqc, rfl, hL, rfl, rfl⟩, ?_⟩
    show Steps p.tables e below _ ((({ U with heap := s₂.heap, slotsUsed := s₂.slotsUsed } : State).setVm s₂.vm).setTop { g with pc := g.pc + len₂, stack := v.toList ++ g.stack })
    rw [← hs₂]
    exact hsteps
  · obtain ⟨e2, q2, q3, q4, q5, q6⟩ := id hsm
    have e3 : s₂ = ({ (U.calling g mk a).setFrames s₂.frames with heap := s₂.heap, slotsUsed := s₂.slotsUsed } : State).setVm s₂.vm := by
      have : s₂ = ({ s₂ with vm := (U.calling g mk a).vm } : State).setVm s₂.vm := rfl
      rw [e2] at this
      exact this
    have hf₂ : s₂.frames = .throwing q :: .java g :: U.frames.tail := hend
    have hW' : U.WarmedH s₂.vm := hW₂
    have hs₂ : s₂ = ((({ U with heap := s₂.heap, slotsUsed := s₂.slotsUsed } : State).setVm s₂.vm).setTop g).pushFrame (.throwing q) := by
      refine e3.trans ?_
      rw [hf₂, State.calling_eq h.top, State.setFrames_setFrames, State.pushFrame, State.frames_setTop _ hr', State.setTop_of_frames _ hr', State.setFrames_setFrames, hr]
      rfl
    have hsame : U.sameButNew ({ U with heap := s₂.heap, slotsUsed := s₂.slotsUsed } : State) L mc ms := by
      refine ⟨?_, q2, q3, q4, q5, q6⟩
      obtain ⟨t, ht, -⟩ := State.frames_cons hr
      show ({ U with heap := s₂.heap, slotsUsed := s₂.slotsUsed } : State) = { U.setFrames U.frames with heap := s₂.heap, slotsUsed := s₂.slotsUsed }
      rw [State.setFrames_self ht]
    subst hg
    refine Or.inr ⟨q, ⟨(({ U with heap := s₂.heap, slotsUsed := s₂.slotsUsed } : State).setVm s₂.vm), Ls ++ L, c0 + mc, s0 + ms⟩,
      ⟨X.admits, X.cas, X.clock, X.frames, X.room, X.hears, X.method, X.code, (X.here.setHeapUsed s₂.heap s₂.slotsUsed).setVm hW'.alike, X.tail, State.WarmedH.trans X.warmed hW', X.limits, X.bytes, X.same.trans (hsame.setVm s.vm)⟩,
      ⟨g, mk, s₂, L, E, ce, rfl, rfl, hx, hce, hcv, hcl, rfl, hL, rfl, rfl⟩, ?_⟩
    show Steps p.tables e below _ (((({ U with heap := s₂.heap, slotsUsed := s₂.slotsUsed } : State).setVm s₂.vm).setTop g).pushFrame (.throwing q))
    rw [← hs₂]
    exact hsteps
end
variable {p : Program} {l : Launch} {e : Env} {R : Room} {s : State} {m : MethodId} {args : Array Value} {below : List Frame} {meth : Method} {c : Code} {T : State} {H : Heap} {locs : List Loc} {cells slots : Nat}
theorem vx_callVX (X : Stand p l e R s m args below meth c T locs cells slots) (hexec : p.tables.exec = Jvm.exec) {own C : String} {index : Nat} {y : MethodName} {bytes : ByteArray} {maxL : Nat} {ret : Option FieldType} {hh : List (Nat × Nat × Nat × Nat)}
    (hown : s.vm.findClass own = some m.cls) (hlink : (Cond.methodLink own index y).before args s = true) (hinst : (Cond.instanceMethod y).before args s = true) (hsel : (Cond.selects C y y).before args s = true)
    (hcode : (Cond.codeWith y bytes maxL ret hh).before args s = true) (hy : y.cls ≠ "java/lang/invoke/MethodHandle" ∧ y.cls ≠ "java/lang/invoke/VarHandle")
    {W9 : Nat} {Pre : Pt → Array Value → Prop} {Post : Pt → Array Value → Option Value → Pt → Prop} {PostX : Pt → Array Value → Addr → Pt → Prop} (hK : vx_Back l R p e below s args y 3 W9 Pre Post PostX)
    {b : Addr} {cellB : Cell} (hcell : T.heap[b]? = some cellB) (hobj : cellB.vm.isStatics = false) (hcls : s.vm.findClass C = some cellB.cls)
    {g : JFrame} (hg : g.method = m) (hsize : g.locals.size = c.maxLocals) {argsL rest : List Value} (hlen : ∀ sig, parseMethodDescriptor y.desc = some sig → argsL.length = sig.parameters.length)
    (hstack : g.stack = argsL.reverse ++ .ref b :: rest) (hW : 2 * g.monitorRoom + (rest.map fun v => v.category).sum ≤ W9) (hdg : decode c.code g.pc = .ok (.invokevirtual index, 3))
    (hpre : ∀ vm₁, s.WarmedH vm₁ → Pre ⟨T.setVm vm₁, locs, cells, slots⟩ (Value.ref b :: argsL).toArray) :
    (∃ (v : Option Value) (vm₁ : Vm) (B : Pt), s.WarmedH vm₁ ∧ Stand p l e R s m args below meth c B.U B.locs B.cells B.slots ∧ Post ⟨T.setVm vm₁, locs, cells, slots⟩ (Value.ref b :: argsL).toArray v B ∧
      ∀ target, Steps p.tables e below (B.U.setTop { g with pc := g.pc + 3, stack := v.toList ++ rest }) target → Steps p.tables e below (T.setTop g) target) ∨
    (∃ (q : Addr) (vm₁ : Vm) (B : Pt), s.WarmedH vm₁ ∧ Stand p l e R s m args below meth c B.U B.locs B.cells B.slots ∧ PostX ⟨T.setVm vm₁, locs, cells, slots⟩ (Value.ref b :: argsL).toArray q B ∧
      Steps p.tables e below (T.setTop g) ((B.U.setTop { g with stack := rest }).pushFrame (.throwing q))) := by
  obtain ⟨mk, methM, hnamed, hmethM, hstM, habM⟩ := Cond.instanceMethod_spec hinst
  obtain ⟨m8, methM', cM, hn8, hmethM', -, -, -, -, -, -, hsigM⟩ := Cond.codeWith_spec hcode
  cases Option.some.inj (hn8.symm.trans hnamed)
  cases hmethM.symm.trans hmethM'
  obtain ⟨c2, r2, m2, q1, q2, q3, q4, kP, hkP, hkPi⟩ := Cond.selects_spec hsel
  cases hcls.symm.trans q1
  cases (State.methodFound?_of_named hnamed hy).symm.trans q2
  cases hnamed.symm.trans q3
  have hselP : selectMethod e.platform s.vm cellB.cls mk = .method mk := by rw [Launch.admits_selectMethod X.admits]; exact q4
  obtain ⟨vm₁, X₁, hstep₁⟩ := X.invokevirtual hexec hown hlink hnamed hmethM hstM hkP hkPi hy (a := b) (cell := cellB) hcell
    (fun z h => by rw [h] at hobj; cases hobj) hselP hmethM habM hkP hkPi (g := g) hg (argsL := argsL) (rest := rest) (hlen _ hsigM) hstack hdg
  rcases hK m meth c ⟨T.setVm vm₁, locs, cells, slots⟩ { g with stack := rest } (.invokevirtual index) mk (Value.ref b :: argsL).toArray X₁ hg hsize hdg hW (X₁.named hnamed) (hpre vm₁ X₁.warmed) with ⟨v, B, X', hpost, hsteps⟩ | ⟨q, B, X', hpost, hsteps⟩
  · exact Or.inl ⟨v, vm₁, B, X₁.warmed, X', hpost, fun target h => hstep₁ _ fun acts => by rw [doInvoke_state]; exact hsteps.trans h⟩
  · exact Or.inr ⟨q, vm₁, B, X₁.warmed, X', hpost, hstep₁ _ fun acts => by rw [doInvoke_state]; exact hsteps⟩
theorem vx_callSX (X : Stand p l e R s m args below meth c T locs cells slots) (hexec : p.tables.exec = Jvm.exec) {own : String} {index : Nat} {y : MethodName} {bytes : ByteArray} {maxL : Nat} {ret : Option FieldType} {hh : List (Nat × Nat × Nat × Nat)}
    (hown : s.vm.findClass own = some m.cls) (hlink : (Cond.methodLink own index y).before args s = true) (hstat : (Cond.static y).before args s = true) (hinit : (Cond.initialized y.cls).before args s = true)
    (hcode : (Cond.codeWith y bytes maxL ret hh).before args s = true) (hy : y.cls ≠ "java/lang/invoke/MethodHandle" ∧ y.cls ≠ "java/lang/invoke/VarHandle")
    {W9 : Nat} {Pre : Pt → Array Value → Prop} {Post : Pt → Array Value → Option Value → Pt → Prop} {PostX : Pt → Array Value → Addr → Pt → Prop} (hK : vx_Back l R p e below s args y 3 W9 Pre Post PostX)
    {g : JFrame} (hg : g.method = m) (hsize : g.locals.size = c.maxLocals) {argsL rest : List Value} (hlen : ∀ sig, parseMethodDescriptor y.desc = some sig → argsL.length = sig.parameters.length)
    (hstack : g.stack = argsL.reverse ++ rest) (hW : 2 * g.monitorRoom + (rest.map fun v => v.category).sum ≤ W9) (hdg : decode c.code g.pc = .ok (.invokestatic index, 3))
    (hpre : ∀ vm₁, s.WarmedH vm₁ → Pre ⟨T.setVm vm₁, locs, cells, slots⟩ argsL.toArray) :
    (∃ (v : Option Value) (vm₁ : Vm) (B : Pt), s.WarmedH vm₁ ∧ Stand p l e R s m args below meth c B.U B.locs B.cells B.slots ∧ Post ⟨T.setVm vm₁, locs, cells, slots⟩ argsL.toArray v B ∧
      ∀ target, Steps p.tables e below (B.U.setTop { g with pc := g.pc + 3, stack := v.toList ++ rest }) target → Steps p.tables e below (T.setTop g) target) ∨
    (∃ (q : Addr) (vm₁ : Vm) (B : Pt), s.WarmedH vm₁ ∧ Stand p l e R s m args below meth c B.U B.locs B.cells B.slots ∧ PostX ⟨T.setVm vm₁, locs, cells, slots⟩ argsL.toArray q B ∧
      Steps p.tables e below (T.setTop g) ((B.U.setTop { g with stack := rest }).pushFrame (.throwing q))) := by
  obtain ⟨mk, methM, cM, hnamed, hmethM, -, -, -, -, -, -, hsigM⟩ := Cond.codeWith_spec hcode
  have hstatic : methM.isStatic = true := Cond.static_spec hnamed hmethM hstat
  obtain ⟨kP, hkP, -⟩ := className_of_methodNamed hnamed
  have hinitP : kP.init = .initialized := Cond.initialized_spec (findClass_of_methodNamed hnamed) hkP hinit
  obtain ⟨vm₁, X₁, hstep₁⟩ := X.invokestatic hexec hown hlink hnamed hmethM hstatic hkP hinitP hy (g := g) hg (argsL := argsL) (rest := rest) (hlen _ hsigM) hstack hdg
  rcases hK m meth c ⟨T.setVm vm₁, locs, cells, slots⟩ { g with stack := rest } (.invokestatic index) mk argsL.toArray X₁ hg hsize hdg hW (X₁.named hnamed) (hpre vm₁ X₁.warmed) with ⟨v, B, X', hpost, hsteps⟩ | ⟨q, B, X', hpost, hsteps⟩
  · exact Or.inl ⟨v, vm₁, B, X₁.warmed, X', hpost, fun target h => hstep₁ _ fun acts => by rw [doInvoke_state]; exact hsteps.trans h⟩
  · exact Or.inr ⟨q, vm₁, B, X₁.warmed, X', hpost, hstep₁ _ fun acts => by rw [doInvoke_state]; exact hsteps⟩
theorem vx_callVW (X : Stand p l e R s m args below meth c T locs cells slots) (hexec : p.tables.exec = Jvm.exec) {own C : String} {index : Nat} {y : MethodName} {bytes : ByteArray} {maxL : Nat} {ret : Option FieldType} {hh : List (Nat × Nat × Nat × Nat)}
    (hown : s.vm.findClass own = some m.cls) (hlink : (Cond.methodLink own index y).before args s = true) (hinst : (Cond.instanceMethod y).before args s = true) (hsel : (Cond.selects C y y).before args s = true)
    (hcode : (Cond.codeWith y bytes maxL ret hh).before args s = true) (hy : y.cls ≠ "java/lang/invoke/MethodHandle" ∧ y.cls ≠ "java/lang/invoke/VarHandle")
    {W9 : Nat} {Pre : Pt → Array Value → Prop} {Post : Pt → Array Value → Option Value → Pt → Prop} (hK : Back l R p e below s args y 3 W9 Pre Post)
    {b : Addr} {cellB : Cell} (hcell : T.heap[b]? = some cellB) (hobj : cellB.vm.isStatics = false) (hcls : s.vm.findClass C = some cellB.cls)
    {g : JFrame} (hg : g.method = m) (hsize : g.locals.size = c.maxLocals) {argsL rest : List Value} (hlen : ∀ sig, parseMethodDescriptor y.desc = some sig → argsL.length = sig.parameters.length)
    (hstack : g.stack = argsL.reverse ++ .ref b :: rest) (hW : 2 * g.monitorRoom + (rest.map fun v => v.category).sum ≤ W9) (hdg : decode c.code g.pc = .ok (.invokevirtual index, 3))
    (hpre : ∀ vm₁, s.WarmedH vm₁ → Pre ⟨T.setVm vm₁, locs, cells, slots⟩ (Value.ref b :: argsL).toArray) :
    ∃ (v : Option Value) (vm₁ : Vm) (B : Pt), s.WarmedH vm₁ ∧ Stand p l e R s m args below meth c B.U B.locs B.cells B.slots ∧ Post ⟨T.setVm vm₁, locs, cells, slots⟩ (Value.ref b :: argsL).toArray v B ∧
      ∀ target, Steps p.tables e below (B.U.setTop { g with pc := g.pc + 3, stack := v.toList ++ rest }) target → Steps p.tables e below (T.setTop g) target := by
  obtain ⟨mk, methM, hnamed, hmethM, hstM, habM⟩ := Cond.instanceMethod_spec hinst
  obtain ⟨m8, methM', cM, hn8, hmethM', -, -, -, -, -, -, hsigM⟩ := Cond.codeWith_spec hcode
  cases Option.some.inj (hn8.symm.trans hnamed)
  cases hmethM.symm.trans hmethM'
  obtain ⟨c2, r2, m2, q1, q2, q3, q4, kP, hkP, hkPi⟩ := Cond.selects_spec hsel
  cases hcls.symm.trans q1
  cases (State.methodFound?_of_named hnamed hy).symm.trans q2
  cases hnamed.symm.trans q3
  have hselP : selectMethod e.platform s.vm cellB.cls mk = .method mk := by rw [Launch.admits_selectMethod X.admits]; exact q4
  obtain ⟨vm₁, X₁, hstep₁⟩ := X.invokevirtual hexec hown hlink hnamed hmethM hstM hkP hkPi hy (a := b) (cell := cellB) hcell
    (fun z h => by rw [h] at hobj; cases hobj) hselP hmethM habM hkP hkPi (g := g) hg (argsL := argsL) (rest := rest) (hlen _ hsigM) hstack hdg
  obtain ⟨v, B, X', hpost, hsteps⟩ := hK m meth c ⟨T.setVm vm₁, locs, cells, slots⟩ { g with stack := rest } (.invokevirtual index) mk (Value.ref b :: argsL).toArray X₁ hg hsize hdg hW (X₁.named hnamed) (hpre vm₁ X₁.warmed)
  exact ⟨v, vm₁, B, X₁.warmed, X', hpost, fun target h => hstep₁ _ fun acts => by rw [doInvoke_state]; exact hsteps.trans h⟩
abbrev vx_CVW (R : Room) (s : State) (args : Array Value) (own C : String) (index : Nat) (y : MethodName) (bytes : ByteArray) (maxL : Nat) (ret : Option FieldType) (hh : List (Nat × Nat × Nat × Nat)) (ws : List Cond) (rm : Room) (mc ms n : Nat) : Prop :=
  (rm.cells = mc ∧ rm.slots = ms ∧ rm.frames + 1 ≤ R.frames ∧ 8 + (maxL + 11) + rm.locals ≤ R.locals ∧ (∀ w ∈ ws, ∀ (a' : Array Value) (U : State), s.WarmedH U.vm → w.before a' U = true) ∧ Cond.codeWith y bytes maxL ret hh ∈ ws) ∧
  (Cond.codeWith y bytes maxL ret hh).before args s = true ∧ (Cond.initialized y.cls).before args s = true ∧ (y.cls ≠ "java/lang/invoke/MethodHandle" ∧ y.cls ≠ "java/lang/invoke/VarHandle") ∧
  (∀ sig, parseMethodDescriptor y.desc = some sig → n = sig.parameters.length) ∧ (Cond.methodLink own index y).before args s = true ∧ (Cond.instanceMethod y).before args s = true ∧ (Cond.selects C y y).before args s = true
theorem vx_cwVW {own C : String} {index maxL mc ms : Nat} {y : MethodName} {bytes : ByteArray} {ret : Option FieldType} {hh : List (Nat × Nat × Nat × Nat)} {Ts ws ws' : List Cond} {rm : Room} (n : Nat) (ht : ∀ w ∈ Ts, w.before args s = true) (hT : GoodIn Ts (wsV own index C y ws)) (hw : ws = Cond.codeWith y bytes maxL ret hh :: ws') (hrc : rm.cells = mc) (hrs : rm.slots = ms)
    (hd : y.cls = C ∧ y.cls ≠ "java/lang/invoke/MethodHandle" ∧ y.cls ≠ "java/lang/invoke/VarHandle" ∧ (parseMethodDescriptor y.desc).map (fun d => d.parameters.length) = some n) (hR : rm.frames + 1 ≤ R.frames ∧ 8 + (maxL + 11) + rm.locals ≤ R.locals) :
    vx_CVW R s args own C index y bytes maxL ret hh ws rm mc ms n := by
  obtain ⟨hC, hd⟩ := hd
  subst hC
  have ok : ∀ w ∈ wsV own index y.cls y ws, w.before args s = true := fun w h => ht w (hT w h).1
  have hG : GoodIn Ts ws := fun w h => hT w (by unfold wsV; exact List.mem_append_right _ h)
  have hc : Cond.codeWith y bytes maxL ret hh ∈ ws := by rw [hw]; exact List.mem_cons_self
  refine ⟨⟨hrc, hrs, hR.1, hR.2, pay_in ht hG, hc⟩, ht _ (hG _ hc).1, ok _ (by simp [wsV]), ⟨hd.1, hd.2.1⟩, fun sig h => ?_, ok _ (by simp [wsV]), ok _ (by simp [wsV]), ok _ (by simp [wsV])⟩
  have h2 := hd.2.2
  rw [h] at h2
  exact (Option.some.inj h2).symm
theorem vx_runVW {y : MethodName} {bytes cc : ByteArray} {maxL nL mc ms n index : Nat} {ret : Option FieldType} {hh : List (Nat × Nat × Nat × Nat)} {ws : List Cond} {rm : Room} {Pc : Array Value → State → Prop} {Qc : Array Value → State → Outcome → State → Prop} {free : Addr → Prop} {Ts : List Cond} {own C : String} {b : Addr} {As rest : List Value} {g : JFrame}
    (S : CallFix p m c cc nL s args Ts own) (hM : Met l y ws rm Pc Qc mc ms free) (cw : vx_CVW R s args own C index y bytes maxL ret hh ws rm mc ms n) (hp : PreV s H C b Pc As)
    (hg : g.method = m) (hn : As.length = n) (hsize : g.locals.size = nL) (hstack : g.stack = As.reverse ++ .ref b :: rest) (hW : 2 * g.monitorRoom + (rest.map fun v => v.category).sum ≤ 8) (hdg : decode cc g.pc = .ok (.invokevirtual index, 3)) (hf : cells + mc ≤ R.cells ∧ slots + ms ≤ R.slots) :
    va_Run p l e R s m args below meth c H locs cells slots mc ms g rest (Qc (Value.ref b :: As).toArray) free := by
  obtain ⟨⟨hrc, hrs, hfr, hlo, hws, hcw⟩, hcode, hini, hy, hlen, hl, hin, hse⟩ := cw
  have hK : Back l R p e below s args y 3 8 (PreOf R mc ms Pc) (PostOf Qc mc ms free) := va_backW (hh := hh) (bytes := bytes) (maxL := maxL) (ret := ret) hM hp.1 hrc hrs hfr hlo hws hcw (fun a' U hW => word_at hW (Or.inl (by first | rfl | simp [Cond.onTables, Cond.keeps, Cond.steady])) hini)
  obtain ⟨hx, hb, hml, ho, -⟩ := S
  obtain ⟨-, ⟨cellB, hcB, hoB, hclB⟩, hPc⟩ := hp
  intro T hT X
  obtain ⟨v, vm₁, ⟨U', l2, c2, s2⟩, hW₁, X', ⟨g', mk, t, L, e1, e2, hq, h1, hL, h2, h3⟩, st⟩ := vx_callVW X hx (C := C) (hh := hh) (bytes := bytes) (maxL := maxL) (ret := ret) ho hl hin hse hcode hy hK (by rw [hT]; exact hcB) hoB hclB hg (hsize.trans hml.symm) (argsL := As) (rest := rest) (fun sig h => hn.trans (hlen sig h)) hstack hW (by rw [hb]; exact hdg)
    (fun vm₁ hW₁ => ⟨hf.1, hf.2, hPc (T.setVm vm₁) hT hW₁⟩)
  dsimp only [Pt.U, Pt.locs, Pt.cells, Pt.slots] at X' e1 e2 h1 h2 h3 st
  subst h1; subst h2; subst h3
  exact ⟨v, (T.setVm vm₁).calling g' mk (Value.ref b :: As).toArray, t, U', L, hT, X', hL, e1, e2, hq, st⟩
section
variable {y : MethodName} {bytes cc : ByteArray} {maxL nL mc ms n index : Nat} {ret : Option FieldType} {ws : List Cond} {rm : Room} {Pc : Array Value → State → Prop} {Qc : Array Value → State → Outcome → State → Prop} {XC : String → State → State → Prop} {free : Addr → Prop} {Ts : List Cond} {own C : String} {b : Addr} {As rest : List Value} {g : JFrame}
theorem vx_runVX {hh : List (Nat × Nat × Nat × Nat)} (S : CallFix p m c cc nL s args Ts own) (hM : vx_Met l y ws rm Pc Qc XC mc ms free) (cw : vx_CVW R s args own C index y bytes maxL ret hh ws rm mc ms n) (hp : PreV s H C b Pc As)
    (hg : g.method = m) (hn : As.length = n) (hsize : g.locals.size = nL) (hstack : g.stack = As.reverse ++ .ref b :: rest) (hW : 2 * g.monitorRoom + (rest.map fun v => v.category).sum ≤ 8) (hdg : decode cc g.pc = .ok (.invokevirtual index, 3)) (hf : cells + mc ≤ R.cells ∧ slots + ms ≤ R.slots) :
    vx_Run p l e R s m args below meth c H locs cells slots mc ms g rest (Qc (Value.ref b :: As).toArray) XC free := by
  obtain ⟨⟨hrc, hrs, hfr, hlo, hws, hcw⟩, hcode, hini, hy, hlen, hl, hin, hse⟩ := cw
  have hK : vx_Back l R p e below s args y 3 8 (PreOf R mc ms Pc) (PostOf Qc mc ms free) (vx_Post XC mc ms free) := vx_backW (hh := hh) (bytes := bytes) (maxL := maxL) (ret := ret) hM hp.1 hrc hrs hfr hlo hws hcw (fun a' U hW => word_at hW (Or.inl (by first | rfl | simp [Cond.onTables, Cond.keeps, Cond.steady])) hini)
  obtain ⟨hx, hb, hml, ho, -⟩ := S
  obtain ⟨-, ⟨cellB, hcB, hoB, hclB⟩, hPc⟩ := hp
  intro T hT X
  rcases vx_callVX X hx (C := C) (hh := hh) (bytes := bytes) (maxL := maxL) (ret := ret) ho hl hin hse hcode hy hK (by rw [hT]; exact hcB) hoB hclB hg (hsize.trans hml.symm) (argsL := As) (rest := rest) (fun sig h => hn.trans (hlen sig h)) hstack hW (by rw [hb]; exact hdg)
    (fun vm₁ hW₁ => ⟨hf.1, hf.2, hPc (T.setVm vm₁) hT hW₁⟩) with ⟨v, vm₁, ⟨U', l2, c2, s2⟩, hW₁, X', ⟨g', mk, t, L, e1, e2, hq, h1, hL, h2, h3⟩, st⟩ | ⟨q, vm₁, ⟨U', l2, c2, s2⟩, hW₁, X', ⟨g', mk, t, L, E, ce, e1, e2, hq, hce, hcv, hcl, h1, hL, h2, h3⟩, st⟩
  · dsimp only [Pt.U, Pt.locs, Pt.cells, Pt.slots] at X' e1 e2 h1 h2 h3 st
    subst h1; subst h2; subst h3
    exact Or.inl ⟨v, (T.setVm vm₁).calling g' mk (Value.ref b :: As).toArray, t, U', L, hT, X', hL, e1, e2, hq, st⟩
  · dsimp only [Pt.U, Pt.locs, Pt.cells, Pt.slots] at X' e1 e2 h1 h2 h3 st hcl
    subst h1; subst h2; subst h3
    exact Or.inr ⟨q, (T.setVm vm₁).calling g' mk (Value.ref b :: As).toArray, t, U', L, E, ce, hT, X', hL, e1, e2, hq, hce, hcv, vx_cls hW₁ hcl, st⟩
theorem vx_runSX {hh : List (Nat × Nat × Nat × Nat)} (S : CallFix p m c cc nL s args Ts own) (hM : vx_Met l y ws rm Pc Qc XC mc ms free) (cw : vx_CSW R s args own index y bytes maxL ret hh ws rm mc ms n) (hp : PreS s H Pc As)
    (hg : g.method = m) (hn : As.length = n) (hsize : g.locals.size = nL) (hstack : g.stack = As.reverse ++ rest) (hW : 2 * g.monitorRoom + (rest.map fun v => v.category).sum ≤ 8) (hdg : decode cc g.pc = .ok (.invokestatic index, 3)) (hf : cells + mc ≤ R.cells ∧ slots + ms ≤ R.slots) :
    vx_Run p l e R s m args below meth c H locs cells slots mc ms g rest (Qc As.toArray) XC free := by
  obtain ⟨⟨hrc, hrs, hfr, hlo, hws, hcw⟩, hcode, hini, hy, hlen, hl, hstt⟩ := cw
  have hK : vx_Back l R p e below s args y 3 8 (PreOf R mc ms Pc) (PostOf Qc mc ms free) (vx_Post XC mc ms free) := vx_backW (hh := hh) (bytes := bytes) (maxL := maxL) (ret := ret) hM hp.1 hrc hrs hfr hlo hws hcw (fun a' U hW => word_at hW (Or.inl (by first | rfl | simp [Cond.onTables, Cond.keeps, Cond.steady])) hini)
  obtain ⟨hx, hb, hml, ho, -⟩ := S
  intro T hT X
  rcases vx_callSX X hx (hh := hh) (bytes := bytes) (maxL := maxL) (ret := ret) ho hl hstt hini hcode hy hK hg (hsize.trans hml.symm) (argsL := As) (rest := rest) (fun sig h => hn.trans (hlen sig h)) hstack hW (by rw [hb]; exact hdg)
    (fun vm₁ hW₁ => ⟨hf.1, hf.2, hp.2 (T.setVm vm₁) hT hW₁⟩) with ⟨v, vm₁, ⟨U', l2, c2, s2⟩, hW₁, X', ⟨g', mk, t, L, e1, e2, hq, h1, hL, h2, h3⟩, st⟩ | ⟨q, vm₁, ⟨U', l2, c2, s2⟩, hW₁, X', ⟨g', mk, t, L, E, ce, e1, e2, hq, hce, hcv, hcl, h1, hL, h2, h3⟩, st⟩
  · dsimp only [Pt.U, Pt.locs, Pt.cells, Pt.slots] at X' e1 e2 h1 h2 h3 st
    subst h1; subst h2; subst h3
    exact Or.inl ⟨v, (T.setVm vm₁).calling g' mk As.toArray, t, U', L, hT, X', hL, e1, e2, hq, st⟩
  · dsimp only [Pt.U, Pt.locs, Pt.cells, Pt.slots] at X' e1 e2 h1 h2 h3 st hcl
    subst h1; subst h2; subst h3
    exact Or.inr ⟨q, (T.setVm vm₁).calling g' mk As.toArray, t, U', L, E, ce, hT, X', hL, e1, e2, hq, hce, hcv, vx_cls hW₁ hcl, st⟩
end
end VXH
theorem vx_ofWH {l : Launch} {y : MethodName} {ws ws' : List Cond} {rm : Room} {Pc : Array Value → State → Prop} {Qc : Array Value → State → Outcome → State → Prop} {XC : String → State → State → Prop} {mc ms : Nat} {free : Addr → Prop} {cc : ByteArray} {maxL : Nat} {ret : Option FieldType} {hh : List (Nat × Nat × Nat × Nat)}
    (hy : plainName y.cls = true) (hw : ws = Cond.codeWith y cc maxL ret hh :: ws')
    (body : ∀ p e s m args below meth c s₁, BodyLoose p l y (headSpec ws rm) cc maxL ret e s m args below meth c s₁ → c.maxLocals = maxL → Pc args s →
      W p l e (headSpec ws rm).room s m args below meth c s.heap [] 0 0 (vx_MQ below Qc XC args s mc ms free) (entryFrame m args maxL)) : vx_Met l y ws rm Pc Qc XC mc ms free := by
  refine MetFree.of_bodyS (code := cc) (maxLocals := maxL) (ret := ret) hy ?_ ?_
  · intro args s m h hn
    obtain ⟨m9, meth, c, hn9, h1, h2, h3, h4, -, h5, h6, -⟩ := Cond.codeWith_spec (atoms_spec (ws := ws) h _ (by rw [hw]; exact List.mem_cons_self))
    cases hn.symm.trans hn9
    exact ⟨meth, c, h1, h2, h3, h4, h5, h6⟩
  · intro p e s m args below meth c s₁ B hml hP _
    have hh0 : s₁.heap = s.heap := by rw [B.state]; rfl
    obtain ⟨t, a1, o, b1, b2, b3⟩ := body p e s m args below meth c s₁ B hml hP s₁ hh0 (Stand.of_body B)
    exact ⟨t, o, a1, b1, b2, b3⟩
/-! ===== END ===== -/
end
section
/-! names, fields, words: printed by wip/gen/names.py -/
def T_L : u_T := fun k => match k with
  | 0 => ("CoderTables$Lines", "chars", "[C", true)
  | _ => ("CoderTables$Lines", "length", "I", false)
def ty_L : Nat → FieldType := fun k => match k with
  | 0 => .array .char
  | _ => .int
theorem nm_L : ∀ a, a < 2 → ∀ b, b < 2 → a ≠ b → (T_L a).2.1 ≠ (T_L b).2.1 := by decide +kernel
theorem ty_L_ok : ∀ k, k < 2 → parseFieldDescriptor (T_L k).2.2.1 = some (ty_L k) := by decide +kernel
def T_N : u_T := fun k => match k with
  | _ => ("CoderTables$Numbers", "last", "J", false)
def ty_N : Nat → FieldType := fun k => match k with
  | _ => .long
theorem nm_N : ∀ a, a < 1 → ∀ b, b < 1 → a ≠ b → (T_N a).2.1 ≠ (T_N b).2.1 := by decide +kernel
theorem ty_N_ok : ∀ k, k < 1 → parseFieldDescriptor (T_N k).2.2.1 = some (ty_N k) := by decide +kernel
def T_X : u_T := fun k => match k with
  | 0 => ("CoderTables", "coders", "I", false)
  | 1 => ("CoderTables", "pictures", "I", false)
  | 2 => ("CoderTables", "pointCounts", "[I", true)
  | 3 => ("CoderTables", "leastBytes", "[I", true)
  | 4 => ("CoderTables", "pointBytes", "[I", true)
  | 5 => ("CoderTables", "pointErrors", "[I", true)
  | 6 => ("CoderTables", "failedPairs", "[I", true)
  | 7 => ("CoderTables", "failedCount", "I", false)
  | 8 => ("CoderTables", "hullSlots", "[I", true)
  | 9 => ("CoderTables", "hullSize", "I", false)
  | 10 => ("CoderTables", "leads", "[I", true)
  | 11 => ("CoderTables", "leadCount", "I", false)
  | 12 => ("CoderTables", "numbers", "LCoderTables$Numbers;", true)
  | _ => ("CoderTables", "lines", "LCoderTables$Lines;", true)
def ty_X : Nat → FieldType := fun k => match k with
  | 0 => .int
  | 1 => .int
  | 2 => .array .int
  | 3 => .array .int
  | 4 => .array .int
  | 5 => .array .int
  | 6 => .array .int
  | 7 => .int
  | 8 => .array .int
  | 9 => .int
  | 10 => .array .int
  | 11 => .int
  | 12 => .object "CoderTables$Numbers"
  | _ => .object "CoderTables$Lines"
theorem nm_X : ∀ a, a < 14 → ∀ b, b < 14 → a ≠ b → (T_X a).2.1 ≠ (T_X b).2.1 := by decide +kernel
theorem ty_X_ok : ∀ k, k < 14 → parseFieldDescriptor (T_X k).2.2.1 = some (ty_X k) := by decide +kernel
def T_M : u_T := fun k => match k with
  | 0 => ("CoderTablesModel", "code", "I", false)
  | 1 => ("CoderTablesModel", "coders", "I", false)
  | 2 => ("CoderTablesModel", "pictures", "I", false)
  | 3 => ("CoderTablesModel", "count", "[I", true)
  | 4 => ("CoderTablesModel", "hasFailed", "[Z", true)
  | 5 => ("CoderTablesModel", "bytesOf", "[I", true)
  | 6 => ("CoderTablesModel", "errorOf", "[I", true)
  | 7 => ("CoderTablesModel", "failures", "I", false)
  | 8 => ("CoderTablesModel", "failure", "[I", true)
  | 9 => ("CoderTablesModel", "size", "I", false)
  | 10 => ("CoderTablesModel", "text", "[I", true)
  | 11 => ("CoderTablesModel", "state", "J", false)
  | 12 => ("CoderTablesModel", "hullSize", "I", false)
  | 13 => ("CoderTablesModel", "hull", "[I", true)
  | _ => ("CoderTablesModel", "ways", "[J", true)
def ty_M : Nat → FieldType := fun k => match k with
  | 0 => .int
  | 1 => .int
  | 2 => .int
  | 3 => .array .int
  | 4 => .array .boolean
  | 5 => .array .int
  | 6 => .array .int
  | 7 => .int
  | 8 => .array .int
  | 9 => .int
  | 10 => .array .int
  | 11 => .long
  | 12 => .int
  | 13 => .array .int
  | _ => .array .long
theorem nm_M : ∀ a, a < 15 → ∀ b, b < 15 → a ≠ b → (T_M a).2.1 ≠ (T_M b).2.1 := by decide +kernel
theorem ty_M_ok : ∀ k, k < 15 → parseFieldDescriptor (T_M k).2.2.1 = some (ty_M k) := by decide +kernel
abbrev cls4 : List vw_C := [("CoderTables$Lines", T_L, 2), ("CoderTables$Numbers", T_N, 1), ("CoderTables", T_X, 14), ("CoderTablesModel", T_M, 15)]
abbrev b_X_init : ByteArray := prog_1_method_1_code
def y_X_init : MethodName := ⟨"CoderTables", "<init>", "()V"⟩
abbrev b_X_coder : ByteArray := prog_1_method_2_code
def y_X_coder : MethodName := ⟨"CoderTables", "coder", "()I"⟩
abbrev b_X_picture : ByteArray := prog_1_method_3_code
def y_X_picture : MethodName := ⟨"CoderTables", "picture", "()I"⟩
abbrev b_X_point : ByteArray := prog_1_method_4_code
def y_X_point : MethodName := ⟨"CoderTables", "point", "(IIII)I"⟩
abbrev b_X_fails : ByteArray := prog_1_method_5_code
def y_X_fails : MethodName := ⟨"CoderTables", "fails", "(II)I"⟩
abbrev b_X_failed : ByteArray := prog_1_method_6_code
def y_X_failed : MethodName := ⟨"CoderTables", "failed", "()I"⟩
abbrev b_X_failing : ByteArray := prog_1_method_7_code
def y_X_failing : MethodName := ⟨"CoderTables", "failing", "(II)I"⟩
abbrev b_X_least : ByteArray := prog_1_method_8_code
def y_X_least : MethodName := ⟨"CoderTables", "least", "(II)I"⟩
abbrev b_X_sum : ByteArray := prog_1_method_9_code
def y_X_sum : MethodName := ⟨"CoderTables", "sum", "(I)J"⟩
abbrev b_X_mean : ByteArray := prog_1_method_10_code
def y_X_mean : MethodName := ⟨"CoderTables", "mean", "(IZ)J"⟩
abbrev b_X_rank : ByteArray := prog_1_method_11_code
def y_X_rank : MethodName := ⟨"CoderTables", "rank", "(I)I"⟩
abbrev b_X_hull : ByteArray := prog_1_method_12_code
def y_X_hull : MethodName := ⟨"CoderTables", "hull", "(II)I"⟩
abbrev b_X_onHull : ByteArray := prog_1_method_13_code
def y_X_onHull : MethodName := ⟨"CoderTables", "onHull", "(IIII)I"⟩
abbrev b_X_slope : ByteArray := prog_1_method_14_code
def y_X_slope : MethodName := ⟨"CoderTables", "slope", "(IIIZ)J"⟩
abbrev b_X_signs : ByteArray := prog_1_method_15_code
def y_X_signs : MethodName := ⟨"CoderTables", "signs", "(III)J"⟩
abbrev b_X_draws : ByteArray := prog_1_method_16_code
def y_X_draws : MethodName := ⟨"CoderTables", "draws", "(IIJI)I"⟩
abbrev b_X_fill : ByteArray := prog_1_method_17_code
def y_X_fill : MethodName := ⟨"CoderTables", "fill", "(J)I"⟩
abbrev b_X_text : ByteArray := prog_1_method_18_code
def y_X_text : MethodName := ⟨"CoderTables", "text", "()I"⟩
abbrev b_X_charAt : ByteArray := prog_1_method_19_code
def y_X_charAt : MethodName := ⟨"CoderTables", "charAt", "(I)I"⟩
abbrev b_X_told : ByteArray := prog_1_method_20_code
def y_X_told : MethodName := ⟨"CoderTables", "told", "(I)I"⟩
abbrev b_X_clear : ByteArray := prog_1_method_21_code
def y_X_clear : MethodName := ⟨"CoderTables", "clear", "()V"⟩
abbrev b_X_needCoder : ByteArray := prog_1_method_22_code
def y_X_needCoder : MethodName := ⟨"CoderTables", "needCoder", "(I)V"⟩
abbrev b_X_needPicture : ByteArray := prog_1_method_23_code
def y_X_needPicture : MethodName := ⟨"CoderTables", "needPicture", "(I)V"⟩
abbrev b_X_needCounted : ByteArray := prog_1_method_24_code
def y_X_needCounted : MethodName := ⟨"CoderTables", "needCounted", "(I)V"⟩
abbrev b_X_pairOf : ByteArray := prog_1_method_25_code
def y_X_pairOf : MethodName := ⟨"CoderTables", "pairOf", "(II)I"⟩
abbrev b_X_isCounted : ByteArray := prog_1_method_26_code
def y_X_isCounted : MethodName := ⟨"CoderTables", "isCounted", "(I)Z"⟩
abbrev b_X_addPoint : ByteArray := prog_1_method_27_code
def y_X_addPoint : MethodName := ⟨"CoderTables", "addPoint", "(III)V"⟩
abbrev b_X_markFailed : ByteArray := prog_1_method_28_code
def y_X_markFailed : MethodName := ⟨"CoderTables", "markFailed", "(I)V"⟩
abbrev b_X_emptyPairs : ByteArray := prog_1_method_29_code
def y_X_emptyPairs : MethodName := ⟨"CoderTables", "emptyPairs", "()V"⟩
abbrev b_X_fillPair : ByteArray := prog_1_method_30_code
def y_X_fillPair : MethodName := ⟨"CoderTables", "fillPair", "(I)I"⟩
abbrev b_X_allPoints : ByteArray := prog_1_method_31_code
def y_X_allPoints : MethodName := ⟨"CoderTables", "allPoints", "()I"⟩
abbrev b_X_allCounted : ByteArray := prog_1_method_32_code
def y_X_allCounted : MethodName := ⟨"CoderTables", "allCounted", "()I"⟩
abbrev b_X_leastBytesWithin : ByteArray := prog_1_method_33_code
def y_X_leastBytesWithin : MethodName := ⟨"CoderTables", "leastBytesWithin", "(II)I"⟩
abbrev b_X_countedOf : ByteArray := prog_1_method_34_code
def y_X_countedOf : MethodName := ⟨"CoderTables", "countedOf", "(I)I"⟩
abbrev b_X_sumOf : ByteArray := prog_1_method_35_code
def y_X_sumOf : MethodName := ⟨"CoderTables", "sumOf", "(I)J"⟩
abbrev b_X_rankOf : ByteArray := prog_1_method_36_code
def y_X_rankOf : MethodName := ⟨"CoderTables", "rankOf", "(I)I"⟩
abbrev b_X_layHull : ByteArray := prog_1_method_37_code
def y_X_layHull : MethodName := ⟨"CoderTables", "layHull", "(I)V"⟩
abbrev b_X_firstOfRow : ByteArray := prog_1_method_38_code
def y_X_firstOfRow : MethodName := ⟨"CoderTables", "firstOfRow", "(I)I"⟩
abbrev b_X_isBefore : ByteArray := prog_1_method_39_code
def y_X_isBefore : MethodName := ⟨"CoderTables", "isBefore", "(II)Z"⟩
abbrev b_X_steepestFrom : ByteArray := prog_1_method_40_code
def y_X_steepestFrom : MethodName := ⟨"CoderTables", "steepestFrom", "(II)I"⟩
abbrev b_X_isBetterStep : ByteArray := prog_1_method_41_code
def y_X_isBetterStep : MethodName := ⟨"CoderTables", "isBetterStep", "(III)Z"⟩
abbrev b_X_fallTo : ByteArray := prog_1_method_42_code
def y_X_fallTo : MethodName := ⟨"CoderTables", "fallTo", "(II)J"⟩
abbrev b_X_growthTo : ByteArray := prog_1_method_43_code
def y_X_growthTo : MethodName := ⟨"CoderTables", "growthTo", "(II)J"⟩
abbrev b_X_layLeads : ByteArray := prog_1_method_44_code
def y_X_layLeads : MethodName := ⟨"CoderTables", "layLeads", "(II)V"⟩
abbrev b_X_countLeads : ByteArray := prog_1_method_45_code
def y_X_countLeads : MethodName := ⟨"CoderTables", "countLeads", "(Z)I"⟩
abbrev b_X_drawnLead : ByteArray := prog_1_method_46_code
def y_X_drawnLead : MethodName := ⟨"CoderTables", "drawnLead", "()J"⟩
abbrev b_X_odds : ByteArray := prog_1_method_47_code
def y_X_odds : MethodName := ⟨"CoderTables", "odds", "(IIZ)J"⟩
abbrev b_X_inLowestTerms : ByteArray := prog_1_method_48_code
def y_X_inLowestTerms : MethodName := ⟨"CoderTables", "inLowestTerms", "(JJ)J"⟩
abbrev b_M_init : ByteArray := prog_5_method_1_code
def y_M_init : MethodName := ⟨"CoderTablesModel", "<init>", "()V"⟩
abbrev b_M_thrown : ByteArray := prog_5_method_2_code
def y_M_thrown : MethodName := ⟨"CoderTablesModel", "thrown", "()I"⟩
abbrev b_M_refuses : ByteArray := prog_5_method_3_code
def y_M_refuses : MethodName := ⟨"CoderTablesModel", "refuses", "(I)Z"⟩
abbrev b_M_isIn : ByteArray := prog_5_method_4_code
def y_M_isIn : MethodName := ⟨"CoderTablesModel", "isIn", "(JJJ)Z"⟩
abbrev b_M_noCoder : ByteArray := prog_5_method_5_code
def y_M_noCoder : MethodName := ⟨"CoderTablesModel", "noCoder", "(I)Z"⟩
abbrev b_M_noPair : ByteArray := prog_5_method_6_code
def y_M_noPair : MethodName := ⟨"CoderTablesModel", "noPair", "(II)Z"⟩
abbrev b_M_coder : ByteArray := prog_5_method_7_code
def y_M_coder : MethodName := ⟨"CoderTablesModel", "coder", "()I"⟩
abbrev b_M_picture : ByteArray := prog_5_method_8_code
def y_M_picture : MethodName := ⟨"CoderTablesModel", "picture", "()I"⟩
abbrev b_M_add : ByteArray := prog_5_method_9_code
def y_M_add : MethodName := ⟨"CoderTablesModel", "add", "(III)V"⟩
abbrev b_M_point : ByteArray := prog_5_method_10_code
def y_M_point : MethodName := ⟨"CoderTablesModel", "point", "(IIII)I"⟩
abbrev b_M_fail : ByteArray := prog_5_method_11_code
def y_M_fail : MethodName := ⟨"CoderTablesModel", "fail", "(I)V"⟩
abbrev b_M_fails : ByteArray := prog_5_method_12_code
def y_M_fails : MethodName := ⟨"CoderTablesModel", "fails", "(II)I"⟩
abbrev b_M_failed : ByteArray := prog_5_method_13_code
def y_M_failed : MethodName := ⟨"CoderTablesModel", "failed", "()I"⟩
abbrev b_M_failing : ByteArray := prog_5_method_14_code
def y_M_failing : MethodName := ⟨"CoderTablesModel", "failing", "(II)I"⟩
abbrev b_M_least : ByteArray := prog_5_method_15_code
def y_M_least : MethodName := ⟨"CoderTablesModel", "least", "(II)I"⟩
abbrev b_M_bytes : ByteArray := prog_5_method_16_code
def y_M_bytes : MethodName := ⟨"CoderTablesModel", "bytes", "(I)I"⟩
abbrev b_M_sumOf : ByteArray := prog_5_method_17_code
def y_M_sumOf : MethodName := ⟨"CoderTablesModel", "sumOf", "(I)J"⟩
abbrev b_M_countedOf : ByteArray := prog_5_method_18_code
def y_M_countedOf : MethodName := ⟨"CoderTablesModel", "countedOf", "(I)I"⟩
abbrev b_M_sum : ByteArray := prog_5_method_19_code
def y_M_sum : MethodName := ⟨"CoderTablesModel", "sum", "(I)J"⟩
abbrev b_M_common : ByteArray := prog_5_method_20_code
def y_M_common : MethodName := ⟨"CoderTablesModel", "common", "(JJ)J"⟩
abbrev b_M_part : ByteArray := prog_5_method_21_code
def y_M_part : MethodName := ⟨"CoderTablesModel", "part", "(JJZ)J"⟩
abbrev b_M_mean : ByteArray := prog_5_method_22_code
def y_M_mean : MethodName := ⟨"CoderTablesModel", "mean", "(IZ)J"⟩
abbrev b_M_rankOf : ByteArray := prog_5_method_23_code
def y_M_rankOf : MethodName := ⟨"CoderTablesModel", "rankOf", "(I)I"⟩
abbrev b_M_rank : ByteArray := prog_5_method_24_code
def y_M_rank : MethodName := ⟨"CoderTablesModel", "rank", "(I)I"⟩
abbrev b_M_isBest : ByteArray := prog_5_method_25_code
def y_M_isBest : MethodName := ⟨"CoderTablesModel", "isBest", "(II)Z"⟩
abbrev b_M_findHull : ByteArray := prog_5_method_26_code
def y_M_findHull : MethodName := ⟨"CoderTablesModel", "findHull", "(I)V"⟩
abbrev b_M_isSteeper : ByteArray := prog_5_method_27_code
def y_M_isSteeper : MethodName := ⟨"CoderTablesModel", "isSteeper", "(III)Z"⟩
abbrev b_M_hull : ByteArray := prog_5_method_28_code
def y_M_hull : MethodName := ⟨"CoderTablesModel", "hull", "(II)I"⟩
abbrev b_M_noneOnHull : ByteArray := prog_5_method_29_code
def y_M_noneOnHull : MethodName := ⟨"CoderTablesModel", "noneOnHull", "(IIII)Z"⟩
abbrev b_M_onHull : ByteArray := prog_5_method_30_code
def y_M_onHull : MethodName := ⟨"CoderTablesModel", "onHull", "(IIII)I"⟩
abbrev b_M_slope : ByteArray := prog_5_method_31_code
def y_M_slope : MethodName := ⟨"CoderTablesModel", "slope", "(IIIZ)J"⟩
abbrev b_M_areBoth : ByteArray := prog_5_method_32_code
def y_M_areBoth : MethodName := ⟨"CoderTablesModel", "areBoth", "(III)Z"⟩
abbrev b_M_less : ByteArray := prog_5_method_33_code
def y_M_less : MethodName := ⟨"CoderTablesModel", "less", "(II)I"⟩
abbrev b_M_signs : ByteArray := prog_5_method_34_code
def y_M_signs : MethodName := ⟨"CoderTablesModel", "signs", "(III)J"⟩
abbrev b_M_draw : ByteArray := prog_5_method_35_code
def y_M_draw : MethodName := ⟨"CoderTablesModel", "draw", "(I)I"⟩
abbrev b_M_both : ByteArray := prog_5_method_36_code
def y_M_both : MethodName := ⟨"CoderTablesModel", "both", "(III)I"⟩
abbrev b_M_draws : ByteArray := prog_5_method_37_code
def y_M_draws : MethodName := ⟨"CoderTablesModel", "draws", "(IIJI)I"⟩
abbrev b_M_fill : ByteArray := prog_5_method_38_code
def y_M_fill : MethodName := ⟨"CoderTablesModel", "fill", "(J)I"⟩
abbrev b_M_fillPair : ByteArray := prog_5_method_39_code
def y_M_fillPair : MethodName := ⟨"CoderTablesModel", "fillPair", "(I)V"⟩
abbrev b_M_points : ByteArray := prog_5_method_40_code
def y_M_points : MethodName := ⟨"CoderTablesModel", "points", "()I"⟩
abbrev b_M_type : ByteArray := prog_5_method_41_code
def y_M_type : MethodName := ⟨"CoderTablesModel", "type", "(I)V"⟩
abbrev b_M_typeNumber : ByteArray := prog_5_method_42_code
def y_M_typeNumber : MethodName := ⟨"CoderTablesModel", "typeNumber", "(J)V"⟩
abbrev b_M_text : ByteArray := prog_5_method_43_code
def y_M_text : MethodName := ⟨"CoderTablesModel", "text", "()I"⟩
abbrev b_M_charAt : ByteArray := prog_5_method_44_code
def y_M_charAt : MethodName := ⟨"CoderTablesModel", "charAt", "(I)I"⟩
abbrev b_M_told : ByteArray := prog_5_method_45_code
def y_M_told : MethodName := ⟨"CoderTablesModel", "told", "(I)I"⟩
abbrev b_M_clear : ByteArray := prog_5_method_46_code
def y_M_clear : MethodName := ⟨"CoderTablesModel", "clear", "()V"⟩
abbrev b_L_init : ByteArray := prog_2_method_1_code
def y_L_init : MethodName := ⟨"CoderTables$Lines", "<init>", "()V"⟩
abbrev b_L_start : ByteArray := prog_2_method_2_code
def y_L_start : MethodName := ⟨"CoderTables$Lines", "start", "()V"⟩
abbrev b_L_put : ByteArray := prog_2_method_3_code
def y_L_put : MethodName := ⟨"CoderTables$Lines", "put", "(C)V"⟩
abbrev b_L_putNumber : ByteArray := prog_2_method_4_code
def y_L_putNumber : MethodName := ⟨"CoderTables$Lines", "putNumber", "(J)V"⟩
abbrev b_N_init : ByteArray := prog_3_method_1_code
def y_N_init : MethodName := ⟨"CoderTables$Numbers", "<init>", "()V"⟩
abbrev b_N_start : ByteArray := prog_3_method_2_code
def y_N_start : MethodName := ⟨"CoderTables$Numbers", "start", "(J)V"⟩
abbrev b_N_below : ByteArray := prog_3_method_3_code
def y_N_below : MethodName := ⟨"CoderTables$Numbers", "below", "(I)I"⟩
abbrev b_W_coder : ByteArray := method_3_code
def y_W_coder : MethodName := ⟨"CoderTablesLaw", "coder", "(LCoderTables;[J)I"⟩
abbrev b_W_picture : ByteArray := method_4_code
def y_W_picture : MethodName := ⟨"CoderTablesLaw", "picture", "(LCoderTables;[J)I"⟩
abbrev b_W_point : ByteArray := method_5_code
def y_W_point : MethodName := ⟨"CoderTablesLaw", "point", "(LCoderTables;IIII[J)I"⟩
abbrev b_W_fails : ByteArray := method_6_code
def y_W_fails : MethodName := ⟨"CoderTablesLaw", "fails", "(LCoderTables;II[J)I"⟩
abbrev b_W_failing : ByteArray := method_7_code
def y_W_failing : MethodName := ⟨"CoderTablesLaw", "failing", "(LCoderTables;II[J)I"⟩
abbrev b_W_least : ByteArray := method_8_code
def y_W_least : MethodName := ⟨"CoderTablesLaw", "least", "(LCoderTables;II[J)I"⟩
abbrev b_W_sum : ByteArray := method_9_code
def y_W_sum : MethodName := ⟨"CoderTablesLaw", "sum", "(LCoderTables;I[J)I"⟩
abbrev b_W_mean : ByteArray := method_10_code
def y_W_mean : MethodName := ⟨"CoderTablesLaw", "mean", "(LCoderTables;IZ[J)I"⟩
abbrev b_W_rank : ByteArray := method_11_code
def y_W_rank : MethodName := ⟨"CoderTablesLaw", "rank", "(LCoderTables;I[J)I"⟩
abbrev b_W_hull : ByteArray := method_12_code
def y_W_hull : MethodName := ⟨"CoderTablesLaw", "hull", "(LCoderTables;II[J)I"⟩
abbrev b_W_onHull : ByteArray := method_13_code
def y_W_onHull : MethodName := ⟨"CoderTablesLaw", "onHull", "(LCoderTables;IIII[J)I"⟩
abbrev b_W_slope : ByteArray := method_14_code
def y_W_slope : MethodName := ⟨"CoderTablesLaw", "slope", "(LCoderTables;IIIZ[J)I"⟩
abbrev b_W_signs : ByteArray := method_15_code
def y_W_signs : MethodName := ⟨"CoderTablesLaw", "signs", "(LCoderTables;III[J)I"⟩
abbrev b_W_draws : ByteArray := method_16_code
def y_W_draws : MethodName := ⟨"CoderTablesLaw", "draws", "(LCoderTables;IIJI[J)I"⟩
abbrev b_W_charAt : ByteArray := method_17_code
def y_W_charAt : MethodName := ⟨"CoderTablesLaw", "charAt", "(LCoderTables;I[J)I"⟩
abbrev b_W_law : ByteArray := code
def y_W_law : MethodName := ⟨"CoderTablesLaw", "law", "([I)Z"⟩
abbrev b_J_compare : ByteArray := prog_10_method_42_code
def y_J_compare : MethodName := ⟨"java/lang/Long", "compare", "(JJ)I"⟩
abbrev b_A_min_I : ByteArray := prog_11_method_69_code
def y_A_min_I : MethodName := ⟨"java/lang/Math", "min", "(II)I"⟩
abbrev b_A_min_J : ByteArray := prog_11_method_70_code
def y_A_min_J : MethodName := ⟨"java/lang/Math", "min", "(JJ)J"⟩
def GW : List Cond := lw_tbl.filter goodWord
theorem gw_mk {w : Cond} (i : Nat) (h : lw_tbl[i]? = some w) (hg : goodWord w = true) : w ∈ GW := List.mem_filter.mpr ⟨List.mem_of_getElem? h, hg⟩
theorem gw_lw {w : Cond} (h : w ∈ GW) : w ∈ lw_tbl := (List.mem_filter.mp h).1
theorem gw_good : GoodIn GW GW := fun w h => ⟨h, good_of_word (List.mem_filter.mp h).2⟩
theorem in_L : ∀ w ∈ u_ws "CoderTables$Lines" T_L 2, w ∈ GW := by
  intro w hw
  have h : (u_ws "CoderTables$Lines" T_L 2).all (fun w => decide (w ∈ lw_tbl) && goodWord w) = true := by decide +kernel
  have h2 := List.all_eq_true.mp h w hw
  simp only [Bool.and_eq_true, decide_eq_true_eq] at h2
  exact List.mem_filter.mpr h2
theorem in_N : ∀ w ∈ u_ws "CoderTables$Numbers" T_N 1, w ∈ GW := by
  intro w hw
  have h : (u_ws "CoderTables$Numbers" T_N 1).all (fun w => decide (w ∈ lw_tbl) && goodWord w) = true := by decide +kernel
  have h2 := List.all_eq_true.mp h w hw
  simp only [Bool.and_eq_true, decide_eq_true_eq] at h2
  exact List.mem_filter.mpr h2
theorem in_X : ∀ w ∈ u_ws "CoderTables" T_X 14, w ∈ GW := by
  intro w hw
  have h : (u_ws "CoderTables" T_X 14).all (fun w => decide (w ∈ lw_tbl) && goodWord w) = true := by decide +kernel
  have h2 := List.all_eq_true.mp h w hw
  simp only [Bool.and_eq_true, decide_eq_true_eq] at h2
  exact List.mem_filter.mpr h2
theorem in_M : ∀ w ∈ u_ws "CoderTablesModel" T_M 15, w ∈ GW := by
  intro w hw
  have h : (u_ws "CoderTablesModel" T_M 15).all (fun w => decide (w ∈ lw_tbl) && goodWord w) = true := by decide +kernel
  have h2 := List.all_eq_true.mp h w hw
  simp only [Bool.and_eq_true, decide_eq_true_eq] at h2
  exact List.mem_filter.mpr h2
theorem w0 : Cond.selects "CoderTables" ⟨"CoderTables", "emptyPairs", "()V"⟩ ⟨"CoderTables", "emptyPairs", "()V"⟩ ∈ GW := gw_mk 0 (by decide +kernel) (by decide +kernel)
theorem w1 : Cond.selects "CoderTables$Numbers" ⟨"CoderTables$Numbers", "start", "(J)V"⟩ ⟨"CoderTables$Numbers", "start", "(J)V"⟩ ∈ GW := gw_mk 1 (by decide +kernel) (by decide +kernel)
theorem w2 : Cond.selects "CoderTables" ⟨"CoderTables", "fillPair", "(I)I"⟩ ⟨"CoderTables", "fillPair", "(I)I"⟩ ∈ GW := gw_mk 2 (by decide +kernel) (by decide +kernel)
theorem w3 : Cond.selects "CoderTables$Numbers" ⟨"CoderTables$Numbers", "below", "(I)I"⟩ ⟨"CoderTables$Numbers", "below", "(I)I"⟩ ∈ GW := gw_mk 3 (by decide +kernel) (by decide +kernel)
theorem w4 : Cond.selects "CoderTables" ⟨"CoderTables", "markFailed", "(I)V"⟩ ⟨"CoderTables", "markFailed", "(I)V"⟩ ∈ GW := gw_mk 4 (by decide +kernel) (by decide +kernel)
theorem w5 : Cond.selects "CoderTables" ⟨"CoderTables", "addPoint", "(III)V"⟩ ⟨"CoderTables", "addPoint", "(III)V"⟩ ∈ GW := gw_mk 5 (by decide +kernel) (by decide +kernel)
theorem w6 : Cond.selects "CoderTables$Lines" ⟨"CoderTables$Lines", "start", "()V"⟩ ⟨"CoderTables$Lines", "start", "()V"⟩ ∈ GW := gw_mk 6 (by decide +kernel) (by decide +kernel)
theorem w7 : Cond.selects "CoderTables$Lines" ⟨"CoderTables$Lines", "putNumber", "(J)V"⟩ ⟨"CoderTables$Lines", "putNumber", "(J)V"⟩ ∈ GW := gw_mk 7 (by decide +kernel) (by decide +kernel)
theorem w8 : Cond.selects "CoderTables$Lines" ⟨"CoderTables$Lines", "put", "(C)V"⟩ ⟨"CoderTables$Lines", "put", "(C)V"⟩ ∈ GW := gw_mk 8 (by decide +kernel) (by decide +kernel)
theorem w9 : Cond.selects "CoderTables" ⟨"CoderTables", "countedOf", "(I)I"⟩ ⟨"CoderTables", "countedOf", "(I)I"⟩ ∈ GW := gw_mk 9 (by decide +kernel) (by decide +kernel)
theorem w10 : Cond.selects "CoderTables" ⟨"CoderTables", "isCounted", "(I)Z"⟩ ⟨"CoderTables", "isCounted", "(I)Z"⟩ ∈ GW := gw_mk 10 (by decide +kernel) (by decide +kernel)
theorem w11 : Cond.selects "CoderTables" ⟨"CoderTables", "sumOf", "(I)J"⟩ ⟨"CoderTables", "sumOf", "(I)J"⟩ ∈ GW := gw_mk 11 (by decide +kernel) (by decide +kernel)
theorem w12 : Cond.selects "CoderTables" ⟨"CoderTables", "rankOf", "(I)I"⟩ ⟨"CoderTables", "rankOf", "(I)I"⟩ ∈ GW := gw_mk 12 (by decide +kernel) (by decide +kernel)
theorem w13 : Cond.selects "CoderTables" ⟨"CoderTables", "allPoints", "()I"⟩ ⟨"CoderTables", "allPoints", "()I"⟩ ∈ GW := gw_mk 13 (by decide +kernel) (by decide +kernel)
theorem w14 : Cond.selects "CoderTables" ⟨"CoderTables", "allCounted", "()I"⟩ ⟨"CoderTables", "allCounted", "()I"⟩ ∈ GW := gw_mk 14 (by decide +kernel) (by decide +kernel)
theorem w15 : Cond.selects "java/lang/Throwable" ⟨"java/lang/Throwable", "fillInStackTrace", "(I)Ljava/lang/Throwable;"⟩ ⟨"java/lang/Throwable", "fillInStackTrace", "(I)Ljava/lang/Throwable;"⟩ ∈ GW := gw_mk 15 (by decide +kernel) (by decide +kernel)
theorem w16 : Cond.selects "CoderTables" ⟨"CoderTables", "pairOf", "(II)I"⟩ ⟨"CoderTables", "pairOf", "(II)I"⟩ ∈ GW := gw_mk 16 (by decide +kernel) (by decide +kernel)
theorem w17 : Cond.selects "CoderTables" ⟨"CoderTables", "needCoder", "(I)V"⟩ ⟨"CoderTables", "needCoder", "(I)V"⟩ ∈ GW := gw_mk 17 (by decide +kernel) (by decide +kernel)
theorem w18 : Cond.selects "CoderTables" ⟨"CoderTables", "needPicture", "(I)V"⟩ ⟨"CoderTables", "needPicture", "(I)V"⟩ ∈ GW := gw_mk 18 (by decide +kernel) (by decide +kernel)
theorem w19 : Cond.selects "CoderTables" ⟨"CoderTables", "leastBytesWithin", "(II)I"⟩ ⟨"CoderTables", "leastBytesWithin", "(II)I"⟩ ∈ GW := gw_mk 19 (by decide +kernel) (by decide +kernel)
theorem w20 : Cond.selects "CoderTables" ⟨"CoderTables", "needCounted", "(I)V"⟩ ⟨"CoderTables", "needCounted", "(I)V"⟩ ∈ GW := gw_mk 20 (by decide +kernel) (by decide +kernel)
theorem w21 : Cond.selects "CoderTables" ⟨"CoderTables", "layHull", "(I)V"⟩ ⟨"CoderTables", "layHull", "(I)V"⟩ ∈ GW := gw_mk 21 (by decide +kernel) (by decide +kernel)
theorem w22 : Cond.selects "CoderTables" ⟨"CoderTables", "firstOfRow", "(I)I"⟩ ⟨"CoderTables", "firstOfRow", "(I)I"⟩ ∈ GW := gw_mk 22 (by decide +kernel) (by decide +kernel)
theorem w23 : Cond.selects "CoderTables" ⟨"CoderTables", "isBefore", "(II)Z"⟩ ⟨"CoderTables", "isBefore", "(II)Z"⟩ ∈ GW := gw_mk 23 (by decide +kernel) (by decide +kernel)
theorem w24 : Cond.selects "CoderTables" ⟨"CoderTables", "steepestFrom", "(II)I"⟩ ⟨"CoderTables", "steepestFrom", "(II)I"⟩ ∈ GW := gw_mk 24 (by decide +kernel) (by decide +kernel)
theorem w25 : Cond.selects "CoderTables" ⟨"CoderTables", "growthTo", "(II)J"⟩ ⟨"CoderTables", "growthTo", "(II)J"⟩ ∈ GW := gw_mk 25 (by decide +kernel) (by decide +kernel)
theorem w26 : Cond.selects "CoderTables" ⟨"CoderTables", "fallTo", "(II)J"⟩ ⟨"CoderTables", "fallTo", "(II)J"⟩ ∈ GW := gw_mk 26 (by decide +kernel) (by decide +kernel)
theorem w27 : Cond.selects "CoderTables" ⟨"CoderTables", "isBetterStep", "(III)Z"⟩ ⟨"CoderTables", "isBetterStep", "(III)Z"⟩ ∈ GW := gw_mk 27 (by decide +kernel) (by decide +kernel)
theorem w28 : Cond.selects "CoderTables" ⟨"CoderTables", "layLeads", "(II)V"⟩ ⟨"CoderTables", "layLeads", "(II)V"⟩ ∈ GW := gw_mk 28 (by decide +kernel) (by decide +kernel)
theorem w29 : Cond.selects "CoderTables" ⟨"CoderTables", "countLeads", "(Z)I"⟩ ⟨"CoderTables", "countLeads", "(Z)I"⟩ ∈ GW := gw_mk 29 (by decide +kernel) (by decide +kernel)
theorem w30 : Cond.selects "CoderTables" ⟨"CoderTables", "drawnLead", "()J"⟩ ⟨"CoderTables", "drawnLead", "()J"⟩ ∈ GW := gw_mk 30 (by decide +kernel) (by decide +kernel)
theorem w31 : Cond.selects "CoderTablesModel" ⟨"CoderTablesModel", "refuses", "(I)Z"⟩ ⟨"CoderTablesModel", "refuses", "(I)Z"⟩ ∈ GW := gw_mk 31 (by decide +kernel) (by decide +kernel)
theorem w32 : Cond.selects "CoderTablesModel" ⟨"CoderTablesModel", "noPair", "(II)Z"⟩ ⟨"CoderTablesModel", "noPair", "(II)Z"⟩ ∈ GW := gw_mk 32 (by decide +kernel) (by decide +kernel)
theorem w33 : Cond.selects "CoderTablesModel" ⟨"CoderTablesModel", "noCoder", "(I)Z"⟩ ⟨"CoderTablesModel", "noCoder", "(I)Z"⟩ ∈ GW := gw_mk 33 (by decide +kernel) (by decide +kernel)
theorem w34 : Cond.selects "CoderTablesModel" ⟨"CoderTablesModel", "add", "(III)V"⟩ ⟨"CoderTablesModel", "add", "(III)V"⟩ ∈ GW := gw_mk 34 (by decide +kernel) (by decide +kernel)
theorem w35 : Cond.selects "CoderTablesModel" ⟨"CoderTablesModel", "fail", "(I)V"⟩ ⟨"CoderTablesModel", "fail", "(I)V"⟩ ∈ GW := gw_mk 35 (by decide +kernel) (by decide +kernel)
theorem w36 : Cond.selects "CoderTablesModel" ⟨"CoderTablesModel", "countedOf", "(I)I"⟩ ⟨"CoderTablesModel", "countedOf", "(I)I"⟩ ∈ GW := gw_mk 36 (by decide +kernel) (by decide +kernel)
theorem w37 : Cond.selects "CoderTablesModel" ⟨"CoderTablesModel", "sumOf", "(I)J"⟩ ⟨"CoderTablesModel", "sumOf", "(I)J"⟩ ∈ GW := gw_mk 37 (by decide +kernel) (by decide +kernel)
theorem w38 : Cond.selects "CoderTablesModel" ⟨"CoderTablesModel", "bytes", "(I)I"⟩ ⟨"CoderTablesModel", "bytes", "(I)I"⟩ ∈ GW := gw_mk 38 (by decide +kernel) (by decide +kernel)
theorem w39 : Cond.selects "CoderTablesModel" ⟨"CoderTablesModel", "rankOf", "(I)I"⟩ ⟨"CoderTablesModel", "rankOf", "(I)I"⟩ ∈ GW := gw_mk 39 (by decide +kernel) (by decide +kernel)
theorem w40 : Cond.selects "CoderTablesModel" ⟨"CoderTablesModel", "findHull", "(I)V"⟩ ⟨"CoderTablesModel", "findHull", "(I)V"⟩ ∈ GW := gw_mk 40 (by decide +kernel) (by decide +kernel)
theorem w41 : Cond.selects "CoderTablesModel" ⟨"CoderTablesModel", "isBest", "(II)Z"⟩ ⟨"CoderTablesModel", "isBest", "(II)Z"⟩ ∈ GW := gw_mk 41 (by decide +kernel) (by decide +kernel)
theorem w42 : Cond.selects "CoderTablesModel" ⟨"CoderTablesModel", "isSteeper", "(III)Z"⟩ ⟨"CoderTablesModel", "isSteeper", "(III)Z"⟩ ∈ GW := gw_mk 42 (by decide +kernel) (by decide +kernel)
theorem w43 : Cond.selects "CoderTablesModel" ⟨"CoderTablesModel", "noneOnHull", "(IIII)Z"⟩ ⟨"CoderTablesModel", "noneOnHull", "(IIII)Z"⟩ ∈ GW := gw_mk 43 (by decide +kernel) (by decide +kernel)
theorem w44 : Cond.selects "CoderTablesModel" ⟨"CoderTablesModel", "less", "(II)I"⟩ ⟨"CoderTablesModel", "less", "(II)I"⟩ ∈ GW := gw_mk 44 (by decide +kernel) (by decide +kernel)
theorem w45 : Cond.selects "CoderTablesModel" ⟨"CoderTablesModel", "areBoth", "(III)Z"⟩ ⟨"CoderTablesModel", "areBoth", "(III)Z"⟩ ∈ GW := gw_mk 45 (by decide +kernel) (by decide +kernel)
theorem w46 : Cond.selects "CoderTablesModel" ⟨"CoderTablesModel", "draw", "(I)I"⟩ ⟨"CoderTablesModel", "draw", "(I)I"⟩ ∈ GW := gw_mk 46 (by decide +kernel) (by decide +kernel)
theorem w47 : Cond.selects "CoderTablesModel" ⟨"CoderTablesModel", "both", "(III)I"⟩ ⟨"CoderTablesModel", "both", "(III)I"⟩ ∈ GW := gw_mk 47 (by decide +kernel) (by decide +kernel)
theorem w48 : Cond.selects "CoderTablesModel" ⟨"CoderTablesModel", "fillPair", "(I)V"⟩ ⟨"CoderTablesModel", "fillPair", "(I)V"⟩ ∈ GW := gw_mk 48 (by decide +kernel) (by decide +kernel)
theorem w49 : Cond.selects "CoderTablesModel" ⟨"CoderTablesModel", "points", "()I"⟩ ⟨"CoderTablesModel", "points", "()I"⟩ ∈ GW := gw_mk 49 (by decide +kernel) (by decide +kernel)
theorem w50 : Cond.selects "CoderTablesModel" ⟨"CoderTablesModel", "typeNumber", "(J)V"⟩ ⟨"CoderTablesModel", "typeNumber", "(J)V"⟩ ∈ GW := gw_mk 50 (by decide +kernel) (by decide +kernel)
theorem w51 : Cond.selects "CoderTablesModel" ⟨"CoderTablesModel", "type", "(I)V"⟩ ⟨"CoderTablesModel", "type", "(I)V"⟩ ∈ GW := gw_mk 51 (by decide +kernel) (by decide +kernel)
theorem w52 : Cond.initialized "CoderTablesLaw" ∈ GW := gw_mk 52 (by decide +kernel) (by decide +kernel)
theorem w53 : Cond.initialized "CoderTables" ∈ GW := gw_mk 53 (by decide +kernel) (by decide +kernel)
theorem w54 : Cond.initialized "CoderTables$Numbers" ∈ GW := gw_mk 54 (by decide +kernel) (by decide +kernel)
theorem w55 : Cond.initialized "CoderTables$Lines" ∈ GW := gw_mk 55 (by decide +kernel) (by decide +kernel)
theorem w56 : Cond.initialized "CoderTablesModel" ∈ GW := gw_mk 56 (by decide +kernel) (by decide +kernel)
theorem w57 : Cond.initialized "java/lang/Throwable" ∈ GW := gw_mk 57 (by decide +kernel) (by decide +kernel)
theorem w58 : Cond.initialized "java/lang/Exception" ∈ GW := gw_mk 58 (by decide +kernel) (by decide +kernel)
theorem w59 : Cond.initialized "java/lang/RuntimeException" ∈ GW := gw_mk 59 (by decide +kernel) (by decide +kernel)
theorem w60 : Cond.initialized "java/lang/UnsupportedOperationException" ∈ GW := gw_mk 60 (by decide +kernel) (by decide +kernel)
theorem w61 : Cond.initialized "java/lang/IndexOutOfBoundsException" ∈ GW := gw_mk 61 (by decide +kernel) (by decide +kernel)
theorem w62 : Cond.initialized "java/lang/IllegalArgumentException" ∈ GW := gw_mk 62 (by decide +kernel) (by decide +kernel)
theorem w63 : Cond.initialized "java/lang/IllegalStateException" ∈ GW := gw_mk 63 (by decide +kernel) (by decide +kernel)
theorem w64 : Cond.initialized "java/lang/Long" ∈ GW := gw_mk 64 (by decide +kernel) (by decide +kernel)
theorem w65 : Cond.initialized "java/lang/Math" ∈ GW := gw_mk 65 (by decide +kernel) (by decide +kernel)
theorem w66 : Cond.classLink "CoderTablesLaw" 8 "CoderTables" ∈ GW := gw_mk 66 (by decide +kernel) (by decide +kernel)
theorem w67 : Cond.instantiable "CoderTables" 14 ∈ GW := gw_mk 67 (by decide +kernel) (by decide +kernel)
theorem w68 : Cond.methodLink "CoderTablesLaw" 71 ⟨"CoderTables", "<init>", "()V"⟩ ∈ GW := gw_mk 68 (by decide +kernel) (by decide +kernel)
theorem w69 : Cond.instanceMethod ⟨"CoderTables", "<init>", "()V"⟩ ∈ GW := gw_mk 69 (by decide +kernel) (by decide +kernel)
theorem w70 : Cond.code ⟨"CoderTables", "<init>", "()V"⟩ prog_1_method_1_code 1 none ∈ GW := gw_mk 70 (by decide +kernel) (by decide +kernel)
theorem w71 : Cond.methodLink "CoderTables" 3 ⟨"java/lang/Object", "<init>", "()V"⟩ ∈ GW := gw_mk 71 (by decide +kernel) (by decide +kernel)
theorem w72 : Cond.instanceMethod ⟨"java/lang/Object", "<init>", "()V"⟩ ∈ GW := gw_mk 72 (by decide +kernel) (by decide +kernel)
theorem w73 : Cond.code ⟨"java/lang/Object", "<init>", "()V"⟩ object_method_1_code 1 none ∈ GW := gw_mk 73 (by decide +kernel) (by decide +kernel)
theorem w74 : Cond.classLink "CoderTables" 47 "CoderTables$Numbers" ∈ GW := gw_mk 74 (by decide +kernel) (by decide +kernel)
theorem w75 : Cond.instantiable "CoderTables$Numbers" 1 ∈ GW := gw_mk 75 (by decide +kernel) (by decide +kernel)
theorem w77 : Cond.instanceMethod ⟨"CoderTables$Numbers", "<init>", "()V"⟩ ∈ GW := gw_mk 77 (by decide +kernel) (by decide +kernel)
theorem w78 : Cond.code ⟨"CoderTables$Numbers", "<init>", "()V"⟩ prog_3_method_1_code 1 none ∈ GW := gw_mk 78 (by decide +kernel) (by decide +kernel)
theorem w79 : Cond.methodLink "CoderTables$Numbers" 1 ⟨"java/lang/Object", "<init>", "()V"⟩ ∈ GW := gw_mk 79 (by decide +kernel) (by decide +kernel)
theorem w80 : Cond.fieldLink "CoderTables$Numbers" 7 "CoderTables$Numbers" "last" "J" ∈ GW := gw_mk 80 (by decide +kernel) (by decide +kernel)
theorem w84 : Cond.arrayClass .int ∈ GW := gw_mk 84 (by decide +kernel) (by decide +kernel)
theorem w85 : Cond.classLink "CoderTables" 54 "CoderTables$Lines" ∈ GW := gw_mk 85 (by decide +kernel) (by decide +kernel)
theorem w86 : Cond.instantiable "CoderTables$Lines" 2 ∈ GW := gw_mk 86 (by decide +kernel) (by decide +kernel)
theorem w88 : Cond.instanceMethod ⟨"CoderTables$Lines", "<init>", "()V"⟩ ∈ GW := gw_mk 88 (by decide +kernel) (by decide +kernel)
theorem w89 : Cond.code ⟨"CoderTables$Lines", "<init>", "()V"⟩ prog_2_method_1_code 1 none ∈ GW := gw_mk 89 (by decide +kernel) (by decide +kernel)
theorem w90 : Cond.methodLink "CoderTables$Lines" 3 ⟨"java/lang/Object", "<init>", "()V"⟩ ∈ GW := gw_mk 90 (by decide +kernel) (by decide +kernel)
theorem w91 : Cond.fieldLink "CoderTables$Lines" 11 "CoderTables$Lines" "chars" "[C" ∈ GW := gw_mk 91 (by decide +kernel) (by decide +kernel)
theorem w93 : Cond.fieldLink "CoderTables$Lines" 15 "CoderTables$Lines" "length" "I" ∈ GW := gw_mk 93 (by decide +kernel) (by decide +kernel)
theorem w100 : Cond.arrayClass .char ∈ GW := gw_mk 100 (by decide +kernel) (by decide +kernel)
theorem w101 : Cond.fieldLink "CoderTables" 9 "CoderTables" "coders" "I" ∈ GW := gw_mk 101 (by decide +kernel) (by decide +kernel)
theorem w102 : Cond.fieldLink "CoderTables" 13 "CoderTables" "pictures" "I" ∈ GW := gw_mk 102 (by decide +kernel) (by decide +kernel)
theorem w103 : Cond.fieldLink "CoderTables" 16 "CoderTables" "pointCounts" "[I" ∈ GW := gw_mk 103 (by decide +kernel) (by decide +kernel)
theorem w104 : Cond.fieldLink "CoderTables" 20 "CoderTables" "leastBytes" "[I" ∈ GW := gw_mk 104 (by decide +kernel) (by decide +kernel)
theorem w105 : Cond.fieldLink "CoderTables" 23 "CoderTables" "pointBytes" "[I" ∈ GW := gw_mk 105 (by decide +kernel) (by decide +kernel)
theorem w106 : Cond.fieldLink "CoderTables" 26 "CoderTables" "pointErrors" "[I" ∈ GW := gw_mk 106 (by decide +kernel) (by decide +kernel)
theorem w107 : Cond.fieldLink "CoderTables" 29 "CoderTables" "failedPairs" "[I" ∈ GW := gw_mk 107 (by decide +kernel) (by decide +kernel)
theorem w108 : Cond.fieldLink "CoderTables" 32 "CoderTables" "failedCount" "I" ∈ GW := gw_mk 108 (by decide +kernel) (by decide +kernel)
theorem w109 : Cond.fieldLink "CoderTables" 35 "CoderTables" "hullSlots" "[I" ∈ GW := gw_mk 109 (by decide +kernel) (by decide +kernel)
theorem w110 : Cond.fieldLink "CoderTables" 38 "CoderTables" "hullSize" "I" ∈ GW := gw_mk 110 (by decide +kernel) (by decide +kernel)
theorem w111 : Cond.fieldLink "CoderTables" 41 "CoderTables" "leads" "[I" ∈ GW := gw_mk 111 (by decide +kernel) (by decide +kernel)
theorem w112 : Cond.fieldLink "CoderTables" 44 "CoderTables" "leadCount" "I" ∈ GW := gw_mk 112 (by decide +kernel) (by decide +kernel)
theorem w113 : Cond.fieldLink "CoderTables" 50 "CoderTables" "numbers" "LCoderTables$Numbers;" ∈ GW := gw_mk 113 (by decide +kernel) (by decide +kernel)
theorem w114 : Cond.fieldLink "CoderTables" 57 "CoderTables" "lines" "LCoderTables$Lines;" ∈ GW := gw_mk 114 (by decide +kernel) (by decide +kernel)
theorem w144 : Cond.methodLink "CoderTablesLaw" 95 ⟨"CoderTables", "failed", "()I"⟩ ∈ GW := gw_mk 144 (by decide +kernel) (by decide +kernel)
theorem w145 : Cond.instanceMethod ⟨"CoderTables", "failed", "()I"⟩ ∈ GW := gw_mk 145 (by decide +kernel) (by decide +kernel)
theorem w146 : Cond.selects "CoderTables" ⟨"CoderTables", "failed", "()I"⟩ ⟨"CoderTables", "failed", "()I"⟩ ∈ GW := gw_mk 146 (by decide +kernel) (by decide +kernel)
theorem w147 : Cond.code ⟨"CoderTables", "failed", "()I"⟩ prog_1_method_6_code 1 (some .int) ∈ GW := gw_mk 147 (by decide +kernel) (by decide +kernel)
theorem w148 : Cond.methodLink "CoderTablesLaw" 136 ⟨"CoderTables", "fill", "(J)I"⟩ ∈ GW := gw_mk 148 (by decide +kernel) (by decide +kernel)
theorem w149 : Cond.instanceMethod ⟨"CoderTables", "fill", "(J)I"⟩ ∈ GW := gw_mk 149 (by decide +kernel) (by decide +kernel)
theorem w150 : Cond.selects "CoderTables" ⟨"CoderTables", "fill", "(J)I"⟩ ⟨"CoderTables", "fill", "(J)I"⟩ ∈ GW := gw_mk 150 (by decide +kernel) (by decide +kernel)
theorem w151 : Cond.code ⟨"CoderTables", "fill", "(J)I"⟩ prog_1_method_17_code 6 (some .int) ∈ GW := gw_mk 151 (by decide +kernel) (by decide +kernel)
theorem w152 : Cond.methodLink "CoderTables" 184 ⟨"CoderTables", "emptyPairs", "()V"⟩ ∈ GW := gw_mk 152 (by decide +kernel) (by decide +kernel)
theorem w154 : Cond.instanceMethod ⟨"CoderTables", "emptyPairs", "()V"⟩ ∈ GW := gw_mk 154 (by decide +kernel) (by decide +kernel)
theorem w155 : Cond.code ⟨"CoderTables", "emptyPairs", "()V"⟩ prog_1_method_29_code 2 none ∈ GW := gw_mk 155 (by decide +kernel) (by decide +kernel)
theorem w158 : Cond.instanceMethod ⟨"CoderTables$Numbers", "start", "(J)V"⟩ ∈ GW := gw_mk 158 (by decide +kernel) (by decide +kernel)
theorem w159 : Cond.code ⟨"CoderTables$Numbers", "start", "(J)V"⟩ prog_3_method_2_code 3 none ∈ GW := gw_mk 159 (by decide +kernel) (by decide +kernel)
theorem w160 : Cond.methodLink "CoderTables" 187 ⟨"CoderTables", "fillPair", "(I)I"⟩ ∈ GW := gw_mk 160 (by decide +kernel) (by decide +kernel)
theorem w162 : Cond.instanceMethod ⟨"CoderTables", "fillPair", "(I)I"⟩ ∈ GW := gw_mk 162 (by decide +kernel) (by decide +kernel)
theorem w163 : Cond.code ⟨"CoderTables", "fillPair", "(I)I"⟩ prog_1_method_30_code 6 (some .int) ∈ GW := gw_mk 163 (by decide +kernel) (by decide +kernel)
theorem w166 : Cond.instanceMethod ⟨"CoderTables$Numbers", "below", "(I)I"⟩ ∈ GW := gw_mk 166 (by decide +kernel) (by decide +kernel)
theorem w167 : Cond.code ⟨"CoderTables$Numbers", "below", "(I)I"⟩ prog_3_method_3_code 2 (some .int) ∈ GW := gw_mk 167 (by decide +kernel) (by decide +kernel)
theorem w168 : Cond.constantLong "CoderTables$Numbers" 13 (6364136223846793005) ∈ GW := gw_mk 168 (by decide +kernel) (by decide +kernel)
theorem w169 : Cond.constantLong "CoderTables$Numbers" 15 (1442695040888963407) ∈ GW := gw_mk 169 (by decide +kernel) (by decide +kernel)
theorem w170 : Cond.methodLink "CoderTables" 95 ⟨"CoderTables", "markFailed", "(I)V"⟩ ∈ GW := gw_mk 170 (by decide +kernel) (by decide +kernel)
theorem w172 : Cond.instanceMethod ⟨"CoderTables", "markFailed", "(I)V"⟩ ∈ GW := gw_mk 172 (by decide +kernel) (by decide +kernel)
theorem w173 : Cond.code ⟨"CoderTables", "markFailed", "(I)V"⟩ prog_1_method_28_code 2 none ∈ GW := gw_mk 173 (by decide +kernel) (by decide +kernel)
theorem w174 : Cond.methodLink "CoderTables" 89 ⟨"CoderTables", "addPoint", "(III)V"⟩ ∈ GW := gw_mk 174 (by decide +kernel) (by decide +kernel)
theorem w176 : Cond.instanceMethod ⟨"CoderTables", "addPoint", "(III)V"⟩ ∈ GW := gw_mk 176 (by decide +kernel) (by decide +kernel)
theorem w177 : Cond.code ⟨"CoderTables", "addPoint", "(III)V"⟩ prog_1_method_27_code 6 none ∈ GW := gw_mk 177 (by decide +kernel) (by decide +kernel)
theorem w178 : Cond.methodLink "CoderTablesLaw" 141 ⟨"CoderTables", "text", "()I"⟩ ∈ GW := gw_mk 178 (by decide +kernel) (by decide +kernel)
theorem w179 : Cond.instanceMethod ⟨"CoderTables", "text", "()I"⟩ ∈ GW := gw_mk 179 (by decide +kernel) (by decide +kernel)
theorem w180 : Cond.selects "CoderTables" ⟨"CoderTables", "text", "()I"⟩ ⟨"CoderTables", "text", "()I"⟩ ∈ GW := gw_mk 180 (by decide +kernel) (by decide +kernel)
theorem w181 : Cond.code ⟨"CoderTables", "text", "()I"⟩ prog_1_method_18_code 2 (some .int) ∈ GW := gw_mk 181 (by decide +kernel) (by decide +kernel)
theorem w184 : Cond.instanceMethod ⟨"CoderTables$Lines", "start", "()V"⟩ ∈ GW := gw_mk 184 (by decide +kernel) (by decide +kernel)
theorem w185 : Cond.code ⟨"CoderTables$Lines", "start", "()V"⟩ prog_2_method_2_code 1 none ∈ GW := gw_mk 185 (by decide +kernel) (by decide +kernel)
theorem w188 : Cond.instanceMethod ⟨"CoderTables$Lines", "putNumber", "(J)V"⟩ ∈ GW := gw_mk 188 (by decide +kernel) (by decide +kernel)
theorem w189 : Cond.code ⟨"CoderTables$Lines", "putNumber", "(J)V"⟩ prog_2_method_4_code 6 none ∈ GW := gw_mk 189 (by decide +kernel) (by decide +kernel)
theorem w190 : Cond.constantLong "CoderTables$Lines" 19 (10) ∈ GW := gw_mk 190 (by decide +kernel) (by decide +kernel)
theorem w191 : Cond.constantLong "CoderTables$Lines" 21 (48) ∈ GW := gw_mk 191 (by decide +kernel) (by decide +kernel)
theorem w192 : Cond.methodLink "CoderTables$Lines" 23 ⟨"CoderTables$Lines", "put", "(C)V"⟩ ∈ GW := gw_mk 192 (by decide +kernel) (by decide +kernel)
theorem w194 : Cond.instanceMethod ⟨"CoderTables$Lines", "put", "(C)V"⟩ ∈ GW := gw_mk 194 (by decide +kernel) (by decide +kernel)
theorem w195 : Cond.code ⟨"CoderTables$Lines", "put", "(C)V"⟩ prog_2_method_3_code 2 none ∈ GW := gw_mk 195 (by decide +kernel) (by decide +kernel)
theorem w197 : Cond.methodLink "CoderTables" 117 ⟨"CoderTables", "countedOf", "(I)I"⟩ ∈ GW := gw_mk 197 (by decide +kernel) (by decide +kernel)
theorem w199 : Cond.instanceMethod ⟨"CoderTables", "countedOf", "(I)I"⟩ ∈ GW := gw_mk 199 (by decide +kernel) (by decide +kernel)
theorem w200 : Cond.code ⟨"CoderTables", "countedOf", "(I)I"⟩ prog_1_method_34_code 4 (some .int) ∈ GW := gw_mk 200 (by decide +kernel) (by decide +kernel)
theorem w201 : Cond.methodLink "CoderTables" 224 ⟨"CoderTables", "isCounted", "(I)Z"⟩ ∈ GW := gw_mk 201 (by decide +kernel) (by decide +kernel)
theorem w203 : Cond.instanceMethod ⟨"CoderTables", "isCounted", "(I)Z"⟩ ∈ GW := gw_mk 203 (by decide +kernel) (by decide +kernel)
theorem w204 : Cond.code ⟨"CoderTables", "isCounted", "(I)Z"⟩ prog_1_method_26_code 2 (some .boolean) ∈ GW := gw_mk 204 (by decide +kernel) (by decide +kernel)
theorem w205 : Cond.methodLink "CoderTables" 123 ⟨"CoderTables", "sumOf", "(I)J"⟩ ∈ GW := gw_mk 205 (by decide +kernel) (by decide +kernel)
theorem w207 : Cond.instanceMethod ⟨"CoderTables", "sumOf", "(I)J"⟩ ∈ GW := gw_mk 207 (by decide +kernel) (by decide +kernel)
theorem w208 : Cond.code ⟨"CoderTables", "sumOf", "(I)J"⟩ prog_1_method_35_code 6 (some .long) ∈ GW := gw_mk 208 (by decide +kernel) (by decide +kernel)
theorem w209 : Cond.methodLink "CoderTables" 134 ⟨"CoderTables", "rankOf", "(I)I"⟩ ∈ GW := gw_mk 209 (by decide +kernel) (by decide +kernel)
theorem w211 : Cond.instanceMethod ⟨"CoderTables", "rankOf", "(I)I"⟩ ∈ GW := gw_mk 211 (by decide +kernel) (by decide +kernel)
theorem w212 : Cond.code ⟨"CoderTables", "rankOf", "(I)I"⟩ prog_1_method_36_code 12 (some .int) ∈ GW := gw_mk 212 (by decide +kernel) (by decide +kernel)
theorem w213 : Cond.methodLink "CoderTables" 228 ⟨"java/lang/Long", "compare", "(JJ)I"⟩ ∈ GW := gw_mk 213 (by decide +kernel) (by decide +kernel)
theorem w214 : Cond.static ⟨"java/lang/Long", "compare", "(JJ)I"⟩ ∈ GW := gw_mk 214 (by decide +kernel) (by decide +kernel)
theorem w215 : Cond.code ⟨"java/lang/Long", "compare", "(JJ)I"⟩ prog_10_method_42_code 4 (some .int) ∈ GW := gw_mk 215 (by decide +kernel) (by decide +kernel)
theorem w216 : Cond.methodLink "CoderTablesLaw" 148 ⟨"CoderTables", "told", "(I)I"⟩ ∈ GW := gw_mk 216 (by decide +kernel) (by decide +kernel)
theorem w217 : Cond.instanceMethod ⟨"CoderTables", "told", "(I)I"⟩ ∈ GW := gw_mk 217 (by decide +kernel) (by decide +kernel)
theorem w218 : Cond.selects "CoderTables" ⟨"CoderTables", "told", "(I)I"⟩ ⟨"CoderTables", "told", "(I)I"⟩ ∈ GW := gw_mk 218 (by decide +kernel) (by decide +kernel)
theorem w219 : Cond.code ⟨"CoderTables", "told", "(I)I"⟩ prog_1_method_20_code 2 (some .int) ∈ GW := gw_mk 219 (by decide +kernel) (by decide +kernel)
theorem w220 : Cond.methodLink "CoderTables" 208 ⟨"CoderTables", "allPoints", "()I"⟩ ∈ GW := gw_mk 220 (by decide +kernel) (by decide +kernel)
theorem w222 : Cond.instanceMethod ⟨"CoderTables", "allPoints", "()I"⟩ ∈ GW := gw_mk 222 (by decide +kernel) (by decide +kernel)
theorem w223 : Cond.code ⟨"CoderTables", "allPoints", "()I"⟩ prog_1_method_31_code 3 (some .int) ∈ GW := gw_mk 223 (by decide +kernel) (by decide +kernel)
theorem w224 : Cond.methodLink "CoderTables" 212 ⟨"CoderTables", "allCounted", "()I"⟩ ∈ GW := gw_mk 224 (by decide +kernel) (by decide +kernel)
theorem w226 : Cond.instanceMethod ⟨"CoderTables", "allCounted", "()I"⟩ ∈ GW := gw_mk 226 (by decide +kernel) (by decide +kernel)
theorem w227 : Cond.code ⟨"CoderTables", "allCounted", "()I"⟩ prog_1_method_32_code 3 (some .int) ∈ GW := gw_mk 227 (by decide +kernel) (by decide +kernel)
theorem w228 : Cond.methodLink "CoderTablesLaw" 152 ⟨"CoderTables", "clear", "()V"⟩ ∈ GW := gw_mk 228 (by decide +kernel) (by decide +kernel)
theorem w229 : Cond.instanceMethod ⟨"CoderTables", "clear", "()V"⟩ ∈ GW := gw_mk 229 (by decide +kernel) (by decide +kernel)
theorem w230 : Cond.selects "CoderTables" ⟨"CoderTables", "clear", "()V"⟩ ⟨"CoderTables", "clear", "()V"⟩ ∈ GW := gw_mk 230 (by decide +kernel) (by decide +kernel)
theorem w231 : Cond.code ⟨"CoderTables", "clear", "()V"⟩ prog_1_method_21_code 1 none ∈ GW := gw_mk 231 (by decide +kernel) (by decide +kernel)
theorem w232 : Cond.methodLink "CoderTablesLaw" 75 ⟨"CoderTablesLaw", "coder", "(LCoderTables;[J)I"⟩ ∈ GW := gw_mk 232 (by decide +kernel) (by decide +kernel)
theorem w233 : Cond.static ⟨"CoderTablesLaw", "coder", "(LCoderTables;[J)I"⟩ ∈ GW := gw_mk 233 (by decide +kernel) (by decide +kernel)
theorem w234 : Cond.codeWith ⟨"CoderTablesLaw", "coder", "(LCoderTables;[J)I"⟩ method_3_code 3 (some .int) [(0, 8, 11, 13)] ∈ GW := gw_mk 234 (by decide +kernel) (by decide +kernel)
theorem w235 : Cond.classLink "CoderTablesLaw" 13 "java/lang/UnsupportedOperationException" ∈ GW := gw_mk 235 (by decide +kernel) (by decide +kernel)
theorem w236 : Cond.methodLink "CoderTablesLaw" 7 ⟨"CoderTables", "coder", "()I"⟩ ∈ GW := gw_mk 236 (by decide +kernel) (by decide +kernel)
theorem w237 : Cond.instanceMethod ⟨"CoderTables", "coder", "()I"⟩ ∈ GW := gw_mk 237 (by decide +kernel) (by decide +kernel)
theorem w238 : Cond.selects "CoderTables" ⟨"CoderTables", "coder", "()I"⟩ ⟨"CoderTables", "coder", "()I"⟩ ∈ GW := gw_mk 238 (by decide +kernel) (by decide +kernel)
theorem w239 : Cond.code ⟨"CoderTables", "coder", "()I"⟩ prog_1_method_2_code 1 (some .int) ∈ GW := gw_mk 239 (by decide +kernel) (by decide +kernel)
theorem w240 : Cond.classLink "CoderTables" 61 "java/lang/UnsupportedOperationException" ∈ GW := gw_mk 240 (by decide +kernel) (by decide +kernel)
theorem w241 : Cond.instantiable "java/lang/UnsupportedOperationException" 6 ∈ GW := gw_mk 241 (by decide +kernel) (by decide +kernel)
theorem w249 : Cond.selects "java/lang/UnsupportedOperationException" ⟨"java/lang/Throwable", "fillInStackTrace", "(I)Ljava/lang/Throwable;"⟩ ⟨"java/lang/Throwable", "fillInStackTrace", "(I)Ljava/lang/Throwable;"⟩ ∈ GW := gw_mk 249 (by decide +kernel) (by decide +kernel)
theorem w250 : Cond.selects "java/lang/UnsupportedOperationException" ⟨"java/lang/Throwable", "fillInStackTrace", "()Ljava/lang/Throwable;"⟩ ⟨"java/lang/Throwable", "fillInStackTrace", "()Ljava/lang/Throwable;"⟩ ∈ GW := gw_mk 250 (by decide +kernel) (by decide +kernel)
theorem w261 : Cond.fieldLink "java/lang/Throwable" 198 "java/lang/Throwable" "backtrace" "Ljava/lang/Object;" ∈ GW := gw_mk 261 (by decide +kernel) (by decide +kernel)
theorem w263 : Cond.instanceMethod ⟨"java/lang/Throwable", "<init>", "()V"⟩ ∈ GW := gw_mk 263 (by decide +kernel) (by decide +kernel)
theorem w264 : Cond.code ⟨"java/lang/Throwable", "<init>", "()V"⟩ prog_14_method_1_code 1 none ∈ GW := gw_mk 264 (by decide +kernel) (by decide +kernel)
theorem w265 : Cond.methodLink "java/lang/Throwable" 1 ⟨"java/lang/Object", "<init>", "()V"⟩ ∈ GW := gw_mk 265 (by decide +kernel) (by decide +kernel)
theorem w266 : Cond.fieldLink "java/lang/Throwable" 13 "java/lang/Throwable" "UNASSIGNED_STACK" "[Ljava/lang/StackTraceElement;" ∈ GW := gw_mk 266 (by decide +kernel) (by decide +kernel)
theorem w268 : Cond.fieldLink "java/lang/Throwable" 20 "java/lang/Throwable" "SUPPRESSED_SENTINEL" "Ljava/util/List;" ∈ GW := gw_mk 268 (by decide +kernel) (by decide +kernel)
theorem w270 : Cond.methodLink "java/lang/Throwable" 27 ⟨"java/lang/Throwable", "fillInStackTrace", "()Ljava/lang/Throwable;"⟩ ∈ GW := gw_mk 270 (by decide +kernel) (by decide +kernel)
theorem w271 : Cond.instanceMethod ⟨"java/lang/Throwable", "fillInStackTrace", "()Ljava/lang/Throwable;"⟩ ∈ GW := gw_mk 271 (by decide +kernel) (by decide +kernel)
theorem w273 : Cond.selects "java/lang/IllegalArgumentException" ⟨"java/lang/Throwable", "fillInStackTrace", "()Ljava/lang/Throwable;"⟩ ⟨"java/lang/Throwable", "fillInStackTrace", "()Ljava/lang/Throwable;"⟩ ∈ GW := gw_mk 273 (by decide +kernel) (by decide +kernel)
theorem w274 : Cond.selects "java/lang/IllegalStateException" ⟨"java/lang/Throwable", "fillInStackTrace", "()Ljava/lang/Throwable;"⟩ ⟨"java/lang/Throwable", "fillInStackTrace", "()Ljava/lang/Throwable;"⟩ ∈ GW := gw_mk 274 (by decide +kernel) (by decide +kernel)
theorem w275 : Cond.selects "java/lang/IndexOutOfBoundsException" ⟨"java/lang/Throwable", "fillInStackTrace", "()Ljava/lang/Throwable;"⟩ ⟨"java/lang/Throwable", "fillInStackTrace", "()Ljava/lang/Throwable;"⟩ ∈ GW := gw_mk 275 (by decide +kernel) (by decide +kernel)
theorem w277 : Cond.methodLink "java/lang/Throwable" 202 ⟨"java/lang/Throwable", "fillInStackTrace", "(I)Ljava/lang/Throwable;"⟩ ∈ GW := gw_mk 277 (by decide +kernel) (by decide +kernel)
theorem w279 : Cond.instanceMethod ⟨"java/lang/Throwable", "fillInStackTrace", "(I)Ljava/lang/Throwable;"⟩ ∈ GW := gw_mk 279 (by decide +kernel) (by decide +kernel)
theorem w280 : Cond.instantiable "java/lang/Throwable" 6 ∈ GW := gw_mk 280 (by decide +kernel) (by decide +kernel)
theorem w283 : Cond.methodLink "CoderTables" 65 ⟨"java/lang/UnsupportedOperationException", "<init>", "(Ljava/lang/String;)V"⟩ ∈ GW := gw_mk 283 (by decide +kernel) (by decide +kernel)
theorem w284 : Cond.instanceMethod ⟨"java/lang/UnsupportedOperationException", "<init>", "(Ljava/lang/String;)V"⟩ ∈ GW := gw_mk 284 (by decide +kernel) (by decide +kernel)
theorem w285 : Cond.code ⟨"java/lang/UnsupportedOperationException", "<init>", "(Ljava/lang/String;)V"⟩ prog_15_method_2_code 2 none ∈ GW := gw_mk 285 (by decide +kernel) (by decide +kernel)
theorem w286 : Cond.methodLink "java/lang/UnsupportedOperationException" 7 ⟨"java/lang/RuntimeException", "<init>", "(Ljava/lang/String;)V"⟩ ∈ GW := gw_mk 286 (by decide +kernel) (by decide +kernel)
theorem w287 : Cond.instanceMethod ⟨"java/lang/RuntimeException", "<init>", "(Ljava/lang/String;)V"⟩ ∈ GW := gw_mk 287 (by decide +kernel) (by decide +kernel)
theorem w288 : Cond.code ⟨"java/lang/RuntimeException", "<init>", "(Ljava/lang/String;)V"⟩ prog_12_method_2_code 2 none ∈ GW := gw_mk 288 (by decide +kernel) (by decide +kernel)
theorem w289 : Cond.methodLink "java/lang/RuntimeException" 7 ⟨"java/lang/Exception", "<init>", "(Ljava/lang/String;)V"⟩ ∈ GW := gw_mk 289 (by decide +kernel) (by decide +kernel)
theorem w290 : Cond.instanceMethod ⟨"java/lang/Exception", "<init>", "(Ljava/lang/String;)V"⟩ ∈ GW := gw_mk 290 (by decide +kernel) (by decide +kernel)
theorem w291 : Cond.code ⟨"java/lang/Exception", "<init>", "(Ljava/lang/String;)V"⟩ prog_6_method_2_code 2 none ∈ GW := gw_mk 291 (by decide +kernel) (by decide +kernel)
theorem w292 : Cond.methodLink "java/lang/Exception" 7 ⟨"java/lang/Throwable", "<init>", "(Ljava/lang/String;)V"⟩ ∈ GW := gw_mk 292 (by decide +kernel) (by decide +kernel)
theorem w293 : Cond.instanceMethod ⟨"java/lang/Throwable", "<init>", "(Ljava/lang/String;)V"⟩ ∈ GW := gw_mk 293 (by decide +kernel) (by decide +kernel)
theorem w294 : Cond.code ⟨"java/lang/Throwable", "<init>", "(Ljava/lang/String;)V"⟩ prog_14_method_2_code 2 none ∈ GW := gw_mk 294 (by decide +kernel) (by decide +kernel)
theorem w296 : Cond.fieldLink "java/lang/Throwable" 31 "java/lang/Throwable" "detailMessage" "Ljava/lang/String;" ∈ GW := gw_mk 296 (by decide +kernel) (by decide +kernel)
theorem w297 : Cond.fieldLink "java/lang/Throwable" 7 "java/lang/Throwable" "cause" "Ljava/lang/Throwable;" ∈ GW := gw_mk 297 (by decide +kernel) (by decide +kernel)
theorem w298 : Cond.fieldLink "java/lang/Throwable" 17 "java/lang/Throwable" "stackTrace" "[Ljava/lang/StackTraceElement;" ∈ GW := gw_mk 298 (by decide +kernel) (by decide +kernel)
theorem w299 : Cond.fieldLink "java/lang/Throwable" 24 "java/lang/Throwable" "suppressedExceptions" "Ljava/util/List;" ∈ GW := gw_mk 299 (by decide +kernel) (by decide +kernel)
theorem w308 : Cond.arrayClass .byte ∈ GW := gw_mk 308 (by decide +kernel) (by decide +kernel)
theorem w309 : Cond.methodLink "CoderTablesLaw" 84 ⟨"CoderTablesLaw", "picture", "(LCoderTables;[J)I"⟩ ∈ GW := gw_mk 309 (by decide +kernel) (by decide +kernel)
theorem w310 : Cond.static ⟨"CoderTablesLaw", "picture", "(LCoderTables;[J)I"⟩ ∈ GW := gw_mk 310 (by decide +kernel) (by decide +kernel)
theorem w311 : Cond.codeWith ⟨"CoderTablesLaw", "picture", "(LCoderTables;[J)I"⟩ method_4_code 3 (some .int) [(0, 8, 11, 13)] ∈ GW := gw_mk 311 (by decide +kernel) (by decide +kernel)
theorem w312 : Cond.methodLink "CoderTablesLaw" 15 ⟨"CoderTables", "picture", "()I"⟩ ∈ GW := gw_mk 312 (by decide +kernel) (by decide +kernel)
theorem w313 : Cond.instanceMethod ⟨"CoderTables", "picture", "()I"⟩ ∈ GW := gw_mk 313 (by decide +kernel) (by decide +kernel)
theorem w314 : Cond.selects "CoderTables" ⟨"CoderTables", "picture", "()I"⟩ ⟨"CoderTables", "picture", "()I"⟩ ∈ GW := gw_mk 314 (by decide +kernel) (by decide +kernel)
theorem w315 : Cond.code ⟨"CoderTables", "picture", "()I"⟩ prog_1_method_3_code 1 (some .int) ∈ GW := gw_mk 315 (by decide +kernel) (by decide +kernel)
theorem w317 : Cond.methodLink "CoderTablesLaw" 87 ⟨"CoderTablesLaw", "point", "(LCoderTables;IIII[J)I"⟩ ∈ GW := gw_mk 317 (by decide +kernel) (by decide +kernel)
theorem w318 : Cond.static ⟨"CoderTablesLaw", "point", "(LCoderTables;IIII[J)I"⟩ ∈ GW := gw_mk 318 (by decide +kernel) (by decide +kernel)
theorem w319 : Cond.codeWith ⟨"CoderTablesLaw", "point", "(LCoderTables;IIII[J)I"⟩ method_5_code 7 (some .int) [(0, 14, 17, 22), (0, 14, 21, 24), (0, 14, 25, 26), (0, 14, 29, 13)] ∈ GW := gw_mk 319 (by decide +kernel) (by decide +kernel)
theorem w320 : Cond.classLink "CoderTablesLaw" 22 "java/lang/IndexOutOfBoundsException" ∈ GW := gw_mk 320 (by decide +kernel) (by decide +kernel)
theorem w321 : Cond.classLink "CoderTablesLaw" 24 "java/lang/IllegalArgumentException" ∈ GW := gw_mk 321 (by decide +kernel) (by decide +kernel)
theorem w322 : Cond.classLink "CoderTablesLaw" 26 "java/lang/IllegalStateException" ∈ GW := gw_mk 322 (by decide +kernel) (by decide +kernel)
theorem w323 : Cond.methodLink "CoderTablesLaw" 18 ⟨"CoderTables", "point", "(IIII)I"⟩ ∈ GW := gw_mk 323 (by decide +kernel) (by decide +kernel)
theorem w324 : Cond.instanceMethod ⟨"CoderTables", "point", "(IIII)I"⟩ ∈ GW := gw_mk 324 (by decide +kernel) (by decide +kernel)
theorem w325 : Cond.selects "CoderTables" ⟨"CoderTables", "point", "(IIII)I"⟩ ⟨"CoderTables", "point", "(IIII)I"⟩ ∈ GW := gw_mk 325 (by decide +kernel) (by decide +kernel)
theorem w326 : Cond.code ⟨"CoderTables", "point", "(IIII)I"⟩ prog_1_method_4_code 6 (some .int) ∈ GW := gw_mk 326 (by decide +kernel) (by decide +kernel)
theorem w327 : Cond.methodLink "CoderTables" 70 ⟨"CoderTables", "pairOf", "(II)I"⟩ ∈ GW := gw_mk 327 (by decide +kernel) (by decide +kernel)
theorem w329 : Cond.instanceMethod ⟨"CoderTables", "pairOf", "(II)I"⟩ ∈ GW := gw_mk 329 (by decide +kernel) (by decide +kernel)
theorem w330 : Cond.code ⟨"CoderTables", "pairOf", "(II)I"⟩ prog_1_method_25_code 3 (some .int) ∈ GW := gw_mk 330 (by decide +kernel) (by decide +kernel)
theorem w331 : Cond.methodLink "CoderTables" 114 ⟨"CoderTables", "needCoder", "(I)V"⟩ ∈ GW := gw_mk 331 (by decide +kernel) (by decide +kernel)
theorem w333 : Cond.instanceMethod ⟨"CoderTables", "needCoder", "(I)V"⟩ ∈ GW := gw_mk 333 (by decide +kernel) (by decide +kernel)
theorem w334 : Cond.code ⟨"CoderTables", "needCoder", "(I)V"⟩ prog_1_method_22_code 2 none ∈ GW := gw_mk 334 (by decide +kernel) (by decide +kernel)
theorem w335 : Cond.classLink "CoderTables" 99 "java/lang/IndexOutOfBoundsException" ∈ GW := gw_mk 335 (by decide +kernel) (by decide +kernel)
theorem w336 : Cond.instantiable "java/lang/IndexOutOfBoundsException" 6 ∈ GW := gw_mk 336 (by decide +kernel) (by decide +kernel)
theorem w338 : Cond.selects "java/lang/IndexOutOfBoundsException" ⟨"java/lang/Throwable", "fillInStackTrace", "(I)Ljava/lang/Throwable;"⟩ ⟨"java/lang/Throwable", "fillInStackTrace", "(I)Ljava/lang/Throwable;"⟩ ∈ GW := gw_mk 338 (by decide +kernel) (by decide +kernel)
theorem w345 : Cond.methodLink "CoderTables" 103 ⟨"java/lang/IndexOutOfBoundsException", "<init>", "(Ljava/lang/String;)V"⟩ ∈ GW := gw_mk 345 (by decide +kernel) (by decide +kernel)
theorem w346 : Cond.instanceMethod ⟨"java/lang/IndexOutOfBoundsException", "<init>", "(Ljava/lang/String;)V"⟩ ∈ GW := gw_mk 346 (by decide +kernel) (by decide +kernel)
theorem w347 : Cond.code ⟨"java/lang/IndexOutOfBoundsException", "<init>", "(Ljava/lang/String;)V"⟩ prog_9_method_2_code 2 none ∈ GW := gw_mk 347 (by decide +kernel) (by decide +kernel)
theorem w348 : Cond.methodLink "java/lang/IndexOutOfBoundsException" 7 ⟨"java/lang/RuntimeException", "<init>", "(Ljava/lang/String;)V"⟩ ∈ GW := gw_mk 348 (by decide +kernel) (by decide +kernel)
theorem w351 : Cond.methodLink "CoderTables" 106 ⟨"CoderTables", "needPicture", "(I)V"⟩ ∈ GW := gw_mk 351 (by decide +kernel) (by decide +kernel)
theorem w353 : Cond.instanceMethod ⟨"CoderTables", "needPicture", "(I)V"⟩ ∈ GW := gw_mk 353 (by decide +kernel) (by decide +kernel)
theorem w354 : Cond.code ⟨"CoderTables", "needPicture", "(I)V"⟩ prog_1_method_23_code 2 none ∈ GW := gw_mk 354 (by decide +kernel) (by decide +kernel)
theorem w356 : Cond.constant "CoderTables" 74 (1000000000) ∈ GW := gw_mk 356 (by decide +kernel) (by decide +kernel)
theorem w357 : Cond.classLink "CoderTables" 75 "java/lang/IllegalArgumentException" ∈ GW := gw_mk 357 (by decide +kernel) (by decide +kernel)
theorem w358 : Cond.instantiable "java/lang/IllegalArgumentException" 6 ∈ GW := gw_mk 358 (by decide +kernel) (by decide +kernel)
theorem w360 : Cond.selects "java/lang/IllegalArgumentException" ⟨"java/lang/Throwable", "fillInStackTrace", "(I)Ljava/lang/Throwable;"⟩ ⟨"java/lang/Throwable", "fillInStackTrace", "(I)Ljava/lang/Throwable;"⟩ ∈ GW := gw_mk 360 (by decide +kernel) (by decide +kernel)
theorem w367 : Cond.methodLink "CoderTables" 79 ⟨"java/lang/IllegalArgumentException", "<init>", "(Ljava/lang/String;)V"⟩ ∈ GW := gw_mk 367 (by decide +kernel) (by decide +kernel)
theorem w368 : Cond.instanceMethod ⟨"java/lang/IllegalArgumentException", "<init>", "(Ljava/lang/String;)V"⟩ ∈ GW := gw_mk 368 (by decide +kernel) (by decide +kernel)
theorem w369 : Cond.code ⟨"java/lang/IllegalArgumentException", "<init>", "(Ljava/lang/String;)V"⟩ prog_7_method_2_code 2 none ∈ GW := gw_mk 369 (by decide +kernel) (by decide +kernel)
theorem w370 : Cond.methodLink "java/lang/IllegalArgumentException" 7 ⟨"java/lang/RuntimeException", "<init>", "(Ljava/lang/String;)V"⟩ ∈ GW := gw_mk 370 (by decide +kernel) (by decide +kernel)
theorem w374 : Cond.classLink "CoderTables" 82 "java/lang/IllegalStateException" ∈ GW := gw_mk 374 (by decide +kernel) (by decide +kernel)
theorem w375 : Cond.instantiable "java/lang/IllegalStateException" 6 ∈ GW := gw_mk 375 (by decide +kernel) (by decide +kernel)
theorem w377 : Cond.selects "java/lang/IllegalStateException" ⟨"java/lang/Throwable", "fillInStackTrace", "(I)Ljava/lang/Throwable;"⟩ ⟨"java/lang/Throwable", "fillInStackTrace", "(I)Ljava/lang/Throwable;"⟩ ∈ GW := gw_mk 377 (by decide +kernel) (by decide +kernel)
theorem w384 : Cond.methodLink "CoderTables" 86 ⟨"java/lang/IllegalStateException", "<init>", "(Ljava/lang/String;)V"⟩ ∈ GW := gw_mk 384 (by decide +kernel) (by decide +kernel)
theorem w385 : Cond.instanceMethod ⟨"java/lang/IllegalStateException", "<init>", "(Ljava/lang/String;)V"⟩ ∈ GW := gw_mk 385 (by decide +kernel) (by decide +kernel)
theorem w386 : Cond.code ⟨"java/lang/IllegalStateException", "<init>", "(Ljava/lang/String;)V"⟩ prog_8_method_2_code 2 none ∈ GW := gw_mk 386 (by decide +kernel) (by decide +kernel)
theorem w387 : Cond.methodLink "java/lang/IllegalStateException" 7 ⟨"java/lang/RuntimeException", "<init>", "(Ljava/lang/String;)V"⟩ ∈ GW := gw_mk 387 (by decide +kernel) (by decide +kernel)
theorem w391 : Cond.methodLink "CoderTablesLaw" 91 ⟨"CoderTablesLaw", "fails", "(LCoderTables;II[J)I"⟩ ∈ GW := gw_mk 391 (by decide +kernel) (by decide +kernel)
theorem w392 : Cond.static ⟨"CoderTablesLaw", "fails", "(LCoderTables;II[J)I"⟩ ∈ GW := gw_mk 392 (by decide +kernel) (by decide +kernel)
theorem w393 : Cond.codeWith ⟨"CoderTablesLaw", "fails", "(LCoderTables;II[J)I"⟩ method_6_code 5 (some .int) [(0, 10, 13, 22), (0, 10, 17, 26)] ∈ GW := gw_mk 393 (by decide +kernel) (by decide +kernel)
theorem w394 : Cond.methodLink "CoderTablesLaw" 28 ⟨"CoderTables", "fails", "(II)I"⟩ ∈ GW := gw_mk 394 (by decide +kernel) (by decide +kernel)
theorem w395 : Cond.instanceMethod ⟨"CoderTables", "fails", "(II)I"⟩ ∈ GW := gw_mk 395 (by decide +kernel) (by decide +kernel)
theorem w396 : Cond.selects "CoderTables" ⟨"CoderTables", "fails", "(II)I"⟩ ⟨"CoderTables", "fails", "(II)I"⟩ ∈ GW := gw_mk 396 (by decide +kernel) (by decide +kernel)
theorem w397 : Cond.code ⟨"CoderTables", "fails", "(II)I"⟩ prog_1_method_5_code 5 (some .int) ∈ GW := gw_mk 397 (by decide +kernel) (by decide +kernel)
theorem w399 : Cond.methodLink "CoderTablesLaw" 99 ⟨"CoderTablesLaw", "failing", "(LCoderTables;II[J)I"⟩ ∈ GW := gw_mk 399 (by decide +kernel) (by decide +kernel)
theorem w400 : Cond.static ⟨"CoderTablesLaw", "failing", "(LCoderTables;II[J)I"⟩ ∈ GW := gw_mk 400 (by decide +kernel) (by decide +kernel)
theorem w401 : Cond.codeWith ⟨"CoderTablesLaw", "failing", "(LCoderTables;II[J)I"⟩ method_7_code 5 (some .int) [(0, 10, 13, 22), (0, 10, 17, 24)] ∈ GW := gw_mk 401 (by decide +kernel) (by decide +kernel)
theorem w402 : Cond.methodLink "CoderTablesLaw" 32 ⟨"CoderTables", "failing", "(II)I"⟩ ∈ GW := gw_mk 402 (by decide +kernel) (by decide +kernel)
theorem w403 : Cond.instanceMethod ⟨"CoderTables", "failing", "(II)I"⟩ ∈ GW := gw_mk 403 (by decide +kernel) (by decide +kernel)
theorem w404 : Cond.selects "CoderTables" ⟨"CoderTables", "failing", "(II)I"⟩ ⟨"CoderTables", "failing", "(II)I"⟩ ∈ GW := gw_mk 404 (by decide +kernel) (by decide +kernel)
theorem w405 : Cond.code ⟨"CoderTables", "failing", "(II)I"⟩ prog_1_method_7_code 4 (some .int) ∈ GW := gw_mk 405 (by decide +kernel) (by decide +kernel)
theorem w408 : Cond.methodLink "CoderTablesLaw" 102 ⟨"CoderTablesLaw", "least", "(LCoderTables;II[J)I"⟩ ∈ GW := gw_mk 408 (by decide +kernel) (by decide +kernel)
theorem w409 : Cond.static ⟨"CoderTablesLaw", "least", "(LCoderTables;II[J)I"⟩ ∈ GW := gw_mk 409 (by decide +kernel) (by decide +kernel)
theorem w410 : Cond.codeWith ⟨"CoderTablesLaw", "least", "(LCoderTables;II[J)I"⟩ method_8_code 5 (some .int) [(0, 10, 13, 22), (0, 10, 17, 24)] ∈ GW := gw_mk 410 (by decide +kernel) (by decide +kernel)
theorem w411 : Cond.methodLink "CoderTablesLaw" 35 ⟨"CoderTables", "least", "(II)I"⟩ ∈ GW := gw_mk 411 (by decide +kernel) (by decide +kernel)
theorem w412 : Cond.instanceMethod ⟨"CoderTables", "least", "(II)I"⟩ ∈ GW := gw_mk 412 (by decide +kernel) (by decide +kernel)
theorem w413 : Cond.selects "CoderTables" ⟨"CoderTables", "least", "(II)I"⟩ ⟨"CoderTables", "least", "(II)I"⟩ ∈ GW := gw_mk 413 (by decide +kernel) (by decide +kernel)
theorem w414 : Cond.code ⟨"CoderTables", "least", "(II)I"⟩ prog_1_method_8_code 7 (some .int) ∈ GW := gw_mk 414 (by decide +kernel) (by decide +kernel)
theorem w416 : Cond.methodLink "CoderTables" 111 ⟨"CoderTables", "leastBytesWithin", "(II)I"⟩ ∈ GW := gw_mk 416 (by decide +kernel) (by decide +kernel)
theorem w418 : Cond.instanceMethod ⟨"CoderTables", "leastBytesWithin", "(II)I"⟩ ∈ GW := gw_mk 418 (by decide +kernel) (by decide +kernel)
theorem w419 : Cond.code ⟨"CoderTables", "leastBytesWithin", "(II)I"⟩ prog_1_method_33_code 7 (some .int) ∈ GW := gw_mk 419 (by decide +kernel) (by decide +kernel)
theorem w420 : Cond.methodLink "CoderTablesLaw" 105 ⟨"CoderTablesLaw", "sum", "(LCoderTables;I[J)I"⟩ ∈ GW := gw_mk 420 (by decide +kernel) (by decide +kernel)
theorem w421 : Cond.static ⟨"CoderTablesLaw", "sum", "(LCoderTables;I[J)I"⟩ ∈ GW := gw_mk 421 (by decide +kernel) (by decide +kernel)
theorem w422 : Cond.codeWith ⟨"CoderTablesLaw", "sum", "(LCoderTables;I[J)I"⟩ method_9_code 4 (some .int) [(0, 8, 11, 22)] ∈ GW := gw_mk 422 (by decide +kernel) (by decide +kernel)
theorem w423 : Cond.methodLink "CoderTablesLaw" 38 ⟨"CoderTables", "sum", "(I)J"⟩ ∈ GW := gw_mk 423 (by decide +kernel) (by decide +kernel)
theorem w424 : Cond.instanceMethod ⟨"CoderTables", "sum", "(I)J"⟩ ∈ GW := gw_mk 424 (by decide +kernel) (by decide +kernel)
theorem w425 : Cond.selects "CoderTables" ⟨"CoderTables", "sum", "(I)J"⟩ ⟨"CoderTables", "sum", "(I)J"⟩ ∈ GW := gw_mk 425 (by decide +kernel) (by decide +kernel)
theorem w426 : Cond.code ⟨"CoderTables", "sum", "(I)J"⟩ prog_1_method_9_code 2 (some .long) ∈ GW := gw_mk 426 (by decide +kernel) (by decide +kernel)
theorem w427 : Cond.constantLong "CoderTables" 121 (-1) ∈ GW := gw_mk 427 (by decide +kernel) (by decide +kernel)
theorem w428 : Cond.methodLink "CoderTablesLaw" 109 ⟨"CoderTablesLaw", "mean", "(LCoderTables;IZ[J)I"⟩ ∈ GW := gw_mk 428 (by decide +kernel) (by decide +kernel)
theorem w429 : Cond.static ⟨"CoderTablesLaw", "mean", "(LCoderTables;IZ[J)I"⟩ ∈ GW := gw_mk 429 (by decide +kernel) (by decide +kernel)
theorem w430 : Cond.codeWith ⟨"CoderTablesLaw", "mean", "(LCoderTables;IZ[J)I"⟩ method_10_code 5 (some .int) [(0, 9, 12, 22), (0, 9, 16, 26)] ∈ GW := gw_mk 430 (by decide +kernel) (by decide +kernel)
theorem w431 : Cond.methodLink "CoderTablesLaw" 42 ⟨"CoderTables", "mean", "(IZ)J"⟩ ∈ GW := gw_mk 431 (by decide +kernel) (by decide +kernel)
theorem w432 : Cond.instanceMethod ⟨"CoderTables", "mean", "(IZ)J"⟩ ∈ GW := gw_mk 432 (by decide +kernel) (by decide +kernel)
theorem w433 : Cond.selects "CoderTables" ⟨"CoderTables", "mean", "(IZ)J"⟩ ⟨"CoderTables", "mean", "(IZ)J"⟩ ∈ GW := gw_mk 433 (by decide +kernel) (by decide +kernel)
theorem w434 : Cond.code ⟨"CoderTables", "mean", "(IZ)J"⟩ prog_1_method_10_code 7 (some .long) ∈ GW := gw_mk 434 (by decide +kernel) (by decide +kernel)
theorem w435 : Cond.methodLink "CoderTables" 127 ⟨"CoderTables", "needCounted", "(I)V"⟩ ∈ GW := gw_mk 435 (by decide +kernel) (by decide +kernel)
theorem w437 : Cond.instanceMethod ⟨"CoderTables", "needCounted", "(I)V"⟩ ∈ GW := gw_mk 437 (by decide +kernel) (by decide +kernel)
theorem w438 : Cond.code ⟨"CoderTables", "needCounted", "(I)V"⟩ prog_1_method_24_code 2 none ∈ GW := gw_mk 438 (by decide +kernel) (by decide +kernel)
theorem w440 : Cond.methodLink "CoderTables" 130 ⟨"CoderTables", "inLowestTerms", "(JJ)J"⟩ ∈ GW := gw_mk 440 (by decide +kernel) (by decide +kernel)
theorem w441 : Cond.static ⟨"CoderTables", "inLowestTerms", "(JJ)J"⟩ ∈ GW := gw_mk 441 (by decide +kernel) (by decide +kernel)
theorem w442 : Cond.code ⟨"CoderTables", "inLowestTerms", "(JJ)J"⟩ prog_1_method_48_code 11 (some .long) ∈ GW := gw_mk 442 (by decide +kernel) (by decide +kernel)
theorem w443 : Cond.methodLink "CoderTablesLaw" 113 ⟨"CoderTablesLaw", "rank", "(LCoderTables;I[J)I"⟩ ∈ GW := gw_mk 443 (by decide +kernel) (by decide +kernel)
theorem w444 : Cond.static ⟨"CoderTablesLaw", "rank", "(LCoderTables;I[J)I"⟩ ∈ GW := gw_mk 444 (by decide +kernel) (by decide +kernel)
theorem w445 : Cond.codeWith ⟨"CoderTablesLaw", "rank", "(LCoderTables;I[J)I"⟩ method_11_code 4 (some .int) [(0, 9, 12, 22), (0, 9, 15, 26)] ∈ GW := gw_mk 445 (by decide +kernel) (by decide +kernel)
theorem w446 : Cond.methodLink "CoderTablesLaw" 46 ⟨"CoderTables", "rank", "(I)I"⟩ ∈ GW := gw_mk 446 (by decide +kernel) (by decide +kernel)
theorem w447 : Cond.instanceMethod ⟨"CoderTables", "rank", "(I)I"⟩ ∈ GW := gw_mk 447 (by decide +kernel) (by decide +kernel)
theorem w448 : Cond.selects "CoderTables" ⟨"CoderTables", "rank", "(I)I"⟩ ⟨"CoderTables", "rank", "(I)I"⟩ ∈ GW := gw_mk 448 (by decide +kernel) (by decide +kernel)
theorem w449 : Cond.code ⟨"CoderTables", "rank", "(I)I"⟩ prog_1_method_11_code 2 (some .int) ∈ GW := gw_mk 449 (by decide +kernel) (by decide +kernel)
theorem w450 : Cond.methodLink "CoderTablesLaw" 116 ⟨"CoderTablesLaw", "hull", "(LCoderTables;II[J)I"⟩ ∈ GW := gw_mk 450 (by decide +kernel) (by decide +kernel)
theorem w451 : Cond.static ⟨"CoderTablesLaw", "hull", "(LCoderTables;II[J)I"⟩ ∈ GW := gw_mk 451 (by decide +kernel) (by decide +kernel)
theorem w452 : Cond.codeWith ⟨"CoderTablesLaw", "hull", "(LCoderTables;II[J)I"⟩ method_12_code 5 (some .int) [(0, 10, 13, 22)] ∈ GW := gw_mk 452 (by decide +kernel) (by decide +kernel)
theorem w453 : Cond.methodLink "CoderTablesLaw" 50 ⟨"CoderTables", "hull", "(II)I"⟩ ∈ GW := gw_mk 453 (by decide +kernel) (by decide +kernel)
theorem w454 : Cond.instanceMethod ⟨"CoderTables", "hull", "(II)I"⟩ ∈ GW := gw_mk 454 (by decide +kernel) (by decide +kernel)
theorem w455 : Cond.selects "CoderTables" ⟨"CoderTables", "hull", "(II)I"⟩ ⟨"CoderTables", "hull", "(II)I"⟩ ∈ GW := gw_mk 455 (by decide +kernel) (by decide +kernel)
theorem w456 : Cond.code ⟨"CoderTables", "hull", "(II)I"⟩ prog_1_method_12_code 3 (some .int) ∈ GW := gw_mk 456 (by decide +kernel) (by decide +kernel)
theorem w457 : Cond.methodLink "CoderTables" 137 ⟨"CoderTables", "layHull", "(I)V"⟩ ∈ GW := gw_mk 457 (by decide +kernel) (by decide +kernel)
theorem w459 : Cond.instanceMethod ⟨"CoderTables", "layHull", "(I)V"⟩ ∈ GW := gw_mk 459 (by decide +kernel) (by decide +kernel)
theorem w460 : Cond.code ⟨"CoderTables", "layHull", "(I)V"⟩ prog_1_method_37_code 3 none ∈ GW := gw_mk 460 (by decide +kernel) (by decide +kernel)
theorem w461 : Cond.methodLink "CoderTables" 234 ⟨"CoderTables", "firstOfRow", "(I)I"⟩ ∈ GW := gw_mk 461 (by decide +kernel) (by decide +kernel)
theorem w463 : Cond.instanceMethod ⟨"CoderTables", "firstOfRow", "(I)I"⟩ ∈ GW := gw_mk 463 (by decide +kernel) (by decide +kernel)
theorem w464 : Cond.code ⟨"CoderTables", "firstOfRow", "(I)I"⟩ prog_1_method_38_code 5 (some .int) ∈ GW := gw_mk 464 (by decide +kernel) (by decide +kernel)
theorem w465 : Cond.methodLink "CoderTables" 240 ⟨"CoderTables", "isBefore", "(II)Z"⟩ ∈ GW := gw_mk 465 (by decide +kernel) (by decide +kernel)
theorem w467 : Cond.instanceMethod ⟨"CoderTables", "isBefore", "(II)Z"⟩ ∈ GW := gw_mk 467 (by decide +kernel) (by decide +kernel)
theorem w468 : Cond.code ⟨"CoderTables", "isBefore", "(II)Z"⟩ prog_1_method_39_code 3 (some .boolean) ∈ GW := gw_mk 468 (by decide +kernel) (by decide +kernel)
theorem w469 : Cond.methodLink "CoderTables" 237 ⟨"CoderTables", "steepestFrom", "(II)I"⟩ ∈ GW := gw_mk 469 (by decide +kernel) (by decide +kernel)
theorem w471 : Cond.instanceMethod ⟨"CoderTables", "steepestFrom", "(II)I"⟩ ∈ GW := gw_mk 471 (by decide +kernel) (by decide +kernel)
theorem w472 : Cond.code ⟨"CoderTables", "steepestFrom", "(II)I"⟩ prog_1_method_40_code 6 (some .int) ∈ GW := gw_mk 472 (by decide +kernel) (by decide +kernel)
theorem w473 : Cond.methodLink "CoderTables" 150 ⟨"CoderTables", "growthTo", "(II)J"⟩ ∈ GW := gw_mk 473 (by decide +kernel) (by decide +kernel)
theorem w475 : Cond.instanceMethod ⟨"CoderTables", "growthTo", "(II)J"⟩ ∈ GW := gw_mk 475 (by decide +kernel) (by decide +kernel)
theorem w476 : Cond.code ⟨"CoderTables", "growthTo", "(II)J"⟩ prog_1_method_43_code 3 (some .long) ∈ GW := gw_mk 476 (by decide +kernel) (by decide +kernel)
theorem w477 : Cond.methodLink "CoderTables" 146 ⟨"CoderTables", "fallTo", "(II)J"⟩ ∈ GW := gw_mk 477 (by decide +kernel) (by decide +kernel)
theorem w479 : Cond.instanceMethod ⟨"CoderTables", "fallTo", "(II)J"⟩ ∈ GW := gw_mk 479 (by decide +kernel) (by decide +kernel)
theorem w480 : Cond.code ⟨"CoderTables", "fallTo", "(II)J"⟩ prog_1_method_42_code 3 (some .long) ∈ GW := gw_mk 480 (by decide +kernel) (by decide +kernel)
theorem w481 : Cond.methodLink "CoderTables" 244 ⟨"CoderTables", "isBetterStep", "(III)Z"⟩ ∈ GW := gw_mk 481 (by decide +kernel) (by decide +kernel)
theorem w483 : Cond.instanceMethod ⟨"CoderTables", "isBetterStep", "(III)Z"⟩ ∈ GW := gw_mk 483 (by decide +kernel) (by decide +kernel)
theorem w484 : Cond.code ⟨"CoderTables", "isBetterStep", "(III)Z"⟩ prog_1_method_41_code 9 (some .boolean) ∈ GW := gw_mk 484 (by decide +kernel) (by decide +kernel)
theorem w485 : Cond.methodLink "CoderTablesLaw" 119 ⟨"CoderTablesLaw", "onHull", "(LCoderTables;IIII[J)I"⟩ ∈ GW := gw_mk 485 (by decide +kernel) (by decide +kernel)
theorem w486 : Cond.static ⟨"CoderTablesLaw", "onHull", "(LCoderTables;IIII[J)I"⟩ ∈ GW := gw_mk 486 (by decide +kernel) (by decide +kernel)
theorem w487 : Cond.codeWith ⟨"CoderTablesLaw", "onHull", "(LCoderTables;IIII[J)I"⟩ method_13_code 7 (some .int) [(0, 14, 17, 22), (0, 14, 21, 24)] ∈ GW := gw_mk 487 (by decide +kernel) (by decide +kernel)
theorem w488 : Cond.methodLink "CoderTablesLaw" 53 ⟨"CoderTables", "onHull", "(IIII)I"⟩ ∈ GW := gw_mk 488 (by decide +kernel) (by decide +kernel)
theorem w489 : Cond.instanceMethod ⟨"CoderTables", "onHull", "(IIII)I"⟩ ∈ GW := gw_mk 489 (by decide +kernel) (by decide +kernel)
theorem w490 : Cond.selects "CoderTables" ⟨"CoderTables", "onHull", "(IIII)I"⟩ ⟨"CoderTables", "onHull", "(IIII)I"⟩ ∈ GW := gw_mk 490 (by decide +kernel) (by decide +kernel)
theorem w491 : Cond.code ⟨"CoderTables", "onHull", "(IIII)I"⟩ prog_1_method_13_code 6 (some .int) ∈ GW := gw_mk 491 (by decide +kernel) (by decide +kernel)
theorem w494 : Cond.methodLink "CoderTablesLaw" 122 ⟨"CoderTablesLaw", "slope", "(LCoderTables;IIIZ[J)I"⟩ ∈ GW := gw_mk 494 (by decide +kernel) (by decide +kernel)
theorem w495 : Cond.static ⟨"CoderTablesLaw", "slope", "(LCoderTables;IIIZ[J)I"⟩ ∈ GW := gw_mk 495 (by decide +kernel) (by decide +kernel)
theorem w496 : Cond.codeWith ⟨"CoderTablesLaw", "slope", "(LCoderTables;IIIZ[J)I"⟩ method_14_code 7 (some .int) [(0, 13, 16, 22)] ∈ GW := gw_mk 496 (by decide +kernel) (by decide +kernel)
theorem w497 : Cond.methodLink "CoderTablesLaw" 56 ⟨"CoderTables", "slope", "(IIIZ)J"⟩ ∈ GW := gw_mk 497 (by decide +kernel) (by decide +kernel)
theorem w498 : Cond.instanceMethod ⟨"CoderTables", "slope", "(IIIZ)J"⟩ ∈ GW := gw_mk 498 (by decide +kernel) (by decide +kernel)
theorem w499 : Cond.selects "CoderTables" ⟨"CoderTables", "slope", "(IIIZ)J"⟩ ⟨"CoderTables", "slope", "(IIIZ)J"⟩ ∈ GW := gw_mk 499 (by decide +kernel) (by decide +kernel)
theorem w500 : Cond.code ⟨"CoderTables", "slope", "(IIIZ)J"⟩ prog_1_method_14_code 9 (some .long) ∈ GW := gw_mk 500 (by decide +kernel) (by decide +kernel)
theorem w502 : Cond.methodLink "CoderTablesLaw" 126 ⟨"CoderTablesLaw", "signs", "(LCoderTables;III[J)I"⟩ ∈ GW := gw_mk 502 (by decide +kernel) (by decide +kernel)
theorem w503 : Cond.static ⟨"CoderTablesLaw", "signs", "(LCoderTables;III[J)I"⟩ ∈ GW := gw_mk 503 (by decide +kernel) (by decide +kernel)
theorem w504 : Cond.codeWith ⟨"CoderTablesLaw", "signs", "(LCoderTables;III[J)I"⟩ method_15_code 6 (some .int) [(0, 11, 14, 22), (0, 11, 18, 24)] ∈ GW := gw_mk 504 (by decide +kernel) (by decide +kernel)
theorem w505 : Cond.methodLink "CoderTablesLaw" 60 ⟨"CoderTables", "signs", "(III)J"⟩ ∈ GW := gw_mk 505 (by decide +kernel) (by decide +kernel)
theorem w506 : Cond.instanceMethod ⟨"CoderTables", "signs", "(III)J"⟩ ∈ GW := gw_mk 506 (by decide +kernel) (by decide +kernel)
theorem w507 : Cond.selects "CoderTables" ⟨"CoderTables", "signs", "(III)J"⟩ ⟨"CoderTables", "signs", "(III)J"⟩ ∈ GW := gw_mk 507 (by decide +kernel) (by decide +kernel)
theorem w508 : Cond.code ⟨"CoderTables", "signs", "(III)J"⟩ prog_1_method_15_code 6 (some .long) ∈ GW := gw_mk 508 (by decide +kernel) (by decide +kernel)
theorem w510 : Cond.methodLink "CoderTables" 155 ⟨"CoderTables", "layLeads", "(II)V"⟩ ∈ GW := gw_mk 510 (by decide +kernel) (by decide +kernel)
theorem w512 : Cond.instanceMethod ⟨"CoderTables", "layLeads", "(II)V"⟩ ∈ GW := gw_mk 512 (by decide +kernel) (by decide +kernel)
theorem w513 : Cond.code ⟨"CoderTables", "layLeads", "(II)V"⟩ prog_1_method_44_code 6 none ∈ GW := gw_mk 513 (by decide +kernel) (by decide +kernel)
theorem w514 : Cond.methodLink "CoderTables" 159 ⟨"CoderTables", "countLeads", "(Z)I"⟩ ∈ GW := gw_mk 514 (by decide +kernel) (by decide +kernel)
theorem w516 : Cond.instanceMethod ⟨"CoderTables", "countLeads", "(Z)I"⟩ ∈ GW := gw_mk 516 (by decide +kernel) (by decide +kernel)
theorem w517 : Cond.code ⟨"CoderTables", "countLeads", "(Z)I"⟩ prog_1_method_45_code 4 (some .int) ∈ GW := gw_mk 517 (by decide +kernel) (by decide +kernel)
theorem w518 : Cond.methodLink "CoderTables" 163 ⟨"java/lang/Math", "min", "(II)I"⟩ ∈ GW := gw_mk 518 (by decide +kernel) (by decide +kernel)
theorem w519 : Cond.static ⟨"java/lang/Math", "min", "(II)I"⟩ ∈ GW := gw_mk 519 (by decide +kernel) (by decide +kernel)
theorem w520 : Cond.code ⟨"java/lang/Math", "min", "(II)I"⟩ prog_11_method_69_code 2 (some .int) ∈ GW := gw_mk 520 (by decide +kernel) (by decide +kernel)
theorem w521 : Cond.methodLink "CoderTables" 168 ⟨"CoderTables", "odds", "(IIZ)J"⟩ ∈ GW := gw_mk 521 (by decide +kernel) (by decide +kernel)
theorem w522 : Cond.static ⟨"CoderTables", "odds", "(IIZ)J"⟩ ∈ GW := gw_mk 522 (by decide +kernel) (by decide +kernel)
theorem w523 : Cond.code ⟨"CoderTables", "odds", "(IIZ)J"⟩ prog_1_method_47_code 11 (some .long) ∈ GW := gw_mk 523 (by decide +kernel) (by decide +kernel)
theorem w524 : Cond.constantLong "CoderTables" 248 (2) ∈ GW := gw_mk 524 (by decide +kernel) (by decide +kernel)
theorem w525 : Cond.methodLink "CoderTables" 250 ⟨"java/lang/Math", "min", "(JJ)J"⟩ ∈ GW := gw_mk 525 (by decide +kernel) (by decide +kernel)
theorem w526 : Cond.static ⟨"java/lang/Math", "min", "(JJ)J"⟩ ∈ GW := gw_mk 526 (by decide +kernel) (by decide +kernel)
theorem w527 : Cond.code ⟨"java/lang/Math", "min", "(JJ)J"⟩ prog_11_method_70_code 4 (some .long) ∈ GW := gw_mk 527 (by decide +kernel) (by decide +kernel)
theorem w528 : Cond.methodLink "CoderTablesLaw" 132 ⟨"CoderTablesLaw", "draws", "(LCoderTables;IIJI[J)I"⟩ ∈ GW := gw_mk 528 (by decide +kernel) (by decide +kernel)
theorem w529 : Cond.static ⟨"CoderTablesLaw", "draws", "(LCoderTables;IIJI[J)I"⟩ ∈ GW := gw_mk 529 (by decide +kernel) (by decide +kernel)
theorem w530 : Cond.codeWith ⟨"CoderTablesLaw", "draws", "(LCoderTables;IIJI[J)I"⟩ method_16_code 8 (some .int) [(0, 14, 17, 22), (0, 14, 21, 24), (0, 14, 25, 26)] ∈ GW := gw_mk 530 (by decide +kernel) (by decide +kernel)
theorem w531 : Cond.methodLink "CoderTablesLaw" 64 ⟨"CoderTables", "draws", "(IIJI)I"⟩ ∈ GW := gw_mk 531 (by decide +kernel) (by decide +kernel)
theorem w532 : Cond.instanceMethod ⟨"CoderTables", "draws", "(IIJI)I"⟩ ∈ GW := gw_mk 532 (by decide +kernel) (by decide +kernel)
theorem w533 : Cond.selects "CoderTables" ⟨"CoderTables", "draws", "(IIJI)I"⟩ ⟨"CoderTables", "draws", "(IIJI)I"⟩ ∈ GW := gw_mk 533 (by decide +kernel) (by decide +kernel)
theorem w534 : Cond.code ⟨"CoderTables", "draws", "(IIJI)I"⟩ prog_1_method_16_code 8 (some .int) ∈ GW := gw_mk 534 (by decide +kernel) (by decide +kernel)
theorem w537 : Cond.methodLink "CoderTables" 180 ⟨"CoderTables", "drawnLead", "()J"⟩ ∈ GW := gw_mk 537 (by decide +kernel) (by decide +kernel)
theorem w539 : Cond.instanceMethod ⟨"CoderTables", "drawnLead", "()J"⟩ ∈ GW := gw_mk 539 (by decide +kernel) (by decide +kernel)
theorem w540 : Cond.code ⟨"CoderTables", "drawnLead", "()J"⟩ prog_1_method_46_code 4 (some .long) ∈ GW := gw_mk 540 (by decide +kernel) (by decide +kernel)
theorem w541 : Cond.methodLink "CoderTablesLaw" 145 ⟨"CoderTablesLaw", "charAt", "(LCoderTables;I[J)I"⟩ ∈ GW := gw_mk 541 (by decide +kernel) (by decide +kernel)
theorem w542 : Cond.static ⟨"CoderTablesLaw", "charAt", "(LCoderTables;I[J)I"⟩ ∈ GW := gw_mk 542 (by decide +kernel) (by decide +kernel)
theorem w543 : Cond.codeWith ⟨"CoderTablesLaw", "charAt", "(LCoderTables;I[J)I"⟩ method_17_code 4 (some .int) [(0, 9, 12, 22)] ∈ GW := gw_mk 543 (by decide +kernel) (by decide +kernel)
theorem w544 : Cond.methodLink "CoderTablesLaw" 68 ⟨"CoderTables", "charAt", "(I)I"⟩ ∈ GW := gw_mk 544 (by decide +kernel) (by decide +kernel)
theorem w545 : Cond.instanceMethod ⟨"CoderTables", "charAt", "(I)I"⟩ ∈ GW := gw_mk 545 (by decide +kernel) (by decide +kernel)
theorem w546 : Cond.selects "CoderTables" ⟨"CoderTables", "charAt", "(I)I"⟩ ⟨"CoderTables", "charAt", "(I)I"⟩ ∈ GW := gw_mk 546 (by decide +kernel) (by decide +kernel)
theorem w547 : Cond.code ⟨"CoderTables", "charAt", "(I)I"⟩ prog_1_method_19_code 2 (some .int) ∈ GW := gw_mk 547 (by decide +kernel) (by decide +kernel)
theorem w549 : Cond.classLink "CoderTablesLaw" 72 "CoderTablesModel" ∈ GW := gw_mk 549 (by decide +kernel) (by decide +kernel)
theorem w550 : Cond.instantiable "CoderTablesModel" 15 ∈ GW := gw_mk 550 (by decide +kernel) (by decide +kernel)
theorem w551 : Cond.methodLink "CoderTablesLaw" 74 ⟨"CoderTablesModel", "<init>", "()V"⟩ ∈ GW := gw_mk 551 (by decide +kernel) (by decide +kernel)
theorem w552 : Cond.instanceMethod ⟨"CoderTablesModel", "<init>", "()V"⟩ ∈ GW := gw_mk 552 (by decide +kernel) (by decide +kernel)
theorem w553 : Cond.code ⟨"CoderTablesModel", "<init>", "()V"⟩ prog_5_method_1_code 1 none ∈ GW := gw_mk 553 (by decide +kernel) (by decide +kernel)
theorem w554 : Cond.methodLink "CoderTablesModel" 1 ⟨"java/lang/Object", "<init>", "()V"⟩ ∈ GW := gw_mk 554 (by decide +kernel) (by decide +kernel)
theorem w555 : Cond.fieldLink "CoderTablesModel" 36 "CoderTablesModel" "code" "I" ∈ GW := gw_mk 555 (by decide +kernel) (by decide +kernel)
theorem w556 : Cond.fieldLink "CoderTablesModel" 40 "CoderTablesModel" "coders" "I" ∈ GW := gw_mk 556 (by decide +kernel) (by decide +kernel)
theorem w557 : Cond.fieldLink "CoderTablesModel" 47 "CoderTablesModel" "pictures" "I" ∈ GW := gw_mk 557 (by decide +kernel) (by decide +kernel)
theorem w558 : Cond.fieldLink "CoderTablesModel" 7 "CoderTablesModel" "count" "[I" ∈ GW := gw_mk 558 (by decide +kernel) (by decide +kernel)
theorem w559 : Cond.fieldLink "CoderTablesModel" 13 "CoderTablesModel" "hasFailed" "[Z" ∈ GW := gw_mk 559 (by decide +kernel) (by decide +kernel)
theorem w560 : Cond.fieldLink "CoderTablesModel" 17 "CoderTablesModel" "bytesOf" "[I" ∈ GW := gw_mk 560 (by decide +kernel) (by decide +kernel)
theorem w561 : Cond.fieldLink "CoderTablesModel" 20 "CoderTablesModel" "errorOf" "[I" ∈ GW := gw_mk 561 (by decide +kernel) (by decide +kernel)
theorem w562 : Cond.fieldLink "CoderTablesModel" 67 "CoderTablesModel" "failures" "I" ∈ GW := gw_mk 562 (by decide +kernel) (by decide +kernel)
theorem w563 : Cond.fieldLink "CoderTablesModel" 23 "CoderTablesModel" "failure" "[I" ∈ GW := gw_mk 563 (by decide +kernel) (by decide +kernel)
theorem w564 : Cond.fieldLink "CoderTablesModel" 150 "CoderTablesModel" "size" "I" ∈ GW := gw_mk 564 (by decide +kernel) (by decide +kernel)
theorem w565 : Cond.fieldLink "CoderTablesModel" 26 "CoderTablesModel" "text" "[I" ∈ GW := gw_mk 565 (by decide +kernel) (by decide +kernel)
theorem w566 : Cond.fieldLink "CoderTablesModel" 126 "CoderTablesModel" "state" "J" ∈ GW := gw_mk 566 (by decide +kernel) (by decide +kernel)
theorem w567 : Cond.fieldLink "CoderTablesModel" 98 "CoderTablesModel" "hullSize" "I" ∈ GW := gw_mk 567 (by decide +kernel) (by decide +kernel)
theorem w568 : Cond.fieldLink "CoderTablesModel" 29 "CoderTablesModel" "hull" "[I" ∈ GW := gw_mk 568 (by decide +kernel) (by decide +kernel)
theorem w569 : Cond.fieldLink "CoderTablesModel" 32 "CoderTablesModel" "ways" "[J" ∈ GW := gw_mk 569 (by decide +kernel) (by decide +kernel)
theorem w601 : Cond.arrayClass .boolean ∈ GW := gw_mk 601 (by decide +kernel) (by decide +kernel)
theorem w602 : Cond.arrayClass .long ∈ GW := gw_mk 602 (by decide +kernel) (by decide +kernel)
theorem w603 : Cond.methodLink "CoderTablesLaw" 81 ⟨"CoderTablesModel", "thrown", "()I"⟩ ∈ GW := gw_mk 603 (by decide +kernel) (by decide +kernel)
theorem w604 : Cond.instanceMethod ⟨"CoderTablesModel", "thrown", "()I"⟩ ∈ GW := gw_mk 604 (by decide +kernel) (by decide +kernel)
theorem w605 : Cond.selects "CoderTablesModel" ⟨"CoderTablesModel", "thrown", "()I"⟩ ⟨"CoderTablesModel", "thrown", "()I"⟩ ∈ GW := gw_mk 605 (by decide +kernel) (by decide +kernel)
theorem w606 : Cond.code ⟨"CoderTablesModel", "thrown", "()I"⟩ prog_5_method_2_code 1 (some .int) ∈ GW := gw_mk 606 (by decide +kernel) (by decide +kernel)
theorem w607 : Cond.methodLink "CoderTablesLaw" 80 ⟨"CoderTablesModel", "coder", "()I"⟩ ∈ GW := gw_mk 607 (by decide +kernel) (by decide +kernel)
theorem w608 : Cond.instanceMethod ⟨"CoderTablesModel", "coder", "()I"⟩ ∈ GW := gw_mk 608 (by decide +kernel) (by decide +kernel)
theorem w609 : Cond.selects "CoderTablesModel" ⟨"CoderTablesModel", "coder", "()I"⟩ ⟨"CoderTablesModel", "coder", "()I"⟩ ∈ GW := gw_mk 609 (by decide +kernel) (by decide +kernel)
theorem w610 : Cond.code ⟨"CoderTablesModel", "coder", "()I"⟩ prog_5_method_7_code 1 (some .int) ∈ GW := gw_mk 610 (by decide +kernel) (by decide +kernel)
theorem w611 : Cond.methodLink "CoderTablesModel" 50 ⟨"CoderTablesModel", "refuses", "(I)Z"⟩ ∈ GW := gw_mk 611 (by decide +kernel) (by decide +kernel)
theorem w613 : Cond.instanceMethod ⟨"CoderTablesModel", "refuses", "(I)Z"⟩ ∈ GW := gw_mk 613 (by decide +kernel) (by decide +kernel)
theorem w614 : Cond.code ⟨"CoderTablesModel", "refuses", "(I)Z"⟩ prog_5_method_3_code 2 (some .boolean) ∈ GW := gw_mk 614 (by decide +kernel) (by decide +kernel)
theorem w615 : Cond.methodLink "CoderTablesLaw" 86 ⟨"CoderTablesModel", "picture", "()I"⟩ ∈ GW := gw_mk 615 (by decide +kernel) (by decide +kernel)
theorem w616 : Cond.instanceMethod ⟨"CoderTablesModel", "picture", "()I"⟩ ∈ GW := gw_mk 616 (by decide +kernel) (by decide +kernel)
theorem w617 : Cond.selects "CoderTablesModel" ⟨"CoderTablesModel", "picture", "()I"⟩ ⟨"CoderTablesModel", "picture", "()I"⟩ ∈ GW := gw_mk 617 (by decide +kernel) (by decide +kernel)
theorem w618 : Cond.code ⟨"CoderTablesModel", "picture", "()I"⟩ prog_5_method_8_code 1 (some .int) ∈ GW := gw_mk 618 (by decide +kernel) (by decide +kernel)
theorem w619 : Cond.methodLink "CoderTablesLaw" 90 ⟨"CoderTablesModel", "point", "(IIII)I"⟩ ∈ GW := gw_mk 619 (by decide +kernel) (by decide +kernel)
theorem w620 : Cond.instanceMethod ⟨"CoderTablesModel", "point", "(IIII)I"⟩ ∈ GW := gw_mk 620 (by decide +kernel) (by decide +kernel)
theorem w621 : Cond.selects "CoderTablesModel" ⟨"CoderTablesModel", "point", "(IIII)I"⟩ ⟨"CoderTablesModel", "point", "(IIII)I"⟩ ∈ GW := gw_mk 621 (by decide +kernel) (by decide +kernel)
theorem w622 : Cond.code ⟨"CoderTablesModel", "point", "(IIII)I"⟩ prog_5_method_10_code 7 (some .int) ∈ GW := gw_mk 622 (by decide +kernel) (by decide +kernel)
theorem w623 : Cond.methodLink "CoderTablesModel" 53 ⟨"CoderTablesModel", "noPair", "(II)Z"⟩ ∈ GW := gw_mk 623 (by decide +kernel) (by decide +kernel)
theorem w625 : Cond.instanceMethod ⟨"CoderTablesModel", "noPair", "(II)Z"⟩ ∈ GW := gw_mk 625 (by decide +kernel) (by decide +kernel)
theorem w626 : Cond.code ⟨"CoderTablesModel", "noPair", "(II)Z"⟩ prog_5_method_6_code 3 (some .boolean) ∈ GW := gw_mk 626 (by decide +kernel) (by decide +kernel)
theorem w627 : Cond.methodLink "CoderTablesModel" 43 ⟨"CoderTablesModel", "noCoder", "(I)Z"⟩ ∈ GW := gw_mk 627 (by decide +kernel) (by decide +kernel)
theorem w629 : Cond.instanceMethod ⟨"CoderTablesModel", "noCoder", "(I)Z"⟩ ∈ GW := gw_mk 629 (by decide +kernel) (by decide +kernel)
theorem w630 : Cond.code ⟨"CoderTablesModel", "noCoder", "(I)Z"⟩ prog_5_method_5_code 2 (some .boolean) ∈ GW := gw_mk 630 (by decide +kernel) (by decide +kernel)
theorem w631 : Cond.constantLong "CoderTablesModel" 57 (1000000000) ∈ GW := gw_mk 631 (by decide +kernel) (by decide +kernel)
theorem w632 : Cond.methodLink "CoderTablesModel" 59 ⟨"CoderTablesModel", "isIn", "(JJJ)Z"⟩ ∈ GW := gw_mk 632 (by decide +kernel) (by decide +kernel)
theorem w633 : Cond.static ⟨"CoderTablesModel", "isIn", "(JJJ)Z"⟩ ∈ GW := gw_mk 633 (by decide +kernel) (by decide +kernel)
theorem w634 : Cond.code ⟨"CoderTablesModel", "isIn", "(JJJ)Z"⟩ prog_5_method_4_code 6 (some .boolean) ∈ GW := gw_mk 634 (by decide +kernel) (by decide +kernel)
theorem w635 : Cond.methodLink "CoderTablesModel" 63 ⟨"CoderTablesModel", "add", "(III)V"⟩ ∈ GW := gw_mk 635 (by decide +kernel) (by decide +kernel)
theorem w637 : Cond.instanceMethod ⟨"CoderTablesModel", "add", "(III)V"⟩ ∈ GW := gw_mk 637 (by decide +kernel) (by decide +kernel)
theorem w638 : Cond.code ⟨"CoderTablesModel", "add", "(III)V"⟩ prog_5_method_9_code 4 none ∈ GW := gw_mk 638 (by decide +kernel) (by decide +kernel)
theorem w639 : Cond.methodLink "CoderTablesLaw" 94 ⟨"CoderTablesModel", "fails", "(II)I"⟩ ∈ GW := gw_mk 639 (by decide +kernel) (by decide +kernel)
theorem w640 : Cond.instanceMethod ⟨"CoderTablesModel", "fails", "(II)I"⟩ ∈ GW := gw_mk 640 (by decide +kernel) (by decide +kernel)
theorem w641 : Cond.selects "CoderTablesModel" ⟨"CoderTablesModel", "fails", "(II)I"⟩ ⟨"CoderTablesModel", "fails", "(II)I"⟩ ∈ GW := gw_mk 641 (by decide +kernel) (by decide +kernel)
theorem w642 : Cond.code ⟨"CoderTablesModel", "fails", "(II)I"⟩ prog_5_method_12_code 6 (some .int) ∈ GW := gw_mk 642 (by decide +kernel) (by decide +kernel)
theorem w643 : Cond.methodLink "CoderTablesModel" 70 ⟨"CoderTablesModel", "fail", "(I)V"⟩ ∈ GW := gw_mk 643 (by decide +kernel) (by decide +kernel)
theorem w645 : Cond.instanceMethod ⟨"CoderTablesModel", "fail", "(I)V"⟩ ∈ GW := gw_mk 645 (by decide +kernel) (by decide +kernel)
theorem w646 : Cond.code ⟨"CoderTablesModel", "fail", "(I)V"⟩ prog_5_method_11_code 2 none ∈ GW := gw_mk 646 (by decide +kernel) (by decide +kernel)
theorem w647 : Cond.methodLink "CoderTablesLaw" 98 ⟨"CoderTablesModel", "failed", "()I"⟩ ∈ GW := gw_mk 647 (by decide +kernel) (by decide +kernel)
theorem w648 : Cond.instanceMethod ⟨"CoderTablesModel", "failed", "()I"⟩ ∈ GW := gw_mk 648 (by decide +kernel) (by decide +kernel)
theorem w649 : Cond.selects "CoderTablesModel" ⟨"CoderTablesModel", "failed", "()I"⟩ ⟨"CoderTablesModel", "failed", "()I"⟩ ∈ GW := gw_mk 649 (by decide +kernel) (by decide +kernel)
theorem w650 : Cond.code ⟨"CoderTablesModel", "failed", "()I"⟩ prog_5_method_13_code 1 (some .int) ∈ GW := gw_mk 650 (by decide +kernel) (by decide +kernel)
theorem w651 : Cond.methodLink "CoderTablesLaw" 101 ⟨"CoderTablesModel", "failing", "(II)I"⟩ ∈ GW := gw_mk 651 (by decide +kernel) (by decide +kernel)
theorem w652 : Cond.instanceMethod ⟨"CoderTablesModel", "failing", "(II)I"⟩ ∈ GW := gw_mk 652 (by decide +kernel) (by decide +kernel)
theorem w653 : Cond.selects "CoderTablesModel" ⟨"CoderTablesModel", "failing", "(II)I"⟩ ⟨"CoderTablesModel", "failing", "(II)I"⟩ ∈ GW := gw_mk 653 (by decide +kernel) (by decide +kernel)
theorem w654 : Cond.code ⟨"CoderTablesModel", "failing", "(II)I"⟩ prog_5_method_14_code 3 (some .int) ∈ GW := gw_mk 654 (by decide +kernel) (by decide +kernel)
theorem w655 : Cond.methodLink "CoderTablesLaw" 104 ⟨"CoderTablesModel", "least", "(II)I"⟩ ∈ GW := gw_mk 655 (by decide +kernel) (by decide +kernel)
theorem w656 : Cond.instanceMethod ⟨"CoderTablesModel", "least", "(II)I"⟩ ∈ GW := gw_mk 656 (by decide +kernel) (by decide +kernel)
theorem w657 : Cond.selects "CoderTablesModel" ⟨"CoderTablesModel", "least", "(II)I"⟩ ⟨"CoderTablesModel", "least", "(II)I"⟩ ∈ GW := gw_mk 657 (by decide +kernel) (by decide +kernel)
theorem w658 : Cond.code ⟨"CoderTablesModel", "least", "(II)I"⟩ prog_5_method_15_code 8 (some .int) ∈ GW := gw_mk 658 (by decide +kernel) (by decide +kernel)
theorem w659 : Cond.methodLink "CoderTablesLaw" 108 ⟨"CoderTablesModel", "sum", "(I)J"⟩ ∈ GW := gw_mk 659 (by decide +kernel) (by decide +kernel)
theorem w660 : Cond.instanceMethod ⟨"CoderTablesModel", "sum", "(I)J"⟩ ∈ GW := gw_mk 660 (by decide +kernel) (by decide +kernel)
theorem w661 : Cond.selects "CoderTablesModel" ⟨"CoderTablesModel", "sum", "(I)J"⟩ ⟨"CoderTablesModel", "sum", "(I)J"⟩ ∈ GW := gw_mk 661 (by decide +kernel) (by decide +kernel)
theorem w662 : Cond.code ⟨"CoderTablesModel", "sum", "(I)J"⟩ prog_5_method_19_code 2 (some .long) ∈ GW := gw_mk 662 (by decide +kernel) (by decide +kernel)
theorem w663 : Cond.methodLink "CoderTablesModel" 78 ⟨"CoderTablesModel", "countedOf", "(I)I"⟩ ∈ GW := gw_mk 663 (by decide +kernel) (by decide +kernel)
theorem w665 : Cond.instanceMethod ⟨"CoderTablesModel", "countedOf", "(I)I"⟩ ∈ GW := gw_mk 665 (by decide +kernel) (by decide +kernel)
theorem w666 : Cond.code ⟨"CoderTablesModel", "countedOf", "(I)I"⟩ prog_5_method_18_code 4 (some .int) ∈ GW := gw_mk 666 (by decide +kernel) (by decide +kernel)
theorem w667 : Cond.constantLong "CoderTablesModel" 81 (-1) ∈ GW := gw_mk 667 (by decide +kernel) (by decide +kernel)
theorem w668 : Cond.methodLink "CoderTablesModel" 83 ⟨"CoderTablesModel", "sumOf", "(I)J"⟩ ∈ GW := gw_mk 668 (by decide +kernel) (by decide +kernel)
theorem w670 : Cond.instanceMethod ⟨"CoderTablesModel", "sumOf", "(I)J"⟩ ∈ GW := gw_mk 670 (by decide +kernel) (by decide +kernel)
theorem w671 : Cond.code ⟨"CoderTablesModel", "sumOf", "(I)J"⟩ prog_5_method_17_code 5 (some .long) ∈ GW := gw_mk 671 (by decide +kernel) (by decide +kernel)
theorem w672 : Cond.methodLink "CoderTablesModel" 74 ⟨"CoderTablesModel", "bytes", "(I)I"⟩ ∈ GW := gw_mk 672 (by decide +kernel) (by decide +kernel)
theorem w674 : Cond.instanceMethod ⟨"CoderTablesModel", "bytes", "(I)I"⟩ ∈ GW := gw_mk 674 (by decide +kernel) (by decide +kernel)
theorem w675 : Cond.code ⟨"CoderTablesModel", "bytes", "(I)I"⟩ prog_5_method_16_code 5 (some .int) ∈ GW := gw_mk 675 (by decide +kernel) (by decide +kernel)
theorem w676 : Cond.methodLink "CoderTablesLaw" 112 ⟨"CoderTablesModel", "mean", "(IZ)J"⟩ ∈ GW := gw_mk 676 (by decide +kernel) (by decide +kernel)
theorem w677 : Cond.instanceMethod ⟨"CoderTablesModel", "mean", "(IZ)J"⟩ ∈ GW := gw_mk 677 (by decide +kernel) (by decide +kernel)
theorem w678 : Cond.selects "CoderTablesModel" ⟨"CoderTablesModel", "mean", "(IZ)J"⟩ ⟨"CoderTablesModel", "mean", "(IZ)J"⟩ ∈ GW := gw_mk 678 (by decide +kernel) (by decide +kernel)
theorem w679 : Cond.code ⟨"CoderTablesModel", "mean", "(IZ)J"⟩ prog_5_method_22_code 3 (some .long) ∈ GW := gw_mk 679 (by decide +kernel) (by decide +kernel)
theorem w680 : Cond.methodLink "CoderTablesModel" 91 ⟨"CoderTablesModel", "part", "(JJZ)J"⟩ ∈ GW := gw_mk 680 (by decide +kernel) (by decide +kernel)
theorem w681 : Cond.static ⟨"CoderTablesModel", "part", "(JJZ)J"⟩ ∈ GW := gw_mk 681 (by decide +kernel) (by decide +kernel)
theorem w682 : Cond.code ⟨"CoderTablesModel", "part", "(JJZ)J"⟩ prog_5_method_21_code 7 (some .long) ∈ GW := gw_mk 682 (by decide +kernel) (by decide +kernel)
theorem w683 : Cond.methodLink "CoderTablesModel" 87 ⟨"CoderTablesModel", "common", "(JJ)J"⟩ ∈ GW := gw_mk 683 (by decide +kernel) (by decide +kernel)
theorem w684 : Cond.static ⟨"CoderTablesModel", "common", "(JJ)J"⟩ ∈ GW := gw_mk 684 (by decide +kernel) (by decide +kernel)
theorem w685 : Cond.code ⟨"CoderTablesModel", "common", "(JJ)J"⟩ prog_5_method_20_code 10 (some .long) ∈ GW := gw_mk 685 (by decide +kernel) (by decide +kernel)
theorem w686 : Cond.methodLink "CoderTablesLaw" 115 ⟨"CoderTablesModel", "rank", "(I)I"⟩ ∈ GW := gw_mk 686 (by decide +kernel) (by decide +kernel)
theorem w687 : Cond.instanceMethod ⟨"CoderTablesModel", "rank", "(I)I"⟩ ∈ GW := gw_mk 687 (by decide +kernel) (by decide +kernel)
theorem w688 : Cond.selects "CoderTablesModel" ⟨"CoderTablesModel", "rank", "(I)I"⟩ ⟨"CoderTablesModel", "rank", "(I)I"⟩ ∈ GW := gw_mk 688 (by decide +kernel) (by decide +kernel)
theorem w689 : Cond.code ⟨"CoderTablesModel", "rank", "(I)I"⟩ prog_5_method_24_code 2 (some .int) ∈ GW := gw_mk 689 (by decide +kernel) (by decide +kernel)
theorem w690 : Cond.methodLink "CoderTablesModel" 95 ⟨"CoderTablesModel", "rankOf", "(I)I"⟩ ∈ GW := gw_mk 690 (by decide +kernel) (by decide +kernel)
theorem w692 : Cond.instanceMethod ⟨"CoderTablesModel", "rankOf", "(I)I"⟩ ∈ GW := gw_mk 692 (by decide +kernel) (by decide +kernel)
theorem w693 : Cond.code ⟨"CoderTablesModel", "rankOf", "(I)I"⟩ prog_5_method_23_code 8 (some .int) ∈ GW := gw_mk 693 (by decide +kernel) (by decide +kernel)
theorem w694 : Cond.methodLink "CoderTablesLaw" 118 ⟨"CoderTablesModel", "hull", "(II)I"⟩ ∈ GW := gw_mk 694 (by decide +kernel) (by decide +kernel)
theorem w695 : Cond.instanceMethod ⟨"CoderTablesModel", "hull", "(II)I"⟩ ∈ GW := gw_mk 695 (by decide +kernel) (by decide +kernel)
theorem w696 : Cond.selects "CoderTablesModel" ⟨"CoderTablesModel", "hull", "(II)I"⟩ ⟨"CoderTablesModel", "hull", "(II)I"⟩ ∈ GW := gw_mk 696 (by decide +kernel) (by decide +kernel)
theorem w697 : Cond.code ⟨"CoderTablesModel", "hull", "(II)I"⟩ prog_5_method_28_code 3 (some .int) ∈ GW := gw_mk 697 (by decide +kernel) (by decide +kernel)
theorem w698 : Cond.methodLink "CoderTablesModel" 108 ⟨"CoderTablesModel", "findHull", "(I)V"⟩ ∈ GW := gw_mk 698 (by decide +kernel) (by decide +kernel)
theorem w700 : Cond.instanceMethod ⟨"CoderTablesModel", "findHull", "(I)V"⟩ ∈ GW := gw_mk 700 (by decide +kernel) (by decide +kernel)
theorem w701 : Cond.code ⟨"CoderTablesModel", "findHull", "(I)V"⟩ prog_5_method_26_code 5 none ∈ GW := gw_mk 701 (by decide +kernel) (by decide +kernel)
theorem w702 : Cond.methodLink "CoderTablesModel" 101 ⟨"CoderTablesModel", "isBest", "(II)Z"⟩ ∈ GW := gw_mk 702 (by decide +kernel) (by decide +kernel)
theorem w704 : Cond.instanceMethod ⟨"CoderTablesModel", "isBest", "(II)Z"⟩ ∈ GW := gw_mk 704 (by decide +kernel) (by decide +kernel)
theorem w705 : Cond.code ⟨"CoderTablesModel", "isBest", "(II)Z"⟩ prog_5_method_25_code 6 (some .boolean) ∈ GW := gw_mk 705 (by decide +kernel) (by decide +kernel)
theorem w706 : Cond.methodLink "CoderTablesModel" 104 ⟨"CoderTablesModel", "isSteeper", "(III)Z"⟩ ∈ GW := gw_mk 706 (by decide +kernel) (by decide +kernel)
theorem w708 : Cond.instanceMethod ⟨"CoderTablesModel", "isSteeper", "(III)Z"⟩ ∈ GW := gw_mk 708 (by decide +kernel) (by decide +kernel)
theorem w709 : Cond.code ⟨"CoderTablesModel", "isSteeper", "(III)Z"⟩ prog_5_method_27_code 8 (some .boolean) ∈ GW := gw_mk 709 (by decide +kernel) (by decide +kernel)
theorem w710 : Cond.methodLink "CoderTablesLaw" 121 ⟨"CoderTablesModel", "onHull", "(IIII)I"⟩ ∈ GW := gw_mk 710 (by decide +kernel) (by decide +kernel)
theorem w711 : Cond.instanceMethod ⟨"CoderTablesModel", "onHull", "(IIII)I"⟩ ∈ GW := gw_mk 711 (by decide +kernel) (by decide +kernel)
theorem w712 : Cond.selects "CoderTablesModel" ⟨"CoderTablesModel", "onHull", "(IIII)I"⟩ ⟨"CoderTablesModel", "onHull", "(IIII)I"⟩ ∈ GW := gw_mk 712 (by decide +kernel) (by decide +kernel)
theorem w713 : Cond.code ⟨"CoderTablesModel", "onHull", "(IIII)I"⟩ prog_5_method_30_code 5 (some .int) ∈ GW := gw_mk 713 (by decide +kernel) (by decide +kernel)
theorem w714 : Cond.methodLink "CoderTablesModel" 111 ⟨"CoderTablesModel", "noneOnHull", "(IIII)Z"⟩ ∈ GW := gw_mk 714 (by decide +kernel) (by decide +kernel)
theorem w716 : Cond.instanceMethod ⟨"CoderTablesModel", "noneOnHull", "(IIII)Z"⟩ ∈ GW := gw_mk 716 (by decide +kernel) (by decide +kernel)
theorem w717 : Cond.code ⟨"CoderTablesModel", "noneOnHull", "(IIII)Z"⟩ prog_5_method_29_code 5 (some .boolean) ∈ GW := gw_mk 717 (by decide +kernel) (by decide +kernel)
theorem w718 : Cond.methodLink "CoderTablesLaw" 125 ⟨"CoderTablesModel", "slope", "(IIIZ)J"⟩ ∈ GW := gw_mk 718 (by decide +kernel) (by decide +kernel)
theorem w719 : Cond.instanceMethod ⟨"CoderTablesModel", "slope", "(IIIZ)J"⟩ ∈ GW := gw_mk 719 (by decide +kernel) (by decide +kernel)
theorem w720 : Cond.selects "CoderTablesModel" ⟨"CoderTablesModel", "slope", "(IIIZ)J"⟩ ⟨"CoderTablesModel", "slope", "(IIIZ)J"⟩ ∈ GW := gw_mk 720 (by decide +kernel) (by decide +kernel)
theorem w721 : Cond.code ⟨"CoderTablesModel", "slope", "(IIIZ)J"⟩ prog_5_method_31_code 7 (some .long) ∈ GW := gw_mk 721 (by decide +kernel) (by decide +kernel)
theorem w722 : Cond.methodLink "CoderTablesLaw" 129 ⟨"CoderTablesModel", "signs", "(III)J"⟩ ∈ GW := gw_mk 722 (by decide +kernel) (by decide +kernel)
theorem w723 : Cond.instanceMethod ⟨"CoderTablesModel", "signs", "(III)J"⟩ ∈ GW := gw_mk 723 (by decide +kernel) (by decide +kernel)
theorem w724 : Cond.selects "CoderTablesModel" ⟨"CoderTablesModel", "signs", "(III)J"⟩ ⟨"CoderTablesModel", "signs", "(III)J"⟩ ∈ GW := gw_mk 724 (by decide +kernel) (by decide +kernel)
theorem w725 : Cond.code ⟨"CoderTablesModel", "signs", "(III)J"⟩ prog_5_method_34_code 11 (some .long) ∈ GW := gw_mk 725 (by decide +kernel) (by decide +kernel)
theorem w726 : Cond.constantLong "CoderTablesModel" 118 (3) ∈ GW := gw_mk 726 (by decide +kernel) (by decide +kernel)
theorem w727 : Cond.methodLink "CoderTablesModel" 120 ⟨"CoderTablesModel", "less", "(II)I"⟩ ∈ GW := gw_mk 727 (by decide +kernel) (by decide +kernel)
theorem w729 : Cond.instanceMethod ⟨"CoderTablesModel", "less", "(II)I"⟩ ∈ GW := gw_mk 729 (by decide +kernel) (by decide +kernel)
theorem w730 : Cond.code ⟨"CoderTablesModel", "less", "(II)I"⟩ prog_5_method_33_code 5 (some .int) ∈ GW := gw_mk 730 (by decide +kernel) (by decide +kernel)
theorem w731 : Cond.methodLink "CoderTablesModel" 115 ⟨"CoderTablesModel", "areBoth", "(III)Z"⟩ ∈ GW := gw_mk 731 (by decide +kernel) (by decide +kernel)
theorem w733 : Cond.instanceMethod ⟨"CoderTablesModel", "areBoth", "(III)Z"⟩ ∈ GW := gw_mk 733 (by decide +kernel) (by decide +kernel)
theorem w734 : Cond.code ⟨"CoderTablesModel", "areBoth", "(III)Z"⟩ prog_5_method_32_code 4 (some .boolean) ∈ GW := gw_mk 734 (by decide +kernel) (by decide +kernel)
theorem w735 : Cond.constantLong "CoderTablesModel" 124 (2) ∈ GW := gw_mk 735 (by decide +kernel) (by decide +kernel)
theorem w736 : Cond.methodLink "CoderTablesLaw" 135 ⟨"CoderTablesModel", "draws", "(IIJI)I"⟩ ∈ GW := gw_mk 736 (by decide +kernel) (by decide +kernel)
theorem w737 : Cond.instanceMethod ⟨"CoderTablesModel", "draws", "(IIJI)I"⟩ ∈ GW := gw_mk 737 (by decide +kernel) (by decide +kernel)
theorem w738 : Cond.selects "CoderTablesModel" ⟨"CoderTablesModel", "draws", "(IIJI)I"⟩ ⟨"CoderTablesModel", "draws", "(IIJI)I"⟩ ∈ GW := gw_mk 738 (by decide +kernel) (by decide +kernel)
theorem w739 : Cond.code ⟨"CoderTablesModel", "draws", "(IIJI)I"⟩ prog_5_method_37_code 16 (some .int) ∈ GW := gw_mk 739 (by decide +kernel) (by decide +kernel)
theorem w740 : Cond.constantLong "CoderTablesModel" 134 (200) ∈ GW := gw_mk 740 (by decide +kernel) (by decide +kernel)
theorem w741 : Cond.methodLink "CoderTablesModel" 136 ⟨"CoderTablesModel", "draw", "(I)I"⟩ ∈ GW := gw_mk 741 (by decide +kernel) (by decide +kernel)
theorem w743 : Cond.instanceMethod ⟨"CoderTablesModel", "draw", "(I)I"⟩ ∈ GW := gw_mk 743 (by decide +kernel) (by decide +kernel)
theorem w744 : Cond.code ⟨"CoderTablesModel", "draw", "(I)I"⟩ prog_5_method_35_code 2 (some .int) ∈ GW := gw_mk 744 (by decide +kernel) (by decide +kernel)
theorem w745 : Cond.constantLong "CoderTablesModel" 130 (6364136223846793005) ∈ GW := gw_mk 745 (by decide +kernel) (by decide +kernel)
theorem w746 : Cond.constantLong "CoderTablesModel" 132 (1442695040888963407) ∈ GW := gw_mk 746 (by decide +kernel) (by decide +kernel)
theorem w747 : Cond.methodLink "CoderTablesModel" 139 ⟨"CoderTablesModel", "both", "(III)I"⟩ ∈ GW := gw_mk 747 (by decide +kernel) (by decide +kernel)
theorem w749 : Cond.instanceMethod ⟨"CoderTablesModel", "both", "(III)I"⟩ ∈ GW := gw_mk 749 (by decide +kernel) (by decide +kernel)
theorem w750 : Cond.code ⟨"CoderTablesModel", "both", "(III)I"⟩ prog_5_method_36_code 6 (some .int) ∈ GW := gw_mk 750 (by decide +kernel) (by decide +kernel)
theorem w751 : Cond.methodLink "CoderTablesLaw" 140 ⟨"CoderTablesModel", "fill", "(J)I"⟩ ∈ GW := gw_mk 751 (by decide +kernel) (by decide +kernel)
theorem w752 : Cond.instanceMethod ⟨"CoderTablesModel", "fill", "(J)I"⟩ ∈ GW := gw_mk 752 (by decide +kernel) (by decide +kernel)
theorem w753 : Cond.selects "CoderTablesModel" ⟨"CoderTablesModel", "fill", "(J)I"⟩ ⟨"CoderTablesModel", "fill", "(J)I"⟩ ∈ GW := gw_mk 753 (by decide +kernel) (by decide +kernel)
theorem w754 : Cond.code ⟨"CoderTablesModel", "fill", "(J)I"⟩ prog_5_method_38_code 5 (some .int) ∈ GW := gw_mk 754 (by decide +kernel) (by decide +kernel)
theorem w755 : Cond.methodLink "CoderTablesModel" 143 ⟨"CoderTablesModel", "fillPair", "(I)V"⟩ ∈ GW := gw_mk 755 (by decide +kernel) (by decide +kernel)
theorem w757 : Cond.instanceMethod ⟨"CoderTablesModel", "fillPair", "(I)V"⟩ ∈ GW := gw_mk 757 (by decide +kernel) (by decide +kernel)
theorem w758 : Cond.code ⟨"CoderTablesModel", "fillPair", "(I)V"⟩ prog_5_method_39_code 5 none ∈ GW := gw_mk 758 (by decide +kernel) (by decide +kernel)
theorem w759 : Cond.methodLink "CoderTablesModel" 146 ⟨"CoderTablesModel", "points", "()I"⟩ ∈ GW := gw_mk 759 (by decide +kernel) (by decide +kernel)
theorem w761 : Cond.instanceMethod ⟨"CoderTablesModel", "points", "()I"⟩ ∈ GW := gw_mk 761 (by decide +kernel) (by decide +kernel)
theorem w762 : Cond.code ⟨"CoderTablesModel", "points", "()I"⟩ prog_5_method_40_code 3 (some .int) ∈ GW := gw_mk 762 (by decide +kernel) (by decide +kernel)
theorem w763 : Cond.methodLink "CoderTablesLaw" 144 ⟨"CoderTablesModel", "text", "()I"⟩ ∈ GW := gw_mk 763 (by decide +kernel) (by decide +kernel)
theorem w764 : Cond.instanceMethod ⟨"CoderTablesModel", "text", "()I"⟩ ∈ GW := gw_mk 764 (by decide +kernel) (by decide +kernel)
theorem w765 : Cond.selects "CoderTablesModel" ⟨"CoderTablesModel", "text", "()I"⟩ ⟨"CoderTablesModel", "text", "()I"⟩ ∈ GW := gw_mk 765 (by decide +kernel) (by decide +kernel)
theorem w766 : Cond.code ⟨"CoderTablesModel", "text", "()I"⟩ prog_5_method_43_code 2 (some .int) ∈ GW := gw_mk 766 (by decide +kernel) (by decide +kernel)
theorem w767 : Cond.methodLink "CoderTablesModel" 160 ⟨"CoderTablesModel", "typeNumber", "(J)V"⟩ ∈ GW := gw_mk 767 (by decide +kernel) (by decide +kernel)
theorem w769 : Cond.instanceMethod ⟨"CoderTablesModel", "typeNumber", "(J)V"⟩ ∈ GW := gw_mk 769 (by decide +kernel) (by decide +kernel)
theorem w770 : Cond.code ⟨"CoderTablesModel", "typeNumber", "(J)V"⟩ prog_5_method_42_code 5 none ∈ GW := gw_mk 770 (by decide +kernel) (by decide +kernel)
theorem w771 : Cond.constantLong "CoderTablesModel" 153 (9) ∈ GW := gw_mk 771 (by decide +kernel) (by decide +kernel)
theorem w772 : Cond.constantLong "CoderTablesModel" 155 (10) ∈ GW := gw_mk 772 (by decide +kernel) (by decide +kernel)
theorem w773 : Cond.methodLink "CoderTablesModel" 157 ⟨"CoderTablesModel", "type", "(I)V"⟩ ∈ GW := gw_mk 773 (by decide +kernel) (by decide +kernel)
theorem w775 : Cond.instanceMethod ⟨"CoderTablesModel", "type", "(I)V"⟩ ∈ GW := gw_mk 775 (by decide +kernel) (by decide +kernel)
theorem w776 : Cond.code ⟨"CoderTablesModel", "type", "(I)V"⟩ prog_5_method_41_code 2 none ∈ GW := gw_mk 776 (by decide +kernel) (by decide +kernel)
theorem w777 : Cond.methodLink "CoderTablesLaw" 147 ⟨"CoderTablesModel", "charAt", "(I)I"⟩ ∈ GW := gw_mk 777 (by decide +kernel) (by decide +kernel)
theorem w778 : Cond.instanceMethod ⟨"CoderTablesModel", "charAt", "(I)I"⟩ ∈ GW := gw_mk 778 (by decide +kernel) (by decide +kernel)
theorem w779 : Cond.selects "CoderTablesModel" ⟨"CoderTablesModel", "charAt", "(I)I"⟩ ⟨"CoderTablesModel", "charAt", "(I)I"⟩ ∈ GW := gw_mk 779 (by decide +kernel) (by decide +kernel)
theorem w780 : Cond.code ⟨"CoderTablesModel", "charAt", "(I)I"⟩ prog_5_method_44_code 2 (some .int) ∈ GW := gw_mk 780 (by decide +kernel) (by decide +kernel)
theorem w781 : Cond.methodLink "CoderTablesLaw" 151 ⟨"CoderTablesModel", "told", "(I)I"⟩ ∈ GW := gw_mk 781 (by decide +kernel) (by decide +kernel)
theorem w782 : Cond.instanceMethod ⟨"CoderTablesModel", "told", "(I)I"⟩ ∈ GW := gw_mk 782 (by decide +kernel) (by decide +kernel)
theorem w783 : Cond.selects "CoderTablesModel" ⟨"CoderTablesModel", "told", "(I)I"⟩ ⟨"CoderTablesModel", "told", "(I)I"⟩ ∈ GW := gw_mk 783 (by decide +kernel) (by decide +kernel)
theorem w784 : Cond.code ⟨"CoderTablesModel", "told", "(I)I"⟩ prog_5_method_45_code 4 (some .int) ∈ GW := gw_mk 784 (by decide +kernel) (by decide +kernel)
theorem w785 : Cond.methodLink "CoderTablesLaw" 155 ⟨"CoderTablesModel", "clear", "()V"⟩ ∈ GW := gw_mk 785 (by decide +kernel) (by decide +kernel)
theorem w786 : Cond.instanceMethod ⟨"CoderTablesModel", "clear", "()V"⟩ ∈ GW := gw_mk 786 (by decide +kernel) (by decide +kernel)
theorem w787 : Cond.selects "CoderTablesModel" ⟨"CoderTablesModel", "clear", "()V"⟩ ⟨"CoderTablesModel", "clear", "()V"⟩ ∈ GW := gw_mk 787 (by decide +kernel) (by decide +kernel)
theorem w788 : Cond.code ⟨"CoderTablesModel", "clear", "()V"⟩ prog_5_method_46_code 2 none ∈ GW := gw_mk 788 (by decide +kernel) (by decide +kernel)
theorem w789 : Cond.constantLong "CoderTablesLaw" 130 (4294967295) ∈ GW := gw_mk 789 (by decide +kernel) (by decide +kernel)
end
