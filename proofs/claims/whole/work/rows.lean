section
-- ===== PART A: goes FIRST, ahead of the names: the tables' words, and 'selects' of the private methods out of them =====
/-- a private method of a class that the tables say can be made, by its rows of tables_1 -/
def lw_okq (q : MethodName × Nat) : Prop := (q.1.cls ≠ "java/lang/invoke/MethodHandle" ∧ q.1.cls ≠ "java/lang/invoke/VarHandle") ∧ Cond.instantiable q.1.cls q.2 ∈ tables_1 ∧ Cond.privateMethod q.1 ∈ tables_1 ∧ Cond.instanceMethod q.1 ∈ tables_1
theorem lw_p0 : lw_okq (⟨"DatatypeTerms$Population", "findSmallest", "()V"⟩, 3) := ⟨⟨by decide +kernel, by decide +kernel⟩, List.mem_of_getElem? (i := 61) (by decide +kernel), List.mem_of_getElem? (i := 361) (by decide +kernel), List.mem_of_getElem? (i := 362) (by decide +kernel)⟩
theorem lw_p1 : lw_okq (⟨"DatatypeTerms$Population", "improveSmallest", "(I)V"⟩, 3) := ⟨⟨by decide +kernel, by decide +kernel⟩, List.mem_of_getElem? (i := 61) (by decide +kernel), List.mem_of_getElem? (i := 365) (by decide +kernel), List.mem_of_getElem? (i := 366) (by decide +kernel)⟩
theorem lw_p2 : lw_okq (⟨"DatatypeTerms$Population", "isUsable", "(I)Z"⟩, 3) := ⟨⟨by decide +kernel, by decide +kernel⟩, List.mem_of_getElem? (i := 61) (by decide +kernel), List.mem_of_getElem? (i := 369) (by decide +kernel), List.mem_of_getElem? (i := 370) (by decide +kernel)⟩
theorem lw_p3 : lw_okq (⟨"DatatypeTerms$Population", "findTotals", "()V"⟩, 3) := ⟨⟨by decide +kernel, by decide +kernel⟩, List.mem_of_getElem? (i := 61) (by decide +kernel), List.mem_of_getElem? (i := 377) (by decide +kernel), List.mem_of_getElem? (i := 378) (by decide +kernel)⟩
theorem lw_p4 : lw_okq (⟨"DatatypeTerms$Population", "totalOfType", "(I)I"⟩, 3) := ⟨⟨by decide +kernel, by decide +kernel⟩, List.mem_of_getElem? (i := 61) (by decide +kernel), List.mem_of_getElem? (i := 381) (by decide +kernel), List.mem_of_getElem? (i := 382) (by decide +kernel)⟩
theorem lw_p5 : lw_okq (⟨"DatatypeTerms$Population", "totalOfConstructor", "(I)I"⟩, 3) := ⟨⟨by decide +kernel, by decide +kernel⟩, List.mem_of_getElem? (i := 61) (by decide +kernel), List.mem_of_getElem? (i := 385) (by decide +kernel), List.mem_of_getElem? (i := 386) (by decide +kernel)⟩
theorem lw_p6 : lw_okq (⟨"DatatypeTerms$ValueOrder", "fillWays", "(II)V"⟩, 4) := ⟨⟨by decide +kernel, by decide +kernel⟩, List.mem_of_getElem? (i := 82) (by decide +kernel), List.mem_of_getElem? (i := 402) (by decide +kernel), List.mem_of_getElem? (i := 403) (by decide +kernel)⟩
theorem lw_p7 : lw_okq (⟨"DatatypeTerms$ValueOrder", "waysOfSplit", "(IIII)I"⟩, 4) := ⟨⟨by decide +kernel, by decide +kernel⟩, List.mem_of_getElem? (i := 82) (by decide +kernel), List.mem_of_getElem? (i := 409) (by decide +kernel), List.mem_of_getElem? (i := 410) (by decide +kernel)⟩
theorem lw_p8 : lw_okq (⟨"DatatypeTerms$ValueOrder", "waysOf", "(III)I"⟩, 4) := ⟨⟨by decide +kernel, by decide +kernel⟩, List.mem_of_getElem? (i := 82) (by decide +kernel), List.mem_of_getElem? (i := 416) (by decide +kernel), List.mem_of_getElem? (i := 417) (by decide +kernel)⟩
theorem lw_p9 : lw_okq (⟨"DatatypeTerms$ValueBuilder", "await", "(III)V"⟩, 8) := ⟨⟨by decide +kernel, by decide +kernel⟩, List.mem_of_getElem? (i := 141) (by decide +kernel), List.mem_of_getElem? (i := 465) (by decide +kernel), List.mem_of_getElem? (i := 466) (by decide +kernel)⟩
theorem lw_p10 : lw_okq (⟨"DatatypeTerms$ValueBuilder", "place", "(IIII)V"⟩, 8) := ⟨⟨by decide +kernel, by decide +kernel⟩, List.mem_of_getElem? (i := 141) (by decide +kernel), List.mem_of_getElem? (i := 469) (by decide +kernel), List.mem_of_getElem? (i := 470) (by decide +kernel)⟩
theorem lw_p11 : lw_okq (⟨"DatatypeTerms$Walk", "unlistedPart", "(I)I"⟩, 6) := ⟨⟨by decide +kernel, by decide +kernel⟩, List.mem_of_getElem? (i := 178) (by decide +kernel), List.mem_of_getElem? (i := 576) (by decide +kernel), List.mem_of_getElem? (i := 577) (by decide +kernel)⟩
theorem lw_p12 : lw_okq (⟨"DatatypeTerms$Walk", "list", "(I)V"⟩, 6) := ⟨⟨by decide +kernel, by decide +kernel⟩, List.mem_of_getElem? (i := 178) (by decide +kernel), List.mem_of_getElem? (i := 586) (by decide +kernel), List.mem_of_getElem? (i := 587) (by decide +kernel)⟩
theorem lw_p13 : lw_okq (⟨"DatatypeTerms$TermReader", "sizeFromParts", "(I)I"⟩, 8) := ⟨⟨by decide +kernel, by decide +kernel⟩, List.mem_of_getElem? (i := 172) (by decide +kernel), List.mem_of_getElem? (i := 590) (by decide +kernel), List.mem_of_getElem? (i := 591) (by decide +kernel)⟩
theorem lw_p14 : lw_okq (⟨"DatatypeTerms$TermReader", "findCanonical", "()V"⟩, 8) := ⟨⟨by decide +kernel, by decide +kernel⟩, List.mem_of_getElem? (i := 172) (by decide +kernel), List.mem_of_getElem? (i := 619) (by decide +kernel), List.mem_of_getElem? (i := 620) (by decide +kernel)⟩
theorem lw_p15 : lw_okq (⟨"DatatypeTerms$TermReader", "haveEqualParts", "(II)Z"⟩, 8) := ⟨⟨by decide +kernel, by decide +kernel⟩, List.mem_of_getElem? (i := 172) (by decide +kernel), List.mem_of_getElem? (i := 623) (by decide +kernel), List.mem_of_getElem? (i := 624) (by decide +kernel)⟩
def lw_privs_1 : List (MethodName × Nat) := [(⟨"DatatypeTerms$Population", "findSmallest", "()V"⟩, 3), (⟨"DatatypeTerms$Population", "improveSmallest", "(I)V"⟩, 3), (⟨"DatatypeTerms$Population", "isUsable", "(I)Z"⟩, 3), (⟨"DatatypeTerms$Population", "findTotals", "()V"⟩, 3), (⟨"DatatypeTerms$Population", "totalOfType", "(I)I"⟩, 3), (⟨"DatatypeTerms$Population", "totalOfConstructor", "(I)I"⟩, 3), (⟨"DatatypeTerms$ValueOrder", "fillWays", "(II)V"⟩, 4), (⟨"DatatypeTerms$ValueOrder", "waysOfSplit", "(IIII)I"⟩, 4), (⟨"DatatypeTerms$ValueOrder", "waysOf", "(III)I"⟩, 4), (⟨"DatatypeTerms$ValueBuilder", "await", "(III)V"⟩, 8), (⟨"DatatypeTerms$ValueBuilder", "place", "(IIII)V"⟩, 8), (⟨"DatatypeTerms$Walk", "unlistedPart", "(I)I"⟩, 6), (⟨"DatatypeTerms$Walk", "list", "(I)V"⟩, 6), (⟨"DatatypeTerms$TermReader", "sizeFromParts", "(I)I"⟩, 8), (⟨"DatatypeTerms$TermReader", "findCanonical", "()V"⟩, 8), (⟨"DatatypeTerms$TermReader", "haveEqualParts", "(II)Z"⟩, 8)]
theorem lw_r1 : ∀ q ∈ lw_privs_1, lw_okq q := List.forall_mem_cons.mpr ⟨lw_p0, List.forall_mem_cons.mpr ⟨lw_p1, List.forall_mem_cons.mpr ⟨lw_p2, List.forall_mem_cons.mpr ⟨lw_p3, List.forall_mem_cons.mpr ⟨lw_p4, List.forall_mem_cons.mpr ⟨lw_p5, List.forall_mem_cons.mpr ⟨lw_p6, List.forall_mem_cons.mpr ⟨lw_p7, List.forall_mem_cons.mpr ⟨lw_p8, List.forall_mem_cons.mpr ⟨lw_p9, List.forall_mem_cons.mpr ⟨lw_p10, List.forall_mem_cons.mpr ⟨lw_p11, List.forall_mem_cons.mpr ⟨lw_p12, List.forall_mem_cons.mpr ⟨lw_p13, List.forall_mem_cons.mpr ⟨lw_p14, List.forall_mem_cons.mpr ⟨lw_p15, fun _ h => absurd h List.not_mem_nil⟩⟩⟩⟩⟩⟩⟩⟩⟩⟩⟩⟩⟩⟩⟩⟩
theorem lw_p16 : lw_okq (⟨"DatatypeTerms$Unifier", "await", "(II)V"⟩, 7) := ⟨⟨by decide +kernel, by decide +kernel⟩, List.mem_of_getElem? (i := 230) (by decide +kernel), List.mem_of_getElem? (i := 641) (by decide +kernel), List.mem_of_getElem? (i := 642) (by decide +kernel)⟩
theorem lw_p17 : lw_okq (⟨"DatatypeTerms$Unifier", "unifyResolved", "(II)I"⟩, 7) := ⟨⟨by decide +kernel, by decide +kernel⟩, List.mem_of_getElem? (i := 230) (by decide +kernel), List.mem_of_getElem? (i := 647) (by decide +kernel), List.mem_of_getElem? (i := 648) (by decide +kernel)⟩
theorem lw_p18 : lw_okq (⟨"DatatypeTerms$Unifier", "bindToTerm", "(II)I"⟩, 7) := ⟨⟨by decide +kernel, by decide +kernel⟩, List.mem_of_getElem? (i := 230) (by decide +kernel), List.mem_of_getElem? (i := 656) (by decide +kernel), List.mem_of_getElem? (i := 657) (by decide +kernel)⟩
theorem lw_p19 : lw_okq (⟨"DatatypeTerms$Unifier", "open", "(II)V"⟩, 7) := ⟨⟨by decide +kernel, by decide +kernel⟩, List.mem_of_getElem? (i := 230) (by decide +kernel), List.mem_of_getElem? (i := 663) (by decide +kernel), List.mem_of_getElem? (i := 664) (by decide +kernel)⟩
theorem lw_p20 : lw_okq (⟨"DatatypeTerms$Rows", "fits", "(ILDatatypeTerms$Values;I)Z"⟩, 10) := ⟨⟨by decide +kernel, by decide +kernel⟩, List.mem_of_getElem? (i := 275) (by decide +kernel), List.mem_of_getElem? (i := 726) (by decide +kernel), List.mem_of_getElem? (i := 727) (by decide +kernel)⟩
theorem lw_p21 : lw_okq (⟨"DatatypeTerms$Rows", "await", "(II)V"⟩, 10) := ⟨⟨by decide +kernel, by decide +kernel⟩, List.mem_of_getElem? (i := 275) (by decide +kernel), List.mem_of_getElem? (i := 730) (by decide +kernel), List.mem_of_getElem? (i := 731) (by decide +kernel)⟩
theorem lw_p22 : lw_okq (⟨"DatatypeTerms$Rows", "fitsAtRoot", "(ILDatatypeTerms$Values;I)Z"⟩, 10) := ⟨⟨by decide +kernel, by decide +kernel⟩, List.mem_of_getElem? (i := 275) (by decide +kernel), List.mem_of_getElem? (i := 736) (by decide +kernel), List.mem_of_getElem? (i := 737) (by decide +kernel)⟩
theorem lw_p23 : lw_okq (⟨"DatatypeTerms$Rows", "fitsVariable", "(II)Z"⟩, 10) := ⟨⟨by decide +kernel, by decide +kernel⟩, List.mem_of_getElem? (i := 275) (by decide +kernel), List.mem_of_getElem? (i := 741) (by decide +kernel), List.mem_of_getElem? (i := 742) (by decide +kernel)⟩
theorem lw_p24 : lw_okq (⟨"DatatypeTerms", "countFirstFitting", "(II)I"⟩, 9) := ⟨⟨by decide +kernel, by decide +kernel⟩, List.mem_of_getElem? (i := 17) (by decide +kernel), List.mem_of_getElem? (i := 776) (by decide +kernel), List.mem_of_getElem? (i := 777) (by decide +kernel)⟩
theorem lw_p25 : lw_okq (⟨"DatatypeTerms", "firstIndexUncovered", "(I)I"⟩, 9) := ⟨⟨by decide +kernel, by decide +kernel⟩, List.mem_of_getElem? (i := 17) (by decide +kernel), List.mem_of_getElem? (i := 785) (by decide +kernel), List.mem_of_getElem? (i := 786) (by decide +kernel)⟩
theorem lw_p26 : lw_okq (⟨"DatatypeTermsModel", "isType", "(I)Z"⟩, 42) := ⟨⟨by decide +kernel, by decide +kernel⟩, List.mem_of_getElem? (i := 793) (by decide +kernel), List.mem_of_getElem? (i := 938) (by decide +kernel), List.mem_of_getElem? (i := 939) (by decide +kernel)⟩
theorem lw_p27 : lw_okq (⟨"DatatypeTermsModel", "isConstructor", "(I)Z"⟩, 42) := ⟨⟨by decide +kernel, by decide +kernel⟩, List.mem_of_getElem? (i := 793) (by decide +kernel), List.mem_of_getElem? (i := 946) (by decide +kernel), List.mem_of_getElem? (i := 947) (by decide +kernel)⟩
theorem lw_p28 : lw_okq (⟨"DatatypeTermsModel", "layWithin", "()V"⟩, 42) := ⟨⟨by decide +kernel, by decide +kernel⟩, List.mem_of_getElem? (i := 793) (by decide +kernel), List.mem_of_getElem? (i := 962) (by decide +kernel), List.mem_of_getElem? (i := 963) (by decide +kernel)⟩
theorem lw_p29 : lw_okq (⟨"DatatypeTermsModel", "laySmallest", "()V"⟩, 42) := ⟨⟨by decide +kernel, by decide +kernel⟩, List.mem_of_getElem? (i := 793) (by decide +kernel), List.mem_of_getElem? (i := 966) (by decide +kernel), List.mem_of_getElem? (i := 967) (by decide +kernel)⟩
theorem lw_p30 : lw_okq (⟨"DatatypeTermsModel", "sizeBy", "(I)I"⟩, 42) := ⟨⟨by decide +kernel, by decide +kernel⟩, List.mem_of_getElem? (i := 793) (by decide +kernel), List.mem_of_getElem? (i := 970) (by decide +kernel), List.mem_of_getElem? (i := 971) (by decide +kernel)⟩
theorem lw_p31 : lw_okq (⟨"DatatypeTermsModel", "isInfinite", "(I)Z"⟩, 42) := ⟨⟨by decide +kernel, by decide +kernel⟩, List.mem_of_getElem? (i := 793) (by decide +kernel), List.mem_of_getElem? (i := 974) (by decide +kernel), List.mem_of_getElem? (i := 975) (by decide +kernel)⟩
def lw_privs_2 : List (MethodName × Nat) := [(⟨"DatatypeTerms$Unifier", "await", "(II)V"⟩, 7), (⟨"DatatypeTerms$Unifier", "unifyResolved", "(II)I"⟩, 7), (⟨"DatatypeTerms$Unifier", "bindToTerm", "(II)I"⟩, 7), (⟨"DatatypeTerms$Unifier", "open", "(II)V"⟩, 7), (⟨"DatatypeTerms$Rows", "fits", "(ILDatatypeTerms$Values;I)Z"⟩, 10), (⟨"DatatypeTerms$Rows", "await", "(II)V"⟩, 10), (⟨"DatatypeTerms$Rows", "fitsAtRoot", "(ILDatatypeTerms$Values;I)Z"⟩, 10), (⟨"DatatypeTerms$Rows", "fitsVariable", "(II)Z"⟩, 10), (⟨"DatatypeTerms", "countFirstFitting", "(II)I"⟩, 9), (⟨"DatatypeTerms", "firstIndexUncovered", "(I)I"⟩, 9), (⟨"DatatypeTermsModel", "isType", "(I)Z"⟩, 42), (⟨"DatatypeTermsModel", "isConstructor", "(I)Z"⟩, 42), (⟨"DatatypeTermsModel", "layWithin", "()V"⟩, 42), (⟨"DatatypeTermsModel", "laySmallest", "()V"⟩, 42), (⟨"DatatypeTermsModel", "sizeBy", "(I)I"⟩, 42), (⟨"DatatypeTermsModel", "isInfinite", "(I)Z"⟩, 42)]
theorem lw_r2 : ∀ q ∈ lw_privs_2, lw_okq q := List.forall_mem_cons.mpr ⟨lw_p16, List.forall_mem_cons.mpr ⟨lw_p17, List.forall_mem_cons.mpr ⟨lw_p18, List.forall_mem_cons.mpr ⟨lw_p19, List.forall_mem_cons.mpr ⟨lw_p20, List.forall_mem_cons.mpr ⟨lw_p21, List.forall_mem_cons.mpr ⟨lw_p22, List.forall_mem_cons.mpr ⟨lw_p23, List.forall_mem_cons.mpr ⟨lw_p24, List.forall_mem_cons.mpr ⟨lw_p25, List.forall_mem_cons.mpr ⟨lw_p26, List.forall_mem_cons.mpr ⟨lw_p27, List.forall_mem_cons.mpr ⟨lw_p28, List.forall_mem_cons.mpr ⟨lw_p29, List.forall_mem_cons.mpr ⟨lw_p30, List.forall_mem_cons.mpr ⟨lw_p31, fun _ h => absurd h List.not_mem_nil⟩⟩⟩⟩⟩⟩⟩⟩⟩⟩⟩⟩⟩⟩⟩⟩
theorem lw_p32 : lw_okq (⟨"DatatypeTermsModel", "layAll", "()V"⟩, 42) := ⟨⟨by decide +kernel, by decide +kernel⟩, List.mem_of_getElem? (i := 793) (by decide +kernel), List.mem_of_getElem? (i := 978) (by decide +kernel), List.mem_of_getElem? (i := 979) (by decide +kernel)⟩
theorem lw_p33 : lw_okq (⟨"DatatypeTermsModel", "allBy", "(I)I"⟩, 42) := ⟨⟨by decide +kernel, by decide +kernel⟩, List.mem_of_getElem? (i := 793) (by decide +kernel), List.mem_of_getElem? (i := 982) (by decide +kernel), List.mem_of_getElem? (i := 983) (by decide +kernel)⟩
theorem lw_p34 : lw_okq (⟨"DatatypeTermsModel", "layCounts", "()V"⟩, 42) := ⟨⟨by decide +kernel, by decide +kernel⟩, List.mem_of_getElem? (i := 793) (by decide +kernel), List.mem_of_getElem? (i := 999) (by decide +kernel), List.mem_of_getElem? (i := 1000) (by decide +kernel)⟩
theorem lw_p35 : lw_okq (⟨"DatatypeTermsModel", "layWays", "(II)V"⟩, 42) := ⟨⟨by decide +kernel, by decide +kernel⟩, List.mem_of_getElem? (i := 793) (by decide +kernel), List.mem_of_getElem? (i := 1003) (by decide +kernel), List.mem_of_getElem? (i := 1004) (by decide +kernel)⟩
theorem lw_p36 : lw_okq (⟨"DatatypeTermsModel", "countOf", "(II)I"⟩, 42) := ⟨⟨by decide +kernel, by decide +kernel⟩, List.mem_of_getElem? (i := 793) (by decide +kernel), List.mem_of_getElem? (i := 1010) (by decide +kernel), List.mem_of_getElem? (i := 1011) (by decide +kernel)⟩
theorem lw_p37 : lw_okq (⟨"DatatypeTermsModel", "layValue", "(III)V"⟩, 42) := ⟨⟨by decide +kernel, by decide +kernel⟩, List.mem_of_getElem? (i := 793) (by decide +kernel), List.mem_of_getElem? (i := 1018) (by decide +kernel), List.mem_of_getElem? (i := 1019) (by decide +kernel)⟩
theorem lw_p38 : lw_okq (⟨"DatatypeTermsModel", "share", "(III)V"⟩, 42) := ⟨⟨by decide +kernel, by decide +kernel⟩, List.mem_of_getElem? (i := 793) (by decide +kernel), List.mem_of_getElem? (i := 1022) (by decide +kernel), List.mem_of_getElem? (i := 1023) (by decide +kernel)⟩
theorem lw_p39 : lw_okq (⟨"DatatypeTermsModel", "blockOf", "(IIIII)I"⟩, 42) := ⟨⟨by decide +kernel, by decide +kernel⟩, List.mem_of_getElem? (i := 793) (by decide +kernel), List.mem_of_getElem? (i := 1026) (by decide +kernel), List.mem_of_getElem? (i := 1027) (by decide +kernel)⟩
theorem lw_p40 : lw_okq (⟨"DatatypeTermsModel", "layParts", "()V"⟩, 42) := ⟨⟨by decide +kernel, by decide +kernel⟩, List.mem_of_getElem? (i := 793) (by decide +kernel), List.mem_of_getElem? (i := 1030) (by decide +kernel), List.mem_of_getElem? (i := 1031) (by decide +kernel)⟩
theorem lw_p41 : lw_okq (⟨"DatatypeTermsModel", "makeNodes", "()I"⟩, 42) := ⟨⟨by decide +kernel, by decide +kernel⟩, List.mem_of_getElem? (i := 793) (by decide +kernel), List.mem_of_getElem? (i := 1034) (by decide +kernel), List.mem_of_getElem? (i := 1035) (by decide +kernel)⟩
theorem lw_p42 : lw_okq (⟨"DatatypeTermsModel", "addNode", "(IIIII)I"⟩, 42) := ⟨⟨by decide +kernel, by decide +kernel⟩, List.mem_of_getElem? (i := 793) (by decide +kernel), List.mem_of_getElem? (i := 1038) (by decide +kernel), List.mem_of_getElem? (i := 1039) (by decide +kernel)⟩
theorem lw_p43 : lw_okq (⟨"DatatypeTermsModel", "wrongChild", "(III)I"⟩, 42) := ⟨⟨by decide +kernel, by decide +kernel⟩, List.mem_of_getElem? (i := 793) (by decide +kernel), List.mem_of_getElem? (i := 1050) (by decide +kernel), List.mem_of_getElem? (i := 1051) (by decide +kernel)⟩
theorem lw_p44 : lw_okq (⟨"DatatypeTermsModel", "isNode", "(I)Z"⟩, 42) := ⟨⟨by decide +kernel, by decide +kernel⟩, List.mem_of_getElem? (i := 793) (by decide +kernel), List.mem_of_getElem? (i := 1054) (by decide +kernel), List.mem_of_getElem? (i := 1055) (by decide +kernel)⟩
theorem lw_p45 : lw_okq (⟨"DatatypeTermsModel", "resolved", "(I)I"⟩, 42) := ⟨⟨by decide +kernel, by decide +kernel⟩, List.mem_of_getElem? (i := 793) (by decide +kernel), List.mem_of_getElem? (i := 1070) (by decide +kernel), List.mem_of_getElem? (i := 1071) (by decide +kernel)⟩
theorem lw_p46 : lw_okq (⟨"DatatypeTermsModel", "manyOf", "(I)I"⟩, 42) := ⟨⟨by decide +kernel, by decide +kernel⟩, List.mem_of_getElem? (i := 793) (by decide +kernel), List.mem_of_getElem? (i := 1078) (by decide +kernel), List.mem_of_getElem? (i := 1079) (by decide +kernel)⟩
theorem lw_p47 : lw_okq (⟨"DatatypeTermsModel", "laySizes", "()V"⟩, 42) := ⟨⟨by decide +kernel, by decide +kernel⟩, List.mem_of_getElem? (i := 793) (by decide +kernel), List.mem_of_getElem? (i := 1090) (by decide +kernel), List.mem_of_getElem? (i := 1091) (by decide +kernel)⟩
def lw_privs_3 : List (MethodName × Nat) := [(⟨"DatatypeTermsModel", "layAll", "()V"⟩, 42), (⟨"DatatypeTermsModel", "allBy", "(I)I"⟩, 42), (⟨"DatatypeTermsModel", "layCounts", "()V"⟩, 42), (⟨"DatatypeTermsModel", "layWays", "(II)V"⟩, 42), (⟨"DatatypeTermsModel", "countOf", "(II)I"⟩, 42), (⟨"DatatypeTermsModel", "layValue", "(III)V"⟩, 42), (⟨"DatatypeTermsModel", "share", "(III)V"⟩, 42), (⟨"DatatypeTermsModel", "blockOf", "(IIIII)I"⟩, 42), (⟨"DatatypeTermsModel", "layParts", "()V"⟩, 42), (⟨"DatatypeTermsModel", "makeNodes", "()I"⟩, 42), (⟨"DatatypeTermsModel", "addNode", "(IIIII)I"⟩, 42), (⟨"DatatypeTermsModel", "wrongChild", "(III)I"⟩, 42), (⟨"DatatypeTermsModel", "isNode", "(I)Z"⟩, 42), (⟨"DatatypeTermsModel", "resolved", "(I)I"⟩, 42), (⟨"DatatypeTermsModel", "manyOf", "(I)I"⟩, 42), (⟨"DatatypeTermsModel", "laySizes", "()V"⟩, 42)]
theorem lw_r3 : ∀ q ∈ lw_privs_3, lw_okq q := List.forall_mem_cons.mpr ⟨lw_p32, List.forall_mem_cons.mpr ⟨lw_p33, List.forall_mem_cons.mpr ⟨lw_p34, List.forall_mem_cons.mpr ⟨lw_p35, List.forall_mem_cons.mpr ⟨lw_p36, List.forall_mem_cons.mpr ⟨lw_p37, List.forall_mem_cons.mpr ⟨lw_p38, List.forall_mem_cons.mpr ⟨lw_p39, List.forall_mem_cons.mpr ⟨lw_p40, List.forall_mem_cons.mpr ⟨lw_p41, List.forall_mem_cons.mpr ⟨lw_p42, List.forall_mem_cons.mpr ⟨lw_p43, List.forall_mem_cons.mpr ⟨lw_p44, List.forall_mem_cons.mpr ⟨lw_p45, List.forall_mem_cons.mpr ⟨lw_p46, List.forall_mem_cons.mpr ⟨lw_p47, fun _ h => absurd h List.not_mem_nil⟩⟩⟩⟩⟩⟩⟩⟩⟩⟩⟩⟩⟩⟩⟩⟩
theorem lw_p48 : lw_okq (⟨"DatatypeTermsModel", "sizeNow", "(I)I"⟩, 42) := ⟨⟨by decide +kernel, by decide +kernel⟩, List.mem_of_getElem? (i := 793) (by decide +kernel), List.mem_of_getElem? (i := 1094) (by decide +kernel), List.mem_of_getElem? (i := 1095) (by decide +kernel)⟩
theorem lw_p49 : lw_okq (⟨"DatatypeTermsModel", "layRanks", "()V"⟩, 42) := ⟨⟨by decide +kernel, by decide +kernel⟩, List.mem_of_getElem? (i := 793) (by decide +kernel), List.mem_of_getElem? (i := 1102) (by decide +kernel), List.mem_of_getElem? (i := 1103) (by decide +kernel)⟩
theorem lw_p50 : lw_okq (⟨"DatatypeTermsModel", "rankNow", "(I)I"⟩, 42) := ⟨⟨by decide +kernel, by decide +kernel⟩, List.mem_of_getElem? (i := 793) (by decide +kernel), List.mem_of_getElem? (i := 1106) (by decide +kernel), List.mem_of_getElem? (i := 1107) (by decide +kernel)⟩
theorem lw_p51 : lw_okq (⟨"DatatypeTermsModel", "beginPairs", "(II)V"⟩, 42) := ⟨⟨by decide +kernel, by decide +kernel⟩, List.mem_of_getElem? (i := 793) (by decide +kernel), List.mem_of_getElem? (i := 1114) (by decide +kernel), List.mem_of_getElem? (i := 1115) (by decide +kernel)⟩
theorem lw_p52 : lw_okq (⟨"DatatypeTermsModel", "pushChildren", "(II)V"⟩, 42) := ⟨⟨by decide +kernel, by decide +kernel⟩, List.mem_of_getElem? (i := 793) (by decide +kernel), List.mem_of_getElem? (i := 1118) (by decide +kernel), List.mem_of_getElem? (i := 1119) (by decide +kernel)⟩
theorem lw_p53 : lw_okq (⟨"DatatypeTermsModel", "unifyNow", "(II)I"⟩, 42) := ⟨⟨by decide +kernel, by decide +kernel⟩, List.mem_of_getElem? (i := 793) (by decide +kernel), List.mem_of_getElem? (i := 1126) (by decide +kernel), List.mem_of_getElem? (i := 1127) (by decide +kernel)⟩
theorem lw_p54 : lw_okq (⟨"DatatypeTermsModel", "bind", "(II)V"⟩, 42) := ⟨⟨by decide +kernel, by decide +kernel⟩, List.mem_of_getElem? (i := 793) (by decide +kernel), List.mem_of_getElem? (i := 1130) (by decide +kernel), List.mem_of_getElem? (i := 1131) (by decide +kernel)⟩
theorem lw_p55 : lw_okq (⟨"DatatypeTermsModel", "occurs", "(II)Z"⟩, 42) := ⟨⟨by decide +kernel, by decide +kernel⟩, List.mem_of_getElem? (i := 793) (by decide +kernel), List.mem_of_getElem? (i := 1134) (by decide +kernel), List.mem_of_getElem? (i := 1135) (by decide +kernel)⟩
theorem lw_p56 : lw_okq (⟨"DatatypeTermsModel", "layTerm", "(I)V"⟩, 42) := ⟨⟨by decide +kernel, by decide +kernel⟩, List.mem_of_getElem? (i := 793) (by decide +kernel), List.mem_of_getElem? (i := 1167) (by decide +kernel), List.mem_of_getElem? (i := 1168) (by decide +kernel)⟩
theorem lw_p57 : lw_okq (⟨"DatatypeTermsModel", "matchNow", "()I"⟩, 42) := ⟨⟨by decide +kernel, by decide +kernel⟩, List.mem_of_getElem? (i := 793) (by decide +kernel), List.mem_of_getElem? (i := 1171) (by decide +kernel), List.mem_of_getElem? (i := 1172) (by decide +kernel)⟩
theorem lw_p58 : lw_okq (⟨"DatatypeTermsModel", "matches", "(I)Z"⟩, 42) := ⟨⟨by decide +kernel, by decide +kernel⟩, List.mem_of_getElem? (i := 793) (by decide +kernel), List.mem_of_getElem? (i := 1175) (by decide +kernel), List.mem_of_getElem? (i := 1176) (by decide +kernel)⟩
theorem lw_p59 : lw_okq (⟨"DatatypeTermsModel", "areSame", "(II)Z"⟩, 42) := ⟨⟨by decide +kernel, by decide +kernel⟩, List.mem_of_getElem? (i := 793) (by decide +kernel), List.mem_of_getElem? (i := 1179) (by decide +kernel), List.mem_of_getElem? (i := 1180) (by decide +kernel)⟩
theorem lw_p60 : lw_okq (⟨"DatatypeTermsModel", "subject", "()I"⟩, 42) := ⟨⟨by decide +kernel, by decide +kernel⟩, List.mem_of_getElem? (i := 793) (by decide +kernel), List.mem_of_getElem? (i := 1187) (by decide +kernel), List.mem_of_getElem? (i := 1188) (by decide +kernel)⟩
theorem lw_p61 : lw_okq (⟨"DatatypeTermsModel", "countMatched", "(II)I"⟩, 42) := ⟨⟨by decide +kernel, by decide +kernel⟩, List.mem_of_getElem? (i := 793) (by decide +kernel), List.mem_of_getElem? (i := 1191) (by decide +kernel), List.mem_of_getElem? (i := 1192) (by decide +kernel)⟩
def lw_privs_4 : List (MethodName × Nat) := [(⟨"DatatypeTermsModel", "sizeNow", "(I)I"⟩, 42), (⟨"DatatypeTermsModel", "layRanks", "()V"⟩, 42), (⟨"DatatypeTermsModel", "rankNow", "(I)I"⟩, 42), (⟨"DatatypeTermsModel", "beginPairs", "(II)V"⟩, 42), (⟨"DatatypeTermsModel", "pushChildren", "(II)V"⟩, 42), (⟨"DatatypeTermsModel", "unifyNow", "(II)I"⟩, 42), (⟨"DatatypeTermsModel", "bind", "(II)V"⟩, 42), (⟨"DatatypeTermsModel", "occurs", "(II)Z"⟩, 42), (⟨"DatatypeTermsModel", "layTerm", "(I)V"⟩, 42), (⟨"DatatypeTermsModel", "matchNow", "()I"⟩, 42), (⟨"DatatypeTermsModel", "matches", "(I)Z"⟩, 42), (⟨"DatatypeTermsModel", "areSame", "(II)Z"⟩, 42), (⟨"DatatypeTermsModel", "subject", "()I"⟩, 42), (⟨"DatatypeTermsModel", "countMatched", "(II)I"⟩, 42)]
theorem lw_r4 : ∀ q ∈ lw_privs_4, lw_okq q := List.forall_mem_cons.mpr ⟨lw_p48, List.forall_mem_cons.mpr ⟨lw_p49, List.forall_mem_cons.mpr ⟨lw_p50, List.forall_mem_cons.mpr ⟨lw_p51, List.forall_mem_cons.mpr ⟨lw_p52, List.forall_mem_cons.mpr ⟨lw_p53, List.forall_mem_cons.mpr ⟨lw_p54, List.forall_mem_cons.mpr ⟨lw_p55, List.forall_mem_cons.mpr ⟨lw_p56, List.forall_mem_cons.mpr ⟨lw_p57, List.forall_mem_cons.mpr ⟨lw_p58, List.forall_mem_cons.mpr ⟨lw_p59, List.forall_mem_cons.mpr ⟨lw_p60, List.forall_mem_cons.mpr ⟨lw_p61, fun _ h => absurd h List.not_mem_nil⟩⟩⟩⟩⟩⟩⟩⟩⟩⟩⟩⟩⟩⟩
def lw_privs : List (MethodName × Nat) := lw_privs_1 ++ (lw_privs_2 ++ (lw_privs_3 ++ (lw_privs_4)))
def lw_tbl : List Cond := k2_sels lw_privs ++ tables_1
theorem lw_privs_ok : ∀ q ∈ lw_privs, lw_okq q := by
  show ∀ q ∈ lw_privs_1 ++ (lw_privs_2 ++ (lw_privs_3 ++ (lw_privs_4))), lw_okq q
  exact List.forall_mem_append.mpr ⟨lw_r1, List.forall_mem_append.mpr ⟨lw_r2, List.forall_mem_append.mpr ⟨lw_r3, lw_r4⟩⟩⟩
end
section
def RX0 : String := "DatatypeTerms$Nodes"
def TX0 : u_T := fun k => match k with
  | 0 => ("DatatypeTerms$Nodes", "signature", "LDatatypeTerms$Signature;", true)
  | 1 => ("DatatypeTerms$Nodes", "total", "I", false)
  | 2 => ("DatatypeTerms$Nodes", "types", "[I", true)
  | 3 => ("DatatypeTerms$Nodes", "constructors", "[I", true)
  | 4 => ("DatatypeTerms$Nodes", "children", "[I", true)
  | _ => ("DatatypeTerms$Nodes", "targets", "[I", true)
def tyX0 : Nat → FieldType := fun k => match k with
  | 0 => .object "DatatypeTerms$Signature"
  | 1 => .int
  | 2 => .array .int
  | 3 => .array .int
  | 4 => .array .int
  | _ => .array .int
abbrev wsX00 : List Cond := u_ws RX0 TX0 6
theorem nmX0 : ∀ a, a < 6 → ∀ b, b < 6 → a ≠ b → (TX0 a).2.1 ≠ (TX0 b).2.1 := by decide +kernel
theorem tyX0_ok : ∀ k, k < 6 → parseFieldDescriptor (TX0 k).2.2.1 = some (tyX0 k) := by decide +kernel
abbrev cX0_init : ByteArray := prog_2_method_1_code
def yX0_init : MethodName := ⟨RX0, "<init>", "(LDatatypeTerms$Signature;)V"⟩
abbrev cX0_contains : ByteArray := prog_2_method_2_code
def yX0_contains : MethodName := ⟨RX0, "contains", "(I)Z"⟩
abbrev cX0_addVariable : ByteArray := prog_2_method_3_code
def yX0_addVariable : MethodName := ⟨RX0, "addVariable", "(I)I"⟩
abbrev cX0_addConstructed : ByteArray := prog_2_method_4_code
def yX0_addConstructed : MethodName := ⟨RX0, "addConstructed", "(IIII)I"⟩
abbrev cX0_fill : ByteArray := prog_2_method_5_code
def yX0_fill : MethodName := ⟨RX0, "fill", "(II)V"⟩
abbrev cX0_isVariable : ByteArray := prog_2_method_6_code
def yX0_isVariable : MethodName := ⟨RX0, "isVariable", "(I)Z"⟩
abbrev cX0_partTotal : ByteArray := prog_2_method_7_code
def yX0_partTotal : MethodName := ⟨RX0, "partTotal", "(I)I"⟩
abbrev cX0_resolvedPart : ByteArray := prog_2_method_8_code
def yX0_resolvedPart : MethodName := ⟨RX0, "resolvedPart", "(II)I"⟩
abbrev cX0_resolve : ByteArray := prog_2_method_9_code
def yX0_resolve : MethodName := ⟨RX0, "resolve", "(I)I"⟩
abbrev cX0_countBound : ByteArray := prog_2_method_10_code
def yX0_countBound : MethodName := ⟨RX0, "countBound", "()I"⟩
def RX1 : String := "DatatypeTerms$Population"
def TX1 : u_T := fun k => match k with
  | 0 => ("DatatypeTerms$Population", "signature", "LDatatypeTerms$Signature;", true)
  | 1 => ("DatatypeTerms$Population", "smallest", "[I", true)
  | _ => ("DatatypeTerms$Population", "totals", "[I", true)
def tyX1 : Nat → FieldType := fun k => match k with
  | 0 => .object "DatatypeTerms$Signature"
  | 1 => .array .int
  | _ => .array .int
abbrev wsX10 : List Cond := u_ws RX1 TX1 3
theorem nmX1 : ∀ a, a < 3 → ∀ b, b < 3 → a ≠ b → (TX1 a).2.1 ≠ (TX1 b).2.1 := by decide +kernel
theorem tyX1_ok : ∀ k, k < 3 → parseFieldDescriptor (TX1 k).2.2.1 = some (tyX1 k) := by decide +kernel
abbrev cX1_init : ByteArray := prog_3_method_1_code
def yX1_init : MethodName := ⟨RX1, "<init>", "(LDatatypeTerms$Signature;)V"⟩
abbrev cX1_recompute : ByteArray := prog_3_method_2_code
def yX1_recompute : MethodName := ⟨RX1, "recompute", "()V"⟩
abbrev cX1_findSmallest : ByteArray := prog_3_method_3_code
def yX1_findSmallest : MethodName := ⟨RX1, "findSmallest", "()V"⟩
abbrev cX1_improveSmallest : ByteArray := prog_3_method_4_code
def yX1_improveSmallest : MethodName := ⟨RX1, "improveSmallest", "(I)V"⟩
abbrev cX1_isUsable : ByteArray := prog_3_method_5_code
def yX1_isUsable : MethodName := ⟨RX1, "isUsable", "(I)Z"⟩
abbrev cX1_findTotals : ByteArray := prog_3_method_6_code
def yX1_findTotals : MethodName := ⟨RX1, "findTotals", "()V"⟩
abbrev cX1_totalOfType : ByteArray := prog_3_method_7_code
def yX1_totalOfType : MethodName := ⟨RX1, "totalOfType", "(I)I"⟩
abbrev cX1_totalOfConstructor : ByteArray := prog_3_method_8_code
def yX1_totalOfConstructor : MethodName := ⟨RX1, "totalOfConstructor", "(I)I"⟩
def RX2 : String := "DatatypeTerms$Rows"
def TX2 : u_T := fun k => match k with
  | 0 => ("DatatypeTerms$Rows", "nodes", "LDatatypeTerms$Nodes;", true)
  | 1 => ("DatatypeTerms$Rows", "total", "I", false)
  | 2 => ("DatatypeTerms$Rows", "patterns", "[I", true)
  | 3 => ("DatatypeTerms$Rows", "matchNumber", "I", false)
  | 4 => ("DatatypeTerms$Rows", "givenIn", "[I", true)
  | 5 => ("DatatypeTerms$Rows", "givenValues", "[I", true)
  | 6 => ("DatatypeTerms$Rows", "waitingPatterns", "[I", true)
  | 7 => ("DatatypeTerms$Rows", "waitingValues", "[I", true)
  | 8 => ("DatatypeTerms$Rows", "waiting", "I", false)
  | _ => ("DatatypeTerms$Rows", "parts", "[I", true)
def tyX2 : Nat → FieldType := fun k => match k with
  | 0 => .object "DatatypeTerms$Nodes"
  | 1 => .int
  | 2 => .array .int
  | 3 => .int
  | 4 => .array .int
  | 5 => .array .int
  | 6 => .array .int
  | 7 => .array .int
  | 8 => .int
  | _ => .array .int
abbrev wsX20 : List Cond := u_ws RX2 TX2 10
theorem nmX2 : ∀ a, a < 10 → ∀ b, b < 10 → a ≠ b → (TX2 a).2.1 ≠ (TX2 b).2.1 := by decide +kernel
theorem tyX2_ok : ∀ k, k < 10 → parseFieldDescriptor (TX2 k).2.2.1 = some (tyX2 k) := by decide +kernel
abbrev cX2_init : ByteArray := prog_4_method_1_code
def yX2_init : MethodName := ⟨RX2, "<init>", "(LDatatypeTerms$Nodes;)V"⟩
abbrev cX2_subjectType : ByteArray := prog_4_method_2_code
def yX2_subjectType : MethodName := ⟨RX2, "subjectType", "()I"⟩
abbrev cX2_append : ByteArray := prog_4_method_3_code
def yX2_append : MethodName := ⟨RX2, "append", "(I)I"⟩
abbrev cX2_firstFitting : ByteArray := prog_4_method_4_code
def yX2_firstFitting : MethodName := ⟨RX2, "firstFitting", "(LDatatypeTerms$Values;I)I"⟩
abbrev cX2_fits : ByteArray := prog_4_method_5_code
def yX2_fits : MethodName := ⟨RX2, "fits", "(ILDatatypeTerms$Values;I)Z"⟩
abbrev cX2_fitsAtRoot : ByteArray := prog_4_method_6_code
def yX2_fitsAtRoot : MethodName := ⟨RX2, "fitsAtRoot", "(ILDatatypeTerms$Values;I)Z"⟩
abbrev cX2_fitsVariable : ByteArray := prog_4_method_7_code
def yX2_fitsVariable : MethodName := ⟨RX2, "fitsVariable", "(II)Z"⟩
abbrev cX2_await : ByteArray := prog_4_method_8_code
def yX2_await : MethodName := ⟨RX2, "await", "(II)V"⟩
def RX3 : String := "DatatypeTerms$SavedBindings"
def TX3 : u_T := fun k => match k with
  | 0 => ("DatatypeTerms$SavedBindings", "total", "I", false)
  | _ => ("DatatypeTerms$SavedBindings", "targets", "[I", true)
def tyX3 : Nat → FieldType := fun k => match k with
  | 0 => .int
  | _ => .array .int
abbrev wsX30 : List Cond := u_ws RX3 TX3 2
theorem nmX3 : ∀ a, a < 2 → ∀ b, b < 2 → a ≠ b → (TX3 a).2.1 ≠ (TX3 b).2.1 := by decide +kernel
theorem tyX3_ok : ∀ k, k < 2 → parseFieldDescriptor (TX3 k).2.2.1 = some (tyX3 k) := by decide +kernel
abbrev cX3_init : ByteArray := prog_5_method_1_code
def yX3_init : MethodName := ⟨RX3, "<init>", "()V"⟩
abbrev cX3_save : ByteArray := prog_5_method_2_code
def yX3_save : MethodName := ⟨RX3, "save", "([I)V"⟩
abbrev cX3_restore : ByteArray := prog_5_method_3_code
def yX3_restore : MethodName := ⟨RX3, "restore", "([I)V"⟩
def RX4 : String := "DatatypeTerms$Signature"
def TX4 : u_T := fun k => match k with
  | 0 => ("DatatypeTerms$Signature", "typeTotal", "I", false)
  | 1 => ("DatatypeTerms$Signature", "constructorTotal", "I", false)
  | 2 => ("DatatypeTerms$Signature", "resultTypes", "[I", true)
  | 3 => ("DatatypeTerms$Signature", "arities", "[I", true)
  | _ => ("DatatypeTerms$Signature", "argumentTypes", "[I", true)
def tyX4 : Nat → FieldType := fun k => match k with
  | 0 => .int
  | 1 => .int
  | 2 => .array .int
  | 3 => .array .int
  | _ => .array .int
abbrev wsX40 : List Cond := u_ws RX4 TX4 5
theorem nmX4 : ∀ a, a < 5 → ∀ b, b < 5 → a ≠ b → (TX4 a).2.1 ≠ (TX4 b).2.1 := by decide +kernel
theorem tyX4_ok : ∀ k, k < 5 → parseFieldDescriptor (TX4 k).2.2.1 = some (tyX4 k) := by decide +kernel
abbrev cX4_init : ByteArray := prog_6_method_1_code
def yX4_init : MethodName := ⟨RX4, "<init>", "()V"⟩
abbrev cX4_hasType : ByteArray := prog_6_method_2_code
def yX4_hasType : MethodName := ⟨RX4, "hasType", "(I)Z"⟩
abbrev cX4_hasConstructor : ByteArray := prog_6_method_3_code
def yX4_hasConstructor : MethodName := ⟨RX4, "hasConstructor", "(I)Z"⟩
abbrev cX4_typeOfArgument : ByteArray := prog_6_method_4_code
def yX4_typeOfArgument : MethodName := ⟨RX4, "typeOfArgument", "(II)I"⟩
abbrev cX4_define : ByteArray := prog_6_method_5_code
def yX4_define : MethodName := ⟨RX4, "define", "(IIIII)I"⟩
def RX5 : String := "DatatypeTerms$TermReader"
def TX5 : u_T := fun k => match k with
  | 0 => ("DatatypeTerms$TermReader", "nodes", "LDatatypeTerms$Nodes;", true)
  | 1 => ("DatatypeTerms$TermReader", "valueOrder", "LDatatypeTerms$ValueOrder;", true)
  | 2 => ("DatatypeTerms$TermReader", "walk", "LDatatypeTerms$Walk;", true)
  | 3 => ("DatatypeTerms$TermReader", "sizes", "[I", true)
  | 4 => ("DatatypeTerms$TermReader", "indices", "[I", true)
  | 5 => ("DatatypeTerms$TermReader", "canonical", "[I", true)
  | 6 => ("DatatypeTerms$TermReader", "partSizes", "[I", true)
  | _ => ("DatatypeTerms$TermReader", "partIndices", "[I", true)
def tyX5 : Nat → FieldType := fun k => match k with
  | 0 => .object "DatatypeTerms$Nodes"
  | 1 => .object "DatatypeTerms$ValueOrder"
  | 2 => .object "DatatypeTerms$Walk"
  | 3 => .array .int
  | 4 => .array .int
  | 5 => .array .int
  | 6 => .array .int
  | _ => .array .int
abbrev wsX50 : List Cond := u_ws RX5 TX5 8
theorem nmX5 : ∀ a, a < 8 → ∀ b, b < 8 → a ≠ b → (TX5 a).2.1 ≠ (TX5 b).2.1 := by decide +kernel
theorem tyX5_ok : ∀ k, k < 8 → parseFieldDescriptor (TX5 k).2.2.1 = some (tyX5 k) := by decide +kernel
abbrev cX5_init : ByteArray := prog_7_method_1_code
def yX5_init : MethodName := ⟨RX5, "<init>", "(LDatatypeTerms$Nodes;LDatatypeTerms$ValueOrder;)V"⟩
abbrev cX5_measure : ByteArray := prog_7_method_2_code
def yX5_measure : MethodName := ⟨RX5, "measure", "(I)I"⟩
abbrev cX5_sizeFromParts : ByteArray := prog_7_method_3_code
def yX5_sizeFromParts : MethodName := ⟨RX5, "sizeFromParts", "(I)I"⟩
abbrev cX5_indexAmongValues : ByteArray := prog_7_method_4_code
def yX5_indexAmongValues : MethodName := ⟨RX5, "indexAmongValues", "(I)I"⟩
abbrev cX5_sameTerm : ByteArray := prog_7_method_5_code
def yX5_sameTerm : MethodName := ⟨RX5, "sameTerm", "(II)Z"⟩
abbrev cX5_canonicalNode : ByteArray := prog_7_method_6_code
def yX5_canonicalNode : MethodName := ⟨RX5, "canonicalNode", "(I)I"⟩
abbrev cX5_findCanonical : ByteArray := prog_7_method_7_code
def yX5_findCanonical : MethodName := ⟨RX5, "findCanonical", "()V"⟩
abbrev cX5_haveEqualParts : ByteArray := prog_7_method_8_code
def yX5_haveEqualParts : MethodName := ⟨RX5, "haveEqualParts", "(II)Z"⟩
abbrev cX5_isBuiltBy : ByteArray := prog_7_method_9_code
def yX5_isBuiltBy : MethodName := ⟨RX5, "isBuiltBy", "(II)Z"⟩
abbrev cX5_split : ByteArray := prog_7_method_10_code
def yX5_split : MethodName := ⟨RX5, "split", "(II[I)V"⟩
def RX6 : String := "DatatypeTerms$Unifier"
def TX6 : u_T := fun k => match k with
  | 0 => ("DatatypeTerms$Unifier", "nodes", "LDatatypeTerms$Nodes;", true)
  | 1 => ("DatatypeTerms$Unifier", "walk", "LDatatypeTerms$Walk;", true)
  | 2 => ("DatatypeTerms$Unifier", "before", "[I", true)
  | 3 => ("DatatypeTerms$Unifier", "waitingLeft", "[I", true)
  | 4 => ("DatatypeTerms$Unifier", "waitingRight", "[I", true)
  | 5 => ("DatatypeTerms$Unifier", "waiting", "I", false)
  | _ => ("DatatypeTerms$Unifier", "opened", "[J", true)
def tyX6 : Nat → FieldType := fun k => match k with
  | 0 => .object "DatatypeTerms$Nodes"
  | 1 => .object "DatatypeTerms$Walk"
  | 2 => .array .int
  | 3 => .array .int
  | 4 => .array .int
  | 5 => .int
  | _ => .array .long
abbrev wsX60 : List Cond := u_ws RX6 TX6 7
theorem nmX6 : ∀ a, a < 7 → ∀ b, b < 7 → a ≠ b → (TX6 a).2.1 ≠ (TX6 b).2.1 := by decide +kernel
theorem tyX6_ok : ∀ k, k < 7 → parseFieldDescriptor (TX6 k).2.2.1 = some (tyX6 k) := by decide +kernel
abbrev cX6_init : ByteArray := prog_8_method_1_code
def yX6_init : MethodName := ⟨RX6, "<init>", "(LDatatypeTerms$Nodes;)V"⟩
abbrev cX6_run : ByteArray := prog_8_method_2_code
def yX6_run : MethodName := ⟨RX6, "run", "(II)I"⟩
abbrev cX6_unifyResolved : ByteArray := prog_8_method_3_code
def yX6_unifyResolved : MethodName := ⟨RX6, "unifyResolved", "(II)I"⟩
abbrev cX6_bindToTerm : ByteArray := prog_8_method_4_code
def yX6_bindToTerm : MethodName := ⟨RX6, "bindToTerm", "(II)I"⟩
abbrev cX6_open : ByteArray := prog_8_method_5_code
def yX6_open : MethodName := ⟨RX6, "open", "(II)V"⟩
abbrev cX6_await : ByteArray := prog_8_method_6_code
def yX6_await : MethodName := ⟨RX6, "await", "(II)V"⟩
def RX7 : String := "DatatypeTerms$ValueBuilder"
def TX7 : u_T := fun k => match k with
  | 0 => ("DatatypeTerms$ValueBuilder", "signature", "LDatatypeTerms$Signature;", true)
  | 1 => ("DatatypeTerms$ValueBuilder", "valueOrder", "LDatatypeTerms$ValueOrder;", true)
  | 2 => ("DatatypeTerms$ValueBuilder", "nodes", "LDatatypeTerms$Nodes;", true)
  | 3 => ("DatatypeTerms$ValueBuilder", "waitingTypes", "[I", true)
  | 4 => ("DatatypeTerms$ValueBuilder", "waitingKeys", "[I", true)
  | 5 => ("DatatypeTerms$ValueBuilder", "waitingPlaces", "[I", true)
  | 6 => ("DatatypeTerms$ValueBuilder", "waiting", "I", false)
  | _ => ("DatatypeTerms$ValueBuilder", "parts", "[I", true)
def tyX7 : Nat → FieldType := fun k => match k with
  | 0 => .object "DatatypeTerms$Signature"
  | 1 => .object "DatatypeTerms$ValueOrder"
  | 2 => .object "DatatypeTerms$Nodes"
  | 3 => .array .int
  | 4 => .array .int
  | 5 => .array .int
  | 6 => .int
  | _ => .array .int
abbrev wsX70 : List Cond := u_ws RX7 TX7 8
theorem nmX7 : ∀ a, a < 8 → ∀ b, b < 8 → a ≠ b → (TX7 a).2.1 ≠ (TX7 b).2.1 := by decide +kernel
theorem tyX7_ok : ∀ k, k < 8 → parseFieldDescriptor (TX7 k).2.2.1 = some (tyX7 k) := by decide +kernel
abbrev cX7_init : ByteArray := prog_9_method_1_code
def yX7_init : MethodName := ⟨RX7, "<init>", "(LDatatypeTerms$Signature;LDatatypeTerms$ValueOrder;LDatatypeTerms$Nodes;)V"⟩
abbrev cX7_build : ByteArray := prog_9_method_2_code
def yX7_build : MethodName := ⟨RX7, "build", "(III)I"⟩
abbrev cX7_place : ByteArray := prog_9_method_3_code
def yX7_place : MethodName := ⟨RX7, "place", "(IIII)V"⟩
abbrev cX7_await : ByteArray := prog_9_method_4_code
def yX7_await : MethodName := ⟨RX7, "await", "(III)V"⟩
def RX8 : String := "DatatypeTerms$ValueOrder"
def TX8 : u_T := fun k => match k with
  | 0 => ("DatatypeTerms$ValueOrder", "signature", "LDatatypeTerms$Signature;", true)
  | 1 => ("DatatypeTerms$ValueOrder", "counts", "[I", true)
  | 2 => ("DatatypeTerms$ValueOrder", "starts", "[I", true)
  | _ => ("DatatypeTerms$ValueOrder", "ways", "[I", true)
def tyX8 : Nat → FieldType := fun k => match k with
  | 0 => .object "DatatypeTerms$Signature"
  | 1 => .array .int
  | 2 => .array .int
  | _ => .array .int
abbrev wsX80 : List Cond := u_ws RX8 TX8 4
theorem nmX8 : ∀ a, a < 4 → ∀ b, b < 4 → a ≠ b → (TX8 a).2.1 ≠ (TX8 b).2.1 := by decide +kernel
theorem tyX8_ok : ∀ k, k < 4 → parseFieldDescriptor (TX8 k).2.2.1 = some (tyX8 k) := by decide +kernel
abbrev cX8_init : ByteArray := prog_10_method_1_code
def yX8_init : MethodName := ⟨RX8, "<init>", "(LDatatypeTerms$Signature;)V"⟩
abbrev cX8_keyOf : ByteArray := prog_10_method_2_code
def yX8_keyOf : MethodName := ⟨RX8, "keyOf", "(II)I"⟩
abbrev cX8_sizeOfKey : ByteArray := prog_10_method_3_code
def yX8_sizeOfKey : MethodName := ⟨RX8, "sizeOfKey", "(I)I"⟩
abbrev cX8_indexOfKey : ByteArray := prog_10_method_4_code
def yX8_indexOfKey : MethodName := ⟨RX8, "indexOfKey", "(I)I"⟩
abbrev cX8_countOf : ByteArray := prog_10_method_5_code
def yX8_countOf : MethodName := ⟨RX8, "countOf", "(II)I"⟩
abbrev cX8_recompute : ByteArray := prog_10_method_6_code
def yX8_recompute : MethodName := ⟨RX8, "recompute", "()V"⟩
abbrev cX8_fillWays : ByteArray := prog_10_method_7_code
def yX8_fillWays : MethodName := ⟨RX8, "fillWays", "(II)V"⟩
abbrev cX8_wayPlace : ByteArray := prog_10_method_8_code
def yX8_wayPlace : MethodName := ⟨RX8, "wayPlace", "(III)I"⟩
abbrev cX8_waysOf : ByteArray := prog_10_method_9_code
def yX8_waysOf : MethodName := ⟨RX8, "waysOf", "(III)I"⟩
abbrev cX8_waysOfSplit : ByteArray := prog_10_method_10_code
def yX8_waysOfSplit : MethodName := ⟨RX8, "waysOfSplit", "(IIII)I"⟩
abbrev cX8_isBuiltBy : ByteArray := prog_10_method_11_code
def yX8_isBuiltBy : MethodName := ⟨RX8, "isBuiltBy", "(II)Z"⟩
abbrev cX8_rootOf : ByteArray := prog_10_method_12_code
def yX8_rootOf : MethodName := ⟨RX8, "rootOf", "(II)I"⟩
abbrev cX8_split : ByteArray := prog_10_method_13_code
def yX8_split : MethodName := ⟨RX8, "split", "(II[I)V"⟩
abbrev cX8_indexOf : ByteArray := prog_10_method_14_code
def yX8_indexOf : MethodName := ⟨RX8, "indexOf", "(II[I[I)I"⟩
def RX9 : String := "DatatypeTerms$Values"
def TX9 : u_T := fun k => match k with
  | _ => ("", "", "", false)
def tyX9 : Nat → FieldType := fun k => match k with
  | _ => .int
abbrev wsX90 : List Cond := u_ws RX9 TX9 0
theorem nmX9 : ∀ a, a < 0 → ∀ b, b < 0 → a ≠ b → (TX9 a).2.1 ≠ (TX9 b).2.1 := by decide +kernel
theorem tyX9_ok : ∀ k, k < 0 → parseFieldDescriptor (TX9 k).2.2.1 = some (tyX9 k) := by decide +kernel
def RX10 : String := "DatatypeTerms$Walk"
def TX10 : u_T := fun k => match k with
  | 0 => ("DatatypeTerms$Walk", "nodes", "LDatatypeTerms$Nodes;", true)
  | 1 => ("DatatypeTerms$Walk", "order", "[I", true)
  | 2 => ("DatatypeTerms$Walk", "length", "I", false)
  | 3 => ("DatatypeTerms$Walk", "number", "I", false)
  | 4 => ("DatatypeTerms$Walk", "listedIn", "[I", true)
  | _ => ("DatatypeTerms$Walk", "path", "[I", true)
def tyX10 : Nat → FieldType := fun k => match k with
  | 0 => .object "DatatypeTerms$Nodes"
  | 1 => .array .int
  | 2 => .int
  | 3 => .int
  | 4 => .array .int
  | _ => .array .int
abbrev wsX100 : List Cond := u_ws RX10 TX10 6
theorem nmX10 : ∀ a, a < 6 → ∀ b, b < 6 → a ≠ b → (TX10 a).2.1 ≠ (TX10 b).2.1 := by decide +kernel
theorem tyX10_ok : ∀ k, k < 6 → parseFieldDescriptor (TX10 k).2.2.1 = some (tyX10 k) := by decide +kernel
abbrev cX10_init : ByteArray := prog_12_method_1_code
def yX10_init : MethodName := ⟨RX10, "<init>", "(LDatatypeTerms$Nodes;)V"⟩
abbrev cX10_begin : ByteArray := prog_12_method_2_code
def yX10_begin : MethodName := ⟨RX10, "begin", "()V"⟩
abbrev cX10_hasListed : ByteArray := prog_12_method_3_code
def yX10_hasListed : MethodName := ⟨RX10, "hasListed", "(I)Z"⟩
abbrev cX10_visit : ByteArray := prog_12_method_4_code
def yX10_visit : MethodName := ⟨RX10, "visit", "(I)V"⟩
abbrev cX10_unlistedPart : ByteArray := prog_12_method_5_code
def yX10_unlistedPart : MethodName := ⟨RX10, "unlistedPart", "(I)I"⟩
abbrev cX10_list : ByteArray := prog_12_method_6_code
def yX10_list : MethodName := ⟨RX10, "list", "(I)V"⟩
def RX11 : String := "DatatypeTerms"
def TX11 : u_T := fun k => match k with
  | 0 => ("DatatypeTerms", "signature", "LDatatypeTerms$Signature;", true)
  | 1 => ("DatatypeTerms", "population", "LDatatypeTerms$Population;", true)
  | 2 => ("DatatypeTerms", "valueOrder", "LDatatypeTerms$ValueOrder;", true)
  | 3 => ("DatatypeTerms", "nodes", "LDatatypeTerms$Nodes;", true)
  | 4 => ("DatatypeTerms", "builder", "LDatatypeTerms$ValueBuilder;", true)
  | 5 => ("DatatypeTerms", "reader", "LDatatypeTerms$TermReader;", true)
  | 6 => ("DatatypeTerms", "unifier", "LDatatypeTerms$Unifier;", true)
  | 7 => ("DatatypeTerms", "saved", "LDatatypeTerms$SavedBindings;", true)
  | _ => ("DatatypeTerms", "rows", "LDatatypeTerms$Rows;", true)
def tyX11 : Nat → FieldType := fun k => match k with
  | 0 => .object "DatatypeTerms$Signature"
  | 1 => .object "DatatypeTerms$Population"
  | 2 => .object "DatatypeTerms$ValueOrder"
  | 3 => .object "DatatypeTerms$Nodes"
  | 4 => .object "DatatypeTerms$ValueBuilder"
  | 5 => .object "DatatypeTerms$TermReader"
  | 6 => .object "DatatypeTerms$Unifier"
  | 7 => .object "DatatypeTerms$SavedBindings"
  | _ => .object "DatatypeTerms$Rows"
abbrev wsX110 : List Cond := u_ws RX11 TX11 9
theorem nmX11 : ∀ a, a < 9 → ∀ b, b < 9 → a ≠ b → (TX11 a).2.1 ≠ (TX11 b).2.1 := by decide +kernel
theorem tyX11_ok : ∀ k, k < 9 → parseFieldDescriptor (TX11 k).2.2.1 = some (tyX11 k) := by decide +kernel
abbrev cX11_init : ByteArray := prog_1_method_1_code
def yX11_init : MethodName := ⟨RX11, "<init>", "()V"⟩
abbrev cX11_addType : ByteArray := prog_1_method_2_code
def yX11_addType : MethodName := ⟨RX11, "addType", "()I"⟩
abbrev cX11_addConstructor : ByteArray := prog_1_method_3_code
def yX11_addConstructor : MethodName := ⟨RX11, "addConstructor", "(IIIII)I"⟩
abbrev cX11_resultType : ByteArray := prog_1_method_4_code
def yX11_resultType : MethodName := ⟨RX11, "resultType", "(I)I"⟩
abbrev cX11_arity : ByteArray := prog_1_method_5_code
def yX11_arity : MethodName := ⟨RX11, "arity", "(I)I"⟩
abbrev cX11_argumentType : ByteArray := prog_1_method_6_code
def yX11_argumentType : MethodName := ⟨RX11, "argumentType", "(II)I"⟩
abbrev cX11_cardinality : ByteArray := prog_1_method_7_code
def yX11_cardinality : MethodName := ⟨RX11, "cardinality", "(I)I"⟩
abbrev cX11_smallestSize : ByteArray := prog_1_method_8_code
def yX11_smallestSize : MethodName := ⟨RX11, "smallestSize", "(I)I"⟩
abbrev cX11_count : ByteArray := prog_1_method_9_code
def yX11_count : MethodName := ⟨RX11, "count", "(II)I"⟩
abbrev cX11_value : ByteArray := prog_1_method_10_code
def yX11_value : MethodName := ⟨RX11, "value", "(III)I"⟩
abbrev cX11_variable : ByteArray := prog_1_method_11_code
def yX11_variable : MethodName := ⟨RX11, "variable", "(I)I"⟩
abbrev cX11_term : ByteArray := prog_1_method_12_code
def yX11_term : MethodName := ⟨RX11, "term", "(IIII)I"⟩
abbrev cX11_nodeCount : ByteArray := prog_1_method_13_code
def yX11_nodeCount : MethodName := ⟨RX11, "nodeCount", "()I"⟩
abbrev cX11_nodeType : ByteArray := prog_1_method_14_code
def yX11_nodeType : MethodName := ⟨RX11, "nodeType", "(I)I"⟩
abbrev cX11_head : ByteArray := prog_1_method_15_code
def yX11_head : MethodName := ⟨RX11, "head", "(I)I"⟩
abbrev cX11_child : ByteArray := prog_1_method_16_code
def yX11_child : MethodName := ⟨RX11, "child", "(II)I"⟩
abbrev cX11_binding : ByteArray := prog_1_method_17_code
def yX11_binding : MethodName := ⟨RX11, "binding", "(I)I"⟩
abbrev cX11_size : ByteArray := prog_1_method_18_code
def yX11_size : MethodName := ⟨RX11, "size", "(I)I"⟩
abbrev cX11_rank : ByteArray := prog_1_method_19_code
def yX11_rank : MethodName := ⟨RX11, "rank", "(I)I"⟩
abbrev cX11_equal : ByteArray := prog_1_method_20_code
def yX11_equal : MethodName := ⟨RX11, "equal", "(II)I"⟩
abbrev cX11_unify : ByteArray := prog_1_method_21_code
def yX11_unify : MethodName := ⟨RX11, "unify", "(II)I"⟩
abbrev cX11_boundCount : ByteArray := prog_1_method_22_code
def yX11_boundCount : MethodName := ⟨RX11, "boundCount", "()I"⟩
abbrev cX11_unbindAll : ByteArray := prog_1_method_23_code
def yX11_unbindAll : MethodName := ⟨RX11, "unbindAll", "()I"⟩
abbrev cX11_push : ByteArray := prog_1_method_24_code
def yX11_push : MethodName := ⟨RX11, "push", "()I"⟩
abbrev cX11_pop : ByteArray := prog_1_method_25_code
def yX11_pop : MethodName := ⟨RX11, "pop", "()I"⟩
abbrev cX11_addRow : ByteArray := prog_1_method_26_code
def yX11_addRow : MethodName := ⟨RX11, "addRow", "(I)I"⟩
abbrev cX11_clearRows : ByteArray := prog_1_method_27_code
def yX11_clearRows : MethodName := ⟨RX11, "clearRows", "()I"⟩
abbrev cX11_firstMatch : ByteArray := prog_1_method_28_code
def yX11_firstMatch : MethodName := ⟨RX11, "firstMatch", "(I)I"⟩
abbrev cX11_uncovered : ByteArray := prog_1_method_29_code
def yX11_uncovered : MethodName := ⟨RX11, "uncovered", "(I)I"⟩
abbrev cX11_firstUncovered : ByteArray := prog_1_method_30_code
def yX11_firstUncovered : MethodName := ⟨RX11, "firstUncovered", "(I)I"⟩
abbrev cX11_coveredBy : ByteArray := prog_1_method_31_code
def yX11_coveredBy : MethodName := ⟨RX11, "coveredBy", "(II)I"⟩
abbrev cX11_countFirstFitting : ByteArray := prog_1_method_32_code
def yX11_countFirstFitting : MethodName := ⟨RX11, "countFirstFitting", "(II)I"⟩
abbrev cX11_firstIndexUncovered : ByteArray := prog_1_method_33_code
def yX11_firstIndexUncovered : MethodName := ⟨RX11, "firstIndexUncovered", "(I)I"⟩
abbrev cX11_limitedSum : ByteArray := prog_1_method_34_code
def yX11_limitedSum : MethodName := ⟨RX11, "limitedSum", "(II)I"⟩
abbrev cX11_limitedProduct : ByteArray := prog_1_method_35_code
def yX11_limitedProduct : MethodName := ⟨RX11, "limitedProduct", "(II)I"⟩
def RX12 : String := "DatatypeTermsModel"
def TX12 : u_T := fun k => match k with
  | 0 => ("DatatypeTermsModel", "types", "I", false)
  | 1 => ("DatatypeTermsModel", "constructors", "I", false)
  | 2 => ("DatatypeTermsModel", "resultOf", "[I", true)
  | 3 => ("DatatypeTermsModel", "arityOf", "[I", true)
  | 4 => ("DatatypeTermsModel", "argument", "[I", true)
  | 5 => ("DatatypeTermsModel", "nodes", "I", false)
  | 6 => ("DatatypeTermsModel", "headOf", "[I", true)
  | 7 => ("DatatypeTermsModel", "typeOf", "[I", true)
  | 8 => ("DatatypeTermsModel", "childOf", "[I", true)
  | 9 => ("DatatypeTermsModel", "boundTo", "[I", true)
  | 10 => ("DatatypeTermsModel", "saved", "[I", true)
  | 11 => ("DatatypeTermsModel", "states", "I", false)
  | 12 => ("DatatypeTermsModel", "rows", "[I", true)
  | 13 => ("DatatypeTermsModel", "rowMany", "I", false)
  | 14 => ("DatatypeTermsModel", "least", "[I", true)
  | 15 => ("DatatypeTermsModel", "all", "[I", true)
  | 16 => ("DatatypeTermsModel", "within", "[Z", true)
  | 17 => ("DatatypeTermsModel", "counts", "[I", true)
  | 18 => ("DatatypeTermsModel", "ways", "[I", true)
  | 19 => ("DatatypeTermsModel", "row", "[I", true)
  | 20 => ("DatatypeTermsModel", "part", "[I", true)
  | 21 => ("DatatypeTermsModel", "length", "I", false)
  | 22 => ("DatatypeTermsModel", "waitType", "[I", true)
  | 23 => ("DatatypeTermsModel", "waitSize", "[I", true)
  | 24 => ("DatatypeTermsModel", "waitIndex", "[I", true)
  | 25 => ("DatatypeTermsModel", "ownSize", "[I", true)
  | 26 => ("DatatypeTermsModel", "ownIndex", "[I", true)
  | 27 => ("DatatypeTermsModel", "openAt", "[I", true)
  | 28 => ("DatatypeTermsModel", "openMany", "[I", true)
  | 29 => ("DatatypeTermsModel", "openChild", "[I", true)
  | 30 => ("DatatypeTermsModel", "sizes", "[I", true)
  | 31 => ("DatatypeTermsModel", "ranks", "[I", true)
  | 32 => ("DatatypeTermsModel", "one", "[I", true)
  | 33 => ("DatatypeTermsModel", "other", "[I", true)
  | 34 => ("DatatypeTermsModel", "pairs", "I", false)
  | 35 => ("DatatypeTermsModel", "isDone", "[Z", true)
  | 36 => ("DatatypeTermsModel", "bound", "[I", true)
  | 37 => ("DatatypeTermsModel", "bounds", "I", false)
  | 38 => ("DatatypeTermsModel", "seek", "[I", true)
  | 39 => ("DatatypeTermsModel", "wasAt", "[Z", true)
  | 40 => ("DatatypeTermsModel", "givenAt", "[I", true)
  | _ => ("DatatypeTermsModel", "left", "[I", true)
def tyX12 : Nat → FieldType := fun k => match k with
  | 0 => .int
  | 1 => .int
  | 2 => .array .int
  | 3 => .array .int
  | 4 => .array .int
  | 5 => .int
  | 6 => .array .int
  | 7 => .array .int
  | 8 => .array .int
  | 9 => .array .int
  | 10 => .array .int
  | 11 => .int
  | 12 => .array .int
  | 13 => .int
  | 14 => .array .int
  | 15 => .array .int
  | 16 => .array .boolean
  | 17 => .array .int
  | 18 => .array .int
  | 19 => .array .int
  | 20 => .array .int
  | 21 => .int
  | 22 => .array .int
  | 23 => .array .int
  | 24 => .array .int
  | 25 => .array .int
  | 26 => .array .int
  | 27 => .array .int
  | 28 => .array .int
  | 29 => .array .int
  | 30 => .array .int
  | 31 => .array .int
  | 32 => .array .int
  | 33 => .array .int
  | 34 => .int
  | 35 => .array .boolean
  | 36 => .array .int
  | 37 => .int
  | 38 => .array .int
  | 39 => .array .boolean
  | 40 => .array .int
  | _ => .array .int
abbrev wsX120 : List Cond := u_ws RX12 TX12 42
theorem nmX12 : ∀ a, a < 42 → ∀ b, b < 42 → a ≠ b → (TX12 a).2.1 ≠ (TX12 b).2.1 := by decide +kernel
theorem tyX12_ok : ∀ k, k < 42 → parseFieldDescriptor (TX12 k).2.2.1 = some (tyX12 k) := by decide +kernel
abbrev cX12_init : ByteArray := prog_14_method_1_code
def yX12_init : MethodName := ⟨RX12, "<init>", "()V"⟩
abbrev cX12_in : ByteArray := prog_14_method_2_code
def yX12_in : MethodName := ⟨RX12, "in", "(III)Z"⟩
abbrev cX12_isType : ByteArray := prog_14_method_3_code
def yX12_isType : MethodName := ⟨RX12, "isType", "(I)Z"⟩
abbrev cX12_isConstructor : ByteArray := prog_14_method_4_code
def yX12_isConstructor : MethodName := ⟨RX12, "isConstructor", "(I)Z"⟩
abbrev cX12_isNode : ByteArray := prog_14_method_5_code
def yX12_isNode : MethodName := ⟨RX12, "isNode", "(I)Z"⟩
abbrev cX12_capped : ByteArray := prog_14_method_6_code
def yX12_capped : MethodName := ⟨RX12, "capped", "(J)I"⟩
abbrev cX12_addType : ByteArray := prog_14_method_7_code
def yX12_addType : MethodName := ⟨RX12, "addType", "()I"⟩
abbrev cX12_addConstructor : ByteArray := prog_14_method_8_code
def yX12_addConstructor : MethodName := ⟨RX12, "addConstructor", "(IIIII)I"⟩
abbrev cX12_resultType : ByteArray := prog_14_method_9_code
def yX12_resultType : MethodName := ⟨RX12, "resultType", "(I)I"⟩
abbrev cX12_arity : ByteArray := prog_14_method_10_code
def yX12_arity : MethodName := ⟨RX12, "arity", "(I)I"⟩
abbrev cX12_argumentType : ByteArray := prog_14_method_11_code
def yX12_argumentType : MethodName := ⟨RX12, "argumentType", "(II)I"⟩
abbrev cX12_laySmallest : ByteArray := prog_14_method_12_code
def yX12_laySmallest : MethodName := ⟨RX12, "laySmallest", "()V"⟩
abbrev cX12_sizeBy : ByteArray := prog_14_method_13_code
def yX12_sizeBy : MethodName := ⟨RX12, "sizeBy", "(I)I"⟩
abbrev cX12_layWithin : ByteArray := prog_14_method_14_code
def yX12_layWithin : MethodName := ⟨RX12, "layWithin", "()V"⟩
abbrev cX12_isInfinite : ByteArray := prog_14_method_15_code
def yX12_isInfinite : MethodName := ⟨RX12, "isInfinite", "(I)Z"⟩
abbrev cX12_layAll : ByteArray := prog_14_method_16_code
def yX12_layAll : MethodName := ⟨RX12, "layAll", "()V"⟩
abbrev cX12_allBy : ByteArray := prog_14_method_17_code
def yX12_allBy : MethodName := ⟨RX12, "allBy", "(I)I"⟩
abbrev cX12_cardinality : ByteArray := prog_14_method_18_code
def yX12_cardinality : MethodName := ⟨RX12, "cardinality", "(I)I"⟩
abbrev cX12_smallestSize : ByteArray := prog_14_method_19_code
def yX12_smallestSize : MethodName := ⟨RX12, "smallestSize", "(I)I"⟩
abbrev cX12_way : ByteArray := prog_14_method_20_code
def yX12_way : MethodName := ⟨RX12, "way", "(III)I"⟩
abbrev cX12_countOf : ByteArray := prog_14_method_21_code
def yX12_countOf : MethodName := ⟨RX12, "countOf", "(II)I"⟩
abbrev cX12_layWays : ByteArray := prog_14_method_22_code
def yX12_layWays : MethodName := ⟨RX12, "layWays", "(II)V"⟩
abbrev cX12_layCounts : ByteArray := prog_14_method_23_code
def yX12_layCounts : MethodName := ⟨RX12, "layCounts", "()V"⟩
abbrev cX12_count : ByteArray := prog_14_method_24_code
def yX12_count : MethodName := ⟨RX12, "count", "(II)I"⟩
abbrev cX12_share : ByteArray := prog_14_method_25_code
def yX12_share : MethodName := ⟨RX12, "share", "(III)V"⟩
abbrev cX12_blockOf : ByteArray := prog_14_method_26_code
def yX12_blockOf : MethodName := ⟨RX12, "blockOf", "(IIIII)I"⟩
abbrev cX12_layValue : ByteArray := prog_14_method_27_code
def yX12_layValue : MethodName := ⟨RX12, "layValue", "(III)V"⟩
abbrev cX12_layParts : ByteArray := prog_14_method_28_code
def yX12_layParts : MethodName := ⟨RX12, "layParts", "()V"⟩
abbrev cX12_addNode : ByteArray := prog_14_method_29_code
def yX12_addNode : MethodName := ⟨RX12, "addNode", "(IIIII)I"⟩
abbrev cX12_makeNodes : ByteArray := prog_14_method_30_code
def yX12_makeNodes : MethodName := ⟨RX12, "makeNodes", "()I"⟩
abbrev cX12_value : ByteArray := prog_14_method_31_code
def yX12_value : MethodName := ⟨RX12, "value", "(III)I"⟩
abbrev cX12_variable : ByteArray := prog_14_method_32_code
def yX12_variable : MethodName := ⟨RX12, "variable", "(I)I"⟩
abbrev cX12_wrongChild : ByteArray := prog_14_method_33_code
def yX12_wrongChild : MethodName := ⟨RX12, "wrongChild", "(III)I"⟩
abbrev cX12_term : ByteArray := prog_14_method_34_code
def yX12_term : MethodName := ⟨RX12, "term", "(IIII)I"⟩
abbrev cX12_nodeCount : ByteArray := prog_14_method_35_code
def yX12_nodeCount : MethodName := ⟨RX12, "nodeCount", "()I"⟩
abbrev cX12_nodeType : ByteArray := prog_14_method_36_code
def yX12_nodeType : MethodName := ⟨RX12, "nodeType", "(I)I"⟩
abbrev cX12_resolved : ByteArray := prog_14_method_37_code
def yX12_resolved : MethodName := ⟨RX12, "resolved", "(I)I"⟩
abbrev cX12_manyOf : ByteArray := prog_14_method_38_code
def yX12_manyOf : MethodName := ⟨RX12, "manyOf", "(I)I"⟩
abbrev cX12_head : ByteArray := prog_14_method_39_code
def yX12_head : MethodName := ⟨RX12, "head", "(I)I"⟩
abbrev cX12_child : ByteArray := prog_14_method_40_code
def yX12_child : MethodName := ⟨RX12, "child", "(II)I"⟩
abbrev cX12_binding : ByteArray := prog_14_method_41_code
def yX12_binding : MethodName := ⟨RX12, "binding", "(I)I"⟩
abbrev cX12_laySizes : ByteArray := prog_14_method_42_code
def yX12_laySizes : MethodName := ⟨RX12, "laySizes", "()V"⟩
abbrev cX12_sizeNow : ByteArray := prog_14_method_43_code
def yX12_sizeNow : MethodName := ⟨RX12, "sizeNow", "(I)I"⟩
abbrev cX12_size : ByteArray := prog_14_method_44_code
def yX12_size : MethodName := ⟨RX12, "size", "(I)I"⟩
abbrev cX12_rankNow : ByteArray := prog_14_method_45_code
def yX12_rankNow : MethodName := ⟨RX12, "rankNow", "(I)I"⟩
abbrev cX12_layRanks : ByteArray := prog_14_method_46_code
def yX12_layRanks : MethodName := ⟨RX12, "layRanks", "()V"⟩
abbrev cX12_rank : ByteArray := prog_14_method_47_code
def yX12_rank : MethodName := ⟨RX12, "rank", "(I)I"⟩
abbrev cX12_beginPairs : ByteArray := prog_14_method_48_code
def yX12_beginPairs : MethodName := ⟨RX12, "beginPairs", "(II)V"⟩
abbrev cX12_pushChildren : ByteArray := prog_14_method_49_code
def yX12_pushChildren : MethodName := ⟨RX12, "pushChildren", "(II)V"⟩
abbrev cX12_equal : ByteArray := prog_14_method_50_code
def yX12_equal : MethodName := ⟨RX12, "equal", "(II)I"⟩
abbrev cX12_bind : ByteArray := prog_14_method_51_code
def yX12_bind : MethodName := ⟨RX12, "bind", "(II)V"⟩
abbrev cX12_occurs : ByteArray := prog_14_method_52_code
def yX12_occurs : MethodName := ⟨RX12, "occurs", "(II)Z"⟩
abbrev cX12_unifyNow : ByteArray := prog_14_method_53_code
def yX12_unifyNow : MethodName := ⟨RX12, "unifyNow", "(II)I"⟩
abbrev cX12_unify : ByteArray := prog_14_method_54_code
def yX12_unify : MethodName := ⟨RX12, "unify", "(II)I"⟩
abbrev cX12_boundCount : ByteArray := prog_14_method_55_code
def yX12_boundCount : MethodName := ⟨RX12, "boundCount", "()I"⟩
abbrev cX12_unbindAll : ByteArray := prog_14_method_56_code
def yX12_unbindAll : MethodName := ⟨RX12, "unbindAll", "()I"⟩
abbrev cX12_push : ByteArray := prog_14_method_57_code
def yX12_push : MethodName := ⟨RX12, "push", "()I"⟩
abbrev cX12_pop : ByteArray := prog_14_method_58_code
def yX12_pop : MethodName := ⟨RX12, "pop", "()I"⟩
abbrev cX12_addRow : ByteArray := prog_14_method_59_code
def yX12_addRow : MethodName := ⟨RX12, "addRow", "(I)I"⟩
abbrev cX12_clearRows : ByteArray := prog_14_method_60_code
def yX12_clearRows : MethodName := ⟨RX12, "clearRows", "()I"⟩
abbrev cX12_areSame : ByteArray := prog_14_method_61_code
def yX12_areSame : MethodName := ⟨RX12, "areSame", "(II)Z"⟩
abbrev cX12_matches : ByteArray := prog_14_method_62_code
def yX12_matches : MethodName := ⟨RX12, "matches", "(I)Z"⟩
abbrev cX12_matchNow : ByteArray := prog_14_method_63_code
def yX12_matchNow : MethodName := ⟨RX12, "matchNow", "()I"⟩
abbrev cX12_layTerm : ByteArray := prog_14_method_64_code
def yX12_layTerm : MethodName := ⟨RX12, "layTerm", "(I)V"⟩
abbrev cX12_firstMatch : ByteArray := prog_14_method_65_code
def yX12_firstMatch : MethodName := ⟨RX12, "firstMatch", "(I)I"⟩
abbrev cX12_subject : ByteArray := prog_14_method_66_code
def yX12_subject : MethodName := ⟨RX12, "subject", "()I"⟩
abbrev cX12_countMatched : ByteArray := prog_14_method_67_code
def yX12_countMatched : MethodName := ⟨RX12, "countMatched", "(II)I"⟩
abbrev cX12_uncovered : ByteArray := prog_14_method_68_code
def yX12_uncovered : MethodName := ⟨RX12, "uncovered", "(I)I"⟩
abbrev cX12_firstUncovered : ByteArray := prog_14_method_69_code
def yX12_firstUncovered : MethodName := ⟨RX12, "firstUncovered", "(I)I"⟩
abbrev cX12_coveredBy : ByteArray := prog_14_method_70_code
def yX12_coveredBy : MethodName := ⟨RX12, "coveredBy", "(II)I"⟩
def RJ9 : String := "java/lang/Math"
def TJ9 : u_T := fun k => match k with
  | _ => ("", "", "", false)
def tyJ9 : Nat → FieldType := fun k => match k with
  | _ => .int
abbrev wsJ90 : List Cond := u_ws RJ9 TJ9 0
theorem nmJ9 : ∀ a, a < 0 → ∀ b, b < 0 → a ≠ b → (TJ9 a).2.1 ≠ (TJ9 b).2.1 := by decide +kernel
theorem tyJ9_ok : ∀ k, k < 0 → parseFieldDescriptor (TJ9 k).2.2.1 = some (tyJ9 k) := by decide +kernel
abbrev cJ9_max_7cf53 : ByteArray := prog_15_method_65_code
def yJ9_max_7cf53 : MethodName := ⟨RJ9, "max", "(II)I"⟩
abbrev cJ9_min_7cf53 : ByteArray := prog_15_method_69_code
def yJ9_min_7cf53 : MethodName := ⟨RJ9, "min", "(II)I"⟩
def RJ10 : String := "java/lang/System"
def TJ10 : u_T := fun k => match k with
  | _ => ("", "", "", false)
def tyJ10 : Nat → FieldType := fun k => match k with
  | _ => .int
abbrev wsJ100 : List Cond := u_ws RJ10 TJ10 0
theorem nmJ10 : ∀ a, a < 0 → ∀ b, b < 0 → a ≠ b → (TJ10 a).2.1 ≠ (TJ10 b).2.1 := by decide +kernel
theorem tyJ10_ok : ∀ k, k < 0 → parseFieldDescriptor (TJ10 k).2.2.1 = some (tyJ10 k) := by decide +kernel
def RJ7 : String := "java/util/Arrays"
def TJ7 : u_T := fun k => match k with
  | _ => ("", "", "", false)
def tyJ7 : Nat → FieldType := fun k => match k with
  | _ => .int
abbrev wsJ70 : List Cond := u_ws RJ7 TJ7 0
theorem nmJ7 : ∀ a, a < 0 → ∀ b, b < 0 → a ≠ b → (TJ7 a).2.1 ≠ (TJ7 b).2.1 := by decide +kernel
theorem tyJ7_ok : ∀ k, k < 0 → parseFieldDescriptor (TJ7 k).2.2.1 = some (tyJ7 k) := by decide +kernel
abbrev cJ7_fill_d0a16 : ByteArray := prog_17_method_101_code
def yJ7_fill_d0a16 : MethodName := ⟨RJ7, "fill", "([JJ)V"⟩
abbrev cJ7_fill_53178 : ByteArray := prog_17_method_103_code
def yJ7_fill_53178 : MethodName := ⟨RJ7, "fill", "([II)V"⟩
def RL : String := "DatatypeTermsLaw"
abbrev cL_law : ByteArray := code
def yL_law : MethodName := ⟨RL, "law", "([I)Z"⟩
abbrev vwCl : List vw_C := [(RX0, TX0, 6), (RX1, TX1, 3), (RX2, TX2, 10), (RX3, TX3, 2), (RX4, TX4, 5), (RX5, TX5, 8), (RX6, TX6, 7), (RX7, TX7, 8), (RX8, TX8, 4), (RX10, TX10, 6), (RX11, TX11, 9), (RX12, TX12, 42)]
end
section
/-! THE ABSTRACT MACHINE: ints as Int, references as handles, memory by handle and place. Written by gen_am.py. -/
abbrev AV : Type := Int ⊕ (Int ⊕ Nat)
abbrev vI (x : Int) : AV := Sum.inl x
abbrev vL (x : Int) : AV := Sum.inr (Sum.inl x)
abbrev vR (h : Nat) : AV := Sum.inr (Sum.inr h)
def cv (ad : Nat → Nat) (v : AV) : Value := match v with
  | .inl x => .int (Int32.ofInt x)
  | .inr (.inl x) => .long (Int64.ofInt x)
  | .inr (.inr h) => .ref (ad h)
def cat1 (v : AV) : Bool := match v with
  | .inr (.inl _) => false
  | _ => true
def wt (st : List AV) : Nat := (st.map fun v => if cat1 v then 1 else 2).sum
abbrev Mem : Type := Nat → Int → Int
def up (M : Mem) (h : Nat) (i v : Int) : Mem := fun h' => if h' = h then (fun i' => if i' = i then v else M h i') else M h'
def cpy (M : Mem) (h0 h1 : Nat) (sp dp n : Int) : Mem := fun h' => if h' = h1 then (fun i => if dp ≤ i ∧ i < dp + n then M h0 (sp + (i - dp)) else M h1 i) else M h'
abbrev Ls : Type := List (Option AV)
abbrev Po : Type := Option AV → Mem → Prop
/-- a method: number of its class, name, code, locals, answer, room in frames and in locals' words; the script's length and values (the law's alone) -/
abbrev MR : Type := Nat × MethodName × ByteArray × Nat × Option FieldType × Nat × Nat × Nat × (Nat → Int)
abbrev mrC (mr : MR) : Nat := mr.1
abbrev mrY (mr : MR) : MethodName := mr.2.1
abbrev mrB (mr : MR) : ByteArray := mr.2.2.1
abbrev mrN (mr : MR) : Nat := mr.2.2.2.1
abbrev mrT (mr : MR) : Option FieldType := mr.2.2.2.2.1
abbrev mrF (mr : MR) : Nat := mr.2.2.2.2.2.1
abbrev mrL (mr : MR) : Nat := mr.2.2.2.2.2.2.1
abbrev mrS (mr : MR) : Nat := mr.2.2.2.2.2.2.2.1
abbrev mrX (mr : MR) : Nat → Int := mr.2.2.2.2.2.2.2.2
abbrev AP : Type := MR → Nat → Ls → List AV → Mem → Po → Prop
abbrev InR (x : Int) : Prop := -2147483648 ≤ x ∧ x ≤ 2147483647
abbrev InR8 (x : Int) : Prop := -9223372036854775808 ≤ x ∧ x ≤ 9223372036854775807
/-- locals behind a store: a long whose second half is overwritten is lost -/
def setL : Ls → Nat → Option AV → Ls
  | [], _, _ => []
  | _ :: t, 0, v => v :: t
  | a :: t, 1, v => (match a with | some (.inr (.inl _)) => none | _ => a) :: setL t 0 v
  | a :: t, i + 2, v => a :: setL t (i + 1) v
def setL2 (ls : Ls) (i : Nat) (v : Option AV) : Ls := setL (setL ls (i + 1) none) i v
/-- a knows no more of the locals than b -/
def lsub : Ls → Ls → Prop
  | [], _ => True
  | none :: a, _ :: b => lsub a b
  | none :: a, [] => lsub a []
  | some v :: a, w :: b => w = some v ∧ lsub a b
  | some _ :: _, [] => False
/-- locals at a method's entry -/
def entS (As : List AV) : Ls := As.flatMap fun v => if cat1 v then [some v] else [some v, none]
def entL (As : List AV) (n : Nat) : Ls := entS As ++ List.replicate (n - (entS As).length) none
abbrev classes : List vw_C := [(RX0, TX0, 6), (RX1, TX1, 3), (RX2, TX2, 10), (RX3, TX3, 2), (RX4, TX4, 5), (RX5, TX5, 8), (RX6, TX6, 7), (RX7, TX7, 8), (RX8, TX8, 4), (RX10, TX10, 6), (RX11, TX11, 9), (RX12, TX12, 42)]
def cn : Nat → String
  | 0 => RX0
  | 1 => RX1
  | 2 => RX2
  | 3 => RX3
  | 4 => RX4
  | 5 => RX5
  | 6 => RX6
  | 7 => RX7
  | 8 => RX8
  | 9 => RX10
  | 10 => RX11
  | 11 => RX12
  | 13 => RL
  | 14 => RJ7
  | _ => RJ9
def nH : Nat := 85
def kdT : List (Nat × Nat × List (Option Nat)) := [
  (3, 10, [some 1, some 5, some 8, some 12, some 17, some 22, some 32, some 41, some 43]),
  (3, 4, [none, none, some 2, some 3, some 4]),
  (0, 12, []),
  (0, 12, []),
  (0, 36, []),
  (3, 1, [some 1, some 6, some 7]),
  (0, 4, []),
  (0, 4, []),
  (3, 8, [some 1, some 9, some 10, some 11]),
  (0, 52, []),
  (0, 156, []),
  (0, 624, []),
  (3, 0, [some 1, none, some 13, some 14, some 15, some 16]),
  (0, 100, []),
  (0, 100, []),
  (0, 300, []),
  (0, 100, []),
  (3, 7, [some 1, some 8, some 12, some 18, some 19, some 20, none, some 21]),
  (0, 12, []),
  (0, 12, []),
  (0, 12, []),
  (0, 3, []),
  (3, 5, [some 12, some 8, some 28, some 23, some 24, some 25, some 26, some 27]),
  (0, 100, []),
  (0, 100, []),
  (0, 100, []),
  (0, 3, []),
  (0, 3, []),
  (3, 9, [some 12, some 29, none, none, some 30, some 31]),
  (0, 100, []),
  (0, 100, []),
  (0, 100, []),
  (3, 6, [some 12, some 37, some 33, some 34, some 35, none, some 36]),
  (0, 100, []),
  (0, 300, []),
  (0, 300, []),
  (2, 157, []),
  (3, 9, [some 12, some 38, none, none, some 39, some 40]),
  (0, 100, []),
  (0, 100, []),
  (0, 100, []),
  (3, 3, [none, some 42]),
  (0, 800, []),
  (3, 2, [some 12, none, some 44, none, some 45, some 46, some 47, some 48, none, some 49]),
  (0, 8, []),
  (0, 100, []),
  (0, 100, []),
  (0, 60, []),
  (0, 60, []),
  (0, 3, []),
  (3, 11, [none, none, some 51, some 52, some 53, none, some 54, some 55, some 56, some 57, some 58, none, some 59, none, some 60, some 61, some 62, some 63, some 64, some 65, some 66, none, some 67, some 68, some 69, some 70, some 71, some 72, some 73, some 74, some 75, some 76, some 77, some 78, none, some 79, some 80, none, some 81, some 82, some 83, some 84]),
  (0, 12, []),
  (0, 12, []),
  (0, 36, []),
  (0, 100, []),
  (0, 100, []),
  (0, 300, []),
  (0, 100, []),
  (0, 800, []),
  (0, 8, []),
  (0, 4, []),
  (0, 4, []),
  (1, 16, []),
  (0, 52, []),
  (0, 624, []),
  (0, 64, []),
  (0, 64, []),
  (0, 64, []),
  (0, 64, []),
  (0, 64, []),
  (0, 3, []),
  (0, 3, []),
  (0, 64, []),
  (0, 64, []),
  (0, 192, []),
  (0, 100, []),
  (0, 100, []),
  (0, 31000, []),
  (0, 31000, []),
  (1, 10000, []),
  (0, 100, []),
  (0, 400, []),
  (1, 100, []),
  (0, 100, []),
  (0, 256, [])]
def kd (h : Nat) : Nat × Nat × List (Option Nat) := kdT.getD h (9, 0, [])
def lw_good : List Cond := lw_tbl.filter goodWord
def FldG (c ix ci k : Nat) : Prop := ∃ (C : String) (T : u_T) (N : Nat), classes[ci]? = some (C, T, N) ∧ k < N ∧ Cond.fieldLink (cn c) ix (T k).1 (T k).2.1 (T k).2.2.1 ∈ lw_good ∧ ∀ w ∈ u_ws C T N, w ∈ lw_good
def FldP (c ix ci k : Nat) : Prop := ∃ (C : String) (T : u_T) (N : Nat) (ty : Nat → FieldType), classes[ci]? = some (C, T, N) ∧ k < N ∧ Cond.fieldLink (cn c) ix (T k).1 (T k).2.1 (T k).2.2.1 ∈ lw_good ∧ (∀ w ∈ u_ws C T N, w ∈ lw_good) ∧ (∀ k, k < N → parseFieldDescriptor (T k).2.2.1 = some (ty k)) ∧ (∀ a, a < N → ∀ b, b < N → a ≠ b → (T a).2.1 ≠ (T b).2.1) ∧ (T k).2.2.2 = false ∧ ty k = .int
/-- a method that may be called: its name, code and class as the tables have them -/
def MOK (cm : MR) (n : Nat) : Prop := plainName (mrY cm).cls = true ∧ cn (mrC cm) = (mrY cm).cls ∧ Cond.code (mrY cm) (mrB cm) (mrN cm) (mrT cm) ∈ lw_good ∧ Cond.initialized (mrY cm).cls ∈ lw_good ∧ (mrY cm).cls ≠ "java/lang/invoke/MethodHandle" ∧ (mrY cm).cls ≠ "java/lang/invoke/VarHandle" ∧ (parseMethodDescriptor (mrY cm).desc).map (fun d => d.parameters.length) = some n ∧ mrC cm ≠ 13
def CallV (c ix : Nat) (cm : MR) (n : Nat) : Prop := MOK cm n ∧ mrC cm < 12 ∧ Cond.methodLink (cn c) ix (mrY cm) ∈ lw_good ∧ Cond.instanceMethod (mrY cm) ∈ lw_good ∧ Cond.selects (mrY cm).cls (mrY cm) (mrY cm) ∈ lw_good
def CallS (c ix : Nat) (cm : MR) (n : Nat) : Prop := MOK cm n ∧ Cond.methodLink (cn c) ix (mrY cm) ∈ lw_good ∧ Cond.static (mrY cm) ∈ lw_good
def NWs : List (String × Nat × MethodName) := [(RX1, 68, yX11_limitedProduct), (RX1, 65, yX11_limitedSum), (RX8, 66, yX11_limitedProduct), (RX8, 49, yX11_limitedSum), (RX5, 78, yX11_limitedSum)]
def nHost : String := "DatatypeTerms"
def CallN (c ix : Nat) (cm : MR) (n : Nat) : Prop := MOK cm n ∧ (cn c, ix, mrY cm) ∈ NWs ∧ Cond.static (mrY cm) ∈ lw_good
def iX9 (ix : Nat) : MethodName := if ix = 76 then ⟨RX9, "isBuiltBy", "(II)Z"⟩ else ⟨RX9, "split", "(II[I)V"⟩
def FWs : List (String × MethodName × MethodName) := [(RX5, iX9 76, yX5_isBuiltBy), (RX8, iX9 76, yX8_isBuiltBy), (RX5, iX9 81, yX5_split), (RX8, iX9 81, yX8_split)]
def CallF (c ix : Nat) (cm : MR) (n : Nat) : Prop := MOK cm n ∧ mrC cm < 12 ∧ ((mrY cm).cls, iX9 ix, mrY cm) ∈ FWs ∧ Cond.methodLink (cn c) ix (iX9 ix) ∈ lw_good ∧ Cond.selects (mrY cm).cls (iX9 ix) (mrY cm) ∈ lw_good ∧ Cond.instanceMethod (mrY cm) ∈ lw_good ∧ (parseMethodDescriptor (iX9 ix).desc).map (fun d => d.parameters.length) = some n
def R_iconst (P : AP) : Prop := ∀ (mr : MR) (pc : Nat) (ls : Ls) (st : List AV) (M : Mem) (Q : Po) (n : Int), decode (mrB mr) pc = .ok (.iconst n, 1) → P mr (pc + 1) ls (vI n :: st) M Q → P mr pc ls st M Q
def R_bipush (P : AP) : Prop := ∀ (mr : MR) (pc : Nat) (ls : Ls) (st : List AV) (M : Mem) (Q : Po) (n : Int), decode (mrB mr) pc = .ok (.bipush n, 2) → (Int8.ofInt n).toInt32 = Int32.ofInt n → P mr (pc + 2) ls (vI n :: st) M Q → P mr pc ls st M Q
def R_sipush (P : AP) : Prop := ∀ (mr : MR) (pc : Nat) (ls : Ls) (st : List AV) (M : Mem) (Q : Po) (n : Int), decode (mrB mr) pc = .ok (.sipush n, 3) → (Int16.ofInt n).toInt32 = Int32.ofInt n → P mr (pc + 3) ls (vI n :: st) M Q → P mr pc ls st M Q
def R_ldc (P : AP) : Prop := ∀ (mr : MR) (pc : Nat) (ls : Ls) (st : List AV) (M : Mem) (Q : Po) (ix : Nat) (n : Int), decode (mrB mr) pc = .ok (.ldc ix, 2) → Cond.constant (cn (mrC mr)) ix (Int32.ofInt n) ∈ lw_good → P mr (pc + 2) ls (vI n :: st) M Q → P mr pc ls st M Q
def R_ldc2 (P : AP) : Prop := ∀ (mr : MR) (pc : Nat) (ls : Ls) (st : List AV) (M : Mem) (Q : Po) (ix : Nat) (n : Int), decode (mrB mr) pc = .ok (.ldc2_w ix, 3) → Cond.constantLong (cn (mrC mr)) ix (Int64.ofInt n) ∈ lw_good → P mr (pc + 3) ls (vL n :: st) M Q → P mr pc ls st M Q
def R_lconst (P : AP) : Prop := ∀ (mr : MR) (pc : Nat) (ls : Ls) (st : List AV) (M : Mem) (Q : Po) (k : Fin 2) (n : Int), decode (mrB mr) pc = .ok (.lconst k, 1) → Int64.ofNat (k : Nat) = Int64.ofInt n → P mr (pc + 1) ls (vL n :: st) M Q → P mr pc ls st M Q
def R_iload_n (P : AP) : Prop := ∀ (mr : MR) (pc : Nat) (ls : Ls) (st : List AV) (M : Mem) (Q : Po) (k : Fin 4) (x : Int), decode (mrB mr) pc = .ok (.iload_n k, 1) → ls[(k : Nat)]? = some (some (vI x)) → P mr (pc + 1) ls (vI x :: st) M Q → P mr pc ls st M Q
def R_iload (P : AP) : Prop := ∀ (mr : MR) (pc : Nat) (ls : Ls) (st : List AV) (M : Mem) (Q : Po) (k : Nat) (x : Int), decode (mrB mr) pc = .ok (.iload k, 2) → ls[k]? = some (some (vI x)) → P mr (pc + 2) ls (vI x :: st) M Q → P mr pc ls st M Q
def R_lload_n (P : AP) : Prop := ∀ (mr : MR) (pc : Nat) (ls : Ls) (st : List AV) (M : Mem) (Q : Po) (k : Fin 4) (x : Int), decode (mrB mr) pc = .ok (.lload_n k, 1) → ls[(k : Nat)]? = some (some (vL x)) → P mr (pc + 1) ls (vL x :: st) M Q → P mr pc ls st M Q
def R_lload (P : AP) : Prop := ∀ (mr : MR) (pc : Nat) (ls : Ls) (st : List AV) (M : Mem) (Q : Po) (k : Nat) (x : Int), decode (mrB mr) pc = .ok (.lload k, 2) → ls[k]? = some (some (vL x)) → P mr (pc + 2) ls (vL x :: st) M Q → P mr pc ls st M Q
def R_aload_n (P : AP) : Prop := ∀ (mr : MR) (pc : Nat) (ls : Ls) (st : List AV) (M : Mem) (Q : Po) (k : Fin 4) (x : Nat), decode (mrB mr) pc = .ok (.aload_n k, 1) → ls[(k : Nat)]? = some (some (vR x)) → P mr (pc + 1) ls (vR x :: st) M Q → P mr pc ls st M Q
def R_aload (P : AP) : Prop := ∀ (mr : MR) (pc : Nat) (ls : Ls) (st : List AV) (M : Mem) (Q : Po) (k : Nat) (x : Nat), decode (mrB mr) pc = .ok (.aload k, 2) → ls[k]? = some (some (vR x)) → P mr (pc + 2) ls (vR x :: st) M Q → P mr pc ls st M Q
def R_istore_n (P : AP) : Prop := ∀ (mr : MR) (pc : Nat) (ls : Ls) (st : List AV) (M : Mem) (Q : Po) (k : Fin 4) (ls2 : Ls) (x : Int), decode (mrB mr) pc = .ok (.istore_n k, 1) → (k : Nat) < mrN mr → setL ls k (some (vI x)) = ls2 → P mr (pc + 1) ls2 st M Q → P mr pc ls (vI x :: st) M Q
def R_istore (P : AP) : Prop := ∀ (mr : MR) (pc : Nat) (ls : Ls) (st : List AV) (M : Mem) (Q : Po) (k : Nat) (ls2 : Ls) (x : Int), decode (mrB mr) pc = .ok (.istore k, 2) → k < mrN mr → setL ls k (some (vI x)) = ls2 → P mr (pc + 2) ls2 st M Q → P mr pc ls (vI x :: st) M Q
def R_lstore_n (P : AP) : Prop := ∀ (mr : MR) (pc : Nat) (ls : Ls) (st : List AV) (M : Mem) (Q : Po) (k : Fin 4) (ls2 : Ls) (x : Int), decode (mrB mr) pc = .ok (.lstore_n k, 1) → (k : Nat) + 1 < mrN mr → setL2 ls k (some (vL x)) = ls2 → P mr (pc + 1) ls2 st M Q → P mr pc ls (vL x :: st) M Q
def R_lstore (P : AP) : Prop := ∀ (mr : MR) (pc : Nat) (ls : Ls) (st : List AV) (M : Mem) (Q : Po) (k : Nat) (ls2 : Ls) (x : Int), decode (mrB mr) pc = .ok (.lstore k, 2) → k + 1 < mrN mr → setL2 ls k (some (vL x)) = ls2 → P mr (pc + 2) ls2 st M Q → P mr pc ls (vL x :: st) M Q
def R_astore_n (P : AP) : Prop := ∀ (mr : MR) (pc : Nat) (ls : Ls) (st : List AV) (M : Mem) (Q : Po) (k : Fin 4) (ls2 : Ls) (x : Nat), decode (mrB mr) pc = .ok (.astore_n k, 1) → (k : Nat) < mrN mr → setL ls k (some (vR x)) = ls2 → P mr (pc + 1) ls2 st M Q → P mr pc ls (vR x :: st) M Q
def R_astore (P : AP) : Prop := ∀ (mr : MR) (pc : Nat) (ls : Ls) (st : List AV) (M : Mem) (Q : Po) (k : Nat) (ls2 : Ls) (x : Nat), decode (mrB mr) pc = .ok (.astore k, 2) → k < mrN mr → setL ls k (some (vR x)) = ls2 → P mr (pc + 2) ls2 st M Q → P mr pc ls (vR x :: st) M Q
def R_iinc (P : AP) : Prop := ∀ (mr : MR) (pc : Nat) (ls : Ls) (st : List AV) (M : Mem) (Q : Po) (k : Nat) (n x : Int) (ls2 : Ls), decode (mrB mr) pc = .ok (.iinc k n, 3) → ls[k]? = some (some (vI x)) → k < mrN mr → setL ls k (some (vI (x + n))) = ls2 → P mr (pc + 3) ls2 st M Q → P mr pc ls st M Q
def R_iadd (P : AP) : Prop := ∀ (mr : MR) (pc : Nat) (ls : Ls) (st : List AV) (M : Mem) (Q : Po) (x y : Int), decode (mrB mr) pc = .ok (.iadd, 1) → P mr (pc + 1) ls (vI (x + y) :: st) M Q → P mr pc ls (vI y :: vI x :: st) M Q
def R_isub (P : AP) : Prop := ∀ (mr : MR) (pc : Nat) (ls : Ls) (st : List AV) (M : Mem) (Q : Po) (x y : Int), decode (mrB mr) pc = .ok (.isub, 1) → P mr (pc + 1) ls (vI (x - y) :: st) M Q → P mr pc ls (vI y :: vI x :: st) M Q
def R_imul (P : AP) : Prop := ∀ (mr : MR) (pc : Nat) (ls : Ls) (st : List AV) (M : Mem) (Q : Po) (x y : Int), decode (mrB mr) pc = .ok (.imul, 1) → P mr (pc + 1) ls (vI (x * y) :: st) M Q → P mr pc ls (vI y :: vI x :: st) M Q
def R_idiv (P : AP) : Prop := ∀ (mr : MR) (pc : Nat) (ls : Ls) (st : List AV) (M : Mem) (Q : Po) (x y : Int), decode (mrB mr) pc = .ok (.idiv, 1) → 0 ≤ x ∧ x ≤ 2147483647 → 0 < y ∧ y ≤ 2147483647 → P mr (pc + 1) ls (vI (x / y) :: st) M Q → P mr pc ls (vI y :: vI x :: st) M Q
def R_irem (P : AP) : Prop := ∀ (mr : MR) (pc : Nat) (ls : Ls) (st : List AV) (M : Mem) (Q : Po) (x y : Int), decode (mrB mr) pc = .ok (.irem, 1) → 0 ≤ x ∧ x ≤ 2147483647 → 0 < y ∧ y ≤ 2147483647 → P mr (pc + 1) ls (vI (x % y) :: st) M Q → P mr pc ls (vI y :: vI x :: st) M Q
def R_iand (P : AP) : Prop := ∀ (mr : MR) (pc : Nat) (ls : Ls) (st : List AV) (M : Mem) (Q : Po) (x y : Int), decode (mrB mr) pc = .ok (.iand, 1) → P mr (pc + 1) ls (vI (Int32.ofInt x &&& Int32.ofInt y).toInt :: st) M Q → P mr pc ls (vI y :: vI x :: st) M Q
def R_i2l (P : AP) : Prop := ∀ (mr : MR) (pc : Nat) (ls : Ls) (st : List AV) (M : Mem) (Q : Po) (x : Int), decode (mrB mr) pc = .ok (.i2l, 1) → InR x → P mr (pc + 1) ls (vL x :: st) M Q → P mr pc ls (vI x :: st) M Q
def R_l2i (P : AP) : Prop := ∀ (mr : MR) (pc : Nat) (ls : Ls) (st : List AV) (M : Mem) (Q : Po) (x : Int), decode (mrB mr) pc = .ok (.l2i, 1) → P mr (pc + 1) ls (vI x :: st) M Q → P mr pc ls (vL x :: st) M Q
def R_ladd (P : AP) : Prop := ∀ (mr : MR) (pc : Nat) (ls : Ls) (st : List AV) (M : Mem) (Q : Po) (x y : Int), decode (mrB mr) pc = .ok (.ladd, 1) → P mr (pc + 1) ls (vL (x + y) :: st) M Q → P mr pc ls (vL y :: vL x :: st) M Q
def R_lmul (P : AP) : Prop := ∀ (mr : MR) (pc : Nat) (ls : Ls) (st : List AV) (M : Mem) (Q : Po) (x y : Int), decode (mrB mr) pc = .ok (.lmul, 1) → P mr (pc + 1) ls (vL (x * y) :: st) M Q → P mr pc ls (vL y :: vL x :: st) M Q
def R_land (P : AP) : Prop := ∀ (mr : MR) (pc : Nat) (ls : Ls) (st : List AV) (M : Mem) (Q : Po) (x y : Int), decode (mrB mr) pc = .ok (.land, 1) → P mr (pc + 1) ls (vL (Int64.ofInt x &&& Int64.ofInt y).toInt :: st) M Q → P mr pc ls (vL y :: vL x :: st) M Q
def R_lor (P : AP) : Prop := ∀ (mr : MR) (pc : Nat) (ls : Ls) (st : List AV) (M : Mem) (Q : Po) (x y : Int), decode (mrB mr) pc = .ok (.lor, 1) → P mr (pc + 1) ls (vL (Int64.ofInt x ||| Int64.ofInt y).toInt :: st) M Q → P mr pc ls (vL y :: vL x :: st) M Q
def R_lshl (P : AP) : Prop := ∀ (mr : MR) (pc : Nat) (ls : Ls) (st : List AV) (M : Mem) (Q : Po) (x y : Int), decode (mrB mr) pc = .ok (.lshl, 1) → P mr (pc + 1) ls (vL (Int64.ofInt x <<< ((Int32.ofInt y).toInt64 &&& 63)).toInt :: st) M Q → P mr pc ls (vI y :: vL x :: st) M Q
def R_lcmp (P : AP) : Prop := ∀ (mr : MR) (pc : Nat) (ls : Ls) (st : List AV) (M : Mem) (Q : Po) (x y : Int), decode (mrB mr) pc = .ok (.lcmp, 1) → InR8 x → InR8 y → P mr (pc + 1) ls (vI (if x > y then 1 else if x = y then 0 else -1) :: st) M Q → P mr pc ls (vL y :: vL x :: st) M Q
def R_dup (P : AP) : Prop := ∀ (mr : MR) (pc : Nat) (ls : Ls) (st : List AV) (M : Mem) (Q : Po) (v : AV), decode (mrB mr) pc = .ok (.dup, 1) → cat1 v = true → P mr (pc + 1) ls (v :: v :: st) M Q → P mr pc ls (v :: st) M Q
def R_dup2 (P : AP) : Prop := ∀ (mr : MR) (pc : Nat) (ls : Ls) (st : List AV) (M : Mem) (Q : Po) (v w : AV), decode (mrB mr) pc = .ok (.dup2, 1) → cat1 v = true → cat1 w = true → P mr (pc + 1) ls (v :: w :: v :: w :: st) M Q → P mr pc ls (v :: w :: st) M Q
def R_getR (P : AP) : Prop := ∀ (mr : MR) (pc : Nat) (ls : Ls) (st : List AV) (M : Mem) (Q : Po) (h ix ci k h2 : Nat) (fs : List (Option Nat)), decode (mrB mr) pc = .ok (.getfield ix, 3) → FldG (mrC mr) ix ci k → kd h = (3, ci, fs) → h < nH → fs[k]? = some (some h2) → P mr (pc + 3) ls (vR h2 :: st) M Q → P mr pc ls (vR h :: st) M Q
def R_getI (P : AP) : Prop := ∀ (mr : MR) (pc : Nat) (ls : Ls) (st : List AV) (M : Mem) (Q : Po) (h ix ci k : Nat) (fs : List (Option Nat)), decode (mrB mr) pc = .ok (.getfield ix, 3) → FldG (mrC mr) ix ci k → kd h = (3, ci, fs) → h < nH → fs[k]? = some none → P mr (pc + 3) ls (vI (M h k) :: st) M Q → P mr pc ls (vR h :: st) M Q
def R_put (P : AP) : Prop := ∀ (mr : MR) (pc : Nat) (ls : Ls) (st : List AV) (M : Mem) (Q : Po) (h ix ci k : Nat) (fs : List (Option Nat)) (x : Int), decode (mrB mr) pc = .ok (.putfield ix, 3) → FldP (mrC mr) ix ci k → kd h = (3, ci, fs) → h < nH → fs[k]? = some none → P mr (pc + 3) ls st (up M h k x) Q → P mr pc ls (vI x :: vR h :: st) M Q
def R_iald (P : AP) : Prop := ∀ (mr : MR) (pc : Nat) (ls : Ls) (st : List AV) (M : Mem) (Q : Po) (h n : Nat) (i : Int), decode (mrB mr) pc = .ok (.iaload, 1) → kd h = (0, n, []) → h < nH → 0 ≤ i ∧ i < n → P mr (pc + 1) ls (vI (M h i) :: st) M Q → P mr pc ls (vI i :: vR h :: st) M Q
def R_zald (P : AP) : Prop := ∀ (mr : MR) (pc : Nat) (ls : Ls) (st : List AV) (M : Mem) (Q : Po) (h n : Nat) (i : Int), decode (mrB mr) pc = .ok (.baload, 1) → kd h = (1, n, []) → h < nH → 0 ≤ i ∧ i < n → P mr (pc + 1) ls (vI (M h i) :: st) M Q → P mr pc ls (vI i :: vR h :: st) M Q
def R_lald (P : AP) : Prop := ∀ (mr : MR) (pc : Nat) (ls : Ls) (st : List AV) (M : Mem) (Q : Po) (h n : Nat) (i : Int), decode (mrB mr) pc = .ok (.laload, 1) → kd h = (2, n, []) → h < nH → 0 ≤ i ∧ i < n → P mr (pc + 1) ls (vL (M h i) :: st) M Q → P mr pc ls (vI i :: vR h :: st) M Q
def R_iast (P : AP) : Prop := ∀ (mr : MR) (pc : Nat) (ls : Ls) (st : List AV) (M : Mem) (Q : Po) (h n : Nat) (i x : Int), decode (mrB mr) pc = .ok (.iastore, 1) → kd h = (0, n, []) → h < nH → 0 ≤ i ∧ i < n → P mr (pc + 1) ls st (up M h i x) Q → P mr pc ls (vI x :: vI i :: vR h :: st) M Q
def R_zast (P : AP) : Prop := ∀ (mr : MR) (pc : Nat) (ls : Ls) (st : List AV) (M : Mem) (Q : Po) (h n : Nat) (i x : Int), decode (mrB mr) pc = .ok (.bastore, 1) → kd h = (1, n, []) → h < nH → 0 ≤ i ∧ i < n → x = 0 ∨ x = 1 → P mr (pc + 1) ls st (up M h i x) Q → P mr pc ls (vI x :: vI i :: vR h :: st) M Q
def R_last (P : AP) : Prop := ∀ (mr : MR) (pc : Nat) (ls : Ls) (st : List AV) (M : Mem) (Q : Po) (h n : Nat) (i x : Int), decode (mrB mr) pc = .ok (.lastore, 1) → kd h = (2, n, []) → h < nH → 0 ≤ i ∧ i < n → P mr (pc + 1) ls st (up M h i x) Q → P mr pc ls (vL x :: vI i :: vR h :: st) M Q
def R_alen (P : AP) : Prop := ∀ (mr : MR) (pc : Nat) (ls : Ls) (st : List AV) (M : Mem) (Q : Po) (h t n : Nat), decode (mrB mr) pc = .ok (.arraylength, 1) → kd h = (t, n, []) → t < 3 → h < nH → P mr (pc + 1) ls (vI n :: st) M Q → P mr pc ls (vR h :: st) M Q
def R_sald (P : AP) : Prop := ∀ (mr : MR) (pc : Nat) (ls : Ls) (st : List AV) (M : Mem) (Q : Po) (i : Int), decode (mrB mr) pc = .ok (.iaload, 1) → mrC mr = 13 → 0 ≤ i ∧ i < mrS mr → P mr (pc + 1) ls (vI (mrX mr i.toNat) :: st) M Q → P mr pc ls (vI i :: vR nH :: st) M Q
def R_slen (P : AP) : Prop := ∀ (mr : MR) (pc : Nat) (ls : Ls) (st : List AV) (M : Mem) (Q : Po) , decode (mrB mr) pc = .ok (.arraylength, 1) → mrC mr = 13 → P mr (pc + 1) ls (vI (mrS mr) :: st) M Q → P mr pc ls (vR nH :: st) M Q
def R_if_eq (P : AP) : Prop := ∀ (mr : MR) (pc : Nat) (ls : Ls) (st : List AV) (M : Mem) (Q : Po) (x off : Int) (tgt : Nat), decode (mrB mr) pc = .ok (.ifCond .eq off, 3) → (pc : Int) + off = (tgt : Int) → InR x → (x = 0 → P mr tgt ls st M Q) → (¬ (x = 0) → P mr (pc + 3) ls st M Q) → P mr pc ls (vI x :: st) M Q
def R_icmp_eq (P : AP) : Prop := ∀ (mr : MR) (pc : Nat) (ls : Ls) (st : List AV) (M : Mem) (Q : Po) (x y off : Int) (tgt : Nat), decode (mrB mr) pc = .ok (.if_icmp .eq off, 3) → (pc : Int) + off = (tgt : Int) → InR x → InR y → (x = y → P mr tgt ls st M Q) → (¬ (x = y) → P mr (pc + 3) ls st M Q) → P mr pc ls (vI y :: vI x :: st) M Q
def R_if_ne (P : AP) : Prop := ∀ (mr : MR) (pc : Nat) (ls : Ls) (st : List AV) (M : Mem) (Q : Po) (x off : Int) (tgt : Nat), decode (mrB mr) pc = .ok (.ifCond .ne off, 3) → (pc : Int) + off = (tgt : Int) → InR x → (x ≠ 0 → P mr tgt ls st M Q) → (¬ (x ≠ 0) → P mr (pc + 3) ls st M Q) → P mr pc ls (vI x :: st) M Q
def R_icmp_ne (P : AP) : Prop := ∀ (mr : MR) (pc : Nat) (ls : Ls) (st : List AV) (M : Mem) (Q : Po) (x y off : Int) (tgt : Nat), decode (mrB mr) pc = .ok (.if_icmp .ne off, 3) → (pc : Int) + off = (tgt : Int) → InR x → InR y → (x ≠ y → P mr tgt ls st M Q) → (¬ (x ≠ y) → P mr (pc + 3) ls st M Q) → P mr pc ls (vI y :: vI x :: st) M Q
def R_if_lt (P : AP) : Prop := ∀ (mr : MR) (pc : Nat) (ls : Ls) (st : List AV) (M : Mem) (Q : Po) (x off : Int) (tgt : Nat), decode (mrB mr) pc = .ok (.ifCond .lt off, 3) → (pc : Int) + off = (tgt : Int) → InR x → (x < 0 → P mr tgt ls st M Q) → (¬ (x < 0) → P mr (pc + 3) ls st M Q) → P mr pc ls (vI x :: st) M Q
def R_icmp_lt (P : AP) : Prop := ∀ (mr : MR) (pc : Nat) (ls : Ls) (st : List AV) (M : Mem) (Q : Po) (x y off : Int) (tgt : Nat), decode (mrB mr) pc = .ok (.if_icmp .lt off, 3) → (pc : Int) + off = (tgt : Int) → InR x → InR y → (x < y → P mr tgt ls st M Q) → (¬ (x < y) → P mr (pc + 3) ls st M Q) → P mr pc ls (vI y :: vI x :: st) M Q
def R_if_ge (P : AP) : Prop := ∀ (mr : MR) (pc : Nat) (ls : Ls) (st : List AV) (M : Mem) (Q : Po) (x off : Int) (tgt : Nat), decode (mrB mr) pc = .ok (.ifCond .ge off, 3) → (pc : Int) + off = (tgt : Int) → InR x → (x ≥ 0 → P mr tgt ls st M Q) → (¬ (x ≥ 0) → P mr (pc + 3) ls st M Q) → P mr pc ls (vI x :: st) M Q
def R_icmp_ge (P : AP) : Prop := ∀ (mr : MR) (pc : Nat) (ls : Ls) (st : List AV) (M : Mem) (Q : Po) (x y off : Int) (tgt : Nat), decode (mrB mr) pc = .ok (.if_icmp .ge off, 3) → (pc : Int) + off = (tgt : Int) → InR x → InR y → (x ≥ y → P mr tgt ls st M Q) → (¬ (x ≥ y) → P mr (pc + 3) ls st M Q) → P mr pc ls (vI y :: vI x :: st) M Q
def R_if_gt (P : AP) : Prop := ∀ (mr : MR) (pc : Nat) (ls : Ls) (st : List AV) (M : Mem) (Q : Po) (x off : Int) (tgt : Nat), decode (mrB mr) pc = .ok (.ifCond .gt off, 3) → (pc : Int) + off = (tgt : Int) → InR x → (x > 0 → P mr tgt ls st M Q) → (¬ (x > 0) → P mr (pc + 3) ls st M Q) → P mr pc ls (vI x :: st) M Q
def R_icmp_gt (P : AP) : Prop := ∀ (mr : MR) (pc : Nat) (ls : Ls) (st : List AV) (M : Mem) (Q : Po) (x y off : Int) (tgt : Nat), decode (mrB mr) pc = .ok (.if_icmp .gt off, 3) → (pc : Int) + off = (tgt : Int) → InR x → InR y → (x > y → P mr tgt ls st M Q) → (¬ (x > y) → P mr (pc + 3) ls st M Q) → P mr pc ls (vI y :: vI x :: st) M Q
def R_if_le (P : AP) : Prop := ∀ (mr : MR) (pc : Nat) (ls : Ls) (st : List AV) (M : Mem) (Q : Po) (x off : Int) (tgt : Nat), decode (mrB mr) pc = .ok (.ifCond .le off, 3) → (pc : Int) + off = (tgt : Int) → InR x → (x ≤ 0 → P mr tgt ls st M Q) → (¬ (x ≤ 0) → P mr (pc + 3) ls st M Q) → P mr pc ls (vI x :: st) M Q
def R_icmp_le (P : AP) : Prop := ∀ (mr : MR) (pc : Nat) (ls : Ls) (st : List AV) (M : Mem) (Q : Po) (x y off : Int) (tgt : Nat), decode (mrB mr) pc = .ok (.if_icmp .le off, 3) → (pc : Int) + off = (tgt : Int) → InR x → InR y → (x ≤ y → P mr tgt ls st M Q) → (¬ (x ≤ y) → P mr (pc + 3) ls st M Q) → P mr pc ls (vI y :: vI x :: st) M Q
def R_goto (P : AP) : Prop := ∀ (mr : MR) (pc : Nat) (ls : Ls) (st : List AV) (M : Mem) (Q : Po) (off : Int) (tgt : Nat), decode (mrB mr) pc = .ok (.goto off, 3) → (pc : Int) + off = (tgt : Int) → P mr tgt ls st M Q → P mr pc ls st M Q
def R_tblO (P : AP) : Prop := ∀ (mr : MR) (pc : Nat) (ls : Ls) (st : List AV) (M : Mem) (Q : Po) (x dflt lo hi : Int) (offs : Array Int) (len tgt : Nat), decode (mrB mr) pc = .ok (.tableswitch dflt lo hi offs, len) → InR x → x < lo ∨ hi < x → (pc : Int) + dflt = (tgt : Int) → P mr tgt ls st M Q → P mr pc ls (vI x :: st) M Q
def R_tblI (P : AP) : Prop := ∀ (mr : MR) (pc : Nat) (ls : Ls) (st : List AV) (M : Mem) (Q : Po) (x dflt lo hi off : Int) (offs : Array Int) (len tgt : Nat), decode (mrB mr) pc = .ok (.tableswitch dflt lo hi offs, len) → InR x → ¬ x < lo → ¬ hi < x → offs[(x - lo).toNat]? = some off → (pc : Int) + off = (tgt : Int) → P mr tgt ls st M Q → P mr pc ls (vI x :: st) M Q
def R_vret (P : AP) : Prop := ∀ (mr : MR) (pc : Nat) (ls : Ls) (st : List AV) (M : Mem) (Q : Po) , decode (mrB mr) pc = .ok (.return_, 1) → mrT mr = none → Q none M → P mr pc ls [] M Q
def R_iret (P : AP) : Prop := ∀ (mr : MR) (pc : Nat) (ls : Ls) (st : List AV) (M : Mem) (Q : Po) (x : Int), decode (mrB mr) pc = .ok (.ireturn, 1) → mrT mr = some .int → Q (some (vI x)) M → P mr pc ls [vI x] M Q
def R_zret (P : AP) : Prop := ∀ (mr : MR) (pc : Nat) (ls : Ls) (st : List AV) (M : Mem) (Q : Po) (x : Int), decode (mrB mr) pc = .ok (.ireturn, 1) → mrT mr = some .boolean → x = 0 ∨ x = 1 → Q (some (vI x)) M → P mr pc ls [vI x] M Q
def R_callV (P : AP) : Prop := ∀ (mr : MR) (pc : Nat) (ls : Ls) (st : List AV) (M : Mem) (Q : Po) (h : Nat) (fs : List (Option Nat)) (cm : MR) (ix : Nat) (As : List AV) (Q1 : Po), decode (mrB mr) pc = .ok (.invokevirtual ix, 3) → CallV (mrC mr) ix cm As.length → kd h = (3, mrC cm, fs) → h < nH → mrF cm + 1 ≤ mrF mr ∧ 8 + (mrN cm + 11) + mrL cm ≤ mrL mr → (entS (vR h :: As)).length ≤ mrN cm → wt st ≤ 8 → P cm 0 (entL (vR h :: As) (mrN cm)) [] M Q1 → (∀ (r : Option AV) (M1 : Mem), Q1 r M1 → P mr (pc + 3) ls (r.toList ++ st) M1 Q) → P mr pc ls (As.reverse ++ vR h :: st) M Q
def R_callS (P : AP) : Prop := ∀ (mr : MR) (pc : Nat) (ls : Ls) (st : List AV) (M : Mem) (Q : Po) (cm : MR) (ix : Nat) (As : List AV) (Q1 : Po), decode (mrB mr) pc = .ok (.invokestatic ix, 3) → CallS (mrC mr) ix cm As.length → mrF cm + 1 ≤ mrF mr ∧ 8 + (mrN cm + 11) + mrL cm ≤ mrL mr → (entS As).length ≤ mrN cm → wt st ≤ 8 → P cm 0 (entL As (mrN cm)) [] M Q1 → (∀ (r : Option AV) (M1 : Mem), Q1 r M1 → P mr (pc + 3) ls (r.toList ++ st) M1 Q) → P mr pc ls (As.reverse ++ st) M Q
def R_callN (P : AP) : Prop := ∀ (mr : MR) (pc : Nat) (ls : Ls) (st : List AV) (M : Mem) (Q : Po) (cm : MR) (ix : Nat) (As : List AV) (Q1 : Po), decode (mrB mr) pc = .ok (.invokestatic ix, 3) → CallN (mrC mr) ix cm As.length → mrF cm + 1 ≤ mrF mr ∧ 8 + (mrN cm + 11) + mrL cm ≤ mrL mr → (entS As).length ≤ mrN cm → wt st ≤ 8 → P cm 0 (entL As (mrN cm)) [] M Q1 → (∀ (r : Option AV) (M1 : Mem), Q1 r M1 → P mr (pc + 3) ls (r.toList ++ st) M1 Q) → P mr pc ls (As.reverse ++ st) M Q
def R_callF (P : AP) : Prop := ∀ (mr : MR) (pc : Nat) (ls : Ls) (st : List AV) (M : Mem) (Q : Po) (h ct : Nat) (fs : List (Option Nat)) (cm : MR) (ix : Nat) (As : List AV) (Q1 : Po), decode (mrB mr) pc = .ok (.invokeinterface ix ct, 5) → CallF (mrC mr) ix cm As.length → kd h = (3, mrC cm, fs) → h < nH → mrF cm + 1 ≤ mrF mr ∧ 8 + (mrN cm + 11) + mrL cm ≤ mrL mr → (entS (vR h :: As)).length ≤ mrN cm → wt st ≤ 8 → P cm 0 (entL (vR h :: As) (mrN cm)) [] M Q1 → (∀ (r : Option AV) (M1 : Mem), Q1 r M1 → P mr (pc + 5) ls (r.toList ++ st) M1 Q) → P mr pc ls (As.reverse ++ vR h :: st) M Q
def R_copy (P : AP) : Prop := ∀ (mr : MR) (pc : Nat) (ls : Ls) (st : List AV) (M : Mem) (Q : Po) (ix h0 h1 n0 n1 : Nat) (sp dp n : Int), decode (mrB mr) pc = .ok (.invokestatic ix, 3) → Cond.methodLink (cn (mrC mr)) ix arraycopyName ∈ lw_good → kd h0 = (0, n0, []) → kd h1 = (0, n1, []) → h0 < nH → h1 < nH → 0 ≤ sp ∧ 0 ≤ dp ∧ 0 ≤ n ∧ sp + n ≤ n0 ∧ dp + n ≤ n1 → 1 ≤ mrF mr → 8 + (nativeFrameWords "java/lang/System" "arraycopy" 5 + 11) ≤ mrL mr → wt st ≤ 8 → P mr (pc + 3) ls st (cpy M h0 h1 sp dp n) Q → P mr pc ls (vI n :: vI dp :: vR h1 :: vI sp :: vR h0 :: st) M Q
def R_mmax (P : AP) : Prop := ∀ (mr : MR) (pc : Nat) (ls : Ls) (st : List AV) (M : Mem) (Q : Po) (ix : Nat) (x y : Int), decode (mrB mr) pc = .ok (.invokestatic ix, 3) → Cond.methodLink (cn (mrC mr)) ix Lib.Math.max.name ∈ lw_good → 1 ≤ mrF mr → 8 + 13 ≤ mrL mr → wt st ≤ 8 → InR x → InR y → P mr (pc + 3) ls (vI (if x < y then y else x) :: st) M Q → P mr pc ls (vI y :: vI x :: st) M Q
def R_mmin (P : AP) : Prop := ∀ (mr : MR) (pc : Nat) (ls : Ls) (st : List AV) (M : Mem) (Q : Po) (ix : Nat) (x y : Int), decode (mrB mr) pc = .ok (.invokestatic ix, 3) → Cond.methodLink (cn (mrC mr)) ix Lib.Math.min.name ∈ lw_good → 1 ≤ mrF mr → 8 + 13 ≤ mrL mr → wt st ≤ 8 → InR x → InR y → P mr (pc + 3) ls (vI (if y < x then y else x) :: st) M Q → P mr pc ls (vI y :: vI x :: st) M Q
def R_weak (P : AP) : Prop := ∀ (mr : MR) (pc : Nat) (ls : Ls) (st : List AV) (M : Mem) (Q : Po) (ls2 : Ls), lsub ls2 ls → P mr pc ls2 st M Q → P mr pc ls st M Q
def Rules (P : AP) : Prop := R_iconst P ∧ R_bipush P ∧ R_sipush P ∧ R_ldc P ∧ R_ldc2 P ∧ R_lconst P ∧ R_iload_n P ∧ R_iload P ∧ R_lload_n P ∧ R_lload P ∧ R_aload_n P ∧ R_aload P ∧ R_istore_n P ∧ R_istore P ∧ R_lstore_n P ∧ R_lstore P ∧ R_astore_n P ∧ R_astore P ∧ R_iinc P ∧ R_iadd P ∧ R_isub P ∧ R_imul P ∧ R_idiv P ∧ R_irem P ∧ R_iand P ∧ R_i2l P ∧ R_l2i P ∧ R_ladd P ∧ R_lmul P ∧ R_land P ∧ R_lor P ∧ R_lshl P ∧ R_lcmp P ∧ R_dup P ∧ R_dup2 P ∧ R_getR P ∧ R_getI P ∧ R_put P ∧ R_iald P ∧ R_zald P ∧ R_lald P ∧ R_iast P ∧ R_zast P ∧ R_last P ∧ R_alen P ∧ R_sald P ∧ R_slen P ∧ R_if_eq P ∧ R_icmp_eq P ∧ R_if_ne P ∧ R_icmp_ne P ∧ R_if_lt P ∧ R_icmp_lt P ∧ R_if_ge P ∧ R_icmp_ge P ∧ R_if_gt P ∧ R_icmp_gt P ∧ R_if_le P ∧ R_icmp_le P ∧ R_goto P ∧ R_tblO P ∧ R_tblI P ∧ R_vret P ∧ R_iret P ∧ R_zret P ∧ R_callV P ∧ R_callS P ∧ R_callN P ∧ R_callF P ∧ R_copy P ∧ R_mmax P ∧ R_mmin P ∧ R_weak P
def AW : AP := fun mr pc ls st M Q => ∀ P : AP, Rules P → P mr pc ls st M Q
theorem AW.iconst {mr : MR} {pc : Nat} {ls : Ls} {st : List AV} {M : Mem} {Q : Po} {n : Int} (e0 : decode (mrB mr) pc = .ok (.iconst n, 1)) (k0 : AW mr (pc + 1) ls (vI n :: st) M Q) : AW mr pc ls st M Q := fun P hP => hP.1 mr pc ls st M Q n e0 (k0 P hP)
theorem AW.bipush {mr : MR} {pc : Nat} {ls : Ls} {st : List AV} {M : Mem} {Q : Po} {n : Int} (e0 : decode (mrB mr) pc = .ok (.bipush n, 2)) (e1 : (Int8.ofInt n).toInt32 = Int32.ofInt n) (k0 : AW mr (pc + 2) ls (vI n :: st) M Q) : AW mr pc ls st M Q := fun P hP => hP.2.1 mr pc ls st M Q n e0 e1 (k0 P hP)
theorem AW.sipush {mr : MR} {pc : Nat} {ls : Ls} {st : List AV} {M : Mem} {Q : Po} {n : Int} (e0 : decode (mrB mr) pc = .ok (.sipush n, 3)) (e1 : (Int16.ofInt n).toInt32 = Int32.ofInt n) (k0 : AW mr (pc + 3) ls (vI n :: st) M Q) : AW mr pc ls st M Q := fun P hP => hP.2.2.1 mr pc ls st M Q n e0 e1 (k0 P hP)
theorem AW.ldc {mr : MR} {pc : Nat} {ls : Ls} {st : List AV} {M : Mem} {Q : Po} {ix : Nat} {n : Int} (e0 : decode (mrB mr) pc = .ok (.ldc ix, 2)) (e1 : Cond.constant (cn (mrC mr)) ix (Int32.ofInt n) ∈ lw_good) (k0 : AW mr (pc + 2) ls (vI n :: st) M Q) : AW mr pc ls st M Q := fun P hP => hP.2.2.2.1 mr pc ls st M Q ix n e0 e1 (k0 P hP)
theorem AW.ldc2 {mr : MR} {pc : Nat} {ls : Ls} {st : List AV} {M : Mem} {Q : Po} {ix : Nat} {n : Int} (e0 : decode (mrB mr) pc = .ok (.ldc2_w ix, 3)) (e1 : Cond.constantLong (cn (mrC mr)) ix (Int64.ofInt n) ∈ lw_good) (k0 : AW mr (pc + 3) ls (vL n :: st) M Q) : AW mr pc ls st M Q := fun P hP => hP.2.2.2.2.1 mr pc ls st M Q ix n e0 e1 (k0 P hP)
theorem AW.lconst {mr : MR} {pc : Nat} {ls : Ls} {st : List AV} {M : Mem} {Q : Po} {k : Fin 2} {n : Int} (e0 : decode (mrB mr) pc = .ok (.lconst k, 1)) (e1 : Int64.ofNat (k : Nat) = Int64.ofInt n) (k0 : AW mr (pc + 1) ls (vL n :: st) M Q) : AW mr pc ls st M Q := fun P hP => hP.2.2.2.2.2.1 mr pc ls st M Q k n e0 e1 (k0 P hP)
theorem AW.iload_n {mr : MR} {pc : Nat} {ls : Ls} {st : List AV} {M : Mem} {Q : Po} {k : Fin 4} {x : Int} (e0 : decode (mrB mr) pc = .ok (.iload_n k, 1)) (e1 : ls[(k : Nat)]? = some (some (vI x))) (k0 : AW mr (pc + 1) ls (vI x :: st) M Q) : AW mr pc ls st M Q := fun P hP => hP.2.2.2.2.2.2.1 mr pc ls st M Q k x e0 e1 (k0 P hP)
theorem AW.iload {mr : MR} {pc : Nat} {ls : Ls} {st : List AV} {M : Mem} {Q : Po} {k : Nat} {x : Int} (e0 : decode (mrB mr) pc = .ok (.iload k, 2)) (e1 : ls[k]? = some (some (vI x))) (k0 : AW mr (pc + 2) ls (vI x :: st) M Q) : AW mr pc ls st M Q := fun P hP => hP.2.2.2.2.2.2.2.1 mr pc ls st M Q k x e0 e1 (k0 P hP)
theorem AW.lload_n {mr : MR} {pc : Nat} {ls : Ls} {st : List AV} {M : Mem} {Q : Po} {k : Fin 4} {x : Int} (e0 : decode (mrB mr) pc = .ok (.lload_n k, 1)) (e1 : ls[(k : Nat)]? = some (some (vL x))) (k0 : AW mr (pc + 1) ls (vL x :: st) M Q) : AW mr pc ls st M Q := fun P hP => hP.2.2.2.2.2.2.2.2.1 mr pc ls st M Q k x e0 e1 (k0 P hP)
theorem AW.lload {mr : MR} {pc : Nat} {ls : Ls} {st : List AV} {M : Mem} {Q : Po} {k : Nat} {x : Int} (e0 : decode (mrB mr) pc = .ok (.lload k, 2)) (e1 : ls[k]? = some (some (vL x))) (k0 : AW mr (pc + 2) ls (vL x :: st) M Q) : AW mr pc ls st M Q := fun P hP => hP.2.2.2.2.2.2.2.2.2.1 mr pc ls st M Q k x e0 e1 (k0 P hP)
theorem AW.aload_n {mr : MR} {pc : Nat} {ls : Ls} {st : List AV} {M : Mem} {Q : Po} {k : Fin 4} {x : Nat} (e0 : decode (mrB mr) pc = .ok (.aload_n k, 1)) (e1 : ls[(k : Nat)]? = some (some (vR x))) (k0 : AW mr (pc + 1) ls (vR x :: st) M Q) : AW mr pc ls st M Q := fun P hP => hP.2.2.2.2.2.2.2.2.2.2.1 mr pc ls st M Q k x e0 e1 (k0 P hP)
theorem AW.aload {mr : MR} {pc : Nat} {ls : Ls} {st : List AV} {M : Mem} {Q : Po} {k : Nat} {x : Nat} (e0 : decode (mrB mr) pc = .ok (.aload k, 2)) (e1 : ls[k]? = some (some (vR x))) (k0 : AW mr (pc + 2) ls (vR x :: st) M Q) : AW mr pc ls st M Q := fun P hP => hP.2.2.2.2.2.2.2.2.2.2.2.1 mr pc ls st M Q k x e0 e1 (k0 P hP)
theorem AW.istore_n {mr : MR} {pc : Nat} {ls : Ls} {st : List AV} {M : Mem} {Q : Po} {k : Fin 4} {ls2 : Ls} {x : Int} (e0 : decode (mrB mr) pc = .ok (.istore_n k, 1)) (e1 : (k : Nat) < mrN mr) (e2 : setL ls k (some (vI x)) = ls2) (k0 : AW mr (pc + 1) ls2 st M Q) : AW mr pc ls (vI x :: st) M Q := fun P hP => hP.2.2.2.2.2.2.2.2.2.2.2.2.1 mr pc ls st M Q k ls2 x e0 e1 e2 (k0 P hP)
theorem AW.istore {mr : MR} {pc : Nat} {ls : Ls} {st : List AV} {M : Mem} {Q : Po} {k : Nat} {ls2 : Ls} {x : Int} (e0 : decode (mrB mr) pc = .ok (.istore k, 2)) (e1 : k < mrN mr) (e2 : setL ls k (some (vI x)) = ls2) (k0 : AW mr (pc + 2) ls2 st M Q) : AW mr pc ls (vI x :: st) M Q := fun P hP => hP.2.2.2.2.2.2.2.2.2.2.2.2.2.1 mr pc ls st M Q k ls2 x e0 e1 e2 (k0 P hP)
theorem AW.lstore_n {mr : MR} {pc : Nat} {ls : Ls} {st : List AV} {M : Mem} {Q : Po} {k : Fin 4} {ls2 : Ls} {x : Int} (e0 : decode (mrB mr) pc = .ok (.lstore_n k, 1)) (e1 : (k : Nat) + 1 < mrN mr) (e2 : setL2 ls k (some (vL x)) = ls2) (k0 : AW mr (pc + 1) ls2 st M Q) : AW mr pc ls (vL x :: st) M Q := fun P hP => hP.2.2.2.2.2.2.2.2.2.2.2.2.2.2.1 mr pc ls st M Q k ls2 x e0 e1 e2 (k0 P hP)
theorem AW.lstore {mr : MR} {pc : Nat} {ls : Ls} {st : List AV} {M : Mem} {Q : Po} {k : Nat} {ls2 : Ls} {x : Int} (e0 : decode (mrB mr) pc = .ok (.lstore k, 2)) (e1 : k + 1 < mrN mr) (e2 : setL2 ls k (some (vL x)) = ls2) (k0 : AW mr (pc + 2) ls2 st M Q) : AW mr pc ls (vL x :: st) M Q := fun P hP => hP.2.2.2.2.2.2.2.2.2.2.2.2.2.2.2.1 mr pc ls st M Q k ls2 x e0 e1 e2 (k0 P hP)
theorem AW.astore_n {mr : MR} {pc : Nat} {ls : Ls} {st : List AV} {M : Mem} {Q : Po} {k : Fin 4} {ls2 : Ls} {x : Nat} (e0 : decode (mrB mr) pc = .ok (.astore_n k, 1)) (e1 : (k : Nat) < mrN mr) (e2 : setL ls k (some (vR x)) = ls2) (k0 : AW mr (pc + 1) ls2 st M Q) : AW mr pc ls (vR x :: st) M Q := fun P hP => hP.2.2.2.2.2.2.2.2.2.2.2.2.2.2.2.2.1 mr pc ls st M Q k ls2 x e0 e1 e2 (k0 P hP)
theorem AW.astore {mr : MR} {pc : Nat} {ls : Ls} {st : List AV} {M : Mem} {Q : Po} {k : Nat} {ls2 : Ls} {x : Nat} (e0 : decode (mrB mr) pc = .ok (.astore k, 2)) (e1 : k < mrN mr) (e2 : setL ls k (some (vR x)) = ls2) (k0 : AW mr (pc + 2) ls2 st M Q) : AW mr pc ls (vR x :: st) M Q := fun P hP => hP.2.2.2.2.2.2.2.2.2.2.2.2.2.2.2.2.2.1 mr pc ls st M Q k ls2 x e0 e1 e2 (k0 P hP)
theorem AW.iinc {mr : MR} {pc : Nat} {ls : Ls} {st : List AV} {M : Mem} {Q : Po} {k : Nat} {n x : Int} {ls2 : Ls} (e0 : decode (mrB mr) pc = .ok (.iinc k n, 3)) (e1 : ls[k]? = some (some (vI x))) (e2 : k < mrN mr) (e3 : setL ls k (some (vI (x + n))) = ls2) (k0 : AW mr (pc + 3) ls2 st M Q) : AW mr pc ls st M Q := fun P hP => hP.2.2.2.2.2.2.2.2.2.2.2.2.2.2.2.2.2.2.1 mr pc ls st M Q k n x ls2 e0 e1 e2 e3 (k0 P hP)
theorem AW.iadd {mr : MR} {pc : Nat} {ls : Ls} {st : List AV} {M : Mem} {Q : Po} {x y : Int} (e0 : decode (mrB mr) pc = .ok (.iadd, 1)) (k0 : AW mr (pc + 1) ls (vI (x + y) :: st) M Q) : AW mr pc ls (vI y :: vI x :: st) M Q := fun P hP => hP.2.2.2.2.2.2.2.2.2.2.2.2.2.2.2.2.2.2.2.1 mr pc ls st M Q x y e0 (k0 P hP)
theorem AW.isub {mr : MR} {pc : Nat} {ls : Ls} {st : List AV} {M : Mem} {Q : Po} {x y : Int} (e0 : decode (mrB mr) pc = .ok (.isub, 1)) (k0 : AW mr (pc + 1) ls (vI (x - y) :: st) M Q) : AW mr pc ls (vI y :: vI x :: st) M Q := fun P hP => hP.2.2.2.2.2.2.2.2.2.2.2.2.2.2.2.2.2.2.2.2.1 mr pc ls st M Q x y e0 (k0 P hP)
theorem AW.imul {mr : MR} {pc : Nat} {ls : Ls} {st : List AV} {M : Mem} {Q : Po} {x y : Int} (e0 : decode (mrB mr) pc = .ok (.imul, 1)) (k0 : AW mr (pc + 1) ls (vI (x * y) :: st) M Q) : AW mr pc ls (vI y :: vI x :: st) M Q := fun P hP => hP.2.2.2.2.2.2.2.2.2.2.2.2.2.2.2.2.2.2.2.2.2.1 mr pc ls st M Q x y e0 (k0 P hP)
theorem AW.idiv {mr : MR} {pc : Nat} {ls : Ls} {st : List AV} {M : Mem} {Q : Po} {x y : Int} (e0 : decode (mrB mr) pc = .ok (.idiv, 1)) (e1 : 0 ≤ x ∧ x ≤ 2147483647) (e2 : 0 < y ∧ y ≤ 2147483647) (k0 : AW mr (pc + 1) ls (vI (x / y) :: st) M Q) : AW mr pc ls (vI y :: vI x :: st) M Q := fun P hP => hP.2.2.2.2.2.2.2.2.2.2.2.2.2.2.2.2.2.2.2.2.2.2.1 mr pc ls st M Q x y e0 e1 e2 (k0 P hP)
theorem AW.irem {mr : MR} {pc : Nat} {ls : Ls} {st : List AV} {M : Mem} {Q : Po} {x y : Int} (e0 : decode (mrB mr) pc = .ok (.irem, 1)) (e1 : 0 ≤ x ∧ x ≤ 2147483647) (e2 : 0 < y ∧ y ≤ 2147483647) (k0 : AW mr (pc + 1) ls (vI (x % y) :: st) M Q) : AW mr pc ls (vI y :: vI x :: st) M Q := fun P hP => hP.2.2.2.2.2.2.2.2.2.2.2.2.2.2.2.2.2.2.2.2.2.2.2.1 mr pc ls st M Q x y e0 e1 e2 (k0 P hP)
theorem AW.iand {mr : MR} {pc : Nat} {ls : Ls} {st : List AV} {M : Mem} {Q : Po} {x y : Int} (e0 : decode (mrB mr) pc = .ok (.iand, 1)) (k0 : AW mr (pc + 1) ls (vI (Int32.ofInt x &&& Int32.ofInt y).toInt :: st) M Q) : AW mr pc ls (vI y :: vI x :: st) M Q := fun P hP => hP.2.2.2.2.2.2.2.2.2.2.2.2.2.2.2.2.2.2.2.2.2.2.2.2.1 mr pc ls st M Q x y e0 (k0 P hP)
theorem AW.i2l {mr : MR} {pc : Nat} {ls : Ls} {st : List AV} {M : Mem} {Q : Po} {x : Int} (e0 : decode (mrB mr) pc = .ok (.i2l, 1)) (e1 : InR x) (k0 : AW mr (pc + 1) ls (vL x :: st) M Q) : AW mr pc ls (vI x :: st) M Q := fun P hP => hP.2.2.2.2.2.2.2.2.2.2.2.2.2.2.2.2.2.2.2.2.2.2.2.2.2.1 mr pc ls st M Q x e0 e1 (k0 P hP)
theorem AW.l2i {mr : MR} {pc : Nat} {ls : Ls} {st : List AV} {M : Mem} {Q : Po} {x : Int} (e0 : decode (mrB mr) pc = .ok (.l2i, 1)) (k0 : AW mr (pc + 1) ls (vI x :: st) M Q) : AW mr pc ls (vL x :: st) M Q := fun P hP => hP.2.2.2.2.2.2.2.2.2.2.2.2.2.2.2.2.2.2.2.2.2.2.2.2.2.2.1 mr pc ls st M Q x e0 (k0 P hP)
theorem AW.ladd {mr : MR} {pc : Nat} {ls : Ls} {st : List AV} {M : Mem} {Q : Po} {x y : Int} (e0 : decode (mrB mr) pc = .ok (.ladd, 1)) (k0 : AW mr (pc + 1) ls (vL (x + y) :: st) M Q) : AW mr pc ls (vL y :: vL x :: st) M Q := fun P hP => hP.2.2.2.2.2.2.2.2.2.2.2.2.2.2.2.2.2.2.2.2.2.2.2.2.2.2.2.1 mr pc ls st M Q x y e0 (k0 P hP)
theorem AW.lmul {mr : MR} {pc : Nat} {ls : Ls} {st : List AV} {M : Mem} {Q : Po} {x y : Int} (e0 : decode (mrB mr) pc = .ok (.lmul, 1)) (k0 : AW mr (pc + 1) ls (vL (x * y) :: st) M Q) : AW mr pc ls (vL y :: vL x :: st) M Q := fun P hP => hP.2.2.2.2.2.2.2.2.2.2.2.2.2.2.2.2.2.2.2.2.2.2.2.2.2.2.2.2.1 mr pc ls st M Q x y e0 (k0 P hP)
theorem AW.land {mr : MR} {pc : Nat} {ls : Ls} {st : List AV} {M : Mem} {Q : Po} {x y : Int} (e0 : decode (mrB mr) pc = .ok (.land, 1)) (k0 : AW mr (pc + 1) ls (vL (Int64.ofInt x &&& Int64.ofInt y).toInt :: st) M Q) : AW mr pc ls (vL y :: vL x :: st) M Q := fun P hP => hP.2.2.2.2.2.2.2.2.2.2.2.2.2.2.2.2.2.2.2.2.2.2.2.2.2.2.2.2.2.1 mr pc ls st M Q x y e0 (k0 P hP)
theorem AW.lor {mr : MR} {pc : Nat} {ls : Ls} {st : List AV} {M : Mem} {Q : Po} {x y : Int} (e0 : decode (mrB mr) pc = .ok (.lor, 1)) (k0 : AW mr (pc + 1) ls (vL (Int64.ofInt x ||| Int64.ofInt y).toInt :: st) M Q) : AW mr pc ls (vL y :: vL x :: st) M Q := fun P hP => hP.2.2.2.2.2.2.2.2.2.2.2.2.2.2.2.2.2.2.2.2.2.2.2.2.2.2.2.2.2.2.1 mr pc ls st M Q x y e0 (k0 P hP)
theorem AW.lshl {mr : MR} {pc : Nat} {ls : Ls} {st : List AV} {M : Mem} {Q : Po} {x y : Int} (e0 : decode (mrB mr) pc = .ok (.lshl, 1)) (k0 : AW mr (pc + 1) ls (vL (Int64.ofInt x <<< ((Int32.ofInt y).toInt64 &&& 63)).toInt :: st) M Q) : AW mr pc ls (vI y :: vL x :: st) M Q := fun P hP => hP.2.2.2.2.2.2.2.2.2.2.2.2.2.2.2.2.2.2.2.2.2.2.2.2.2.2.2.2.2.2.2.1 mr pc ls st M Q x y e0 (k0 P hP)
theorem AW.lcmp {mr : MR} {pc : Nat} {ls : Ls} {st : List AV} {M : Mem} {Q : Po} {x y : Int} (e0 : decode (mrB mr) pc = .ok (.lcmp, 1)) (e1 : InR8 x) (e2 : InR8 y) (k0 : AW mr (pc + 1) ls (vI (if x > y then 1 else if x = y then 0 else -1) :: st) M Q) : AW mr pc ls (vL y :: vL x :: st) M Q := fun P hP => hP.2.2.2.2.2.2.2.2.2.2.2.2.2.2.2.2.2.2.2.2.2.2.2.2.2.2.2.2.2.2.2.2.1 mr pc ls st M Q x y e0 e1 e2 (k0 P hP)
theorem AW.dup {mr : MR} {pc : Nat} {ls : Ls} {st : List AV} {M : Mem} {Q : Po} {v : AV} (e0 : decode (mrB mr) pc = .ok (.dup, 1)) (e1 : cat1 v = true) (k0 : AW mr (pc + 1) ls (v :: v :: st) M Q) : AW mr pc ls (v :: st) M Q := fun P hP => hP.2.2.2.2.2.2.2.2.2.2.2.2.2.2.2.2.2.2.2.2.2.2.2.2.2.2.2.2.2.2.2.2.2.1 mr pc ls st M Q v e0 e1 (k0 P hP)
theorem AW.dup2 {mr : MR} {pc : Nat} {ls : Ls} {st : List AV} {M : Mem} {Q : Po} {v w : AV} (e0 : decode (mrB mr) pc = .ok (.dup2, 1)) (e1 : cat1 v = true) (e2 : cat1 w = true) (k0 : AW mr (pc + 1) ls (v :: w :: v :: w :: st) M Q) : AW mr pc ls (v :: w :: st) M Q := fun P hP => hP.2.2.2.2.2.2.2.2.2.2.2.2.2.2.2.2.2.2.2.2.2.2.2.2.2.2.2.2.2.2.2.2.2.2.1 mr pc ls st M Q v w e0 e1 e2 (k0 P hP)
theorem AW.getR {mr : MR} {pc : Nat} {ls : Ls} {st : List AV} {M : Mem} {Q : Po} {h ix ci k h2 : Nat} {fs : List (Option Nat)} (e0 : decode (mrB mr) pc = .ok (.getfield ix, 3)) (e1 : FldG (mrC mr) ix ci k) (e2 : kd h = (3, ci, fs)) (e3 : h < nH) (e4 : fs[k]? = some (some h2)) (k0 : AW mr (pc + 3) ls (vR h2 :: st) M Q) : AW mr pc ls (vR h :: st) M Q := fun P hP => hP.2.2.2.2.2.2.2.2.2.2.2.2.2.2.2.2.2.2.2.2.2.2.2.2.2.2.2.2.2.2.2.2.2.2.2.1 mr pc ls st M Q h ix ci k h2 fs e0 e1 e2 e3 e4 (k0 P hP)
theorem AW.getI {mr : MR} {pc : Nat} {ls : Ls} {st : List AV} {M : Mem} {Q : Po} {h ix ci k : Nat} {fs : List (Option Nat)} (e0 : decode (mrB mr) pc = .ok (.getfield ix, 3)) (e1 : FldG (mrC mr) ix ci k) (e2 : kd h = (3, ci, fs)) (e3 : h < nH) (e4 : fs[k]? = some none) (k0 : AW mr (pc + 3) ls (vI (M h k) :: st) M Q) : AW mr pc ls (vR h :: st) M Q := fun P hP => hP.2.2.2.2.2.2.2.2.2.2.2.2.2.2.2.2.2.2.2.2.2.2.2.2.2.2.2.2.2.2.2.2.2.2.2.2.1 mr pc ls st M Q h ix ci k fs e0 e1 e2 e3 e4 (k0 P hP)
theorem AW.put {mr : MR} {pc : Nat} {ls : Ls} {st : List AV} {M : Mem} {Q : Po} {h ix ci k : Nat} {fs : List (Option Nat)} {x : Int} (e0 : decode (mrB mr) pc = .ok (.putfield ix, 3)) (e1 : FldP (mrC mr) ix ci k) (e2 : kd h = (3, ci, fs)) (e3 : h < nH) (e4 : fs[k]? = some none) (k0 : AW mr (pc + 3) ls st (up M h k x) Q) : AW mr pc ls (vI x :: vR h :: st) M Q := fun P hP => hP.2.2.2.2.2.2.2.2.2.2.2.2.2.2.2.2.2.2.2.2.2.2.2.2.2.2.2.2.2.2.2.2.2.2.2.2.2.1 mr pc ls st M Q h ix ci k fs x e0 e1 e2 e3 e4 (k0 P hP)
theorem AW.iald {mr : MR} {pc : Nat} {ls : Ls} {st : List AV} {M : Mem} {Q : Po} {h n : Nat} {i : Int} (e0 : decode (mrB mr) pc = .ok (.iaload, 1)) (e1 : kd h = (0, n, [])) (e2 : h < nH) (e3 : 0 ≤ i ∧ i < n) (k0 : AW mr (pc + 1) ls (vI (M h i) :: st) M Q) : AW mr pc ls (vI i :: vR h :: st) M Q := fun P hP => hP.2.2.2.2.2.2.2.2.2.2.2.2.2.2.2.2.2.2.2.2.2.2.2.2.2.2.2.2.2.2.2.2.2.2.2.2.2.2.1 mr pc ls st M Q h n i e0 e1 e2 e3 (k0 P hP)
theorem AW.zald {mr : MR} {pc : Nat} {ls : Ls} {st : List AV} {M : Mem} {Q : Po} {h n : Nat} {i : Int} (e0 : decode (mrB mr) pc = .ok (.baload, 1)) (e1 : kd h = (1, n, [])) (e2 : h < nH) (e3 : 0 ≤ i ∧ i < n) (k0 : AW mr (pc + 1) ls (vI (M h i) :: st) M Q) : AW mr pc ls (vI i :: vR h :: st) M Q := fun P hP => hP.2.2.2.2.2.2.2.2.2.2.2.2.2.2.2.2.2.2.2.2.2.2.2.2.2.2.2.2.2.2.2.2.2.2.2.2.2.2.2.1 mr pc ls st M Q h n i e0 e1 e2 e3 (k0 P hP)
theorem AW.lald {mr : MR} {pc : Nat} {ls : Ls} {st : List AV} {M : Mem} {Q : Po} {h n : Nat} {i : Int} (e0 : decode (mrB mr) pc = .ok (.laload, 1)) (e1 : kd h = (2, n, [])) (e2 : h < nH) (e3 : 0 ≤ i ∧ i < n) (k0 : AW mr (pc + 1) ls (vL (M h i) :: st) M Q) : AW mr pc ls (vI i :: vR h :: st) M Q := fun P hP => hP.2.2.2.2.2.2.2.2.2.2.2.2.2.2.2.2.2.2.2.2.2.2.2.2.2.2.2.2.2.2.2.2.2.2.2.2.2.2.2.2.1 mr pc ls st M Q h n i e0 e1 e2 e3 (k0 P hP)
theorem AW.iast {mr : MR} {pc : Nat} {ls : Ls} {st : List AV} {M : Mem} {Q : Po} {h n : Nat} {i x : Int} (e0 : decode (mrB mr) pc = .ok (.iastore, 1)) (e1 : kd h = (0, n, [])) (e2 : h < nH) (e3 : 0 ≤ i ∧ i < n) (k0 : AW mr (pc + 1) ls st (up M h i x) Q) : AW mr pc ls (vI x :: vI i :: vR h :: st) M Q := fun P hP => hP.2.2.2.2.2.2.2.2.2.2.2.2.2.2.2.2.2.2.2.2.2.2.2.2.2.2.2.2.2.2.2.2.2.2.2.2.2.2.2.2.2.1 mr pc ls st M Q h n i x e0 e1 e2 e3 (k0 P hP)
theorem AW.zast {mr : MR} {pc : Nat} {ls : Ls} {st : List AV} {M : Mem} {Q : Po} {h n : Nat} {i x : Int} (e0 : decode (mrB mr) pc = .ok (.bastore, 1)) (e1 : kd h = (1, n, [])) (e2 : h < nH) (e3 : 0 ≤ i ∧ i < n) (e4 : x = 0 ∨ x = 1) (k0 : AW mr (pc + 1) ls st (up M h i x) Q) : AW mr pc ls (vI x :: vI i :: vR h :: st) M Q := fun P hP => hP.2.2.2.2.2.2.2.2.2.2.2.2.2.2.2.2.2.2.2.2.2.2.2.2.2.2.2.2.2.2.2.2.2.2.2.2.2.2.2.2.2.2.1 mr pc ls st M Q h n i x e0 e1 e2 e3 e4 (k0 P hP)
theorem AW.last {mr : MR} {pc : Nat} {ls : Ls} {st : List AV} {M : Mem} {Q : Po} {h n : Nat} {i x : Int} (e0 : decode (mrB mr) pc = .ok (.lastore, 1)) (e1 : kd h = (2, n, [])) (e2 : h < nH) (e3 : 0 ≤ i ∧ i < n) (k0 : AW mr (pc + 1) ls st (up M h i x) Q) : AW mr pc ls (vL x :: vI i :: vR h :: st) M Q := fun P hP => hP.2.2.2.2.2.2.2.2.2.2.2.2.2.2.2.2.2.2.2.2.2.2.2.2.2.2.2.2.2.2.2.2.2.2.2.2.2.2.2.2.2.2.2.1 mr pc ls st M Q h n i x e0 e1 e2 e3 (k0 P hP)
theorem AW.alen {mr : MR} {pc : Nat} {ls : Ls} {st : List AV} {M : Mem} {Q : Po} {h t n : Nat} (e0 : decode (mrB mr) pc = .ok (.arraylength, 1)) (e1 : kd h = (t, n, [])) (e2 : t < 3) (e3 : h < nH) (k0 : AW mr (pc + 1) ls (vI n :: st) M Q) : AW mr pc ls (vR h :: st) M Q := fun P hP => hP.2.2.2.2.2.2.2.2.2.2.2.2.2.2.2.2.2.2.2.2.2.2.2.2.2.2.2.2.2.2.2.2.2.2.2.2.2.2.2.2.2.2.2.2.1 mr pc ls st M Q h t n e0 e1 e2 e3 (k0 P hP)
theorem AW.sald {mr : MR} {pc : Nat} {ls : Ls} {st : List AV} {M : Mem} {Q : Po} {i : Int} (e0 : decode (mrB mr) pc = .ok (.iaload, 1)) (e1 : mrC mr = 13) (e2 : 0 ≤ i ∧ i < mrS mr) (k0 : AW mr (pc + 1) ls (vI (mrX mr i.toNat) :: st) M Q) : AW mr pc ls (vI i :: vR nH :: st) M Q := fun P hP => hP.2.2.2.2.2.2.2.2.2.2.2.2.2.2.2.2.2.2.2.2.2.2.2.2.2.2.2.2.2.2.2.2.2.2.2.2.2.2.2.2.2.2.2.2.2.1 mr pc ls st M Q i e0 e1 e2 (k0 P hP)
theorem AW.slen {mr : MR} {pc : Nat} {ls : Ls} {st : List AV} {M : Mem} {Q : Po}  (e0 : decode (mrB mr) pc = .ok (.arraylength, 1)) (e1 : mrC mr = 13) (k0 : AW mr (pc + 1) ls (vI (mrS mr) :: st) M Q) : AW mr pc ls (vR nH :: st) M Q := fun P hP => hP.2.2.2.2.2.2.2.2.2.2.2.2.2.2.2.2.2.2.2.2.2.2.2.2.2.2.2.2.2.2.2.2.2.2.2.2.2.2.2.2.2.2.2.2.2.2.1 mr pc ls st M Q  e0 e1 (k0 P hP)
theorem AW.if_eq {mr : MR} {pc : Nat} {ls : Ls} {st : List AV} {M : Mem} {Q : Po} {x off : Int} {tgt : Nat} (e0 : decode (mrB mr) pc = .ok (.ifCond .eq off, 3)) (e1 : (pc : Int) + off = (tgt : Int)) (e2 : InR x) (k0 : x = 0 → AW mr tgt ls st M Q) (k1 : ¬ (x = 0) → AW mr (pc + 3) ls st M Q) : AW mr pc ls (vI x :: st) M Q := fun P hP => hP.2.2.2.2.2.2.2.2.2.2.2.2.2.2.2.2.2.2.2.2.2.2.2.2.2.2.2.2.2.2.2.2.2.2.2.2.2.2.2.2.2.2.2.2.2.2.2.1 mr pc ls st M Q x off tgt e0 e1 e2 (fun hc => k0 hc P hP) (fun hc => k1 hc P hP)
theorem AW.icmp_eq {mr : MR} {pc : Nat} {ls : Ls} {st : List AV} {M : Mem} {Q : Po} {x y off : Int} {tgt : Nat} (e0 : decode (mrB mr) pc = .ok (.if_icmp .eq off, 3)) (e1 : (pc : Int) + off = (tgt : Int)) (e2 : InR x) (e3 : InR y) (k0 : x = y → AW mr tgt ls st M Q) (k1 : ¬ (x = y) → AW mr (pc + 3) ls st M Q) : AW mr pc ls (vI y :: vI x :: st) M Q := fun P hP => hP.2.2.2.2.2.2.2.2.2.2.2.2.2.2.2.2.2.2.2.2.2.2.2.2.2.2.2.2.2.2.2.2.2.2.2.2.2.2.2.2.2.2.2.2.2.2.2.2.1 mr pc ls st M Q x y off tgt e0 e1 e2 e3 (fun hc => k0 hc P hP) (fun hc => k1 hc P hP)
theorem AW.if_ne {mr : MR} {pc : Nat} {ls : Ls} {st : List AV} {M : Mem} {Q : Po} {x off : Int} {tgt : Nat} (e0 : decode (mrB mr) pc = .ok (.ifCond .ne off, 3)) (e1 : (pc : Int) + off = (tgt : Int)) (e2 : InR x) (k0 : x ≠ 0 → AW mr tgt ls st M Q) (k1 : ¬ (x ≠ 0) → AW mr (pc + 3) ls st M Q) : AW mr pc ls (vI x :: st) M Q := fun P hP => hP.2.2.2.2.2.2.2.2.2.2.2.2.2.2.2.2.2.2.2.2.2.2.2.2.2.2.2.2.2.2.2.2.2.2.2.2.2.2.2.2.2.2.2.2.2.2.2.2.2.1 mr pc ls st M Q x off tgt e0 e1 e2 (fun hc => k0 hc P hP) (fun hc => k1 hc P hP)
theorem AW.icmp_ne {mr : MR} {pc : Nat} {ls : Ls} {st : List AV} {M : Mem} {Q : Po} {x y off : Int} {tgt : Nat} (e0 : decode (mrB mr) pc = .ok (.if_icmp .ne off, 3)) (e1 : (pc : Int) + off = (tgt : Int)) (e2 : InR x) (e3 : InR y) (k0 : x ≠ y → AW mr tgt ls st M Q) (k1 : ¬ (x ≠ y) → AW mr (pc + 3) ls st M Q) : AW mr pc ls (vI y :: vI x :: st) M Q := fun P hP => hP.2.2.2.2.2.2.2.2.2.2.2.2.2.2.2.2.2.2.2.2.2.2.2.2.2.2.2.2.2.2.2.2.2.2.2.2.2.2.2.2.2.2.2.2.2.2.2.2.2.2.1 mr pc ls st M Q x y off tgt e0 e1 e2 e3 (fun hc => k0 hc P hP) (fun hc => k1 hc P hP)
theorem AW.if_lt {mr : MR} {pc : Nat} {ls : Ls} {st : List AV} {M : Mem} {Q : Po} {x off : Int} {tgt : Nat} (e0 : decode (mrB mr) pc = .ok (.ifCond .lt off, 3)) (e1 : (pc : Int) + off = (tgt : Int)) (e2 : InR x) (k0 : x < 0 → AW mr tgt ls st M Q) (k1 : ¬ (x < 0) → AW mr (pc + 3) ls st M Q) : AW mr pc ls (vI x :: st) M Q := fun P hP => hP.2.2.2.2.2.2.2.2.2.2.2.2.2.2.2.2.2.2.2.2.2.2.2.2.2.2.2.2.2.2.2.2.2.2.2.2.2.2.2.2.2.2.2.2.2.2.2.2.2.2.2.1 mr pc ls st M Q x off tgt e0 e1 e2 (fun hc => k0 hc P hP) (fun hc => k1 hc P hP)
theorem AW.icmp_lt {mr : MR} {pc : Nat} {ls : Ls} {st : List AV} {M : Mem} {Q : Po} {x y off : Int} {tgt : Nat} (e0 : decode (mrB mr) pc = .ok (.if_icmp .lt off, 3)) (e1 : (pc : Int) + off = (tgt : Int)) (e2 : InR x) (e3 : InR y) (k0 : x < y → AW mr tgt ls st M Q) (k1 : ¬ (x < y) → AW mr (pc + 3) ls st M Q) : AW mr pc ls (vI y :: vI x :: st) M Q := fun P hP => hP.2.2.2.2.2.2.2.2.2.2.2.2.2.2.2.2.2.2.2.2.2.2.2.2.2.2.2.2.2.2.2.2.2.2.2.2.2.2.2.2.2.2.2.2.2.2.2.2.2.2.2.2.1 mr pc ls st M Q x y off tgt e0 e1 e2 e3 (fun hc => k0 hc P hP) (fun hc => k1 hc P hP)
theorem AW.if_ge {mr : MR} {pc : Nat} {ls : Ls} {st : List AV} {M : Mem} {Q : Po} {x off : Int} {tgt : Nat} (e0 : decode (mrB mr) pc = .ok (.ifCond .ge off, 3)) (e1 : (pc : Int) + off = (tgt : Int)) (e2 : InR x) (k0 : x ≥ 0 → AW mr tgt ls st M Q) (k1 : ¬ (x ≥ 0) → AW mr (pc + 3) ls st M Q) : AW mr pc ls (vI x :: st) M Q := fun P hP => hP.2.2.2.2.2.2.2.2.2.2.2.2.2.2.2.2.2.2.2.2.2.2.2.2.2.2.2.2.2.2.2.2.2.2.2.2.2.2.2.2.2.2.2.2.2.2.2.2.2.2.2.2.2.1 mr pc ls st M Q x off tgt e0 e1 e2 (fun hc => k0 hc P hP) (fun hc => k1 hc P hP)
theorem AW.icmp_ge {mr : MR} {pc : Nat} {ls : Ls} {st : List AV} {M : Mem} {Q : Po} {x y off : Int} {tgt : Nat} (e0 : decode (mrB mr) pc = .ok (.if_icmp .ge off, 3)) (e1 : (pc : Int) + off = (tgt : Int)) (e2 : InR x) (e3 : InR y) (k0 : x ≥ y → AW mr tgt ls st M Q) (k1 : ¬ (x ≥ y) → AW mr (pc + 3) ls st M Q) : AW mr pc ls (vI y :: vI x :: st) M Q := fun P hP => hP.2.2.2.2.2.2.2.2.2.2.2.2.2.2.2.2.2.2.2.2.2.2.2.2.2.2.2.2.2.2.2.2.2.2.2.2.2.2.2.2.2.2.2.2.2.2.2.2.2.2.2.2.2.2.1 mr pc ls st M Q x y off tgt e0 e1 e2 e3 (fun hc => k0 hc P hP) (fun hc => k1 hc P hP)
theorem AW.if_gt {mr : MR} {pc : Nat} {ls : Ls} {st : List AV} {M : Mem} {Q : Po} {x off : Int} {tgt : Nat} (e0 : decode (mrB mr) pc = .ok (.ifCond .gt off, 3)) (e1 : (pc : Int) + off = (tgt : Int)) (e2 : InR x) (k0 : x > 0 → AW mr tgt ls st M Q) (k1 : ¬ (x > 0) → AW mr (pc + 3) ls st M Q) : AW mr pc ls (vI x :: st) M Q := fun P hP => hP.2.2.2.2.2.2.2.2.2.2.2.2.2.2.2.2.2.2.2.2.2.2.2.2.2.2.2.2.2.2.2.2.2.2.2.2.2.2.2.2.2.2.2.2.2.2.2.2.2.2.2.2.2.2.2.1 mr pc ls st M Q x off tgt e0 e1 e2 (fun hc => k0 hc P hP) (fun hc => k1 hc P hP)
theorem AW.icmp_gt {mr : MR} {pc : Nat} {ls : Ls} {st : List AV} {M : Mem} {Q : Po} {x y off : Int} {tgt : Nat} (e0 : decode (mrB mr) pc = .ok (.if_icmp .gt off, 3)) (e1 : (pc : Int) + off = (tgt : Int)) (e2 : InR x) (e3 : InR y) (k0 : x > y → AW mr tgt ls st M Q) (k1 : ¬ (x > y) → AW mr (pc + 3) ls st M Q) : AW mr pc ls (vI y :: vI x :: st) M Q := fun P hP => hP.2.2.2.2.2.2.2.2.2.2.2.2.2.2.2.2.2.2.2.2.2.2.2.2.2.2.2.2.2.2.2.2.2.2.2.2.2.2.2.2.2.2.2.2.2.2.2.2.2.2.2.2.2.2.2.2.1 mr pc ls st M Q x y off tgt e0 e1 e2 e3 (fun hc => k0 hc P hP) (fun hc => k1 hc P hP)
theorem AW.if_le {mr : MR} {pc : Nat} {ls : Ls} {st : List AV} {M : Mem} {Q : Po} {x off : Int} {tgt : Nat} (e0 : decode (mrB mr) pc = .ok (.ifCond .le off, 3)) (e1 : (pc : Int) + off = (tgt : Int)) (e2 : InR x) (k0 : x ≤ 0 → AW mr tgt ls st M Q) (k1 : ¬ (x ≤ 0) → AW mr (pc + 3) ls st M Q) : AW mr pc ls (vI x :: st) M Q := fun P hP => hP.2.2.2.2.2.2.2.2.2.2.2.2.2.2.2.2.2.2.2.2.2.2.2.2.2.2.2.2.2.2.2.2.2.2.2.2.2.2.2.2.2.2.2.2.2.2.2.2.2.2.2.2.2.2.2.2.2.1 mr pc ls st M Q x off tgt e0 e1 e2 (fun hc => k0 hc P hP) (fun hc => k1 hc P hP)
theorem AW.icmp_le {mr : MR} {pc : Nat} {ls : Ls} {st : List AV} {M : Mem} {Q : Po} {x y off : Int} {tgt : Nat} (e0 : decode (mrB mr) pc = .ok (.if_icmp .le off, 3)) (e1 : (pc : Int) + off = (tgt : Int)) (e2 : InR x) (e3 : InR y) (k0 : x ≤ y → AW mr tgt ls st M Q) (k1 : ¬ (x ≤ y) → AW mr (pc + 3) ls st M Q) : AW mr pc ls (vI y :: vI x :: st) M Q := fun P hP => hP.2.2.2.2.2.2.2.2.2.2.2.2.2.2.2.2.2.2.2.2.2.2.2.2.2.2.2.2.2.2.2.2.2.2.2.2.2.2.2.2.2.2.2.2.2.2.2.2.2.2.2.2.2.2.2.2.2.2.1 mr pc ls st M Q x y off tgt e0 e1 e2 e3 (fun hc => k0 hc P hP) (fun hc => k1 hc P hP)
theorem AW.goto {mr : MR} {pc : Nat} {ls : Ls} {st : List AV} {M : Mem} {Q : Po} {off : Int} {tgt : Nat} (e0 : decode (mrB mr) pc = .ok (.goto off, 3)) (e1 : (pc : Int) + off = (tgt : Int)) (k0 : AW mr tgt ls st M Q) : AW mr pc ls st M Q := fun P hP => hP.2.2.2.2.2.2.2.2.2.2.2.2.2.2.2.2.2.2.2.2.2.2.2.2.2.2.2.2.2.2.2.2.2.2.2.2.2.2.2.2.2.2.2.2.2.2.2.2.2.2.2.2.2.2.2.2.2.2.2.1 mr pc ls st M Q off tgt e0 e1 (k0 P hP)
theorem AW.tblO {mr : MR} {pc : Nat} {ls : Ls} {st : List AV} {M : Mem} {Q : Po} {x dflt lo hi : Int} {offs : Array Int} {len tgt : Nat} (e0 : decode (mrB mr) pc = .ok (.tableswitch dflt lo hi offs, len)) (e1 : InR x) (e2 : x < lo ∨ hi < x) (e3 : (pc : Int) + dflt = (tgt : Int)) (k0 : AW mr tgt ls st M Q) : AW mr pc ls (vI x :: st) M Q := fun P hP => hP.2.2.2.2.2.2.2.2.2.2.2.2.2.2.2.2.2.2.2.2.2.2.2.2.2.2.2.2.2.2.2.2.2.2.2.2.2.2.2.2.2.2.2.2.2.2.2.2.2.2.2.2.2.2.2.2.2.2.2.2.1 mr pc ls st M Q x dflt lo hi offs len tgt e0 e1 e2 e3 (k0 P hP)
theorem AW.tblI {mr : MR} {pc : Nat} {ls : Ls} {st : List AV} {M : Mem} {Q : Po} {x dflt lo hi off : Int} {offs : Array Int} {len tgt : Nat} (e0 : decode (mrB mr) pc = .ok (.tableswitch dflt lo hi offs, len)) (e1 : InR x) (e2 : ¬ x < lo) (e3 : ¬ hi < x) (e4 : offs[(x - lo).toNat]? = some off) (e5 : (pc : Int) + off = (tgt : Int)) (k0 : AW mr tgt ls st M Q) : AW mr pc ls (vI x :: st) M Q := fun P hP => hP.2.2.2.2.2.2.2.2.2.2.2.2.2.2.2.2.2.2.2.2.2.2.2.2.2.2.2.2.2.2.2.2.2.2.2.2.2.2.2.2.2.2.2.2.2.2.2.2.2.2.2.2.2.2.2.2.2.2.2.2.2.1 mr pc ls st M Q x dflt lo hi off offs len tgt e0 e1 e2 e3 e4 e5 (k0 P hP)
theorem AW.vret {mr : MR} {pc : Nat} {ls : Ls} {st : List AV} {M : Mem} {Q : Po}  (e0 : decode (mrB mr) pc = .ok (.return_, 1)) (e1 : mrT mr = none) (e2 : Q none M)  : AW mr pc ls [] M Q := fun P hP => hP.2.2.2.2.2.2.2.2.2.2.2.2.2.2.2.2.2.2.2.2.2.2.2.2.2.2.2.2.2.2.2.2.2.2.2.2.2.2.2.2.2.2.2.2.2.2.2.2.2.2.2.2.2.2.2.2.2.2.2.2.2.2.1 mr pc ls st M Q  e0 e1 e2 
theorem AW.iret {mr : MR} {pc : Nat} {ls : Ls} {st : List AV} {M : Mem} {Q : Po} {x : Int} (e0 : decode (mrB mr) pc = .ok (.ireturn, 1)) (e1 : mrT mr = some .int) (e2 : Q (some (vI x)) M)  : AW mr pc ls [vI x] M Q := fun P hP => hP.2.2.2.2.2.2.2.2.2.2.2.2.2.2.2.2.2.2.2.2.2.2.2.2.2.2.2.2.2.2.2.2.2.2.2.2.2.2.2.2.2.2.2.2.2.2.2.2.2.2.2.2.2.2.2.2.2.2.2.2.2.2.2.1 mr pc ls st M Q x e0 e1 e2 
theorem AW.zret {mr : MR} {pc : Nat} {ls : Ls} {st : List AV} {M : Mem} {Q : Po} {x : Int} (e0 : decode (mrB mr) pc = .ok (.ireturn, 1)) (e1 : mrT mr = some .boolean) (e2 : x = 0 ∨ x = 1) (e3 : Q (some (vI x)) M)  : AW mr pc ls [vI x] M Q := fun P hP => hP.2.2.2.2.2.2.2.2.2.2.2.2.2.2.2.2.2.2.2.2.2.2.2.2.2.2.2.2.2.2.2.2.2.2.2.2.2.2.2.2.2.2.2.2.2.2.2.2.2.2.2.2.2.2.2.2.2.2.2.2.2.2.2.2.1 mr pc ls st M Q x e0 e1 e2 e3 
theorem AW.callV {mr : MR} {pc : Nat} {ls : Ls} {st : List AV} {M : Mem} {Q : Po} {h : Nat} {fs : List (Option Nat)} {cm : MR} {ix : Nat} {As : List AV} {Q1 : Po} (e0 : decode (mrB mr) pc = .ok (.invokevirtual ix, 3)) (e1 : CallV (mrC mr) ix cm As.length) (e2 : kd h = (3, mrC cm, fs)) (e3 : h < nH) (e4 : mrF cm + 1 ≤ mrF mr ∧ 8 + (mrN cm + 11) + mrL cm ≤ mrL mr) (e5 : (entS (vR h :: As)).length ≤ mrN cm) (e6 : wt st ≤ 8) (k1 : AW cm 0 (entL (vR h :: As) (mrN cm)) [] M Q1) (k2 : ∀ (r : Option AV) (M1 : Mem), Q1 r M1 → AW mr (pc + 3) ls (r.toList ++ st) M1 Q) : AW mr pc ls (As.reverse ++ vR h :: st) M Q := fun P hP => hP.2.2.2.2.2.2.2.2.2.2.2.2.2.2.2.2.2.2.2.2.2.2.2.2.2.2.2.2.2.2.2.2.2.2.2.2.2.2.2.2.2.2.2.2.2.2.2.2.2.2.2.2.2.2.2.2.2.2.2.2.2.2.2.2.2.1 mr pc ls st M Q h fs cm ix As Q1 e0 e1 e2 e3 e4 e5 e6 (k1 P hP) (fun r M1 hq => k2 r M1 hq P hP)
theorem AW.callS {mr : MR} {pc : Nat} {ls : Ls} {st : List AV} {M : Mem} {Q : Po} {cm : MR} {ix : Nat} {As : List AV} {Q1 : Po} (e0 : decode (mrB mr) pc = .ok (.invokestatic ix, 3)) (e1 : CallS (mrC mr) ix cm As.length) (e2 : mrF cm + 1 ≤ mrF mr ∧ 8 + (mrN cm + 11) + mrL cm ≤ mrL mr) (e3 : (entS As).length ≤ mrN cm) (e4 : wt st ≤ 8) (k1 : AW cm 0 (entL As (mrN cm)) [] M Q1) (k2 : ∀ (r : Option AV) (M1 : Mem), Q1 r M1 → AW mr (pc + 3) ls (r.toList ++ st) M1 Q) : AW mr pc ls (As.reverse ++ st) M Q := fun P hP => hP.2.2.2.2.2.2.2.2.2.2.2.2.2.2.2.2.2.2.2.2.2.2.2.2.2.2.2.2.2.2.2.2.2.2.2.2.2.2.2.2.2.2.2.2.2.2.2.2.2.2.2.2.2.2.2.2.2.2.2.2.2.2.2.2.2.2.1 mr pc ls st M Q cm ix As Q1 e0 e1 e2 e3 e4 (k1 P hP) (fun r M1 hq => k2 r M1 hq P hP)
theorem AW.callN {mr : MR} {pc : Nat} {ls : Ls} {st : List AV} {M : Mem} {Q : Po} {cm : MR} {ix : Nat} {As : List AV} {Q1 : Po} (e0 : decode (mrB mr) pc = .ok (.invokestatic ix, 3)) (e1 : CallN (mrC mr) ix cm As.length) (e2 : mrF cm + 1 ≤ mrF mr ∧ 8 + (mrN cm + 11) + mrL cm ≤ mrL mr) (e3 : (entS As).length ≤ mrN cm) (e4 : wt st ≤ 8) (k1 : AW cm 0 (entL As (mrN cm)) [] M Q1) (k2 : ∀ (r : Option AV) (M1 : Mem), Q1 r M1 → AW mr (pc + 3) ls (r.toList ++ st) M1 Q) : AW mr pc ls (As.reverse ++ st) M Q := fun P hP => hP.2.2.2.2.2.2.2.2.2.2.2.2.2.2.2.2.2.2.2.2.2.2.2.2.2.2.2.2.2.2.2.2.2.2.2.2.2.2.2.2.2.2.2.2.2.2.2.2.2.2.2.2.2.2.2.2.2.2.2.2.2.2.2.2.2.2.2.1 mr pc ls st M Q cm ix As Q1 e0 e1 e2 e3 e4 (k1 P hP) (fun r M1 hq => k2 r M1 hq P hP)
theorem AW.callF {mr : MR} {pc : Nat} {ls : Ls} {st : List AV} {M : Mem} {Q : Po} {h ct : Nat} {fs : List (Option Nat)} {cm : MR} {ix : Nat} {As : List AV} {Q1 : Po} (e0 : decode (mrB mr) pc = .ok (.invokeinterface ix ct, 5)) (e1 : CallF (mrC mr) ix cm As.length) (e2 : kd h = (3, mrC cm, fs)) (e3 : h < nH) (e4 : mrF cm + 1 ≤ mrF mr ∧ 8 + (mrN cm + 11) + mrL cm ≤ mrL mr) (e5 : (entS (vR h :: As)).length ≤ mrN cm) (e6 : wt st ≤ 8) (k1 : AW cm 0 (entL (vR h :: As) (mrN cm)) [] M Q1) (k2 : ∀ (r : Option AV) (M1 : Mem), Q1 r M1 → AW mr (pc + 5) ls (r.toList ++ st) M1 Q) : AW mr pc ls (As.reverse ++ vR h :: st) M Q := fun P hP => hP.2.2.2.2.2.2.2.2.2.2.2.2.2.2.2.2.2.2.2.2.2.2.2.2.2.2.2.2.2.2.2.2.2.2.2.2.2.2.2.2.2.2.2.2.2.2.2.2.2.2.2.2.2.2.2.2.2.2.2.2.2.2.2.2.2.2.2.2.1 mr pc ls st M Q h ct fs cm ix As Q1 e0 e1 e2 e3 e4 e5 e6 (k1 P hP) (fun r M1 hq => k2 r M1 hq P hP)
theorem AW.copy {mr : MR} {pc : Nat} {ls : Ls} {st : List AV} {M : Mem} {Q : Po} {ix h0 h1 n0 n1 : Nat} {sp dp n : Int} (e0 : decode (mrB mr) pc = .ok (.invokestatic ix, 3)) (e1 : Cond.methodLink (cn (mrC mr)) ix arraycopyName ∈ lw_good) (e2 : kd h0 = (0, n0, [])) (e3 : kd h1 = (0, n1, [])) (e4 : h0 < nH) (e5 : h1 < nH) (e6 : 0 ≤ sp ∧ 0 ≤ dp ∧ 0 ≤ n ∧ sp + n ≤ n0 ∧ dp + n ≤ n1) (e7 : 1 ≤ mrF mr) (e8 : 8 + (nativeFrameWords "java/lang/System" "arraycopy" 5 + 11) ≤ mrL mr) (e9 : wt st ≤ 8) (k0 : AW mr (pc + 3) ls st (cpy M h0 h1 sp dp n) Q) : AW mr pc ls (vI n :: vI dp :: vR h1 :: vI sp :: vR h0 :: st) M Q := fun P hP => hP.2.2.2.2.2.2.2.2.2.2.2.2.2.2.2.2.2.2.2.2.2.2.2.2.2.2.2.2.2.2.2.2.2.2.2.2.2.2.2.2.2.2.2.2.2.2.2.2.2.2.2.2.2.2.2.2.2.2.2.2.2.2.2.2.2.2.2.2.2.1 mr pc ls st M Q ix h0 h1 n0 n1 sp dp n e0 e1 e2 e3 e4 e5 e6 e7 e8 e9 (k0 P hP)
theorem AW.mmax {mr : MR} {pc : Nat} {ls : Ls} {st : List AV} {M : Mem} {Q : Po} {ix : Nat} {x y : Int} (e0 : decode (mrB mr) pc = .ok (.invokestatic ix, 3)) (e1 : Cond.methodLink (cn (mrC mr)) ix Lib.Math.max.name ∈ lw_good) (e2 : 1 ≤ mrF mr) (e3 : 8 + 13 ≤ mrL mr) (e4 : wt st ≤ 8) (e5 : InR x) (e6 : InR y) (k0 : AW mr (pc + 3) ls (vI (if x < y then y else x) :: st) M Q) : AW mr pc ls (vI y :: vI x :: st) M Q := fun P hP => hP.2.2.2.2.2.2.2.2.2.2.2.2.2.2.2.2.2.2.2.2.2.2.2.2.2.2.2.2.2.2.2.2.2.2.2.2.2.2.2.2.2.2.2.2.2.2.2.2.2.2.2.2.2.2.2.2.2.2.2.2.2.2.2.2.2.2.2.2.2.2.1 mr pc ls st M Q ix x y e0 e1 e2 e3 e4 e5 e6 (k0 P hP)
theorem AW.mmin {mr : MR} {pc : Nat} {ls : Ls} {st : List AV} {M : Mem} {Q : Po} {ix : Nat} {x y : Int} (e0 : decode (mrB mr) pc = .ok (.invokestatic ix, 3)) (e1 : Cond.methodLink (cn (mrC mr)) ix Lib.Math.min.name ∈ lw_good) (e2 : 1 ≤ mrF mr) (e3 : 8 + 13 ≤ mrL mr) (e4 : wt st ≤ 8) (e5 : InR x) (e6 : InR y) (k0 : AW mr (pc + 3) ls (vI (if y < x then y else x) :: st) M Q) : AW mr pc ls (vI y :: vI x :: st) M Q := fun P hP => hP.2.2.2.2.2.2.2.2.2.2.2.2.2.2.2.2.2.2.2.2.2.2.2.2.2.2.2.2.2.2.2.2.2.2.2.2.2.2.2.2.2.2.2.2.2.2.2.2.2.2.2.2.2.2.2.2.2.2.2.2.2.2.2.2.2.2.2.2.2.2.2.1 mr pc ls st M Q ix x y e0 e1 e2 e3 e4 e5 e6 (k0 P hP)
theorem AW.weak {mr : MR} {pc : Nat} {ls : Ls} {st : List AV} {M : Mem} {Q : Po} {ls2 : Ls} (e0 : lsub ls2 ls) (k0 : AW mr pc ls2 st M Q) : AW mr pc ls st M Q := fun P hP => hP.2.2.2.2.2.2.2.2.2.2.2.2.2.2.2.2.2.2.2.2.2.2.2.2.2.2.2.2.2.2.2.2.2.2.2.2.2.2.2.2.2.2.2.2.2.2.2.2.2.2.2.2.2.2.2.2.2.2.2.2.2.2.2.2.2.2.2.2.2.2.2.2 mr pc ls st M Q ls2 e0 (k0 P hP)
/-- a call whose answer is an int; one that answers nothing -/
def QI (K : Int → Mem → Prop) : Po := fun r M1 => ∃ x : Int, r = some (vI x) ∧ K x M1
def QV (K : Mem → Prop) : Po := fun r M1 => r = none ∧ K M1
def CI (cm : MR) (As : List AV) (M : Mem) (K : Int → Mem → Prop) : Prop := AW cm 0 (entL As (mrN cm)) [] M (QI K)
def CV (cm : MR) (As : List AV) (M : Mem) (K : Mem → Prop) : Prop := AW cm 0 (entL As (mrN cm)) [] M (QV K)
theorem lcm_gt {x y : Int} : (if x > y then (1 : Int) else if x = y then 0 else -1) > 0 ↔ x > y := by repeat' split <;> omega
theorem lcm_le {x y : Int} : (if x > y then (1 : Int) else if x = y then 0 else -1) ≤ 0 ↔ x ≤ y := by repeat' split <;> omega
theorem lcm_ge {x y : Int} : (if x > y then (1 : Int) else if x = y then 0 else -1) ≥ 0 ↔ x ≥ y := by repeat' split <;> omega
theorem lcm_lt {x y : Int} : (if x > y then (1 : Int) else if x = y then 0 else -1) < 0 ↔ x < y := by repeat' split <;> omega
theorem lcm_eq {x y : Int} : (if x > y then (1 : Int) else if x = y then 0 else -1) = 0 ↔ x = y := by repeat' split <;> omega
theorem lcm_ne {x y : Int} : (if x > y then (1 : Int) else if x = y then 0 else -1) ≠ 0 ↔ x ≠ y := by repeat' split <;> omega
theorem lcm_in {x y : Int} : InR (if x > y then (1 : Int) else if x = y then 0 else -1) := by repeat' split <;> omega
end
section
/-! THE ABSTRACT MACHINE'S WORLD ON THE REAL HEAP -/
def ce (ad : Nat → Nat) (cs : ClassId × ClassId × ClassId) (M : Mem) (h : Nat) : va_E :=
  if (kd h).1 = 0 then .inl (cs.1, (kd h).2.1, .inl (fun j => Int32.ofInt (M h j)))
  else if (kd h).1 = 1 then .inl (cs.2.1, (kd h).2.1, .inl (fun j => Int32.ofInt (M h j)))
  else if (kd h).1 = 2 then .inl (cs.2.2, (kd h).2.1, .inr (.inl (fun j => Int64.ofInt (M h j))))
  else .inr ((kd h).2.1, (kd h).2.2.mapIdx (fun k o => match o with | some h2 => .ref (ad h2) | none => .int (Int32.ofInt (M h k))))
def wsOf (ad : Nat → Nat) (cs : ClassId × ClassId × ClassId) (M : Mem) : va_W := (List.range nH).map (fun h => (ad h, ce ad cs M h))
theorem wsOf_get {ad : Nat → Nat} {cs : ClassId × ClassId × ClassId} {M : Mem} {h : Nat} (hh : h < nH) : (wsOf ad cs M)[h]? = some (ad h, ce ad cs M h) := by
  simp [wsOf, hh]
theorem ce_congr {ad : Nat → Nat} {cs : ClassId × ClassId × ClassId} {M M' : Mem} {h : Nat} (e : M' h = M h) : ce ad cs M' h = ce ad cs M h := by
  unfold ce
  rw [e]
theorem wsOf_set {ad : Nat → Nat} {cs : ClassId × ClassId × ClassId} {M M' : Mem} {h : Nat} {e : va_E} (hh : h < nH) (hne : ∀ h', h' ≠ h → M' h' = M h') (he : ce ad cs M' h = e) : (wsOf ad cs M).set h (ad h, e) = wsOf ad cs M' := by
  have hl : h < (wsOf ad cs M).length := by simp [wsOf, hh]
  apply List.ext_getElem?
  intro k
  by_cases hk : k = h
  · subst hk
    rw [List.getElem?_set_self hl, wsOf_get hh, he]
  · rw [List.getElem?_set_ne (Ne.symm hk)]
    by_cases hkn : k < nH
    · rw [wsOf_get hkn, wsOf_get hkn, ce_congr (hne k hk)]
    · rw [List.getElem?_eq_none (by simp [wsOf]; omega), List.getElem?_eq_none (by simp [wsOf]; omega)]
theorem ce_0 {ad : Nat → Nat} {cs : ClassId × ClassId × ClassId} {M : Mem} {h n : Nat} (hk : kd h = (0, n, [])) : ce ad cs M h = .inl (cs.1, n, .inl (fun j => Int32.ofInt (M h j))) := by simp [ce, hk]
theorem ce_1 {ad : Nat → Nat} {cs : ClassId × ClassId × ClassId} {M : Mem} {h n : Nat} (hk : kd h = (1, n, [])) : ce ad cs M h = .inl (cs.2.1, n, .inl (fun j => Int32.ofInt (M h j))) := by simp [ce, hk]
theorem ce_2 {ad : Nat → Nat} {cs : ClassId × ClassId × ClassId} {M : Mem} {h n : Nat} (hk : kd h = (2, n, [])) : ce ad cs M h = .inl (cs.2.2, n, .inr (.inl (fun j => Int64.ofInt (M h j)))) := by simp [ce, hk]
abbrev fv (ad : Nat → Nat) (M : Mem) (h : Nat) (fs : List (Option Nat)) : List Value := fs.mapIdx (fun k o => match o with | some h2 => .ref (ad h2) | none => .int (Int32.ofInt (M h k)))
theorem ce_3 {ad : Nat → Nat} {cs : ClassId × ClassId × ClassId} {M : Mem} {h ci : Nat} {fs : List (Option Nat)} (hk : kd h = (3, ci, fs)) : ce ad cs M h = .inr (ci, fv ad M h fs) := by simp [ce, hk]
theorem kd_small : ∀ h, (kd h).2.1 < 2147483648 := by
  intro h
  by_cases hh : h < 85
  · revert h
    decide +kernel
  · have hl : kdT.length = 85 := by decide +kernel
    have e : kd h = (9, 0, []) := by
      unfold kd
      rw [List.getD_eq_getElem?_getD, List.getElem?_eq_none (by omega)]
      rfl
    rw [e]
    decide
theorem kd_n {h t n : Nat} {fs : List (Option Nat)} (hk : kd h = (t, n, fs)) : n < 2147483648 := by
  have := kd_small h
  rw [hk] at this
  exact this
def DA (ad : Nat → Nat) (A : Nat → Prop) : Prop := (∀ i j, i < nH → j < nH → ad i = ad j → i = j) ∧ ∀ h, h < nH → A (ad h)
theorem DA.D {ad : Nat → Nat} {A : Nat → Prop} (h : DA ad A) {cs : ClassId × ClassId × ClassId} {M : Mem} : va_D A (wsOf ad cs M) := by
  have key : ∀ (k : Nat) (q : Nat × va_E), (wsOf ad cs M)[k]? = some q → k < nH ∧ q.1 = ad k := by
    intro k q hk
    have hl : k < nH := by
      have := (List.getElem?_eq_some_iff.mp hk).1
      simpa [wsOf] using this
    rw [wsOf_get hl] at hk
    cases hk
    exact ⟨hl, rfl⟩
  refine ⟨fun i j p q hi hj hpq => ?_, fun k q hk => ?_⟩
  · obtain ⟨a1, a2⟩ := key i p hi
    obtain ⟨b1, b2⟩ := key j q hj
    exact h.1 i j a1 b1 (by rw [← a2, ← b2]; exact hpq)
  · obtain ⟨a1, a2⟩ := key k q hk
    rw [a2]
    exact h.2 k a1
def tysOf (cs : ClassId × ClassId × ClassId) : List (ClassId × FieldType) := [(cs.1, .int), (cs.2.1, .boolean), (cs.2.2, .long)]
/-- what of the tables a world holds -/
def Wo (Dd : va_G) (cs : ClassId × ClassId × ClassId) (U : State) : Prop := va_K Dd classes (tysOf cs) U ∧ (∀ w ∈ NWs, va_Nw (.methodLinkNest w.1 w.2.1 w.2.2 nHost) U) ∧ ∀ f ∈ FWs, va_Fw f.1 f.2.1 f.2.2 U
theorem FWs_ok : ∀ f ∈ FWs, f.2.1.cls ≠ "java/lang/invoke/MethodHandle" ∧ f.2.1.cls ≠ "java/lang/invoke/VarHandle" := by decide +kernel
theorem Wo.warm {Dd : va_G} {cs : ClassId × ClassId × ClassId} {s U : State} (hW : s.WarmedH U.vm) (h : Wo Dd cs s) : Wo Dd cs U :=
  ⟨va_K.moved hW.alike h.1, fun w hw => va_Nw.warmM hW (h.2.1 w hw), fun f hf => va_Fw.moved (FWs_ok f hf) hW.alike (h.2.2 f hf)⟩
theorem Wo.same {Dd : va_G} {cs : ClassId × ClassId × ClassId} {s U : State} (e : s.vm = U.vm) (h : Wo Dd cs s) : Wo Dd cs U :=
  ⟨va_K.moved (e ▸ Vm.Alike.refl s.vm) h.1, fun w hw => va_Nw.same rfl e (h.2.1 w hw), fun f hf => va_Fw.moved (FWs_ok f hf) (e ▸ Vm.Alike.refl s.vm) (h.2.2 f hf)⟩
/-! locals -/
def LR (ad : Nat → Nat) (la : Array Slot) (n : Nat) (ls : Ls) : Prop := la.size = n ∧ lv_wf la ∧ ∀ (i : Nat) (v : AV), ls[i]? = some (some v) → la[i]? = some (.val (cv ad v))
def asc (ad : Nat → Nat) (ls : Ls) : List (Nat × Value) := (List.range ls.length).filterMap (fun i => match ls[i]? with | some (some v) => some (i, cv ad v) | _ => none)
theorem asc_mem {ad : Nat → Nat} {ls : Ls} {i : Nat} {v : AV} (h : ls[i]? = some (some v)) : (i, cv ad v) ∈ asc ad ls := by
  refine List.mem_filterMap.mpr ⟨i, List.mem_range.mpr (List.getElem?_eq_some_iff.mp h).1, ?_⟩
  rw [h]
theorem asc_of {ad : Nat → Nat} {ls : Ls} {q : Nat × Value} (h : q ∈ asc ad ls) : ∃ v : AV, ls[q.1]? = some (some v) ∧ q.2 = cv ad v := by
  obtain ⟨i, -, h2⟩ := List.mem_filterMap.mp h
  cases e : ls[i]? with
  | none => rw [e] at h2; cases h2
  | some o =>
    cases o with
    | none => rw [e] at h2; cases h2
    | some v => rw [e] at h2; cases h2; exact ⟨v, e, rfl⟩
theorem LR.has {ad : Nat → Nat} {la : Array Slot} {n : Nat} {ls : Ls} (h : LR ad la n ls) : lv_has la n (asc ad ls) := ⟨h.1, h.2.1, fun q hq => by
  obtain ⟨v, h1, h2⟩ := asc_of hq
  rw [h2]
  exact h.2.2 _ _ h1⟩
theorem cat_cv (ad : Nat → Nat) (v : AV) : (cv ad v).category = if cat1 v then 1 else 2 := by
  rcases v with x | x | h <;> rfl
theorem setL_get (ls : Ls) : ∀ (i j : Nat) (v : Option AV) (w : AV), (setL ls i v)[j]? = some (some w) → (j = i ∧ v = some w) ∨ (j ≠ i ∧ ls[j]? = some (some w) ∧ ¬ (j + 1 = i ∧ cat1 w = false)) := by
  induction ls with
  | nil => intro i j v w h; cases i <;> simp [setL] at h
  | cons a t ih =>
    intro i j v w h
    match i with
    | 0 =>
      simp only [setL] at h
      cases j with
      | zero => simp at h; exact Or.inl ⟨rfl, h⟩
      | succ j => rw [List.getElem?_cons_succ] at h ⊢; exact Or.inr ⟨by omega, h, by omega⟩
    | 1 =>
      simp only [setL] at h
      cases j with
      | zero =>
        rw [List.getElem?_cons_zero] at h
        refine Or.inr ⟨by omega, ?_, ?_⟩
        · rw [List.getElem?_cons_zero]
          revert h
          split
          · intro h; cases h
          · exact id
        · rintro ⟨-, hw⟩
          revert h
          split
          · intro h; cases h
          · rename_i hn
            intro h
            cases h
            rcases w with x | x | x
            · cases hw
            · exact hn x rfl
            · cases hw
      | succ j =>
        rw [List.getElem?_cons_succ] at h ⊢
        rcases ih 0 j v w h with ⟨h1, h2⟩ | ⟨h1, h2, h3⟩
        · exact Or.inl ⟨by omega, h2⟩
        · exact Or.inr ⟨by omega, h2, by omega⟩
    | i + 2 =>
      simp only [setL] at h
      cases j with
      | zero => rw [List.getElem?_cons_zero] at h ⊢; exact Or.inr ⟨by omega, h, by omega⟩
      | succ j =>
        rw [List.getElem?_cons_succ] at h ⊢
        rcases ih (i + 1) j v w h with ⟨h1, h2⟩ | ⟨h1, h2, h3⟩
        · exact Or.inl ⟨by omega, h2⟩
        · exact Or.inr ⟨by omega, h2, fun q => h3 ⟨by omega, q.2⟩⟩
theorem LR.store {ad : Nat → Nat} {la : Array Slot} {n i : Nat} {ls : Ls} {v : AV} (h : lv_has la n ((i, cv ad v) :: (asc ad ls).filter (fun q => !(q.1 == i) && !(q.1 + 1 == i && q.2.category == 2)))) : LR ad la n (setL ls i (some v)) := by
  refine ⟨h.1, h.2.1, fun j w hw => ?_⟩
  rcases setL_get ls i j (some v) w hw with ⟨h1, h2⟩ | ⟨h1, h2, h3⟩
  · subst h1
    cases h2
    exact h.2.2 (j, cv ad v) List.mem_cons_self
  · refine h.2.2 (j, cv ad w) (List.mem_cons_of_mem _ (List.mem_filter.mpr ⟨asc_mem h2, ?_⟩))
    simp only [Bool.and_eq_true, Bool.not_eq_true', beq_eq_false_iff_ne, Bool.and_eq_false_iff, cat_cv]
    refine ⟨h1, ?_⟩
    by_cases e : j + 1 = i
    · right
      cases hc : cat1 w
      · exact absurd ⟨e, hc⟩ h3
      · simp
    · left
      exact e
theorem LR.store2 {ad : Nat → Nat} {la : Array Slot} {n i : Nat} {ls : Ls} {v : AV} (h : lv_has la n ((i, cv ad v) :: (asc ad ls).filter (fun q => !(q.1 == i) && (!(q.1 == i + 1) && !(q.1 + 1 == i && q.2.category == 2))))) : LR ad la n (setL2 ls i (some v)) := by
  refine ⟨h.1, h.2.1, fun j w hw => ?_⟩
  rcases setL_get _ i j (some v) w hw with ⟨h1, h2⟩ | ⟨h1, h2, h3⟩
  · subst h1
    cases h2
    exact h.2.2 (j, cv ad v) List.mem_cons_self
  · rcases setL_get ls (i + 1) j none w h2 with ⟨g1, g2⟩ | ⟨g1, g2, g3⟩
    · cases g2
    · refine h.2.2 (j, cv ad w) (List.mem_cons_of_mem _ (List.mem_filter.mpr ⟨asc_mem g2, ?_⟩))
      simp only [Bool.and_eq_true, Bool.not_eq_true', beq_eq_false_iff_ne, Bool.and_eq_false_iff, cat_cv]
      refine ⟨h1, g1, ?_⟩
      by_cases e : j + 1 = i
      · right
        cases hc : cat1 w
        · exact absurd ⟨e, hc⟩ h3
        · simp
      · left
        exact e
theorem entS_sl (ad : Nat → Nat) (As : List AV) : (entS As).length = (lg_sl (As.map (cv ad))).length ∧ ∀ (i : Nat) (v : AV), (entS As)[i]? = some (some v) → (lg_sl (As.map (cv ad)))[i]? = some (.val (cv ad v)) := by
  induction As with
  | nil => exact ⟨rfl, fun i v h => by simp [entS] at h⟩
  | cons a t ih =>
    have e1 : entS (a :: t) = (if cat1 a then [some a] else [some a, none]) ++ entS t := by simp [entS]
    have e2 : lg_sl ((a :: t).map (cv ad)) = (if (cv ad a).category = 2 then [.val (cv ad a), .second] else [.val (cv ad a)]) ++ lg_sl (t.map (cv ad)) := by simp [lg_sl]
    rw [e1, e2, cat_cv]
    cases hc : cat1 a
    · simp only [Bool.false_eq_true, if_false, if_true]
      refine ⟨by simp [ih.1], fun i v h => ?_⟩
      match i with
      | 0 => simp at h ⊢; rw [h]
      | 1 => simp at h
      | i + 2 => simp at h ⊢; exact ih.2 i v h
    · simp only [if_true]
      refine ⟨by simp [ih.1], fun i v h => ?_⟩
      match i with
      | 0 => simp at h ⊢; rw [h]
      | i + 1 => simp at h ⊢; exact ih.2 i v h
theorem LR.entry {ad : Nat → Nat} {As : List AV} {n : Nat} (h : (entS As).length ≤ n) : LR ad ((lg_sl (As.map (cv ad)) ++ List.replicate (n - (lg_sl (As.map (cv ad))).length) Slot.unset).toArray) n (entL As n) := by
  obtain ⟨e1, e2⟩ := entS_sl ad As
  have hl := lv_entry (As.map (cv ad)) (n := n) (by rw [← e1]; exact h)
  refine ⟨hl.1, hl.2.1, fun i v hv => ?_⟩
  unfold entL at hv
  by_cases hi : i < (entS As).length
  · rw [List.getElem?_append_left hi] at hv
    have := e2 i v hv
    simp only [List.getElem?_toArray]
    rw [List.getElem?_append_left (by rw [← e1]; exact hi)]
    exact this
  · rw [List.getElem?_append_right (by omega)] at hv
    have hm := List.mem_of_getElem? hv
    rw [List.mem_replicate] at hm
    cases hm.2
theorem lsub_get : ∀ (a b : Ls), lsub a b → ∀ (i : Nat) (v : AV), a[i]? = some (some v) → b[i]? = some (some v)
  | [], _, _, i, v, h => by simp at h
  | none :: a, w :: b, hs, 0, v, h => by simp at h
  | none :: a, w :: b, hs, i + 1, v, h => by
    rw [List.getElem?_cons_succ] at h ⊢
    exact lsub_get a b hs i v h
  | none :: a, [], hs, 0, v, h => by simp at h
  | none :: a, [], hs, i + 1, v, h => by
    rw [List.getElem?_cons_succ] at h
    have := lsub_get a [] hs i v h
    simp at this
  | some u :: a, w :: b, hs, 0, v, h => by
    rw [List.getElem?_cons_zero] at h ⊢
    rw [hs.1]
    exact h
  | some u :: a, w :: b, hs, i + 1, v, h => by
    rw [List.getElem?_cons_succ] at h ⊢
    exact lsub_get a b hs.2 i v h
theorem good_all {ws : List Cond} (h : ∀ w ∈ ws, w ∈ lw_good) : GoodIn lw_good ws := fun w hw => ⟨h w hw, good_of_word (List.mem_filter.mp (h w hw)).2⟩
theorem cls_cn : ∀ ci, ci < 12 → ∃ (T : u_T) (N : Nat), classes[ci]? = some (cn ci, T, N) := by
  intro ci h
  match ci, h with
  | 0, _ => exact ⟨_, _, rfl⟩
  | 1, _ => exact ⟨_, _, rfl⟩
  | 2, _ => exact ⟨_, _, rfl⟩
  | 3, _ => exact ⟨_, _, rfl⟩
  | 4, _ => exact ⟨_, _, rfl⟩
  | 5, _ => exact ⟨_, _, rfl⟩
  | 6, _ => exact ⟨_, _, rfl⟩
  | 7, _ => exact ⟨_, _, rfl⟩
  | 8, _ => exact ⟨_, _, rfl⟩
  | 9, _ => exact ⟨_, _, rfl⟩
  | 10, _ => exact ⟨_, _, rfl⟩
  | 11, _ => exact ⟨_, _, rfl⟩
  | n + 12, h => omega
end
section
/-! EVERY RULE OF THE ABSTRACT MACHINE IS THE REAL ONE'S. Written by gen_sim.py. -/
def AdA (ad : Nat → Nat) : Nat → Prop := fun q => ∃ h, h < nH ∧ ad h = q
def RetAt (mr : MR) (pc : Nat) (r : Option AV) : Prop := (r = none ∧ decode (mrB mr) pc = .ok (.return_, 1) ∧ mrT mr = none) ∨ ∃ x : Int, r = some (vI x) ∧ decode (mrB mr) pc = .ok (.ireturn, 1) ∧ (mrT mr = some .int ∨ (mrT mr = some .boolean ∧ (x = 0 ∨ x = 1)))
def Cx (Dd : va_G) (ad : Nat → Nat) (cs : ClassId × ClassId × ClassId) (mr : MR) (p : Program) (R : Room) (s : State) (m : MethodId) (args : Array Value) (c : Code) (cells slots : Nat) (A : Nat → Prop) : Prop :=
  p.tables.exec = Jvm.exec ∧ c.code = mrB mr ∧ c.maxLocals = mrN mr ∧ s.vm.findClass (cn (mrC mr)) = some m.cls ∧ (∀ w ∈ lw_good, w.before args s = true) ∧ Wo Dd cs s ∧ DA ad A ∧ (mrF mr ≤ R.frames ∧ mrL mr ≤ R.locals ∧ cells ≤ R.cells ∧ slots ≤ R.slots) ∧ (mrC mr = 13 → ∃ xs : Nat → Int32, va_X (ad nH) (mrS mr) xs s s.heap ∧ ad nH < s.heap.size ∧ ¬ A (ad nH) ∧ (∀ j, j < mrS mr → (xs j).toInt = mrX mr j) ∧ mrS mr < 2147483648)
def RetOK (l : Launch) (Dd : va_G) (ad : Nat → Nat) (cs : ClassId × ClassId × ClassId) (mr : MR) (Q : Po) (p : Program) (e : Env) (R : Room) (s : State) (m : MethodId) (args : Array Value) (below : List Frame) (meth : Method) (c : Code) (cells slots : Nat) (Z : State → Prop) (A : Nat → Prop) : Prop :=
  ∀ (r : Option AV) (M' : Mem) (H' : Heap) (locs' : List Loc) (pc' : Nat) (la' : Array Slot), Q r M' → va_P Dd classes (wsOf ad cs M') H' → va_S A s.heap H' locs' → RetAt mr pc' r → W p l e R s m args below meth c H' locs' cells slots Z (F0 m pc' la' (r.toList.map (cv ad)))
def PS (l : Launch) (Dd : va_G) (ad : Nat → Nat) (cs : ClassId × ClassId × ClassId) : AP := fun mr pc lst st M Q => ∀ (p : Program) (e : Env) (R : Room) (s : State) (m : MethodId) (args : Array Value) (below : List Frame) (meth : Method) (c : Code) (H : Heap) (locs : List Loc) (cells slots : Nat) (Z : State → Prop) (A : Nat → Prop) (la : Array Slot), Cx Dd ad cs mr p R s m args c cells slots A → va_P Dd classes (wsOf ad cs M) H → va_S A s.heap H locs → LR ad la (mrN mr) lst → RetOK l Dd ad cs mr Q p e R s m args below meth c cells slots Z A → W p l e R s m args below meth c H locs cells slots Z (F0 m pc la (st.map (cv ad)))
theorem oi_lt {x y : Int} (hx : InR x) (hy : InR y) : Int32.ofInt x < Int32.ofInt y ↔ x < y := Int32.ofInt_lt_iff_lt hx.1 hx.2 hy.1 hy.2
theorem oi_le {x y : Int} (hx : InR x) (hy : InR y) : Int32.ofInt x ≤ Int32.ofInt y ↔ x ≤ y := Int32.ofInt_le_iff_le hx.1 hx.2 hy.1 hy.2
theorem oi_eq {x y : Int} (hx : InR x) (hy : InR y) : Int32.ofInt x = Int32.ofInt y ↔ x = y := by
  constructor
  · intro h
    have h1 := (oi_le hx hy).mp (by rw [h]; exact Int32.le_refl _)
    have h2 := (oi_le hy hx).mp (by rw [h]; exact Int32.le_refl _)
    omega
  · intro h
    rw [h]
theorem oi_0 : (0 : Int32) = Int32.ofInt 0 := by decide +kernel
theorem in0 : InR 0 := by decide
theorem oi_clamp {i : Int} (h0 : 0 ≤ i) (h1 : i < 2147483648) : (Int32.ofInt i).toNatClampNeg = i.toNat := by
  show (Int32.ofInt i).toInt.toNat = i.toNat
  rw [Int32.toInt_ofInt_of_le (by omega) (by omega)]
theorem oi_in {i : Int} {n : Nat} (h : 0 ≤ i ∧ i < n) (hn : n < 2147483648) : vp_in (Int32.ofInt i) n := by
  rw [vp_in_iff, Int32.toInt_ofInt_of_le (by omega) (by omega)]
  exact h
theorem oi_get {M : Mem} {h n : Nat} {i : Int} (hi : 0 ≤ i ∧ i < n) (hn : n < 2147483648) : M h ((Int32.ofInt i).toNatClampNeg : Nat) = M h i := by
  rw [oi_clamp hi.1 (by omega), Int.toNat_of_nonneg hi.1]
theorem up_ne {M : Mem} {h h' : Nat} {i v : Int} (hn : h' ≠ h) : up M h i v h' = M h' := by simp [up, hn]
theorem up_eq {M : Mem} {h : Nat} {i v : Int} : up M h i v h = fun i' => if i' = i then v else M h i' := by simp [up]
theorem upd_oi {M : Mem} {h n : Nat} {i x : Int} (hi : 0 ≤ i ∧ i < n) (hn : n < 2147483648) : (fun j : Nat => Int32.ofInt (up M h i x h j)) = upd (fun j : Nat => Int32.ofInt (M h j)) (Int32.ofInt i).toNatClampNeg (Int32.ofInt x) := by
  funext j
  rw [up_eq, oi_clamp hi.1 (by omega)]
  dsimp only
  by_cases e : j = i.toNat
  · have e2 : (j : Int) = i := by omega
    rw [if_pos e2, e, pk_us]
  · have e2 : ¬ (j : Int) = i := by omega
    rw [if_neg e2, pk_un e]
theorem upd_ol {M : Mem} {h n : Nat} {i x : Int} (hi : 0 ≤ i ∧ i < n) (hn : n < 2147483648) : (fun j : Nat => Int64.ofInt (up M h i x h j)) = vp_updL (fun j : Nat => Int64.ofInt (M h j)) (Int32.ofInt i).toNatClampNeg (Int64.ofInt x) := by
  funext j
  rw [up_eq, oi_clamp hi.1 (by omega)]
  dsimp only
  by_cases e : j = i.toNat
  · have e2 : (j : Int) = i := by omega
    rw [if_pos e2, e, pk_uLs]
  · have e2 : ¬ (j : Int) = i := by omega
    rw [if_neg e2, pk_uLn e]
theorem wt_cat (ad : Nat → Nat) (st : List AV) : ((st.map (cv ad)).map fun v => v.category).sum = wt st := by
  unfold wt
  rw [List.map_map]
  congr 1
  apply List.map_congr_left
  intro v _
  exact cat_cv ad v

theorem lw_nat : Cond.native arraycopyName ∈ lw_good ∧ Cond.static arraycopyName ∈ lw_good ∧ Cond.initialized "java/lang/System" ∈ lw_good := ⟨List.mem_filter.mpr ⟨List.mem_append_right _ (List.mem_of_getElem? (i := 636) (by decide +kernel)), rfl⟩, List.mem_filter.mpr ⟨List.mem_append_right _ (List.mem_of_getElem? (i := 635) (by decide +kernel)), rfl⟩, List.mem_filter.mpr ⟨List.mem_append_right _ (List.mem_of_getElem? (i := 15) (by decide +kernel)), rfl⟩⟩
theorem lw_min : Cond.static Lib.Math.min.name ∈ lw_good ∧ Cond.initialized "java/lang/Math" ∈ lw_good ∧ Cond.code Lib.Math.min.name Lib.Math.min.code 2 (some .int) ∈ lw_good := ⟨List.mem_filter.mpr ⟨List.mem_append_right _ (List.mem_of_getElem? (i := 653) (by decide +kernel)), rfl⟩, List.mem_filter.mpr ⟨List.mem_append_right _ (List.mem_of_getElem? (i := 14) (by decide +kernel)), rfl⟩, List.mem_filter.mpr ⟨List.mem_append_right _ (List.mem_of_getElem? (i := 654) (by decide +kernel)), rfl⟩⟩
theorem lw_max : Cond.static Lib.Math.max.name ∈ lw_good ∧ Cond.initialized "java/lang/Math" ∈ lw_good ∧ Cond.code Lib.Math.max.name Lib.Math.max.code 2 (some .int) ∈ lw_good := ⟨List.mem_filter.mpr ⟨List.mem_append_right _ (List.mem_of_getElem? (i := 495) (by decide +kernel)), rfl⟩, List.mem_filter.mpr ⟨List.mem_append_right _ (List.mem_of_getElem? (i := 14) (by decide +kernel)), rfl⟩, List.mem_filter.mpr ⟨List.mem_append_right _ (List.mem_of_getElem? (i := 496) (by decide +kernel)), rfl⟩⟩
theorem S_iconst (l : Launch) (Dd : va_G) (ad : Nat → Nat) (cs : ClassId × ClassId × ClassId) : R_iconst (PS l Dd ad cs) := by
  intro mr pc ls st M Q n h0 k0 p e R s m args below meth c H locs cells slots Z A la X hP hS hL hret
  obtain ⟨hx, hb, hml, hown, hts, hWo, hDA, hroom, hscr⟩ := id X
  exact lv_iconst hx hb h0 rfl (k0 p e R s m args below meth c H locs cells slots Z A la X hP hS hL hret)
theorem S_bipush (l : Launch) (Dd : va_G) (ad : Nat → Nat) (cs : ClassId × ClassId × ClassId) : R_bipush (PS l Dd ad cs) := by
  intro mr pc ls st M Q n h0 h1 k0 p e R s m args below meth c H locs cells slots Z A la X hP hS hL hret
  obtain ⟨hx, hb, hml, hown, hts, hWo, hDA, hroom, hscr⟩ := id X
  exact lv_bipush hx hb h0 h1 (k0 p e R s m args below meth c H locs cells slots Z A la X hP hS hL hret)
theorem S_sipush (l : Launch) (Dd : va_G) (ad : Nat → Nat) (cs : ClassId × ClassId × ClassId) : R_sipush (PS l Dd ad cs) := by
  intro mr pc ls st M Q n h0 h1 k0 p e R s m args below meth c H locs cells slots Z A la X hP hS hL hret
  obtain ⟨hx, hb, hml, hown, hts, hWo, hDA, hroom, hscr⟩ := id X
  exact lv_sipush hx hb h0 h1 (k0 p e R s m args below meth c H locs cells slots Z A la X hP hS hL hret)
theorem S_ldc (l : Launch) (Dd : va_G) (ad : Nat → Nat) (cs : ClassId × ClassId × ClassId) : R_ldc (PS l Dd ad cs) := by
  intro mr pc ls st M Q ix n h0 h1 k0 p e R s m args below meth c H locs cells slots Z A la X hP hS hL hret
  obtain ⟨hx, hb, hml, hown, hts, hWo, hDA, hroom, hscr⟩ := id X
  exact lv_ldc hx hb hown (hts _ h1) h0 (k0 p e R s m args below meth c H locs cells slots Z A la X hP hS hL hret)
theorem S_ldc2 (l : Launch) (Dd : va_G) (ad : Nat → Nat) (cs : ClassId × ClassId × ClassId) : R_ldc2 (PS l Dd ad cs) := by
  intro mr pc ls st M Q ix n h0 h1 k0 p e R s m args below meth c H locs cells slots Z A la X hP hS hL hret
  obtain ⟨hx, hb, hml, hown, hts, hWo, hDA, hroom, hscr⟩ := id X
  exact lv_ldc2 hx hb hown (hts _ h1) h0 (k0 p e R s m args below meth c H locs cells slots Z A la X hP hS hL hret)
theorem S_lconst (l : Launch) (Dd : va_G) (ad : Nat → Nat) (cs : ClassId × ClassId × ClassId) : R_lconst (PS l Dd ad cs) := by
  intro mr pc ls st M Q k n h0 h1 k0 p e R s m args below meth c H locs cells slots Z A la X hP hS hL hret
  obtain ⟨hx, hb, hml, hown, hts, hWo, hDA, hroom, hscr⟩ := id X
  exact lv_lconst hx hb h0 h1 (k0 p e R s m args below meth c H locs cells slots Z A la X hP hS hL hret)
theorem S_iload_n (l : Launch) (Dd : va_G) (ad : Nat → Nat) (cs : ClassId × ClassId × ClassId) : R_iload_n (PS l Dd ad cs) := by
  intro mr pc ls st M Q k x h0 h1 k0 p e R s m args below meth c H locs cells slots Z A la X hP hS hL hret
  obtain ⟨hx, hb, hml, hown, hts, hWo, hDA, hroom, hscr⟩ := id X
  exact lv_iload_n hx hb h0 rfl (hL.2.2 _ _ h1) (k0 p e R s m args below meth c H locs cells slots Z A la X hP hS hL hret)
theorem S_iload (l : Launch) (Dd : va_G) (ad : Nat → Nat) (cs : ClassId × ClassId × ClassId) : R_iload (PS l Dd ad cs) := by
  intro mr pc ls st M Q k x h0 h1 k0 p e R s m args below meth c H locs cells slots Z A la X hP hS hL hret
  obtain ⟨hx, hb, hml, hown, hts, hWo, hDA, hroom, hscr⟩ := id X
  exact lv_iload hx hb h0 (hL.2.2 _ _ h1) (k0 p e R s m args below meth c H locs cells slots Z A la X hP hS hL hret)
theorem S_lload_n (l : Launch) (Dd : va_G) (ad : Nat → Nat) (cs : ClassId × ClassId × ClassId) : R_lload_n (PS l Dd ad cs) := by
  intro mr pc ls st M Q k x h0 h1 k0 p e R s m args below meth c H locs cells slots Z A la X hP hS hL hret
  obtain ⟨hx, hb, hml, hown, hts, hWo, hDA, hroom, hscr⟩ := id X
  exact lv_lload_n hx hb h0 rfl (hL.2.2 _ _ h1) (k0 p e R s m args below meth c H locs cells slots Z A la X hP hS hL hret)
theorem S_lload (l : Launch) (Dd : va_G) (ad : Nat → Nat) (cs : ClassId × ClassId × ClassId) : R_lload (PS l Dd ad cs) := by
  intro mr pc ls st M Q k x h0 h1 k0 p e R s m args below meth c H locs cells slots Z A la X hP hS hL hret
  obtain ⟨hx, hb, hml, hown, hts, hWo, hDA, hroom, hscr⟩ := id X
  exact lv_lload hx hb h0 (hL.2.2 _ _ h1) (k0 p e R s m args below meth c H locs cells slots Z A la X hP hS hL hret)
theorem S_aload_n (l : Launch) (Dd : va_G) (ad : Nat → Nat) (cs : ClassId × ClassId × ClassId) : R_aload_n (PS l Dd ad cs) := by
  intro mr pc ls st M Q k x h0 h1 k0 p e R s m args below meth c H locs cells slots Z A la X hP hS hL hret
  obtain ⟨hx, hb, hml, hown, hts, hWo, hDA, hroom, hscr⟩ := id X
  exact lv_aload_n hx hb h0 rfl (hL.2.2 _ _ h1) (k0 p e R s m args below meth c H locs cells slots Z A la X hP hS hL hret)
theorem S_aload (l : Launch) (Dd : va_G) (ad : Nat → Nat) (cs : ClassId × ClassId × ClassId) : R_aload (PS l Dd ad cs) := by
  intro mr pc ls st M Q k x h0 h1 k0 p e R s m args below meth c H locs cells slots Z A la X hP hS hL hret
  obtain ⟨hx, hb, hml, hown, hts, hWo, hDA, hroom, hscr⟩ := id X
  exact lv_aload hx hb h0 (hL.2.2 _ _ h1) (k0 p e R s m args below meth c H locs cells slots Z A la X hP hS hL hret)
theorem S_istore_n (l : Launch) (Dd : va_G) (ad : Nat → Nat) (cs : ClassId × ClassId × ClassId) : R_istore_n (PS l Dd ad cs) := by
  intro mr pc ls st M Q k ls2 x h0 h1 h2 k0 p e R s m args below meth c H locs cells slots Z A la X hP hS hL hret
  obtain ⟨hx, hb, hml, hown, hts, hWo, hDA, hroom, hscr⟩ := id X
  exact lv_istore_n hx hb h0 rfl hL.has h1 rfl (fun la2 hl2 => k0 p e R s m args below meth c H locs cells slots Z A la2 X hP hS (h2 ▸ LR.store (v := vI x) hl2) hret)
theorem S_istore (l : Launch) (Dd : va_G) (ad : Nat → Nat) (cs : ClassId × ClassId × ClassId) : R_istore (PS l Dd ad cs) := by
  intro mr pc ls st M Q k ls2 x h0 h1 h2 k0 p e R s m args below meth c H locs cells slots Z A la X hP hS hL hret
  obtain ⟨hx, hb, hml, hown, hts, hWo, hDA, hroom, hscr⟩ := id X
  exact lv_istore hx hb h0 hL.has h1 rfl (fun la2 hl2 => k0 p e R s m args below meth c H locs cells slots Z A la2 X hP hS (h2 ▸ LR.store (v := vI x) hl2) hret)
theorem S_lstore_n (l : Launch) (Dd : va_G) (ad : Nat → Nat) (cs : ClassId × ClassId × ClassId) : R_lstore_n (PS l Dd ad cs) := by
  intro mr pc ls st M Q k ls2 x h0 h1 h2 k0 p e R s m args below meth c H locs cells slots Z A la X hP hS hL hret
  obtain ⟨hx, hb, hml, hown, hts, hWo, hDA, hroom, hscr⟩ := id X
  exact lv_lstore_n hx hb h0 rfl hL.has h1 rfl (fun la2 hl2 => k0 p e R s m args below meth c H locs cells slots Z A la2 X hP hS (h2 ▸ LR.store2 (v := vL x) hl2) hret)
theorem S_lstore (l : Launch) (Dd : va_G) (ad : Nat → Nat) (cs : ClassId × ClassId × ClassId) : R_lstore (PS l Dd ad cs) := by
  intro mr pc ls st M Q k ls2 x h0 h1 h2 k0 p e R s m args below meth c H locs cells slots Z A la X hP hS hL hret
  obtain ⟨hx, hb, hml, hown, hts, hWo, hDA, hroom, hscr⟩ := id X
  exact lv_lstore hx hb h0 hL.has h1 rfl (fun la2 hl2 => k0 p e R s m args below meth c H locs cells slots Z A la2 X hP hS (h2 ▸ LR.store2 (v := vL x) hl2) hret)
theorem S_astore_n (l : Launch) (Dd : va_G) (ad : Nat → Nat) (cs : ClassId × ClassId × ClassId) : R_astore_n (PS l Dd ad cs) := by
  intro mr pc ls st M Q k ls2 x h0 h1 h2 k0 p e R s m args below meth c H locs cells slots Z A la X hP hS hL hret
  obtain ⟨hx, hb, hml, hown, hts, hWo, hDA, hroom, hscr⟩ := id X
  exact lv_astore_n hx hb h0 rfl hL.has h1 rfl (fun la2 hl2 => k0 p e R s m args below meth c H locs cells slots Z A la2 X hP hS (h2 ▸ LR.store (v := vR x) hl2) hret)
theorem S_astore (l : Launch) (Dd : va_G) (ad : Nat → Nat) (cs : ClassId × ClassId × ClassId) : R_astore (PS l Dd ad cs) := by
  intro mr pc ls st M Q k ls2 x h0 h1 h2 k0 p e R s m args below meth c H locs cells slots Z A la X hP hS hL hret
  obtain ⟨hx, hb, hml, hown, hts, hWo, hDA, hroom, hscr⟩ := id X
  exact lv_astore hx hb h0 hL.has h1 rfl (fun la2 hl2 => k0 p e R s m args below meth c H locs cells slots Z A la2 X hP hS (h2 ▸ LR.store (v := vR x) hl2) hret)
theorem S_iinc (l : Launch) (Dd : va_G) (ad : Nat → Nat) (cs : ClassId × ClassId × ClassId) : R_iinc (PS l Dd ad cs) := by
  intro mr pc ls st M Q k n x ls2 h0 h1 h2 h3 k0 p e R s m args below meth c H locs cells slots Z A la X hP hS hL hret
  obtain ⟨hx, hb, hml, hown, hts, hWo, hDA, hroom, hscr⟩ := id X
  obtain ⟨q, hq⟩ := List.getElem?_of_mem (asc_mem (ad := ad) h1)
  exact lv_iinc hx hb h0 hL.has hq (v := Int32.ofInt (x + n)) (by rw [Int32.ofInt_add]) h2 rfl (fun la2 hl2 => k0 p e R s m args below meth c H locs cells slots Z A la2 X hP hS (h3 ▸ LR.store (v := vI (x + n)) hl2) hret)
theorem S_iadd (l : Launch) (Dd : va_G) (ad : Nat → Nat) (cs : ClassId × ClassId × ClassId) : R_iadd (PS l Dd ad cs) := by
  intro mr pc ls st M Q x y h0 k0 p e R s m args below meth c H locs cells slots Z A la X hP hS hL hret
  obtain ⟨hx, hb, hml, hown, hts, hWo, hDA, hroom, hscr⟩ := id X
  have h : W p l e R s m args below meth c H locs cells slots Z (F0 m (pc + 1) la (.int (Int32.ofInt (x + y)) :: st.map (cv ad))) := k0 p e R s m args below meth c H locs cells slots Z A la X hP hS hL hret
  rw [Int32.ofInt_add] at h
  exact lv_iadd hx hb h0 h
theorem S_isub (l : Launch) (Dd : va_G) (ad : Nat → Nat) (cs : ClassId × ClassId × ClassId) : R_isub (PS l Dd ad cs) := by
  intro mr pc ls st M Q x y h0 k0 p e R s m args below meth c H locs cells slots Z A la X hP hS hL hret
  obtain ⟨hx, hb, hml, hown, hts, hWo, hDA, hroom, hscr⟩ := id X
  have h : W p l e R s m args below meth c H locs cells slots Z (F0 m (pc + 1) la (.int (Int32.ofInt (x - y)) :: st.map (cv ad))) := k0 p e R s m args below meth c H locs cells slots Z A la X hP hS hL hret
  rw [Int32.ofInt_sub] at h
  exact lv_isub hx hb h0 h
theorem S_imul (l : Launch) (Dd : va_G) (ad : Nat → Nat) (cs : ClassId × ClassId × ClassId) : R_imul (PS l Dd ad cs) := by
  intro mr pc ls st M Q x y h0 k0 p e R s m args below meth c H locs cells slots Z A la X hP hS hL hret
  obtain ⟨hx, hb, hml, hown, hts, hWo, hDA, hroom, hscr⟩ := id X
  have h : W p l e R s m args below meth c H locs cells slots Z (F0 m (pc + 1) la (.int (Int32.ofInt (x * y)) :: st.map (cv ad))) := k0 p e R s m args below meth c H locs cells slots Z A la X hP hS hL hret
  rw [Int32.ofInt_mul] at h
  exact lv_imul hx hb h0 h
theorem S_idiv (l : Launch) (Dd : va_G) (ad : Nat → Nat) (cs : ClassId × ClassId × ClassId) : R_idiv (PS l Dd ad cs) := by
  intro mr pc ls st M Q x y h0 h1 h2 k0 p e R s m args below meth c H locs cells slots Z A la X hP hS hL hret
  obtain ⟨hx, hb, hml, hown, hts, hWo, hDA, hroom, hscr⟩ := id X
  have h : W p l e R s m args below meth c H locs cells slots Z (F0 m (pc + 1) la (.int (Int32.ofInt (x / y)) :: st.map (cv ad))) := k0 p e R s m args below meth c H locs cells slots Z A la X hP hS hL hret
  have e1 : x / y = x.tdiv y := (Int.tdiv_eq_ediv_of_nonneg h1.1).symm
  rw [e1, Int32.ofInt_tdiv (by show (-2147483648 : Int) ≤ x; omega) (by show x ≤ 2147483647; omega) (by show (-2147483648 : Int) ≤ y; omega) (by show y ≤ 2147483647; omega)] at h
  exact lv_idiv hx hb h0 (by rw [oi_0, oi_eq (by omega) in0]; omega) h
theorem S_irem (l : Launch) (Dd : va_G) (ad : Nat → Nat) (cs : ClassId × ClassId × ClassId) : R_irem (PS l Dd ad cs) := by
  intro mr pc ls st M Q x y h0 h1 h2 k0 p e R s m args below meth c H locs cells slots Z A la X hP hS hL hret
  obtain ⟨hx, hb, hml, hown, hts, hWo, hDA, hroom, hscr⟩ := id X
  have h : W p l e R s m args below meth c H locs cells slots Z (F0 m (pc + 1) la (.int (Int32.ofInt (x % y)) :: st.map (cv ad))) := k0 p e R s m args below meth c H locs cells slots Z A la X hP hS hL hret
  have e1 : x / y = x.tdiv y := (Int.tdiv_eq_ediv_of_nonneg h1.1).symm
  have e2 : x % y = x - x / y * y := by rw [Int.mul_comm, Int.emod_def]
  rw [e2, e1, Int32.ofInt_sub, Int32.ofInt_mul, Int32.ofInt_tdiv (by show (-2147483648 : Int) ≤ x; omega) (by show x ≤ 2147483647; omega) (by show (-2147483648 : Int) ≤ y; omega) (by show y ≤ 2147483647; omega)] at h
  exact lv_irem hx hb h0 (by rw [oi_0, oi_eq (by omega) in0]; omega) h
theorem S_iand (l : Launch) (Dd : va_G) (ad : Nat → Nat) (cs : ClassId × ClassId × ClassId) : R_iand (PS l Dd ad cs) := by
  intro mr pc ls st M Q x y h0 k0 p e R s m args below meth c H locs cells slots Z A la X hP hS hL hret
  obtain ⟨hx, hb, hml, hown, hts, hWo, hDA, hroom, hscr⟩ := id X
  have h : W p l e R s m args below meth c H locs cells slots Z (F0 m (pc + 1) la (.int (Int32.ofInt (Int32.ofInt x &&& Int32.ofInt y).toInt) :: st.map (cv ad))) := k0 p e R s m args below meth c H locs cells slots Z A la X hP hS hL hret
  rw [Int32.ofInt_toInt] at h
  exact lv_iand hx hb h0 h
theorem S_i2l (l : Launch) (Dd : va_G) (ad : Nat → Nat) (cs : ClassId × ClassId × ClassId) : R_i2l (PS l Dd ad cs) := by
  intro mr pc ls st M Q x h0 h1 k0 p e R s m args below meth c H locs cells slots Z A la X hP hS hL hret
  obtain ⟨hx, hb, hml, hown, hts, hWo, hDA, hroom, hscr⟩ := id X
  exact lv_i2l hx hb h0 (Int32.toInt64_ofInt h1.1 h1.2) (k0 p e R s m args below meth c H locs cells slots Z A la X hP hS hL hret)
theorem S_l2i (l : Launch) (Dd : va_G) (ad : Nat → Nat) (cs : ClassId × ClassId × ClassId) : R_l2i (PS l Dd ad cs) := by
  intro mr pc ls st M Q x h0 k0 p e R s m args below meth c H locs cells slots Z A la X hP hS hL hret
  obtain ⟨hx, hb, hml, hown, hts, hWo, hDA, hroom, hscr⟩ := id X
  exact lv_l2i hx hb h0 Int64.toInt32_ofInt (k0 p e R s m args below meth c H locs cells slots Z A la X hP hS hL hret)
theorem S_ladd (l : Launch) (Dd : va_G) (ad : Nat → Nat) (cs : ClassId × ClassId × ClassId) : R_ladd (PS l Dd ad cs) := by
  intro mr pc ls st M Q x y h0 k0 p e R s m args below meth c H locs cells slots Z A la X hP hS hL hret
  obtain ⟨hx, hb, hml, hown, hts, hWo, hDA, hroom, hscr⟩ := id X
  have h : W p l e R s m args below meth c H locs cells slots Z (F0 m (pc + 1) la (.long (Int64.ofInt (x + y)) :: st.map (cv ad))) := k0 p e R s m args below meth c H locs cells slots Z A la X hP hS hL hret
  rw [Int64.ofInt_add] at h
  exact lv_ladd hx hb h0 h
theorem S_lmul (l : Launch) (Dd : va_G) (ad : Nat → Nat) (cs : ClassId × ClassId × ClassId) : R_lmul (PS l Dd ad cs) := by
  intro mr pc ls st M Q x y h0 k0 p e R s m args below meth c H locs cells slots Z A la X hP hS hL hret
  obtain ⟨hx, hb, hml, hown, hts, hWo, hDA, hroom, hscr⟩ := id X
  have h : W p l e R s m args below meth c H locs cells slots Z (F0 m (pc + 1) la (.long (Int64.ofInt (x * y)) :: st.map (cv ad))) := k0 p e R s m args below meth c H locs cells slots Z A la X hP hS hL hret
  rw [Int64.ofInt_mul] at h
  exact lv_lmul hx hb h0 h
theorem S_land (l : Launch) (Dd : va_G) (ad : Nat → Nat) (cs : ClassId × ClassId × ClassId) : R_land (PS l Dd ad cs) := by
  intro mr pc ls st M Q x y h0 k0 p e R s m args below meth c H locs cells slots Z A la X hP hS hL hret
  obtain ⟨hx, hb, hml, hown, hts, hWo, hDA, hroom, hscr⟩ := id X
  have h : W p l e R s m args below meth c H locs cells slots Z (F0 m (pc + 1) la (.long (Int64.ofInt (Int64.ofInt x &&& Int64.ofInt y).toInt) :: st.map (cv ad))) := k0 p e R s m args below meth c H locs cells slots Z A la X hP hS hL hret
  rw [Int64.ofInt_toInt] at h
  exact lv_land hx hb h0 h
theorem S_lor (l : Launch) (Dd : va_G) (ad : Nat → Nat) (cs : ClassId × ClassId × ClassId) : R_lor (PS l Dd ad cs) := by
  intro mr pc ls st M Q x y h0 k0 p e R s m args below meth c H locs cells slots Z A la X hP hS hL hret
  obtain ⟨hx, hb, hml, hown, hts, hWo, hDA, hroom, hscr⟩ := id X
  have h : W p l e R s m args below meth c H locs cells slots Z (F0 m (pc + 1) la (.long (Int64.ofInt (Int64.ofInt x ||| Int64.ofInt y).toInt) :: st.map (cv ad))) := k0 p e R s m args below meth c H locs cells slots Z A la X hP hS hL hret
  rw [Int64.ofInt_toInt] at h
  exact lv_lor hx hb h0 h
theorem S_lshl (l : Launch) (Dd : va_G) (ad : Nat → Nat) (cs : ClassId × ClassId × ClassId) : R_lshl (PS l Dd ad cs) := by
  intro mr pc ls st M Q x y h0 k0 p e R s m args below meth c H locs cells slots Z A la X hP hS hL hret
  obtain ⟨hx, hb, hml, hown, hts, hWo, hDA, hroom, hscr⟩ := id X
  have h : W p l e R s m args below meth c H locs cells slots Z (F0 m (pc + 1) la (.long (Int64.ofInt (Int64.ofInt x <<< ((Int32.ofInt y).toInt64 &&& 63)).toInt) :: st.map (cv ad))) := k0 p e R s m args below meth c H locs cells slots Z A la X hP hS hL hret
  rw [Int64.ofInt_toInt] at h
  exact lv_lshl hx hb h0 rfl h
theorem S_lcmp (l : Launch) (Dd : va_G) (ad : Nat → Nat) (cs : ClassId × ClassId × ClassId) : R_lcmp (PS l Dd ad cs) := by
  intro mr pc ls st M Q x y h0 h1 h2 k0 p e R s m args below meth c H locs cells slots Z A la X hP hS hL hret
  obtain ⟨hx, hb, hml, hown, hts, hWo, hDA, hroom, hscr⟩ := id X
  have h : W p l e R s m args below meth c H locs cells slots Z (F0 m (pc + 1) la (.int (Int32.ofInt (if x > y then 1 else if x = y then 0 else -1)) :: st.map (cv ad))) := k0 p e R s m args below meth c H locs cells slots Z A la X hP hS hL hret
  have e : lg_cmp (Int64.ofInt x) (Int64.ofInt y) = Int32.ofInt (if x > y then 1 else if x = y then 0 else -1) := by
    have g1 : Int64.ofInt y < Int64.ofInt x ↔ y < x := Int64.ofInt_lt_iff_lt h2.1 h2.2 h1.1 h1.2
    have g2 : Int64.ofInt x = Int64.ofInt y ↔ x = y := by
      constructor
      · intro q
        have a1 := (Int64.ofInt_le_iff_le h1.1 h1.2 h2.1 h2.2).mp (by rw [q]; exact Int64.le_refl _)
        have a2 := (Int64.ofInt_le_iff_le h2.1 h2.2 h1.1 h1.2).mp (by rw [q]; exact Int64.le_refl _)
        omega
      · intro q
        rw [q]
    unfold lg_cmp
    simp only [gt_iff_lt, g1, g2]
    repeat' split
    all_goals rfl
  rw [← e] at h
  exact W.lcmp hx hb h0 h
theorem S_dup (l : Launch) (Dd : va_G) (ad : Nat → Nat) (cs : ClassId × ClassId × ClassId) : R_dup (PS l Dd ad cs) := by
  intro mr pc ls st M Q v h0 h1 k0 p e R s m args below meth c H locs cells slots Z A la X hP hS hL hret
  obtain ⟨hx, hb, hml, hown, hts, hWo, hDA, hroom, hscr⟩ := id X
  exact lv_dup hx hb h0 (by rw [cat_cv, if_pos h1]) (k0 p e R s m args below meth c H locs cells slots Z A la X hP hS hL hret)
theorem S_dup2 (l : Launch) (Dd : va_G) (ad : Nat → Nat) (cs : ClassId × ClassId × ClassId) : R_dup2 (PS l Dd ad cs) := by
  intro mr pc ls st M Q v w h0 h1 h2 k0 p e R s m args below meth c H locs cells slots Z A la X hP hS hL hret
  obtain ⟨hx, hb, hml, hown, hts, hWo, hDA, hroom, hscr⟩ := id X
  exact lv_dup2_11 hx hb h0 (by rw [cat_cv, if_pos h1]) (by rw [cat_cv, if_pos h2]) (k0 p e R s m args below meth c H locs cells slots Z A la X hP hS hL hret)
theorem S_getR (l : Launch) (Dd : va_G) (ad : Nat → Nat) (cs : ClassId × ClassId × ClassId) : R_getR (PS l Dd ad cs) := by
  intro mr pc ls st M Q h ix ci k hz fs h0 h1 h2 h3 h4 k0 p e R s m args below meth c H locs cells slots Z A la X hP hS hL hret
  obtain ⟨hx, hb, hml, hown, hts, hWo, hDA, hroom, hscr⟩ := id X
  obtain ⟨C, T, N, g1, g2, g3, g4⟩ := h1
  exact va_get hx hb hts g4 hown hWo.1 hP h (ci := ci) (fs := fv ad M h fs) (by rw [wsOf_get h3, ce_3 h2]) g1 k g2 (hts _ g3) (fun _ q => q) (v := .ref (ad hz)) (by rw [List.getElem?_mapIdx, h4]; rfl) h0 (k0 p e R s m args below meth c H locs cells slots Z A la X hP hS hL hret)
theorem S_getI (l : Launch) (Dd : va_G) (ad : Nat → Nat) (cs : ClassId × ClassId × ClassId) : R_getI (PS l Dd ad cs) := by
  intro mr pc ls st M Q h ix ci k fs h0 h1 h2 h3 h4 k0 p e R s m args below meth c H locs cells slots Z A la X hP hS hL hret
  obtain ⟨hx, hb, hml, hown, hts, hWo, hDA, hroom, hscr⟩ := id X
  obtain ⟨C, T, N, g1, g2, g3, g4⟩ := h1
  exact va_get hx hb hts g4 hown hWo.1 hP h (ci := ci) (fs := fv ad M h fs) (by rw [wsOf_get h3, ce_3 h2]) g1 k g2 (hts _ g3) (fun _ q => q) (v := .int (Int32.ofInt (M h k))) (by rw [List.getElem?_mapIdx, h4]; rfl) h0 (k0 p e R s m args below meth c H locs cells slots Z A la X hP hS hL hret)
theorem S_put (l : Launch) (Dd : va_G) (ad : Nat → Nat) (cs : ClassId × ClassId × ClassId) : R_put (PS l Dd ad cs) := by
  intro mr pc ls st M Q h ix ci k fs x h0 h1 h2 h3 h4 k0 p e R s m args below meth c H locs cells slots Z A la X hP hS hL hret
  obtain ⟨hx, hb, hml, hown, hts, hWo, hDA, hroom, hscr⟩ := id X
  obtain ⟨C, T, N, ty, g1, g2, g3, g4, g5, g6, g7, g8⟩ := h1
  have hkl : k < fs.length := (List.getElem?_eq_some_iff.mp h4).1
  refine va_put hx hb hts g4 ty g5 g6 hown hWo.1 hP hDA.D hS h (ci := ci) (fs := fv ad M h fs) (by rw [wsOf_get h3, ce_3 h2]) g1 k g2 (hts _ g3) (fun _ q => q) g7 (ty := .int) (v := .int (Int32.ofInt x)) (by rw [g5 k g2, g8]) rfl rfl (by simp [fv, hkl]) h0 (fun H1 locs1 hP1 _ hS1 => ?_)
  have ee : ce ad cs (up M h k x) h = .inr (ci, (fv ad M h fs).set k (.int (Int32.ofInt x))) := by
    rw [ce_3 h2]
    congr 2
    apply List.ext_getElem?
    intro j
    by_cases hj : j = k
    · subst hj
      rw [List.getElem?_set_self (by simp [fv, hkl]), List.getElem?_mapIdx, h4]
      simp [up]
    · rw [List.getElem?_set_ne (Ne.symm hj), List.getElem?_mapIdx, List.getElem?_mapIdx]
      have : ¬ ((j : Int) = (k : Int)) := by omega
      simp [up, this]
  rw [wsOf_set h3 (fun h' hn => up_ne hn) ee] at hP1
  exact k0 p e R s m args below meth c H1 locs1 cells slots Z A la X hP1 hS1 hL hret
theorem S_iald (l : Launch) (Dd : va_G) (ad : Nat → Nat) (cs : ClassId × ClassId × ClassId) : R_iald (PS l Dd ad cs) := by
  intro mr pc ls st M Q h_ n i h0 h1 h2 h3 k0 p e R s m args below meth c H locs cells slots Z A la X hP hS hL hret
  obtain ⟨hx, hb, hml, hown, hts, hWo, hDA, hroom, hscr⟩ := id X
  have hn := kd_n h1
  have h : W p l e R s m args below meth c H locs cells slots Z (F0 m (pc + 1) la (.int (Int32.ofInt (M h_ i)) :: st.map (cv ad))) := k0 p e R s m args below meth c H locs cells slots Z A la X hP hS hL hret
  rw [← oi_get (M := M) (h := h_) h3 hn] at h
  exact va_iald hx hb hWo.1 hP h_ 0 (by rw [wsOf_get h2, ce_0 h1]) rfl (oi_in h3 hn) h0 h
theorem S_zald (l : Launch) (Dd : va_G) (ad : Nat → Nat) (cs : ClassId × ClassId × ClassId) : R_zald (PS l Dd ad cs) := by
  intro mr pc ls st M Q h_ n i h0 h1 h2 h3 k0 p e R s m args below meth c H locs cells slots Z A la X hP hS hL hret
  obtain ⟨hx, hb, hml, hown, hts, hWo, hDA, hroom, hscr⟩ := id X
  have hn := kd_n h1
  have h : W p l e R s m args below meth c H locs cells slots Z (F0 m (pc + 1) la (.int (Int32.ofInt (M h_ i)) :: st.map (cv ad))) := k0 p e R s m args below meth c H locs cells slots Z A la X hP hS hL hret
  rw [← oi_get (M := M) (h := h_) h3 hn] at h
  exact va_zald hx hb hWo.1 hP h_ 1 (by rw [wsOf_get h2, ce_1 h1]) rfl (oi_in h3 hn) h0 h
theorem S_lald (l : Launch) (Dd : va_G) (ad : Nat → Nat) (cs : ClassId × ClassId × ClassId) : R_lald (PS l Dd ad cs) := by
  intro mr pc ls st M Q h_ n i h0 h1 h2 h3 k0 p e R s m args below meth c H locs cells slots Z A la X hP hS hL hret
  obtain ⟨hx, hb, hml, hown, hts, hWo, hDA, hroom, hscr⟩ := id X
  have hn := kd_n h1
  have h : W p l e R s m args below meth c H locs cells slots Z (F0 m (pc + 1) la (.long (Int64.ofInt (M h_ i)) :: st.map (cv ad))) := k0 p e R s m args below meth c H locs cells slots Z A la X hP hS hL hret
  rw [← oi_get (M := M) (h := h_) h3 hn] at h
  exact va_lald hx hb hWo.1 hP h_ 2 (by rw [wsOf_get h2, ce_2 h1]) rfl (oi_in h3 hn) h0 h
theorem S_iast (l : Launch) (Dd : va_G) (ad : Nat → Nat) (cs : ClassId × ClassId × ClassId) : R_iast (PS l Dd ad cs) := by
  intro mr pc ls st M Q h_ n i x h0 h1 h2 h3 k0 p e R s m args below meth c H locs cells slots Z A la X hP hS hL hret
  obtain ⟨hx, hb, hml, hown, hts, hWo, hDA, hroom, hscr⟩ := id X
  have hn := kd_n h1
  refine va_iast hx hb hWo.1 hP hDA.D hS h_ 0 (by rw [wsOf_get h2, ce_0 h1]) rfl (oi_in h3 hn) h0 (fun H1 locs1 hP1 _ hS1 => ?_)
  rw [wsOf_set (M' := up M h_ i x) h2 (fun h' hq => up_ne hq) (by rw [ce_0 h1, upd_oi h3 hn])] at hP1
  exact k0 p e R s m args below meth c H1 locs1 cells slots Z A la X hP1 hS1 hL hret
theorem S_zast (l : Launch) (Dd : va_G) (ad : Nat → Nat) (cs : ClassId × ClassId × ClassId) : R_zast (PS l Dd ad cs) := by
  intro mr pc ls st M Q h_ n i x h0 h1 h2 h3 h4 k0 p e R s m args below meth c H locs cells slots Z A la X hP hS hL hret
  obtain ⟨hx, hb, hml, hown, hts, hWo, hDA, hroom, hscr⟩ := id X
  have hn := kd_n h1
  have hnar : vp_nar .boolean (Int32.ofInt x) = Int32.ofInt x := by rcases h4 with rfl | rfl <;> decide +kernel
  refine va_zast hx hb hWo.1 hP hDA.D hS h_ 1 (by rw [wsOf_get h2, ce_1 h1]) rfl (oi_in h3 hn) h0 (fun H1 locs1 hP1 _ hS1 => ?_)
  rw [hnar] at hP1
  rw [wsOf_set (M' := up M h_ i x) h2 (fun h' hq => up_ne hq) (by rw [ce_1 h1, upd_oi h3 hn])] at hP1
  exact k0 p e R s m args below meth c H1 locs1 cells slots Z A la X hP1 hS1 hL hret
theorem S_last (l : Launch) (Dd : va_G) (ad : Nat → Nat) (cs : ClassId × ClassId × ClassId) : R_last (PS l Dd ad cs) := by
  intro mr pc ls st M Q h_ n i x h0 h1 h2 h3 k0 p e R s m args below meth c H locs cells slots Z A la X hP hS hL hret
  obtain ⟨hx, hb, hml, hown, hts, hWo, hDA, hroom, hscr⟩ := id X
  have hn := kd_n h1
  refine va_last hx hb hWo.1 hP hDA.D hS h_ 2 (by rw [wsOf_get h2, ce_2 h1]) rfl (oi_in h3 hn) h0 (fun H1 locs1 hP1 _ hS1 => ?_)
  rw [wsOf_set (M' := up M h_ i x) h2 (fun h' hq => up_ne hq) (by rw [ce_2 h1, upd_ol h3 hn])] at hP1
  exact k0 p e R s m args below meth c H1 locs1 cells slots Z A la X hP1 hS1 hL hret
theorem S_alen (l : Launch) (Dd : va_G) (ad : Nat → Nat) (cs : ClassId × ClassId × ClassId) : R_alen (PS l Dd ad cs) := by
  intro mr pc ls st M Q h_ t n h0 h1 h2 h3 k0 p e R s m args below meth c H locs cells slots Z A la X hP hS hL hret
  obtain ⟨hx, hb, hml, hown, hts, hWo, hDA, hroom, hscr⟩ := id X
  have hn := kd_n h1
  rcases (show t = 0 ∨ t = 1 ∨ t = 2 by omega) with rfl | rfl | rfl
  · exact va_alen hx hb hWo.1 hP h_ 0 (by rw [wsOf_get h3, ce_0 h1]) rfl (v := Int32.ofInt n) rfl h0 (k0 p e R s m args below meth c H locs cells slots Z A la X hP hS hL hret)
  · exact va_alen hx hb hWo.1 hP h_ 1 (by rw [wsOf_get h3, ce_1 h1]) rfl (v := Int32.ofInt n) rfl h0 (k0 p e R s m args below meth c H locs cells slots Z A la X hP hS hL hret)
  · exact va_alen hx hb hWo.1 hP h_ 2 (by rw [wsOf_get h3, ce_2 h1]) rfl (v := Int32.ofInt n) rfl h0 (k0 p e R s m args below meth c H locs cells slots Z A la X hP hS hL hret)
theorem S_sald (l : Launch) (Dd : va_G) (ad : Nat → Nat) (cs : ClassId × ClassId × ClassId) : R_sald (PS l Dd ad cs) := by
  intro mr pc ls st M Q i h0 h1 h2 k0 p e R s m args below meth c H locs cells slots Z A la X hP hS hL hret
  obtain ⟨hx, hb, hml, hown, hts, hWo, hDA, hroom, hscr⟩ := id X
  obtain ⟨xs, g1, g2, g3, g4, hn⟩ := hscr h1
  have h : W p l e R s m args below meth c H locs cells slots Z (F0 m (pc + 1) la (.int (Int32.ofInt (mrX mr i.toNat)) :: st.map (cv ad))) := k0 p e R s m args below meth c H locs cells slots Z A la X hP hS hL hret
  rw [← g4 i.toNat (by omega), Int32.ofInt_toInt, ← oi_clamp h2.1 (by omega)] at h
  exact va_sld hx hb g1 g2 g3 hS (oi_in h2 hn) h0 h
theorem S_slen (l : Launch) (Dd : va_G) (ad : Nat → Nat) (cs : ClassId × ClassId × ClassId) : R_slen (PS l Dd ad cs) := by
  intro mr pc ls st M Q h0 h1 k0 p e R s m args below meth c H locs cells slots Z A la X hP hS hL hret
  obtain ⟨hx, hb, hml, hown, hts, hWo, hDA, hroom, hscr⟩ := id X
  obtain ⟨xs, g1, g2, g3, g4⟩ := hscr h1
  exact va_slen hx hb g1 g2 g3 hS h0 (k0 p e R s m args below meth c H locs cells slots Z A la X hP hS hL hret)
theorem S_if_eq (l : Launch) (Dd : va_G) (ad : Nat → Nat) (cs : ClassId × ClassId × ClassId) : R_if_eq (PS l Dd ad cs) := by
  intro mr pc ls st M Q x off tgt h0 h1 h2 k0 k1 p e R s m args below meth c H locs cells slots Z A la X hP hS hL hret
  obtain ⟨hx, hb, hml, hown, hts, hWo, hDA, hroom, hscr⟩ := id X
  have g := oi_eq h2 in0
  rw [← oi_0] at g
  exact lv_if_eq hx hb h0 h1 (fun hc => k0 (g.mp hc) p e R s m args below meth c H locs cells slots Z A la X hP hS hL hret) (fun hc => k1 (fun q => hc (g.mpr q)) p e R s m args below meth c H locs cells slots Z A la X hP hS hL hret)
theorem S_icmp_eq (l : Launch) (Dd : va_G) (ad : Nat → Nat) (cs : ClassId × ClassId × ClassId) : R_icmp_eq (PS l Dd ad cs) := by
  intro mr pc ls st M Q x y off tgt h0 h1 h2 h3 k0 k1 p e R s m args below meth c H locs cells slots Z A la X hP hS hL hret
  obtain ⟨hx, hb, hml, hown, hts, hWo, hDA, hroom, hscr⟩ := id X
  have g := oi_eq h2 h3
  exact lv_icmp_eq hx hb h0 h1 (fun hc => k0 (g.mp hc) p e R s m args below meth c H locs cells slots Z A la X hP hS hL hret) (fun hc => k1 (fun q => hc (g.mpr q)) p e R s m args below meth c H locs cells slots Z A la X hP hS hL hret)
theorem S_if_ne (l : Launch) (Dd : va_G) (ad : Nat → Nat) (cs : ClassId × ClassId × ClassId) : R_if_ne (PS l Dd ad cs) := by
  intro mr pc ls st M Q x off tgt h0 h1 h2 k0 k1 p e R s m args below meth c H locs cells slots Z A la X hP hS hL hret
  obtain ⟨hx, hb, hml, hown, hts, hWo, hDA, hroom, hscr⟩ := id X
  have g := oi_eq h2 in0
  rw [← oi_0] at g
  exact lv_if_ne hx hb h0 h1 (fun hc => k0 (fun q => hc (g.mpr q)) p e R s m args below meth c H locs cells slots Z A la X hP hS hL hret) (fun hc => k1 (fun q => q (g.mp hc)) p e R s m args below meth c H locs cells slots Z A la X hP hS hL hret)
theorem S_icmp_ne (l : Launch) (Dd : va_G) (ad : Nat → Nat) (cs : ClassId × ClassId × ClassId) : R_icmp_ne (PS l Dd ad cs) := by
  intro mr pc ls st M Q x y off tgt h0 h1 h2 h3 k0 k1 p e R s m args below meth c H locs cells slots Z A la X hP hS hL hret
  obtain ⟨hx, hb, hml, hown, hts, hWo, hDA, hroom, hscr⟩ := id X
  have g := oi_eq h2 h3
  exact lv_icmp_ne hx hb h0 h1 (fun hc => k0 (fun q => hc (g.mpr q)) p e R s m args below meth c H locs cells slots Z A la X hP hS hL hret) (fun hc => k1 (fun q => q (g.mp hc)) p e R s m args below meth c H locs cells slots Z A la X hP hS hL hret)
theorem S_if_lt (l : Launch) (Dd : va_G) (ad : Nat → Nat) (cs : ClassId × ClassId × ClassId) : R_if_lt (PS l Dd ad cs) := by
  intro mr pc ls st M Q x off tgt h0 h1 h2 k0 k1 p e R s m args below meth c H locs cells slots Z A la X hP hS hL hret
  obtain ⟨hx, hb, hml, hown, hts, hWo, hDA, hroom, hscr⟩ := id X
  have g := oi_lt h2 in0
  rw [← oi_0] at g
  exact lv_if_lt hx hb h0 h1 (fun hc => k0 (g.mp hc) p e R s m args below meth c H locs cells slots Z A la X hP hS hL hret) (fun hc => k1 (fun q => hc (g.mpr q)) p e R s m args below meth c H locs cells slots Z A la X hP hS hL hret)
theorem S_icmp_lt (l : Launch) (Dd : va_G) (ad : Nat → Nat) (cs : ClassId × ClassId × ClassId) : R_icmp_lt (PS l Dd ad cs) := by
  intro mr pc ls st M Q x y off tgt h0 h1 h2 h3 k0 k1 p e R s m args below meth c H locs cells slots Z A la X hP hS hL hret
  obtain ⟨hx, hb, hml, hown, hts, hWo, hDA, hroom, hscr⟩ := id X
  have g := oi_lt h2 h3
  exact lv_icmp_lt hx hb h0 h1 (fun hc => k0 (g.mp hc) p e R s m args below meth c H locs cells slots Z A la X hP hS hL hret) (fun hc => k1 (fun q => hc (g.mpr q)) p e R s m args below meth c H locs cells slots Z A la X hP hS hL hret)
theorem S_if_ge (l : Launch) (Dd : va_G) (ad : Nat → Nat) (cs : ClassId × ClassId × ClassId) : R_if_ge (PS l Dd ad cs) := by
  intro mr pc ls st M Q x off tgt h0 h1 h2 k0 k1 p e R s m args below meth c H locs cells slots Z A la X hP hS hL hret
  obtain ⟨hx, hb, hml, hown, hts, hWo, hDA, hroom, hscr⟩ := id X
  have g := oi_le in0 h2
  rw [← oi_0] at g
  exact lv_if_ge hx hb h0 h1 (fun hc => k0 (g.mp hc) p e R s m args below meth c H locs cells slots Z A la X hP hS hL hret) (fun hc => k1 (fun q => hc (g.mpr q)) p e R s m args below meth c H locs cells slots Z A la X hP hS hL hret)
theorem S_icmp_ge (l : Launch) (Dd : va_G) (ad : Nat → Nat) (cs : ClassId × ClassId × ClassId) : R_icmp_ge (PS l Dd ad cs) := by
  intro mr pc ls st M Q x y off tgt h0 h1 h2 h3 k0 k1 p e R s m args below meth c H locs cells slots Z A la X hP hS hL hret
  obtain ⟨hx, hb, hml, hown, hts, hWo, hDA, hroom, hscr⟩ := id X
  have g := oi_le h3 h2
  exact lv_icmp_ge hx hb h0 h1 (fun hc => k0 (g.mp hc) p e R s m args below meth c H locs cells slots Z A la X hP hS hL hret) (fun hc => k1 (fun q => hc (g.mpr q)) p e R s m args below meth c H locs cells slots Z A la X hP hS hL hret)
theorem S_if_gt (l : Launch) (Dd : va_G) (ad : Nat → Nat) (cs : ClassId × ClassId × ClassId) : R_if_gt (PS l Dd ad cs) := by
  intro mr pc ls st M Q x off tgt h0 h1 h2 k0 k1 p e R s m args below meth c H locs cells slots Z A la X hP hS hL hret
  obtain ⟨hx, hb, hml, hown, hts, hWo, hDA, hroom, hscr⟩ := id X
  have g := oi_lt in0 h2
  rw [← oi_0] at g
  exact lv_if_gt hx hb h0 h1 (fun hc => k0 (g.mp hc) p e R s m args below meth c H locs cells slots Z A la X hP hS hL hret) (fun hc => k1 (fun q => hc (g.mpr q)) p e R s m args below meth c H locs cells slots Z A la X hP hS hL hret)
theorem S_icmp_gt (l : Launch) (Dd : va_G) (ad : Nat → Nat) (cs : ClassId × ClassId × ClassId) : R_icmp_gt (PS l Dd ad cs) := by
  intro mr pc ls st M Q x y off tgt h0 h1 h2 h3 k0 k1 p e R s m args below meth c H locs cells slots Z A la X hP hS hL hret
  obtain ⟨hx, hb, hml, hown, hts, hWo, hDA, hroom, hscr⟩ := id X
  have g := oi_lt h3 h2
  exact lv_icmp_gt hx hb h0 h1 (fun hc => k0 (g.mp hc) p e R s m args below meth c H locs cells slots Z A la X hP hS hL hret) (fun hc => k1 (fun q => hc (g.mpr q)) p e R s m args below meth c H locs cells slots Z A la X hP hS hL hret)
theorem S_if_le (l : Launch) (Dd : va_G) (ad : Nat → Nat) (cs : ClassId × ClassId × ClassId) : R_if_le (PS l Dd ad cs) := by
  intro mr pc ls st M Q x off tgt h0 h1 h2 k0 k1 p e R s m args below meth c H locs cells slots Z A la X hP hS hL hret
  obtain ⟨hx, hb, hml, hown, hts, hWo, hDA, hroom, hscr⟩ := id X
  have g := oi_le h2 in0
  rw [← oi_0] at g
  exact lv_if_le hx hb h0 h1 (fun hc => k0 (g.mp hc) p e R s m args below meth c H locs cells slots Z A la X hP hS hL hret) (fun hc => k1 (fun q => hc (g.mpr q)) p e R s m args below meth c H locs cells slots Z A la X hP hS hL hret)
theorem S_icmp_le (l : Launch) (Dd : va_G) (ad : Nat → Nat) (cs : ClassId × ClassId × ClassId) : R_icmp_le (PS l Dd ad cs) := by
  intro mr pc ls st M Q x y off tgt h0 h1 h2 h3 k0 k1 p e R s m args below meth c H locs cells slots Z A la X hP hS hL hret
  obtain ⟨hx, hb, hml, hown, hts, hWo, hDA, hroom, hscr⟩ := id X
  have g := oi_le h2 h3
  exact lv_icmp_le hx hb h0 h1 (fun hc => k0 (g.mp hc) p e R s m args below meth c H locs cells slots Z A la X hP hS hL hret) (fun hc => k1 (fun q => hc (g.mpr q)) p e R s m args below meth c H locs cells slots Z A la X hP hS hL hret)
theorem S_goto (l : Launch) (Dd : va_G) (ad : Nat → Nat) (cs : ClassId × ClassId × ClassId) : R_goto (PS l Dd ad cs) := by
  intro mr pc ls st M Q off tgt h0 h1 k0 p e R s m args below meth c H locs cells slots Z A la X hP hS hL hret
  obtain ⟨hx, hb, hml, hown, hts, hWo, hDA, hroom, hscr⟩ := id X
  exact lv_goto hx hb h0 h1 (k0 p e R s m args below meth c H locs cells slots Z A la X hP hS hL hret)
theorem S_tblO (l : Launch) (Dd : va_G) (ad : Nat → Nat) (cs : ClassId × ClassId × ClassId) : R_tblO (PS l Dd ad cs) := by
  intro mr pc ls st M Q x dflt lo hi offs len tgt h0 h1 h2 h3 k0 p e R s m args below meth c H locs cells slots Z A la X hP hS hL hret
  obtain ⟨hx, hb, hml, hown, hts, hWo, hDA, hroom, hscr⟩ := id X
  have g : (Int32.ofInt x).toInt = x := Int32.toInt_ofInt_of_le (by omega) (by omega)
  exact lv_tableOut hx hb h0 (by rw [g]; exact h2) h3 (k0 p e R s m args below meth c H locs cells slots Z A la X hP hS hL hret)
theorem S_tblI (l : Launch) (Dd : va_G) (ad : Nat → Nat) (cs : ClassId × ClassId × ClassId) : R_tblI (PS l Dd ad cs) := by
  intro mr pc ls st M Q x dflt lo hi off offs len tgt h0 h1 h2 h3 h4 h5 k0 p e R s m args below meth c H locs cells slots Z A la X hP hS hL hret
  obtain ⟨hx, hb, hml, hown, hts, hWo, hDA, hroom, hscr⟩ := id X
  have g : (Int32.ofInt x).toInt = x := Int32.toInt_ofInt_of_le (by omega) (by omega)
  exact lv_tableIn hx hb h0 (by rw [g]; exact h2) (by rw [g]; exact h3) (by rw [g]; exact h4) h5 (k0 p e R s m args below meth c H locs cells slots Z A la X hP hS hL hret)
theorem S_vret (l : Launch) (Dd : va_G) (ad : Nat → Nat) (cs : ClassId × ClassId × ClassId) : R_vret (PS l Dd ad cs) := by
  intro mr pc ls st M Q h0 h1 h2 p e R s m args below meth c H locs cells slots Z A la X hP hS hL hret
  obtain ⟨hx, hb, hml, hown, hts, hWo, hDA, hroom, hscr⟩ := id X
  exact hret none M H locs pc la h2 hP hS (Or.inl ⟨rfl, h0, h1⟩)
theorem S_iret (l : Launch) (Dd : va_G) (ad : Nat → Nat) (cs : ClassId × ClassId × ClassId) : R_iret (PS l Dd ad cs) := by
  intro mr pc ls st M Q x h0 h1 h2 p e R s m args below meth c H locs cells slots Z A la X hP hS hL hret
  obtain ⟨hx, hb, hml, hown, hts, hWo, hDA, hroom, hscr⟩ := id X
  exact hret (some (vI x)) M H locs pc la h2 hP hS (Or.inr ⟨x, rfl, h0, Or.inl h1⟩)
theorem S_zret (l : Launch) (Dd : va_G) (ad : Nat → Nat) (cs : ClassId × ClassId × ClassId) : R_zret (PS l Dd ad cs) := by
  intro mr pc ls st M Q x h0 h1 h2 h3 p e R s m args below meth c H locs cells slots Z A la X hP hS hL hret
  obtain ⟨hx, hb, hml, hown, hts, hWo, hDA, hroom, hscr⟩ := id X
  exact hret (some (vI x)) M H locs pc la h3 hP hS (Or.inr ⟨x, rfl, h0, Or.inr ⟨h1, h2⟩⟩)
theorem S_copy (l : Launch) (Dd : va_G) (ad : Nat → Nat) (cs : ClassId × ClassId × ClassId) : R_copy (PS l Dd ad cs) := by
  intro mr pc ls st M Q ix h0_ h1_ n0 n1 sp dp n h0 h1 h2 h3 h4 h5 h6 h7 h8 h9 k0 p e R s m args below meth c H locs cells slots Z A la X hP hS hL hret
  obtain ⟨hx, hb, hml, hown, hts, hWo, hDA, hroom, hscr⟩ := id X
  have hn0 := kd_n h2
  have hn1 := kd_n h3
  have c1 := oi_clamp h6.1 (by omega)
  have c2 := oi_clamp h6.2.1 (by omega)
  have c3 := oi_clamp h6.2.2.1 (by omega)
  have nn : ∀ z : Int, 0 ≤ z → z < 2147483648 → ¬ Int32.ofInt z < 0 := fun z z0 z1 => by rw [oi_0, oi_lt (by omega) in0]; omega
  refine va_copyi hx hb (hml.trans hL.1.symm) hown (hts _ h1) (hts _ lw_nat.1) (hts _ lw_nat.2.1) (hts _ lw_nat.2.2) hWo.1 hP hDA.D hS h0_ h1_ 0 0 (by rw [wsOf_get h4, ce_0 h2]) (by rw [wsOf_get h5, ce_0 h3]) rfl rfl rfl (nn sp (by omega) (by omega)) (nn dp (by omega) (by omega)) (nn n (by omega) (by omega)) (by rw [c1, c3]; omega) (by rw [c2, c3]; omega) (fun _ _ => rfl) (by omega) (by rw [wt_cat]; omega) h0 (fun H1 locs1 hP1 _ hS1 => ?_)
  rw [wsOf_set (M' := cpy M h0_ h1_ sp dp n) h5 (fun h' hq => by simp [cpy, hq]) (by
    rw [ce_0 h3]
    congr 4
    funext j
    rw [c1, c2, c3]
    simp only [cpy, va_cpy, if_true]
    by_cases g : dp.toNat ≤ j ∧ j < dp.toNat + n.toNat
    · rw [if_pos g, if_pos (by omega)]
      congr 2
      omega
    · rw [if_neg g, if_neg (by omega)])] at hP1
  exact k0 p e R s m args below meth c H1 locs1 cells slots Z A la X hP1 hS1 hL hret
theorem S_mmax (l : Launch) (Dd : va_G) (ad : Nat → Nat) (cs : ClassId × ClassId × ClassId) : R_mmax (PS l Dd ad cs) := by
  intro mr pc ls st M Q ix x y h0 h1 h2 h3 h4 h5 h6 k0 p e R s m args below meth c H locs cells slots Z A la X hP hS hL hret
  obtain ⟨hx, hb, hml, hown, hts, hWo, hDA, hroom, hscr⟩ := id X
  have h : W p l e R s m args below meth c H locs cells slots Z (F0 m (pc + 3) la (.int (Int32.ofInt (if x < y then y else x)) :: st.map (cv ad))) := k0 p e R s m args below meth c H locs cells slots Z A la X hP hS hL hret
  have ee : Int32.ofInt (if x < y then y else x) = if Int32.ofInt x < Int32.ofInt y then Int32.ofInt y else Int32.ofInt x := by
    rw [apply_ite Int32.ofInt]
    simp only [oi_lt h5 h6]
  rw [ee] at h
  exact va_mmax hx hb (hml.trans hL.1.symm) hown (hts _ h1) (hts _ lw_max.1) (hts _ lw_max.2.1) (hts _ lw_max.2.2) (by omega) (by rw [wt_cat]; omega) hroom.2.2.1 hroom.2.2.2 h0 h
theorem S_mmin (l : Launch) (Dd : va_G) (ad : Nat → Nat) (cs : ClassId × ClassId × ClassId) : R_mmin (PS l Dd ad cs) := by
  intro mr pc ls st M Q ix x y h0 h1 h2 h3 h4 h5 h6 k0 p e R s m args below meth c H locs cells slots Z A la X hP hS hL hret
  obtain ⟨hx, hb, hml, hown, hts, hWo, hDA, hroom, hscr⟩ := id X
  have h : W p l e R s m args below meth c H locs cells slots Z (F0 m (pc + 3) la (.int (Int32.ofInt (if y < x then y else x)) :: st.map (cv ad))) := k0 p e R s m args below meth c H locs cells slots Z A la X hP hS hL hret
  have ee : Int32.ofInt (if y < x then y else x) = if Int32.ofInt y < Int32.ofInt x then Int32.ofInt y else Int32.ofInt x := by
    rw [apply_ite Int32.ofInt]
    simp only [oi_lt h6 h5]
  rw [ee] at h
  exact va_mmin hx hb (hml.trans hL.1.symm) hown (hts _ h1) (hts _ lw_min.1) (hts _ lw_min.2.1) (hts _ lw_min.2.2) (by omega) (by rw [wt_cat]; omega) hroom.2.2.1 hroom.2.2.2 h0 h
theorem S_weak (l : Launch) (Dd : va_G) (ad : Nat → Nat) (cs : ClassId × ClassId × ClassId) : R_weak (PS l Dd ad cs) := by
  intro mr pc ls st M Q ls2 h0 k0 p e R s m args below meth c H locs cells slots Z A la X hP hS hL hret
  obtain ⟨hx, hb, hml, hown, hts, hWo, hDA, hroom, hscr⟩ := id X
  exact k0 p e R s m args below meth c H locs cells slots Z A la X hP hS ⟨hL.1, hL.2.1, fun i v hv => hL.2.2 i v (lsub_get ls2 ls h0 i v hv)⟩ hret
theorem met_of {l : Launch} {Dd : va_G} {ad : Nat → Nat} {cs : ClassId × ClassId × ClassId} {cm : MR} {n : Nat} {As : List AV} {M : Mem} {Q1 : Po} (hok : MOK cm n) (hent : (entS As).length ≤ mrN cm) (hk : PS l Dd ad cs cm 0 (entL As (mrN cm)) [] M Q1) :
    Met l (mrY cm) (Cond.code (mrY cm) (mrB cm) (mrN cm) (mrT cm) :: lw_good) { frames := mrF cm, cells := 0, slots := 0, locals := mrL cm } (va_Pc (As.map (cv ad)) (fun U => va_P Dd classes (wsOf ad cs M) U.heap ∧ Wo Dd cs U ∧ DA ad (fun _ => True)))
      (fun _ st oc t => (∃ (r : Option AV) (M1 : Mem), Q1 r M1 ∧ oc = .returned (r.map (cv ad)) ∧ va_P Dd classes (wsOf ad cs M1) t.heap) ∧ va_F (AdA ad) st t) 0 0 (AdA ad) := by
  obtain ⟨o1, o2, o3, o4, o5, o6, o7, o8⟩ := hok
  refine Met.ofW (cc := mrB cm) (maxL := mrN cm) (ret := mrT cm) o1 rfl ?_
  intro p e s m args below meth c s₁ B hml hv
  obtain ⟨rfl, hP, hWo, hDA⟩ := hv
  have hts := atoms_spec (ws := Cond.code (mrY cm) (mrB cm) (mrN cm) (mrT cm) :: lw_good) B.pre
  have hown : s.vm.findClass (cn (mrC cm)) = some m.cls := by rw [o2]; exact findClass_of_methodNamed B.named
  have hlocks := B.notSynchronized
  have hr := B.returns
  rw [lg_entry_eq]
  refine hk p e _ s m _ below meth c s.heap [] 0 0 _ (AdA ad) _ ⟨B.exec, B.bytes, hml, hown, fun w hw => hts w (List.mem_cons_of_mem _ hw), hWo, ⟨hDA.1, fun h hh => ⟨h, hh, rfl⟩⟩, ⟨Nat.le_refl _, Nat.le_refl _, Nat.zero_le _, Nat.zero_le _⟩, fun q => absurd q o8⟩ hP va_S.rf (LR.entry hent) ?_
  intro r M' H' locs' pc' la' hq hP' hS' hat
  rcases hat with ⟨rfl, a1, a2⟩ | ⟨x, rfl, a1, a2⟩
  · exact W.vret B.exec B.bytes (hr.trans a2) (fun t ht hW => ⟨⟨none, M', hq, rfl, by rw [ht]; exact hP'⟩, hS'.F ht⟩) hS'.2.2 a1
  · rcases a2 with a2 | ⟨a2, a3⟩
    · exact W.iret B.exec B.bytes (hr.trans a2) (fun t ht hW => ⟨⟨some (vI x), M', hq, rfl, by rw [ht]; exact hP'⟩, hS'.F ht⟩) hS'.2.2 a1
    · exact W.zret B.exec B.bytes (hr.trans a2) (by rcases a3 with rfl | rfl <;> decide +kernel) (fun t ht hW => ⟨⟨some (vI x), M', hq, rfl, by rw [ht]; exact hP'⟩, hS'.F ht⟩) hS'.2.2 a1
theorem blind_of {Dd : va_G} {ad : Nat → Nat} {cs : ClassId × ClassId × ClassId} {av : List Value} {M : Mem} : FrameBlind (va_Pc av (fun U => va_P Dd classes (wsOf ad cs M) U.heap ∧ Wo Dd cs U ∧ DA ad (fun _ => True))) := by
  intro a U g mk q
  obtain ⟨q0, qP, qW, qD⟩ := q
  exact ⟨q0, qP, Wo.same (s := U) (U := U.calling g mk a) rfl qW, qD⟩
theorem AdA_in {ad : Nat → Nat} {A : Nat → Prop} (h : DA ad A) : ∀ q, AdA ad q → A q := by
  rintro q ⟨k, hk, rfl⟩
  exact h.2 k hk
theorem call_k3 {l : Launch} {Dd : va_G} {ad : Nat → Nat} {cs : ClassId × ClassId × ClassId} {p : Program} {e : Env} {R : Room} {s : State} {m : MethodId} {args : Array Value} {below : List Frame} {meth : Method} {c : Code} {H : Heap} {locs : List Loc} {cells slots : Nat} {Z : State → Prop} {A : Nat → Prop} {la : Array Slot} {pc : Nat} {st0 rest : List Value} {Q1 : Po}
    (hr : va_Run p l e R s m args below meth c H locs cells slots 0 0 (F0 m pc la st0) rest (fun st oc t => (∃ (r : Option AV) (M1 : Mem), Q1 r M1 ∧ oc = .returned (r.map (cv ad)) ∧ va_P Dd classes (wsOf ad cs M1) t.heap) ∧ va_F (AdA ad) st t) (AdA ad)) (hS : va_S A s.heap H locs) (hDA : DA ad A)
    (kk : ∀ (r : Option AV) (M1 : Mem) (H1 : Heap) (locs1 : List Loc), Q1 r M1 → va_P Dd classes (wsOf ad cs M1) H1 → va_S A s.heap H1 locs1 → W p l e R s m args below meth c H1 locs1 cells slots Z (F0 m (pc + 3) la ((r.map (cv ad)).toList ++ rest))) : W p l e R s m args below meth c H locs cells slots Z (F0 m pc la st0) := by
  intro T hT X
  obtain ⟨v, st₀, t, T', L, h0, X', hL, e1, e2, ⟨⟨r, M1, hq, hv, hP1⟩, hz, hk⟩, st⟩ := hr T hT X
  cases hv
  rw [h0] at hz hk
  have hin := AdA_in hDA
  obtain ⟨t2, a1, b1⟩ := kk r M1 T'.heap (locs ++ L) hq (by rw [e1]; exact hP1)
    ⟨Nat.le_trans hS.1 (by rw [e1]; exact hz), fun q h1 h2 => by rw [e1, hk q (Nat.lt_of_lt_of_le h1 hS.1) (fun z => h2 (hin q z))]; exact hS.2.1 q h1 h2, fun q hq => by
      rcases List.mem_append.mp hq with h | h
      · exact hS.2.2 q h
      · exact hin _ (hL q h)⟩ T' rfl X'
  exact ⟨t2, st t2 a1, b1⟩
theorem call_k5 {l : Launch} {Dd : va_G} {ad : Nat → Nat} {cs : ClassId × ClassId × ClassId} {p : Program} {e : Env} {R : Room} {s : State} {m : MethodId} {args : Array Value} {below : List Frame} {meth : Method} {c : Code} {H : Heap} {locs : List Loc} {cells slots : Nat} {Z : State → Prop} {A : Nat → Prop} {la : Array Slot} {pc : Nat} {st0 rest : List Value} {Q1 : Po}
    (hr : va_Run5 p l e R s m args below meth c H locs cells slots 0 0 (F0 m pc la st0) rest (fun st oc t => (∃ (r : Option AV) (M1 : Mem), Q1 r M1 ∧ oc = .returned (r.map (cv ad)) ∧ va_P Dd classes (wsOf ad cs M1) t.heap) ∧ va_F (AdA ad) st t) (AdA ad)) (hS : va_S A s.heap H locs) (hDA : DA ad A)
    (kk : ∀ (r : Option AV) (M1 : Mem) (H1 : Heap) (locs1 : List Loc), Q1 r M1 → va_P Dd classes (wsOf ad cs M1) H1 → va_S A s.heap H1 locs1 → W p l e R s m args below meth c H1 locs1 cells slots Z (F0 m (pc + 5) la ((r.map (cv ad)).toList ++ rest))) : W p l e R s m args below meth c H locs cells slots Z (F0 m pc la st0) := by
  intro T hT X
  obtain ⟨v, st₀, t, T', L, h0, X', hL, e1, e2, ⟨⟨r, M1, hq, hv, hP1⟩, hz, hk⟩, st⟩ := hr T hT X
  cases hv
  rw [h0] at hz hk
  have hin := AdA_in hDA
  obtain ⟨t2, a1, b1⟩ := kk r M1 T'.heap (locs ++ L) hq (by rw [e1]; exact hP1)
    ⟨Nat.le_trans hS.1 (by rw [e1]; exact hz), fun q h1 h2 => by rw [e1, hk q (Nat.lt_of_lt_of_le h1 hS.1) (fun z => h2 (hin q z))]; exact hS.2.1 q h1 h2, fun q hq => by
      rcases List.mem_append.mp hq with h | h
      · exact hS.2.2 q h
      · exact hin _ (hL q h)⟩ T' rfl X'
  exact ⟨t2, st t2 a1, b1⟩
theorem S_callV (l : Launch) (Dd : va_G) (ad : Nat → Nat) (cs : ClassId × ClassId × ClassId) : R_callV (PS l Dd ad cs) := by
  intro mr pc ls st M Q h fs cm ix As Q1 h0 hc hk hh hrm hent hwt k1 k2 p e R s m args below meth c H locs cells slots Z A la X hP hS hL hret
  obtain ⟨hx, hb, hml, hown, hts, hWo, hDA, hroom, hscr⟩ := id X
  obtain ⟨o1, o2, o3, o4, o5, o6, o7, o8⟩ := id hc.1
  have hM := met_of hc.1 hent k1
  have hroom2 : mrF cm + 1 ≤ R.frames ∧ 8 + (mrN cm + 11) + mrL cm ≤ R.locals := ⟨Nat.le_trans hrm.1 hroom.1, Nat.le_trans hrm.2 hroom.2.1⟩
  have hgood : GoodIn lw_good (Cond.code (mrY cm) (mrB cm) (mrN cm) (mrT cm) :: lw_good) := good_all (fun w hw => (List.mem_cons.mp hw).elim (fun q => q ▸ o3) id)
  have hPc : ∀ U : State, U.heap = H → s.WarmedH U.vm → va_P Dd classes (wsOf ad cs M) U.heap ∧ Wo Dd cs U ∧ DA ad (fun _ => True) := fun U hU hW => ⟨by rw [hU]; exact hP, hWo.warm hW, ⟨hDA.1, fun _ _ => trivial⟩⟩
  obtain ⟨Tc, Nc, hcl⟩ := cls_cn (mrC cm) hc.2.1
  have hrecv := va_recv hWo.1 hP hcl (q0 := h) (a := ad h) (fs := fv ad M h fs) (by rw [wsOf_get hh, ce_3 hk])
  dsimp only at hrecv
  rw [o2] at hrecv
  rw [List.map_append, List.map_reverse, List.map_cons]
  have hg : GoodIn lw_good (wsV (cn (mrC mr)) ix (mrY cm).cls (mrY cm) (Cond.code (mrY cm) (mrB cm) (mrN cm) (mrT cm) :: lw_good)) := good_all (fun w hw => by
    unfold wsV at hw
    rcases List.mem_append.mp hw with hw | hw
    · simp only [List.mem_cons, List.not_mem_nil, or_false] at hw
      rcases hw with rfl | rfl | rfl | rfl
      · exact hc.2.2.1
      · exact hc.2.2.2.1
      · exact hc.2.2.2.2
      · exact o4
    · exact (hgood w hw).1)
  refine call_k3 (va_runV (As := As.map (cv ad)) (rest := st.map (cv ad)) (Ts := lw_good) (own := cn (mrC mr)) (C := (mrY cm).cls) (b := ad h) ⟨hx, hb, hml, hown, hts⟩ hM (cwV As.length hts hg rfl rfl rfl ⟨rfl, o5, o6, o7⟩ hroom2) ⟨blind_of, hrecv, fun U hU hW => ⟨rfl, hPc U hU hW⟩⟩ rfl (by simp) hL.1 rfl (lv_room (by rw [wt_cat]; exact hwt)) h0 ⟨hroom.2.2.1, hroom.2.2.2⟩) hS hDA ?_
  exact fun r M1 H1 locs1 hq hP1 hS1 => by
    have g := k2 r M1 hq p e R s m args below meth c H1 locs1 cells slots Z A la X hP1 hS1 hL hret
    rw [List.map_append] at g
    cases r <;> exact g
theorem S_callS (l : Launch) (Dd : va_G) (ad : Nat → Nat) (cs : ClassId × ClassId × ClassId) : R_callS (PS l Dd ad cs) := by
  intro mr pc ls st M Q cm ix As Q1 h0 hc hrm hent hwt k1 k2 p e R s m args below meth c H locs cells slots Z A la X hP hS hL hret
  obtain ⟨hx, hb, hml, hown, hts, hWo, hDA, hroom, hscr⟩ := id X
  obtain ⟨o1, o2, o3, o4, o5, o6, o7, o8⟩ := id hc.1
  have hM := met_of hc.1 hent k1
  have hroom2 : mrF cm + 1 ≤ R.frames ∧ 8 + (mrN cm + 11) + mrL cm ≤ R.locals := ⟨Nat.le_trans hrm.1 hroom.1, Nat.le_trans hrm.2 hroom.2.1⟩
  have hgood : GoodIn lw_good (Cond.code (mrY cm) (mrB cm) (mrN cm) (mrT cm) :: lw_good) := good_all (fun w hw => (List.mem_cons.mp hw).elim (fun q => q ▸ o3) id)
  have hPc : ∀ U : State, U.heap = H → s.WarmedH U.vm → va_P Dd classes (wsOf ad cs M) U.heap ∧ Wo Dd cs U ∧ DA ad (fun _ => True) := fun U hU hW => ⟨by rw [hU]; exact hP, hWo.warm hW, ⟨hDA.1, fun _ _ => trivial⟩⟩
  rw [List.map_append, List.map_reverse]
  have hg : GoodIn lw_good (va_wsS (cn (mrC mr)) ix (mrY cm) (Cond.code (mrY cm) (mrB cm) (mrN cm) (mrT cm) :: lw_good)) := good_all (fun w hw => by
    unfold va_wsS at hw
    rcases List.mem_append.mp hw with hw | hw
    · simp only [List.mem_cons, List.not_mem_nil, or_false] at hw
      rcases hw with rfl | rfl | rfl
      · exact hc.2.1
      · exact hc.2.2
      · exact o4
    · exact (hgood w hw).1)
  refine call_k3 (va_runS (As := As.map (cv ad)) (rest := st.map (cv ad)) (Ts := lw_good) (own := cn (mrC mr)) ⟨hx, hb, hml, hown, hts⟩ hM (va_cwS As.length hts hg rfl rfl rfl ⟨o5, o6, o7⟩ hroom2) ⟨blind_of, fun U hU hW => ⟨rfl, hPc U hU hW⟩⟩ rfl (by simp) hL.1 rfl (lv_room (by rw [wt_cat]; exact hwt)) h0 ⟨hroom.2.2.1, hroom.2.2.2⟩) hS hDA ?_
  exact fun r M1 H1 locs1 hq hP1 hS1 => by
    have g := k2 r M1 hq p e R s m args below meth c H1 locs1 cells slots Z A la X hP1 hS1 hL hret
    rw [List.map_append] at g
    cases r <;> exact g
theorem S_callN (l : Launch) (Dd : va_G) (ad : Nat → Nat) (cs : ClassId × ClassId × ClassId) : R_callN (PS l Dd ad cs) := by
  intro mr pc ls st M Q cm ix As Q1 h0 hc hrm hent hwt k1 k2 p e R s m args below meth c H locs cells slots Z A la X hP hS hL hret
  obtain ⟨hx, hb, hml, hown, hts, hWo, hDA, hroom, hscr⟩ := id X
  obtain ⟨o1, o2, o3, o4, o5, o6, o7, o8⟩ := id hc.1
  have hM := met_of hc.1 hent k1
  have hroom2 : mrF cm + 1 ≤ R.frames ∧ 8 + (mrN cm + 11) + mrL cm ≤ R.locals := ⟨Nat.le_trans hrm.1 hroom.1, Nat.le_trans hrm.2 hroom.2.1⟩
  have hgood : GoodIn lw_good (Cond.code (mrY cm) (mrB cm) (mrN cm) (mrT cm) :: lw_good) := good_all (fun w hw => (List.mem_cons.mp hw).elim (fun q => q ▸ o3) id)
  have hPc : ∀ U : State, U.heap = H → s.WarmedH U.vm → va_P Dd classes (wsOf ad cs M) U.heap ∧ Wo Dd cs U ∧ DA ad (fun _ => True) := fun U hU hW => ⟨by rw [hU]; exact hP, hWo.warm hW, ⟨hDA.1, fun _ _ => trivial⟩⟩
  rw [List.map_append, List.map_reverse]
  refine call_k3 (va_runSN (As := As.map (cv ad)) (rest := st.map (cv ad)) (Ts := lw_good) (own := cn (mrC mr)) (host := nHost) ⟨hx, hb, hml, hown, hts⟩ hM ⟨va_cnB As.length hts hgood rfl rfl rfl (hWo.2.1 _ hc.2.1) (hts _ o4) ⟨o5, o6, o7⟩ hroom2, hts _ hc.2.2, trivial⟩ ⟨blind_of, fun U hU hW => ⟨rfl, hPc U hU hW⟩⟩ rfl (by simp) hL.1 rfl (lv_room (by rw [wt_cat]; exact hwt)) h0 ⟨hroom.2.2.1, hroom.2.2.2⟩) hS hDA ?_
  exact fun r M1 H1 locs1 hq hP1 hS1 => by
    have g := k2 r M1 hq p e R s m args below meth c H1 locs1 cells slots Z A la X hP1 hS1 hL hret
    rw [List.map_append] at g
    cases r <;> exact g
theorem S_callF (l : Launch) (Dd : va_G) (ad : Nat → Nat) (cs : ClassId × ClassId × ClassId) : R_callF (PS l Dd ad cs) := by
  intro mr pc ls st M Q h ct fs cm ix As Q1 h0 hc hk hh hrm hent hwt k1 k2 p e R s m args below meth c H locs cells slots Z A la X hP hS hL hret
  obtain ⟨hx, hb, hml, hown, hts, hWo, hDA, hroom, hscr⟩ := id X
  obtain ⟨o1, o2, o3, o4, o5, o6, o7, o8⟩ := id hc.1
  have hM := met_of hc.1 hent k1
  have hroom2 : mrF cm + 1 ≤ R.frames ∧ 8 + (mrN cm + 11) + mrL cm ≤ R.locals := ⟨Nat.le_trans hrm.1 hroom.1, Nat.le_trans hrm.2 hroom.2.1⟩
  have hgood : GoodIn lw_good (Cond.code (mrY cm) (mrB cm) (mrN cm) (mrT cm) :: lw_good) := good_all (fun w hw => (List.mem_cons.mp hw).elim (fun q => q ▸ o3) id)
  have hPc : ∀ U : State, U.heap = H → s.WarmedH U.vm → va_P Dd classes (wsOf ad cs M) U.heap ∧ Wo Dd cs U ∧ DA ad (fun _ => True) := fun U hU hW => ⟨by rw [hU]; exact hP, hWo.warm hW, ⟨hDA.1, fun _ _ => trivial⟩⟩
  obtain ⟨Tc, Nc, hcl⟩ := cls_cn (mrC cm) hc.2.1
  have hrecv := va_recv hWo.1 hP hcl (q0 := h) (a := ad h) (fs := fv ad M h fs) (by rw [wsOf_get hh, ce_3 hk])
  dsimp only at hrecv
  rw [o2] at hrecv
  rw [List.map_append, List.map_reverse, List.map_cons]
  obtain ⟨c1, c2, c3, c4, c5, c6, c7⟩ := hc
  have hg : GoodIn lw_good (va_wsF (cn (mrC mr)) ix (mrY cm).cls (iX9 ix) (mrY cm) (Cond.code (mrY cm) (mrB cm) (mrN cm) (mrT cm) :: lw_good)) := good_all (fun w hw => by
    unfold va_wsF at hw
    rcases List.mem_append.mp hw with hw | hw
    · simp only [List.mem_cons, List.not_mem_nil, or_false] at hw
      rcases hw with rfl | rfl | rfl | rfl
      · exact c4
      · exact c5
      · exact c6
      · exact o4
    · exact (hgood w hw).1)
  have hKn := hWo.1.1 (mrC cm) _ hcl
  have hat : ClassAt s (mrY cm).cls (Dd.1 (mrC cm)) := by rw [← o2]; exact hKn.2
  have hfo := FWs_ok _ c3
  refine call_k5 (va_runF (As := As.map (cv ad)) (rest := st.map (cv ad)) (Ts := lw_good) (own := cn (mrC mr)) (C := (mrY cm).cls) (x := iX9 ix) (b := ad h) hat ⟨hx, hb, hml, hown, hts⟩ hM (va_cwF As.length hts hg rfl rfl rfl (hWo.2.2 _ c3) ⟨hfo.1, hfo.2, c7⟩ hroom2) ⟨blind_of, hrecv, fun U hU hW => ⟨rfl, hPc U hU hW⟩⟩ rfl (by simp) hL.1 rfl (lv_room (by rw [wt_cat]; exact hwt)) h0 ⟨hroom.2.2.1, hroom.2.2.2⟩) hS hDA ?_
  exact fun r M1 H1 locs1 hq hP1 hS1 => by
    have g := k2 r M1 hq p e R s m args below meth c H1 locs1 cells slots Z A la X hP1 hS1 hL hret
    rw [List.map_append] at g
    cases r <;> exact g
theorem sim_all (l : Launch) (Dd : va_G) (ad : Nat → Nat) (cs : ClassId × ClassId × ClassId) : Rules (PS l Dd ad cs) := ⟨S_iconst l Dd ad cs, S_bipush l Dd ad cs, S_sipush l Dd ad cs, S_ldc l Dd ad cs, S_ldc2 l Dd ad cs, S_lconst l Dd ad cs, S_iload_n l Dd ad cs, S_iload l Dd ad cs, S_lload_n l Dd ad cs, S_lload l Dd ad cs, S_aload_n l Dd ad cs, S_aload l Dd ad cs, S_istore_n l Dd ad cs, S_istore l Dd ad cs, S_lstore_n l Dd ad cs, S_lstore l Dd ad cs, S_astore_n l Dd ad cs, S_astore l Dd ad cs, S_iinc l Dd ad cs, S_iadd l Dd ad cs, S_isub l Dd ad cs, S_imul l Dd ad cs, S_idiv l Dd ad cs, S_irem l Dd ad cs, S_iand l Dd ad cs, S_i2l l Dd ad cs, S_l2i l Dd ad cs, S_ladd l Dd ad cs, S_lmul l Dd ad cs, S_land l Dd ad cs, S_lor l Dd ad cs, S_lshl l Dd ad cs, S_lcmp l Dd ad cs, S_dup l Dd ad cs, S_dup2 l Dd ad cs, S_getR l Dd ad cs, S_getI l Dd ad cs, S_put l Dd ad cs, S_iald l Dd ad cs, S_zald l Dd ad cs, S_lald l Dd ad cs, S_iast l Dd ad cs, S_zast l Dd ad cs, S_last l Dd ad cs, S_alen l Dd ad cs, S_sald l Dd ad cs, S_slen l Dd ad cs, S_if_eq l Dd ad cs, S_icmp_eq l Dd ad cs, S_if_ne l Dd ad cs, S_icmp_ne l Dd ad cs, S_if_lt l Dd ad cs, S_icmp_lt l Dd ad cs, S_if_ge l Dd ad cs, S_icmp_ge l Dd ad cs, S_if_gt l Dd ad cs, S_icmp_gt l Dd ad cs, S_if_le l Dd ad cs, S_icmp_le l Dd ad cs, S_goto l Dd ad cs, S_tblO l Dd ad cs, S_tblI l Dd ad cs, S_vret l Dd ad cs, S_iret l Dd ad cs, S_zret l Dd ad cs, S_callV l Dd ad cs, S_callS l Dd ad cs, S_callN l Dd ad cs, S_callF l Dd ad cs, S_copy l Dd ad cs, S_mmax l Dd ad cs, S_mmin l Dd ad cs, S_weak l Dd ad cs⟩
end
section
theorem tm {w : Cond} (i : Nat) (h : tables_1[i]? = some w) (g : goodWord w = true) : w ∈ lw_good := List.mem_filter.mpr ⟨List.mem_append_right _ (List.mem_of_getElem? h), g⟩
theorem tp {w : Cond} (i : Nat) (h : (k2_sels lw_privs)[i]? = some w) (g : goodWord w = true) : w ∈ lw_good := List.mem_filter.mpr ⟨List.mem_append_left _ (List.mem_of_getElem? h), g⟩
theorem mem_by {ws : List Cond} (ps : List Nat) (h : ws = ps.filterMap (fun i => tables_1[i]?)) (g : ws.all goodWord = true) : ∀ w ∈ ws, w ∈ lw_good := by
  intro w hw
  have hg := List.all_eq_true.mp g w hw
  rw [h] at hw
  obtain ⟨i, -, hi⟩ := List.mem_filterMap.mp hw
  exact tm i hi hg
theorem hin_X0 : ∀ w ∈ u_ws RX0 TX0 6, w ∈ lw_good := mem_by [127, 129, 131, 133, 135, 137] (by decide +kernel) (by decide +kernel)
theorem hin_X1 : ∀ w ∈ u_ws RX1 TX1 3, w ∈ lw_good := mem_by [74, 76, 78] (by decide +kernel) (by decide +kernel)
theorem hin_X2 : ∀ w ∈ u_ws RX2 TX2 10, w ∈ lw_good := mem_by [291, 293, 295, 297, 299, 301, 303, 305, 307, 309] (by decide +kernel) (by decide +kernel)
theorem hin_X3 : ∀ w ∈ u_ws RX3 TX3 2, w ∈ lw_good := mem_by [269, 271] (by decide +kernel) (by decide +kernel)
theorem hin_X4 : ∀ w ∈ u_ws RX4 TX4 5, w ∈ lw_good := mem_by [48, 50, 52, 54, 56] (by decide +kernel) (by decide +kernel)
theorem hin_X5 : ∀ w ∈ u_ws RX5 TX5 8, w ∈ lw_good := mem_by [212, 214, 216, 218, 220, 222, 224, 226] (by decide +kernel) (by decide +kernel)
theorem hin_X6 : ∀ w ∈ u_ws RX6 TX6 7, w ∈ lw_good := mem_by [244, 246, 248, 250, 252, 254, 256] (by decide +kernel) (by decide +kernel)
theorem hin_X7 : ∀ w ∈ u_ws RX7 TX7 8, w ∈ lw_good := mem_by [154, 156, 158, 160, 162, 164, 166, 168] (by decide +kernel) (by decide +kernel)
theorem hin_X8 : ∀ w ∈ u_ws RX8 TX8 4, w ∈ lw_good := mem_by [91, 93, 95, 97] (by decide +kernel) (by decide +kernel)
theorem hin_X10 : ∀ w ∈ u_ws RX10 TX10 6, w ∈ lw_good := mem_by [191, 193, 195, 197, 199, 201] (by decide +kernel) (by decide +kernel)
theorem hin_X11 : ∀ w ∈ u_ws RX11 TX11 9, w ∈ lw_good := mem_by [321, 323, 325, 327, 329, 331, 333, 335, 337] (by decide +kernel) (by decide +kernel)
theorem hin_X12 : ∀ w ∈ u_ws RX12 TX12 42, w ∈ lw_good := mem_by [840, 842, 844, 846, 848, 850, 852, 854, 856, 858, 860, 862, 864, 866, 868, 870, 872, 874, 876, 878, 880, 882, 884, 886, 888, 890, 892, 894, 896, 898, 900, 902, 904, 906, 908, 910, 912, 914, 916, 918, 920, 922] (by decide +kernel) (by decide +kernel)
def mX0_contains : MR := (0, yX0_contains, cX0_contains, 2, (some .boolean), 0, 0, 0, fun _ => 0)
def mX0_addVariable : MR := (0, yX0_addVariable, cX0_addVariable, 3, (some .int), 0, 0, 0, fun _ => 0)
def mX0_addConstructed : MR := (0, yX0_addConstructed, cX0_addConstructed, 6, (some .int), 1, 22, 0, fun _ => 0)
def mX0_fill : MR := (0, yX0_fill, cX0_fill, 3, none, 0, 0, 0, fun _ => 0)
def mX0_isVariable : MR := (0, yX0_isVariable, cX0_isVariable, 2, (some .boolean), 0, 0, 0, fun _ => 0)
def mX0_partTotal : MR := (0, yX0_partTotal, cX0_partTotal, 2, (some .int), 1, 21, 0, fun _ => 0)
def mX0_resolvedPart : MR := (0, yX0_resolvedPart, cX0_resolvedPart, 3, (some .int), 1, 23, 0, fun _ => 0)
def mX0_resolve : MR := (0, yX0_resolve, cX0_resolve, 4, (some .int), 0, 0, 0, fun _ => 0)
def mX0_countBound : MR := (0, yX0_countBound, cX0_countBound, 3, (some .int), 0, 0, 0, fun _ => 0)
def mX1_recompute : MR := (1, yX1_recompute, cX1_recompute, 1, none, 4, 93, 0, fun _ => 0)
def mX1_findSmallest : MR := (1, yX1_findSmallest, cX1_findSmallest, 3, none, 3, 67, 0, fun _ => 0)
def mX1_improveSmallest : MR := (1, yX1_improveSmallest, cX1_improveSmallest, 4, none, 2, 44, 0, fun _ => 0)
def mX1_isUsable : MR := (1, yX1_isUsable, cX1_isUsable, 3, (some .boolean), 1, 22, 0, fun _ => 0)
def mX1_findTotals : MR := (1, yX1_findTotals, cX1_findTotals, 3, none, 3, 71, 0, fun _ => 0)
def mX1_totalOfType : MR := (1, yX1_totalOfType, cX1_totalOfType, 5, (some .int), 2, 47, 0, fun _ => 0)
def mX1_totalOfConstructor : MR := (1, yX1_totalOfConstructor, cX1_totalOfConstructor, 5, (some .int), 1, 23, 0, fun _ => 0)
def mX2_subjectType : MR := (2, yX2_subjectType, cX2_subjectType, 1, (some .int), 0, 0, 0, fun _ => 0)
def mX2_append : MR := (2, yX2_append, cX2_append, 3, (some .int), 0, 0, 0, fun _ => 0)
def mX2_firstFitting : MR := (2, yX2_firstFitting, cX2_firstFitting, 4, (some .int), 5, 125, 0, fun _ => 0)
def mX2_fits : MR := (2, yX2_fits, cX2_fits, 6, (some .boolean), 4, 100, 0, fun _ => 0)
def mX2_fitsAtRoot : MR := (2, yX2_fitsAtRoot, cX2_fitsAtRoot, 6, (some .boolean), 3, 75, 0, fun _ => 0)
def mX2_fitsVariable : MR := (2, yX2_fitsVariable, cX2_fitsVariable, 3, (some .boolean), 0, 0, 0, fun _ => 0)
def mX2_await : MR := (2, yX2_await, cX2_await, 3, none, 0, 0, 0, fun _ => 0)
def mX3_save : MR := (3, yX3_save, cX3_save, 2, none, 1, 26, 0, fun _ => 0)
def mX3_restore : MR := (3, yX3_restore, cX3_restore, 2, none, 1, 26, 0, fun _ => 0)
def mX4_hasType : MR := (4, yX4_hasType, cX4_hasType, 2, (some .boolean), 0, 0, 0, fun _ => 0)
def mX4_hasConstructor : MR := (4, yX4_hasConstructor, cX4_hasConstructor, 2, (some .boolean), 0, 0, 0, fun _ => 0)
def mX4_typeOfArgument : MR := (4, yX4_typeOfArgument, cX4_typeOfArgument, 3, (some .int), 0, 0, 0, fun _ => 0)
def mX4_define : MR := (4, yX4_define, cX4_define, 7, (some .int), 0, 0, 0, fun _ => 0)
def mX5_measure : MR := (5, yX5_measure, cX5_measure, 3, (some .int), 4, 94, 0, fun _ => 0)
def mX5_sizeFromParts : MR := (5, yX5_sizeFromParts, cX5_sizeFromParts, 5, (some .int), 2, 45, 0, fun _ => 0)
def mX5_indexAmongValues : MR := (5, yX5_indexAmongValues, cX5_indexAmongValues, 5, (some .int), 3, 75, 0, fun _ => 0)
def mX5_sameTerm : MR := (5, yX5_sameTerm, cX5_sameTerm, 3, (some .boolean), 4, 94, 0, fun _ => 0)
def mX5_canonicalNode : MR := (5, yX5_canonicalNode, cX5_canonicalNode, 2, (some .int), 4, 94, 0, fun _ => 0)
def mX5_findCanonical : MR := (5, yX5_findCanonical, cX5_findCanonical, 4, none, 3, 68, 0, fun _ => 0)
def mX5_haveEqualParts : MR := (5, yX5_haveEqualParts, cX5_haveEqualParts, 4, (some .boolean), 2, 45, 0, fun _ => 0)
def mX5_isBuiltBy : MR := (5, yX5_isBuiltBy, cX5_isBuiltBy, 3, (some .boolean), 0, 0, 0, fun _ => 0)
def mX5_split : MR := (5, yX5_split, cX5_split, 5, none, 2, 45, 0, fun _ => 0)
def mX6_run : MR := (6, yX6_run, cX6_run, 5, (some .int), 6, 138, 0, fun _ => 0)
def mX6_unifyResolved : MR := (6, yX6_unifyResolved, cX6_unifyResolved, 3, (some .int), 5, 116, 0, fun _ => 0)
def mX6_bindToTerm : MR := (6, yX6_bindToTerm, cX6_bindToTerm, 3, (some .int), 4, 94, 0, fun _ => 0)
def mX6_open : MR := (6, yX6_open, cX6_open, 7, none, 2, 42, 0, fun _ => 0)
def mX6_await : MR := (6, yX6_await, cX6_await, 3, none, 0, 0, 0, fun _ => 0)
def mX7_build : MR := (7, yX7_build, cX7_build, 7, (some .int), 5, 118, 0, fun _ => 0)
def mX7_place : MR := (7, yX7_place, cX7_place, 7, none, 4, 92, 0, fun _ => 0)
def mX7_await : MR := (7, yX7_await, cX7_await, 4, none, 0, 0, 0, fun _ => 0)
def mX8_keyOf : MR := (8, yX8_keyOf, cX8_keyOf, 2, (some .int), 0, 0, 0, fun _ => 0)
def mX8_sizeOfKey : MR := (8, yX8_sizeOfKey, cX8_sizeOfKey, 1, (some .int), 0, 0, 0, fun _ => 0)
def mX8_indexOfKey : MR := (8, yX8_indexOfKey, cX8_indexOfKey, 1, (some .int), 0, 0, 0, fun _ => 0)
def mX8_countOf : MR := (8, yX8_countOf, cX8_countOf, 3, (some .int), 0, 0, 0, fun _ => 0)
def mX8_recompute : MR := (8, yX8_recompute, cX8_recompute, 4, none, 3, 73, 0, fun _ => 0)
def mX8_fillWays : MR := (8, yX8_fillWays, cX8_fillWays, 7, none, 2, 47, 0, fun _ => 0)
def mX8_wayPlace : MR := (8, yX8_wayPlace, cX8_wayPlace, 3, (some .int), 0, 0, 0, fun _ => 0)
def mX8_waysOf : MR := (8, yX8_waysOf, cX8_waysOf, 4, (some .int), 1, 22, 0, fun _ => 0)
def mX8_waysOfSplit : MR := (8, yX8_waysOfSplit, cX8_waysOfSplit, 5, (some .int), 1, 23, 0, fun _ => 0)
def mX8_isBuiltBy : MR := (8, yX8_isBuiltBy, cX8_isBuiltBy, 5, (some .boolean), 2, 45, 0, fun _ => 0)
def mX8_rootOf : MR := (8, yX8_rootOf, cX8_rootOf, 4, (some .int), 3, 69, 0, fun _ => 0)
def mX8_split : MR := (8, yX8_split, cX8_split, 9, none, 2, 47, 0, fun _ => 0)
def mX8_indexOf : MR := (8, yX8_indexOf, cX8_indexOf, 9, (some .int), 2, 47, 0, fun _ => 0)
def mX10_begin : MR := (9, yX10_begin, cX10_begin, 1, none, 0, 0, 0, fun _ => 0)
def mX10_hasListed : MR := (9, yX10_hasListed, cX10_hasListed, 2, (some .boolean), 0, 0, 0, fun _ => 0)
def mX10_visit : MR := (9, yX10_visit, cX10_visit, 7, none, 3, 68, 0, fun _ => 0)
def mX10_unlistedPart : MR := (9, yX10_unlistedPart, cX10_unlistedPart, 4, (some .int), 2, 45, 0, fun _ => 0)
def mX10_list : MR := (9, yX10_list, cX10_list, 2, none, 0, 0, 0, fun _ => 0)
def mX11_addType : MR := (10, yX11_addType, cX11_addType, 2, (some .int), 0, 0, 0, fun _ => 0)
def mX11_addConstructor : MR := (10, yX11_addConstructor, cX11_addConstructor, 7, (some .int), 5, 113, 0, fun _ => 0)
def mX11_resultType : MR := (10, yX11_resultType, cX11_resultType, 2, (some .int), 1, 21, 0, fun _ => 0)
def mX11_arity : MR := (10, yX11_arity, cX11_arity, 2, (some .int), 1, 21, 0, fun _ => 0)
def mX11_argumentType : MR := (10, yX11_argumentType, cX11_argumentType, 3, (some .int), 1, 22, 0, fun _ => 0)
def mX11_cardinality : MR := (10, yX11_cardinality, cX11_cardinality, 2, (some .int), 1, 21, 0, fun _ => 0)
def mX11_smallestSize : MR := (10, yX11_smallestSize, cX11_smallestSize, 2, (some .int), 1, 21, 0, fun _ => 0)
def mX11_count : MR := (10, yX11_count, cX11_count, 3, (some .int), 1, 22, 0, fun _ => 0)
def mX11_value : MR := (10, yX11_value, cX11_value, 4, (some .int), 6, 144, 0, fun _ => 0)
def mX11_variable : MR := (10, yX11_variable, cX11_variable, 2, (some .int), 1, 22, 0, fun _ => 0)
def mX11_term : MR := (10, yX11_term, cX11_term, 6, (some .int), 2, 47, 0, fun _ => 0)
def mX11_nodeCount : MR := (10, yX11_nodeCount, cX11_nodeCount, 1, (some .int), 0, 0, 0, fun _ => 0)
def mX11_nodeType : MR := (10, yX11_nodeType, cX11_nodeType, 2, (some .int), 1, 21, 0, fun _ => 0)
def mX11_head : MR := (10, yX11_head, cX11_head, 3, (some .int), 1, 23, 0, fun _ => 0)
def mX11_child : MR := (10, yX11_child, cX11_child, 4, (some .int), 2, 42, 0, fun _ => 0)
def mX11_binding : MR := (10, yX11_binding, cX11_binding, 2, (some .int), 1, 21, 0, fun _ => 0)
def mX11_size : MR := (10, yX11_size, cX11_size, 2, (some .int), 5, 116, 0, fun _ => 0)
def mX11_rank : MR := (10, yX11_rank, cX11_rank, 4, (some .int), 5, 116, 0, fun _ => 0)
def mX11_equal : MR := (10, yX11_equal, cX11_equal, 3, (some .int), 5, 116, 0, fun _ => 0)
def mX11_unify : MR := (10, yX11_unify, cX11_unify, 3, (some .int), 7, 162, 0, fun _ => 0)
def mX11_boundCount : MR := (10, yX11_boundCount, cX11_boundCount, 1, (some .int), 1, 22, 0, fun _ => 0)
def mX11_unbindAll : MR := (10, yX11_unbindAll, cX11_unbindAll, 2, (some .int), 1, 23, 0, fun _ => 0)
def mX11_push : MR := (10, yX11_push, cX11_push, 1, (some .int), 2, 47, 0, fun _ => 0)
def mX11_pop : MR := (10, yX11_pop, cX11_pop, 1, (some .int), 2, 47, 0, fun _ => 0)
def mX11_addRow : MR := (10, yX11_addRow, cX11_addRow, 2, (some .int), 1, 22, 0, fun _ => 0)
def mX11_clearRows : MR := (10, yX11_clearRows, cX11_clearRows, 2, (some .int), 0, 0, 0, fun _ => 0)
def mX11_firstMatch : MR := (10, yX11_firstMatch, cX11_firstMatch, 3, (some .int), 6, 148, 0, fun _ => 0)
def mX11_uncovered : MR := (10, yX11_uncovered, cX11_uncovered, 2, (some .int), 7, 173, 0, fun _ => 0)
def mX11_firstUncovered : MR := (10, yX11_firstUncovered, cX11_firstUncovered, 4, (some .int), 7, 171, 0, fun _ => 0)
def mX11_coveredBy : MR := (10, yX11_coveredBy, cX11_coveredBy, 3, (some .int), 7, 173, 0, fun _ => 0)
def mX11_countFirstFitting : MR := (10, yX11_countFirstFitting, cX11_countFirstFitting, 6, (some .int), 6, 148, 0, fun _ => 0)
def mX11_firstIndexUncovered : MR := (10, yX11_firstIndexUncovered, cX11_firstIndexUncovered, 4, (some .int), 6, 148, 0, fun _ => 0)
def mX11_limitedSum : MR := (10, yX11_limitedSum, cX11_limitedSum, 3, (some .int), 0, 0, 0, fun _ => 0)
def mX11_limitedProduct : MR := (10, yX11_limitedProduct, cX11_limitedProduct, 4, (some .int), 0, 0, 0, fun _ => 0)
def mX12_in : MR := (11, yX12_in, cX12_in, 3, (some .boolean), 0, 0, 0, fun _ => 0)
def mX12_isType : MR := (11, yX12_isType, cX12_isType, 2, (some .boolean), 1, 22, 0, fun _ => 0)
def mX12_isConstructor : MR := (11, yX12_isConstructor, cX12_isConstructor, 2, (some .boolean), 1, 22, 0, fun _ => 0)
def mX12_isNode : MR := (11, yX12_isNode, cX12_isNode, 2, (some .boolean), 1, 22, 0, fun _ => 0)
def mX12_capped : MR := (11, yX12_capped, cX12_capped, 2, (some .int), 0, 0, 0, fun _ => 0)
def mX12_addType : MR := (11, yX12_addType, cX12_addType, 1, (some .int), 0, 0, 0, fun _ => 0)
def mX12_addConstructor : MR := (11, yX12_addConstructor, cX12_addConstructor, 6, (some .int), 2, 43, 0, fun _ => 0)
def mX12_resultType : MR := (11, yX12_resultType, cX12_resultType, 2, (some .int), 2, 43, 0, fun _ => 0)
def mX12_arity : MR := (11, yX12_arity, cX12_arity, 2, (some .int), 2, 43, 0, fun _ => 0)
def mX12_argumentType : MR := (11, yX12_argumentType, cX12_argumentType, 3, (some .int), 2, 43, 0, fun _ => 0)
def mX12_laySmallest : MR := (11, yX12_laySmallest, cX12_laySmallest, 5, none, 1, 24, 0, fun _ => 0)
def mX12_sizeBy : MR := (11, yX12_sizeBy, cX12_sizeBy, 5, (some .int), 0, 0, 0, fun _ => 0)
def mX12_layWithin : MR := (11, yX12_layWithin, cX12_layWithin, 4, none, 2, 48, 0, fun _ => 0)
def mX12_isInfinite : MR := (11, yX12_isInfinite, cX12_isInfinite, 4, (some .boolean), 0, 0, 0, fun _ => 0)
def mX12_layAll : MR := (11, yX12_layAll, cX12_layAll, 6, none, 2, 44, 0, fun _ => 0)
def mX12_allBy : MR := (11, yX12_allBy, cX12_allBy, 4, (some .int), 1, 21, 0, fun _ => 0)
def mX12_cardinality : MR := (11, yX12_cardinality, cX12_cardinality, 2, (some .int), 3, 71, 0, fun _ => 0)
def mX12_smallestSize : MR := (11, yX12_smallestSize, cX12_smallestSize, 2, (some .int), 2, 48, 0, fun _ => 0)
def mX12_way : MR := (11, yX12_way, cX12_way, 3, (some .int), 0, 0, 0, fun _ => 0)
def mX12_countOf : MR := (11, yX12_countOf, cX12_countOf, 3, (some .int), 0, 0, 0, fun _ => 0)
def mX12_layWays : MR := (11, yX12_layWays, cX12_layWays, 8, none, 1, 22, 0, fun _ => 0)
def mX12_layCounts : MR := (11, yX12_layCounts, cX12_layCounts, 4, none, 2, 49, 0, fun _ => 0)
def mX12_count : MR := (11, yX12_count, cX12_count, 3, (some .int), 3, 72, 0, fun _ => 0)
def mX12_share : MR := (11, yX12_share, cX12_share, 11, none, 2, 47, 0, fun _ => 0)
def mX12_blockOf : MR := (11, yX12_blockOf, cX12_blockOf, 6, (some .int), 1, 22, 0, fun _ => 0)
def mX12_layValue : MR := (11, yX12_layValue, cX12_layValue, 10, none, 3, 77, 0, fun _ => 0)
def mX12_layParts : MR := (11, yX12_layParts, cX12_layParts, 4, none, 0, 0, 0, fun _ => 0)
def mX12_addNode : MR := (11, yX12_addNode, cX12_addNode, 6, (some .int), 0, 0, 0, fun _ => 0)
def mX12_makeNodes : MR := (11, yX12_makeNodes, cX12_makeNodes, 5, (some .int), 1, 25, 0, fun _ => 0)
def mX12_value : MR := (11, yX12_value, cX12_value, 4, (some .int), 4, 106, 0, fun _ => 0)
def mX12_variable : MR := (11, yX12_variable, cX12_variable, 2, (some .int), 2, 43, 0, fun _ => 0)
def mX12_wrongChild : MR := (11, yX12_wrongChild, cX12_wrongChild, 4, (some .int), 2, 43, 0, fun _ => 0)
def mX12_term : MR := (11, yX12_term, cX12_term, 8, (some .int), 3, 66, 0, fun _ => 0)
def mX12_nodeCount : MR := (11, yX12_nodeCount, cX12_nodeCount, 1, (some .int), 0, 0, 0, fun _ => 0)
def mX12_nodeType : MR := (11, yX12_nodeType, cX12_nodeType, 2, (some .int), 2, 43, 0, fun _ => 0)
def mX12_resolved : MR := (11, yX12_resolved, cX12_resolved, 3, (some .int), 0, 0, 0, fun _ => 0)
def mX12_manyOf : MR := (11, yX12_manyOf, cX12_manyOf, 2, (some .int), 0, 0, 0, fun _ => 0)
def mX12_head : MR := (11, yX12_head, cX12_head, 2, (some .int), 2, 43, 0, fun _ => 0)
def mX12_child : MR := (11, yX12_child, cX12_child, 4, (some .int), 2, 43, 0, fun _ => 0)
def mX12_binding : MR := (11, yX12_binding, cX12_binding, 2, (some .int), 2, 43, 0, fun _ => 0)
def mX12_laySizes : MR := (11, yX12_laySizes, cX12_laySizes, 3, none, 2, 48, 0, fun _ => 0)
def mX12_sizeNow : MR := (11, yX12_sizeNow, cX12_sizeNow, 8, (some .int), 1, 21, 0, fun _ => 0)
def mX12_size : MR := (11, yX12_size, cX12_size, 2, (some .int), 3, 70, 0, fun _ => 0)
def mX12_rankNow : MR := (11, yX12_rankNow, cX12_rankNow, 10, (some .int), 2, 47, 0, fun _ => 0)
def mX12_layRanks : MR := (11, yX12_layRanks, cX12_layRanks, 3, none, 3, 76, 0, fun _ => 0)
def mX12_rank : MR := (11, yX12_rank, cX12_rank, 2, (some .int), 4, 98, 0, fun _ => 0)
def mX12_beginPairs : MR := (11, yX12_beginPairs, cX12_beginPairs, 4, none, 0, 0, 0, fun _ => 0)
def mX12_pushChildren : MR := (11, yX12_pushChildren, cX12_pushChildren, 4, none, 1, 21, 0, fun _ => 0)
def mX12_equal : MR := (11, yX12_equal, cX12_equal, 5, (some .int), 2, 44, 0, fun _ => 0)
def mX12_bind : MR := (11, yX12_bind, cX12_bind, 3, none, 0, 0, 0, fun _ => 0)
def mX12_occurs : MR := (11, yX12_occurs, cX12_occurs, 6, (some .boolean), 1, 22, 0, fun _ => 0)
def mX12_unifyNow : MR := (11, yX12_unifyNow, cX12_unifyNow, 7, (some .int), 2, 47, 0, fun _ => 0)
def mX12_unify : MR := (11, yX12_unify, cX12_unify, 7, (some .int), 3, 73, 0, fun _ => 0)
def mX12_boundCount : MR := (11, yX12_boundCount, cX12_boundCount, 3, (some .int), 0, 0, 0, fun _ => 0)
def mX12_unbindAll : MR := (11, yX12_unbindAll, cX12_unbindAll, 3, (some .int), 1, 22, 0, fun _ => 0)
def mX12_push : MR := (11, yX12_push, cX12_push, 2, (some .int), 0, 0, 0, fun _ => 0)
def mX12_pop : MR := (11, yX12_pop, cX12_pop, 2, (some .int), 0, 0, 0, fun _ => 0)
def mX12_addRow : MR := (11, yX12_addRow, cX12_addRow, 2, (some .int), 2, 43, 0, fun _ => 0)
def mX12_clearRows : MR := (11, yX12_clearRows, cX12_clearRows, 2, (some .int), 0, 0, 0, fun _ => 0)
def mX12_areSame : MR := (11, yX12_areSame, cX12_areSame, 5, (some .boolean), 0, 0, 0, fun _ => 0)
def mX12_matches : MR := (11, yX12_matches, cX12_matches, 6, (some .boolean), 1, 24, 0, fun _ => 0)
def mX12_matchNow : MR := (11, yX12_matchNow, cX12_matchNow, 2, (some .int), 2, 49, 0, fun _ => 0)
def mX12_layTerm : MR := (11, yX12_layTerm, cX12_layTerm, 5, none, 1, 23, 0, fun _ => 0)
def mX12_firstMatch : MR := (11, yX12_firstMatch, cX12_firstMatch, 2, (some .int), 3, 70, 0, fun _ => 0)
def mX12_subject : MR := (11, yX12_subject, cX12_subject, 1, (some .int), 0, 0, 0, fun _ => 0)
def mX12_countMatched : MR := (11, yX12_countMatched, cX12_countMatched, 6, (some .int), 4, 106, 0, fun _ => 0)
def mX12_uncovered : MR := (11, yX12_uncovered, cX12_uncovered, 2, (some .int), 5, 131, 0, fun _ => 0)
def mX12_firstUncovered : MR := (11, yX12_firstUncovered, cX12_firstUncovered, 4, (some .int), 4, 106, 0, fun _ => 0)
def mX12_coveredBy : MR := (11, yX12_coveredBy, cX12_coveredBy, 3, (some .int), 5, 131, 0, fun _ => 0)
def mJ7_fill_d0a16 : MR := (14, yJ7_fill_d0a16, cJ7_fill_d0a16, 5, none, 0, 0, 0, fun _ => 0)
def mJ7_fill_53178 : MR := (14, yJ7_fill_53178, cJ7_fill_53178, 4, none, 0, 0, 0, fun _ => 0)
def mL_law (n : Nat) (xs : Nat → Int) : MR := (13, yL_law, cL_law, 4, some .boolean, 8, 195, n, xs)
theorem ok_X0_contains : MOK mX0_contains 1 := ⟨by decide +kernel, rfl, (tm 514 (by decide +kernel) rfl), (tm 6 (by decide +kernel) rfl), by decide +kernel, by decide +kernel, by decide +kernel, by decide⟩
theorem ok_X0_addVariable : MOK mX0_addVariable 1 := ⟨by decide +kernel, rfl, (tm 506 (by decide +kernel) rfl), (tm 6 (by decide +kernel) rfl), by decide +kernel, by decide +kernel, by decide +kernel, by decide⟩
theorem ok_X0_addConstructed : MOK mX0_addConstructed 4 := ⟨by decide +kernel, rfl, (tm 518 (by decide +kernel) rfl), (tm 6 (by decide +kernel) rfl), by decide +kernel, by decide +kernel, by decide +kernel, by decide⟩
theorem ok_X0_fill : MOK mX0_fill 2 := ⟨by decide +kernel, rfl, (tm 489 (by decide +kernel) rfl), (tm 6 (by decide +kernel) rfl), by decide +kernel, by decide +kernel, by decide +kernel, by decide⟩
theorem ok_X0_isVariable : MOK mX0_isVariable 1 := ⟨by decide +kernel, rfl, (tm 539 (by decide +kernel) rfl), (tm 6 (by decide +kernel) rfl), by decide +kernel, by decide +kernel, by decide +kernel, by decide⟩
theorem ok_X0_partTotal : MOK mX0_partTotal 1 := ⟨by decide +kernel, rfl, (tm 547 (by decide +kernel) rfl), (tm 6 (by decide +kernel) rfl), by decide +kernel, by decide +kernel, by decide +kernel, by decide⟩
theorem ok_X0_resolvedPart : MOK mX0_resolvedPart 2 := ⟨by decide +kernel, rfl, (tm 583 (by decide +kernel) rfl), (tm 6 (by decide +kernel) rfl), by decide +kernel, by decide +kernel, by decide +kernel, by decide⟩
theorem ok_X0_resolve : MOK mX0_resolve 1 := ⟨by decide +kernel, rfl, (tm 535 (by decide +kernel) rfl), (tm 6 (by decide +kernel) rfl), by decide +kernel, by decide +kernel, by decide +kernel, by decide⟩
theorem ok_X0_countBound : MOK mX0_countBound 0 := ⟨by decide +kernel, rfl, (tm 674 (by decide +kernel) rfl), (tm 6 (by decide +kernel) rfl), by decide +kernel, by decide +kernel, by decide +kernel, by decide⟩
theorem ok_X1_recompute : MOK mX1_recompute 0 := ⟨by decide +kernel, rfl, (tm 359 (by decide +kernel) rfl), (tm 3 (by decide +kernel) rfl), by decide +kernel, by decide +kernel, by decide +kernel, by decide⟩
theorem ok_X1_findSmallest : MOK mX1_findSmallest 0 := ⟨by decide +kernel, rfl, (tm 363 (by decide +kernel) rfl), (tm 3 (by decide +kernel) rfl), by decide +kernel, by decide +kernel, by decide +kernel, by decide⟩
theorem ok_X1_improveSmallest : MOK mX1_improveSmallest 1 := ⟨by decide +kernel, rfl, (tm 367 (by decide +kernel) rfl), (tm 3 (by decide +kernel) rfl), by decide +kernel, by decide +kernel, by decide +kernel, by decide⟩
theorem ok_X1_isUsable : MOK mX1_isUsable 1 := ⟨by decide +kernel, rfl, (tm 371 (by decide +kernel) rfl), (tm 3 (by decide +kernel) rfl), by decide +kernel, by decide +kernel, by decide +kernel, by decide⟩
theorem ok_X1_findTotals : MOK mX1_findTotals 0 := ⟨by decide +kernel, rfl, (tm 379 (by decide +kernel) rfl), (tm 3 (by decide +kernel) rfl), by decide +kernel, by decide +kernel, by decide +kernel, by decide⟩
theorem ok_X1_totalOfType : MOK mX1_totalOfType 1 := ⟨by decide +kernel, rfl, (tm 383 (by decide +kernel) rfl), (tm 3 (by decide +kernel) rfl), by decide +kernel, by decide +kernel, by decide +kernel, by decide⟩
theorem ok_X1_totalOfConstructor : MOK mX1_totalOfConstructor 1 := ⟨by decide +kernel, rfl, (tm 387 (by decide +kernel) rfl), (tm 3 (by decide +kernel) rfl), by decide +kernel, by decide +kernel, by decide +kernel, by decide⟩
theorem ok_X2_subjectType : MOK mX2_subjectType 0 := ⟨by decide +kernel, rfl, (tm 704 (by decide +kernel) rfl), (tm 12 (by decide +kernel) rfl), by decide +kernel, by decide +kernel, by decide +kernel, by decide⟩
theorem ok_X2_append : MOK mX2_append 1 := ⟨by decide +kernel, rfl, (tm 708 (by decide +kernel) rfl), (tm 12 (by decide +kernel) rfl), by decide +kernel, by decide +kernel, by decide +kernel, by decide⟩
theorem ok_X2_firstFitting : MOK mX2_firstFitting 2 := ⟨by decide +kernel, rfl, (tm 724 (by decide +kernel) rfl), (tm 12 (by decide +kernel) rfl), by decide +kernel, by decide +kernel, by decide +kernel, by decide⟩
theorem ok_X2_fits : MOK mX2_fits 3 := ⟨by decide +kernel, rfl, (tm 728 (by decide +kernel) rfl), (tm 12 (by decide +kernel) rfl), by decide +kernel, by decide +kernel, by decide +kernel, by decide⟩
theorem ok_X2_fitsAtRoot : MOK mX2_fitsAtRoot 3 := ⟨by decide +kernel, rfl, (tm 738 (by decide +kernel) rfl), (tm 12 (by decide +kernel) rfl), by decide +kernel, by decide +kernel, by decide +kernel, by decide⟩
theorem ok_X2_fitsVariable : MOK mX2_fitsVariable 2 := ⟨by decide +kernel, rfl, (tm 743 (by decide +kernel) rfl), (tm 12 (by decide +kernel) rfl), by decide +kernel, by decide +kernel, by decide +kernel, by decide⟩
theorem ok_X2_await : MOK mX2_await 2 := ⟨by decide +kernel, rfl, (tm 732 (by decide +kernel) rfl), (tm 12 (by decide +kernel) rfl), by decide +kernel, by decide +kernel, by decide +kernel, by decide⟩
theorem ok_X3_save : MOK mX3_save 1 := ⟨by decide +kernel, rfl, (tm 687 (by decide +kernel) rfl), (tm 11 (by decide +kernel) rfl), by decide +kernel, by decide +kernel, by decide +kernel, by decide⟩
theorem ok_X3_restore : MOK mX3_restore 1 := ⟨by decide +kernel, rfl, (tm 696 (by decide +kernel) rfl), (tm 11 (by decide +kernel) rfl), by decide +kernel, by decide +kernel, by decide +kernel, by decide⟩
theorem ok_X4_hasType : MOK mX4_hasType 1 := ⟨by decide +kernel, rfl, (tm 351 (by decide +kernel) rfl), (tm 2 (by decide +kernel) rfl), by decide +kernel, by decide +kernel, by decide +kernel, by decide⟩
theorem ok_X4_hasConstructor : MOK mX4_hasConstructor 1 := ⟨by decide +kernel, rfl, (tm 426 (by decide +kernel) rfl), (tm 2 (by decide +kernel) rfl), by decide +kernel, by decide +kernel, by decide +kernel, by decide⟩
theorem ok_X4_typeOfArgument : MOK mX4_typeOfArgument 2 := ⟨by decide +kernel, rfl, (tm 375 (by decide +kernel) rfl), (tm 2 (by decide +kernel) rfl), by decide +kernel, by decide +kernel, by decide +kernel, by decide⟩
theorem ok_X4_define : MOK mX4_define 5 := ⟨by decide +kernel, rfl, (tm 355 (by decide +kernel) rfl), (tm 2 (by decide +kernel) rfl), by decide +kernel, by decide +kernel, by decide +kernel, by decide⟩
theorem ok_X5_measure : MOK mX5_measure 1 := ⟨by decide +kernel, rfl, (tm 560 (by decide +kernel) rfl), (tm 8 (by decide +kernel) rfl), by decide +kernel, by decide +kernel, by decide +kernel, by decide⟩
theorem ok_X5_sizeFromParts : MOK mX5_sizeFromParts 1 := ⟨by decide +kernel, rfl, (tm 592 (by decide +kernel) rfl), (tm 8 (by decide +kernel) rfl), by decide +kernel, by decide +kernel, by decide +kernel, by decide⟩
theorem ok_X5_indexAmongValues : MOK mX5_indexAmongValues 1 := ⟨by decide +kernel, rfl, (tm 605 (by decide +kernel) rfl), (tm 8 (by decide +kernel) rfl), by decide +kernel, by decide +kernel, by decide +kernel, by decide⟩
theorem ok_X5_sameTerm : MOK mX5_sameTerm 2 := ⟨by decide +kernel, rfl, (tm 617 (by decide +kernel) rfl), (tm 8 (by decide +kernel) rfl), by decide +kernel, by decide +kernel, by decide +kernel, by decide⟩
theorem ok_X5_canonicalNode : MOK mX5_canonicalNode 1 := ⟨by decide +kernel, rfl, (tm 720 (by decide +kernel) rfl), (tm 8 (by decide +kernel) rfl), by decide +kernel, by decide +kernel, by decide +kernel, by decide⟩
theorem ok_X5_findCanonical : MOK mX5_findCanonical 0 := ⟨by decide +kernel, rfl, (tm 621 (by decide +kernel) rfl), (tm 8 (by decide +kernel) rfl), by decide +kernel, by decide +kernel, by decide +kernel, by decide⟩
theorem ok_X5_haveEqualParts : MOK mX5_haveEqualParts 2 := ⟨by decide +kernel, rfl, (tm 625 (by decide +kernel) rfl), (tm 8 (by decide +kernel) rfl), by decide +kernel, by decide +kernel, by decide +kernel, by decide⟩
theorem ok_X5_isBuiltBy : MOK mX5_isBuiltBy 2 := ⟨by decide +kernel, rfl, (tm 753 (by decide +kernel) rfl), (tm 8 (by decide +kernel) rfl), by decide +kernel, by decide +kernel, by decide +kernel, by decide⟩
theorem ok_X5_split : MOK mX5_split 3 := ⟨by decide +kernel, rfl, (tm 766 (by decide +kernel) rfl), (tm 8 (by decide +kernel) rfl), by decide +kernel, by decide +kernel, by decide +kernel, by decide⟩
theorem ok_X6_run : MOK mX6_run 2 := ⟨by decide +kernel, rfl, (tm 633 (by decide +kernel) rfl), (tm 10 (by decide +kernel) rfl), by decide +kernel, by decide +kernel, by decide +kernel, by decide⟩
theorem ok_X6_unifyResolved : MOK mX6_unifyResolved 2 := ⟨by decide +kernel, rfl, (tm 649 (by decide +kernel) rfl), (tm 10 (by decide +kernel) rfl), by decide +kernel, by decide +kernel, by decide +kernel, by decide⟩
theorem ok_X6_bindToTerm : MOK mX6_bindToTerm 2 := ⟨by decide +kernel, rfl, (tm 658 (by decide +kernel) rfl), (tm 10 (by decide +kernel) rfl), by decide +kernel, by decide +kernel, by decide +kernel, by decide⟩
theorem ok_X6_open : MOK mX6_open 2 := ⟨by decide +kernel, rfl, (tm 665 (by decide +kernel) rfl), (tm 10 (by decide +kernel) rfl), by decide +kernel, by decide +kernel, by decide +kernel, by decide⟩
theorem ok_X6_await : MOK mX6_await 2 := ⟨by decide +kernel, rfl, (tm 643 (by decide +kernel) rfl), (tm 10 (by decide +kernel) rfl), by decide +kernel, by decide +kernel, by decide +kernel, by decide⟩
theorem ok_X7_build : MOK mX7_build 3 := ⟨by decide +kernel, rfl, (tm 459 (by decide +kernel) rfl), (tm 7 (by decide +kernel) rfl), by decide +kernel, by decide +kernel, by decide +kernel, by decide⟩
theorem ok_X7_place : MOK mX7_place 4 := ⟨by decide +kernel, rfl, (tm 471 (by decide +kernel) rfl), (tm 7 (by decide +kernel) rfl), by decide +kernel, by decide +kernel, by decide +kernel, by decide⟩
theorem ok_X7_await : MOK mX7_await 3 := ⟨by decide +kernel, rfl, (tm 467 (by decide +kernel) rfl), (tm 7 (by decide +kernel) rfl), by decide +kernel, by decide +kernel, by decide +kernel, by decide⟩
theorem ok_X8_keyOf : MOK mX8_keyOf 2 := ⟨by decide +kernel, rfl, (tm 462 (by decide +kernel) rfl), (tm 5 (by decide +kernel) rfl), by decide +kernel, by decide +kernel, by decide +kernel, by decide⟩
theorem ok_X8_sizeOfKey : MOK mX8_sizeOfKey 1 := ⟨by decide +kernel, rfl, (tm 482 (by decide +kernel) rfl), (tm 5 (by decide +kernel) rfl), by decide +kernel, by decide +kernel, by decide +kernel, by decide⟩
theorem ok_X8_indexOfKey : MOK mX8_indexOfKey 1 := ⟨by decide +kernel, rfl, (tm 485 (by decide +kernel) rfl), (tm 5 (by decide +kernel) rfl), by decide +kernel, by decide +kernel, by decide +kernel, by decide⟩
theorem ok_X8_countOf : MOK mX8_countOf 2 := ⟨by decide +kernel, rfl, (tm 451 (by decide +kernel) rfl), (tm 5 (by decide +kernel) rfl), by decide +kernel, by decide +kernel, by decide +kernel, by decide⟩
theorem ok_X8_recompute : MOK mX8_recompute 0 := ⟨by decide +kernel, rfl, (tm 399 (by decide +kernel) rfl), (tm 5 (by decide +kernel) rfl), by decide +kernel, by decide +kernel, by decide +kernel, by decide⟩
theorem ok_X8_fillWays : MOK mX8_fillWays 2 := ⟨by decide +kernel, rfl, (tm 404 (by decide +kernel) rfl), (tm 5 (by decide +kernel) rfl), by decide +kernel, by decide +kernel, by decide +kernel, by decide⟩
theorem ok_X8_wayPlace : MOK mX8_wayPlace 3 := ⟨by decide +kernel, rfl, (tm 407 (by decide +kernel) rfl), (tm 5 (by decide +kernel) rfl), by decide +kernel, by decide +kernel, by decide +kernel, by decide⟩
theorem ok_X8_waysOf : MOK mX8_waysOf 3 := ⟨by decide +kernel, rfl, (tm 418 (by decide +kernel) rfl), (tm 5 (by decide +kernel) rfl), by decide +kernel, by decide +kernel, by decide +kernel, by decide⟩
theorem ok_X8_waysOfSplit : MOK mX8_waysOfSplit 4 := ⟨by decide +kernel, rfl, (tm 411 (by decide +kernel) rfl), (tm 5 (by decide +kernel) rfl), by decide +kernel, by decide +kernel, by decide +kernel, by decide⟩
theorem ok_X8_isBuiltBy : MOK mX8_isBuiltBy 2 := ⟨by decide +kernel, rfl, (tm 479 (by decide +kernel) rfl), (tm 5 (by decide +kernel) rfl), by decide +kernel, by decide +kernel, by decide +kernel, by decide⟩
theorem ok_X8_rootOf : MOK mX8_rootOf 2 := ⟨by decide +kernel, rfl, (tm 475 (by decide +kernel) rfl), (tm 5 (by decide +kernel) rfl), by decide +kernel, by decide +kernel, by decide +kernel, by decide⟩
theorem ok_X8_split : MOK mX8_split 3 := ⟨by decide +kernel, rfl, (tm 493 (by decide +kernel) rfl), (tm 5 (by decide +kernel) rfl), by decide +kernel, by decide +kernel, by decide +kernel, by decide⟩
theorem ok_X8_indexOf : MOK mX8_indexOf 4 := ⟨by decide +kernel, rfl, (tm 609 (by decide +kernel) rfl), (tm 5 (by decide +kernel) rfl), by decide +kernel, by decide +kernel, by decide +kernel, by decide⟩
theorem ok_X10_begin : MOK mX10_begin 0 := ⟨by decide +kernel, rfl, (tm 564 (by decide +kernel) rfl), (tm 9 (by decide +kernel) rfl), by decide +kernel, by decide +kernel, by decide +kernel, by decide⟩
theorem ok_X10_hasListed : MOK mX10_hasListed 1 := ⟨by decide +kernel, rfl, (tm 573 (by decide +kernel) rfl), (tm 9 (by decide +kernel) rfl), by decide +kernel, by decide +kernel, by decide +kernel, by decide⟩
theorem ok_X10_visit : MOK mX10_visit 1 := ⟨by decide +kernel, rfl, (tm 568 (by decide +kernel) rfl), (tm 9 (by decide +kernel) rfl), by decide +kernel, by decide +kernel, by decide +kernel, by decide⟩
theorem ok_X10_unlistedPart : MOK mX10_unlistedPart 1 := ⟨by decide +kernel, rfl, (tm 578 (by decide +kernel) rfl), (tm 9 (by decide +kernel) rfl), by decide +kernel, by decide +kernel, by decide +kernel, by decide⟩
theorem ok_X10_list : MOK mX10_list 1 := ⟨by decide +kernel, rfl, (tm 588 (by decide +kernel) rfl), (tm 9 (by decide +kernel) rfl), by decide +kernel, by decide +kernel, by decide +kernel, by decide⟩
theorem ok_X11_addType : MOK mX11_addType 0 := ⟨by decide +kernel, rfl, (tm 343 (by decide +kernel) rfl), (tm 1 (by decide +kernel) rfl), by decide +kernel, by decide +kernel, by decide +kernel, by decide⟩
theorem ok_X11_addConstructor : MOK mX11_addConstructor 5 := ⟨by decide +kernel, rfl, (tm 347 (by decide +kernel) rfl), (tm 1 (by decide +kernel) rfl), by decide +kernel, by decide +kernel, by decide +kernel, by decide⟩
theorem ok_X11_resultType : MOK mX11_resultType 1 := ⟨by decide +kernel, rfl, (tm 422 (by decide +kernel) rfl), (tm 1 (by decide +kernel) rfl), by decide +kernel, by decide +kernel, by decide +kernel, by decide⟩
theorem ok_X11_arity : MOK mX11_arity 1 := ⟨by decide +kernel, rfl, (tm 430 (by decide +kernel) rfl), (tm 1 (by decide +kernel) rfl), by decide +kernel, by decide +kernel, by decide +kernel, by decide⟩
theorem ok_X11_argumentType : MOK mX11_argumentType 2 := ⟨by decide +kernel, rfl, (tm 434 (by decide +kernel) rfl), (tm 1 (by decide +kernel) rfl), by decide +kernel, by decide +kernel, by decide +kernel, by decide⟩
theorem ok_X11_cardinality : MOK mX11_cardinality 1 := ⟨by decide +kernel, rfl, (tm 439 (by decide +kernel) rfl), (tm 1 (by decide +kernel) rfl), by decide +kernel, by decide +kernel, by decide +kernel, by decide⟩
theorem ok_X11_smallestSize : MOK mX11_smallestSize 1 := ⟨by decide +kernel, rfl, (tm 443 (by decide +kernel) rfl), (tm 1 (by decide +kernel) rfl), by decide +kernel, by decide +kernel, by decide +kernel, by decide⟩
theorem ok_X11_count : MOK mX11_count 2 := ⟨by decide +kernel, rfl, (tm 447 (by decide +kernel) rfl), (tm 1 (by decide +kernel) rfl), by decide +kernel, by decide +kernel, by decide +kernel, by decide⟩
theorem ok_X11_value : MOK mX11_value 3 := ⟨by decide +kernel, rfl, (tm 455 (by decide +kernel) rfl), (tm 1 (by decide +kernel) rfl), by decide +kernel, by decide +kernel, by decide +kernel, by decide⟩
theorem ok_X11_variable : MOK mX11_variable 1 := ⟨by decide +kernel, rfl, (tm 502 (by decide +kernel) rfl), (tm 1 (by decide +kernel) rfl), by decide +kernel, by decide +kernel, by decide +kernel, by decide⟩
theorem ok_X11_term : MOK mX11_term 4 := ⟨by decide +kernel, rfl, (tm 510 (by decide +kernel) rfl), (tm 1 (by decide +kernel) rfl), by decide +kernel, by decide +kernel, by decide +kernel, by decide⟩
theorem ok_X11_nodeCount : MOK mX11_nodeCount 0 := ⟨by decide +kernel, rfl, (tm 523 (by decide +kernel) rfl), (tm 1 (by decide +kernel) rfl), by decide +kernel, by decide +kernel, by decide +kernel, by decide⟩
theorem ok_X11_nodeType : MOK mX11_nodeType 1 := ⟨by decide +kernel, rfl, (tm 527 (by decide +kernel) rfl), (tm 1 (by decide +kernel) rfl), by decide +kernel, by decide +kernel, by decide +kernel, by decide⟩
theorem ok_X11_head : MOK mX11_head 1 := ⟨by decide +kernel, rfl, (tm 531 (by decide +kernel) rfl), (tm 1 (by decide +kernel) rfl), by decide +kernel, by decide +kernel, by decide +kernel, by decide⟩
theorem ok_X11_child : MOK mX11_child 2 := ⟨by decide +kernel, rfl, (tm 543 (by decide +kernel) rfl), (tm 1 (by decide +kernel) rfl), by decide +kernel, by decide +kernel, by decide +kernel, by decide⟩
theorem ok_X11_binding : MOK mX11_binding 1 := ⟨by decide +kernel, rfl, (tm 552 (by decide +kernel) rfl), (tm 1 (by decide +kernel) rfl), by decide +kernel, by decide +kernel, by decide +kernel, by decide⟩
theorem ok_X11_size : MOK mX11_size 1 := ⟨by decide +kernel, rfl, (tm 556 (by decide +kernel) rfl), (tm 1 (by decide +kernel) rfl), by decide +kernel, by decide +kernel, by decide +kernel, by decide⟩
theorem ok_X11_rank : MOK mX11_rank 1 := ⟨by decide +kernel, rfl, (tm 601 (by decide +kernel) rfl), (tm 1 (by decide +kernel) rfl), by decide +kernel, by decide +kernel, by decide +kernel, by decide⟩
theorem ok_X11_equal : MOK mX11_equal 2 := ⟨by decide +kernel, rfl, (tm 613 (by decide +kernel) rfl), (tm 1 (by decide +kernel) rfl), by decide +kernel, by decide +kernel, by decide +kernel, by decide⟩
theorem ok_X11_unify : MOK mX11_unify 2 := ⟨by decide +kernel, rfl, (tm 629 (by decide +kernel) rfl), (tm 1 (by decide +kernel) rfl), by decide +kernel, by decide +kernel, by decide +kernel, by decide⟩
theorem ok_X11_boundCount : MOK mX11_boundCount 0 := ⟨by decide +kernel, rfl, (tm 670 (by decide +kernel) rfl), (tm 1 (by decide +kernel) rfl), by decide +kernel, by decide +kernel, by decide +kernel, by decide⟩
theorem ok_X11_unbindAll : MOK mX11_unbindAll 0 := ⟨by decide +kernel, rfl, (tm 678 (by decide +kernel) rfl), (tm 1 (by decide +kernel) rfl), by decide +kernel, by decide +kernel, by decide +kernel, by decide⟩
theorem ok_X11_push : MOK mX11_push 0 := ⟨by decide +kernel, rfl, (tm 683 (by decide +kernel) rfl), (tm 1 (by decide +kernel) rfl), by decide +kernel, by decide +kernel, by decide +kernel, by decide⟩
theorem ok_X11_pop : MOK mX11_pop 0 := ⟨by decide +kernel, rfl, (tm 692 (by decide +kernel) rfl), (tm 1 (by decide +kernel) rfl), by decide +kernel, by decide +kernel, by decide +kernel, by decide⟩
theorem ok_X11_addRow : MOK mX11_addRow 1 := ⟨by decide +kernel, rfl, (tm 700 (by decide +kernel) rfl), (tm 1 (by decide +kernel) rfl), by decide +kernel, by decide +kernel, by decide +kernel, by decide⟩
theorem ok_X11_clearRows : MOK mX11_clearRows 0 := ⟨by decide +kernel, rfl, (tm 712 (by decide +kernel) rfl), (tm 1 (by decide +kernel) rfl), by decide +kernel, by decide +kernel, by decide +kernel, by decide⟩
theorem ok_X11_firstMatch : MOK mX11_firstMatch 1 := ⟨by decide +kernel, rfl, (tm 716 (by decide +kernel) rfl), (tm 1 (by decide +kernel) rfl), by decide +kernel, by decide +kernel, by decide +kernel, by decide⟩
theorem ok_X11_uncovered : MOK mX11_uncovered 1 := ⟨by decide +kernel, rfl, (tm 774 (by decide +kernel) rfl), (tm 1 (by decide +kernel) rfl), by decide +kernel, by decide +kernel, by decide +kernel, by decide⟩
theorem ok_X11_firstUncovered : MOK mX11_firstUncovered 1 := ⟨by decide +kernel, rfl, (tm 783 (by decide +kernel) rfl), (tm 1 (by decide +kernel) rfl), by decide +kernel, by decide +kernel, by decide +kernel, by decide⟩
theorem ok_X11_coveredBy : MOK mX11_coveredBy 2 := ⟨by decide +kernel, rfl, (tm 791 (by decide +kernel) rfl), (tm 1 (by decide +kernel) rfl), by decide +kernel, by decide +kernel, by decide +kernel, by decide⟩
theorem ok_X11_countFirstFitting : MOK mX11_countFirstFitting 2 := ⟨by decide +kernel, rfl, (tm 778 (by decide +kernel) rfl), (tm 1 (by decide +kernel) rfl), by decide +kernel, by decide +kernel, by decide +kernel, by decide⟩
theorem ok_X11_firstIndexUncovered : MOK mX11_firstIndexUncovered 1 := ⟨by decide +kernel, rfl, (tm 787 (by decide +kernel) rfl), (tm 1 (by decide +kernel) rfl), by decide +kernel, by decide +kernel, by decide +kernel, by decide⟩
theorem ok_X11_limitedSum : MOK mX11_limitedSum 2 := ⟨by decide +kernel, rfl, (tm 395 (by decide +kernel) rfl), (tm 1 (by decide +kernel) rfl), by decide +kernel, by decide +kernel, by decide +kernel, by decide⟩
theorem ok_X11_limitedProduct : MOK mX11_limitedProduct 2 := ⟨by decide +kernel, rfl, (tm 390 (by decide +kernel) rfl), (tm 1 (by decide +kernel) rfl), by decide +kernel, by decide +kernel, by decide +kernel, by decide⟩
theorem ok_X12_in : MOK mX12_in 3 := ⟨by decide +kernel, rfl, (tm 936 (by decide +kernel) rfl), (tm 13 (by decide +kernel) rfl), by decide +kernel, by decide +kernel, by decide +kernel, by decide⟩
theorem ok_X12_isType : MOK mX12_isType 1 := ⟨by decide +kernel, rfl, (tm 940 (by decide +kernel) rfl), (tm 13 (by decide +kernel) rfl), by decide +kernel, by decide +kernel, by decide +kernel, by decide⟩
theorem ok_X12_isConstructor : MOK mX12_isConstructor 1 := ⟨by decide +kernel, rfl, (tm 948 (by decide +kernel) rfl), (tm 13 (by decide +kernel) rfl), by decide +kernel, by decide +kernel, by decide +kernel, by decide⟩
theorem ok_X12_isNode : MOK mX12_isNode 1 := ⟨by decide +kernel, rfl, (tm 1056 (by decide +kernel) rfl), (tm 13 (by decide +kernel) rfl), by decide +kernel, by decide +kernel, by decide +kernel, by decide⟩
theorem ok_X12_capped : MOK mX12_capped 1 := ⟨by decide +kernel, rfl, (tm 987 (by decide +kernel) rfl), (tm 13 (by decide +kernel) rfl), by decide +kernel, by decide +kernel, by decide +kernel, by decide⟩
theorem ok_X12_addType : MOK mX12_addType 0 := ⟨by decide +kernel, rfl, (tm 929 (by decide +kernel) rfl), (tm 13 (by decide +kernel) rfl), by decide +kernel, by decide +kernel, by decide +kernel, by decide⟩
theorem ok_X12_addConstructor : MOK mX12_addConstructor 5 := ⟨by decide +kernel, rfl, (tm 933 (by decide +kernel) rfl), (tm 13 (by decide +kernel) rfl), by decide +kernel, by decide +kernel, by decide +kernel, by decide⟩
theorem ok_X12_resultType : MOK mX12_resultType 1 := ⟨by decide +kernel, rfl, (tm 944 (by decide +kernel) rfl), (tm 13 (by decide +kernel) rfl), by decide +kernel, by decide +kernel, by decide +kernel, by decide⟩
theorem ok_X12_arity : MOK mX12_arity 1 := ⟨by decide +kernel, rfl, (tm 952 (by decide +kernel) rfl), (tm 13 (by decide +kernel) rfl), by decide +kernel, by decide +kernel, by decide +kernel, by decide⟩
theorem ok_X12_argumentType : MOK mX12_argumentType 2 := ⟨by decide +kernel, rfl, (tm 956 (by decide +kernel) rfl), (tm 13 (by decide +kernel) rfl), by decide +kernel, by decide +kernel, by decide +kernel, by decide⟩
theorem ok_X12_laySmallest : MOK mX12_laySmallest 0 := ⟨by decide +kernel, rfl, (tm 968 (by decide +kernel) rfl), (tm 13 (by decide +kernel) rfl), by decide +kernel, by decide +kernel, by decide +kernel, by decide⟩
theorem ok_X12_sizeBy : MOK mX12_sizeBy 1 := ⟨by decide +kernel, rfl, (tm 972 (by decide +kernel) rfl), (tm 13 (by decide +kernel) rfl), by decide +kernel, by decide +kernel, by decide +kernel, by decide⟩
theorem ok_X12_layWithin : MOK mX12_layWithin 0 := ⟨by decide +kernel, rfl, (tm 964 (by decide +kernel) rfl), (tm 13 (by decide +kernel) rfl), by decide +kernel, by decide +kernel, by decide +kernel, by decide⟩
theorem ok_X12_isInfinite : MOK mX12_isInfinite 1 := ⟨by decide +kernel, rfl, (tm 976 (by decide +kernel) rfl), (tm 13 (by decide +kernel) rfl), by decide +kernel, by decide +kernel, by decide +kernel, by decide⟩
theorem ok_X12_layAll : MOK mX12_layAll 0 := ⟨by decide +kernel, rfl, (tm 980 (by decide +kernel) rfl), (tm 13 (by decide +kernel) rfl), by decide +kernel, by decide +kernel, by decide +kernel, by decide⟩
theorem ok_X12_allBy : MOK mX12_allBy 1 := ⟨by decide +kernel, rfl, (tm 984 (by decide +kernel) rfl), (tm 13 (by decide +kernel) rfl), by decide +kernel, by decide +kernel, by decide +kernel, by decide⟩
theorem ok_X12_cardinality : MOK mX12_cardinality 1 := ⟨by decide +kernel, rfl, (tm 960 (by decide +kernel) rfl), (tm 13 (by decide +kernel) rfl), by decide +kernel, by decide +kernel, by decide +kernel, by decide⟩
theorem ok_X12_smallestSize : MOK mX12_smallestSize 1 := ⟨by decide +kernel, rfl, (tm 993 (by decide +kernel) rfl), (tm 13 (by decide +kernel) rfl), by decide +kernel, by decide +kernel, by decide +kernel, by decide⟩
theorem ok_X12_way : MOK mX12_way 3 := ⟨by decide +kernel, rfl, (tm 1008 (by decide +kernel) rfl), (tm 13 (by decide +kernel) rfl), by decide +kernel, by decide +kernel, by decide +kernel, by decide⟩
theorem ok_X12_countOf : MOK mX12_countOf 2 := ⟨by decide +kernel, rfl, (tm 1012 (by decide +kernel) rfl), (tm 13 (by decide +kernel) rfl), by decide +kernel, by decide +kernel, by decide +kernel, by decide⟩
theorem ok_X12_layWays : MOK mX12_layWays 2 := ⟨by decide +kernel, rfl, (tm 1005 (by decide +kernel) rfl), (tm 13 (by decide +kernel) rfl), by decide +kernel, by decide +kernel, by decide +kernel, by decide⟩
theorem ok_X12_layCounts : MOK mX12_layCounts 0 := ⟨by decide +kernel, rfl, (tm 1001 (by decide +kernel) rfl), (tm 13 (by decide +kernel) rfl), by decide +kernel, by decide +kernel, by decide +kernel, by decide⟩
theorem ok_X12_count : MOK mX12_count 2 := ⟨by decide +kernel, rfl, (tm 997 (by decide +kernel) rfl), (tm 13 (by decide +kernel) rfl), by decide +kernel, by decide +kernel, by decide +kernel, by decide⟩
theorem ok_X12_share : MOK mX12_share 3 := ⟨by decide +kernel, rfl, (tm 1024 (by decide +kernel) rfl), (tm 13 (by decide +kernel) rfl), by decide +kernel, by decide +kernel, by decide +kernel, by decide⟩
theorem ok_X12_blockOf : MOK mX12_blockOf 5 := ⟨by decide +kernel, rfl, (tm 1028 (by decide +kernel) rfl), (tm 13 (by decide +kernel) rfl), by decide +kernel, by decide +kernel, by decide +kernel, by decide⟩
theorem ok_X12_layValue : MOK mX12_layValue 3 := ⟨by decide +kernel, rfl, (tm 1020 (by decide +kernel) rfl), (tm 13 (by decide +kernel) rfl), by decide +kernel, by decide +kernel, by decide +kernel, by decide⟩
theorem ok_X12_layParts : MOK mX12_layParts 0 := ⟨by decide +kernel, rfl, (tm 1032 (by decide +kernel) rfl), (tm 13 (by decide +kernel) rfl), by decide +kernel, by decide +kernel, by decide +kernel, by decide⟩
theorem ok_X12_addNode : MOK mX12_addNode 5 := ⟨by decide +kernel, rfl, (tm 1040 (by decide +kernel) rfl), (tm 13 (by decide +kernel) rfl), by decide +kernel, by decide +kernel, by decide +kernel, by decide⟩
theorem ok_X12_makeNodes : MOK mX12_makeNodes 0 := ⟨by decide +kernel, rfl, (tm 1036 (by decide +kernel) rfl), (tm 13 (by decide +kernel) rfl), by decide +kernel, by decide +kernel, by decide +kernel, by decide⟩
theorem ok_X12_value : MOK mX12_value 3 := ⟨by decide +kernel, rfl, (tm 1016 (by decide +kernel) rfl), (tm 13 (by decide +kernel) rfl), by decide +kernel, by decide +kernel, by decide +kernel, by decide⟩
theorem ok_X12_variable : MOK mX12_variable 1 := ⟨by decide +kernel, rfl, (tm 1044 (by decide +kernel) rfl), (tm 13 (by decide +kernel) rfl), by decide +kernel, by decide +kernel, by decide +kernel, by decide⟩
theorem ok_X12_wrongChild : MOK mX12_wrongChild 3 := ⟨by decide +kernel, rfl, (tm 1052 (by decide +kernel) rfl), (tm 13 (by decide +kernel) rfl), by decide +kernel, by decide +kernel, by decide +kernel, by decide⟩
theorem ok_X12_term : MOK mX12_term 4 := ⟨by decide +kernel, rfl, (tm 1048 (by decide +kernel) rfl), (tm 13 (by decide +kernel) rfl), by decide +kernel, by decide +kernel, by decide +kernel, by decide⟩
theorem ok_X12_nodeCount : MOK mX12_nodeCount 0 := ⟨by decide +kernel, rfl, (tm 1060 (by decide +kernel) rfl), (tm 13 (by decide +kernel) rfl), by decide +kernel, by decide +kernel, by decide +kernel, by decide⟩
theorem ok_X12_nodeType : MOK mX12_nodeType 1 := ⟨by decide +kernel, rfl, (tm 1064 (by decide +kernel) rfl), (tm 13 (by decide +kernel) rfl), by decide +kernel, by decide +kernel, by decide +kernel, by decide⟩
theorem ok_X12_resolved : MOK mX12_resolved 1 := ⟨by decide +kernel, rfl, (tm 1072 (by decide +kernel) rfl), (tm 13 (by decide +kernel) rfl), by decide +kernel, by decide +kernel, by decide +kernel, by decide⟩
theorem ok_X12_manyOf : MOK mX12_manyOf 1 := ⟨by decide +kernel, rfl, (tm 1080 (by decide +kernel) rfl), (tm 13 (by decide +kernel) rfl), by decide +kernel, by decide +kernel, by decide +kernel, by decide⟩
theorem ok_X12_head : MOK mX12_head 1 := ⟨by decide +kernel, rfl, (tm 1068 (by decide +kernel) rfl), (tm 13 (by decide +kernel) rfl), by decide +kernel, by decide +kernel, by decide +kernel, by decide⟩
theorem ok_X12_child : MOK mX12_child 2 := ⟨by decide +kernel, rfl, (tm 1076 (by decide +kernel) rfl), (tm 13 (by decide +kernel) rfl), by decide +kernel, by decide +kernel, by decide +kernel, by decide⟩
theorem ok_X12_binding : MOK mX12_binding 1 := ⟨by decide +kernel, rfl, (tm 1084 (by decide +kernel) rfl), (tm 13 (by decide +kernel) rfl), by decide +kernel, by decide +kernel, by decide +kernel, by decide⟩
theorem ok_X12_laySizes : MOK mX12_laySizes 0 := ⟨by decide +kernel, rfl, (tm 1092 (by decide +kernel) rfl), (tm 13 (by decide +kernel) rfl), by decide +kernel, by decide +kernel, by decide +kernel, by decide⟩
theorem ok_X12_sizeNow : MOK mX12_sizeNow 1 := ⟨by decide +kernel, rfl, (tm 1096 (by decide +kernel) rfl), (tm 13 (by decide +kernel) rfl), by decide +kernel, by decide +kernel, by decide +kernel, by decide⟩
theorem ok_X12_size : MOK mX12_size 1 := ⟨by decide +kernel, rfl, (tm 1088 (by decide +kernel) rfl), (tm 13 (by decide +kernel) rfl), by decide +kernel, by decide +kernel, by decide +kernel, by decide⟩
theorem ok_X12_rankNow : MOK mX12_rankNow 1 := ⟨by decide +kernel, rfl, (tm 1108 (by decide +kernel) rfl), (tm 13 (by decide +kernel) rfl), by decide +kernel, by decide +kernel, by decide +kernel, by decide⟩
theorem ok_X12_layRanks : MOK mX12_layRanks 0 := ⟨by decide +kernel, rfl, (tm 1104 (by decide +kernel) rfl), (tm 13 (by decide +kernel) rfl), by decide +kernel, by decide +kernel, by decide +kernel, by decide⟩
theorem ok_X12_rank : MOK mX12_rank 1 := ⟨by decide +kernel, rfl, (tm 1100 (by decide +kernel) rfl), (tm 13 (by decide +kernel) rfl), by decide +kernel, by decide +kernel, by decide +kernel, by decide⟩
theorem ok_X12_beginPairs : MOK mX12_beginPairs 2 := ⟨by decide +kernel, rfl, (tm 1116 (by decide +kernel) rfl), (tm 13 (by decide +kernel) rfl), by decide +kernel, by decide +kernel, by decide +kernel, by decide⟩
theorem ok_X12_pushChildren : MOK mX12_pushChildren 2 := ⟨by decide +kernel, rfl, (tm 1120 (by decide +kernel) rfl), (tm 13 (by decide +kernel) rfl), by decide +kernel, by decide +kernel, by decide +kernel, by decide⟩
theorem ok_X12_equal : MOK mX12_equal 2 := ⟨by decide +kernel, rfl, (tm 1112 (by decide +kernel) rfl), (tm 13 (by decide +kernel) rfl), by decide +kernel, by decide +kernel, by decide +kernel, by decide⟩
theorem ok_X12_bind : MOK mX12_bind 2 := ⟨by decide +kernel, rfl, (tm 1132 (by decide +kernel) rfl), (tm 13 (by decide +kernel) rfl), by decide +kernel, by decide +kernel, by decide +kernel, by decide⟩
theorem ok_X12_occurs : MOK mX12_occurs 2 := ⟨by decide +kernel, rfl, (tm 1136 (by decide +kernel) rfl), (tm 13 (by decide +kernel) rfl), by decide +kernel, by decide +kernel, by decide +kernel, by decide⟩
theorem ok_X12_unifyNow : MOK mX12_unifyNow 2 := ⟨by decide +kernel, rfl, (tm 1128 (by decide +kernel) rfl), (tm 13 (by decide +kernel) rfl), by decide +kernel, by decide +kernel, by decide +kernel, by decide⟩
theorem ok_X12_unify : MOK mX12_unify 2 := ⟨by decide +kernel, rfl, (tm 1124 (by decide +kernel) rfl), (tm 13 (by decide +kernel) rfl), by decide +kernel, by decide +kernel, by decide +kernel, by decide⟩
theorem ok_X12_boundCount : MOK mX12_boundCount 0 := ⟨by decide +kernel, rfl, (tm 1140 (by decide +kernel) rfl), (tm 13 (by decide +kernel) rfl), by decide +kernel, by decide +kernel, by decide +kernel, by decide⟩
theorem ok_X12_unbindAll : MOK mX12_unbindAll 0 := ⟨by decide +kernel, rfl, (tm 1144 (by decide +kernel) rfl), (tm 13 (by decide +kernel) rfl), by decide +kernel, by decide +kernel, by decide +kernel, by decide⟩
theorem ok_X12_push : MOK mX12_push 0 := ⟨by decide +kernel, rfl, (tm 1149 (by decide +kernel) rfl), (tm 13 (by decide +kernel) rfl), by decide +kernel, by decide +kernel, by decide +kernel, by decide⟩
theorem ok_X12_pop : MOK mX12_pop 0 := ⟨by decide +kernel, rfl, (tm 1153 (by decide +kernel) rfl), (tm 13 (by decide +kernel) rfl), by decide +kernel, by decide +kernel, by decide +kernel, by decide⟩
theorem ok_X12_addRow : MOK mX12_addRow 1 := ⟨by decide +kernel, rfl, (tm 1157 (by decide +kernel) rfl), (tm 13 (by decide +kernel) rfl), by decide +kernel, by decide +kernel, by decide +kernel, by decide⟩
theorem ok_X12_clearRows : MOK mX12_clearRows 0 := ⟨by decide +kernel, rfl, (tm 1161 (by decide +kernel) rfl), (tm 13 (by decide +kernel) rfl), by decide +kernel, by decide +kernel, by decide +kernel, by decide⟩
theorem ok_X12_areSame : MOK mX12_areSame 2 := ⟨by decide +kernel, rfl, (tm 1181 (by decide +kernel) rfl), (tm 13 (by decide +kernel) rfl), by decide +kernel, by decide +kernel, by decide +kernel, by decide⟩
theorem ok_X12_matches : MOK mX12_matches 1 := ⟨by decide +kernel, rfl, (tm 1177 (by decide +kernel) rfl), (tm 13 (by decide +kernel) rfl), by decide +kernel, by decide +kernel, by decide +kernel, by decide⟩
theorem ok_X12_matchNow : MOK mX12_matchNow 0 := ⟨by decide +kernel, rfl, (tm 1173 (by decide +kernel) rfl), (tm 13 (by decide +kernel) rfl), by decide +kernel, by decide +kernel, by decide +kernel, by decide⟩
theorem ok_X12_layTerm : MOK mX12_layTerm 1 := ⟨by decide +kernel, rfl, (tm 1169 (by decide +kernel) rfl), (tm 13 (by decide +kernel) rfl), by decide +kernel, by decide +kernel, by decide +kernel, by decide⟩
theorem ok_X12_firstMatch : MOK mX12_firstMatch 1 := ⟨by decide +kernel, rfl, (tm 1165 (by decide +kernel) rfl), (tm 13 (by decide +kernel) rfl), by decide +kernel, by decide +kernel, by decide +kernel, by decide⟩
theorem ok_X12_subject : MOK mX12_subject 0 := ⟨by decide +kernel, rfl, (tm 1189 (by decide +kernel) rfl), (tm 13 (by decide +kernel) rfl), by decide +kernel, by decide +kernel, by decide +kernel, by decide⟩
theorem ok_X12_countMatched : MOK mX12_countMatched 2 := ⟨by decide +kernel, rfl, (tm 1193 (by decide +kernel) rfl), (tm 13 (by decide +kernel) rfl), by decide +kernel, by decide +kernel, by decide +kernel, by decide⟩
theorem ok_X12_uncovered : MOK mX12_uncovered 1 := ⟨by decide +kernel, rfl, (tm 1185 (by decide +kernel) rfl), (tm 13 (by decide +kernel) rfl), by decide +kernel, by decide +kernel, by decide +kernel, by decide⟩
theorem ok_X12_firstUncovered : MOK mX12_firstUncovered 1 := ⟨by decide +kernel, rfl, (tm 1197 (by decide +kernel) rfl), (tm 13 (by decide +kernel) rfl), by decide +kernel, by decide +kernel, by decide +kernel, by decide⟩
theorem ok_X12_coveredBy : MOK mX12_coveredBy 2 := ⟨by decide +kernel, rfl, (tm 1201 (by decide +kernel) rfl), (tm 13 (by decide +kernel) rfl), by decide +kernel, by decide +kernel, by decide +kernel, by decide⟩
theorem ok_J7_fill_d0a16 : MOK mJ7_fill_d0a16 2 := ⟨by decide +kernel, rfl, (tm 639 (by decide +kernel) rfl), (tm 4 (by decide +kernel) rfl), by decide +kernel, by decide +kernel, by decide +kernel, by decide⟩
theorem ok_J7_fill_53178 : MOK mJ7_fill_53178 2 := ⟨by decide +kernel, rfl, (tm 68 (by decide +kernel) rfl), (tm 4 (by decide +kernel) rfl), by decide +kernel, by decide +kernel, by decide +kernel, by decide⟩
theorem fg_X0_9 : FldG 0 9 0 2 := ⟨RX0, TX0, 6, rfl, by decide, (tm 111 (by decide +kernel) rfl), hin_X0⟩
theorem fg_X0_15 : FldG 0 15 0 3 := ⟨RX0, TX0, 6, rfl, by decide, (tm 114 (by decide +kernel) rfl), hin_X0⟩
theorem fg_X0_18 : FldG 0 18 0 4 := ⟨RX0, TX0, 6, rfl, by decide, (tm 119 (by decide +kernel) rfl), hin_X0⟩
theorem fg_X0_21 : FldG 0 21 0 5 := ⟨RX0, TX0, 6, rfl, by decide, (tm 124 (by decide +kernel) rfl), hin_X0⟩
theorem fg_X0_24 : FldG 0 24 0 0 := ⟨RX0, TX0, 6, rfl, by decide, (tm 107 (by decide +kernel) rfl), hin_X0⟩
theorem fg_X0_34 : FldG 0 34 0 1 := ⟨RX0, TX0, 6, rfl, by decide, (tm 109 (by decide +kernel) rfl), hin_X0⟩
theorem fg_X0_41 : FldG 0 41 4 2 := ⟨RX4, TX4, 5, rfl, by decide, (tm 39 (by decide +kernel) rfl), hin_X4⟩
theorem fg_X0_50 : FldG 0 50 4 3 := ⟨RX4, TX4, 5, rfl, by decide, (tm 46 (by decide +kernel) rfl), hin_X4⟩
theorem fg_X1_9 : FldG 1 9 1 1 := ⟨RX1, TX1, 3, rfl, by decide, (tm 70 (by decide +kernel) rfl), hin_X1⟩
theorem fg_X1_15 : FldG 1 15 1 2 := ⟨RX1, TX1, 3, rfl, by decide, (tm 72 (by decide +kernel) rfl), hin_X1⟩
theorem fg_X1_18 : FldG 1 18 1 0 := ⟨RX1, TX1, 3, rfl, by decide, (tm 69 (by decide +kernel) rfl), hin_X1⟩
theorem fg_X1_34 : FldG 1 34 4 1 := ⟨RX4, TX4, 5, rfl, by decide, (tm 33 (by decide +kernel) rfl), hin_X4⟩
theorem fg_X1_48 : FldG 1 48 4 3 := ⟨RX4, TX4, 5, rfl, by decide, (tm 43 (by decide +kernel) rfl), hin_X4⟩
theorem fg_X1_55 : FldG 1 55 4 2 := ⟨RX4, TX4, 5, rfl, by decide, (tm 38 (by decide +kernel) rfl), hin_X4⟩
theorem fg_X10_9 : FldG 9 9 9 1 := ⟨RX10, TX10, 6, rfl, by decide, (tm 184 (by decide +kernel) rfl), hin_X10⟩
theorem fg_X10_15 : FldG 9 15 9 4 := ⟨RX10, TX10, 6, rfl, by decide, (tm 189 (by decide +kernel) rfl), hin_X10⟩
theorem fg_X10_18 : FldG 9 18 9 5 := ⟨RX10, TX10, 6, rfl, by decide, (tm 190 (by decide +kernel) rfl), hin_X10⟩
theorem fg_X10_21 : FldG 9 21 9 0 := ⟨RX10, TX10, 6, rfl, by decide, (tm 183 (by decide +kernel) rfl), hin_X10⟩
theorem fg_X10_25 : FldG 9 25 9 3 := ⟨RX10, TX10, 6, rfl, by decide, (tm 188 (by decide +kernel) rfl), hin_X10⟩
theorem fg_X10_29 : FldG 9 29 9 2 := ⟨RX10, TX10, 6, rfl, by decide, (tm 186 (by decide +kernel) rfl), hin_X10⟩
theorem fg_X11_12 : FldG 10 12 10 0 := ⟨RX11, TX11, 9, rfl, by decide, (tm 312 (by decide +kernel) rfl), hin_X11⟩
theorem fg_X11_21 : FldG 10 21 10 1 := ⟨RX11, TX11, 9, rfl, by decide, (tm 313 (by decide +kernel) rfl), hin_X11⟩
theorem fg_X11_28 : FldG 10 28 10 2 := ⟨RX11, TX11, 9, rfl, by decide, (tm 314 (by decide +kernel) rfl), hin_X11⟩
theorem fg_X11_35 : FldG 10 35 10 3 := ⟨RX11, TX11, 9, rfl, by decide, (tm 315 (by decide +kernel) rfl), hin_X11⟩
theorem fg_X11_44 : FldG 10 44 10 4 := ⟨RX11, TX11, 9, rfl, by decide, (tm 316 (by decide +kernel) rfl), hin_X11⟩
theorem fg_X11_53 : FldG 10 53 10 5 := ⟨RX11, TX11, 9, rfl, by decide, (tm 317 (by decide +kernel) rfl), hin_X11⟩
theorem fg_X11_62 : FldG 10 62 10 6 := ⟨RX11, TX11, 9, rfl, by decide, (tm 318 (by decide +kernel) rfl), hin_X11⟩
theorem fg_X11_69 : FldG 10 69 10 7 := ⟨RX11, TX11, 9, rfl, by decide, (tm 319 (by decide +kernel) rfl), hin_X11⟩
theorem fg_X11_76 : FldG 10 76 10 8 := ⟨RX11, TX11, 9, rfl, by decide, (tm 320 (by decide +kernel) rfl), hin_X11⟩
theorem fg_X11_80 : FldG 10 80 4 0 := ⟨RX4, TX4, 5, rfl, by decide, (tm 30 (by decide +kernel) rfl), hin_X4⟩
theorem fg_X11_88 : FldG 10 88 4 1 := ⟨RX4, TX4, 5, rfl, by decide, (tm 34 (by decide +kernel) rfl), hin_X4⟩
theorem fg_X11_102 : FldG 10 102 4 2 := ⟨RX4, TX4, 5, rfl, by decide, (tm 37 (by decide +kernel) rfl), hin_X4⟩
theorem fg_X11_106 : FldG 10 106 4 3 := ⟨RX4, TX4, 5, rfl, by decide, (tm 44 (by decide +kernel) rfl), hin_X4⟩
theorem fg_X11_113 : FldG 10 113 1 2 := ⟨RX1, TX1, 3, rfl, by decide, (tm 73 (by decide +kernel) rfl), hin_X1⟩
theorem fg_X11_116 : FldG 10 116 1 1 := ⟨RX1, TX1, 3, rfl, by decide, (tm 71 (by decide +kernel) rfl), hin_X1⟩
theorem fg_X11_122 : FldG 10 122 0 1 := ⟨RX0, TX0, 6, rfl, by decide, (tm 110 (by decide +kernel) rfl), hin_X0⟩
theorem fg_X11_136 : FldG 10 136 0 2 := ⟨RX0, TX0, 6, rfl, by decide, (tm 113 (by decide +kernel) rfl), hin_X0⟩
theorem fg_X11_149 : FldG 10 149 0 3 := ⟨RX0, TX0, 6, rfl, by decide, (tm 118 (by decide +kernel) rfl), hin_X0⟩
theorem fg_X11_155 : FldG 10 155 0 4 := ⟨RX0, TX0, 6, rfl, by decide, (tm 123 (by decide +kernel) rfl), hin_X0⟩
theorem fg_X11_158 : FldG 10 158 0 5 := ⟨RX0, TX0, 6, rfl, by decide, (tm 126 (by decide +kernel) rfl), hin_X0⟩
theorem fg_X11_185 : FldG 10 185 3 0 := ⟨RX3, TX3, 2, rfl, by decide, (tm 267 (by decide +kernel) rfl), hin_X3⟩
theorem fg_X11_193 : FldG 10 193 2 1 := ⟨RX2, TX2, 10, rfl, by decide, (tm 282 (by decide +kernel) rfl), hin_X2⟩
theorem fg_X12_7 : FldG 11 7 11 2 := ⟨RX12, TX12, 42, rfl, by decide, (tm 800 (by decide +kernel) rfl), hin_X12⟩
theorem fg_X12_13 : FldG 11 13 11 3 := ⟨RX12, TX12, 42, rfl, by decide, (tm 801 (by decide +kernel) rfl), hin_X12⟩
theorem fg_X12_16 : FldG 11 16 11 4 := ⟨RX12, TX12, 42, rfl, by decide, (tm 802 (by decide +kernel) rfl), hin_X12⟩
theorem fg_X12_19 : FldG 11 19 11 6 := ⟨RX12, TX12, 42, rfl, by decide, (tm 804 (by decide +kernel) rfl), hin_X12⟩
theorem fg_X12_22 : FldG 11 22 11 7 := ⟨RX12, TX12, 42, rfl, by decide, (tm 805 (by decide +kernel) rfl), hin_X12⟩
theorem fg_X12_25 : FldG 11 25 11 8 := ⟨RX12, TX12, 42, rfl, by decide, (tm 806 (by decide +kernel) rfl), hin_X12⟩
theorem fg_X12_28 : FldG 11 28 11 9 := ⟨RX12, TX12, 42, rfl, by decide, (tm 807 (by decide +kernel) rfl), hin_X12⟩
theorem fg_X12_31 : FldG 11 31 11 10 := ⟨RX12, TX12, 42, rfl, by decide, (tm 808 (by decide +kernel) rfl), hin_X12⟩
theorem fg_X12_34 : FldG 11 34 11 12 := ⟨RX12, TX12, 42, rfl, by decide, (tm 810 (by decide +kernel) rfl), hin_X12⟩
theorem fg_X12_37 : FldG 11 37 11 14 := ⟨RX12, TX12, 42, rfl, by decide, (tm 812 (by decide +kernel) rfl), hin_X12⟩
theorem fg_X12_40 : FldG 11 40 11 15 := ⟨RX12, TX12, 42, rfl, by decide, (tm 813 (by decide +kernel) rfl), hin_X12⟩
theorem fg_X12_43 : FldG 11 43 11 16 := ⟨RX12, TX12, 42, rfl, by decide, (tm 814 (by decide +kernel) rfl), hin_X12⟩
theorem fg_X12_47 : FldG 11 47 11 17 := ⟨RX12, TX12, 42, rfl, by decide, (tm 815 (by decide +kernel) rfl), hin_X12⟩
theorem fg_X12_50 : FldG 11 50 11 18 := ⟨RX12, TX12, 42, rfl, by decide, (tm 816 (by decide +kernel) rfl), hin_X12⟩
theorem fg_X12_53 : FldG 11 53 11 19 := ⟨RX12, TX12, 42, rfl, by decide, (tm 817 (by decide +kernel) rfl), hin_X12⟩
theorem fg_X12_56 : FldG 11 56 11 20 := ⟨RX12, TX12, 42, rfl, by decide, (tm 818 (by decide +kernel) rfl), hin_X12⟩
theorem fg_X12_59 : FldG 11 59 11 22 := ⟨RX12, TX12, 42, rfl, by decide, (tm 820 (by decide +kernel) rfl), hin_X12⟩
theorem fg_X12_62 : FldG 11 62 11 23 := ⟨RX12, TX12, 42, rfl, by decide, (tm 821 (by decide +kernel) rfl), hin_X12⟩
theorem fg_X12_65 : FldG 11 65 11 24 := ⟨RX12, TX12, 42, rfl, by decide, (tm 822 (by decide +kernel) rfl), hin_X12⟩
theorem fg_X12_68 : FldG 11 68 11 25 := ⟨RX12, TX12, 42, rfl, by decide, (tm 823 (by decide +kernel) rfl), hin_X12⟩
theorem fg_X12_71 : FldG 11 71 11 26 := ⟨RX12, TX12, 42, rfl, by decide, (tm 824 (by decide +kernel) rfl), hin_X12⟩
theorem fg_X12_74 : FldG 11 74 11 27 := ⟨RX12, TX12, 42, rfl, by decide, (tm 825 (by decide +kernel) rfl), hin_X12⟩
theorem fg_X12_77 : FldG 11 77 11 28 := ⟨RX12, TX12, 42, rfl, by decide, (tm 826 (by decide +kernel) rfl), hin_X12⟩
theorem fg_X12_80 : FldG 11 80 11 29 := ⟨RX12, TX12, 42, rfl, by decide, (tm 827 (by decide +kernel) rfl), hin_X12⟩
theorem fg_X12_83 : FldG 11 83 11 30 := ⟨RX12, TX12, 42, rfl, by decide, (tm 828 (by decide +kernel) rfl), hin_X12⟩
theorem fg_X12_86 : FldG 11 86 11 31 := ⟨RX12, TX12, 42, rfl, by decide, (tm 829 (by decide +kernel) rfl), hin_X12⟩
theorem fg_X12_89 : FldG 11 89 11 32 := ⟨RX12, TX12, 42, rfl, by decide, (tm 830 (by decide +kernel) rfl), hin_X12⟩
theorem fg_X12_92 : FldG 11 92 11 33 := ⟨RX12, TX12, 42, rfl, by decide, (tm 831 (by decide +kernel) rfl), hin_X12⟩
theorem fg_X12_95 : FldG 11 95 11 35 := ⟨RX12, TX12, 42, rfl, by decide, (tm 833 (by decide +kernel) rfl), hin_X12⟩
theorem fg_X12_98 : FldG 11 98 11 36 := ⟨RX12, TX12, 42, rfl, by decide, (tm 834 (by decide +kernel) rfl), hin_X12⟩
theorem fg_X12_101 : FldG 11 101 11 38 := ⟨RX12, TX12, 42, rfl, by decide, (tm 836 (by decide +kernel) rfl), hin_X12⟩
theorem fg_X12_104 : FldG 11 104 11 39 := ⟨RX12, TX12, 42, rfl, by decide, (tm 837 (by decide +kernel) rfl), hin_X12⟩
theorem fg_X12_107 : FldG 11 107 11 40 := ⟨RX12, TX12, 42, rfl, by decide, (tm 838 (by decide +kernel) rfl), hin_X12⟩
theorem fg_X12_110 : FldG 11 110 11 41 := ⟨RX12, TX12, 42, rfl, by decide, (tm 839 (by decide +kernel) rfl), hin_X12⟩
theorem fg_X12_113 : FldG 11 113 11 0 := ⟨RX12, TX12, 42, rfl, by decide, (tm 798 (by decide +kernel) rfl), hin_X12⟩
theorem fg_X12_121 : FldG 11 121 11 1 := ⟨RX12, TX12, 42, rfl, by decide, (tm 799 (by decide +kernel) rfl), hin_X12⟩
theorem fg_X12_124 : FldG 11 124 11 5 := ⟨RX12, TX12, 42, rfl, by decide, (tm 803 (by decide +kernel) rfl), hin_X12⟩
theorem fg_X12_179 : FldG 11 179 11 21 := ⟨RX12, TX12, 42, rfl, by decide, (tm 819 (by decide +kernel) rfl), hin_X12⟩
theorem fg_X12_223 : FldG 11 223 11 34 := ⟨RX12, TX12, 42, rfl, by decide, (tm 832 (by decide +kernel) rfl), hin_X12⟩
theorem fg_X12_232 : FldG 11 232 11 37 := ⟨RX12, TX12, 42, rfl, by decide, (tm 835 (by decide +kernel) rfl), hin_X12⟩
theorem fg_X12_248 : FldG 11 248 11 11 := ⟨RX12, TX12, 42, rfl, by decide, (tm 809 (by decide +kernel) rfl), hin_X12⟩
theorem fg_X12_251 : FldG 11 251 11 13 := ⟨RX12, TX12, 42, rfl, by decide, (tm 811 (by decide +kernel) rfl), hin_X12⟩
theorem fg_X2_9 : FldG 2 9 2 2 := ⟨RX2, TX2, 10, rfl, by decide, (tm 283 (by decide +kernel) rfl), hin_X2⟩
theorem fg_X2_15 : FldG 2 15 2 4 := ⟨RX2, TX2, 10, rfl, by decide, (tm 285 (by decide +kernel) rfl), hin_X2⟩
theorem fg_X2_18 : FldG 2 18 2 5 := ⟨RX2, TX2, 10, rfl, by decide, (tm 286 (by decide +kernel) rfl), hin_X2⟩
theorem fg_X2_21 : FldG 2 21 2 6 := ⟨RX2, TX2, 10, rfl, by decide, (tm 287 (by decide +kernel) rfl), hin_X2⟩
theorem fg_X2_24 : FldG 2 24 2 7 := ⟨RX2, TX2, 10, rfl, by decide, (tm 288 (by decide +kernel) rfl), hin_X2⟩
theorem fg_X2_27 : FldG 2 27 2 9 := ⟨RX2, TX2, 10, rfl, by decide, (tm 290 (by decide +kernel) rfl), hin_X2⟩
theorem fg_X2_30 : FldG 2 30 2 0 := ⟨RX2, TX2, 10, rfl, by decide, (tm 280 (by decide +kernel) rfl), hin_X2⟩
theorem fg_X2_34 : FldG 2 34 0 2 := ⟨RX0, TX0, 6, rfl, by decide, (tm 112 (by decide +kernel) rfl), hin_X0⟩
theorem fg_X2_39 : FldG 2 39 2 1 := ⟨RX2, TX2, 10, rfl, by decide, (tm 281 (by decide +kernel) rfl), hin_X2⟩
theorem fg_X2_47 : FldG 2 47 2 3 := ⟨RX2, TX2, 10, rfl, by decide, (tm 284 (by decide +kernel) rfl), hin_X2⟩
theorem fg_X2_50 : FldG 2 50 2 8 := ⟨RX2, TX2, 10, rfl, by decide, (tm 289 (by decide +kernel) rfl), hin_X2⟩
theorem fg_X2_73 : FldG 2 73 0 3 := ⟨RX0, TX0, 6, rfl, by decide, (tm 117 (by decide +kernel) rfl), hin_X0⟩
theorem fg_X2_88 : FldG 2 88 0 4 := ⟨RX0, TX0, 6, rfl, by decide, (tm 122 (by decide +kernel) rfl), hin_X0⟩
theorem fg_X3_9 : FldG 3 9 3 1 := ⟨RX3, TX3, 2, rfl, by decide, (tm 268 (by decide +kernel) rfl), hin_X3⟩
theorem fg_X3_15 : FldG 3 15 3 0 := ⟨RX3, TX3, 2, rfl, by decide, (tm 266 (by decide +kernel) rfl), hin_X3⟩
theorem fg_X4_9 : FldG 4 9 4 2 := ⟨RX4, TX4, 5, rfl, by decide, (tm 36 (by decide +kernel) rfl), hin_X4⟩
theorem fg_X4_15 : FldG 4 15 4 3 := ⟨RX4, TX4, 5, rfl, by decide, (tm 41 (by decide +kernel) rfl), hin_X4⟩
theorem fg_X4_18 : FldG 4 18 4 4 := ⟨RX4, TX4, 5, rfl, by decide, (tm 47 (by decide +kernel) rfl), hin_X4⟩
theorem fg_X4_21 : FldG 4 21 4 0 := ⟨RX4, TX4, 5, rfl, by decide, (tm 31 (by decide +kernel) rfl), hin_X4⟩
theorem fg_X4_25 : FldG 4 25 4 1 := ⟨RX4, TX4, 5, rfl, by decide, (tm 32 (by decide +kernel) rfl), hin_X4⟩
theorem fg_X5_9 : FldG 5 9 5 3 := ⟨RX5, TX5, 8, rfl, by decide, (tm 207 (by decide +kernel) rfl), hin_X5⟩
theorem fg_X5_15 : FldG 5 15 5 4 := ⟨RX5, TX5, 8, rfl, by decide, (tm 208 (by decide +kernel) rfl), hin_X5⟩
theorem fg_X5_18 : FldG 5 18 5 5 := ⟨RX5, TX5, 8, rfl, by decide, (tm 209 (by decide +kernel) rfl), hin_X5⟩
theorem fg_X5_21 : FldG 5 21 5 6 := ⟨RX5, TX5, 8, rfl, by decide, (tm 210 (by decide +kernel) rfl), hin_X5⟩
theorem fg_X5_24 : FldG 5 24 5 7 := ⟨RX5, TX5, 8, rfl, by decide, (tm 211 (by decide +kernel) rfl), hin_X5⟩
theorem fg_X5_27 : FldG 5 27 5 0 := ⟨RX5, TX5, 8, rfl, by decide, (tm 204 (by decide +kernel) rfl), hin_X5⟩
theorem fg_X5_31 : FldG 5 31 5 1 := ⟨RX5, TX5, 8, rfl, by decide, (tm 205 (by decide +kernel) rfl), hin_X5⟩
theorem fg_X5_40 : FldG 5 40 5 2 := ⟨RX5, TX5, 8, rfl, by decide, (tm 206 (by decide +kernel) rfl), hin_X5⟩
theorem fg_X5_51 : FldG 5 51 9 2 := ⟨RX10, TX10, 6, rfl, by decide, (tm 187 (by decide +kernel) rfl), hin_X10⟩
theorem fg_X5_55 : FldG 5 55 9 1 := ⟨RX10, TX10, 6, rfl, by decide, (tm 185 (by decide +kernel) rfl), hin_X10⟩
theorem fg_X5_81 : FldG 5 81 0 3 := ⟨RX0, TX0, 6, rfl, by decide, (tm 116 (by decide +kernel) rfl), hin_X0⟩
theorem fg_X6_9 : FldG 6 9 6 2 := ⟨RX6, TX6, 7, rfl, by decide, (tm 239 (by decide +kernel) rfl), hin_X6⟩
theorem fg_X6_15 : FldG 6 15 6 3 := ⟨RX6, TX6, 7, rfl, by decide, (tm 240 (by decide +kernel) rfl), hin_X6⟩
theorem fg_X6_18 : FldG 6 18 6 4 := ⟨RX6, TX6, 7, rfl, by decide, (tm 241 (by decide +kernel) rfl), hin_X6⟩
theorem fg_X6_21 : FldG 6 21 6 6 := ⟨RX6, TX6, 7, rfl, by decide, (tm 243 (by decide +kernel) rfl), hin_X6⟩
theorem fg_X6_25 : FldG 6 25 6 0 := ⟨RX6, TX6, 7, rfl, by decide, (tm 237 (by decide +kernel) rfl), hin_X6⟩
theorem fg_X6_34 : FldG 6 34 6 1 := ⟨RX6, TX6, 7, rfl, by decide, (tm 238 (by decide +kernel) rfl), hin_X6⟩
theorem fg_X6_38 : FldG 6 38 0 5 := ⟨RX0, TX0, 6, rfl, by decide, (tm 125 (by decide +kernel) rfl), hin_X0⟩
theorem fg_X6_55 : FldG 6 55 6 5 := ⟨RX6, TX6, 7, rfl, by decide, (tm 242 (by decide +kernel) rfl), hin_X6⟩
theorem fg_X6_87 : FldG 6 87 0 3 := ⟨RX0, TX0, 6, rfl, by decide, (tm 115 (by decide +kernel) rfl), hin_X0⟩
theorem fg_X6_106 : FldG 6 106 0 4 := ⟨RX0, TX0, 6, rfl, by decide, (tm 121 (by decide +kernel) rfl), hin_X0⟩
theorem fg_X7_9 : FldG 7 9 7 3 := ⟨RX7, TX7, 8, rfl, by decide, (tm 149 (by decide +kernel) rfl), hin_X7⟩
theorem fg_X7_15 : FldG 7 15 7 4 := ⟨RX7, TX7, 8, rfl, by decide, (tm 150 (by decide +kernel) rfl), hin_X7⟩
theorem fg_X7_18 : FldG 7 18 7 5 := ⟨RX7, TX7, 8, rfl, by decide, (tm 151 (by decide +kernel) rfl), hin_X7⟩
theorem fg_X7_21 : FldG 7 21 7 7 := ⟨RX7, TX7, 8, rfl, by decide, (tm 153 (by decide +kernel) rfl), hin_X7⟩
theorem fg_X7_24 : FldG 7 24 7 0 := ⟨RX7, TX7, 8, rfl, by decide, (tm 146 (by decide +kernel) rfl), hin_X7⟩
theorem fg_X7_28 : FldG 7 28 7 1 := ⟨RX7, TX7, 8, rfl, by decide, (tm 147 (by decide +kernel) rfl), hin_X7⟩
theorem fg_X7_32 : FldG 7 32 7 2 := ⟨RX7, TX7, 8, rfl, by decide, (tm 148 (by decide +kernel) rfl), hin_X7⟩
theorem fg_X7_36 : FldG 7 36 0 1 := ⟨RX0, TX0, 6, rfl, by decide, (tm 108 (by decide +kernel) rfl), hin_X0⟩
theorem fg_X7_42 : FldG 7 42 7 6 := ⟨RX7, TX7, 8, rfl, by decide, (tm 152 (by decide +kernel) rfl), hin_X7⟩
theorem fg_X7_66 : FldG 7 66 0 4 := ⟨RX0, TX0, 6, rfl, by decide, (tm 120 (by decide +kernel) rfl), hin_X0⟩
theorem fg_X7_73 : FldG 7 73 4 3 := ⟨RX4, TX4, 5, rfl, by decide, (tm 42 (by decide +kernel) rfl), hin_X4⟩
theorem fg_X8_9 : FldG 8 9 8 1 := ⟨RX8, TX8, 4, rfl, by decide, (tm 88 (by decide +kernel) rfl), hin_X8⟩
theorem fg_X8_15 : FldG 8 15 8 2 := ⟨RX8, TX8, 4, rfl, by decide, (tm 89 (by decide +kernel) rfl), hin_X8⟩
theorem fg_X8_18 : FldG 8 18 8 3 := ⟨RX8, TX8, 4, rfl, by decide, (tm 90 (by decide +kernel) rfl), hin_X8⟩
theorem fg_X8_21 : FldG 8 21 8 0 := ⟨RX8, TX8, 4, rfl, by decide, (tm 87 (by decide +kernel) rfl), hin_X8⟩
theorem fg_X8_32 : FldG 8 32 4 1 := ⟨RX4, TX4, 5, rfl, by decide, (tm 35 (by decide +kernel) rfl), hin_X4⟩
theorem fg_X8_42 : FldG 8 42 4 2 := ⟨RX4, TX4, 5, rfl, by decide, (tm 40 (by decide +kernel) rfl), hin_X4⟩
theorem fg_X8_53 : FldG 8 53 4 3 := ⟨RX4, TX4, 5, rfl, by decide, (tm 45 (by decide +kernel) rfl), hin_X4⟩
theorem fp_X0_34 : FldP 0 34 0 1 := ⟨RX0, TX0, 6, tyX0, rfl, by decide, (tm 109 (by decide +kernel) rfl), hin_X0, tyX0_ok, nmX0, rfl, rfl⟩
theorem fp_X10_25 : FldP 9 25 9 3 := ⟨RX10, TX10, 6, tyX10, rfl, by decide, (tm 188 (by decide +kernel) rfl), hin_X10, tyX10_ok, nmX10, rfl, rfl⟩
theorem fp_X10_29 : FldP 9 29 9 2 := ⟨RX10, TX10, 6, tyX10, rfl, by decide, (tm 186 (by decide +kernel) rfl), hin_X10, tyX10_ok, nmX10, rfl, rfl⟩
theorem fp_X11_80 : FldP 10 80 4 0 := ⟨RX4, TX4, 5, tyX4, rfl, by decide, (tm 30 (by decide +kernel) rfl), hin_X4, tyX4_ok, nmX4, rfl, rfl⟩
theorem fp_X11_193 : FldP 10 193 2 1 := ⟨RX2, TX2, 10, tyX2, rfl, by decide, (tm 282 (by decide +kernel) rfl), hin_X2, tyX2_ok, nmX2, rfl, rfl⟩
theorem fp_X12_113 : FldP 11 113 11 0 := ⟨RX12, TX12, 42, tyX12, rfl, by decide, (tm 798 (by decide +kernel) rfl), hin_X12, tyX12_ok, nmX12, rfl, rfl⟩
theorem fp_X12_121 : FldP 11 121 11 1 := ⟨RX12, TX12, 42, tyX12, rfl, by decide, (tm 799 (by decide +kernel) rfl), hin_X12, tyX12_ok, nmX12, rfl, rfl⟩
theorem fp_X12_124 : FldP 11 124 11 5 := ⟨RX12, TX12, 42, tyX12, rfl, by decide, (tm 803 (by decide +kernel) rfl), hin_X12, tyX12_ok, nmX12, rfl, rfl⟩
theorem fp_X12_179 : FldP 11 179 11 21 := ⟨RX12, TX12, 42, tyX12, rfl, by decide, (tm 819 (by decide +kernel) rfl), hin_X12, tyX12_ok, nmX12, rfl, rfl⟩
theorem fp_X12_223 : FldP 11 223 11 34 := ⟨RX12, TX12, 42, tyX12, rfl, by decide, (tm 832 (by decide +kernel) rfl), hin_X12, tyX12_ok, nmX12, rfl, rfl⟩
theorem fp_X12_232 : FldP 11 232 11 37 := ⟨RX12, TX12, 42, tyX12, rfl, by decide, (tm 835 (by decide +kernel) rfl), hin_X12, tyX12_ok, nmX12, rfl, rfl⟩
theorem fp_X12_248 : FldP 11 248 11 11 := ⟨RX12, TX12, 42, tyX12, rfl, by decide, (tm 809 (by decide +kernel) rfl), hin_X12, tyX12_ok, nmX12, rfl, rfl⟩
theorem fp_X12_251 : FldP 11 251 11 13 := ⟨RX12, TX12, 42, tyX12, rfl, by decide, (tm 811 (by decide +kernel) rfl), hin_X12, tyX12_ok, nmX12, rfl, rfl⟩
theorem fp_X2_39 : FldP 2 39 2 1 := ⟨RX2, TX2, 10, tyX2, rfl, by decide, (tm 281 (by decide +kernel) rfl), hin_X2, tyX2_ok, nmX2, rfl, rfl⟩
theorem fp_X2_47 : FldP 2 47 2 3 := ⟨RX2, TX2, 10, tyX2, rfl, by decide, (tm 284 (by decide +kernel) rfl), hin_X2, tyX2_ok, nmX2, rfl, rfl⟩
theorem fp_X2_50 : FldP 2 50 2 8 := ⟨RX2, TX2, 10, tyX2, rfl, by decide, (tm 289 (by decide +kernel) rfl), hin_X2, tyX2_ok, nmX2, rfl, rfl⟩
theorem fp_X3_15 : FldP 3 15 3 0 := ⟨RX3, TX3, 2, tyX3, rfl, by decide, (tm 266 (by decide +kernel) rfl), hin_X3, tyX3_ok, nmX3, rfl, rfl⟩
theorem fp_X4_25 : FldP 4 25 4 1 := ⟨RX4, TX4, 5, tyX4, rfl, by decide, (tm 32 (by decide +kernel) rfl), hin_X4, tyX4_ok, nmX4, rfl, rfl⟩
theorem fp_X6_55 : FldP 6 55 6 5 := ⟨RX6, TX6, 7, tyX6, rfl, by decide, (tm 242 (by decide +kernel) rfl), hin_X6, tyX6_ok, nmX6, rfl, rfl⟩
theorem fp_X7_36 : FldP 7 36 0 1 := ⟨RX0, TX0, 6, tyX0, rfl, by decide, (tm 108 (by decide +kernel) rfl), hin_X0, tyX0_ok, nmX0, rfl, rfl⟩
theorem fp_X7_42 : FldP 7 42 7 6 := ⟨RX7, TX7, 8, tyX7, rfl, by decide, (tm 152 (by decide +kernel) rfl), hin_X7, tyX7_ok, nmX7, rfl, rfl⟩
theorem cl_L_102 : CallV 13 102 mX12_boundCount 0 := ⟨ok_X12_boundCount, by decide, (tm 1137 (by decide +kernel) rfl), (tm 1138 (by decide +kernel) rfl), (tm 1139 (by decide +kernel) rfl)⟩
theorem cl_L_103 : CallV 13 103 mX11_unbindAll 0 := ⟨ok_X11_unbindAll, by decide, (tm 675 (by decide +kernel) rfl), (tm 676 (by decide +kernel) rfl), (tm 677 (by decide +kernel) rfl)⟩
theorem cl_L_106 : CallV 13 106 mX12_unbindAll 0 := ⟨ok_X12_unbindAll, by decide, (tm 1141 (by decide +kernel) rfl), (tm 1142 (by decide +kernel) rfl), (tm 1143 (by decide +kernel) rfl)⟩
theorem cl_L_107 : CallV 13 107 mX11_push 0 := ⟨ok_X11_push, by decide, (tm 680 (by decide +kernel) rfl), (tm 681 (by decide +kernel) rfl), (tm 682 (by decide +kernel) rfl)⟩
theorem cl_L_110 : CallV 13 110 mX12_push 0 := ⟨ok_X12_push, by decide, (tm 1146 (by decide +kernel) rfl), (tm 1147 (by decide +kernel) rfl), (tm 1148 (by decide +kernel) rfl)⟩
theorem cl_L_111 : CallV 13 111 mX11_pop 0 := ⟨ok_X11_pop, by decide, (tm 689 (by decide +kernel) rfl), (tm 690 (by decide +kernel) rfl), (tm 691 (by decide +kernel) rfl)⟩
theorem cl_L_114 : CallV 13 114 mX12_pop 0 := ⟨ok_X12_pop, by decide, (tm 1150 (by decide +kernel) rfl), (tm 1151 (by decide +kernel) rfl), (tm 1152 (by decide +kernel) rfl)⟩
theorem cl_L_115 : CallV 13 115 mX11_addRow 1 := ⟨ok_X11_addRow, by decide, (tm 697 (by decide +kernel) rfl), (tm 698 (by decide +kernel) rfl), (tm 699 (by decide +kernel) rfl)⟩
theorem cl_L_118 : CallV 13 118 mX12_addRow 1 := ⟨ok_X12_addRow, by decide, (tm 1154 (by decide +kernel) rfl), (tm 1155 (by decide +kernel) rfl), (tm 1156 (by decide +kernel) rfl)⟩
theorem cl_L_119 : CallV 13 119 mX11_clearRows 0 := ⟨ok_X11_clearRows, by decide, (tm 709 (by decide +kernel) rfl), (tm 710 (by decide +kernel) rfl), (tm 711 (by decide +kernel) rfl)⟩
theorem cl_L_122 : CallV 13 122 mX12_clearRows 0 := ⟨ok_X12_clearRows, by decide, (tm 1158 (by decide +kernel) rfl), (tm 1159 (by decide +kernel) rfl), (tm 1160 (by decide +kernel) rfl)⟩
theorem cl_L_123 : CallV 13 123 mX11_firstMatch 1 := ⟨ok_X11_firstMatch, by decide, (tm 713 (by decide +kernel) rfl), (tm 714 (by decide +kernel) rfl), (tm 715 (by decide +kernel) rfl)⟩
theorem cl_L_126 : CallV 13 126 mX12_firstMatch 1 := ⟨ok_X12_firstMatch, by decide, (tm 1162 (by decide +kernel) rfl), (tm 1163 (by decide +kernel) rfl), (tm 1164 (by decide +kernel) rfl)⟩
theorem cl_L_127 : CallV 13 127 mX11_uncovered 1 := ⟨ok_X11_uncovered, by decide, (tm 771 (by decide +kernel) rfl), (tm 772 (by decide +kernel) rfl), (tm 773 (by decide +kernel) rfl)⟩
theorem cl_L_13 : CallV 13 13 mX11_addType 0 := ⟨ok_X11_addType, by decide, (tm 340 (by decide +kernel) rfl), (tm 341 (by decide +kernel) rfl), (tm 342 (by decide +kernel) rfl)⟩
theorem cl_L_130 : CallV 13 130 mX12_uncovered 1 := ⟨ok_X12_uncovered, by decide, (tm 1182 (by decide +kernel) rfl), (tm 1183 (by decide +kernel) rfl), (tm 1184 (by decide +kernel) rfl)⟩
theorem cl_L_131 : CallV 13 131 mX11_firstUncovered 1 := ⟨ok_X11_firstUncovered, by decide, (tm 780 (by decide +kernel) rfl), (tm 781 (by decide +kernel) rfl), (tm 782 (by decide +kernel) rfl)⟩
theorem cl_L_134 : CallV 13 134 mX12_firstUncovered 1 := ⟨ok_X12_firstUncovered, by decide, (tm 1194 (by decide +kernel) rfl), (tm 1195 (by decide +kernel) rfl), (tm 1196 (by decide +kernel) rfl)⟩
theorem cl_L_135 : CallV 13 135 mX11_coveredBy 2 := ⟨ok_X11_coveredBy, by decide, (tm 788 (by decide +kernel) rfl), (tm 789 (by decide +kernel) rfl), (tm 790 (by decide +kernel) rfl)⟩
theorem cl_L_138 : CallV 13 138 mX12_coveredBy 2 := ⟨ok_X12_coveredBy, by decide, (tm 1198 (by decide +kernel) rfl), (tm 1199 (by decide +kernel) rfl), (tm 1200 (by decide +kernel) rfl)⟩
theorem cl_L_17 : CallV 13 17 mX12_addType 0 := ⟨ok_X12_addType, by decide, (tm 926 (by decide +kernel) rfl), (tm 927 (by decide +kernel) rfl), (tm 928 (by decide +kernel) rfl)⟩
theorem cl_L_18 : CallV 13 18 mX11_addConstructor 5 := ⟨ok_X11_addConstructor, by decide, (tm 344 (by decide +kernel) rfl), (tm 345 (by decide +kernel) rfl), (tm 346 (by decide +kernel) rfl)⟩
theorem cl_L_22 : CallV 13 22 mX12_addConstructor 5 := ⟨ok_X12_addConstructor, by decide, (tm 930 (by decide +kernel) rfl), (tm 931 (by decide +kernel) rfl), (tm 932 (by decide +kernel) rfl)⟩
theorem cl_L_23 : CallV 13 23 mX11_resultType 1 := ⟨ok_X11_resultType, by decide, (tm 419 (by decide +kernel) rfl), (tm 420 (by decide +kernel) rfl), (tm 421 (by decide +kernel) rfl)⟩
theorem cl_L_27 : CallV 13 27 mX12_resultType 1 := ⟨ok_X12_resultType, by decide, (tm 941 (by decide +kernel) rfl), (tm 942 (by decide +kernel) rfl), (tm 943 (by decide +kernel) rfl)⟩
theorem cl_L_28 : CallV 13 28 mX11_arity 1 := ⟨ok_X11_arity, by decide, (tm 427 (by decide +kernel) rfl), (tm 428 (by decide +kernel) rfl), (tm 429 (by decide +kernel) rfl)⟩
theorem cl_L_31 : CallV 13 31 mX12_arity 1 := ⟨ok_X12_arity, by decide, (tm 949 (by decide +kernel) rfl), (tm 950 (by decide +kernel) rfl), (tm 951 (by decide +kernel) rfl)⟩
theorem cl_L_32 : CallV 13 32 mX11_argumentType 2 := ⟨ok_X11_argumentType, by decide, (tm 431 (by decide +kernel) rfl), (tm 432 (by decide +kernel) rfl), (tm 433 (by decide +kernel) rfl)⟩
theorem cl_L_36 : CallV 13 36 mX12_argumentType 2 := ⟨ok_X12_argumentType, by decide, (tm 953 (by decide +kernel) rfl), (tm 954 (by decide +kernel) rfl), (tm 955 (by decide +kernel) rfl)⟩
theorem cl_L_37 : CallV 13 37 mX11_cardinality 1 := ⟨ok_X11_cardinality, by decide, (tm 436 (by decide +kernel) rfl), (tm 437 (by decide +kernel) rfl), (tm 438 (by decide +kernel) rfl)⟩
theorem cl_L_40 : CallV 13 40 mX12_cardinality 1 := ⟨ok_X12_cardinality, by decide, (tm 957 (by decide +kernel) rfl), (tm 958 (by decide +kernel) rfl), (tm 959 (by decide +kernel) rfl)⟩
theorem cl_L_41 : CallV 13 41 mX11_smallestSize 1 := ⟨ok_X11_smallestSize, by decide, (tm 440 (by decide +kernel) rfl), (tm 441 (by decide +kernel) rfl), (tm 442 (by decide +kernel) rfl)⟩
theorem cl_L_44 : CallV 13 44 mX12_smallestSize 1 := ⟨ok_X12_smallestSize, by decide, (tm 990 (by decide +kernel) rfl), (tm 991 (by decide +kernel) rfl), (tm 992 (by decide +kernel) rfl)⟩
theorem cl_L_45 : CallV 13 45 mX11_count 2 := ⟨ok_X11_count, by decide, (tm 444 (by decide +kernel) rfl), (tm 445 (by decide +kernel) rfl), (tm 446 (by decide +kernel) rfl)⟩
theorem cl_L_48 : CallV 13 48 mX12_count 2 := ⟨ok_X12_count, by decide, (tm 994 (by decide +kernel) rfl), (tm 995 (by decide +kernel) rfl), (tm 996 (by decide +kernel) rfl)⟩
theorem cl_L_49 : CallV 13 49 mX11_value 3 := ⟨ok_X11_value, by decide, (tm 452 (by decide +kernel) rfl), (tm 453 (by decide +kernel) rfl), (tm 454 (by decide +kernel) rfl)⟩
theorem cl_L_53 : CallV 13 53 mX12_value 3 := ⟨ok_X12_value, by decide, (tm 1013 (by decide +kernel) rfl), (tm 1014 (by decide +kernel) rfl), (tm 1015 (by decide +kernel) rfl)⟩
theorem cl_L_54 : CallV 13 54 mX11_variable 1 := ⟨ok_X11_variable, by decide, (tm 499 (by decide +kernel) rfl), (tm 500 (by decide +kernel) rfl), (tm 501 (by decide +kernel) rfl)⟩
theorem cl_L_57 : CallV 13 57 mX12_variable 1 := ⟨ok_X12_variable, by decide, (tm 1041 (by decide +kernel) rfl), (tm 1042 (by decide +kernel) rfl), (tm 1043 (by decide +kernel) rfl)⟩
theorem cl_L_58 : CallV 13 58 mX11_term 4 := ⟨ok_X11_term, by decide, (tm 507 (by decide +kernel) rfl), (tm 508 (by decide +kernel) rfl), (tm 509 (by decide +kernel) rfl)⟩
theorem cl_L_62 : CallV 13 62 mX12_term 4 := ⟨ok_X12_term, by decide, (tm 1045 (by decide +kernel) rfl), (tm 1046 (by decide +kernel) rfl), (tm 1047 (by decide +kernel) rfl)⟩
theorem cl_L_63 : CallV 13 63 mX11_nodeCount 0 := ⟨ok_X11_nodeCount, by decide, (tm 520 (by decide +kernel) rfl), (tm 521 (by decide +kernel) rfl), (tm 522 (by decide +kernel) rfl)⟩
theorem cl_L_66 : CallV 13 66 mX12_nodeCount 0 := ⟨ok_X12_nodeCount, by decide, (tm 1057 (by decide +kernel) rfl), (tm 1058 (by decide +kernel) rfl), (tm 1059 (by decide +kernel) rfl)⟩
theorem cl_L_67 : CallV 13 67 mX11_nodeType 1 := ⟨ok_X11_nodeType, by decide, (tm 524 (by decide +kernel) rfl), (tm 525 (by decide +kernel) rfl), (tm 526 (by decide +kernel) rfl)⟩
theorem cl_L_70 : CallV 13 70 mX12_nodeType 1 := ⟨ok_X12_nodeType, by decide, (tm 1061 (by decide +kernel) rfl), (tm 1062 (by decide +kernel) rfl), (tm 1063 (by decide +kernel) rfl)⟩
theorem cl_L_71 : CallV 13 71 mX11_head 1 := ⟨ok_X11_head, by decide, (tm 528 (by decide +kernel) rfl), (tm 529 (by decide +kernel) rfl), (tm 530 (by decide +kernel) rfl)⟩
theorem cl_L_74 : CallV 13 74 mX12_head 1 := ⟨ok_X12_head, by decide, (tm 1065 (by decide +kernel) rfl), (tm 1066 (by decide +kernel) rfl), (tm 1067 (by decide +kernel) rfl)⟩
theorem cl_L_75 : CallV 13 75 mX11_child 2 := ⟨ok_X11_child, by decide, (tm 540 (by decide +kernel) rfl), (tm 541 (by decide +kernel) rfl), (tm 542 (by decide +kernel) rfl)⟩
theorem cl_L_78 : CallV 13 78 mX12_child 2 := ⟨ok_X12_child, by decide, (tm 1073 (by decide +kernel) rfl), (tm 1074 (by decide +kernel) rfl), (tm 1075 (by decide +kernel) rfl)⟩
theorem cl_L_79 : CallV 13 79 mX11_binding 1 := ⟨ok_X11_binding, by decide, (tm 549 (by decide +kernel) rfl), (tm 550 (by decide +kernel) rfl), (tm 551 (by decide +kernel) rfl)⟩
theorem cl_L_82 : CallV 13 82 mX12_binding 1 := ⟨ok_X12_binding, by decide, (tm 1081 (by decide +kernel) rfl), (tm 1082 (by decide +kernel) rfl), (tm 1083 (by decide +kernel) rfl)⟩
theorem cl_L_83 : CallV 13 83 mX11_size 1 := ⟨ok_X11_size, by decide, (tm 553 (by decide +kernel) rfl), (tm 554 (by decide +kernel) rfl), (tm 555 (by decide +kernel) rfl)⟩
theorem cl_L_86 : CallV 13 86 mX12_size 1 := ⟨ok_X12_size, by decide, (tm 1085 (by decide +kernel) rfl), (tm 1086 (by decide +kernel) rfl), (tm 1087 (by decide +kernel) rfl)⟩
theorem cl_L_87 : CallV 13 87 mX11_rank 1 := ⟨ok_X11_rank, by decide, (tm 598 (by decide +kernel) rfl), (tm 599 (by decide +kernel) rfl), (tm 600 (by decide +kernel) rfl)⟩
theorem cl_L_90 : CallV 13 90 mX12_rank 1 := ⟨ok_X12_rank, by decide, (tm 1097 (by decide +kernel) rfl), (tm 1098 (by decide +kernel) rfl), (tm 1099 (by decide +kernel) rfl)⟩
theorem cl_L_91 : CallV 13 91 mX11_equal 2 := ⟨ok_X11_equal, by decide, (tm 610 (by decide +kernel) rfl), (tm 611 (by decide +kernel) rfl), (tm 612 (by decide +kernel) rfl)⟩
theorem cl_L_94 : CallV 13 94 mX12_equal 2 := ⟨ok_X12_equal, by decide, (tm 1109 (by decide +kernel) rfl), (tm 1110 (by decide +kernel) rfl), (tm 1111 (by decide +kernel) rfl)⟩
theorem cl_L_95 : CallV 13 95 mX11_unify 2 := ⟨ok_X11_unify, by decide, (tm 626 (by decide +kernel) rfl), (tm 627 (by decide +kernel) rfl), (tm 628 (by decide +kernel) rfl)⟩
theorem cl_L_98 : CallV 13 98 mX12_unify 2 := ⟨ok_X12_unify, by decide, (tm 1121 (by decide +kernel) rfl), (tm 1122 (by decide +kernel) rfl), (tm 1123 (by decide +kernel) rfl)⟩
theorem cl_L_99 : CallV 13 99 mX11_boundCount 0 := ⟨ok_X11_boundCount, by decide, (tm 667 (by decide +kernel) rfl), (tm 668 (by decide +kernel) rfl), (tm 669 (by decide +kernel) rfl)⟩
theorem cl_X0_38 : CallV 0 38 mX0_fill 2 := ⟨ok_X0_fill, by decide, (tm 519 (by decide +kernel) rfl), (tm 487 (by decide +kernel) rfl), (tm 488 (by decide +kernel) rfl)⟩
theorem cl_X0_46 : CallV 0 46 mX0_isVariable 1 := ⟨ok_X0_isVariable, by decide, (tm 548 (by decide +kernel) rfl), (tm 537 (by decide +kernel) rfl), (tm 538 (by decide +kernel) rfl)⟩
theorem cl_X0_53 : CallV 0 53 mX0_resolve 1 := ⟨ok_X0_resolve, by decide, (tm 584 (by decide +kernel) rfl), (tm 533 (by decide +kernel) rfl), (tm 534 (by decide +kernel) rfl)⟩
theorem cl_X1_22 : CallS 1 22 mJ7_fill_53178 2 := ⟨ok_J7_fill_53178, (tm 66 (by decide +kernel) rfl), (tm 67 (by decide +kernel) rfl)⟩
theorem cl_X1_28 : CallV 1 28 mX1_findSmallest 0 := ⟨ok_X1_findSmallest, by decide, (tm 360 (by decide +kernel) rfl), (tm 362 (by decide +kernel) rfl), (tp 0 (by decide +kernel) rfl)⟩
theorem cl_X1_31 : CallV 1 31 mX1_findTotals 0 := ⟨ok_X1_findTotals, by decide, (tm 376 (by decide +kernel) rfl), (tm 378 (by decide +kernel) rfl), (tp 3 (by decide +kernel) rfl)⟩
theorem cl_X1_40 : CallV 1 40 mX1_improveSmallest 1 := ⟨ok_X1_improveSmallest, by decide, (tm 364 (by decide +kernel) rfl), (tm 366 (by decide +kernel) rfl), (tp 1 (by decide +kernel) rfl)⟩
theorem cl_X1_44 : CallV 1 44 mX1_isUsable 1 := ⟨ok_X1_isUsable, by decide, (tm 368 (by decide +kernel) rfl), (tm 370 (by decide +kernel) rfl), (tp 2 (by decide +kernel) rfl)⟩
theorem cl_X1_51 : CallV 1 51 mX4_typeOfArgument 2 := ⟨ok_X4_typeOfArgument, by decide, (tm 372 (by decide +kernel) rfl), (tm 373 (by decide +kernel) rfl), (tm 374 (by decide +kernel) rfl)⟩
theorem cl_X1_58 : CallV 1 58 mX1_totalOfType 1 := ⟨ok_X1_totalOfType, by decide, (tm 380 (by decide +kernel) rfl), (tm 382 (by decide +kernel) rfl), (tp 4 (by decide +kernel) rfl)⟩
theorem cl_X1_62 : CallV 1 62 mX1_totalOfConstructor 1 := ⟨ok_X1_totalOfConstructor, by decide, (tm 384 (by decide +kernel) rfl), (tm 386 (by decide +kernel) rfl), (tp 5 (by decide +kernel) rfl)⟩
theorem cl_X1_65 : CallN 1 65 mX11_limitedSum 2 := ⟨ok_X11_limitedSum, by decide +kernel, (tm 394 (by decide +kernel) rfl)⟩
theorem cl_X1_68 : CallN 1 68 mX11_limitedProduct 2 := ⟨ok_X11_limitedProduct, by decide +kernel, (tm 389 (by decide +kernel) rfl)⟩
theorem cl_X10_32 : CallV 9 32 mX0_resolve 1 := ⟨ok_X0_resolve, by decide, (tm 569 (by decide +kernel) rfl), (tm 533 (by decide +kernel) rfl), (tm 534 (by decide +kernel) rfl)⟩
theorem cl_X10_38 : CallV 9 38 mX10_hasListed 1 := ⟨ok_X10_hasListed, by decide, (tm 570 (by decide +kernel) rfl), (tm 571 (by decide +kernel) rfl), (tm 572 (by decide +kernel) rfl)⟩
theorem cl_X10_43 : CallV 9 43 mX10_unlistedPart 1 := ⟨ok_X10_unlistedPart, by decide, (tm 575 (by decide +kernel) rfl), (tm 577 (by decide +kernel) rfl), (tp 11 (by decide +kernel) rfl)⟩
theorem cl_X10_46 : CallV 9 46 mX10_list 1 := ⟨ok_X10_list, by decide, (tm 585 (by decide +kernel) rfl), (tm 587 (by decide +kernel) rfl), (tp 12 (by decide +kernel) rfl)⟩
theorem cl_X10_50 : CallV 9 50 mX0_partTotal 1 := ⟨ok_X0_partTotal, by decide, (tm 579 (by decide +kernel) rfl), (tm 545 (by decide +kernel) rfl), (tm 546 (by decide +kernel) rfl)⟩
theorem cl_X10_53 : CallV 9 53 mX0_resolvedPart 2 := ⟨ok_X0_resolvedPart, by decide, (tm 580 (by decide +kernel) rfl), (tm 581 (by decide +kernel) rfl), (tm 582 (by decide +kernel) rfl)⟩
theorem cl_X11_109 : CallV 10 109 mX4_typeOfArgument 2 := ⟨ok_X4_typeOfArgument, by decide, (tm 435 (by decide +kernel) rfl), (tm 373 (by decide +kernel) rfl), (tm 374 (by decide +kernel) rfl)⟩
theorem cl_X11_119 : CallV 10 119 mX8_countOf 2 := ⟨ok_X8_countOf, by decide, (tm 448 (by decide +kernel) rfl), (tm 449 (by decide +kernel) rfl), (tm 450 (by decide +kernel) rfl)⟩
theorem cl_X11_125 : CallV 10 125 mX7_build 3 := ⟨ok_X7_build, by decide, (tm 456 (by decide +kernel) rfl), (tm 457 (by decide +kernel) rfl), (tm 458 (by decide +kernel) rfl)⟩
theorem cl_X11_129 : CallV 10 129 mX0_addVariable 1 := ⟨ok_X0_addVariable, by decide, (tm 503 (by decide +kernel) rfl), (tm 504 (by decide +kernel) rfl), (tm 505 (by decide +kernel) rfl)⟩
theorem cl_X11_133 : CallV 10 133 mX0_contains 1 := ⟨ok_X0_contains, by decide, (tm 511 (by decide +kernel) rfl), (tm 512 (by decide +kernel) rfl), (tm 513 (by decide +kernel) rfl)⟩
theorem cl_X11_139 : CallV 10 139 mX0_addConstructed 4 := ⟨ok_X0_addConstructed, by decide, (tm 515 (by decide +kernel) rfl), (tm 516 (by decide +kernel) rfl), (tm 517 (by decide +kernel) rfl)⟩
theorem cl_X11_143 : CallV 10 143 mX0_resolve 1 := ⟨ok_X0_resolve, by decide, (tm 532 (by decide +kernel) rfl), (tm 533 (by decide +kernel) rfl), (tm 534 (by decide +kernel) rfl)⟩
theorem cl_X11_146 : CallV 10 146 mX0_isVariable 1 := ⟨ok_X0_isVariable, by decide, (tm 536 (by decide +kernel) rfl), (tm 537 (by decide +kernel) rfl), (tm 538 (by decide +kernel) rfl)⟩
theorem cl_X11_152 : CallV 10 152 mX0_partTotal 1 := ⟨ok_X0_partTotal, by decide, (tm 544 (by decide +kernel) rfl), (tm 545 (by decide +kernel) rfl), (tm 546 (by decide +kernel) rfl)⟩
theorem cl_X11_161 : CallV 10 161 mX5_measure 1 := ⟨ok_X5_measure, by decide, (tm 557 (by decide +kernel) rfl), (tm 558 (by decide +kernel) rfl), (tm 559 (by decide +kernel) rfl)⟩
theorem cl_X11_164 : CallV 10 164 mX5_indexAmongValues 1 := ⟨ok_X5_indexAmongValues, by decide, (tm 602 (by decide +kernel) rfl), (tm 603 (by decide +kernel) rfl), (tm 604 (by decide +kernel) rfl)⟩
theorem cl_X11_168 : CallV 10 168 mX5_sameTerm 2 := ⟨ok_X5_sameTerm, by decide, (tm 614 (by decide +kernel) rfl), (tm 615 (by decide +kernel) rfl), (tm 616 (by decide +kernel) rfl)⟩
theorem cl_X11_172 : CallV 10 172 mX6_run 2 := ⟨ok_X6_run, by decide, (tm 630 (by decide +kernel) rfl), (tm 631 (by decide +kernel) rfl), (tm 632 (by decide +kernel) rfl)⟩
theorem cl_X11_175 : CallV 10 175 mX0_countBound 0 := ⟨ok_X0_countBound, by decide, (tm 671 (by decide +kernel) rfl), (tm 672 (by decide +kernel) rfl), (tm 673 (by decide +kernel) rfl)⟩
theorem cl_X11_179 : CallS 10 179 mJ7_fill_53178 2 := ⟨ok_J7_fill_53178, (tm 679 (by decide +kernel) rfl), (tm 67 (by decide +kernel) rfl)⟩
theorem cl_X11_186 : CallV 10 186 mX3_save 1 := ⟨ok_X3_save, by decide, (tm 684 (by decide +kernel) rfl), (tm 685 (by decide +kernel) rfl), (tm 686 (by decide +kernel) rfl)⟩
theorem cl_X11_190 : CallV 10 190 mX3_restore 1 := ⟨ok_X3_restore, by decide, (tm 693 (by decide +kernel) rfl), (tm 694 (by decide +kernel) rfl), (tm 695 (by decide +kernel) rfl)⟩
theorem cl_X11_194 : CallV 10 194 mX2_subjectType 0 := ⟨ok_X2_subjectType, by decide, (tm 701 (by decide +kernel) rfl), (tm 702 (by decide +kernel) rfl), (tm 703 (by decide +kernel) rfl)⟩
theorem cl_X11_197 : CallV 10 197 mX2_append 1 := ⟨ok_X2_append, by decide, (tm 705 (by decide +kernel) rfl), (tm 706 (by decide +kernel) rfl), (tm 707 (by decide +kernel) rfl)⟩
theorem cl_X11_200 : CallV 10 200 mX5_canonicalNode 1 := ⟨ok_X5_canonicalNode, by decide, (tm 717 (by decide +kernel) rfl), (tm 718 (by decide +kernel) rfl), (tm 719 (by decide +kernel) rfl)⟩
theorem cl_X11_203 : CallV 10 203 mX2_firstFitting 2 := ⟨ok_X2_firstFitting, by decide, (tm 721 (by decide +kernel) rfl), (tm 722 (by decide +kernel) rfl), (tm 723 (by decide +kernel) rfl)⟩
theorem cl_X11_207 : CallV 10 207 mX11_countFirstFitting 2 := ⟨ok_X11_countFirstFitting, by decide, (tm 775 (by decide +kernel) rfl), (tm 777 (by decide +kernel) rfl), (tp 24 (by decide +kernel) rfl)⟩
theorem cl_X11_210 : CallV 10 210 mX11_firstIndexUncovered 1 := ⟨ok_X11_firstIndexUncovered, by decide, (tm 784 (by decide +kernel) rfl), (tm 786 (by decide +kernel) rfl), (tp 25 (by decide +kernel) rfl)⟩
theorem cl_X11_213 : CallS 10 213 mX8_keyOf 2 := ⟨ok_X8_keyOf, (tm 779 (by decide +kernel) rfl), (tm 461 (by decide +kernel) rfl)⟩
theorem cl_X11_84 : CallV 10 84 mX4_hasType 1 := ⟨ok_X4_hasType, by decide, (tm 348 (by decide +kernel) rfl), (tm 349 (by decide +kernel) rfl), (tm 350 (by decide +kernel) rfl)⟩
theorem cl_X11_91 : CallV 10 91 mX4_define 5 := ⟨ok_X4_define, by decide, (tm 352 (by decide +kernel) rfl), (tm 353 (by decide +kernel) rfl), (tm 354 (by decide +kernel) rfl)⟩
theorem cl_X11_95 : CallV 10 95 mX1_recompute 0 := ⟨ok_X1_recompute, by decide, (tm 356 (by decide +kernel) rfl), (tm 357 (by decide +kernel) rfl), (tm 358 (by decide +kernel) rfl)⟩
theorem cl_X11_98 : CallV 10 98 mX8_recompute 0 := ⟨ok_X8_recompute, by decide, (tm 396 (by decide +kernel) rfl), (tm 397 (by decide +kernel) rfl), (tm 398 (by decide +kernel) rfl)⟩
theorem cl_X11_99 : CallV 10 99 mX4_hasConstructor 1 := ⟨ok_X4_hasConstructor, by decide, (tm 423 (by decide +kernel) rfl), (tm 424 (by decide +kernel) rfl), (tm 425 (by decide +kernel) rfl)⟩
theorem cl_X12_117 : CallS 11 117 mX12_in 3 := ⟨ok_X12_in, (tm 934 (by decide +kernel) rfl), (tm 935 (by decide +kernel) rfl)⟩
theorem cl_X12_130 : CallV 11 130 mX12_isType 1 := ⟨ok_X12_isType, by decide, (tm 937 (by decide +kernel) rfl), (tm 939 (by decide +kernel) rfl), (tp 26 (by decide +kernel) rfl)⟩
theorem cl_X12_134 : CallV 11 134 mX12_isConstructor 1 := ⟨ok_X12_isConstructor, by decide, (tm 945 (by decide +kernel) rfl), (tm 947 (by decide +kernel) rfl), (tp 27 (by decide +kernel) rfl)⟩
theorem cl_X12_137 : CallV 11 137 mX12_sizeBy 1 := ⟨ok_X12_sizeBy, by decide, (tm 969 (by decide +kernel) rfl), (tm 971 (by decide +kernel) rfl), (tp 30 (by decide +kernel) rfl)⟩
theorem cl_X12_141 : CallV 11 141 mX12_laySmallest 0 := ⟨ok_X12_laySmallest, by decide, (tm 965 (by decide +kernel) rfl), (tm 967 (by decide +kernel) rfl), (tp 29 (by decide +kernel) rfl)⟩
theorem cl_X12_144 : CallV 11 144 mX12_allBy 1 := ⟨ok_X12_allBy, by decide, (tm 981 (by decide +kernel) rfl), (tm 983 (by decide +kernel) rfl), (tp 33 (by decide +kernel) rfl)⟩
theorem cl_X12_147 : CallS 11 147 mX12_capped 1 := ⟨ok_X12_capped, (tm 985 (by decide +kernel) rfl), (tm 986 (by decide +kernel) rfl)⟩
theorem cl_X12_151 : CallV 11 151 mX12_layWithin 0 := ⟨ok_X12_layWithin, by decide, (tm 961 (by decide +kernel) rfl), (tm 963 (by decide +kernel) rfl), (tp 28 (by decide +kernel) rfl)⟩
theorem cl_X12_154 : CallV 11 154 mX12_isInfinite 1 := ⟨ok_X12_isInfinite, by decide, (tm 973 (by decide +kernel) rfl), (tm 975 (by decide +kernel) rfl), (tp 31 (by decide +kernel) rfl)⟩
theorem cl_X12_157 : CallV 11 157 mX12_layAll 0 := ⟨ok_X12_layAll, by decide, (tm 977 (by decide +kernel) rfl), (tm 979 (by decide +kernel) rfl), (tp 32 (by decide +kernel) rfl)⟩
theorem cl_X12_160 : CallS 11 160 mX12_way 3 := ⟨ok_X12_way, (tm 1006 (by decide +kernel) rfl), (tm 1007 (by decide +kernel) rfl)⟩
theorem cl_X12_164 : CallV 11 164 mX12_countOf 2 := ⟨ok_X12_countOf, by decide, (tm 1009 (by decide +kernel) rfl), (tm 1011 (by decide +kernel) rfl), (tp 36 (by decide +kernel) rfl)⟩
theorem cl_X12_168 : CallV 11 168 mX12_layWays 2 := ⟨ok_X12_layWays, by decide, (tm 1002 (by decide +kernel) rfl), (tm 1004 (by decide +kernel) rfl), (tp 35 (by decide +kernel) rfl)⟩
theorem cl_X12_172 : CallV 11 172 mX12_layCounts 0 := ⟨ok_X12_layCounts, by decide, (tm 998 (by decide +kernel) rfl), (tm 1000 (by decide +kernel) rfl), (tp 34 (by decide +kernel) rfl)⟩
theorem cl_X12_175 : CallV 11 175 mX12_blockOf 5 := ⟨ok_X12_blockOf, by decide, (tm 1025 (by decide +kernel) rfl), (tm 1027 (by decide +kernel) rfl), (tp 39 (by decide +kernel) rfl)⟩
theorem cl_X12_182 : CallV 11 182 mX12_share 3 := ⟨ok_X12_share, by decide, (tm 1021 (by decide +kernel) rfl), (tm 1023 (by decide +kernel) rfl), (tp 38 (by decide +kernel) rfl)⟩
theorem cl_X12_186 : CallV 11 186 mX12_layParts 0 := ⟨ok_X12_layParts, by decide, (tm 1029 (by decide +kernel) rfl), (tm 1031 (by decide +kernel) rfl), (tp 40 (by decide +kernel) rfl)⟩
theorem cl_X12_189 : CallV 11 189 mX12_addNode 5 := ⟨ok_X12_addNode, by decide, (tm 1037 (by decide +kernel) rfl), (tm 1039 (by decide +kernel) rfl), (tp 42 (by decide +kernel) rfl)⟩
theorem cl_X12_192 : CallV 11 192 mX12_layValue 3 := ⟨ok_X12_layValue, by decide, (tm 1017 (by decide +kernel) rfl), (tm 1019 (by decide +kernel) rfl), (tp 37 (by decide +kernel) rfl)⟩
theorem cl_X12_195 : CallV 11 195 mX12_makeNodes 0 := ⟨ok_X12_makeNodes, by decide, (tm 1033 (by decide +kernel) rfl), (tm 1035 (by decide +kernel) rfl), (tp 41 (by decide +kernel) rfl)⟩
theorem cl_X12_199 : CallV 11 199 mX12_isNode 1 := ⟨ok_X12_isNode, by decide, (tm 1053 (by decide +kernel) rfl), (tm 1055 (by decide +kernel) rfl), (tp 44 (by decide +kernel) rfl)⟩
theorem cl_X12_202 : CallV 11 202 mX12_wrongChild 3 := ⟨ok_X12_wrongChild, by decide, (tm 1049 (by decide +kernel) rfl), (tm 1051 (by decide +kernel) rfl), (tp 43 (by decide +kernel) rfl)⟩
theorem cl_X12_205 : CallV 11 205 mX12_resolved 1 := ⟨ok_X12_resolved, by decide, (tm 1069 (by decide +kernel) rfl), (tm 1071 (by decide +kernel) rfl), (tp 45 (by decide +kernel) rfl)⟩
theorem cl_X12_208 : CallV 11 208 mX12_manyOf 1 := ⟨ok_X12_manyOf, by decide, (tm 1077 (by decide +kernel) rfl), (tm 1079 (by decide +kernel) rfl), (tp 46 (by decide +kernel) rfl)⟩
theorem cl_X12_211 : CallV 11 211 mX12_sizeNow 1 := ⟨ok_X12_sizeNow, by decide, (tm 1093 (by decide +kernel) rfl), (tm 1095 (by decide +kernel) rfl), (tp 48 (by decide +kernel) rfl)⟩
theorem cl_X12_214 : CallV 11 214 mX12_laySizes 0 := ⟨ok_X12_laySizes, by decide, (tm 1089 (by decide +kernel) rfl), (tm 1091 (by decide +kernel) rfl), (tp 47 (by decide +kernel) rfl)⟩
theorem cl_X12_217 : CallV 11 217 mX12_rankNow 1 := ⟨ok_X12_rankNow, by decide, (tm 1105 (by decide +kernel) rfl), (tm 1107 (by decide +kernel) rfl), (tp 50 (by decide +kernel) rfl)⟩
theorem cl_X12_220 : CallV 11 220 mX12_layRanks 0 := ⟨ok_X12_layRanks, by decide, (tm 1101 (by decide +kernel) rfl), (tm 1103 (by decide +kernel) rfl), (tp 49 (by decide +kernel) rfl)⟩
theorem cl_X12_226 : CallV 11 226 mX12_beginPairs 2 := ⟨ok_X12_beginPairs, by decide, (tm 1113 (by decide +kernel) rfl), (tm 1115 (by decide +kernel) rfl), (tp 51 (by decide +kernel) rfl)⟩
theorem cl_X12_229 : CallV 11 229 mX12_pushChildren 2 := ⟨ok_X12_pushChildren, by decide, (tm 1117 (by decide +kernel) rfl), (tm 1119 (by decide +kernel) rfl), (tp 52 (by decide +kernel) rfl)⟩
theorem cl_X12_235 : CallV 11 235 mX12_bind 2 := ⟨ok_X12_bind, by decide, (tm 1129 (by decide +kernel) rfl), (tm 1131 (by decide +kernel) rfl), (tp 54 (by decide +kernel) rfl)⟩
theorem cl_X12_238 : CallV 11 238 mX12_occurs 2 := ⟨ok_X12_occurs, by decide, (tm 1133 (by decide +kernel) rfl), (tm 1135 (by decide +kernel) rfl), (tp 55 (by decide +kernel) rfl)⟩
theorem cl_X12_242 : CallV 11 242 mX12_unifyNow 2 := ⟨ok_X12_unifyNow, by decide, (tm 1125 (by decide +kernel) rfl), (tm 1127 (by decide +kernel) rfl), (tp 53 (by decide +kernel) rfl)⟩
theorem cl_X12_245 : CallV 11 245 mX12_boundCount 0 := ⟨ok_X12_boundCount, by decide, (tm 1145 (by decide +kernel) rfl), (tm 1138 (by decide +kernel) rfl), (tm 1139 (by decide +kernel) rfl)⟩
theorem cl_X12_254 : CallV 11 254 mX12_areSame 2 := ⟨ok_X12_areSame, by decide, (tm 1178 (by decide +kernel) rfl), (tm 1180 (by decide +kernel) rfl), (tp 59 (by decide +kernel) rfl)⟩
theorem cl_X12_257 : CallV 11 257 mX12_matches 1 := ⟨ok_X12_matches, by decide, (tm 1174 (by decide +kernel) rfl), (tm 1176 (by decide +kernel) rfl), (tp 58 (by decide +kernel) rfl)⟩
theorem cl_X12_260 : CallV 11 260 mX12_layTerm 1 := ⟨ok_X12_layTerm, by decide, (tm 1166 (by decide +kernel) rfl), (tm 1168 (by decide +kernel) rfl), (tp 56 (by decide +kernel) rfl)⟩
theorem cl_X12_264 : CallV 11 264 mX12_matchNow 0 := ⟨ok_X12_matchNow, by decide, (tm 1170 (by decide +kernel) rfl), (tm 1172 (by decide +kernel) rfl), (tp 57 (by decide +kernel) rfl)⟩
theorem cl_X12_267 : CallV 11 267 mX12_subject 0 := ⟨ok_X12_subject, by decide, (tm 1186 (by decide +kernel) rfl), (tm 1188 (by decide +kernel) rfl), (tp 60 (by decide +kernel) rfl)⟩
theorem cl_X12_270 : CallV 11 270 mX12_countMatched 2 := ⟨ok_X12_countMatched, by decide, (tm 1190 (by decide +kernel) rfl), (tm 1192 (by decide +kernel) rfl), (tp 61 (by decide +kernel) rfl)⟩
theorem cl_X2_43 : CallV 2 43 mX2_fits 3 := ⟨ok_X2_fits, by decide, (tm 725 (by decide +kernel) rfl), (tm 727 (by decide +kernel) rfl), (tp 20 (by decide +kernel) rfl)⟩
theorem cl_X2_53 : CallV 2 53 mX2_await 2 := ⟨ok_X2_await, by decide, (tm 729 (by decide +kernel) rfl), (tm 731 (by decide +kernel) rfl), (tp 21 (by decide +kernel) rfl)⟩
theorem cl_X2_58 : CallV 2 58 mX0_resolve 1 := ⟨ok_X0_resolve, by decide, (tm 734 (by decide +kernel) rfl), (tm 533 (by decide +kernel) rfl), (tm 534 (by decide +kernel) rfl)⟩
theorem cl_X2_62 : CallV 2 62 mX2_fitsAtRoot 3 := ⟨ok_X2_fitsAtRoot, by decide, (tm 735 (by decide +kernel) rfl), (tm 737 (by decide +kernel) rfl), (tp 22 (by decide +kernel) rfl)⟩
theorem cl_X2_65 : CallV 2 65 mX0_isVariable 1 := ⟨ok_X0_isVariable, by decide, (tm 739 (by decide +kernel) rfl), (tm 537 (by decide +kernel) rfl), (tm 538 (by decide +kernel) rfl)⟩
theorem cl_X2_69 : CallV 2 69 mX2_fitsVariable 2 := ⟨ok_X2_fitsVariable, by decide, (tm 740 (by decide +kernel) rfl), (tm 742 (by decide +kernel) rfl), (tp 23 (by decide +kernel) rfl)⟩
theorem cl_X2_76_X5 : CallF 2 76 mX5_isBuiltBy 2 := ⟨ok_X5_isBuiltBy, by decide, by decide +kernel, (tm 745 (by decide +kernel) rfl), (tm 749 (by decide +kernel) rfl), (tm 751 (by decide +kernel) rfl), by decide +kernel⟩
theorem cl_X2_76_X8 : CallF 2 76 mX8_isBuiltBy 2 := ⟨ok_X8_isBuiltBy, by decide, by decide +kernel, (tm 745 (by decide +kernel) rfl), (tm 755 (by decide +kernel) rfl), (tm 477 (by decide +kernel) rfl), by decide +kernel⟩
theorem cl_X2_81_X5 : CallF 2 81 mX5_split 3 := ⟨ok_X5_split, by decide, by decide +kernel, (tm 759 (by decide +kernel) rfl), (tm 762 (by decide +kernel) rfl), (tm 764 (by decide +kernel) rfl), by decide +kernel⟩
theorem cl_X2_81_X8 : CallF 2 81 mX8_split 3 := ⟨ok_X8_split, by decide, by decide +kernel, (tm 759 (by decide +kernel) rfl), (tm 767 (by decide +kernel) rfl), (tm 491 (by decide +kernel) rfl), by decide +kernel⟩
theorem cl_X2_85 : CallV 2 85 mX0_partTotal 1 := ⟨ok_X0_partTotal, by decide, (tm 770 (by decide +kernel) rfl), (tm 545 (by decide +kernel) rfl), (tm 546 (by decide +kernel) rfl)⟩
theorem cc_X3_19 : Cond.methodLink (cn 3) 19 arraycopyName ∈ lw_good := (tm 688 (by decide +kernel) rfl)
theorem cl_X5_44 : CallV 5 44 mX10_begin 0 := ⟨ok_X10_begin, by decide, (tm 561 (by decide +kernel) rfl), (tm 562 (by decide +kernel) rfl), (tm 563 (by decide +kernel) rfl)⟩
theorem cl_X5_47 : CallV 5 47 mX10_visit 1 := ⟨ok_X10_visit, by decide, (tm 565 (by decide +kernel) rfl), (tm 566 (by decide +kernel) rfl), (tm 567 (by decide +kernel) rfl)⟩
theorem cl_X5_58 : CallV 5 58 mX5_sizeFromParts 1 := ⟨ok_X5_sizeFromParts, by decide, (tm 589 (by decide +kernel) rfl), (tm 591 (by decide +kernel) rfl), (tp 13 (by decide +kernel) rfl)⟩
theorem cl_X5_62 : CallV 5 62 mX0_resolve 1 := ⟨ok_X0_resolve, by decide, (tm 597 (by decide +kernel) rfl), (tm 533 (by decide +kernel) rfl), (tm 534 (by decide +kernel) rfl)⟩
theorem cl_X5_67 : CallV 5 67 mX0_isVariable 1 := ⟨ok_X0_isVariable, by decide, (tm 593 (by decide +kernel) rfl), (tm 537 (by decide +kernel) rfl), (tm 538 (by decide +kernel) rfl)⟩
theorem cl_X5_71 : CallV 5 71 mX0_partTotal 1 := ⟨ok_X0_partTotal, by decide, (tm 594 (by decide +kernel) rfl), (tm 545 (by decide +kernel) rfl), (tm 546 (by decide +kernel) rfl)⟩
theorem cl_X5_74 : CallV 5 74 mX0_resolvedPart 2 := ⟨ok_X0_resolvedPart, by decide, (tm 595 (by decide +kernel) rfl), (tm 581 (by decide +kernel) rfl), (tm 582 (by decide +kernel) rfl)⟩
theorem cl_X5_78 : CallN 5 78 mX11_limitedSum 2 := ⟨ok_X11_limitedSum, by decide +kernel, (tm 394 (by decide +kernel) rfl)⟩
theorem cl_X5_84 : CallV 5 84 mX8_indexOf 4 := ⟨ok_X8_indexOf, by decide, (tm 606 (by decide +kernel) rfl), (tm 607 (by decide +kernel) rfl), (tm 608 (by decide +kernel) rfl)⟩
theorem cl_X5_90 : CallV 5 90 mX5_findCanonical 0 := ⟨ok_X5_findCanonical, by decide, (tm 618 (by decide +kernel) rfl), (tm 620 (by decide +kernel) rfl), (tp 14 (by decide +kernel) rfl)⟩
theorem cl_X5_93 : CallV 5 93 mX5_haveEqualParts 2 := ⟨ok_X5_haveEqualParts, by decide, (tm 622 (by decide +kernel) rfl), (tm 624 (by decide +kernel) rfl), (tp 15 (by decide +kernel) rfl)⟩
theorem cl_X6_100 : CallV 6 100 mX10_hasListed 1 := ⟨ok_X10_hasListed, by decide, (tm 661 (by decide +kernel) rfl), (tm 571 (by decide +kernel) rfl), (tm 572 (by decide +kernel) rfl)⟩
theorem cl_X6_103 : CallV 6 103 mX0_partTotal 1 := ⟨ok_X0_partTotal, by decide, (tm 666 (by decide +kernel) rfl), (tm 545 (by decide +kernel) rfl), (tm 546 (by decide +kernel) rfl)⟩
theorem cc_X6_43 : Cond.methodLink (cn 6) 43 arraycopyName ∈ lw_good := (tm 634 (by decide +kernel) rfl)
theorem cl_X6_49 : CallS 6 49 mJ7_fill_d0a16 2 := ⟨ok_J7_fill_d0a16, (tm 637 (by decide +kernel) rfl), (tm 638 (by decide +kernel) rfl)⟩
theorem cl_X6_59 : CallV 6 59 mX6_await 2 := ⟨ok_X6_await, by decide, (tm 640 (by decide +kernel) rfl), (tm 642 (by decide +kernel) rfl), (tp 16 (by decide +kernel) rfl)⟩
theorem cl_X6_64 : CallV 6 64 mX0_resolve 1 := ⟨ok_X0_resolve, by decide, (tm 645 (by decide +kernel) rfl), (tm 533 (by decide +kernel) rfl), (tm 534 (by decide +kernel) rfl)⟩
theorem cl_X6_68 : CallV 6 68 mX6_unifyResolved 2 := ⟨ok_X6_unifyResolved, by decide, (tm 646 (by decide +kernel) rfl), (tm 648 (by decide +kernel) rfl), (tp 17 (by decide +kernel) rfl)⟩
theorem cl_X6_72 : CallV 6 72 mX0_isVariable 1 := ⟨ok_X0_isVariable, by decide, (tm 650 (by decide +kernel) rfl), (tm 537 (by decide +kernel) rfl), (tm 538 (by decide +kernel) rfl)⟩
theorem cc_X6_76 : Cond.methodLink (cn 6) 76 Lib.Math.max.name ∈ lw_good := (tm 651 (by decide +kernel) rfl)
theorem cc_X6_81 : Cond.methodLink (cn 6) 81 Lib.Math.min.name ∈ lw_good := (tm 652 (by decide +kernel) rfl)
theorem cl_X6_84 : CallV 6 84 mX6_bindToTerm 2 := ⟨ok_X6_bindToTerm, by decide, (tm 655 (by decide +kernel) rfl), (tm 657 (by decide +kernel) rfl), (tp 18 (by decide +kernel) rfl)⟩
theorem cl_X6_90 : CallV 6 90 mX6_open 2 := ⟨ok_X6_open, by decide, (tm 662 (by decide +kernel) rfl), (tm 664 (by decide +kernel) rfl), (tp 19 (by decide +kernel) rfl)⟩
theorem cl_X6_93 : CallV 6 93 mX10_begin 0 := ⟨ok_X10_begin, by decide, (tm 659 (by decide +kernel) rfl), (tm 562 (by decide +kernel) rfl), (tm 563 (by decide +kernel) rfl)⟩
theorem cl_X6_96 : CallV 6 96 mX10_visit 1 := ⟨ok_X10_visit, by decide, (tm 660 (by decide +kernel) rfl), (tm 566 (by decide +kernel) rfl), (tm 567 (by decide +kernel) rfl)⟩
theorem cl_X7_45 : CallS 7 45 mX8_keyOf 2 := ⟨ok_X8_keyOf, (tm 460 (by decide +kernel) rfl), (tm 461 (by decide +kernel) rfl)⟩
theorem cl_X7_51 : CallV 7 51 mX7_await 3 := ⟨ok_X7_await, by decide, (tm 464 (by decide +kernel) rfl), (tm 466 (by decide +kernel) rfl), (tp 9 (by decide +kernel) rfl)⟩
theorem cl_X7_55 : CallV 7 55 mX7_place 4 := ⟨ok_X7_place, by decide, (tm 468 (by decide +kernel) rfl), (tm 470 (by decide +kernel) rfl), (tp 10 (by decide +kernel) rfl)⟩
theorem cl_X7_59 : CallV 7 59 mX8_rootOf 2 := ⟨ok_X8_rootOf, by decide, (tm 472 (by decide +kernel) rfl), (tm 473 (by decide +kernel) rfl), (tm 474 (by decide +kernel) rfl)⟩
theorem cl_X7_62 : CallV 7 62 mX0_fill 2 := ⟨ok_X0_fill, by decide, (tm 486 (by decide +kernel) rfl), (tm 487 (by decide +kernel) rfl), (tm 488 (by decide +kernel) rfl)⟩
theorem cl_X7_69 : CallV 7 69 mX8_split 3 := ⟨ok_X8_split, by decide, (tm 490 (by decide +kernel) rfl), (tm 491 (by decide +kernel) rfl), (tm 492 (by decide +kernel) rfl)⟩
theorem cl_X7_78 : CallV 7 78 mX4_typeOfArgument 2 := ⟨ok_X4_typeOfArgument, by decide, (tm 498 (by decide +kernel) rfl), (tm 373 (by decide +kernel) rfl), (tm 374 (by decide +kernel) rfl)⟩
theorem cl_X8_26 : CallS 8 26 mJ7_fill_53178 2 := ⟨ok_J7_fill_53178, (tm 400 (by decide +kernel) rfl), (tm 67 (by decide +kernel) rfl)⟩
theorem cl_X8_38 : CallV 8 38 mX8_fillWays 2 := ⟨ok_X8_fillWays, by decide, (tm 401 (by decide +kernel) rfl), (tm 403 (by decide +kernel) rfl), (tp 6 (by decide +kernel) rfl)⟩
theorem cl_X8_45 : CallV 8 45 mX8_waysOf 3 := ⟨ok_X8_waysOf, by decide, (tm 415 (by decide +kernel) rfl), (tm 417 (by decide +kernel) rfl), (tp 8 (by decide +kernel) rfl)⟩
theorem cl_X8_49 : CallN 8 49 mX11_limitedSum 2 := ⟨ok_X11_limitedSum, by decide +kernel, (tm 394 (by decide +kernel) rfl)⟩
theorem cl_X8_56 : CallS 8 56 mX8_wayPlace 3 := ⟨ok_X8_wayPlace, (tm 405 (by decide +kernel) rfl), (tm 406 (by decide +kernel) rfl)⟩
theorem cl_X8_59 : CallV 8 59 mX8_waysOfSplit 4 := ⟨ok_X8_waysOfSplit, by decide, (tm 408 (by decide +kernel) rfl), (tm 410 (by decide +kernel) rfl), (tp 7 (by decide +kernel) rfl)⟩
theorem cl_X8_63 : CallV 8 63 mX4_typeOfArgument 2 := ⟨ok_X4_typeOfArgument, by decide, (tm 412 (by decide +kernel) rfl), (tm 373 (by decide +kernel) rfl), (tm 374 (by decide +kernel) rfl)⟩
theorem cl_X8_66 : CallN 8 66 mX11_limitedProduct 2 := ⟨ok_X11_limitedProduct, by decide +kernel, (tm 389 (by decide +kernel) rfl)⟩
theorem cl_X8_69 : CallS 8 69 mX8_sizeOfKey 1 := ⟨ok_X8_sizeOfKey, (tm 480 (by decide +kernel) rfl), (tm 481 (by decide +kernel) rfl)⟩
theorem cl_X8_73 : CallS 8 73 mX8_indexOfKey 1 := ⟨ok_X8_indexOfKey, (tm 483 (by decide +kernel) rfl), (tm 484 (by decide +kernel) rfl)⟩
theorem cl_X8_76 : CallV 8 76 mX8_isBuiltBy 2 := ⟨ok_X8_isBuiltBy, by decide, (tm 476 (by decide +kernel) rfl), (tm 477 (by decide +kernel) rfl), (tm 478 (by decide +kernel) rfl)⟩
theorem cc_X8_80 : Cond.methodLink (cn 8) 80 Lib.Math.max.name ∈ lw_good := (tm 494 (by decide +kernel) rfl)
theorem cl_X8_85 : CallS 8 85 mX8_keyOf 2 := ⟨ok_X8_keyOf, (tm 497 (by decide +kernel) rfl), (tm 461 (by decide +kernel) rfl)⟩
end
