section
-- ===== PART A: goes FIRST, ahead of the names: the tables' words, and 'selects' of the private methods out of them =====
/-- a private method of a class that the tables say can be made, by its rows of tables_1 -/
def lw_okq (q : MethodName × Nat) : Prop := (q.1.cls ≠ "java/lang/invoke/MethodHandle" ∧ q.1.cls ≠ "java/lang/invoke/VarHandle") ∧ Cond.instantiable q.1.cls q.2 ∈ tables_1 ∧ Cond.privateMethod q.1 ∈ tables_1 ∧ Cond.instanceMethod q.1 ∈ tables_1
theorem lw_p0 : lw_okq (⟨"DatatypeTerms$Population", "findSmallest", "()V"⟩, 3) := ⟨⟨by decide +kernel, by decide +kernel⟩, List.mem_of_getElem? (i := 61) (by decide +kernel), List.mem_of_getElem? (i := 361) (by decide +kernel), List.mem_of_getElem? (i := 362) (by decide +kernel)⟩
theorem lw_p1 : lw_okq (⟨"DatatypeTerms$Population", "improveSmallest", "(I)V"⟩, 3) := ⟨⟨by decide +kernel, by decide +kernel⟩, List.mem_of_getElem? (i := 61) (by decide +kernel), List.mem_of_getElem? (i := 365) (by decide +kernel), List.mem_of_getElem? (i := 366) (by decide +kernel)⟩
theorem lw_p2 : lw_okq (⟨"DatatypeTerms$Population", "isUsable", "(I)Z"⟩, 3) := ⟨⟨by decide +kernel, by decide +kernel⟩, List.mem_of_getElem? (i := 61) (by decide +kernel), List.mem_of_getElem? (i := 369) (by decide +kernel), List.mem_of_getElem? (i := 370) (by decide +kernel)⟩
theorem lw_p3 : lw_okq (⟨"DatatypeTerms$Population", "findTotals", "()V"⟩, 3) := ⟨⟨by decide +kernel, by decide +kernel⟩, List.mem_of_getElem? (i := 61) (by decide +kernel), List.mem_of_getElem? (i := 377) (by decide +kernel), List.mem_of_getElem? (i := 378) (by decide +kernel)⟩
theorem lw_p4 : lw_okq (⟨"DatatypeTerms$Population", "totalOfType", "(I)I"⟩, 3) := ⟨⟨by decide +kernel, by decide +kernel⟩, List.mem_of_getElem? (i := 61) (by decide +kernel), List.mem_of_getElem? (i := 381) (by decide +kernel), List.mem_of_getElem? (i := 382) (by decide +kernel)⟩
theorem lw_p5 : lw_okq (⟨"DatatypeTerms$Population", "totalOfConstructor", "(I)I"⟩, 3) := ⟨⟨by decide +kernel, by decide +kernel⟩, List.mem_of_getElem? (i := 61) (by decide +kernel), List.mem_of_getElem? (i := 385) (by decide +kernel), List.mem_of_getElem? (i := 386) (by decide +kernel)⟩
theorem lw_p6 : lw_okq (⟨"DatatypeTerms$ValueOrder", "fillWays", "(II)V"⟩, 4) := ⟨⟨by decide +kernel, by decide +kernel⟩, List.mem_of_getElem? (i := 82) (by decide +kernel), List.mem_of_getElem? (i := 402) (by decide +kernel), List.mem_of_getElem? (i := 403) (by decide +kernel)⟩
theorem lw_p7 : lw_okq (⟨"DatatypeTerms$ValueOrder", "waysOfSplit", "(IIII)I"⟩, 4) := ⟨⟨by decide +kernel, by decide +kernel⟩, List.mem_of_getElem? (i := 82) (by decide +kernel), List.mem_of_getElem? (i := 409) (by decide +kernel), List.mem_of_getElem? (i := 410) (by decide +kernel)⟩
theorem lw_p8 : lw_okq (⟨"DatatypeTerms$ValueOrder", "waysOf", "(III)I"⟩, 4) := ⟨⟨by decide +kernel, by decide +kernel⟩, List.mem_of_getElem? (i := 82) (by decide +kernel), List.mem_of_getElem? (i := 416) (by decide +kernel), List.mem_of_getElem? (i := 417) (by decide +kernel)⟩
theorem lw_p9 : lw_okq (⟨"DatatypeTerms$ValueBuilder", "await", "(III)V"⟩, 8) := ⟨⟨by decide +kernel, by decide +kernel⟩, List.mem_of_getElem? (i := 141) (by decide +kernel), List.mem_of_getElem? (i := 465) (by decide +kernel), List.mem_of_getElem? (i := 466) (by decide +kernel)⟩
theorem lw_p10 : lw_okq (⟨"DatatypeTerms$ValueBuilder", "place", "(IIII)V"⟩, 8) := ⟨⟨by decide +kernel, by decide +kernel⟩, List.mem_of_getElem? (i := 141) (by decide +kernel), List.mem_of_getElem? (i := 469) (by decide +kernel), List.mem_of_getElem? (i := 470) (by decide +kernel)⟩
theorem lw_p11 : lw_okq (⟨"DatatypeTerms$Walk", "unlistedPart", "(I)I"⟩, 6) := ⟨⟨by decide +kernel, by decide +kernel⟩, List.mem_of_getElem? (i := 178) (by decide +kernel), List.mem_of_getElem? (i := 576) (by decide +kernel), List.mem_of_getElem? (i := 577) (by decide +kernel)⟩
theorem lw_p12 : lw_okq (⟨"DatatypeTerms$Walk", "list", "(I)V"⟩, 6) := ⟨⟨by decide +kernel, by decide +kernel⟩, List.mem_of_getElem? (i := 178) (by decide +kernel), List.mem_of_getElem? (i := 586) (by decide +kernel), List.mem_of_getElem? (i := 587) (by decide +kernel)⟩
theorem lw_p13 : lw_okq (⟨"DatatypeTerms$TermReader", "sizeFromParts", "(I)I"⟩, 8) := ⟨⟨by decide +kernel, by decide +kernel⟩, List.mem_of_getElem? (i := 172) (by decide +kernel), List.mem_of_getElem? (i := 590) (by decide +kernel), List.mem_of_getElem? (i := 591) (by decide +kernel)⟩
theorem lw_p14 : lw_okq (⟨"DatatypeTerms$TermReader", "findCanonical", "()V"⟩, 8) := ⟨⟨by decide +kernel, by decide +kernel⟩, List.mem_of_getElem? (i := 172) (by decide +kernel), List.mem_of_getElem? (i := 619) (by decide +kernel), List.mem_of_getElem? (i := 620) (by decide +kernel)⟩
theorem lw_p15 : lw_okq (⟨"DatatypeTerms$TermReader", "haveEqualParts", "(II)Z"⟩, 8) := ⟨⟨by decide +kernel, by decide +kernel⟩, List.mem_of_getElem? (i := 172) (by decide +kernel), List.mem_of_getElem? (i := 623) (by decide +kernel), List.mem_of_getElem? (i := 624) (by decide +kernel)⟩
def lw_privs_1 : List (MethodName × Nat) := [(⟨"DatatypeTerms$Population", "findSmallest", "()V"⟩, 3), (⟨"DatatypeTerms$Population", "improveSmallest", "(I)V"⟩, 3), (⟨"DatatypeTerms$Population", "isUsable", "(I)Z"⟩, 3), (⟨"DatatypeTerms$Population", "findTotals", "()V"⟩, 3), (⟨"DatatypeTerms$Population", "totalOfType", "(I)I"⟩, 3), (⟨"DatatypeTerms$Population", "totalOfConstructor", "(I)I"⟩, 3), (⟨"DatatypeTerms$ValueOrder", "fillWays", "(II)V"⟩, 4), (⟨"DatatypeTerms$ValueOrder", "waysOfSplit", "(IIII)I"⟩, 4), (⟨"DatatypeTerms$ValueOrder", "waysOf", "(III)I"⟩, 4), (⟨"DatatypeTerms$ValueBuilder", "await", "(III)V"⟩, 8), (⟨"DatatypeTerms$ValueBuilder", "place", "(IIII)V"⟩, 8), (⟨"DatatypeTerms$Walk", "unlistedPart", "(I)I"⟩, 6), (⟨"DatatypeTerms$Walk", "list", "(I)V"⟩, 6), (⟨"DatatypeTerms$TermReader", "sizeFromParts", "(I)I"⟩, 8), (⟨"DatatypeTerms$TermReader", "findCanonical", "()V"⟩, 8), (⟨"DatatypeTerms$TermReader", "haveEqualParts", "(II)Z"⟩, 8)]
theorem lw_r1 : ∀ q ∈ lw_privs_1, lw_okq q := List.forall_mem_cons.mpr ⟨lw_p0, List.forall_mem_cons.mpr ⟨lw_p1, List.forall_mem_cons.mpr ⟨lw_p2, List.forall_mem_cons.mpr ⟨lw_p3, List.forall_mem_cons.mpr ⟨lw_p4, List.forall_mem_cons.mpr ⟨lw_p5, List.forall_mem_cons.mpr ⟨lw_p6, List.forall_mem_cons.mpr ⟨lw_p7, List.forall_mem_cons.mpr ⟨lw_p8, List.forall_mem_cons.mpr ⟨lw_p9, List.forall_mem_cons.mpr ⟨lw_p10, List.forall_mem_cons.mpr ⟨lw_p11, List.forall_mem_cons.mpr ⟨lw_p12, List.forall_mem_cons.mpr ⟨lw_p13, List.forall_mem_cons.mpr ⟨lw_p14, List.forall_mem_cons.mpr ⟨lw_p15, fun _ h => absurd h List.not_mem_nil⟩⟩⟩⟩⟩⟩⟩⟩⟩⟩⟩⟩⟩⟩⟩⟩
theorem lw_p16 : lw_okq (⟨"DatatypeTerms$Unifier", "await", "(II)V"⟩, 7) := ⟨⟨by decide +kernel, by decide +kernel⟩, List.mem_of_getElem? (i := 230) (by decide +kernel), List.mem_of_getElem? (i := 641) (by decide +kernel), List.mem_of_getElem? (i := 642) (by decide +kernel)⟩
theorem lw_p17 : lw_okq (⟨"DatatypeTerms$Unifier", "unifyResolved", "(II)I"⟩, 7) := ⟨⟨by decide +kernel, by decide +kernel⟩, List.mem_of_getElem? (i := 230) (by decide +kernel), List.mem_of_getElem? (i := 647) (by decide +kernel), List.mem_of_getElem? (i := 648) (by decide +kernel)⟩
theorem lw_p18 : lw_okq (⟨"DatatypeTerms$Unifier", "bindToTerm", "(II)I"⟩, 7) := ⟨⟨by decide +kernel, by decide +kernel⟩, List.mem_of_getElem? (i := 230) (by decide +kernel), List.mem_of_getElem? (i := 656) (by decide +kernel), List.mem_of_getElem? (i := 657) (by decide +kernel)⟩
theorem lw_p19 : lw_okq (⟨"DatatypeTerms$Unifier", "open", "(II)V"⟩, 7) := ⟨⟨by decide +kernel, by decide +kernel⟩, List.mem_of_getElem? (i := 230) (by decide +kernel), List.mem_of_getElem? (i := 663) (by decide +kernel), List.mem_of_getElem? (i := 664) (by decide +kernel)⟩
theorem lw_p20 : lw_okq (⟨"DatatypeTerms$Rows", "fits", "(ILDatatypeTerms$Values;I)Z"⟩, 10) := ⟨⟨by decide +kernel, by decide +kernel⟩, List.mem_of_getElem? (i := 275) (by decide +kernel), List.mem_of_getElem? (i := 726) (by decide +kernel), List.mem_of_getElem? (i := 727) (by decide +kernel)⟩
theorem lw_p21 : lw_okq (⟨"DatatypeTerms$Rows", "await", "(II)V"⟩, 10) := ⟨⟨by decide +kernel, by decide +kernel⟩, List.mem_of_getElem? (i := 275) (by decide +kernel), List.mem_of_getElem? (i := 730) (by decide +kernel), List.mem_of_getElem? (i := 731) (by decide +kernel)⟩
theorem lw_p22 : lw_okq (⟨"DatatypeTerms$Rows", "fitsAtRoot", "(ILDatatypeTerms$Values;I)Z"⟩, 10) := ⟨⟨by decide +kernel, by decide +kernel⟩, List.mem_of_getElem? (i := 275) (by decide +kernel), List.mem_of_getElem? (i := 736) (by decide +kernel), List.mem_of_getElem? (i := 737) (by decide +kernel)⟩
theorem lw_p23 : lw_okq (⟨"DatatypeTerms$Rows", "fitsVariable", "(II)Z"⟩, 10) := ⟨⟨by decide +kernel, by decide +kernel⟩, List.mem_of_getElem? (i := 275) (by decide +kernel), List.mem_of_getElem? (i := 741) (by decide +kernel), List.mem_of_getElem? (i := 742) (by decide +kernel)⟩
theorem lw_p24 : lw_okq (⟨"DatatypeTerms", "countFirstFitting", "(II)I"⟩, 9) := ⟨⟨by decide +kernel, by decide +kernel⟩, List.mem_of_getElem? (i := 17) (by decide +kernel), List.mem_of_getElem? (i := 776) (by decide +kernel), List.mem_of_getElem? (i := 777) (by decide +kernel)⟩
theorem lw_p25 : lw_okq (⟨"DatatypeTerms", "firstIndexUncovered", "(I)I"⟩, 9) := ⟨⟨by decide +kernel, by decide +kernel⟩, List.mem_of_getElem? (i := 17) (by decide +kernel), List.mem_of_getElem? (i := 785) (by decide +kernel), List.mem_of_getElem? (i := 786) (by decide +kernel)⟩
theorem lw_p26 : lw_okq (⟨"DatatypeTermsModel", "isType", "(I)Z"⟩, 42) := ⟨⟨by decide +kernel, by decide +kernel⟩, List.mem_of_getElem? (i := 793) (by decide +kernel), List.mem_of_getElem? (i := 938) (by decide +kernel), List.mem_of_getElem? (i := 939) (by decide +kernel)⟩
theorem lw_p27 : lw_okq (⟨"DatatypeTermsModel", "isConstructor", "(I)Z"⟩, 42) := ⟨⟨by decide +kernel, by decide +kernel⟩, List.mem_of_getElem? (i := 793) (by decide +kernel), List.mem_of_getElem? (i := 946) (by decide +kernel), List.mem_of_getElem? (i := 947) (by decide +kernel)⟩
theorem lw_p28 : lw_okq (⟨"DatatypeTermsModel", "layWithin", "()V"⟩, 42) := ⟨⟨by decide +kernel, by decide +kernel⟩, List.mem_of_getElem? (i := 793) (by decide +kernel), List.mem_of_getElem? (i := 962) (by decide +kernel), List.mem_of_getElem? (i := 963) (by decide +kernel)⟩
theorem lw_p29 : lw_okq (⟨"DatatypeTermsModel", "laySmallest", "()V"⟩, 42) := ⟨⟨by decide +kernel, by decide +kernel⟩, List.mem_of_getElem? (i := 793) (by decide +kernel), List.mem_of_getElem? (i := 966) (by decide +kernel), List.mem_of_getElem? (i := 967) (by decide +kernel)⟩
theorem lw_p30 : lw_okq (⟨"DatatypeTermsModel", "sizeBy", "(I)I"⟩, 42) := ⟨⟨by decide +kernel, by decide +kernel⟩, List.mem_of_getElem? (i := 793) (by decide +kernel), List.mem_of_getElem? (i := 970) (by decide +kernel), List.mem_of_getElem? (i := 971) (by decide +kernel)⟩
theorem lw_p31 : lw_okq (⟨"DatatypeTermsModel", "isInfinite", "(I)Z"⟩, 42) := ⟨⟨by decide +kernel, by decide +kernel⟩, List.mem_of_getElem? (i := 793) (by decide +kernel), List.mem_of_getElem? (i := 974) (by decide +kernel), List.mem_of_getElem? (i := 975) (by decide +kernel)⟩
def lw_privs_2 : List (MethodName × Nat) := [(⟨"DatatypeTerms$Unifier", "await", "(II)V"⟩, 7), (⟨"DatatypeTerms$Unifier", "unifyResolved", "(II)I"⟩, 7), (⟨"DatatypeTerms$Unifier", "bindToTerm", "(II)I"⟩, 7), (⟨"DatatypeTerms$Unifier", "open", "(II)V"⟩, 7), (⟨"DatatypeTerms$Rows", "fits", "(ILDatatypeTerms$Values;I)Z"⟩, 10), (⟨"DatatypeTerms$Rows", "await", "(II)V"⟩, 10), (⟨"DatatypeTerms$Rows", "fitsAtRoot", "(ILDatatypeTerms$Values;I)Z"⟩, 10), (⟨"DatatypeTerms$Rows", "fitsVariable", "(II)Z"⟩, 10), (⟨"DatatypeTerms", "countFirstFitting", "(II)I"⟩, 9), (⟨"DatatypeTerms", "firstIndexUncovered", "(I)I"⟩, 9), (⟨"DatatypeTermsModel", "isType", "(I)Z"⟩, 42), (⟨"DatatypeTermsModel", "isConstructor", "(I)Z"⟩, 42), (⟨"DatatypeTermsModel", "layWithin", "()V"⟩, 42), (⟨"DatatypeTermsModel", "laySmallest", "()V"⟩, 42), (⟨"DatatypeTermsModel", "sizeBy", "(I)I"⟩, 42), (⟨"DatatypeTermsModel", "isInfinite", "(I)Z"⟩, 42)]
theorem lw_r2 : ∀ q ∈ lw_privs_2, lw_okq q := List.forall_mem_cons.mpr ⟨lw_p16, List.forall_mem_cons.mpr ⟨lw_p17, List.forall_mem_cons.mpr ⟨lw_p18, List.forall_mem_cons.mpr ⟨lw_p19, List.forall_mem_cons.mpr ⟨lw_p20, List.forall_mem_cons.mpr ⟨lw_p21, List.forall_mem_cons.mpr ⟨lw_p22, List.forall_mem_cons.mpr ⟨lw_p23, List.forall_mem_cons.mpr ⟨lw_p24, List.forall_mem_cons.mpr ⟨lw_p25, List.forall_mem_cons.mpr ⟨lw_p26, List.forall_mem_cons.mpr ⟨lw_p27, List.forall_mem_cons.mpr ⟨lw_p28, List.forall_mem_cons.mpr ⟨lw_p29, List.forall_mem_cons.mpr ⟨lw_p30, List.forall_mem_cons.mpr ⟨lw_p31, fun _ h => absurd h List.not_mem_nil⟩⟩⟩⟩⟩⟩⟩⟩⟩⟩⟩⟩⟩⟩⟩⟩
theorem lw_p32 : lw_okq (⟨"DatatypeTermsModel", "layAll", "()V"⟩, 42) := ⟨⟨by decide +kernel, by decide +kernel⟩, List.mem_of_getElem? (i := 793) (by decide +kernel), List.mem_of_getElem? (i := 978) (by decide +kernel), List.mem_of_getElem? (i := 979) (by decide +kernel)⟩
theorem lw_p33 : lw_okq (⟨"DatatypeTermsModel", "allBy", "(I)I"⟩, 42) := ⟨⟨by decide +kernel, by decide +kernel⟩, List.mem_of_getElem? (i := 793) (by decide +kernel), List.mem_of_getElem? (i := 982) (by decide +kernel), List.mem_of_getElem? (i := 983) (by decide +kernel)⟩
theorem lw_p34 : lw_okq (⟨"DatatypeTermsModel", "layCounts", "()V"⟩, 42) := ⟨⟨by decide +kernel, by decide +kernel⟩, List.mem_of_getElem? (i := 793) (by decide +kernel), List.mem_of_getElem? (i := 999) (by decide +kernel), List.mem_of_getElem? (i := 1000) (by decide +kernel)⟩
theorem lw_p35 : lw_okq (⟨"DatatypeTermsModel", "layWays", "(II)V"⟩, 42) := ⟨⟨by decide +kernel, by decide +kernel⟩, List.mem_of_getElem? (i := 793) (by decide +kernel), List.mem_of_getElem? (i := 1003) (by decide +kernel), List.mem_of_getElem? (i := 1004) (by decide +kernel)⟩
theorem lw_p36 : lw_okq (⟨"DatatypeTermsModel", "countOf", "(II)I"⟩, 42) := ⟨⟨by decide +kernel, by decide +kernel⟩, List.mem_of_getElem? (i := 793) (by decide +kernel), List.mem_of_getElem? (i := 1010) (by decide +kernel), List.mem_of_getElem? (i := 1011) (by decide +kernel)⟩
theorem lw_p37 : lw_okq (⟨"DatatypeTermsModel", "layValue", "(III)V"⟩, 42) := ⟨⟨by decide +kernel, by decide +kernel⟩, List.mem_of_getElem? (i := 793) (by decide +kernel), List.mem_of_getElem? (i := 1018) (by decide +kernel), List.mem_of_getElem? (i := 1019) (by decide +kernel)⟩
theorem lw_p38 : lw_okq (⟨"DatatypeTermsModel", "share", "(III)V"⟩, 42) := ⟨⟨by decide +kernel, by decide +kernel⟩, List.mem_of_getElem? (i := 793) (by decide +kernel), List.mem_of_getElem? (i := 1022) (by decide +kernel), List.mem_of_getElem? (i := 1023) (by decide +kernel)⟩
theorem lw_p39 : lw_okq (⟨"DatatypeTermsModel", "blockOf", "(IIIII)I"⟩, 42) := ⟨⟨by decide +kernel, by decide +kernel⟩, List.mem_of_getElem? (i := 793) (by decide +kernel), List.mem_of_getElem? (i := 1026) (by decide +kernel), List.mem_of_getElem? (i := 1027) (by decide +kernel)⟩
theorem lw_p40 : lw_okq (⟨"DatatypeTermsModel", "layParts", "()V"⟩, 42) := ⟨⟨by decide +kernel, by decide +kernel⟩, List.mem_of_getElem? (i := 793) (by decide +kernel), List.mem_of_getElem? (i := 1030) (by decide +kernel), List.mem_of_getElem? (i := 1031) (by decide +kernel)⟩
theorem lw_p41 : lw_okq (⟨"DatatypeTermsModel", "makeNodes", "()I"⟩, 42) := ⟨⟨by decide +kernel, by decide +kernel⟩, List.mem_of_getElem? (i := 793) (by decide +kernel), List.mem_of_getElem? (i := 1034) (by decide +kernel), List.mem_of_getElem? (i := 1035) (by decide +kernel)⟩
theorem lw_p42 : lw_okq (⟨"DatatypeTermsModel", "addNode", "(IIIII)I"⟩, 42) := ⟨⟨by decide +kernel, by decide +kernel⟩, List.mem_of_getElem? (i := 793) (by decide +kernel), List.mem_of_getElem? (i := 1038) (by decide +kernel), List.mem_of_getElem? (i := 1039) (by decide +kernel)⟩
theorem lw_p43 : lw_okq (⟨"DatatypeTermsModel", "wrongChild", "(III)I"⟩, 42) := ⟨⟨by decide +kernel, by decide +kernel⟩, List.mem_of_getElem? (i := 793) (by decide +kernel), List.mem_of_getElem? (i := 1050) (by decide +kernel), List.mem_of_getElem? (i := 1051) (by decide +kernel)⟩
theorem lw_p44 : lw_okq (⟨"DatatypeTermsModel", "isNode", "(I)Z"⟩, 42) := ⟨⟨by decide +kernel, by decide +kernel⟩, List.mem_of_getElem? (i := 793) (by decide +kernel), List.mem_of_getElem? (i := 1054) (by decide +kernel), List.mem_of_getElem? (i := 1055) (by decide +kernel)⟩
theorem lw_p45 : lw_okq (⟨"DatatypeTermsModel", "resolved", "(I)I"⟩, 42) := ⟨⟨by decide +kernel, by decide +kernel⟩, List.mem_of_getElem? (i := 793) (by decide +kernel), List.mem_of_getElem? (i := 1070) (by decide +kernel), List.mem_of_getElem? (i := 1071) (by decide +kernel)⟩
theorem lw_p46 : lw_okq (⟨"DatatypeTermsModel", "manyOf", "(I)I"⟩, 42) := ⟨⟨by decide +kernel, by decide +kernel⟩, List.mem_of_getElem? (i := 793) (by decide +kernel), List.mem_of_getElem? (i := 1078) (by decide +kernel), List.mem_of_getElem? (i := 1079) (by decide +kernel)⟩
theorem lw_p47 : lw_okq (⟨"DatatypeTermsModel", "laySizes", "()V"⟩, 42) := ⟨⟨by decide +kernel, by decide +kernel⟩, List.mem_of_getElem? (i := 793) (by decide +kernel), List.mem_of_getElem? (i := 1090) (by decide +kernel), List.mem_of_getElem? (i := 1091) (by decide +kernel)⟩
def lw_privs_3 : List (MethodName × Nat) := [(⟨"DatatypeTermsModel", "layAll", "()V"⟩, 42), (⟨"DatatypeTermsModel", "allBy", "(I)I"⟩, 42), (⟨"DatatypeTermsModel", "layCounts", "()V"⟩, 42), (⟨"DatatypeTermsModel", "layWays", "(II)V"⟩, 42), (⟨"DatatypeTermsModel", "countOf", "(II)I"⟩, 42), (⟨"DatatypeTermsModel", "layValue", "(III)V"⟩, 42), (⟨"DatatypeTermsModel", "share", "(III)V"⟩, 42), (⟨"DatatypeTermsModel", "blockOf", "(IIIII)I"⟩, 42), (⟨"DatatypeTermsModel", "layParts", "()V"⟩, 42), (⟨"DatatypeTermsModel", "makeNodes", "()I"⟩, 42), (⟨"DatatypeTermsModel", "addNode", "(IIIII)I"⟩, 42), (⟨"DatatypeTermsModel", "wrongChild", "(III)I"⟩, 42), (⟨"DatatypeTermsModel", "isNode", "(I)Z"⟩, 42), (⟨"DatatypeTermsModel", "resolved", "(I)I"⟩, 42), (⟨"DatatypeTermsModel", "manyOf", "(I)I"⟩, 42), (⟨"DatatypeTermsModel", "laySizes", "()V"⟩, 42)]
theorem lw_r3 : ∀ q ∈ lw_privs_3, lw_okq q := List.forall_mem_cons.mpr ⟨lw_p32, List.forall_mem_cons.mpr ⟨lw_p33, List.forall_mem_cons.mpr ⟨lw_p34, List.forall_mem_cons.mpr ⟨lw_p35, List.forall_mem_cons.mpr ⟨lw_p36, List.forall_mem_cons.mpr ⟨lw_p37, List.forall_mem_cons.mpr ⟨lw_p38, List.forall_mem_cons.mpr ⟨lw_p39, List.forall_mem_cons.mpr ⟨lw_p40, List.forall_mem_cons.mpr ⟨lw_p41, List.forall_mem_cons.mpr ⟨lw_p42, List.forall_mem_cons.mpr ⟨lw_p43, List.forall_mem_cons.mpr ⟨lw_p44, List.forall_mem_cons.mpr ⟨lw_p45, List.forall_mem_cons.mpr ⟨lw_p46, List.forall_mem_cons.mpr ⟨lw_p47, fun _ h => absurd h List.not_mem_nil⟩⟩⟩⟩⟩⟩⟩⟩⟩⟩⟩⟩⟩⟩⟩⟩
theorem lw_p48 : lw_okq (⟨"DatatypeTermsModel", "sizeNow", "(I)I"⟩, 42) := ⟨⟨by decide +kernel, by decide +kernel⟩, List.mem_of_getElem? (i := 793) (by decide +kernel), List.mem_of_getElem? (i := 1094) (by decide +kernel), List.mem_of_getElem? (i := 1095) (by decide +kernel)⟩
theorem lw_p49 : lw_okq (⟨"DatatypeTermsModel", "layRanks", "()V"⟩, 42) := ⟨⟨by decide +kernel, by decide +kernel⟩, List.mem_of_getElem? (i := 793) (by decide +kernel), List.mem_of_getElem? (i := 1102) (by decide +kernel), List.mem_of_getElem? (i := 1103) (by decide +kernel)⟩
theorem lw_p50 : lw_okq (⟨"DatatypeTermsModel", "rankNow", "(I)I"⟩, 42) := ⟨⟨by decide +kernel, by decide +kernel⟩, List.mem_of_getElem? (i := 793) (by decide +kernel), List.mem_of_getElem? (i := 1106) (by decide +kernel), List.mem_of_getElem? (i := 1107) (by decide +kernel)⟩
theorem lw_p51 : lw_okq (⟨"DatatypeTermsModel", "beginPairs", "(II)V"⟩, 42) := ⟨⟨by decide +kernel, by decide +kernel⟩, List.mem_of_getElem? (i := 793) (by decide +kernel), List.mem_of_getElem? (i := 1114) (by decide +kernel), List.mem_of_getElem? (i := 1115) (by decide +kernel)⟩
theorem lw_p52 : lw_okq (⟨"DatatypeTermsModel", "pushChildren", "(II)V"⟩, 42) := ⟨⟨by decide +kernel, by decide +kernel⟩, List.mem_of_getElem? (i := 793) (by decide +kernel), List.mem_of_getElem? (i := 1118) (by decide +kernel), List.mem_of_getElem? (i := 1119) (by decide +kernel)⟩
theorem lw_p53 : lw_okq (⟨"DatatypeTermsModel", "unifyNow", "(II)I"⟩, 42) := ⟨⟨by decide +kernel, by decide +kernel⟩, List.mem_of_getElem? (i := 793) (by decide +kernel), List.mem_of_getElem? (i := 1126) (by decide +kernel), List.mem_of_getElem? (i := 1127) (by decide +kernel)⟩
theorem lw_p54 : lw_okq (⟨"DatatypeTermsModel", "bind", "(II)V"⟩, 42) := ⟨⟨by decide +kernel, by decide +kernel⟩, List.mem_of_getElem? (i := 793) (by decide +kernel), List.mem_of_getElem? (i := 1130) (by decide +kernel), List.mem_of_getElem? (i := 1131) (by decide +kernel)⟩
theorem lw_p55 : lw_okq (⟨"DatatypeTermsModel", "occurs", "(II)Z"⟩, 42) := ⟨⟨by decide +kernel, by decide +kernel⟩, List.mem_of_getElem? (i := 793) (by decide +kernel), List.mem_of_getElem? (i := 1134) (by decide +kernel), List.mem_of_getElem? (i := 1135) (by decide +kernel)⟩
theorem lw_p56 : lw_okq (⟨"DatatypeTermsModel", "layTerm", "(I)V"⟩, 42) := ⟨⟨by decide +kernel, by decide +kernel⟩, List.mem_of_getElem? (i := 793) (by decide +kernel), List.mem_of_getElem? (i := 1167) (by decide +kernel), List.mem_of_getElem? (i := 1168) (by decide +kernel)⟩
theorem lw_p57 : lw_okq (⟨"DatatypeTermsModel", "matchNow", "()I"⟩, 42) := ⟨⟨by decide +kernel, by decide +kernel⟩, List.mem_of_getElem? (i := 793) (by decide +kernel), List.mem_of_getElem? (i := 1171) (by decide +kernel), List.mem_of_getElem? (i := 1172) (by decide +kernel)⟩
theorem lw_p58 : lw_okq (⟨"DatatypeTermsModel", "matches", "(I)Z"⟩, 42) := ⟨⟨by decide +kernel, by decide +kernel⟩, List.mem_of_getElem? (i := 793) (by decide +kernel), List.mem_of_getElem? (i := 1175) (by decide +kernel), List.mem_of_getElem? (i := 1176) (by decide +kernel)⟩
theorem lw_p59 : lw_okq (⟨"DatatypeTermsModel", "areSame", "(II)Z"⟩, 42) := ⟨⟨by decide +kernel, by decide +kernel⟩, List.mem_of_getElem? (i := 793) (by decide +kernel), List.mem_of_getElem? (i := 1179) (by decide +kernel), List.mem_of_getElem? (i := 1180) (by decide +kernel)⟩
theorem lw_p60 : lw_okq (⟨"DatatypeTermsModel", "subject", "()I"⟩, 42) := ⟨⟨by decide +kernel, by decide +kernel⟩, List.mem_of_getElem? (i := 793) (by decide +kernel), List.mem_of_getElem? (i := 1187) (by decide +kernel), List.mem_of_getElem? (i := 1188) (by decide +kernel)⟩
theorem lw_p61 : lw_okq (⟨"DatatypeTermsModel", "countMatched", "(II)I"⟩, 42) := ⟨⟨by decide +kernel, by decide +kernel⟩, List.mem_of_getElem? (i := 793) (by decide +kernel), List.mem_of_getElem? (i := 1191) (by decide +kernel), List.mem_of_getElem? (i := 1192) (by decide +kernel)⟩
def lw_privs_4 : List (MethodName × Nat) := [(⟨"DatatypeTermsModel", "sizeNow", "(I)I"⟩, 42), (⟨"DatatypeTermsModel", "layRanks", "()V"⟩, 42), (⟨"DatatypeTermsModel", "rankNow", "(I)I"⟩, 42), (⟨"DatatypeTermsModel", "beginPairs", "(II)V"⟩, 42), (⟨"DatatypeTermsModel", "pushChildren", "(II)V"⟩, 42), (⟨"DatatypeTermsModel", "unifyNow", "(II)I"⟩, 42), (⟨"DatatypeTermsModel", "bind", "(II)V"⟩, 42), (⟨"DatatypeTermsModel", "occurs", "(II)Z"⟩, 42), (⟨"DatatypeTermsModel", "layTerm", "(I)V"⟩, 42), (⟨"DatatypeTermsModel", "matchNow", "()I"⟩, 42), (⟨"DatatypeTermsModel", "matches", "(I)Z"⟩, 42), (⟨"DatatypeTermsModel", "areSame", "(II)Z"⟩, 42), (⟨"DatatypeTermsModel", "subject", "()I"⟩, 42), (⟨"DatatypeTermsModel", "countMatched", "(II)I"⟩, 42)]
theorem lw_r4 : ∀ q ∈ lw_privs_4, lw_okq q := List.forall_mem_cons.mpr ⟨lw_p48, List.forall_mem_cons.mpr ⟨lw_p49, List.forall_mem_cons.mpr ⟨lw_p50, List.forall_mem_cons.mpr ⟨lw_p51, List.forall_mem_cons.mpr ⟨lw_p52, List.forall_mem_cons.mpr ⟨lw_p53, List.forall_mem_cons.mpr ⟨lw_p54, List.forall_mem_cons.mpr ⟨lw_p55, List.forall_mem_cons.mpr ⟨lw_p56, List.forall_mem_cons.mpr ⟨lw_p57, List.forall_mem_cons.mpr ⟨lw_p58, List.forall_mem_cons.mpr ⟨lw_p59, List.forall_mem_cons.mpr ⟨lw_p60, List.forall_mem_cons.mpr ⟨lw_p61, fun _ h => absurd h List.not_mem_nil⟩⟩⟩⟩⟩⟩⟩⟩⟩⟩⟩⟩⟩⟩
def lw_privs : List (MethodName × Nat) := lw_privs_1 ++ (lw_privs_2 ++ (lw_privs_3 ++ (lw_privs_4)))
def lw_tbl : List Cond := k2_sels lw_privs ++ tables_1
theorem lw_privs_ok : ∀ q ∈ lw_privs, lw_okq q := by
  show ∀ q ∈ lw_privs_1 ++ (lw_privs_2 ++ (lw_privs_3 ++ (lw_privs_4))), lw_okq q
  exact List.forall_mem_append.mpr ⟨lw_r1, List.forall_mem_append.mpr ⟨lw_r2, List.forall_mem_append.mpr ⟨lw_r3, lw_r4⟩⟩⟩
end
section
def RX0 : String := "DatatypeTerms$Nodes"
def TX0 : u_T := fun k => match k with
  | 0 => ("DatatypeTerms$Nodes", "signature", "LDatatypeTerms$Signature;", true)
  | 1 => ("DatatypeTerms$Nodes", "total", "I", false)
  | 2 => ("DatatypeTerms$Nodes", "types", "[I", true)
  | 3 => ("DatatypeTerms$Nodes", "constructors", "[I", true)
  | 4 => ("DatatypeTerms$Nodes", "children", "[I", true)
  | _ => ("DatatypeTerms$Nodes", "targets", "[I", true)
def tyX0 : Nat → FieldType := fun k => match k with
  | 0 => .object "DatatypeTerms$Signature"
  | 1 => .int
  | 2 => .array .int
  | 3 => .array .int
  | 4 => .array .int
  | _ => .array .int
abbrev wsX00 : List Cond := u_ws RX0 TX0 6
theorem nmX0 : ∀ a, a < 6 → ∀ b, b < 6 → a ≠ b → (TX0 a).2.1 ≠ (TX0 b).2.1 := by decide +kernel
theorem tyX0_ok : ∀ k, k < 6 → parseFieldDescriptor (TX0 k).2.2.1 = some (tyX0 k) := by decide +kernel
abbrev cX0_init : ByteArray := prog_2_method_1_code
def yX0_init : MethodName := ⟨RX0, "<init>", "(LDatatypeTerms$Signature;)V"⟩
abbrev cX0_contains : ByteArray := prog_2_method_2_code
def yX0_contains : MethodName := ⟨RX0, "contains", "(I)Z"⟩
abbrev cX0_addVariable : ByteArray := prog_2_method_3_code
def yX0_addVariable : MethodName := ⟨RX0, "addVariable", "(I)I"⟩
abbrev cX0_addConstructed : ByteArray := prog_2_method_4_code
def yX0_addConstructed : MethodName := ⟨RX0, "addConstructed", "(IIII)I"⟩
abbrev cX0_fill : ByteArray := prog_2_method_5_code
def yX0_fill : MethodName := ⟨RX0, "fill", "(II)V"⟩
abbrev cX0_isVariable : ByteArray := prog_2_method_6_code
def yX0_isVariable : MethodName := ⟨RX0, "isVariable", "(I)Z"⟩
abbrev cX0_partTotal : ByteArray := prog_2_method_7_code
def yX0_partTotal : MethodName := ⟨RX0, "partTotal", "(I)I"⟩
abbrev cX0_resolvedPart : ByteArray := prog_2_method_8_code
def yX0_resolvedPart : MethodName := ⟨RX0, "resolvedPart", "(II)I"⟩
abbrev cX0_resolve : ByteArray := prog_2_method_9_code
def yX0_resolve : MethodName := ⟨RX0, "resolve", "(I)I"⟩
abbrev cX0_countBound : ByteArray := prog_2_method_10_code
def yX0_countBound : MethodName := ⟨RX0, "countBound", "()I"⟩
def RX1 : String := "DatatypeTerms$Population"
def TX1 : u_T := fun k => match k with
  | 0 => ("DatatypeTerms$Population", "signature", "LDatatypeTerms$Signature;", true)
  | 1 => ("DatatypeTerms$Population", "smallest", "[I", true)
  | _ => ("DatatypeTerms$Population", "totals", "[I", true)
def tyX1 : Nat → FieldType := fun k => match k with
  | 0 => .object "DatatypeTerms$Signature"
  | 1 => .array .int
  | _ => .array .int
abbrev wsX10 : List Cond := u_ws RX1 TX1 3
theorem nmX1 : ∀ a, a < 3 → ∀ b, b < 3 → a ≠ b → (TX1 a).2.1 ≠ (TX1 b).2.1 := by decide +kernel
theorem tyX1_ok : ∀ k, k < 3 → parseFieldDescriptor (TX1 k).2.2.1 = some (tyX1 k) := by decide +kernel
abbrev cX1_init : ByteArray := prog_3_method_1_code
def yX1_init : MethodName := ⟨RX1, "<init>", "(LDatatypeTerms$Signature;)V"⟩
abbrev cX1_recompute : ByteArray := prog_3_method_2_code
def yX1_recompute : MethodName := ⟨RX1, "recompute", "()V"⟩
abbrev cX1_findSmallest : ByteArray := prog_3_method_3_code
def yX1_findSmallest : MethodName := ⟨RX1, "findSmallest", "()V"⟩
abbrev cX1_improveSmallest : ByteArray := prog_3_method_4_code
def yX1_improveSmallest : MethodName := ⟨RX1, "improveSmallest", "(I)V"⟩
abbrev cX1_isUsable : ByteArray := prog_3_method_5_code
def yX1_isUsable : MethodName := ⟨RX1, "isUsable", "(I)Z"⟩
abbrev cX1_findTotals : ByteArray := prog_3_method_6_code
def yX1_findTotals : MethodName := ⟨RX1, "findTotals", "()V"⟩
abbrev cX1_totalOfType : ByteArray := prog_3_method_7_code
def yX1_totalOfType : MethodName := ⟨RX1, "totalOfType", "(I)I"⟩
abbrev cX1_totalOfConstructor : ByteArray := prog_3_method_8_code
def yX1_totalOfConstructor : MethodName := ⟨RX1, "totalOfConstructor", "(I)I"⟩
def RX2 : String := "DatatypeTerms$Rows"
def TX2 : u_T := fun k => match k with
  | 0 => ("DatatypeTerms$Rows", "nodes", "LDatatypeTerms$Nodes;", true)
  | 1 => ("DatatypeTerms$Rows", "total", "I", false)
  | 2 => ("DatatypeTerms$Rows", "patterns", "[I", true)
  | 3 => ("DatatypeTerms$Rows", "matchNumber", "I", false)
  | 4 => ("DatatypeTerms$Rows", "givenIn", "[I", true)
  | 5 => ("DatatypeTerms$Rows", "givenValues", "[I", true)
  | 6 => ("DatatypeTerms$Rows", "waitingPatterns", "[I", true)
  | 7 => ("DatatypeTerms$Rows", "waitingValues", "[I", true)
  | 8 => ("DatatypeTerms$Rows", "waiting", "I", false)
  | _ => ("DatatypeTerms$Rows", "parts", "[I", true)
def tyX2 : Nat → FieldType := fun k => match k with
  | 0 => .object "DatatypeTerms$Nodes"
  | 1 => .int
  | 2 => .array .int
  | 3 => .int
  | 4 => .array .int
  | 5 => .array .int
  | 6 => .array .int
  | 7 => .array .int
  | 8 => .int
  | _ => .array .int
abbrev wsX20 : List Cond := u_ws RX2 TX2 10
theorem nmX2 : ∀ a, a < 10 → ∀ b, b < 10 → a ≠ b → (TX2 a).2.1 ≠ (TX2 b).2.1 := by decide +kernel
theorem tyX2_ok : ∀ k, k < 10 → parseFieldDescriptor (TX2 k).2.2.1 = some (tyX2 k) := by decide +kernel
abbrev cX2_init : ByteArray := prog_4_method_1_code
def yX2_init : MethodName := ⟨RX2, "<init>", "(LDatatypeTerms$Nodes;)V"⟩
abbrev cX2_subjectType : ByteArray := prog_4_method_2_code
def yX2_subjectType : MethodName := ⟨RX2, "subjectType", "()I"⟩
abbrev cX2_append : ByteArray := prog_4_method_3_code
def yX2_append : MethodName := ⟨RX2, "append", "(I)I"⟩
abbrev cX2_firstFitting : ByteArray := prog_4_method_4_code
def yX2_firstFitting : MethodName := ⟨RX2, "firstFitting", "(LDatatypeTerms$Values;I)I"⟩
abbrev cX2_fits : ByteArray := prog_4_method_5_code
def yX2_fits : MethodName := ⟨RX2, "fits", "(ILDatatypeTerms$Values;I)Z"⟩
abbrev cX2_fitsAtRoot : ByteArray := prog_4_method_6_code
def yX2_fitsAtRoot : MethodName := ⟨RX2, "fitsAtRoot", "(ILDatatypeTerms$Values;I)Z"⟩
abbrev cX2_fitsVariable : ByteArray := prog_4_method_7_code
def yX2_fitsVariable : MethodName := ⟨RX2, "fitsVariable", "(II)Z"⟩
abbrev cX2_await : ByteArray := prog_4_method_8_code
def yX2_await : MethodName := ⟨RX2, "await", "(II)V"⟩
def RX3 : String := "DatatypeTerms$SavedBindings"
def TX3 : u_T := fun k => match k with
  | 0 => ("DatatypeTerms$SavedBindings", "total", "I", false)
  | _ => ("DatatypeTerms$SavedBindings", "targets", "[I", true)
def tyX3 : Nat → FieldType := fun k => match k with
  | 0 => .int
  | _ => .array .int
abbrev wsX30 : List Cond := u_ws RX3 TX3 2
theorem nmX3 : ∀ a, a < 2 → ∀ b, b < 2 → a ≠ b → (TX3 a).2.1 ≠ (TX3 b).2.1 := by decide +kernel
theorem tyX3_ok : ∀ k, k < 2 → parseFieldDescriptor (TX3 k).2.2.1 = some (tyX3 k) := by decide +kernel
abbrev cX3_init : ByteArray := prog_5_method_1_code
def yX3_init : MethodName := ⟨RX3, "<init>", "()V"⟩
abbrev cX3_save : ByteArray := prog_5_method_2_code
def yX3_save : MethodName := ⟨RX3, "save", "([I)V"⟩
abbrev cX3_restore : ByteArray := prog_5_method_3_code
def yX3_restore : MethodName := ⟨RX3, "restore", "([I)V"⟩
def RX4 : String := "DatatypeTerms$Signature"
def TX4 : u_T := fun k => match k with
  | 0 => ("DatatypeTerms$Signature", "typeTotal", "I", false)
  | 1 => ("DatatypeTerms$Signature", "constructorTotal", "I", false)
  | 2 => ("DatatypeTerms$Signature", "resultTypes", "[I", true)
  | 3 => ("DatatypeTerms$Signature", "arities", "[I", true)
  | _ => ("DatatypeTerms$Signature", "argumentTypes", "[I", true)
def tyX4 : Nat → FieldType := fun k => match k with
  | 0 => .int
  | 1 => .int
  | 2 => .array .int
  | 3 => .array .int
  | _ => .array .int
abbrev wsX40 : List Cond := u_ws RX4 TX4 5
theorem nmX4 : ∀ a, a < 5 → ∀ b, b < 5 → a ≠ b → (TX4 a).2.1 ≠ (TX4 b).2.1 := by decide +kernel
theorem tyX4_ok : ∀ k, k < 5 → parseFieldDescriptor (TX4 k).2.2.1 = some (tyX4 k) := by decide +kernel
abbrev cX4_init : ByteArray := prog_6_method_1_code
def yX4_init : MethodName := ⟨RX4, "<init>", "()V"⟩
abbrev cX4_hasType : ByteArray := prog_6_method_2_code
def yX4_hasType : MethodName := ⟨RX4, "hasType", "(I)Z"⟩
abbrev cX4_hasConstructor : ByteArray := prog_6_method_3_code
def yX4_hasConstructor : MethodName := ⟨RX4, "hasConstructor", "(I)Z"⟩
abbrev cX4_typeOfArgument : ByteArray := prog_6_method_4_code
def yX4_typeOfArgument : MethodName := ⟨RX4, "typeOfArgument", "(II)I"⟩
abbrev cX4_define : ByteArray := prog_6_method_5_code
def yX4_define : MethodName := ⟨RX4, "define", "(IIIII)I"⟩
def RX5 : String := "DatatypeTerms$TermReader"
def TX5 : u_T := fun k => match k with
  | 0 => ("DatatypeTerms$TermReader", "nodes", "LDatatypeTerms$Nodes;", true)
  | 1 => ("DatatypeTerms$TermReader", "valueOrder", "LDatatypeTerms$ValueOrder;", true)
  | 2 => ("DatatypeTerms$TermReader", "walk", "LDatatypeTerms$Walk;", true)
  | 3 => ("DatatypeTerms$TermReader", "sizes", "[I", true)
  | 4 => ("DatatypeTerms$TermReader", "indices", "[I", true)
  | 5 => ("DatatypeTerms$TermReader", "canonical", "[I", true)
  | 6 => ("DatatypeTerms$TermReader", "partSizes", "[I", true)
  | _ => ("DatatypeTerms$TermReader", "partIndices", "[I", true)
def tyX5 : Nat → FieldType := fun k => match k with
  | 0 => .object "DatatypeTerms$Nodes"
  | 1 => .object "DatatypeTerms$ValueOrder"
  | 2 => .object "DatatypeTerms$Walk"
  | 3 => .array .int
  | 4 => .array .int
  | 5 => .array .int
  | 6 => .array .int
  | _ => .array .int
abbrev wsX50 : List Cond := u_ws RX5 TX5 8
theorem nmX5 : ∀ a, a < 8 → ∀ b, b < 8 → a ≠ b → (TX5 a).2.1 ≠ (TX5 b).2.1 := by decide +kernel
theorem tyX5_ok : ∀ k, k < 8 → parseFieldDescriptor (TX5 k).2.2.1 = some (tyX5 k) := by decide +kernel
abbrev cX5_init : ByteArray := prog_7_method_1_code
def yX5_init : MethodName := ⟨RX5, "<init>", "(LDatatypeTerms$Nodes;LDatatypeTerms$ValueOrder;)V"⟩
abbrev cX5_measure : ByteArray := prog_7_method_2_code
def yX5_measure : MethodName := ⟨RX5, "measure", "(I)I"⟩
abbrev cX5_sizeFromParts : ByteArray := prog_7_method_3_code
def yX5_sizeFromParts : MethodName := ⟨RX5, "sizeFromParts", "(I)I"⟩
abbrev cX5_indexAmongValues : ByteArray := prog_7_method_4_code
def yX5_indexAmongValues : MethodName := ⟨RX5, "indexAmongValues", "(I)I"⟩
abbrev cX5_sameTerm : ByteArray := prog_7_method_5_code
def yX5_sameTerm : MethodName := ⟨RX5, "sameTerm", "(II)Z"⟩
abbrev cX5_canonicalNode : ByteArray := prog_7_method_6_code
def yX5_canonicalNode : MethodName := ⟨RX5, "canonicalNode", "(I)I"⟩
abbrev cX5_findCanonical : ByteArray := prog_7_method_7_code
def yX5_findCanonical : MethodName := ⟨RX5, "findCanonical", "()V"⟩
abbrev cX5_haveEqualParts : ByteArray := prog_7_method_8_code
def yX5_haveEqualParts : MethodName := ⟨RX5, "haveEqualParts", "(II)Z"⟩
abbrev cX5_isBuiltBy : ByteArray := prog_7_method_9_code
def yX5_isBuiltBy : MethodName := ⟨RX5, "isBuiltBy", "(II)Z"⟩
abbrev cX5_split : ByteArray := prog_7_method_10_code
def yX5_split : MethodName := ⟨RX5, "split", "(II[I)V"⟩
def RX6 : String := "DatatypeTerms$Unifier"
def TX6 : u_T := fun k => match k with
  | 0 => ("DatatypeTerms$Unifier", "nodes", "LDatatypeTerms$Nodes;", true)
  | 1 => ("DatatypeTerms$Unifier", "walk", "LDatatypeTerms$Walk;", true)
  | 2 => ("DatatypeTerms$Unifier", "before", "[I", true)
  | 3 => ("DatatypeTerms$Unifier", "waitingLeft", "[I", true)
  | 4 => ("DatatypeTerms$Unifier", "waitingRight", "[I", true)
  | 5 => ("DatatypeTerms$Unifier", "waiting", "I", false)
  | _ => ("DatatypeTerms$Unifier", "opened", "[J", true)
def tyX6 : Nat → FieldType := fun k => match k with
  | 0 => .object "DatatypeTerms$Nodes"
  | 1 => .object "DatatypeTerms$Walk"
  | 2 => .array .int
  | 3 => .array .int
  | 4 => .array .int
  | 5 => .int
  | _ => .array .long
abbrev wsX60 : List Cond := u_ws RX6 TX6 7
theorem nmX6 : ∀ a, a < 7 → ∀ b, b < 7 → a ≠ b → (TX6 a).2.1 ≠ (TX6 b).2.1 := by decide +kernel
theorem tyX6_ok : ∀ k, k < 7 → parseFieldDescriptor (TX6 k).2.2.1 = some (tyX6 k) := by decide +kernel
abbrev cX6_init : ByteArray := prog_8_method_1_code
def yX6_init : MethodName := ⟨RX6, "<init>", "(LDatatypeTerms$Nodes;)V"⟩
abbrev cX6_run : ByteArray := prog_8_method_2_code
def yX6_run : MethodName := ⟨RX6, "run", "(II)I"⟩
abbrev cX6_unifyResolved : ByteArray := prog_8_method_3_code
def yX6_unifyResolved : MethodName := ⟨RX6, "unifyResolved", "(II)I"⟩
abbrev cX6_bindToTerm : ByteArray := prog_8_method_4_code
def yX6_bindToTerm : MethodName := ⟨RX6, "bindToTerm", "(II)I"⟩
abbrev cX6_open : ByteArray := prog_8_method_5_code
def yX6_open : MethodName := ⟨RX6, "open", "(II)V"⟩
abbrev cX6_await : ByteArray := prog_8_method_6_code
def yX6_await : MethodName := ⟨RX6, "await", "(II)V"⟩
def RX7 : String := "DatatypeTerms$ValueBuilder"
def TX7 : u_T := fun k => match k with
  | 0 => ("DatatypeTerms$ValueBuilder", "signature", "LDatatypeTerms$Signature;", true)
  | 1 => ("DatatypeTerms$ValueBuilder", "valueOrder", "LDatatypeTerms$ValueOrder;", true)
  | 2 => ("DatatypeTerms$ValueBuilder", "nodes", "LDatatypeTerms$Nodes;", true)
  | 3 => ("DatatypeTerms$ValueBuilder", "waitingTypes", "[I", true)
  | 4 => ("DatatypeTerms$ValueBuilder", "waitingKeys", "[I", true)
  | 5 => ("DatatypeTerms$ValueBuilder", "waitingPlaces", "[I", true)
  | 6 => ("DatatypeTerms$ValueBuilder", "waiting", "I", false)
  | _ => ("DatatypeTerms$ValueBuilder", "parts", "[I", true)
def tyX7 : Nat → FieldType := fun k => match k with
  | 0 => .object "DatatypeTerms$Signature"
  | 1 => .object "DatatypeTerms$ValueOrder"
  | 2 => .object "DatatypeTerms$Nodes"
  | 3 => .array .int
  | 4 => .array .int
  | 5 => .array .int
  | 6 => .int
  | _ => .array .int
abbrev wsX70 : List Cond := u_ws RX7 TX7 8
theorem nmX7 : ∀ a, a < 8 → ∀ b, b < 8 → a ≠ b → (TX7 a).2.1 ≠ (TX7 b).2.1 := by decide +kernel
theorem tyX7_ok : ∀ k, k < 8 → parseFieldDescriptor (TX7 k).2.2.1 = some (tyX7 k) := by decide +kernel
abbrev cX7_init : ByteArray := prog_9_method_1_code
def yX7_init : MethodName := ⟨RX7, "<init>", "(LDatatypeTerms$Signature;LDatatypeTerms$ValueOrder;LDatatypeTerms$Nodes;)V"⟩
abbrev cX7_build : ByteArray := prog_9_method_2_code
def yX7_build : MethodName := ⟨RX7, "build", "(III)I"⟩
abbrev cX7_place : ByteArray := prog_9_method_3_code
def yX7_place : MethodName := ⟨RX7, "place", "(IIII)V"⟩
abbrev cX7_await : ByteArray := prog_9_method_4_code
def yX7_await : MethodName := ⟨RX7, "await", "(III)V"⟩
def RX8 : String := "DatatypeTerms$ValueOrder"
def TX8 : u_T := fun k => match k with
  | 0 => ("DatatypeTerms$ValueOrder", "signature", "LDatatypeTerms$Signature;", true)
  | 1 => ("DatatypeTerms$ValueOrder", "counts", "[I", true)
  | 2 => ("DatatypeTerms$ValueOrder", "starts", "[I", true)
  | _ => ("DatatypeTerms$ValueOrder", "ways", "[I", true)
def tyX8 : Nat → FieldType := fun k => match k with
  | 0 => .object "DatatypeTerms$Signature"
  | 1 => .array .int
  | 2 => .array .int
  | _ => .array .int
abbrev wsX80 : List Cond := u_ws RX8 TX8 4
theorem nmX8 : ∀ a, a < 4 → ∀ b, b < 4 → a ≠ b → (TX8 a).2.1 ≠ (TX8 b).2.1 := by decide +kernel
theorem tyX8_ok : ∀ k, k < 4 → parseFieldDescriptor (TX8 k).2.2.1 = some (tyX8 k) := by decide +kernel
abbrev cX8_init : ByteArray := prog_10_method_1_code
def yX8_init : MethodName := ⟨RX8, "<init>", "(LDatatypeTerms$Signature;)V"⟩
abbrev cX8_keyOf : ByteArray := prog_10_method_2_code
def yX8_keyOf : MethodName := ⟨RX8, "keyOf", "(II)I"⟩
abbrev cX8_sizeOfKey : ByteArray := prog_10_method_3_code
def yX8_sizeOfKey : MethodName := ⟨RX8, "sizeOfKey", "(I)I"⟩
abbrev cX8_indexOfKey : ByteArray := prog_10_method_4_code
def yX8_indexOfKey : MethodName := ⟨RX8, "indexOfKey", "(I)I"⟩
abbrev cX8_countOf : ByteArray := prog_10_method_5_code
def yX8_countOf : MethodName := ⟨RX8, "countOf", "(II)I"⟩
abbrev cX8_recompute : ByteArray := prog_10_method_6_code
def yX8_recompute : MethodName := ⟨RX8, "recompute", "()V"⟩
abbrev cX8_fillWays : ByteArray := prog_10_method_7_code
def yX8_fillWays : MethodName := ⟨RX8, "fillWays", "(II)V"⟩
abbrev cX8_wayPlace : ByteArray := prog_10_method_8_code
def yX8_wayPlace : MethodName := ⟨RX8, "wayPlace", "(III)I"⟩
abbrev cX8_waysOf : ByteArray := prog_10_method_9_code
def yX8_waysOf : MethodName := ⟨RX8, "waysOf", "(III)I"⟩
abbrev cX8_waysOfSplit : ByteArray := prog_10_method_10_code
def yX8_waysOfSplit : MethodName := ⟨RX8, "waysOfSplit", "(IIII)I"⟩
abbrev cX8_isBuiltBy : ByteArray := prog_10_method_11_code
def yX8_isBuiltBy : MethodName := ⟨RX8, "isBuiltBy", "(II)Z"⟩
abbrev cX8_rootOf : ByteArray := prog_10_method_12_code
def yX8_rootOf : MethodName := ⟨RX8, "rootOf", "(II)I"⟩
abbrev cX8_split : ByteArray := prog_10_method_13_code
def yX8_split : MethodName := ⟨RX8, "split", "(II[I)V"⟩
abbrev cX8_indexOf : ByteArray := prog_10_method_14_code
def yX8_indexOf : MethodName := ⟨RX8, "indexOf", "(II[I[I)I"⟩
def RX9 : String := "DatatypeTerms$Values"
def TX9 : u_T := fun k => match k with
  | _ => ("", "", "", false)
def tyX9 : Nat → FieldType := fun k => match k with
  | _ => .int
abbrev wsX90 : List Cond := u_ws RX9 TX9 0
theorem nmX9 : ∀ a, a < 0 → ∀ b, b < 0 → a ≠ b → (TX9 a).2.1 ≠ (TX9 b).2.1 := by decide +kernel
theorem tyX9_ok : ∀ k, k < 0 → parseFieldDescriptor (TX9 k).2.2.1 = some (tyX9 k) := by decide +kernel
def RX10 : String := "DatatypeTerms$Walk"
def TX10 : u_T := fun k => match k with
  | 0 => ("DatatypeTerms$Walk", "nodes", "LDatatypeTerms$Nodes;", true)
  | 1 => ("DatatypeTerms$Walk", "order", "[I", true)
  | 2 => ("DatatypeTerms$Walk", "length", "I", false)
  | 3 => ("DatatypeTerms$Walk", "number", "I", false)
  | 4 => ("DatatypeTerms$Walk", "listedIn", "[I", true)
  | _ => ("DatatypeTerms$Walk", "path", "[I", true)
def tyX10 : Nat → FieldType := fun k => match k with
  | 0 => .object "DatatypeTerms$Nodes"
  | 1 => .array .int
  | 2 => .int
  | 3 => .int
  | 4 => .array .int
  | _ => .array .int
abbrev wsX100 : List Cond := u_ws RX10 TX10 6
theorem nmX10 : ∀ a, a < 6 → ∀ b, b < 6 → a ≠ b → (TX10 a).2.1 ≠ (TX10 b).2.1 := by decide +kernel
theorem tyX10_ok : ∀ k, k < 6 → parseFieldDescriptor (TX10 k).2.2.1 = some (tyX10 k) := by decide +kernel
abbrev cX10_init : ByteArray := prog_12_method_1_code
def yX10_init : MethodName := ⟨RX10, "<init>", "(LDatatypeTerms$Nodes;)V"⟩
abbrev cX10_begin : ByteArray := prog_12_method_2_code
def yX10_begin : MethodName := ⟨RX10, "begin", "()V"⟩
abbrev cX10_hasListed : ByteArray := prog_12_method_3_code
def yX10_hasListed : MethodName := ⟨RX10, "hasListed", "(I)Z"⟩
abbrev cX10_visit : ByteArray := prog_12_method_4_code
def yX10_visit : MethodName := ⟨RX10, "visit", "(I)V"⟩
abbrev cX10_unlistedPart : ByteArray := prog_12_method_5_code
def yX10_unlistedPart : MethodName := ⟨RX10, "unlistedPart", "(I)I"⟩
abbrev cX10_list : ByteArray := prog_12_method_6_code
def yX10_list : MethodName := ⟨RX10, "list", "(I)V"⟩
def RX11 : String := "DatatypeTerms"
def TX11 : u_T := fun k => match k with
  | 0 => ("DatatypeTerms", "signature", "LDatatypeTerms$Signature;", true)
  | 1 => ("DatatypeTerms", "population", "LDatatypeTerms$Population;", true)
  | 2 => ("DatatypeTerms", "valueOrder", "LDatatypeTerms$ValueOrder;", true)
  | 3 => ("DatatypeTerms", "nodes", "LDatatypeTerms$Nodes;", true)
  | 4 => ("DatatypeTerms", "builder", "LDatatypeTerms$ValueBuilder;", true)
  | 5 => ("DatatypeTerms", "reader", "LDatatypeTerms$TermReader;", true)
  | 6 => ("DatatypeTerms", "unifier", "LDatatypeTerms$Unifier;", true)
  | 7 => ("DatatypeTerms", "saved", "LDatatypeTerms$SavedBindings;", true)
  | _ => ("DatatypeTerms", "rows", "LDatatypeTerms$Rows;", true)
def tyX11 : Nat → FieldType := fun k => match k with
  | 0 => .object "DatatypeTerms$Signature"
  | 1 => .object "DatatypeTerms$Population"
  | 2 => .object "DatatypeTerms$ValueOrder"
  | 3 => .object "DatatypeTerms$Nodes"
  | 4 => .object "DatatypeTerms$ValueBuilder"
  | 5 => .object "DatatypeTerms$TermReader"
  | 6 => .object "DatatypeTerms$Unifier"
  | 7 => .object "DatatypeTerms$SavedBindings"
  | _ => .object "DatatypeTerms$Rows"
abbrev wsX110 : List Cond := u_ws RX11 TX11 9
theorem nmX11 : ∀ a, a < 9 → ∀ b, b < 9 → a ≠ b → (TX11 a).2.1 ≠ (TX11 b).2.1 := by decide +kernel
theorem tyX11_ok : ∀ k, k < 9 → parseFieldDescriptor (TX11 k).2.2.1 = some (tyX11 k) := by decide +kernel
abbrev cX11_init : ByteArray := prog_1_method_1_code
def yX11_init : MethodName := ⟨RX11, "<init>", "()V"⟩
abbrev cX11_addType : ByteArray := prog_1_method_2_code
def yX11_addType : MethodName := ⟨RX11, "addType", "()I"⟩
abbrev cX11_addConstructor : ByteArray := prog_1_method_3_code
def yX11_addConstructor : MethodName := ⟨RX11, "addConstructor", "(IIIII)I"⟩
abbrev cX11_resultType : ByteArray := prog_1_method_4_code
def yX11_resultType : MethodName := ⟨RX11, "resultType", "(I)I"⟩
abbrev cX11_arity : ByteArray := prog_1_method_5_code
def yX11_arity : MethodName := ⟨RX11, "arity", "(I)I"⟩
abbrev cX11_argumentType : ByteArray := prog_1_method_6_code
def yX11_argumentType : MethodName := ⟨RX11, "argumentType", "(II)I"⟩
abbrev cX11_cardinality : ByteArray := prog_1_method_7_code
def yX11_cardinality : MethodName := ⟨RX11, "cardinality", "(I)I"⟩
abbrev cX11_smallestSize : ByteArray := prog_1_method_8_code
def yX11_smallestSize : MethodName := ⟨RX11, "smallestSize", "(I)I"⟩
abbrev cX11_count : ByteArray := prog_1_method_9_code
def yX11_count : MethodName := ⟨RX11, "count", "(II)I"⟩
abbrev cX11_value : ByteArray := prog_1_method_10_code
def yX11_value : MethodName := ⟨RX11, "value", "(III)I"⟩
abbrev cX11_variable : ByteArray := prog_1_method_11_code
def yX11_variable : MethodName := ⟨RX11, "variable", "(I)I"⟩
abbrev cX11_term : ByteArray := prog_1_method_12_code
def yX11_term : MethodName := ⟨RX11, "term", "(IIII)I"⟩
abbrev cX11_nodeCount : ByteArray := prog_1_method_13_code
def yX11_nodeCount : MethodName := ⟨RX11, "nodeCount", "()I"⟩
abbrev cX11_nodeType : ByteArray := prog_1_method_14_code
def yX11_nodeType : MethodName := ⟨RX11, "nodeType", "(I)I"⟩
abbrev cX11_head : ByteArray := prog_1_method_15_code
def yX11_head : MethodName := ⟨RX11, "head", "(I)I"⟩
abbrev cX11_child : ByteArray := prog_1_method_16_code
def yX11_child : MethodName := ⟨RX11, "child", "(II)I"⟩
abbrev cX11_binding : ByteArray := prog_1_method_17_code
def yX11_binding : MethodName := ⟨RX11, "binding", "(I)I"⟩
abbrev cX11_size : ByteArray := prog_1_method_18_code
def yX11_size : MethodName := ⟨RX11, "size", "(I)I"⟩
abbrev cX11_rank : ByteArray := prog_1_method_19_code
def yX11_rank : MethodName := ⟨RX11, "rank", "(I)I"⟩
abbrev cX11_equal : ByteArray := prog_1_method_20_code
def yX11_equal : MethodName := ⟨RX11, "equal", "(II)I"⟩
abbrev cX11_unify : ByteArray := prog_1_method_21_code
def yX11_unify : MethodName := ⟨RX11, "unify", "(II)I"⟩
abbrev cX11_boundCount : ByteArray := prog_1_method_22_code
def yX11_boundCount : MethodName := ⟨RX11, "boundCount", "()I"⟩
abbrev cX11_unbindAll : ByteArray := prog_1_method_23_code
def yX11_unbindAll : MethodName := ⟨RX11, "unbindAll", "()I"⟩
abbrev cX11_push : ByteArray := prog_1_method_24_code
def yX11_push : MethodName := ⟨RX11, "push", "()I"⟩
abbrev cX11_pop : ByteArray := prog_1_method_25_code
def yX11_pop : MethodName := ⟨RX11, "pop", "()I"⟩
abbrev cX11_addRow : ByteArray := prog_1_method_26_code
def yX11_addRow : MethodName := ⟨RX11, "addRow", "(I)I"⟩
abbrev cX11_clearRows : ByteArray := prog_1_method_27_code
def yX11_clearRows : MethodName := ⟨RX11, "clearRows", "()I"⟩
abbrev cX11_firstMatch : ByteArray := prog_1_method_28_code
def yX11_firstMatch : MethodName := ⟨RX11, "firstMatch", "(I)I"⟩
abbrev cX11_uncovered : ByteArray := prog_1_method_29_code
def yX11_uncovered : MethodName := ⟨RX11, "uncovered", "(I)I"⟩
abbrev cX11_firstUncovered : ByteArray := prog_1_method_30_code
def yX11_firstUncovered : MethodName := ⟨RX11, "firstUncovered", "(I)I"⟩
abbrev cX11_coveredBy : ByteArray := prog_1_method_31_code
def yX11_coveredBy : MethodName := ⟨RX11, "coveredBy", "(II)I"⟩
abbrev cX11_countFirstFitting : ByteArray := prog_1_method_32_code
def yX11_countFirstFitting : MethodName := ⟨RX11, "countFirstFitting", "(II)I"⟩
abbrev cX11_firstIndexUncovered : ByteArray := prog_1_method_33_code
def yX11_firstIndexUncovered : MethodName := ⟨RX11, "firstIndexUncovered", "(I)I"⟩
abbrev cX11_limitedSum : ByteArray := prog_1_method_34_code
def yX11_limitedSum : MethodName := ⟨RX11, "limitedSum", "(II)I"⟩
abbrev cX11_limitedProduct : ByteArray := prog_1_method_35_code
def yX11_limitedProduct : MethodName := ⟨RX11, "limitedProduct", "(II)I"⟩
def RX12 : String := "DatatypeTermsModel"
def TX12 : u_T := fun k => match k with
  | 0 => ("DatatypeTermsModel", "types", "I", false)
  | 1 => ("DatatypeTermsModel", "constructors", "I", false)
  | 2 => ("DatatypeTermsModel", "resultOf", "[I", true)
  | 3 => ("DatatypeTermsModel", "arityOf", "[I", true)
  | 4 => ("DatatypeTermsModel", "argument", "[I", true)
  | 5 => ("DatatypeTermsModel", "nodes", "I", false)
  | 6 => ("DatatypeTermsModel", "headOf", "[I", true)
  | 7 => ("DatatypeTermsModel", "typeOf", "[I", true)
  | 8 => ("DatatypeTermsModel", "childOf", "[I", true)
  | 9 => ("DatatypeTermsModel", "boundTo", "[I", true)
  | 10 => ("DatatypeTermsModel", "saved", "[I", true)
  | 11 => ("DatatypeTermsModel", "states", "I", false)
  | 12 => ("DatatypeTermsModel", "rows", "[I", true)
  | 13 => ("DatatypeTermsModel", "rowMany", "I", false)
  | 14 => ("DatatypeTermsModel", "least", "[I", true)
  | 15 => ("DatatypeTermsModel", "all", "[I", true)
  | 16 => ("DatatypeTermsModel", "within", "[Z", true)
  | 17 => ("DatatypeTermsModel", "counts", "[I", true)
  | 18 => ("DatatypeTermsModel", "ways", "[I", true)
  | 19 => ("DatatypeTermsModel", "row", "[I", true)
  | 20 => ("DatatypeTermsModel", "part", "[I", true)
  | 21 => ("DatatypeTermsModel", "length", "I", false)
  | 22 => ("DatatypeTermsModel", "waitType", "[I", true)
  | 23 => ("DatatypeTermsModel", "waitSize", "[I", true)
  | 24 => ("DatatypeTermsModel", "waitIndex", "[I", true)
  | 25 => ("DatatypeTermsModel", "ownSize", "[I", true)
  | 26 => ("DatatypeTermsModel", "ownIndex", "[I", true)
  | 27 => ("DatatypeTermsModel", "openAt", "[I", true)
  | 28 => ("DatatypeTermsModel", "openMany", "[I", true)
  | 29 => ("DatatypeTermsModel", "openChild", "[I", true)
  | 30 => ("DatatypeTermsModel", "sizes", "[I", true)
  | 31 => ("DatatypeTermsModel", "ranks", "[I", true)
  | 32 => ("DatatypeTermsModel", "one", "[I", true)
  | 33 => ("DatatypeTermsModel", "other", "[I", true)
  | 34 => ("DatatypeTermsModel", "pairs", "I", false)
  | 35 => ("DatatypeTermsModel", "isDone", "[Z", true)
  | 36 => ("DatatypeTermsModel", "bound", "[I", true)
  | 37 => ("DatatypeTermsModel", "bounds", "I", false)
  | 38 => ("DatatypeTermsModel", "seek", "[I", true)
  | 39 => ("DatatypeTermsModel", "wasAt", "[Z", true)
  | 40 => ("DatatypeTermsModel", "givenAt", "[I", true)
  | _ => ("DatatypeTermsModel", "left", "[I", true)
def tyX12 : Nat → FieldType := fun k => match k with
  | 0 => .int
  | 1 => .int
  | 2 => .array .int
  | 3 => .array .int
  | 4 => .array .int
  | 5 => .int
  | 6 => .array .int
  | 7 => .array .int
  | 8 => .array .int
  | 9 => .array .int
  | 10 => .array .int
  | 11 => .int
  | 12 => .array .int
  | 13 => .int
  | 14 => .array .int
  | 15 => .array .int
  | 16 => .array .boolean
  | 17 => .array .int
  | 18 => .array .int
  | 19 => .array .int
  | 20 => .array .int
  | 21 => .int
  | 22 => .array .int
  | 23 => .array .int
  | 24 => .array .int
  | 25 => .array .int
  | 26 => .array .int
  | 27 => .array .int
  | 28 => .array .int
  | 29 => .array .int
  | 30 => .array .int
  | 31 => .array .int
  | 32 => .array .int
  | 33 => .array .int
  | 34 => .int
  | 35 => .array .boolean
  | 36 => .array .int
  | 37 => .int
  | 38 => .array .int
  | 39 => .array .boolean
  | 40 => .array .int
  | _ => .array .int
abbrev wsX120 : List Cond := u_ws RX12 TX12 42
theorem nmX12 : ∀ a, a < 42 → ∀ b, b < 42 → a ≠ b → (TX12 a).2.1 ≠ (TX12 b).2.1 := by decide +kernel
theorem tyX12_ok : ∀ k, k < 42 → parseFieldDescriptor (TX12 k).2.2.1 = some (tyX12 k) := by decide +kernel
abbrev cX12_init : ByteArray := prog_14_method_1_code
def yX12_init : MethodName := ⟨RX12, "<init>", "()V"⟩
abbrev cX12_in : ByteArray := prog_14_method_2_code
def yX12_in : MethodName := ⟨RX12, "in", "(III)Z"⟩
abbrev cX12_isType : ByteArray := prog_14_method_3_code
def yX12_isType : MethodName := ⟨RX12, "isType", "(I)Z"⟩
abbrev cX12_isConstructor : ByteArray := prog_14_method_4_code
def yX12_isConstructor : MethodName := ⟨RX12, "isConstructor", "(I)Z"⟩
abbrev cX12_isNode : ByteArray := prog_14_method_5_code
def yX12_isNode : MethodName := ⟨RX12, "isNode", "(I)Z"⟩
abbrev cX12_capped : ByteArray := prog_14_method_6_code
def yX12_capped : MethodName := ⟨RX12, "capped", "(J)I"⟩
abbrev cX12_addType : ByteArray := prog_14_method_7_code
def yX12_addType : MethodName := ⟨RX12, "addType", "()I"⟩
abbrev cX12_addConstructor : ByteArray := prog_14_method_8_code
def yX12_addConstructor : MethodName := ⟨RX12, "addConstructor", "(IIIII)I"⟩
abbrev cX12_resultType : ByteArray := prog_14_method_9_code
def yX12_resultType : MethodName := ⟨RX12, "resultType", "(I)I"⟩
abbrev cX12_arity : ByteArray := prog_14_method_10_code
def yX12_arity : MethodName := ⟨RX12, "arity", "(I)I"⟩
abbrev cX12_argumentType : ByteArray := prog_14_method_11_code
def yX12_argumentType : MethodName := ⟨RX12, "argumentType", "(II)I"⟩
abbrev cX12_laySmallest : ByteArray := prog_14_method_12_code
def yX12_laySmallest : MethodName := ⟨RX12, "laySmallest", "()V"⟩
abbrev cX12_sizeBy : ByteArray := prog_14_method_13_code
def yX12_sizeBy : MethodName := ⟨RX12, "sizeBy", "(I)I"⟩
abbrev cX12_layWithin : ByteArray := prog_14_method_14_code
def yX12_layWithin : MethodName := ⟨RX12, "layWithin", "()V"⟩
abbrev cX12_isInfinite : ByteArray := prog_14_method_15_code
def yX12_isInfinite : MethodName := ⟨RX12, "isInfinite", "(I)Z"⟩
abbrev cX12_layAll : ByteArray := prog_14_method_16_code
def yX12_layAll : MethodName := ⟨RX12, "layAll", "()V"⟩
abbrev cX12_allBy : ByteArray := prog_14_method_17_code
def yX12_allBy : MethodName := ⟨RX12, "allBy", "(I)I"⟩
abbrev cX12_cardinality : ByteArray := prog_14_method_18_code
def yX12_cardinality : MethodName := ⟨RX12, "cardinality", "(I)I"⟩
abbrev cX12_smallestSize : ByteArray := prog_14_method_19_code
def yX12_smallestSize : MethodName := ⟨RX12, "smallestSize", "(I)I"⟩
abbrev cX12_way : ByteArray := prog_14_method_20_code
def yX12_way : MethodName := ⟨RX12, "way", "(III)I"⟩
abbrev cX12_countOf : ByteArray := prog_14_method_21_code
def yX12_countOf : MethodName := ⟨RX12, "countOf", "(II)I"⟩
abbrev cX12_layWays : ByteArray := prog_14_method_22_code
def yX12_layWays : MethodName := ⟨RX12, "layWays", "(II)V"⟩
abbrev cX12_layCounts : ByteArray := prog_14_method_23_code
def yX12_layCounts : MethodName := ⟨RX12, "layCounts", "()V"⟩
abbrev cX12_count : ByteArray := prog_14_method_24_code
def yX12_count : MethodName := ⟨RX12, "count", "(II)I"⟩
abbrev cX12_share : ByteArray := prog_14_method_25_code
def yX12_share : MethodName := ⟨RX12, "share", "(III)V"⟩
abbrev cX12_blockOf : ByteArray := prog_14_method_26_code
def yX12_blockOf : MethodName := ⟨RX12, "blockOf", "(IIIII)I"⟩
abbrev cX12_layValue : ByteArray := prog_14_method_27_code
def yX12_layValue : MethodName := ⟨RX12, "layValue", "(III)V"⟩
abbrev cX12_layParts : ByteArray := prog_14_method_28_code
def yX12_layParts : MethodName := ⟨RX12, "layParts", "()V"⟩
abbrev cX12_addNode : ByteArray := prog_14_method_29_code
def yX12_addNode : MethodName := ⟨RX12, "addNode", "(IIIII)I"⟩
abbrev cX12_makeNodes : ByteArray := prog_14_method_30_code
def yX12_makeNodes : MethodName := ⟨RX12, "makeNodes", "()I"⟩
abbrev cX12_value : ByteArray := prog_14_method_31_code
def yX12_value : MethodName := ⟨RX12, "value", "(III)I"⟩
abbrev cX12_variable : ByteArray := prog_14_method_32_code
def yX12_variable : MethodName := ⟨RX12, "variable", "(I)I"⟩
abbrev cX12_wrongChild : ByteArray := prog_14_method_33_code
def yX12_wrongChild : MethodName := ⟨RX12, "wrongChild", "(III)I"⟩
abbrev cX12_term : ByteArray := prog_14_method_34_code
def yX12_term : MethodName := ⟨RX12, "term", "(IIII)I"⟩
abbrev cX12_nodeCount : ByteArray := prog_14_method_35_code
def yX12_nodeCount : MethodName := ⟨RX12, "nodeCount", "()I"⟩
abbrev cX12_nodeType : ByteArray := prog_14_method_36_code
def yX12_nodeType : MethodName := ⟨RX12, "nodeType", "(I)I"⟩
abbrev cX12_resolved : ByteArray := prog_14_method_37_code
def yX12_resolved : MethodName := ⟨RX12, "resolved", "(I)I"⟩
abbrev cX12_manyOf : ByteArray := prog_14_method_38_code
def yX12_manyOf : MethodName := ⟨RX12, "manyOf", "(I)I"⟩
abbrev cX12_head : ByteArray := prog_14_method_39_code
def yX12_head : MethodName := ⟨RX12, "head", "(I)I"⟩
abbrev cX12_child : ByteArray := prog_14_method_40_code
def yX12_child : MethodName := ⟨RX12, "child", "(II)I"⟩
abbrev cX12_binding : ByteArray := prog_14_method_41_code
def yX12_binding : MethodName := ⟨RX12, "binding", "(I)I"⟩
abbrev cX12_laySizes : ByteArray := prog_14_method_42_code
def yX12_laySizes : MethodName := ⟨RX12, "laySizes", "()V"⟩
abbrev cX12_sizeNow : ByteArray := prog_14_method_43_code
def yX12_sizeNow : MethodName := ⟨RX12, "sizeNow", "(I)I"⟩
abbrev cX12_size : ByteArray := prog_14_method_44_code
def yX12_size : MethodName := ⟨RX12, "size", "(I)I"⟩
abbrev cX12_rankNow : ByteArray := prog_14_method_45_code
def yX12_rankNow : MethodName := ⟨RX12, "rankNow", "(I)I"⟩
abbrev cX12_layRanks : ByteArray := prog_14_method_46_code
def yX12_layRanks : MethodName := ⟨RX12, "layRanks", "()V"⟩
abbrev cX12_rank : ByteArray := prog_14_method_47_code
def yX12_rank : MethodName := ⟨RX12, "rank", "(I)I"⟩
abbrev cX12_beginPairs : ByteArray := prog_14_method_48_code
def yX12_beginPairs : MethodName := ⟨RX12, "beginPairs", "(II)V"⟩
abbrev cX12_pushChildren : ByteArray := prog_14_method_49_code
def yX12_pushChildren : MethodName := ⟨RX12, "pushChildren", "(II)V"⟩
abbrev cX12_equal : ByteArray := prog_14_method_50_code
def yX12_equal : MethodName := ⟨RX12, "equal", "(II)I"⟩
abbrev cX12_bind : ByteArray := prog_14_method_51_code
def yX12_bind : MethodName := ⟨RX12, "bind", "(II)V"⟩
abbrev cX12_occurs : ByteArray := prog_14_method_52_code
def yX12_occurs : MethodName := ⟨RX12, "occurs", "(II)Z"⟩
abbrev cX12_unifyNow : ByteArray := prog_14_method_53_code
def yX12_unifyNow : MethodName := ⟨RX12, "unifyNow", "(II)I"⟩
abbrev cX12_unify : ByteArray := prog_14_method_54_code
def yX12_unify : MethodName := ⟨RX12, "unify", "(II)I"⟩
abbrev cX12_boundCount : ByteArray := prog_14_method_55_code
def yX12_boundCount : MethodName := ⟨RX12, "boundCount", "()I"⟩
abbrev cX12_unbindAll : ByteArray := prog_14_method_56_code
def yX12_unbindAll : MethodName := ⟨RX12, "unbindAll", "()I"⟩
abbrev cX12_push : ByteArray := prog_14_method_57_code
def yX12_push : MethodName := ⟨RX12, "push", "()I"⟩
abbrev cX12_pop : ByteArray := prog_14_method_58_code
def yX12_pop : MethodName := ⟨RX12, "pop", "()I"⟩
abbrev cX12_addRow : ByteArray := prog_14_method_59_code
def yX12_addRow : MethodName := ⟨RX12, "addRow", "(I)I"⟩
abbrev cX12_clearRows : ByteArray := prog_14_method_60_code
def yX12_clearRows : MethodName := ⟨RX12, "clearRows", "()I"⟩
abbrev cX12_areSame : ByteArray := prog_14_method_61_code
def yX12_areSame : MethodName := ⟨RX12, "areSame", "(II)Z"⟩
abbrev cX12_matches : ByteArray := prog_14_method_62_code
def yX12_matches : MethodName := ⟨RX12, "matches", "(I)Z"⟩
abbrev cX12_matchNow : ByteArray := prog_14_method_63_code
def yX12_matchNow : MethodName := ⟨RX12, "matchNow", "()I"⟩
abbrev cX12_layTerm : ByteArray := prog_14_method_64_code
def yX12_layTerm : MethodName := ⟨RX12, "layTerm", "(I)V"⟩
abbrev cX12_firstMatch : ByteArray := prog_14_method_65_code
def yX12_firstMatch : MethodName := ⟨RX12, "firstMatch", "(I)I"⟩
abbrev cX12_subject : ByteArray := prog_14_method_66_code
def yX12_subject : MethodName := ⟨RX12, "subject", "()I"⟩
abbrev cX12_countMatched : ByteArray := prog_14_method_67_code
def yX12_countMatched : MethodName := ⟨RX12, "countMatched", "(II)I"⟩
abbrev cX12_uncovered : ByteArray := prog_14_method_68_code
def yX12_uncovered : MethodName := ⟨RX12, "uncovered", "(I)I"⟩
abbrev cX12_firstUncovered : ByteArray := prog_14_method_69_code
def yX12_firstUncovered : MethodName := ⟨RX12, "firstUncovered", "(I)I"⟩
abbrev cX12_coveredBy : ByteArray := prog_14_method_70_code
def yX12_coveredBy : MethodName := ⟨RX12, "coveredBy", "(II)I"⟩
def RJ9 : String := "java/lang/Math"
def TJ9 : u_T := fun k => match k with
  | _ => ("", "", "", false)
def tyJ9 : Nat → FieldType := fun k => match k with
  | _ => .int
abbrev wsJ90 : List Cond := u_ws RJ9 TJ9 0
theorem nmJ9 : ∀ a, a < 0 → ∀ b, b < 0 → a ≠ b → (TJ9 a).2.1 ≠ (TJ9 b).2.1 := by decide +kernel
theorem tyJ9_ok : ∀ k, k < 0 → parseFieldDescriptor (TJ9 k).2.2.1 = some (tyJ9 k) := by decide +kernel
abbrev cJ9_max_7cf53 : ByteArray := prog_15_method_65_code
def yJ9_max_7cf53 : MethodName := ⟨RJ9, "max", "(II)I"⟩
abbrev cJ9_min_7cf53 : ByteArray := prog_15_method_69_code
def yJ9_min_7cf53 : MethodName := ⟨RJ9, "min", "(II)I"⟩
def RJ10 : String := "java/lang/System"
def TJ10 : u_T := fun k => match k with
  | _ => ("", "", "", false)
def tyJ10 : Nat → FieldType := fun k => match k with
  | _ => .int
abbrev wsJ100 : List Cond := u_ws RJ10 TJ10 0
theorem nmJ10 : ∀ a, a < 0 → ∀ b, b < 0 → a ≠ b → (TJ10 a).2.1 ≠ (TJ10 b).2.1 := by decide +kernel
theorem tyJ10_ok : ∀ k, k < 0 → parseFieldDescriptor (TJ10 k).2.2.1 = some (tyJ10 k) := by decide +kernel
def RJ7 : String := "java/util/Arrays"
def TJ7 : u_T := fun k => match k with
  | _ => ("", "", "", false)
def tyJ7 : Nat → FieldType := fun k => match k with
  | _ => .int
abbrev wsJ70 : List Cond := u_ws RJ7 TJ7 0
theorem nmJ7 : ∀ a, a < 0 → ∀ b, b < 0 → a ≠ b → (TJ7 a).2.1 ≠ (TJ7 b).2.1 := by decide +kernel
theorem tyJ7_ok : ∀ k, k < 0 → parseFieldDescriptor (TJ7 k).2.2.1 = some (tyJ7 k) := by decide +kernel
abbrev cJ7_fill_d0a16 : ByteArray := prog_17_method_101_code
def yJ7_fill_d0a16 : MethodName := ⟨RJ7, "fill", "([JJ)V"⟩
abbrev cJ7_fill_53178 : ByteArray := prog_17_method_103_code
def yJ7_fill_53178 : MethodName := ⟨RJ7, "fill", "([II)V"⟩
def RL : String := "DatatypeTermsLaw"
abbrev cL_law : ByteArray := code
def yL_law : MethodName := ⟨RL, "law", "([I)Z"⟩
abbrev vwCl : List vw_C := [(RX0, TX0, 6), (RX1, TX1, 3), (RX2, TX2, 10), (RX3, TX3, 2), (RX4, TX4, 5), (RX5, TX5, 8), (RX6, TX6, 7), (RX7, TX7, 8), (RX8, TX8, 4), (RX10, TX10, 6), (RX11, TX11, 9), (RX12, TX12, 42)]
end
section
/-! THE ABSTRACT MACHINE: ints as Int, references as handles, memory by handle and place. Written by gen_am.py. -/
abbrev AV : Type := Int ⊕ (Int ⊕ Nat)
abbrev vI (x : Int) : AV := Sum.inl x
abbrev vL (x : Int) : AV := Sum.inr (Sum.inl x)
abbrev vR (h : Nat) : AV := Sum.inr (Sum.inr h)
def cv (ad : Nat → Nat) (v : AV) : Value := match v with
  | .inl x => .int (Int32.ofInt x)
  | .inr (.inl x) => .long (Int64.ofInt x)
  | .inr (.inr h) => .ref (ad h)
def cat1 (v : AV) : Bool := match v with
  | .inr (.inl _) => false
  | _ => true
def wt (st : List AV) : Nat := (st.map fun v => if cat1 v then 1 else 2).sum
abbrev Mem : Type := Nat → Int → Int
def up (M : Mem) (h : Nat) (i v : Int) : Mem := fun h' => if h' = h then (fun i' => if i' = i then v else M h i') else M h'
def cpy (M : Mem) (h0 h1 : Nat) (sp dp n : Int) : Mem := fun h' => if h' = h1 then (fun i => if dp ≤ i ∧ i < dp + n then M h0 (sp + (i - dp)) else M h1 i) else M h'
abbrev Ls : Type := List (Option AV)
abbrev Po : Type := Option AV → Mem → Prop
/-- a method: number of its class, name, code, locals, answer, room in frames and in locals' words; the script's length and values (the law's alone) -/
abbrev MR : Type := Nat × MethodName × ByteArray × Nat × Option FieldType × Nat × Nat × Nat × (Nat → Int)
abbrev mrC (mr : MR) : Nat := mr.1
abbrev mrY (mr : MR) : MethodName := mr.2.1
abbrev mrB (mr : MR) : ByteArray := mr.2.2.1
abbrev mrN (mr : MR) : Nat := mr.2.2.2.1
abbrev mrT (mr : MR) : Option FieldType := mr.2.2.2.2.1
abbrev mrF (mr : MR) : Nat := mr.2.2.2.2.2.1
abbrev mrL (mr : MR) : Nat := mr.2.2.2.2.2.2.1
abbrev mrS (mr : MR) : Nat := mr.2.2.2.2.2.2.2.1
abbrev mrX (mr : MR) : Nat → Int := mr.2.2.2.2.2.2.2.2
abbrev AP : Type := MR → Nat → Ls → List AV → Mem → Po → Prop
abbrev InR (x : Int) : Prop := -2147483648 ≤ x ∧ x ≤ 2147483647
abbrev InR8 (x : Int) : Prop := -9223372036854775808 ≤ x ∧ x ≤ 9223372036854775807
/-- locals behind a store: a long whose second half is overwritten is lost -/
def setL : Ls → Nat → Option AV → Ls
  | [], _, _ => []
  | _ :: t, 0, v => v :: t
  | a :: t, 1, v => (match a with | some (.inr (.inl _)) => none | _ => a) :: setL t 0 v
  | a :: t, i + 2, v => a :: setL t (i + 1) v
def setL2 (ls : Ls) (i : Nat) (v : Option AV) : Ls := setL (setL ls (i + 1) none) i v
/-- a knows no more of the locals than b -/
def lsub : Ls → Ls → Prop
  | [], _ => True
  | none :: a, _ :: b => lsub a b
  | none :: a, [] => lsub a []
  | some v :: a, w :: b => w = some v ∧ lsub a b
  | some _ :: _, [] => False
/-- locals at a method's entry -/
def entS (As : List AV) : Ls := As.flatMap fun v => if cat1 v then [some v] else [some v, none]
def entL (As : List AV) (n : Nat) : Ls := entS As ++ List.replicate (n - (entS As).length) none
abbrev classes : List vw_C := [(RX0, TX0, 6), (RX1, TX1, 3), (RX2, TX2, 10), (RX3, TX3, 2), (RX4, TX4, 5), (RX5, TX5, 8), (RX6, TX6, 7), (RX7, TX7, 8), (RX8, TX8, 4), (RX10, TX10, 6), (RX11, TX11, 9), (RX12, TX12, 42)]
def cn : Nat → String
  | 0 => RX0
  | 1 => RX1
  | 2 => RX2
  | 3 => RX3
  | 4 => RX4
  | 5 => RX5
  | 6 => RX6
  | 7 => RX7
  | 8 => RX8
  | 9 => RX10
  | 10 => RX11
  | 11 => RX12
  | 13 => RL
  | 14 => RJ7
  | _ => RJ9
def nH : Nat := 85
def kdT : List (Nat × Nat × List (Option Nat)) := [
  (3, 10, [some 1, some 5, some 8, some 12, some 17, some 22, some 32, some 41, some 43]),
  (3, 4, [none, none, some 2, some 3, some 4]),
  (0, 12, []),
  (0, 12, []),
  (0, 36, []),
  (3, 1, [some 1, some 6, some 7]),
  (0, 4, []),
  (0, 4, []),
  (3, 8, [some 1, some 9, some 10, some 11]),
  (0, 52, []),
  (0, 156, []),
  (0, 624, []),
  (3, 0, [some 1, none, some 13, some 14, some 15, some 16]),
  (0, 100, []),
  (0, 100, []),
  (0, 300, []),
  (0, 100, []),
  (3, 7, [some 1, some 8, some 12, some 18, some 19, some 20, none, some 21]),
  (0, 12, []),
  (0, 12, []),
  (0, 12, []),
  (0, 3, []),
  (3, 5, [some 12, some 8, some 28, some 23, some 24, some 25, some 26, some 27]),
  (0, 100, []),
  (0, 100, []),
  (0, 100, []),
  (0, 3, []),
  (0, 3, []),
  (3, 9, [some 12, some 29, none, none, some 30, some 31]),
  (0, 100, []),
  (0, 100, []),
  (0, 100, []),
  (3, 6, [some 12, some 37, some 33, some 34, some 35, none, some 36]),
  (0, 100, []),
  (0, 300, []),
  (0, 300, []),
  (2, 157, []),
  (3, 9, [some 12, some 38, none, none, some 39, some 40]),
  (0, 100, []),
  (0, 100, []),
  (0, 100, []),
  (3, 3, [none, some 42]),
  (0, 800, []),
  (3, 2, [some 12, none, some 44, none, some 45, some 46, some 47, some 48, none, some 49]),
  (0, 8, []),
  (0, 100, []),
  (0, 100, []),
  (0, 60, []),
  (0, 60, []),
  (0, 3, []),
  (3, 11, [none, none, some 51, some 52, some 53, none, some 54, some 55, some 56, some 57, some 58, none, some 59, none, some 60, some 61, some 62, some 63, some 64, some 65, some 66, none, some 67, some 68, some 69, some 70, some 71, some 72, some 73, some 74, some 75, some 76, some 77, some 78, none, some 79, some 80, none, some 81, some 82, some 83, some 84]),
  (0, 12, []),
  (0, 12, []),
  (0, 36, []),
  (0, 100, []),
  (0, 100, []),
  (0, 300, []),
  (0, 100, []),
  (0, 800, []),
  (0, 8, []),
  (0, 4, []),
  (0, 4, []),
  (1, 16, []),
  (0, 52, []),
  (0, 624, []),
  (0, 64, []),
  (0, 64, []),
  (0, 64, []),
  (0, 64, []),
  (0, 64, []),
  (0, 3, []),
  (0, 3, []),
  (0, 64, []),
  (0, 64, []),
  (0, 192, []),
  (0, 100, []),
  (0, 100, []),
  (0, 31000, []),
  (0, 31000, []),
  (1, 10000, []),
  (0, 100, []),
  (0, 400, []),
  (1, 100, []),
  (0, 100, []),
  (0, 256, [])]
def kd (h : Nat) : Nat × Nat × List (Option Nat) := kdT.getD h (9, 0, [])
def lw_good : List Cond := lw_tbl.filter goodWord
def FldG (c ix ci k : Nat) : Prop := ∃ (C : String) (T : u_T) (N : Nat), classes[ci]? = some (C, T, N) ∧ k < N ∧ Cond.fieldLink (cn c) ix (T k).1 (T k).2.1 (T k).2.2.1 ∈ lw_good ∧ ∀ w ∈ u_ws C T N, w ∈ lw_good
def FldP (c ix ci k : Nat) : Prop := ∃ (C : String) (T : u_T) (N : Nat) (ty : Nat → FieldType), classes[ci]? = some (C, T, N) ∧ k < N ∧ Cond.fieldLink (cn c) ix (T k).1 (T k).2.1 (T k).2.2.1 ∈ lw_good ∧ (∀ w ∈ u_ws C T N, w ∈ lw_good) ∧ (∀ k, k < N → parseFieldDescriptor (T k).2.2.1 = some (ty k)) ∧ (∀ a, a < N → ∀ b, b < N → a ≠ b → (T a).2.1 ≠ (T b).2.1) ∧ (T k).2.2.2 = false ∧ ty k = .int
/-- a method that may be called: its name, code and class as the tables have them -/
def MOK (cm : MR) (n : Nat) : Prop := plainName (mrY cm).cls = true ∧ cn (mrC cm) = (mrY cm).cls ∧ Cond.code (mrY cm) (mrB cm) (mrN cm) (mrT cm) ∈ lw_good ∧ Cond.initialized (mrY cm).cls ∈ lw_good ∧ (mrY cm).cls ≠ "java/lang/invoke/MethodHandle" ∧ (mrY cm).cls ≠ "java/lang/invoke/VarHandle" ∧ (parseMethodDescriptor (mrY cm).desc).map (fun d => d.parameters.length) = some n ∧ mrC cm ≠ 13
def CallV (c ix : Nat) (cm : MR) (n : Nat) : Prop := MOK cm n ∧ mrC cm < 12 ∧ Cond.methodLink (cn c) ix (mrY cm) ∈ lw_good ∧ Cond.instanceMethod (mrY cm) ∈ lw_good ∧ Cond.selects (mrY cm).cls (mrY cm) (mrY cm) ∈ lw_good
def CallS (c ix : Nat) (cm : MR) (n : Nat) : Prop := MOK cm n ∧ Cond.methodLink (cn c) ix (mrY cm) ∈ lw_good ∧ Cond.static (mrY cm) ∈ lw_good
def NWs : List (String × Nat × MethodName) := [(RX1, 68, yX11_limitedProduct), (RX1, 65, yX11_limitedSum), (RX8, 66, yX11_limitedProduct), (RX8, 49, yX11_limitedSum), (RX5, 78, yX11_limitedSum)]
def nHost : String := "DatatypeTerms"
def CallN (c ix : Nat) (cm : MR) (n : Nat) : Prop := MOK cm n ∧ (cn c, ix, mrY cm) ∈ NWs ∧ Cond.static (mrY cm) ∈ lw_good
def iX9 (ix : Nat) : MethodName := if ix = 76 then ⟨RX9, "isBuiltBy", "(II)Z"⟩ else ⟨RX9, "split", "(II[I)V"⟩
def FWs : List (String × MethodName × MethodName) := [(RX5, iX9 76, yX5_isBuiltBy), (RX8, iX9 76, yX8_isBuiltBy), (RX5, iX9 81, yX5_split), (RX8, iX9 81, yX8_split)]
def CallF (c ix : Nat) (cm : MR) (n : Nat) : Prop := MOK cm n ∧ mrC cm < 12 ∧ ((mrY cm).cls, iX9 ix, mrY cm) ∈ FWs ∧ Cond.methodLink (cn c) ix (iX9 ix) ∈ lw_good ∧ Cond.selects (mrY cm).cls (iX9 ix) (mrY cm) ∈ lw_good ∧ Cond.instanceMethod (mrY cm) ∈ lw_good ∧ (parseMethodDescriptor (iX9 ix).desc).map (fun d => d.parameters.length) = some n
def R_iconst (P : AP) : Prop := ∀ (mr : MR) (pc : Nat) (ls : Ls) (st : List AV) (M : Mem) (Q : Po) (n : Int), decode (mrB mr) pc = .ok (.iconst n, 1) → P mr (pc + 1) ls (vI n :: st) M Q → P mr pc ls st M Q
def R_bipush (P : AP) : Prop := ∀ (mr : MR) (pc : Nat) (ls : Ls) (st : List AV) (M : Mem) (Q : Po) (n : Int), decode (mrB mr) pc = .ok (.bipush n, 2) → (Int8.ofInt n).toInt32 = Int32.ofInt n → P mr (pc + 2) ls (vI n :: st) M Q → P mr pc ls st M Q
def R_sipush (P : AP) : Prop := ∀ (mr : MR) (pc : Nat) (ls : Ls) (st : List AV) (M : Mem) (Q : Po) (n : Int), decode (mrB mr) pc = .ok (.sipush n, 3) → (Int16.ofInt n).toInt32 = Int32.ofInt n → P mr (pc + 3) ls (vI n :: st) M Q → P mr pc ls st M Q
def R_ldc (P : AP) : Prop := ∀ (mr : MR) (pc : Nat) (ls : Ls) (st : List AV) (M : Mem) (Q : Po) (ix : Nat) (n : Int), decode (mrB mr) pc = .ok (.ldc ix, 2) → Cond.constant (cn (mrC mr)) ix (Int32.ofInt n) ∈ lw_good → P mr (pc + 2) ls (vI n :: st) M Q → P mr pc ls st M Q
def R_ldc2 (P : AP) : Prop := ∀ (mr : MR) (pc : Nat) (ls : Ls) (st : List AV) (M : Mem) (Q : Po) (ix : Nat) (n : Int), decode (mrB mr) pc = .ok (.ldc2_w ix, 3) → Cond.constantLong (cn (mrC mr)) ix (Int64.ofInt n) ∈ lw_good → P mr (pc + 3) ls (vL n :: st) M Q → P mr pc ls st M Q
def R_lconst (P : AP) : Prop := ∀ (mr : MR) (pc : Nat) (ls : Ls) (st : List AV) (M : Mem) (Q : Po) (k : Fin 2) (n : Int), decode (mrB mr) pc = .ok (.lconst k, 1) → Int64.ofNat (k : Nat) = Int64.ofInt n → P mr (pc + 1) ls (vL n :: st) M Q → P mr pc ls st M Q
def R_iload_n (P : AP) : Prop := ∀ (mr : MR) (pc : Nat) (ls : Ls) (st : List AV) (M : Mem) (Q : Po) (k : Fin 4) (x : Int), decode (mrB mr) pc = .ok (.iload_n k, 1) → ls[(k : Nat)]? = some (some (vI x)) → P mr (pc + 1) ls (vI x :: st) M Q → P mr pc ls st M Q
def R_iload (P : AP) : Prop := ∀ (mr : MR) (pc : Nat) (ls : Ls) (st : List AV) (M : Mem) (Q : Po) (k : Nat) (x : Int), decode (mrB mr) pc = .ok (.iload k, 2) → ls[k]? = some (some (vI x)) → P mr (pc + 2) ls (vI x :: st) M Q → P mr pc ls st M Q
def R_lload_n (P : AP) : Prop := ∀ (mr : MR) (pc : Nat) (ls : Ls) (st : List AV) (M : Mem) (Q : Po) (k : Fin 4) (x : Int), decode (mrB mr) pc = .ok (.lload_n k, 1) → ls[(k : Nat)]? = some (some (vL x)) → P mr (pc + 1) ls (vL x :: st) M Q → P mr pc ls st M Q
def R_lload (P : AP) : Prop := ∀ (mr : MR) (pc : Nat) (ls : Ls) (st : List AV) (M : Mem) (Q : Po) (k : Nat) (x : Int), decode (mrB mr) pc = .ok (.lload k, 2) → ls[k]? = some (some (vL x)) → P mr (pc + 2) ls (vL x :: st) M Q → P mr pc ls st M Q
def R_aload_n (P : AP) : Prop := ∀ (mr : MR) (pc : Nat) (ls : Ls) (st : List AV) (M : Mem) (Q : Po) (k : Fin 4) (x : Nat), decode (mrB mr) pc = .ok (.aload_n k, 1) → ls[(k : Nat)]? = some (some (vR x)) → P mr (pc + 1) ls (vR x :: st) M Q → P mr pc ls st M Q
def R_aload (P : AP) : Prop := ∀ (mr : MR) (pc : Nat) (ls : Ls) (st : List AV) (M : Mem) (Q : Po) (k : Nat) (x : Nat), decode (mrB mr) pc = .ok (.aload k, 2) → ls[k]? = some (some (vR x)) → P mr (pc + 2) ls (vR x :: st) M Q → P mr pc ls st M Q
def R_istore_n (P : AP) : Prop := ∀ (mr : MR) (pc : Nat) (ls : Ls) (st : List AV) (M : Mem) (Q : Po) (k : Fin 4) (ls2 : Ls) (x : Int), decode (mrB mr) pc = .ok (.istore_n k, 1) → (k : Nat) < mrN mr → setL ls k (some (vI x)) = ls2 → P mr (pc + 1) ls2 st M Q → P mr pc ls (vI x :: st) M Q
def R_istore (P : AP) : Prop := ∀ (mr : MR) (pc : Nat) (ls : Ls) (st : List AV) (M : Mem) (Q : Po) (k : Nat) (ls2 : Ls) (x : Int), decode (mrB mr) pc = .ok (.istore k, 2) → k < mrN mr → setL ls k (some (vI x)) = ls2 → P mr (pc + 2) ls2 st M Q → P mr pc ls (vI x :: st) M Q
def R_lstore_n (P : AP) : Prop := ∀ (mr : MR) (pc : Nat) (ls : Ls) (st : List AV) (M : Mem) (Q : Po) (k : Fin 4) (ls2 : Ls) (x : Int), decode (mrB mr) pc = .ok (.lstore_n k, 1) → (k : Nat) + 1 < mrN mr → setL2 ls k (some (vL x)) = ls2 → P mr (pc + 1) ls2 st M Q → P mr pc ls (vL x :: st) M Q
def R_lstore (P : AP) : Prop := ∀ (mr : MR) (pc : Nat) (ls : Ls) (st : List AV) (M : Mem) (Q : Po) (k : Nat) (ls2 : Ls) (x : Int), decode (mrB mr) pc = .ok (.lstore k, 2) → k + 1 < mrN mr → setL2 ls k (some (vL x)) = ls2 → P mr (pc + 2) ls2 st M Q → P mr pc ls (vL x :: st) M Q
def R_astore_n (P : AP) : Prop := ∀ (mr : MR) (pc : Nat) (ls : Ls) (st : List AV) (M : Mem) (Q : Po) (k : Fin 4) (ls2 : Ls) (x : Nat), decode (mrB mr) pc = .ok (.astore_n k, 1) → (k : Nat) < mrN mr → setL ls k (some (vR x)) = ls2 → P mr (pc + 1) ls2 st M Q → P mr pc ls (vR x :: st) M Q
def R_astore (P : AP) : Prop := ∀ (mr : MR) (pc : Nat) (ls : Ls) (st : List AV) (M : Mem) (Q : Po) (k : Nat) (ls2 : Ls) (x : Nat), decode (mrB mr) pc = .ok (.astore k, 2) → k < mrN mr → setL ls k (some (vR x)) = ls2 → P mr (pc + 2) ls2 st M Q → P mr pc ls (vR x :: st) M Q
def R_iinc (P : AP) : Prop := ∀ (mr : MR) (pc : Nat) (ls : Ls) (st : List AV) (M : Mem) (Q : Po) (k : Nat) (n x : Int) (ls2 : Ls), decode (mrB mr) pc = .ok (.iinc k n, 3) → ls[k]? = some (some (vI x)) → k < mrN mr → setL ls k (some (vI (x + n))) = ls2 → P mr (pc + 3) ls2 st M Q → P mr pc ls st M Q
def R_iadd (P : AP) : Prop := ∀ (mr : MR) (pc : Nat) (ls : Ls) (st : List AV) (M : Mem) (Q : Po) (x y : Int), decode (mrB mr) pc = .ok (.iadd, 1) → P mr (pc + 1) ls (vI (x + y) :: st) M Q → P mr pc ls (vI y :: vI x :: st) M Q
def R_isub (P : AP) : Prop := ∀ (mr : MR) (pc : Nat) (ls : Ls) (st : List AV) (M : Mem) (Q : Po) (x y : Int), decode (mrB mr) pc = .ok (.isub, 1) → P mr (pc + 1) ls (vI (x - y) :: st) M Q → P mr pc ls (vI y :: vI x :: st) M Q
def R_imul (P : AP) : Prop := ∀ (mr : MR) (pc : Nat) (ls : Ls) (st : List AV) (M : Mem) (Q : Po) (x y : Int), decode (mrB mr) pc = .ok (.imul, 1) → P mr (pc + 1) ls (vI (x * y) :: st) M Q → P mr pc ls (vI y :: vI x :: st) M Q
def R_idiv (P : AP) : Prop := ∀ (mr : MR) (pc : Nat) (ls : Ls) (st : List AV) (M : Mem) (Q : Po) (x y : Int), decode (mrB mr) pc = .ok (.idiv, 1) → 0 ≤ x ∧ x ≤ 2147483647 → 0 < y ∧ y ≤ 2147483647 → P mr (pc + 1) ls (vI (x / y) :: st) M Q → P mr pc ls (vI y :: vI x :: st) M Q
def R_irem (P : AP) : Prop := ∀ (mr : MR) (pc : Nat) (ls : Ls) (st : List AV) (M : Mem) (Q : Po) (x y : Int), decode (mrB mr) pc = .ok (.irem, 1) → 0 ≤ x ∧ x ≤ 2147483647 → 0 < y ∧ y ≤ 2147483647 → P mr (pc + 1) ls (vI (x % y) :: st) M Q → P mr pc ls (vI y :: vI x :: st) M Q
def R_iand (P : AP) : Prop := ∀ (mr : MR) (pc : Nat) (ls : Ls) (st : List AV) (M : Mem) (Q : Po) (x y : Int), decode (mrB mr) pc = .ok (.iand, 1) → P mr (pc + 1) ls (vI (Int32.ofInt x &&& Int32.ofInt y).toInt :: st) M Q → P mr pc ls (vI y :: vI x :: st) M Q
def R_i2l (P : AP) : Prop := ∀ (mr : MR) (pc : Nat) (ls : Ls) (st : List AV) (M : Mem) (Q : Po) (x : Int), decode (mrB mr) pc = .ok (.i2l, 1) → InR x → P mr (pc + 1) ls (vL x :: st) M Q → P mr pc ls (vI x :: st) M Q
def R_l2i (P : AP) : Prop := ∀ (mr : MR) (pc : Nat) (ls : Ls) (st : List AV) (M : Mem) (Q : Po) (x : Int), decode (mrB mr) pc = .ok (.l2i, 1) → P mr (pc + 1) ls (vI x :: st) M Q → P mr pc ls (vL x :: st) M Q
def R_ladd (P : AP) : Prop := ∀ (mr : MR) (pc : Nat) (ls : Ls) (st : List AV) (M : Mem) (Q : Po) (x y : Int), decode (mrB mr) pc = .ok (.ladd, 1) → P mr (pc + 1) ls (vL (x + y) :: st) M Q → P mr pc ls (vL y :: vL x :: st) M Q
def R_lmul (P : AP) : Prop := ∀ (mr : MR) (pc : Nat) (ls : Ls) (st : List AV) (M : Mem) (Q : Po) (x y : Int), decode (mrB mr) pc = .ok (.lmul, 1) → P mr (pc + 1) ls (vL (x * y) :: st) M Q → P mr pc ls (vL y :: vL x :: st) M Q
def R_land (P : AP) : Prop := ∀ (mr : MR) (pc : Nat) (ls : Ls) (st : List AV) (M : Mem) (Q : Po) (x y : Int), decode (mrB mr) pc = .ok (.land, 1) → P mr (pc + 1) ls (vL (Int64.ofInt x &&& Int64.ofInt y).toInt :: st) M Q → P mr pc ls (vL y :: vL x :: st) M Q
def R_lor (P : AP) : Prop := ∀ (mr : MR) (pc : Nat) (ls : Ls) (st : List AV) (M : Mem) (Q : Po) (x y : Int), decode (mrB mr) pc = .ok (.lor, 1) → P mr (pc + 1) ls (vL (Int64.ofInt x ||| Int64.ofInt y).toInt :: st) M Q → P mr pc ls (vL y :: vL x :: st) M Q
def R_lshl (P : AP) : Prop := ∀ (mr : MR) (pc : Nat) (ls : Ls) (st : List AV) (M : Mem) (Q : Po) (x y : Int), decode (mrB mr) pc = .ok (.lshl, 1) → P mr (pc + 1) ls (vL (Int64.ofInt x <<< ((Int32.ofInt y).toInt64 &&& 63)).toInt :: st) M Q → P mr pc ls (vI y :: vL x :: st) M Q
def R_lcmp (P : AP) : Prop := ∀ (mr : MR) (pc : Nat) (ls : Ls) (st : List AV) (M : Mem) (Q : Po) (x y : Int), decode (mrB mr) pc = .ok (.lcmp, 1) → InR8 x → InR8 y → P mr (pc + 1) ls (vI (if x > y then 1 else if x = y then 0 else -1) :: st) M Q → P mr pc ls (vL y :: vL x :: st) M Q
def R_dup (P : AP) : Prop := ∀ (mr : MR) (pc : Nat) (ls : Ls) (st : List AV) (M : Mem) (Q : Po) (v : AV), decode (mrB mr) pc = .ok (.dup, 1) → cat1 v = true → P mr (pc + 1) ls (v :: v :: st) M Q → P mr pc ls (v :: st) M Q
def R_dup2 (P : AP) : Prop := ∀ (mr : MR) (pc : Nat) (ls : Ls) (st : List AV) (M : Mem) (Q : Po) (v w : AV), decode (mrB mr) pc = .ok (.dup2, 1) → cat1 v = true → cat1 w = true → P mr (pc + 1) ls (v :: w :: v :: w :: st) M Q → P mr pc ls (v :: w :: st) M Q
def R_getR (P : AP) : Prop := ∀ (mr : MR) (pc : Nat) (ls : Ls) (st : List AV) (M : Mem) (Q : Po) (h ix ci k h2 : Nat) (fs : List (Option Nat)), decode (mrB mr) pc = .ok (.getfield ix, 3) → FldG (mrC mr) ix ci k → kd h = (3, ci, fs) → h < nH → fs[k]? = some (some h2) → P mr (pc + 3) ls (vR h2 :: st) M Q → P mr pc ls (vR h :: st) M Q
def R_getI (P : AP) : Prop := ∀ (mr : MR) (pc : Nat) (ls : Ls) (st : List AV) (M : Mem) (Q : Po) (h ix ci k : Nat) (fs : List (Option Nat)), decode (mrB mr) pc = .ok (.getfield ix, 3) → FldG (mrC mr) ix ci k → kd h = (3, ci, fs) → h < nH → fs[k]? = some none → P mr (pc + 3) ls (vI (M h k) :: st) M Q → P mr pc ls (vR h :: st) M Q
def R_put (P : AP) : Prop := ∀ (mr : MR) (pc : Nat) (ls : Ls) (st : List AV) (M : Mem) (Q : Po) (h ix ci k : Nat) (fs : List (Option Nat)) (x : Int), decode (mrB mr) pc = .ok (.putfield ix, 3) → FldP (mrC mr) ix ci k → kd h = (3, ci, fs) → h < nH → fs[k]? = some none → P mr (pc + 3) ls st (up M h k x) Q → P mr pc ls (vI x :: vR h :: st) M Q
def R_iald (P : AP) : Prop := ∀ (mr : MR) (pc : Nat) (ls : Ls) (st : List AV) (M : Mem) (Q : Po) (h n : Nat) (i : Int), decode (mrB mr) pc = .ok (.iaload, 1) → kd h = (0, n, []) → h < nH → 0 ≤ i ∧ i < n → P mr (pc + 1) ls (vI (M h i) :: st) M Q → P mr pc ls (vI i :: vR h :: st) M Q
def R_zald (P : AP) : Prop := ∀ (mr : MR) (pc : Nat) (ls : Ls) (st : List AV) (M : Mem) (Q : Po) (h n : Nat) (i : Int), decode (mrB mr) pc = .ok (.baload, 1) → kd h = (1, n, []) → h < nH → 0 ≤ i ∧ i < n → P mr (pc + 1) ls (vI (M h i) :: st) M Q → P mr pc ls (vI i :: vR h :: st) M Q
def R_lald (P : AP) : Prop := ∀ (mr : MR) (pc : Nat) (ls : Ls) (st : List AV) (M : Mem) (Q : Po) (h n : Nat) (i : Int), decode (mrB mr) pc = .ok (.laload, 1) → kd h = (2, n, []) → h < nH → 0 ≤ i ∧ i < n → P mr (pc + 1) ls (vL (M h i) :: st) M Q → P mr pc ls (vI i :: vR h :: st) M Q
def R_iast (P : AP) : Prop := ∀ (mr : MR) (pc : Nat) (ls : Ls) (st : List AV) (M : Mem) (Q : Po) (h n : Nat) (i x : Int), decode (mrB mr) pc = .ok (.iastore, 1) → kd h = (0, n, []) → h < nH → 0 ≤ i ∧ i < n → P mr (pc + 1) ls st (up M h i x) Q → P mr pc ls (vI x :: vI i :: vR h :: st) M Q
def R_zast (P : AP) : Prop := ∀ (mr : MR) (pc : Nat) (ls : Ls) (st : List AV) (M : Mem) (Q : Po) (h n : Nat) (i x : Int), decode (mrB mr) pc = .ok (.bastore, 1) → kd h = (1, n, []) → h < nH → 0 ≤ i ∧ i < n → x = 0 ∨ x = 1 → P mr (pc + 1) ls st (up M h i x) Q → P mr pc ls (vI x :: vI i :: vR h :: st) M Q
def R_last (P : AP) : Prop := ∀ (mr : MR) (pc : Nat) (ls : Ls) (st : List AV) (M : Mem) (Q : Po) (h n : Nat) (i x : Int), decode (mrB mr) pc = .ok (.lastore, 1) → kd h = (2, n, []) → h < nH → 0 ≤ i ∧ i < n → P mr (pc + 1) ls st (up M h i x) Q → P mr pc ls (vL x :: vI i :: vR h :: st) M Q
def R_alen (P : AP) : Prop := ∀ (mr : MR) (pc : Nat) (ls : Ls) (st : List AV) (M : Mem) (Q : Po) (h t n : Nat), decode (mrB mr) pc = .ok (.arraylength, 1) → kd h = (t, n, []) → t < 3 → h < nH → P mr (pc + 1) ls (vI n :: st) M Q → P mr pc ls (vR h :: st) M Q
def R_sald (P : AP) : Prop := ∀ (mr : MR) (pc : Nat) (ls : Ls) (st : List AV) (M : Mem) (Q : Po) (i : Int), decode (mrB mr) pc = .ok (.iaload, 1) → mrC mr = 13 → 0 ≤ i ∧ i < mrS mr → P mr (pc + 1) ls (vI (mrX mr i.toNat) :: st) M Q → P mr pc ls (vI i :: vR nH :: st) M Q
def R_slen (P : AP) : Prop := ∀ (mr : MR) (pc : Nat) (ls : Ls) (st : List AV) (M : Mem) (Q : Po) , decode (mrB mr) pc = .ok (.arraylength, 1) → mrC mr = 13 → P mr (pc + 1) ls (vI (mrS mr) :: st) M Q → P mr pc ls (vR nH :: st) M Q
def R_if_eq (P : AP) : Prop := ∀ (mr : MR) (pc : Nat) (ls : Ls) (st : List AV) (M : Mem) (Q : Po) (x off : Int) (tgt : Nat), decode (mrB mr) pc = .ok (.ifCond .eq off, 3) → (pc : Int) + off = (tgt : Int) → InR x → (x = 0 → P mr tgt ls st M Q) → (¬ (x = 0) → P mr (pc + 3) ls st M Q) → P mr pc ls (vI x :: st) M Q
def R_icmp_eq (P : AP) : Prop := ∀ (mr : MR) (pc : Nat) (ls : Ls) (st : List AV) (M : Mem) (Q : Po) (x y off : Int) (tgt : Nat), decode (mrB mr) pc = .ok (.if_icmp .eq off, 3) → (pc : Int) + off = (tgt : Int) → InR x → InR y → (x = y → P mr tgt ls st M Q) → (¬ (x = y) → P mr (pc + 3) ls st M Q) → P mr pc ls (vI y :: vI x :: st) M Q
def R_if_ne (P : AP) : Prop := ∀ (mr : MR) (pc : Nat) (ls : Ls) (st : List AV) (M : Mem) (Q : Po) (x off : Int) (tgt : Nat), decode (mrB mr) pc = .ok (.ifCond .ne off, 3) → (pc : Int) + off = (tgt : Int) → InR x → (x ≠ 0 → P mr tgt ls st M Q) → (¬ (x ≠ 0) → P mr (pc + 3) ls st M Q) → P mr pc ls (vI x :: st) M Q
def R_icmp_ne (P : AP) : Prop := ∀ (mr : MR) (pc : Nat) (ls : Ls) (st : List AV) (M : Mem) (Q : Po) (x y off : Int) (tgt : Nat), decode (mrB mr) pc = .ok (.if_icmp .ne off, 3) → (pc : Int) + off = (tgt : Int) → InR x → InR y → (x ≠ y → P mr tgt ls st M Q) → (¬ (x ≠ y) → P mr (pc + 3) ls st M Q) → P mr pc ls (vI y :: vI x :: st) M Q
def R_if_lt (P : AP) : Prop := ∀ (mr : MR) (pc : Nat) (ls : Ls) (st : List AV) (M : Mem) (Q : Po) (x off : Int) (tgt : Nat), decode (mrB mr) pc = .ok (.ifCond .lt off, 3) → (pc : Int) + off = (tgt : Int) → InR x → (x < 0 → P mr tgt ls st M Q) → (¬ (x < 0) → P mr (pc + 3) ls st M Q) → P mr pc ls (vI x :: st) M Q
def R_icmp_lt (P : AP) : Prop := ∀ (mr : MR) (pc : Nat) (ls : Ls) (st : List AV) (M : Mem) (Q : Po) (x y off : Int) (tgt : Nat), decode (mrB mr) pc = .ok (.if_icmp .lt off, 3) → (pc : Int) + off = (tgt : Int) → InR x → InR y → (x < y → P mr tgt ls st M Q) → (¬ (x < y) → P mr (pc + 3) ls st M Q) → P mr pc ls (vI y :: vI x :: st) M Q
def R_if_ge (P : AP) : Prop := ∀ (mr : MR) (pc : Nat) (ls : Ls) (st : List AV) (M : Mem) (Q : Po) (x off : Int) (tgt : Nat), decode (mrB mr) pc = .ok (.ifCond .ge off, 3) → (pc : Int) + off = (tgt : Int) → InR x → (x ≥ 0 → P mr tgt ls st M Q) → (¬ (x ≥ 0) → P mr (pc + 3) ls st M Q) → P mr pc ls (vI x :: st) M Q
def R_icmp_ge (P : AP) : Prop := ∀ (mr : MR) (pc : Nat) (ls : Ls) (st : List AV) (M : Mem) (Q : Po) (x y off : Int) (tgt : Nat), decode (mrB mr) pc = .ok (.if_icmp .ge off, 3) → (pc : Int) + off = (tgt : Int) → InR x → InR y → (x ≥ y → P mr tgt ls st M Q) → (¬ (x ≥ y) → P mr (pc + 3) ls st M Q) → P mr pc ls (vI y :: vI x :: st) M Q
def R_if_gt (P : AP) : Prop := ∀ (mr : MR) (pc : Nat) (ls : Ls) (st : List AV) (M : Mem) (Q : Po) (x off : Int) (tgt : Nat), decode (mrB mr) pc = .ok (.ifCond .gt off, 3) → (pc : Int) + off = (tgt : Int) → InR x → (x > 0 → P mr tgt ls st M Q) → (¬ (x > 0) → P mr (pc + 3) ls st M Q) → P mr pc ls (vI x :: st) M Q
def R_icmp_gt (P : AP) : Prop := ∀ (mr : MR) (pc : Nat) (ls : Ls) (st : List AV) (M : Mem) (Q : Po) (x y off : Int) (tgt : Nat), decode (mrB mr) pc = .ok (.if_icmp .gt off, 3) → (pc : Int) + off = (tgt : Int) → InR x → InR y → (x > y → P mr tgt ls st M Q) → (¬ (x > y) → P mr (pc + 3) ls st M Q) → P mr pc ls (vI y :: vI x :: st) M Q
def R_if_le (P : AP) : Prop := ∀ (mr : MR) (pc : Nat) (ls : Ls) (st : List AV) (M : Mem) (Q : Po) (x off : Int) (tgt : Nat), decode (mrB mr) pc = .ok (.ifCond .le off, 3) → (pc : Int) + off = (tgt : Int) → InR x → (x ≤ 0 → P mr tgt ls st M Q) → (¬ (x ≤ 0) → P mr (pc + 3) ls st M Q) → P mr pc ls (vI x :: st) M Q
def R_icmp_le (P : AP) : Prop := ∀ (mr : MR) (pc : Nat) (ls : Ls) (st : List AV) (M : Mem) (Q : Po) (x y off : Int) (tgt : Nat), decode (mrB mr) pc = .ok (.if_icmp .le off, 3) → (pc : Int) + off = (tgt : Int) → InR x → InR y → (x ≤ y → P mr tgt ls st M Q) → (¬ (x ≤ y) → P mr (pc + 3) ls st M Q) → P mr pc ls (vI y :: vI x :: st) M Q
def R_goto (P : AP) : Prop := ∀ (mr : MR) (pc : Nat) (ls : Ls) (st : List AV) (M : Mem) (Q : Po) (off : Int) (tgt : Nat), decode (mrB mr) pc = .ok (.goto off, 3) → (pc : Int) + off = (tgt : Int) → P mr tgt ls st M Q → P mr pc ls st M Q
def R_tblO (P : AP) : Prop := ∀ (mr : MR) (pc : Nat) (ls : Ls) (st : List AV) (M : Mem) (Q : Po) (x dflt lo hi : Int) (offs : Array Int) (len tgt : Nat), decode (mrB mr) pc = .ok (.tableswitch dflt lo hi offs, len) → InR x → x < lo ∨ hi < x → (pc : Int) + dflt = (tgt : Int) → P mr tgt ls st M Q → P mr pc ls (vI x :: st) M Q
def R_tblI (P : AP) : Prop := ∀ (mr : MR) (pc : Nat) (ls : Ls) (st : List AV) (M : Mem) (Q : Po) (x dflt lo hi off : Int) (offs : Array Int) (len tgt : Nat), decode (mrB mr) pc = .ok (.tableswitch dflt lo hi offs, len) → InR x → ¬ x < lo → ¬ hi < x → offs[(x - lo).toNat]? = some off → (pc : Int) + off = (tgt : Int) → P mr tgt ls st M Q → P mr pc ls (vI x :: st) M Q
def R_vret (P : AP) : Prop := ∀ (mr : MR) (pc : Nat) (ls : Ls) (st : List AV) (M : Mem) (Q : Po) , decode (mrB mr) pc = .ok (.return_, 1) → mrT mr = none → Q none M → P mr pc ls [] M Q
def R_iret (P : AP) : Prop := ∀ (mr : MR) (pc : Nat) (ls : Ls) (st : List AV) (M : Mem) (Q : Po) (x : Int), decode (mrB mr) pc = .ok (.ireturn, 1) → mrT mr = some .int → Q (some (vI x)) M → P mr pc ls [vI x] M Q
def R_zret (P : AP) : Prop := ∀ (mr : MR) (pc : Nat) (ls : Ls) (st : List AV) (M : Mem) (Q : Po) (x : Int), decode (mrB mr) pc = .ok (.ireturn, 1) → mrT mr = some .boolean → x = 0 ∨ x = 1 → Q (some (vI x)) M → P mr pc ls [vI x] M Q
def R_callV (P : AP) : Prop := ∀ (mr : MR) (pc : Nat) (ls : Ls) (st : List AV) (M : Mem) (Q : Po) (h : Nat) (fs : List (Option Nat)) (cm : MR) (ix : Nat) (As : List AV) (Q1 : Po), decode (mrB mr) pc = .ok (.invokevirtual ix, 3) → CallV (mrC mr) ix cm As.length → kd h = (3, mrC cm, fs) → h < nH → mrF cm + 1 ≤ mrF mr ∧ 8 + (mrN cm + 11) + mrL cm ≤ mrL mr → (entS (vR h :: As)).length ≤ mrN cm → wt st ≤ 8 → P cm 0 (entL (vR h :: As) (mrN cm)) [] M Q1 → (∀ (r : Option AV) (M1 : Mem), Q1 r M1 → P mr (pc + 3) ls (r.toList ++ st) M1 Q) → P mr pc ls (As.reverse ++ vR h :: st) M Q
def R_callS (P : AP) : Prop := ∀ (mr : MR) (pc : Nat) (ls : Ls) (st : List AV) (M : Mem) (Q : Po) (cm : MR) (ix : Nat) (As : List AV) (Q1 : Po), decode (mrB mr) pc = .ok (.invokestatic ix, 3) → CallS (mrC mr) ix cm As.length → mrF cm + 1 ≤ mrF mr ∧ 8 + (mrN cm + 11) + mrL cm ≤ mrL mr → (entS As).length ≤ mrN cm → wt st ≤ 8 → P cm 0 (entL As (mrN cm)) [] M Q1 → (∀ (r : Option AV) (M1 : Mem), Q1 r M1 → P mr (pc + 3) ls (r.toList ++ st) M1 Q) → P mr pc ls (As.reverse ++ st) M Q
def R_callN (P : AP) : Prop := ∀ (mr : MR) (pc : Nat) (ls : Ls) (st : List AV) (M : Mem) (Q : Po) (cm : MR) (ix : Nat) (As : List AV) (Q1 : Po), decode (mrB mr) pc = .ok (.invokestatic ix, 3) → CallN (mrC mr) ix cm As.length → mrF cm + 1 ≤ mrF mr ∧ 8 + (mrN cm + 11) + mrL cm ≤ mrL mr → (entS As).length ≤ mrN cm → wt st ≤ 8 → P cm 0 (entL As (mrN cm)) [] M Q1 → (∀ (r : Option AV) (M1 : Mem), Q1 r M1 → P mr (pc + 3) ls (r.toList ++ st) M1 Q) → P mr pc ls (As.reverse ++ st) M Q
def R_callF (P : AP) : Prop := ∀ (mr : MR) (pc : Nat) (ls : Ls) (st : List AV) (M : Mem) (Q : Po) (h ct : Nat) (fs : List (Option Nat)) (cm : MR) (ix : Nat) (As : List AV) (Q1 : Po), decode (mrB mr) pc = .ok (.invokeinterface ix ct, 5) → CallF (mrC mr) ix cm As.length → kd h = (3, mrC cm, fs) → h < nH → mrF cm + 1 ≤ mrF mr ∧ 8 + (mrN cm + 11) + mrL cm ≤ mrL mr → (entS (vR h :: As)).length ≤ mrN cm → wt st ≤ 8 → P cm 0 (entL (vR h :: As) (mrN cm)) [] M Q1 → (∀ (r : Option AV) (M1 : Mem), Q1 r M1 → P mr (pc + 5) ls (r.toList ++ st) M1 Q) → P mr pc ls (As.reverse ++ vR h :: st) M Q
def R_copy (P : AP) : Prop := ∀ (mr : MR) (pc : Nat) (ls : Ls) (st : List AV) (M : Mem) (Q : Po) (ix h0 h1 n0 n1 : Nat) (sp dp n : Int), decode (mrB mr) pc = .ok (.invokestatic ix, 3) → Cond.methodLink (cn (mrC mr)) ix arraycopyName ∈ lw_good → kd h0 = (0, n0, []) → kd h1 = (0, n1, []) → h0 < nH → h1 < nH → 0 ≤ sp ∧ 0 ≤ dp ∧ 0 ≤ n ∧ sp + n ≤ n0 ∧ dp + n ≤ n1 → 1 ≤ mrF mr → 8 + (nativeFrameWords "java/lang/System" "arraycopy" 5 + 11) ≤ mrL mr → wt st ≤ 8 → P mr (pc + 3) ls st (cpy M h0 h1 sp dp n) Q → P mr pc ls (vI n :: vI dp :: vR h1 :: vI sp :: vR h0 :: st) M Q
def R_mmax (P : AP) : Prop := ∀ (mr : MR) (pc : Nat) (ls : Ls) (st : List AV) (M : Mem) (Q : Po) (ix : Nat) (x y : Int), decode (mrB mr) pc = .ok (.invokestatic ix, 3) → Cond.methodLink (cn (mrC mr)) ix Lib.Math.max.name ∈ lw_good → 1 ≤ mrF mr → 8 + 13 ≤ mrL mr → wt st ≤ 8 → InR x → InR y → P mr (pc + 3) ls (vI (if x < y then y else x) :: st) M Q → P mr pc ls (vI y :: vI x :: st) M Q
def R_mmin (P : AP) : Prop := ∀ (mr : MR) (pc : Nat) (ls : Ls) (st : List AV) (M : Mem) (Q : Po) (ix : Nat) (x y : Int), decode (mrB mr) pc = .ok (.invokestatic ix, 3) → Cond.methodLink (cn (mrC mr)) ix Lib.Math.min.name ∈ lw_good → 1 ≤ mrF mr → 8 + 13 ≤ mrL mr → wt st ≤ 8 → InR x → InR y → P mr (pc + 3) ls (vI (if y < x then y else x) :: st) M Q → P mr pc ls (vI y :: vI x :: st) M Q
def R_weak (P : AP) : Prop := ∀ (mr : MR) (pc : Nat) (ls : Ls) (st : List AV) (M : Mem) (Q : Po) (ls2 : Ls), lsub ls2 ls → P mr pc ls2 st M Q → P mr pc ls st M Q
def Rules (P : AP) : Prop := R_iconst P ∧ R_bipush P ∧ R_sipush P ∧ R_ldc P ∧ R_ldc2 P ∧ R_lconst P ∧ R_iload_n P ∧ R_iload P ∧ R_lload_n P ∧ R_lload P ∧ R_aload_n P ∧ R_aload P ∧ R_istore_n P ∧ R_istore P ∧ R_lstore_n P ∧ R_lstore P ∧ R_astore_n P ∧ R_astore P ∧ R_iinc P ∧ R_iadd P ∧ R_isub P ∧ R_imul P ∧ R_idiv P ∧ R_irem P ∧ R_iand P ∧ R_i2l P ∧ R_l2i P ∧ R_ladd P ∧ R_lmul P ∧ R_land P ∧ R_lor P ∧ R_lshl P ∧ R_lcmp P ∧ R_dup P ∧ R_dup2 P ∧ R_getR P ∧ R_getI P ∧ R_put P ∧ R_iald P ∧ R_zald P ∧ R_lald P ∧ R_iast P ∧ R_zast P ∧ R_last P ∧ R_alen P ∧ R_sald P ∧ R_slen P ∧ R_if_eq P ∧ R_icmp_eq P ∧ R_if_ne P ∧ R_icmp_ne P ∧ R_if_lt P ∧ R_icmp_lt P ∧ R_if_ge P ∧ R_icmp_ge P ∧ R_if_gt P ∧ R_icmp_gt P ∧ R_if_le P ∧ R_icmp_le P ∧ R_goto P ∧ R_tblO P ∧ R_tblI P ∧ R_vret P ∧ R_iret P ∧ R_zret P ∧ R_callV P ∧ R_callS P ∧ R_callN P ∧ R_callF P ∧ R_copy P ∧ R_mmax P ∧ R_mmin P ∧ R_weak P
def AW : AP := fun mr pc ls st M Q => ∀ P : AP, Rules P → P mr pc ls st M Q
theorem AW.iconst {mr : MR} {pc : Nat} {ls : Ls} {st : List AV} {M : Mem} {Q : Po} {n : Int} (e0 : decode (mrB mr) pc = .ok (.iconst n, 1)) (k0 : AW mr (pc + 1) ls (vI n :: st) M Q) : AW mr pc ls st M Q := fun P hP => hP.1 mr pc ls st M Q n e0 (k0 P hP)
theorem AW.bipush {mr : MR} {pc : Nat} {ls : Ls} {st : List AV} {M : Mem} {Q : Po} {n : Int} (e0 : decode (mrB mr) pc = .ok (.bipush n, 2)) (e1 : (Int8.ofInt n).toInt32 = Int32.ofInt n) (k0 : AW mr (pc + 2) ls (vI n :: st) M Q) : AW mr pc ls st M Q := fun P hP => hP.2.1 mr pc ls st M Q n e0 e1 (k0 P hP)
theorem AW.sipush {mr : MR} {pc : Nat} {ls : Ls} {st : List AV} {M : Mem} {Q : Po} {n : Int} (e0 : decode (mrB mr) pc = .ok (.sipush n, 3)) (e1 : (Int16.ofInt n).toInt32 = Int32.ofInt n) (k0 : AW mr (pc + 3) ls (vI n :: st) M Q) : AW mr pc ls st M Q := fun P hP => hP.2.2.1 mr pc ls st M Q n e0 e1 (k0 P hP)
theorem AW.ldc {mr : MR} {pc : Nat} {ls : Ls} {st : List AV} {M : Mem} {Q : Po} {ix : Nat} {n : Int} (e0 : decode (mrB mr) pc = .ok (.ldc ix, 2)) (e1 : Cond.constant (cn (mrC mr)) ix (Int32.ofInt n) ∈ lw_good) (k0 : AW mr (pc + 2) ls (vI n :: st) M Q) : AW mr pc ls st M Q := fun P hP => hP.2.2.2.1 mr pc ls st M Q ix n e0 e1 (k0 P hP)
theorem AW.ldc2 {mr : MR} {pc : Nat} {ls : Ls} {st : List AV} {M : Mem} {Q : Po} {ix : Nat} {n : Int} (e0 : decode (mrB mr) pc = .ok (.ldc2_w ix, 3)) (e1 : Cond.constantLong (cn (mrC mr)) ix (Int64.ofInt n) ∈ lw_good) (k0 : AW mr (pc + 3) ls (vL n :: st) M Q) : AW mr pc ls st M Q := fun P hP => hP.2.2.2.2.1 mr pc ls st M Q ix n e0 e1 (k0 P hP)
theorem AW.lconst {mr : MR} {pc : Nat} {ls : Ls} {st : List AV} {M : Mem} {Q : Po} {k : Fin 2} {n : Int} (e0 : decode (mrB mr) pc = .ok (.lconst k, 1)) (e1 : Int64.ofNat (k : Nat) = Int64.ofInt n) (k0 : AW mr (pc + 1) ls (vL n :: st) M Q) : AW mr pc ls st M Q := fun P hP => hP.2.2.2.2.2.1 mr pc ls st M Q k n e0 e1 (k0 P hP)
theorem AW.iload_n {mr : MR} {pc : Nat} {ls : Ls} {st : List AV} {M : Mem} {Q : Po} {k : Fin 4} {x : Int} (e0 : decode (mrB mr) pc = .ok (.iload_n k, 1)) (e1 : ls[(k : Nat)]? = some (some (vI x))) (k0 : AW mr (pc + 1) ls (vI x :: st) M Q) : AW mr pc ls st M Q := fun P hP => hP.2.2.2.2.2.2.1 mr pc ls st M Q k x e0 e1 (k0 P hP)
theorem AW.iload {mr : MR} {pc : Nat} {ls : Ls} {st : List AV} {M : Mem} {Q : Po} {k : Nat} {x : Int} (e0 : decode (mrB mr) pc = .ok (.iload k, 2)) (e1 : ls[k]? = some (some (vI x))) (k0 : AW mr (pc + 2) ls (vI x :: st) M Q) : AW mr pc ls st M Q := fun P hP => hP.2.2.2.2.2.2.2.1 mr pc ls st M Q k x e0 e1 (k0 P hP)
theorem AW.lload_n {mr : MR} {pc : Nat} {ls : Ls} {st : List AV} {M : Mem} {Q : Po} {k : Fin 4} {x : Int} (e0 : decode (mrB mr) pc = .ok (.lload_n k, 1)) (e1 : ls[(k : Nat)]? = some (some (vL x))) (k0 : AW mr (pc + 1) ls (vL x :: st) M Q) : AW mr pc ls st M Q := fun P hP => hP.2.2.2.2.2.2.2.2.1 mr pc ls st M Q k x e0 e1 (k0 P hP)
theorem AW.lload {mr : MR} {pc : Nat} {ls : Ls} {st : List AV} {M : Mem} {Q : Po} {k : Nat} {x : Int} (e0 : decode (mrB mr) pc = .ok (.lload k, 2)) (e1 : ls[k]? = some (some (vL x))) (k0 : AW mr (pc + 2) ls (vL x :: st) M Q) : AW mr pc ls st M Q := fun P hP => hP.2.2.2.2.2.2.2.2.2.1 mr pc ls st M Q k x e0 e1 (k0 P hP)
theorem AW.aload_n {mr : MR} {pc : Nat} {ls : Ls} {st : List AV} {M : Mem} {Q : Po} {k : Fin 4} {x : Nat} (e0 : decode (mrB mr) pc = .ok (.aload_n k, 1)) (e1 : ls[(k : Nat)]? = some (some (vR x))) (k0 : AW mr (pc + 1) ls (vR x :: st) M Q) : AW mr pc ls st M Q := fun P hP => hP.2.2.2.2.2.2.2.2.2.2.1 mr pc ls st M Q k x e0 e1 (k0 P hP)
theorem AW.aload {mr : MR} {pc : Nat} {ls : Ls} {st : List AV} {M : Mem} {Q : Po} {k : Nat} {x : Nat} (e0 : decode (mrB mr) pc = .ok (.aload k, 2)) (e1 : ls[k]? = some (some (vR x))) (k0 : AW mr (pc + 2) ls (vR x :: st) M Q) : AW mr pc ls st M Q := fun P hP => hP.2.2.2.2.2.2.2.2.2.2.2.1 mr pc ls st M Q k x e0 e1 (k0 P hP)
theorem AW.istore_n {mr : MR} {pc : Nat} {ls : Ls} {st : List AV} {M : Mem} {Q : Po} {k : Fin 4} {ls2 : Ls} {x : Int} (e0 : decode (mrB mr) pc = .ok (.istore_n k, 1)) (e1 : (k : Nat) < mrN mr) (e2 : setL ls k (some (vI x)) = ls2) (k0 : AW mr (pc + 1) ls2 st M Q) : AW mr pc ls (vI x :: st) M Q := fun P hP => hP.2.2.2.2.2.2.2.2.2.2.2.2.1 mr pc ls st M Q k ls2 x e0 e1 e2 (k0 P hP)
theorem AW.istore {mr : MR} {pc : Nat} {ls : Ls} {st : List AV} {M : Mem} {Q : Po} {k : Nat} {ls2 : Ls} {x : Int} (e0 : decode (mrB mr) pc = .ok (.istore k, 2)) (e1 : k < mrN mr) (e2 : setL ls k (some (vI x)) = ls2) (k0 : AW mr (pc + 2) ls2 st M Q) : AW mr pc ls (vI x :: st) M Q := fun P hP => hP.2.2.2.2.2.2.2.2.2.2.2.2.2.1 mr pc ls st M Q k ls2 x e0 e1 e2 (k0 P hP)
theorem AW.lstore_n {mr : MR} {pc : Nat} {ls : Ls} {st : List AV} {M : Mem} {Q : Po} {k : Fin 4} {ls2 : Ls} {x : Int} (e0 : decode (mrB mr) pc = .ok (.lstore_n k, 1)) (e1 : (k : Nat) + 1 < mrN mr) (e2 : setL2 ls k (some (vL x)) = ls2) (k0 : AW mr (pc + 1) ls2 st M Q) : AW mr pc ls (vL x :: st) M Q := fun P hP => hP.2.2.2.2.2.2.2.2.2.2.2.2.2.2.1 mr pc ls st M Q k ls2 x e0 e1 e2 (k0 P hP)
theorem AW.lstore {mr : MR} {pc : Nat} {ls : Ls} {st : List AV} {M : Mem} {Q : Po} {k : Nat} {ls2 : Ls} {x : Int} (e0 : decode (mrB mr) pc = .ok (.lstore k, 2)) (e1 : k + 1 < mrN mr) (e2 : setL2 ls k (some (vL x)) = ls2) (k0 : AW mr (pc + 2) ls2 st M Q) : AW mr pc ls (vL x :: st) M Q := fun P hP => hP.2.2.2.2.2.2.2.2.2.2.2.2.2.2.2.1 mr pc ls st M Q k ls2 x e0 e1 e2 (k0 P hP)
theorem AW.astore_n {mr : MR} {pc : Nat} {ls : Ls} {st : List AV} {M : Mem} {Q : Po} {k : Fin 4} {ls2 : Ls} {x : Nat} (e0 : decode (mrB mr) pc = .ok (.astore_n k, 1)) (e1 : (k : Nat) < mrN mr) (e2 : setL ls k (some (vR x)) = ls2) (k0 : AW mr (pc + 1) ls2 st M Q) : AW mr pc ls (vR x :: st) M Q := fun P hP => hP.2.2.2.2.2.2.2.2.2.2.2.2.2.2.2.2.1 mr pc ls st M Q k ls2 x e0 e1 e2 (k0 P hP)
theorem AW.astore {mr : MR} {pc : Nat} {ls : Ls} {st : List AV} {M : Mem} {Q : Po} {k : Nat} {ls2 : Ls} {x : Nat} (e0 : decode (mrB mr) pc = .ok (.astore k, 2)) (e1 : k < mrN mr) (e2 : setL ls k (some (vR x)) = ls2) (k0 : AW mr (pc + 2) ls2 st M Q) : AW mr pc ls (vR x :: st) M Q := fun P hP => hP.2.2.2.2.2.2.2.2.2.2.2.2.2.2.2.2.2.1 mr pc ls st M Q k ls2 x e0 e1 e2 (k0 P hP)
theorem AW.iinc {mr : MR} {pc : Nat} {ls : Ls} {st : List AV} {M : Mem} {Q : Po} {k : Nat} {n x : Int} {ls2 : Ls} (e0 : decode (mrB mr) pc = .ok (.iinc k n, 3)) (e1 : ls[k]? = some (some (vI x))) (e2 : k < mrN mr) (e3 : setL ls k (some (vI (x + n))) = ls2) (k0 : AW mr (pc + 3) ls2 st M Q) : AW mr pc ls st M Q := fun P hP => hP.2.2.2.2.2.2.2.2.2.2.2.2.2.2.2.2.2.2.1 mr pc ls st M Q k n x ls2 e0 e1 e2 e3 (k0 P hP)
theorem AW.iadd {mr : MR} {pc : Nat} {ls : Ls} {st : List AV} {M : Mem} {Q : Po} {x y : Int} (e0 : decode (mrB mr) pc = .ok (.iadd, 1)) (k0 : AW mr (pc + 1) ls (vI (x + y) :: st) M Q) : AW mr pc ls (vI y :: vI x :: st) M Q := fun P hP => hP.2.2.2.2.2.2.2.2.2.2.2.2.2.2.2.2.2.2.2.1 mr pc ls st M Q x y e0 (k0 P hP)
theorem AW.isub {mr : MR} {pc : Nat} {ls : Ls} {st : List AV} {M : Mem} {Q : Po} {x y : Int} (e0 : decode (mrB mr) pc = .ok (.isub, 1)) (k0 : AW mr (pc + 1) ls (vI (x - y) :: st) M Q) : AW mr pc ls (vI y :: vI x :: st) M Q := fun P hP => hP.2.2.2.2.2.2.2.2.2.2.2.2.2.2.2.2.2.2.2.2.1 mr pc ls st M Q x y e0 (k0 P hP)
theorem AW.imul {mr : MR} {pc : Nat} {ls : Ls} {st : List AV} {M : Mem} {Q : Po} {x y : Int} (e0 : decode (mrB mr) pc = .ok (.imul, 1)) (k0 : AW mr (pc + 1) ls (vI (x * y) :: st) M Q) : AW mr pc ls (vI y :: vI x :: st) M Q := fun P hP => hP.2.2.2.2.2.2.2.2.2.2.2.2.2.2.2.2.2.2.2.2.2.1 mr pc ls st M Q x y e0 (k0 P hP)
theorem AW.idiv {mr : MR} {pc : Nat} {ls : Ls} {st : List AV} {M : Mem} {Q : Po} {x y : Int} (e0 : decode (mrB mr) pc = .ok (.idiv, 1)) (e1 : 0 ≤ x ∧ x ≤ 2147483647) (e2 : 0 < y ∧ y ≤ 2147483647) (k0 : AW mr (pc + 1) ls (vI (x / y) :: st) M Q) : AW mr pc ls (vI y :: vI x :: st) M Q := fun P hP => hP.2.2.2.2.2.2.2.2.2.2.2.2.2.2.2.2.2.2.2.2.2.2.1 mr pc ls st M Q x y e0 e1 e2 (k0 P hP)
theorem AW.irem {mr : MR} {pc : Nat} {ls : Ls} {st : List AV} {M : Mem} {Q : Po} {x y : Int} (e0 : decode (mrB mr) pc = .ok (.irem, 1)) (e1 : 0 ≤ x ∧ x ≤ 2147483647) (e2 : 0 < y ∧ y ≤ 2147483647) (k0 : AW mr (pc + 1) ls (vI (x % y) :: st) M Q) : AW mr pc ls (vI y :: vI x :: st) M Q := fun P hP => hP.2.2.2.2.2.2.2.2.2.2.2.2.2.2.2.2.2.2.2.2.2.2.2.1 mr pc ls st M Q x y e0 e1 e2 (k0 P hP)
theorem AW.iand {mr : MR} {pc : Nat} {ls : Ls} {st : List AV} {M : Mem} {Q : Po} {x y : Int} (e0 : decode (mrB mr) pc = .ok (.iand, 1)) (k0 : AW mr (pc + 1) ls (vI (Int32.ofInt x &&& Int32.ofInt y).toInt :: st) M Q) : AW mr pc ls (vI y :: vI x :: st) M Q := fun P hP => hP.2.2.2.2.2.2.2.2.2.2.2.2.2.2.2.2.2.2.2.2.2.2.2.2.1 mr pc ls st M Q x y e0 (k0 P hP)
theorem AW.i2l {mr : MR} {pc : Nat} {ls : Ls} {st : List AV} {M : Mem} {Q : Po} {x : Int} (e0 : decode (mrB mr) pc = .ok (.i2l, 1)) (e1 : InR x) (k0 : AW mr (pc + 1) ls (vL x :: st) M Q) : AW mr pc ls (vI x :: st) M Q := fun P hP => hP.2.2.2.2.2.2.2.2.2.2.2.2.2.2.2.2.2.2.2.2.2.2.2.2.2.1 mr pc ls st M Q x e0 e1 (k0 P hP)
theorem AW.l2i {mr : MR} {pc : Nat} {ls : Ls} {st : List AV} {M : Mem} {Q : Po} {x : Int} (e0 : decode (mrB mr) pc = .ok (.l2i, 1)) (k0 : AW mr (pc + 1) ls (vI x :: st) M Q) : AW mr pc ls (vL x :: st) M Q := fun P hP => hP.2.2.2.2.2.2.2.2.2.2.2.2.2.2.2.2.2.2.2.2.2.2.2.2.2.2.1 mr pc ls st M Q x e0 (k0 P hP)
theorem AW.ladd {mr : MR} {pc : Nat} {ls : Ls} {st : List AV} {M : Mem} {Q : Po} {x y : Int} (e0 : decode (mrB mr) pc = .ok (.ladd, 1)) (k0 : AW mr (pc + 1) ls (vL (x + y) :: st) M Q) : AW mr pc ls (vL y :: vL x :: st) M Q := fun P hP => hP.2.2.2.2.2.2.2.2.2.2.2.2.2.2.2.2.2.2.2.2.2.2.2.2.2.2.2.1 mr pc ls st M Q x y e0 (k0 P hP)
theorem AW.lmul {mr : MR} {pc : Nat} {ls : Ls} {st : List AV} {M : Mem} {Q : Po} {x y : Int} (e0 : decode (mrB mr) pc = .ok (.lmul, 1)) (k0 : AW mr (pc + 1) ls (vL (x * y) :: st) M Q) : AW mr pc ls (vL y :: vL x :: st) M Q := fun P hP => hP.2.2.2.2.2.2.2.2.2.2.2.2.2.2.2.2.2.2.2.2.2.2.2.2.2.2.2.2.1 mr pc ls st M Q x y e0 (k0 P hP)
theorem AW.land {mr : MR} {pc : Nat} {ls : Ls} {st : List AV} {M : Mem} {Q : Po} {x y : Int} (e0 : decode (mrB mr) pc = .ok (.land, 1)) (k0 : AW mr (pc + 1) ls (vL (Int64.ofInt x &&& Int64.ofInt y).toInt :: st) M Q) : AW mr pc ls (vL y :: vL x :: st) M Q := fun P hP => hP.2.2.2.2.2.2.2.2.2.2.2.2.2.2.2.2.2.2.2.2.2.2.2.2.2.2.2.2.2.1 mr pc ls st M Q x y e0 (k0 P hP)
theorem AW.lor {mr : MR} {pc : Nat} {ls : Ls} {st : List AV} {M : Mem} {Q : Po} {x y : Int} (e0 : decode (mrB mr) pc = .ok (.lor, 1)) (k0 : AW mr (pc + 1) ls (vL (Int64.ofInt x ||| Int64.ofInt y).toInt :: st) M Q) : AW mr pc ls (vL y :: vL x :: st) M Q := fun P hP => hP.2.2.2.2.2.2.2.2.2.2.2.2.2.2.2.2.2.2.2.2.2.2.2.2.2.2.2.2.2.2.1 mr pc ls st M Q x y e0 (k0 P hP)
theorem AW.lshl {mr : MR} {pc : Nat} {ls : Ls} {st : List AV} {M : Mem} {Q : Po} {x y : Int} (e0 : decode (mrB mr) pc = .ok (.lshl, 1)) (k0 : AW mr (pc + 1) ls (vL (Int64.ofInt x <<< ((Int32.ofInt y).toInt64 &&& 63)).toInt :: st) M Q) : AW mr pc ls (vI y :: vL x :: st) M Q := fun P hP => hP.2.2.2.2.2.2.2.2.2.2.2.2.2.2.2.2.2.2.2.2.2.2.2.2.2.2.2.2.2.2.2.1 mr pc ls st M Q x y e0 (k0 P hP)
theorem AW.lcmp {mr : MR} {pc : Nat} {ls : Ls} {st : List AV} {M : Mem} {Q : Po} {x y : Int} (e0 : decode (mrB mr) pc = .ok (.lcmp, 1)) (e1 : InR8 x) (e2 : InR8 y) (k0 : AW mr (pc + 1) ls (vI (if x > y then 1 else if x = y then 0 else -1) :: st) M Q) : AW mr pc ls (vL y :: vL x :: st) M Q := fun P hP => hP.2.2.2.2.2.2.2.2.2.2.2.2.2.2.2.2.2.2.2.2.2.2.2.2.2.2.2.2.2.2.2.2.1 mr pc ls st M Q x y e0 e1 e2 (k0 P hP)
theorem AW.dup {mr : MR} {pc : Nat} {ls : Ls} {st : List AV} {M : Mem} {Q : Po} {v : AV} (e0 : decode (mrB mr) pc = .ok (.dup, 1)) (e1 : cat1 v = true) (k0 : AW mr (pc + 1) ls (v :: v :: st) M Q) : AW mr pc ls (v :: st) M Q := fun P hP => hP.2.2.2.2.2.2.2.2.2.2.2.2.2.2.2.2.2.2.2.2.2.2.2.2.2.2.2.2.2.2.2.2.2.1 mr pc ls st M Q v e0 e1 (k0 P hP)
theorem AW.dup2 {mr : MR} {pc : Nat} {ls : Ls} {st : List AV} {M : Mem} {Q : Po} {v w : AV} (e0 : decode (mrB mr) pc = .ok (.dup2, 1)) (e1 : cat1 v = true) (e2 : cat1 w = true) (k0 : AW mr (pc + 1) ls (v :: w :: v :: w :: st) M Q) : AW mr pc ls (v :: w :: st) M Q := fun P hP => hP.2.2.2.2.2.2.2.2.2.2.2.2.2.2.2.2.2.2.2.2.2.2.2.2.2.2.2.2.2.2.2.2.2.2.1 mr pc ls st M Q v w e0 e1 e2 (k0 P hP)
theorem AW.getR {mr : MR} {pc : Nat} {ls : Ls} {st : List AV} {M : Mem} {Q : Po} {h ix ci k h2 : Nat} {fs : List (Option Nat)} (e0 : decode (mrB mr) pc = .ok (.getfield ix, 3)) (e1 : FldG (mrC mr) ix ci k) (e2 : kd h = (3, ci, fs)) (e3 : h < nH) (e4 : fs[k]? = some (some h2)) (k0 : AW mr (pc + 3) ls (vR h2 :: st) M Q) : AW mr pc ls (vR h :: st) M Q := fun P hP => hP.2.2.2.2.2.2.2.2.2.2.2.2.2.2.2.2.2.2.2.2.2.2.2.2.2.2.2.2.2.2.2.2.2.2.2.1 mr pc ls st M Q h ix ci k h2 fs e0 e1 e2 e3 e4 (k0 P hP)
theorem AW.getI {mr : MR} {pc : Nat} {ls : Ls} {st : List AV} {M : Mem} {Q : Po} {h ix ci k : Nat} {fs : List (Option Nat)} (e0 : decode (mrB mr) pc = .ok (.getfield ix, 3)) (e1 : FldG (mrC mr) ix ci k) (e2 : kd h = (3, ci, fs)) (e3 : h < nH) (e4 : fs[k]? = some none) (k0 : AW mr (pc + 3) ls (vI (M h k) :: st) M Q) : AW mr pc ls (vR h :: st) M Q := fun P hP => hP.2.2.2.2.2.2.2.2.2.2.2.2.2.2.2.2.2.2.2.2.2.2.2.2.2.2.2.2.2.2.2.2.2.2.2.2.1 mr pc ls st M Q h ix ci k fs e0 e1 e2 e3 e4 (k0 P hP)
theorem AW.put {mr : MR} {pc : Nat} {ls : Ls} {st : List AV} {M : Mem} {Q : Po} {h ix ci k : Nat} {fs : List (Option Nat)} {x : Int} (e0 : decode (mrB mr) pc = .ok (.putfield ix, 3)) (e1 : FldP (mrC mr) ix ci k) (e2 : kd h = (3, ci, fs)) (e3 : h < nH) (e4 : fs[k]? = some none) (k0 : AW mr (pc + 3) ls st (up M h k x) Q) : AW mr pc ls (vI x :: vR h :: st) M Q := fun P hP => hP.2.2.2.2.2.2.2.2.2.2.2.2.2.2.2.2.2.2.2.2.2.2.2.2.2.2.2.2.2.2.2.2.2.2.2.2.2.1 mr pc ls st M Q h ix ci k fs x e0 e1 e2 e3 e4 (k0 P hP)
theorem AW.iald {mr : MR} {pc : Nat} {ls : Ls} {st : List AV} {M : Mem} {Q : Po} {h n : Nat} {i : Int} (e0 : decode (mrB mr) pc = .ok (.iaload, 1)) (e1 : kd h = (0, n, [])) (e2 : h < nH) (e3 : 0 ≤ i ∧ i < n) (k0 : AW mr (pc + 1) ls (vI (M h i) :: st) M Q) : AW mr pc ls (vI i :: vR h :: st) M Q := fun P hP => hP.2.2.2.2.2.2.2.2.2.2.2.2.2.2.2.2.2.2.2.2.2.2.2.2.2.2.2.2.2.2.2.2.2.2.2.2.2.2.1 mr pc ls st M Q h n i e0 e1 e2 e3 (k0 P hP)
theorem AW.zald {mr : MR} {pc : Nat} {ls : Ls} {st : List AV} {M : Mem} {Q : Po} {h n : Nat} {i : Int} (e0 : decode (mrB mr) pc = .ok (.baload, 1)) (e1 : kd h = (1, n, [])) (e2 : h < nH) (e3 : 0 ≤ i ∧ i < n) (k0 : AW mr (pc + 1) ls (vI (M h i) :: st) M Q) : AW mr pc ls (vI i :: vR h :: st) M Q := fun P hP => hP.2.2.2.2.2.2.2.2.2.2.2.2.2.2.2.2.2.2.2.2.2.2.2.2.2.2.2.2.2.2.2.2.2.2.2.2.2.2.2.1 mr pc ls st M Q h n i e0 e1 e2 e3 (k0 P hP)
theorem AW.lald {mr : MR} {pc : Nat} {ls : Ls} {st : List AV} {M : Mem} {Q : Po} {h n : Nat} {i : Int} (e0 : decode (mrB mr) pc = .ok (.laload, 1)) (e1 : kd h = (2, n, [])) (e2 : h < nH) (e3 : 0 ≤ i ∧ i < n) (k0 : AW mr (pc + 1) ls (vL (M h i) :: st) M Q) : AW mr pc ls (vI i :: vR h :: st) M Q := fun P hP => hP.2.2.2.2.2.2.2.2.2.2.2.2.2.2.2.2.2.2.2.2.2.2.2.2.2.2.2.2.2.2.2.2.2.2.2.2.2.2.2.2.1 mr pc ls st M Q h n i e0 e1 e2 e3 (k0 P hP)
theorem AW.iast {mr : MR} {pc : Nat} {ls : Ls} {st : List AV} {M : Mem} {Q : Po} {h n : Nat} {i x : Int} (e0 : decode (mrB mr) pc = .ok (.iastore, 1)) (e1 : kd h = (0, n, [])) (e2 : h < nH) (e3 : 0 ≤ i ∧ i < n) (k0 : AW mr (pc + 1) ls st (up M h i x) Q) : AW mr pc ls (vI x :: vI i :: vR h :: st) M Q := fun P hP => hP.2.2.2.2.2.2.2.2.2.2.2.2.2.2.2.2.2.2.2.2.2.2.2.2.2.2.2.2.2.2.2.2.2.2.2.2.2.2.2.2.2.1 mr pc ls st M Q h n i x e0 e1 e2 e3 (k0 P hP)
theorem AW.zast {mr : MR} {pc : Nat} {ls : Ls} {st : List AV} {M : Mem} {Q : Po} {h n : Nat} {i x : Int} (e0 : decode (mrB mr) pc = .ok (.bastore, 1)) (e1 : kd h = (1, n, [])) (e2 : h < nH) (e3 : 0 ≤ i ∧ i < n) (e4 : x = 0 ∨ x = 1) (k0 : AW mr (pc + 1) ls st (up M h i x) Q) : AW mr pc ls (vI x :: vI i :: vR h :: st) M Q := fun P hP => hP.2.2.2.2.2.2.2.2.2.2.2.2.2.2.2.2.2.2.2.2.2.2.2.2.2.2.2.2.2.2.2.2.2.2.2.2.2.2.2.2.2.2.1 mr pc ls st M Q h n i x e0 e1 e2 e3 e4 (k0 P hP)
theorem AW.last {mr : MR} {pc : Nat} {ls : Ls} {st : List AV} {M : Mem} {Q : Po} {h n : Nat} {i x : Int} (e0 : decode (mrB mr) pc = .ok (.lastore, 1)) (e1 : kd h = (2, n, [])) (e2 : h < nH) (e3 : 0 ≤ i ∧ i < n) (k0 : AW mr (pc + 1) ls st (up M h i x) Q) : AW mr pc ls (vL x :: vI i :: vR h :: st) M Q := fun P hP => hP.2.2.2.2.2.2.2.2.2.2.2.2.2.2.2.2.2.2.2.2.2.2.2.2.2.2.2.2.2.2.2.2.2.2.2.2.2.2.2.2.2.2.2.1 mr pc ls st M Q h n i x e0 e1 e2 e3 (k0 P hP)
theorem AW.alen {mr : MR} {pc : Nat} {ls : Ls} {st : List AV} {M : Mem} {Q : Po} {h t n : Nat} (e0 : decode (mrB mr) pc = .ok (.arraylength, 1)) (e1 : kd h = (t, n, [])) (e2 : t < 3) (e3 : h < nH) (k0 : AW mr (pc + 1) ls (vI n :: st) M Q) : AW mr pc ls (vR h :: st) M Q := fun P hP => hP.2.2.2.2.2.2.2.2.2.2.2.2.2.2.2.2.2.2.2.2.2.2.2.2.2.2.2.2.2.2.2.2.2.2.2.2.2.2.2.2.2.2.2.2.1 mr pc ls st M Q h t n e0 e1 e2 e3 (k0 P hP)
theorem AW.sald {mr : MR} {pc : Nat} {ls : Ls} {st : List AV} {M : Mem} {Q : Po} {i : Int} (e0 : decode (mrB mr) pc = .ok (.iaload, 1)) (e1 : mrC mr = 13) (e2 : 0 ≤ i ∧ i < mrS mr) (k0 : AW mr (pc + 1) ls (vI (mrX mr i.toNat) :: st) M Q) : AW mr pc ls (vI i :: vR nH :: st) M Q := fun P hP => hP.2.2.2.2.2.2.2.2.2.2.2.2.2.2.2.2.2.2.2.2.2.2.2.2.2.2.2.2.2.2.2.2.2.2.2.2.2.2.2.2.2.2.2.2.2.1 mr pc ls st M Q i e0 e1 e2 (k0 P hP)
theorem AW.slen {mr : MR} {pc : Nat} {ls : Ls} {st : List AV} {M : Mem} {Q : Po}  (e0 : decode (mrB mr) pc = .ok (.arraylength, 1)) (e1 : mrC mr = 13) (k0 : AW mr (pc + 1) ls (vI (mrS mr) :: st) M Q) : AW mr pc ls (vR nH :: st) M Q := fun P hP => hP.2.2.2.2.2.2.2.2.2.2.2.2.2.2.2.2.2.2.2.2.2.2.2.2.2.2.2.2.2.2.2.2.2.2.2.2.2.2.2.2.2.2.2.2.2.2.1 mr pc ls st M Q  e0 e1 (k0 P hP)
theorem AW.if_eq {mr : MR} {pc : Nat} {ls : Ls} {st : List AV} {M : Mem} {Q : Po} {x off : Int} {tgt : Nat} (e0 : decode (mrB mr) pc = .ok (.ifCond .eq off, 3)) (e1 : (pc : Int) + off = (tgt : Int)) (e2 : InR x) (k0 : x = 0 → AW mr tgt ls st M Q) (k1 : ¬ (x = 0) → AW mr (pc + 3) ls st M Q) : AW mr pc ls (vI x :: st) M Q := fun P hP => hP.2.2.2.2.2.2.2.2.2.2.2.2.2.2.2.2.2.2.2.2.2.2.2.2.2.2.2.2.2.2.2.2.2.2.2.2.2.2.2.2.2.2.2.2.2.2.2.1 mr pc ls st M Q x off tgt e0 e1 e2 (fun hc => k0 hc P hP) (fun hc => k1 hc P hP)
theorem AW.icmp_eq {mr : MR} {pc : Nat} {ls : Ls} {st : List AV} {M : Mem} {Q : Po} {x y off : Int} {tgt : Nat} (e0 : decode (mrB mr) pc = .ok (.if_icmp .eq off, 3)) (e1 : (pc : Int) + off = (tgt : Int)) (e2 : InR x) (e3 : InR y) (k0 : x = y → AW mr tgt ls st M Q) (k1 : ¬ (x = y) → AW mr (pc + 3) ls st M Q) : AW mr pc ls (vI y :: vI x :: st) M Q := fun P hP => hP.2.2.2.2.2.2.2.2.2.2.2.2.2.2.2.2.2.2.2.2.2.2.2.2.2.2.2.2.2.2.2.2.2.2.2.2.2.2.2.2.2.2.2.2.2.2.2.2.1 mr pc ls st M Q x y off tgt e0 e1 e2 e3 (fun hc => k0 hc P hP) (fun hc => k1 hc P hP)
theorem AW.if_ne {mr : MR} {pc : Nat} {ls : Ls} {st : List AV} {M : Mem} {Q : Po} {x off : Int} {tgt : Nat} (e0 : decode (mrB mr) pc = .ok (.ifCond .ne off, 3)) (e1 : (pc : Int) + off = (tgt : Int)) (e2 : InR x) (k0 : x ≠ 0 → AW mr tgt ls st M Q) (k1 : ¬ (x ≠ 0) → AW mr (pc + 3) ls st M Q) : AW mr pc ls (vI x :: st) M Q := fun P hP => hP.2.2.2.2.2.2.2.2.2.2.2.2.2.2.2.2.2.2.2.2.2.2.2.2.2.2.2.2.2.2.2.2.2.2.2.2.2.2.2.2.2.2.2.2.2.2.2.2.2.1 mr pc ls st M Q x off tgt e0 e1 e2 (fun hc => k0 hc P hP) (fun hc => k1 hc P hP)
theorem AW.icmp_ne {mr : MR} {pc : Nat} {ls : Ls} {st : List AV} {M : Mem} {Q : Po} {x y off : Int} {tgt : Nat} (e0 : decode (mrB mr) pc = .ok (.if_icmp .ne off, 3)) (e1 : (pc : Int) + off = (tgt : Int)) (e2 : InR x) (e3 : InR y) (k0 : x ≠ y → AW mr tgt ls st M Q) (k1 : ¬ (x ≠ y) → AW mr (pc + 3) ls st M Q) : AW mr pc ls (vI y :: vI x :: st) M Q := fun P hP => hP.2.2.2.2.2.2.2.2.2.2.2.2.2.2.2.2.2.2.2.2.2.2.2.2.2.2.2.2.2.2.2.2.2.2.2.2.2.2.2.2.2.2.2.2.2.2.2.2.2.2.1 mr pc ls st M Q x y off tgt e0 e1 e2 e3 (fun hc => k0 hc P hP) (fun hc => k1 hc P hP)
theorem AW.if_lt {mr : MR} {pc : Nat} {ls : Ls} {st : List AV} {M : Mem} {Q : Po} {x off : Int} {tgt : Nat} (e0 : decode (mrB mr) pc = .ok (.ifCond .lt off, 3)) (e1 : (pc : Int) + off = (tgt : Int)) (e2 : InR x) (k0 : x < 0 → AW mr tgt ls st M Q) (k1 : ¬ (x < 0) → AW mr (pc + 3) ls st M Q) : AW mr pc ls (vI x :: st) M Q := fun P hP => hP.2.2.2.2.2.2.2.2.2.2.2.2.2.2.2.2.2.2.2.2.2.2.2.2.2.2.2.2.2.2.2.2.2.2.2.2.2.2.2.2.2.2.2.2.2.2.2.2.2.2.2.1 mr pc ls st M Q x off tgt e0 e1 e2 (fun hc => k0 hc P hP) (fun hc => k1 hc P hP)
theorem AW.icmp_lt {mr : MR} {pc : Nat} {ls : Ls} {st : List AV} {M : Mem} {Q : Po} {x y off : Int} {tgt : Nat} (e0 : decode (mrB mr) pc = .ok (.if_icmp .lt off, 3)) (e1 : (pc : Int) + off = (tgt : Int)) (e2 : InR x) (e3 : InR y) (k0 : x < y → AW mr tgt ls st M Q) (k1 : ¬ (x < y) → AW mr (pc + 3) ls st M Q) : AW mr pc ls (vI y :: vI x :: st) M Q := fun P hP => hP.2.2.2.2.2.2.2.2.2.2.2.2.2.2.2.2.2.2.2.2.2.2.2.2.2.2.2.2.2.2.2.2.2.2.2.2.2.2.2.2.2.2.2.2.2.2.2.2.2.2.2.2.1 mr pc ls st M Q x y off tgt e0 e1 e2 e3 (fun hc => k0 hc P hP) (fun hc => k1 hc P hP)
theorem AW.if_ge {mr : MR} {pc : Nat} {ls : Ls} {st : List AV} {M : Mem} {Q : Po} {x off : Int} {tgt : Nat} (e0 : decode (mrB mr) pc = .ok (.ifCond .ge off, 3)) (e1 : (pc : Int) + off = (tgt : Int)) (e2 : InR x) (k0 : x ≥ 0 → AW mr tgt ls st M Q) (k1 : ¬ (x ≥ 0) → AW mr (pc + 3) ls st M Q) : AW mr pc ls (vI x :: st) M Q := fun P hP => hP.2.2.2.2.2.2.2.2.2.2.2.2.2.2.2.2.2.2.2.2.2.2.2.2.2.2.2.2.2.2.2.2.2.2.2.2.2.2.2.2.2.2.2.2.2.2.2.2.2.2.2.2.2.1 mr pc ls st M Q x off tgt e0 e1 e2 (fun hc => k0 hc P hP) (fun hc => k1 hc P hP)
theorem AW.icmp_ge {mr : MR} {pc : Nat} {ls : Ls} {st : List AV} {M : Mem} {Q : Po} {x y off : Int} {tgt : Nat} (e0 : decode (mrB mr) pc = .ok (.if_icmp .ge off, 3)) (e1 : (pc : Int) + off = (tgt : Int)) (e2 : InR x) (e3 : InR y) (k0 : x ≥ y → AW mr tgt ls st M Q) (k1 : ¬ (x ≥ y) → AW mr (pc + 3) ls st M Q) : AW mr pc ls (vI y :: vI x :: st) M Q := fun P hP => hP.2.2.2.2.2.2.2.2.2.2.2.2.2.2.2.2.2.2.2.2.2.2.2.2.2.2.2.2.2.2.2.2.2.2.2.2.2.2.2.2.2.2.2.2.2.2.2.2.2.2.2.2.2.2.1 mr pc ls st M Q x y off tgt e0 e1 e2 e3 (fun hc => k0 hc P hP) (fun hc => k1 hc P hP)
theorem AW.if_gt {mr : MR} {pc : Nat} {ls : Ls} {st : List AV} {M : Mem} {Q : Po} {x off : Int} {tgt : Nat} (e0 : decode (mrB mr) pc = .ok (.ifCond .gt off, 3)) (e1 : (pc : Int) + off = (tgt : Int)) (e2 : InR x) (k0 : x > 0 → AW mr tgt ls st M Q) (k1 : ¬ (x > 0) → AW mr (pc + 3) ls st M Q) : AW mr pc ls (vI x :: st) M Q := fun P hP => hP.2.2.2.2.2.2.2.2.2.2.2.2.2.2.2.2.2.2.2.2.2.2.2.2.2.2.2.2.2.2.2.2.2.2.2.2.2.2.2.2.2.2.2.2.2.2.2.2.2.2.2.2.2.2.2.1 mr pc ls st M Q x off tgt e0 e1 e2 (fun hc => k0 hc P hP) (fun hc => k1 hc P hP)
theorem AW.icmp_gt {mr : MR} {pc : Nat} {ls : Ls} {st : List AV} {M : Mem} {Q : Po} {x y off : Int} {tgt : Nat} (e0 : decode (mrB mr) pc = .ok (.if_icmp .gt off, 3)) (e1 : (pc : Int) + off = (tgt : Int)) (e2 : InR x) (e3 : InR y) (k0 : x > y → AW mr tgt ls st M Q) (k1 : ¬ (x > y) → AW mr (pc + 3) ls st M Q) : AW mr pc ls (vI y :: vI x :: st) M Q := fun P hP => hP.2.2.2.2.2.2.2.2.2.2.2.2.2.2.2.2.2.2.2.2.2.2.2.2.2.2.2.2.2.2.2.2.2.2.2.2.2.2.2.2.2.2.2.2.2.2.2.2.2.2.2.2.2.2.2.2.1 mr pc ls st M Q x y off tgt e0 e1 e2 e3 (fun hc => k0 hc P hP) (fun hc => k1 hc P hP)
theorem AW.if_le {mr : MR} {pc : Nat} {ls : Ls} {st : List AV} {M : Mem} {Q : Po} {x off : Int} {tgt : Nat} (e0 : decode (mrB mr) pc = .ok (.ifCond .le off, 3)) (e1 : (pc : Int) + off = (tgt : Int)) (e2 : InR x) (k0 : x ≤ 0 → AW mr tgt ls st M Q) (k1 : ¬ (x ≤ 0) → AW mr (pc + 3) ls st M Q) : AW mr pc ls (vI x :: st) M Q := fun P hP => hP.2.2.2.2.2.2.2.2.2.2.2.2.2.2.2.2.2.2.2.2.2.2.2.2.2.2.2.2.2.2.2.2.2.2.2.2.2.2.2.2.2.2.2.2.2.2.2.2.2.2.2.2.2.2.2.2.2.1 mr pc ls st M Q x off tgt e0 e1 e2 (fun hc => k0 hc P hP) (fun hc => k1 hc P hP)
theorem AW.icmp_le {mr : MR} {pc : Nat} {ls : Ls} {st : List AV} {M : Mem} {Q : Po} {x y off : Int} {tgt : Nat} (e0 : decode (mrB mr) pc = .ok (.if_icmp .le off, 3)) (e1 : (pc : Int) + off = (tgt : Int)) (e2 : InR x) (e3 : InR y) (k0 : x ≤ y → AW mr tgt ls st M Q) (k1 : ¬ (x ≤ y) → AW mr (pc + 3) ls st M Q) : AW mr pc ls (vI y :: vI x :: st) M Q := fun P hP => hP.2.2.2.2.2.2.2.2.2.2.2.2.2.2.2.2.2.2.2.2.2.2.2.2.2.2.2.2.2.2.2.2.2.2.2.2.2.2.2.2.2.2.2.2.2.2.2.2.2.2.2.2.2.2.2.2.2.2.1 mr pc ls st M Q x y off tgt e0 e1 e2 e3 (fun hc => k0 hc P hP) (fun hc => k1 hc P hP)
theorem AW.goto {mr : MR} {pc : Nat} {ls : Ls} {st : List AV} {M : Mem} {Q : Po} {off : Int} {tgt : Nat} (e0 : decode (mrB mr) pc = .ok (.goto off, 3)) (e1 : (pc : Int) + off = (tgt : Int)) (k0 : AW mr tgt ls st M Q) : AW mr pc ls st M Q := fun P hP => hP.2.2.2.2.2.2.2.2.2.2.2.2.2.2.2.2.2.2.2.2.2.2.2.2.2.2.2.2.2.2.2.2.2.2.2.2.2.2.2.2.2.2.2.2.2.2.2.2.2.2.2.2.2.2.2.2.2.2.2.1 mr pc ls st M Q off tgt e0 e1 (k0 P hP)
theorem AW.tblO {mr : MR} {pc : Nat} {ls : Ls} {st : List AV} {M : Mem} {Q : Po} {x dflt lo hi : Int} {offs : Array Int} {len tgt : Nat} (e0 : decode (mrB mr) pc = .ok (.tableswitch dflt lo hi offs, len)) (e1 : InR x) (e2 : x < lo ∨ hi < x) (e3 : (pc : Int) + dflt = (tgt : Int)) (k0 : AW mr tgt ls st M Q) : AW mr pc ls (vI x :: st) M Q := fun P hP => hP.2.2.2.2.2.2.2.2.2.2.2.2.2.2.2.2.2.2.2.2.2.2.2.2.2.2.2.2.2.2.2.2.2.2.2.2.2.2.2.2.2.2.2.2.2.2.2.2.2.2.2.2.2.2.2.2.2.2.2.2.1 mr pc ls st M Q x dflt lo hi offs len tgt e0 e1 e2 e3 (k0 P hP)
theorem AW.tblI {mr : MR} {pc : Nat} {ls : Ls} {st : List AV} {M : Mem} {Q : Po} {x dflt lo hi off : Int} {offs : Array Int} {len tgt : Nat} (e0 : decode (mrB mr) pc = .ok (.tableswitch dflt lo hi offs, len)) (e1 : InR x) (e2 : ¬ x < lo) (e3 : ¬ hi < x) (e4 : offs[(x - lo).toNat]? = some off) (e5 : (pc : Int) + off = (tgt : Int)) (k0 : AW mr tgt ls st M Q) : AW mr pc ls (vI x :: st) M Q := fun P hP => hP.2.2.2.2.2.2.2.2.2.2.2.2.2.2.2.2.2.2.2.2.2.2.2.2.2.2.2.2.2.2.2.2.2.2.2.2.2.2.2.2.2.2.2.2.2.2.2.2.2.2.2.2.2.2.2.2.2.2.2.2.2.1 mr pc ls st M Q x dflt lo hi off offs len tgt e0 e1 e2 e3 e4 e5 (k0 P hP)
theorem AW.vret {mr : MR} {pc : Nat} {ls : Ls} {st : List AV} {M : Mem} {Q : Po}  (e0 : decode (mrB mr) pc = .ok (.return_, 1)) (e1 : mrT mr = none) (e2 : Q none M)  : AW mr pc ls [] M Q := fun P hP => hP.2.2.2.2.2.2.2.2.2.2.2.2.2.2.2.2.2.2.2.2.2.2.2.2.2.2.2.2.2.2.2.2.2.2.2.2.2.2.2.2.2.2.2.2.2.2.2.2.2.2.2.2.2.2.2.2.2.2.2.2.2.2.1 mr pc ls st M Q  e0 e1 e2 
theorem AW.iret {mr : MR} {pc : Nat} {ls : Ls} {st : List AV} {M : Mem} {Q : Po} {x : Int} (e0 : decode (mrB mr) pc = .ok (.ireturn, 1)) (e1 : mrT mr = some .int) (e2 : Q (some (vI x)) M)  : AW mr pc ls [vI x] M Q := fun P hP => hP.2.2.2.2.2.2.2.2.2.2.2.2.2.2.2.2.2.2.2.2.2.2.2.2.2.2.2.2.2.2.2.2.2.2.2.2.2.2.2.2.2.2.2.2.2.2.2.2.2.2.2.2.2.2.2.2.2.2.2.2.2.2.2.1 mr pc ls st M Q x e0 e1 e2 
theorem AW.zret {mr : MR} {pc : Nat} {ls : Ls} {st : List AV} {M : Mem} {Q : Po} {x : Int} (e0 : decode (mrB mr) pc = .ok (.ireturn, 1)) (e1 : mrT mr = some .boolean) (e2 : x = 0 ∨ x = 1) (e3 : Q (some (vI x)) M)  : AW mr pc ls [vI x] M Q := fun P hP => hP.2.2.2.2.2.2.2.2.2.2.2.2.2.2.2.2.2.2.2.2.2.2.2.2.2.2.2.2.2.2.2.2.2.2.2.2.2.2.2.2.2.2.2.2.2.2.2.2.2.2.2.2.2.2.2.2.2.2.2.2.2.2.2.2.1 mr pc ls st M Q x e0 e1 e2 e3 
theorem AW.callV {mr : MR} {pc : Nat} {ls : Ls} {st : List AV} {M : Mem} {Q : Po} {h : Nat} {fs : List (Option Nat)} {cm : MR} {ix : Nat} {As : List AV} {Q1 : Po} (e0 : decode (mrB mr) pc = .ok (.invokevirtual ix, 3)) (e1 : CallV (mrC mr) ix cm As.length) (e2 : kd h = (3, mrC cm, fs)) (e3 : h < nH) (e4 : mrF cm + 1 ≤ mrF mr ∧ 8 + (mrN cm + 11) + mrL cm ≤ mrL mr) (e5 : (entS (vR h :: As)).length ≤ mrN cm) (e6 : wt st ≤ 8) (k1 : AW cm 0 (entL (vR h :: As) (mrN cm)) [] M Q1) (k2 : ∀ (r : Option AV) (M1 : Mem), Q1 r M1 → AW mr (pc + 3) ls (r.toList ++ st) M1 Q) : AW mr pc ls (As.reverse ++ vR h :: st) M Q := fun P hP => hP.2.2.2.2.2.2.2.2.2.2.2.2.2.2.2.2.2.2.2.2.2.2.2.2.2.2.2.2.2.2.2.2.2.2.2.2.2.2.2.2.2.2.2.2.2.2.2.2.2.2.2.2.2.2.2.2.2.2.2.2.2.2.2.2.2.1 mr pc ls st M Q h fs cm ix As Q1 e0 e1 e2 e3 e4 e5 e6 (k1 P hP) (fun r M1 hq => k2 r M1 hq P hP)
theorem AW.callS {mr : MR} {pc : Nat} {ls : Ls} {st : List AV} {M : Mem} {Q : Po} {cm : MR} {ix : Nat} {As : List AV} {Q1 : Po} (e0 : decode (mrB mr) pc = .ok (.invokestatic ix, 3)) (e1 : CallS (mrC mr) ix cm As.length) (e2 : mrF cm + 1 ≤ mrF mr ∧ 8 + (mrN cm + 11) + mrL cm ≤ mrL mr) (e3 : (entS As).length ≤ mrN cm) (e4 : wt st ≤ 8) (k1 : AW cm 0 (entL As (mrN cm)) [] M Q1) (k2 : ∀ (r : Option AV) (M1 : Mem), Q1 r M1 → AW mr (pc + 3) ls (r.toList ++ st) M1 Q) : AW mr pc ls (As.reverse ++ st) M Q := fun P hP => hP.2.2.2.2.2.2.2.2.2.2.2.2.2.2.2.2.2.2.2.2.2.2.2.2.2.2.2.2.2.2.2.2.2.2.2.2.2.2.2.2.2.2.2.2.2.2.2.2.2.2.2.2.2.2.2.2.2.2.2.2.2.2.2.2.2.2.1 mr pc ls st M Q cm ix As Q1 e0 e1 e2 e3 e4 (k1 P hP) (fun r M1 hq => k2 r M1 hq P hP)
theorem AW.callN {mr : MR} {pc : Nat} {ls : Ls} {st : List AV} {M : Mem} {Q : Po} {cm : MR} {ix : Nat} {As : List AV} {Q1 : Po} (e0 : decode (mrB mr) pc = .ok (.invokestatic ix, 3)) (e1 : CallN (mrC mr) ix cm As.length) (e2 : mrF cm + 1 ≤ mrF mr ∧ 8 + (mrN cm + 11) + mrL cm ≤ mrL mr) (e3 : (entS As).length ≤ mrN cm) (e4 : wt st ≤ 8) (k1 : AW cm 0 (entL As (mrN cm)) [] M Q1) (k2 : ∀ (r : Option AV) (M1 : Mem), Q1 r M1 → AW mr (pc + 3) ls (r.toList ++ st) M1 Q) : AW mr pc ls (As.reverse ++ st) M Q := fun P hP => hP.2.2.2.2.2.2.2.2.2.2.2.2.2.2.2.2.2.2.2.2.2.2.2.2.2.2.2.2.2.2.2.2.2.2.2.2.2.2.2.2.2.2.2.2.2.2.2.2.2.2.2.2.2.2.2.2.2.2.2.2.2.2.2.2.2.2.2.1 mr pc ls st M Q cm ix As Q1 e0 e1 e2 e3 e4 (k1 P hP) (fun r M1 hq => k2 r M1 hq P hP)
theorem AW.callF {mr : MR} {pc : Nat} {ls : Ls} {st : List AV} {M : Mem} {Q : Po} {h ct : Nat} {fs : List (Option Nat)} {cm : MR} {ix : Nat} {As : List AV} {Q1 : Po} (e0 : decode (mrB mr) pc = .ok (.invokeinterface ix ct, 5)) (e1 : CallF (mrC mr) ix cm As.length) (e2 : kd h = (3, mrC cm, fs)) (e3 : h < nH) (e4 : mrF cm + 1 ≤ mrF mr ∧ 8 + (mrN cm + 11) + mrL cm ≤ mrL mr) (e5 : (entS (vR h :: As)).length ≤ mrN cm) (e6 : wt st ≤ 8) (k1 : AW cm 0 (entL (vR h :: As) (mrN cm)) [] M Q1) (k2 : ∀ (r : Option AV) (M1 : Mem), Q1 r M1 → AW mr (pc + 5) ls (r.toList ++ st) M1 Q) : AW mr pc ls (As.reverse ++ vR h :: st) M Q := fun P hP => hP.2.2.2.2.2.2.2.2.2.2.2.2.2.2.2.2.2.2.2.2.2.2.2.2.2.2.2.2.2.2.2.2.2.2.2.2.2.2.2.2.2.2.2.2.2.2.2.2.2.2.2.2.2.2.2.2.2.2.2.2.2.2.2.2.2.2.2.2.1 mr pc ls st M Q h ct fs cm ix As Q1 e0 e1 e2 e3 e4 e5 e6 (k1 P hP) (fun r M1 hq => k2 r M1 hq P hP)
theorem AW.copy {mr : MR} {pc : Nat} {ls : Ls} {st : List AV} {M : Mem} {Q : Po} {ix h0 h1 n0 n1 : Nat} {sp dp n : Int} (e0 : decode (mrB mr) pc = .ok (.invokestatic ix, 3)) (e1 : Cond.methodLink (cn (mrC mr)) ix arraycopyName ∈ lw_good) (e2 : kd h0 = (0, n0, [])) (e3 : kd h1 = (0, n1, [])) (e4 : h0 < nH) (e5 : h1 < nH) (e6 : 0 ≤ sp ∧ 0 ≤ dp ∧ 0 ≤ n ∧ sp + n ≤ n0 ∧ dp + n ≤ n1) (e7 : 1 ≤ mrF mr) (e8 : 8 + (nativeFrameWords "java/lang/System" "arraycopy" 5 + 11) ≤ mrL mr) (e9 : wt st ≤ 8) (k0 : AW mr (pc + 3) ls st (cpy M h0 h1 sp dp n) Q) : AW mr pc ls (vI n :: vI dp :: vR h1 :: vI sp :: vR h0 :: st) M Q := fun P hP => hP.2.2.2.2.2.2.2.2.2.2.2.2.2.2.2.2.2.2.2.2.2.2.2.2.2.2.2.2.2.2.2.2.2.2.2.2.2.2.2.2.2.2.2.2.2.2.2.2.2.2.2.2.2.2.2.2.2.2.2.2.2.2.2.2.2.2.2.2.2.1 mr pc ls st M Q ix h0 h1 n0 n1 sp dp n e0 e1 e2 e3 e4 e5 e6 e7 e8 e9 (k0 P hP)
theorem AW.mmax {mr : MR} {pc : Nat} {ls : Ls} {st : List AV} {M : Mem} {Q : Po} {ix : Nat} {x y : Int} (e0 : decode (mrB mr) pc = .ok (.invokestatic ix, 3)) (e1 : Cond.methodLink (cn (mrC mr)) ix Lib.Math.max.name ∈ lw_good) (e2 : 1 ≤ mrF mr) (e3 : 8 + 13 ≤ mrL mr) (e4 : wt st ≤ 8) (e5 : InR x) (e6 : InR y) (k0 : AW mr (pc + 3) ls (vI (if x < y then y else x) :: st) M Q) : AW mr pc ls (vI y :: vI x :: st) M Q := fun P hP => hP.2.2.2.2.2.2.2.2.2.2.2.2.2.2.2.2.2.2.2.2.2.2.2.2.2.2.2.2.2.2.2.2.2.2.2.2.2.2.2.2.2.2.2.2.2.2.2.2.2.2.2.2.2.2.2.2.2.2.2.2.2.2.2.2.2.2.2.2.2.2.1 mr pc ls st M Q ix x y e0 e1 e2 e3 e4 e5 e6 (k0 P hP)
theorem AW.mmin {mr : MR} {pc : Nat} {ls : Ls} {st : List AV} {M : Mem} {Q : Po} {ix : Nat} {x y : Int} (e0 : decode (mrB mr) pc = .ok (.invokestatic ix, 3)) (e1 : Cond.methodLink (cn (mrC mr)) ix Lib.Math.min.name ∈ lw_good) (e2 : 1 ≤ mrF mr) (e3 : 8 + 13 ≤ mrL mr) (e4 : wt st ≤ 8) (e5 : InR x) (e6 : InR y) (k0 : AW mr (pc + 3) ls (vI (if y < x then y else x) :: st) M Q) : AW mr pc ls (vI y :: vI x :: st) M Q := fun P hP => hP.2.2.2.2.2.2.2.2.2.2.2.2.2.2.2.2.2.2.2.2.2.2.2.2.2.2.2.2.2.2.2.2.2.2.2.2.2.2.2.2.2.2.2.2.2.2.2.2.2.2.2.2.2.2.2.2.2.2.2.2.2.2.2.2.2.2.2.2.2.2.2.1 mr pc ls st M Q ix x y e0 e1 e2 e3 e4 e5 e6 (k0 P hP)
theorem AW.weak {mr : MR} {pc : Nat} {ls : Ls} {st : List AV} {M : Mem} {Q : Po} {ls2 : Ls} (e0 : lsub ls2 ls) (k0 : AW mr pc ls2 st M Q) : AW mr pc ls st M Q := fun P hP => hP.2.2.2.2.2.2.2.2.2.2.2.2.2.2.2.2.2.2.2.2.2.2.2.2.2.2.2.2.2.2.2.2.2.2.2.2.2.2.2.2.2.2.2.2.2.2.2.2.2.2.2.2.2.2.2.2.2.2.2.2.2.2.2.2.2.2.2.2.2.2.2.2 mr pc ls st M Q ls2 e0 (k0 P hP)
/-- a call whose answer is an int; one that answers nothing -/
def QI (K : Int → Mem → Prop) : Po := fun r M1 => ∃ x : Int, r = some (vI x) ∧ K x M1
def QV (K : Mem → Prop) : Po := fun r M1 => r = none ∧ K M1
def CI (cm : MR) (As : List AV) (M : Mem) (K : Int → Mem → Prop) : Prop := AW cm 0 (entL As (mrN cm)) [] M (QI K)
def CV (cm : MR) (As : List AV) (M : Mem) (K : Mem → Prop) : Prop := AW cm 0 (entL As (mrN cm)) [] M (QV K)
theorem lcm_gt {x y : Int} : (if x > y then (1 : Int) else if x = y then 0 else -1) > 0 ↔ x > y := by repeat' split <;> omega
theorem lcm_le {x y : Int} : (if x > y then (1 : Int) else if x = y then 0 else -1) ≤ 0 ↔ x ≤ y := by repeat' split <;> omega
theorem lcm_ge {x y : Int} : (if x > y then (1 : Int) else if x = y then 0 else -1) ≥ 0 ↔ x ≥ y := by repeat' split <;> omega
theorem lcm_lt {x y : Int} : (if x > y then (1 : Int) else if x = y then 0 else -1) < 0 ↔ x < y := by repeat' split <;> omega
theorem lcm_eq {x y : Int} : (if x > y then (1 : Int) else if x = y then 0 else -1) = 0 ↔ x = y := by repeat' split <;> omega
theorem lcm_ne {x y : Int} : (if x > y then (1 : Int) else if x = y then 0 else -1) ≠ 0 ↔ x ≠ y := by repeat' split <;> omega
theorem lcm_in {x y : Int} : InR (if x > y then (1 : Int) else if x = y then 0 else -1) := by repeat' split <;> omega
end
section
/-! THE ABSTRACT MACHINE'S WORLD ON THE REAL HEAP -/
def ce (ad : Nat → Nat) (cs : ClassId × ClassId × ClassId) (M : Mem) (h : Nat) : va_E :=
  if (kd h).1 = 0 then .inl (cs.1, (kd h).2.1, .inl (fun j => Int32.ofInt (M h j)))
  else if (kd h).1 = 1 then .inl (cs.2.1, (kd h).2.1, .inl (fun j => Int32.ofInt (M h j)))
  else if (kd h).1 = 2 then .inl (cs.2.2, (kd h).2.1, .inr (.inl (fun j => Int64.ofInt (M h j))))
  else .inr ((kd h).2.1, (kd h).2.2.mapIdx (fun k o => match o with | some h2 => .ref (ad h2) | none => .int (Int32.ofInt (M h k))))
def wsOf (ad : Nat → Nat) (cs : ClassId × ClassId × ClassId) (M : Mem) : va_W := (List.range nH).map (fun h => (ad h, ce ad cs M h))
theorem wsOf_get {ad : Nat → Nat} {cs : ClassId × ClassId × ClassId} {M : Mem} {h : Nat} (hh : h < nH) : (wsOf ad cs M)[h]? = some (ad h, ce ad cs M h) := by
  simp [wsOf, hh]
theorem ce_congr {ad : Nat → Nat} {cs : ClassId × ClassId × ClassId} {M M' : Mem} {h : Nat} (e : M' h = M h) : ce ad cs M' h = ce ad cs M h := by
  unfold ce
  rw [e]
theorem wsOf_set {ad : Nat → Nat} {cs : ClassId × ClassId × ClassId} {M M' : Mem} {h : Nat} {e : va_E} (hh : h < nH) (hne : ∀ h', h' ≠ h → M' h' = M h') (he : ce ad cs M' h = e) : (wsOf ad cs M).set h (ad h, e) = wsOf ad cs M' := by
  have hl : h < (wsOf ad cs M).length := by simp [wsOf, hh]
  apply List.ext_getElem?
  intro k
  by_cases hk : k = h
  · subst hk
    rw [List.getElem?_set_self hl, wsOf_get hh, he]
  · rw [List.getElem?_set_ne (Ne.symm hk)]
    by_cases hkn : k < nH
    · rw [wsOf_get hkn, wsOf_get hkn, ce_congr (hne k hk)]
    · rw [List.getElem?_eq_none (by simp [wsOf]; omega), List.getElem?_eq_none (by simp [wsOf]; omega)]
theorem ce_0 {ad : Nat → Nat} {cs : ClassId × ClassId × ClassId} {M : Mem} {h n : Nat} (hk : kd h = (0, n, [])) : ce ad cs M h = .inl (cs.1, n, .inl (fun j => Int32.ofInt (M h j))) := by simp [ce, hk]
theorem ce_1 {ad : Nat → Nat} {cs : ClassId × ClassId × ClassId} {M : Mem} {h n : Nat} (hk : kd h = (1, n, [])) : ce ad cs M h = .inl (cs.2.1, n, .inl (fun j => Int32.ofInt (M h j))) := by simp [ce, hk]
theorem ce_2 {ad : Nat → Nat} {cs : ClassId × ClassId × ClassId} {M : Mem} {h n : Nat} (hk : kd h = (2, n, [])) : ce ad cs M h = .inl (cs.2.2, n, .inr (.inl (fun j => Int64.ofInt (M h j)))) := by simp [ce, hk]
abbrev fv (ad : Nat → Nat) (M : Mem) (h : Nat) (fs : List (Option Nat)) : List Value := fs.mapIdx (fun k o => match o with | some h2 => .ref (ad h2) | none => .int (Int32.ofInt (M h k)))
theorem ce_3 {ad : Nat → Nat} {cs : ClassId × ClassId × ClassId} {M : Mem} {h ci : Nat} {fs : List (Option Nat)} (hk : kd h = (3, ci, fs)) : ce ad cs M h = .inr (ci, fv ad M h fs) := by simp [ce, hk]
theorem kd_small : ∀ h, (kd h).2.1 < 2147483648 := by
  intro h
  by_cases hh : h < 85
  · revert h
    decide +kernel
  · have hl : kdT.length = 85 := by decide +kernel
    have e : kd h = (9, 0, []) := by
      unfold kd
      rw [List.getD_eq_getElem?_getD, List.getElem?_eq_none (by omega)]
      rfl
    rw [e]
    decide
theorem kd_n {h t n : Nat} {fs : List (Option Nat)} (hk : kd h = (t, n, fs)) : n < 2147483648 := by
  have := kd_small h
  rw [hk] at this
  exact this
def DA (ad : Nat → Nat) (A : Nat → Prop) : Prop := (∀ i j, i < nH → j < nH → ad i = ad j → i = j) ∧ ∀ h, h < nH → A (ad h)
theorem DA.D {ad : Nat → Nat} {A : Nat → Prop} (h : DA ad A) {cs : ClassId × ClassId × ClassId} {M : Mem} : va_D A (wsOf ad cs M) := by
  have key : ∀ (k : Nat) (q : Nat × va_E), (wsOf ad cs M)[k]? = some q → k < nH ∧ q.1 = ad k := by
    intro k q hk
    have hl : k < nH := by
      have := (List.getElem?_eq_some_iff.mp hk).1
      simpa [wsOf] using this
    rw [wsOf_get hl] at hk
    cases hk
    exact ⟨hl, rfl⟩
  refine ⟨fun i j p q hi hj hpq => ?_, fun k q hk => ?_⟩
  · obtain ⟨a1, a2⟩ := key i p hi
    obtain ⟨b1, b2⟩ := key j q hj
    exact h.1 i j a1 b1 (by rw [← a2, ← b2]; exact hpq)
  · obtain ⟨a1, a2⟩ := key k q hk
    rw [a2]
    exact h.2 k a1
def tysOf (cs : ClassId × ClassId × ClassId) : List (ClassId × FieldType) := [(cs.1, .int), (cs.2.1, .boolean), (cs.2.2, .long)]
/-- what of the tables a world holds -/
def Wo (Dd : va_G) (cs : ClassId × ClassId × ClassId) (U : State) : Prop := va_K Dd classes (tysOf cs) U ∧ (∀ w ∈ NWs, va_Nw (.methodLinkNest w.1 w.2.1 w.2.2 nHost) U) ∧ ∀ f ∈ FWs, va_Fw f.1 f.2.1 f.2.2 U
theorem FWs_ok : ∀ f ∈ FWs, f.2.1.cls ≠ "java/lang/invoke/MethodHandle" ∧ f.2.1.cls ≠ "java/lang/invoke/VarHandle" := by decide +kernel
theorem Wo.warm {Dd : va_G} {cs : ClassId × ClassId × ClassId} {s U : State} (hW : s.WarmedH U.vm) (h : Wo Dd cs s) : Wo Dd cs U :=
  ⟨va_K.moved hW.alike h.1, fun w hw => va_Nw.warmM hW (h.2.1 w hw), fun f hf => va_Fw.moved (FWs_ok f hf) hW.alike (h.2.2 f hf)⟩
theorem Wo.same {Dd : va_G} {cs : ClassId × ClassId × ClassId} {s U : State} (e : s.vm = U.vm) (h : Wo Dd cs s) : Wo Dd cs U :=
  ⟨va_K.moved (e ▸ Vm.Alike.refl s.vm) h.1, fun w hw => va_Nw.same rfl e (h.2.1 w hw), fun f hf => va_Fw.moved (FWs_ok f hf) (e ▸ Vm.Alike.refl s.vm) (h.2.2 f hf)⟩
/-! locals -/
def LR (ad : Nat → Nat) (la : Array Slot) (n : Nat) (ls : Ls) : Prop := la.size = n ∧ lv_wf la ∧ ∀ (i : Nat) (v : AV), ls[i]? = some (some v) → la[i]? = some (.val (cv ad v))
def asc (ad : Nat → Nat) (ls : Ls) : List (Nat × Value) := (List.range ls.length).filterMap (fun i => match ls[i]? with | some (some v) => some (i, cv ad v) | _ => none)
theorem asc_mem {ad : Nat → Nat} {ls : Ls} {i : Nat} {v : AV} (h : ls[i]? = some (some v)) : (i, cv ad v) ∈ asc ad ls := by
  refine List.mem_filterMap.mpr ⟨i, List.mem_range.mpr (List.getElem?_eq_some_iff.mp h).1, ?_⟩
  rw [h]
theorem asc_of {ad : Nat → Nat} {ls : Ls} {q : Nat × Value} (h : q ∈ asc ad ls) : ∃ v : AV, ls[q.1]? = some (some v) ∧ q.2 = cv ad v := by
  obtain ⟨i, -, h2⟩ := List.mem_filterMap.mp h
  cases e : ls[i]? with
  | none => rw [e] at h2; cases h2
  | some o =>
    cases o with
    | none => rw [e] at h2; cases h2
    | some v => rw [e] at h2; cases h2; exact ⟨v, e, rfl⟩
theorem LR.has {ad : Nat → Nat} {la : Array Slot} {n : Nat} {ls : Ls} (h : LR ad la n ls) : lv_has la n (asc ad ls) := ⟨h.1, h.2.1, fun q hq => by
  obtain ⟨v, h1, h2⟩ := asc_of hq
  rw [h2]
  exact h.2.2 _ _ h1⟩
theorem cat_cv (ad : Nat → Nat) (v : AV) : (cv ad v).category = if cat1 v then 1 else 2 := by
  rcases v with x | x | h <;> rfl
theorem setL_get (ls : Ls) : ∀ (i j : Nat) (v : Option AV) (w : AV), (setL ls i v)[j]? = some (some w) → (j = i ∧ v = some w) ∨ (j ≠ i ∧ ls[j]? = some (some w) ∧ ¬ (j + 1 = i ∧ cat1 w = false)) := by
  induction ls with
  | nil => intro i j v w h; cases i <;> simp [setL] at h
  | cons a t ih =>
    intro i j v w h
    match i with
    | 0 =>
      simp only [setL] at h
      cases j with
      | zero => simp at h; exact Or.inl ⟨rfl, h⟩
      | succ j => rw [List.getElem?_cons_succ] at h ⊢; exact Or.inr ⟨by omega, h, by omega⟩
    | 1 =>
      simp only [setL] at h
      cases j with
      | zero =>
        rw [List.getElem?_cons_zero] at h
        refine Or.inr ⟨by omega, ?_, ?_⟩
        · rw [List.getElem?_cons_zero]
          revert h
          split
          · intro h; cases h
          · exact id
        · rintro ⟨-, hw⟩
          revert h
          split
          · intro h; cases h
          · rename_i hn
            intro h
            cases h
            rcases w with x | x | x
            · cases hw
            · exact hn x rfl
            · cases hw
      | succ j =>
        rw [List.getElem?_cons_succ] at h ⊢
        rcases ih 0 j v w h with ⟨h1, h2⟩ | ⟨h1, h2, h3⟩
        · exact Or.inl ⟨by omega, h2⟩
        · exact Or.inr ⟨by omega, h2, by omega⟩
    | i + 2 =>
      simp only [setL] at h
      cases j with
      | zero => rw [List.getElem?_cons_zero] at h ⊢; exact Or.inr ⟨by omega, h, by omega⟩
      | succ j =>
        rw [List.getElem?_cons_succ] at h ⊢
        rcases ih (i + 1) j v w h with ⟨h1, h2⟩ | ⟨h1, h2, h3⟩
        · exact Or.inl ⟨by omega, h2⟩
        · exact Or.inr ⟨by omega, h2, fun q => h3 ⟨by omega, q.2⟩⟩
theorem LR.store {ad : Nat → Nat} {la : Array Slot} {n i : Nat} {ls : Ls} {v : AV} (h : lv_has la n ((i, cv ad v) :: (asc ad ls).filter (fun q => !(q.1 == i) && !(q.1 + 1 == i && q.2.category == 2)))) : LR ad la n (setL ls i (some v)) := by
  refine ⟨h.1, h.2.1, fun j w hw => ?_⟩
  rcases setL_get ls i j (some v) w hw with ⟨h1, h2⟩ | ⟨h1, h2, h3⟩
  · subst h1
    cases h2
    exact h.2.2 (j, cv ad v) List.mem_cons_self
  · refine h.2.2 (j, cv ad w) (List.mem_cons_of_mem _ (List.mem_filter.mpr ⟨asc_mem h2, ?_⟩))
    simp only [Bool.and_eq_true, Bool.not_eq_true', beq_eq_false_iff_ne, Bool.and_eq_false_iff, cat_cv]
    refine ⟨h1, ?_⟩
    by_cases e : j + 1 = i
    · right
      cases hc : cat1 w
      · exact absurd ⟨e, hc⟩ h3
      · simp
    · left
      exact e
theorem LR.store2 {ad : Nat → Nat} {la : Array Slot} {n i : Nat} {ls : Ls} {v : AV} (h : lv_has la n ((i, cv ad v) :: (asc ad ls).filter (fun q => !(q.1 == i) && (!(q.1 == i + 1) && !(q.1 + 1 == i && q.2.category == 2))))) : LR ad la n (setL2 ls i (some v)) := by
  refine ⟨h.1, h.2.1, fun j w hw => ?_⟩
  rcases setL_get _ i j (some v) w hw with ⟨h1, h2⟩ | ⟨h1, h2, h3⟩
  · subst h1
    cases h2
    exact h.2.2 (j, cv ad v) List.mem_cons_self
  · rcases setL_get ls (i + 1) j none w h2 with ⟨g1, g2⟩ | ⟨g1, g2, g3⟩
    · cases g2
    · refine h.2.2 (j, cv ad w) (List.mem_cons_of_mem _ (List.mem_filter.mpr ⟨asc_mem g2, ?_⟩))
      simp only [Bool.and_eq_true, Bool.not_eq_true', beq_eq_false_iff_ne, Bool.and_eq_false_iff, cat_cv]
      refine ⟨h1, g1, ?_⟩
      by_cases e : j + 1 = i
      · right
        cases hc : cat1 w
        · exact absurd ⟨e, hc⟩ h3
        · simp
      · left
        exact e
theorem entS_sl (ad : Nat → Nat) (As : List AV) : (entS As).length = (lg_sl (As.map (cv ad))).length ∧ ∀ (i : Nat) (v : AV), (entS As)[i]? = some (some v) → (lg_sl (As.map (cv ad)))[i]? = some (.val (cv ad v)) := by
  induction As with
  | nil => exact ⟨rfl, fun i v h => by simp [entS] at h⟩
  | cons a t ih =>
    have e1 : entS (a :: t) = (if cat1 a then [some a] else [some a, none]) ++ entS t := by simp [entS]
    have e2 : lg_sl ((a :: t).map (cv ad)) = (if (cv ad a).category = 2 then [.val (cv ad a), .second] else [.val (cv ad a)]) ++ lg_sl (t.map (cv ad)) := by simp [lg_sl]
    rw [e1, e2, cat_cv]
    cases hc : cat1 a
    · simp only [Bool.false_eq_true, if_false, if_true]
      refine ⟨by simp [ih.1], fun i v h => ?_⟩
      match i with
      | 0 => simp at h ⊢; rw [h]
      | 1 => simp at h
      | i + 2 => simp at h ⊢; exact ih.2 i v h
    · simp only [if_true]
      refine ⟨by simp [ih.1], fun i v h => ?_⟩
      match i with
      | 0 => simp at h ⊢; rw [h]
      | i + 1 => simp at h ⊢; exact ih.2 i v h
theorem LR.entry {ad : Nat → Nat} {As : List AV} {n : Nat} (h : (entS As).length ≤ n) : LR ad ((lg_sl (As.map (cv ad)) ++ List.replicate (n - (lg_sl (As.map (cv ad))).length) Slot.unset).toArray) n (entL As n) := by
  obtain ⟨e1, e2⟩ := entS_sl ad As
  have hl := lv_entry (As.map (cv ad)) (n := n) (by rw [← e1]; exact h)
  refine ⟨hl.1, hl.2.1, fun i v hv => ?_⟩
  unfold entL at hv
  by_cases hi : i < (entS As).length
  · rw [List.getElem?_append_left hi] at hv
    have := e2 i v hv
    simp only [List.getElem?_toArray]
    rw [List.getElem?_append_left (by rw [← e1]; exact hi)]
    exact this
  · rw [List.getElem?_append_right (by omega)] at hv
    have hm := List.mem_of_getElem? hv
    rw [List.mem_replicate] at hm
    cases hm.2
theorem lsub_get : ∀ (a b : Ls), lsub a b → ∀ (i : Nat) (v : AV), a[i]? = some (some v) → b[i]? = some (some v)
  | [], _, _, i, v, h => by simp at h
  | none :: a, w :: b, hs, 0, v, h => by simp at h
  | none :: a, w :: b, hs, i + 1, v, h => by
    rw [List.getElem?_cons_succ] at h ⊢
    exact lsub_get a b hs i v h
  | none :: a, [], hs, 0, v, h => by simp at h
  | none :: a, [], hs, i + 1, v, h => by
    rw [List.getElem?_cons_succ] at h
    have := lsub_get a [] hs i v h
    simp at this
  | some u :: a, w :: b, hs, 0, v, h => by
    rw [List.getElem?_cons_zero] at h ⊢
    rw [hs.1]
    exact h
  | some u :: a, w :: b, hs, i + 1, v, h => by
    rw [List.getElem?_cons_succ] at h ⊢
    exact lsub_get a b hs.2 i v h
theorem good_all {ws : List Cond} (h : ∀ w ∈ ws, w ∈ lw_good) : GoodIn lw_good ws := fun w hw => ⟨h w hw, good_of_word (List.mem_filter.mp (h w hw)).2⟩
theorem cls_cn : ∀ ci, ci < 12 → ∃ (T : u_T) (N : Nat), classes[ci]? = some (cn ci, T, N) := by
  intro ci h
  match ci, h with
  | 0, _ => exact ⟨_, _, rfl⟩
  | 1, _ => exact ⟨_, _, rfl⟩
  | 2, _ => exact ⟨_, _, rfl⟩
  | 3, _ => exact ⟨_, _, rfl⟩
  | 4, _ => exact ⟨_, _, rfl⟩
  | 5, _ => exact ⟨_, _, rfl⟩
  | 6, _ => exact ⟨_, _, rfl⟩
  | 7, _ => exact ⟨_, _, rfl⟩
  | 8, _ => exact ⟨_, _, rfl⟩
  | 9, _ => exact ⟨_, _, rfl⟩
  | 10, _ => exact ⟨_, _, rfl⟩
  | 11, _ => exact ⟨_, _, rfl⟩
  | n + 12, h => omega
end
section
/-! EVERY RULE OF THE ABSTRACT MACHINE IS THE REAL ONE'S. Written by gen_sim.py. -/
def AdA (ad : Nat → Nat) : Nat → Prop := fun q => ∃ h, h < nH ∧ ad h = q
def RetAt (mr : MR) (pc : Nat) (r : Option AV) : Prop := (r = none ∧ decode (mrB mr) pc = .ok (.return_, 1) ∧ mrT mr = none) ∨ ∃ x : Int, r = some (vI x) ∧ decode (mrB mr) pc = .ok (.ireturn, 1) ∧ (mrT mr = some .int ∨ (mrT mr = some .boolean ∧ (x = 0 ∨ x = 1)))
def Cx (Dd : va_G) (ad : Nat → Nat) (cs : ClassId × ClassId × ClassId) (mr : MR) (p : Program) (R : Room) (s : State) (m : MethodId) (args : Array Value) (c : Code) (cells slots : Nat) (A : Nat → Prop) : Prop :=
  p.tables.exec = Jvm.exec ∧ c.code = mrB mr ∧ c.maxLocals = mrN mr ∧ s.vm.findClass (cn (mrC mr)) = some m.cls ∧ (∀ w ∈ lw_good, w.before args s = true) ∧ Wo Dd cs s ∧ DA ad A ∧ (mrF mr ≤ R.frames ∧ mrL mr ≤ R.locals ∧ cells ≤ R.cells ∧ slots ≤ R.slots) ∧ (mrC mr = 13 → ∃ xs : Nat → Int32, va_X (ad nH) (mrS mr) xs s s.heap ∧ ad nH < s.heap.size ∧ ¬ A (ad nH) ∧ (∀ j, j < mrS mr → (xs j).toInt = mrX mr j) ∧ mrS mr < 2147483648)
def RetOK (l : Launch) (Dd : va_G) (ad : Nat → Nat) (cs : ClassId × ClassId × ClassId) (mr : MR) (Q : Po) (p : Program) (e : Env) (R : Room) (s : State) (m : MethodId) (args : Array Value) (below : List Frame) (meth : Method) (c : Code) (cells slots : Nat) (Z : State → Prop) (A : Nat → Prop) : Prop :=
  ∀ (r : Option AV) (M' : Mem) (H' : Heap) (locs' : List Loc) (pc' : Nat) (la' : Array Slot), Q r M' → va_P Dd classes (wsOf ad cs M') H' → va_S A s.heap H' locs' → RetAt mr pc' r → W p l e R s m args below meth c H' locs' cells slots Z (F0 m pc' la' (r.toList.map (cv ad)))
def PS (l : Launch) (Dd : va_G) (ad : Nat → Nat) (cs : ClassId × ClassId × ClassId) : AP := fun mr pc lst st M Q => ∀ (p : Program) (e : Env) (R : Room) (s : State) (m : MethodId) (args : Array Value) (below : List Frame) (meth : Method) (c : Code) (H : Heap) (locs : List Loc) (cells slots : Nat) (Z : State → Prop) (A : Nat → Prop) (la : Array Slot), Cx Dd ad cs mr p R s m args c cells slots A → va_P Dd classes (wsOf ad cs M) H → va_S A s.heap H locs → LR ad la (mrN mr) lst → RetOK l Dd ad cs mr Q p e R s m args below meth c cells slots Z A → W p l e R s m args below meth c H locs cells slots Z (F0 m pc la (st.map (cv ad)))
theorem oi_lt {x y : Int} (hx : InR x) (hy : InR y) : Int32.ofInt x < Int32.ofInt y ↔ x < y := Int32.ofInt_lt_iff_lt hx.1 hx.2 hy.1 hy.2
theorem oi_le {x y : Int} (hx : InR x) (hy : InR y) : Int32.ofInt x ≤ Int32.ofInt y ↔ x ≤ y := Int32.ofInt_le_iff_le hx.1 hx.2 hy.1 hy.2
theorem oi_eq {x y : Int} (hx : InR x) (hy : InR y) : Int32.ofInt x = Int32.ofInt y ↔ x = y := by
  constructor
  · intro h
    have h1 := (oi_le hx hy).mp (by rw [h]; exact Int32.le_refl _)
    have h2 := (oi_le hy hx).mp (by rw [h]; exact Int32.le_refl _)
    omega
  · intro h
    rw [h]
theorem oi_0 : (0 : Int32) = Int32.ofInt 0 := by decide +kernel
theorem in0 : InR 0 := by decide
theorem oi_clamp {i : Int} (h0 : 0 ≤ i) (h1 : i < 2147483648) : (Int32.ofInt i).toNatClampNeg = i.toNat := by
  show (Int32.ofInt i).toInt.toNat = i.toNat
  rw [Int32.toInt_ofInt_of_le (by omega) (by omega)]
theorem oi_in {i : Int} {n : Nat} (h : 0 ≤ i ∧ i < n) (hn : n < 2147483648) : vp_in (Int32.ofInt i) n := by
  rw [vp_in_iff, Int32.toInt_ofInt_of_le (by omega) (by omega)]
  exact h
theorem oi_get {M : Mem} {h n : Nat} {i : Int} (hi : 0 ≤ i ∧ i < n) (hn : n < 2147483648) : M h ((Int32.ofInt i).toNatClampNeg : Nat) = M h i := by
  rw [oi_clamp hi.1 (by omega), Int.toNat_of_nonneg hi.1]
theorem up_ne {M : Mem} {h h' : Nat} {i v : Int} (hn : h' ≠ h) : up M h i v h' = M h' := by simp [up, hn]
theorem up_eq {M : Mem} {h : Nat} {i v : Int} : up M h i v h = fun i' => if i' = i then v else M h i' := by simp [up]
theorem upd_oi {M : Mem} {h n : Nat} {i x : Int} (hi : 0 ≤ i ∧ i < n) (hn : n < 2147483648) : (fun j : Nat => Int32.ofInt (up M h i x h j)) = upd (fun j : Nat => Int32.ofInt (M h j)) (Int32.ofInt i).toNatClampNeg (Int32.ofInt x) := by
  funext j
  rw [up_eq, oi_clamp hi.1 (by omega)]
  dsimp only
  by_cases e : j = i.toNat
  · have e2 : (j : Int) = i := by omega
    rw [if_pos e2, e, pk_us]
  · have e2 : ¬ (j : Int) = i := by omega
    rw [if_neg e2, pk_un e]
theorem upd_ol {M : Mem} {h n : Nat} {i x : Int} (hi : 0 ≤ i ∧ i < n) (hn : n < 2147483648) : (fun j : Nat => Int64.ofInt (up M h i x h j)) = vp_updL (fun j : Nat => Int64.ofInt (M h j)) (Int32.ofInt i).toNatClampNeg (Int64.ofInt x) := by
  funext j
  rw [up_eq, oi_clamp hi.1 (by omega)]
  dsimp only
  by_cases e : j = i.toNat
  · have e2 : (j : Int) = i := by omega
    rw [if_pos e2, e, pk_uLs]
  · have e2 : ¬ (j : Int) = i := by omega
    rw [if_neg e2, pk_uLn e]
theorem wt_cat (ad : Nat → Nat) (st : List AV) : ((st.map (cv ad)).map fun v => v.category).sum = wt st := by
  unfold wt
  rw [List.map_map]
  congr 1
  apply List.map_congr_left
  intro v _
  exact cat_cv ad v

theorem lw_nat : Cond.native arraycopyName ∈ lw_good ∧ Cond.static arraycopyName ∈ lw_good ∧ Cond.initialized "java/lang/System" ∈ lw_good := ⟨List.mem_filter.mpr ⟨List.mem_append_right _ (List.mem_of_getElem? (i := 636) (by decide +kernel)), rfl⟩, List.mem_filter.mpr ⟨List.mem_append_right _ (List.mem_of_getElem? (i := 635) (by decide +kernel)), rfl⟩, List.mem_filter.mpr ⟨List.mem_append_right _ (List.mem_of_getElem? (i := 15) (by decide +kernel)), rfl⟩⟩
theorem lw_min : Cond.static Lib.Math.min.name ∈ lw_good ∧ Cond.initialized "java/lang/Math" ∈ lw_good ∧ Cond.code Lib.Math.min.name Lib.Math.min.code 2 (some .int) ∈ lw_good := ⟨List.mem_filter.mpr ⟨List.mem_append_right _ (List.mem_of_getElem? (i := 653) (by decide +kernel)), rfl⟩, List.mem_filter.mpr ⟨List.mem_append_right _ (List.mem_of_getElem? (i := 14) (by decide +kernel)), rfl⟩, List.mem_filter.mpr ⟨List.mem_append_right _ (List.mem_of_getElem? (i := 654) (by decide +kernel)), rfl⟩⟩
theorem lw_max : Cond.static Lib.Math.max.name ∈ lw_good ∧ Cond.initialized "java/lang/Math" ∈ lw_good ∧ Cond.code Lib.Math.max.name Lib.Math.max.code 2 (some .int) ∈ lw_good := ⟨List.mem_filter.mpr ⟨List.mem_append_right _ (List.mem_of_getElem? (i := 495) (by decide +kernel)), rfl⟩, List.mem_filter.mpr ⟨List.mem_append_right _ (List.mem_of_getElem? (i := 14) (by decide +kernel)), rfl⟩, List.mem_filter.mpr ⟨List.mem_append_right _ (List.mem_of_getElem? (i := 496) (by decide +kernel)), rfl⟩⟩
theorem S_iconst (l : Launch) (Dd : va_G) (ad : Nat → Nat) (cs : ClassId × ClassId × ClassId) : R_iconst (PS l Dd ad cs) := by
  intro mr pc ls st M Q n h0 k0 p e R s m args below meth c H locs cells slots Z A la X hP hS hL hret
  obtain ⟨hx, hb, hml, hown, hts, hWo, hDA, hroom, hscr⟩ := id X
  exact lv_iconst hx hb h0 rfl (k0 p e R s m args below meth c H locs cells slots Z A la X hP hS hL hret)
theorem S_bipush (l : Launch) (Dd : va_G) (ad : Nat → Nat) (cs : ClassId × ClassId × ClassId) : R_bipush (PS l Dd ad cs) := by
  intro mr pc ls st M Q n h0 h1 k0 p e R s m args below meth c H locs cells slots Z A la X hP hS hL hret
  obtain ⟨hx, hb, hml, hown, hts, hWo, hDA, hroom, hscr⟩ := id X
  exact lv_bipush hx hb h0 h1 (k0 p e R s m args below meth c H locs cells slots Z A la X hP hS hL hret)
theorem S_sipush (l : Launch) (Dd : va_G) (ad : Nat → Nat) (cs : ClassId × ClassId × ClassId) : R_sipush (PS l Dd ad cs) := by
  intro mr pc ls st M Q n h0 h1 k0 p e R s m args below meth c H locs cells slots Z A la X hP hS hL hret
  obtain ⟨hx, hb, hml, hown, hts, hWo, hDA, hroom, hscr⟩ := id X
  exact lv_sipush hx hb h0 h1 (k0 p e R s m args below meth c H locs cells slots Z A la X hP hS hL hret)
theorem S_ldc (l : Launch) (Dd : va_G) (ad : Nat → Nat) (cs : ClassId × ClassId × ClassId) : R_ldc (PS l Dd ad cs) := by
  intro mr pc ls st M Q ix n h0 h1 k0 p e R s m args below meth c H locs cells slots Z A la X hP hS hL hret
  obtain ⟨hx, hb, hml, hown, hts, hWo, hDA, hroom, hscr⟩ := id X
  exact lv_ldc hx hb hown (hts _ h1) h0 (k0 p e R s m args below meth c H locs cells slots Z A la X hP hS hL hret)
theorem S_ldc2 (l : Launch) (Dd : va_G) (ad : Nat → Nat) (cs : ClassId × ClassId × ClassId) : R_ldc2 (PS l Dd ad cs) := by
  intro mr pc ls st M Q ix n h0 h1 k0 p e R s m args below meth c H locs cells slots Z A la X hP hS hL hret
  obtain ⟨hx, hb, hml, hown, hts, hWo, hDA, hroom, hscr⟩ := id X
  exact lv_ldc2 hx hb hown (hts _ h1) h0 (k0 p e R s m args below meth c H locs cells slots Z A la X hP hS hL hret)
theorem S_lconst (l : Launch) (Dd : va_G) (ad : Nat → Nat) (cs : ClassId × ClassId × ClassId) : R_lconst (PS l Dd ad cs) := by
  intro mr pc ls st M Q k n h0 h1 k0 p e R s m args below meth c H locs cells slots Z A la X hP hS hL hret
  obtain ⟨hx, hb, hml, hown, hts, hWo, hDA, hroom, hscr⟩ := id X
  exact lv_lconst hx hb h0 h1 (k0 p e R s m args below meth c H locs cells slots Z A la X hP hS hL hret)
theorem S_iload_n (l : Launch) (Dd : va_G) (ad : Nat → Nat) (cs : ClassId × ClassId × ClassId) : R_iload_n (PS l Dd ad cs) := by
  intro mr pc ls st M Q k x h0 h1 k0 p e R s m args below meth c H locs cells slots Z A la X hP hS hL hret
  obtain ⟨hx, hb, hml, hown, hts, hWo, hDA, hroom, hscr⟩ := id X
  exact lv_iload_n hx hb h0 rfl (hL.2.2 _ _ h1) (k0 p e R s m args below meth c H locs cells slots Z A la X hP hS hL hret)
theorem S_iload (l : Launch) (Dd : va_G) (ad : Nat → Nat) (cs : ClassId × ClassId × ClassId) : R_iload (PS l Dd ad cs) := by
  intro mr pc ls st M Q k x h0 h1 k0 p e R s m args below meth c H locs cells slots Z A la X hP hS hL hret
  obtain ⟨hx, hb, hml, hown, hts, hWo, hDA, hroom, hscr⟩ := id X
  exact lv_iload hx hb h0 (hL.2.2 _ _ h1) (k0 p e R s m args below meth c H locs cells slots Z A la X hP hS hL hret)
theorem S_lload_n (l : Launch) (Dd : va_G) (ad : Nat → Nat) (cs : ClassId × ClassId × ClassId) : R_lload_n (PS l Dd ad cs) := by
  intro mr pc ls st M Q k x h0 h1 k0 p e R s m args below meth c H locs cells slots Z A la X hP hS hL hret
  obtain ⟨hx, hb, hml, hown, hts, hWo, hDA, hroom, hscr⟩ := id X
  exact lv_lload_n hx hb h0 rfl (hL.2.2 _ _ h1) (k0 p e R s m args below meth c H locs cells slots Z A la X hP hS hL hret)
theorem S_lload (l : Launch) (Dd : va_G) (ad : Nat → Nat) (cs : ClassId × ClassId × ClassId) : R_lload (PS l Dd ad cs) := by
  intro mr pc ls st M Q k x h0 h1 k0 p e R s m args below meth c H locs cells slots Z A la X hP hS hL hret
  obtain ⟨hx, hb, hml, hown, hts, hWo, hDA, hroom, hscr⟩ := id X
  exact lv_lload hx hb h0 (hL.2.2 _ _ h1) (k0 p e R s m args below meth c H locs cells slots Z A la X hP hS hL hret)
theorem S_aload_n (l : Launch) (Dd : va_G) (ad : Nat → Nat) (cs : ClassId × ClassId × ClassId) : R_aload_n (PS l Dd ad cs) := by
  intro mr pc ls st M Q k x h0 h1 k0 p e R s m args below meth c H locs cells slots Z A la X hP hS hL hret
  obtain ⟨hx, hb, hml, hown, hts, hWo, hDA, hroom, hscr⟩ := id X
  exact lv_aload_n hx hb h0 rfl (hL.2.2 _ _ h1) (k0 p e R s m args below meth c H locs cells slots Z A la X hP hS hL hret)
theorem S_aload (l : Launch) (Dd : va_G) (ad : Nat → Nat) (cs : ClassId × ClassId × ClassId) : R_aload (PS l Dd ad cs) := by
  intro mr pc ls st M Q k x h0 h1 k0 p e R s m args below meth c H locs cells slots Z A la X hP hS hL hret
  obtain ⟨hx, hb, hml, hown, hts, hWo, hDA, hroom, hscr⟩ := id X
  exact lv_aload hx hb h0 (hL.2.2 _ _ h1) (k0 p e R s m args below meth c H locs cells slots Z A la X hP hS hL hret)
theorem S_istore_n (l : Launch) (Dd : va_G) (ad : Nat → Nat) (cs : ClassId × ClassId × ClassId) : R_istore_n (PS l Dd ad cs) := by
  intro mr pc ls st M Q k ls2 x h0 h1 h2 k0 p e R s m args below meth c H locs cells slots Z A la X hP hS hL hret
  obtain ⟨hx, hb, hml, hown, hts, hWo, hDA, hroom, hscr⟩ := id X
  exact lv_istore_n hx hb h0 rfl hL.has h1 rfl (fun la2 hl2 => k0 p e R s m args below meth c H locs cells slots Z A la2 X hP hS (h2 ▸ LR.store (v := vI x) hl2) hret)
theorem S_istore (l : Launch) (Dd : va_G) (ad : Nat → Nat) (cs : ClassId × ClassId × ClassId) : R_istore (PS l Dd ad cs) := by
  intro mr pc ls st M Q k ls2 x h0 h1 h2 k0 p e R s m args below meth c H locs cells slots Z A la X hP hS hL hret
  obtain ⟨hx, hb, hml, hown, hts, hWo, hDA, hroom, hscr⟩ := id X
  exact lv_istore hx hb h0 hL.has h1 rfl (fun la2 hl2 => k0 p e R s m args below meth c H locs cells slots Z A la2 X hP hS (h2 ▸ LR.store (v := vI x) hl2) hret)
theorem S_lstore_n (l : Launch) (Dd : va_G) (ad : Nat → Nat) (cs : ClassId × ClassId × ClassId) : R_lstore_n (PS l Dd ad cs) := by
  intro mr pc ls st M Q k ls2 x h0 h1 h2 k0 p e R s m args below meth c H locs cells slots Z A la X hP hS hL hret
  obtain ⟨hx, hb, hml, hown, hts, hWo, hDA, hroom, hscr⟩ := id X
  exact lv_lstore_n hx hb h0 rfl hL.has h1 rfl (fun la2 hl2 => k0 p e R s m args below meth c H locs cells slots Z A la2 X hP hS (h2 ▸ LR.store2 (v := vL x) hl2) hret)
theorem S_lstore (l : Launch) (Dd : va_G) (ad : Nat → Nat) (cs : ClassId × ClassId × ClassId) : R_lstore (PS l Dd ad cs) := by
  intro mr pc ls st M Q k ls2 x h0 h1 h2 k0 p e R s m args below meth c H locs cells slots Z A la X hP hS hL hret
  obtain ⟨hx, hb, hml, hown, hts, hWo, hDA, hroom, hscr⟩ := id X
  exact lv_lstore hx hb h0 hL.has h1 rfl (fun la2 hl2 => k0 p e R s m args below meth c H locs cells slots Z A la2 X hP hS (h2 ▸ LR.store2 (v := vL x) hl2) hret)
theorem S_astore_n (l : Launch) (Dd : va_G) (ad : Nat → Nat) (cs : ClassId × ClassId × ClassId) : R_astore_n (PS l Dd ad cs) := by
  intro mr pc ls st M Q k ls2 x h0 h1 h2 k0 p e R s m args below meth c H locs cells slots Z A la X hP hS hL hret
  obtain ⟨hx, hb, hml, hown, hts, hWo, hDA, hroom, hscr⟩ := id X
  exact lv_astore_n hx hb h0 rfl hL.has h1 rfl (fun la2 hl2 => k0 p e R s m args below meth c H locs cells slots Z A la2 X hP hS (h2 ▸ LR.store (v := vR x) hl2) hret)
theorem S_astore (l : Launch) (Dd : va_G) (ad : Nat → Nat) (cs : ClassId × ClassId × ClassId) : R_astore (PS l Dd ad cs) := by
  intro mr pc ls st M Q k ls2 x h0 h1 h2 k0 p e R s m args below meth c H locs cells slots Z A la X hP hS hL hret
  obtain ⟨hx, hb, hml, hown, hts, hWo, hDA, hroom, hscr⟩ := id X
  exact lv_astore hx hb h0 hL.has h1 rfl (fun la2 hl2 => k0 p e R s m args below meth c H locs cells slots Z A la2 X hP hS (h2 ▸ LR.store (v := vR x) hl2) hret)
theorem S_iinc (l : Launch) (Dd : va_G) (ad : Nat → Nat) (cs : ClassId × ClassId × ClassId) : R_iinc (PS l Dd ad cs) := by
  intro mr pc ls st M Q k n x ls2 h0 h1 h2 h3 k0 p e R s m args below meth c H locs cells slots Z A la X hP hS hL hret
  obtain ⟨hx, hb, hml, hown, hts, hWo, hDA, hroom, hscr⟩ := id X
  obtain ⟨q, hq⟩ := List.getElem?_of_mem (asc_mem (ad := ad) h1)
  exact lv_iinc hx hb h0 hL.has hq (v := Int32.ofInt (x + n)) (by rw [Int32.ofInt_add]) h2 rfl (fun la2 hl2 => k0 p e R s m args below meth c H locs cells slots Z A la2 X hP hS (h3 ▸ LR.store (v := vI (x + n)) hl2) hret)
theorem S_iadd (l : Launch) (Dd : va_G) (ad : Nat → Nat) (cs : ClassId × ClassId × ClassId) : R_iadd (PS l Dd ad cs) := by
  intro mr pc ls st M Q x y h0 k0 p e R s m args below meth c H locs cells slots Z A la X hP hS hL hret
  obtain ⟨hx, hb, hml, hown, hts, hWo, hDA, hroom, hscr⟩ := id X
  have h : W p l e R s m args below meth c H locs cells slots Z (F0 m (pc + 1) la (.int (Int32.ofInt (x + y)) :: st.map (cv ad))) := k0 p e R s m args below meth c H locs cells slots Z A la X hP hS hL hret
  rw [Int32.ofInt_add] at h
  exact lv_iadd hx hb h0 h
theorem S_isub (l : Launch) (Dd : va_G) (ad : Nat → Nat) (cs : ClassId × ClassId × ClassId) : R_isub (PS l Dd ad cs) := by
  intro mr pc ls st M Q x y h0 k0 p e R s m args below meth c H locs cells slots Z A la X hP hS hL hret
  obtain ⟨hx, hb, hml, hown, hts, hWo, hDA, hroom, hscr⟩ := id X
  have h : W p l e R s m args below meth c H locs cells slots Z (F0 m (pc + 1) la (.int (Int32.ofInt (x - y)) :: st.map (cv ad))) := k0 p e R s m args below meth c H locs cells slots Z A la X hP hS hL hret
  rw [Int32.ofInt_sub] at h
  exact lv_isub hx hb h0 h
theorem S_imul (l : Launch) (Dd : va_G) (ad : Nat → Nat) (cs : ClassId × ClassId × ClassId) : R_imul (PS l Dd ad cs) := by
  intro mr pc ls st M Q x y h0 k0 p e R s m args below meth c H locs cells slots Z A la X hP hS hL hret
  obtain ⟨hx, hb, hml, hown, hts, hWo, hDA, hroom, hscr⟩ := id X
  have h : W p l e R s m args below meth c H locs cells slots Z (F0 m (pc + 1) la (.int (Int32.ofInt (x * y)) :: st.map (cv ad))) := k0 p e R s m args below meth c H locs cells slots Z A la X hP hS hL hret
  rw [Int32.ofInt_mul] at h
  exact lv_imul hx hb h0 h
theorem S_idiv (l : Launch) (Dd : va_G) (ad : Nat → Nat) (cs : ClassId × ClassId × ClassId) : R_idiv (PS l Dd ad cs) := by
  intro mr pc ls st M Q x y h0 h1 h2 k0 p e R s m args below meth c H locs cells slots Z A la X hP hS hL hret
  obtain ⟨hx, hb, hml, hown, hts, hWo, hDA, hroom, hscr⟩ := id X
  have h : W p l e R s m args below meth c H locs cells slots Z (F0 m (pc + 1) la (.int (Int32.ofInt (x / y)) :: st.map (cv ad))) := k0 p e R s m args below meth c H locs cells slots Z A la X hP hS hL hret
  have e1 : x / y = x.tdiv y := (Int.tdiv_eq_ediv_of_nonneg h1.1).symm
  rw [e1, Int32.ofInt_tdiv (by show (-2147483648 : Int) ≤ x; omega) (by show x ≤ 2147483647; omega) (by show (-2147483648 : Int) ≤ y; omega) (by show y ≤ 2147483647; omega)] at h
  exact lv_idiv hx hb h0 (by rw [oi_0, oi_eq (by omega) in0]; omega) h
theorem S_irem (l : Launch) (Dd : va_G) (ad : Nat → Nat) (cs : ClassId × ClassId × ClassId) : R_irem (PS l Dd ad cs) := by
  intro mr pc ls st M Q x y h0 h1 h2 k0 p e R s m args below meth c H locs cells slots Z A la X hP hS hL hret
  obtain ⟨hx, hb, hml, hown, hts, hWo, hDA, hroom, hscr⟩ := id X
  have h : W p l e R s m args below meth c H locs cells slots Z (F0 m (pc + 1) la (.int (Int32.ofInt (x % y)) :: st.map (cv ad))) := k0 p e R s m args below meth c H locs cells slots Z A la X hP hS hL hret
  have e1 : x / y = x.tdiv y := (Int.tdiv_eq_ediv_of_nonneg h1.1).symm
  have e2 : x % y = x - x / y * y := by rw [Int.mul_comm, Int.emod_def]
  rw [e2, e1, Int32.ofInt_sub, Int32.ofInt_mul, Int32.ofInt_tdiv (by show (-2147483648 : Int) ≤ x; omega) (by show x ≤ 2147483647; omega) (by show (-2147483648 : Int) ≤ y; omega) (by show y ≤ 2147483647; omega)] at h
  exact lv_irem hx hb h0 (by rw [oi_0, oi_eq (by omega) in0]; omega) h
theorem S_iand (l : Launch) (Dd : va_G) (ad : Nat → Nat) (cs : ClassId × ClassId × ClassId) : R_iand (PS l Dd ad cs) := by
  intro mr pc ls st M Q x y h0 k0 p e R s m args below meth c H locs cells slots Z A la X hP hS hL hret
  obtain ⟨hx, hb, hml, hown, hts, hWo, hDA, hroom, hscr⟩ := id X
  have h : W p l e R s m args below meth c H locs cells slots Z (F0 m (pc + 1) la (.int (Int32.ofInt (Int32.ofInt x &&& Int32.ofInt y).toInt) :: st.map (cv ad))) := k0 p e R s m args below meth c H locs cells slots Z A la X hP hS hL hret
  rw [Int32.ofInt_toInt] at h
  exact lv_iand hx hb h0 h
theorem S_i2l (l : Launch) (Dd : va_G) (ad : Nat → Nat) (cs : ClassId × ClassId × ClassId) : R_i2l (PS l Dd ad cs) := by
  intro mr pc ls st M Q x h0 h1 k0 p e R s m args below meth c H locs cells slots Z A la X hP hS hL hret
  obtain ⟨hx, hb, hml, hown, hts, hWo, hDA, hroom, hscr⟩ := id X
  exact lv_i2l hx hb h0 (Int32.toInt64_ofInt h1.1 h1.2) (k0 p e R s m args below meth c H locs cells slots Z A la X hP hS hL hret)
theorem S_l2i (l : Launch) (Dd : va_G) (ad : Nat → Nat) (cs : ClassId × ClassId × ClassId) : R_l2i (PS l Dd ad cs) := by
  intro mr pc ls st M Q x h0 k0 p e R s m args below meth c H locs cells slots Z A la X hP hS hL hret
  obtain ⟨hx, hb, hml, hown, hts, hWo, hDA, hroom, hscr⟩ := id X
  exact lv_l2i hx hb h0 Int64.toInt32_ofInt (k0 p e R s m args below meth c H locs cells slots Z A la X hP hS hL hret)
theorem S_ladd (l : Launch) (Dd : va_G) (ad : Nat → Nat) (cs : ClassId × ClassId × ClassId) : R_ladd (PS l Dd ad cs) := by
  intro mr pc ls st M Q x y h0 k0 p e R s m args below meth c H locs cells slots Z A la X hP hS hL hret
  obtain ⟨hx, hb, hml, hown, hts, hWo, hDA, hroom, hscr⟩ := id X
  have h : W p l e R s m args below meth c H locs cells slots Z (F0 m (pc + 1) la (.long (Int64.ofInt (x + y)) :: st.map (cv ad))) := k0 p e R s m args below meth c H locs cells slots Z A la X hP hS hL hret
  rw [Int64.ofInt_add] at h
  exact lv_ladd hx hb h0 h
theorem S_lmul (l : Launch) (Dd : va_G) (ad : Nat → Nat) (cs : ClassId × ClassId × ClassId) : R_lmul (PS l Dd ad cs) := by
  intro mr pc ls st M Q x y h0 k0 p e R s m args below meth c H locs cells slots Z A la X hP hS hL hret
  obtain ⟨hx, hb, hml, hown, hts, hWo, hDA, hroom, hscr⟩ := id X
  have h : W p l e R s m args below meth c H locs cells slots Z (F0 m (pc + 1) la (.long (Int64.ofInt (x * y)) :: st.map (cv ad))) := k0 p e R s m args below meth c H locs cells slots Z A la X hP hS hL hret
  rw [Int64.ofInt_mul] at h
  exact lv_lmul hx hb h0 h
theorem S_land (l : Launch) (Dd : va_G) (ad : Nat → Nat) (cs : ClassId × ClassId × ClassId) : R_land (PS l Dd ad cs) := by
  intro mr pc ls st M Q x y h0 k0 p e R s m args below meth c H locs cells slots Z A la X hP hS hL hret
  obtain ⟨hx, hb, hml, hown, hts, hWo, hDA, hroom, hscr⟩ := id X
  have h : W p l e R s m args below meth c H locs cells slots Z (F0 m (pc + 1) la (.long (Int64.ofInt (Int64.ofInt x &&& Int64.ofInt y).toInt) :: st.map (cv ad))) := k0 p e R s m args below meth c H locs cells slots Z A la X hP hS hL hret
  rw [Int64.ofInt_toInt] at h
  exact lv_land hx hb h0 h
theorem S_lor (l : Launch) (Dd : va_G) (ad : Nat → Nat) (cs : ClassId × ClassId × ClassId) : R_lor (PS l Dd ad cs) := by
  intro mr pc ls st M Q x y h0 k0 p e R s m args below meth c H locs cells slots Z A la X hP hS hL hret
  obtain ⟨hx, hb, hml, hown, hts, hWo, hDA, hroom, hscr⟩ := id X
  have h : W p l e R s m args below meth c H locs cells slots Z (F0 m (pc + 1) la (.long (Int64.ofInt (Int64.ofInt x ||| Int64.ofInt y).toInt) :: st.map (cv ad))) := k0 p e R s m args below meth c H locs cells slots Z A la X hP hS hL hret
  rw [Int64.ofInt_toInt] at h
  exact lv_lor hx hb h0 h
theorem S_lshl (l : Launch) (Dd : va_G) (ad : Nat → Nat) (cs : ClassId × ClassId × ClassId) : R_lshl (PS l Dd ad cs) := by
  intro mr pc ls st M Q x y h0 k0 p e R s m args below meth c H locs cells slots Z A la X hP hS hL hret
  obtain ⟨hx, hb, hml, hown, hts, hWo, hDA, hroom, hscr⟩ := id X
  have h : W p l e R s m args below meth c H locs cells slots Z (F0 m (pc + 1) la (.long (Int64.ofInt (Int64.ofInt x <<< ((Int32.ofInt y).toInt64 &&& 63)).toInt) :: st.map (cv ad))) := k0 p e R s m args below meth c H locs cells slots Z A la X hP hS hL hret
  rw [Int64.ofInt_toInt] at h
  exact lv_lshl hx hb h0 rfl h
theorem S_lcmp (l : Launch) (Dd : va_G) (ad : Nat → Nat) (cs : ClassId × ClassId × ClassId) : R_lcmp (PS l Dd ad cs) := by
  intro mr pc ls st M Q x y h0 h1 h2 k0 p e R s m args below meth c H locs cells slots Z A la X hP hS hL hret
  obtain ⟨hx, hb, hml, hown, hts, hWo, hDA, hroom, hscr⟩ := id X
  have h : W p l e R s m args below meth c H locs cells slots Z (F0 m (pc + 1) la (.int (Int32.ofInt (if x > y then 1 else if x = y then 0 else -1)) :: st.map (cv ad))) := k0 p e R s m args below meth c H locs cells slots Z A la X hP hS hL hret
  have e : lg_cmp (Int64.ofInt x) (Int64.ofInt y) = Int32.ofInt (if x > y then 1 else if x = y then 0 else -1) := by
    have g1 : Int64.ofInt y < Int64.ofInt x ↔ y < x := Int64.ofInt_lt_iff_lt h2.1 h2.2 h1.1 h1.2
    have g2 : Int64.ofInt x = Int64.ofInt y ↔ x = y := by
      constructor
      · intro q
        have a1 := (Int64.ofInt_le_iff_le h1.1 h1.2 h2.1 h2.2).mp (by rw [q]; exact Int64.le_refl _)
        have a2 := (Int64.ofInt_le_iff_le h2.1 h2.2 h1.1 h1.2).mp (by rw [q]; exact Int64.le_refl _)
        omega
      · intro q
        rw [q]
    unfold lg_cmp
    simp only [gt_iff_lt, g1, g2]
    repeat' split
    all_goals rfl
  rw [← e] at h
  exact W.lcmp hx hb h0 h
theorem S_dup (l : Launch) (Dd : va_G) (ad : Nat → Nat) (cs : ClassId × ClassId × ClassId) : R_dup (PS l Dd ad cs) := by
  intro mr pc ls st M Q v h0 h1 k0 p e R s m args below meth c H locs cells slots Z A la X hP hS hL hret
  obtain ⟨hx, hb, hml, hown, hts, hWo, hDA, hroom, hscr⟩ := id X
  exact lv_dup hx hb h0 (by rw [cat_cv, if_pos h1]) (k0 p e R s m args below meth c H locs cells slots Z A la X hP hS hL hret)
theorem S_dup2 (l : Launch) (Dd : va_G) (ad : Nat → Nat) (cs : ClassId × ClassId × ClassId) : R_dup2 (PS l Dd ad cs) := by
  intro mr pc ls st M Q v w h0 h1 h2 k0 p e R s m args below meth c H locs cells slots Z A la X hP hS hL hret
  obtain ⟨hx, hb, hml, hown, hts, hWo, hDA, hroom, hscr⟩ := id X
  exact lv_dup2_11 hx hb h0 (by rw [cat_cv, if_pos h1]) (by rw [cat_cv, if_pos h2]) (k0 p e R s m args below meth c H locs cells slots Z A la X hP hS hL hret)
theorem S_getR (l : Launch) (Dd : va_G) (ad : Nat → Nat) (cs : ClassId × ClassId × ClassId) : R_getR (PS l Dd ad cs) := by
  intro mr pc ls st M Q h ix ci k hz fs h0 h1 h2 h3 h4 k0 p e R s m args below meth c H locs cells slots Z A la X hP hS hL hret
  obtain ⟨hx, hb, hml, hown, hts, hWo, hDA, hroom, hscr⟩ := id X
  obtain ⟨C, T, N, g1, g2, g3, g4⟩ := h1
  exact va_get hx hb hts g4 hown hWo.1 hP h (ci := ci) (fs := fv ad M h fs) (by rw [wsOf_get h3, ce_3 h2]) g1 k g2 (hts _ g3) (fun _ q => q) (v := .ref (ad hz)) (by rw [List.getElem?_mapIdx, h4]; rfl) h0 (k0 p e R s m args below meth c H locs cells slots Z A la X hP hS hL hret)
theorem S_getI (l : Launch) (Dd : va_G) (ad : Nat → Nat) (cs : ClassId × ClassId × ClassId) : R_getI (PS l Dd ad cs) := by
  intro mr pc ls st M Q h ix ci k fs h0 h1 h2 h3 h4 k0 p e R s m args below meth c H locs cells slots Z A la X hP hS hL hret
  obtain ⟨hx, hb, hml, hown, hts, hWo, hDA, hroom, hscr⟩ := id X
  obtain ⟨C, T, N, g1, g2, g3, g4⟩ := h1
  exact va_get hx hb hts g4 hown hWo.1 hP h (ci := ci) (fs := fv ad M h fs) (by rw [wsOf_get h3, ce_3 h2]) g1 k g2 (hts _ g3) (fun _ q => q) (v := .int (Int32.ofInt (M h k))) (by rw [List.getElem?_mapIdx, h4]; rfl) h0 (k0 p e R s m args below meth c H locs cells slots Z A la X hP hS hL hret)
theorem S_put (l : Launch) (Dd : va_G) (ad : Nat → Nat) (cs : ClassId × ClassId × ClassId) : R_put (PS l Dd ad cs) := by
  intro mr pc ls st M Q h ix ci k fs x h0 h1 h2 h3 h4 k0 p e R s m args below meth c H locs cells slots Z A la X hP hS hL hret
  obtain ⟨hx, hb, hml, hown, hts, hWo, hDA, hroom, hscr⟩ := id X
  obtain ⟨C, T, N, ty, g1, g2, g3, g4, g5, g6, g7, g8⟩ := h1
  have hkl : k < fs.length := (List.getElem?_eq_some_iff.mp h4).1
  refine va_put hx hb hts g4 ty g5 g6 hown hWo.1 hP hDA.D hS h (ci := ci) (fs := fv ad M h fs) (by rw [wsOf_get h3, ce_3 h2]) g1 k g2 (hts _ g3) (fun _ q => q) g7 (ty := .int) (v := .int (Int32.ofInt x)) (by rw [g5 k g2, g8]) rfl rfl (by simp [fv, hkl]) h0 (fun H1 locs1 hP1 _ hS1 => ?_)
  have ee : ce ad cs (up M h k x) h = .inr (ci, (fv ad M h fs).set k (.int (Int32.ofInt x))) := by
    rw [ce_3 h2]
    congr 2
    apply List.ext_getElem?
    intro j
    by_cases hj : j = k
    · subst hj
      rw [List.getElem?_set_self (by simp [fv, hkl]), List.getElem?_mapIdx, h4]
      simp [up]
    · rw [List.getElem?_set_ne (Ne.symm hj), List.getElem?_mapIdx, List.getElem?_mapIdx]
      have : ¬ ((j : Int) = (k : Int)) := by omega
      simp [up, this]
  rw [wsOf_set h3 (fun h' hn => up_ne hn) ee] at hP1
  exact k0 p e R s m args below meth c H1 locs1 cells slots Z A la X hP1 hS1 hL hret
theorem S_iald (l : Launch) (Dd : va_G) (ad : Nat → Nat) (cs : ClassId × ClassId × ClassId) : R_iald (PS l Dd ad cs) := by
  intro mr pc ls st M Q h_ n i h0 h1 h2 h3 k0 p e R s m args below meth c H locs cells slots Z A la X hP hS hL hret
  obtain ⟨hx, hb, hml, hown, hts, hWo, hDA, hroom, hscr⟩ := id X
  have hn := kd_n h1
  have h : W p l e R s m args below meth c H locs cells slots Z (F0 m (pc + 1) la (.int (Int32.ofInt (M h_ i)) :: st.map (cv ad))) := k0 p e R s m args below meth c H locs cells slots Z A la X hP hS hL hret
  rw [← oi_get (M := M) (h := h_) h3 hn] at h
  exact va_iald hx hb hWo.1 hP h_ 0 (by rw [wsOf_get h2, ce_0 h1]) rfl (oi_in h3 hn) h0 h
theorem S_zald (l : Launch) (Dd : va_G) (ad : Nat → Nat) (cs : ClassId × ClassId × ClassId) : R_zald (PS l Dd ad cs) := by
  intro mr pc ls st M Q h_ n i h0 h1 h2 h3 k0 p e R s m args below meth c H locs cells slots Z A la X hP hS hL hret
  obtain ⟨hx, hb, hml, hown, hts, hWo, hDA, hroom, hscr⟩ := id X
  have hn := kd_n h1
  have h : W p l e R s m args below meth c H locs cells slots Z (F0 m (pc + 1) la (.int (Int32.ofInt (M h_ i)) :: st.map (cv ad))) := k0 p e R s m args below meth c H locs cells slots Z A la X hP hS hL hret
  rw [← oi_get (M := M) (h := h_) h3 hn] at h
  exact va_zald hx hb hWo.1 hP h_ 1 (by rw [wsOf_get h2, ce_1 h1]) rfl (oi_in h3 hn) h0 h
theorem S_lald (l : Launch) (Dd : va_G) (ad : Nat → Nat) (cs : ClassId × ClassId × ClassId) : R_lald (PS l Dd ad cs) := by
  intro mr pc ls st M Q h_ n i h0 h1 h2 h3 k0 p e R s m args below meth c H locs cells slots Z A la X hP hS hL hret
  obtain ⟨hx, hb, hml, hown, hts, hWo, hDA, hroom, hscr⟩ := id X
  have hn := kd_n h1
  have h : W p l e R s m args below meth c H locs cells slots Z (F0 m (pc + 1) la (.long (Int64.ofInt (M h_ i)) :: st.map (cv ad))) := k0 p e R s m args below meth c H locs cells slots Z A la X hP hS hL hret
  rw [← oi_get (M := M) (h := h_) h3 hn] at h
  exact va_lald hx hb hWo.1 hP h_ 2 (by rw [wsOf_get h2, ce_2 h1]) rfl (oi_in h3 hn) h0 h
theorem S_iast (l : Launch) (Dd : va_G) (ad : Nat → Nat) (cs : ClassId × ClassId × ClassId) : R_iast (PS l Dd ad cs) := by
  intro mr pc ls st M Q h_ n i x h0 h1 h2 h3 k0 p e R s m args below meth c H locs cells slots Z A la X hP hS hL hret
  obtain ⟨hx, hb, hml, hown, hts, hWo, hDA, hroom, hscr⟩ := id X
  have hn := kd_n h1
  refine va_iast hx hb hWo.1 hP hDA.D hS h_ 0 (by rw [wsOf_get h2, ce_0 h1]) rfl (oi_in h3 hn) h0 (fun H1 locs1 hP1 _ hS1 => ?_)
  rw [wsOf_set (M' := up M h_ i x) h2 (fun h' hq => up_ne hq) (by rw [ce_0 h1, upd_oi h3 hn])] at hP1
  exact k0 p e R s m args below meth c H1 locs1 cells slots Z A la X hP1 hS1 hL hret
theorem S_zast (l : Launch) (Dd : va_G) (ad : Nat → Nat) (cs : ClassId × ClassId × ClassId) : R_zast (PS l Dd ad cs) := by
  intro mr pc ls st M Q h_ n i x h0 h1 h2 h3 h4 k0 p e R s m args below meth c H locs cells slots Z A la X hP hS hL hret
  obtain ⟨hx, hb, hml, hown, hts, hWo, hDA, hroom, hscr⟩ := id X
  have hn := kd_n h1
  have hnar : vp_nar .boolean (Int32.ofInt x) = Int32.ofInt x := by rcases h4 with rfl | rfl <;> decide +kernel
  refine va_zast hx hb hWo.1 hP hDA.D hS h_ 1 (by rw [wsOf_get h2, ce_1 h1]) rfl (oi_in h3 hn) h0 (fun H1 locs1 hP1 _ hS1 => ?_)
  rw [hnar] at hP1
  rw [wsOf_set (M' := up M h_ i x) h2 (fun h' hq => up_ne hq) (by rw [ce_1 h1, upd_oi h3 hn])] at hP1
  exact k0 p e R s m args below meth c H1 locs1 cells slots Z A la X hP1 hS1 hL hret
theorem S_last (l : Launch) (Dd : va_G) (ad : Nat → Nat) (cs : ClassId × ClassId × ClassId) : R_last (PS l Dd ad cs) := by
  intro mr pc ls st M Q h_ n i x h0 h1 h2 h3 k0 p e R s m args below meth c H locs cells slots Z A la X hP hS hL hret
  obtain ⟨hx, hb, hml, hown, hts, hWo, hDA, hroom, hscr⟩ := id X
  have hn := kd_n h1
  refine va_last hx hb hWo.1 hP hDA.D hS h_ 2 (by rw [wsOf_get h2, ce_2 h1]) rfl (oi_in h3 hn) h0 (fun H1 locs1 hP1 _ hS1 => ?_)
  rw [wsOf_set (M' := up M h_ i x) h2 (fun h' hq => up_ne hq) (by rw [ce_2 h1, upd_ol h3 hn])] at hP1
  exact k0 p e R s m args below meth c H1 locs1 cells slots Z A la X hP1 hS1 hL hret
theorem S_alen (l : Launch) (Dd : va_G) (ad : Nat → Nat) (cs : ClassId × ClassId × ClassId) : R_alen (PS l Dd ad cs) := by
  intro mr pc ls st M Q h_ t n h0 h1 h2 h3 k0 p e R s m args below meth c H locs cells slots Z A la X hP hS hL hret
  obtain ⟨hx, hb, hml, hown, hts, hWo, hDA, hroom, hscr⟩ := id X
  have hn := kd_n h1
  rcases (show t = 0 ∨ t = 1 ∨ t = 2 by omega) with rfl | rfl | rfl
  · exact va_alen hx hb hWo.1 hP h_ 0 (by rw [wsOf_get h3, ce_0 h1]) rfl (v := Int32.ofInt n) rfl h0 (k0 p e R s m args below meth c H locs cells slots Z A la X hP hS hL hret)
  · exact va_alen hx hb hWo.1 hP h_ 1 (by rw [wsOf_get h3, ce_1 h1]) rfl (v := Int32.ofInt n) rfl h0 (k0 p e R s m args below meth c H locs cells slots Z A la X hP hS hL hret)
  · exact va_alen hx hb hWo.1 hP h_ 2 (by rw [wsOf_get h3, ce_2 h1]) rfl (v := Int32.ofInt n) rfl h0 (k0 p e R s m args below meth c H locs cells slots Z A la X hP hS hL hret)
theorem S_sald (l : Launch) (Dd : va_G) (ad : Nat → Nat) (cs : ClassId × ClassId × ClassId) : R_sald (PS l Dd ad cs) := by
  intro mr pc ls st M Q i h0 h1 h2 k0 p e R s m args below meth c H locs cells slots Z A la X hP hS hL hret
  obtain ⟨hx, hb, hml, hown, hts, hWo, hDA, hroom, hscr⟩ := id X
  obtain ⟨xs, g1, g2, g3, g4, hn⟩ := hscr h1
  have h : W p l e R s m args below meth c H locs cells slots Z (F0 m (pc + 1) la (.int (Int32.ofInt (mrX mr i.toNat)) :: st.map (cv ad))) := k0 p e R s m args below meth c H locs cells slots Z A la X hP hS hL hret
  rw [← g4 i.toNat (by omega), Int32.ofInt_toInt, ← oi_clamp h2.1 (by omega)] at h
  exact va_sld hx hb g1 g2 g3 hS (oi_in h2 hn) h0 h
theorem S_slen (l : Launch) (Dd : va_G) (ad : Nat → Nat) (cs : ClassId × ClassId × ClassId) : R_slen (PS l Dd ad cs) := by
  intro mr pc ls st M Q h0 h1 k0 p e R s m args below meth c H locs cells slots Z A la X hP hS hL hret
  obtain ⟨hx, hb, hml, hown, hts, hWo, hDA, hroom, hscr⟩ := id X
  obtain ⟨xs, g1, g2, g3, g4⟩ := hscr h1
  exact va_slen hx hb g1 g2 g3 hS h0 (k0 p e R s m args below meth c H locs cells slots Z A la X hP hS hL hret)
theorem S_if_eq (l : Launch) (Dd : va_G) (ad : Nat → Nat) (cs : ClassId × ClassId × ClassId) : R_if_eq (PS l Dd ad cs) := by
  intro mr pc ls st M Q x off tgt h0 h1 h2 k0 k1 p e R s m args below meth c H locs cells slots Z A la X hP hS hL hret
  obtain ⟨hx, hb, hml, hown, hts, hWo, hDA, hroom, hscr⟩ := id X
  have g := oi_eq h2 in0
  rw [← oi_0] at g
  exact lv_if_eq hx hb h0 h1 (fun hc => k0 (g.mp hc) p e R s m args below meth c H locs cells slots Z A la X hP hS hL hret) (fun hc => k1 (fun q => hc (g.mpr q)) p e R s m args below meth c H locs cells slots Z A la X hP hS hL hret)
theorem S_icmp_eq (l : Launch) (Dd : va_G) (ad : Nat → Nat) (cs : ClassId × ClassId × ClassId) : R_icmp_eq (PS l Dd ad cs) := by
  intro mr pc ls st M Q x y off tgt h0 h1 h2 h3 k0 k1 p e R s m args below meth c H locs cells slots Z A la X hP hS hL hret
  obtain ⟨hx, hb, hml, hown, hts, hWo, hDA, hroom, hscr⟩ := id X
  have g := oi_eq h2 h3
  exact lv_icmp_eq hx hb h0 h1 (fun hc => k0 (g.mp hc) p e R s m args below meth c H locs cells slots Z A la X hP hS hL hret) (fun hc => k1 (fun q => hc (g.mpr q)) p e R s m args below meth c H locs cells slots Z A la X hP hS hL hret)
theorem S_if_ne (l : Launch) (Dd : va_G) (ad : Nat → Nat) (cs : ClassId × ClassId × ClassId) : R_if_ne (PS l Dd ad cs) := by
  intro mr pc ls st M Q x off tgt h0 h1 h2 k0 k1 p e R s m args below meth c H locs cells slots Z A la X hP hS hL hret
  obtain ⟨hx, hb, hml, hown, hts, hWo, hDA, hroom, hscr⟩ := id X
  have g := oi_eq h2 in0
  rw [← oi_0] at g
  exact lv_if_ne hx hb h0 h1 (fun hc => k0 (fun q => hc (g.mpr q)) p e R s m args below meth c H locs cells slots Z A la X hP hS hL hret) (fun hc => k1 (fun q => q (g.mp hc)) p e R s m args below meth c H locs cells slots Z A la X hP hS hL hret)
theorem S_icmp_ne (l : Launch) (Dd : va_G) (ad : Nat → Nat) (cs : ClassId × ClassId × ClassId) : R_icmp_ne (PS l Dd ad cs) := by
  intro mr pc ls st M Q x y off tgt h0 h1 h2 h3 k0 k1 p e R s m args below meth c H locs cells slots Z A la X hP hS hL hret
  obtain ⟨hx, hb, hml, hown, hts, hWo, hDA, hroom, hscr⟩ := id X
  have g := oi_eq h2 h3
  exact lv_icmp_ne hx hb h0 h1 (fun hc => k0 (fun q => hc (g.mpr q)) p e R s m args below meth c H locs cells slots Z A la X hP hS hL hret) (fun hc => k1 (fun q => q (g.mp hc)) p e R s m args below meth c H locs cells slots Z A la X hP hS hL hret)
theorem S_if_lt (l : Launch) (Dd : va_G) (ad : Nat → Nat) (cs : ClassId × ClassId × ClassId) : R_if_lt (PS l Dd ad cs) := by
  intro mr pc ls st M Q x off tgt h0 h1 h2 k0 k1 p e R s m args below meth c H locs cells slots Z A la X hP hS hL hret
  obtain ⟨hx, hb, hml, hown, hts, hWo, hDA, hroom, hscr⟩ := id X
  have g := oi_lt h2 in0
  rw [← oi_0] at g
  exact lv_if_lt hx hb h0 h1 (fun hc => k0 (g.mp hc) p e R s m args below meth c H locs cells slots Z A la X hP hS hL hret) (fun hc => k1 (fun q => hc (g.mpr q)) p e R s m args below meth c H locs cells slots Z A la X hP hS hL hret)
theorem S_icmp_lt (l : Launch) (Dd : va_G) (ad : Nat → Nat) (cs : ClassId × ClassId × ClassId) : R_icmp_lt (PS l Dd ad cs) := by
  intro mr pc ls st M Q x y off tgt h0 h1 h2 h3 k0 k1 p e R s m args below meth c H locs cells slots Z A la X hP hS hL hret
  obtain ⟨hx, hb, hml, hown, hts, hWo, hDA, hroom, hscr⟩ := id X
  have g := oi_lt h2 h3
  exact lv_icmp_lt hx hb h0 h1 (fun hc => k0 (g.mp hc) p e R s m args below meth c H locs cells slots Z A la X hP hS hL hret) (fun hc => k1 (fun q => hc (g.mpr q)) p e R s m args below meth c H locs cells slots Z A la X hP hS hL hret)
theorem S_if_ge (l : Launch) (Dd : va_G) (ad : Nat → Nat) (cs : ClassId × ClassId × ClassId) : R_if_ge (PS l Dd ad cs) := by
  intro mr pc ls st M Q x off tgt h0 h1 h2 k0 k1 p e R s m args below meth c H locs cells slots Z A la X hP hS hL hret
  obtain ⟨hx, hb, hml, hown, hts, hWo, hDA, hroom, hscr⟩ := id X
  have g := oi_le in0 h2
  rw [← oi_0] at g
  exact lv_if_ge hx hb h0 h1 (fun hc => k0 (g.mp hc) p e R s m args below meth c H locs cells slots Z A la X hP hS hL hret) (fun hc => k1 (fun q => hc (g.mpr q)) p e R s m args below meth c H locs cells slots Z A la X hP hS hL hret)
theorem S_icmp_ge (l : Launch) (Dd : va_G) (ad : Nat → Nat) (cs : ClassId × ClassId × ClassId) : R_icmp_ge (PS l Dd ad cs) := by
  intro mr pc ls st M Q x y off tgt h0 h1 h2 h3 k0 k1 p e R s m args below meth c H locs cells slots Z A la X hP hS hL hret
  obtain ⟨hx, hb, hml, hown, hts, hWo, hDA, hroom, hscr⟩ := id X
  have g := oi_le h3 h2
  exact lv_icmp_ge hx hb h0 h1 (fun hc => k0 (g.mp hc) p e R s m args below meth c H locs cells slots Z A la X hP hS hL hret) (fun hc => k1 (fun q => hc (g.mpr q)) p e R s m args below meth c H locs cells slots Z A la X hP hS hL hret)
theorem S_if_gt (l : Launch) (Dd : va_G) (ad : Nat → Nat) (cs : ClassId × ClassId × ClassId) : R_if_gt (PS l Dd ad cs) := by
  intro mr pc ls st M Q x off tgt h0 h1 h2 k0 k1 p e R s m args below meth c H locs cells slots Z A la X hP hS hL hret
  obtain ⟨hx, hb, hml, hown, hts, hWo, hDA, hroom, hscr⟩ := id X
  have g := oi_lt in0 h2
  rw [← oi_0] at g
  exact lv_if_gt hx hb h0 h1 (fun hc => k0 (g.mp hc) p e R s m args below meth c H locs cells slots Z A la X hP hS hL hret) (fun hc => k1 (fun q => hc (g.mpr q)) p e R s m args below meth c H locs cells slots Z A la X hP hS hL hret)
theorem S_icmp_gt (l : Launch) (Dd : va_G) (ad : Nat → Nat) (cs : ClassId × ClassId × ClassId) : R_icmp_gt (PS l Dd ad cs) := by
  intro mr pc ls st M Q x y off tgt h0 h1 h2 h3 k0 k1 p e R s m args below meth c H locs cells slots Z A la X hP hS hL hret
  obtain ⟨hx, hb, hml, hown, hts, hWo, hDA, hroom, hscr⟩ := id X
  have g := oi_lt h3 h2
  exact lv_icmp_gt hx hb h0 h1 (fun hc => k0 (g.mp hc) p e R s m args below meth c H locs cells slots Z A la X hP hS hL hret) (fun hc => k1 (fun q => hc (g.mpr q)) p e R s m args below meth c H locs cells slots Z A la X hP hS hL hret)
theorem S_if_le (l : Launch) (Dd : va_G) (ad : Nat → Nat) (cs : ClassId × ClassId × ClassId) : R_if_le (PS l Dd ad cs) := by
  intro mr pc ls st M Q x off tgt h0 h1 h2 k0 k1 p e R s m args below meth c H locs cells slots Z A la X hP hS hL hret
  obtain ⟨hx, hb, hml, hown, hts, hWo, hDA, hroom, hscr⟩ := id X
  have g := oi_le h2 in0
  rw [← oi_0] at g
  exact lv_if_le hx hb h0 h1 (fun hc => k0 (g.mp hc) p e R s m args below meth c H locs cells slots Z A la X hP hS hL hret) (fun hc => k1 (fun q => hc (g.mpr q)) p e R s m args below meth c H locs cells slots Z A la X hP hS hL hret)
theorem S_icmp_le (l : Launch) (Dd : va_G) (ad : Nat → Nat) (cs : ClassId × ClassId × ClassId) : R_icmp_le (PS l Dd ad cs) := by
  intro mr pc ls st M Q x y off tgt h0 h1 h2 h3 k0 k1 p e R s m args below meth c H locs cells slots Z A la X hP hS hL hret
  obtain ⟨hx, hb, hml, hown, hts, hWo, hDA, hroom, hscr⟩ := id X
  have g := oi_le h2 h3
  exact lv_icmp_le hx hb h0 h1 (fun hc => k0 (g.mp hc) p e R s m args below meth c H locs cells slots Z A la X hP hS hL hret) (fun hc => k1 (fun q => hc (g.mpr q)) p e R s m args below meth c H locs cells slots Z A la X hP hS hL hret)
theorem S_goto (l : Launch) (Dd : va_G) (ad : Nat → Nat) (cs : ClassId × ClassId × ClassId) : R_goto (PS l Dd ad cs) := by
  intro mr pc ls st M Q off tgt h0 h1 k0 p e R s m args below meth c H locs cells slots Z A la X hP hS hL hret
  obtain ⟨hx, hb, hml, hown, hts, hWo, hDA, hroom, hscr⟩ := id X
  exact lv_goto hx hb h0 h1 (k0 p e R s m args below meth c H locs cells slots Z A la X hP hS hL hret)
theorem S_tblO (l : Launch) (Dd : va_G) (ad : Nat → Nat) (cs : ClassId × ClassId × ClassId) : R_tblO (PS l Dd ad cs) := by
  intro mr pc ls st M Q x dflt lo hi offs len tgt h0 h1 h2 h3 k0 p e R s m args below meth c H locs cells slots Z A la X hP hS hL hret
  obtain ⟨hx, hb, hml, hown, hts, hWo, hDA, hroom, hscr⟩ := id X
  have g : (Int32.ofInt x).toInt = x := Int32.toInt_ofInt_of_le (by omega) (by omega)
  exact lv_tableOut hx hb h0 (by rw [g]; exact h2) h3 (k0 p e R s m args below meth c H locs cells slots Z A la X hP hS hL hret)
theorem S_tblI (l : Launch) (Dd : va_G) (ad : Nat → Nat) (cs : ClassId × ClassId × ClassId) : R_tblI (PS l Dd ad cs) := by
  intro mr pc ls st M Q x dflt lo hi off offs len tgt h0 h1 h2 h3 h4 h5 k0 p e R s m args below meth c H locs cells slots Z A la X hP hS hL hret
  obtain ⟨hx, hb, hml, hown, hts, hWo, hDA, hroom, hscr⟩ := id X
  have g : (Int32.ofInt x).toInt = x := Int32.toInt_ofInt_of_le (by omega) (by omega)
  exact lv_tableIn hx hb h0 (by rw [g]; exact h2) (by rw [g]; exact h3) (by rw [g]; exact h4) h5 (k0 p e R s m args below meth c H locs cells slots Z A la X hP hS hL hret)
theorem S_vret (l : Launch) (Dd : va_G) (ad : Nat → Nat) (cs : ClassId × ClassId × ClassId) : R_vret (PS l Dd ad cs) := by
  intro mr pc ls st M Q h0 h1 h2 p e R s m args below meth c H locs cells slots Z A la X hP hS hL hret
  obtain ⟨hx, hb, hml, hown, hts, hWo, hDA, hroom, hscr⟩ := id X
  exact hret none M H locs pc la h2 hP hS (Or.inl ⟨rfl, h0, h1⟩)
theorem S_iret (l : Launch) (Dd : va_G) (ad : Nat → Nat) (cs : ClassId × ClassId × ClassId) : R_iret (PS l Dd ad cs) := by
  intro mr pc ls st M Q x h0 h1 h2 p e R s m args below meth c H locs cells slots Z A la X hP hS hL hret
  obtain ⟨hx, hb, hml, hown, hts, hWo, hDA, hroom, hscr⟩ := id X
  exact hret (some (vI x)) M H locs pc la h2 hP hS (Or.inr ⟨x, rfl, h0, Or.inl h1⟩)
theorem S_zret (l : Launch) (Dd : va_G) (ad : Nat → Nat) (cs : ClassId × ClassId × ClassId) : R_zret (PS l Dd ad cs) := by
  intro mr pc ls st M Q x h0 h1 h2 h3 p e R s m args below meth c H locs cells slots Z A la X hP hS hL hret
  obtain ⟨hx, hb, hml, hown, hts, hWo, hDA, hroom, hscr⟩ := id X
  exact hret (some (vI x)) M H locs pc la h3 hP hS (Or.inr ⟨x, rfl, h0, Or.inr ⟨h1, h2⟩⟩)
theorem S_copy (l : Launch) (Dd : va_G) (ad : Nat → Nat) (cs : ClassId × ClassId × ClassId) : R_copy (PS l Dd ad cs) := by
  intro mr pc ls st M Q ix h0_ h1_ n0 n1 sp dp n h0 h1 h2 h3 h4 h5 h6 h7 h8 h9 k0 p e R s m args below meth c H locs cells slots Z A la X hP hS hL hret
  obtain ⟨hx, hb, hml, hown, hts, hWo, hDA, hroom, hscr⟩ := id X
  have hn0 := kd_n h2
  have hn1 := kd_n h3
  have c1 := oi_clamp h6.1 (by omega)
  have c2 := oi_clamp h6.2.1 (by omega)
  have c3 := oi_clamp h6.2.2.1 (by omega)
  have nn : ∀ z : Int, 0 ≤ z → z < 2147483648 → ¬ Int32.ofInt z < 0 := fun z z0 z1 => by rw [oi_0, oi_lt (by omega) in0]; omega
  refine va_copyi hx hb (hml.trans hL.1.symm) hown (hts _ h1) (hts _ lw_nat.1) (hts _ lw_nat.2.1) (hts _ lw_nat.2.2) hWo.1 hP hDA.D hS h0_ h1_ 0 0 (by rw [wsOf_get h4, ce_0 h2]) (by rw [wsOf_get h5, ce_0 h3]) rfl rfl rfl (nn sp (by omega) (by omega)) (nn dp (by omega) (by omega)) (nn n (by omega) (by omega)) (by rw [c1, c3]; omega) (by rw [c2, c3]; omega) (fun _ _ => rfl) (by omega) (by rw [wt_cat]; omega) h0 (fun H1 locs1 hP1 _ hS1 => ?_)
  rw [wsOf_set (M' := cpy M h0_ h1_ sp dp n) h5 (fun h' hq => by simp [cpy, hq]) (by
    rw [ce_0 h3]
    congr 4
    funext j
    rw [c1, c2, c3]
    simp only [cpy, va_cpy, if_true]
    by_cases g : dp.toNat ≤ j ∧ j < dp.toNat + n.toNat
    · rw [if_pos g, if_pos (by omega)]
      congr 2
      omega
    · rw [if_neg g, if_neg (by omega)])] at hP1
  exact k0 p e R s m args below meth c H1 locs1 cells slots Z A la X hP1 hS1 hL hret
theorem S_mmax (l : Launch) (Dd : va_G) (ad : Nat → Nat) (cs : ClassId × ClassId × ClassId) : R_mmax (PS l Dd ad cs) := by
  intro mr pc ls st M Q ix x y h0 h1 h2 h3 h4 h5 h6 k0 p e R s m args below meth c H locs cells slots Z A la X hP hS hL hret
  obtain ⟨hx, hb, hml, hown, hts, hWo, hDA, hroom, hscr⟩ := id X
  have h : W p l e R s m args below meth c H locs cells slots Z (F0 m (pc + 3) la (.int (Int32.ofInt (if x < y then y else x)) :: st.map (cv ad))) := k0 p e R s m args below meth c H locs cells slots Z A la X hP hS hL hret
  have ee : Int32.ofInt (if x < y then y else x) = if Int32.ofInt x < Int32.ofInt y then Int32.ofInt y else Int32.ofInt x := by
    rw [apply_ite Int32.ofInt]
    simp only [oi_lt h5 h6]
  rw [ee] at h
  exact va_mmax hx hb (hml.trans hL.1.symm) hown (hts _ h1) (hts _ lw_max.1) (hts _ lw_max.2.1) (hts _ lw_max.2.2) (by omega) (by rw [wt_cat]; omega) hroom.2.2.1 hroom.2.2.2 h0 h
theorem S_mmin (l : Launch) (Dd : va_G) (ad : Nat → Nat) (cs : ClassId × ClassId × ClassId) : R_mmin (PS l Dd ad cs) := by
  intro mr pc ls st M Q ix x y h0 h1 h2 h3 h4 h5 h6 k0 p e R s m args below meth c H locs cells slots Z A la X hP hS hL hret
  obtain ⟨hx, hb, hml, hown, hts, hWo, hDA, hroom, hscr⟩ := id X
  have h : W p l e R s m args below meth c H locs cells slots Z (F0 m (pc + 3) la (.int (Int32.ofInt (if y < x then y else x)) :: st.map (cv ad))) := k0 p e R s m args below meth c H locs cells slots Z A la X hP hS hL hret
  have ee : Int32.ofInt (if y < x then y else x) = if Int32.ofInt y < Int32.ofInt x then Int32.ofInt y else Int32.ofInt x := by
    rw [apply_ite Int32.ofInt]
    simp only [oi_lt h6 h5]
  rw [ee] at h
  exact va_mmin hx hb (hml.trans hL.1.symm) hown (hts _ h1) (hts _ lw_min.1) (hts _ lw_min.2.1) (hts _ lw_min.2.2) (by omega) (by rw [wt_cat]; omega) hroom.2.2.1 hroom.2.2.2 h0 h
theorem S_weak (l : Launch) (Dd : va_G) (ad : Nat → Nat) (cs : ClassId × ClassId × ClassId) : R_weak (PS l Dd ad cs) := by
  intro mr pc ls st M Q ls2 h0 k0 p e R s m args below meth c H locs cells slots Z A la X hP hS hL hret
  obtain ⟨hx, hb, hml, hown, hts, hWo, hDA, hroom, hscr⟩ := id X
  exact k0 p e R s m args below meth c H locs cells slots Z A la X hP hS ⟨hL.1, hL.2.1, fun i v hv => hL.2.2 i v (lsub_get ls2 ls h0 i v hv)⟩ hret
theorem met_of {l : Launch} {Dd : va_G} {ad : Nat → Nat} {cs : ClassId × ClassId × ClassId} {cm : MR} {n : Nat} {As : List AV} {M : Mem} {Q1 : Po} (hok : MOK cm n) (hent : (entS As).length ≤ mrN cm) (hk : PS l Dd ad cs cm 0 (entL As (mrN cm)) [] M Q1) :
    Met l (mrY cm) (Cond.code (mrY cm) (mrB cm) (mrN cm) (mrT cm) :: lw_good) { frames := mrF cm, cells := 0, slots := 0, locals := mrL cm } (va_Pc (As.map (cv ad)) (fun U => va_P Dd classes (wsOf ad cs M) U.heap ∧ Wo Dd cs U ∧ DA ad (fun _ => True)))
      (fun _ st oc t => (∃ (r : Option AV) (M1 : Mem), Q1 r M1 ∧ oc = .returned (r.map (cv ad)) ∧ va_P Dd classes (wsOf ad cs M1) t.heap) ∧ va_F (AdA ad) st t) 0 0 (AdA ad) := by
  obtain ⟨o1, o2, o3, o4, o5, o6, o7, o8⟩ := hok
  refine Met.ofW (cc := mrB cm) (maxL := mrN cm) (ret := mrT cm) o1 rfl ?_
  intro p e s m args below meth c s₁ B hml hv
  obtain ⟨rfl, hP, hWo, hDA⟩ := hv
  have hts := atoms_spec (ws := Cond.code (mrY cm) (mrB cm) (mrN cm) (mrT cm) :: lw_good) B.pre
  have hown : s.vm.findClass (cn (mrC cm)) = some m.cls := by rw [o2]; exact findClass_of_methodNamed B.named
  have hlocks := B.notSynchronized
  have hr := B.returns
  rw [lg_entry_eq]
  refine hk p e _ s m _ below meth c s.heap [] 0 0 _ (AdA ad) _ ⟨B.exec, B.bytes, hml, hown, fun w hw => hts w (List.mem_cons_of_mem _ hw), hWo, ⟨hDA.1, fun h hh => ⟨h, hh, rfl⟩⟩, ⟨Nat.le_refl _, Nat.le_refl _, Nat.zero_le _, Nat.zero_le _⟩, fun q => absurd q o8⟩ hP va_S.rf (LR.entry hent) ?_
  intro r M' H' locs' pc' la' hq hP' hS' hat
  rcases hat with ⟨rfl, a1, a2⟩ | ⟨x, rfl, a1, a2⟩
  · exact W.vret B.exec B.bytes (hr.trans a2) (fun t ht hW => ⟨⟨none, M', hq, rfl, by rw [ht]; exact hP'⟩, hS'.F ht⟩) hS'.2.2 a1
  · rcases a2 with a2 | ⟨a2, a3⟩
    · exact W.iret B.exec B.bytes (hr.trans a2) (fun t ht hW => ⟨⟨some (vI x), M', hq, rfl, by rw [ht]; exact hP'⟩, hS'.F ht⟩) hS'.2.2 a1
    · exact W.zret B.exec B.bytes (hr.trans a2) (by rcases a3 with rfl | rfl <;> decide +kernel) (fun t ht hW => ⟨⟨some (vI x), M', hq, rfl, by rw [ht]; exact hP'⟩, hS'.F ht⟩) hS'.2.2 a1
theorem blind_of {Dd : va_G} {ad : Nat → Nat} {cs : ClassId × ClassId × ClassId} {av : List Value} {M : Mem} : FrameBlind (va_Pc av (fun U => va_P Dd classes (wsOf ad cs M) U.heap ∧ Wo Dd cs U ∧ DA ad (fun _ => True))) := by
  intro a U g mk q
  obtain ⟨q0, qP, qW, qD⟩ := q
  exact ⟨q0, qP, Wo.same (s := U) (U := U.calling g mk a) rfl qW, qD⟩
theorem AdA_in {ad : Nat → Nat} {A : Nat → Prop} (h : DA ad A) : ∀ q, AdA ad q → A q := by
  rintro q ⟨k, hk, rfl⟩
  exact h.2 k hk
theorem call_k3 {l : Launch} {Dd : va_G} {ad : Nat → Nat} {cs : ClassId × ClassId × ClassId} {p : Program} {e : Env} {R : Room} {s : State} {m : MethodId} {args : Array Value} {below : List Frame} {meth : Method} {c : Code} {H : Heap} {locs : List Loc} {cells slots : Nat} {Z : State → Prop} {A : Nat → Prop} {la : Array Slot} {pc : Nat} {st0 rest : List Value} {Q1 : Po}
    (hr : va_Run p l e R s m args below meth c H locs cells slots 0 0 (F0 m pc la st0) rest (fun st oc t => (∃ (r : Option AV) (M1 : Mem), Q1 r M1 ∧ oc = .returned (r.map (cv ad)) ∧ va_P Dd classes (wsOf ad cs M1) t.heap) ∧ va_F (AdA ad) st t) (AdA ad)) (hS : va_S A s.heap H locs) (hDA : DA ad A)
    (kk : ∀ (r : Option AV) (M1 : Mem) (H1 : Heap) (locs1 : List Loc), Q1 r M1 → va_P Dd classes (wsOf ad cs M1) H1 → va_S A s.heap H1 locs1 → W p l e R s m args below meth c H1 locs1 cells slots Z (F0 m (pc + 3) la ((r.map (cv ad)).toList ++ rest))) : W p l e R s m args below meth c H locs cells slots Z (F0 m pc la st0) := by
  intro T hT X
  obtain ⟨v, st₀, t, T', L, h0, X', hL, e1, e2, ⟨⟨r, M1, hq, hv, hP1⟩, hz, hk⟩, st⟩ := hr T hT X
  cases hv
  rw [h0] at hz hk
  have hin := AdA_in hDA
  obtain ⟨t2, a1, b1⟩ := kk r M1 T'.heap (locs ++ L) hq (by rw [e1]; exact hP1)
    ⟨Nat.le_trans hS.1 (by rw [e1]; exact hz), fun q h1 h2 => by rw [e1, hk q (Nat.lt_of_lt_of_le h1 hS.1) (fun z => h2 (hin q z))]; exact hS.2.1 q h1 h2, fun q hq => by
      rcases List.mem_append.mp hq with h | h
      · exact hS.2.2 q h
      · exact hin _ (hL q h)⟩ T' rfl X'
  exact ⟨t2, st t2 a1, b1⟩
theorem call_k5 {l : Launch} {Dd : va_G} {ad : Nat → Nat} {cs : ClassId × ClassId × ClassId} {p : Program} {e : Env} {R : Room} {s : State} {m : MethodId} {args : Array Value} {below : List Frame} {meth : Method} {c : Code} {H : Heap} {locs : List Loc} {cells slots : Nat} {Z : State → Prop} {A : Nat → Prop} {la : Array Slot} {pc : Nat} {st0 rest : List Value} {Q1 : Po}
    (hr : va_Run5 p l e R s m args below meth c H locs cells slots 0 0 (F0 m pc la st0) rest (fun st oc t => (∃ (r : Option AV) (M1 : Mem), Q1 r M1 ∧ oc = .returned (r.map (cv ad)) ∧ va_P Dd classes (wsOf ad cs M1) t.heap) ∧ va_F (AdA ad) st t) (AdA ad)) (hS : va_S A s.heap H locs) (hDA : DA ad A)
    (kk : ∀ (r : Option AV) (M1 : Mem) (H1 : Heap) (locs1 : List Loc), Q1 r M1 → va_P Dd classes (wsOf ad cs M1) H1 → va_S A s.heap H1 locs1 → W p l e R s m args below meth c H1 locs1 cells slots Z (F0 m (pc + 5) la ((r.map (cv ad)).toList ++ rest))) : W p l e R s m args below meth c H locs cells slots Z (F0 m pc la st0) := by
  intro T hT X
  obtain ⟨v, st₀, t, T', L, h0, X', hL, e1, e2, ⟨⟨r, M1, hq, hv, hP1⟩, hz, hk⟩, st⟩ := hr T hT X
  cases hv
  rw [h0] at hz hk
  have hin := AdA_in hDA
  obtain ⟨t2, a1, b1⟩ := kk r M1 T'.heap (locs ++ L) hq (by rw [e1]; exact hP1)
    ⟨Nat.le_trans hS.1 (by rw [e1]; exact hz), fun q h1 h2 => by rw [e1, hk q (Nat.lt_of_lt_of_le h1 hS.1) (fun z => h2 (hin q z))]; exact hS.2.1 q h1 h2, fun q hq => by
      rcases List.mem_append.mp hq with h | h
      · exact hS.2.2 q h
      · exact hin _ (hL q h)⟩ T' rfl X'
  exact ⟨t2, st t2 a1, b1⟩
theorem S_callV (l : Launch) (Dd : va_G) (ad : Nat → Nat) (cs : ClassId × ClassId × ClassId) : R_callV (PS l Dd ad cs) := by
  intro mr pc ls st M Q h fs cm ix As Q1 h0 hc hk hh hrm hent hwt k1 k2 p e R s m args below meth c H locs cells slots Z A la X hP hS hL hret
  obtain ⟨hx, hb, hml, hown, hts, hWo, hDA, hroom, hscr⟩ := id X
  obtain ⟨o1, o2, o3, o4, o5, o6, o7, o8⟩ := id hc.1
  have hM := met_of hc.1 hent k1
  have hroom2 : mrF cm + 1 ≤ R.frames ∧ 8 + (mrN cm + 11) + mrL cm ≤ R.locals := ⟨Nat.le_trans hrm.1 hroom.1, Nat.le_trans hrm.2 hroom.2.1⟩
  have hgood : GoodIn lw_good (Cond.code (mrY cm) (mrB cm) (mrN cm) (mrT cm) :: lw_good) := good_all (fun w hw => (List.mem_cons.mp hw).elim (fun q => q ▸ o3) id)
  have hPc : ∀ U : State, U.heap = H → s.WarmedH U.vm → va_P Dd classes (wsOf ad cs M) U.heap ∧ Wo Dd cs U ∧ DA ad (fun _ => True) := fun U hU hW => ⟨by rw [hU]; exact hP, hWo.warm hW, ⟨hDA.1, fun _ _ => trivial⟩⟩
  obtain ⟨Tc, Nc, hcl⟩ := cls_cn (mrC cm) hc.2.1
  have hrecv := va_recv hWo.1 hP hcl (q0 := h) (a := ad h) (fs := fv ad M h fs) (by rw [wsOf_get hh, ce_3 hk])
  dsimp only at hrecv
  rw [o2] at hrecv
  rw [List.map_append, List.map_reverse, List.map_cons]
  have hg : GoodIn lw_good (wsV (cn (mrC mr)) ix (mrY cm).cls (mrY cm) (Cond.code (mrY cm) (mrB cm) (mrN cm) (mrT cm) :: lw_good)) := good_all (fun w hw => by
    unfold wsV at hw
    rcases List.mem_append.mp hw with hw | hw
    · simp only [List.mem_cons, List.not_mem_nil, or_false] at hw
      rcases hw with rfl | rfl | rfl | rfl
      · exact hc.2.2.1
      · exact hc.2.2.2.1
      · exact hc.2.2.2.2
      · exact o4
    · exact (hgood w hw).1)
  refine call_k3 (va_runV (As := As.map (cv ad)) (rest := st.map (cv ad)) (Ts := lw_good) (own := cn (mrC mr)) (C := (mrY cm).cls) (b := ad h) ⟨hx, hb, hml, hown, hts⟩ hM (cwV As.length hts hg rfl rfl rfl ⟨rfl, o5, o6, o7⟩ hroom2) ⟨blind_of, hrecv, fun U hU hW => ⟨rfl, hPc U hU hW⟩⟩ rfl (by simp) hL.1 rfl (lv_room (by rw [wt_cat]; exact hwt)) h0 ⟨hroom.2.2.1, hroom.2.2.2⟩) hS hDA ?_
  exact fun r M1 H1 locs1 hq hP1 hS1 => by
    have g := k2 r M1 hq p e R s m args below meth c H1 locs1 cells slots Z A la X hP1 hS1 hL hret
    rw [List.map_append] at g
    cases r <;> exact g
theorem S_callS (l : Launch) (Dd : va_G) (ad : Nat → Nat) (cs : ClassId × ClassId × ClassId) : R_callS (PS l Dd ad cs) := by
  intro mr pc ls st M Q cm ix As Q1 h0 hc hrm hent hwt k1 k2 p e R s m args below meth c H locs cells slots Z A la X hP hS hL hret
  obtain ⟨hx, hb, hml, hown, hts, hWo, hDA, hroom, hscr⟩ := id X
  obtain ⟨o1, o2, o3, o4, o5, o6, o7, o8⟩ := id hc.1
  have hM := met_of hc.1 hent k1
  have hroom2 : mrF cm + 1 ≤ R.frames ∧ 8 + (mrN cm + 11) + mrL cm ≤ R.locals := ⟨Nat.le_trans hrm.1 hroom.1, Nat.le_trans hrm.2 hroom.2.1⟩
  have hgood : GoodIn lw_good (Cond.code (mrY cm) (mrB cm) (mrN cm) (mrT cm) :: lw_good) := good_all (fun w hw => (List.mem_cons.mp hw).elim (fun q => q ▸ o3) id)
  have hPc : ∀ U : State, U.heap = H → s.WarmedH U.vm → va_P Dd classes (wsOf ad cs M) U.heap ∧ Wo Dd cs U ∧ DA ad (fun _ => True) := fun U hU hW => ⟨by rw [hU]; exact hP, hWo.warm hW, ⟨hDA.1, fun _ _ => trivial⟩⟩
  rw [List.map_append, List.map_reverse]
  have hg : GoodIn lw_good (va_wsS (cn (mrC mr)) ix (mrY cm) (Cond.code (mrY cm) (mrB cm) (mrN cm) (mrT cm) :: lw_good)) := good_all (fun w hw => by
    unfold va_wsS at hw
    rcases List.mem_append.mp hw with hw | hw
    · simp only [List.mem_cons, List.not_mem_nil, or_false] at hw
      rcases hw with rfl | rfl | rfl
      · exact hc.2.1
      · exact hc.2.2
      · exact o4
    · exact (hgood w hw).1)
  refine call_k3 (va_runS (As := As.map (cv ad)) (rest := st.map (cv ad)) (Ts := lw_good) (own := cn (mrC mr)) ⟨hx, hb, hml, hown, hts⟩ hM (va_cwS As.length hts hg rfl rfl rfl ⟨o5, o6, o7⟩ hroom2) ⟨blind_of, fun U hU hW => ⟨rfl, hPc U hU hW⟩⟩ rfl (by simp) hL.1 rfl (lv_room (by rw [wt_cat]; exact hwt)) h0 ⟨hroom.2.2.1, hroom.2.2.2⟩) hS hDA ?_
  exact fun r M1 H1 locs1 hq hP1 hS1 => by
    have g := k2 r M1 hq p e R s m args below meth c H1 locs1 cells slots Z A la X hP1 hS1 hL hret
    rw [List.map_append] at g
    cases r <;> exact g
theorem S_callN (l : Launch) (Dd : va_G) (ad : Nat → Nat) (cs : ClassId × ClassId × ClassId) : R_callN (PS l Dd ad cs) := by
  intro mr pc ls st M Q cm ix As Q1 h0 hc hrm hent hwt k1 k2 p e R s m args below meth c H locs cells slots Z A la X hP hS hL hret
  obtain ⟨hx, hb, hml, hown, hts, hWo, hDA, hroom, hscr⟩ := id X
  obtain ⟨o1, o2, o3, o4, o5, o6, o7, o8⟩ := id hc.1
  have hM := met_of hc.1 hent k1
  have hroom2 : mrF cm + 1 ≤ R.frames ∧ 8 + (mrN cm + 11) + mrL cm ≤ R.locals := ⟨Nat.le_trans hrm.1 hroom.1, Nat.le_trans hrm.2 hroom.2.1⟩
  have hgood : GoodIn lw_good (Cond.code (mrY cm) (mrB cm) (mrN cm) (mrT cm) :: lw_good) := good_all (fun w hw => (List.mem_cons.mp hw).elim (fun q => q ▸ o3) id)
  have hPc : ∀ U : State, U.heap = H → s.WarmedH U.vm → va_P Dd classes (wsOf ad cs M) U.heap ∧ Wo Dd cs U ∧ DA ad (fun _ => True) := fun U hU hW => ⟨by rw [hU]; exact hP, hWo.warm hW, ⟨hDA.1, fun _ _ => trivial⟩⟩
  rw [List.map_append, List.map_reverse]
  refine call_k3 (va_runSN (As := As.map (cv ad)) (rest := st.map (cv ad)) (Ts := lw_good) (own := cn (mrC mr)) (host := nHost) ⟨hx, hb, hml, hown, hts⟩ hM ⟨va_cnB As.length hts hgood rfl rfl rfl (hWo.2.1 _ hc.2.1) (hts _ o4) ⟨o5, o6, o7⟩ hroom2, hts _ hc.2.2, trivial⟩ ⟨blind_of, fun U hU hW => ⟨rfl, hPc U hU hW⟩⟩ rfl (by simp) hL.1 rfl (lv_room (by rw [wt_cat]; exact hwt)) h0 ⟨hroom.2.2.1, hroom.2.2.2⟩) hS hDA ?_
  exact fun r M1 H1 locs1 hq hP1 hS1 => by
    have g := k2 r M1 hq p e R s m args below meth c H1 locs1 cells slots Z A la X hP1 hS1 hL hret
    rw [List.map_append] at g
    cases r <;> exact g
theorem S_callF (l : Launch) (Dd : va_G) (ad : Nat → Nat) (cs : ClassId × ClassId × ClassId) : R_callF (PS l Dd ad cs) := by
  intro mr pc ls st M Q h ct fs cm ix As Q1 h0 hc hk hh hrm hent hwt k1 k2 p e R s m args below meth c H locs cells slots Z A la X hP hS hL hret
  obtain ⟨hx, hb, hml, hown, hts, hWo, hDA, hroom, hscr⟩ := id X
  obtain ⟨o1, o2, o3, o4, o5, o6, o7, o8⟩ := id hc.1
  have hM := met_of hc.1 hent k1
  have hroom2 : mrF cm + 1 ≤ R.frames ∧ 8 + (mrN cm + 11) + mrL cm ≤ R.locals := ⟨Nat.le_trans hrm.1 hroom.1, Nat.le_trans hrm.2 hroom.2.1⟩
  have hgood : GoodIn lw_good (Cond.code (mrY cm) (mrB cm) (mrN cm) (mrT cm) :: lw_good) := good_all (fun w hw => (List.mem_cons.mp hw).elim (fun q => q ▸ o3) id)
  have hPc : ∀ U : State, U.heap = H → s.WarmedH U.vm → va_P Dd classes (wsOf ad cs M) U.heap ∧ Wo Dd cs U ∧ DA ad (fun _ => True) := fun U hU hW => ⟨by rw [hU]; exact hP, hWo.warm hW, ⟨hDA.1, fun _ _ => trivial⟩⟩
  obtain ⟨Tc, Nc, hcl⟩ := cls_cn (mrC cm) hc.2.1
  have hrecv := va_recv hWo.1 hP hcl (q0 := h) (a := ad h) (fs := fv ad M h fs) (by rw [wsOf_get hh, ce_3 hk])
  dsimp only at hrecv
  rw [o2] at hrecv
  rw [List.map_append, List.map_reverse, List.map_cons]
  obtain ⟨c1, c2, c3, c4, c5, c6, c7⟩ := hc
  have hg : GoodIn lw_good (va_wsF (cn (mrC mr)) ix (mrY cm).cls (iX9 ix) (mrY cm) (Cond.code (mrY cm) (mrB cm) (mrN cm) (mrT cm) :: lw_good)) := good_all (fun w hw => by
    unfold va_wsF at hw
    rcases List.mem_append.mp hw with hw | hw
    · simp only [List.mem_cons, List.not_mem_nil, or_false] at hw
      rcases hw with rfl | rfl | rfl | rfl
      · exact c4
      · exact c5
      · exact c6
      · exact o4
    · exact (hgood w hw).1)
  have hKn := hWo.1.1 (mrC cm) _ hcl
  have hat : ClassAt s (mrY cm).cls (Dd.1 (mrC cm)) := by rw [← o2]; exact hKn.2
  have hfo := FWs_ok _ c3
  refine call_k5 (va_runF (As := As.map (cv ad)) (rest := st.map (cv ad)) (Ts := lw_good) (own := cn (mrC mr)) (C := (mrY cm).cls) (x := iX9 ix) (b := ad h) hat ⟨hx, hb, hml, hown, hts⟩ hM (va_cwF As.length hts hg rfl rfl rfl (hWo.2.2 _ c3) ⟨hfo.1, hfo.2, c7⟩ hroom2) ⟨blind_of, hrecv, fun U hU hW => ⟨rfl, hPc U hU hW⟩⟩ rfl (by simp) hL.1 rfl (lv_room (by rw [wt_cat]; exact hwt)) h0 ⟨hroom.2.2.1, hroom.2.2.2⟩) hS hDA ?_
  exact fun r M1 H1 locs1 hq hP1 hS1 => by
    have g := k2 r M1 hq p e R s m args below meth c H1 locs1 cells slots Z A la X hP1 hS1 hL hret
    rw [List.map_append] at g
    cases r <;> exact g
theorem sim_all (l : Launch) (Dd : va_G) (ad : Nat → Nat) (cs : ClassId × ClassId × ClassId) : Rules (PS l Dd ad cs) := ⟨S_iconst l Dd ad cs, S_bipush l Dd ad cs, S_sipush l Dd ad cs, S_ldc l Dd ad cs, S_ldc2 l Dd ad cs, S_lconst l Dd ad cs, S_iload_n l Dd ad cs, S_iload l Dd ad cs, S_lload_n l Dd ad cs, S_lload l Dd ad cs, S_aload_n l Dd ad cs, S_aload l Dd ad cs, S_istore_n l Dd ad cs, S_istore l Dd ad cs, S_lstore_n l Dd ad cs, S_lstore l Dd ad cs, S_astore_n l Dd ad cs, S_astore l Dd ad cs, S_iinc l Dd ad cs, S_iadd l Dd ad cs, S_isub l Dd ad cs, S_imul l Dd ad cs, S_idiv l Dd ad cs, S_irem l Dd ad cs, S_iand l Dd ad cs, S_i2l l Dd ad cs, S_l2i l Dd ad cs, S_ladd l Dd ad cs, S_lmul l Dd ad cs, S_land l Dd ad cs, S_lor l Dd ad cs, S_lshl l Dd ad cs, S_lcmp l Dd ad cs, S_dup l Dd ad cs, S_dup2 l Dd ad cs, S_getR l Dd ad cs, S_getI l Dd ad cs, S_put l Dd ad cs, S_iald l Dd ad cs, S_zald l Dd ad cs, S_lald l Dd ad cs, S_iast l Dd ad cs, S_zast l Dd ad cs, S_last l Dd ad cs, S_alen l Dd ad cs, S_sald l Dd ad cs, S_slen l Dd ad cs, S_if_eq l Dd ad cs, S_icmp_eq l Dd ad cs, S_if_ne l Dd ad cs, S_icmp_ne l Dd ad cs, S_if_lt l Dd ad cs, S_icmp_lt l Dd ad cs, S_if_ge l Dd ad cs, S_icmp_ge l Dd ad cs, S_if_gt l Dd ad cs, S_icmp_gt l Dd ad cs, S_if_le l Dd ad cs, S_icmp_le l Dd ad cs, S_goto l Dd ad cs, S_tblO l Dd ad cs, S_tblI l Dd ad cs, S_vret l Dd ad cs, S_iret l Dd ad cs, S_zret l Dd ad cs, S_callV l Dd ad cs, S_callS l Dd ad cs, S_callN l Dd ad cs, S_callF l Dd ad cs, S_copy l Dd ad cs, S_mmax l Dd ad cs, S_mmin l Dd ad cs, S_weak l Dd ad cs⟩
end
