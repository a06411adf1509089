theorem tm {w : Cond} (i : Nat) (h : tables_1[i]? = some w) (g : goodWord w = true) : w ∈ lw_good := List.mem_filter.mpr ⟨List.mem_append_right _ (List.mem_of_getElem? h), g⟩
theorem tp {w : Cond} (i : Nat) (h : (k2_sels lw_privs)[i]? = some w) (g : goodWord w = true) : w ∈ lw_good := List.mem_filter.mpr ⟨List.mem_append_left _ (List.mem_of_getElem? h), g⟩
theorem mem_by {ws : List Cond} (ps : List Nat) (h : ws = ps.filterMap (fun i => tables_1[i]?)) (g : ws.all goodWord = true) : ∀ w ∈ ws, w ∈ lw_good := by
  intro w hw
  have hg := List.all_eq_true.mp g w hw
  rw [h] at hw
  obtain ⟨i, -, hi⟩ := List.mem_filterMap.mp hw
  exact tm i hi hg
theorem hin_X0 : ∀ w ∈ u_ws RX0 TX0 6, w ∈ lw_good := mem_by [127, 129, 131, 133, 135, 137] (by decide +kernel) (by decide +kernel)
theorem hin_X1 : ∀ w ∈ u_ws RX1 TX1 3, w ∈ lw_good := mem_by [74, 76, 78] (by decide +kernel) (by decide +kernel)
theorem hin_X2 : ∀ w ∈ u_ws RX2 TX2 10, w ∈ lw_good := mem_by [291, 293, 295, 297, 299, 301, 303, 305, 307, 309] (by decide +kernel) (by decide +kernel)
theorem hin_X3 : ∀ w ∈ u_ws RX3 TX3 2, w ∈ lw_good := mem_by [269, 271] (by decide +kernel) (by decide +kernel)
theorem hin_X4 : ∀ w ∈ u_ws RX4 TX4 5, w ∈ lw_good := mem_by [48, 50, 52, 54, 56] (by decide +kernel) (by decide +kernel)
theorem hin_X5 : ∀ w ∈ u_ws RX5 TX5 8, w ∈ lw_good := mem_by [212, 214, 216, 218, 220, 222, 224, 226] (by decide +kernel) (by decide +kernel)
theorem hin_X6 : ∀ w ∈ u_ws RX6 TX6 7, w ∈ lw_good := mem_by [244, 246, 248, 250, 252, 254, 256] (by decide +kernel) (by decide +kernel)
theorem hin_X7 : ∀ w ∈ u_ws RX7 TX7 8, w ∈ lw_good := mem_by [154, 156, 158, 160, 162, 164, 166, 168] (by decide +kernel) (by decide +kernel)
theorem hin_X8 : ∀ w ∈ u_ws RX8 TX8 4, w ∈ lw_good := mem_by [91, 93, 95, 97] (by decide +kernel) (by decide +kernel)
theorem hin_X10 : ∀ w ∈ u_ws RX10 TX10 6, w ∈ lw_good := mem_by [191, 193, 195, 197, 199, 201] (by decide +kernel) (by decide +kernel)
theorem hin_X11 : ∀ w ∈ u_ws RX11 TX11 9, w ∈ lw_good := mem_by [321, 323, 325, 327, 329, 331, 333, 335, 337] (by decide +kernel) (by decide +kernel)
theorem hin_X12 : ∀ w ∈ u_ws RX12 TX12 42, w ∈ lw_good := mem_by [840, 842, 844, 846, 848, 850, 852, 854, 856, 858, 860, 862, 864, 866, 868, 870, 872, 874, 876, 878, 880, 882, 884, 886, 888, 890, 892, 894, 896, 898, 900, 902, 904, 906, 908, 910, 912, 914, 916, 918, 920, 922] (by decide +kernel) (by decide +kernel)
def mX0_contains : MR := (0, yX0_contains, cX0_contains, 2, (some .boolean), 0, 0, 0, fun _ => 0)
def mX0_addVariable : MR := (0, yX0_addVariable, cX0_addVariable, 3, (some .int), 0, 0, 0, fun _ => 0)
def mX0_addConstructed : MR := (0, yX0_addConstructed, cX0_addConstructed, 6, (some .int), 1, 22, 0, fun _ => 0)
def mX0_fill : MR := (0, yX0_fill, cX0_fill, 3, none, 0, 0, 0, fun _ => 0)
def mX0_isVariable : MR := (0, yX0_isVariable, cX0_isVariable, 2, (some .boolean), 0, 0, 0, fun _ => 0)
def mX0_partTotal : MR := (0, yX0_partTotal, cX0_partTotal, 2, (some .int), 1, 21, 0, fun _ => 0)
def mX0_resolvedPart : MR := (0, yX0_resolvedPart, cX0_resolvedPart, 3, (some .int), 1, 23, 0, fun _ => 0)
def mX0_resolve : MR := (0, yX0_resolve, cX0_resolve, 4, (some .int), 0, 0, 0, fun _ => 0)
def mX0_countBound : MR := (0, yX0_countBound, cX0_countBound, 3, (some .int), 0, 0, 0, fun _ => 0)
def mX1_recompute : MR := (1, yX1_recompute, cX1_recompute, 1, none, 4, 93, 0, fun _ => 0)
def mX1_findSmallest : MR := (1, yX1_findSmallest, cX1_findSmallest, 3, none, 3, 67, 0, fun _ => 0)
def mX1_improveSmallest : MR := (1, yX1_improveSmallest, cX1_improveSmallest, 4, none, 2, 44, 0, fun _ => 0)
def mX1_isUsable : MR := (1, yX1_isUsable, cX1_isUsable, 3, (some .boolean), 1, 22, 0, fun _ => 0)
def mX1_findTotals : MR := (1, yX1_findTotals, cX1_findTotals, 3, none, 3, 71, 0, fun _ => 0)
def mX1_totalOfType : MR := (1, yX1_totalOfType, cX1_totalOfType, 5, (some .int), 2, 47, 0, fun _ => 0)
def mX1_totalOfConstructor : MR := (1, yX1_totalOfConstructor, cX1_totalOfConstructor, 5, (some .int), 1, 23, 0, fun _ => 0)
def mX2_subjectType : MR := (2, yX2_subjectType, cX2_subjectType, 1, (some .int), 0, 0, 0, fun _ => 0)
def mX2_append : MR := (2, yX2_append, cX2_append, 3, (some .int), 0, 0, 0, fun _ => 0)
def mX2_firstFitting : MR := (2, yX2_firstFitting, cX2_firstFitting, 4, (some .int), 5, 125, 0, fun _ => 0)
def mX2_fits : MR := (2, yX2_fits, cX2_fits, 6, (some .boolean), 4, 100, 0, fun _ => 0)
def mX2_fitsAtRoot : MR := (2, yX2_fitsAtRoot, cX2_fitsAtRoot, 6, (some .boolean), 3, 75, 0, fun _ => 0)
def mX2_fitsVariable : MR := (2, yX2_fitsVariable, cX2_fitsVariable, 3, (some .boolean), 0, 0, 0, fun _ => 0)
def mX2_await : MR := (2, yX2_await, cX2_await, 3, none, 0, 0, 0, fun _ => 0)
def mX3_save : MR := (3, yX3_save, cX3_save, 2, none, 1, 26, 0, fun _ => 0)
def mX3_restore : MR := (3, yX3_restore, cX3_restore, 2, none, 1, 26, 0, fun _ => 0)
def mX4_hasType : MR := (4, yX4_hasType, cX4_hasType, 2, (some .boolean), 0, 0, 0, fun _ => 0)
def mX4_hasConstructor : MR := (4, yX4_hasConstructor, cX4_hasConstructor, 2, (some .boolean), 0, 0, 0, fun _ => 0)
def mX4_typeOfArgument : MR := (4, yX4_typeOfArgument, cX4_typeOfArgument, 3, (some .int), 0, 0, 0, fun _ => 0)
def mX4_define : MR := (4, yX4_define, cX4_define, 7, (some .int), 0, 0, 0, fun _ => 0)
def mX5_measure : MR := (5, yX5_measure, cX5_measure, 3, (some .int), 4, 94, 0, fun _ => 0)
def mX5_sizeFromParts : MR := (5, yX5_sizeFromParts, cX5_sizeFromParts, 5, (some .int), 2, 45, 0, fun _ => 0)
def mX5_indexAmongValues : MR := (5, yX5_indexAmongValues, cX5_indexAmongValues, 5, (some .int), 3, 75, 0, fun _ => 0)
def mX5_sameTerm : MR := (5, yX5_sameTerm, cX5_sameTerm, 3, (some .boolean), 4, 94, 0, fun _ => 0)
def mX5_canonicalNode : MR := (5, yX5_canonicalNode, cX5_canonicalNode, 2, (some .int), 4, 94, 0, fun _ => 0)
def mX5_findCanonical : MR := (5, yX5_findCanonical, cX5_findCanonical, 4, none, 3, 68, 0, fun _ => 0)
def mX5_haveEqualParts : MR := (5, yX5_haveEqualParts, cX5_haveEqualParts, 4, (some .boolean), 2, 45, 0, fun _ => 0)
def mX5_isBuiltBy : MR := (5, yX5_isBuiltBy, cX5_isBuiltBy, 3, (some .boolean), 0, 0, 0, fun _ => 0)
def mX5_split : MR := (5, yX5_split, cX5_split, 5, none, 2, 45, 0, fun _ => 0)
def mX6_run : MR := (6, yX6_run, cX6_run, 5, (some .int), 6, 138, 0, fun _ => 0)
def mX6_unifyResolved : MR := (6, yX6_unifyResolved, cX6_unifyResolved, 3, (some .int), 5, 116, 0, fun _ => 0)
def mX6_bindToTerm : MR := (6, yX6_bindToTerm, cX6_bindToTerm, 3, (some .int), 4, 94, 0, fun _ => 0)
def mX6_open : MR := (6, yX6_open, cX6_open, 7, none, 2, 42, 0, fun _ => 0)
def mX6_await : MR := (6, yX6_await, cX6_await, 3, none, 0, 0, 0, fun _ => 0)
def mX7_build : MR := (7, yX7_build, cX7_build, 7, (some .int), 5, 118, 0, fun _ => 0)
def mX7_place : MR := (7, yX7_place, cX7_place, 7, none, 4, 92, 0, fun _ => 0)
def mX7_await : MR := (7, yX7_await, cX7_await, 4, none, 0, 0, 0, fun _ => 0)
def mX8_keyOf : MR := (8, yX8_keyOf, cX8_keyOf, 2, (some .int), 0, 0, 0, fun _ => 0)
def mX8_sizeOfKey : MR := (8, yX8_sizeOfKey, cX8_sizeOfKey, 1, (some .int), 0, 0, 0, fun _ => 0)
def mX8_indexOfKey : MR := (8, yX8_indexOfKey, cX8_indexOfKey, 1, (some .int), 0, 0, 0, fun _ => 0)
def mX8_countOf : MR := (8, yX8_countOf, cX8_countOf, 3, (some .int), 0, 0, 0, fun _ => 0)
def mX8_recompute : MR := (8, yX8_recompute, cX8_recompute, 4, none, 3, 73, 0, fun _ => 0)
def mX8_fillWays : MR := (8, yX8_fillWays, cX8_fillWays, 7, none, 2, 47, 0, fun _ => 0)
def mX8_wayPlace : MR := (8, yX8_wayPlace, cX8_wayPlace, 3, (some .int), 0, 0, 0, fun _ => 0)
def mX8_waysOf : MR := (8, yX8_waysOf, cX8_waysOf, 4, (some .int), 1, 22, 0, fun _ => 0)
def mX8_waysOfSplit : MR := (8, yX8_waysOfSplit, cX8_waysOfSplit, 5, (some .int), 1, 23, 0, fun _ => 0)
def mX8_isBuiltBy : MR := (8, yX8_isBuiltBy, cX8_isBuiltBy, 5, (some .boolean), 2, 45, 0, fun _ => 0)
def mX8_rootOf : MR := (8, yX8_rootOf, cX8_rootOf, 4, (some .int), 3, 69, 0, fun _ => 0)
def mX8_split : MR := (8, yX8_split, cX8_split, 9, none, 2, 47, 0, fun _ => 0)
def mX8_indexOf : MR := (8, yX8_indexOf, cX8_indexOf, 9, (some .int), 2, 47, 0, fun _ => 0)
def mX10_begin : MR := (9, yX10_begin, cX10_begin, 1, none, 0, 0, 0, fun _ => 0)
def mX10_hasListed : MR := (9, yX10_hasListed, cX10_hasListed, 2, (some .boolean), 0, 0, 0, fun _ => 0)
def mX10_visit : MR := (9, yX10_visit, cX10_visit, 7, none, 3, 68, 0, fun _ => 0)
def mX10_unlistedPart : MR := (9, yX10_unlistedPart, cX10_unlistedPart, 4, (some .int), 2, 45, 0, fun _ => 0)
def mX10_list : MR := (9, yX10_list, cX10_list, 2, none, 0, 0, 0, fun _ => 0)
def mX11_addType : MR := (10, yX11_addType, cX11_addType, 2, (some .int), 0, 0, 0, fun _ => 0)
def mX11_addConstructor : MR := (10, yX11_addConstructor, cX11_addConstructor, 7, (some .int), 5, 113, 0, fun _ => 0)
def mX11_resultType : MR := (10, yX11_resultType, cX11_resultType, 2, (some .int), 1, 21, 0, fun _ => 0)
def mX11_arity : MR := (10, yX11_arity, cX11_arity, 2, (some .int), 1, 21, 0, fun _ => 0)
def mX11_argumentType : MR := (10, yX11_argumentType, cX11_argumentType, 3, (some .int), 1, 22, 0, fun _ => 0)
def mX11_cardinality : MR := (10, yX11_cardinality, cX11_cardinality, 2, (some .int), 1, 21, 0, fun _ => 0)
def mX11_smallestSize : MR := (10, yX11_smallestSize, cX11_smallestSize, 2, (some .int), 1, 21, 0, fun _ => 0)
def mX11_count : MR := (10, yX11_count, cX11_count, 3, (some .int), 1, 22, 0, fun _ => 0)
def mX11_value : MR := (10, yX11_value, cX11_value, 4, (some .int), 6, 144, 0, fun _ => 0)
def mX11_variable : MR := (10, yX11_variable, cX11_variable, 2, (some .int), 1, 22, 0, fun _ => 0)
def mX11_term : MR := (10, yX11_term, cX11_term, 6, (some .int), 2, 47, 0, fun _ => 0)
def mX11_nodeCount : MR := (10, yX11_nodeCount, cX11_nodeCount, 1, (some .int), 0, 0, 0, fun _ => 0)
def mX11_nodeType : MR := (10, yX11_nodeType, cX11_nodeType, 2, (some .int), 1, 21, 0, fun _ => 0)
def mX11_head : MR := (10, yX11_head, cX11_head, 3, (some .int), 1, 23, 0, fun _ => 0)
def mX11_child : MR := (10, yX11_child, cX11_child, 4, (some .int), 2, 42, 0, fun _ => 0)
def mX11_binding : MR := (10, yX11_binding, cX11_binding, 2, (some .int), 1, 21, 0, fun _ => 0)
def mX11_size : MR := (10, yX11_size, cX11_size, 2, (some .int), 5, 116, 0, fun _ => 0)
def mX11_rank : MR := (10, yX11_rank, cX11_rank, 4, (some .int), 5, 116, 0, fun _ => 0)
def mX11_equal : MR := (10, yX11_equal, cX11_equal, 3, (some .int), 5, 116, 0, fun _ => 0)
def mX11_unify : MR := (10, yX11_unify, cX11_unify, 3, (some .int), 7, 162, 0, fun _ => 0)
def mX11_boundCount : MR := (10, yX11_boundCount, cX11_boundCount, 1, (some .int), 1, 22, 0, fun _ => 0)
def mX11_unbindAll : MR := (10, yX11_unbindAll, cX11_unbindAll, 2, (some .int), 1, 23, 0, fun _ => 0)
def mX11_push : MR := (10, yX11_push, cX11_push, 1, (some .int), 2, 47, 0, fun _ => 0)
def mX11_pop : MR := (10, yX11_pop, cX11_pop, 1, (some .int), 2, 47, 0, fun _ => 0)
def mX11_addRow : MR := (10, yX11_addRow, cX11_addRow, 2, (some .int), 1, 22, 0, fun _ => 0)
def mX11_clearRows : MR := (10, yX11_clearRows, cX11_clearRows, 2, (some .int), 0, 0, 0, fun _ => 0)
def mX11_firstMatch : MR := (10, yX11_firstMatch, cX11_firstMatch, 3, (some .int), 6, 148, 0, fun _ => 0)
def mX11_uncovered : MR := (10, yX11_uncovered, cX11_uncovered, 2, (some .int), 7, 173, 0, fun _ => 0)
def mX11_firstUncovered : MR := (10, yX11_firstUncovered, cX11_firstUncovered, 4, (some .int), 7, 171, 0, fun _ => 0)
def mX11_coveredBy : MR := (10, yX11_coveredBy, cX11_coveredBy, 3, (some .int), 7, 173, 0, fun _ => 0)
def mX11_countFirstFitting : MR := (10, yX11_countFirstFitting, cX11_countFirstFitting, 6, (some .int), 6, 148, 0, fun _ => 0)
def mX11_firstIndexUncovered : MR := (10, yX11_firstIndexUncovered, cX11_firstIndexUncovered, 4, (some .int), 6, 148, 0, fun _ => 0)
def mX11_limitedSum : MR := (10, yX11_limitedSum, cX11_limitedSum, 3, (some .int), 0, 0, 0, fun _ => 0)
def mX11_limitedProduct : MR := (10, yX11_limitedProduct, cX11_limitedProduct, 4, (some .int), 0, 0, 0, fun _ => 0)
def mX12_in : MR := (11, yX12_in, cX12_in, 3, (some .boolean), 0, 0, 0, fun _ => 0)
def mX12_isType : MR := (11, yX12_isType, cX12_isType, 2, (some .boolean), 1, 22, 0, fun _ => 0)
def mX12_isConstructor : MR := (11, yX12_isConstructor, cX12_isConstructor, 2, (some .boolean), 1, 22, 0, fun _ => 0)
def mX12_isNode : MR := (11, yX12_isNode, cX12_isNode, 2, (some .boolean), 1, 22, 0, fun _ => 0)
def mX12_capped : MR := (11, yX12_capped, cX12_capped, 2, (some .int), 0, 0, 0, fun _ => 0)
def mX12_addType : MR := (11, yX12_addType, cX12_addType, 1, (some .int), 0, 0, 0, fun _ => 0)
def mX12_addConstructor : MR := (11, yX12_addConstructor, cX12_addConstructor, 6, (some .int), 2, 43, 0, fun _ => 0)
def mX12_resultType : MR := (11, yX12_resultType, cX12_resultType, 2, (some .int), 2, 43, 0, fun _ => 0)
def mX12_arity : MR := (11, yX12_arity, cX12_arity, 2, (some .int), 2, 43, 0, fun _ => 0)
def mX12_argumentType : MR := (11, yX12_argumentType, cX12_argumentType, 3, (some .int), 2, 43, 0, fun _ => 0)
def mX12_laySmallest : MR := (11, yX12_laySmallest, cX12_laySmallest, 5, none, 1, 24, 0, fun _ => 0)
def mX12_sizeBy : MR := (11, yX12_sizeBy, cX12_sizeBy, 5, (some .int), 0, 0, 0, fun _ => 0)
def mX12_layWithin : MR := (11, yX12_layWithin, cX12_layWithin, 4, none, 2, 48, 0, fun _ => 0)
def mX12_isInfinite : MR := (11, yX12_isInfinite, cX12_isInfinite, 4, (some .boolean), 0, 0, 0, fun _ => 0)
def mX12_layAll : MR := (11, yX12_layAll, cX12_layAll, 6, none, 2, 44, 0, fun _ => 0)
def mX12_allBy : MR := (11, yX12_allBy, cX12_allBy, 4, (some .int), 1, 21, 0, fun _ => 0)
def mX12_cardinality : MR := (11, yX12_cardinality, cX12_cardinality, 2, (some .int), 3, 71, 0, fun _ => 0)
def mX12_smallestSize : MR := (11, yX12_smallestSize, cX12_smallestSize, 2, (some .int), 2, 48, 0, fun _ => 0)
def mX12_way : MR := (11, yX12_way, cX12_way, 3, (some .int), 0, 0, 0, fun _ => 0)
def mX12_countOf : MR := (11, yX12_countOf, cX12_countOf, 3, (some .int), 0, 0, 0, fun _ => 0)
def mX12_layWays : MR := (11, yX12_layWays, cX12_layWays, 8, none, 1, 22, 0, fun _ => 0)
def mX12_layCounts : MR := (11, yX12_layCounts, cX12_layCounts, 4, none, 2, 49, 0, fun _ => 0)
def mX12_count : MR := (11, yX12_count, cX12_count, 3, (some .int), 3, 72, 0, fun _ => 0)
def mX12_share : MR := (11, yX12_share, cX12_share, 11, none, 2, 47, 0, fun _ => 0)
def mX12_blockOf : MR := (11, yX12_blockOf, cX12_blockOf, 6, (some .int), 1, 22, 0, fun _ => 0)
def mX12_layValue : MR := (11, yX12_layValue, cX12_layValue, 10, none, 3, 77, 0, fun _ => 0)
def mX12_layParts : MR := (11, yX12_layParts, cX12_layParts, 4, none, 0, 0, 0, fun _ => 0)
def mX12_addNode : MR := (11, yX12_addNode, cX12_addNode, 6, (some .int), 0, 0, 0, fun _ => 0)
def mX12_makeNodes : MR := (11, yX12_makeNodes, cX12_makeNodes, 5, (some .int), 1, 25, 0, fun _ => 0)
def mX12_value : MR := (11, yX12_value, cX12_value, 4, (some .int), 4, 106, 0, fun _ => 0)
def mX12_variable : MR := (11, yX12_variable, cX12_variable, 2, (some .int), 2, 43, 0, fun _ => 0)
def mX12_wrongChild : MR := (11, yX12_wrongChild, cX12_wrongChild, 4, (some .int), 2, 43, 0, fun _ => 0)
def mX12_term : MR := (11, yX12_term, cX12_term, 8, (some .int), 3, 66, 0, fun _ => 0)
def mX12_nodeCount : MR := (11, yX12_nodeCount, cX12_nodeCount, 1, (some .int), 0, 0, 0, fun _ => 0)
def mX12_nodeType : MR := (11, yX12_nodeType, cX12_nodeType, 2, (some .int), 2, 43, 0, fun _ => 0)
def mX12_resolved : MR := (11, yX12_resolved, cX12_resolved, 3, (some .int), 0, 0, 0, fun _ => 0)
def mX12_manyOf : MR := (11, yX12_manyOf, cX12_manyOf, 2, (some .int), 0, 0, 0, fun _ => 0)
def mX12_head : MR := (11, yX12_head, cX12_head, 2, (some .int), 2, 43, 0, fun _ => 0)
def mX12_child : MR := (11, yX12_child, cX12_child, 4, (some .int), 2, 43, 0, fun _ => 0)
def mX12_binding : MR := (11, yX12_binding, cX12_binding, 2, (some .int), 2, 43, 0, fun _ => 0)
def mX12_laySizes : MR := (11, yX12_laySizes, cX12_laySizes, 3, none, 2, 48, 0, fun _ => 0)
def mX12_sizeNow : MR := (11, yX12_sizeNow, cX12_sizeNow, 8, (some .int), 1, 21, 0, fun _ => 0)
def mX12_size : MR := (11, yX12_size, cX12_size, 2, (some .int), 3, 70, 0, fun _ => 0)
def mX12_rankNow : MR := (11, yX12_rankNow, cX12_rankNow, 10, (some .int), 2, 47, 0, fun _ => 0)
def mX12_layRanks : MR := (11, yX12_layRanks, cX12_layRanks, 3, none, 3, 76, 0, fun _ => 0)
def mX12_rank : MR := (11, yX12_rank, cX12_rank, 2, (some .int), 4, 98, 0, fun _ => 0)
def mX12_beginPairs : MR := (11, yX12_beginPairs, cX12_beginPairs, 4, none, 0, 0, 0, fun _ => 0)
def mX12_pushChildren : MR := (11, yX12_pushChildren, cX12_pushChildren, 4, none, 1, 21, 0, fun _ => 0)
def mX12_equal : MR := (11, yX12_equal, cX12_equal, 5, (some .int), 2, 44, 0, fun _ => 0)
def mX12_bind : MR := (11, yX12_bind, cX12_bind, 3, none, 0, 0, 0, fun _ => 0)
def mX12_occurs : MR := (11, yX12_occurs, cX12_occurs, 6, (some .boolean), 1, 22, 0, fun _ => 0)
def mX12_unifyNow : MR := (11, yX12_unifyNow, cX12_unifyNow, 7, (some .int), 2, 47, 0, fun _ => 0)
def mX12_unify : MR := (11, yX12_unify, cX12_unify, 7, (some .int), 3, 73, 0, fun _ => 0)
def mX12_boundCount : MR := (11, yX12_boundCount, cX12_boundCount, 3, (some .int), 0, 0, 0, fun _ => 0)
def mX12_unbindAll : MR := (11, yX12_unbindAll, cX12_unbindAll, 3, (some .int), 1, 22, 0, fun _ => 0)
def mX12_push : MR := (11, yX12_push, cX12_push, 2, (some .int), 0, 0, 0, fun _ => 0)
def mX12_pop : MR := (11, yX12_pop, cX12_pop, 2, (some .int), 0, 0, 0, fun _ => 0)
def mX12_addRow : MR := (11, yX12_addRow, cX12_addRow, 2, (some .int), 2, 43, 0, fun _ => 0)
def mX12_clearRows : MR := (11, yX12_clearRows, cX12_clearRows, 2, (some .int), 0, 0, 0, fun _ => 0)
def mX12_areSame : MR := (11, yX12_areSame, cX12_areSame, 5, (some .boolean), 0, 0, 0, fun _ => 0)
def mX12_matches : MR := (11, yX12_matches, cX12_matches, 6, (some .boolean), 1, 24, 0, fun _ => 0)
def mX12_matchNow : MR := (11, yX12_matchNow, cX12_matchNow, 2, (some .int), 2, 49, 0, fun _ => 0)
def mX12_layTerm : MR := (11, yX12_layTerm, cX12_layTerm, 5, none, 1, 23, 0, fun _ => 0)
def mX12_firstMatch : MR := (11, yX12_firstMatch, cX12_firstMatch, 2, (some .int), 3, 70, 0, fun _ => 0)
def mX12_subject : MR := (11, yX12_subject, cX12_subject, 1, (some .int), 0, 0, 0, fun _ => 0)
def mX12_countMatched : MR := (11, yX12_countMatched, cX12_countMatched, 6, (some .int), 4, 106, 0, fun _ => 0)
def mX12_uncovered : MR := (11, yX12_uncovered, cX12_uncovered, 2, (some .int), 5, 131, 0, fun _ => 0)
def mX12_firstUncovered : MR := (11, yX12_firstUncovered, cX12_firstUncovered, 4, (some .int), 4, 106, 0, fun _ => 0)
def mX12_coveredBy : MR := (11, yX12_coveredBy, cX12_coveredBy, 3, (some .int), 5, 131, 0, fun _ => 0)
def mJ7_fill_d0a16 : MR := (14, yJ7_fill_d0a16, cJ7_fill_d0a16, 5, none, 0, 0, 0, fun _ => 0)
def mJ7_fill_53178 : MR := (14, yJ7_fill_53178, cJ7_fill_53178, 4, none, 0, 0, 0, fun _ => 0)
def mL_law (n : Nat) (xs : Nat → Int) : MR := (13, yL_law, cL_law, 4, some .boolean, 8, 195, n, xs)
theorem ok_X0_contains : MOK mX0_contains 1 := ⟨by decide +kernel, rfl, (tm 514 (by decide +kernel) rfl), (tm 6 (by decide +kernel) rfl), by decide +kernel, by decide +kernel, by decide +kernel, by decide⟩
theorem ok_X0_addVariable : MOK mX0_addVariable 1 := ⟨by decide +kernel, rfl, (tm 506 (by decide +kernel) rfl), (tm 6 (by decide +kernel) rfl), by decide +kernel, by decide +kernel, by decide +kernel, by decide⟩
theorem ok_X0_addConstructed : MOK mX0_addConstructed 4 := ⟨by decide +kernel, rfl, (tm 518 (by decide +kernel) rfl), (tm 6 (by decide +kernel) rfl), by decide +kernel, by decide +kernel, by decide +kernel, by decide⟩
theorem ok_X0_fill : MOK mX0_fill 2 := ⟨by decide +kernel, rfl, (tm 489 (by decide +kernel) rfl), (tm 6 (by decide +kernel) rfl), by decide +kernel, by decide +kernel, by decide +kernel, by decide⟩
theorem ok_X0_isVariable : MOK mX0_isVariable 1 := ⟨by decide +kernel, rfl, (tm 539 (by decide +kernel) rfl), (tm 6 (by decide +kernel) rfl), by decide +kernel, by decide +kernel, by decide +kernel, by decide⟩
theorem ok_X0_partTotal : MOK mX0_partTotal 1 := ⟨by decide +kernel, rfl, (tm 547 (by decide +kernel) rfl), (tm 6 (by decide +kernel) rfl), by decide +kernel, by decide +kernel, by decide +kernel, by decide⟩
theorem ok_X0_resolvedPart : MOK mX0_resolvedPart 2 := ⟨by decide +kernel, rfl, (tm 583 (by decide +kernel) rfl), (tm 6 (by decide +kernel) rfl), by decide +kernel, by decide +kernel, by decide +kernel, by decide⟩
theorem ok_X0_resolve : MOK mX0_resolve 1 := ⟨by decide +kernel, rfl, (tm 535 (by decide +kernel) rfl), (tm 6 (by decide +kernel) rfl), by decide +kernel, by decide +kernel, by decide +kernel, by decide⟩
theorem ok_X0_countBound : MOK mX0_countBound 0 := ⟨by decide +kernel, rfl, (tm 674 (by decide +kernel) rfl), (tm 6 (by decide +kernel) rfl), by decide +kernel, by decide +kernel, by decide +kernel, by decide⟩
theorem ok_X1_recompute : MOK mX1_recompute 0 := ⟨by decide +kernel, rfl, (tm 359 (by decide +kernel) rfl), (tm 3 (by decide +kernel) rfl), by decide +kernel, by decide +kernel, by decide +kernel, by decide⟩
theorem ok_X1_findSmallest : MOK mX1_findSmallest 0 := ⟨by decide +kernel, rfl, (tm 363 (by decide +kernel) rfl), (tm 3 (by decide +kernel) rfl), by decide +kernel, by decide +kernel, by decide +kernel, by decide⟩
theorem ok_X1_improveSmallest : MOK mX1_improveSmallest 1 := ⟨by decide +kernel, rfl, (tm 367 (by decide +kernel) rfl), (tm 3 (by decide +kernel) rfl), by decide +kernel, by decide +kernel, by decide +kernel, by decide⟩
theorem ok_X1_isUsable : MOK mX1_isUsable 1 := ⟨by decide +kernel, rfl, (tm 371 (by decide +kernel) rfl), (tm 3 (by decide +kernel) rfl), by decide +kernel, by decide +kernel, by decide +kernel, by decide⟩
theorem ok_X1_findTotals : MOK mX1_findTotals 0 := ⟨by decide +kernel, rfl, (tm 379 (by decide +kernel) rfl), (tm 3 (by decide +kernel) rfl), by decide +kernel, by decide +kernel, by decide +kernel, by decide⟩
theorem ok_X1_totalOfType : MOK mX1_totalOfType 1 := ⟨by decide +kernel, rfl, (tm 383 (by decide +kernel) rfl), (tm 3 (by decide +kernel) rfl), by decide +kernel, by decide +kernel, by decide +kernel, by decide⟩
theorem ok_X1_totalOfConstructor : MOK mX1_totalOfConstructor 1 := ⟨by decide +kernel, rfl, (tm 387 (by decide +kernel) rfl), (tm 3 (by decide +kernel) rfl), by decide +kernel, by decide +kernel, by decide +kernel, by decide⟩
theorem ok_X2_subjectType : MOK mX2_subjectType 0 := ⟨by decide +kernel, rfl, (tm 704 (by decide +kernel) rfl), (tm 12 (by decide +kernel) rfl), by decide +kernel, by decide +kernel, by decide +kernel, by decide⟩
theorem ok_X2_append : MOK mX2_append 1 := ⟨by decide +kernel, rfl, (tm 708 (by decide +kernel) rfl), (tm 12 (by decide +kernel) rfl), by decide +kernel, by decide +kernel, by decide +kernel, by decide⟩
theorem ok_X2_firstFitting : MOK mX2_firstFitting 2 := ⟨by decide +kernel, rfl, (tm 724 (by decide +kernel) rfl), (tm 12 (by decide +kernel) rfl), by decide +kernel, by decide +kernel, by decide +kernel, by decide⟩
theorem ok_X2_fits : MOK mX2_fits 3 := ⟨by decide +kernel, rfl, (tm 728 (by decide +kernel) rfl), (tm 12 (by decide +kernel) rfl), by decide +kernel, by decide +kernel, by decide +kernel, by decide⟩
theorem ok_X2_fitsAtRoot : MOK mX2_fitsAtRoot 3 := ⟨by decide +kernel, rfl, (tm 738 (by decide +kernel) rfl), (tm 12 (by decide +kernel) rfl), by decide +kernel, by decide +kernel, by decide +kernel, by decide⟩
theorem ok_X2_fitsVariable : MOK mX2_fitsVariable 2 := ⟨by decide +kernel, rfl, (tm 743 (by decide +kernel) rfl), (tm 12 (by decide +kernel) rfl), by decide +kernel, by decide +kernel, by decide +kernel, by decide⟩
theorem ok_X2_await : MOK mX2_await 2 := ⟨by decide +kernel, rfl, (tm 732 (by decide +kernel) rfl), (tm 12 (by decide +kernel) rfl), by decide +kernel, by decide +kernel, by decide +kernel, by decide⟩
theorem ok_X3_save : MOK mX3_save 1 := ⟨by decide +kernel, rfl, (tm 687 (by decide +kernel) rfl), (tm 11 (by decide +kernel) rfl), by decide +kernel, by decide +kernel, by decide +kernel, by decide⟩
theorem ok_X3_restore : MOK mX3_restore 1 := ⟨by decide +kernel, rfl, (tm 696 (by decide +kernel) rfl), (tm 11 (by decide +kernel) rfl), by decide +kernel, by decide +kernel, by decide +kernel, by decide⟩
theorem ok_X4_hasType : MOK mX4_hasType 1 := ⟨by decide +kernel, rfl, (tm 351 (by decide +kernel) rfl), (tm 2 (by decide +kernel) rfl), by decide +kernel, by decide +kernel, by decide +kernel, by decide⟩
theorem ok_X4_hasConstructor : MOK mX4_hasConstructor 1 := ⟨by decide +kernel, rfl, (tm 426 (by decide +kernel) rfl), (tm 2 (by decide +kernel) rfl), by decide +kernel, by decide +kernel, by decide +kernel, by decide⟩
theorem ok_X4_typeOfArgument : MOK mX4_typeOfArgument 2 := ⟨by decide +kernel, rfl, (tm 375 (by decide +kernel) rfl), (tm 2 (by decide +kernel) rfl), by decide +kernel, by decide +kernel, by decide +kernel, by decide⟩
theorem ok_X4_define : MOK mX4_define 5 := ⟨by decide +kernel, rfl, (tm 355 (by decide +kernel) rfl), (tm 2 (by decide +kernel) rfl), by decide +kernel, by decide +kernel, by decide +kernel, by decide⟩
theorem ok_X5_measure : MOK mX5_measure 1 := ⟨by decide +kernel, rfl, (tm 560 (by decide +kernel) rfl), (tm 8 (by decide +kernel) rfl), by decide +kernel, by decide +kernel, by decide +kernel, by decide⟩
theorem ok_X5_sizeFromParts : MOK mX5_sizeFromParts 1 := ⟨by decide +kernel, rfl, (tm 592 (by decide +kernel) rfl), (tm 8 (by decide +kernel) rfl), by decide +kernel, by decide +kernel, by decide +kernel, by decide⟩
theorem ok_X5_indexAmongValues : MOK mX5_indexAmongValues 1 := ⟨by decide +kernel, rfl, (tm 605 (by decide +kernel) rfl), (tm 8 (by decide +kernel) rfl), by decide +kernel, by decide +kernel, by decide +kernel, by decide⟩
theorem ok_X5_sameTerm : MOK mX5_sameTerm 2 := ⟨by decide +kernel, rfl, (tm 617 (by decide +kernel) rfl), (tm 8 (by decide +kernel) rfl), by decide +kernel, by decide +kernel, by decide +kernel, by decide⟩
theorem ok_X5_canonicalNode : MOK mX5_canonicalNode 1 := ⟨by decide +kernel, rfl, (tm 720 (by decide +kernel) rfl), (tm 8 (by decide +kernel) rfl), by decide +kernel, by decide +kernel, by decide +kernel, by decide⟩
theorem ok_X5_findCanonical : MOK mX5_findCanonical 0 := ⟨by decide +kernel, rfl, (tm 621 (by decide +kernel) rfl), (tm 8 (by decide +kernel) rfl), by decide +kernel, by decide +kernel, by decide +kernel, by decide⟩
theorem ok_X5_haveEqualParts : MOK mX5_haveEqualParts 2 := ⟨by decide +kernel, rfl, (tm 625 (by decide +kernel) rfl), (tm 8 (by decide +kernel) rfl), by decide +kernel, by decide +kernel, by decide +kernel, by decide⟩
theorem ok_X5_isBuiltBy : MOK mX5_isBuiltBy 2 := ⟨by decide +kernel, rfl, (tm 753 (by decide +kernel) rfl), (tm 8 (by decide +kernel) rfl), by decide +kernel, by decide +kernel, by decide +kernel, by decide⟩
theorem ok_X5_split : MOK mX5_split 3 := ⟨by decide +kernel, rfl, (tm 766 (by decide +kernel) rfl), (tm 8 (by decide +kernel) rfl), by decide +kernel, by decide +kernel, by decide +kernel, by decide⟩
theorem ok_X6_run : MOK mX6_run 2 := ⟨by decide +kernel, rfl, (tm 633 (by decide +kernel) rfl), (tm 10 (by decide +kernel) rfl), by decide +kernel, by decide +kernel, by decide +kernel, by decide⟩
theorem ok_X6_unifyResolved : MOK mX6_unifyResolved 2 := ⟨by decide +kernel, rfl, (tm 649 (by decide +kernel) rfl), (tm 10 (by decide +kernel) rfl), by decide +kernel, by decide +kernel, by decide +kernel, by decide⟩
theorem ok_X6_bindToTerm : MOK mX6_bindToTerm 2 := ⟨by decide +kernel, rfl, (tm 658 (by decide +kernel) rfl), (tm 10 (by decide +kernel) rfl), by decide +kernel, by decide +kernel, by decide +kernel, by decide⟩
theorem ok_X6_open : MOK mX6_open 2 := ⟨by decide +kernel, rfl, (tm 665 (by decide +kernel) rfl), (tm 10 (by decide +kernel) rfl), by decide +kernel, by decide +kernel, by decide +kernel, by decide⟩
theorem ok_X6_await : MOK mX6_await 2 := ⟨by decide +kernel, rfl, (tm 643 (by decide +kernel) rfl), (tm 10 (by decide +kernel) rfl), by decide +kernel, by decide +kernel, by decide +kernel, by decide⟩
theorem ok_X7_build : MOK mX7_build 3 := ⟨by decide +kernel, rfl, (tm 459 (by decide +kernel) rfl), (tm 7 (by decide +kernel) rfl), by decide +kernel, by decide +kernel, by decide +kernel, by decide⟩
theorem ok_X7_place : MOK mX7_place 4 := ⟨by decide +kernel, rfl, (tm 471 (by decide +kernel) rfl), (tm 7 (by decide +kernel) rfl), by decide +kernel, by decide +kernel, by decide +kernel, by decide⟩
theorem ok_X7_await : MOK mX7_await 3 := ⟨by decide +kernel, rfl, (tm 467 (by decide +kernel) rfl), (tm 7 (by decide +kernel) rfl), by decide +kernel, by decide +kernel, by decide +kernel, by decide⟩
theorem ok_X8_keyOf : MOK mX8_keyOf 2 := ⟨by decide +kernel, rfl, (tm 462 (by decide +kernel) rfl), (tm 5 (by decide +kernel) rfl), by decide +kernel, by decide +kernel, by decide +kernel, by decide⟩
theorem ok_X8_sizeOfKey : MOK mX8_sizeOfKey 1 := ⟨by decide +kernel, rfl, (tm 482 (by decide +kernel) rfl), (tm 5 (by decide +kernel) rfl), by decide +kernel, by decide +kernel, by decide +kernel, by decide⟩
theorem ok_X8_indexOfKey : MOK mX8_indexOfKey 1 := ⟨by decide +kernel, rfl, (tm 485 (by decide +kernel) rfl), (tm 5 (by decide +kernel) rfl), by decide +kernel, by decide +kernel, by decide +kernel, by decide⟩
theorem ok_X8_countOf : MOK mX8_countOf 2 := ⟨by decide +kernel, rfl, (tm 451 (by decide +kernel) rfl), (tm 5 (by decide +kernel) rfl), by decide +kernel, by decide +kernel, by decide +kernel, by decide⟩
theorem ok_X8_recompute : MOK mX8_recompute 0 := ⟨by decide +kernel, rfl, (tm 399 (by decide +kernel) rfl), (tm 5 (by decide +kernel) rfl), by decide +kernel, by decide +kernel, by decide +kernel, by decide⟩
theorem ok_X8_fillWays : MOK mX8_fillWays 2 := ⟨by decide +kernel, rfl, (tm 404 (by decide +kernel) rfl), (tm 5 (by decide +kernel) rfl), by decide +kernel, by decide +kernel, by decide +kernel, by decide⟩
theorem ok_X8_wayPlace : MOK mX8_wayPlace 3 := ⟨by decide +kernel, rfl, (tm 407 (by decide +kernel) rfl), (tm 5 (by decide +kernel) rfl), by decide +kernel, by decide +kernel, by decide +kernel, by decide⟩
theorem ok_X8_waysOf : MOK mX8_waysOf 3 := ⟨by decide +kernel, rfl, (tm 418 (by decide +kernel) rfl), (tm 5 (by decide +kernel) rfl), by decide +kernel, by decide +kernel, by decide +kernel, by decide⟩
theorem ok_X8_waysOfSplit : MOK mX8_waysOfSplit 4 := ⟨by decide +kernel, rfl, (tm 411 (by decide +kernel) rfl), (tm 5 (by decide +kernel) rfl), by decide +kernel, by decide +kernel, by decide +kernel, by decide⟩
theorem ok_X8_isBuiltBy : MOK mX8_isBuiltBy 2 := ⟨by decide +kernel, rfl, (tm 479 (by decide +kernel) rfl), (tm 5 (by decide +kernel) rfl), by decide +kernel, by decide +kernel, by decide +kernel, by decide⟩
theorem ok_X8_rootOf : MOK mX8_rootOf 2 := ⟨by decide +kernel, rfl, (tm 475 (by decide +kernel) rfl), (tm 5 (by decide +kernel) rfl), by decide +kernel, by decide +kernel, by decide +kernel, by decide⟩
theorem ok_X8_split : MOK mX8_split 3 := ⟨by decide +kernel, rfl, (tm 493 (by decide +kernel) rfl), (tm 5 (by decide +kernel) rfl), by decide +kernel, by decide +kernel, by decide +kernel, by decide⟩
theorem ok_X8_indexOf : MOK mX8_indexOf 4 := ⟨by decide +kernel, rfl, (tm 609 (by decide +kernel) rfl), (tm 5 (by decide +kernel) rfl), by decide +kernel, by decide +kernel, by decide +kernel, by decide⟩
theorem ok_X10_begin : MOK mX10_begin 0 := ⟨by decide +kernel, rfl, (tm 564 (by decide +kernel) rfl), (tm 9 (by decide +kernel) rfl), by decide +kernel, by decide +kernel, by decide +kernel, by decide⟩
theorem ok_X10_hasListed : MOK mX10_hasListed 1 := ⟨by decide +kernel, rfl, (tm 573 (by decide +kernel) rfl), (tm 9 (by decide +kernel) rfl), by decide +kernel, by decide +kernel, by decide +kernel, by decide⟩
theorem ok_X10_visit : MOK mX10_visit 1 := ⟨by decide +kernel, rfl, (tm 568 (by decide +kernel) rfl), (tm 9 (by decide +kernel) rfl), by decide +kernel, by decide +kernel, by decide +kernel, by decide⟩
theorem ok_X10_unlistedPart : MOK mX10_unlistedPart 1 := ⟨by decide +kernel, rfl, (tm 578 (by decide +kernel) rfl), (tm 9 (by decide +kernel) rfl), by decide +kernel, by decide +kernel, by decide +kernel, by decide⟩
theorem ok_X10_list : MOK mX10_list 1 := ⟨by decide +kernel, rfl, (tm 588 (by decide +kernel) rfl), (tm 9 (by decide +kernel) rfl), by decide +kernel, by decide +kernel, by decide +kernel, by decide⟩
theorem ok_X11_addType : MOK mX11_addType 0 := ⟨by decide +kernel, rfl, (tm 343 (by decide +kernel) rfl), (tm 1 (by decide +kernel) rfl), by decide +kernel, by decide +kernel, by decide +kernel, by decide⟩
theorem ok_X11_addConstructor : MOK mX11_addConstructor 5 := ⟨by decide +kernel, rfl, (tm 347 (by decide +kernel) rfl), (tm 1 (by decide +kernel) rfl), by decide +kernel, by decide +kernel, by decide +kernel, by decide⟩
theorem ok_X11_resultType : MOK mX11_resultType 1 := ⟨by decide +kernel, rfl, (tm 422 (by decide +kernel) rfl), (tm 1 (by decide +kernel) rfl), by decide +kernel, by decide +kernel, by decide +kernel, by decide⟩
theorem ok_X11_arity : MOK mX11_arity 1 := ⟨by decide +kernel, rfl, (tm 430 (by decide +kernel) rfl), (tm 1 (by decide +kernel) rfl), by decide +kernel, by decide +kernel, by decide +kernel, by decide⟩
theorem ok_X11_argumentType : MOK mX11_argumentType 2 := ⟨by decide +kernel, rfl, (tm 434 (by decide +kernel) rfl), (tm 1 (by decide +kernel) rfl), by decide +kernel, by decide +kernel, by decide +kernel, by decide⟩
theorem ok_X11_cardinality : MOK mX11_cardinality 1 := ⟨by decide +kernel, rfl, (tm 439 (by decide +kernel) rfl), (tm 1 (by decide +kernel) rfl), by decide +kernel, by decide +kernel, by decide +kernel, by decide⟩
theorem ok_X11_smallestSize : MOK mX11_smallestSize 1 := ⟨by decide +kernel, rfl, (tm 443 (by decide +kernel) rfl), (tm 1 (by decide +kernel) rfl), by decide +kernel, by decide +kernel, by decide +kernel, by decide⟩
theorem ok_X11_count : MOK mX11_count 2 := ⟨by decide +kernel, rfl, (tm 447 (by decide +kernel) rfl), (tm 1 (by decide +kernel) rfl), by decide +kernel, by decide +kernel, by decide +kernel, by decide⟩
theorem ok_X11_value : MOK mX11_value 3 := ⟨by decide +kernel, rfl, (tm 455 (by decide +kernel) rfl), (tm 1 (by decide +kernel) rfl), by decide +kernel, by decide +kernel, by decide +kernel, by decide⟩
theorem ok_X11_variable : MOK mX11_variable 1 := ⟨by decide +kernel, rfl, (tm 502 (by decide +kernel) rfl), (tm 1 (by decide +kernel) rfl), by decide +kernel, by decide +kernel, by decide +kernel, by decide⟩
theorem ok_X11_term : MOK mX11_term 4 := ⟨by decide +kernel, rfl, (tm 510 (by decide +kernel) rfl), (tm 1 (by decide +kernel) rfl), by decide +kernel, by decide +kernel, by decide +kernel, by decide⟩
theorem ok_X11_nodeCount : MOK mX11_nodeCount 0 := ⟨by decide +kernel, rfl, (tm 523 (by decide +kernel) rfl), (tm 1 (by decide +kernel) rfl), by decide +kernel, by decide +kernel, by decide +kernel, by decide⟩
theorem ok_X11_nodeType : MOK mX11_nodeType 1 := ⟨by decide +kernel, rfl, (tm 527 (by decide +kernel) rfl), (tm 1 (by decide +kernel) rfl), by decide +kernel, by decide +kernel, by decide +kernel, by decide⟩
theorem ok_X11_head : MOK mX11_head 1 := ⟨by decide +kernel, rfl, (tm 531 (by decide +kernel) rfl), (tm 1 (by decide +kernel) rfl), by decide +kernel, by decide +kernel, by decide +kernel, by decide⟩
theorem ok_X11_child : MOK mX11_child 2 := ⟨by decide +kernel, rfl, (tm 543 (by decide +kernel) rfl), (tm 1 (by decide +kernel) rfl), by decide +kernel, by decide +kernel, by decide +kernel, by decide⟩
theorem ok_X11_binding : MOK mX11_binding 1 := ⟨by decide +kernel, rfl, (tm 552 (by decide +kernel) rfl), (tm 1 (by decide +kernel) rfl), by decide +kernel, by decide +kernel, by decide +kernel, by decide⟩
theorem ok_X11_size : MOK mX11_size 1 := ⟨by decide +kernel, rfl, (tm 556 (by decide +kernel) rfl), (tm 1 (by decide +kernel) rfl), by decide +kernel, by decide +kernel, by decide +kernel, by decide⟩
theorem ok_X11_rank : MOK mX11_rank 1 := ⟨by decide +kernel, rfl, (tm 601 (by decide +kernel) rfl), (tm 1 (by decide +kernel) rfl), by decide +kernel, by decide +kernel, by decide +kernel, by decide⟩
theorem ok_X11_equal : MOK mX11_equal 2 := ⟨by decide +kernel, rfl, (tm 613 (by decide +kernel) rfl), (tm 1 (by decide +kernel) rfl), by decide +kernel, by decide +kernel, by decide +kernel, by decide⟩
theorem ok_X11_unify : MOK mX11_unify 2 := ⟨by decide +kernel, rfl, (tm 629 (by decide +kernel) rfl), (tm 1 (by decide +kernel) rfl), by decide +kernel, by decide +kernel, by decide +kernel, by decide⟩
theorem ok_X11_boundCount : MOK mX11_boundCount 0 := ⟨by decide +kernel, rfl, (tm 670 (by decide +kernel) rfl), (tm 1 (by decide +kernel) rfl), by decide +kernel, by decide +kernel, by decide +kernel, by decide⟩
theorem ok_X11_unbindAll : MOK mX11_unbindAll 0 := ⟨by decide +kernel, rfl, (tm 678 (by decide +kernel) rfl), (tm 1 (by decide +kernel) rfl), by decide +kernel, by decide +kernel, by decide +kernel, by decide⟩
theorem ok_X11_push : MOK mX11_push 0 := ⟨by decide +kernel, rfl, (tm 683 (by decide +kernel) rfl), (tm 1 (by decide +kernel) rfl), by decide +kernel, by decide +kernel, by decide +kernel, by decide⟩
theorem ok_X11_pop : MOK mX11_pop 0 := ⟨by decide +kernel, rfl, (tm 692 (by decide +kernel) rfl), (tm 1 (by decide +kernel) rfl), by decide +kernel, by decide +kernel, by decide +kernel, by decide⟩
theorem ok_X11_addRow : MOK mX11_addRow 1 := ⟨by decide +kernel, rfl, (tm 700 (by decide +kernel) rfl), (tm 1 (by decide +kernel) rfl), by decide +kernel, by decide +kernel, by decide +kernel, by decide⟩
theorem ok_X11_clearRows : MOK mX11_clearRows 0 := ⟨by decide +kernel, rfl, (tm 712 (by decide +kernel) rfl), (tm 1 (by decide +kernel) rfl), by decide +kernel, by decide +kernel, by decide +kernel, by decide⟩
theorem ok_X11_firstMatch : MOK mX11_firstMatch 1 := ⟨by decide +kernel, rfl, (tm 716 (by decide +kernel) rfl), (tm 1 (by decide +kernel) rfl), by decide +kernel, by decide +kernel, by decide +kernel, by decide⟩
theorem ok_X11_uncovered : MOK mX11_uncovered 1 := ⟨by decide +kernel, rfl, (tm 774 (by decide +kernel) rfl), (tm 1 (by decide +kernel) rfl), by decide +kernel, by decide +kernel, by decide +kernel, by decide⟩
theorem ok_X11_firstUncovered : MOK mX11_firstUncovered 1 := ⟨by decide +kernel, rfl, (tm 783 (by decide +kernel) rfl), (tm 1 (by decide +kernel) rfl), by decide +kernel, by decide +kernel, by decide +kernel, by decide⟩
theorem ok_X11_coveredBy : MOK mX11_coveredBy 2 := ⟨by decide +kernel, rfl, (tm 791 (by decide +kernel) rfl), (tm 1 (by decide +kernel) rfl), by decide +kernel, by decide +kernel, by decide +kernel, by decide⟩
theorem ok_X11_countFirstFitting : MOK mX11_countFirstFitting 2 := ⟨by decide +kernel, rfl, (tm 778 (by decide +kernel) rfl), (tm 1 (by decide +kernel) rfl), by decide +kernel, by decide +kernel, by decide +kernel, by decide⟩
theorem ok_X11_firstIndexUncovered : MOK mX11_firstIndexUncovered 1 := ⟨by decide +kernel, rfl, (tm 787 (by decide +kernel) rfl), (tm 1 (by decide +kernel) rfl), by decide +kernel, by decide +kernel, by decide +kernel, by decide⟩
theorem ok_X11_limitedSum : MOK mX11_limitedSum 2 := ⟨by decide +kernel, rfl, (tm 395 (by decide +kernel) rfl), (tm 1 (by decide +kernel) rfl), by decide +kernel, by decide +kernel, by decide +kernel, by decide⟩
theorem ok_X11_limitedProduct : MOK mX11_limitedProduct 2 := ⟨by decide +kernel, rfl, (tm 390 (by decide +kernel) rfl), (tm 1 (by decide +kernel) rfl), by decide +kernel, by decide +kernel, by decide +kernel, by decide⟩
theorem ok_X12_in : MOK mX12_in 3 := ⟨by decide +kernel, rfl, (tm 936 (by decide +kernel) rfl), (tm 13 (by decide +kernel) rfl), by decide +kernel, by decide +kernel, by decide +kernel, by decide⟩
theorem ok_X12_isType : MOK mX12_isType 1 := ⟨by decide +kernel, rfl, (tm 940 (by decide +kernel) rfl), (tm 13 (by decide +kernel) rfl), by decide +kernel, by decide +kernel, by decide +kernel, by decide⟩
theorem ok_X12_isConstructor : MOK mX12_isConstructor 1 := ⟨by decide +kernel, rfl, (tm 948 (by decide +kernel) rfl), (tm 13 (by decide +kernel) rfl), by decide +kernel, by decide +kernel, by decide +kernel, by decide⟩
theorem ok_X12_isNode : MOK mX12_isNode 1 := ⟨by decide +kernel, rfl, (tm 1056 (by decide +kernel) rfl), (tm 13 (by decide +kernel) rfl), by decide +kernel, by decide +kernel, by decide +kernel, by decide⟩
theorem ok_X12_capped : MOK mX12_capped 1 := ⟨by decide +kernel, rfl, (tm 987 (by decide +kernel) rfl), (tm 13 (by decide +kernel) rfl), by decide +kernel, by decide +kernel, by decide +kernel, by decide⟩
theorem ok_X12_addType : MOK mX12_addType 0 := ⟨by decide +kernel, rfl, (tm 929 (by decide +kernel) rfl), (tm 13 (by decide +kernel) rfl), by decide +kernel, by decide +kernel, by decide +kernel, by decide⟩
theorem ok_X12_addConstructor : MOK mX12_addConstructor 5 := ⟨by decide +kernel, rfl, (tm 933 (by decide +kernel) rfl), (tm 13 (by decide +kernel) rfl), by decide +kernel, by decide +kernel, by decide +kernel, by decide⟩
theorem ok_X12_resultType : MOK mX12_resultType 1 := ⟨by decide +kernel, rfl, (tm 944 (by decide +kernel) rfl), (tm 13 (by decide +kernel) rfl), by decide +kernel, by decide +kernel, by decide +kernel, by decide⟩
theorem ok_X12_arity : MOK mX12_arity 1 := ⟨by decide +kernel, rfl, (tm 952 (by decide +kernel) rfl), (tm 13 (by decide +kernel) rfl), by decide +kernel, by decide +kernel, by decide +kernel, by decide⟩
theorem ok_X12_argumentType : MOK mX12_argumentType 2 := ⟨by decide +kernel, rfl, (tm 956 (by decide +kernel) rfl), (tm 13 (by decide +kernel) rfl), by decide +kernel, by decide +kernel, by decide +kernel, by decide⟩
theorem ok_X12_laySmallest : MOK mX12_laySmallest 0 := ⟨by decide +kernel, rfl, (tm 968 (by decide +kernel) rfl), (tm 13 (by decide +kernel) rfl), by decide +kernel, by decide +kernel, by decide +kernel, by decide⟩
theorem ok_X12_sizeBy : MOK mX12_sizeBy 1 := ⟨by decide +kernel, rfl, (tm 972 (by decide +kernel) rfl), (tm 13 (by decide +kernel) rfl), by decide +kernel, by decide +kernel, by decide +kernel, by decide⟩
theorem ok_X12_layWithin : MOK mX12_layWithin 0 := ⟨by decide +kernel, rfl, (tm 964 (by decide +kernel) rfl), (tm 13 (by decide +kernel) rfl), by decide +kernel, by decide +kernel, by decide +kernel, by decide⟩
theorem ok_X12_isInfinite : MOK mX12_isInfinite 1 := ⟨by decide +kernel, rfl, (tm 976 (by decide +kernel) rfl), (tm 13 (by decide +kernel) rfl), by decide +kernel, by decide +kernel, by decide +kernel, by decide⟩
theorem ok_X12_layAll : MOK mX12_layAll 0 := ⟨by decide +kernel, rfl, (tm 980 (by decide +kernel) rfl), (tm 13 (by decide +kernel) rfl), by decide +kernel, by decide +kernel, by decide +kernel, by decide⟩
theorem ok_X12_allBy : MOK mX12_allBy 1 := ⟨by decide +kernel, rfl, (tm 984 (by decide +kernel) rfl), (tm 13 (by decide +kernel) rfl), by decide +kernel, by decide +kernel, by decide +kernel, by decide⟩
theorem ok_X12_cardinality : MOK mX12_cardinality 1 := ⟨by decide +kernel, rfl, (tm 960 (by decide +kernel) rfl), (tm 13 (by decide +kernel) rfl), by decide +kernel, by decide +kernel, by decide +kernel, by decide⟩
theorem ok_X12_smallestSize : MOK mX12_smallestSize 1 := ⟨by decide +kernel, rfl, (tm 993 (by decide +kernel) rfl), (tm 13 (by decide +kernel) rfl), by decide +kernel, by decide +kernel, by decide +kernel, by decide⟩
theorem ok_X12_way : MOK mX12_way 3 := ⟨by decide +kernel, rfl, (tm 1008 (by decide +kernel) rfl), (tm 13 (by decide +kernel) rfl), by decide +kernel, by decide +kernel, by decide +kernel, by decide⟩
theorem ok_X12_countOf : MOK mX12_countOf 2 := ⟨by decide +kernel, rfl, (tm 1012 (by decide +kernel) rfl), (tm 13 (by decide +kernel) rfl), by decide +kernel, by decide +kernel, by decide +kernel, by decide⟩
theorem ok_X12_layWays : MOK mX12_layWays 2 := ⟨by decide +kernel, rfl, (tm 1005 (by decide +kernel) rfl), (tm 13 (by decide +kernel) rfl), by decide +kernel, by decide +kernel, by decide +kernel, by decide⟩
theorem ok_X12_layCounts : MOK mX12_layCounts 0 := ⟨by decide +kernel, rfl, (tm 1001 (by decide +kernel) rfl), (tm 13 (by decide +kernel) rfl), by decide +kernel, by decide +kernel, by decide +kernel, by decide⟩
theorem ok_X12_count : MOK mX12_count 2 := ⟨by decide +kernel, rfl, (tm 997 (by decide +kernel) rfl), (tm 13 (by decide +kernel) rfl), by decide +kernel, by decide +kernel, by decide +kernel, by decide⟩
theorem ok_X12_share : MOK mX12_share 3 := ⟨by decide +kernel, rfl, (tm 1024 (by decide +kernel) rfl), (tm 13 (by decide +kernel) rfl), by decide +kernel, by decide +kernel, by decide +kernel, by decide⟩
theorem ok_X12_blockOf : MOK mX12_blockOf 5 := ⟨by decide +kernel, rfl, (tm 1028 (by decide +kernel) rfl), (tm 13 (by decide +kernel) rfl), by decide +kernel, by decide +kernel, by decide +kernel, by decide⟩
theorem ok_X12_layValue : MOK mX12_layValue 3 := ⟨by decide +kernel, rfl, (tm 1020 (by decide +kernel) rfl), (tm 13 (by decide +kernel) rfl), by decide +kernel, by decide +kernel, by decide +kernel, by decide⟩
theorem ok_X12_layParts : MOK mX12_layParts 0 := ⟨by decide +kernel, rfl, (tm 1032 (by decide +kernel) rfl), (tm 13 (by decide +kernel) rfl), by decide +kernel, by decide +kernel, by decide +kernel, by decide⟩
theorem ok_X12_addNode : MOK mX12_addNode 5 := ⟨by decide +kernel, rfl, (tm 1040 (by decide +kernel) rfl), (tm 13 (by decide +kernel) rfl), by decide +kernel, by decide +kernel, by decide +kernel, by decide⟩
theorem ok_X12_makeNodes : MOK mX12_makeNodes 0 := ⟨by decide +kernel, rfl, (tm 1036 (by decide +kernel) rfl), (tm 13 (by decide +kernel) rfl), by decide +kernel, by decide +kernel, by decide +kernel, by decide⟩
theorem ok_X12_value : MOK mX12_value 3 := ⟨by decide +kernel, rfl, (tm 1016 (by decide +kernel) rfl), (tm 13 (by decide +kernel) rfl), by decide +kernel, by decide +kernel, by decide +kernel, by decide⟩
theorem ok_X12_variable : MOK mX12_variable 1 := ⟨by decide +kernel, rfl, (tm 1044 (by decide +kernel) rfl), (tm 13 (by decide +kernel) rfl), by decide +kernel, by decide +kernel, by decide +kernel, by decide⟩
theorem ok_X12_wrongChild : MOK mX12_wrongChild 3 := ⟨by decide +kernel, rfl, (tm 1052 (by decide +kernel) rfl), (tm 13 (by decide +kernel) rfl), by decide +kernel, by decide +kernel, by decide +kernel, by decide⟩
theorem ok_X12_term : MOK mX12_term 4 := ⟨by decide +kernel, rfl, (tm 1048 (by decide +kernel) rfl), (tm 13 (by decide +kernel) rfl), by decide +kernel, by decide +kernel, by decide +kernel, by decide⟩
theorem ok_X12_nodeCount : MOK mX12_nodeCount 0 := ⟨by decide +kernel, rfl, (tm 1060 (by decide +kernel) rfl), (tm 13 (by decide +kernel) rfl), by decide +kernel, by decide +kernel, by decide +kernel, by decide⟩
theorem ok_X12_nodeType : MOK mX12_nodeType 1 := ⟨by decide +kernel, rfl, (tm 1064 (by decide +kernel) rfl), (tm 13 (by decide +kernel) rfl), by decide +kernel, by decide +kernel, by decide +kernel, by decide⟩
theorem ok_X12_resolved : MOK mX12_resolved 1 := ⟨by decide +kernel, rfl, (tm 1072 (by decide +kernel) rfl), (tm 13 (by decide +kernel) rfl), by decide +kernel, by decide +kernel, by decide +kernel, by decide⟩
theorem ok_X12_manyOf : MOK mX12_manyOf 1 := ⟨by decide +kernel, rfl, (tm 1080 (by decide +kernel) rfl), (tm 13 (by decide +kernel) rfl), by decide +kernel, by decide +kernel, by decide +kernel, by decide⟩
theorem ok_X12_head : MOK mX12_head 1 := ⟨by decide +kernel, rfl, (tm 1068 (by decide +kernel) rfl), (tm 13 (by decide +kernel) rfl), by decide +kernel, by decide +kernel, by decide +kernel, by decide⟩
theorem ok_X12_child : MOK mX12_child 2 := ⟨by decide +kernel, rfl, (tm 1076 (by decide +kernel) rfl), (tm 13 (by decide +kernel) rfl), by decide +kernel, by decide +kernel, by decide +kernel, by decide⟩
theorem ok_X12_binding : MOK mX12_binding 1 := ⟨by decide +kernel, rfl, (tm 1084 (by decide +kernel) rfl), (tm 13 (by decide +kernel) rfl), by decide +kernel, by decide +kernel, by decide +kernel, by decide⟩
theorem ok_X12_laySizes : MOK mX12_laySizes 0 := ⟨by decide +kernel, rfl, (tm 1092 (by decide +kernel) rfl), (tm 13 (by decide +kernel) rfl), by decide +kernel, by decide +kernel, by decide +kernel, by decide⟩
theorem ok_X12_sizeNow : MOK mX12_sizeNow 1 := ⟨by decide +kernel, rfl, (tm 1096 (by decide +kernel) rfl), (tm 13 (by decide +kernel) rfl), by decide +kernel, by decide +kernel, by decide +kernel, by decide⟩
theorem ok_X12_size : MOK mX12_size 1 := ⟨by decide +kernel, rfl, (tm 1088 (by decide +kernel) rfl), (tm 13 (by decide +kernel) rfl), by decide +kernel, by decide +kernel, by decide +kernel, by decide⟩
theorem ok_X12_rankNow : MOK mX12_rankNow 1 := ⟨by decide +kernel, rfl, (tm 1108 (by decide +kernel) rfl), (tm 13 (by decide +kernel) rfl), by decide +kernel, by decide +kernel, by decide +kernel, by decide⟩
theorem ok_X12_layRanks : MOK mX12_layRanks 0 := ⟨by decide +kernel, rfl, (tm 1104 (by decide +kernel) rfl), (tm 13 (by decide +kernel) rfl), by decide +kernel, by decide +kernel, by decide +kernel, by decide⟩
theorem ok_X12_rank : MOK mX12_rank 1 := ⟨by decide +kernel, rfl, (tm 1100 (by decide +kernel) rfl), (tm 13 (by decide +kernel) rfl), by decide +kernel, by decide +kernel, by decide +kernel, by decide⟩
theorem ok_X12_beginPairs : MOK mX12_beginPairs 2 := ⟨by decide +kernel, rfl, (tm 1116 (by decide +kernel) rfl), (tm 13 (by decide +kernel) rfl), by decide +kernel, by decide +kernel, by decide +kernel, by decide⟩
theorem ok_X12_pushChildren : MOK mX12_pushChildren 2 := ⟨by decide +kernel, rfl, (tm 1120 (by decide +kernel) rfl), (tm 13 (by decide +kernel) rfl), by decide +kernel, by decide +kernel, by decide +kernel, by decide⟩
theorem ok_X12_equal : MOK mX12_equal 2 := ⟨by decide +kernel, rfl, (tm 1112 (by decide +kernel) rfl), (tm 13 (by decide +kernel) rfl), by decide +kernel, by decide +kernel, by decide +kernel, by decide⟩
theorem ok_X12_bind : MOK mX12_bind 2 := ⟨by decide +kernel, rfl, (tm 1132 (by decide +kernel) rfl), (tm 13 (by decide +kernel) rfl), by decide +kernel, by decide +kernel, by decide +kernel, by decide⟩
theorem ok_X12_occurs : MOK mX12_occurs 2 := ⟨by decide +kernel, rfl, (tm 1136 (by decide +kernel) rfl), (tm 13 (by decide +kernel) rfl), by decide +kernel, by decide +kernel, by decide +kernel, by decide⟩
theorem ok_X12_unifyNow : MOK mX12_unifyNow 2 := ⟨by decide +kernel, rfl, (tm 1128 (by decide +kernel) rfl), (tm 13 (by decide +kernel) rfl), by decide +kernel, by decide +kernel, by decide +kernel, by decide⟩
theorem ok_X12_unify : MOK mX12_unify 2 := ⟨by decide +kernel, rfl, (tm 1124 (by decide +kernel) rfl), (tm 13 (by decide +kernel) rfl), by decide +kernel, by decide +kernel, by decide +kernel, by decide⟩
theorem ok_X12_boundCount : MOK mX12_boundCount 0 := ⟨by decide +kernel, rfl, (tm 1140 (by decide +kernel) rfl), (tm 13 (by decide +kernel) rfl), by decide +kernel, by decide +kernel, by decide +kernel, by decide⟩
theorem ok_X12_unbindAll : MOK mX12_unbindAll 0 := ⟨by decide +kernel, rfl, (tm 1144 (by decide +kernel) rfl), (tm 13 (by decide +kernel) rfl), by decide +kernel, by decide +kernel, by decide +kernel, by decide⟩
theorem ok_X12_push : MOK mX12_push 0 := ⟨by decide +kernel, rfl, (tm 1149 (by decide +kernel) rfl), (tm 13 (by decide +kernel) rfl), by decide +kernel, by decide +kernel, by decide +kernel, by decide⟩
theorem ok_X12_pop : MOK mX12_pop 0 := ⟨by decide +kernel, rfl, (tm 1153 (by decide +kernel) rfl), (tm 13 (by decide +kernel) rfl), by decide +kernel, by decide +kernel, by decide +kernel, by decide⟩
theorem ok_X12_addRow : MOK mX12_addRow 1 := ⟨by decide +kernel, rfl, (tm 1157 (by decide +kernel) rfl), (tm 13 (by decide +kernel) rfl), by decide +kernel, by decide +kernel, by decide +kernel, by decide⟩
theorem ok_X12_clearRows : MOK mX12_clearRows 0 := ⟨by decide +kernel, rfl, (tm 1161 (by decide +kernel) rfl), (tm 13 (by decide +kernel) rfl), by decide +kernel, by decide +kernel, by decide +kernel, by decide⟩
theorem ok_X12_areSame : MOK mX12_areSame 2 := ⟨by decide +kernel, rfl, (tm 1181 (by decide +kernel) rfl), (tm 13 (by decide +kernel) rfl), by decide +kernel, by decide +kernel, by decide +kernel, by decide⟩
theorem ok_X12_matches : MOK mX12_matches 1 := ⟨by decide +kernel, rfl, (tm 1177 (by decide +kernel) rfl), (tm 13 (by decide +kernel) rfl), by decide +kernel, by decide +kernel, by decide +kernel, by decide⟩
theorem ok_X12_matchNow : MOK mX12_matchNow 0 := ⟨by decide +kernel, rfl, (tm 1173 (by decide +kernel) rfl), (tm 13 (by decide +kernel) rfl), by decide +kernel, by decide +kernel, by decide +kernel, by decide⟩
theorem ok_X12_layTerm : MOK mX12_layTerm 1 := ⟨by decide +kernel, rfl, (tm 1169 (by decide +kernel) rfl), (tm 13 (by decide +kernel) rfl), by decide +kernel, by decide +kernel, by decide +kernel, by decide⟩
theorem ok_X12_firstMatch : MOK mX12_firstMatch 1 := ⟨by decide +kernel, rfl, (tm 1165 (by decide +kernel) rfl), (tm 13 (by decide +kernel) rfl), by decide +kernel, by decide +kernel, by decide +kernel, by decide⟩
theorem ok_X12_subject : MOK mX12_subject 0 := ⟨by decide +kernel, rfl, (tm 1189 (by decide +kernel) rfl), (tm 13 (by decide +kernel) rfl), by decide +kernel, by decide +kernel, by decide +kernel, by decide⟩
theorem ok_X12_countMatched : MOK mX12_countMatched 2 := ⟨by decide +kernel, rfl, (tm 1193 (by decide +kernel) rfl), (tm 13 (by decide +kernel) rfl), by decide +kernel, by decide +kernel, by decide +kernel, by decide⟩
theorem ok_X12_uncovered : MOK mX12_uncovered 1 := ⟨by decide +kernel, rfl, (tm 1185 (by decide +kernel) rfl), (tm 13 (by decide +kernel) rfl), by decide +kernel, by decide +kernel, by decide +kernel, by decide⟩
theorem ok_X12_firstUncovered : MOK mX12_firstUncovered 1 := ⟨by decide +kernel, rfl, (tm 1197 (by decide +kernel) rfl), (tm 13 (by decide +kernel) rfl), by decide +kernel, by decide +kernel, by decide +kernel, by decide⟩
theorem ok_X12_coveredBy : MOK mX12_coveredBy 2 := ⟨by decide +kernel, rfl, (tm 1201 (by decide +kernel) rfl), (tm 13 (by decide +kernel) rfl), by decide +kernel, by decide +kernel, by decide +kernel, by decide⟩
theorem ok_J7_fill_d0a16 : MOK mJ7_fill_d0a16 2 := ⟨by decide +kernel, rfl, (tm 639 (by decide +kernel) rfl), (tm 4 (by decide +kernel) rfl), by decide +kernel, by decide +kernel, by decide +kernel, by decide⟩
theorem ok_J7_fill_53178 : MOK mJ7_fill_53178 2 := ⟨by decide +kernel, rfl, (tm 68 (by decide +kernel) rfl), (tm 4 (by decide +kernel) rfl), by decide +kernel, by decide +kernel, by decide +kernel, by decide⟩
theorem fg_X0_9 : FldG 0 9 0 2 := ⟨RX0, TX0, 6, rfl, by decide, (tm 111 (by decide +kernel) rfl), hin_X0⟩
theorem fg_X0_15 : FldG 0 15 0 3 := ⟨RX0, TX0, 6, rfl, by decide, (tm 114 (by decide +kernel) rfl), hin_X0⟩
theorem fg_X0_18 : FldG 0 18 0 4 := ⟨RX0, TX0, 6, rfl, by decide, (tm 119 (by decide +kernel) rfl), hin_X0⟩
theorem fg_X0_21 : FldG 0 21 0 5 := ⟨RX0, TX0, 6, rfl, by decide, (tm 124 (by decide +kernel) rfl), hin_X0⟩
theorem fg_X0_24 : FldG 0 24 0 0 := ⟨RX0, TX0, 6, rfl, by decide, (tm 107 (by decide +kernel) rfl), hin_X0⟩
theorem fg_X0_34 : FldG 0 34 0 1 := ⟨RX0, TX0, 6, rfl, by decide, (tm 109 (by decide +kernel) rfl), hin_X0⟩
theorem fg_X0_41 : FldG 0 41 4 2 := ⟨RX4, TX4, 5, rfl, by decide, (tm 39 (by decide +kernel) rfl), hin_X4⟩
theorem fg_X0_50 : FldG 0 50 4 3 := ⟨RX4, TX4, 5, rfl, by decide, (tm 46 (by decide +kernel) rfl), hin_X4⟩
theorem fg_X1_9 : FldG 1 9 1 1 := ⟨RX1, TX1, 3, rfl, by decide, (tm 70 (by decide +kernel) rfl), hin_X1⟩
theorem fg_X1_15 : FldG 1 15 1 2 := ⟨RX1, TX1, 3, rfl, by decide, (tm 72 (by decide +kernel) rfl), hin_X1⟩
theorem fg_X1_18 : FldG 1 18 1 0 := ⟨RX1, TX1, 3, rfl, by decide, (tm 69 (by decide +kernel) rfl), hin_X1⟩
theorem fg_X1_34 : FldG 1 34 4 1 := ⟨RX4, TX4, 5, rfl, by decide, (tm 33 (by decide +kernel) rfl), hin_X4⟩
theorem fg_X1_48 : FldG 1 48 4 3 := ⟨RX4, TX4, 5, rfl, by decide, (tm 43 (by decide +kernel) rfl), hin_X4⟩
theorem fg_X1_55 : FldG 1 55 4 2 := ⟨RX4, TX4, 5, rfl, by decide, (tm 38 (by decide +kernel) rfl), hin_X4⟩
theorem fg_X10_9 : FldG 9 9 9 1 := ⟨RX10, TX10, 6, rfl, by decide, (tm 184 (by decide +kernel) rfl), hin_X10⟩
theorem fg_X10_15 : FldG 9 15 9 4 := ⟨RX10, TX10, 6, rfl, by decide, (tm 189 (by decide +kernel) rfl), hin_X10⟩
theorem fg_X10_18 : FldG 9 18 9 5 := ⟨RX10, TX10, 6, rfl, by decide, (tm 190 (by decide +kernel) rfl), hin_X10⟩
theorem fg_X10_21 : FldG 9 21 9 0 := ⟨RX10, TX10, 6, rfl, by decide, (tm 183 (by decide +kernel) rfl), hin_X10⟩
theorem fg_X10_25 : FldG 9 25 9 3 := ⟨RX10, TX10, 6, rfl, by decide, (tm 188 (by decide +kernel) rfl), hin_X10⟩
theorem fg_X10_29 : FldG 9 29 9 2 := ⟨RX10, TX10, 6, rfl, by decide, (tm 186 (by decide +kernel) rfl), hin_X10⟩
theorem fg_X11_12 : FldG 10 12 10 0 := ⟨RX11, TX11, 9, rfl, by decide, (tm 312 (by decide +kernel) rfl), hin_X11⟩
theorem fg_X11_21 : FldG 10 21 10 1 := ⟨RX11, TX11, 9, rfl, by decide, (tm 313 (by decide +kernel) rfl), hin_X11⟩
theorem fg_X11_28 : FldG 10 28 10 2 := ⟨RX11, TX11, 9, rfl, by decide, (tm 314 (by decide +kernel) rfl), hin_X11⟩
theorem fg_X11_35 : FldG 10 35 10 3 := ⟨RX11, TX11, 9, rfl, by decide, (tm 315 (by decide +kernel) rfl), hin_X11⟩
theorem fg_X11_44 : FldG 10 44 10 4 := ⟨RX11, TX11, 9, rfl, by decide, (tm 316 (by decide +kernel) rfl), hin_X11⟩
theorem fg_X11_53 : FldG 10 53 10 5 := ⟨RX11, TX11, 9, rfl, by decide, (tm 317 (by decide +kernel) rfl), hin_X11⟩
theorem fg_X11_62 : FldG 10 62 10 6 := ⟨RX11, TX11, 9, rfl, by decide, (tm 318 (by decide +kernel) rfl), hin_X11⟩
theorem fg_X11_69 : FldG 10 69 10 7 := ⟨RX11, TX11, 9, rfl, by decide, (tm 319 (by decide +kernel) rfl), hin_X11⟩
theorem fg_X11_76 : FldG 10 76 10 8 := ⟨RX11, TX11, 9, rfl, by decide, (tm 320 (by decide +kernel) rfl), hin_X11⟩
theorem fg_X11_80 : FldG 10 80 4 0 := ⟨RX4, TX4, 5, rfl, by decide, (tm 30 (by decide +kernel) rfl), hin_X4⟩
theorem fg_X11_88 : FldG 10 88 4 1 := ⟨RX4, TX4, 5, rfl, by decide, (tm 34 (by decide +kernel) rfl), hin_X4⟩
theorem fg_X11_102 : FldG 10 102 4 2 := ⟨RX4, TX4, 5, rfl, by decide, (tm 37 (by decide +kernel) rfl), hin_X4⟩
theorem fg_X11_106 : FldG 10 106 4 3 := ⟨RX4, TX4, 5, rfl, by decide, (tm 44 (by decide +kernel) rfl), hin_X4⟩
theorem fg_X11_113 : FldG 10 113 1 2 := ⟨RX1, TX1, 3, rfl, by decide, (tm 73 (by decide +kernel) rfl), hin_X1⟩
theorem fg_X11_116 : FldG 10 116 1 1 := ⟨RX1, TX1, 3, rfl, by decide, (tm 71 (by decide +kernel) rfl), hin_X1⟩
theorem fg_X11_122 : FldG 10 122 0 1 := ⟨RX0, TX0, 6, rfl, by decide, (tm 110 (by decide +kernel) rfl), hin_X0⟩
theorem fg_X11_136 : FldG 10 136 0 2 := ⟨RX0, TX0, 6, rfl, by decide, (tm 113 (by decide +kernel) rfl), hin_X0⟩
theorem fg_X11_149 : FldG 10 149 0 3 := ⟨RX0, TX0, 6, rfl, by decide, (tm 118 (by decide +kernel) rfl), hin_X0⟩
theorem fg_X11_155 : FldG 10 155 0 4 := ⟨RX0, TX0, 6, rfl, by decide, (tm 123 (by decide +kernel) rfl), hin_X0⟩
theorem fg_X11_158 : FldG 10 158 0 5 := ⟨RX0, TX0, 6, rfl, by decide, (tm 126 (by decide +kernel) rfl), hin_X0⟩
theorem fg_X11_185 : FldG 10 185 3 0 := ⟨RX3, TX3, 2, rfl, by decide, (tm 267 (by decide +kernel) rfl), hin_X3⟩
theorem fg_X11_193 : FldG 10 193 2 1 := ⟨RX2, TX2, 10, rfl, by decide, (tm 282 (by decide +kernel) rfl), hin_X2⟩
theorem fg_X12_7 : FldG 11 7 11 2 := ⟨RX12, TX12, 42, rfl, by decide, (tm 800 (by decide +kernel) rfl), hin_X12⟩
theorem fg_X12_13 : FldG 11 13 11 3 := ⟨RX12, TX12, 42, rfl, by decide, (tm 801 (by decide +kernel) rfl), hin_X12⟩
theorem fg_X12_16 : FldG 11 16 11 4 := ⟨RX12, TX12, 42, rfl, by decide, (tm 802 (by decide +kernel) rfl), hin_X12⟩
theorem fg_X12_19 : FldG 11 19 11 6 := ⟨RX12, TX12, 42, rfl, by decide, (tm 804 (by decide +kernel) rfl), hin_X12⟩
theorem fg_X12_22 : FldG 11 22 11 7 := ⟨RX12, TX12, 42, rfl, by decide, (tm 805 (by decide +kernel) rfl), hin_X12⟩
theorem fg_X12_25 : FldG 11 25 11 8 := ⟨RX12, TX12, 42, rfl, by decide, (tm 806 (by decide +kernel) rfl), hin_X12⟩
theorem fg_X12_28 : FldG 11 28 11 9 := ⟨RX12, TX12, 42, rfl, by decide, (tm 807 (by decide +kernel) rfl), hin_X12⟩
theorem fg_X12_31 : FldG 11 31 11 10 := ⟨RX12, TX12, 42, rfl, by decide, (tm 808 (by decide +kernel) rfl), hin_X12⟩
theorem fg_X12_34 : FldG 11 34 11 12 := ⟨RX12, TX12, 42, rfl, by decide, (tm 810 (by decide +kernel) rfl), hin_X12⟩
theorem fg_X12_37 : FldG 11 37 11 14 := ⟨RX12, TX12, 42, rfl, by decide, (tm 812 (by decide +kernel) rfl), hin_X12⟩
theorem fg_X12_40 : FldG 11 40 11 15 := ⟨RX12, TX12, 42, rfl, by decide, (tm 813 (by decide +kernel) rfl), hin_X12⟩
theorem fg_X12_43 : FldG 11 43 11 16 := ⟨RX12, TX12, 42, rfl, by decide, (tm 814 (by decide +kernel) rfl), hin_X12⟩
theorem fg_X12_47 : FldG 11 47 11 17 := ⟨RX12, TX12, 42, rfl, by decide, (tm 815 (by decide +kernel) rfl), hin_X12⟩
theorem fg_X12_50 : FldG 11 50 11 18 := ⟨RX12, TX12, 42, rfl, by decide, (tm 816 (by decide +kernel) rfl), hin_X12⟩
theorem fg_X12_53 : FldG 11 53 11 19 := ⟨RX12, TX12, 42, rfl, by decide, (tm 817 (by decide +kernel) rfl), hin_X12⟩
theorem fg_X12_56 : FldG 11 56 11 20 := ⟨RX12, TX12, 42, rfl, by decide, (tm 818 (by decide +kernel) rfl), hin_X12⟩
theorem fg_X12_59 : FldG 11 59 11 22 := ⟨RX12, TX12, 42, rfl, by decide, (tm 820 (by decide +kernel) rfl), hin_X12⟩
theorem fg_X12_62 : FldG 11 62 11 23 := ⟨RX12, TX12, 42, rfl, by decide, (tm 821 (by decide +kernel) rfl), hin_X12⟩
theorem fg_X12_65 : FldG 11 65 11 24 := ⟨RX12, TX12, 42, rfl, by decide, (tm 822 (by decide +kernel) rfl), hin_X12⟩
theorem fg_X12_68 : FldG 11 68 11 25 := ⟨RX12, TX12, 42, rfl, by decide, (tm 823 (by decide +kernel) rfl), hin_X12⟩
theorem fg_X12_71 : FldG 11 71 11 26 := ⟨RX12, TX12, 42, rfl, by decide, (tm 824 (by decide +kernel) rfl), hin_X12⟩
theorem fg_X12_74 : FldG 11 74 11 27 := ⟨RX12, TX12, 42, rfl, by decide, (tm 825 (by decide +kernel) rfl), hin_X12⟩
theorem fg_X12_77 : FldG 11 77 11 28 := ⟨RX12, TX12, 42, rfl, by decide, (tm 826 (by decide +kernel) rfl), hin_X12⟩
theorem fg_X12_80 : FldG 11 80 11 29 := ⟨RX12, TX12, 42, rfl, by decide, (tm 827 (by decide +kernel) rfl), hin_X12⟩
theorem fg_X12_83 : FldG 11 83 11 30 := ⟨RX12, TX12, 42, rfl, by decide, (tm 828 (by decide +kernel) rfl), hin_X12⟩
theorem fg_X12_86 : FldG 11 86 11 31 := ⟨RX12, TX12, 42, rfl, by decide, (tm 829 (by decide +kernel) rfl), hin_X12⟩
theorem fg_X12_89 : FldG 11 89 11 32 := ⟨RX12, TX12, 42, rfl, by decide, (tm 830 (by decide +kernel) rfl), hin_X12⟩
theorem fg_X12_92 : FldG 11 92 11 33 := ⟨RX12, TX12, 42, rfl, by decide, (tm 831 (by decide +kernel) rfl), hin_X12⟩
theorem fg_X12_95 : FldG 11 95 11 35 := ⟨RX12, TX12, 42, rfl, by decide, (tm 833 (by decide +kernel) rfl), hin_X12⟩
theorem fg_X12_98 : FldG 11 98 11 36 := ⟨RX12, TX12, 42, rfl, by decide, (tm 834 (by decide +kernel) rfl), hin_X12⟩
theorem fg_X12_101 : FldG 11 101 11 38 := ⟨RX12, TX12, 42, rfl, by decide, (tm 836 (by decide +kernel) rfl), hin_X12⟩
theorem fg_X12_104 : FldG 11 104 11 39 := ⟨RX12, TX12, 42, rfl, by decide, (tm 837 (by decide +kernel) rfl), hin_X12⟩
theorem fg_X12_107 : FldG 11 107 11 40 := ⟨RX12, TX12, 42, rfl, by decide, (tm 838 (by decide +kernel) rfl), hin_X12⟩
theorem fg_X12_110 : FldG 11 110 11 41 := ⟨RX12, TX12, 42, rfl, by decide, (tm 839 (by decide +kernel) rfl), hin_X12⟩
theorem fg_X12_113 : FldG 11 113 11 0 := ⟨RX12, TX12, 42, rfl, by decide, (tm 798 (by decide +kernel) rfl), hin_X12⟩
theorem fg_X12_121 : FldG 11 121 11 1 := ⟨RX12, TX12, 42, rfl, by decide, (tm 799 (by decide +kernel) rfl), hin_X12⟩
theorem fg_X12_124 : FldG 11 124 11 5 := ⟨RX12, TX12, 42, rfl, by decide, (tm 803 (by decide +kernel) rfl), hin_X12⟩
theorem fg_X12_179 : FldG 11 179 11 21 := ⟨RX12, TX12, 42, rfl, by decide, (tm 819 (by decide +kernel) rfl), hin_X12⟩
theorem fg_X12_223 : FldG 11 223 11 34 := ⟨RX12, TX12, 42, rfl, by decide, (tm 832 (by decide +kernel) rfl), hin_X12⟩
theorem fg_X12_232 : FldG 11 232 11 37 := ⟨RX12, TX12, 42, rfl, by decide, (tm 835 (by decide +kernel) rfl), hin_X12⟩
theorem fg_X12_248 : FldG 11 248 11 11 := ⟨RX12, TX12, 42, rfl, by decide, (tm 809 (by decide +kernel) rfl), hin_X12⟩
theorem fg_X12_251 : FldG 11 251 11 13 := ⟨RX12, TX12, 42, rfl, by decide, (tm 811 (by decide +kernel) rfl), hin_X12⟩
theorem fg_X2_9 : FldG 2 9 2 2 := ⟨RX2, TX2, 10, rfl, by decide, (tm 283 (by decide +kernel) rfl), hin_X2⟩
theorem fg_X2_15 : FldG 2 15 2 4 := ⟨RX2, TX2, 10, rfl, by decide, (tm 285 (by decide +kernel) rfl), hin_X2⟩
theorem fg_X2_18 : FldG 2 18 2 5 := ⟨RX2, TX2, 10, rfl, by decide, (tm 286 (by decide +kernel) rfl), hin_X2⟩
theorem fg_X2_21 : FldG 2 21 2 6 := ⟨RX2, TX2, 10, rfl, by decide, (tm 287 (by decide +kernel) rfl), hin_X2⟩
theorem fg_X2_24 : FldG 2 24 2 7 := ⟨RX2, TX2, 10, rfl, by decide, (tm 288 (by decide +kernel) rfl), hin_X2⟩
theorem fg_X2_27 : FldG 2 27 2 9 := ⟨RX2, TX2, 10, rfl, by decide, (tm 290 (by decide +kernel) rfl), hin_X2⟩
theorem fg_X2_30 : FldG 2 30 2 0 := ⟨RX2, TX2, 10, rfl, by decide, (tm 280 (by decide +kernel) rfl), hin_X2⟩
theorem fg_X2_34 : FldG 2 34 0 2 := ⟨RX0, TX0, 6, rfl, by decide, (tm 112 (by decide +kernel) rfl), hin_X0⟩
theorem fg_X2_39 : FldG 2 39 2 1 := ⟨RX2, TX2, 10, rfl, by decide, (tm 281 (by decide +kernel) rfl), hin_X2⟩
theorem fg_X2_47 : FldG 2 47 2 3 := ⟨RX2, TX2, 10, rfl, by decide, (tm 284 (by decide +kernel) rfl), hin_X2⟩
theorem fg_X2_50 : FldG 2 50 2 8 := ⟨RX2, TX2, 10, rfl, by decide, (tm 289 (by decide +kernel) rfl), hin_X2⟩
theorem fg_X2_73 : FldG 2 73 0 3 := ⟨RX0, TX0, 6, rfl, by decide, (tm 117 (by decide +kernel) rfl), hin_X0⟩
theorem fg_X2_88 : FldG 2 88 0 4 := ⟨RX0, TX0, 6, rfl, by decide, (tm 122 (by decide +kernel) rfl), hin_X0⟩
theorem fg_X3_9 : FldG 3 9 3 1 := ⟨RX3, TX3, 2, rfl, by decide, (tm 268 (by decide +kernel) rfl), hin_X3⟩
theorem fg_X3_15 : FldG 3 15 3 0 := ⟨RX3, TX3, 2, rfl, by decide, (tm 266 (by decide +kernel) rfl), hin_X3⟩
theorem fg_X4_9 : FldG 4 9 4 2 := ⟨RX4, TX4, 5, rfl, by decide, (tm 36 (by decide +kernel) rfl), hin_X4⟩
theorem fg_X4_15 : FldG 4 15 4 3 := ⟨RX4, TX4, 5, rfl, by decide, (tm 41 (by decide +kernel) rfl), hin_X4⟩
theorem fg_X4_18 : FldG 4 18 4 4 := ⟨RX4, TX4, 5, rfl, by decide, (tm 47 (by decide +kernel) rfl), hin_X4⟩
theorem fg_X4_21 : FldG 4 21 4 0 := ⟨RX4, TX4, 5, rfl, by decide, (tm 31 (by decide +kernel) rfl), hin_X4⟩
theorem fg_X4_25 : FldG 4 25 4 1 := ⟨RX4, TX4, 5, rfl, by decide, (tm 32 (by decide +kernel) rfl), hin_X4⟩
theorem fg_X5_9 : FldG 5 9 5 3 := ⟨RX5, TX5, 8, rfl, by decide, (tm 207 (by decide +kernel) rfl), hin_X5⟩
theorem fg_X5_15 : FldG 5 15 5 4 := ⟨RX5, TX5, 8, rfl, by decide, (tm 208 (by decide +kernel) rfl), hin_X5⟩
theorem fg_X5_18 : FldG 5 18 5 5 := ⟨RX5, TX5, 8, rfl, by decide, (tm 209 (by decide +kernel) rfl), hin_X5⟩
theorem fg_X5_21 : FldG 5 21 5 6 := ⟨RX5, TX5, 8, rfl, by decide, (tm 210 (by decide +kernel) rfl), hin_X5⟩
theorem fg_X5_24 : FldG 5 24 5 7 := ⟨RX5, TX5, 8, rfl, by decide, (tm 211 (by decide +kernel) rfl), hin_X5⟩
theorem fg_X5_27 : FldG 5 27 5 0 := ⟨RX5, TX5, 8, rfl, by decide, (tm 204 (by decide +kernel) rfl), hin_X5⟩
theorem fg_X5_31 : FldG 5 31 5 1 := ⟨RX5, TX5, 8, rfl, by decide, (tm 205 (by decide +kernel) rfl), hin_X5⟩
theorem fg_X5_40 : FldG 5 40 5 2 := ⟨RX5, TX5, 8, rfl, by decide, (tm 206 (by decide +kernel) rfl), hin_X5⟩
theorem fg_X5_51 : FldG 5 51 9 2 := ⟨RX10, TX10, 6, rfl, by decide, (tm 187 (by decide +kernel) rfl), hin_X10⟩
theorem fg_X5_55 : FldG 5 55 9 1 := ⟨RX10, TX10, 6, rfl, by decide, (tm 185 (by decide +kernel) rfl), hin_X10⟩
theorem fg_X5_81 : FldG 5 81 0 3 := ⟨RX0, TX0, 6, rfl, by decide, (tm 116 (by decide +kernel) rfl), hin_X0⟩
theorem fg_X6_9 : FldG 6 9 6 2 := ⟨RX6, TX6, 7, rfl, by decide, (tm 239 (by decide +kernel) rfl), hin_X6⟩
theorem fg_X6_15 : FldG 6 15 6 3 := ⟨RX6, TX6, 7, rfl, by decide, (tm 240 (by decide +kernel) rfl), hin_X6⟩
theorem fg_X6_18 : FldG 6 18 6 4 := ⟨RX6, TX6, 7, rfl, by decide, (tm 241 (by decide +kernel) rfl), hin_X6⟩
theorem fg_X6_21 : FldG 6 21 6 6 := ⟨RX6, TX6, 7, rfl, by decide, (tm 243 (by decide +kernel) rfl), hin_X6⟩
theorem fg_X6_25 : FldG 6 25 6 0 := ⟨RX6, TX6, 7, rfl, by decide, (tm 237 (by decide +kernel) rfl), hin_X6⟩
theorem fg_X6_34 : FldG 6 34 6 1 := ⟨RX6, TX6, 7, rfl, by decide, (tm 238 (by decide +kernel) rfl), hin_X6⟩
theorem fg_X6_38 : FldG 6 38 0 5 := ⟨RX0, TX0, 6, rfl, by decide, (tm 125 (by decide +kernel) rfl), hin_X0⟩
theorem fg_X6_55 : FldG 6 55 6 5 := ⟨RX6, TX6, 7, rfl, by decide, (tm 242 (by decide +kernel) rfl), hin_X6⟩
theorem fg_X6_87 : FldG 6 87 0 3 := ⟨RX0, TX0, 6, rfl, by decide, (tm 115 (by decide +kernel) rfl), hin_X0⟩
theorem fg_X6_106 : FldG 6 106 0 4 := ⟨RX0, TX0, 6, rfl, by decide, (tm 121 (by decide +kernel) rfl), hin_X0⟩
theorem fg_X7_9 : FldG 7 9 7 3 := ⟨RX7, TX7, 8, rfl, by decide, (tm 149 (by decide +kernel) rfl), hin_X7⟩
theorem fg_X7_15 : FldG 7 15 7 4 := ⟨RX7, TX7, 8, rfl, by decide, (tm 150 (by decide +kernel) rfl), hin_X7⟩
theorem fg_X7_18 : FldG 7 18 7 5 := ⟨RX7, TX7, 8, rfl, by decide, (tm 151 (by decide +kernel) rfl), hin_X7⟩
theorem fg_X7_21 : FldG 7 21 7 7 := ⟨RX7, TX7, 8, rfl, by decide, (tm 153 (by decide +kernel) rfl), hin_X7⟩
theorem fg_X7_24 : FldG 7 24 7 0 := ⟨RX7, TX7, 8, rfl, by decide, (tm 146 (by decide +kernel) rfl), hin_X7⟩
theorem fg_X7_28 : FldG 7 28 7 1 := ⟨RX7, TX7, 8, rfl, by decide, (tm 147 (by decide +kernel) rfl), hin_X7⟩
theorem fg_X7_32 : FldG 7 32 7 2 := ⟨RX7, TX7, 8, rfl, by decide, (tm 148 (by decide +kernel) rfl), hin_X7⟩
theorem fg_X7_36 : FldG 7 36 0 1 := ⟨RX0, TX0, 6, rfl, by decide, (tm 108 (by decide +kernel) rfl), hin_X0⟩
theorem fg_X7_42 : FldG 7 42 7 6 := ⟨RX7, TX7, 8, rfl, by decide, (tm 152 (by decide +kernel) rfl), hin_X7⟩
theorem fg_X7_66 : FldG 7 66 0 4 := ⟨RX0, TX0, 6, rfl, by decide, (tm 120 (by decide +kernel) rfl), hin_X0⟩
theorem fg_X7_73 : FldG 7 73 4 3 := ⟨RX4, TX4, 5, rfl, by decide, (tm 42 (by decide +kernel) rfl), hin_X4⟩
theorem fg_X8_9 : FldG 8 9 8 1 := ⟨RX8, TX8, 4, rfl, by decide, (tm 88 (by decide +kernel) rfl), hin_X8⟩
theorem fg_X8_15 : FldG 8 15 8 2 := ⟨RX8, TX8, 4, rfl, by decide, (tm 89 (by decide +kernel) rfl), hin_X8⟩
theorem fg_X8_18 : FldG 8 18 8 3 := ⟨RX8, TX8, 4, rfl, by decide, (tm 90 (by decide +kernel) rfl), hin_X8⟩
theorem fg_X8_21 : FldG 8 21 8 0 := ⟨RX8, TX8, 4, rfl, by decide, (tm 87 (by decide +kernel) rfl), hin_X8⟩
theorem fg_X8_32 : FldG 8 32 4 1 := ⟨RX4, TX4, 5, rfl, by decide, (tm 35 (by decide +kernel) rfl), hin_X4⟩
theorem fg_X8_42 : FldG 8 42 4 2 := ⟨RX4, TX4, 5, rfl, by decide, (tm 40 (by decide +kernel) rfl), hin_X4⟩
theorem fg_X8_53 : FldG 8 53 4 3 := ⟨RX4, TX4, 5, rfl, by decide, (tm 45 (by decide +kernel) rfl), hin_X4⟩
theorem fp_X0_34 : FldP 0 34 0 1 := ⟨RX0, TX0, 6, tyX0, rfl, by decide, (tm 109 (by decide +kernel) rfl), hin_X0, tyX0_ok, nmX0, rfl, rfl⟩
theorem fp_X10_25 : FldP 9 25 9 3 := ⟨RX10, TX10, 6, tyX10, rfl, by decide, (tm 188 (by decide +kernel) rfl), hin_X10, tyX10_ok, nmX10, rfl, rfl⟩
theorem fp_X10_29 : FldP 9 29 9 2 := ⟨RX10, TX10, 6, tyX10, rfl, by decide, (tm 186 (by decide +kernel) rfl), hin_X10, tyX10_ok, nmX10, rfl, rfl⟩
theorem fp_X11_80 : FldP 10 80 4 0 := ⟨RX4, TX4, 5, tyX4, rfl, by decide, (tm 30 (by decide +kernel) rfl), hin_X4, tyX4_ok, nmX4, rfl, rfl⟩
theorem fp_X11_193 : FldP 10 193 2 1 := ⟨RX2, TX2, 10, tyX2, rfl, by decide, (tm 282 (by decide +kernel) rfl), hin_X2, tyX2_ok, nmX2, rfl, rfl⟩
theorem fp_X12_113 : FldP 11 113 11 0 := ⟨RX12, TX12, 42, tyX12, rfl, by decide, (tm 798 (by decide +kernel) rfl), hin_X12, tyX12_ok, nmX12, rfl, rfl⟩
theorem fp_X12_121 : FldP 11 121 11 1 := ⟨RX12, TX12, 42, tyX12, rfl, by decide, (tm 799 (by decide +kernel) rfl), hin_X12, tyX12_ok, nmX12, rfl, rfl⟩
theorem fp_X12_124 : FldP 11 124 11 5 := ⟨RX12, TX12, 42, tyX12, rfl, by decide, (tm 803 (by decide +kernel) rfl), hin_X12, tyX12_ok, nmX12, rfl, rfl⟩
theorem fp_X12_179 : FldP 11 179 11 21 := ⟨RX12, TX12, 42, tyX12, rfl, by decide, (tm 819 (by decide +kernel) rfl), hin_X12, tyX12_ok, nmX12, rfl, rfl⟩
theorem fp_X12_223 : FldP 11 223 11 34 := ⟨RX12, TX12, 42, tyX12, rfl, by decide, (tm 832 (by decide +kernel) rfl), hin_X12, tyX12_ok, nmX12, rfl, rfl⟩
theorem fp_X12_232 : FldP 11 232 11 37 := ⟨RX12, TX12, 42, tyX12, rfl, by decide, (tm 835 (by decide +kernel) rfl), hin_X12, tyX12_ok, nmX12, rfl, rfl⟩
theorem fp_X12_248 : FldP 11 248 11 11 := ⟨RX12, TX12, 42, tyX12, rfl, by decide, (tm 809 (by decide +kernel) rfl), hin_X12, tyX12_ok, nmX12, rfl, rfl⟩
theorem fp_X12_251 : FldP 11 251 11 13 := ⟨RX12, TX12, 42, tyX12, rfl, by decide, (tm 811 (by decide +kernel) rfl), hin_X12, tyX12_ok, nmX12, rfl, rfl⟩
theorem fp_X2_39 : FldP 2 39 2 1 := ⟨RX2, TX2, 10, tyX2, rfl, by decide, (tm 281 (by decide +kernel) rfl), hin_X2, tyX2_ok, nmX2, rfl, rfl⟩
theorem fp_X2_47 : FldP 2 47 2 3 := ⟨RX2, TX2, 10, tyX2, rfl, by decide, (tm 284 (by decide +kernel) rfl), hin_X2, tyX2_ok, nmX2, rfl, rfl⟩
theorem fp_X2_50 : FldP 2 50 2 8 := ⟨RX2, TX2, 10, tyX2, rfl, by decide, (tm 289 (by decide +kernel) rfl), hin_X2, tyX2_ok, nmX2, rfl, rfl⟩
theorem fp_X3_15 : FldP 3 15 3 0 := ⟨RX3, TX3, 2, tyX3, rfl, by decide, (tm 266 (by decide +kernel) rfl), hin_X3, tyX3_ok, nmX3, rfl, rfl⟩
theorem fp_X4_25 : FldP 4 25 4 1 := ⟨RX4, TX4, 5, tyX4, rfl, by decide, (tm 32 (by decide +kernel) rfl), hin_X4, tyX4_ok, nmX4, rfl, rfl⟩
theorem fp_X6_55 : FldP 6 55 6 5 := ⟨RX6, TX6, 7, tyX6, rfl, by decide, (tm 242 (by decide +kernel) rfl), hin_X6, tyX6_ok, nmX6, rfl, rfl⟩
theorem fp_X7_36 : FldP 7 36 0 1 := ⟨RX0, TX0, 6, tyX0, rfl, by decide, (tm 108 (by decide +kernel) rfl), hin_X0, tyX0_ok, nmX0, rfl, rfl⟩
theorem fp_X7_42 : FldP 7 42 7 6 := ⟨RX7, TX7, 8, tyX7, rfl, by decide, (tm 152 (by decide +kernel) rfl), hin_X7, tyX7_ok, nmX7, rfl, rfl⟩
theorem cl_L_102 : CallV 13 102 mX12_boundCount 0 := ⟨ok_X12_boundCount, by decide, (tm 1137 (by decide +kernel) rfl), (tm 1138 (by decide +kernel) rfl), (tm 1139 (by decide +kernel) rfl)⟩
theorem cl_L_103 : CallV 13 103 mX11_unbindAll 0 := ⟨ok_X11_unbindAll, by decide, (tm 675 (by decide +kernel) rfl), (tm 676 (by decide +kernel) rfl), (tm 677 (by decide +kernel) rfl)⟩
theorem cl_L_106 : CallV 13 106 mX12_unbindAll 0 := ⟨ok_X12_unbindAll, by decide, (tm 1141 (by decide +kernel) rfl), (tm 1142 (by decide +kernel) rfl), (tm 1143 (by decide +kernel) rfl)⟩
theorem cl_L_107 : CallV 13 107 mX11_push 0 := ⟨ok_X11_push, by decide, (tm 680 (by decide +kernel) rfl), (tm 681 (by decide +kernel) rfl), (tm 682 (by decide +kernel) rfl)⟩
theorem cl_L_110 : CallV 13 110 mX12_push 0 := ⟨ok_X12_push, by decide, (tm 1146 (by decide +kernel) rfl), (tm 1147 (by decide +kernel) rfl), (tm 1148 (by decide +kernel) rfl)⟩
theorem cl_L_111 : CallV 13 111 mX11_pop 0 := ⟨ok_X11_pop, by decide, (tm 689 (by decide +kernel) rfl), (tm 690 (by decide +kernel) rfl), (tm 691 (by decide +kernel) rfl)⟩
theorem cl_L_114 : CallV 13 114 mX12_pop 0 := ⟨ok_X12_pop, by decide, (tm 1150 (by decide +kernel) rfl), (tm 1151 (by decide +kernel) rfl), (tm 1152 (by decide +kernel) rfl)⟩
theorem cl_L_115 : CallV 13 115 mX11_addRow 1 := ⟨ok_X11_addRow, by decide, (tm 697 (by decide +kernel) rfl), (tm 698 (by decide +kernel) rfl), (tm 699 (by decide +kernel) rfl)⟩
theorem cl_L_118 : CallV 13 118 mX12_addRow 1 := ⟨ok_X12_addRow, by decide, (tm 1154 (by decide +kernel) rfl), (tm 1155 (by decide +kernel) rfl), (tm 1156 (by decide +kernel) rfl)⟩
theorem cl_L_119 : CallV 13 119 mX11_clearRows 0 := ⟨ok_X11_clearRows, by decide, (tm 709 (by decide +kernel) rfl), (tm 710 (by decide +kernel) rfl), (tm 711 (by decide +kernel) rfl)⟩
theorem cl_L_122 : CallV 13 122 mX12_clearRows 0 := ⟨ok_X12_clearRows, by decide, (tm 1158 (by decide +kernel) rfl), (tm 1159 (by decide +kernel) rfl), (tm 1160 (by decide +kernel) rfl)⟩
theorem cl_L_123 : CallV 13 123 mX11_firstMatch 1 := ⟨ok_X11_firstMatch, by decide, (tm 713 (by decide +kernel) rfl), (tm 714 (by decide +kernel) rfl), (tm 715 (by decide +kernel) rfl)⟩
theorem cl_L_126 : CallV 13 126 mX12_firstMatch 1 := ⟨ok_X12_firstMatch, by decide, (tm 1162 (by decide +kernel) rfl), (tm 1163 (by decide +kernel) rfl), (tm 1164 (by decide +kernel) rfl)⟩
theorem cl_L_127 : CallV 13 127 mX11_uncovered 1 := ⟨ok_X11_uncovered, by decide, (tm 771 (by decide +kernel) rfl), (tm 772 (by decide +kernel) rfl), (tm 773 (by decide +kernel) rfl)⟩
theorem cl_L_13 : CallV 13 13 mX11_addType 0 := ⟨ok_X11_addType, by decide, (tm 340 (by decide +kernel) rfl), (tm 341 (by decide +kernel) rfl), (tm 342 (by decide +kernel) rfl)⟩
theorem cl_L_130 : CallV 13 130 mX12_uncovered 1 := ⟨ok_X12_uncovered, by decide, (tm 1182 (by decide +kernel) rfl), (tm 1183 (by decide +kernel) rfl), (tm 1184 (by decide +kernel) rfl)⟩
theorem cl_L_131 : CallV 13 131 mX11_firstUncovered 1 := ⟨ok_X11_firstUncovered, by decide, (tm 780 (by decide +kernel) rfl), (tm 781 (by decide +kernel) rfl), (tm 782 (by decide +kernel) rfl)⟩
theorem cl_L_134 : CallV 13 134 mX12_firstUncovered 1 := ⟨ok_X12_firstUncovered, by decide, (tm 1194 (by decide +kernel) rfl), (tm 1195 (by decide +kernel) rfl), (tm 1196 (by decide +kernel) rfl)⟩
theorem cl_L_135 : CallV 13 135 mX11_coveredBy 2 := ⟨ok_X11_coveredBy, by decide, (tm 788 (by decide +kernel) rfl), (tm 789 (by decide +kernel) rfl), (tm 790 (by decide +kernel) rfl)⟩
theorem cl_L_138 : CallV 13 138 mX12_coveredBy 2 := ⟨ok_X12_coveredBy, by decide, (tm 1198 (by decide +kernel) rfl), (tm 1199 (by decide +kernel) rfl), (tm 1200 (by decide +kernel) rfl)⟩
theorem cl_L_17 : CallV 13 17 mX12_addType 0 := ⟨ok_X12_addType, by decide, (tm 926 (by decide +kernel) rfl), (tm 927 (by decide +kernel) rfl), (tm 928 (by decide +kernel) rfl)⟩
theorem cl_L_18 : CallV 13 18 mX11_addConstructor 5 := ⟨ok_X11_addConstructor, by decide, (tm 344 (by decide +kernel) rfl), (tm 345 (by decide +kernel) rfl), (tm 346 (by decide +kernel) rfl)⟩
theorem cl_L_22 : CallV 13 22 mX12_addConstructor 5 := ⟨ok_X12_addConstructor, by decide, (tm 930 (by decide +kernel) rfl), (tm 931 (by decide +kernel) rfl), (tm 932 (by decide +kernel) rfl)⟩
theorem cl_L_23 : CallV 13 23 mX11_resultType 1 := ⟨ok_X11_resultType, by decide, (tm 419 (by decide +kernel) rfl), (tm 420 (by decide +kernel) rfl), (tm 421 (by decide +kernel) rfl)⟩
theorem cl_L_27 : CallV 13 27 mX12_resultType 1 := ⟨ok_X12_resultType, by decide, (tm 941 (by decide +kernel) rfl), (tm 942 (by decide +kernel) rfl), (tm 943 (by decide +kernel) rfl)⟩
theorem cl_L_28 : CallV 13 28 mX11_arity 1 := ⟨ok_X11_arity, by decide, (tm 427 (by decide +kernel) rfl), (tm 428 (by decide +kernel) rfl), (tm 429 (by decide +kernel) rfl)⟩
theorem cl_L_31 : CallV 13 31 mX12_arity 1 := ⟨ok_X12_arity, by decide, (tm 949 (by decide +kernel) rfl), (tm 950 (by decide +kernel) rfl), (tm 951 (by decide +kernel) rfl)⟩
theorem cl_L_32 : CallV 13 32 mX11_argumentType 2 := ⟨ok_X11_argumentType, by decide, (tm 431 (by decide +kernel) rfl), (tm 432 (by decide +kernel) rfl), (tm 433 (by decide +kernel) rfl)⟩
theorem cl_L_36 : CallV 13 36 mX12_argumentType 2 := ⟨ok_X12_argumentType, by decide, (tm 953 (by decide +kernel) rfl), (tm 954 (by decide +kernel) rfl), (tm 955 (by decide +kernel) rfl)⟩
theorem cl_L_37 : CallV 13 37 mX11_cardinality 1 := ⟨ok_X11_cardinality, by decide, (tm 436 (by decide +kernel) rfl), (tm 437 (by decide +kernel) rfl), (tm 438 (by decide +kernel) rfl)⟩
theorem cl_L_40 : CallV 13 40 mX12_cardinality 1 := ⟨ok_X12_cardinality, by decide, (tm 957 (by decide +kernel) rfl), (tm 958 (by decide +kernel) rfl), (tm 959 (by decide +kernel) rfl)⟩
theorem cl_L_41 : CallV 13 41 mX11_smallestSize 1 := ⟨ok_X11_smallestSize, by decide, (tm 440 (by decide +kernel) rfl), (tm 441 (by decide +kernel) rfl), (tm 442 (by decide +kernel) rfl)⟩
theorem cl_L_44 : CallV 13 44 mX12_smallestSize 1 := ⟨ok_X12_smallestSize, by decide, (tm 990 (by decide +kernel) rfl), (tm 991 (by decide +kernel) rfl), (tm 992 (by decide +kernel) rfl)⟩
theorem cl_L_45 : CallV 13 45 mX11_count 2 := ⟨ok_X11_count, by decide, (tm 444 (by decide +kernel) rfl), (tm 445 (by decide +kernel) rfl), (tm 446 (by decide +kernel) rfl)⟩
theorem cl_L_48 : CallV 13 48 mX12_count 2 := ⟨ok_X12_count, by decide, (tm 994 (by decide +kernel) rfl), (tm 995 (by decide +kernel) rfl), (tm 996 (by decide +kernel) rfl)⟩
theorem cl_L_49 : CallV 13 49 mX11_value 3 := ⟨ok_X11_value, by decide, (tm 452 (by decide +kernel) rfl), (tm 453 (by decide +kernel) rfl), (tm 454 (by decide +kernel) rfl)⟩
theorem cl_L_53 : CallV 13 53 mX12_value 3 := ⟨ok_X12_value, by decide, (tm 1013 (by decide +kernel) rfl), (tm 1014 (by decide +kernel) rfl), (tm 1015 (by decide +kernel) rfl)⟩
theorem cl_L_54 : CallV 13 54 mX11_variable 1 := ⟨ok_X11_variable, by decide, (tm 499 (by decide +kernel) rfl), (tm 500 (by decide +kernel) rfl), (tm 501 (by decide +kernel) rfl)⟩
theorem cl_L_57 : CallV 13 57 mX12_variable 1 := ⟨ok_X12_variable, by decide, (tm 1041 (by decide +kernel) rfl), (tm 1042 (by decide +kernel) rfl), (tm 1043 (by decide +kernel) rfl)⟩
theorem cl_L_58 : CallV 13 58 mX11_term 4 := ⟨ok_X11_term, by decide, (tm 507 (by decide +kernel) rfl), (tm 508 (by decide +kernel) rfl), (tm 509 (by decide +kernel) rfl)⟩
theorem cl_L_62 : CallV 13 62 mX12_term 4 := ⟨ok_X12_term, by decide, (tm 1045 (by decide +kernel) rfl), (tm 1046 (by decide +kernel) rfl), (tm 1047 (by decide +kernel) rfl)⟩
theorem cl_L_63 : CallV 13 63 mX11_nodeCount 0 := ⟨ok_X11_nodeCount, by decide, (tm 520 (by decide +kernel) rfl), (tm 521 (by decide +kernel) rfl), (tm 522 (by decide +kernel) rfl)⟩
theorem cl_L_66 : CallV 13 66 mX12_nodeCount 0 := ⟨ok_X12_nodeCount, by decide, (tm 1057 (by decide +kernel) rfl), (tm 1058 (by decide +kernel) rfl), (tm 1059 (by decide +kernel) rfl)⟩
theorem cl_L_67 : CallV 13 67 mX11_nodeType 1 := ⟨ok_X11_nodeType, by decide, (tm 524 (by decide +kernel) rfl), (tm 525 (by decide +kernel) rfl), (tm 526 (by decide +kernel) rfl)⟩
theorem cl_L_70 : CallV 13 70 mX12_nodeType 1 := ⟨ok_X12_nodeType, by decide, (tm 1061 (by decide +kernel) rfl), (tm 1062 (by decide +kernel) rfl), (tm 1063 (by decide +kernel) rfl)⟩
theorem cl_L_71 : CallV 13 71 mX11_head 1 := ⟨ok_X11_head, by decide, (tm 528 (by decide +kernel) rfl), (tm 529 (by decide +kernel) rfl), (tm 530 (by decide +kernel) rfl)⟩
theorem cl_L_74 : CallV 13 74 mX12_head 1 := ⟨ok_X12_head, by decide, (tm 1065 (by decide +kernel) rfl), (tm 1066 (by decide +kernel) rfl), (tm 1067 (by decide +kernel) rfl)⟩
theorem cl_L_75 : CallV 13 75 mX11_child 2 := ⟨ok_X11_child, by decide, (tm 540 (by decide +kernel) rfl), (tm 541 (by decide +kernel) rfl), (tm 542 (by decide +kernel) rfl)⟩
theorem cl_L_78 : CallV 13 78 mX12_child 2 := ⟨ok_X12_child, by decide, (tm 1073 (by decide +kernel) rfl), (tm 1074 (by decide +kernel) rfl), (tm 1075 (by decide +kernel) rfl)⟩
theorem cl_L_79 : CallV 13 79 mX11_binding 1 := ⟨ok_X11_binding, by decide, (tm 549 (by decide +kernel) rfl), (tm 550 (by decide +kernel) rfl), (tm 551 (by decide +kernel) rfl)⟩
theorem cl_L_82 : CallV 13 82 mX12_binding 1 := ⟨ok_X12_binding, by decide, (tm 1081 (by decide +kernel) rfl), (tm 1082 (by decide +kernel) rfl), (tm 1083 (by decide +kernel) rfl)⟩
theorem cl_L_83 : CallV 13 83 mX11_size 1 := ⟨ok_X11_size, by decide, (tm 553 (by decide +kernel) rfl), (tm 554 (by decide +kernel) rfl), (tm 555 (by decide +kernel) rfl)⟩
theorem cl_L_86 : CallV 13 86 mX12_size 1 := ⟨ok_X12_size, by decide, (tm 1085 (by decide +kernel) rfl), (tm 1086 (by decide +kernel) rfl), (tm 1087 (by decide +kernel) rfl)⟩
theorem cl_L_87 : CallV 13 87 mX11_rank 1 := ⟨ok_X11_rank, by decide, (tm 598 (by decide +kernel) rfl), (tm 599 (by decide +kernel) rfl), (tm 600 (by decide +kernel) rfl)⟩
theorem cl_L_90 : CallV 13 90 mX12_rank 1 := ⟨ok_X12_rank, by decide, (tm 1097 (by decide +kernel) rfl), (tm 1098 (by decide +kernel) rfl), (tm 1099 (by decide +kernel) rfl)⟩
theorem cl_L_91 : CallV 13 91 mX11_equal 2 := ⟨ok_X11_equal, by decide, (tm 610 (by decide +kernel) rfl), (tm 611 (by decide +kernel) rfl), (tm 612 (by decide +kernel) rfl)⟩
theorem cl_L_94 : CallV 13 94 mX12_equal 2 := ⟨ok_X12_equal, by decide, (tm 1109 (by decide +kernel) rfl), (tm 1110 (by decide +kernel) rfl), (tm 1111 (by decide +kernel) rfl)⟩
theorem cl_L_95 : CallV 13 95 mX11_unify 2 := ⟨ok_X11_unify, by decide, (tm 626 (by decide +kernel) rfl), (tm 627 (by decide +kernel) rfl), (tm 628 (by decide +kernel) rfl)⟩
theorem cl_L_98 : CallV 13 98 mX12_unify 2 := ⟨ok_X12_unify, by decide, (tm 1121 (by decide +kernel) rfl), (tm 1122 (by decide +kernel) rfl), (tm 1123 (by decide +kernel) rfl)⟩
theorem cl_L_99 : CallV 13 99 mX11_boundCount 0 := ⟨ok_X11_boundCount, by decide, (tm 667 (by decide +kernel) rfl), (tm 668 (by decide +kernel) rfl), (tm 669 (by decide +kernel) rfl)⟩
theorem cl_X0_38 : CallV 0 38 mX0_fill 2 := ⟨ok_X0_fill, by decide, (tm 519 (by decide +kernel) rfl), (tm 487 (by decide +kernel) rfl), (tm 488 (by decide +kernel) rfl)⟩
theorem cl_X0_46 : CallV 0 46 mX0_isVariable 1 := ⟨ok_X0_isVariable, by decide, (tm 548 (by decide +kernel) rfl), (tm 537 (by decide +kernel) rfl), (tm 538 (by decide +kernel) rfl)⟩
theorem cl_X0_53 : CallV 0 53 mX0_resolve 1 := ⟨ok_X0_resolve, by decide, (tm 584 (by decide +kernel) rfl), (tm 533 (by decide +kernel) rfl), (tm 534 (by decide +kernel) rfl)⟩
theorem cl_X1_22 : CallS 1 22 mJ7_fill_53178 2 := ⟨ok_J7_fill_53178, (tm 66 (by decide +kernel) rfl), (tm 67 (by decide +kernel) rfl)⟩
theorem cl_X1_28 : CallV 1 28 mX1_findSmallest 0 := ⟨ok_X1_findSmallest, by decide, (tm 360 (by decide +kernel) rfl), (tm 362 (by decide +kernel) rfl), (tp 0 (by decide +kernel) rfl)⟩
theorem cl_X1_31 : CallV 1 31 mX1_findTotals 0 := ⟨ok_X1_findTotals, by decide, (tm 376 (by decide +kernel) rfl), (tm 378 (by decide +kernel) rfl), (tp 3 (by decide +kernel) rfl)⟩
theorem cl_X1_40 : CallV 1 40 mX1_improveSmallest 1 := ⟨ok_X1_improveSmallest, by decide, (tm 364 (by decide +kernel) rfl), (tm 366 (by decide +kernel) rfl), (tp 1 (by decide +kernel) rfl)⟩
theorem cl_X1_44 : CallV 1 44 mX1_isUsable 1 := ⟨ok_X1_isUsable, by decide, (tm 368 (by decide +kernel) rfl), (tm 370 (by decide +kernel) rfl), (tp 2 (by decide +kernel) rfl)⟩
theorem cl_X1_51 : CallV 1 51 mX4_typeOfArgument 2 := ⟨ok_X4_typeOfArgument, by decide, (tm 372 (by decide +kernel) rfl), (tm 373 (by decide +kernel) rfl), (tm 374 (by decide +kernel) rfl)⟩
theorem cl_X1_58 : CallV 1 58 mX1_totalOfType 1 := ⟨ok_X1_totalOfType, by decide, (tm 380 (by decide +kernel) rfl), (tm 382 (by decide +kernel) rfl), (tp 4 (by decide +kernel) rfl)⟩
theorem cl_X1_62 : CallV 1 62 mX1_totalOfConstructor 1 := ⟨ok_X1_totalOfConstructor, by decide, (tm 384 (by decide +kernel) rfl), (tm 386 (by decide +kernel) rfl), (tp 5 (by decide +kernel) rfl)⟩
theorem cl_X1_65 : CallN 1 65 mX11_limitedSum 2 := ⟨ok_X11_limitedSum, by decide +kernel, (tm 394 (by decide +kernel) rfl)⟩
theorem cl_X1_68 : CallN 1 68 mX11_limitedProduct 2 := ⟨ok_X11_limitedProduct, by decide +kernel, (tm 389 (by decide +kernel) rfl)⟩
theorem cl_X10_32 : CallV 9 32 mX0_resolve 1 := ⟨ok_X0_resolve, by decide, (tm 569 (by decide +kernel) rfl), (tm 533 (by decide +kernel) rfl), (tm 534 (by decide +kernel) rfl)⟩
theorem cl_X10_38 : CallV 9 38 mX10_hasListed 1 := ⟨ok_X10_hasListed, by decide, (tm 570 (by decide +kernel) rfl), (tm 571 (by decide +kernel) rfl), (tm 572 (by decide +kernel) rfl)⟩
theorem cl_X10_43 : CallV 9 43 mX10_unlistedPart 1 := ⟨ok_X10_unlistedPart, by decide, (tm 575 (by decide +kernel) rfl), (tm 577 (by decide +kernel) rfl), (tp 11 (by decide +kernel) rfl)⟩
theorem cl_X10_46 : CallV 9 46 mX10_list 1 := ⟨ok_X10_list, by decide, (tm 585 (by decide +kernel) rfl), (tm 587 (by decide +kernel) rfl), (tp 12 (by decide +kernel) rfl)⟩
theorem cl_X10_50 : CallV 9 50 mX0_partTotal 1 := ⟨ok_X0_partTotal, by decide, (tm 579 (by decide +kernel) rfl), (tm 545 (by decide +kernel) rfl), (tm 546 (by decide +kernel) rfl)⟩
theorem cl_X10_53 : CallV 9 53 mX0_resolvedPart 2 := ⟨ok_X0_resolvedPart, by decide, (tm 580 (by decide +kernel) rfl), (tm 581 (by decide +kernel) rfl), (tm 582 (by decide +kernel) rfl)⟩
theorem cl_X11_109 : CallV 10 109 mX4_typeOfArgument 2 := ⟨ok_X4_typeOfArgument, by decide, (tm 435 (by decide +kernel) rfl), (tm 373 (by decide +kernel) rfl), (tm 374 (by decide +kernel) rfl)⟩
theorem cl_X11_119 : CallV 10 119 mX8_countOf 2 := ⟨ok_X8_countOf, by decide, (tm 448 (by decide +kernel) rfl), (tm 449 (by decide +kernel) rfl), (tm 450 (by decide +kernel) rfl)⟩
theorem cl_X11_125 : CallV 10 125 mX7_build 3 := ⟨ok_X7_build, by decide, (tm 456 (by decide +kernel) rfl), (tm 457 (by decide +kernel) rfl), (tm 458 (by decide +kernel) rfl)⟩
theorem cl_X11_129 : CallV 10 129 mX0_addVariable 1 := ⟨ok_X0_addVariable, by decide, (tm 503 (by decide +kernel) rfl), (tm 504 (by decide +kernel) rfl), (tm 505 (by decide +kernel) rfl)⟩
theorem cl_X11_133 : CallV 10 133 mX0_contains 1 := ⟨ok_X0_contains, by decide, (tm 511 (by decide +kernel) rfl), (tm 512 (by decide +kernel) rfl), (tm 513 (by decide +kernel) rfl)⟩
theorem cl_X11_139 : CallV 10 139 mX0_addConstructed 4 := ⟨ok_X0_addConstructed, by decide, (tm 515 (by decide +kernel) rfl), (tm 516 (by decide +kernel) rfl), (tm 517 (by decide +kernel) rfl)⟩
theorem cl_X11_143 : CallV 10 143 mX0_resolve 1 := ⟨ok_X0_resolve, by decide, (tm 532 (by decide +kernel) rfl), (tm 533 (by decide +kernel) rfl), (tm 534 (by decide +kernel) rfl)⟩
theorem cl_X11_146 : CallV 10 146 mX0_isVariable 1 := ⟨ok_X0_isVariable, by decide, (tm 536 (by decide +kernel) rfl), (tm 537 (by decide +kernel) rfl), (tm 538 (by decide +kernel) rfl)⟩
theorem cl_X11_152 : CallV 10 152 mX0_partTotal 1 := ⟨ok_X0_partTotal, by decide, (tm 544 (by decide +kernel) rfl), (tm 545 (by decide +kernel) rfl), (tm 546 (by decide +kernel) rfl)⟩
theorem cl_X11_161 : CallV 10 161 mX5_measure 1 := ⟨ok_X5_measure, by decide, (tm 557 (by decide +kernel) rfl), (tm 558 (by decide +kernel) rfl), (tm 559 (by decide +kernel) rfl)⟩
theorem cl_X11_164 : CallV 10 164 mX5_indexAmongValues 1 := ⟨ok_X5_indexAmongValues, by decide, (tm 602 (by decide +kernel) rfl), (tm 603 (by decide +kernel) rfl), (tm 604 (by decide +kernel) rfl)⟩
theorem cl_X11_168 : CallV 10 168 mX5_sameTerm 2 := ⟨ok_X5_sameTerm, by decide, (tm 614 (by decide +kernel) rfl), (tm 615 (by decide +kernel) rfl), (tm 616 (by decide +kernel) rfl)⟩
theorem cl_X11_172 : CallV 10 172 mX6_run 2 := ⟨ok_X6_run, by decide, (tm 630 (by decide +kernel) rfl), (tm 631 (by decide +kernel) rfl), (tm 632 (by decide +kernel) rfl)⟩
theorem cl_X11_175 : CallV 10 175 mX0_countBound 0 := ⟨ok_X0_countBound, by decide, (tm 671 (by decide +kernel) rfl), (tm 672 (by decide +kernel) rfl), (tm 673 (by decide +kernel) rfl)⟩
theorem cl_X11_179 : CallS 10 179 mJ7_fill_53178 2 := ⟨ok_J7_fill_53178, (tm 679 (by decide +kernel) rfl), (tm 67 (by decide +kernel) rfl)⟩
theorem cl_X11_186 : CallV 10 186 mX3_save 1 := ⟨ok_X3_save, by decide, (tm 684 (by decide +kernel) rfl), (tm 685 (by decide +kernel) rfl), (tm 686 (by decide +kernel) rfl)⟩
theorem cl_X11_190 : CallV 10 190 mX3_restore 1 := ⟨ok_X3_restore, by decide, (tm 693 (by decide +kernel) rfl), (tm 694 (by decide +kernel) rfl), (tm 695 (by decide +kernel) rfl)⟩
theorem cl_X11_194 : CallV 10 194 mX2_subjectType 0 := ⟨ok_X2_subjectType, by decide, (tm 701 (by decide +kernel) rfl), (tm 702 (by decide +kernel) rfl), (tm 703 (by decide +kernel) rfl)⟩
theorem cl_X11_197 : CallV 10 197 mX2_append 1 := ⟨ok_X2_append, by decide, (tm 705 (by decide +kernel) rfl), (tm 706 (by decide +kernel) rfl), (tm 707 (by decide +kernel) rfl)⟩
theorem cl_X11_200 : CallV 10 200 mX5_canonicalNode 1 := ⟨ok_X5_canonicalNode, by decide, (tm 717 (by decide +kernel) rfl), (tm 718 (by decide +kernel) rfl), (tm 719 (by decide +kernel) rfl)⟩
theorem cl_X11_203 : CallV 10 203 mX2_firstFitting 2 := ⟨ok_X2_firstFitting, by decide, (tm 721 (by decide +kernel) rfl), (tm 722 (by decide +kernel) rfl), (tm 723 (by decide +kernel) rfl)⟩
theorem cl_X11_207 : CallV 10 207 mX11_countFirstFitting 2 := ⟨ok_X11_countFirstFitting, by decide, (tm 775 (by decide +kernel) rfl), (tm 777 (by decide +kernel) rfl), (tp 24 (by decide +kernel) rfl)⟩
theorem cl_X11_210 : CallV 10 210 mX11_firstIndexUncovered 1 := ⟨ok_X11_firstIndexUncovered, by decide, (tm 784 (by decide +kernel) rfl), (tm 786 (by decide +kernel) rfl), (tp 25 (by decide +kernel) rfl)⟩
theorem cl_X11_213 : CallS 10 213 mX8_keyOf 2 := ⟨ok_X8_keyOf, (tm 779 (by decide +kernel) rfl), (tm 461 (by decide +kernel) rfl)⟩
theorem cl_X11_84 : CallV 10 84 mX4_hasType 1 := ⟨ok_X4_hasType, by decide, (tm 348 (by decide +kernel) rfl), (tm 349 (by decide +kernel) rfl), (tm 350 (by decide +kernel) rfl)⟩
theorem cl_X11_91 : CallV 10 91 mX4_define 5 := ⟨ok_X4_define, by decide, (tm 352 (by decide +kernel) rfl), (tm 353 (by decide +kernel) rfl), (tm 354 (by decide +kernel) rfl)⟩
theorem cl_X11_95 : CallV 10 95 mX1_recompute 0 := ⟨ok_X1_recompute, by decide, (tm 356 (by decide +kernel) rfl), (tm 357 (by decide +kernel) rfl), (tm 358 (by decide +kernel) rfl)⟩
theorem cl_X11_98 : CallV 10 98 mX8_recompute 0 := ⟨ok_X8_recompute, by decide, (tm 396 (by decide +kernel) rfl), (tm 397 (by decide +kernel) rfl), (tm 398 (by decide +kernel) rfl)⟩
theorem cl_X11_99 : CallV 10 99 mX4_hasConstructor 1 := ⟨ok_X4_hasConstructor, by decide, (tm 423 (by decide +kernel) rfl), (tm 424 (by decide +kernel) rfl), (tm 425 (by decide +kernel) rfl)⟩
theorem cl_X12_117 : CallS 11 117 mX12_in 3 := ⟨ok_X12_in, (tm 934 (by decide +kernel) rfl), (tm 935 (by decide +kernel) rfl)⟩
theorem cl_X12_130 : CallV 11 130 mX12_isType 1 := ⟨ok_X12_isType, by decide, (tm 937 (by decide +kernel) rfl), (tm 939 (by decide +kernel) rfl), (tp 26 (by decide +kernel) rfl)⟩
theorem cl_X12_134 : CallV 11 134 mX12_isConstructor 1 := ⟨ok_X12_isConstructor, by decide, (tm 945 (by decide +kernel) rfl), (tm 947 (by decide +kernel) rfl), (tp 27 (by decide +kernel) rfl)⟩
theorem cl_X12_137 : CallV 11 137 mX12_sizeBy 1 := ⟨ok_X12_sizeBy, by decide, (tm 969 (by decide +kernel) rfl), (tm 971 (by decide +kernel) rfl), (tp 30 (by decide +kernel) rfl)⟩
theorem cl_X12_141 : CallV 11 141 mX12_laySmallest 0 := ⟨ok_X12_laySmallest, by decide, (tm 965 (by decide +kernel) rfl), (tm 967 (by decide +kernel) rfl), (tp 29 (by decide +kernel) rfl)⟩
theorem cl_X12_144 : CallV 11 144 mX12_allBy 1 := ⟨ok_X12_allBy, by decide, (tm 981 (by decide +kernel) rfl), (tm 983 (by decide +kernel) rfl), (tp 33 (by decide +kernel) rfl)⟩
theorem cl_X12_147 : CallS 11 147 mX12_capped 1 := ⟨ok_X12_capped, (tm 985 (by decide +kernel) rfl), (tm 986 (by decide +kernel) rfl)⟩
theorem cl_X12_151 : CallV 11 151 mX12_layWithin 0 := ⟨ok_X12_layWithin, by decide, (tm 961 (by decide +kernel) rfl), (tm 963 (by decide +kernel) rfl), (tp 28 (by decide +kernel) rfl)⟩
theorem cl_X12_154 : CallV 11 154 mX12_isInfinite 1 := ⟨ok_X12_isInfinite, by decide, (tm 973 (by decide +kernel) rfl), (tm 975 (by decide +kernel) rfl), (tp 31 (by decide +kernel) rfl)⟩
theorem cl_X12_157 : CallV 11 157 mX12_layAll 0 := ⟨ok_X12_layAll, by decide, (tm 977 (by decide +kernel) rfl), (tm 979 (by decide +kernel) rfl), (tp 32 (by decide +kernel) rfl)⟩
theorem cl_X12_160 : CallS 11 160 mX12_way 3 := ⟨ok_X12_way, (tm 1006 (by decide +kernel) rfl), (tm 1007 (by decide +kernel) rfl)⟩
theorem cl_X12_164 : CallV 11 164 mX12_countOf 2 := ⟨ok_X12_countOf, by decide, (tm 1009 (by decide +kernel) rfl), (tm 1011 (by decide +kernel) rfl), (tp 36 (by decide +kernel) rfl)⟩
theorem cl_X12_168 : CallV 11 168 mX12_layWays 2 := ⟨ok_X12_layWays, by decide, (tm 1002 (by decide +kernel) rfl), (tm 1004 (by decide +kernel) rfl), (tp 35 (by decide +kernel) rfl)⟩
theorem cl_X12_172 : CallV 11 172 mX12_layCounts 0 := ⟨ok_X12_layCounts, by decide, (tm 998 (by decide +kernel) rfl), (tm 1000 (by decide +kernel) rfl), (tp 34 (by decide +kernel) rfl)⟩
theorem cl_X12_175 : CallV 11 175 mX12_blockOf 5 := ⟨ok_X12_blockOf, by decide, (tm 1025 (by decide +kernel) rfl), (tm 1027 (by decide +kernel) rfl), (tp 39 (by decide +kernel) rfl)⟩
theorem cl_X12_182 : CallV 11 182 mX12_share 3 := ⟨ok_X12_share, by decide, (tm 1021 (by decide +kernel) rfl), (tm 1023 (by decide +kernel) rfl), (tp 38 (by decide +kernel) rfl)⟩
theorem cl_X12_186 : CallV 11 186 mX12_layParts 0 := ⟨ok_X12_layParts, by decide, (tm 1029 (by decide +kernel) rfl), (tm 1031 (by decide +kernel) rfl), (tp 40 (by decide +kernel) rfl)⟩
theorem cl_X12_189 : CallV 11 189 mX12_addNode 5 := ⟨ok_X12_addNode, by decide, (tm 1037 (by decide +kernel) rfl), (tm 1039 (by decide +kernel) rfl), (tp 42 (by decide +kernel) rfl)⟩
theorem cl_X12_192 : CallV 11 192 mX12_layValue 3 := ⟨ok_X12_layValue, by decide, (tm 1017 (by decide +kernel) rfl), (tm 1019 (by decide +kernel) rfl), (tp 37 (by decide +kernel) rfl)⟩
theorem cl_X12_195 : CallV 11 195 mX12_makeNodes 0 := ⟨ok_X12_makeNodes, by decide, (tm 1033 (by decide +kernel) rfl), (tm 1035 (by decide +kernel) rfl), (tp 41 (by decide +kernel) rfl)⟩
theorem cl_X12_199 : CallV 11 199 mX12_isNode 1 := ⟨ok_X12_isNode, by decide, (tm 1053 (by decide +kernel) rfl), (tm 1055 (by decide +kernel) rfl), (tp 44 (by decide +kernel) rfl)⟩
theorem cl_X12_202 : CallV 11 202 mX12_wrongChild 3 := ⟨ok_X12_wrongChild, by decide, (tm 1049 (by decide +kernel) rfl), (tm 1051 (by decide +kernel) rfl), (tp 43 (by decide +kernel) rfl)⟩
theorem cl_X12_205 : CallV 11 205 mX12_resolved 1 := ⟨ok_X12_resolved, by decide, (tm 1069 (by decide +kernel) rfl), (tm 1071 (by decide +kernel) rfl), (tp 45 (by decide +kernel) rfl)⟩
theorem cl_X12_208 : CallV 11 208 mX12_manyOf 1 := ⟨ok_X12_manyOf, by decide, (tm 1077 (by decide +kernel) rfl), (tm 1079 (by decide +kernel) rfl), (tp 46 (by decide +kernel) rfl)⟩
theorem cl_X12_211 : CallV 11 211 mX12_sizeNow 1 := ⟨ok_X12_sizeNow, by decide, (tm 1093 (by decide +kernel) rfl), (tm 1095 (by decide +kernel) rfl), (tp 48 (by decide +kernel) rfl)⟩
theorem cl_X12_214 : CallV 11 214 mX12_laySizes 0 := ⟨ok_X12_laySizes, by decide, (tm 1089 (by decide +kernel) rfl), (tm 1091 (by decide +kernel) rfl), (tp 47 (by decide +kernel) rfl)⟩
theorem cl_X12_217 : CallV 11 217 mX12_rankNow 1 := ⟨ok_X12_rankNow, by decide, (tm 1105 (by decide +kernel) rfl), (tm 1107 (by decide +kernel) rfl), (tp 50 (by decide +kernel) rfl)⟩
theorem cl_X12_220 : CallV 11 220 mX12_layRanks 0 := ⟨ok_X12_layRanks, by decide, (tm 1101 (by decide +kernel) rfl), (tm 1103 (by decide +kernel) rfl), (tp 49 (by decide +kernel) rfl)⟩
theorem cl_X12_226 : CallV 11 226 mX12_beginPairs 2 := ⟨ok_X12_beginPairs, by decide, (tm 1113 (by decide +kernel) rfl), (tm 1115 (by decide +kernel) rfl), (tp 51 (by decide +kernel) rfl)⟩
theorem cl_X12_229 : CallV 11 229 mX12_pushChildren 2 := ⟨ok_X12_pushChildren, by decide, (tm 1117 (by decide +kernel) rfl), (tm 1119 (by decide +kernel) rfl), (tp 52 (by decide +kernel) rfl)⟩
theorem cl_X12_235 : CallV 11 235 mX12_bind 2 := ⟨ok_X12_bind, by decide, (tm 1129 (by decide +kernel) rfl), (tm 1131 (by decide +kernel) rfl), (tp 54 (by decide +kernel) rfl)⟩
theorem cl_X12_238 : CallV 11 238 mX12_occurs 2 := ⟨ok_X12_occurs, by decide, (tm 1133 (by decide +kernel) rfl), (tm 1135 (by decide +kernel) rfl), (tp 55 (by decide +kernel) rfl)⟩
theorem cl_X12_242 : CallV 11 242 mX12_unifyNow 2 := ⟨ok_X12_unifyNow, by decide, (tm 1125 (by decide +kernel) rfl), (tm 1127 (by decide +kernel) rfl), (tp 53 (by decide +kernel) rfl)⟩
theorem cl_X12_245 : CallV 11 245 mX12_boundCount 0 := ⟨ok_X12_boundCount, by decide, (tm 1145 (by decide +kernel) rfl), (tm 1138 (by decide +kernel) rfl), (tm 1139 (by decide +kernel) rfl)⟩
theorem cl_X12_254 : CallV 11 254 mX12_areSame 2 := ⟨ok_X12_areSame, by decide, (tm 1178 (by decide +kernel) rfl), (tm 1180 (by decide +kernel) rfl), (tp 59 (by decide +kernel) rfl)⟩
theorem cl_X12_257 : CallV 11 257 mX12_matches 1 := ⟨ok_X12_matches, by decide, (tm 1174 (by decide +kernel) rfl), (tm 1176 (by decide +kernel) rfl), (tp 58 (by decide +kernel) rfl)⟩
theorem cl_X12_260 : CallV 11 260 mX12_layTerm 1 := ⟨ok_X12_layTerm, by decide, (tm 1166 (by decide +kernel) rfl), (tm 1168 (by decide +kernel) rfl), (tp 56 (by decide +kernel) rfl)⟩
theorem cl_X12_264 : CallV 11 264 mX12_matchNow 0 := ⟨ok_X12_matchNow, by decide, (tm 1170 (by decide +kernel) rfl), (tm 1172 (by decide +kernel) rfl), (tp 57 (by decide +kernel) rfl)⟩
theorem cl_X12_267 : CallV 11 267 mX12_subject 0 := ⟨ok_X12_subject, by decide, (tm 1186 (by decide +kernel) rfl), (tm 1188 (by decide +kernel) rfl), (tp 60 (by decide +kernel) rfl)⟩
theorem cl_X12_270 : CallV 11 270 mX12_countMatched 2 := ⟨ok_X12_countMatched, by decide, (tm 1190 (by decide +kernel) rfl), (tm 1192 (by decide +kernel) rfl), (tp 61 (by decide +kernel) rfl)⟩
theorem cl_X2_43 : CallV 2 43 mX2_fits 3 := ⟨ok_X2_fits, by decide, (tm 725 (by decide +kernel) rfl), (tm 727 (by decide +kernel) rfl), (tp 20 (by decide +kernel) rfl)⟩
theorem cl_X2_53 : CallV 2 53 mX2_await 2 := ⟨ok_X2_await, by decide, (tm 729 (by decide +kernel) rfl), (tm 731 (by decide +kernel) rfl), (tp 21 (by decide +kernel) rfl)⟩
theorem cl_X2_58 : CallV 2 58 mX0_resolve 1 := ⟨ok_X0_resolve, by decide, (tm 734 (by decide +kernel) rfl), (tm 533 (by decide +kernel) rfl), (tm 534 (by decide +kernel) rfl)⟩
theorem cl_X2_62 : CallV 2 62 mX2_fitsAtRoot 3 := ⟨ok_X2_fitsAtRoot, by decide, (tm 735 (by decide +kernel) rfl), (tm 737 (by decide +kernel) rfl), (tp 22 (by decide +kernel) rfl)⟩
theorem cl_X2_65 : CallV 2 65 mX0_isVariable 1 := ⟨ok_X0_isVariable, by decide, (tm 739 (by decide +kernel) rfl), (tm 537 (by decide +kernel) rfl), (tm 538 (by decide +kernel) rfl)⟩
theorem cl_X2_69 : CallV 2 69 mX2_fitsVariable 2 := ⟨ok_X2_fitsVariable, by decide, (tm 740 (by decide +kernel) rfl), (tm 742 (by decide +kernel) rfl), (tp 23 (by decide +kernel) rfl)⟩
theorem cl_X2_76_X5 : CallF 2 76 mX5_isBuiltBy 2 := ⟨ok_X5_isBuiltBy, by decide, by decide +kernel, (tm 745 (by decide +kernel) rfl), (tm 749 (by decide +kernel) rfl), (tm 751 (by decide +kernel) rfl), by decide +kernel⟩
theorem cl_X2_76_X8 : CallF 2 76 mX8_isBuiltBy 2 := ⟨ok_X8_isBuiltBy, by decide, by decide +kernel, (tm 745 (by decide +kernel) rfl), (tm 755 (by decide +kernel) rfl), (tm 477 (by decide +kernel) rfl), by decide +kernel⟩
theorem cl_X2_81_X5 : CallF 2 81 mX5_split 3 := ⟨ok_X5_split, by decide, by decide +kernel, (tm 759 (by decide +kernel) rfl), (tm 762 (by decide +kernel) rfl), (tm 764 (by decide +kernel) rfl), by decide +kernel⟩
theorem cl_X2_81_X8 : CallF 2 81 mX8_split 3 := ⟨ok_X8_split, by decide, by decide +kernel, (tm 759 (by decide +kernel) rfl), (tm 767 (by decide +kernel) rfl), (tm 491 (by decide +kernel) rfl), by decide +kernel⟩
theorem cl_X2_85 : CallV 2 85 mX0_partTotal 1 := ⟨ok_X0_partTotal, by decide, (tm 770 (by decide +kernel) rfl), (tm 545 (by decide +kernel) rfl), (tm 546 (by decide +kernel) rfl)⟩
theorem cc_X3_19 : Cond.methodLink (cn 3) 19 arraycopyName ∈ lw_good := (tm 688 (by decide +kernel) rfl)
theorem cl_X5_44 : CallV 5 44 mX10_begin 0 := ⟨ok_X10_begin, by decide, (tm 561 (by decide +kernel) rfl), (tm 562 (by decide +kernel) rfl), (tm 563 (by decide +kernel) rfl)⟩
theorem cl_X5_47 : CallV 5 47 mX10_visit 1 := ⟨ok_X10_visit, by decide, (tm 565 (by decide +kernel) rfl), (tm 566 (by decide +kernel) rfl), (tm 567 (by decide +kernel) rfl)⟩
theorem cl_X5_58 : CallV 5 58 mX5_sizeFromParts 1 := ⟨ok_X5_sizeFromParts, by decide, (tm 589 (by decide +kernel) rfl), (tm 591 (by decide +kernel) rfl), (tp 13 (by decide +kernel) rfl)⟩
theorem cl_X5_62 : CallV 5 62 mX0_resolve 1 := ⟨ok_X0_resolve, by decide, (tm 597 (by decide +kernel) rfl), (tm 533 (by decide +kernel) rfl), (tm 534 (by decide +kernel) rfl)⟩
theorem cl_X5_67 : CallV 5 67 mX0_isVariable 1 := ⟨ok_X0_isVariable, by decide, (tm 593 (by decide +kernel) rfl), (tm 537 (by decide +kernel) rfl), (tm 538 (by decide +kernel) rfl)⟩
theorem cl_X5_71 : CallV 5 71 mX0_partTotal 1 := ⟨ok_X0_partTotal, by decide, (tm 594 (by decide +kernel) rfl), (tm 545 (by decide +kernel) rfl), (tm 546 (by decide +kernel) rfl)⟩
theorem cl_X5_74 : CallV 5 74 mX0_resolvedPart 2 := ⟨ok_X0_resolvedPart, by decide, (tm 595 (by decide +kernel) rfl), (tm 581 (by decide +kernel) rfl), (tm 582 (by decide +kernel) rfl)⟩
theorem cl_X5_78 : CallN 5 78 mX11_limitedSum 2 := ⟨ok_X11_limitedSum, by decide +kernel, (tm 394 (by decide +kernel) rfl)⟩
theorem cl_X5_84 : CallV 5 84 mX8_indexOf 4 := ⟨ok_X8_indexOf, by decide, (tm 606 (by decide +kernel) rfl), (tm 607 (by decide +kernel) rfl), (tm 608 (by decide +kernel) rfl)⟩
theorem cl_X5_90 : CallV 5 90 mX5_findCanonical 0 := ⟨ok_X5_findCanonical, by decide, (tm 618 (by decide +kernel) rfl), (tm 620 (by decide +kernel) rfl), (tp 14 (by decide +kernel) rfl)⟩
theorem cl_X5_93 : CallV 5 93 mX5_haveEqualParts 2 := ⟨ok_X5_haveEqualParts, by decide, (tm 622 (by decide +kernel) rfl), (tm 624 (by decide +kernel) rfl), (tp 15 (by decide +kernel) rfl)⟩
theorem cl_X6_100 : CallV 6 100 mX10_hasListed 1 := ⟨ok_X10_hasListed, by decide, (tm 661 (by decide +kernel) rfl), (tm 571 (by decide +kernel) rfl), (tm 572 (by decide +kernel) rfl)⟩
theorem cl_X6_103 : CallV 6 103 mX0_partTotal 1 := ⟨ok_X0_partTotal, by decide, (tm 666 (by decide +kernel) rfl), (tm 545 (by decide +kernel) rfl), (tm 546 (by decide +kernel) rfl)⟩
theorem cc_X6_43 : Cond.methodLink (cn 6) 43 arraycopyName ∈ lw_good := (tm 634 (by decide +kernel) rfl)
theorem cl_X6_49 : CallS 6 49 mJ7_fill_d0a16 2 := ⟨ok_J7_fill_d0a16, (tm 637 (by decide +kernel) rfl), (tm 638 (by decide +kernel) rfl)⟩
theorem cl_X6_59 : CallV 6 59 mX6_await 2 := ⟨ok_X6_await, by decide, (tm 640 (by decide +kernel) rfl), (tm 642 (by decide +kernel) rfl), (tp 16 (by decide +kernel) rfl)⟩
theorem cl_X6_64 : CallV 6 64 mX0_resolve 1 := ⟨ok_X0_resolve, by decide, (tm 645 (by decide +kernel) rfl), (tm 533 (by decide +kernel) rfl), (tm 534 (by decide +kernel) rfl)⟩
theorem cl_X6_68 : CallV 6 68 mX6_unifyResolved 2 := ⟨ok_X6_unifyResolved, by decide, (tm 646 (by decide +kernel) rfl), (tm 648 (by decide +kernel) rfl), (tp 17 (by decide +kernel) rfl)⟩
theorem cl_X6_72 : CallV 6 72 mX0_isVariable 1 := ⟨ok_X0_isVariable, by decide, (tm 650 (by decide +kernel) rfl), (tm 537 (by decide +kernel) rfl), (tm 538 (by decide +kernel) rfl)⟩
theorem cc_X6_76 : Cond.methodLink (cn 6) 76 Lib.Math.max.name ∈ lw_good := (tm 651 (by decide +kernel) rfl)
theorem cc_X6_81 : Cond.methodLink (cn 6) 81 Lib.Math.min.name ∈ lw_good := (tm 652 (by decide +kernel) rfl)
theorem cl_X6_84 : CallV 6 84 mX6_bindToTerm 2 := ⟨ok_X6_bindToTerm, by decide, (tm 655 (by decide +kernel) rfl), (tm 657 (by decide +kernel) rfl), (tp 18 (by decide +kernel) rfl)⟩
theorem cl_X6_90 : CallV 6 90 mX6_open 2 := ⟨ok_X6_open, by decide, (tm 662 (by decide +kernel) rfl), (tm 664 (by decide +kernel) rfl), (tp 19 (by decide +kernel) rfl)⟩
theorem cl_X6_93 : CallV 6 93 mX10_begin 0 := ⟨ok_X10_begin, by decide, (tm 659 (by decide +kernel) rfl), (tm 562 (by decide +kernel) rfl), (tm 563 (by decide +kernel) rfl)⟩
theorem cl_X6_96 : CallV 6 96 mX10_visit 1 := ⟨ok_X10_visit, by decide, (tm 660 (by decide +kernel) rfl), (tm 566 (by decide +kernel) rfl), (tm 567 (by decide +kernel) rfl)⟩
theorem cl_X7_45 : CallS 7 45 mX8_keyOf 2 := ⟨ok_X8_keyOf, (tm 460 (by decide +kernel) rfl), (tm 461 (by decide +kernel) rfl)⟩
theorem cl_X7_51 : CallV 7 51 mX7_await 3 := ⟨ok_X7_await, by decide, (tm 464 (by decide +kernel) rfl), (tm 466 (by decide +kernel) rfl), (tp 9 (by decide +kernel) rfl)⟩
theorem cl_X7_55 : CallV 7 55 mX7_place 4 := ⟨ok_X7_place, by decide, (tm 468 (by decide +kernel) rfl), (tm 470 (by decide +kernel) rfl), (tp 10 (by decide +kernel) rfl)⟩
theorem cl_X7_59 : CallV 7 59 mX8_rootOf 2 := ⟨ok_X8_rootOf, by decide, (tm 472 (by decide +kernel) rfl), (tm 473 (by decide +kernel) rfl), (tm 474 (by decide +kernel) rfl)⟩
theorem cl_X7_62 : CallV 7 62 mX0_fill 2 := ⟨ok_X0_fill, by decide, (tm 486 (by decide +kernel) rfl), (tm 487 (by decide +kernel) rfl), (tm 488 (by decide +kernel) rfl)⟩
theorem cl_X7_69 : CallV 7 69 mX8_split 3 := ⟨ok_X8_split, by decide, (tm 490 (by decide +kernel) rfl), (tm 491 (by decide +kernel) rfl), (tm 492 (by decide +kernel) rfl)⟩
theorem cl_X7_78 : CallV 7 78 mX4_typeOfArgument 2 := ⟨ok_X4_typeOfArgument, by decide, (tm 498 (by decide +kernel) rfl), (tm 373 (by decide +kernel) rfl), (tm 374 (by decide +kernel) rfl)⟩
theorem cl_X8_26 : CallS 8 26 mJ7_fill_53178 2 := ⟨ok_J7_fill_53178, (tm 400 (by decide +kernel) rfl), (tm 67 (by decide +kernel) rfl)⟩
theorem cl_X8_38 : CallV 8 38 mX8_fillWays 2 := ⟨ok_X8_fillWays, by decide, (tm 401 (by decide +kernel) rfl), (tm 403 (by decide +kernel) rfl), (tp 6 (by decide +kernel) rfl)⟩
theorem cl_X8_45 : CallV 8 45 mX8_waysOf 3 := ⟨ok_X8_waysOf, by decide, (tm 415 (by decide +kernel) rfl), (tm 417 (by decide +kernel) rfl), (tp 8 (by decide +kernel) rfl)⟩
theorem cl_X8_49 : CallN 8 49 mX11_limitedSum 2 := ⟨ok_X11_limitedSum, by decide +kernel, (tm 394 (by decide +kernel) rfl)⟩
theorem cl_X8_56 : CallS 8 56 mX8_wayPlace 3 := ⟨ok_X8_wayPlace, (tm 405 (by decide +kernel) rfl), (tm 406 (by decide +kernel) rfl)⟩
theorem cl_X8_59 : CallV 8 59 mX8_waysOfSplit 4 := ⟨ok_X8_waysOfSplit, by decide, (tm 408 (by decide +kernel) rfl), (tm 410 (by decide +kernel) rfl), (tp 7 (by decide +kernel) rfl)⟩
theorem cl_X8_63 : CallV 8 63 mX4_typeOfArgument 2 := ⟨ok_X4_typeOfArgument, by decide, (tm 412 (by decide +kernel) rfl), (tm 373 (by decide +kernel) rfl), (tm 374 (by decide +kernel) rfl)⟩
theorem cl_X8_66 : CallN 8 66 mX11_limitedProduct 2 := ⟨ok_X11_limitedProduct, by decide +kernel, (tm 389 (by decide +kernel) rfl)⟩
theorem cl_X8_69 : CallS 8 69 mX8_sizeOfKey 1 := ⟨ok_X8_sizeOfKey, (tm 480 (by decide +kernel) rfl), (tm 481 (by decide +kernel) rfl)⟩
theorem cl_X8_73 : CallS 8 73 mX8_indexOfKey 1 := ⟨ok_X8_indexOfKey, (tm 483 (by decide +kernel) rfl), (tm 484 (by decide +kernel) rfl)⟩
theorem cl_X8_76 : CallV 8 76 mX8_isBuiltBy 2 := ⟨ok_X8_isBuiltBy, by decide, (tm 476 (by decide +kernel) rfl), (tm 477 (by decide +kernel) rfl), (tm 478 (by decide +kernel) rfl)⟩
theorem cc_X8_80 : Cond.methodLink (cn 8) 80 Lib.Math.max.name ∈ lw_good := (tm 494 (by decide +kernel) rfl)
theorem cl_X8_85 : CallS 8 85 mX8_keyOf 2 := ⟨ok_X8_keyOf, (tm 497 (by decide +kernel) rfl), (tm 461 (by decide +kernel) rfl)⟩
