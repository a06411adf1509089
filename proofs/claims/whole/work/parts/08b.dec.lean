theorem dX12_in_0 : decode cX12_in 0 = .ok (.iload_n 0, 1) := by decide +kernel
theorem dX12_in_1 : decode cX12_in 1 = .ok (.iload_n 1, 1) := by decide +kernel
theorem dX12_in_2 : decode cX12_in 2 = .ok (.if_icmp .lt 12, 3) := by decide +kernel
theorem dX12_in_5 : decode cX12_in 5 = .ok (.iload_n 0, 1) := by decide +kernel
theorem dX12_in_6 : decode cX12_in 6 = .ok (.iload_n 2, 1) := by decide +kernel
theorem dX12_in_7 : decode cX12_in 7 = .ok (.if_icmp .gt 7, 3) := by decide +kernel
theorem dX12_in_10 : decode cX12_in 10 = .ok (.iconst 1, 1) := by decide +kernel
theorem dX12_in_11 : decode cX12_in 11 = .ok (.goto 4, 3) := by decide +kernel
theorem dX12_in_14 : decode cX12_in 14 = .ok (.iconst 0, 1) := by decide +kernel
theorem dX12_in_15 : decode cX12_in 15 = .ok (.ireturn, 1) := by decide +kernel
theorem dX12_isType_0 : decode cX12_isType 0 = .ok (.iload_n 1, 1) := by decide +kernel
theorem dX12_isType_1 : decode cX12_isType 1 = .ok (.iconst 0, 1) := by decide +kernel
theorem dX12_isType_2 : decode cX12_isType 2 = .ok (.aload_n 0, 1) := by decide +kernel
theorem dX12_isType_3 : decode cX12_isType 3 = .ok (.getfield 113, 3) := by decide +kernel
theorem dX12_isType_6 : decode cX12_isType 6 = .ok (.iconst 1, 1) := by decide +kernel
theorem dX12_isType_7 : decode cX12_isType 7 = .ok (.isub, 1) := by decide +kernel
theorem dX12_isType_8 : decode cX12_isType 8 = .ok (.invokestatic 117, 3) := by decide +kernel
theorem dX12_isType_11 : decode cX12_isType 11 = .ok (.ireturn, 1) := by decide +kernel
theorem dX12_isConstructor_0 : decode cX12_isConstructor 0 = .ok (.iload_n 1, 1) := by decide +kernel
theorem dX12_isConstructor_1 : decode cX12_isConstructor 1 = .ok (.iconst 0, 1) := by decide +kernel
theorem dX12_isConstructor_2 : decode cX12_isConstructor 2 = .ok (.aload_n 0, 1) := by decide +kernel
theorem dX12_isConstructor_3 : decode cX12_isConstructor 3 = .ok (.getfield 121, 3) := by decide +kernel
theorem dX12_isConstructor_6 : decode cX12_isConstructor 6 = .ok (.iconst 1, 1) := by decide +kernel
theorem dX12_isConstructor_7 : decode cX12_isConstructor 7 = .ok (.isub, 1) := by decide +kernel
theorem dX12_isConstructor_8 : decode cX12_isConstructor 8 = .ok (.invokestatic 117, 3) := by decide +kernel
theorem dX12_isConstructor_11 : decode cX12_isConstructor 11 = .ok (.ireturn, 1) := by decide +kernel
theorem dX12_isNode_0 : decode cX12_isNode 0 = .ok (.iload_n 1, 1) := by decide +kernel
theorem dX12_isNode_1 : decode cX12_isNode 1 = .ok (.iconst 0, 1) := by decide +kernel
theorem dX12_isNode_2 : decode cX12_isNode 2 = .ok (.aload_n 0, 1) := by decide +kernel
theorem dX12_isNode_3 : decode cX12_isNode 3 = .ok (.getfield 124, 3) := by decide +kernel
theorem dX12_isNode_6 : decode cX12_isNode 6 = .ok (.iconst 1, 1) := by decide +kernel
theorem dX12_isNode_7 : decode cX12_isNode 7 = .ok (.isub, 1) := by decide +kernel
theorem dX12_isNode_8 : decode cX12_isNode 8 = .ok (.invokestatic 117, 3) := by decide +kernel
theorem dX12_isNode_11 : decode cX12_isNode 11 = .ok (.ireturn, 1) := by decide +kernel
theorem dX12_capped_0 : decode cX12_capped 0 = .ok (.lload_n 0, 1) := by decide +kernel
theorem dX12_capped_1 : decode cX12_capped 1 = .ok (.ldc2_w 127, 3) := by decide +kernel
theorem dX12_capped_4 : decode cX12_capped 4 = .ok (.lcmp, 1) := by decide +kernel
theorem dX12_capped_5 : decode cX12_capped 5 = .ok (.ifCond .le 8, 3) := by decide +kernel
theorem dX12_capped_8 : decode cX12_capped 8 = .ok (.ldc 129, 2) := by decide +kernel
theorem dX12_capped_10 : decode cX12_capped 10 = .ok (.goto 5, 3) := by decide +kernel
theorem dX12_capped_13 : decode cX12_capped 13 = .ok (.lload_n 0, 1) := by decide +kernel
theorem dX12_capped_14 : decode cX12_capped 14 = .ok (.l2i, 1) := by decide +kernel
theorem dX12_capped_15 : decode cX12_capped 15 = .ok (.ireturn, 1) := by decide +kernel
theorem dX12_addType_0 : decode cX12_addType 0 = .ok (.aload_n 0, 1) := by decide +kernel
theorem dX12_addType_1 : decode cX12_addType 1 = .ok (.getfield 113, 3) := by decide +kernel
theorem dX12_addType_4 : decode cX12_addType 4 = .ok (.iconst 4, 1) := by decide +kernel
theorem dX12_addType_5 : decode cX12_addType 5 = .ok (.if_icmp .ne 6, 3) := by decide +kernel
theorem dX12_addType_8 : decode cX12_addType 8 = .ok (.bipush (-6), 2) := by decide +kernel
theorem dX12_addType_10 : decode cX12_addType 10 = .ok (.ireturn, 1) := by decide +kernel
theorem dX12_addType_11 : decode cX12_addType 11 = .ok (.aload_n 0, 1) := by decide +kernel
theorem dX12_addType_12 : decode cX12_addType 12 = .ok (.dup, 1) := by decide +kernel
theorem dX12_addType_13 : decode cX12_addType 13 = .ok (.getfield 113, 3) := by decide +kernel
theorem dX12_addType_16 : decode cX12_addType 16 = .ok (.iconst 1, 1) := by decide +kernel
theorem dX12_addType_17 : decode cX12_addType 17 = .ok (.iadd, 1) := by decide +kernel
theorem dX12_addType_18 : decode cX12_addType 18 = .ok (.putfield 113, 3) := by decide +kernel
theorem dX12_addType_21 : decode cX12_addType 21 = .ok (.aload_n 0, 1) := by decide +kernel
theorem dX12_addType_22 : decode cX12_addType 22 = .ok (.getfield 113, 3) := by decide +kernel
theorem dX12_addType_25 : decode cX12_addType 25 = .ok (.iconst 1, 1) := by decide +kernel
theorem dX12_addType_26 : decode cX12_addType 26 = .ok (.isub, 1) := by decide +kernel
theorem dX12_addType_27 : decode cX12_addType 27 = .ok (.ireturn, 1) := by decide +kernel
theorem dX12_addConstructor_0 : decode cX12_addConstructor 0 = .ok (.iload_n 2, 1) := by decide +kernel
theorem dX12_addConstructor_1 : decode cX12_addConstructor 1 = .ok (.iconst 0, 1) := by decide +kernel
theorem dX12_addConstructor_2 : decode cX12_addConstructor 2 = .ok (.iconst 3, 1) := by decide +kernel
theorem dX12_addConstructor_3 : decode cX12_addConstructor 3 = .ok (.invokestatic 117, 3) := by decide +kernel
theorem dX12_addConstructor_6 : decode cX12_addConstructor 6 = .ok (.ifCond .ne 6, 3) := by decide +kernel
theorem dX12_addConstructor_9 : decode cX12_addConstructor 9 = .ok (.bipush (-4), 2) := by decide +kernel
theorem dX12_addConstructor_11 : decode cX12_addConstructor 11 = .ok (.ireturn, 1) := by decide +kernel
theorem dX12_addConstructor_12 : decode cX12_addConstructor 12 = .ok (.aload_n 0, 1) := by decide +kernel
theorem dX12_addConstructor_13 : decode cX12_addConstructor 13 = .ok (.iload_n 1, 1) := by decide +kernel
theorem dX12_addConstructor_14 : decode cX12_addConstructor 14 = .ok (.invokevirtual 130, 3) := by decide +kernel
theorem dX12_addConstructor_17 : decode cX12_addConstructor 17 = .ok (.ifCond .eq 43, 3) := by decide +kernel
theorem dX12_addConstructor_20 : decode cX12_addConstructor 20 = .ok (.iload_n 2, 1) := by decide +kernel
theorem dX12_addConstructor_21 : decode cX12_addConstructor 21 = .ok (.ifCond .le 11, 3) := by decide +kernel
theorem dX12_addConstructor_24 : decode cX12_addConstructor 24 = .ok (.aload_n 0, 1) := by decide +kernel
theorem dX12_addConstructor_25 : decode cX12_addConstructor 25 = .ok (.iload_n 3, 1) := by decide +kernel
theorem dX12_addConstructor_26 : decode cX12_addConstructor 26 = .ok (.invokevirtual 130, 3) := by decide +kernel
theorem dX12_addConstructor_29 : decode cX12_addConstructor 29 = .ok (.ifCond .eq 31, 3) := by decide +kernel
theorem dX12_addConstructor_32 : decode cX12_addConstructor 32 = .ok (.iload_n 2, 1) := by decide +kernel
theorem dX12_addConstructor_33 : decode cX12_addConstructor 33 = .ok (.iconst 1, 1) := by decide +kernel
theorem dX12_addConstructor_34 : decode cX12_addConstructor 34 = .ok (.if_icmp .le 12, 3) := by decide +kernel
theorem dX12_addConstructor_37 : decode cX12_addConstructor 37 = .ok (.aload_n 0, 1) := by decide +kernel
theorem dX12_addConstructor_38 : decode cX12_addConstructor 38 = .ok (.iload 4, 2) := by decide +kernel
theorem dX12_addConstructor_40 : decode cX12_addConstructor 40 = .ok (.invokevirtual 130, 3) := by decide +kernel
theorem dX12_addConstructor_43 : decode cX12_addConstructor 43 = .ok (.ifCond .eq 17, 3) := by decide +kernel
theorem dX12_addConstructor_46 : decode cX12_addConstructor 46 = .ok (.iload_n 2, 1) := by decide +kernel
theorem dX12_addConstructor_47 : decode cX12_addConstructor 47 = .ok (.iconst 2, 1) := by decide +kernel
theorem dX12_addConstructor_48 : decode cX12_addConstructor 48 = .ok (.if_icmp .le 14, 3) := by decide +kernel
theorem dX12_addConstructor_51 : decode cX12_addConstructor 51 = .ok (.aload_n 0, 1) := by decide +kernel
theorem dX12_addConstructor_52 : decode cX12_addConstructor 52 = .ok (.iload 5, 2) := by decide +kernel
theorem dX12_addConstructor_54 : decode cX12_addConstructor 54 = .ok (.invokevirtual 130, 3) := by decide +kernel
theorem dX12_addConstructor_57 : decode cX12_addConstructor 57 = .ok (.ifCond .ne 5, 3) := by decide +kernel
theorem dX12_addConstructor_60 : decode cX12_addConstructor 60 = .ok (.iconst (-1), 1) := by decide +kernel
theorem dX12_addConstructor_61 : decode cX12_addConstructor 61 = .ok (.ireturn, 1) := by decide +kernel
theorem dX12_addConstructor_62 : decode cX12_addConstructor 62 = .ok (.aload_n 0, 1) := by decide +kernel
theorem dX12_addConstructor_63 : decode cX12_addConstructor 63 = .ok (.getfield 121, 3) := by decide +kernel
theorem dX12_addConstructor_66 : decode cX12_addConstructor 66 = .ok (.bipush 12, 2) := by decide +kernel
theorem dX12_addConstructor_68 : decode cX12_addConstructor 68 = .ok (.if_icmp .ne 6, 3) := by decide +kernel
theorem dX12_addConstructor_71 : decode cX12_addConstructor 71 = .ok (.bipush (-6), 2) := by decide +kernel
theorem dX12_addConstructor_73 : decode cX12_addConstructor 73 = .ok (.ireturn, 1) := by decide +kernel
theorem dX12_addConstructor_74 : decode cX12_addConstructor 74 = .ok (.aload_n 0, 1) := by decide +kernel
theorem dX12_addConstructor_75 : decode cX12_addConstructor 75 = .ok (.getfield 7, 3) := by decide +kernel
theorem dX12_addConstructor_78 : decode cX12_addConstructor 78 = .ok (.aload_n 0, 1) := by decide +kernel
theorem dX12_addConstructor_79 : decode cX12_addConstructor 79 = .ok (.getfield 121, 3) := by decide +kernel
theorem dX12_addConstructor_82 : decode cX12_addConstructor 82 = .ok (.iload_n 1, 1) := by decide +kernel
theorem dX12_addConstructor_83 : decode cX12_addConstructor 83 = .ok (.iastore, 1) := by decide +kernel
theorem dX12_addConstructor_84 : decode cX12_addConstructor 84 = .ok (.aload_n 0, 1) := by decide +kernel
theorem dX12_addConstructor_85 : decode cX12_addConstructor 85 = .ok (.getfield 13, 3) := by decide +kernel
theorem dX12_addConstructor_88 : decode cX12_addConstructor 88 = .ok (.aload_n 0, 1) := by decide +kernel
theorem dX12_addConstructor_89 : decode cX12_addConstructor 89 = .ok (.getfield 121, 3) := by decide +kernel
theorem dX12_addConstructor_92 : decode cX12_addConstructor 92 = .ok (.iload_n 2, 1) := by decide +kernel
theorem dX12_addConstructor_93 : decode cX12_addConstructor 93 = .ok (.iastore, 1) := by decide +kernel
theorem dX12_addConstructor_94 : decode cX12_addConstructor 94 = .ok (.aload_n 0, 1) := by decide +kernel
theorem dX12_addConstructor_95 : decode cX12_addConstructor 95 = .ok (.getfield 16, 3) := by decide +kernel
theorem dX12_addConstructor_98 : decode cX12_addConstructor 98 = .ok (.iconst 3, 1) := by decide +kernel
theorem dX12_addConstructor_99 : decode cX12_addConstructor 99 = .ok (.aload_n 0, 1) := by decide +kernel
theorem dX12_addConstructor_100 : decode cX12_addConstructor 100 = .ok (.getfield 121, 3) := by decide +kernel
theorem dX12_addConstructor_103 : decode cX12_addConstructor 103 = .ok (.imul, 1) := by decide +kernel
theorem dX12_addConstructor_104 : decode cX12_addConstructor 104 = .ok (.iload_n 3, 1) := by decide +kernel
theorem dX12_addConstructor_105 : decode cX12_addConstructor 105 = .ok (.iastore, 1) := by decide +kernel
theorem dX12_addConstructor_106 : decode cX12_addConstructor 106 = .ok (.aload_n 0, 1) := by decide +kernel
theorem dX12_addConstructor_107 : decode cX12_addConstructor 107 = .ok (.getfield 16, 3) := by decide +kernel
theorem dX12_addConstructor_110 : decode cX12_addConstructor 110 = .ok (.iconst 3, 1) := by decide +kernel
theorem dX12_addConstructor_111 : decode cX12_addConstructor 111 = .ok (.aload_n 0, 1) := by decide +kernel
theorem dX12_addConstructor_112 : decode cX12_addConstructor 112 = .ok (.getfield 121, 3) := by decide +kernel
theorem dX12_addConstructor_115 : decode cX12_addConstructor 115 = .ok (.imul, 1) := by decide +kernel
theorem dX12_addConstructor_116 : decode cX12_addConstructor 116 = .ok (.iconst 1, 1) := by decide +kernel
theorem dX12_addConstructor_117 : decode cX12_addConstructor 117 = .ok (.iadd, 1) := by decide +kernel
theorem dX12_addConstructor_118 : decode cX12_addConstructor 118 = .ok (.iload 4, 2) := by decide +kernel
theorem dX12_addConstructor_120 : decode cX12_addConstructor 120 = .ok (.iastore, 1) := by decide +kernel
theorem dX12_addConstructor_121 : decode cX12_addConstructor 121 = .ok (.aload_n 0, 1) := by decide +kernel
theorem dX12_addConstructor_122 : decode cX12_addConstructor 122 = .ok (.getfield 16, 3) := by decide +kernel
theorem dX12_addConstructor_125 : decode cX12_addConstructor 125 = .ok (.iconst 3, 1) := by decide +kernel
theorem dX12_addConstructor_126 : decode cX12_addConstructor 126 = .ok (.aload_n 0, 1) := by decide +kernel
theorem dX12_addConstructor_127 : decode cX12_addConstructor 127 = .ok (.getfield 121, 3) := by decide +kernel
theorem dX12_addConstructor_130 : decode cX12_addConstructor 130 = .ok (.imul, 1) := by decide +kernel
theorem dX12_addConstructor_131 : decode cX12_addConstructor 131 = .ok (.iconst 2, 1) := by decide +kernel
theorem dX12_addConstructor_132 : decode cX12_addConstructor 132 = .ok (.iadd, 1) := by decide +kernel
theorem dX12_addConstructor_133 : decode cX12_addConstructor 133 = .ok (.iload 5, 2) := by decide +kernel
theorem dX12_addConstructor_135 : decode cX12_addConstructor 135 = .ok (.iastore, 1) := by decide +kernel
theorem dX12_addConstructor_136 : decode cX12_addConstructor 136 = .ok (.aload_n 0, 1) := by decide +kernel
theorem dX12_addConstructor_137 : decode cX12_addConstructor 137 = .ok (.dup, 1) := by decide +kernel
theorem dX12_addConstructor_138 : decode cX12_addConstructor 138 = .ok (.getfield 121, 3) := by decide +kernel
theorem dX12_addConstructor_141 : decode cX12_addConstructor 141 = .ok (.iconst 1, 1) := by decide +kernel
theorem dX12_addConstructor_142 : decode cX12_addConstructor 142 = .ok (.iadd, 1) := by decide +kernel
theorem dX12_addConstructor_143 : decode cX12_addConstructor 143 = .ok (.putfield 121, 3) := by decide +kernel
theorem dX12_addConstructor_146 : decode cX12_addConstructor 146 = .ok (.aload_n 0, 1) := by decide +kernel
theorem dX12_addConstructor_147 : decode cX12_addConstructor 147 = .ok (.getfield 121, 3) := by decide +kernel
theorem dX12_addConstructor_150 : decode cX12_addConstructor 150 = .ok (.iconst 1, 1) := by decide +kernel
theorem dX12_addConstructor_151 : decode cX12_addConstructor 151 = .ok (.isub, 1) := by decide +kernel
theorem dX12_addConstructor_152 : decode cX12_addConstructor 152 = .ok (.ireturn, 1) := by decide +kernel
theorem dX12_resultType_0 : decode cX12_resultType 0 = .ok (.aload_n 0, 1) := by decide +kernel
theorem dX12_resultType_1 : decode cX12_resultType 1 = .ok (.iload_n 1, 1) := by decide +kernel
theorem dX12_resultType_2 : decode cX12_resultType 2 = .ok (.invokevirtual 134, 3) := by decide +kernel
theorem dX12_resultType_5 : decode cX12_resultType 5 = .ok (.ifCond .eq 12, 3) := by decide +kernel
theorem dX12_resultType_8 : decode cX12_resultType 8 = .ok (.aload_n 0, 1) := by decide +kernel
theorem dX12_resultType_9 : decode cX12_resultType 9 = .ok (.getfield 7, 3) := by decide +kernel
theorem dX12_resultType_12 : decode cX12_resultType 12 = .ok (.iload_n 1, 1) := by decide +kernel
theorem dX12_resultType_13 : decode cX12_resultType 13 = .ok (.iaload, 1) := by decide +kernel
theorem dX12_resultType_14 : decode cX12_resultType 14 = .ok (.goto 5, 3) := by decide +kernel
theorem dX12_resultType_17 : decode cX12_resultType 17 = .ok (.bipush (-2), 2) := by decide +kernel
theorem dX12_resultType_19 : decode cX12_resultType 19 = .ok (.ireturn, 1) := by decide +kernel
theorem dX12_arity_0 : decode cX12_arity 0 = .ok (.aload_n 0, 1) := by decide +kernel
theorem dX12_arity_1 : decode cX12_arity 1 = .ok (.iload_n 1, 1) := by decide +kernel
theorem dX12_arity_2 : decode cX12_arity 2 = .ok (.invokevirtual 134, 3) := by decide +kernel
theorem dX12_arity_5 : decode cX12_arity 5 = .ok (.ifCond .eq 12, 3) := by decide +kernel
theorem dX12_arity_8 : decode cX12_arity 8 = .ok (.aload_n 0, 1) := by decide +kernel
theorem dX12_arity_9 : decode cX12_arity 9 = .ok (.getfield 13, 3) := by decide +kernel
theorem dX12_arity_12 : decode cX12_arity 12 = .ok (.iload_n 1, 1) := by decide +kernel
theorem dX12_arity_13 : decode cX12_arity 13 = .ok (.iaload, 1) := by decide +kernel
theorem dX12_arity_14 : decode cX12_arity 14 = .ok (.goto 5, 3) := by decide +kernel
theorem dX12_arity_17 : decode cX12_arity 17 = .ok (.bipush (-2), 2) := by decide +kernel
theorem dX12_arity_19 : decode cX12_arity 19 = .ok (.ireturn, 1) := by decide +kernel
theorem dX12_argumentType_0 : decode cX12_argumentType 0 = .ok (.aload_n 0, 1) := by decide +kernel
theorem dX12_argumentType_1 : decode cX12_argumentType 1 = .ok (.iload_n 1, 1) := by decide +kernel
theorem dX12_argumentType_2 : decode cX12_argumentType 2 = .ok (.invokevirtual 134, 3) := by decide +kernel
theorem dX12_argumentType_5 : decode cX12_argumentType 5 = .ok (.ifCond .ne 6, 3) := by decide +kernel
theorem dX12_argumentType_8 : decode cX12_argumentType 8 = .ok (.bipush (-2), 2) := by decide +kernel
theorem dX12_argumentType_10 : decode cX12_argumentType 10 = .ok (.ireturn, 1) := by decide +kernel
theorem dX12_argumentType_11 : decode cX12_argumentType 11 = .ok (.iload_n 2, 1) := by decide +kernel
theorem dX12_argumentType_12 : decode cX12_argumentType 12 = .ok (.iconst 0, 1) := by decide +kernel
theorem dX12_argumentType_13 : decode cX12_argumentType 13 = .ok (.aload_n 0, 1) := by decide +kernel
theorem dX12_argumentType_14 : decode cX12_argumentType 14 = .ok (.getfield 13, 3) := by decide +kernel
theorem dX12_argumentType_17 : decode cX12_argumentType 17 = .ok (.iload_n 1, 1) := by decide +kernel
theorem dX12_argumentType_18 : decode cX12_argumentType 18 = .ok (.iaload, 1) := by decide +kernel
theorem dX12_argumentType_19 : decode cX12_argumentType 19 = .ok (.iconst 1, 1) := by decide +kernel
theorem dX12_argumentType_20 : decode cX12_argumentType 20 = .ok (.isub, 1) := by decide +kernel
theorem dX12_argumentType_21 : decode cX12_argumentType 21 = .ok (.invokestatic 117, 3) := by decide +kernel
theorem dX12_argumentType_24 : decode cX12_argumentType 24 = .ok (.ifCond .eq 16, 3) := by decide +kernel
theorem dX12_argumentType_27 : decode cX12_argumentType 27 = .ok (.aload_n 0, 1) := by decide +kernel
theorem dX12_argumentType_28 : decode cX12_argumentType 28 = .ok (.getfield 16, 3) := by decide +kernel
theorem dX12_argumentType_31 : decode cX12_argumentType 31 = .ok (.iconst 3, 1) := by decide +kernel
theorem dX12_argumentType_32 : decode cX12_argumentType 32 = .ok (.iload_n 1, 1) := by decide +kernel
theorem dX12_argumentType_33 : decode cX12_argumentType 33 = .ok (.imul, 1) := by decide +kernel
theorem dX12_argumentType_34 : decode cX12_argumentType 34 = .ok (.iload_n 2, 1) := by decide +kernel
theorem dX12_argumentType_35 : decode cX12_argumentType 35 = .ok (.iadd, 1) := by decide +kernel
theorem dX12_argumentType_36 : decode cX12_argumentType 36 = .ok (.iaload, 1) := by decide +kernel
theorem dX12_argumentType_37 : decode cX12_argumentType 37 = .ok (.goto 5, 3) := by decide +kernel
theorem dX12_argumentType_40 : decode cX12_argumentType 40 = .ok (.bipush (-13), 2) := by decide +kernel
theorem dX12_argumentType_42 : decode cX12_argumentType 42 = .ok (.ireturn, 1) := by decide +kernel
theorem dX12_laySmallest_0 : decode cX12_laySmallest 0 = .ok (.iconst 0, 1) := by decide +kernel
theorem dX12_laySmallest_1 : decode cX12_laySmallest 1 = .ok (.istore_n 1, 1) := by decide +kernel
theorem dX12_laySmallest_2 : decode cX12_laySmallest 2 = .ok (.iload_n 1, 1) := by decide +kernel
theorem dX12_laySmallest_3 : decode cX12_laySmallest 3 = .ok (.iconst 4, 1) := by decide +kernel
theorem dX12_laySmallest_4 : decode cX12_laySmallest 4 = .ok (.if_icmp .ge 17, 3) := by decide +kernel
theorem dX12_laySmallest_7 : decode cX12_laySmallest 7 = .ok (.aload_n 0, 1) := by decide +kernel
theorem dX12_laySmallest_8 : decode cX12_laySmallest 8 = .ok (.getfield 37, 3) := by decide +kernel
theorem dX12_laySmallest_11 : decode cX12_laySmallest 11 = .ok (.iload_n 1, 1) := by decide +kernel
theorem dX12_laySmallest_12 : decode cX12_laySmallest 12 = .ok (.bipush (-13), 2) := by decide +kernel
theorem dX12_laySmallest_14 : decode cX12_laySmallest 14 = .ok (.iastore, 1) := by decide +kernel
theorem dX12_laySmallest_15 : decode cX12_laySmallest 15 = .ok (.iinc 1 1, 3) := by decide +kernel
theorem dX12_laySmallest_18 : decode cX12_laySmallest 18 = .ok (.goto (-16), 3) := by decide +kernel
theorem dX12_laySmallest_21 : decode cX12_laySmallest 21 = .ok (.iconst 1, 1) := by decide +kernel
theorem dX12_laySmallest_22 : decode cX12_laySmallest 22 = .ok (.istore_n 1, 1) := by decide +kernel
theorem dX12_laySmallest_23 : decode cX12_laySmallest 23 = .ok (.iload_n 1, 1) := by decide +kernel
theorem dX12_laySmallest_24 : decode cX12_laySmallest 24 = .ok (.ifCond .eq 73, 3) := by decide +kernel
theorem dX12_laySmallest_27 : decode cX12_laySmallest 27 = .ok (.iconst 0, 1) := by decide +kernel
theorem dX12_laySmallest_28 : decode cX12_laySmallest 28 = .ok (.istore_n 1, 1) := by decide +kernel
theorem dX12_laySmallest_29 : decode cX12_laySmallest 29 = .ok (.iconst 0, 1) := by decide +kernel
theorem dX12_laySmallest_30 : decode cX12_laySmallest 30 = .ok (.istore_n 2, 1) := by decide +kernel
theorem dX12_laySmallest_31 : decode cX12_laySmallest 31 = .ok (.iload_n 2, 1) := by decide +kernel
theorem dX12_laySmallest_32 : decode cX12_laySmallest 32 = .ok (.aload_n 0, 1) := by decide +kernel
theorem dX12_laySmallest_33 : decode cX12_laySmallest 33 = .ok (.getfield 121, 3) := by decide +kernel
theorem dX12_laySmallest_36 : decode cX12_laySmallest 36 = .ok (.if_icmp .ge 58, 3) := by decide +kernel
theorem dX12_laySmallest_39 : decode cX12_laySmallest 39 = .ok (.aload_n 0, 1) := by decide +kernel
theorem dX12_laySmallest_40 : decode cX12_laySmallest 40 = .ok (.iload_n 2, 1) := by decide +kernel
theorem dX12_laySmallest_41 : decode cX12_laySmallest 41 = .ok (.invokevirtual 137, 3) := by decide +kernel
theorem dX12_laySmallest_44 : decode cX12_laySmallest 44 = .ok (.istore_n 3, 1) := by decide +kernel
theorem dX12_laySmallest_45 : decode cX12_laySmallest 45 = .ok (.aload_n 0, 1) := by decide +kernel
theorem dX12_laySmallest_46 : decode cX12_laySmallest 46 = .ok (.getfield 7, 3) := by decide +kernel
theorem dX12_laySmallest_49 : decode cX12_laySmallest 49 = .ok (.iload_n 2, 1) := by decide +kernel
theorem dX12_laySmallest_50 : decode cX12_laySmallest 50 = .ok (.iaload, 1) := by decide +kernel
theorem dX12_laySmallest_51 : decode cX12_laySmallest 51 = .ok (.istore 4, 2) := by decide +kernel
theorem dX12_laySmallest_53 : decode cX12_laySmallest 53 = .ok (.iload_n 3, 1) := by decide +kernel
theorem dX12_laySmallest_54 : decode cX12_laySmallest 54 = .ok (.ifCond .le 34, 3) := by decide +kernel
theorem dX12_laySmallest_57 : decode cX12_laySmallest 57 = .ok (.aload_n 0, 1) := by decide +kernel
theorem dX12_laySmallest_58 : decode cX12_laySmallest 58 = .ok (.getfield 37, 3) := by decide +kernel
theorem dX12_laySmallest_61 : decode cX12_laySmallest 61 = .ok (.iload 4, 2) := by decide +kernel
theorem dX12_laySmallest_63 : decode cX12_laySmallest 63 = .ok (.iaload, 1) := by decide +kernel
theorem dX12_laySmallest_64 : decode cX12_laySmallest 64 = .ok (.ifCond .lt 14, 3) := by decide +kernel
theorem dX12_laySmallest_67 : decode cX12_laySmallest 67 = .ok (.iload_n 3, 1) := by decide +kernel
theorem dX12_laySmallest_68 : decode cX12_laySmallest 68 = .ok (.aload_n 0, 1) := by decide +kernel
theorem dX12_laySmallest_69 : decode cX12_laySmallest 69 = .ok (.getfield 37, 3) := by decide +kernel
theorem dX12_laySmallest_72 : decode cX12_laySmallest 72 = .ok (.iload 4, 2) := by decide +kernel
theorem dX12_laySmallest_74 : decode cX12_laySmallest 74 = .ok (.iaload, 1) := by decide +kernel
theorem dX12_laySmallest_75 : decode cX12_laySmallest 75 = .ok (.if_icmp .ge 13, 3) := by decide +kernel
theorem dX12_laySmallest_78 : decode cX12_laySmallest 78 = .ok (.aload_n 0, 1) := by decide +kernel
theorem dX12_laySmallest_79 : decode cX12_laySmallest 79 = .ok (.getfield 37, 3) := by decide +kernel
theorem dX12_laySmallest_82 : decode cX12_laySmallest 82 = .ok (.iload 4, 2) := by decide +kernel
theorem dX12_laySmallest_84 : decode cX12_laySmallest 84 = .ok (.iload_n 3, 1) := by decide +kernel
theorem dX12_laySmallest_85 : decode cX12_laySmallest 85 = .ok (.iastore, 1) := by decide +kernel
theorem dX12_laySmallest_86 : decode cX12_laySmallest 86 = .ok (.iconst 1, 1) := by decide +kernel
theorem dX12_laySmallest_87 : decode cX12_laySmallest 87 = .ok (.istore_n 1, 1) := by decide +kernel
theorem dX12_laySmallest_88 : decode cX12_laySmallest 88 = .ok (.iinc 2 1, 3) := by decide +kernel
theorem dX12_laySmallest_91 : decode cX12_laySmallest 91 = .ok (.goto (-60), 3) := by decide +kernel
theorem dX12_laySmallest_94 : decode cX12_laySmallest 94 = .ok (.goto (-71), 3) := by decide +kernel
theorem dX12_laySmallest_97 : decode cX12_laySmallest 97 = .ok (.return_, 1) := by decide +kernel
theorem dX12_sizeBy_0 : decode cX12_sizeBy 0 = .ok (.iconst 1, 1) := by decide +kernel
theorem dX12_sizeBy_1 : decode cX12_sizeBy 1 = .ok (.istore_n 2, 1) := by decide +kernel
theorem dX12_sizeBy_2 : decode cX12_sizeBy 2 = .ok (.iconst 0, 1) := by decide +kernel
theorem dX12_sizeBy_3 : decode cX12_sizeBy 3 = .ok (.istore_n 3, 1) := by decide +kernel
theorem dX12_sizeBy_4 : decode cX12_sizeBy 4 = .ok (.iload_n 3, 1) := by decide +kernel
theorem dX12_sizeBy_5 : decode cX12_sizeBy 5 = .ok (.aload_n 0, 1) := by decide +kernel
theorem dX12_sizeBy_6 : decode cX12_sizeBy 6 = .ok (.getfield 13, 3) := by decide +kernel
theorem dX12_sizeBy_9 : decode cX12_sizeBy 9 = .ok (.iload_n 1, 1) := by decide +kernel
theorem dX12_sizeBy_10 : decode cX12_sizeBy 10 = .ok (.iaload, 1) := by decide +kernel
theorem dX12_sizeBy_11 : decode cX12_sizeBy 11 = .ok (.if_icmp .ge 39, 3) := by decide +kernel
theorem dX12_sizeBy_14 : decode cX12_sizeBy 14 = .ok (.aload_n 0, 1) := by decide +kernel
theorem dX12_sizeBy_15 : decode cX12_sizeBy 15 = .ok (.getfield 37, 3) := by decide +kernel
theorem dX12_sizeBy_18 : decode cX12_sizeBy 18 = .ok (.aload_n 0, 1) := by decide +kernel
theorem dX12_sizeBy_19 : decode cX12_sizeBy 19 = .ok (.getfield 16, 3) := by decide +kernel
theorem dX12_sizeBy_22 : decode cX12_sizeBy 22 = .ok (.iconst 3, 1) := by decide +kernel
theorem dX12_sizeBy_23 : decode cX12_sizeBy 23 = .ok (.iload_n 1, 1) := by decide +kernel
theorem dX12_sizeBy_24 : decode cX12_sizeBy 24 = .ok (.imul, 1) := by decide +kernel
theorem dX12_sizeBy_25 : decode cX12_sizeBy 25 = .ok (.iload_n 3, 1) := by decide +kernel
theorem dX12_sizeBy_26 : decode cX12_sizeBy 26 = .ok (.iadd, 1) := by decide +kernel
theorem dX12_sizeBy_27 : decode cX12_sizeBy 27 = .ok (.iaload, 1) := by decide +kernel
theorem dX12_sizeBy_28 : decode cX12_sizeBy 28 = .ok (.iaload, 1) := by decide +kernel
theorem dX12_sizeBy_29 : decode cX12_sizeBy 29 = .ok (.istore 4, 2) := by decide +kernel
theorem dX12_sizeBy_31 : decode cX12_sizeBy 31 = .ok (.iload 4, 2) := by decide +kernel
theorem dX12_sizeBy_33 : decode cX12_sizeBy 33 = .ok (.ifCond .ge 6, 3) := by decide +kernel
theorem dX12_sizeBy_36 : decode cX12_sizeBy 36 = .ok (.bipush (-13), 2) := by decide +kernel
theorem dX12_sizeBy_38 : decode cX12_sizeBy 38 = .ok (.ireturn, 1) := by decide +kernel
theorem dX12_sizeBy_39 : decode cX12_sizeBy 39 = .ok (.iload_n 2, 1) := by decide +kernel
theorem dX12_sizeBy_40 : decode cX12_sizeBy 40 = .ok (.iload 4, 2) := by decide +kernel
theorem dX12_sizeBy_42 : decode cX12_sizeBy 42 = .ok (.iadd, 1) := by decide +kernel
theorem dX12_sizeBy_43 : decode cX12_sizeBy 43 = .ok (.istore_n 2, 1) := by decide +kernel
theorem dX12_sizeBy_44 : decode cX12_sizeBy 44 = .ok (.iinc 3 1, 3) := by decide +kernel
theorem dX12_sizeBy_47 : decode cX12_sizeBy 47 = .ok (.goto (-43), 3) := by decide +kernel
theorem dX12_sizeBy_50 : decode cX12_sizeBy 50 = .ok (.iload_n 2, 1) := by decide +kernel
theorem dX12_sizeBy_51 : decode cX12_sizeBy 51 = .ok (.ireturn, 1) := by decide +kernel
theorem dX12_layWithin_0 : decode cX12_layWithin 0 = .ok (.aload_n 0, 1) := by decide +kernel
theorem dX12_layWithin_1 : decode cX12_layWithin 1 = .ok (.invokevirtual 141, 3) := by decide +kernel
theorem dX12_layWithin_4 : decode cX12_layWithin 4 = .ok (.iconst 0, 1) := by decide +kernel
theorem dX12_layWithin_5 : decode cX12_layWithin 5 = .ok (.istore_n 1, 1) := by decide +kernel
theorem dX12_layWithin_6 : decode cX12_layWithin 6 = .ok (.iload_n 1, 1) := by decide +kernel
theorem dX12_layWithin_7 : decode cX12_layWithin 7 = .ok (.bipush 16, 2) := by decide +kernel
theorem dX12_layWithin_9 : decode cX12_layWithin 9 = .ok (.if_icmp .ge 16, 3) := by decide +kernel
theorem dX12_layWithin_12 : decode cX12_layWithin 12 = .ok (.aload_n 0, 1) := by decide +kernel
theorem dX12_layWithin_13 : decode cX12_layWithin 13 = .ok (.getfield 43, 3) := by decide +kernel
theorem dX12_layWithin_16 : decode cX12_layWithin 16 = .ok (.iload_n 1, 1) := by decide +kernel
theorem dX12_layWithin_17 : decode cX12_layWithin 17 = .ok (.iconst 0, 1) := by decide +kernel
theorem dX12_layWithin_18 : decode cX12_layWithin 18 = .ok (.bastore, 1) := by decide +kernel
theorem dX12_layWithin_19 : decode cX12_layWithin 19 = .ok (.iinc 1 1, 3) := by decide +kernel
theorem dX12_layWithin_22 : decode cX12_layWithin 22 = .ok (.goto (-16), 3) := by decide +kernel
theorem dX12_layWithin_25 : decode cX12_layWithin 25 = .ok (.iconst 0, 1) := by decide +kernel
theorem dX12_layWithin_26 : decode cX12_layWithin 26 = .ok (.istore_n 1, 1) := by decide +kernel
theorem dX12_layWithin_27 : decode cX12_layWithin 27 = .ok (.iload_n 1, 1) := by decide +kernel
theorem dX12_layWithin_28 : decode cX12_layWithin 28 = .ok (.aload_n 0, 1) := by decide +kernel
theorem dX12_layWithin_29 : decode cX12_layWithin 29 = .ok (.getfield 121, 3) := by decide +kernel
theorem dX12_layWithin_32 : decode cX12_layWithin 32 = .ok (.if_icmp .ge 60, 3) := by decide +kernel
theorem dX12_layWithin_35 : decode cX12_layWithin 35 = .ok (.iconst 0, 1) := by decide +kernel
theorem dX12_layWithin_36 : decode cX12_layWithin 36 = .ok (.istore_n 2, 1) := by decide +kernel
theorem dX12_layWithin_37 : decode cX12_layWithin 37 = .ok (.iload_n 2, 1) := by decide +kernel
theorem dX12_layWithin_38 : decode cX12_layWithin 38 = .ok (.aload_n 0, 1) := by decide +kernel
theorem dX12_layWithin_39 : decode cX12_layWithin 39 = .ok (.getfield 13, 3) := by decide +kernel
theorem dX12_layWithin_42 : decode cX12_layWithin 42 = .ok (.iload_n 1, 1) := by decide +kernel
theorem dX12_layWithin_43 : decode cX12_layWithin 43 = .ok (.iaload, 1) := by decide +kernel
theorem dX12_layWithin_44 : decode cX12_layWithin 44 = .ok (.if_icmp .ge 42, 3) := by decide +kernel
theorem dX12_layWithin_47 : decode cX12_layWithin 47 = .ok (.aload_n 0, 1) := by decide +kernel
theorem dX12_layWithin_48 : decode cX12_layWithin 48 = .ok (.iload_n 1, 1) := by decide +kernel
theorem dX12_layWithin_49 : decode cX12_layWithin 49 = .ok (.invokevirtual 137, 3) := by decide +kernel
theorem dX12_layWithin_52 : decode cX12_layWithin 52 = .ok (.ifCond .le 34, 3) := by decide +kernel
theorem dX12_layWithin_55 : decode cX12_layWithin 55 = .ok (.aload_n 0, 1) := by decide +kernel
theorem dX12_layWithin_56 : decode cX12_layWithin 56 = .ok (.getfield 43, 3) := by decide +kernel
theorem dX12_layWithin_59 : decode cX12_layWithin 59 = .ok (.iconst 4, 1) := by decide +kernel
theorem dX12_layWithin_60 : decode cX12_layWithin 60 = .ok (.aload_n 0, 1) := by decide +kernel
theorem dX12_layWithin_61 : decode cX12_layWithin 61 = .ok (.getfield 7, 3) := by decide +kernel
theorem dX12_layWithin_64 : decode cX12_layWithin 64 = .ok (.iload_n 1, 1) := by decide +kernel
theorem dX12_layWithin_65 : decode cX12_layWithin 65 = .ok (.iaload, 1) := by decide +kernel
theorem dX12_layWithin_66 : decode cX12_layWithin 66 = .ok (.imul, 1) := by decide +kernel
theorem dX12_layWithin_67 : decode cX12_layWithin 67 = .ok (.aload_n 0, 1) := by decide +kernel
theorem dX12_layWithin_68 : decode cX12_layWithin 68 = .ok (.getfield 16, 3) := by decide +kernel
theorem dX12_layWithin_71 : decode cX12_layWithin 71 = .ok (.iconst 3, 1) := by decide +kernel
theorem dX12_layWithin_72 : decode cX12_layWithin 72 = .ok (.iload_n 1, 1) := by decide +kernel
theorem dX12_layWithin_73 : decode cX12_layWithin 73 = .ok (.imul, 1) := by decide +kernel
theorem dX12_layWithin_74 : decode cX12_layWithin 74 = .ok (.iload_n 2, 1) := by decide +kernel
theorem dX12_layWithin_75 : decode cX12_layWithin 75 = .ok (.iadd, 1) := by decide +kernel
theorem dX12_layWithin_76 : decode cX12_layWithin 76 = .ok (.iaload, 1) := by decide +kernel
theorem dX12_layWithin_77 : decode cX12_layWithin 77 = .ok (.iadd, 1) := by decide +kernel
theorem dX12_layWithin_78 : decode cX12_layWithin 78 = .ok (.iconst 1, 1) := by decide +kernel
theorem dX12_layWithin_79 : decode cX12_layWithin 79 = .ok (.bastore, 1) := by decide +kernel
theorem dX12_layWithin_80 : decode cX12_layWithin 80 = .ok (.iinc 2 1, 3) := by decide +kernel
theorem dX12_layWithin_83 : decode cX12_layWithin 83 = .ok (.goto (-46), 3) := by decide +kernel
theorem dX12_layWithin_86 : decode cX12_layWithin 86 = .ok (.iinc 1 1, 3) := by decide +kernel
theorem dX12_layWithin_89 : decode cX12_layWithin 89 = .ok (.goto (-62), 3) := by decide +kernel
theorem dX12_layWithin_92 : decode cX12_layWithin 92 = .ok (.iconst 0, 1) := by decide +kernel
theorem dX12_layWithin_93 : decode cX12_layWithin 93 = .ok (.istore_n 1, 1) := by decide +kernel
theorem dX12_layWithin_94 : decode cX12_layWithin 94 = .ok (.iload_n 1, 1) := by decide +kernel
theorem dX12_layWithin_95 : decode cX12_layWithin 95 = .ok (.iconst 4, 1) := by decide +kernel
theorem dX12_layWithin_96 : decode cX12_layWithin 96 = .ok (.if_icmp .ge 89, 3) := by decide +kernel
theorem dX12_layWithin_99 : decode cX12_layWithin 99 = .ok (.iconst 0, 1) := by decide +kernel
theorem dX12_layWithin_100 : decode cX12_layWithin 100 = .ok (.istore_n 2, 1) := by decide +kernel
theorem dX12_layWithin_101 : decode cX12_layWithin 101 = .ok (.iload_n 2, 1) := by decide +kernel
theorem dX12_layWithin_102 : decode cX12_layWithin 102 = .ok (.iconst 4, 1) := by decide +kernel
theorem dX12_layWithin_103 : decode cX12_layWithin 103 = .ok (.if_icmp .ge 76, 3) := by decide +kernel
theorem dX12_layWithin_106 : decode cX12_layWithin 106 = .ok (.iconst 0, 1) := by decide +kernel
theorem dX12_layWithin_107 : decode cX12_layWithin 107 = .ok (.istore_n 3, 1) := by decide +kernel
theorem dX12_layWithin_108 : decode cX12_layWithin 108 = .ok (.iload_n 3, 1) := by decide +kernel
theorem dX12_layWithin_109 : decode cX12_layWithin 109 = .ok (.iconst 4, 1) := by decide +kernel
theorem dX12_layWithin_110 : decode cX12_layWithin 110 = .ok (.if_icmp .ge 63, 3) := by decide +kernel
theorem dX12_layWithin_113 : decode cX12_layWithin 113 = .ok (.aload_n 0, 1) := by decide +kernel
theorem dX12_layWithin_114 : decode cX12_layWithin 114 = .ok (.getfield 43, 3) := by decide +kernel
theorem dX12_layWithin_117 : decode cX12_layWithin 117 = .ok (.iconst 4, 1) := by decide +kernel
theorem dX12_layWithin_118 : decode cX12_layWithin 118 = .ok (.iload_n 2, 1) := by decide +kernel
theorem dX12_layWithin_119 : decode cX12_layWithin 119 = .ok (.imul, 1) := by decide +kernel
theorem dX12_layWithin_120 : decode cX12_layWithin 120 = .ok (.iload_n 3, 1) := by decide +kernel
theorem dX12_layWithin_121 : decode cX12_layWithin 121 = .ok (.iadd, 1) := by decide +kernel
theorem dX12_layWithin_122 : decode cX12_layWithin 122 = .ok (.aload_n 0, 1) := by decide +kernel
theorem dX12_layWithin_123 : decode cX12_layWithin 123 = .ok (.getfield 43, 3) := by decide +kernel
theorem dX12_layWithin_126 : decode cX12_layWithin 126 = .ok (.iconst 4, 1) := by decide +kernel
theorem dX12_layWithin_127 : decode cX12_layWithin 127 = .ok (.iload_n 2, 1) := by decide +kernel
theorem dX12_layWithin_128 : decode cX12_layWithin 128 = .ok (.imul, 1) := by decide +kernel
theorem dX12_layWithin_129 : decode cX12_layWithin 129 = .ok (.iload_n 3, 1) := by decide +kernel
theorem dX12_layWithin_130 : decode cX12_layWithin 130 = .ok (.iadd, 1) := by decide +kernel
theorem dX12_layWithin_131 : decode cX12_layWithin 131 = .ok (.baload, 1) := by decide +kernel
theorem dX12_layWithin_132 : decode cX12_layWithin 132 = .ok (.ifCond .ne 29, 3) := by decide +kernel
theorem dX12_layWithin_135 : decode cX12_layWithin 135 = .ok (.aload_n 0, 1) := by decide +kernel
theorem dX12_layWithin_136 : decode cX12_layWithin 136 = .ok (.getfield 43, 3) := by decide +kernel
theorem dX12_layWithin_139 : decode cX12_layWithin 139 = .ok (.iconst 4, 1) := by decide +kernel
theorem dX12_layWithin_140 : decode cX12_layWithin 140 = .ok (.iload_n 2, 1) := by decide +kernel
theorem dX12_layWithin_141 : decode cX12_layWithin 141 = .ok (.imul, 1) := by decide +kernel
theorem dX12_layWithin_142 : decode cX12_layWithin 142 = .ok (.iload_n 1, 1) := by decide +kernel
theorem dX12_layWithin_143 : decode cX12_layWithin 143 = .ok (.iadd, 1) := by decide +kernel
theorem dX12_layWithin_144 : decode cX12_layWithin 144 = .ok (.baload, 1) := by decide +kernel
theorem dX12_layWithin_145 : decode cX12_layWithin 145 = .ok (.ifCond .eq 20, 3) := by decide +kernel
theorem dX12_layWithin_148 : decode cX12_layWithin 148 = .ok (.aload_n 0, 1) := by decide +kernel
theorem dX12_layWithin_149 : decode cX12_layWithin 149 = .ok (.getfield 43, 3) := by decide +kernel
theorem dX12_layWithin_152 : decode cX12_layWithin 152 = .ok (.iconst 4, 1) := by decide +kernel
theorem dX12_layWithin_153 : decode cX12_layWithin 153 = .ok (.iload_n 1, 1) := by decide +kernel
theorem dX12_layWithin_154 : decode cX12_layWithin 154 = .ok (.imul, 1) := by decide +kernel
theorem dX12_layWithin_155 : decode cX12_layWithin 155 = .ok (.iload_n 3, 1) := by decide +kernel
theorem dX12_layWithin_156 : decode cX12_layWithin 156 = .ok (.iadd, 1) := by decide +kernel
theorem dX12_layWithin_157 : decode cX12_layWithin 157 = .ok (.baload, 1) := by decide +kernel
theorem dX12_layWithin_158 : decode cX12_layWithin 158 = .ok (.ifCond .eq 7, 3) := by decide +kernel
theorem dX12_layWithin_161 : decode cX12_layWithin 161 = .ok (.iconst 1, 1) := by decide +kernel
theorem dX12_layWithin_162 : decode cX12_layWithin 162 = .ok (.goto 4, 3) := by decide +kernel
theorem dX12_layWithin_165 : decode cX12_layWithin 165 = .ok (.iconst 0, 1) := by decide +kernel
theorem dX12_layWithin_166 : decode cX12_layWithin 166 = .ok (.bastore, 1) := by decide +kernel
theorem dX12_layWithin_167 : decode cX12_layWithin 167 = .ok (.iinc 3 1, 3) := by decide +kernel
theorem dX12_layWithin_170 : decode cX12_layWithin 170 = .ok (.goto (-62), 3) := by decide +kernel
theorem dX12_layWithin_173 : decode cX12_layWithin 173 = .ok (.iinc 2 1, 3) := by decide +kernel
theorem dX12_layWithin_176 : decode cX12_layWithin 176 = .ok (.goto (-75), 3) := by decide +kernel
theorem dX12_layWithin_179 : decode cX12_layWithin 179 = .ok (.iinc 1 1, 3) := by decide +kernel
theorem dX12_layWithin_182 : decode cX12_layWithin 182 = .ok (.goto (-88), 3) := by decide +kernel
theorem dX12_layWithin_185 : decode cX12_layWithin 185 = .ok (.return_, 1) := by decide +kernel
theorem dX12_isInfinite_0 : decode cX12_isInfinite 0 = .ok (.aload_n 0, 1) := by decide +kernel
theorem dX12_isInfinite_1 : decode cX12_isInfinite 1 = .ok (.getfield 43, 3) := by decide +kernel
theorem dX12_isInfinite_4 : decode cX12_isInfinite 4 = .ok (.iconst 5, 1) := by decide +kernel
theorem dX12_isInfinite_5 : decode cX12_isInfinite 5 = .ok (.iload_n 1, 1) := by decide +kernel
theorem dX12_isInfinite_6 : decode cX12_isInfinite 6 = .ok (.imul, 1) := by decide +kernel
theorem dX12_isInfinite_7 : decode cX12_isInfinite 7 = .ok (.baload, 1) := by decide +kernel
theorem dX12_isInfinite_8 : decode cX12_isInfinite 8 = .ok (.istore_n 2, 1) := by decide +kernel
theorem dX12_isInfinite_9 : decode cX12_isInfinite 9 = .ok (.iconst 0, 1) := by decide +kernel
theorem dX12_isInfinite_10 : decode cX12_isInfinite 10 = .ok (.istore_n 3, 1) := by decide +kernel
theorem dX12_isInfinite_11 : decode cX12_isInfinite 11 = .ok (.iload_n 3, 1) := by decide +kernel
theorem dX12_isInfinite_12 : decode cX12_isInfinite 12 = .ok (.iconst 4, 1) := by decide +kernel
theorem dX12_isInfinite_13 : decode cX12_isInfinite 13 = .ok (.if_icmp .ge 43, 3) := by decide +kernel
theorem dX12_isInfinite_16 : decode cX12_isInfinite 16 = .ok (.iload_n 2, 1) := by decide +kernel
theorem dX12_isInfinite_17 : decode cX12_isInfinite 17 = .ok (.ifCond .ne 27, 3) := by decide +kernel
theorem dX12_isInfinite_20 : decode cX12_isInfinite 20 = .ok (.aload_n 0, 1) := by decide +kernel
theorem dX12_isInfinite_21 : decode cX12_isInfinite 21 = .ok (.getfield 43, 3) := by decide +kernel
theorem dX12_isInfinite_24 : decode cX12_isInfinite 24 = .ok (.iconst 4, 1) := by decide +kernel
theorem dX12_isInfinite_25 : decode cX12_isInfinite 25 = .ok (.iload_n 1, 1) := by decide +kernel
theorem dX12_isInfinite_26 : decode cX12_isInfinite 26 = .ok (.imul, 1) := by decide +kernel
theorem dX12_isInfinite_27 : decode cX12_isInfinite 27 = .ok (.iload_n 3, 1) := by decide +kernel
theorem dX12_isInfinite_28 : decode cX12_isInfinite 28 = .ok (.iadd, 1) := by decide +kernel
theorem dX12_isInfinite_29 : decode cX12_isInfinite 29 = .ok (.baload, 1) := by decide +kernel
theorem dX12_isInfinite_30 : decode cX12_isInfinite 30 = .ok (.ifCond .eq 18, 3) := by decide +kernel
theorem dX12_isInfinite_33 : decode cX12_isInfinite 33 = .ok (.aload_n 0, 1) := by decide +kernel
theorem dX12_isInfinite_34 : decode cX12_isInfinite 34 = .ok (.getfield 43, 3) := by decide +kernel
theorem dX12_isInfinite_37 : decode cX12_isInfinite 37 = .ok (.iconst 5, 1) := by decide +kernel
theorem dX12_isInfinite_38 : decode cX12_isInfinite 38 = .ok (.iload_n 3, 1) := by decide +kernel
theorem dX12_isInfinite_39 : decode cX12_isInfinite 39 = .ok (.imul, 1) := by decide +kernel
theorem dX12_isInfinite_40 : decode cX12_isInfinite 40 = .ok (.baload, 1) := by decide +kernel
theorem dX12_isInfinite_41 : decode cX12_isInfinite 41 = .ok (.ifCond .eq 7, 3) := by decide +kernel
theorem dX12_isInfinite_44 : decode cX12_isInfinite 44 = .ok (.iconst 1, 1) := by decide +kernel
theorem dX12_isInfinite_45 : decode cX12_isInfinite 45 = .ok (.goto 4, 3) := by decide +kernel
theorem dX12_isInfinite_48 : decode cX12_isInfinite 48 = .ok (.iconst 0, 1) := by decide +kernel
theorem dX12_isInfinite_49 : decode cX12_isInfinite 49 = .ok (.istore_n 2, 1) := by decide +kernel
theorem dX12_isInfinite_50 : decode cX12_isInfinite 50 = .ok (.iinc 3 1, 3) := by decide +kernel
theorem dX12_isInfinite_53 : decode cX12_isInfinite 53 = .ok (.goto (-42), 3) := by decide +kernel
theorem dX12_isInfinite_56 : decode cX12_isInfinite 56 = .ok (.iload_n 2, 1) := by decide +kernel
theorem dX12_isInfinite_57 : decode cX12_isInfinite 57 = .ok (.ireturn, 1) := by decide +kernel
theorem dX12_layAll_0 : decode cX12_layAll 0 = .ok (.iconst 0, 1) := by decide +kernel
theorem dX12_layAll_1 : decode cX12_layAll 1 = .ok (.istore_n 1, 1) := by decide +kernel
theorem dX12_layAll_2 : decode cX12_layAll 2 = .ok (.iload_n 1, 1) := by decide +kernel
theorem dX12_layAll_3 : decode cX12_layAll 3 = .ok (.iconst 4, 1) := by decide +kernel
theorem dX12_layAll_4 : decode cX12_layAll 4 = .ok (.if_icmp .ge 16, 3) := by decide +kernel
theorem dX12_layAll_7 : decode cX12_layAll 7 = .ok (.aload_n 0, 1) := by decide +kernel
theorem dX12_layAll_8 : decode cX12_layAll 8 = .ok (.getfield 40, 3) := by decide +kernel
theorem dX12_layAll_11 : decode cX12_layAll 11 = .ok (.iload_n 1, 1) := by decide +kernel
theorem dX12_layAll_12 : decode cX12_layAll 12 = .ok (.iconst 0, 1) := by decide +kernel
theorem dX12_layAll_13 : decode cX12_layAll 13 = .ok (.iastore, 1) := by decide +kernel
theorem dX12_layAll_14 : decode cX12_layAll 14 = .ok (.iinc 1 1, 3) := by decide +kernel
theorem dX12_layAll_17 : decode cX12_layAll 17 = .ok (.goto (-15), 3) := by decide +kernel
theorem dX12_layAll_20 : decode cX12_layAll 20 = .ok (.iconst 0, 1) := by decide +kernel
theorem dX12_layAll_21 : decode cX12_layAll 21 = .ok (.istore_n 1, 1) := by decide +kernel
theorem dX12_layAll_22 : decode cX12_layAll 22 = .ok (.iload_n 1, 1) := by decide +kernel
theorem dX12_layAll_23 : decode cX12_layAll 23 = .ok (.iconst 4, 1) := by decide +kernel
theorem dX12_layAll_24 : decode cX12_layAll 24 = .ok (.if_icmp .ge 80, 3) := by decide +kernel
theorem dX12_layAll_27 : decode cX12_layAll 27 = .ok (.iconst 0, 1) := by decide +kernel
theorem dX12_layAll_28 : decode cX12_layAll 28 = .ok (.istore_n 2, 1) := by decide +kernel
theorem dX12_layAll_29 : decode cX12_layAll 29 = .ok (.iload_n 2, 1) := by decide +kernel
theorem dX12_layAll_30 : decode cX12_layAll 30 = .ok (.aload_n 0, 1) := by decide +kernel
theorem dX12_layAll_31 : decode cX12_layAll 31 = .ok (.getfield 113, 3) := by decide +kernel
theorem dX12_layAll_34 : decode cX12_layAll 34 = .ok (.if_icmp .ge 64, 3) := by decide +kernel
theorem dX12_layAll_37 : decode cX12_layAll 37 = .ok (.lconst 0, 1) := by decide +kernel
theorem dX12_layAll_38 : decode cX12_layAll 38 = .ok (.lstore_n 3, 1) := by decide +kernel
theorem dX12_layAll_39 : decode cX12_layAll 39 = .ok (.iconst 0, 1) := by decide +kernel
theorem dX12_layAll_40 : decode cX12_layAll 40 = .ok (.istore 5, 2) := by decide +kernel
theorem dX12_layAll_42 : decode cX12_layAll 42 = .ok (.iload 5, 2) := by decide +kernel
theorem dX12_layAll_44 : decode cX12_layAll 44 = .ok (.aload_n 0, 1) := by decide +kernel
theorem dX12_layAll_45 : decode cX12_layAll 45 = .ok (.getfield 121, 3) := by decide +kernel
theorem dX12_layAll_48 : decode cX12_layAll 48 = .ok (.if_icmp .ge 34, 3) := by decide +kernel
theorem dX12_layAll_51 : decode cX12_layAll 51 = .ok (.lload_n 3, 1) := by decide +kernel
theorem dX12_layAll_52 : decode cX12_layAll 52 = .ok (.aload_n 0, 1) := by decide +kernel
theorem dX12_layAll_53 : decode cX12_layAll 53 = .ok (.getfield 7, 3) := by decide +kernel
theorem dX12_layAll_56 : decode cX12_layAll 56 = .ok (.iload 5, 2) := by decide +kernel
theorem dX12_layAll_58 : decode cX12_layAll 58 = .ok (.iaload, 1) := by decide +kernel
theorem dX12_layAll_59 : decode cX12_layAll 59 = .ok (.iload_n 2, 1) := by decide +kernel
theorem dX12_layAll_60 : decode cX12_layAll 60 = .ok (.if_icmp .ne 13, 3) := by decide +kernel
theorem dX12_layAll_63 : decode cX12_layAll 63 = .ok (.aload_n 0, 1) := by decide +kernel
theorem dX12_layAll_64 : decode cX12_layAll 64 = .ok (.iload 5, 2) := by decide +kernel
theorem dX12_layAll_66 : decode cX12_layAll 66 = .ok (.invokevirtual 144, 3) := by decide +kernel
theorem dX12_layAll_69 : decode cX12_layAll 69 = .ok (.i2l, 1) := by decide +kernel
theorem dX12_layAll_70 : decode cX12_layAll 70 = .ok (.goto 4, 3) := by decide +kernel
theorem dX12_layAll_73 : decode cX12_layAll 73 = .ok (.lconst 0, 1) := by decide +kernel
theorem dX12_layAll_74 : decode cX12_layAll 74 = .ok (.ladd, 1) := by decide +kernel
theorem dX12_layAll_75 : decode cX12_layAll 75 = .ok (.lstore_n 3, 1) := by decide +kernel
theorem dX12_layAll_76 : decode cX12_layAll 76 = .ok (.iinc 5 1, 3) := by decide +kernel
theorem dX12_layAll_79 : decode cX12_layAll 79 = .ok (.goto (-37), 3) := by decide +kernel
theorem dX12_layAll_82 : decode cX12_layAll 82 = .ok (.aload_n 0, 1) := by decide +kernel
theorem dX12_layAll_83 : decode cX12_layAll 83 = .ok (.getfield 40, 3) := by decide +kernel
theorem dX12_layAll_86 : decode cX12_layAll 86 = .ok (.iload_n 2, 1) := by decide +kernel
theorem dX12_layAll_87 : decode cX12_layAll 87 = .ok (.lload_n 3, 1) := by decide +kernel
theorem dX12_layAll_88 : decode cX12_layAll 88 = .ok (.invokestatic 147, 3) := by decide +kernel
theorem dX12_layAll_91 : decode cX12_layAll 91 = .ok (.iastore, 1) := by decide +kernel
theorem dX12_layAll_92 : decode cX12_layAll 92 = .ok (.iinc 2 1, 3) := by decide +kernel
theorem dX12_layAll_95 : decode cX12_layAll 95 = .ok (.goto (-66), 3) := by decide +kernel
theorem dX12_layAll_98 : decode cX12_layAll 98 = .ok (.iinc 1 1, 3) := by decide +kernel
theorem dX12_layAll_101 : decode cX12_layAll 101 = .ok (.goto (-79), 3) := by decide +kernel
theorem dX12_layAll_104 : decode cX12_layAll 104 = .ok (.return_, 1) := by decide +kernel
theorem dX12_allBy_0 : decode cX12_allBy 0 = .ok (.iconst 1, 1) := by decide +kernel
theorem dX12_allBy_1 : decode cX12_allBy 1 = .ok (.istore_n 2, 1) := by decide +kernel
theorem dX12_allBy_2 : decode cX12_allBy 2 = .ok (.iconst 0, 1) := by decide +kernel
theorem dX12_allBy_3 : decode cX12_allBy 3 = .ok (.istore_n 3, 1) := by decide +kernel
theorem dX12_allBy_4 : decode cX12_allBy 4 = .ok (.iload_n 3, 1) := by decide +kernel
theorem dX12_allBy_5 : decode cX12_allBy 5 = .ok (.aload_n 0, 1) := by decide +kernel
theorem dX12_allBy_6 : decode cX12_allBy 6 = .ok (.getfield 13, 3) := by decide +kernel
theorem dX12_allBy_9 : decode cX12_allBy 9 = .ok (.iload_n 1, 1) := by decide +kernel
theorem dX12_allBy_10 : decode cX12_allBy 10 = .ok (.iaload, 1) := by decide +kernel
theorem dX12_allBy_11 : decode cX12_allBy 11 = .ok (.if_icmp .ge 32, 3) := by decide +kernel
theorem dX12_allBy_14 : decode cX12_allBy 14 = .ok (.iload_n 2, 1) := by decide +kernel
theorem dX12_allBy_15 : decode cX12_allBy 15 = .ok (.i2l, 1) := by decide +kernel
theorem dX12_allBy_16 : decode cX12_allBy 16 = .ok (.aload_n 0, 1) := by decide +kernel
theorem dX12_allBy_17 : decode cX12_allBy 17 = .ok (.getfield 40, 3) := by decide +kernel
theorem dX12_allBy_20 : decode cX12_allBy 20 = .ok (.aload_n 0, 1) := by decide +kernel
theorem dX12_allBy_21 : decode cX12_allBy 21 = .ok (.getfield 16, 3) := by decide +kernel
theorem dX12_allBy_24 : decode cX12_allBy 24 = .ok (.iconst 3, 1) := by decide +kernel
theorem dX12_allBy_25 : decode cX12_allBy 25 = .ok (.iload_n 1, 1) := by decide +kernel
theorem dX12_allBy_26 : decode cX12_allBy 26 = .ok (.imul, 1) := by decide +kernel
theorem dX12_allBy_27 : decode cX12_allBy 27 = .ok (.iload_n 3, 1) := by decide +kernel
theorem dX12_allBy_28 : decode cX12_allBy 28 = .ok (.iadd, 1) := by decide +kernel
theorem dX12_allBy_29 : decode cX12_allBy 29 = .ok (.iaload, 1) := by decide +kernel
theorem dX12_allBy_30 : decode cX12_allBy 30 = .ok (.iaload, 1) := by decide +kernel
theorem dX12_allBy_31 : decode cX12_allBy 31 = .ok (.i2l, 1) := by decide +kernel
theorem dX12_allBy_32 : decode cX12_allBy 32 = .ok (.lmul, 1) := by decide +kernel
theorem dX12_allBy_33 : decode cX12_allBy 33 = .ok (.invokestatic 147, 3) := by decide +kernel
theorem dX12_allBy_36 : decode cX12_allBy 36 = .ok (.istore_n 2, 1) := by decide +kernel
theorem dX12_allBy_37 : decode cX12_allBy 37 = .ok (.iinc 3 1, 3) := by decide +kernel
theorem dX12_allBy_40 : decode cX12_allBy 40 = .ok (.goto (-36), 3) := by decide +kernel
theorem dX12_allBy_43 : decode cX12_allBy 43 = .ok (.iload_n 2, 1) := by decide +kernel
theorem dX12_allBy_44 : decode cX12_allBy 44 = .ok (.ireturn, 1) := by decide +kernel
theorem dX12_cardinality_0 : decode cX12_cardinality 0 = .ok (.aload_n 0, 1) := by decide +kernel
theorem dX12_cardinality_1 : decode cX12_cardinality 1 = .ok (.iload_n 1, 1) := by decide +kernel
theorem dX12_cardinality_2 : decode cX12_cardinality 2 = .ok (.invokevirtual 130, 3) := by decide +kernel
theorem dX12_cardinality_5 : decode cX12_cardinality 5 = .ok (.ifCond .ne 5, 3) := by decide +kernel
theorem dX12_cardinality_8 : decode cX12_cardinality 8 = .ok (.iconst (-1), 1) := by decide +kernel
theorem dX12_cardinality_9 : decode cX12_cardinality 9 = .ok (.ireturn, 1) := by decide +kernel
theorem dX12_cardinality_10 : decode cX12_cardinality 10 = .ok (.aload_n 0, 1) := by decide +kernel
theorem dX12_cardinality_11 : decode cX12_cardinality 11 = .ok (.invokevirtual 151, 3) := by decide +kernel
theorem dX12_cardinality_14 : decode cX12_cardinality 14 = .ok (.aload_n 0, 1) := by decide +kernel
theorem dX12_cardinality_15 : decode cX12_cardinality 15 = .ok (.iload_n 1, 1) := by decide +kernel
theorem dX12_cardinality_16 : decode cX12_cardinality 16 = .ok (.invokevirtual 154, 3) := by decide +kernel
theorem dX12_cardinality_19 : decode cX12_cardinality 19 = .ok (.ifCond .eq 6, 3) := by decide +kernel
theorem dX12_cardinality_22 : decode cX12_cardinality 22 = .ok (.bipush (-14), 2) := by decide +kernel
theorem dX12_cardinality_24 : decode cX12_cardinality 24 = .ok (.ireturn, 1) := by decide +kernel
theorem dX12_cardinality_25 : decode cX12_cardinality 25 = .ok (.aload_n 0, 1) := by decide +kernel
theorem dX12_cardinality_26 : decode cX12_cardinality 26 = .ok (.invokevirtual 157, 3) := by decide +kernel
theorem dX12_cardinality_29 : decode cX12_cardinality 29 = .ok (.aload_n 0, 1) := by decide +kernel
theorem dX12_cardinality_30 : decode cX12_cardinality 30 = .ok (.getfield 40, 3) := by decide +kernel
theorem dX12_cardinality_33 : decode cX12_cardinality 33 = .ok (.iload_n 1, 1) := by decide +kernel
theorem dX12_cardinality_34 : decode cX12_cardinality 34 = .ok (.iaload, 1) := by decide +kernel
theorem dX12_cardinality_35 : decode cX12_cardinality 35 = .ok (.ireturn, 1) := by decide +kernel
theorem dX12_smallestSize_0 : decode cX12_smallestSize 0 = .ok (.aload_n 0, 1) := by decide +kernel
theorem dX12_smallestSize_1 : decode cX12_smallestSize 1 = .ok (.iload_n 1, 1) := by decide +kernel
theorem dX12_smallestSize_2 : decode cX12_smallestSize 2 = .ok (.invokevirtual 130, 3) := by decide +kernel
theorem dX12_smallestSize_5 : decode cX12_smallestSize 5 = .ok (.ifCond .ne 5, 3) := by decide +kernel
theorem dX12_smallestSize_8 : decode cX12_smallestSize 8 = .ok (.iconst (-1), 1) := by decide +kernel
theorem dX12_smallestSize_9 : decode cX12_smallestSize 9 = .ok (.ireturn, 1) := by decide +kernel
theorem dX12_smallestSize_10 : decode cX12_smallestSize 10 = .ok (.aload_n 0, 1) := by decide +kernel
theorem dX12_smallestSize_11 : decode cX12_smallestSize 11 = .ok (.invokevirtual 141, 3) := by decide +kernel
theorem dX12_smallestSize_14 : decode cX12_smallestSize 14 = .ok (.aload_n 0, 1) := by decide +kernel
theorem dX12_smallestSize_15 : decode cX12_smallestSize 15 = .ok (.getfield 37, 3) := by decide +kernel
theorem dX12_smallestSize_18 : decode cX12_smallestSize 18 = .ok (.iload_n 1, 1) := by decide +kernel
theorem dX12_smallestSize_19 : decode cX12_smallestSize 19 = .ok (.iaload, 1) := by decide +kernel
theorem dX12_smallestSize_20 : decode cX12_smallestSize 20 = .ok (.ireturn, 1) := by decide +kernel
theorem dX12_way_0 : decode cX12_way 0 = .ok (.iconst 4, 1) := by decide +kernel
theorem dX12_way_1 : decode cX12_way 1 = .ok (.iload_n 0, 1) := by decide +kernel
theorem dX12_way_2 : decode cX12_way 2 = .ok (.imul, 1) := by decide +kernel
theorem dX12_way_3 : decode cX12_way 3 = .ok (.iload_n 1, 1) := by decide +kernel
theorem dX12_way_4 : decode cX12_way 4 = .ok (.iadd, 1) := by decide +kernel
theorem dX12_way_5 : decode cX12_way 5 = .ok (.bipush 13, 2) := by decide +kernel
theorem dX12_way_7 : decode cX12_way 7 = .ok (.imul, 1) := by decide +kernel
theorem dX12_way_8 : decode cX12_way 8 = .ok (.iload_n 2, 1) := by decide +kernel
theorem dX12_way_9 : decode cX12_way 9 = .ok (.iadd, 1) := by decide +kernel
theorem dX12_way_10 : decode cX12_way 10 = .ok (.ireturn, 1) := by decide +kernel
theorem dX12_countOf_0 : decode cX12_countOf 0 = .ok (.aload_n 0, 1) := by decide +kernel
theorem dX12_countOf_1 : decode cX12_countOf 1 = .ok (.getfield 47, 3) := by decide +kernel
theorem dX12_countOf_4 : decode cX12_countOf 4 = .ok (.bipush 13, 2) := by decide +kernel
theorem dX12_countOf_6 : decode cX12_countOf 6 = .ok (.iload_n 1, 1) := by decide +kernel
theorem dX12_countOf_7 : decode cX12_countOf 7 = .ok (.imul, 1) := by decide +kernel
theorem dX12_countOf_8 : decode cX12_countOf 8 = .ok (.iload_n 2, 1) := by decide +kernel
theorem dX12_countOf_9 : decode cX12_countOf 9 = .ok (.iadd, 1) := by decide +kernel
theorem dX12_countOf_10 : decode cX12_countOf 10 = .ok (.iaload, 1) := by decide +kernel
theorem dX12_countOf_11 : decode cX12_countOf 11 = .ok (.ireturn, 1) := by decide +kernel
theorem dX12_layWays_0 : decode cX12_layWays 0 = .ok (.aload_n 0, 1) := by decide +kernel
theorem dX12_layWays_1 : decode cX12_layWays 1 = .ok (.getfield 13, 3) := by decide +kernel
theorem dX12_layWays_4 : decode cX12_layWays 4 = .ok (.iload_n 1, 1) := by decide +kernel
theorem dX12_layWays_5 : decode cX12_layWays 5 = .ok (.iaload, 1) := by decide +kernel
theorem dX12_layWays_6 : decode cX12_layWays 6 = .ok (.istore_n 3, 1) := by decide +kernel
theorem dX12_layWays_7 : decode cX12_layWays 7 = .ok (.aload_n 0, 1) := by decide +kernel
theorem dX12_layWays_8 : decode cX12_layWays 8 = .ok (.getfield 50, 3) := by decide +kernel
theorem dX12_layWays_11 : decode cX12_layWays 11 = .ok (.iload_n 1, 1) := by decide +kernel
theorem dX12_layWays_12 : decode cX12_layWays 12 = .ok (.iload_n 3, 1) := by decide +kernel
theorem dX12_layWays_13 : decode cX12_layWays 13 = .ok (.iload_n 2, 1) := by decide +kernel
theorem dX12_layWays_14 : decode cX12_layWays 14 = .ok (.invokestatic 160, 3) := by decide +kernel
theorem dX12_layWays_17 : decode cX12_layWays 17 = .ok (.iload_n 2, 1) := by decide +kernel
theorem dX12_layWays_18 : decode cX12_layWays 18 = .ok (.ifCond .ne 7, 3) := by decide +kernel
theorem dX12_layWays_21 : decode cX12_layWays 21 = .ok (.iconst 1, 1) := by decide +kernel
theorem dX12_layWays_22 : decode cX12_layWays 22 = .ok (.goto 4, 3) := by decide +kernel
theorem dX12_layWays_25 : decode cX12_layWays 25 = .ok (.iconst 0, 1) := by decide +kernel
theorem dX12_layWays_26 : decode cX12_layWays 26 = .ok (.iastore, 1) := by decide +kernel
theorem dX12_layWays_27 : decode cX12_layWays 27 = .ok (.iload_n 3, 1) := by decide +kernel
theorem dX12_layWays_28 : decode cX12_layWays 28 = .ok (.iconst 1, 1) := by decide +kernel
theorem dX12_layWays_29 : decode cX12_layWays 29 = .ok (.isub, 1) := by decide +kernel
theorem dX12_layWays_30 : decode cX12_layWays 30 = .ok (.istore 4, 2) := by decide +kernel
theorem dX12_layWays_32 : decode cX12_layWays 32 = .ok (.iload 4, 2) := by decide +kernel
theorem dX12_layWays_34 : decode cX12_layWays 34 = .ok (.ifCond .lt 92, 3) := by decide +kernel
theorem dX12_layWays_37 : decode cX12_layWays 37 = .ok (.lconst 0, 1) := by decide +kernel
theorem dX12_layWays_38 : decode cX12_layWays 38 = .ok (.lstore 5, 2) := by decide +kernel
theorem dX12_layWays_40 : decode cX12_layWays 40 = .ok (.iconst 1, 1) := by decide +kernel
theorem dX12_layWays_41 : decode cX12_layWays 41 = .ok (.istore 7, 2) := by decide +kernel
theorem dX12_layWays_43 : decode cX12_layWays 43 = .ok (.iload 7, 2) := by decide +kernel
theorem dX12_layWays_45 : decode cX12_layWays 45 = .ok (.iload_n 2, 1) := by decide +kernel
theorem dX12_layWays_46 : decode cX12_layWays 46 = .ok (.if_icmp .gt 59, 3) := by decide +kernel
theorem dX12_layWays_49 : decode cX12_layWays 49 = .ok (.lload 5, 2) := by decide +kernel
theorem dX12_layWays_51 : decode cX12_layWays 51 = .ok (.aload_n 0, 1) := by decide +kernel
theorem dX12_layWays_52 : decode cX12_layWays 52 = .ok (.aload_n 0, 1) := by decide +kernel
theorem dX12_layWays_53 : decode cX12_layWays 53 = .ok (.getfield 16, 3) := by decide +kernel
theorem dX12_layWays_56 : decode cX12_layWays 56 = .ok (.iconst 3, 1) := by decide +kernel
theorem dX12_layWays_57 : decode cX12_layWays 57 = .ok (.iload_n 1, 1) := by decide +kernel
theorem dX12_layWays_58 : decode cX12_layWays 58 = .ok (.imul, 1) := by decide +kernel
theorem dX12_layWays_59 : decode cX12_layWays 59 = .ok (.iload 4, 2) := by decide +kernel
theorem dX12_layWays_61 : decode cX12_layWays 61 = .ok (.iadd, 1) := by decide +kernel
theorem dX12_layWays_62 : decode cX12_layWays 62 = .ok (.iaload, 1) := by decide +kernel
theorem dX12_layWays_63 : decode cX12_layWays 63 = .ok (.iload 7, 2) := by decide +kernel
theorem dX12_layWays_65 : decode cX12_layWays 65 = .ok (.invokevirtual 164, 3) := by decide +kernel
theorem dX12_layWays_68 : decode cX12_layWays 68 = .ok (.i2l, 1) := by decide +kernel
theorem dX12_layWays_69 : decode cX12_layWays 69 = .ok (.aload_n 0, 1) := by decide +kernel
theorem dX12_layWays_70 : decode cX12_layWays 70 = .ok (.getfield 50, 3) := by decide +kernel
theorem dX12_layWays_73 : decode cX12_layWays 73 = .ok (.iload_n 1, 1) := by decide +kernel
theorem dX12_layWays_74 : decode cX12_layWays 74 = .ok (.iload 4, 2) := by decide +kernel
theorem dX12_layWays_76 : decode cX12_layWays 76 = .ok (.iconst 1, 1) := by decide +kernel
theorem dX12_layWays_77 : decode cX12_layWays 77 = .ok (.iadd, 1) := by decide +kernel
theorem dX12_layWays_78 : decode cX12_layWays 78 = .ok (.iload_n 2, 1) := by decide +kernel
theorem dX12_layWays_79 : decode cX12_layWays 79 = .ok (.iload 7, 2) := by decide +kernel
theorem dX12_layWays_81 : decode cX12_layWays 81 = .ok (.isub, 1) := by decide +kernel
theorem dX12_layWays_82 : decode cX12_layWays 82 = .ok (.invokestatic 160, 3) := by decide +kernel
theorem dX12_layWays_85 : decode cX12_layWays 85 = .ok (.iaload, 1) := by decide +kernel
theorem dX12_layWays_86 : decode cX12_layWays 86 = .ok (.i2l, 1) := by decide +kernel
theorem dX12_layWays_87 : decode cX12_layWays 87 = .ok (.lmul, 1) := by decide +kernel
theorem dX12_layWays_88 : decode cX12_layWays 88 = .ok (.ladd, 1) := by decide +kernel
theorem dX12_layWays_89 : decode cX12_layWays 89 = .ok (.lstore 5, 2) := by decide +kernel
theorem dX12_layWays_91 : decode cX12_layWays 91 = .ok (.lload 5, 2) := by decide +kernel
theorem dX12_layWays_93 : decode cX12_layWays 93 = .ok (.invokestatic 147, 3) := by decide +kernel
theorem dX12_layWays_96 : decode cX12_layWays 96 = .ok (.i2l, 1) := by decide +kernel
theorem dX12_layWays_97 : decode cX12_layWays 97 = .ok (.lstore 5, 2) := by decide +kernel
theorem dX12_layWays_99 : decode cX12_layWays 99 = .ok (.iinc 7 1, 3) := by decide +kernel
theorem dX12_layWays_102 : decode cX12_layWays 102 = .ok (.goto (-59), 3) := by decide +kernel
theorem dX12_layWays_105 : decode cX12_layWays 105 = .ok (.aload_n 0, 1) := by decide +kernel
theorem dX12_layWays_106 : decode cX12_layWays 106 = .ok (.getfield 50, 3) := by decide +kernel
theorem dX12_layWays_109 : decode cX12_layWays 109 = .ok (.iload_n 1, 1) := by decide +kernel
theorem dX12_layWays_110 : decode cX12_layWays 110 = .ok (.iload 4, 2) := by decide +kernel
theorem dX12_layWays_112 : decode cX12_layWays 112 = .ok (.iload_n 2, 1) := by decide +kernel
theorem dX12_layWays_113 : decode cX12_layWays 113 = .ok (.invokestatic 160, 3) := by decide +kernel
theorem dX12_layWays_116 : decode cX12_layWays 116 = .ok (.lload 5, 2) := by decide +kernel
theorem dX12_layWays_118 : decode cX12_layWays 118 = .ok (.l2i, 1) := by decide +kernel
theorem dX12_layWays_119 : decode cX12_layWays 119 = .ok (.iastore, 1) := by decide +kernel
theorem dX12_layWays_120 : decode cX12_layWays 120 = .ok (.iinc 4 (-1), 3) := by decide +kernel
theorem dX12_layWays_123 : decode cX12_layWays 123 = .ok (.goto (-91), 3) := by decide +kernel
theorem dX12_layWays_126 : decode cX12_layWays 126 = .ok (.return_, 1) := by decide +kernel
theorem dX12_layCounts_0 : decode cX12_layCounts 0 = .ok (.iconst 0, 1) := by decide +kernel
theorem dX12_layCounts_1 : decode cX12_layCounts 1 = .ok (.istore_n 1, 1) := by decide +kernel
theorem dX12_layCounts_2 : decode cX12_layCounts 2 = .ok (.iload_n 1, 1) := by decide +kernel
theorem dX12_layCounts_3 : decode cX12_layCounts 3 = .ok (.bipush 52, 2) := by decide +kernel
theorem dX12_layCounts_5 : decode cX12_layCounts 5 = .ok (.if_icmp .ge 16, 3) := by decide +kernel
theorem dX12_layCounts_8 : decode cX12_layCounts 8 = .ok (.aload_n 0, 1) := by decide +kernel
theorem dX12_layCounts_9 : decode cX12_layCounts 9 = .ok (.getfield 47, 3) := by decide +kernel
theorem dX12_layCounts_12 : decode cX12_layCounts 12 = .ok (.iload_n 1, 1) := by decide +kernel
theorem dX12_layCounts_13 : decode cX12_layCounts 13 = .ok (.iconst 0, 1) := by decide +kernel
theorem dX12_layCounts_14 : decode cX12_layCounts 14 = .ok (.iastore, 1) := by decide +kernel
theorem dX12_layCounts_15 : decode cX12_layCounts 15 = .ok (.iinc 1 1, 3) := by decide +kernel
theorem dX12_layCounts_18 : decode cX12_layCounts 18 = .ok (.goto (-16), 3) := by decide +kernel
theorem dX12_layCounts_21 : decode cX12_layCounts 21 = .ok (.iconst 1, 1) := by decide +kernel
theorem dX12_layCounts_22 : decode cX12_layCounts 22 = .ok (.istore_n 1, 1) := by decide +kernel
theorem dX12_layCounts_23 : decode cX12_layCounts 23 = .ok (.iload_n 1, 1) := by decide +kernel
theorem dX12_layCounts_24 : decode cX12_layCounts 24 = .ok (.bipush 12, 2) := by decide +kernel
theorem dX12_layCounts_26 : decode cX12_layCounts 26 = .ok (.if_icmp .gt 92, 3) := by decide +kernel
theorem dX12_layCounts_29 : decode cX12_layCounts 29 = .ok (.iconst 0, 1) := by decide +kernel
theorem dX12_layCounts_30 : decode cX12_layCounts 30 = .ok (.istore_n 2, 1) := by decide +kernel
theorem dX12_layCounts_31 : decode cX12_layCounts 31 = .ok (.iload_n 2, 1) := by decide +kernel
theorem dX12_layCounts_32 : decode cX12_layCounts 32 = .ok (.aload_n 0, 1) := by decide +kernel
theorem dX12_layCounts_33 : decode cX12_layCounts 33 = .ok (.getfield 121, 3) := by decide +kernel
theorem dX12_layCounts_36 : decode cX12_layCounts 36 = .ok (.if_icmp .ge 17, 3) := by decide +kernel
theorem dX12_layCounts_39 : decode cX12_layCounts 39 = .ok (.aload_n 0, 1) := by decide +kernel
theorem dX12_layCounts_40 : decode cX12_layCounts 40 = .ok (.iload_n 2, 1) := by decide +kernel
theorem dX12_layCounts_41 : decode cX12_layCounts 41 = .ok (.iload_n 1, 1) := by decide +kernel
theorem dX12_layCounts_42 : decode cX12_layCounts 42 = .ok (.iconst 1, 1) := by decide +kernel
theorem dX12_layCounts_43 : decode cX12_layCounts 43 = .ok (.isub, 1) := by decide +kernel
theorem dX12_layCounts_44 : decode cX12_layCounts 44 = .ok (.invokevirtual 168, 3) := by decide +kernel
theorem dX12_layCounts_47 : decode cX12_layCounts 47 = .ok (.iinc 2 1, 3) := by decide +kernel
theorem dX12_layCounts_50 : decode cX12_layCounts 50 = .ok (.goto (-19), 3) := by decide +kernel
theorem dX12_layCounts_53 : decode cX12_layCounts 53 = .ok (.iconst 0, 1) := by decide +kernel
theorem dX12_layCounts_54 : decode cX12_layCounts 54 = .ok (.istore_n 2, 1) := by decide +kernel
theorem dX12_layCounts_55 : decode cX12_layCounts 55 = .ok (.iload_n 2, 1) := by decide +kernel
theorem dX12_layCounts_56 : decode cX12_layCounts 56 = .ok (.aload_n 0, 1) := by decide +kernel
theorem dX12_layCounts_57 : decode cX12_layCounts 57 = .ok (.getfield 121, 3) := by decide +kernel
theorem dX12_layCounts_60 : decode cX12_layCounts 60 = .ok (.if_icmp .ge 52, 3) := by decide +kernel
theorem dX12_layCounts_63 : decode cX12_layCounts 63 = .ok (.bipush 13, 2) := by decide +kernel
theorem dX12_layCounts_65 : decode cX12_layCounts 65 = .ok (.aload_n 0, 1) := by decide +kernel
theorem dX12_layCounts_66 : decode cX12_layCounts 66 = .ok (.getfield 7, 3) := by decide +kernel
theorem dX12_layCounts_69 : decode cX12_layCounts 69 = .ok (.iload_n 2, 1) := by decide +kernel
theorem dX12_layCounts_70 : decode cX12_layCounts 70 = .ok (.iaload, 1) := by decide +kernel
theorem dX12_layCounts_71 : decode cX12_layCounts 71 = .ok (.imul, 1) := by decide +kernel
theorem dX12_layCounts_72 : decode cX12_layCounts 72 = .ok (.iload_n 1, 1) := by decide +kernel
theorem dX12_layCounts_73 : decode cX12_layCounts 73 = .ok (.iadd, 1) := by decide +kernel
theorem dX12_layCounts_74 : decode cX12_layCounts 74 = .ok (.istore_n 3, 1) := by decide +kernel
theorem dX12_layCounts_75 : decode cX12_layCounts 75 = .ok (.aload_n 0, 1) := by decide +kernel
theorem dX12_layCounts_76 : decode cX12_layCounts 76 = .ok (.getfield 47, 3) := by decide +kernel
theorem dX12_layCounts_79 : decode cX12_layCounts 79 = .ok (.iload_n 3, 1) := by decide +kernel
theorem dX12_layCounts_80 : decode cX12_layCounts 80 = .ok (.aload_n 0, 1) := by decide +kernel
theorem dX12_layCounts_81 : decode cX12_layCounts 81 = .ok (.getfield 47, 3) := by decide +kernel
theorem dX12_layCounts_84 : decode cX12_layCounts 84 = .ok (.iload_n 3, 1) := by decide +kernel
theorem dX12_layCounts_85 : decode cX12_layCounts 85 = .ok (.iaload, 1) := by decide +kernel
theorem dX12_layCounts_86 : decode cX12_layCounts 86 = .ok (.i2l, 1) := by decide +kernel
theorem dX12_layCounts_87 : decode cX12_layCounts 87 = .ok (.aload_n 0, 1) := by decide +kernel
theorem dX12_layCounts_88 : decode cX12_layCounts 88 = .ok (.getfield 50, 3) := by decide +kernel
theorem dX12_layCounts_91 : decode cX12_layCounts 91 = .ok (.iload_n 2, 1) := by decide +kernel
theorem dX12_layCounts_92 : decode cX12_layCounts 92 = .ok (.iconst 0, 1) := by decide +kernel
theorem dX12_layCounts_93 : decode cX12_layCounts 93 = .ok (.iload_n 1, 1) := by decide +kernel
theorem dX12_layCounts_94 : decode cX12_layCounts 94 = .ok (.iconst 1, 1) := by decide +kernel
theorem dX12_layCounts_95 : decode cX12_layCounts 95 = .ok (.isub, 1) := by decide +kernel
theorem dX12_layCounts_96 : decode cX12_layCounts 96 = .ok (.invokestatic 160, 3) := by decide +kernel
theorem dX12_layCounts_99 : decode cX12_layCounts 99 = .ok (.iaload, 1) := by decide +kernel
theorem dX12_layCounts_100 : decode cX12_layCounts 100 = .ok (.i2l, 1) := by decide +kernel
theorem dX12_layCounts_101 : decode cX12_layCounts 101 = .ok (.ladd, 1) := by decide +kernel
theorem dX12_layCounts_102 : decode cX12_layCounts 102 = .ok (.invokestatic 147, 3) := by decide +kernel
theorem dX12_layCounts_105 : decode cX12_layCounts 105 = .ok (.iastore, 1) := by decide +kernel
theorem dX12_layCounts_106 : decode cX12_layCounts 106 = .ok (.iinc 2 1, 3) := by decide +kernel
theorem dX12_layCounts_109 : decode cX12_layCounts 109 = .ok (.goto (-54), 3) := by decide +kernel
theorem dX12_layCounts_112 : decode cX12_layCounts 112 = .ok (.iinc 1 1, 3) := by decide +kernel
theorem dX12_layCounts_115 : decode cX12_layCounts 115 = .ok (.goto (-92), 3) := by decide +kernel
theorem dX12_layCounts_118 : decode cX12_layCounts 118 = .ok (.return_, 1) := by decide +kernel
theorem dX12_count_0 : decode cX12_count 0 = .ok (.aload_n 0, 1) := by decide +kernel
theorem dX12_count_1 : decode cX12_count 1 = .ok (.iload_n 1, 1) := by decide +kernel
theorem dX12_count_2 : decode cX12_count 2 = .ok (.invokevirtual 130, 3) := by decide +kernel
theorem dX12_count_5 : decode cX12_count 5 = .ok (.ifCond .ne 5, 3) := by decide +kernel
theorem dX12_count_8 : decode cX12_count 8 = .ok (.iconst (-1), 1) := by decide +kernel
theorem dX12_count_9 : decode cX12_count 9 = .ok (.ireturn, 1) := by decide +kernel
theorem dX12_count_10 : decode cX12_count 10 = .ok (.iload_n 2, 1) := by decide +kernel
theorem dX12_count_11 : decode cX12_count 11 = .ok (.iconst 1, 1) := by decide +kernel
theorem dX12_count_12 : decode cX12_count 12 = .ok (.bipush 12, 2) := by decide +kernel
theorem dX12_count_14 : decode cX12_count 14 = .ok (.invokestatic 117, 3) := by decide +kernel
theorem dX12_count_17 : decode cX12_count 17 = .ok (.ifCond .ne 6, 3) := by decide +kernel
theorem dX12_count_20 : decode cX12_count 20 = .ok (.bipush (-4), 2) := by decide +kernel
theorem dX12_count_22 : decode cX12_count 22 = .ok (.ireturn, 1) := by decide +kernel
theorem dX12_count_23 : decode cX12_count 23 = .ok (.aload_n 0, 1) := by decide +kernel
theorem dX12_count_24 : decode cX12_count 24 = .ok (.invokevirtual 172, 3) := by decide +kernel
theorem dX12_count_27 : decode cX12_count 27 = .ok (.aload_n 0, 1) := by decide +kernel
theorem dX12_count_28 : decode cX12_count 28 = .ok (.iload_n 1, 1) := by decide +kernel
theorem dX12_count_29 : decode cX12_count 29 = .ok (.iload_n 2, 1) := by decide +kernel
theorem dX12_count_30 : decode cX12_count 30 = .ok (.invokevirtual 164, 3) := by decide +kernel
theorem dX12_count_33 : decode cX12_count 33 = .ok (.ireturn, 1) := by decide +kernel
theorem dX12_share_0 : decode cX12_share 0 = .ok (.iload_n 2, 1) := by decide +kernel
theorem dX12_share_1 : decode cX12_share 1 = .ok (.iconst 1, 1) := by decide +kernel
theorem dX12_share_2 : decode cX12_share 2 = .ok (.isub, 1) := by decide +kernel
theorem dX12_share_3 : decode cX12_share 3 = .ok (.istore 4, 2) := by decide +kernel
theorem dX12_share_5 : decode cX12_share 5 = .ok (.iload_n 3, 1) := by decide +kernel
theorem dX12_share_6 : decode cX12_share 6 = .ok (.istore 5, 2) := by decide +kernel
theorem dX12_share_8 : decode cX12_share 8 = .ok (.iconst 0, 1) := by decide +kernel
theorem dX12_share_9 : decode cX12_share 9 = .ok (.istore 6, 2) := by decide +kernel
theorem dX12_share_11 : decode cX12_share 11 = .ok (.iload 6, 2) := by decide +kernel
theorem dX12_share_13 : decode cX12_share 13 = .ok (.aload_n 0, 1) := by decide +kernel
theorem dX12_share_14 : decode cX12_share 14 = .ok (.getfield 13, 3) := by decide +kernel
theorem dX12_share_17 : decode cX12_share 17 = .ok (.iload_n 1, 1) := by decide +kernel
theorem dX12_share_18 : decode cX12_share 18 = .ok (.iaload, 1) := by decide +kernel
theorem dX12_share_19 : decode cX12_share 19 = .ok (.if_icmp .ge 136, 3) := by decide +kernel
theorem dX12_share_22 : decode cX12_share 22 = .ok (.aload_n 0, 1) := by decide +kernel
theorem dX12_share_23 : decode cX12_share 23 = .ok (.getfield 16, 3) := by decide +kernel
theorem dX12_share_26 : decode cX12_share 26 = .ok (.iconst 3, 1) := by decide +kernel
theorem dX12_share_27 : decode cX12_share 27 = .ok (.iload_n 1, 1) := by decide +kernel
theorem dX12_share_28 : decode cX12_share 28 = .ok (.imul, 1) := by decide +kernel
theorem dX12_share_29 : decode cX12_share 29 = .ok (.iload 6, 2) := by decide +kernel
theorem dX12_share_31 : decode cX12_share 31 = .ok (.iadd, 1) := by decide +kernel
theorem dX12_share_32 : decode cX12_share 32 = .ok (.iaload, 1) := by decide +kernel
theorem dX12_share_33 : decode cX12_share 33 = .ok (.istore 7, 2) := by decide +kernel
theorem dX12_share_35 : decode cX12_share 35 = .ok (.iconst 1, 1) := by decide +kernel
theorem dX12_share_36 : decode cX12_share 36 = .ok (.istore 8, 2) := by decide +kernel
theorem dX12_share_38 : decode cX12_share 38 = .ok (.aload_n 0, 1) := by decide +kernel
theorem dX12_share_39 : decode cX12_share 39 = .ok (.iload_n 1, 1) := by decide +kernel
theorem dX12_share_40 : decode cX12_share 40 = .ok (.iload 6, 2) := by decide +kernel
theorem dX12_share_42 : decode cX12_share 42 = .ok (.iload 7, 2) := by decide +kernel
theorem dX12_share_44 : decode cX12_share 44 = .ok (.iload 8, 2) := by decide +kernel
theorem dX12_share_46 : decode cX12_share 46 = .ok (.iload 4, 2) := by decide +kernel
theorem dX12_share_48 : decode cX12_share 48 = .ok (.invokevirtual 175, 3) := by decide +kernel
theorem dX12_share_51 : decode cX12_share 51 = .ok (.istore 9, 2) := by decide +kernel
theorem dX12_share_53 : decode cX12_share 53 = .ok (.iload 5, 2) := by decide +kernel
theorem dX12_share_55 : decode cX12_share 55 = .ok (.iload 9, 2) := by decide +kernel
theorem dX12_share_57 : decode cX12_share 57 = .ok (.if_icmp .lt 31, 3) := by decide +kernel
theorem dX12_share_60 : decode cX12_share 60 = .ok (.iload 5, 2) := by decide +kernel
theorem dX12_share_62 : decode cX12_share 62 = .ok (.iload 9, 2) := by decide +kernel
theorem dX12_share_64 : decode cX12_share 64 = .ok (.isub, 1) := by decide +kernel
theorem dX12_share_65 : decode cX12_share 65 = .ok (.istore 5, 2) := by decide +kernel
theorem dX12_share_67 : decode cX12_share 67 = .ok (.iinc 8 1, 3) := by decide +kernel
theorem dX12_share_70 : decode cX12_share 70 = .ok (.aload_n 0, 1) := by decide +kernel
theorem dX12_share_71 : decode cX12_share 71 = .ok (.iload_n 1, 1) := by decide +kernel
theorem dX12_share_72 : decode cX12_share 72 = .ok (.iload 6, 2) := by decide +kernel
theorem dX12_share_74 : decode cX12_share 74 = .ok (.iload 7, 2) := by decide +kernel
theorem dX12_share_76 : decode cX12_share 76 = .ok (.iload 8, 2) := by decide +kernel
theorem dX12_share_78 : decode cX12_share 78 = .ok (.iload 4, 2) := by decide +kernel
theorem dX12_share_80 : decode cX12_share 80 = .ok (.invokevirtual 175, 3) := by decide +kernel
theorem dX12_share_83 : decode cX12_share 83 = .ok (.istore 9, 2) := by decide +kernel
theorem dX12_share_85 : decode cX12_share 85 = .ok (.goto (-32), 3) := by decide +kernel
theorem dX12_share_88 : decode cX12_share 88 = .ok (.aload_n 0, 1) := by decide +kernel
theorem dX12_share_89 : decode cX12_share 89 = .ok (.getfield 50, 3) := by decide +kernel
theorem dX12_share_92 : decode cX12_share 92 = .ok (.iload_n 1, 1) := by decide +kernel
theorem dX12_share_93 : decode cX12_share 93 = .ok (.iload 6, 2) := by decide +kernel
theorem dX12_share_95 : decode cX12_share 95 = .ok (.iconst 1, 1) := by decide +kernel
theorem dX12_share_96 : decode cX12_share 96 = .ok (.iadd, 1) := by decide +kernel
theorem dX12_share_97 : decode cX12_share 97 = .ok (.iload 4, 2) := by decide +kernel
theorem dX12_share_99 : decode cX12_share 99 = .ok (.iload 8, 2) := by decide +kernel
theorem dX12_share_101 : decode cX12_share 101 = .ok (.isub, 1) := by decide +kernel
theorem dX12_share_102 : decode cX12_share 102 = .ok (.invokestatic 160, 3) := by decide +kernel
theorem dX12_share_105 : decode cX12_share 105 = .ok (.iaload, 1) := by decide +kernel
theorem dX12_share_106 : decode cX12_share 106 = .ok (.istore 10, 2) := by decide +kernel
theorem dX12_share_108 : decode cX12_share 108 = .ok (.aload_n 0, 1) := by decide +kernel
theorem dX12_share_109 : decode cX12_share 109 = .ok (.getfield 68, 3) := by decide +kernel
theorem dX12_share_112 : decode cX12_share 112 = .ok (.iload 6, 2) := by decide +kernel
theorem dX12_share_114 : decode cX12_share 114 = .ok (.iload 8, 2) := by decide +kernel
theorem dX12_share_116 : decode cX12_share 116 = .ok (.iastore, 1) := by decide +kernel
theorem dX12_share_117 : decode cX12_share 117 = .ok (.aload_n 0, 1) := by decide +kernel
theorem dX12_share_118 : decode cX12_share 118 = .ok (.getfield 71, 3) := by decide +kernel
theorem dX12_share_121 : decode cX12_share 121 = .ok (.iload 6, 2) := by decide +kernel
theorem dX12_share_123 : decode cX12_share 123 = .ok (.iload 5, 2) := by decide +kernel
theorem dX12_share_125 : decode cX12_share 125 = .ok (.iload 10, 2) := by decide +kernel
theorem dX12_share_127 : decode cX12_share 127 = .ok (.idiv, 1) := by decide +kernel
theorem dX12_share_128 : decode cX12_share 128 = .ok (.iastore, 1) := by decide +kernel
theorem dX12_share_129 : decode cX12_share 129 = .ok (.iload 5, 2) := by decide +kernel
theorem dX12_share_131 : decode cX12_share 131 = .ok (.iload 5, 2) := by decide +kernel
theorem dX12_share_133 : decode cX12_share 133 = .ok (.iload 10, 2) := by decide +kernel
theorem dX12_share_135 : decode cX12_share 135 = .ok (.idiv, 1) := by decide +kernel
theorem dX12_share_136 : decode cX12_share 136 = .ok (.iload 10, 2) := by decide +kernel
theorem dX12_share_138 : decode cX12_share 138 = .ok (.imul, 1) := by decide +kernel
theorem dX12_share_139 : decode cX12_share 139 = .ok (.isub, 1) := by decide +kernel
theorem dX12_share_140 : decode cX12_share 140 = .ok (.istore 5, 2) := by decide +kernel
theorem dX12_share_142 : decode cX12_share 142 = .ok (.iload 4, 2) := by decide +kernel
theorem dX12_share_144 : decode cX12_share 144 = .ok (.iload 8, 2) := by decide +kernel
theorem dX12_share_146 : decode cX12_share 146 = .ok (.isub, 1) := by decide +kernel
theorem dX12_share_147 : decode cX12_share 147 = .ok (.istore 4, 2) := by decide +kernel
theorem dX12_share_149 : decode cX12_share 149 = .ok (.iinc 6 1, 3) := by decide +kernel
theorem dX12_share_152 : decode cX12_share 152 = .ok (.goto (-141), 3) := by decide +kernel
theorem dX12_share_155 : decode cX12_share 155 = .ok (.return_, 1) := by decide +kernel
theorem dX12_blockOf_0 : decode cX12_blockOf 0 = .ok (.aload_n 0, 1) := by decide +kernel
theorem dX12_blockOf_1 : decode cX12_blockOf 1 = .ok (.iload_n 3, 1) := by decide +kernel
theorem dX12_blockOf_2 : decode cX12_blockOf 2 = .ok (.iload 4, 2) := by decide +kernel
theorem dX12_blockOf_4 : decode cX12_blockOf 4 = .ok (.invokevirtual 164, 3) := by decide +kernel
theorem dX12_blockOf_7 : decode cX12_blockOf 7 = .ok (.i2l, 1) := by decide +kernel
theorem dX12_blockOf_8 : decode cX12_blockOf 8 = .ok (.aload_n 0, 1) := by decide +kernel
theorem dX12_blockOf_9 : decode cX12_blockOf 9 = .ok (.getfield 50, 3) := by decide +kernel
theorem dX12_blockOf_12 : decode cX12_blockOf 12 = .ok (.iload_n 1, 1) := by decide +kernel
theorem dX12_blockOf_13 : decode cX12_blockOf 13 = .ok (.iload_n 2, 1) := by decide +kernel
theorem dX12_blockOf_14 : decode cX12_blockOf 14 = .ok (.iconst 1, 1) := by decide +kernel
theorem dX12_blockOf_15 : decode cX12_blockOf 15 = .ok (.iadd, 1) := by decide +kernel
theorem dX12_blockOf_16 : decode cX12_blockOf 16 = .ok (.iload 5, 2) := by decide +kernel
theorem dX12_blockOf_18 : decode cX12_blockOf 18 = .ok (.iload 4, 2) := by decide +kernel
theorem dX12_blockOf_20 : decode cX12_blockOf 20 = .ok (.isub, 1) := by decide +kernel
theorem dX12_blockOf_21 : decode cX12_blockOf 21 = .ok (.invokestatic 160, 3) := by decide +kernel
theorem dX12_blockOf_24 : decode cX12_blockOf 24 = .ok (.iaload, 1) := by decide +kernel
theorem dX12_blockOf_25 : decode cX12_blockOf 25 = .ok (.i2l, 1) := by decide +kernel
theorem dX12_blockOf_26 : decode cX12_blockOf 26 = .ok (.lmul, 1) := by decide +kernel
theorem dX12_blockOf_27 : decode cX12_blockOf 27 = .ok (.invokestatic 147, 3) := by decide +kernel
theorem dX12_blockOf_30 : decode cX12_blockOf 30 = .ok (.ireturn, 1) := by decide +kernel
theorem dX12_layValue_0 : decode cX12_layValue 0 = .ok (.aload_n 0, 1) := by decide +kernel
theorem dX12_layValue_1 : decode cX12_layValue 1 = .ok (.iconst 0, 1) := by decide +kernel
theorem dX12_layValue_2 : decode cX12_layValue 2 = .ok (.putfield 179, 3) := by decide +kernel
theorem dX12_layValue_5 : decode cX12_layValue 5 = .ok (.aload_n 0, 1) := by decide +kernel
theorem dX12_layValue_6 : decode cX12_layValue 6 = .ok (.getfield 59, 3) := by decide +kernel
theorem dX12_layValue_9 : decode cX12_layValue 9 = .ok (.iconst 0, 1) := by decide +kernel
theorem dX12_layValue_10 : decode cX12_layValue 10 = .ok (.iload_n 1, 1) := by decide +kernel
theorem dX12_layValue_11 : decode cX12_layValue 11 = .ok (.iastore, 1) := by decide +kernel
theorem dX12_layValue_12 : decode cX12_layValue 12 = .ok (.aload_n 0, 1) := by decide +kernel
theorem dX12_layValue_13 : decode cX12_layValue 13 = .ok (.getfield 62, 3) := by decide +kernel
theorem dX12_layValue_16 : decode cX12_layValue 16 = .ok (.iconst 0, 1) := by decide +kernel
theorem dX12_layValue_17 : decode cX12_layValue 17 = .ok (.iload_n 2, 1) := by decide +kernel
theorem dX12_layValue_18 : decode cX12_layValue 18 = .ok (.iastore, 1) := by decide +kernel
theorem dX12_layValue_19 : decode cX12_layValue 19 = .ok (.aload_n 0, 1) := by decide +kernel
theorem dX12_layValue_20 : decode cX12_layValue 20 = .ok (.getfield 65, 3) := by decide +kernel
theorem dX12_layValue_23 : decode cX12_layValue 23 = .ok (.iconst 0, 1) := by decide +kernel
theorem dX12_layValue_24 : decode cX12_layValue 24 = .ok (.iload_n 3, 1) := by decide +kernel
theorem dX12_layValue_25 : decode cX12_layValue 25 = .ok (.iastore, 1) := by decide +kernel
theorem dX12_layValue_26 : decode cX12_layValue 26 = .ok (.iconst 1, 1) := by decide +kernel
theorem dX12_layValue_27 : decode cX12_layValue 27 = .ok (.istore 4, 2) := by decide +kernel
theorem dX12_layValue_29 : decode cX12_layValue 29 = .ok (.iload 4, 2) := by decide +kernel
theorem dX12_layValue_31 : decode cX12_layValue 31 = .ok (.ifCond .le 216, 3) := by decide +kernel
theorem dX12_layValue_34 : decode cX12_layValue 34 = .ok (.iinc 4 (-1), 3) := by decide +kernel
theorem dX12_layValue_37 : decode cX12_layValue 37 = .ok (.aload_n 0, 1) := by decide +kernel
theorem dX12_layValue_38 : decode cX12_layValue 38 = .ok (.getfield 59, 3) := by decide +kernel
theorem dX12_layValue_41 : decode cX12_layValue 41 = .ok (.iload 4, 2) := by decide +kernel
theorem dX12_layValue_43 : decode cX12_layValue 43 = .ok (.iaload, 1) := by decide +kernel
theorem dX12_layValue_44 : decode cX12_layValue 44 = .ok (.istore 5, 2) := by decide +kernel
theorem dX12_layValue_46 : decode cX12_layValue 46 = .ok (.aload_n 0, 1) := by decide +kernel
theorem dX12_layValue_47 : decode cX12_layValue 47 = .ok (.getfield 62, 3) := by decide +kernel
theorem dX12_layValue_50 : decode cX12_layValue 50 = .ok (.iload 4, 2) := by decide +kernel
theorem dX12_layValue_52 : decode cX12_layValue 52 = .ok (.iaload, 1) := by decide +kernel
theorem dX12_layValue_53 : decode cX12_layValue 53 = .ok (.istore 6, 2) := by decide +kernel
theorem dX12_layValue_55 : decode cX12_layValue 55 = .ok (.aload_n 0, 1) := by decide +kernel
theorem dX12_layValue_56 : decode cX12_layValue 56 = .ok (.getfield 65, 3) := by decide +kernel
theorem dX12_layValue_59 : decode cX12_layValue 59 = .ok (.iload 4, 2) := by decide +kernel
theorem dX12_layValue_61 : decode cX12_layValue 61 = .ok (.iaload, 1) := by decide +kernel
theorem dX12_layValue_62 : decode cX12_layValue 62 = .ok (.istore 7, 2) := by decide +kernel
theorem dX12_layValue_64 : decode cX12_layValue 64 = .ok (.iconst 0, 1) := by decide +kernel
theorem dX12_layValue_65 : decode cX12_layValue 65 = .ok (.istore 8, 2) := by decide +kernel
theorem dX12_layValue_67 : decode cX12_layValue 67 = .ok (.aload_n 0, 1) := by decide +kernel
theorem dX12_layValue_68 : decode cX12_layValue 68 = .ok (.getfield 7, 3) := by decide +kernel
theorem dX12_layValue_71 : decode cX12_layValue 71 = .ok (.iload 8, 2) := by decide +kernel
theorem dX12_layValue_73 : decode cX12_layValue 73 = .ok (.iaload, 1) := by decide +kernel
theorem dX12_layValue_74 : decode cX12_layValue 74 = .ok (.iload 5, 2) := by decide +kernel
theorem dX12_layValue_76 : decode cX12_layValue 76 = .ok (.if_icmp .ne 23, 3) := by decide +kernel
theorem dX12_layValue_79 : decode cX12_layValue 79 = .ok (.iload 7, 2) := by decide +kernel
theorem dX12_layValue_81 : decode cX12_layValue 81 = .ok (.aload_n 0, 1) := by decide +kernel
theorem dX12_layValue_82 : decode cX12_layValue 82 = .ok (.getfield 50, 3) := by decide +kernel
theorem dX12_layValue_85 : decode cX12_layValue 85 = .ok (.iload 8, 2) := by decide +kernel
theorem dX12_layValue_87 : decode cX12_layValue 87 = .ok (.iconst 0, 1) := by decide +kernel
theorem dX12_layValue_88 : decode cX12_layValue 88 = .ok (.iload 6, 2) := by decide +kernel
theorem dX12_layValue_90 : decode cX12_layValue 90 = .ok (.iconst 1, 1) := by decide +kernel
theorem dX12_layValue_91 : decode cX12_layValue 91 = .ok (.isub, 1) := by decide +kernel
theorem dX12_layValue_92 : decode cX12_layValue 92 = .ok (.invokestatic 160, 3) := by decide +kernel
theorem dX12_layValue_95 : decode cX12_layValue 95 = .ok (.iaload, 1) := by decide +kernel
theorem dX12_layValue_96 : decode cX12_layValue 96 = .ok (.if_icmp .lt 45, 3) := by decide +kernel
theorem dX12_layValue_99 : decode cX12_layValue 99 = .ok (.iload 7, 2) := by decide +kernel
theorem dX12_layValue_101 : decode cX12_layValue 101 = .ok (.aload_n 0, 1) := by decide +kernel
theorem dX12_layValue_102 : decode cX12_layValue 102 = .ok (.getfield 7, 3) := by decide +kernel
theorem dX12_layValue_105 : decode cX12_layValue 105 = .ok (.iload 8, 2) := by decide +kernel
theorem dX12_layValue_107 : decode cX12_layValue 107 = .ok (.iaload, 1) := by decide +kernel
theorem dX12_layValue_108 : decode cX12_layValue 108 = .ok (.iload 5, 2) := by decide +kernel
theorem dX12_layValue_110 : decode cX12_layValue 110 = .ok (.if_icmp .ne 21, 3) := by decide +kernel
theorem dX12_layValue_113 : decode cX12_layValue 113 = .ok (.aload_n 0, 1) := by decide +kernel
theorem dX12_layValue_114 : decode cX12_layValue 114 = .ok (.getfield 50, 3) := by decide +kernel
theorem dX12_layValue_117 : decode cX12_layValue 117 = .ok (.iload 8, 2) := by decide +kernel
theorem dX12_layValue_119 : decode cX12_layValue 119 = .ok (.iconst 0, 1) := by decide +kernel
theorem dX12_layValue_120 : decode cX12_layValue 120 = .ok (.iload 6, 2) := by decide +kernel
theorem dX12_layValue_122 : decode cX12_layValue 122 = .ok (.iconst 1, 1) := by decide +kernel
theorem dX12_layValue_123 : decode cX12_layValue 123 = .ok (.isub, 1) := by decide +kernel
theorem dX12_layValue_124 : decode cX12_layValue 124 = .ok (.invokestatic 160, 3) := by decide +kernel
theorem dX12_layValue_127 : decode cX12_layValue 127 = .ok (.iaload, 1) := by decide +kernel
theorem dX12_layValue_128 : decode cX12_layValue 128 = .ok (.goto 4, 3) := by decide +kernel
theorem dX12_layValue_131 : decode cX12_layValue 131 = .ok (.iconst 0, 1) := by decide +kernel
theorem dX12_layValue_132 : decode cX12_layValue 132 = .ok (.isub, 1) := by decide +kernel
theorem dX12_layValue_133 : decode cX12_layValue 133 = .ok (.istore 7, 2) := by decide +kernel
theorem dX12_layValue_135 : decode cX12_layValue 135 = .ok (.iinc 8 1, 3) := by decide +kernel
theorem dX12_layValue_138 : decode cX12_layValue 138 = .ok (.goto (-71), 3) := by decide +kernel
theorem dX12_layValue_141 : decode cX12_layValue 141 = .ok (.aload_n 0, 1) := by decide +kernel
theorem dX12_layValue_142 : decode cX12_layValue 142 = .ok (.getfield 53, 3) := by decide +kernel
theorem dX12_layValue_145 : decode cX12_layValue 145 = .ok (.aload_n 0, 1) := by decide +kernel
theorem dX12_layValue_146 : decode cX12_layValue 146 = .ok (.getfield 179, 3) := by decide +kernel
theorem dX12_layValue_149 : decode cX12_layValue 149 = .ok (.iload 8, 2) := by decide +kernel
theorem dX12_layValue_151 : decode cX12_layValue 151 = .ok (.iastore, 1) := by decide +kernel
theorem dX12_layValue_152 : decode cX12_layValue 152 = .ok (.aload_n 0, 1) := by decide +kernel
theorem dX12_layValue_153 : decode cX12_layValue 153 = .ok (.dup, 1) := by decide +kernel
theorem dX12_layValue_154 : decode cX12_layValue 154 = .ok (.getfield 179, 3) := by decide +kernel
theorem dX12_layValue_157 : decode cX12_layValue 157 = .ok (.iconst 1, 1) := by decide +kernel
theorem dX12_layValue_158 : decode cX12_layValue 158 = .ok (.iadd, 1) := by decide +kernel
theorem dX12_layValue_159 : decode cX12_layValue 159 = .ok (.putfield 179, 3) := by decide +kernel
theorem dX12_layValue_162 : decode cX12_layValue 162 = .ok (.aload_n 0, 1) := by decide +kernel
theorem dX12_layValue_163 : decode cX12_layValue 163 = .ok (.iload 8, 2) := by decide +kernel
theorem dX12_layValue_165 : decode cX12_layValue 165 = .ok (.iload 6, 2) := by decide +kernel
theorem dX12_layValue_167 : decode cX12_layValue 167 = .ok (.iload 7, 2) := by decide +kernel
theorem dX12_layValue_169 : decode cX12_layValue 169 = .ok (.invokevirtual 182, 3) := by decide +kernel
theorem dX12_layValue_172 : decode cX12_layValue 172 = .ok (.aload_n 0, 1) := by decide +kernel
theorem dX12_layValue_173 : decode cX12_layValue 173 = .ok (.getfield 13, 3) := by decide +kernel
theorem dX12_layValue_176 : decode cX12_layValue 176 = .ok (.iload 8, 2) := by decide +kernel
theorem dX12_layValue_178 : decode cX12_layValue 178 = .ok (.iaload, 1) := by decide +kernel
theorem dX12_layValue_179 : decode cX12_layValue 179 = .ok (.iconst 1, 1) := by decide +kernel
theorem dX12_layValue_180 : decode cX12_layValue 180 = .ok (.isub, 1) := by decide +kernel
theorem dX12_layValue_181 : decode cX12_layValue 181 = .ok (.istore 9, 2) := by decide +kernel
theorem dX12_layValue_183 : decode cX12_layValue 183 = .ok (.iload 9, 2) := by decide +kernel
theorem dX12_layValue_185 : decode cX12_layValue 185 = .ok (.ifCond .lt 59, 3) := by decide +kernel
theorem dX12_layValue_188 : decode cX12_layValue 188 = .ok (.aload_n 0, 1) := by decide +kernel
theorem dX12_layValue_189 : decode cX12_layValue 189 = .ok (.getfield 59, 3) := by decide +kernel
theorem dX12_layValue_192 : decode cX12_layValue 192 = .ok (.iload 4, 2) := by decide +kernel
theorem dX12_layValue_194 : decode cX12_layValue 194 = .ok (.aload_n 0, 1) := by decide +kernel
theorem dX12_layValue_195 : decode cX12_layValue 195 = .ok (.getfield 16, 3) := by decide +kernel
theorem dX12_layValue_198 : decode cX12_layValue 198 = .ok (.iconst 3, 1) := by decide +kernel
theorem dX12_layValue_199 : decode cX12_layValue 199 = .ok (.iload 8, 2) := by decide +kernel
theorem dX12_layValue_201 : decode cX12_layValue 201 = .ok (.imul, 1) := by decide +kernel
theorem dX12_layValue_202 : decode cX12_layValue 202 = .ok (.iload 9, 2) := by decide +kernel
theorem dX12_layValue_204 : decode cX12_layValue 204 = .ok (.iadd, 1) := by decide +kernel
theorem dX12_layValue_205 : decode cX12_layValue 205 = .ok (.iaload, 1) := by decide +kernel
theorem dX12_layValue_206 : decode cX12_layValue 206 = .ok (.iastore, 1) := by decide +kernel
theorem dX12_layValue_207 : decode cX12_layValue 207 = .ok (.aload_n 0, 1) := by decide +kernel
theorem dX12_layValue_208 : decode cX12_layValue 208 = .ok (.getfield 62, 3) := by decide +kernel
theorem dX12_layValue_211 : decode cX12_layValue 211 = .ok (.iload 4, 2) := by decide +kernel
theorem dX12_layValue_213 : decode cX12_layValue 213 = .ok (.aload_n 0, 1) := by decide +kernel
theorem dX12_layValue_214 : decode cX12_layValue 214 = .ok (.getfield 68, 3) := by decide +kernel
theorem dX12_layValue_217 : decode cX12_layValue 217 = .ok (.iload 9, 2) := by decide +kernel
theorem dX12_layValue_219 : decode cX12_layValue 219 = .ok (.iaload, 1) := by decide +kernel
theorem dX12_layValue_220 : decode cX12_layValue 220 = .ok (.iastore, 1) := by decide +kernel
theorem dX12_layValue_221 : decode cX12_layValue 221 = .ok (.aload_n 0, 1) := by decide +kernel
theorem dX12_layValue_222 : decode cX12_layValue 222 = .ok (.getfield 65, 3) := by decide +kernel
theorem dX12_layValue_225 : decode cX12_layValue 225 = .ok (.iload 4, 2) := by decide +kernel
theorem dX12_layValue_227 : decode cX12_layValue 227 = .ok (.aload_n 0, 1) := by decide +kernel
theorem dX12_layValue_228 : decode cX12_layValue 228 = .ok (.getfield 71, 3) := by decide +kernel
theorem dX12_layValue_231 : decode cX12_layValue 231 = .ok (.iload 9, 2) := by decide +kernel
theorem dX12_layValue_233 : decode cX12_layValue 233 = .ok (.iaload, 1) := by decide +kernel
theorem dX12_layValue_234 : decode cX12_layValue 234 = .ok (.iastore, 1) := by decide +kernel
theorem dX12_layValue_235 : decode cX12_layValue 235 = .ok (.iinc 4 1, 3) := by decide +kernel
theorem dX12_layValue_238 : decode cX12_layValue 238 = .ok (.iinc 9 (-1), 3) := by decide +kernel
theorem dX12_layValue_241 : decode cX12_layValue 241 = .ok (.goto (-58), 3) := by decide +kernel
theorem dX12_layValue_244 : decode cX12_layValue 244 = .ok (.goto (-215), 3) := by decide +kernel
theorem dX12_layValue_247 : decode cX12_layValue 247 = .ok (.aload_n 0, 1) := by decide +kernel
theorem dX12_layValue_248 : decode cX12_layValue 248 = .ok (.invokevirtual 186, 3) := by decide +kernel
theorem dX12_layValue_251 : decode cX12_layValue 251 = .ok (.return_, 1) := by decide +kernel
theorem dX12_layParts_0 : decode cX12_layParts 0 = .ok (.aload_n 0, 1) := by decide +kernel
theorem dX12_layParts_1 : decode cX12_layParts 1 = .ok (.getfield 179, 3) := by decide +kernel
theorem dX12_layParts_4 : decode cX12_layParts 4 = .ok (.iconst 1, 1) := by decide +kernel
theorem dX12_layParts_5 : decode cX12_layParts 5 = .ok (.isub, 1) := by decide +kernel
theorem dX12_layParts_6 : decode cX12_layParts 6 = .ok (.istore_n 1, 1) := by decide +kernel
theorem dX12_layParts_7 : decode cX12_layParts 7 = .ok (.iload_n 1, 1) := by decide +kernel
theorem dX12_layParts_8 : decode cX12_layParts 8 = .ok (.ifCond .lt 54, 3) := by decide +kernel
theorem dX12_layParts_11 : decode cX12_layParts 11 = .ok (.iload_n 1, 1) := by decide +kernel
theorem dX12_layParts_12 : decode cX12_layParts 12 = .ok (.iconst 1, 1) := by decide +kernel
theorem dX12_layParts_13 : decode cX12_layParts 13 = .ok (.iadd, 1) := by decide +kernel
theorem dX12_layParts_14 : decode cX12_layParts 14 = .ok (.istore_n 2, 1) := by decide +kernel
theorem dX12_layParts_15 : decode cX12_layParts 15 = .ok (.iconst 0, 1) := by decide +kernel
theorem dX12_layParts_16 : decode cX12_layParts 16 = .ok (.istore_n 3, 1) := by decide +kernel
theorem dX12_layParts_17 : decode cX12_layParts 17 = .ok (.iload_n 3, 1) := by decide +kernel
theorem dX12_layParts_18 : decode cX12_layParts 18 = .ok (.aload_n 0, 1) := by decide +kernel
theorem dX12_layParts_19 : decode cX12_layParts 19 = .ok (.getfield 13, 3) := by decide +kernel
theorem dX12_layParts_22 : decode cX12_layParts 22 = .ok (.aload_n 0, 1) := by decide +kernel
theorem dX12_layParts_23 : decode cX12_layParts 23 = .ok (.getfield 53, 3) := by decide +kernel
theorem dX12_layParts_26 : decode cX12_layParts 26 = .ok (.iload_n 1, 1) := by decide +kernel
theorem dX12_layParts_27 : decode cX12_layParts 27 = .ok (.iaload, 1) := by decide +kernel
theorem dX12_layParts_28 : decode cX12_layParts 28 = .ok (.iaload, 1) := by decide +kernel
theorem dX12_layParts_29 : decode cX12_layParts 29 = .ok (.if_icmp .ge 18, 3) := by decide +kernel
theorem dX12_layParts_32 : decode cX12_layParts 32 = .ok (.iload_n 2, 1) := by decide +kernel
theorem dX12_layParts_33 : decode cX12_layParts 33 = .ok (.aload_n 0, 1) := by decide +kernel
theorem dX12_layParts_34 : decode cX12_layParts 34 = .ok (.getfield 56, 3) := by decide +kernel
theorem dX12_layParts_37 : decode cX12_layParts 37 = .ok (.iload_n 2, 1) := by decide +kernel
theorem dX12_layParts_38 : decode cX12_layParts 38 = .ok (.iaload, 1) := by decide +kernel
theorem dX12_layParts_39 : decode cX12_layParts 39 = .ok (.iadd, 1) := by decide +kernel
theorem dX12_layParts_40 : decode cX12_layParts 40 = .ok (.istore_n 2, 1) := by decide +kernel
theorem dX12_layParts_41 : decode cX12_layParts 41 = .ok (.iinc 3 1, 3) := by decide +kernel
theorem dX12_layParts_44 : decode cX12_layParts 44 = .ok (.goto (-27), 3) := by decide +kernel
theorem dX12_layParts_47 : decode cX12_layParts 47 = .ok (.aload_n 0, 1) := by decide +kernel
theorem dX12_layParts_48 : decode cX12_layParts 48 = .ok (.getfield 56, 3) := by decide +kernel
theorem dX12_layParts_51 : decode cX12_layParts 51 = .ok (.iload_n 1, 1) := by decide +kernel
theorem dX12_layParts_52 : decode cX12_layParts 52 = .ok (.iload_n 2, 1) := by decide +kernel
theorem dX12_layParts_53 : decode cX12_layParts 53 = .ok (.iload_n 1, 1) := by decide +kernel
theorem dX12_layParts_54 : decode cX12_layParts 54 = .ok (.isub, 1) := by decide +kernel
theorem dX12_layParts_55 : decode cX12_layParts 55 = .ok (.iastore, 1) := by decide +kernel
theorem dX12_layParts_56 : decode cX12_layParts 56 = .ok (.iinc 1 (-1), 3) := by decide +kernel
theorem dX12_layParts_59 : decode cX12_layParts 59 = .ok (.goto (-52), 3) := by decide +kernel
theorem dX12_layParts_62 : decode cX12_layParts 62 = .ok (.return_, 1) := by decide +kernel
theorem dX12_addNode_0 : decode cX12_addNode 0 = .ok (.aload_n 0, 1) := by decide +kernel
theorem dX12_addNode_1 : decode cX12_addNode 1 = .ok (.getfield 19, 3) := by decide +kernel
theorem dX12_addNode_4 : decode cX12_addNode 4 = .ok (.aload_n 0, 1) := by decide +kernel
theorem dX12_addNode_5 : decode cX12_addNode 5 = .ok (.getfield 124, 3) := by decide +kernel
theorem dX12_addNode_8 : decode cX12_addNode 8 = .ok (.iload_n 1, 1) := by decide +kernel
theorem dX12_addNode_9 : decode cX12_addNode 9 = .ok (.iastore, 1) := by decide +kernel
theorem dX12_addNode_10 : decode cX12_addNode 10 = .ok (.aload_n 0, 1) := by decide +kernel
theorem dX12_addNode_11 : decode cX12_addNode 11 = .ok (.getfield 22, 3) := by decide +kernel
theorem dX12_addNode_14 : decode cX12_addNode 14 = .ok (.aload_n 0, 1) := by decide +kernel
theorem dX12_addNode_15 : decode cX12_addNode 15 = .ok (.getfield 124, 3) := by decide +kernel
theorem dX12_addNode_18 : decode cX12_addNode 18 = .ok (.iload_n 2, 1) := by decide +kernel
theorem dX12_addNode_19 : decode cX12_addNode 19 = .ok (.iastore, 1) := by decide +kernel
theorem dX12_addNode_20 : decode cX12_addNode 20 = .ok (.aload_n 0, 1) := by decide +kernel
theorem dX12_addNode_21 : decode cX12_addNode 21 = .ok (.getfield 25, 3) := by decide +kernel
theorem dX12_addNode_24 : decode cX12_addNode 24 = .ok (.iconst 3, 1) := by decide +kernel
theorem dX12_addNode_25 : decode cX12_addNode 25 = .ok (.aload_n 0, 1) := by decide +kernel
theorem dX12_addNode_26 : decode cX12_addNode 26 = .ok (.getfield 124, 3) := by decide +kernel
theorem dX12_addNode_29 : decode cX12_addNode 29 = .ok (.imul, 1) := by decide +kernel
theorem dX12_addNode_30 : decode cX12_addNode 30 = .ok (.iload_n 3, 1) := by decide +kernel
theorem dX12_addNode_31 : decode cX12_addNode 31 = .ok (.iastore, 1) := by decide +kernel
theorem dX12_addNode_32 : decode cX12_addNode 32 = .ok (.aload_n 0, 1) := by decide +kernel
theorem dX12_addNode_33 : decode cX12_addNode 33 = .ok (.getfield 25, 3) := by decide +kernel
theorem dX12_addNode_36 : decode cX12_addNode 36 = .ok (.iconst 3, 1) := by decide +kernel
theorem dX12_addNode_37 : decode cX12_addNode 37 = .ok (.aload_n 0, 1) := by decide +kernel
theorem dX12_addNode_38 : decode cX12_addNode 38 = .ok (.getfield 124, 3) := by decide +kernel
theorem dX12_addNode_41 : decode cX12_addNode 41 = .ok (.imul, 1) := by decide +kernel
theorem dX12_addNode_42 : decode cX12_addNode 42 = .ok (.iconst 1, 1) := by decide +kernel
theorem dX12_addNode_43 : decode cX12_addNode 43 = .ok (.iadd, 1) := by decide +kernel
theorem dX12_addNode_44 : decode cX12_addNode 44 = .ok (.iload 4, 2) := by decide +kernel
theorem dX12_addNode_46 : decode cX12_addNode 46 = .ok (.iastore, 1) := by decide +kernel
theorem dX12_addNode_47 : decode cX12_addNode 47 = .ok (.aload_n 0, 1) := by decide +kernel
theorem dX12_addNode_48 : decode cX12_addNode 48 = .ok (.getfield 25, 3) := by decide +kernel
theorem dX12_addNode_51 : decode cX12_addNode 51 = .ok (.iconst 3, 1) := by decide +kernel
theorem dX12_addNode_52 : decode cX12_addNode 52 = .ok (.aload_n 0, 1) := by decide +kernel
theorem dX12_addNode_53 : decode cX12_addNode 53 = .ok (.getfield 124, 3) := by decide +kernel
theorem dX12_addNode_56 : decode cX12_addNode 56 = .ok (.imul, 1) := by decide +kernel
theorem dX12_addNode_57 : decode cX12_addNode 57 = .ok (.iconst 2, 1) := by decide +kernel
theorem dX12_addNode_58 : decode cX12_addNode 58 = .ok (.iadd, 1) := by decide +kernel
theorem dX12_addNode_59 : decode cX12_addNode 59 = .ok (.iload 5, 2) := by decide +kernel
theorem dX12_addNode_61 : decode cX12_addNode 61 = .ok (.iastore, 1) := by decide +kernel
theorem dX12_addNode_62 : decode cX12_addNode 62 = .ok (.aload_n 0, 1) := by decide +kernel
theorem dX12_addNode_63 : decode cX12_addNode 63 = .ok (.getfield 28, 3) := by decide +kernel
theorem dX12_addNode_66 : decode cX12_addNode 66 = .ok (.aload_n 0, 1) := by decide +kernel
theorem dX12_addNode_67 : decode cX12_addNode 67 = .ok (.getfield 124, 3) := by decide +kernel
theorem dX12_addNode_70 : decode cX12_addNode 70 = .ok (.bipush (-13), 2) := by decide +kernel
theorem dX12_addNode_72 : decode cX12_addNode 72 = .ok (.iastore, 1) := by decide +kernel
theorem dX12_addNode_73 : decode cX12_addNode 73 = .ok (.aload_n 0, 1) := by decide +kernel
theorem dX12_addNode_74 : decode cX12_addNode 74 = .ok (.dup, 1) := by decide +kernel
theorem dX12_addNode_75 : decode cX12_addNode 75 = .ok (.getfield 124, 3) := by decide +kernel
theorem dX12_addNode_78 : decode cX12_addNode 78 = .ok (.iconst 1, 1) := by decide +kernel
theorem dX12_addNode_79 : decode cX12_addNode 79 = .ok (.iadd, 1) := by decide +kernel
theorem dX12_addNode_80 : decode cX12_addNode 80 = .ok (.putfield 124, 3) := by decide +kernel
theorem dX12_addNode_83 : decode cX12_addNode 83 = .ok (.aload_n 0, 1) := by decide +kernel
theorem dX12_addNode_84 : decode cX12_addNode 84 = .ok (.getfield 124, 3) := by decide +kernel
theorem dX12_addNode_87 : decode cX12_addNode 87 = .ok (.iconst 1, 1) := by decide +kernel
theorem dX12_addNode_88 : decode cX12_addNode 88 = .ok (.isub, 1) := by decide +kernel
theorem dX12_addNode_89 : decode cX12_addNode 89 = .ok (.ireturn, 1) := by decide +kernel
theorem dX12_makeNodes_0 : decode cX12_makeNodes 0 = .ok (.iconst 0, 1) := by decide +kernel
theorem dX12_makeNodes_1 : decode cX12_makeNodes 1 = .ok (.istore_n 1, 1) := by decide +kernel
theorem dX12_makeNodes_2 : decode cX12_makeNodes 2 = .ok (.bipush (-13), 2) := by decide +kernel
theorem dX12_makeNodes_4 : decode cX12_makeNodes 4 = .ok (.istore_n 2, 1) := by decide +kernel
theorem dX12_makeNodes_5 : decode cX12_makeNodes 5 = .ok (.iconst 0, 1) := by decide +kernel
theorem dX12_makeNodes_6 : decode cX12_makeNodes 6 = .ok (.istore_n 3, 1) := by decide +kernel
theorem dX12_makeNodes_7 : decode cX12_makeNodes 7 = .ok (.iload_n 3, 1) := by decide +kernel
theorem dX12_makeNodes_8 : decode cX12_makeNodes 8 = .ok (.aload_n 0, 1) := by decide +kernel
theorem dX12_makeNodes_9 : decode cX12_makeNodes 9 = .ok (.getfield 179, 3) := by decide +kernel
theorem dX12_makeNodes_12 : decode cX12_makeNodes 12 = .ok (.if_icmp .ge 151, 3) := by decide +kernel
theorem dX12_makeNodes_15 : decode cX12_makeNodes 15 = .ok (.aload_n 0, 1) := by decide +kernel
theorem dX12_makeNodes_16 : decode cX12_makeNodes 16 = .ok (.getfield 74, 3) := by decide +kernel
theorem dX12_makeNodes_19 : decode cX12_makeNodes 19 = .ok (.iload_n 1, 1) := by decide +kernel
theorem dX12_makeNodes_20 : decode cX12_makeNodes 20 = .ok (.aload_n 0, 1) := by decide +kernel
theorem dX12_makeNodes_21 : decode cX12_makeNodes 21 = .ok (.getfield 53, 3) := by decide +kernel
theorem dX12_makeNodes_24 : decode cX12_makeNodes 24 = .ok (.iload_n 3, 1) := by decide +kernel
theorem dX12_makeNodes_25 : decode cX12_makeNodes 25 = .ok (.iaload, 1) := by decide +kernel
theorem dX12_makeNodes_26 : decode cX12_makeNodes 26 = .ok (.iastore, 1) := by decide +kernel
theorem dX12_makeNodes_27 : decode cX12_makeNodes 27 = .ok (.aload_n 0, 1) := by decide +kernel
theorem dX12_makeNodes_28 : decode cX12_makeNodes 28 = .ok (.getfield 77, 3) := by decide +kernel
theorem dX12_makeNodes_31 : decode cX12_makeNodes 31 = .ok (.iload_n 1, 1) := by decide +kernel
theorem dX12_makeNodes_32 : decode cX12_makeNodes 32 = .ok (.iconst 0, 1) := by decide +kernel
theorem dX12_makeNodes_33 : decode cX12_makeNodes 33 = .ok (.iastore, 1) := by decide +kernel
theorem dX12_makeNodes_34 : decode cX12_makeNodes 34 = .ok (.iinc 1 1, 3) := by decide +kernel
theorem dX12_makeNodes_37 : decode cX12_makeNodes 37 = .ok (.iload_n 1, 1) := by decide +kernel
theorem dX12_makeNodes_38 : decode cX12_makeNodes 38 = .ok (.ifCond .le 119, 3) := by decide +kernel
theorem dX12_makeNodes_41 : decode cX12_makeNodes 41 = .ok (.aload_n 0, 1) := by decide +kernel
theorem dX12_makeNodes_42 : decode cX12_makeNodes 42 = .ok (.getfield 77, 3) := by decide +kernel
theorem dX12_makeNodes_45 : decode cX12_makeNodes 45 = .ok (.iload_n 1, 1) := by decide +kernel
theorem dX12_makeNodes_46 : decode cX12_makeNodes 46 = .ok (.iconst 1, 1) := by decide +kernel
theorem dX12_makeNodes_47 : decode cX12_makeNodes 47 = .ok (.isub, 1) := by decide +kernel
theorem dX12_makeNodes_48 : decode cX12_makeNodes 48 = .ok (.iaload, 1) := by decide +kernel
theorem dX12_makeNodes_49 : decode cX12_makeNodes 49 = .ok (.aload_n 0, 1) := by decide +kernel
theorem dX12_makeNodes_50 : decode cX12_makeNodes 50 = .ok (.getfield 13, 3) := by decide +kernel
theorem dX12_makeNodes_53 : decode cX12_makeNodes 53 = .ok (.aload_n 0, 1) := by decide +kernel
theorem dX12_makeNodes_54 : decode cX12_makeNodes 54 = .ok (.getfield 74, 3) := by decide +kernel
theorem dX12_makeNodes_57 : decode cX12_makeNodes 57 = .ok (.iload_n 1, 1) := by decide +kernel
theorem dX12_makeNodes_58 : decode cX12_makeNodes 58 = .ok (.iconst 1, 1) := by decide +kernel
theorem dX12_makeNodes_59 : decode cX12_makeNodes 59 = .ok (.isub, 1) := by decide +kernel
theorem dX12_makeNodes_60 : decode cX12_makeNodes 60 = .ok (.iaload, 1) := by decide +kernel
theorem dX12_makeNodes_61 : decode cX12_makeNodes 61 = .ok (.iaload, 1) := by decide +kernel
theorem dX12_makeNodes_62 : decode cX12_makeNodes 62 = .ok (.if_icmp .ne 95, 3) := by decide +kernel
theorem dX12_makeNodes_65 : decode cX12_makeNodes 65 = .ok (.iinc 1 (-1), 3) := by decide +kernel
theorem dX12_makeNodes_68 : decode cX12_makeNodes 68 = .ok (.aload_n 0, 1) := by decide +kernel
theorem dX12_makeNodes_69 : decode cX12_makeNodes 69 = .ok (.getfield 74, 3) := by decide +kernel
theorem dX12_makeNodes_72 : decode cX12_makeNodes 72 = .ok (.iload_n 1, 1) := by decide +kernel
theorem dX12_makeNodes_73 : decode cX12_makeNodes 73 = .ok (.iaload, 1) := by decide +kernel
theorem dX12_makeNodes_74 : decode cX12_makeNodes 74 = .ok (.istore 4, 2) := by decide +kernel
theorem dX12_makeNodes_76 : decode cX12_makeNodes 76 = .ok (.aload_n 0, 1) := by decide +kernel
theorem dX12_makeNodes_77 : decode cX12_makeNodes 77 = .ok (.iload 4, 2) := by decide +kernel
theorem dX12_makeNodes_79 : decode cX12_makeNodes 79 = .ok (.aload_n 0, 1) := by decide +kernel
theorem dX12_makeNodes_80 : decode cX12_makeNodes 80 = .ok (.getfield 7, 3) := by decide +kernel
theorem dX12_makeNodes_83 : decode cX12_makeNodes 83 = .ok (.iload 4, 2) := by decide +kernel
theorem dX12_makeNodes_85 : decode cX12_makeNodes 85 = .ok (.iaload, 1) := by decide +kernel
theorem dX12_makeNodes_86 : decode cX12_makeNodes 86 = .ok (.aload_n 0, 1) := by decide +kernel
theorem dX12_makeNodes_87 : decode cX12_makeNodes 87 = .ok (.getfield 80, 3) := by decide +kernel
theorem dX12_makeNodes_90 : decode cX12_makeNodes 90 = .ok (.iconst 3, 1) := by decide +kernel
theorem dX12_makeNodes_91 : decode cX12_makeNodes 91 = .ok (.iload_n 1, 1) := by decide +kernel
theorem dX12_makeNodes_92 : decode cX12_makeNodes 92 = .ok (.imul, 1) := by decide +kernel
theorem dX12_makeNodes_93 : decode cX12_makeNodes 93 = .ok (.iaload, 1) := by decide +kernel
theorem dX12_makeNodes_94 : decode cX12_makeNodes 94 = .ok (.aload_n 0, 1) := by decide +kernel
theorem dX12_makeNodes_95 : decode cX12_makeNodes 95 = .ok (.getfield 80, 3) := by decide +kernel
theorem dX12_makeNodes_98 : decode cX12_makeNodes 98 = .ok (.iconst 3, 1) := by decide +kernel
theorem dX12_makeNodes_99 : decode cX12_makeNodes 99 = .ok (.iload_n 1, 1) := by decide +kernel
theorem dX12_makeNodes_100 : decode cX12_makeNodes 100 = .ok (.imul, 1) := by decide +kernel
theorem dX12_makeNodes_101 : decode cX12_makeNodes 101 = .ok (.iconst 1, 1) := by decide +kernel
theorem dX12_makeNodes_102 : decode cX12_makeNodes 102 = .ok (.iadd, 1) := by decide +kernel
theorem dX12_makeNodes_103 : decode cX12_makeNodes 103 = .ok (.iaload, 1) := by decide +kernel
theorem dX12_makeNodes_104 : decode cX12_makeNodes 104 = .ok (.aload_n 0, 1) := by decide +kernel
theorem dX12_makeNodes_105 : decode cX12_makeNodes 105 = .ok (.getfield 80, 3) := by decide +kernel
theorem dX12_makeNodes_108 : decode cX12_makeNodes 108 = .ok (.iconst 3, 1) := by decide +kernel
theorem dX12_makeNodes_109 : decode cX12_makeNodes 109 = .ok (.iload_n 1, 1) := by decide +kernel
theorem dX12_makeNodes_110 : decode cX12_makeNodes 110 = .ok (.imul, 1) := by decide +kernel
theorem dX12_makeNodes_111 : decode cX12_makeNodes 111 = .ok (.iconst 2, 1) := by decide +kernel
theorem dX12_makeNodes_112 : decode cX12_makeNodes 112 = .ok (.iadd, 1) := by decide +kernel
theorem dX12_makeNodes_113 : decode cX12_makeNodes 113 = .ok (.iaload, 1) := by decide +kernel
theorem dX12_makeNodes_114 : decode cX12_makeNodes 114 = .ok (.invokevirtual 189, 3) := by decide +kernel
theorem dX12_makeNodes_117 : decode cX12_makeNodes 117 = .ok (.istore_n 2, 1) := by decide +kernel
theorem dX12_makeNodes_118 : decode cX12_makeNodes 118 = .ok (.iload_n 1, 1) := by decide +kernel
theorem dX12_makeNodes_119 : decode cX12_makeNodes 119 = .ok (.ifCond .le 35, 3) := by decide +kernel
theorem dX12_makeNodes_122 : decode cX12_makeNodes 122 = .ok (.aload_n 0, 1) := by decide +kernel
theorem dX12_makeNodes_123 : decode cX12_makeNodes 123 = .ok (.getfield 80, 3) := by decide +kernel
theorem dX12_makeNodes_126 : decode cX12_makeNodes 126 = .ok (.iconst 3, 1) := by decide +kernel
theorem dX12_makeNodes_127 : decode cX12_makeNodes 127 = .ok (.iload_n 1, 1) := by decide +kernel
theorem dX12_makeNodes_128 : decode cX12_makeNodes 128 = .ok (.iconst 1, 1) := by decide +kernel
theorem dX12_makeNodes_129 : decode cX12_makeNodes 129 = .ok (.isub, 1) := by decide +kernel
theorem dX12_makeNodes_130 : decode cX12_makeNodes 130 = .ok (.imul, 1) := by decide +kernel
theorem dX12_makeNodes_131 : decode cX12_makeNodes 131 = .ok (.aload_n 0, 1) := by decide +kernel
theorem dX12_makeNodes_132 : decode cX12_makeNodes 132 = .ok (.getfield 77, 3) := by decide +kernel
theorem dX12_makeNodes_135 : decode cX12_makeNodes 135 = .ok (.iload_n 1, 1) := by decide +kernel
theorem dX12_makeNodes_136 : decode cX12_makeNodes 136 = .ok (.iconst 1, 1) := by decide +kernel
theorem dX12_makeNodes_137 : decode cX12_makeNodes 137 = .ok (.isub, 1) := by decide +kernel
theorem dX12_makeNodes_138 : decode cX12_makeNodes 138 = .ok (.iaload, 1) := by decide +kernel
theorem dX12_makeNodes_139 : decode cX12_makeNodes 139 = .ok (.iadd, 1) := by decide +kernel
theorem dX12_makeNodes_140 : decode cX12_makeNodes 140 = .ok (.iload_n 2, 1) := by decide +kernel
theorem dX12_makeNodes_141 : decode cX12_makeNodes 141 = .ok (.iastore, 1) := by decide +kernel
theorem dX12_makeNodes_142 : decode cX12_makeNodes 142 = .ok (.aload_n 0, 1) := by decide +kernel
theorem dX12_makeNodes_143 : decode cX12_makeNodes 143 = .ok (.getfield 77, 3) := by decide +kernel
theorem dX12_makeNodes_146 : decode cX12_makeNodes 146 = .ok (.iload_n 1, 1) := by decide +kernel
theorem dX12_makeNodes_147 : decode cX12_makeNodes 147 = .ok (.iconst 1, 1) := by decide +kernel
theorem dX12_makeNodes_148 : decode cX12_makeNodes 148 = .ok (.isub, 1) := by decide +kernel
theorem dX12_makeNodes_149 : decode cX12_makeNodes 149 = .ok (.dup2, 1) := by decide +kernel
theorem dX12_makeNodes_150 : decode cX12_makeNodes 150 = .ok (.iaload, 1) := by decide +kernel
theorem dX12_makeNodes_151 : decode cX12_makeNodes 151 = .ok (.iconst 1, 1) := by decide +kernel
theorem dX12_makeNodes_152 : decode cX12_makeNodes 152 = .ok (.iadd, 1) := by decide +kernel
theorem dX12_makeNodes_153 : decode cX12_makeNodes 153 = .ok (.iastore, 1) := by decide +kernel
theorem dX12_makeNodes_154 : decode cX12_makeNodes 154 = .ok (.goto (-117), 3) := by decide +kernel
theorem dX12_makeNodes_157 : decode cX12_makeNodes 157 = .ok (.iinc 3 1, 3) := by decide +kernel
theorem dX12_makeNodes_160 : decode cX12_makeNodes 160 = .ok (.goto (-153), 3) := by decide +kernel
theorem dX12_makeNodes_163 : decode cX12_makeNodes 163 = .ok (.iload_n 2, 1) := by decide +kernel
theorem dX12_makeNodes_164 : decode cX12_makeNodes 164 = .ok (.ireturn, 1) := by decide +kernel
theorem dX12_value_0 : decode cX12_value 0 = .ok (.aload_n 0, 1) := by decide +kernel
theorem dX12_value_1 : decode cX12_value 1 = .ok (.iload_n 1, 1) := by decide +kernel
theorem dX12_value_2 : decode cX12_value 2 = .ok (.invokevirtual 130, 3) := by decide +kernel
theorem dX12_value_5 : decode cX12_value 5 = .ok (.ifCond .ne 5, 3) := by decide +kernel
theorem dX12_value_8 : decode cX12_value 8 = .ok (.iconst (-1), 1) := by decide +kernel
theorem dX12_value_9 : decode cX12_value 9 = .ok (.ireturn, 1) := by decide +kernel
theorem dX12_value_10 : decode cX12_value 10 = .ok (.iload_n 2, 1) := by decide +kernel
theorem dX12_value_11 : decode cX12_value 11 = .ok (.iconst 1, 1) := by decide +kernel
theorem dX12_value_12 : decode cX12_value 12 = .ok (.bipush 12, 2) := by decide +kernel
theorem dX12_value_14 : decode cX12_value 14 = .ok (.invokestatic 117, 3) := by decide +kernel
theorem dX12_value_17 : decode cX12_value 17 = .ok (.ifCond .ne 6, 3) := by decide +kernel
theorem dX12_value_20 : decode cX12_value 20 = .ok (.bipush (-4), 2) := by decide +kernel
theorem dX12_value_22 : decode cX12_value 22 = .ok (.ireturn, 1) := by decide +kernel
theorem dX12_value_23 : decode cX12_value 23 = .ok (.aload_n 0, 1) := by decide +kernel
theorem dX12_value_24 : decode cX12_value 24 = .ok (.invokevirtual 172, 3) := by decide +kernel
theorem dX12_value_27 : decode cX12_value 27 = .ok (.iload_n 3, 1) := by decide +kernel
theorem dX12_value_28 : decode cX12_value 28 = .ok (.iconst 0, 1) := by decide +kernel
theorem dX12_value_29 : decode cX12_value 29 = .ok (.aload_n 0, 1) := by decide +kernel
theorem dX12_value_30 : decode cX12_value 30 = .ok (.iload_n 1, 1) := by decide +kernel
theorem dX12_value_31 : decode cX12_value 31 = .ok (.iload_n 2, 1) := by decide +kernel
theorem dX12_value_32 : decode cX12_value 32 = .ok (.invokevirtual 164, 3) := by decide +kernel
theorem dX12_value_35 : decode cX12_value 35 = .ok (.iconst 1, 1) := by decide +kernel
theorem dX12_value_36 : decode cX12_value 36 = .ok (.isub, 1) := by decide +kernel
theorem dX12_value_37 : decode cX12_value 37 = .ok (.invokestatic 117, 3) := by decide +kernel
theorem dX12_value_40 : decode cX12_value 40 = .ok (.ifCond .ne 6, 3) := by decide +kernel
theorem dX12_value_43 : decode cX12_value 43 = .ok (.bipush (-13), 2) := by decide +kernel
theorem dX12_value_45 : decode cX12_value 45 = .ok (.ireturn, 1) := by decide +kernel
theorem dX12_value_46 : decode cX12_value 46 = .ok (.aload_n 0, 1) := by decide +kernel
theorem dX12_value_47 : decode cX12_value 47 = .ok (.getfield 124, 3) := by decide +kernel
theorem dX12_value_50 : decode cX12_value 50 = .ok (.iload_n 2, 1) := by decide +kernel
theorem dX12_value_51 : decode cX12_value 51 = .ok (.iadd, 1) := by decide +kernel
theorem dX12_value_52 : decode cX12_value 52 = .ok (.bipush 100, 2) := by decide +kernel
theorem dX12_value_54 : decode cX12_value 54 = .ok (.if_icmp .le 6, 3) := by decide +kernel
theorem dX12_value_57 : decode cX12_value 57 = .ok (.bipush (-6), 2) := by decide +kernel
theorem dX12_value_59 : decode cX12_value 59 = .ok (.ireturn, 1) := by decide +kernel
theorem dX12_value_60 : decode cX12_value 60 = .ok (.aload_n 0, 1) := by decide +kernel
theorem dX12_value_61 : decode cX12_value 61 = .ok (.iload_n 1, 1) := by decide +kernel
theorem dX12_value_62 : decode cX12_value 62 = .ok (.iload_n 2, 1) := by decide +kernel
theorem dX12_value_63 : decode cX12_value 63 = .ok (.iload_n 3, 1) := by decide +kernel
theorem dX12_value_64 : decode cX12_value 64 = .ok (.invokevirtual 192, 3) := by decide +kernel
theorem dX12_value_67 : decode cX12_value 67 = .ok (.aload_n 0, 1) := by decide +kernel
theorem dX12_value_68 : decode cX12_value 68 = .ok (.invokevirtual 195, 3) := by decide +kernel
theorem dX12_value_71 : decode cX12_value 71 = .ok (.ireturn, 1) := by decide +kernel
theorem dX12_variable_0 : decode cX12_variable 0 = .ok (.aload_n 0, 1) := by decide +kernel
theorem dX12_variable_1 : decode cX12_variable 1 = .ok (.iload_n 1, 1) := by decide +kernel
theorem dX12_variable_2 : decode cX12_variable 2 = .ok (.invokevirtual 130, 3) := by decide +kernel
theorem dX12_variable_5 : decode cX12_variable 5 = .ok (.ifCond .ne 5, 3) := by decide +kernel
theorem dX12_variable_8 : decode cX12_variable 8 = .ok (.iconst (-1), 1) := by decide +kernel
theorem dX12_variable_9 : decode cX12_variable 9 = .ok (.ireturn, 1) := by decide +kernel
theorem dX12_variable_10 : decode cX12_variable 10 = .ok (.aload_n 0, 1) := by decide +kernel
theorem dX12_variable_11 : decode cX12_variable 11 = .ok (.getfield 124, 3) := by decide +kernel
theorem dX12_variable_14 : decode cX12_variable 14 = .ok (.bipush 100, 2) := by decide +kernel
theorem dX12_variable_16 : decode cX12_variable 16 = .ok (.if_icmp .ne 8, 3) := by decide +kernel
theorem dX12_variable_19 : decode cX12_variable 19 = .ok (.bipush (-6), 2) := by decide +kernel
theorem dX12_variable_21 : decode cX12_variable 21 = .ok (.goto 16, 3) := by decide +kernel
theorem dX12_variable_24 : decode cX12_variable 24 = .ok (.aload_n 0, 1) := by decide +kernel
theorem dX12_variable_25 : decode cX12_variable 25 = .ok (.bipush (-13), 2) := by decide +kernel
theorem dX12_variable_27 : decode cX12_variable 27 = .ok (.iload_n 1, 1) := by decide +kernel
theorem dX12_variable_28 : decode cX12_variable 28 = .ok (.bipush (-13), 2) := by decide +kernel
theorem dX12_variable_30 : decode cX12_variable 30 = .ok (.bipush (-13), 2) := by decide +kernel
theorem dX12_variable_32 : decode cX12_variable 32 = .ok (.bipush (-13), 2) := by decide +kernel
theorem dX12_variable_34 : decode cX12_variable 34 = .ok (.invokevirtual 189, 3) := by decide +kernel
theorem dX12_variable_37 : decode cX12_variable 37 = .ok (.ireturn, 1) := by decide +kernel
theorem dX12_wrongChild_0 : decode cX12_wrongChild 0 = .ok (.iload_n 2, 1) := by decide +kernel
theorem dX12_wrongChild_1 : decode cX12_wrongChild 1 = .ok (.aload_n 0, 1) := by decide +kernel
theorem dX12_wrongChild_2 : decode cX12_wrongChild 2 = .ok (.getfield 13, 3) := by decide +kernel
theorem dX12_wrongChild_5 : decode cX12_wrongChild 5 = .ok (.iload_n 1, 1) := by decide +kernel
theorem dX12_wrongChild_6 : decode cX12_wrongChild 6 = .ok (.iaload, 1) := by decide +kernel
theorem dX12_wrongChild_7 : decode cX12_wrongChild 7 = .ok (.if_icmp .lt 5, 3) := by decide +kernel
theorem dX12_wrongChild_10 : decode cX12_wrongChild 10 = .ok (.iconst 0, 1) := by decide +kernel
theorem dX12_wrongChild_11 : decode cX12_wrongChild 11 = .ok (.ireturn, 1) := by decide +kernel
theorem dX12_wrongChild_12 : decode cX12_wrongChild 12 = .ok (.aload_n 0, 1) := by decide +kernel
theorem dX12_wrongChild_13 : decode cX12_wrongChild 13 = .ok (.iload_n 3, 1) := by decide +kernel
theorem dX12_wrongChild_14 : decode cX12_wrongChild 14 = .ok (.invokevirtual 199, 3) := by decide +kernel
theorem dX12_wrongChild_17 : decode cX12_wrongChild 17 = .ok (.ifCond .eq 31, 3) := by decide +kernel
theorem dX12_wrongChild_20 : decode cX12_wrongChild 20 = .ok (.aload_n 0, 1) := by decide +kernel
theorem dX12_wrongChild_21 : decode cX12_wrongChild 21 = .ok (.getfield 22, 3) := by decide +kernel
theorem dX12_wrongChild_24 : decode cX12_wrongChild 24 = .ok (.iload_n 3, 1) := by decide +kernel
theorem dX12_wrongChild_25 : decode cX12_wrongChild 25 = .ok (.iaload, 1) := by decide +kernel
theorem dX12_wrongChild_26 : decode cX12_wrongChild 26 = .ok (.aload_n 0, 1) := by decide +kernel
theorem dX12_wrongChild_27 : decode cX12_wrongChild 27 = .ok (.getfield 16, 3) := by decide +kernel
theorem dX12_wrongChild_30 : decode cX12_wrongChild 30 = .ok (.iconst 3, 1) := by decide +kernel
theorem dX12_wrongChild_31 : decode cX12_wrongChild 31 = .ok (.iload_n 1, 1) := by decide +kernel
theorem dX12_wrongChild_32 : decode cX12_wrongChild 32 = .ok (.imul, 1) := by decide +kernel
theorem dX12_wrongChild_33 : decode cX12_wrongChild 33 = .ok (.iload_n 2, 1) := by decide +kernel
theorem dX12_wrongChild_34 : decode cX12_wrongChild 34 = .ok (.iadd, 1) := by decide +kernel
theorem dX12_wrongChild_35 : decode cX12_wrongChild 35 = .ok (.iaload, 1) := by decide +kernel
theorem dX12_wrongChild_36 : decode cX12_wrongChild 36 = .ok (.if_icmp .ne 7, 3) := by decide +kernel
theorem dX12_wrongChild_39 : decode cX12_wrongChild 39 = .ok (.iconst 0, 1) := by decide +kernel
theorem dX12_wrongChild_40 : decode cX12_wrongChild 40 = .ok (.goto 10, 3) := by decide +kernel
theorem dX12_wrongChild_43 : decode cX12_wrongChild 43 = .ok (.bipush (-5), 2) := by decide +kernel
theorem dX12_wrongChild_45 : decode cX12_wrongChild 45 = .ok (.goto 5, 3) := by decide +kernel
theorem dX12_wrongChild_48 : decode cX12_wrongChild 48 = .ok (.bipush (-3), 2) := by decide +kernel
theorem dX12_wrongChild_50 : decode cX12_wrongChild 50 = .ok (.ireturn, 1) := by decide +kernel
theorem dX12_term_0 : decode cX12_term 0 = .ok (.aload_n 0, 1) := by decide +kernel
theorem dX12_term_1 : decode cX12_term 1 = .ok (.iload_n 1, 1) := by decide +kernel
theorem dX12_term_2 : decode cX12_term 2 = .ok (.invokevirtual 134, 3) := by decide +kernel
theorem dX12_term_5 : decode cX12_term 5 = .ok (.ifCond .ne 6, 3) := by decide +kernel
theorem dX12_term_8 : decode cX12_term 8 = .ok (.bipush (-2), 2) := by decide +kernel
theorem dX12_term_10 : decode cX12_term 10 = .ok (.ireturn, 1) := by decide +kernel
theorem dX12_term_11 : decode cX12_term 11 = .ok (.aload_n 0, 1) := by decide +kernel
theorem dX12_term_12 : decode cX12_term 12 = .ok (.iload_n 1, 1) := by decide +kernel
theorem dX12_term_13 : decode cX12_term 13 = .ok (.iconst 0, 1) := by decide +kernel
theorem dX12_term_14 : decode cX12_term 14 = .ok (.iload_n 2, 1) := by decide +kernel
theorem dX12_term_15 : decode cX12_term 15 = .ok (.invokevirtual 202, 3) := by decide +kernel
theorem dX12_term_18 : decode cX12_term 18 = .ok (.istore 5, 2) := by decide +kernel
theorem dX12_term_20 : decode cX12_term 20 = .ok (.aload_n 0, 1) := by decide +kernel
theorem dX12_term_21 : decode cX12_term 21 = .ok (.iload_n 1, 1) := by decide +kernel
theorem dX12_term_22 : decode cX12_term 22 = .ok (.iconst 1, 1) := by decide +kernel
theorem dX12_term_23 : decode cX12_term 23 = .ok (.iload_n 3, 1) := by decide +kernel
theorem dX12_term_24 : decode cX12_term 24 = .ok (.invokevirtual 202, 3) := by decide +kernel
theorem dX12_term_27 : decode cX12_term 27 = .ok (.istore 6, 2) := by decide +kernel
theorem dX12_term_29 : decode cX12_term 29 = .ok (.aload_n 0, 1) := by decide +kernel
theorem dX12_term_30 : decode cX12_term 30 = .ok (.iload_n 1, 1) := by decide +kernel
theorem dX12_term_31 : decode cX12_term 31 = .ok (.iconst 2, 1) := by decide +kernel
theorem dX12_term_32 : decode cX12_term 32 = .ok (.iload 4, 2) := by decide +kernel
theorem dX12_term_34 : decode cX12_term 34 = .ok (.invokevirtual 202, 3) := by decide +kernel
theorem dX12_term_37 : decode cX12_term 37 = .ok (.istore 7, 2) := by decide +kernel
theorem dX12_term_39 : decode cX12_term 39 = .ok (.iload 5, 2) := by decide +kernel
theorem dX12_term_41 : decode cX12_term 41 = .ok (.bipush (-3), 2) := by decide +kernel
theorem dX12_term_43 : decode cX12_term 43 = .ok (.if_icmp .eq 17, 3) := by decide +kernel
theorem dX12_term_46 : decode cX12_term 46 = .ok (.iload 6, 2) := by decide +kernel
theorem dX12_term_48 : decode cX12_term 48 = .ok (.bipush (-3), 2) := by decide +kernel
theorem dX12_term_50 : decode cX12_term 50 = .ok (.if_icmp .eq 10, 3) := by decide +kernel
theorem dX12_term_53 : decode cX12_term 53 = .ok (.iload 7, 2) := by decide +kernel
theorem dX12_term_55 : decode cX12_term 55 = .ok (.bipush (-3), 2) := by decide +kernel
theorem dX12_term_57 : decode cX12_term 57 = .ok (.if_icmp .ne 6, 3) := by decide +kernel
theorem dX12_term_60 : decode cX12_term 60 = .ok (.bipush (-3), 2) := by decide +kernel
theorem dX12_term_62 : decode cX12_term 62 = .ok (.ireturn, 1) := by decide +kernel
theorem dX12_term_63 : decode cX12_term 63 = .ok (.iload 5, 2) := by decide +kernel
theorem dX12_term_65 : decode cX12_term 65 = .ok (.ifCond .ne 13, 3) := by decide +kernel
theorem dX12_term_68 : decode cX12_term 68 = .ok (.iload 6, 2) := by decide +kernel
theorem dX12_term_70 : decode cX12_term 70 = .ok (.ifCond .ne 8, 3) := by decide +kernel
theorem dX12_term_73 : decode cX12_term 73 = .ok (.iload 7, 2) := by decide +kernel
theorem dX12_term_75 : decode cX12_term 75 = .ok (.ifCond .eq 6, 3) := by decide +kernel
theorem dX12_term_78 : decode cX12_term 78 = .ok (.bipush (-5), 2) := by decide +kernel
theorem dX12_term_80 : decode cX12_term 80 = .ok (.ireturn, 1) := by decide +kernel
theorem dX12_term_81 : decode cX12_term 81 = .ok (.aload_n 0, 1) := by decide +kernel
theorem dX12_term_82 : decode cX12_term 82 = .ok (.getfield 124, 3) := by decide +kernel
theorem dX12_term_85 : decode cX12_term 85 = .ok (.bipush 100, 2) := by decide +kernel
theorem dX12_term_87 : decode cX12_term 87 = .ok (.if_icmp .ne 8, 3) := by decide +kernel
theorem dX12_term_90 : decode cX12_term 90 = .ok (.bipush (-6), 2) := by decide +kernel
theorem dX12_term_92 : decode cX12_term 92 = .ok (.goto 18, 3) := by decide +kernel
theorem dX12_term_95 : decode cX12_term 95 = .ok (.aload_n 0, 1) := by decide +kernel
theorem dX12_term_96 : decode cX12_term 96 = .ok (.iload_n 1, 1) := by decide +kernel
theorem dX12_term_97 : decode cX12_term 97 = .ok (.aload_n 0, 1) := by decide +kernel
theorem dX12_term_98 : decode cX12_term 98 = .ok (.getfield 7, 3) := by decide +kernel
theorem dX12_term_101 : decode cX12_term 101 = .ok (.iload_n 1, 1) := by decide +kernel
theorem dX12_term_102 : decode cX12_term 102 = .ok (.iaload, 1) := by decide +kernel
theorem dX12_term_103 : decode cX12_term 103 = .ok (.iload_n 2, 1) := by decide +kernel
theorem dX12_term_104 : decode cX12_term 104 = .ok (.iload_n 3, 1) := by decide +kernel
theorem dX12_term_105 : decode cX12_term 105 = .ok (.iload 4, 2) := by decide +kernel
theorem dX12_term_107 : decode cX12_term 107 = .ok (.invokevirtual 189, 3) := by decide +kernel
theorem dX12_term_110 : decode cX12_term 110 = .ok (.ireturn, 1) := by decide +kernel
theorem dX12_nodeCount_0 : decode cX12_nodeCount 0 = .ok (.aload_n 0, 1) := by decide +kernel
theorem dX12_nodeCount_1 : decode cX12_nodeCount 1 = .ok (.getfield 124, 3) := by decide +kernel
theorem dX12_nodeCount_4 : decode cX12_nodeCount 4 = .ok (.ireturn, 1) := by decide +kernel
theorem dX12_nodeType_0 : decode cX12_nodeType 0 = .ok (.aload_n 0, 1) := by decide +kernel
theorem dX12_nodeType_1 : decode cX12_nodeType 1 = .ok (.iload_n 1, 1) := by decide +kernel
theorem dX12_nodeType_2 : decode cX12_nodeType 2 = .ok (.invokevirtual 199, 3) := by decide +kernel
theorem dX12_nodeType_5 : decode cX12_nodeType 5 = .ok (.ifCond .eq 12, 3) := by decide +kernel
theorem dX12_nodeType_8 : decode cX12_nodeType 8 = .ok (.aload_n 0, 1) := by decide +kernel
theorem dX12_nodeType_9 : decode cX12_nodeType 9 = .ok (.getfield 22, 3) := by decide +kernel
theorem dX12_nodeType_12 : decode cX12_nodeType 12 = .ok (.iload_n 1, 1) := by decide +kernel
theorem dX12_nodeType_13 : decode cX12_nodeType 13 = .ok (.iaload, 1) := by decide +kernel
theorem dX12_nodeType_14 : decode cX12_nodeType 14 = .ok (.goto 5, 3) := by decide +kernel
theorem dX12_nodeType_17 : decode cX12_nodeType 17 = .ok (.bipush (-3), 2) := by decide +kernel
theorem dX12_nodeType_19 : decode cX12_nodeType 19 = .ok (.ireturn, 1) := by decide +kernel
theorem dX12_resolved_0 : decode cX12_resolved 0 = .ok (.iload_n 1, 1) := by decide +kernel
theorem dX12_resolved_1 : decode cX12_resolved 1 = .ok (.istore_n 2, 1) := by decide +kernel
theorem dX12_resolved_2 : decode cX12_resolved 2 = .ok (.aload_n 0, 1) := by decide +kernel
theorem dX12_resolved_3 : decode cX12_resolved 3 = .ok (.getfield 28, 3) := by decide +kernel
theorem dX12_resolved_6 : decode cX12_resolved 6 = .ok (.iload_n 2, 1) := by decide +kernel
theorem dX12_resolved_7 : decode cX12_resolved 7 = .ok (.iaload, 1) := by decide +kernel
theorem dX12_resolved_8 : decode cX12_resolved 8 = .ok (.ifCond .lt 13, 3) := by decide +kernel
theorem dX12_resolved_11 : decode cX12_resolved 11 = .ok (.aload_n 0, 1) := by decide +kernel
theorem dX12_resolved_12 : decode cX12_resolved 12 = .ok (.getfield 28, 3) := by decide +kernel
theorem dX12_resolved_15 : decode cX12_resolved 15 = .ok (.iload_n 2, 1) := by decide +kernel
theorem dX12_resolved_16 : decode cX12_resolved 16 = .ok (.iaload, 1) := by decide +kernel
theorem dX12_resolved_17 : decode cX12_resolved 17 = .ok (.istore_n 2, 1) := by decide +kernel
theorem dX12_resolved_18 : decode cX12_resolved 18 = .ok (.goto (-16), 3) := by decide +kernel
theorem dX12_resolved_21 : decode cX12_resolved 21 = .ok (.iload_n 2, 1) := by decide +kernel
theorem dX12_resolved_22 : decode cX12_resolved 22 = .ok (.ireturn, 1) := by decide +kernel
theorem dX12_manyOf_0 : decode cX12_manyOf 0 = .ok (.aload_n 0, 1) := by decide +kernel
theorem dX12_manyOf_1 : decode cX12_manyOf 1 = .ok (.getfield 19, 3) := by decide +kernel
theorem dX12_manyOf_4 : decode cX12_manyOf 4 = .ok (.iload_n 1, 1) := by decide +kernel
theorem dX12_manyOf_5 : decode cX12_manyOf 5 = .ok (.iaload, 1) := by decide +kernel
theorem dX12_manyOf_6 : decode cX12_manyOf 6 = .ok (.ifCond .ge 7, 3) := by decide +kernel
theorem dX12_manyOf_9 : decode cX12_manyOf 9 = .ok (.iconst 0, 1) := by decide +kernel
theorem dX12_manyOf_10 : decode cX12_manyOf 10 = .ok (.goto 14, 3) := by decide +kernel
theorem dX12_manyOf_13 : decode cX12_manyOf 13 = .ok (.aload_n 0, 1) := by decide +kernel
theorem dX12_manyOf_14 : decode cX12_manyOf 14 = .ok (.getfield 13, 3) := by decide +kernel
theorem dX12_manyOf_17 : decode cX12_manyOf 17 = .ok (.aload_n 0, 1) := by decide +kernel
theorem dX12_manyOf_18 : decode cX12_manyOf 18 = .ok (.getfield 19, 3) := by decide +kernel
theorem dX12_manyOf_21 : decode cX12_manyOf 21 = .ok (.iload_n 1, 1) := by decide +kernel
theorem dX12_manyOf_22 : decode cX12_manyOf 22 = .ok (.iaload, 1) := by decide +kernel
theorem dX12_manyOf_23 : decode cX12_manyOf 23 = .ok (.iaload, 1) := by decide +kernel
theorem dX12_manyOf_24 : decode cX12_manyOf 24 = .ok (.ireturn, 1) := by decide +kernel
theorem dX12_head_0 : decode cX12_head 0 = .ok (.aload_n 0, 1) := by decide +kernel
theorem dX12_head_1 : decode cX12_head 1 = .ok (.iload_n 1, 1) := by decide +kernel
theorem dX12_head_2 : decode cX12_head 2 = .ok (.invokevirtual 199, 3) := by decide +kernel
theorem dX12_head_5 : decode cX12_head 5 = .ok (.ifCond .eq 16, 3) := by decide +kernel
theorem dX12_head_8 : decode cX12_head 8 = .ok (.aload_n 0, 1) := by decide +kernel
theorem dX12_head_9 : decode cX12_head 9 = .ok (.getfield 19, 3) := by decide +kernel
theorem dX12_head_12 : decode cX12_head 12 = .ok (.aload_n 0, 1) := by decide +kernel
theorem dX12_head_13 : decode cX12_head 13 = .ok (.iload_n 1, 1) := by decide +kernel
theorem dX12_head_14 : decode cX12_head 14 = .ok (.invokevirtual 205, 3) := by decide +kernel
theorem dX12_head_17 : decode cX12_head 17 = .ok (.iaload, 1) := by decide +kernel
theorem dX12_head_18 : decode cX12_head 18 = .ok (.goto 5, 3) := by decide +kernel
theorem dX12_head_21 : decode cX12_head 21 = .ok (.bipush (-3), 2) := by decide +kernel
theorem dX12_head_23 : decode cX12_head 23 = .ok (.ireturn, 1) := by decide +kernel
theorem dX12_child_0 : decode cX12_child 0 = .ok (.aload_n 0, 1) := by decide +kernel
theorem dX12_child_1 : decode cX12_child 1 = .ok (.iload_n 1, 1) := by decide +kernel
theorem dX12_child_2 : decode cX12_child 2 = .ok (.invokevirtual 199, 3) := by decide +kernel
