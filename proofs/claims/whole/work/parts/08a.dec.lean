theorem dX0_contains_0 : decode cX0_contains 0 = .ok (.iload_n 1, 1) := by decide +kernel
theorem dX0_contains_1 : decode cX0_contains 1 = .ok (.ifCond .lt 15, 3) := by decide +kernel
theorem dX0_contains_4 : decode cX0_contains 4 = .ok (.iload_n 1, 1) := by decide +kernel
theorem dX0_contains_5 : decode cX0_contains 5 = .ok (.aload_n 0, 1) := by decide +kernel
theorem dX0_contains_6 : decode cX0_contains 6 = .ok (.getfield 34, 3) := by decide +kernel
theorem dX0_contains_9 : decode cX0_contains 9 = .ok (.if_icmp .ge 7, 3) := by decide +kernel
theorem dX0_contains_12 : decode cX0_contains 12 = .ok (.iconst 1, 1) := by decide +kernel
theorem dX0_contains_13 : decode cX0_contains 13 = .ok (.goto 4, 3) := by decide +kernel
theorem dX0_contains_16 : decode cX0_contains 16 = .ok (.iconst 0, 1) := by decide +kernel
theorem dX0_contains_17 : decode cX0_contains 17 = .ok (.ireturn, 1) := by decide +kernel
theorem dX0_addVariable_0 : decode cX0_addVariable 0 = .ok (.aload_n 0, 1) := by decide +kernel
theorem dX0_addVariable_1 : decode cX0_addVariable 1 = .ok (.getfield 34, 3) := by decide +kernel
theorem dX0_addVariable_4 : decode cX0_addVariable 4 = .ok (.istore_n 2, 1) := by decide +kernel
theorem dX0_addVariable_5 : decode cX0_addVariable 5 = .ok (.aload_n 0, 1) := by decide +kernel
theorem dX0_addVariable_6 : decode cX0_addVariable 6 = .ok (.getfield 9, 3) := by decide +kernel
theorem dX0_addVariable_9 : decode cX0_addVariable 9 = .ok (.iload_n 2, 1) := by decide +kernel
theorem dX0_addVariable_10 : decode cX0_addVariable 10 = .ok (.iload_n 1, 1) := by decide +kernel
theorem dX0_addVariable_11 : decode cX0_addVariable 11 = .ok (.iastore, 1) := by decide +kernel
theorem dX0_addVariable_12 : decode cX0_addVariable 12 = .ok (.aload_n 0, 1) := by decide +kernel
theorem dX0_addVariable_13 : decode cX0_addVariable 13 = .ok (.getfield 15, 3) := by decide +kernel
theorem dX0_addVariable_16 : decode cX0_addVariable 16 = .ok (.iload_n 2, 1) := by decide +kernel
theorem dX0_addVariable_17 : decode cX0_addVariable 17 = .ok (.iconst (-1), 1) := by decide +kernel
theorem dX0_addVariable_18 : decode cX0_addVariable 18 = .ok (.iastore, 1) := by decide +kernel
theorem dX0_addVariable_19 : decode cX0_addVariable 19 = .ok (.aload_n 0, 1) := by decide +kernel
theorem dX0_addVariable_20 : decode cX0_addVariable 20 = .ok (.dup, 1) := by decide +kernel
theorem dX0_addVariable_21 : decode cX0_addVariable 21 = .ok (.getfield 34, 3) := by decide +kernel
theorem dX0_addVariable_24 : decode cX0_addVariable 24 = .ok (.iconst 1, 1) := by decide +kernel
theorem dX0_addVariable_25 : decode cX0_addVariable 25 = .ok (.iadd, 1) := by decide +kernel
theorem dX0_addVariable_26 : decode cX0_addVariable 26 = .ok (.putfield 34, 3) := by decide +kernel
theorem dX0_addVariable_29 : decode cX0_addVariable 29 = .ok (.iload_n 2, 1) := by decide +kernel
theorem dX0_addVariable_30 : decode cX0_addVariable 30 = .ok (.ireturn, 1) := by decide +kernel
theorem dX0_addConstructed_0 : decode cX0_addConstructed 0 = .ok (.aload_n 0, 1) := by decide +kernel
theorem dX0_addConstructed_1 : decode cX0_addConstructed 1 = .ok (.getfield 34, 3) := by decide +kernel
theorem dX0_addConstructed_4 : decode cX0_addConstructed 4 = .ok (.istore 5, 2) := by decide +kernel
theorem dX0_addConstructed_6 : decode cX0_addConstructed 6 = .ok (.aload_n 0, 1) := by decide +kernel
theorem dX0_addConstructed_7 : decode cX0_addConstructed 7 = .ok (.iload 5, 2) := by decide +kernel
theorem dX0_addConstructed_9 : decode cX0_addConstructed 9 = .ok (.iload_n 1, 1) := by decide +kernel
theorem dX0_addConstructed_10 : decode cX0_addConstructed 10 = .ok (.invokevirtual 38, 3) := by decide +kernel
theorem dX0_addConstructed_13 : decode cX0_addConstructed 13 = .ok (.aload_n 0, 1) := by decide +kernel
theorem dX0_addConstructed_14 : decode cX0_addConstructed 14 = .ok (.getfield 18, 3) := by decide +kernel
theorem dX0_addConstructed_17 : decode cX0_addConstructed 17 = .ok (.iload 5, 2) := by decide +kernel
theorem dX0_addConstructed_19 : decode cX0_addConstructed 19 = .ok (.iconst 3, 1) := by decide +kernel
theorem dX0_addConstructed_20 : decode cX0_addConstructed 20 = .ok (.imul, 1) := by decide +kernel
theorem dX0_addConstructed_21 : decode cX0_addConstructed 21 = .ok (.iload_n 2, 1) := by decide +kernel
theorem dX0_addConstructed_22 : decode cX0_addConstructed 22 = .ok (.iastore, 1) := by decide +kernel
theorem dX0_addConstructed_23 : decode cX0_addConstructed 23 = .ok (.aload_n 0, 1) := by decide +kernel
theorem dX0_addConstructed_24 : decode cX0_addConstructed 24 = .ok (.getfield 18, 3) := by decide +kernel
theorem dX0_addConstructed_27 : decode cX0_addConstructed 27 = .ok (.iload 5, 2) := by decide +kernel
theorem dX0_addConstructed_29 : decode cX0_addConstructed 29 = .ok (.iconst 3, 1) := by decide +kernel
theorem dX0_addConstructed_30 : decode cX0_addConstructed 30 = .ok (.imul, 1) := by decide +kernel
theorem dX0_addConstructed_31 : decode cX0_addConstructed 31 = .ok (.iconst 1, 1) := by decide +kernel
theorem dX0_addConstructed_32 : decode cX0_addConstructed 32 = .ok (.iadd, 1) := by decide +kernel
theorem dX0_addConstructed_33 : decode cX0_addConstructed 33 = .ok (.iload_n 3, 1) := by decide +kernel
theorem dX0_addConstructed_34 : decode cX0_addConstructed 34 = .ok (.iastore, 1) := by decide +kernel
theorem dX0_addConstructed_35 : decode cX0_addConstructed 35 = .ok (.aload_n 0, 1) := by decide +kernel
theorem dX0_addConstructed_36 : decode cX0_addConstructed 36 = .ok (.getfield 18, 3) := by decide +kernel
theorem dX0_addConstructed_39 : decode cX0_addConstructed 39 = .ok (.iload 5, 2) := by decide +kernel
theorem dX0_addConstructed_41 : decode cX0_addConstructed 41 = .ok (.iconst 3, 1) := by decide +kernel
theorem dX0_addConstructed_42 : decode cX0_addConstructed 42 = .ok (.imul, 1) := by decide +kernel
theorem dX0_addConstructed_43 : decode cX0_addConstructed 43 = .ok (.iconst 2, 1) := by decide +kernel
theorem dX0_addConstructed_44 : decode cX0_addConstructed 44 = .ok (.iadd, 1) := by decide +kernel
theorem dX0_addConstructed_45 : decode cX0_addConstructed 45 = .ok (.iload 4, 2) := by decide +kernel
theorem dX0_addConstructed_47 : decode cX0_addConstructed 47 = .ok (.iastore, 1) := by decide +kernel
theorem dX0_addConstructed_48 : decode cX0_addConstructed 48 = .ok (.aload_n 0, 1) := by decide +kernel
theorem dX0_addConstructed_49 : decode cX0_addConstructed 49 = .ok (.dup, 1) := by decide +kernel
theorem dX0_addConstructed_50 : decode cX0_addConstructed 50 = .ok (.getfield 34, 3) := by decide +kernel
theorem dX0_addConstructed_53 : decode cX0_addConstructed 53 = .ok (.iconst 1, 1) := by decide +kernel
theorem dX0_addConstructed_54 : decode cX0_addConstructed 54 = .ok (.iadd, 1) := by decide +kernel
theorem dX0_addConstructed_55 : decode cX0_addConstructed 55 = .ok (.putfield 34, 3) := by decide +kernel
theorem dX0_addConstructed_58 : decode cX0_addConstructed 58 = .ok (.iload 5, 2) := by decide +kernel
theorem dX0_addConstructed_60 : decode cX0_addConstructed 60 = .ok (.ireturn, 1) := by decide +kernel
theorem dX0_fill_0 : decode cX0_fill 0 = .ok (.aload_n 0, 1) := by decide +kernel
theorem dX0_fill_1 : decode cX0_fill 1 = .ok (.getfield 9, 3) := by decide +kernel
theorem dX0_fill_4 : decode cX0_fill 4 = .ok (.iload_n 1, 1) := by decide +kernel
theorem dX0_fill_5 : decode cX0_fill 5 = .ok (.aload_n 0, 1) := by decide +kernel
theorem dX0_fill_6 : decode cX0_fill 6 = .ok (.getfield 24, 3) := by decide +kernel
theorem dX0_fill_9 : decode cX0_fill 9 = .ok (.getfield 41, 3) := by decide +kernel
theorem dX0_fill_12 : decode cX0_fill 12 = .ok (.iload_n 2, 1) := by decide +kernel
theorem dX0_fill_13 : decode cX0_fill 13 = .ok (.iaload, 1) := by decide +kernel
theorem dX0_fill_14 : decode cX0_fill 14 = .ok (.iastore, 1) := by decide +kernel
theorem dX0_fill_15 : decode cX0_fill 15 = .ok (.aload_n 0, 1) := by decide +kernel
theorem dX0_fill_16 : decode cX0_fill 16 = .ok (.getfield 15, 3) := by decide +kernel
theorem dX0_fill_19 : decode cX0_fill 19 = .ok (.iload_n 1, 1) := by decide +kernel
theorem dX0_fill_20 : decode cX0_fill 20 = .ok (.iload_n 2, 1) := by decide +kernel
theorem dX0_fill_21 : decode cX0_fill 21 = .ok (.iastore, 1) := by decide +kernel
theorem dX0_fill_22 : decode cX0_fill 22 = .ok (.return_, 1) := by decide +kernel
theorem dX0_isVariable_0 : decode cX0_isVariable 0 = .ok (.aload_n 0, 1) := by decide +kernel
theorem dX0_isVariable_1 : decode cX0_isVariable 1 = .ok (.getfield 15, 3) := by decide +kernel
theorem dX0_isVariable_4 : decode cX0_isVariable 4 = .ok (.iload_n 1, 1) := by decide +kernel
theorem dX0_isVariable_5 : decode cX0_isVariable 5 = .ok (.iaload, 1) := by decide +kernel
theorem dX0_isVariable_6 : decode cX0_isVariable 6 = .ok (.iconst (-1), 1) := by decide +kernel
theorem dX0_isVariable_7 : decode cX0_isVariable 7 = .ok (.if_icmp .ne 7, 3) := by decide +kernel
theorem dX0_isVariable_10 : decode cX0_isVariable 10 = .ok (.iconst 1, 1) := by decide +kernel
theorem dX0_isVariable_11 : decode cX0_isVariable 11 = .ok (.goto 4, 3) := by decide +kernel
theorem dX0_isVariable_14 : decode cX0_isVariable 14 = .ok (.iconst 0, 1) := by decide +kernel
theorem dX0_isVariable_15 : decode cX0_isVariable 15 = .ok (.ireturn, 1) := by decide +kernel
theorem dX0_partTotal_0 : decode cX0_partTotal 0 = .ok (.aload_n 0, 1) := by decide +kernel
theorem dX0_partTotal_1 : decode cX0_partTotal 1 = .ok (.iload_n 1, 1) := by decide +kernel
theorem dX0_partTotal_2 : decode cX0_partTotal 2 = .ok (.invokevirtual 46, 3) := by decide +kernel
theorem dX0_partTotal_5 : decode cX0_partTotal 5 = .ok (.ifCond .eq 7, 3) := by decide +kernel
theorem dX0_partTotal_8 : decode cX0_partTotal 8 = .ok (.iconst 0, 1) := by decide +kernel
theorem dX0_partTotal_9 : decode cX0_partTotal 9 = .ok (.goto 17, 3) := by decide +kernel
theorem dX0_partTotal_12 : decode cX0_partTotal 12 = .ok (.aload_n 0, 1) := by decide +kernel
theorem dX0_partTotal_13 : decode cX0_partTotal 13 = .ok (.getfield 24, 3) := by decide +kernel
theorem dX0_partTotal_16 : decode cX0_partTotal 16 = .ok (.getfield 50, 3) := by decide +kernel
theorem dX0_partTotal_19 : decode cX0_partTotal 19 = .ok (.aload_n 0, 1) := by decide +kernel
theorem dX0_partTotal_20 : decode cX0_partTotal 20 = .ok (.getfield 15, 3) := by decide +kernel
theorem dX0_partTotal_23 : decode cX0_partTotal 23 = .ok (.iload_n 1, 1) := by decide +kernel
theorem dX0_partTotal_24 : decode cX0_partTotal 24 = .ok (.iaload, 1) := by decide +kernel
theorem dX0_partTotal_25 : decode cX0_partTotal 25 = .ok (.iaload, 1) := by decide +kernel
theorem dX0_partTotal_26 : decode cX0_partTotal 26 = .ok (.ireturn, 1) := by decide +kernel
theorem dX0_resolvedPart_0 : decode cX0_resolvedPart 0 = .ok (.aload_n 0, 1) := by decide +kernel
theorem dX0_resolvedPart_1 : decode cX0_resolvedPart 1 = .ok (.aload_n 0, 1) := by decide +kernel
theorem dX0_resolvedPart_2 : decode cX0_resolvedPart 2 = .ok (.getfield 18, 3) := by decide +kernel
theorem dX0_resolvedPart_5 : decode cX0_resolvedPart 5 = .ok (.iload_n 1, 1) := by decide +kernel
theorem dX0_resolvedPart_6 : decode cX0_resolvedPart 6 = .ok (.iconst 3, 1) := by decide +kernel
theorem dX0_resolvedPart_7 : decode cX0_resolvedPart 7 = .ok (.imul, 1) := by decide +kernel
theorem dX0_resolvedPart_8 : decode cX0_resolvedPart 8 = .ok (.iload_n 2, 1) := by decide +kernel
theorem dX0_resolvedPart_9 : decode cX0_resolvedPart 9 = .ok (.iadd, 1) := by decide +kernel
theorem dX0_resolvedPart_10 : decode cX0_resolvedPart 10 = .ok (.iaload, 1) := by decide +kernel
theorem dX0_resolvedPart_11 : decode cX0_resolvedPart 11 = .ok (.invokevirtual 53, 3) := by decide +kernel
theorem dX0_resolvedPart_14 : decode cX0_resolvedPart 14 = .ok (.ireturn, 1) := by decide +kernel
theorem dX0_resolve_0 : decode cX0_resolve 0 = .ok (.iload_n 1, 1) := by decide +kernel
theorem dX0_resolve_1 : decode cX0_resolve 1 = .ok (.istore_n 2, 1) := by decide +kernel
theorem dX0_resolve_2 : decode cX0_resolve 2 = .ok (.iconst 0, 1) := by decide +kernel
theorem dX0_resolve_3 : decode cX0_resolve 3 = .ok (.istore_n 3, 1) := by decide +kernel
theorem dX0_resolve_4 : decode cX0_resolve 4 = .ok (.iload_n 3, 1) := by decide +kernel
theorem dX0_resolve_5 : decode cX0_resolve 5 = .ok (.bipush 100, 2) := by decide +kernel
theorem dX0_resolve_7 : decode cX0_resolve 7 = .ok (.if_icmp .ge 26, 3) := by decide +kernel
theorem dX0_resolve_10 : decode cX0_resolve 10 = .ok (.aload_n 0, 1) := by decide +kernel
theorem dX0_resolve_11 : decode cX0_resolve 11 = .ok (.getfield 21, 3) := by decide +kernel
theorem dX0_resolve_14 : decode cX0_resolve 14 = .ok (.iload_n 2, 1) := by decide +kernel
theorem dX0_resolve_15 : decode cX0_resolve 15 = .ok (.iaload, 1) := by decide +kernel
theorem dX0_resolve_16 : decode cX0_resolve 16 = .ok (.iconst (-1), 1) := by decide +kernel
theorem dX0_resolve_17 : decode cX0_resolve 17 = .ok (.if_icmp .eq 16, 3) := by decide +kernel
theorem dX0_resolve_20 : decode cX0_resolve 20 = .ok (.aload_n 0, 1) := by decide +kernel
theorem dX0_resolve_21 : decode cX0_resolve 21 = .ok (.getfield 21, 3) := by decide +kernel
theorem dX0_resolve_24 : decode cX0_resolve 24 = .ok (.iload_n 2, 1) := by decide +kernel
theorem dX0_resolve_25 : decode cX0_resolve 25 = .ok (.iaload, 1) := by decide +kernel
theorem dX0_resolve_26 : decode cX0_resolve 26 = .ok (.istore_n 2, 1) := by decide +kernel
theorem dX0_resolve_27 : decode cX0_resolve 27 = .ok (.iinc 3 1, 3) := by decide +kernel
theorem dX0_resolve_30 : decode cX0_resolve 30 = .ok (.goto (-26), 3) := by decide +kernel
theorem dX0_resolve_33 : decode cX0_resolve 33 = .ok (.iload_n 2, 1) := by decide +kernel
theorem dX0_resolve_34 : decode cX0_resolve 34 = .ok (.ireturn, 1) := by decide +kernel
theorem dX0_countBound_0 : decode cX0_countBound 0 = .ok (.iconst 0, 1) := by decide +kernel
theorem dX0_countBound_1 : decode cX0_countBound 1 = .ok (.istore_n 1, 1) := by decide +kernel
theorem dX0_countBound_2 : decode cX0_countBound 2 = .ok (.iconst 0, 1) := by decide +kernel
theorem dX0_countBound_3 : decode cX0_countBound 3 = .ok (.istore_n 2, 1) := by decide +kernel
theorem dX0_countBound_4 : decode cX0_countBound 4 = .ok (.iload_n 2, 1) := by decide +kernel
theorem dX0_countBound_5 : decode cX0_countBound 5 = .ok (.aload_n 0, 1) := by decide +kernel
theorem dX0_countBound_6 : decode cX0_countBound 6 = .ok (.getfield 34, 3) := by decide +kernel
theorem dX0_countBound_9 : decode cX0_countBound 9 = .ok (.if_icmp .ge 22, 3) := by decide +kernel
theorem dX0_countBound_12 : decode cX0_countBound 12 = .ok (.aload_n 0, 1) := by decide +kernel
theorem dX0_countBound_13 : decode cX0_countBound 13 = .ok (.getfield 21, 3) := by decide +kernel
theorem dX0_countBound_16 : decode cX0_countBound 16 = .ok (.iload_n 2, 1) := by decide +kernel
theorem dX0_countBound_17 : decode cX0_countBound 17 = .ok (.iaload, 1) := by decide +kernel
theorem dX0_countBound_18 : decode cX0_countBound 18 = .ok (.iconst (-1), 1) := by decide +kernel
theorem dX0_countBound_19 : decode cX0_countBound 19 = .ok (.if_icmp .eq 6, 3) := by decide +kernel
theorem dX0_countBound_22 : decode cX0_countBound 22 = .ok (.iinc 1 1, 3) := by decide +kernel
theorem dX0_countBound_25 : decode cX0_countBound 25 = .ok (.iinc 2 1, 3) := by decide +kernel
theorem dX0_countBound_28 : decode cX0_countBound 28 = .ok (.goto (-24), 3) := by decide +kernel
theorem dX0_countBound_31 : decode cX0_countBound 31 = .ok (.iload_n 1, 1) := by decide +kernel
theorem dX0_countBound_32 : decode cX0_countBound 32 = .ok (.ireturn, 1) := by decide +kernel
theorem dX1_recompute_0 : decode cX1_recompute 0 = .ok (.aload_n 0, 1) := by decide +kernel
theorem dX1_recompute_1 : decode cX1_recompute 1 = .ok (.invokevirtual 28, 3) := by decide +kernel
theorem dX1_recompute_4 : decode cX1_recompute 4 = .ok (.aload_n 0, 1) := by decide +kernel
theorem dX1_recompute_5 : decode cX1_recompute 5 = .ok (.invokevirtual 31, 3) := by decide +kernel
theorem dX1_recompute_8 : decode cX1_recompute 8 = .ok (.return_, 1) := by decide +kernel
theorem dX1_findSmallest_0 : decode cX1_findSmallest 0 = .ok (.aload_n 0, 1) := by decide +kernel
theorem dX1_findSmallest_1 : decode cX1_findSmallest 1 = .ok (.getfield 9, 3) := by decide +kernel
theorem dX1_findSmallest_4 : decode cX1_findSmallest 4 = .ok (.bipush (-13), 2) := by decide +kernel
theorem dX1_findSmallest_6 : decode cX1_findSmallest 6 = .ok (.invokestatic 22, 3) := by decide +kernel
theorem dX1_findSmallest_9 : decode cX1_findSmallest 9 = .ok (.iconst 0, 1) := by decide +kernel
theorem dX1_findSmallest_10 : decode cX1_findSmallest 10 = .ok (.istore_n 1, 1) := by decide +kernel
theorem dX1_findSmallest_11 : decode cX1_findSmallest 11 = .ok (.iload_n 1, 1) := by decide +kernel
theorem dX1_findSmallest_12 : decode cX1_findSmallest 12 = .ok (.iconst 4, 1) := by decide +kernel
theorem dX1_findSmallest_13 : decode cX1_findSmallest 13 = .ok (.if_icmp .ge 33, 3) := by decide +kernel
theorem dX1_findSmallest_16 : decode cX1_findSmallest 16 = .ok (.iconst 0, 1) := by decide +kernel
theorem dX1_findSmallest_17 : decode cX1_findSmallest 17 = .ok (.istore_n 2, 1) := by decide +kernel
theorem dX1_findSmallest_18 : decode cX1_findSmallest 18 = .ok (.iload_n 2, 1) := by decide +kernel
theorem dX1_findSmallest_19 : decode cX1_findSmallest 19 = .ok (.aload_n 0, 1) := by decide +kernel
theorem dX1_findSmallest_20 : decode cX1_findSmallest 20 = .ok (.getfield 18, 3) := by decide +kernel
theorem dX1_findSmallest_23 : decode cX1_findSmallest 23 = .ok (.getfield 34, 3) := by decide +kernel
theorem dX1_findSmallest_26 : decode cX1_findSmallest 26 = .ok (.if_icmp .ge 14, 3) := by decide +kernel
theorem dX1_findSmallest_29 : decode cX1_findSmallest 29 = .ok (.aload_n 0, 1) := by decide +kernel
theorem dX1_findSmallest_30 : decode cX1_findSmallest 30 = .ok (.iload_n 2, 1) := by decide +kernel
theorem dX1_findSmallest_31 : decode cX1_findSmallest 31 = .ok (.invokevirtual 40, 3) := by decide +kernel
theorem dX1_findSmallest_34 : decode cX1_findSmallest 34 = .ok (.iinc 2 1, 3) := by decide +kernel
theorem dX1_findSmallest_37 : decode cX1_findSmallest 37 = .ok (.goto (-19), 3) := by decide +kernel
theorem dX1_findSmallest_40 : decode cX1_findSmallest 40 = .ok (.iinc 1 1, 3) := by decide +kernel
theorem dX1_findSmallest_43 : decode cX1_findSmallest 43 = .ok (.goto (-32), 3) := by decide +kernel
theorem dX1_findSmallest_46 : decode cX1_findSmallest 46 = .ok (.return_, 1) := by decide +kernel
theorem dX1_improveSmallest_0 : decode cX1_improveSmallest 0 = .ok (.aload_n 0, 1) := by decide +kernel
theorem dX1_improveSmallest_1 : decode cX1_improveSmallest 1 = .ok (.iload_n 1, 1) := by decide +kernel
theorem dX1_improveSmallest_2 : decode cX1_improveSmallest 2 = .ok (.invokevirtual 44, 3) := by decide +kernel
theorem dX1_improveSmallest_5 : decode cX1_improveSmallest 5 = .ok (.ifCond .ne 4, 3) := by decide +kernel
theorem dX1_improveSmallest_8 : decode cX1_improveSmallest 8 = .ok (.return_, 1) := by decide +kernel
theorem dX1_improveSmallest_9 : decode cX1_improveSmallest 9 = .ok (.iconst 1, 1) := by decide +kernel
theorem dX1_improveSmallest_10 : decode cX1_improveSmallest 10 = .ok (.istore_n 2, 1) := by decide +kernel
theorem dX1_improveSmallest_11 : decode cX1_improveSmallest 11 = .ok (.iconst 0, 1) := by decide +kernel
theorem dX1_improveSmallest_12 : decode cX1_improveSmallest 12 = .ok (.istore_n 3, 1) := by decide +kernel
theorem dX1_improveSmallest_13 : decode cX1_improveSmallest 13 = .ok (.iload_n 3, 1) := by decide +kernel
theorem dX1_improveSmallest_14 : decode cX1_improveSmallest 14 = .ok (.aload_n 0, 1) := by decide +kernel
theorem dX1_improveSmallest_15 : decode cX1_improveSmallest 15 = .ok (.getfield 18, 3) := by decide +kernel
theorem dX1_improveSmallest_18 : decode cX1_improveSmallest 18 = .ok (.getfield 48, 3) := by decide +kernel
theorem dX1_improveSmallest_21 : decode cX1_improveSmallest 21 = .ok (.iload_n 1, 1) := by decide +kernel
theorem dX1_improveSmallest_22 : decode cX1_improveSmallest 22 = .ok (.iaload, 1) := by decide +kernel
theorem dX1_improveSmallest_23 : decode cX1_improveSmallest 23 = .ok (.if_icmp .ge 26, 3) := by decide +kernel
theorem dX1_improveSmallest_26 : decode cX1_improveSmallest 26 = .ok (.iload_n 2, 1) := by decide +kernel
theorem dX1_improveSmallest_27 : decode cX1_improveSmallest 27 = .ok (.aload_n 0, 1) := by decide +kernel
theorem dX1_improveSmallest_28 : decode cX1_improveSmallest 28 = .ok (.getfield 9, 3) := by decide +kernel
theorem dX1_improveSmallest_31 : decode cX1_improveSmallest 31 = .ok (.aload_n 0, 1) := by decide +kernel
theorem dX1_improveSmallest_32 : decode cX1_improveSmallest 32 = .ok (.getfield 18, 3) := by decide +kernel
theorem dX1_improveSmallest_35 : decode cX1_improveSmallest 35 = .ok (.iload_n 1, 1) := by decide +kernel
theorem dX1_improveSmallest_36 : decode cX1_improveSmallest 36 = .ok (.iload_n 3, 1) := by decide +kernel
theorem dX1_improveSmallest_37 : decode cX1_improveSmallest 37 = .ok (.invokevirtual 51, 3) := by decide +kernel
theorem dX1_improveSmallest_40 : decode cX1_improveSmallest 40 = .ok (.iaload, 1) := by decide +kernel
theorem dX1_improveSmallest_41 : decode cX1_improveSmallest 41 = .ok (.iadd, 1) := by decide +kernel
theorem dX1_improveSmallest_42 : decode cX1_improveSmallest 42 = .ok (.istore_n 2, 1) := by decide +kernel
theorem dX1_improveSmallest_43 : decode cX1_improveSmallest 43 = .ok (.iinc 3 1, 3) := by decide +kernel
theorem dX1_improveSmallest_46 : decode cX1_improveSmallest 46 = .ok (.goto (-33), 3) := by decide +kernel
theorem dX1_improveSmallest_49 : decode cX1_improveSmallest 49 = .ok (.aload_n 0, 1) := by decide +kernel
theorem dX1_improveSmallest_50 : decode cX1_improveSmallest 50 = .ok (.getfield 18, 3) := by decide +kernel
theorem dX1_improveSmallest_53 : decode cX1_improveSmallest 53 = .ok (.getfield 55, 3) := by decide +kernel
theorem dX1_improveSmallest_56 : decode cX1_improveSmallest 56 = .ok (.iload_n 1, 1) := by decide +kernel
theorem dX1_improveSmallest_57 : decode cX1_improveSmallest 57 = .ok (.iaload, 1) := by decide +kernel
theorem dX1_improveSmallest_58 : decode cX1_improveSmallest 58 = .ok (.istore_n 3, 1) := by decide +kernel
theorem dX1_improveSmallest_59 : decode cX1_improveSmallest 59 = .ok (.aload_n 0, 1) := by decide +kernel
theorem dX1_improveSmallest_60 : decode cX1_improveSmallest 60 = .ok (.getfield 9, 3) := by decide +kernel
theorem dX1_improveSmallest_63 : decode cX1_improveSmallest 63 = .ok (.iload_n 3, 1) := by decide +kernel
theorem dX1_improveSmallest_64 : decode cX1_improveSmallest 64 = .ok (.iaload, 1) := by decide +kernel
theorem dX1_improveSmallest_65 : decode cX1_improveSmallest 65 = .ok (.bipush (-13), 2) := by decide +kernel
theorem dX1_improveSmallest_67 : decode cX1_improveSmallest 67 = .ok (.if_icmp .eq 13, 3) := by decide +kernel
theorem dX1_improveSmallest_70 : decode cX1_improveSmallest 70 = .ok (.iload_n 2, 1) := by decide +kernel
theorem dX1_improveSmallest_71 : decode cX1_improveSmallest 71 = .ok (.aload_n 0, 1) := by decide +kernel
theorem dX1_improveSmallest_72 : decode cX1_improveSmallest 72 = .ok (.getfield 9, 3) := by decide +kernel
theorem dX1_improveSmallest_75 : decode cX1_improveSmallest 75 = .ok (.iload_n 3, 1) := by decide +kernel
theorem dX1_improveSmallest_76 : decode cX1_improveSmallest 76 = .ok (.iaload, 1) := by decide +kernel
theorem dX1_improveSmallest_77 : decode cX1_improveSmallest 77 = .ok (.if_icmp .ge 10, 3) := by decide +kernel
theorem dX1_improveSmallest_80 : decode cX1_improveSmallest 80 = .ok (.aload_n 0, 1) := by decide +kernel
theorem dX1_improveSmallest_81 : decode cX1_improveSmallest 81 = .ok (.getfield 9, 3) := by decide +kernel
theorem dX1_improveSmallest_84 : decode cX1_improveSmallest 84 = .ok (.iload_n 3, 1) := by decide +kernel
theorem dX1_improveSmallest_85 : decode cX1_improveSmallest 85 = .ok (.iload_n 2, 1) := by decide +kernel
theorem dX1_improveSmallest_86 : decode cX1_improveSmallest 86 = .ok (.iastore, 1) := by decide +kernel
theorem dX1_improveSmallest_87 : decode cX1_improveSmallest 87 = .ok (.return_, 1) := by decide +kernel
theorem dX1_isUsable_0 : decode cX1_isUsable 0 = .ok (.iconst 0, 1) := by decide +kernel
theorem dX1_isUsable_1 : decode cX1_isUsable 1 = .ok (.istore_n 2, 1) := by decide +kernel
theorem dX1_isUsable_2 : decode cX1_isUsable 2 = .ok (.iload_n 2, 1) := by decide +kernel
theorem dX1_isUsable_3 : decode cX1_isUsable 3 = .ok (.aload_n 0, 1) := by decide +kernel
theorem dX1_isUsable_4 : decode cX1_isUsable 4 = .ok (.getfield 18, 3) := by decide +kernel
theorem dX1_isUsable_7 : decode cX1_isUsable 7 = .ok (.getfield 48, 3) := by decide +kernel
theorem dX1_isUsable_10 : decode cX1_isUsable 10 = .ok (.iload_n 1, 1) := by decide +kernel
theorem dX1_isUsable_11 : decode cX1_isUsable 11 = .ok (.iaload, 1) := by decide +kernel
theorem dX1_isUsable_12 : decode cX1_isUsable 12 = .ok (.if_icmp .ge 30, 3) := by decide +kernel
theorem dX1_isUsable_15 : decode cX1_isUsable 15 = .ok (.aload_n 0, 1) := by decide +kernel
theorem dX1_isUsable_16 : decode cX1_isUsable 16 = .ok (.getfield 9, 3) := by decide +kernel
theorem dX1_isUsable_19 : decode cX1_isUsable 19 = .ok (.aload_n 0, 1) := by decide +kernel
theorem dX1_isUsable_20 : decode cX1_isUsable 20 = .ok (.getfield 18, 3) := by decide +kernel
theorem dX1_isUsable_23 : decode cX1_isUsable 23 = .ok (.iload_n 1, 1) := by decide +kernel
theorem dX1_isUsable_24 : decode cX1_isUsable 24 = .ok (.iload_n 2, 1) := by decide +kernel
theorem dX1_isUsable_25 : decode cX1_isUsable 25 = .ok (.invokevirtual 51, 3) := by decide +kernel
theorem dX1_isUsable_28 : decode cX1_isUsable 28 = .ok (.iaload, 1) := by decide +kernel
theorem dX1_isUsable_29 : decode cX1_isUsable 29 = .ok (.bipush (-13), 2) := by decide +kernel
theorem dX1_isUsable_31 : decode cX1_isUsable 31 = .ok (.if_icmp .ne 5, 3) := by decide +kernel
theorem dX1_isUsable_34 : decode cX1_isUsable 34 = .ok (.iconst 0, 1) := by decide +kernel
theorem dX1_isUsable_35 : decode cX1_isUsable 35 = .ok (.ireturn, 1) := by decide +kernel
theorem dX1_isUsable_36 : decode cX1_isUsable 36 = .ok (.iinc 2 1, 3) := by decide +kernel
theorem dX1_isUsable_39 : decode cX1_isUsable 39 = .ok (.goto (-37), 3) := by decide +kernel
theorem dX1_isUsable_42 : decode cX1_isUsable 42 = .ok (.iconst 1, 1) := by decide +kernel
theorem dX1_isUsable_43 : decode cX1_isUsable 43 = .ok (.ireturn, 1) := by decide +kernel
theorem dX1_findTotals_0 : decode cX1_findTotals 0 = .ok (.aload_n 0, 1) := by decide +kernel
theorem dX1_findTotals_1 : decode cX1_findTotals 1 = .ok (.getfield 15, 3) := by decide +kernel
theorem dX1_findTotals_4 : decode cX1_findTotals 4 = .ok (.bipush (-14), 2) := by decide +kernel
theorem dX1_findTotals_6 : decode cX1_findTotals 6 = .ok (.invokestatic 22, 3) := by decide +kernel
theorem dX1_findTotals_9 : decode cX1_findTotals 9 = .ok (.iconst 0, 1) := by decide +kernel
theorem dX1_findTotals_10 : decode cX1_findTotals 10 = .ok (.istore_n 1, 1) := by decide +kernel
theorem dX1_findTotals_11 : decode cX1_findTotals 11 = .ok (.iload_n 1, 1) := by decide +kernel
theorem dX1_findTotals_12 : decode cX1_findTotals 12 = .ok (.iconst 4, 1) := by decide +kernel
theorem dX1_findTotals_13 : decode cX1_findTotals 13 = .ok (.if_icmp .ge 33, 3) := by decide +kernel
theorem dX1_findTotals_16 : decode cX1_findTotals 16 = .ok (.iconst 0, 1) := by decide +kernel
theorem dX1_findTotals_17 : decode cX1_findTotals 17 = .ok (.istore_n 2, 1) := by decide +kernel
theorem dX1_findTotals_18 : decode cX1_findTotals 18 = .ok (.iload_n 2, 1) := by decide +kernel
theorem dX1_findTotals_19 : decode cX1_findTotals 19 = .ok (.iconst 4, 1) := by decide +kernel
theorem dX1_findTotals_20 : decode cX1_findTotals 20 = .ok (.if_icmp .ge 20, 3) := by decide +kernel
theorem dX1_findTotals_23 : decode cX1_findTotals 23 = .ok (.aload_n 0, 1) := by decide +kernel
theorem dX1_findTotals_24 : decode cX1_findTotals 24 = .ok (.getfield 15, 3) := by decide +kernel
theorem dX1_findTotals_27 : decode cX1_findTotals 27 = .ok (.iload_n 2, 1) := by decide +kernel
theorem dX1_findTotals_28 : decode cX1_findTotals 28 = .ok (.aload_n 0, 1) := by decide +kernel
theorem dX1_findTotals_29 : decode cX1_findTotals 29 = .ok (.iload_n 2, 1) := by decide +kernel
theorem dX1_findTotals_30 : decode cX1_findTotals 30 = .ok (.invokevirtual 58, 3) := by decide +kernel
theorem dX1_findTotals_33 : decode cX1_findTotals 33 = .ok (.iastore, 1) := by decide +kernel
theorem dX1_findTotals_34 : decode cX1_findTotals 34 = .ok (.iinc 2 1, 3) := by decide +kernel
theorem dX1_findTotals_37 : decode cX1_findTotals 37 = .ok (.goto (-19), 3) := by decide +kernel
theorem dX1_findTotals_40 : decode cX1_findTotals 40 = .ok (.iinc 1 1, 3) := by decide +kernel
theorem dX1_findTotals_43 : decode cX1_findTotals 43 = .ok (.goto (-32), 3) := by decide +kernel
theorem dX1_findTotals_46 : decode cX1_findTotals 46 = .ok (.return_, 1) := by decide +kernel
theorem dX1_totalOfType_0 : decode cX1_totalOfType 0 = .ok (.iconst 0, 1) := by decide +kernel
theorem dX1_totalOfType_1 : decode cX1_totalOfType 1 = .ok (.istore_n 2, 1) := by decide +kernel
theorem dX1_totalOfType_2 : decode cX1_totalOfType 2 = .ok (.iconst 0, 1) := by decide +kernel
theorem dX1_totalOfType_3 : decode cX1_totalOfType 3 = .ok (.istore_n 3, 1) := by decide +kernel
theorem dX1_totalOfType_4 : decode cX1_totalOfType 4 = .ok (.iload_n 3, 1) := by decide +kernel
theorem dX1_totalOfType_5 : decode cX1_totalOfType 5 = .ok (.aload_n 0, 1) := by decide +kernel
theorem dX1_totalOfType_6 : decode cX1_totalOfType 6 = .ok (.getfield 18, 3) := by decide +kernel
theorem dX1_totalOfType_9 : decode cX1_totalOfType 9 = .ok (.getfield 34, 3) := by decide +kernel
theorem dX1_totalOfType_12 : decode cX1_totalOfType 12 = .ok (.if_icmp .ge 54, 3) := by decide +kernel
theorem dX1_totalOfType_15 : decode cX1_totalOfType 15 = .ok (.aload_n 0, 1) := by decide +kernel
theorem dX1_totalOfType_16 : decode cX1_totalOfType 16 = .ok (.getfield 18, 3) := by decide +kernel
theorem dX1_totalOfType_19 : decode cX1_totalOfType 19 = .ok (.getfield 55, 3) := by decide +kernel
theorem dX1_totalOfType_22 : decode cX1_totalOfType 22 = .ok (.iload_n 3, 1) := by decide +kernel
theorem dX1_totalOfType_23 : decode cX1_totalOfType 23 = .ok (.iaload, 1) := by decide +kernel
theorem dX1_totalOfType_24 : decode cX1_totalOfType 24 = .ok (.iload_n 1, 1) := by decide +kernel
theorem dX1_totalOfType_25 : decode cX1_totalOfType 25 = .ok (.if_icmp .ne 35, 3) := by decide +kernel
theorem dX1_totalOfType_28 : decode cX1_totalOfType 28 = .ok (.aload_n 0, 1) := by decide +kernel
theorem dX1_totalOfType_29 : decode cX1_totalOfType 29 = .ok (.iload_n 3, 1) := by decide +kernel
theorem dX1_totalOfType_30 : decode cX1_totalOfType 30 = .ok (.invokevirtual 44, 3) := by decide +kernel
theorem dX1_totalOfType_33 : decode cX1_totalOfType 33 = .ok (.ifCond .eq 27, 3) := by decide +kernel
theorem dX1_totalOfType_36 : decode cX1_totalOfType 36 = .ok (.aload_n 0, 1) := by decide +kernel
theorem dX1_totalOfType_37 : decode cX1_totalOfType 37 = .ok (.iload_n 3, 1) := by decide +kernel
theorem dX1_totalOfType_38 : decode cX1_totalOfType 38 = .ok (.invokevirtual 62, 3) := by decide +kernel
theorem dX1_totalOfType_41 : decode cX1_totalOfType 41 = .ok (.istore 4, 2) := by decide +kernel
theorem dX1_totalOfType_43 : decode cX1_totalOfType 43 = .ok (.iload 4, 2) := by decide +kernel
theorem dX1_totalOfType_45 : decode cX1_totalOfType 45 = .ok (.bipush (-14), 2) := by decide +kernel
theorem dX1_totalOfType_47 : decode cX1_totalOfType 47 = .ok (.if_icmp .ne 6, 3) := by decide +kernel
theorem dX1_totalOfType_50 : decode cX1_totalOfType 50 = .ok (.bipush (-14), 2) := by decide +kernel
theorem dX1_totalOfType_52 : decode cX1_totalOfType 52 = .ok (.ireturn, 1) := by decide +kernel
theorem dX1_totalOfType_53 : decode cX1_totalOfType 53 = .ok (.iload_n 2, 1) := by decide +kernel
theorem dX1_totalOfType_54 : decode cX1_totalOfType 54 = .ok (.iload 4, 2) := by decide +kernel
theorem dX1_totalOfType_56 : decode cX1_totalOfType 56 = .ok (.invokestatic 65, 3) := by decide +kernel
theorem dX1_totalOfType_59 : decode cX1_totalOfType 59 = .ok (.istore_n 2, 1) := by decide +kernel
theorem dX1_totalOfType_60 : decode cX1_totalOfType 60 = .ok (.iinc 3 1, 3) := by decide +kernel
theorem dX1_totalOfType_63 : decode cX1_totalOfType 63 = .ok (.goto (-59), 3) := by decide +kernel
theorem dX1_totalOfType_66 : decode cX1_totalOfType 66 = .ok (.iload_n 2, 1) := by decide +kernel
theorem dX1_totalOfType_67 : decode cX1_totalOfType 67 = .ok (.ireturn, 1) := by decide +kernel
theorem dX1_totalOfConstructor_0 : decode cX1_totalOfConstructor 0 = .ok (.iconst 1, 1) := by decide +kernel
theorem dX1_totalOfConstructor_1 : decode cX1_totalOfConstructor 1 = .ok (.istore_n 2, 1) := by decide +kernel
theorem dX1_totalOfConstructor_2 : decode cX1_totalOfConstructor 2 = .ok (.iconst 0, 1) := by decide +kernel
theorem dX1_totalOfConstructor_3 : decode cX1_totalOfConstructor 3 = .ok (.istore_n 3, 1) := by decide +kernel
theorem dX1_totalOfConstructor_4 : decode cX1_totalOfConstructor 4 = .ok (.iload_n 3, 1) := by decide +kernel
theorem dX1_totalOfConstructor_5 : decode cX1_totalOfConstructor 5 = .ok (.aload_n 0, 1) := by decide +kernel
theorem dX1_totalOfConstructor_6 : decode cX1_totalOfConstructor 6 = .ok (.getfield 18, 3) := by decide +kernel
theorem dX1_totalOfConstructor_9 : decode cX1_totalOfConstructor 9 = .ok (.getfield 48, 3) := by decide +kernel
theorem dX1_totalOfConstructor_12 : decode cX1_totalOfConstructor 12 = .ok (.iload_n 1, 1) := by decide +kernel
theorem dX1_totalOfConstructor_13 : decode cX1_totalOfConstructor 13 = .ok (.iaload, 1) := by decide +kernel
theorem dX1_totalOfConstructor_14 : decode cX1_totalOfConstructor 14 = .ok (.if_icmp .ge 42, 3) := by decide +kernel
theorem dX1_totalOfConstructor_17 : decode cX1_totalOfConstructor 17 = .ok (.aload_n 0, 1) := by decide +kernel
theorem dX1_totalOfConstructor_18 : decode cX1_totalOfConstructor 18 = .ok (.getfield 15, 3) := by decide +kernel
theorem dX1_totalOfConstructor_21 : decode cX1_totalOfConstructor 21 = .ok (.aload_n 0, 1) := by decide +kernel
theorem dX1_totalOfConstructor_22 : decode cX1_totalOfConstructor 22 = .ok (.getfield 18, 3) := by decide +kernel
theorem dX1_totalOfConstructor_25 : decode cX1_totalOfConstructor 25 = .ok (.iload_n 1, 1) := by decide +kernel
theorem dX1_totalOfConstructor_26 : decode cX1_totalOfConstructor 26 = .ok (.iload_n 3, 1) := by decide +kernel
theorem dX1_totalOfConstructor_27 : decode cX1_totalOfConstructor 27 = .ok (.invokevirtual 51, 3) := by decide +kernel
theorem dX1_totalOfConstructor_30 : decode cX1_totalOfConstructor 30 = .ok (.iaload, 1) := by decide +kernel
theorem dX1_totalOfConstructor_31 : decode cX1_totalOfConstructor 31 = .ok (.istore 4, 2) := by decide +kernel
theorem dX1_totalOfConstructor_33 : decode cX1_totalOfConstructor 33 = .ok (.iload 4, 2) := by decide +kernel
theorem dX1_totalOfConstructor_35 : decode cX1_totalOfConstructor 35 = .ok (.bipush (-14), 2) := by decide +kernel
theorem dX1_totalOfConstructor_37 : decode cX1_totalOfConstructor 37 = .ok (.if_icmp .ne 6, 3) := by decide +kernel
theorem dX1_totalOfConstructor_40 : decode cX1_totalOfConstructor 40 = .ok (.bipush (-14), 2) := by decide +kernel
theorem dX1_totalOfConstructor_42 : decode cX1_totalOfConstructor 42 = .ok (.ireturn, 1) := by decide +kernel
theorem dX1_totalOfConstructor_43 : decode cX1_totalOfConstructor 43 = .ok (.iload_n 2, 1) := by decide +kernel
theorem dX1_totalOfConstructor_44 : decode cX1_totalOfConstructor 44 = .ok (.iload 4, 2) := by decide +kernel
theorem dX1_totalOfConstructor_46 : decode cX1_totalOfConstructor 46 = .ok (.invokestatic 68, 3) := by decide +kernel
theorem dX1_totalOfConstructor_49 : decode cX1_totalOfConstructor 49 = .ok (.istore_n 2, 1) := by decide +kernel
theorem dX1_totalOfConstructor_50 : decode cX1_totalOfConstructor 50 = .ok (.iinc 3 1, 3) := by decide +kernel
theorem dX1_totalOfConstructor_53 : decode cX1_totalOfConstructor 53 = .ok (.goto (-49), 3) := by decide +kernel
theorem dX1_totalOfConstructor_56 : decode cX1_totalOfConstructor 56 = .ok (.iload_n 2, 1) := by decide +kernel
theorem dX1_totalOfConstructor_57 : decode cX1_totalOfConstructor 57 = .ok (.ireturn, 1) := by decide +kernel
theorem dX2_subjectType_0 : decode cX2_subjectType 0 = .ok (.aload_n 0, 1) := by decide +kernel
theorem dX2_subjectType_1 : decode cX2_subjectType 1 = .ok (.getfield 30, 3) := by decide +kernel
theorem dX2_subjectType_4 : decode cX2_subjectType 4 = .ok (.getfield 34, 3) := by decide +kernel
theorem dX2_subjectType_7 : decode cX2_subjectType 7 = .ok (.aload_n 0, 1) := by decide +kernel
theorem dX2_subjectType_8 : decode cX2_subjectType 8 = .ok (.getfield 9, 3) := by decide +kernel
theorem dX2_subjectType_11 : decode cX2_subjectType 11 = .ok (.iconst 0, 1) := by decide +kernel
theorem dX2_subjectType_12 : decode cX2_subjectType 12 = .ok (.iaload, 1) := by decide +kernel
theorem dX2_subjectType_13 : decode cX2_subjectType 13 = .ok (.iaload, 1) := by decide +kernel
theorem dX2_subjectType_14 : decode cX2_subjectType 14 = .ok (.ireturn, 1) := by decide +kernel
theorem dX2_append_0 : decode cX2_append 0 = .ok (.aload_n 0, 1) := by decide +kernel
theorem dX2_append_1 : decode cX2_append 1 = .ok (.getfield 39, 3) := by decide +kernel
theorem dX2_append_4 : decode cX2_append 4 = .ok (.istore_n 2, 1) := by decide +kernel
theorem dX2_append_5 : decode cX2_append 5 = .ok (.aload_n 0, 1) := by decide +kernel
theorem dX2_append_6 : decode cX2_append 6 = .ok (.getfield 9, 3) := by decide +kernel
theorem dX2_append_9 : decode cX2_append 9 = .ok (.iload_n 2, 1) := by decide +kernel
theorem dX2_append_10 : decode cX2_append 10 = .ok (.iload_n 1, 1) := by decide +kernel
theorem dX2_append_11 : decode cX2_append 11 = .ok (.iastore, 1) := by decide +kernel
theorem dX2_append_12 : decode cX2_append 12 = .ok (.aload_n 0, 1) := by decide +kernel
theorem dX2_append_13 : decode cX2_append 13 = .ok (.dup, 1) := by decide +kernel
theorem dX2_append_14 : decode cX2_append 14 = .ok (.getfield 39, 3) := by decide +kernel
theorem dX2_append_17 : decode cX2_append 17 = .ok (.iconst 1, 1) := by decide +kernel
theorem dX2_append_18 : decode cX2_append 18 = .ok (.iadd, 1) := by decide +kernel
theorem dX2_append_19 : decode cX2_append 19 = .ok (.putfield 39, 3) := by decide +kernel
theorem dX2_append_22 : decode cX2_append 22 = .ok (.iload_n 2, 1) := by decide +kernel
theorem dX2_append_23 : decode cX2_append 23 = .ok (.ireturn, 1) := by decide +kernel
theorem dX2_firstFitting_0 : decode cX2_firstFitting 0 = .ok (.iconst 0, 1) := by decide +kernel
theorem dX2_firstFitting_1 : decode cX2_firstFitting 1 = .ok (.istore_n 3, 1) := by decide +kernel
theorem dX2_firstFitting_2 : decode cX2_firstFitting 2 = .ok (.iload_n 3, 1) := by decide +kernel
theorem dX2_firstFitting_3 : decode cX2_firstFitting 3 = .ok (.aload_n 0, 1) := by decide +kernel
theorem dX2_firstFitting_4 : decode cX2_firstFitting 4 = .ok (.getfield 39, 3) := by decide +kernel
theorem dX2_firstFitting_7 : decode cX2_firstFitting 7 = .ok (.if_icmp .ge 26, 3) := by decide +kernel
theorem dX2_firstFitting_10 : decode cX2_firstFitting 10 = .ok (.aload_n 0, 1) := by decide +kernel
theorem dX2_firstFitting_11 : decode cX2_firstFitting 11 = .ok (.aload_n 0, 1) := by decide +kernel
theorem dX2_firstFitting_12 : decode cX2_firstFitting 12 = .ok (.getfield 9, 3) := by decide +kernel
theorem dX2_firstFitting_15 : decode cX2_firstFitting 15 = .ok (.iload_n 3, 1) := by decide +kernel
theorem dX2_firstFitting_16 : decode cX2_firstFitting 16 = .ok (.iaload, 1) := by decide +kernel
theorem dX2_firstFitting_17 : decode cX2_firstFitting 17 = .ok (.aload_n 1, 1) := by decide +kernel
theorem dX2_firstFitting_18 : decode cX2_firstFitting 18 = .ok (.iload_n 2, 1) := by decide +kernel
theorem dX2_firstFitting_19 : decode cX2_firstFitting 19 = .ok (.invokevirtual 43, 3) := by decide +kernel
theorem dX2_firstFitting_22 : decode cX2_firstFitting 22 = .ok (.ifCond .eq 5, 3) := by decide +kernel
theorem dX2_firstFitting_25 : decode cX2_firstFitting 25 = .ok (.iload_n 3, 1) := by decide +kernel
theorem dX2_firstFitting_26 : decode cX2_firstFitting 26 = .ok (.ireturn, 1) := by decide +kernel
theorem dX2_firstFitting_27 : decode cX2_firstFitting 27 = .ok (.iinc 3 1, 3) := by decide +kernel
theorem dX2_firstFitting_30 : decode cX2_firstFitting 30 = .ok (.goto (-28), 3) := by decide +kernel
theorem dX2_firstFitting_33 : decode cX2_firstFitting 33 = .ok (.bipush (-13), 2) := by decide +kernel
theorem dX2_firstFitting_35 : decode cX2_firstFitting 35 = .ok (.ireturn, 1) := by decide +kernel
theorem dX2_fits_0 : decode cX2_fits 0 = .ok (.aload_n 0, 1) := by decide +kernel
theorem dX2_fits_1 : decode cX2_fits 1 = .ok (.dup, 1) := by decide +kernel
theorem dX2_fits_2 : decode cX2_fits 2 = .ok (.getfield 47, 3) := by decide +kernel
theorem dX2_fits_5 : decode cX2_fits 5 = .ok (.iconst 1, 1) := by decide +kernel
theorem dX2_fits_6 : decode cX2_fits 6 = .ok (.iadd, 1) := by decide +kernel
theorem dX2_fits_7 : decode cX2_fits 7 = .ok (.putfield 47, 3) := by decide +kernel
theorem dX2_fits_10 : decode cX2_fits 10 = .ok (.aload_n 0, 1) := by decide +kernel
theorem dX2_fits_11 : decode cX2_fits 11 = .ok (.iconst 0, 1) := by decide +kernel
theorem dX2_fits_12 : decode cX2_fits 12 = .ok (.putfield 50, 3) := by decide +kernel
theorem dX2_fits_15 : decode cX2_fits 15 = .ok (.aload_n 0, 1) := by decide +kernel
theorem dX2_fits_16 : decode cX2_fits 16 = .ok (.iload_n 1, 1) := by decide +kernel
theorem dX2_fits_17 : decode cX2_fits 17 = .ok (.iload_n 3, 1) := by decide +kernel
theorem dX2_fits_18 : decode cX2_fits 18 = .ok (.invokevirtual 53, 3) := by decide +kernel
theorem dX2_fits_21 : decode cX2_fits 21 = .ok (.iconst 1, 1) := by decide +kernel
theorem dX2_fits_22 : decode cX2_fits 22 = .ok (.istore 4, 2) := by decide +kernel
theorem dX2_fits_24 : decode cX2_fits 24 = .ok (.iconst 0, 1) := by decide +kernel
theorem dX2_fits_25 : decode cX2_fits 25 = .ok (.istore 5, 2) := by decide +kernel
theorem dX2_fits_27 : decode cX2_fits 27 = .ok (.iload 4, 2) := by decide +kernel
theorem dX2_fits_29 : decode cX2_fits 29 = .ok (.ifCond .eq 65, 3) := by decide +kernel
theorem dX2_fits_32 : decode cX2_fits 32 = .ok (.aload_n 0, 1) := by decide +kernel
theorem dX2_fits_33 : decode cX2_fits 33 = .ok (.getfield 50, 3) := by decide +kernel
theorem dX2_fits_36 : decode cX2_fits 36 = .ok (.ifCond .le 58, 3) := by decide +kernel
theorem dX2_fits_39 : decode cX2_fits 39 = .ok (.iload 5, 2) := by decide +kernel
theorem dX2_fits_41 : decode cX2_fits 41 = .ok (.ldc 57, 2) := by decide +kernel
theorem dX2_fits_43 : decode cX2_fits 43 = .ok (.if_icmp .ge 51, 3) := by decide +kernel
theorem dX2_fits_46 : decode cX2_fits 46 = .ok (.aload_n 0, 1) := by decide +kernel
theorem dX2_fits_47 : decode cX2_fits 47 = .ok (.dup, 1) := by decide +kernel
theorem dX2_fits_48 : decode cX2_fits 48 = .ok (.getfield 50, 3) := by decide +kernel
theorem dX2_fits_51 : decode cX2_fits 51 = .ok (.iconst 1, 1) := by decide +kernel
theorem dX2_fits_52 : decode cX2_fits 52 = .ok (.isub, 1) := by decide +kernel
theorem dX2_fits_53 : decode cX2_fits 53 = .ok (.putfield 50, 3) := by decide +kernel
theorem dX2_fits_56 : decode cX2_fits 56 = .ok (.aload_n 0, 1) := by decide +kernel
theorem dX2_fits_57 : decode cX2_fits 57 = .ok (.aload_n 0, 1) := by decide +kernel
theorem dX2_fits_58 : decode cX2_fits 58 = .ok (.getfield 30, 3) := by decide +kernel
theorem dX2_fits_61 : decode cX2_fits 61 = .ok (.aload_n 0, 1) := by decide +kernel
theorem dX2_fits_62 : decode cX2_fits 62 = .ok (.getfield 21, 3) := by decide +kernel
theorem dX2_fits_65 : decode cX2_fits 65 = .ok (.aload_n 0, 1) := by decide +kernel
theorem dX2_fits_66 : decode cX2_fits 66 = .ok (.getfield 50, 3) := by decide +kernel
theorem dX2_fits_69 : decode cX2_fits 69 = .ok (.iaload, 1) := by decide +kernel
theorem dX2_fits_70 : decode cX2_fits 70 = .ok (.invokevirtual 58, 3) := by decide +kernel
theorem dX2_fits_73 : decode cX2_fits 73 = .ok (.aload_n 2, 1) := by decide +kernel
theorem dX2_fits_74 : decode cX2_fits 74 = .ok (.aload_n 0, 1) := by decide +kernel
theorem dX2_fits_75 : decode cX2_fits 75 = .ok (.getfield 24, 3) := by decide +kernel
theorem dX2_fits_78 : decode cX2_fits 78 = .ok (.aload_n 0, 1) := by decide +kernel
theorem dX2_fits_79 : decode cX2_fits 79 = .ok (.getfield 50, 3) := by decide +kernel
theorem dX2_fits_82 : decode cX2_fits 82 = .ok (.iaload, 1) := by decide +kernel
theorem dX2_fits_83 : decode cX2_fits 83 = .ok (.invokevirtual 62, 3) := by decide +kernel
theorem dX2_fits_86 : decode cX2_fits 86 = .ok (.istore 4, 2) := by decide +kernel
theorem dX2_fits_88 : decode cX2_fits 88 = .ok (.iinc 5 1, 3) := by decide +kernel
theorem dX2_fits_91 : decode cX2_fits 91 = .ok (.goto (-64), 3) := by decide +kernel
theorem dX2_fits_94 : decode cX2_fits 94 = .ok (.iload 4, 2) := by decide +kernel
theorem dX2_fits_96 : decode cX2_fits 96 = .ok (.ireturn, 1) := by decide +kernel
theorem dX2_fitsAtRoot_0 : decode cX2_fitsAtRoot 0 = .ok (.aload_n 0, 1) := by decide +kernel
theorem dX2_fitsAtRoot_1 : decode cX2_fitsAtRoot 1 = .ok (.getfield 30, 3) := by decide +kernel
theorem dX2_fitsAtRoot_4 : decode cX2_fitsAtRoot 4 = .ok (.iload_n 1, 1) := by decide +kernel
theorem dX2_fitsAtRoot_5 : decode cX2_fitsAtRoot 5 = .ok (.invokevirtual 65, 3) := by decide +kernel
theorem dX2_fitsAtRoot_8 : decode cX2_fitsAtRoot 8 = .ok (.ifCond .eq 10, 3) := by decide +kernel
theorem dX2_fitsAtRoot_11 : decode cX2_fitsAtRoot 11 = .ok (.aload_n 0, 1) := by decide +kernel
theorem dX2_fitsAtRoot_12 : decode cX2_fitsAtRoot 12 = .ok (.iload_n 1, 1) := by decide +kernel
theorem dX2_fitsAtRoot_13 : decode cX2_fitsAtRoot 13 = .ok (.iload_n 3, 1) := by decide +kernel
theorem dX2_fitsAtRoot_14 : decode cX2_fitsAtRoot 14 = .ok (.invokevirtual 69, 3) := by decide +kernel
theorem dX2_fitsAtRoot_17 : decode cX2_fitsAtRoot 17 = .ok (.ireturn, 1) := by decide +kernel
theorem dX2_fitsAtRoot_18 : decode cX2_fitsAtRoot 18 = .ok (.aload_n 0, 1) := by decide +kernel
theorem dX2_fitsAtRoot_19 : decode cX2_fitsAtRoot 19 = .ok (.getfield 30, 3) := by decide +kernel
theorem dX2_fitsAtRoot_22 : decode cX2_fitsAtRoot 22 = .ok (.getfield 73, 3) := by decide +kernel
theorem dX2_fitsAtRoot_25 : decode cX2_fitsAtRoot 25 = .ok (.iload_n 1, 1) := by decide +kernel
theorem dX2_fitsAtRoot_26 : decode cX2_fitsAtRoot 26 = .ok (.iaload, 1) := by decide +kernel
theorem dX2_fitsAtRoot_27 : decode cX2_fitsAtRoot 27 = .ok (.istore 4, 2) := by decide +kernel
theorem dX2_fitsAtRoot_29 : decode cX2_fitsAtRoot 29 = .ok (.aload_n 2, 1) := by decide +kernel
theorem dX2_fitsAtRoot_30 : decode cX2_fitsAtRoot 30 = .ok (.iload_n 3, 1) := by decide +kernel
theorem dX2_fitsAtRoot_31 : decode cX2_fitsAtRoot 31 = .ok (.iload 4, 2) := by decide +kernel
theorem dX2_fitsAtRoot_33 : decode cX2_fitsAtRoot 33 = .ok (.invokeinterface 76 3, 5) := by decide +kernel
theorem dX2_fitsAtRoot_38 : decode cX2_fitsAtRoot 38 = .ok (.ifCond .ne 5, 3) := by decide +kernel
theorem dX2_fitsAtRoot_41 : decode cX2_fitsAtRoot 41 = .ok (.iconst 0, 1) := by decide +kernel
theorem dX2_fitsAtRoot_42 : decode cX2_fitsAtRoot 42 = .ok (.ireturn, 1) := by decide +kernel
theorem dX2_fitsAtRoot_43 : decode cX2_fitsAtRoot 43 = .ok (.aload_n 2, 1) := by decide +kernel
theorem dX2_fitsAtRoot_44 : decode cX2_fitsAtRoot 44 = .ok (.iload_n 3, 1) := by decide +kernel
theorem dX2_fitsAtRoot_45 : decode cX2_fitsAtRoot 45 = .ok (.iload 4, 2) := by decide +kernel
theorem dX2_fitsAtRoot_47 : decode cX2_fitsAtRoot 47 = .ok (.aload_n 0, 1) := by decide +kernel
theorem dX2_fitsAtRoot_48 : decode cX2_fitsAtRoot 48 = .ok (.getfield 27, 3) := by decide +kernel
theorem dX2_fitsAtRoot_51 : decode cX2_fitsAtRoot 51 = .ok (.invokeinterface 81 4, 5) := by decide +kernel
theorem dX2_fitsAtRoot_56 : decode cX2_fitsAtRoot 56 = .ok (.iconst 0, 1) := by decide +kernel
theorem dX2_fitsAtRoot_57 : decode cX2_fitsAtRoot 57 = .ok (.istore 5, 2) := by decide +kernel
theorem dX2_fitsAtRoot_59 : decode cX2_fitsAtRoot 59 = .ok (.iload 5, 2) := by decide +kernel
theorem dX2_fitsAtRoot_61 : decode cX2_fitsAtRoot 61 = .ok (.aload_n 0, 1) := by decide +kernel
theorem dX2_fitsAtRoot_62 : decode cX2_fitsAtRoot 62 = .ok (.getfield 30, 3) := by decide +kernel
theorem dX2_fitsAtRoot_65 : decode cX2_fitsAtRoot 65 = .ok (.iload_n 1, 1) := by decide +kernel
theorem dX2_fitsAtRoot_66 : decode cX2_fitsAtRoot 66 = .ok (.invokevirtual 85, 3) := by decide +kernel
theorem dX2_fitsAtRoot_69 : decode cX2_fitsAtRoot 69 = .ok (.if_icmp .ge 34, 3) := by decide +kernel
theorem dX2_fitsAtRoot_72 : decode cX2_fitsAtRoot 72 = .ok (.aload_n 0, 1) := by decide +kernel
theorem dX2_fitsAtRoot_73 : decode cX2_fitsAtRoot 73 = .ok (.aload_n 0, 1) := by decide +kernel
theorem dX2_fitsAtRoot_74 : decode cX2_fitsAtRoot 74 = .ok (.getfield 30, 3) := by decide +kernel
theorem dX2_fitsAtRoot_77 : decode cX2_fitsAtRoot 77 = .ok (.getfield 88, 3) := by decide +kernel
theorem dX2_fitsAtRoot_80 : decode cX2_fitsAtRoot 80 = .ok (.iload_n 1, 1) := by decide +kernel
theorem dX2_fitsAtRoot_81 : decode cX2_fitsAtRoot 81 = .ok (.iconst 3, 1) := by decide +kernel
theorem dX2_fitsAtRoot_82 : decode cX2_fitsAtRoot 82 = .ok (.imul, 1) := by decide +kernel
theorem dX2_fitsAtRoot_83 : decode cX2_fitsAtRoot 83 = .ok (.iload 5, 2) := by decide +kernel
theorem dX2_fitsAtRoot_85 : decode cX2_fitsAtRoot 85 = .ok (.iadd, 1) := by decide +kernel
theorem dX2_fitsAtRoot_86 : decode cX2_fitsAtRoot 86 = .ok (.iaload, 1) := by decide +kernel
theorem dX2_fitsAtRoot_87 : decode cX2_fitsAtRoot 87 = .ok (.aload_n 0, 1) := by decide +kernel
theorem dX2_fitsAtRoot_88 : decode cX2_fitsAtRoot 88 = .ok (.getfield 27, 3) := by decide +kernel
theorem dX2_fitsAtRoot_91 : decode cX2_fitsAtRoot 91 = .ok (.iload 5, 2) := by decide +kernel
theorem dX2_fitsAtRoot_93 : decode cX2_fitsAtRoot 93 = .ok (.iaload, 1) := by decide +kernel
theorem dX2_fitsAtRoot_94 : decode cX2_fitsAtRoot 94 = .ok (.invokevirtual 53, 3) := by decide +kernel
theorem dX2_fitsAtRoot_97 : decode cX2_fitsAtRoot 97 = .ok (.iinc 5 1, 3) := by decide +kernel
theorem dX2_fitsAtRoot_100 : decode cX2_fitsAtRoot 100 = .ok (.goto (-41), 3) := by decide +kernel
theorem dX2_fitsAtRoot_103 : decode cX2_fitsAtRoot 103 = .ok (.iconst 1, 1) := by decide +kernel
theorem dX2_fitsAtRoot_104 : decode cX2_fitsAtRoot 104 = .ok (.ireturn, 1) := by decide +kernel
theorem dX2_fitsVariable_0 : decode cX2_fitsVariable 0 = .ok (.aload_n 0, 1) := by decide +kernel
theorem dX2_fitsVariable_1 : decode cX2_fitsVariable 1 = .ok (.getfield 15, 3) := by decide +kernel
theorem dX2_fitsVariable_4 : decode cX2_fitsVariable 4 = .ok (.iload_n 1, 1) := by decide +kernel
theorem dX2_fitsVariable_5 : decode cX2_fitsVariable 5 = .ok (.iaload, 1) := by decide +kernel
theorem dX2_fitsVariable_6 : decode cX2_fitsVariable 6 = .ok (.aload_n 0, 1) := by decide +kernel
theorem dX2_fitsVariable_7 : decode cX2_fitsVariable 7 = .ok (.getfield 47, 3) := by decide +kernel
theorem dX2_fitsVariable_10 : decode cX2_fitsVariable 10 = .ok (.if_icmp .ne 19, 3) := by decide +kernel
theorem dX2_fitsVariable_13 : decode cX2_fitsVariable 13 = .ok (.aload_n 0, 1) := by decide +kernel
theorem dX2_fitsVariable_14 : decode cX2_fitsVariable 14 = .ok (.getfield 18, 3) := by decide +kernel
theorem dX2_fitsVariable_17 : decode cX2_fitsVariable 17 = .ok (.iload_n 1, 1) := by decide +kernel
theorem dX2_fitsVariable_18 : decode cX2_fitsVariable 18 = .ok (.iaload, 1) := by decide +kernel
theorem dX2_fitsVariable_19 : decode cX2_fitsVariable 19 = .ok (.iload_n 2, 1) := by decide +kernel
theorem dX2_fitsVariable_20 : decode cX2_fitsVariable 20 = .ok (.if_icmp .ne 7, 3) := by decide +kernel
theorem dX2_fitsVariable_23 : decode cX2_fitsVariable 23 = .ok (.iconst 1, 1) := by decide +kernel
theorem dX2_fitsVariable_24 : decode cX2_fitsVariable 24 = .ok (.goto 4, 3) := by decide +kernel
theorem dX2_fitsVariable_27 : decode cX2_fitsVariable 27 = .ok (.iconst 0, 1) := by decide +kernel
theorem dX2_fitsVariable_28 : decode cX2_fitsVariable 28 = .ok (.ireturn, 1) := by decide +kernel
theorem dX2_fitsVariable_29 : decode cX2_fitsVariable 29 = .ok (.aload_n 0, 1) := by decide +kernel
theorem dX2_fitsVariable_30 : decode cX2_fitsVariable 30 = .ok (.getfield 15, 3) := by decide +kernel
theorem dX2_fitsVariable_33 : decode cX2_fitsVariable 33 = .ok (.iload_n 1, 1) := by decide +kernel
theorem dX2_fitsVariable_34 : decode cX2_fitsVariable 34 = .ok (.aload_n 0, 1) := by decide +kernel
theorem dX2_fitsVariable_35 : decode cX2_fitsVariable 35 = .ok (.getfield 47, 3) := by decide +kernel
theorem dX2_fitsVariable_38 : decode cX2_fitsVariable 38 = .ok (.iastore, 1) := by decide +kernel
theorem dX2_fitsVariable_39 : decode cX2_fitsVariable 39 = .ok (.aload_n 0, 1) := by decide +kernel
theorem dX2_fitsVariable_40 : decode cX2_fitsVariable 40 = .ok (.getfield 18, 3) := by decide +kernel
theorem dX2_fitsVariable_43 : decode cX2_fitsVariable 43 = .ok (.iload_n 1, 1) := by decide +kernel
theorem dX2_fitsVariable_44 : decode cX2_fitsVariable 44 = .ok (.iload_n 2, 1) := by decide +kernel
theorem dX2_fitsVariable_45 : decode cX2_fitsVariable 45 = .ok (.iastore, 1) := by decide +kernel
theorem dX2_fitsVariable_46 : decode cX2_fitsVariable 46 = .ok (.iconst 1, 1) := by decide +kernel
theorem dX2_fitsVariable_47 : decode cX2_fitsVariable 47 = .ok (.ireturn, 1) := by decide +kernel
theorem dX2_await_0 : decode cX2_await 0 = .ok (.aload_n 0, 1) := by decide +kernel
theorem dX2_await_1 : decode cX2_await 1 = .ok (.getfield 50, 3) := by decide +kernel
theorem dX2_await_4 : decode cX2_await 4 = .ok (.bipush 60, 2) := by decide +kernel
theorem dX2_await_6 : decode cX2_await 6 = .ok (.if_icmp .ge 33, 3) := by decide +kernel
theorem dX2_await_9 : decode cX2_await 9 = .ok (.aload_n 0, 1) := by decide +kernel
theorem dX2_await_10 : decode cX2_await 10 = .ok (.getfield 21, 3) := by decide +kernel
theorem dX2_await_13 : decode cX2_await 13 = .ok (.aload_n 0, 1) := by decide +kernel
theorem dX2_await_14 : decode cX2_await 14 = .ok (.getfield 50, 3) := by decide +kernel
theorem dX2_await_17 : decode cX2_await 17 = .ok (.iload_n 1, 1) := by decide +kernel
theorem dX2_await_18 : decode cX2_await 18 = .ok (.iastore, 1) := by decide +kernel
theorem dX2_await_19 : decode cX2_await 19 = .ok (.aload_n 0, 1) := by decide +kernel
theorem dX2_await_20 : decode cX2_await 20 = .ok (.getfield 24, 3) := by decide +kernel
theorem dX2_await_23 : decode cX2_await 23 = .ok (.aload_n 0, 1) := by decide +kernel
theorem dX2_await_24 : decode cX2_await 24 = .ok (.getfield 50, 3) := by decide +kernel
theorem dX2_await_27 : decode cX2_await 27 = .ok (.iload_n 2, 1) := by decide +kernel
theorem dX2_await_28 : decode cX2_await 28 = .ok (.iastore, 1) := by decide +kernel
theorem dX2_await_29 : decode cX2_await 29 = .ok (.aload_n 0, 1) := by decide +kernel
theorem dX2_await_30 : decode cX2_await 30 = .ok (.dup, 1) := by decide +kernel
theorem dX2_await_31 : decode cX2_await 31 = .ok (.getfield 50, 3) := by decide +kernel
theorem dX2_await_34 : decode cX2_await 34 = .ok (.iconst 1, 1) := by decide +kernel
theorem dX2_await_35 : decode cX2_await 35 = .ok (.iadd, 1) := by decide +kernel
theorem dX2_await_36 : decode cX2_await 36 = .ok (.putfield 50, 3) := by decide +kernel
theorem dX2_await_39 : decode cX2_await 39 = .ok (.return_, 1) := by decide +kernel
theorem dX3_save_0 : decode cX3_save 0 = .ok (.aload_n 1, 1) := by decide +kernel
theorem dX3_save_1 : decode cX3_save 1 = .ok (.iconst 0, 1) := by decide +kernel
theorem dX3_save_2 : decode cX3_save 2 = .ok (.aload_n 0, 1) := by decide +kernel
theorem dX3_save_3 : decode cX3_save 3 = .ok (.getfield 9, 3) := by decide +kernel
theorem dX3_save_6 : decode cX3_save 6 = .ok (.aload_n 0, 1) := by decide +kernel
theorem dX3_save_7 : decode cX3_save 7 = .ok (.getfield 15, 3) := by decide +kernel
theorem dX3_save_10 : decode cX3_save 10 = .ok (.bipush 100, 2) := by decide +kernel
theorem dX3_save_12 : decode cX3_save 12 = .ok (.imul, 1) := by decide +kernel
theorem dX3_save_13 : decode cX3_save 13 = .ok (.bipush 100, 2) := by decide +kernel
theorem dX3_save_15 : decode cX3_save 15 = .ok (.invokestatic 19, 3) := by decide +kernel
theorem dX3_save_18 : decode cX3_save 18 = .ok (.aload_n 0, 1) := by decide +kernel
theorem dX3_save_19 : decode cX3_save 19 = .ok (.dup, 1) := by decide +kernel
theorem dX3_save_20 : decode cX3_save 20 = .ok (.getfield 15, 3) := by decide +kernel
theorem dX3_save_23 : decode cX3_save 23 = .ok (.iconst 1, 1) := by decide +kernel
theorem dX3_save_24 : decode cX3_save 24 = .ok (.iadd, 1) := by decide +kernel
theorem dX3_save_25 : decode cX3_save 25 = .ok (.putfield 15, 3) := by decide +kernel
theorem dX3_save_28 : decode cX3_save 28 = .ok (.return_, 1) := by decide +kernel
theorem dX3_restore_0 : decode cX3_restore 0 = .ok (.aload_n 0, 1) := by decide +kernel
theorem dX3_restore_1 : decode cX3_restore 1 = .ok (.dup, 1) := by decide +kernel
theorem dX3_restore_2 : decode cX3_restore 2 = .ok (.getfield 15, 3) := by decide +kernel
theorem dX3_restore_5 : decode cX3_restore 5 = .ok (.iconst 1, 1) := by decide +kernel
theorem dX3_restore_6 : decode cX3_restore 6 = .ok (.isub, 1) := by decide +kernel
theorem dX3_restore_7 : decode cX3_restore 7 = .ok (.putfield 15, 3) := by decide +kernel
theorem dX3_restore_10 : decode cX3_restore 10 = .ok (.aload_n 0, 1) := by decide +kernel
theorem dX3_restore_11 : decode cX3_restore 11 = .ok (.getfield 9, 3) := by decide +kernel
theorem dX3_restore_14 : decode cX3_restore 14 = .ok (.aload_n 0, 1) := by decide +kernel
theorem dX3_restore_15 : decode cX3_restore 15 = .ok (.getfield 15, 3) := by decide +kernel
theorem dX3_restore_18 : decode cX3_restore 18 = .ok (.bipush 100, 2) := by decide +kernel
theorem dX3_restore_20 : decode cX3_restore 20 = .ok (.imul, 1) := by decide +kernel
theorem dX3_restore_21 : decode cX3_restore 21 = .ok (.aload_n 1, 1) := by decide +kernel
theorem dX3_restore_22 : decode cX3_restore 22 = .ok (.iconst 0, 1) := by decide +kernel
theorem dX3_restore_23 : decode cX3_restore 23 = .ok (.bipush 100, 2) := by decide +kernel
theorem dX3_restore_25 : decode cX3_restore 25 = .ok (.invokestatic 19, 3) := by decide +kernel
theorem dX3_restore_28 : decode cX3_restore 28 = .ok (.return_, 1) := by decide +kernel
theorem dX4_hasType_0 : decode cX4_hasType 0 = .ok (.iload_n 1, 1) := by decide +kernel
theorem dX4_hasType_1 : decode cX4_hasType 1 = .ok (.ifCond .lt 15, 3) := by decide +kernel
theorem dX4_hasType_4 : decode cX4_hasType 4 = .ok (.iload_n 1, 1) := by decide +kernel
theorem dX4_hasType_5 : decode cX4_hasType 5 = .ok (.aload_n 0, 1) := by decide +kernel
theorem dX4_hasType_6 : decode cX4_hasType 6 = .ok (.getfield 21, 3) := by decide +kernel
theorem dX4_hasType_9 : decode cX4_hasType 9 = .ok (.if_icmp .ge 7, 3) := by decide +kernel
theorem dX4_hasType_12 : decode cX4_hasType 12 = .ok (.iconst 1, 1) := by decide +kernel
theorem dX4_hasType_13 : decode cX4_hasType 13 = .ok (.goto 4, 3) := by decide +kernel
theorem dX4_hasType_16 : decode cX4_hasType 16 = .ok (.iconst 0, 1) := by decide +kernel
theorem dX4_hasType_17 : decode cX4_hasType 17 = .ok (.ireturn, 1) := by decide +kernel
theorem dX4_hasConstructor_0 : decode cX4_hasConstructor 0 = .ok (.iload_n 1, 1) := by decide +kernel
theorem dX4_hasConstructor_1 : decode cX4_hasConstructor 1 = .ok (.ifCond .lt 15, 3) := by decide +kernel
theorem dX4_hasConstructor_4 : decode cX4_hasConstructor 4 = .ok (.iload_n 1, 1) := by decide +kernel
theorem dX4_hasConstructor_5 : decode cX4_hasConstructor 5 = .ok (.aload_n 0, 1) := by decide +kernel
theorem dX4_hasConstructor_6 : decode cX4_hasConstructor 6 = .ok (.getfield 25, 3) := by decide +kernel
theorem dX4_hasConstructor_9 : decode cX4_hasConstructor 9 = .ok (.if_icmp .ge 7, 3) := by decide +kernel
theorem dX4_hasConstructor_12 : decode cX4_hasConstructor 12 = .ok (.iconst 1, 1) := by decide +kernel
theorem dX4_hasConstructor_13 : decode cX4_hasConstructor 13 = .ok (.goto 4, 3) := by decide +kernel
theorem dX4_hasConstructor_16 : decode cX4_hasConstructor 16 = .ok (.iconst 0, 1) := by decide +kernel
theorem dX4_hasConstructor_17 : decode cX4_hasConstructor 17 = .ok (.ireturn, 1) := by decide +kernel
theorem dX4_typeOfArgument_0 : decode cX4_typeOfArgument 0 = .ok (.aload_n 0, 1) := by decide +kernel
theorem dX4_typeOfArgument_1 : decode cX4_typeOfArgument 1 = .ok (.getfield 18, 3) := by decide +kernel
theorem dX4_typeOfArgument_4 : decode cX4_typeOfArgument 4 = .ok (.iload_n 1, 1) := by decide +kernel
theorem dX4_typeOfArgument_5 : decode cX4_typeOfArgument 5 = .ok (.iconst 3, 1) := by decide +kernel
theorem dX4_typeOfArgument_6 : decode cX4_typeOfArgument 6 = .ok (.imul, 1) := by decide +kernel
theorem dX4_typeOfArgument_7 : decode cX4_typeOfArgument 7 = .ok (.iload_n 2, 1) := by decide +kernel
theorem dX4_typeOfArgument_8 : decode cX4_typeOfArgument 8 = .ok (.iadd, 1) := by decide +kernel
theorem dX4_typeOfArgument_9 : decode cX4_typeOfArgument 9 = .ok (.iaload, 1) := by decide +kernel
theorem dX4_typeOfArgument_10 : decode cX4_typeOfArgument 10 = .ok (.ireturn, 1) := by decide +kernel
theorem dX4_define_0 : decode cX4_define 0 = .ok (.aload_n 0, 1) := by decide +kernel
theorem dX4_define_1 : decode cX4_define 1 = .ok (.getfield 25, 3) := by decide +kernel
theorem dX4_define_4 : decode cX4_define 4 = .ok (.istore 6, 2) := by decide +kernel
theorem dX4_define_6 : decode cX4_define 6 = .ok (.aload_n 0, 1) := by decide +kernel
theorem dX4_define_7 : decode cX4_define 7 = .ok (.getfield 9, 3) := by decide +kernel
theorem dX4_define_10 : decode cX4_define 10 = .ok (.iload 6, 2) := by decide +kernel
theorem dX4_define_12 : decode cX4_define 12 = .ok (.iload_n 1, 1) := by decide +kernel
theorem dX4_define_13 : decode cX4_define 13 = .ok (.iastore, 1) := by decide +kernel
theorem dX4_define_14 : decode cX4_define 14 = .ok (.aload_n 0, 1) := by decide +kernel
theorem dX4_define_15 : decode cX4_define 15 = .ok (.getfield 15, 3) := by decide +kernel
theorem dX4_define_18 : decode cX4_define 18 = .ok (.iload 6, 2) := by decide +kernel
theorem dX4_define_20 : decode cX4_define 20 = .ok (.iload_n 2, 1) := by decide +kernel
theorem dX4_define_21 : decode cX4_define 21 = .ok (.iastore, 1) := by decide +kernel
theorem dX4_define_22 : decode cX4_define 22 = .ok (.aload_n 0, 1) := by decide +kernel
theorem dX4_define_23 : decode cX4_define 23 = .ok (.getfield 18, 3) := by decide +kernel
theorem dX4_define_26 : decode cX4_define 26 = .ok (.iload 6, 2) := by decide +kernel
theorem dX4_define_28 : decode cX4_define 28 = .ok (.iconst 3, 1) := by decide +kernel
theorem dX4_define_29 : decode cX4_define 29 = .ok (.imul, 1) := by decide +kernel
theorem dX4_define_30 : decode cX4_define 30 = .ok (.iload_n 3, 1) := by decide +kernel
theorem dX4_define_31 : decode cX4_define 31 = .ok (.iastore, 1) := by decide +kernel
theorem dX4_define_32 : decode cX4_define 32 = .ok (.aload_n 0, 1) := by decide +kernel
theorem dX4_define_33 : decode cX4_define 33 = .ok (.getfield 18, 3) := by decide +kernel
theorem dX4_define_36 : decode cX4_define 36 = .ok (.iload 6, 2) := by decide +kernel
theorem dX4_define_38 : decode cX4_define 38 = .ok (.iconst 3, 1) := by decide +kernel
theorem dX4_define_39 : decode cX4_define 39 = .ok (.imul, 1) := by decide +kernel
theorem dX4_define_40 : decode cX4_define 40 = .ok (.iconst 1, 1) := by decide +kernel
theorem dX4_define_41 : decode cX4_define 41 = .ok (.iadd, 1) := by decide +kernel
theorem dX4_define_42 : decode cX4_define 42 = .ok (.iload 4, 2) := by decide +kernel
theorem dX4_define_44 : decode cX4_define 44 = .ok (.iastore, 1) := by decide +kernel
theorem dX4_define_45 : decode cX4_define 45 = .ok (.aload_n 0, 1) := by decide +kernel
theorem dX4_define_46 : decode cX4_define 46 = .ok (.getfield 18, 3) := by decide +kernel
theorem dX4_define_49 : decode cX4_define 49 = .ok (.iload 6, 2) := by decide +kernel
theorem dX4_define_51 : decode cX4_define 51 = .ok (.iconst 3, 1) := by decide +kernel
theorem dX4_define_52 : decode cX4_define 52 = .ok (.imul, 1) := by decide +kernel
theorem dX4_define_53 : decode cX4_define 53 = .ok (.iconst 2, 1) := by decide +kernel
theorem dX4_define_54 : decode cX4_define 54 = .ok (.iadd, 1) := by decide +kernel
theorem dX4_define_55 : decode cX4_define 55 = .ok (.iload 5, 2) := by decide +kernel
theorem dX4_define_57 : decode cX4_define 57 = .ok (.iastore, 1) := by decide +kernel
theorem dX4_define_58 : decode cX4_define 58 = .ok (.aload_n 0, 1) := by decide +kernel
theorem dX4_define_59 : decode cX4_define 59 = .ok (.dup, 1) := by decide +kernel
theorem dX4_define_60 : decode cX4_define 60 = .ok (.getfield 25, 3) := by decide +kernel
theorem dX4_define_63 : decode cX4_define 63 = .ok (.iconst 1, 1) := by decide +kernel
theorem dX4_define_64 : decode cX4_define 64 = .ok (.iadd, 1) := by decide +kernel
theorem dX4_define_65 : decode cX4_define 65 = .ok (.putfield 25, 3) := by decide +kernel
theorem dX4_define_68 : decode cX4_define 68 = .ok (.iload 6, 2) := by decide +kernel
theorem dX4_define_70 : decode cX4_define 70 = .ok (.ireturn, 1) := by decide +kernel
theorem dX5_measure_0 : decode cX5_measure 0 = .ok (.aload_n 0, 1) := by decide +kernel
theorem dX5_measure_1 : decode cX5_measure 1 = .ok (.getfield 40, 3) := by decide +kernel
theorem dX5_measure_4 : decode cX5_measure 4 = .ok (.invokevirtual 44, 3) := by decide +kernel
theorem dX5_measure_7 : decode cX5_measure 7 = .ok (.aload_n 0, 1) := by decide +kernel
theorem dX5_measure_8 : decode cX5_measure 8 = .ok (.getfield 40, 3) := by decide +kernel
theorem dX5_measure_11 : decode cX5_measure 11 = .ok (.iload_n 1, 1) := by decide +kernel
theorem dX5_measure_12 : decode cX5_measure 12 = .ok (.invokevirtual 47, 3) := by decide +kernel
theorem dX5_measure_15 : decode cX5_measure 15 = .ok (.iconst 0, 1) := by decide +kernel
theorem dX5_measure_16 : decode cX5_measure 16 = .ok (.istore_n 2, 1) := by decide +kernel
theorem dX5_measure_17 : decode cX5_measure 17 = .ok (.iload_n 2, 1) := by decide +kernel
theorem dX5_measure_18 : decode cX5_measure 18 = .ok (.aload_n 0, 1) := by decide +kernel
theorem dX5_measure_19 : decode cX5_measure 19 = .ok (.getfield 40, 3) := by decide +kernel
theorem dX5_measure_22 : decode cX5_measure 22 = .ok (.getfield 51, 3) := by decide +kernel
theorem dX5_measure_25 : decode cX5_measure 25 = .ok (.if_icmp .ge 36, 3) := by decide +kernel
theorem dX5_measure_28 : decode cX5_measure 28 = .ok (.aload_n 0, 1) := by decide +kernel
theorem dX5_measure_29 : decode cX5_measure 29 = .ok (.getfield 9, 3) := by decide +kernel
theorem dX5_measure_32 : decode cX5_measure 32 = .ok (.aload_n 0, 1) := by decide +kernel
theorem dX5_measure_33 : decode cX5_measure 33 = .ok (.getfield 40, 3) := by decide +kernel
theorem dX5_measure_36 : decode cX5_measure 36 = .ok (.getfield 55, 3) := by decide +kernel
theorem dX5_measure_39 : decode cX5_measure 39 = .ok (.iload_n 2, 1) := by decide +kernel
theorem dX5_measure_40 : decode cX5_measure 40 = .ok (.iaload, 1) := by decide +kernel
theorem dX5_measure_41 : decode cX5_measure 41 = .ok (.aload_n 0, 1) := by decide +kernel
theorem dX5_measure_42 : decode cX5_measure 42 = .ok (.aload_n 0, 1) := by decide +kernel
theorem dX5_measure_43 : decode cX5_measure 43 = .ok (.getfield 40, 3) := by decide +kernel
theorem dX5_measure_46 : decode cX5_measure 46 = .ok (.getfield 55, 3) := by decide +kernel
theorem dX5_measure_49 : decode cX5_measure 49 = .ok (.iload_n 2, 1) := by decide +kernel
theorem dX5_measure_50 : decode cX5_measure 50 = .ok (.iaload, 1) := by decide +kernel
theorem dX5_measure_51 : decode cX5_measure 51 = .ok (.invokevirtual 58, 3) := by decide +kernel
theorem dX5_measure_54 : decode cX5_measure 54 = .ok (.iastore, 1) := by decide +kernel
theorem dX5_measure_55 : decode cX5_measure 55 = .ok (.iinc 2 1, 3) := by decide +kernel
theorem dX5_measure_58 : decode cX5_measure 58 = .ok (.goto (-41), 3) := by decide +kernel
theorem dX5_measure_61 : decode cX5_measure 61 = .ok (.aload_n 0, 1) := by decide +kernel
theorem dX5_measure_62 : decode cX5_measure 62 = .ok (.getfield 9, 3) := by decide +kernel
theorem dX5_measure_65 : decode cX5_measure 65 = .ok (.aload_n 0, 1) := by decide +kernel
theorem dX5_measure_66 : decode cX5_measure 66 = .ok (.getfield 27, 3) := by decide +kernel
theorem dX5_measure_69 : decode cX5_measure 69 = .ok (.iload_n 1, 1) := by decide +kernel
theorem dX5_measure_70 : decode cX5_measure 70 = .ok (.invokevirtual 62, 3) := by decide +kernel
theorem dX5_measure_73 : decode cX5_measure 73 = .ok (.iaload, 1) := by decide +kernel
theorem dX5_measure_74 : decode cX5_measure 74 = .ok (.ireturn, 1) := by decide +kernel
theorem dX5_sizeFromParts_0 : decode cX5_sizeFromParts 0 = .ok (.aload_n 0, 1) := by decide +kernel
theorem dX5_sizeFromParts_1 : decode cX5_sizeFromParts 1 = .ok (.getfield 27, 3) := by decide +kernel
theorem dX5_sizeFromParts_4 : decode cX5_sizeFromParts 4 = .ok (.iload_n 1, 1) := by decide +kernel
theorem dX5_sizeFromParts_5 : decode cX5_sizeFromParts 5 = .ok (.invokevirtual 67, 3) := by decide +kernel
theorem dX5_sizeFromParts_8 : decode cX5_sizeFromParts 8 = .ok (.ifCond .eq 6, 3) := by decide +kernel
theorem dX5_sizeFromParts_11 : decode cX5_sizeFromParts 11 = .ok (.bipush (-9), 2) := by decide +kernel
theorem dX5_sizeFromParts_13 : decode cX5_sizeFromParts 13 = .ok (.ireturn, 1) := by decide +kernel
theorem dX5_sizeFromParts_14 : decode cX5_sizeFromParts 14 = .ok (.iconst 1, 1) := by decide +kernel
theorem dX5_sizeFromParts_15 : decode cX5_sizeFromParts 15 = .ok (.istore_n 2, 1) := by decide +kernel
theorem dX5_sizeFromParts_16 : decode cX5_sizeFromParts 16 = .ok (.iconst 0, 1) := by decide +kernel
theorem dX5_sizeFromParts_17 : decode cX5_sizeFromParts 17 = .ok (.istore_n 3, 1) := by decide +kernel
theorem dX5_sizeFromParts_18 : decode cX5_sizeFromParts 18 = .ok (.iload_n 3, 1) := by decide +kernel
theorem dX5_sizeFromParts_19 : decode cX5_sizeFromParts 19 = .ok (.aload_n 0, 1) := by decide +kernel
theorem dX5_sizeFromParts_20 : decode cX5_sizeFromParts 20 = .ok (.getfield 27, 3) := by decide +kernel
theorem dX5_sizeFromParts_23 : decode cX5_sizeFromParts 23 = .ok (.iload_n 1, 1) := by decide +kernel
theorem dX5_sizeFromParts_24 : decode cX5_sizeFromParts 24 = .ok (.invokevirtual 71, 3) := by decide +kernel
theorem dX5_sizeFromParts_27 : decode cX5_sizeFromParts 27 = .ok (.if_icmp .ge 42, 3) := by decide +kernel
theorem dX5_sizeFromParts_30 : decode cX5_sizeFromParts 30 = .ok (.aload_n 0, 1) := by decide +kernel
theorem dX5_sizeFromParts_31 : decode cX5_sizeFromParts 31 = .ok (.getfield 9, 3) := by decide +kernel
theorem dX5_sizeFromParts_34 : decode cX5_sizeFromParts 34 = .ok (.aload_n 0, 1) := by decide +kernel
theorem dX5_sizeFromParts_35 : decode cX5_sizeFromParts 35 = .ok (.getfield 27, 3) := by decide +kernel
theorem dX5_sizeFromParts_38 : decode cX5_sizeFromParts 38 = .ok (.iload_n 1, 1) := by decide +kernel
theorem dX5_sizeFromParts_39 : decode cX5_sizeFromParts 39 = .ok (.iload_n 3, 1) := by decide +kernel
theorem dX5_sizeFromParts_40 : decode cX5_sizeFromParts 40 = .ok (.invokevirtual 74, 3) := by decide +kernel
theorem dX5_sizeFromParts_43 : decode cX5_sizeFromParts 43 = .ok (.iaload, 1) := by decide +kernel
theorem dX5_sizeFromParts_44 : decode cX5_sizeFromParts 44 = .ok (.istore 4, 2) := by decide +kernel
theorem dX5_sizeFromParts_46 : decode cX5_sizeFromParts 46 = .ok (.iload 4, 2) := by decide +kernel
theorem dX5_sizeFromParts_48 : decode cX5_sizeFromParts 48 = .ok (.bipush (-9), 2) := by decide +kernel
theorem dX5_sizeFromParts_50 : decode cX5_sizeFromParts 50 = .ok (.if_icmp .ne 6, 3) := by decide +kernel
theorem dX5_sizeFromParts_53 : decode cX5_sizeFromParts 53 = .ok (.bipush (-9), 2) := by decide +kernel
theorem dX5_sizeFromParts_55 : decode cX5_sizeFromParts 55 = .ok (.ireturn, 1) := by decide +kernel
theorem dX5_sizeFromParts_56 : decode cX5_sizeFromParts 56 = .ok (.iload_n 2, 1) := by decide +kernel
theorem dX5_sizeFromParts_57 : decode cX5_sizeFromParts 57 = .ok (.iload 4, 2) := by decide +kernel
theorem dX5_sizeFromParts_59 : decode cX5_sizeFromParts 59 = .ok (.invokestatic 78, 3) := by decide +kernel
theorem dX5_sizeFromParts_62 : decode cX5_sizeFromParts 62 = .ok (.istore_n 2, 1) := by decide +kernel
theorem dX5_sizeFromParts_63 : decode cX5_sizeFromParts 63 = .ok (.iinc 3 1, 3) := by decide +kernel
theorem dX5_sizeFromParts_66 : decode cX5_sizeFromParts 66 = .ok (.goto (-48), 3) := by decide +kernel
theorem dX5_sizeFromParts_69 : decode cX5_sizeFromParts 69 = .ok (.iload_n 2, 1) := by decide +kernel
theorem dX5_sizeFromParts_70 : decode cX5_sizeFromParts 70 = .ok (.ireturn, 1) := by decide +kernel
theorem dX5_indexAmongValues_0 : decode cX5_indexAmongValues 0 = .ok (.iconst 0, 1) := by decide +kernel
theorem dX5_indexAmongValues_1 : decode cX5_indexAmongValues 1 = .ok (.istore_n 2, 1) := by decide +kernel
theorem dX5_indexAmongValues_2 : decode cX5_indexAmongValues 2 = .ok (.iload_n 2, 1) := by decide +kernel
theorem dX5_indexAmongValues_3 : decode cX5_indexAmongValues 3 = .ok (.aload_n 0, 1) := by decide +kernel
theorem dX5_indexAmongValues_4 : decode cX5_indexAmongValues 4 = .ok (.getfield 40, 3) := by decide +kernel
theorem dX5_indexAmongValues_7 : decode cX5_indexAmongValues 7 = .ok (.getfield 51, 3) := by decide +kernel
theorem dX5_indexAmongValues_10 : decode cX5_indexAmongValues 10 = .ok (.if_icmp .ge 121, 3) := by decide +kernel
theorem dX5_indexAmongValues_13 : decode cX5_indexAmongValues 13 = .ok (.aload_n 0, 1) := by decide +kernel
theorem dX5_indexAmongValues_14 : decode cX5_indexAmongValues 14 = .ok (.getfield 40, 3) := by decide +kernel
theorem dX5_indexAmongValues_17 : decode cX5_indexAmongValues 17 = .ok (.getfield 55, 3) := by decide +kernel
theorem dX5_indexAmongValues_20 : decode cX5_indexAmongValues 20 = .ok (.iload_n 2, 1) := by decide +kernel
theorem dX5_indexAmongValues_21 : decode cX5_indexAmongValues 21 = .ok (.iaload, 1) := by decide +kernel
theorem dX5_indexAmongValues_22 : decode cX5_indexAmongValues 22 = .ok (.istore_n 3, 1) := by decide +kernel
theorem dX5_indexAmongValues_23 : decode cX5_indexAmongValues 23 = .ok (.iconst 0, 1) := by decide +kernel
theorem dX5_indexAmongValues_24 : decode cX5_indexAmongValues 24 = .ok (.istore 4, 2) := by decide +kernel
theorem dX5_indexAmongValues_26 : decode cX5_indexAmongValues 26 = .ok (.iload 4, 2) := by decide +kernel
theorem dX5_indexAmongValues_28 : decode cX5_indexAmongValues 28 = .ok (.aload_n 0, 1) := by decide +kernel
theorem dX5_indexAmongValues_29 : decode cX5_indexAmongValues 29 = .ok (.getfield 27, 3) := by decide +kernel
theorem dX5_indexAmongValues_32 : decode cX5_indexAmongValues 32 = .ok (.iload_n 3, 1) := by decide +kernel
theorem dX5_indexAmongValues_33 : decode cX5_indexAmongValues 33 = .ok (.invokevirtual 71, 3) := by decide +kernel
theorem dX5_indexAmongValues_36 : decode cX5_indexAmongValues 36 = .ok (.if_icmp .ge 53, 3) := by decide +kernel
theorem dX5_indexAmongValues_39 : decode cX5_indexAmongValues 39 = .ok (.aload_n 0, 1) := by decide +kernel
theorem dX5_indexAmongValues_40 : decode cX5_indexAmongValues 40 = .ok (.getfield 21, 3) := by decide +kernel
theorem dX5_indexAmongValues_43 : decode cX5_indexAmongValues 43 = .ok (.iload 4, 2) := by decide +kernel
theorem dX5_indexAmongValues_45 : decode cX5_indexAmongValues 45 = .ok (.aload_n 0, 1) := by decide +kernel
theorem dX5_indexAmongValues_46 : decode cX5_indexAmongValues 46 = .ok (.getfield 9, 3) := by decide +kernel
theorem dX5_indexAmongValues_49 : decode cX5_indexAmongValues 49 = .ok (.aload_n 0, 1) := by decide +kernel
theorem dX5_indexAmongValues_50 : decode cX5_indexAmongValues 50 = .ok (.getfield 27, 3) := by decide +kernel
theorem dX5_indexAmongValues_53 : decode cX5_indexAmongValues 53 = .ok (.iload_n 3, 1) := by decide +kernel
theorem dX5_indexAmongValues_54 : decode cX5_indexAmongValues 54 = .ok (.iload 4, 2) := by decide +kernel
theorem dX5_indexAmongValues_56 : decode cX5_indexAmongValues 56 = .ok (.invokevirtual 74, 3) := by decide +kernel
theorem dX5_indexAmongValues_59 : decode cX5_indexAmongValues 59 = .ok (.iaload, 1) := by decide +kernel
theorem dX5_indexAmongValues_60 : decode cX5_indexAmongValues 60 = .ok (.iastore, 1) := by decide +kernel
theorem dX5_indexAmongValues_61 : decode cX5_indexAmongValues 61 = .ok (.aload_n 0, 1) := by decide +kernel
theorem dX5_indexAmongValues_62 : decode cX5_indexAmongValues 62 = .ok (.getfield 24, 3) := by decide +kernel
theorem dX5_indexAmongValues_65 : decode cX5_indexAmongValues 65 = .ok (.iload 4, 2) := by decide +kernel
theorem dX5_indexAmongValues_67 : decode cX5_indexAmongValues 67 = .ok (.aload_n 0, 1) := by decide +kernel
theorem dX5_indexAmongValues_68 : decode cX5_indexAmongValues 68 = .ok (.getfield 15, 3) := by decide +kernel
theorem dX5_indexAmongValues_71 : decode cX5_indexAmongValues 71 = .ok (.aload_n 0, 1) := by decide +kernel
theorem dX5_indexAmongValues_72 : decode cX5_indexAmongValues 72 = .ok (.getfield 27, 3) := by decide +kernel
theorem dX5_indexAmongValues_75 : decode cX5_indexAmongValues 75 = .ok (.iload_n 3, 1) := by decide +kernel
theorem dX5_indexAmongValues_76 : decode cX5_indexAmongValues 76 = .ok (.iload 4, 2) := by decide +kernel
theorem dX5_indexAmongValues_78 : decode cX5_indexAmongValues 78 = .ok (.invokevirtual 74, 3) := by decide +kernel
theorem dX5_indexAmongValues_81 : decode cX5_indexAmongValues 81 = .ok (.iaload, 1) := by decide +kernel
theorem dX5_indexAmongValues_82 : decode cX5_indexAmongValues 82 = .ok (.iastore, 1) := by decide +kernel
theorem dX5_indexAmongValues_83 : decode cX5_indexAmongValues 83 = .ok (.iinc 4 1, 3) := by decide +kernel
theorem dX5_indexAmongValues_86 : decode cX5_indexAmongValues 86 = .ok (.goto (-60), 3) := by decide +kernel
theorem dX5_indexAmongValues_89 : decode cX5_indexAmongValues 89 = .ok (.aload_n 0, 1) := by decide +kernel
theorem dX5_indexAmongValues_90 : decode cX5_indexAmongValues 90 = .ok (.getfield 15, 3) := by decide +kernel
theorem dX5_indexAmongValues_93 : decode cX5_indexAmongValues 93 = .ok (.iload_n 3, 1) := by decide +kernel
theorem dX5_indexAmongValues_94 : decode cX5_indexAmongValues 94 = .ok (.aload_n 0, 1) := by decide +kernel
theorem dX5_indexAmongValues_95 : decode cX5_indexAmongValues 95 = .ok (.getfield 31, 3) := by decide +kernel
theorem dX5_indexAmongValues_98 : decode cX5_indexAmongValues 98 = .ok (.aload_n 0, 1) := by decide +kernel
theorem dX5_indexAmongValues_99 : decode cX5_indexAmongValues 99 = .ok (.getfield 27, 3) := by decide +kernel
theorem dX5_indexAmongValues_102 : decode cX5_indexAmongValues 102 = .ok (.getfield 81, 3) := by decide +kernel
theorem dX5_indexAmongValues_105 : decode cX5_indexAmongValues 105 = .ok (.iload_n 3, 1) := by decide +kernel
theorem dX5_indexAmongValues_106 : decode cX5_indexAmongValues 106 = .ok (.iaload, 1) := by decide +kernel
theorem dX5_indexAmongValues_107 : decode cX5_indexAmongValues 107 = .ok (.aload_n 0, 1) := by decide +kernel
theorem dX5_indexAmongValues_108 : decode cX5_indexAmongValues 108 = .ok (.getfield 9, 3) := by decide +kernel
theorem dX5_indexAmongValues_111 : decode cX5_indexAmongValues 111 = .ok (.iload_n 3, 1) := by decide +kernel
theorem dX5_indexAmongValues_112 : decode cX5_indexAmongValues 112 = .ok (.iaload, 1) := by decide +kernel
theorem dX5_indexAmongValues_113 : decode cX5_indexAmongValues 113 = .ok (.aload_n 0, 1) := by decide +kernel
theorem dX5_indexAmongValues_114 : decode cX5_indexAmongValues 114 = .ok (.getfield 21, 3) := by decide +kernel
theorem dX5_indexAmongValues_117 : decode cX5_indexAmongValues 117 = .ok (.aload_n 0, 1) := by decide +kernel
theorem dX5_indexAmongValues_118 : decode cX5_indexAmongValues 118 = .ok (.getfield 24, 3) := by decide +kernel
theorem dX5_indexAmongValues_121 : decode cX5_indexAmongValues 121 = .ok (.invokevirtual 84, 3) := by decide +kernel
theorem dX5_indexAmongValues_124 : decode cX5_indexAmongValues 124 = .ok (.iastore, 1) := by decide +kernel
theorem dX5_indexAmongValues_125 : decode cX5_indexAmongValues 125 = .ok (.iinc 2 1, 3) := by decide +kernel
theorem dX5_indexAmongValues_128 : decode cX5_indexAmongValues 128 = .ok (.goto (-126), 3) := by decide +kernel
theorem dX5_indexAmongValues_131 : decode cX5_indexAmongValues 131 = .ok (.aload_n 0, 1) := by decide +kernel
theorem dX5_indexAmongValues_132 : decode cX5_indexAmongValues 132 = .ok (.getfield 15, 3) := by decide +kernel
theorem dX5_indexAmongValues_135 : decode cX5_indexAmongValues 135 = .ok (.aload_n 0, 1) := by decide +kernel
theorem dX5_indexAmongValues_136 : decode cX5_indexAmongValues 136 = .ok (.getfield 27, 3) := by decide +kernel
theorem dX5_indexAmongValues_139 : decode cX5_indexAmongValues 139 = .ok (.iload_n 1, 1) := by decide +kernel
theorem dX5_indexAmongValues_140 : decode cX5_indexAmongValues 140 = .ok (.invokevirtual 62, 3) := by decide +kernel
theorem dX5_indexAmongValues_143 : decode cX5_indexAmongValues 143 = .ok (.iaload, 1) := by decide +kernel
theorem dX5_indexAmongValues_144 : decode cX5_indexAmongValues 144 = .ok (.ireturn, 1) := by decide +kernel
theorem dX5_sameTerm_0 : decode cX5_sameTerm 0 = .ok (.aload_n 0, 1) := by decide +kernel
theorem dX5_sameTerm_1 : decode cX5_sameTerm 1 = .ok (.getfield 40, 3) := by decide +kernel
theorem dX5_sameTerm_4 : decode cX5_sameTerm 4 = .ok (.invokevirtual 44, 3) := by decide +kernel
theorem dX5_sameTerm_7 : decode cX5_sameTerm 7 = .ok (.aload_n 0, 1) := by decide +kernel
theorem dX5_sameTerm_8 : decode cX5_sameTerm 8 = .ok (.getfield 40, 3) := by decide +kernel
theorem dX5_sameTerm_11 : decode cX5_sameTerm 11 = .ok (.iload_n 1, 1) := by decide +kernel
theorem dX5_sameTerm_12 : decode cX5_sameTerm 12 = .ok (.invokevirtual 47, 3) := by decide +kernel
theorem dX5_sameTerm_15 : decode cX5_sameTerm 15 = .ok (.aload_n 0, 1) := by decide +kernel
theorem dX5_sameTerm_16 : decode cX5_sameTerm 16 = .ok (.getfield 40, 3) := by decide +kernel
theorem dX5_sameTerm_19 : decode cX5_sameTerm 19 = .ok (.iload_n 2, 1) := by decide +kernel
theorem dX5_sameTerm_20 : decode cX5_sameTerm 20 = .ok (.invokevirtual 47, 3) := by decide +kernel
theorem dX5_sameTerm_23 : decode cX5_sameTerm 23 = .ok (.aload_n 0, 1) := by decide +kernel
theorem dX5_sameTerm_24 : decode cX5_sameTerm 24 = .ok (.invokevirtual 90, 3) := by decide +kernel
theorem dX5_sameTerm_27 : decode cX5_sameTerm 27 = .ok (.aload_n 0, 1) := by decide +kernel
theorem dX5_sameTerm_28 : decode cX5_sameTerm 28 = .ok (.getfield 18, 3) := by decide +kernel
theorem dX5_sameTerm_31 : decode cX5_sameTerm 31 = .ok (.aload_n 0, 1) := by decide +kernel
theorem dX5_sameTerm_32 : decode cX5_sameTerm 32 = .ok (.getfield 27, 3) := by decide +kernel
theorem dX5_sameTerm_35 : decode cX5_sameTerm 35 = .ok (.iload_n 1, 1) := by decide +kernel
theorem dX5_sameTerm_36 : decode cX5_sameTerm 36 = .ok (.invokevirtual 62, 3) := by decide +kernel
theorem dX5_sameTerm_39 : decode cX5_sameTerm 39 = .ok (.iaload, 1) := by decide +kernel
theorem dX5_sameTerm_40 : decode cX5_sameTerm 40 = .ok (.aload_n 0, 1) := by decide +kernel
theorem dX5_sameTerm_41 : decode cX5_sameTerm 41 = .ok (.getfield 18, 3) := by decide +kernel
theorem dX5_sameTerm_44 : decode cX5_sameTerm 44 = .ok (.aload_n 0, 1) := by decide +kernel
theorem dX5_sameTerm_45 : decode cX5_sameTerm 45 = .ok (.getfield 27, 3) := by decide +kernel
theorem dX5_sameTerm_48 : decode cX5_sameTerm 48 = .ok (.iload_n 2, 1) := by decide +kernel
theorem dX5_sameTerm_49 : decode cX5_sameTerm 49 = .ok (.invokevirtual 62, 3) := by decide +kernel
theorem dX5_sameTerm_52 : decode cX5_sameTerm 52 = .ok (.iaload, 1) := by decide +kernel
theorem dX5_sameTerm_53 : decode cX5_sameTerm 53 = .ok (.if_icmp .ne 7, 3) := by decide +kernel
theorem dX5_sameTerm_56 : decode cX5_sameTerm 56 = .ok (.iconst 1, 1) := by decide +kernel
theorem dX5_sameTerm_57 : decode cX5_sameTerm 57 = .ok (.goto 4, 3) := by decide +kernel
theorem dX5_sameTerm_60 : decode cX5_sameTerm 60 = .ok (.iconst 0, 1) := by decide +kernel
theorem dX5_sameTerm_61 : decode cX5_sameTerm 61 = .ok (.ireturn, 1) := by decide +kernel
theorem dX5_canonicalNode_0 : decode cX5_canonicalNode 0 = .ok (.aload_n 0, 1) := by decide +kernel
theorem dX5_canonicalNode_1 : decode cX5_canonicalNode 1 = .ok (.getfield 40, 3) := by decide +kernel
theorem dX5_canonicalNode_4 : decode cX5_canonicalNode 4 = .ok (.invokevirtual 44, 3) := by decide +kernel
theorem dX5_canonicalNode_7 : decode cX5_canonicalNode 7 = .ok (.aload_n 0, 1) := by decide +kernel
theorem dX5_canonicalNode_8 : decode cX5_canonicalNode 8 = .ok (.getfield 40, 3) := by decide +kernel
theorem dX5_canonicalNode_11 : decode cX5_canonicalNode 11 = .ok (.iload_n 1, 1) := by decide +kernel
theorem dX5_canonicalNode_12 : decode cX5_canonicalNode 12 = .ok (.invokevirtual 47, 3) := by decide +kernel
theorem dX5_canonicalNode_15 : decode cX5_canonicalNode 15 = .ok (.aload_n 0, 1) := by decide +kernel
theorem dX5_canonicalNode_16 : decode cX5_canonicalNode 16 = .ok (.invokevirtual 90, 3) := by decide +kernel
theorem dX5_canonicalNode_19 : decode cX5_canonicalNode 19 = .ok (.aload_n 0, 1) := by decide +kernel
theorem dX5_canonicalNode_20 : decode cX5_canonicalNode 20 = .ok (.getfield 18, 3) := by decide +kernel
theorem dX5_canonicalNode_23 : decode cX5_canonicalNode 23 = .ok (.aload_n 0, 1) := by decide +kernel
theorem dX5_canonicalNode_24 : decode cX5_canonicalNode 24 = .ok (.getfield 27, 3) := by decide +kernel
theorem dX5_canonicalNode_27 : decode cX5_canonicalNode 27 = .ok (.iload_n 1, 1) := by decide +kernel
theorem dX5_canonicalNode_28 : decode cX5_canonicalNode 28 = .ok (.invokevirtual 62, 3) := by decide +kernel
theorem dX5_canonicalNode_31 : decode cX5_canonicalNode 31 = .ok (.iaload, 1) := by decide +kernel
theorem dX5_canonicalNode_32 : decode cX5_canonicalNode 32 = .ok (.ireturn, 1) := by decide +kernel
theorem dX5_findCanonical_0 : decode cX5_findCanonical 0 = .ok (.iconst 0, 1) := by decide +kernel
theorem dX5_findCanonical_1 : decode cX5_findCanonical 1 = .ok (.istore_n 1, 1) := by decide +kernel
theorem dX5_findCanonical_2 : decode cX5_findCanonical 2 = .ok (.iload_n 1, 1) := by decide +kernel
theorem dX5_findCanonical_3 : decode cX5_findCanonical 3 = .ok (.aload_n 0, 1) := by decide +kernel
theorem dX5_findCanonical_4 : decode cX5_findCanonical 4 = .ok (.getfield 40, 3) := by decide +kernel
theorem dX5_findCanonical_7 : decode cX5_findCanonical 7 = .ok (.getfield 51, 3) := by decide +kernel
theorem dX5_findCanonical_10 : decode cX5_findCanonical 10 = .ok (.if_icmp .ge 79, 3) := by decide +kernel
theorem dX5_findCanonical_13 : decode cX5_findCanonical 13 = .ok (.aload_n 0, 1) := by decide +kernel
theorem dX5_findCanonical_14 : decode cX5_findCanonical 14 = .ok (.getfield 40, 3) := by decide +kernel
theorem dX5_findCanonical_17 : decode cX5_findCanonical 17 = .ok (.getfield 55, 3) := by decide +kernel
theorem dX5_findCanonical_20 : decode cX5_findCanonical 20 = .ok (.iload_n 1, 1) := by decide +kernel
theorem dX5_findCanonical_21 : decode cX5_findCanonical 21 = .ok (.iaload, 1) := by decide +kernel
theorem dX5_findCanonical_22 : decode cX5_findCanonical 22 = .ok (.istore_n 2, 1) := by decide +kernel
theorem dX5_findCanonical_23 : decode cX5_findCanonical 23 = .ok (.aload_n 0, 1) := by decide +kernel
theorem dX5_findCanonical_24 : decode cX5_findCanonical 24 = .ok (.getfield 18, 3) := by decide +kernel
theorem dX5_findCanonical_27 : decode cX5_findCanonical 27 = .ok (.iload_n 2, 1) := by decide +kernel
theorem dX5_findCanonical_28 : decode cX5_findCanonical 28 = .ok (.iload_n 2, 1) := by decide +kernel
theorem dX5_findCanonical_29 : decode cX5_findCanonical 29 = .ok (.iastore, 1) := by decide +kernel
theorem dX5_findCanonical_30 : decode cX5_findCanonical 30 = .ok (.iconst 0, 1) := by decide +kernel
theorem dX5_findCanonical_31 : decode cX5_findCanonical 31 = .ok (.istore_n 3, 1) := by decide +kernel
theorem dX5_findCanonical_32 : decode cX5_findCanonical 32 = .ok (.iload_n 3, 1) := by decide +kernel
theorem dX5_findCanonical_33 : decode cX5_findCanonical 33 = .ok (.iload_n 1, 1) := by decide +kernel
theorem dX5_findCanonical_34 : decode cX5_findCanonical 34 = .ok (.if_icmp .ge 49, 3) := by decide +kernel
theorem dX5_findCanonical_37 : decode cX5_findCanonical 37 = .ok (.aload_n 0, 1) := by decide +kernel
theorem dX5_findCanonical_38 : decode cX5_findCanonical 38 = .ok (.iload_n 2, 1) := by decide +kernel
theorem dX5_findCanonical_39 : decode cX5_findCanonical 39 = .ok (.aload_n 0, 1) := by decide +kernel
theorem dX5_findCanonical_40 : decode cX5_findCanonical 40 = .ok (.getfield 40, 3) := by decide +kernel
theorem dX5_findCanonical_43 : decode cX5_findCanonical 43 = .ok (.getfield 55, 3) := by decide +kernel
theorem dX5_findCanonical_46 : decode cX5_findCanonical 46 = .ok (.iload_n 3, 1) := by decide +kernel
theorem dX5_findCanonical_47 : decode cX5_findCanonical 47 = .ok (.iaload, 1) := by decide +kernel
theorem dX5_findCanonical_48 : decode cX5_findCanonical 48 = .ok (.invokevirtual 93, 3) := by decide +kernel
theorem dX5_findCanonical_51 : decode cX5_findCanonical 51 = .ok (.ifCond .eq 26, 3) := by decide +kernel
theorem dX5_findCanonical_54 : decode cX5_findCanonical 54 = .ok (.aload_n 0, 1) := by decide +kernel
theorem dX5_findCanonical_55 : decode cX5_findCanonical 55 = .ok (.getfield 18, 3) := by decide +kernel
theorem dX5_findCanonical_58 : decode cX5_findCanonical 58 = .ok (.iload_n 2, 1) := by decide +kernel
theorem dX5_findCanonical_59 : decode cX5_findCanonical 59 = .ok (.aload_n 0, 1) := by decide +kernel
theorem dX5_findCanonical_60 : decode cX5_findCanonical 60 = .ok (.getfield 18, 3) := by decide +kernel
theorem dX5_findCanonical_63 : decode cX5_findCanonical 63 = .ok (.aload_n 0, 1) := by decide +kernel
theorem dX5_findCanonical_64 : decode cX5_findCanonical 64 = .ok (.getfield 40, 3) := by decide +kernel
theorem dX5_findCanonical_67 : decode cX5_findCanonical 67 = .ok (.getfield 55, 3) := by decide +kernel
theorem dX5_findCanonical_70 : decode cX5_findCanonical 70 = .ok (.iload_n 3, 1) := by decide +kernel
theorem dX5_findCanonical_71 : decode cX5_findCanonical 71 = .ok (.iaload, 1) := by decide +kernel
theorem dX5_findCanonical_72 : decode cX5_findCanonical 72 = .ok (.iaload, 1) := by decide +kernel
theorem dX5_findCanonical_73 : decode cX5_findCanonical 73 = .ok (.iastore, 1) := by decide +kernel
theorem dX5_findCanonical_74 : decode cX5_findCanonical 74 = .ok (.goto 9, 3) := by decide +kernel
theorem dX5_findCanonical_77 : decode cX5_findCanonical 77 = .ok (.iinc 3 1, 3) := by decide +kernel
theorem dX5_findCanonical_80 : decode cX5_findCanonical 80 = .ok (.goto (-48), 3) := by decide +kernel
theorem dX5_findCanonical_83 : decode cX5_findCanonical 83 = .ok (.iinc 1 1, 3) := by decide +kernel
theorem dX5_findCanonical_86 : decode cX5_findCanonical 86 = .ok (.goto (-84), 3) := by decide +kernel
theorem dX5_findCanonical_89 : decode cX5_findCanonical 89 = .ok (.return_, 1) := by decide +kernel
theorem dX5_haveEqualParts_0 : decode cX5_haveEqualParts 0 = .ok (.aload_n 0, 1) := by decide +kernel
theorem dX5_haveEqualParts_1 : decode cX5_haveEqualParts 1 = .ok (.getfield 27, 3) := by decide +kernel
theorem dX5_haveEqualParts_4 : decode cX5_haveEqualParts 4 = .ok (.iload_n 1, 1) := by decide +kernel
theorem dX5_haveEqualParts_5 : decode cX5_haveEqualParts 5 = .ok (.invokevirtual 67, 3) := by decide +kernel
theorem dX5_haveEqualParts_8 : decode cX5_haveEqualParts 8 = .ok (.ifCond .ne 24, 3) := by decide +kernel
theorem dX5_haveEqualParts_11 : decode cX5_haveEqualParts 11 = .ok (.aload_n 0, 1) := by decide +kernel
theorem dX5_haveEqualParts_12 : decode cX5_haveEqualParts 12 = .ok (.getfield 27, 3) := by decide +kernel
theorem dX5_haveEqualParts_15 : decode cX5_haveEqualParts 15 = .ok (.getfield 81, 3) := by decide +kernel
theorem dX5_haveEqualParts_18 : decode cX5_haveEqualParts 18 = .ok (.iload_n 1, 1) := by decide +kernel
theorem dX5_haveEqualParts_19 : decode cX5_haveEqualParts 19 = .ok (.iaload, 1) := by decide +kernel
theorem dX5_haveEqualParts_20 : decode cX5_haveEqualParts 20 = .ok (.aload_n 0, 1) := by decide +kernel
theorem dX5_haveEqualParts_21 : decode cX5_haveEqualParts 21 = .ok (.getfield 27, 3) := by decide +kernel
theorem dX5_haveEqualParts_24 : decode cX5_haveEqualParts 24 = .ok (.getfield 81, 3) := by decide +kernel
theorem dX5_haveEqualParts_27 : decode cX5_haveEqualParts 27 = .ok (.iload_n 2, 1) := by decide +kernel
theorem dX5_haveEqualParts_28 : decode cX5_haveEqualParts 28 = .ok (.iaload, 1) := by decide +kernel
theorem dX5_haveEqualParts_29 : decode cX5_haveEqualParts 29 = .ok (.if_icmp .eq 5, 3) := by decide +kernel
theorem dX5_haveEqualParts_32 : decode cX5_haveEqualParts 32 = .ok (.iconst 0, 1) := by decide +kernel
theorem dX5_haveEqualParts_33 : decode cX5_haveEqualParts 33 = .ok (.ireturn, 1) := by decide +kernel
theorem dX5_haveEqualParts_34 : decode cX5_haveEqualParts 34 = .ok (.iconst 0, 1) := by decide +kernel
theorem dX5_haveEqualParts_35 : decode cX5_haveEqualParts 35 = .ok (.istore_n 3, 1) := by decide +kernel
theorem dX5_haveEqualParts_36 : decode cX5_haveEqualParts 36 = .ok (.iload_n 3, 1) := by decide +kernel
theorem dX5_haveEqualParts_37 : decode cX5_haveEqualParts 37 = .ok (.aload_n 0, 1) := by decide +kernel
theorem dX5_haveEqualParts_38 : decode cX5_haveEqualParts 38 = .ok (.getfield 27, 3) := by decide +kernel
theorem dX5_haveEqualParts_41 : decode cX5_haveEqualParts 41 = .ok (.iload_n 1, 1) := by decide +kernel
theorem dX5_haveEqualParts_42 : decode cX5_haveEqualParts 42 = .ok (.invokevirtual 71, 3) := by decide +kernel
theorem dX5_haveEqualParts_45 : decode cX5_haveEqualParts 45 = .ok (.if_icmp .ge 42, 3) := by decide +kernel
theorem dX5_haveEqualParts_48 : decode cX5_haveEqualParts 48 = .ok (.aload_n 0, 1) := by decide +kernel
theorem dX5_haveEqualParts_49 : decode cX5_haveEqualParts 49 = .ok (.getfield 18, 3) := by decide +kernel
theorem dX5_haveEqualParts_52 : decode cX5_haveEqualParts 52 = .ok (.aload_n 0, 1) := by decide +kernel
theorem dX5_haveEqualParts_53 : decode cX5_haveEqualParts 53 = .ok (.getfield 27, 3) := by decide +kernel
theorem dX5_haveEqualParts_56 : decode cX5_haveEqualParts 56 = .ok (.iload_n 1, 1) := by decide +kernel
theorem dX5_haveEqualParts_57 : decode cX5_haveEqualParts 57 = .ok (.iload_n 3, 1) := by decide +kernel
theorem dX5_haveEqualParts_58 : decode cX5_haveEqualParts 58 = .ok (.invokevirtual 74, 3) := by decide +kernel
theorem dX5_haveEqualParts_61 : decode cX5_haveEqualParts 61 = .ok (.iaload, 1) := by decide +kernel
theorem dX5_haveEqualParts_62 : decode cX5_haveEqualParts 62 = .ok (.aload_n 0, 1) := by decide +kernel
theorem dX5_haveEqualParts_63 : decode cX5_haveEqualParts 63 = .ok (.getfield 18, 3) := by decide +kernel
theorem dX5_haveEqualParts_66 : decode cX5_haveEqualParts 66 = .ok (.aload_n 0, 1) := by decide +kernel
theorem dX5_haveEqualParts_67 : decode cX5_haveEqualParts 67 = .ok (.getfield 27, 3) := by decide +kernel
theorem dX5_haveEqualParts_70 : decode cX5_haveEqualParts 70 = .ok (.iload_n 2, 1) := by decide +kernel
theorem dX5_haveEqualParts_71 : decode cX5_haveEqualParts 71 = .ok (.iload_n 3, 1) := by decide +kernel
theorem dX5_haveEqualParts_72 : decode cX5_haveEqualParts 72 = .ok (.invokevirtual 74, 3) := by decide +kernel
theorem dX5_haveEqualParts_75 : decode cX5_haveEqualParts 75 = .ok (.iaload, 1) := by decide +kernel
theorem dX5_haveEqualParts_76 : decode cX5_haveEqualParts 76 = .ok (.if_icmp .eq 5, 3) := by decide +kernel
theorem dX5_haveEqualParts_79 : decode cX5_haveEqualParts 79 = .ok (.iconst 0, 1) := by decide +kernel
theorem dX5_haveEqualParts_80 : decode cX5_haveEqualParts 80 = .ok (.ireturn, 1) := by decide +kernel
theorem dX5_haveEqualParts_81 : decode cX5_haveEqualParts 81 = .ok (.iinc 3 1, 3) := by decide +kernel
theorem dX5_haveEqualParts_84 : decode cX5_haveEqualParts 84 = .ok (.goto (-48), 3) := by decide +kernel
theorem dX5_haveEqualParts_87 : decode cX5_haveEqualParts 87 = .ok (.iconst 1, 1) := by decide +kernel
theorem dX5_haveEqualParts_88 : decode cX5_haveEqualParts 88 = .ok (.ireturn, 1) := by decide +kernel
theorem dX5_isBuiltBy_0 : decode cX5_isBuiltBy 0 = .ok (.aload_n 0, 1) := by decide +kernel
theorem dX5_isBuiltBy_1 : decode cX5_isBuiltBy 1 = .ok (.getfield 27, 3) := by decide +kernel
theorem dX5_isBuiltBy_4 : decode cX5_isBuiltBy 4 = .ok (.getfield 81, 3) := by decide +kernel
theorem dX5_isBuiltBy_7 : decode cX5_isBuiltBy 7 = .ok (.iload_n 1, 1) := by decide +kernel
theorem dX5_isBuiltBy_8 : decode cX5_isBuiltBy 8 = .ok (.iaload, 1) := by decide +kernel
theorem dX5_isBuiltBy_9 : decode cX5_isBuiltBy 9 = .ok (.iload_n 2, 1) := by decide +kernel
theorem dX5_isBuiltBy_10 : decode cX5_isBuiltBy 10 = .ok (.if_icmp .ne 7, 3) := by decide +kernel
theorem dX5_isBuiltBy_13 : decode cX5_isBuiltBy 13 = .ok (.iconst 1, 1) := by decide +kernel
theorem dX5_isBuiltBy_14 : decode cX5_isBuiltBy 14 = .ok (.goto 4, 3) := by decide +kernel
theorem dX5_isBuiltBy_17 : decode cX5_isBuiltBy 17 = .ok (.iconst 0, 1) := by decide +kernel
theorem dX5_isBuiltBy_18 : decode cX5_isBuiltBy 18 = .ok (.ireturn, 1) := by decide +kernel
theorem dX5_split_0 : decode cX5_split 0 = .ok (.iconst 0, 1) := by decide +kernel
theorem dX5_split_1 : decode cX5_split 1 = .ok (.istore 4, 2) := by decide +kernel
theorem dX5_split_3 : decode cX5_split 3 = .ok (.iload 4, 2) := by decide +kernel
theorem dX5_split_5 : decode cX5_split 5 = .ok (.aload_n 0, 1) := by decide +kernel
theorem dX5_split_6 : decode cX5_split 6 = .ok (.getfield 27, 3) := by decide +kernel
theorem dX5_split_9 : decode cX5_split 9 = .ok (.iload_n 1, 1) := by decide +kernel
theorem dX5_split_10 : decode cX5_split 10 = .ok (.invokevirtual 71, 3) := by decide +kernel
theorem dX5_split_13 : decode cX5_split 13 = .ok (.if_icmp .ge 28, 3) := by decide +kernel
theorem dX5_split_16 : decode cX5_split 16 = .ok (.aload_n 3, 1) := by decide +kernel
theorem dX5_split_17 : decode cX5_split 17 = .ok (.iload 4, 2) := by decide +kernel
theorem dX5_split_19 : decode cX5_split 19 = .ok (.aload_n 0, 1) := by decide +kernel
theorem dX5_split_20 : decode cX5_split 20 = .ok (.getfield 18, 3) := by decide +kernel
theorem dX5_split_23 : decode cX5_split 23 = .ok (.aload_n 0, 1) := by decide +kernel
theorem dX5_split_24 : decode cX5_split 24 = .ok (.getfield 27, 3) := by decide +kernel
theorem dX5_split_27 : decode cX5_split 27 = .ok (.iload_n 1, 1) := by decide +kernel
theorem dX5_split_28 : decode cX5_split 28 = .ok (.iload 4, 2) := by decide +kernel
theorem dX5_split_30 : decode cX5_split 30 = .ok (.invokevirtual 74, 3) := by decide +kernel
theorem dX5_split_33 : decode cX5_split 33 = .ok (.iaload, 1) := by decide +kernel
theorem dX5_split_34 : decode cX5_split 34 = .ok (.iastore, 1) := by decide +kernel
theorem dX5_split_35 : decode cX5_split 35 = .ok (.iinc 4 1, 3) := by decide +kernel
theorem dX5_split_38 : decode cX5_split 38 = .ok (.goto (-35), 3) := by decide +kernel
theorem dX5_split_41 : decode cX5_split 41 = .ok (.return_, 1) := by decide +kernel
theorem dX6_run_0 : decode cX6_run 0 = .ok (.aload_n 0, 1) := by decide +kernel
theorem dX6_run_1 : decode cX6_run 1 = .ok (.getfield 25, 3) := by decide +kernel
theorem dX6_run_4 : decode cX6_run 4 = .ok (.getfield 38, 3) := by decide +kernel
theorem dX6_run_7 : decode cX6_run 7 = .ok (.iconst 0, 1) := by decide +kernel
theorem dX6_run_8 : decode cX6_run 8 = .ok (.aload_n 0, 1) := by decide +kernel
theorem dX6_run_9 : decode cX6_run 9 = .ok (.getfield 9, 3) := by decide +kernel
theorem dX6_run_12 : decode cX6_run 12 = .ok (.iconst 0, 1) := by decide +kernel
theorem dX6_run_13 : decode cX6_run 13 = .ok (.bipush 100, 2) := by decide +kernel
theorem dX6_run_15 : decode cX6_run 15 = .ok (.invokestatic 43, 3) := by decide +kernel
theorem dX6_run_18 : decode cX6_run 18 = .ok (.aload_n 0, 1) := by decide +kernel
theorem dX6_run_19 : decode cX6_run 19 = .ok (.getfield 21, 3) := by decide +kernel
theorem dX6_run_22 : decode cX6_run 22 = .ok (.lconst 0, 1) := by decide +kernel
theorem dX6_run_23 : decode cX6_run 23 = .ok (.invokestatic 49, 3) := by decide +kernel
theorem dX6_run_26 : decode cX6_run 26 = .ok (.aload_n 0, 1) := by decide +kernel
theorem dX6_run_27 : decode cX6_run 27 = .ok (.iconst 0, 1) := by decide +kernel
theorem dX6_run_28 : decode cX6_run 28 = .ok (.putfield 55, 3) := by decide +kernel
theorem dX6_run_31 : decode cX6_run 31 = .ok (.aload_n 0, 1) := by decide +kernel
theorem dX6_run_32 : decode cX6_run 32 = .ok (.iload_n 1, 1) := by decide +kernel
theorem dX6_run_33 : decode cX6_run 33 = .ok (.iload_n 2, 1) := by decide +kernel
theorem dX6_run_34 : decode cX6_run 34 = .ok (.invokevirtual 59, 3) := by decide +kernel
theorem dX6_run_37 : decode cX6_run 37 = .ok (.iconst 1, 1) := by decide +kernel
theorem dX6_run_38 : decode cX6_run 38 = .ok (.istore_n 3, 1) := by decide +kernel
theorem dX6_run_39 : decode cX6_run 39 = .ok (.iconst 0, 1) := by decide +kernel
theorem dX6_run_40 : decode cX6_run 40 = .ok (.istore 4, 2) := by decide +kernel
theorem dX6_run_42 : decode cX6_run 42 = .ok (.iload_n 3, 1) := by decide +kernel
theorem dX6_run_43 : decode cX6_run 43 = .ok (.iconst 1, 1) := by decide +kernel
theorem dX6_run_44 : decode cX6_run 44 = .ok (.if_icmp .ne 70, 3) := by decide +kernel
theorem dX6_run_47 : decode cX6_run 47 = .ok (.aload_n 0, 1) := by decide +kernel
theorem dX6_run_48 : decode cX6_run 48 = .ok (.getfield 55, 3) := by decide +kernel
theorem dX6_run_51 : decode cX6_run 51 = .ok (.ifCond .le 63, 3) := by decide +kernel
theorem dX6_run_54 : decode cX6_run 54 = .ok (.iload 4, 2) := by decide +kernel
theorem dX6_run_56 : decode cX6_run 56 = .ok (.ldc 63, 2) := by decide +kernel
theorem dX6_run_58 : decode cX6_run 58 = .ok (.if_icmp .ge 56, 3) := by decide +kernel
theorem dX6_run_61 : decode cX6_run 61 = .ok (.aload_n 0, 1) := by decide +kernel
theorem dX6_run_62 : decode cX6_run 62 = .ok (.dup, 1) := by decide +kernel
theorem dX6_run_63 : decode cX6_run 63 = .ok (.getfield 55, 3) := by decide +kernel
theorem dX6_run_66 : decode cX6_run 66 = .ok (.iconst 1, 1) := by decide +kernel
theorem dX6_run_67 : decode cX6_run 67 = .ok (.isub, 1) := by decide +kernel
theorem dX6_run_68 : decode cX6_run 68 = .ok (.putfield 55, 3) := by decide +kernel
theorem dX6_run_71 : decode cX6_run 71 = .ok (.aload_n 0, 1) := by decide +kernel
theorem dX6_run_72 : decode cX6_run 72 = .ok (.aload_n 0, 1) := by decide +kernel
theorem dX6_run_73 : decode cX6_run 73 = .ok (.getfield 25, 3) := by decide +kernel
theorem dX6_run_76 : decode cX6_run 76 = .ok (.aload_n 0, 1) := by decide +kernel
theorem dX6_run_77 : decode cX6_run 77 = .ok (.getfield 15, 3) := by decide +kernel
theorem dX6_run_80 : decode cX6_run 80 = .ok (.aload_n 0, 1) := by decide +kernel
theorem dX6_run_81 : decode cX6_run 81 = .ok (.getfield 55, 3) := by decide +kernel
theorem dX6_run_84 : decode cX6_run 84 = .ok (.iaload, 1) := by decide +kernel
theorem dX6_run_85 : decode cX6_run 85 = .ok (.invokevirtual 64, 3) := by decide +kernel
theorem dX6_run_88 : decode cX6_run 88 = .ok (.aload_n 0, 1) := by decide +kernel
theorem dX6_run_89 : decode cX6_run 89 = .ok (.getfield 25, 3) := by decide +kernel
theorem dX6_run_92 : decode cX6_run 92 = .ok (.aload_n 0, 1) := by decide +kernel
theorem dX6_run_93 : decode cX6_run 93 = .ok (.getfield 18, 3) := by decide +kernel
theorem dX6_run_96 : decode cX6_run 96 = .ok (.aload_n 0, 1) := by decide +kernel
theorem dX6_run_97 : decode cX6_run 97 = .ok (.getfield 55, 3) := by decide +kernel
theorem dX6_run_100 : decode cX6_run 100 = .ok (.iaload, 1) := by decide +kernel
theorem dX6_run_101 : decode cX6_run 101 = .ok (.invokevirtual 64, 3) := by decide +kernel
theorem dX6_run_104 : decode cX6_run 104 = .ok (.invokevirtual 68, 3) := by decide +kernel
theorem dX6_run_107 : decode cX6_run 107 = .ok (.istore_n 3, 1) := by decide +kernel
theorem dX6_run_108 : decode cX6_run 108 = .ok (.iinc 4 1, 3) := by decide +kernel
theorem dX6_run_111 : decode cX6_run 111 = .ok (.goto (-69), 3) := by decide +kernel
theorem dX6_run_114 : decode cX6_run 114 = .ok (.iload_n 3, 1) := by decide +kernel
theorem dX6_run_115 : decode cX6_run 115 = .ok (.iconst 1, 1) := by decide +kernel
theorem dX6_run_116 : decode cX6_run 116 = .ok (.if_icmp .eq 21, 3) := by decide +kernel
theorem dX6_run_119 : decode cX6_run 119 = .ok (.aload_n 0, 1) := by decide +kernel
theorem dX6_run_120 : decode cX6_run 120 = .ok (.getfield 9, 3) := by decide +kernel
theorem dX6_run_123 : decode cX6_run 123 = .ok (.iconst 0, 1) := by decide +kernel
theorem dX6_run_124 : decode cX6_run 124 = .ok (.aload_n 0, 1) := by decide +kernel
theorem dX6_run_125 : decode cX6_run 125 = .ok (.getfield 25, 3) := by decide +kernel
theorem dX6_run_128 : decode cX6_run 128 = .ok (.getfield 38, 3) := by decide +kernel
theorem dX6_run_131 : decode cX6_run 131 = .ok (.iconst 0, 1) := by decide +kernel
theorem dX6_run_132 : decode cX6_run 132 = .ok (.bipush 100, 2) := by decide +kernel
theorem dX6_run_134 : decode cX6_run 134 = .ok (.invokestatic 43, 3) := by decide +kernel
theorem dX6_run_137 : decode cX6_run 137 = .ok (.iload_n 3, 1) := by decide +kernel
theorem dX6_run_138 : decode cX6_run 138 = .ok (.ireturn, 1) := by decide +kernel
theorem dX6_unifyResolved_0 : decode cX6_unifyResolved 0 = .ok (.iload_n 1, 1) := by decide +kernel
theorem dX6_unifyResolved_1 : decode cX6_unifyResolved 1 = .ok (.iload_n 2, 1) := by decide +kernel
theorem dX6_unifyResolved_2 : decode cX6_unifyResolved 2 = .ok (.if_icmp .ne 5, 3) := by decide +kernel
theorem dX6_unifyResolved_5 : decode cX6_unifyResolved 5 = .ok (.iconst 1, 1) := by decide +kernel
theorem dX6_unifyResolved_6 : decode cX6_unifyResolved 6 = .ok (.ireturn, 1) := by decide +kernel
theorem dX6_unifyResolved_7 : decode cX6_unifyResolved 7 = .ok (.aload_n 0, 1) := by decide +kernel
theorem dX6_unifyResolved_8 : decode cX6_unifyResolved 8 = .ok (.getfield 25, 3) := by decide +kernel
theorem dX6_unifyResolved_11 : decode cX6_unifyResolved 11 = .ok (.iload_n 1, 1) := by decide +kernel
theorem dX6_unifyResolved_12 : decode cX6_unifyResolved 12 = .ok (.invokevirtual 72, 3) := by decide +kernel
theorem dX6_unifyResolved_15 : decode cX6_unifyResolved 15 = .ok (.ifCond .eq 34, 3) := by decide +kernel
theorem dX6_unifyResolved_18 : decode cX6_unifyResolved 18 = .ok (.aload_n 0, 1) := by decide +kernel
theorem dX6_unifyResolved_19 : decode cX6_unifyResolved 19 = .ok (.getfield 25, 3) := by decide +kernel
theorem dX6_unifyResolved_22 : decode cX6_unifyResolved 22 = .ok (.iload_n 2, 1) := by decide +kernel
theorem dX6_unifyResolved_23 : decode cX6_unifyResolved 23 = .ok (.invokevirtual 72, 3) := by decide +kernel
theorem dX6_unifyResolved_26 : decode cX6_unifyResolved 26 = .ok (.ifCond .eq 23, 3) := by decide +kernel
theorem dX6_unifyResolved_29 : decode cX6_unifyResolved 29 = .ok (.aload_n 0, 1) := by decide +kernel
theorem dX6_unifyResolved_30 : decode cX6_unifyResolved 30 = .ok (.getfield 25, 3) := by decide +kernel
theorem dX6_unifyResolved_33 : decode cX6_unifyResolved 33 = .ok (.getfield 38, 3) := by decide +kernel
theorem dX6_unifyResolved_36 : decode cX6_unifyResolved 36 = .ok (.iload_n 1, 1) := by decide +kernel
theorem dX6_unifyResolved_37 : decode cX6_unifyResolved 37 = .ok (.iload_n 2, 1) := by decide +kernel
theorem dX6_unifyResolved_38 : decode cX6_unifyResolved 38 = .ok (.invokestatic 76, 3) := by decide +kernel
theorem dX6_unifyResolved_41 : decode cX6_unifyResolved 41 = .ok (.iload_n 1, 1) := by decide +kernel
theorem dX6_unifyResolved_42 : decode cX6_unifyResolved 42 = .ok (.iload_n 2, 1) := by decide +kernel
theorem dX6_unifyResolved_43 : decode cX6_unifyResolved 43 = .ok (.invokestatic 81, 3) := by decide +kernel
theorem dX6_unifyResolved_46 : decode cX6_unifyResolved 46 = .ok (.iastore, 1) := by decide +kernel
theorem dX6_unifyResolved_47 : decode cX6_unifyResolved 47 = .ok (.iconst 1, 1) := by decide +kernel
theorem dX6_unifyResolved_48 : decode cX6_unifyResolved 48 = .ok (.ireturn, 1) := by decide +kernel
theorem dX6_unifyResolved_49 : decode cX6_unifyResolved 49 = .ok (.aload_n 0, 1) := by decide +kernel
theorem dX6_unifyResolved_50 : decode cX6_unifyResolved 50 = .ok (.getfield 25, 3) := by decide +kernel
theorem dX6_unifyResolved_53 : decode cX6_unifyResolved 53 = .ok (.iload_n 1, 1) := by decide +kernel
theorem dX6_unifyResolved_54 : decode cX6_unifyResolved 54 = .ok (.invokevirtual 72, 3) := by decide +kernel
theorem dX6_unifyResolved_57 : decode cX6_unifyResolved 57 = .ok (.ifCond .eq 10, 3) := by decide +kernel
theorem dX6_unifyResolved_60 : decode cX6_unifyResolved 60 = .ok (.aload_n 0, 1) := by decide +kernel
theorem dX6_unifyResolved_61 : decode cX6_unifyResolved 61 = .ok (.iload_n 1, 1) := by decide +kernel
theorem dX6_unifyResolved_62 : decode cX6_unifyResolved 62 = .ok (.iload_n 2, 1) := by decide +kernel
theorem dX6_unifyResolved_63 : decode cX6_unifyResolved 63 = .ok (.invokevirtual 84, 3) := by decide +kernel
theorem dX6_unifyResolved_66 : decode cX6_unifyResolved 66 = .ok (.ireturn, 1) := by decide +kernel
theorem dX6_unifyResolved_67 : decode cX6_unifyResolved 67 = .ok (.aload_n 0, 1) := by decide +kernel
theorem dX6_unifyResolved_68 : decode cX6_unifyResolved 68 = .ok (.getfield 25, 3) := by decide +kernel
theorem dX6_unifyResolved_71 : decode cX6_unifyResolved 71 = .ok (.iload_n 2, 1) := by decide +kernel
theorem dX6_unifyResolved_72 : decode cX6_unifyResolved 72 = .ok (.invokevirtual 72, 3) := by decide +kernel
theorem dX6_unifyResolved_75 : decode cX6_unifyResolved 75 = .ok (.ifCond .eq 10, 3) := by decide +kernel
theorem dX6_unifyResolved_78 : decode cX6_unifyResolved 78 = .ok (.aload_n 0, 1) := by decide +kernel
theorem dX6_unifyResolved_79 : decode cX6_unifyResolved 79 = .ok (.iload_n 2, 1) := by decide +kernel
theorem dX6_unifyResolved_80 : decode cX6_unifyResolved 80 = .ok (.iload_n 1, 1) := by decide +kernel
theorem dX6_unifyResolved_81 : decode cX6_unifyResolved 81 = .ok (.invokevirtual 84, 3) := by decide +kernel
theorem dX6_unifyResolved_84 : decode cX6_unifyResolved 84 = .ok (.ireturn, 1) := by decide +kernel
theorem dX6_unifyResolved_85 : decode cX6_unifyResolved 85 = .ok (.aload_n 0, 1) := by decide +kernel
theorem dX6_unifyResolved_86 : decode cX6_unifyResolved 86 = .ok (.getfield 25, 3) := by decide +kernel
theorem dX6_unifyResolved_89 : decode cX6_unifyResolved 89 = .ok (.getfield 87, 3) := by decide +kernel
theorem dX6_unifyResolved_92 : decode cX6_unifyResolved 92 = .ok (.iload_n 1, 1) := by decide +kernel
theorem dX6_unifyResolved_93 : decode cX6_unifyResolved 93 = .ok (.iaload, 1) := by decide +kernel
theorem dX6_unifyResolved_94 : decode cX6_unifyResolved 94 = .ok (.aload_n 0, 1) := by decide +kernel
theorem dX6_unifyResolved_95 : decode cX6_unifyResolved 95 = .ok (.getfield 25, 3) := by decide +kernel
theorem dX6_unifyResolved_98 : decode cX6_unifyResolved 98 = .ok (.getfield 87, 3) := by decide +kernel
theorem dX6_unifyResolved_101 : decode cX6_unifyResolved 101 = .ok (.iload_n 2, 1) := by decide +kernel
theorem dX6_unifyResolved_102 : decode cX6_unifyResolved 102 = .ok (.iaload, 1) := by decide +kernel
theorem dX6_unifyResolved_103 : decode cX6_unifyResolved 103 = .ok (.if_icmp .eq 6, 3) := by decide +kernel
theorem dX6_unifyResolved_106 : decode cX6_unifyResolved 106 = .ok (.bipush (-7), 2) := by decide +kernel
theorem dX6_unifyResolved_108 : decode cX6_unifyResolved 108 = .ok (.ireturn, 1) := by decide +kernel
theorem dX6_unifyResolved_109 : decode cX6_unifyResolved 109 = .ok (.aload_n 0, 1) := by decide +kernel
theorem dX6_unifyResolved_110 : decode cX6_unifyResolved 110 = .ok (.iload_n 1, 1) := by decide +kernel
theorem dX6_unifyResolved_111 : decode cX6_unifyResolved 111 = .ok (.iload_n 2, 1) := by decide +kernel
theorem dX6_unifyResolved_112 : decode cX6_unifyResolved 112 = .ok (.invokevirtual 90, 3) := by decide +kernel
theorem dX6_unifyResolved_115 : decode cX6_unifyResolved 115 = .ok (.iconst 1, 1) := by decide +kernel
theorem dX6_unifyResolved_116 : decode cX6_unifyResolved 116 = .ok (.ireturn, 1) := by decide +kernel
theorem dX6_bindToTerm_0 : decode cX6_bindToTerm 0 = .ok (.aload_n 0, 1) := by decide +kernel
theorem dX6_bindToTerm_1 : decode cX6_bindToTerm 1 = .ok (.getfield 34, 3) := by decide +kernel
theorem dX6_bindToTerm_4 : decode cX6_bindToTerm 4 = .ok (.invokevirtual 93, 3) := by decide +kernel
theorem dX6_bindToTerm_7 : decode cX6_bindToTerm 7 = .ok (.aload_n 0, 1) := by decide +kernel
theorem dX6_bindToTerm_8 : decode cX6_bindToTerm 8 = .ok (.getfield 34, 3) := by decide +kernel
theorem dX6_bindToTerm_11 : decode cX6_bindToTerm 11 = .ok (.iload_n 2, 1) := by decide +kernel
theorem dX6_bindToTerm_12 : decode cX6_bindToTerm 12 = .ok (.invokevirtual 96, 3) := by decide +kernel
theorem dX6_bindToTerm_15 : decode cX6_bindToTerm 15 = .ok (.aload_n 0, 1) := by decide +kernel
theorem dX6_bindToTerm_16 : decode cX6_bindToTerm 16 = .ok (.getfield 34, 3) := by decide +kernel
theorem dX6_bindToTerm_19 : decode cX6_bindToTerm 19 = .ok (.iload_n 1, 1) := by decide +kernel
theorem dX6_bindToTerm_20 : decode cX6_bindToTerm 20 = .ok (.invokevirtual 100, 3) := by decide +kernel
theorem dX6_bindToTerm_23 : decode cX6_bindToTerm 23 = .ok (.ifCond .eq 6, 3) := by decide +kernel
theorem dX6_bindToTerm_26 : decode cX6_bindToTerm 26 = .ok (.bipush (-8), 2) := by decide +kernel
theorem dX6_bindToTerm_28 : decode cX6_bindToTerm 28 = .ok (.ireturn, 1) := by decide +kernel
theorem dX6_bindToTerm_29 : decode cX6_bindToTerm 29 = .ok (.aload_n 0, 1) := by decide +kernel
theorem dX6_bindToTerm_30 : decode cX6_bindToTerm 30 = .ok (.getfield 25, 3) := by decide +kernel
theorem dX6_bindToTerm_33 : decode cX6_bindToTerm 33 = .ok (.getfield 38, 3) := by decide +kernel
theorem dX6_bindToTerm_36 : decode cX6_bindToTerm 36 = .ok (.iload_n 1, 1) := by decide +kernel
theorem dX6_bindToTerm_37 : decode cX6_bindToTerm 37 = .ok (.iload_n 2, 1) := by decide +kernel
theorem dX6_bindToTerm_38 : decode cX6_bindToTerm 38 = .ok (.iastore, 1) := by decide +kernel
theorem dX6_bindToTerm_39 : decode cX6_bindToTerm 39 = .ok (.iconst 1, 1) := by decide +kernel
theorem dX6_bindToTerm_40 : decode cX6_bindToTerm 40 = .ok (.ireturn, 1) := by decide +kernel
theorem dX6_open_0 : decode cX6_open 0 = .ok (.iload_n 1, 1) := by decide +kernel
theorem dX6_open_1 : decode cX6_open 1 = .ok (.bipush 100, 2) := by decide +kernel
theorem dX6_open_3 : decode cX6_open 3 = .ok (.imul, 1) := by decide +kernel
theorem dX6_open_4 : decode cX6_open 4 = .ok (.iload_n 2, 1) := by decide +kernel
theorem dX6_open_5 : decode cX6_open 5 = .ok (.iadd, 1) := by decide +kernel
theorem dX6_open_6 : decode cX6_open 6 = .ok (.istore_n 3, 1) := by decide +kernel
theorem dX6_open_7 : decode cX6_open 7 = .ok (.lconst 1, 1) := by decide +kernel
theorem dX6_open_8 : decode cX6_open 8 = .ok (.iload_n 3, 1) := by decide +kernel
theorem dX6_open_9 : decode cX6_open 9 = .ok (.bipush 64, 2) := by decide +kernel
theorem dX6_open_11 : decode cX6_open 11 = .ok (.irem, 1) := by decide +kernel
theorem dX6_open_12 : decode cX6_open 12 = .ok (.lshl, 1) := by decide +kernel
theorem dX6_open_13 : decode cX6_open 13 = .ok (.lstore 4, 2) := by decide +kernel
theorem dX6_open_15 : decode cX6_open 15 = .ok (.aload_n 0, 1) := by decide +kernel
theorem dX6_open_16 : decode cX6_open 16 = .ok (.getfield 21, 3) := by decide +kernel
theorem dX6_open_19 : decode cX6_open 19 = .ok (.iload_n 3, 1) := by decide +kernel
theorem dX6_open_20 : decode cX6_open 20 = .ok (.bipush 64, 2) := by decide +kernel
theorem dX6_open_22 : decode cX6_open 22 = .ok (.idiv, 1) := by decide +kernel
theorem dX6_open_23 : decode cX6_open 23 = .ok (.laload, 1) := by decide +kernel
theorem dX6_open_24 : decode cX6_open 24 = .ok (.lload 4, 2) := by decide +kernel
theorem dX6_open_26 : decode cX6_open 26 = .ok (.land, 1) := by decide +kernel
theorem dX6_open_27 : decode cX6_open 27 = .ok (.lconst 0, 1) := by decide +kernel
theorem dX6_open_28 : decode cX6_open 28 = .ok (.lcmp, 1) := by decide +kernel
theorem dX6_open_29 : decode cX6_open 29 = .ok (.ifCond .eq 4, 3) := by decide +kernel
theorem dX6_open_32 : decode cX6_open 32 = .ok (.return_, 1) := by decide +kernel
theorem dX6_open_33 : decode cX6_open 33 = .ok (.aload_n 0, 1) := by decide +kernel
theorem dX6_open_34 : decode cX6_open 34 = .ok (.getfield 21, 3) := by decide +kernel
theorem dX6_open_37 : decode cX6_open 37 = .ok (.iload_n 3, 1) := by decide +kernel
theorem dX6_open_38 : decode cX6_open 38 = .ok (.bipush 64, 2) := by decide +kernel
theorem dX6_open_40 : decode cX6_open 40 = .ok (.idiv, 1) := by decide +kernel
theorem dX6_open_41 : decode cX6_open 41 = .ok (.dup2, 1) := by decide +kernel
theorem dX6_open_42 : decode cX6_open 42 = .ok (.laload, 1) := by decide +kernel
theorem dX6_open_43 : decode cX6_open 43 = .ok (.lload 4, 2) := by decide +kernel
theorem dX6_open_45 : decode cX6_open 45 = .ok (.lor, 1) := by decide +kernel
theorem dX6_open_46 : decode cX6_open 46 = .ok (.lastore, 1) := by decide +kernel
theorem dX6_open_47 : decode cX6_open 47 = .ok (.aload_n 0, 1) := by decide +kernel
theorem dX6_open_48 : decode cX6_open 48 = .ok (.getfield 25, 3) := by decide +kernel
theorem dX6_open_51 : decode cX6_open 51 = .ok (.iload_n 1, 1) := by decide +kernel
theorem dX6_open_52 : decode cX6_open 52 = .ok (.invokevirtual 103, 3) := by decide +kernel
theorem dX6_open_55 : decode cX6_open 55 = .ok (.iconst 1, 1) := by decide +kernel
theorem dX6_open_56 : decode cX6_open 56 = .ok (.isub, 1) := by decide +kernel
theorem dX6_open_57 : decode cX6_open 57 = .ok (.istore 6, 2) := by decide +kernel
theorem dX6_open_59 : decode cX6_open 59 = .ok (.iload 6, 2) := by decide +kernel
theorem dX6_open_61 : decode cX6_open 61 = .ok (.ifCond .lt 41, 3) := by decide +kernel
theorem dX6_open_64 : decode cX6_open 64 = .ok (.aload_n 0, 1) := by decide +kernel
theorem dX6_open_65 : decode cX6_open 65 = .ok (.aload_n 0, 1) := by decide +kernel
theorem dX6_open_66 : decode cX6_open 66 = .ok (.getfield 25, 3) := by decide +kernel
theorem dX6_open_69 : decode cX6_open 69 = .ok (.getfield 106, 3) := by decide +kernel
theorem dX6_open_72 : decode cX6_open 72 = .ok (.iload_n 1, 1) := by decide +kernel
theorem dX6_open_73 : decode cX6_open 73 = .ok (.iconst 3, 1) := by decide +kernel
theorem dX6_open_74 : decode cX6_open 74 = .ok (.imul, 1) := by decide +kernel
theorem dX6_open_75 : decode cX6_open 75 = .ok (.iload 6, 2) := by decide +kernel
theorem dX6_open_77 : decode cX6_open 77 = .ok (.iadd, 1) := by decide +kernel
theorem dX6_open_78 : decode cX6_open 78 = .ok (.iaload, 1) := by decide +kernel
theorem dX6_open_79 : decode cX6_open 79 = .ok (.aload_n 0, 1) := by decide +kernel
theorem dX6_open_80 : decode cX6_open 80 = .ok (.getfield 25, 3) := by decide +kernel
theorem dX6_open_83 : decode cX6_open 83 = .ok (.getfield 106, 3) := by decide +kernel
theorem dX6_open_86 : decode cX6_open 86 = .ok (.iload_n 2, 1) := by decide +kernel
theorem dX6_open_87 : decode cX6_open 87 = .ok (.iconst 3, 1) := by decide +kernel
theorem dX6_open_88 : decode cX6_open 88 = .ok (.imul, 1) := by decide +kernel
theorem dX6_open_89 : decode cX6_open 89 = .ok (.iload 6, 2) := by decide +kernel
theorem dX6_open_91 : decode cX6_open 91 = .ok (.iadd, 1) := by decide +kernel
theorem dX6_open_92 : decode cX6_open 92 = .ok (.iaload, 1) := by decide +kernel
theorem dX6_open_93 : decode cX6_open 93 = .ok (.invokevirtual 59, 3) := by decide +kernel
theorem dX6_open_96 : decode cX6_open 96 = .ok (.iinc 6 (-1), 3) := by decide +kernel
theorem dX6_open_99 : decode cX6_open 99 = .ok (.goto (-40), 3) := by decide +kernel
theorem dX6_open_102 : decode cX6_open 102 = .ok (.return_, 1) := by decide +kernel
theorem dX6_await_0 : decode cX6_await 0 = .ok (.aload_n 0, 1) := by decide +kernel
theorem dX6_await_1 : decode cX6_await 1 = .ok (.getfield 55, 3) := by decide +kernel
theorem dX6_await_4 : decode cX6_await 4 = .ok (.sipush 300, 3) := by decide +kernel
theorem dX6_await_7 : decode cX6_await 7 = .ok (.if_icmp .ge 33, 3) := by decide +kernel
theorem dX6_await_10 : decode cX6_await 10 = .ok (.aload_n 0, 1) := by decide +kernel
theorem dX6_await_11 : decode cX6_await 11 = .ok (.getfield 15, 3) := by decide +kernel
theorem dX6_await_14 : decode cX6_await 14 = .ok (.aload_n 0, 1) := by decide +kernel
theorem dX6_await_15 : decode cX6_await 15 = .ok (.getfield 55, 3) := by decide +kernel
theorem dX6_await_18 : decode cX6_await 18 = .ok (.iload_n 1, 1) := by decide +kernel
theorem dX6_await_19 : decode cX6_await 19 = .ok (.iastore, 1) := by decide +kernel
theorem dX6_await_20 : decode cX6_await 20 = .ok (.aload_n 0, 1) := by decide +kernel
theorem dX6_await_21 : decode cX6_await 21 = .ok (.getfield 18, 3) := by decide +kernel
theorem dX6_await_24 : decode cX6_await 24 = .ok (.aload_n 0, 1) := by decide +kernel
theorem dX6_await_25 : decode cX6_await 25 = .ok (.getfield 55, 3) := by decide +kernel
theorem dX6_await_28 : decode cX6_await 28 = .ok (.iload_n 2, 1) := by decide +kernel
theorem dX6_await_29 : decode cX6_await 29 = .ok (.iastore, 1) := by decide +kernel
theorem dX6_await_30 : decode cX6_await 30 = .ok (.aload_n 0, 1) := by decide +kernel
theorem dX6_await_31 : decode cX6_await 31 = .ok (.dup, 1) := by decide +kernel
theorem dX6_await_32 : decode cX6_await 32 = .ok (.getfield 55, 3) := by decide +kernel
theorem dX6_await_35 : decode cX6_await 35 = .ok (.iconst 1, 1) := by decide +kernel
theorem dX6_await_36 : decode cX6_await 36 = .ok (.iadd, 1) := by decide +kernel
theorem dX6_await_37 : decode cX6_await 37 = .ok (.putfield 55, 3) := by decide +kernel
theorem dX6_await_40 : decode cX6_await 40 = .ok (.return_, 1) := by decide +kernel
theorem dX7_build_0 : decode cX7_build 0 = .ok (.aload_n 0, 1) := by decide +kernel
theorem dX7_build_1 : decode cX7_build 1 = .ok (.getfield 32, 3) := by decide +kernel
theorem dX7_build_4 : decode cX7_build 4 = .ok (.getfield 36, 3) := by decide +kernel
theorem dX7_build_7 : decode cX7_build 7 = .ok (.istore 4, 2) := by decide +kernel
theorem dX7_build_9 : decode cX7_build 9 = .ok (.iload 4, 2) := by decide +kernel
theorem dX7_build_11 : decode cX7_build 11 = .ok (.iload_n 2, 1) := by decide +kernel
theorem dX7_build_12 : decode cX7_build 12 = .ok (.iadd, 1) := by decide +kernel
theorem dX7_build_13 : decode cX7_build 13 = .ok (.iconst 1, 1) := by decide +kernel
theorem dX7_build_14 : decode cX7_build 14 = .ok (.isub, 1) := by decide +kernel
theorem dX7_build_15 : decode cX7_build 15 = .ok (.istore 5, 2) := by decide +kernel
theorem dX7_build_17 : decode cX7_build 17 = .ok (.aload_n 0, 1) := by decide +kernel
theorem dX7_build_18 : decode cX7_build 18 = .ok (.iconst 0, 1) := by decide +kernel
theorem dX7_build_19 : decode cX7_build 19 = .ok (.putfield 42, 3) := by decide +kernel
theorem dX7_build_22 : decode cX7_build 22 = .ok (.aload_n 0, 1) := by decide +kernel
theorem dX7_build_23 : decode cX7_build 23 = .ok (.iload_n 1, 1) := by decide +kernel
theorem dX7_build_24 : decode cX7_build 24 = .ok (.iload_n 2, 1) := by decide +kernel
theorem dX7_build_25 : decode cX7_build 25 = .ok (.iload_n 3, 1) := by decide +kernel
theorem dX7_build_26 : decode cX7_build 26 = .ok (.invokestatic 45, 3) := by decide +kernel
theorem dX7_build_29 : decode cX7_build 29 = .ok (.bipush (-13), 2) := by decide +kernel
theorem dX7_build_31 : decode cX7_build 31 = .ok (.invokevirtual 51, 3) := by decide +kernel
theorem dX7_build_34 : decode cX7_build 34 = .ok (.iload 5, 2) := by decide +kernel
theorem dX7_build_36 : decode cX7_build 36 = .ok (.istore 6, 2) := by decide +kernel
theorem dX7_build_38 : decode cX7_build 38 = .ok (.iload 6, 2) := by decide +kernel
theorem dX7_build_40 : decode cX7_build 40 = .ok (.iload 4, 2) := by decide +kernel
theorem dX7_build_42 : decode cX7_build 42 = .ok (.if_icmp .lt 59, 3) := by decide +kernel
theorem dX7_build_45 : decode cX7_build 45 = .ok (.aload_n 0, 1) := by decide +kernel
theorem dX7_build_46 : decode cX7_build 46 = .ok (.getfield 42, 3) := by decide +kernel
theorem dX7_build_49 : decode cX7_build 49 = .ok (.ifCond .le 52, 3) := by decide +kernel
theorem dX7_build_52 : decode cX7_build 52 = .ok (.aload_n 0, 1) := by decide +kernel
theorem dX7_build_53 : decode cX7_build 53 = .ok (.dup, 1) := by decide +kernel
theorem dX7_build_54 : decode cX7_build 54 = .ok (.getfield 42, 3) := by decide +kernel
theorem dX7_build_57 : decode cX7_build 57 = .ok (.iconst 1, 1) := by decide +kernel
theorem dX7_build_58 : decode cX7_build 58 = .ok (.isub, 1) := by decide +kernel
theorem dX7_build_59 : decode cX7_build 59 = .ok (.putfield 42, 3) := by decide +kernel
theorem dX7_build_62 : decode cX7_build 62 = .ok (.aload_n 0, 1) := by decide +kernel
theorem dX7_build_63 : decode cX7_build 63 = .ok (.iload 6, 2) := by decide +kernel
theorem dX7_build_65 : decode cX7_build 65 = .ok (.aload_n 0, 1) := by decide +kernel
theorem dX7_build_66 : decode cX7_build 66 = .ok (.getfield 9, 3) := by decide +kernel
theorem dX7_build_69 : decode cX7_build 69 = .ok (.aload_n 0, 1) := by decide +kernel
theorem dX7_build_70 : decode cX7_build 70 = .ok (.getfield 42, 3) := by decide +kernel
theorem dX7_build_73 : decode cX7_build 73 = .ok (.iaload, 1) := by decide +kernel
theorem dX7_build_74 : decode cX7_build 74 = .ok (.aload_n 0, 1) := by decide +kernel
theorem dX7_build_75 : decode cX7_build 75 = .ok (.getfield 15, 3) := by decide +kernel
theorem dX7_build_78 : decode cX7_build 78 = .ok (.aload_n 0, 1) := by decide +kernel
theorem dX7_build_79 : decode cX7_build 79 = .ok (.getfield 42, 3) := by decide +kernel
theorem dX7_build_82 : decode cX7_build 82 = .ok (.iaload, 1) := by decide +kernel
theorem dX7_build_83 : decode cX7_build 83 = .ok (.aload_n 0, 1) := by decide +kernel
theorem dX7_build_84 : decode cX7_build 84 = .ok (.getfield 18, 3) := by decide +kernel
theorem dX7_build_87 : decode cX7_build 87 = .ok (.aload_n 0, 1) := by decide +kernel
theorem dX7_build_88 : decode cX7_build 88 = .ok (.getfield 42, 3) := by decide +kernel
theorem dX7_build_91 : decode cX7_build 91 = .ok (.iaload, 1) := by decide +kernel
theorem dX7_build_92 : decode cX7_build 92 = .ok (.invokevirtual 55, 3) := by decide +kernel
theorem dX7_build_95 : decode cX7_build 95 = .ok (.iinc 6 (-1), 3) := by decide +kernel
theorem dX7_build_98 : decode cX7_build 98 = .ok (.goto (-60), 3) := by decide +kernel
theorem dX7_build_101 : decode cX7_build 101 = .ok (.aload_n 0, 1) := by decide +kernel
theorem dX7_build_102 : decode cX7_build 102 = .ok (.getfield 32, 3) := by decide +kernel
theorem dX7_build_105 : decode cX7_build 105 = .ok (.dup, 1) := by decide +kernel
theorem dX7_build_106 : decode cX7_build 106 = .ok (.getfield 36, 3) := by decide +kernel
theorem dX7_build_109 : decode cX7_build 109 = .ok (.iload_n 2, 1) := by decide +kernel
theorem dX7_build_110 : decode cX7_build 110 = .ok (.iadd, 1) := by decide +kernel
theorem dX7_build_111 : decode cX7_build 111 = .ok (.putfield 36, 3) := by decide +kernel
theorem dX7_build_114 : decode cX7_build 114 = .ok (.iload 5, 2) := by decide +kernel
theorem dX7_build_116 : decode cX7_build 116 = .ok (.ireturn, 1) := by decide +kernel
theorem dX7_place_0 : decode cX7_place 0 = .ok (.aload_n 0, 1) := by decide +kernel
theorem dX7_place_1 : decode cX7_place 1 = .ok (.getfield 28, 3) := by decide +kernel
theorem dX7_place_4 : decode cX7_place 4 = .ok (.iload_n 2, 1) := by decide +kernel
theorem dX7_place_5 : decode cX7_place 5 = .ok (.iload_n 3, 1) := by decide +kernel
theorem dX7_place_6 : decode cX7_place 6 = .ok (.invokevirtual 59, 3) := by decide +kernel
theorem dX7_place_9 : decode cX7_place 9 = .ok (.istore 5, 2) := by decide +kernel
theorem dX7_place_11 : decode cX7_place 11 = .ok (.iload 5, 2) := by decide +kernel
theorem dX7_place_13 : decode cX7_place 13 = .ok (.iconst (-1), 1) := by decide +kernel
theorem dX7_place_14 : decode cX7_place 14 = .ok (.if_icmp .ne 4, 3) := by decide +kernel
theorem dX7_place_17 : decode cX7_place 17 = .ok (.return_, 1) := by decide +kernel
theorem dX7_place_18 : decode cX7_place 18 = .ok (.aload_n 0, 1) := by decide +kernel
theorem dX7_place_19 : decode cX7_place 19 = .ok (.getfield 32, 3) := by decide +kernel
theorem dX7_place_22 : decode cX7_place 22 = .ok (.iload_n 1, 1) := by decide +kernel
theorem dX7_place_23 : decode cX7_place 23 = .ok (.iload 5, 2) := by decide +kernel
theorem dX7_place_25 : decode cX7_place 25 = .ok (.invokevirtual 62, 3) := by decide +kernel
theorem dX7_place_28 : decode cX7_place 28 = .ok (.iload 4, 2) := by decide +kernel
theorem dX7_place_30 : decode cX7_place 30 = .ok (.bipush (-13), 2) := by decide +kernel
theorem dX7_place_32 : decode cX7_place 32 = .ok (.if_icmp .eq 14, 3) := by decide +kernel
theorem dX7_place_35 : decode cX7_place 35 = .ok (.aload_n 0, 1) := by decide +kernel
theorem dX7_place_36 : decode cX7_place 36 = .ok (.getfield 32, 3) := by decide +kernel
theorem dX7_place_39 : decode cX7_place 39 = .ok (.getfield 66, 3) := by decide +kernel
theorem dX7_place_42 : decode cX7_place 42 = .ok (.iload 4, 2) := by decide +kernel
theorem dX7_place_44 : decode cX7_place 44 = .ok (.iload_n 1, 1) := by decide +kernel
theorem dX7_place_45 : decode cX7_place 45 = .ok (.iastore, 1) := by decide +kernel
theorem dX7_place_46 : decode cX7_place 46 = .ok (.aload_n 0, 1) := by decide +kernel
theorem dX7_place_47 : decode cX7_place 47 = .ok (.getfield 28, 3) := by decide +kernel
theorem dX7_place_50 : decode cX7_place 50 = .ok (.iload_n 3, 1) := by decide +kernel
theorem dX7_place_51 : decode cX7_place 51 = .ok (.iload 5, 2) := by decide +kernel
theorem dX7_place_53 : decode cX7_place 53 = .ok (.aload_n 0, 1) := by decide +kernel
theorem dX7_place_54 : decode cX7_place 54 = .ok (.getfield 21, 3) := by decide +kernel
theorem dX7_place_57 : decode cX7_place 57 = .ok (.invokevirtual 69, 3) := by decide +kernel
theorem dX7_place_60 : decode cX7_place 60 = .ok (.iconst 0, 1) := by decide +kernel
theorem dX7_place_61 : decode cX7_place 61 = .ok (.istore 6, 2) := by decide +kernel
theorem dX7_place_63 : decode cX7_place 63 = .ok (.iload 6, 2) := by decide +kernel
theorem dX7_place_65 : decode cX7_place 65 = .ok (.aload_n 0, 1) := by decide +kernel
theorem dX7_place_66 : decode cX7_place 66 = .ok (.getfield 24, 3) := by decide +kernel
theorem dX7_place_69 : decode cX7_place 69 = .ok (.getfield 73, 3) := by decide +kernel
theorem dX7_place_72 : decode cX7_place 72 = .ok (.iload 5, 2) := by decide +kernel
theorem dX7_place_74 : decode cX7_place 74 = .ok (.iaload, 1) := by decide +kernel
theorem dX7_place_75 : decode cX7_place 75 = .ok (.if_icmp .ge 37, 3) := by decide +kernel
theorem dX7_place_78 : decode cX7_place 78 = .ok (.aload_n 0, 1) := by decide +kernel
theorem dX7_place_79 : decode cX7_place 79 = .ok (.aload_n 0, 1) := by decide +kernel
theorem dX7_place_80 : decode cX7_place 80 = .ok (.getfield 24, 3) := by decide +kernel
theorem dX7_place_83 : decode cX7_place 83 = .ok (.iload 5, 2) := by decide +kernel
theorem dX7_place_85 : decode cX7_place 85 = .ok (.iload 6, 2) := by decide +kernel
theorem dX7_place_87 : decode cX7_place 87 = .ok (.invokevirtual 78, 3) := by decide +kernel
theorem dX7_place_90 : decode cX7_place 90 = .ok (.aload_n 0, 1) := by decide +kernel
theorem dX7_place_91 : decode cX7_place 91 = .ok (.getfield 21, 3) := by decide +kernel
theorem dX7_place_94 : decode cX7_place 94 = .ok (.iload 6, 2) := by decide +kernel
theorem dX7_place_96 : decode cX7_place 96 = .ok (.iaload, 1) := by decide +kernel
theorem dX7_place_97 : decode cX7_place 97 = .ok (.iload_n 1, 1) := by decide +kernel
theorem dX7_place_98 : decode cX7_place 98 = .ok (.iconst 3, 1) := by decide +kernel
theorem dX7_place_99 : decode cX7_place 99 = .ok (.imul, 1) := by decide +kernel
theorem dX7_place_100 : decode cX7_place 100 = .ok (.iload 6, 2) := by decide +kernel
theorem dX7_place_102 : decode cX7_place 102 = .ok (.iadd, 1) := by decide +kernel
theorem dX7_place_103 : decode cX7_place 103 = .ok (.invokevirtual 51, 3) := by decide +kernel
theorem dX7_place_106 : decode cX7_place 106 = .ok (.iinc 6 1, 3) := by decide +kernel
theorem dX7_place_109 : decode cX7_place 109 = .ok (.goto (-46), 3) := by decide +kernel
theorem dX7_place_112 : decode cX7_place 112 = .ok (.return_, 1) := by decide +kernel
theorem dX7_await_0 : decode cX7_await 0 = .ok (.aload_n 0, 1) := by decide +kernel
theorem dX7_await_1 : decode cX7_await 1 = .ok (.getfield 42, 3) := by decide +kernel
theorem dX7_await_4 : decode cX7_await 4 = .ok (.bipush 12, 2) := by decide +kernel
theorem dX7_await_6 : decode cX7_await 6 = .ok (.if_icmp .ge 43, 3) := by decide +kernel
theorem dX7_await_9 : decode cX7_await 9 = .ok (.aload_n 0, 1) := by decide +kernel
theorem dX7_await_10 : decode cX7_await 10 = .ok (.getfield 9, 3) := by decide +kernel
theorem dX7_await_13 : decode cX7_await 13 = .ok (.aload_n 0, 1) := by decide +kernel
theorem dX7_await_14 : decode cX7_await 14 = .ok (.getfield 42, 3) := by decide +kernel
theorem dX7_await_17 : decode cX7_await 17 = .ok (.iload_n 1, 1) := by decide +kernel
theorem dX7_await_18 : decode cX7_await 18 = .ok (.iastore, 1) := by decide +kernel
theorem dX7_await_19 : decode cX7_await 19 = .ok (.aload_n 0, 1) := by decide +kernel
theorem dX7_await_20 : decode cX7_await 20 = .ok (.getfield 15, 3) := by decide +kernel
theorem dX7_await_23 : decode cX7_await 23 = .ok (.aload_n 0, 1) := by decide +kernel
theorem dX7_await_24 : decode cX7_await 24 = .ok (.getfield 42, 3) := by decide +kernel
theorem dX7_await_27 : decode cX7_await 27 = .ok (.iload_n 2, 1) := by decide +kernel
theorem dX7_await_28 : decode cX7_await 28 = .ok (.iastore, 1) := by decide +kernel
theorem dX7_await_29 : decode cX7_await 29 = .ok (.aload_n 0, 1) := by decide +kernel
theorem dX7_await_30 : decode cX7_await 30 = .ok (.getfield 18, 3) := by decide +kernel
theorem dX7_await_33 : decode cX7_await 33 = .ok (.aload_n 0, 1) := by decide +kernel
theorem dX7_await_34 : decode cX7_await 34 = .ok (.getfield 42, 3) := by decide +kernel
theorem dX7_await_37 : decode cX7_await 37 = .ok (.iload_n 3, 1) := by decide +kernel
theorem dX7_await_38 : decode cX7_await 38 = .ok (.iastore, 1) := by decide +kernel
theorem dX7_await_39 : decode cX7_await 39 = .ok (.aload_n 0, 1) := by decide +kernel
theorem dX7_await_40 : decode cX7_await 40 = .ok (.dup, 1) := by decide +kernel
theorem dX7_await_41 : decode cX7_await 41 = .ok (.getfield 42, 3) := by decide +kernel
theorem dX7_await_44 : decode cX7_await 44 = .ok (.iconst 1, 1) := by decide +kernel
theorem dX7_await_45 : decode cX7_await 45 = .ok (.iadd, 1) := by decide +kernel
theorem dX7_await_46 : decode cX7_await 46 = .ok (.putfield 42, 3) := by decide +kernel
theorem dX7_await_49 : decode cX7_await 49 = .ok (.return_, 1) := by decide +kernel
theorem dX8_keyOf_0 : decode cX8_keyOf 0 = .ok (.iload_n 0, 1) := by decide +kernel
theorem dX8_keyOf_1 : decode cX8_keyOf 1 = .ok (.ldc 25, 2) := by decide +kernel
theorem dX8_keyOf_3 : decode cX8_keyOf 3 = .ok (.imul, 1) := by decide +kernel
theorem dX8_keyOf_4 : decode cX8_keyOf 4 = .ok (.iload_n 1, 1) := by decide +kernel
theorem dX8_keyOf_5 : decode cX8_keyOf 5 = .ok (.iadd, 1) := by decide +kernel
theorem dX8_keyOf_6 : decode cX8_keyOf 6 = .ok (.ireturn, 1) := by decide +kernel
theorem dX8_sizeOfKey_0 : decode cX8_sizeOfKey 0 = .ok (.iload_n 0, 1) := by decide +kernel
theorem dX8_sizeOfKey_1 : decode cX8_sizeOfKey 1 = .ok (.ldc 25, 2) := by decide +kernel
theorem dX8_sizeOfKey_3 : decode cX8_sizeOfKey 3 = .ok (.idiv, 1) := by decide +kernel
theorem dX8_sizeOfKey_4 : decode cX8_sizeOfKey 4 = .ok (.ireturn, 1) := by decide +kernel
theorem dX8_indexOfKey_0 : decode cX8_indexOfKey 0 = .ok (.iload_n 0, 1) := by decide +kernel
theorem dX8_indexOfKey_1 : decode cX8_indexOfKey 1 = .ok (.ldc 25, 2) := by decide +kernel
theorem dX8_indexOfKey_3 : decode cX8_indexOfKey 3 = .ok (.irem, 1) := by decide +kernel
theorem dX8_indexOfKey_4 : decode cX8_indexOfKey 4 = .ok (.ireturn, 1) := by decide +kernel
theorem dX8_countOf_0 : decode cX8_countOf 0 = .ok (.aload_n 0, 1) := by decide +kernel
theorem dX8_countOf_1 : decode cX8_countOf 1 = .ok (.getfield 9, 3) := by decide +kernel
theorem dX8_countOf_4 : decode cX8_countOf 4 = .ok (.iload_n 1, 1) := by decide +kernel
theorem dX8_countOf_5 : decode cX8_countOf 5 = .ok (.bipush 13, 2) := by decide +kernel
theorem dX8_countOf_7 : decode cX8_countOf 7 = .ok (.imul, 1) := by decide +kernel
theorem dX8_countOf_8 : decode cX8_countOf 8 = .ok (.iload_n 2, 1) := by decide +kernel
theorem dX8_countOf_9 : decode cX8_countOf 9 = .ok (.iadd, 1) := by decide +kernel
theorem dX8_countOf_10 : decode cX8_countOf 10 = .ok (.iaload, 1) := by decide +kernel
theorem dX8_countOf_11 : decode cX8_countOf 11 = .ok (.ireturn, 1) := by decide +kernel
theorem dX8_recompute_0 : decode cX8_recompute 0 = .ok (.aload_n 0, 1) := by decide +kernel
theorem dX8_recompute_1 : decode cX8_recompute 1 = .ok (.getfield 9, 3) := by decide +kernel
theorem dX8_recompute_4 : decode cX8_recompute 4 = .ok (.iconst 0, 1) := by decide +kernel
theorem dX8_recompute_5 : decode cX8_recompute 5 = .ok (.invokestatic 26, 3) := by decide +kernel
theorem dX8_recompute_8 : decode cX8_recompute 8 = .ok (.iconst 1, 1) := by decide +kernel
theorem dX8_recompute_9 : decode cX8_recompute 9 = .ok (.istore_n 1, 1) := by decide +kernel
theorem dX8_recompute_10 : decode cX8_recompute 10 = .ok (.iload_n 1, 1) := by decide +kernel
theorem dX8_recompute_11 : decode cX8_recompute 11 = .ok (.bipush 12, 2) := by decide +kernel
theorem dX8_recompute_13 : decode cX8_recompute 13 = .ok (.if_icmp .gt 92, 3) := by decide +kernel
theorem dX8_recompute_16 : decode cX8_recompute 16 = .ok (.iconst 0, 1) := by decide +kernel
theorem dX8_recompute_17 : decode cX8_recompute 17 = .ok (.istore_n 2, 1) := by decide +kernel
theorem dX8_recompute_18 : decode cX8_recompute 18 = .ok (.iload_n 2, 1) := by decide +kernel
theorem dX8_recompute_19 : decode cX8_recompute 19 = .ok (.aload_n 0, 1) := by decide +kernel
theorem dX8_recompute_20 : decode cX8_recompute 20 = .ok (.getfield 21, 3) := by decide +kernel
theorem dX8_recompute_23 : decode cX8_recompute 23 = .ok (.getfield 32, 3) := by decide +kernel
theorem dX8_recompute_26 : decode cX8_recompute 26 = .ok (.if_icmp .ge 73, 3) := by decide +kernel
theorem dX8_recompute_29 : decode cX8_recompute 29 = .ok (.aload_n 0, 1) := by decide +kernel
theorem dX8_recompute_30 : decode cX8_recompute 30 = .ok (.iload_n 2, 1) := by decide +kernel
theorem dX8_recompute_31 : decode cX8_recompute 31 = .ok (.iload_n 1, 1) := by decide +kernel
theorem dX8_recompute_32 : decode cX8_recompute 32 = .ok (.iconst 1, 1) := by decide +kernel
theorem dX8_recompute_33 : decode cX8_recompute 33 = .ok (.isub, 1) := by decide +kernel
theorem dX8_recompute_34 : decode cX8_recompute 34 = .ok (.invokevirtual 38, 3) := by decide +kernel
theorem dX8_recompute_37 : decode cX8_recompute 37 = .ok (.aload_n 0, 1) := by decide +kernel
theorem dX8_recompute_38 : decode cX8_recompute 38 = .ok (.getfield 21, 3) := by decide +kernel
theorem dX8_recompute_41 : decode cX8_recompute 41 = .ok (.getfield 42, 3) := by decide +kernel
theorem dX8_recompute_44 : decode cX8_recompute 44 = .ok (.iload_n 2, 1) := by decide +kernel
theorem dX8_recompute_45 : decode cX8_recompute 45 = .ok (.iaload, 1) := by decide +kernel
theorem dX8_recompute_46 : decode cX8_recompute 46 = .ok (.bipush 13, 2) := by decide +kernel
theorem dX8_recompute_48 : decode cX8_recompute 48 = .ok (.imul, 1) := by decide +kernel
theorem dX8_recompute_49 : decode cX8_recompute 49 = .ok (.iload_n 1, 1) := by decide +kernel
theorem dX8_recompute_50 : decode cX8_recompute 50 = .ok (.iadd, 1) := by decide +kernel
theorem dX8_recompute_51 : decode cX8_recompute 51 = .ok (.istore_n 3, 1) := by decide +kernel
theorem dX8_recompute_52 : decode cX8_recompute 52 = .ok (.aload_n 0, 1) := by decide +kernel
theorem dX8_recompute_53 : decode cX8_recompute 53 = .ok (.getfield 15, 3) := by decide +kernel
theorem dX8_recompute_56 : decode cX8_recompute 56 = .ok (.iload_n 2, 1) := by decide +kernel
theorem dX8_recompute_57 : decode cX8_recompute 57 = .ok (.bipush 13, 2) := by decide +kernel
theorem dX8_recompute_59 : decode cX8_recompute 59 = .ok (.imul, 1) := by decide +kernel
theorem dX8_recompute_60 : decode cX8_recompute 60 = .ok (.iload_n 1, 1) := by decide +kernel
theorem dX8_recompute_61 : decode cX8_recompute 61 = .ok (.iadd, 1) := by decide +kernel
theorem dX8_recompute_62 : decode cX8_recompute 62 = .ok (.aload_n 0, 1) := by decide +kernel
theorem dX8_recompute_63 : decode cX8_recompute 63 = .ok (.getfield 9, 3) := by decide +kernel
theorem dX8_recompute_66 : decode cX8_recompute 66 = .ok (.iload_n 3, 1) := by decide +kernel
theorem dX8_recompute_67 : decode cX8_recompute 67 = .ok (.iaload, 1) := by decide +kernel
theorem dX8_recompute_68 : decode cX8_recompute 68 = .ok (.iastore, 1) := by decide +kernel
theorem dX8_recompute_69 : decode cX8_recompute 69 = .ok (.aload_n 0, 1) := by decide +kernel
theorem dX8_recompute_70 : decode cX8_recompute 70 = .ok (.getfield 9, 3) := by decide +kernel
theorem dX8_recompute_73 : decode cX8_recompute 73 = .ok (.iload_n 3, 1) := by decide +kernel
theorem dX8_recompute_74 : decode cX8_recompute 74 = .ok (.aload_n 0, 1) := by decide +kernel
theorem dX8_recompute_75 : decode cX8_recompute 75 = .ok (.getfield 9, 3) := by decide +kernel
theorem dX8_recompute_78 : decode cX8_recompute 78 = .ok (.iload_n 3, 1) := by decide +kernel
theorem dX8_recompute_79 : decode cX8_recompute 79 = .ok (.iaload, 1) := by decide +kernel
theorem dX8_recompute_80 : decode cX8_recompute 80 = .ok (.aload_n 0, 1) := by decide +kernel
theorem dX8_recompute_81 : decode cX8_recompute 81 = .ok (.iload_n 2, 1) := by decide +kernel
theorem dX8_recompute_82 : decode cX8_recompute 82 = .ok (.iconst 0, 1) := by decide +kernel
theorem dX8_recompute_83 : decode cX8_recompute 83 = .ok (.iload_n 1, 1) := by decide +kernel
theorem dX8_recompute_84 : decode cX8_recompute 84 = .ok (.iconst 1, 1) := by decide +kernel
theorem dX8_recompute_85 : decode cX8_recompute 85 = .ok (.isub, 1) := by decide +kernel
theorem dX8_recompute_86 : decode cX8_recompute 86 = .ok (.invokevirtual 45, 3) := by decide +kernel
theorem dX8_recompute_89 : decode cX8_recompute 89 = .ok (.invokestatic 49, 3) := by decide +kernel
theorem dX8_recompute_92 : decode cX8_recompute 92 = .ok (.iastore, 1) := by decide +kernel
theorem dX8_recompute_93 : decode cX8_recompute 93 = .ok (.iinc 2 1, 3) := by decide +kernel
theorem dX8_recompute_96 : decode cX8_recompute 96 = .ok (.goto (-78), 3) := by decide +kernel
theorem dX8_recompute_99 : decode cX8_recompute 99 = .ok (.iinc 1 1, 3) := by decide +kernel
theorem dX8_recompute_102 : decode cX8_recompute 102 = .ok (.goto (-92), 3) := by decide +kernel
theorem dX8_recompute_105 : decode cX8_recompute 105 = .ok (.return_, 1) := by decide +kernel
theorem dX8_fillWays_0 : decode cX8_fillWays 0 = .ok (.aload_n 0, 1) := by decide +kernel
theorem dX8_fillWays_1 : decode cX8_fillWays 1 = .ok (.getfield 21, 3) := by decide +kernel
theorem dX8_fillWays_4 : decode cX8_fillWays 4 = .ok (.getfield 53, 3) := by decide +kernel
theorem dX8_fillWays_7 : decode cX8_fillWays 7 = .ok (.iload_n 1, 1) := by decide +kernel
theorem dX8_fillWays_8 : decode cX8_fillWays 8 = .ok (.iaload, 1) := by decide +kernel
theorem dX8_fillWays_9 : decode cX8_fillWays 9 = .ok (.istore_n 3, 1) := by decide +kernel
theorem dX8_fillWays_10 : decode cX8_fillWays 10 = .ok (.aload_n 0, 1) := by decide +kernel
theorem dX8_fillWays_11 : decode cX8_fillWays 11 = .ok (.getfield 18, 3) := by decide +kernel
theorem dX8_fillWays_14 : decode cX8_fillWays 14 = .ok (.iload_n 1, 1) := by decide +kernel
theorem dX8_fillWays_15 : decode cX8_fillWays 15 = .ok (.iload_n 3, 1) := by decide +kernel
theorem dX8_fillWays_16 : decode cX8_fillWays 16 = .ok (.iload_n 2, 1) := by decide +kernel
theorem dX8_fillWays_17 : decode cX8_fillWays 17 = .ok (.invokestatic 56, 3) := by decide +kernel
theorem dX8_fillWays_20 : decode cX8_fillWays 20 = .ok (.iload_n 2, 1) := by decide +kernel
theorem dX8_fillWays_21 : decode cX8_fillWays 21 = .ok (.ifCond .ne 7, 3) := by decide +kernel
theorem dX8_fillWays_24 : decode cX8_fillWays 24 = .ok (.iconst 1, 1) := by decide +kernel
theorem dX8_fillWays_25 : decode cX8_fillWays 25 = .ok (.goto 4, 3) := by decide +kernel
theorem dX8_fillWays_28 : decode cX8_fillWays 28 = .ok (.iconst 0, 1) := by decide +kernel
theorem dX8_fillWays_29 : decode cX8_fillWays 29 = .ok (.iastore, 1) := by decide +kernel
theorem dX8_fillWays_30 : decode cX8_fillWays 30 = .ok (.iload_n 3, 1) := by decide +kernel
theorem dX8_fillWays_31 : decode cX8_fillWays 31 = .ok (.iconst 1, 1) := by decide +kernel
theorem dX8_fillWays_32 : decode cX8_fillWays 32 = .ok (.isub, 1) := by decide +kernel
theorem dX8_fillWays_33 : decode cX8_fillWays 33 = .ok (.istore 4, 2) := by decide +kernel
theorem dX8_fillWays_35 : decode cX8_fillWays 35 = .ok (.iload 4, 2) := by decide +kernel
theorem dX8_fillWays_37 : decode cX8_fillWays 37 = .ok (.ifCond .lt 58, 3) := by decide +kernel
theorem dX8_fillWays_40 : decode cX8_fillWays 40 = .ok (.iconst 0, 1) := by decide +kernel
theorem dX8_fillWays_41 : decode cX8_fillWays 41 = .ok (.istore 5, 2) := by decide +kernel
theorem dX8_fillWays_43 : decode cX8_fillWays 43 = .ok (.iconst 1, 1) := by decide +kernel
theorem dX8_fillWays_44 : decode cX8_fillWays 44 = .ok (.istore 6, 2) := by decide +kernel
theorem dX8_fillWays_46 : decode cX8_fillWays 46 = .ok (.iload 6, 2) := by decide +kernel
theorem dX8_fillWays_48 : decode cX8_fillWays 48 = .ok (.iload_n 2, 1) := by decide +kernel
theorem dX8_fillWays_49 : decode cX8_fillWays 49 = .ok (.if_icmp .gt 26, 3) := by decide +kernel
theorem dX8_fillWays_52 : decode cX8_fillWays 52 = .ok (.iload 5, 2) := by decide +kernel
theorem dX8_fillWays_54 : decode cX8_fillWays 54 = .ok (.aload_n 0, 1) := by decide +kernel
theorem dX8_fillWays_55 : decode cX8_fillWays 55 = .ok (.iload_n 1, 1) := by decide +kernel
theorem dX8_fillWays_56 : decode cX8_fillWays 56 = .ok (.iload 4, 2) := by decide +kernel
theorem dX8_fillWays_58 : decode cX8_fillWays 58 = .ok (.iload 6, 2) := by decide +kernel
theorem dX8_fillWays_60 : decode cX8_fillWays 60 = .ok (.iload_n 2, 1) := by decide +kernel
theorem dX8_fillWays_61 : decode cX8_fillWays 61 = .ok (.invokevirtual 59, 3) := by decide +kernel
theorem dX8_fillWays_64 : decode cX8_fillWays 64 = .ok (.invokestatic 49, 3) := by decide +kernel
theorem dX8_fillWays_67 : decode cX8_fillWays 67 = .ok (.istore 5, 2) := by decide +kernel
theorem dX8_fillWays_69 : decode cX8_fillWays 69 = .ok (.iinc 6 1, 3) := by decide +kernel
theorem dX8_fillWays_72 : decode cX8_fillWays 72 = .ok (.goto (-26), 3) := by decide +kernel
theorem dX8_fillWays_75 : decode cX8_fillWays 75 = .ok (.aload_n 0, 1) := by decide +kernel
theorem dX8_fillWays_76 : decode cX8_fillWays 76 = .ok (.getfield 18, 3) := by decide +kernel
theorem dX8_fillWays_79 : decode cX8_fillWays 79 = .ok (.iload_n 1, 1) := by decide +kernel
theorem dX8_fillWays_80 : decode cX8_fillWays 80 = .ok (.iload 4, 2) := by decide +kernel
theorem dX8_fillWays_82 : decode cX8_fillWays 82 = .ok (.iload_n 2, 1) := by decide +kernel
theorem dX8_fillWays_83 : decode cX8_fillWays 83 = .ok (.invokestatic 56, 3) := by decide +kernel
theorem dX8_fillWays_86 : decode cX8_fillWays 86 = .ok (.iload 5, 2) := by decide +kernel
theorem dX8_fillWays_88 : decode cX8_fillWays 88 = .ok (.iastore, 1) := by decide +kernel
theorem dX8_fillWays_89 : decode cX8_fillWays 89 = .ok (.iinc 4 (-1), 3) := by decide +kernel
theorem dX8_fillWays_92 : decode cX8_fillWays 92 = .ok (.goto (-57), 3) := by decide +kernel
theorem dX8_fillWays_95 : decode cX8_fillWays 95 = .ok (.return_, 1) := by decide +kernel
theorem dX8_wayPlace_0 : decode cX8_wayPlace 0 = .ok (.iload_n 0, 1) := by decide +kernel
theorem dX8_wayPlace_1 : decode cX8_wayPlace 1 = .ok (.iconst 4, 1) := by decide +kernel
theorem dX8_wayPlace_2 : decode cX8_wayPlace 2 = .ok (.imul, 1) := by decide +kernel
theorem dX8_wayPlace_3 : decode cX8_wayPlace 3 = .ok (.iload_n 1, 1) := by decide +kernel
theorem dX8_wayPlace_4 : decode cX8_wayPlace 4 = .ok (.iadd, 1) := by decide +kernel
theorem dX8_wayPlace_5 : decode cX8_wayPlace 5 = .ok (.bipush 13, 2) := by decide +kernel
theorem dX8_wayPlace_7 : decode cX8_wayPlace 7 = .ok (.imul, 1) := by decide +kernel
theorem dX8_wayPlace_8 : decode cX8_wayPlace 8 = .ok (.iload_n 2, 1) := by decide +kernel
theorem dX8_wayPlace_9 : decode cX8_wayPlace 9 = .ok (.iadd, 1) := by decide +kernel
theorem dX8_wayPlace_10 : decode cX8_wayPlace 10 = .ok (.ireturn, 1) := by decide +kernel
theorem dX8_waysOf_0 : decode cX8_waysOf 0 = .ok (.aload_n 0, 1) := by decide +kernel
theorem dX8_waysOf_1 : decode cX8_waysOf 1 = .ok (.getfield 18, 3) := by decide +kernel
theorem dX8_waysOf_4 : decode cX8_waysOf 4 = .ok (.iload_n 1, 1) := by decide +kernel
theorem dX8_waysOf_5 : decode cX8_waysOf 5 = .ok (.iload_n 2, 1) := by decide +kernel
theorem dX8_waysOf_6 : decode cX8_waysOf 6 = .ok (.iload_n 3, 1) := by decide +kernel
theorem dX8_waysOf_7 : decode cX8_waysOf 7 = .ok (.invokestatic 56, 3) := by decide +kernel
theorem dX8_waysOf_10 : decode cX8_waysOf 10 = .ok (.iaload, 1) := by decide +kernel
theorem dX8_waysOf_11 : decode cX8_waysOf 11 = .ok (.ireturn, 1) := by decide +kernel
theorem dX8_waysOfSplit_0 : decode cX8_waysOfSplit 0 = .ok (.aload_n 0, 1) := by decide +kernel
theorem dX8_waysOfSplit_1 : decode cX8_waysOfSplit 1 = .ok (.getfield 9, 3) := by decide +kernel
theorem dX8_waysOfSplit_4 : decode cX8_waysOfSplit 4 = .ok (.aload_n 0, 1) := by decide +kernel
theorem dX8_waysOfSplit_5 : decode cX8_waysOfSplit 5 = .ok (.getfield 21, 3) := by decide +kernel
theorem dX8_waysOfSplit_8 : decode cX8_waysOfSplit 8 = .ok (.iload_n 1, 1) := by decide +kernel
theorem dX8_waysOfSplit_9 : decode cX8_waysOfSplit 9 = .ok (.iload_n 2, 1) := by decide +kernel
theorem dX8_waysOfSplit_10 : decode cX8_waysOfSplit 10 = .ok (.invokevirtual 63, 3) := by decide +kernel
theorem dX8_waysOfSplit_13 : decode cX8_waysOfSplit 13 = .ok (.bipush 13, 2) := by decide +kernel
theorem dX8_waysOfSplit_15 : decode cX8_waysOfSplit 15 = .ok (.imul, 1) := by decide +kernel
theorem dX8_waysOfSplit_16 : decode cX8_waysOfSplit 16 = .ok (.iload_n 3, 1) := by decide +kernel
theorem dX8_waysOfSplit_17 : decode cX8_waysOfSplit 17 = .ok (.iadd, 1) := by decide +kernel
theorem dX8_waysOfSplit_18 : decode cX8_waysOfSplit 18 = .ok (.iaload, 1) := by decide +kernel
theorem dX8_waysOfSplit_19 : decode cX8_waysOfSplit 19 = .ok (.aload_n 0, 1) := by decide +kernel
theorem dX8_waysOfSplit_20 : decode cX8_waysOfSplit 20 = .ok (.getfield 18, 3) := by decide +kernel
theorem dX8_waysOfSplit_23 : decode cX8_waysOfSplit 23 = .ok (.iload_n 1, 1) := by decide +kernel
theorem dX8_waysOfSplit_24 : decode cX8_waysOfSplit 24 = .ok (.iload_n 2, 1) := by decide +kernel
theorem dX8_waysOfSplit_25 : decode cX8_waysOfSplit 25 = .ok (.iconst 1, 1) := by decide +kernel
theorem dX8_waysOfSplit_26 : decode cX8_waysOfSplit 26 = .ok (.iadd, 1) := by decide +kernel
theorem dX8_waysOfSplit_27 : decode cX8_waysOfSplit 27 = .ok (.iload 4, 2) := by decide +kernel
theorem dX8_waysOfSplit_29 : decode cX8_waysOfSplit 29 = .ok (.iload_n 3, 1) := by decide +kernel
theorem dX8_waysOfSplit_30 : decode cX8_waysOfSplit 30 = .ok (.isub, 1) := by decide +kernel
theorem dX8_waysOfSplit_31 : decode cX8_waysOfSplit 31 = .ok (.invokestatic 56, 3) := by decide +kernel
theorem dX8_waysOfSplit_34 : decode cX8_waysOfSplit 34 = .ok (.iaload, 1) := by decide +kernel
theorem dX8_waysOfSplit_35 : decode cX8_waysOfSplit 35 = .ok (.invokestatic 66, 3) := by decide +kernel
theorem dX8_waysOfSplit_38 : decode cX8_waysOfSplit 38 = .ok (.ireturn, 1) := by decide +kernel
theorem dX8_isBuiltBy_0 : decode cX8_isBuiltBy 0 = .ok (.iload_n 1, 1) := by decide +kernel
theorem dX8_isBuiltBy_1 : decode cX8_isBuiltBy 1 = .ok (.invokestatic 69, 3) := by decide +kernel
theorem dX8_isBuiltBy_4 : decode cX8_isBuiltBy 4 = .ok (.istore_n 3, 1) := by decide +kernel
theorem dX8_isBuiltBy_5 : decode cX8_isBuiltBy 5 = .ok (.iload_n 1, 1) := by decide +kernel
theorem dX8_isBuiltBy_6 : decode cX8_isBuiltBy 6 = .ok (.invokestatic 73, 3) := by decide +kernel
theorem dX8_isBuiltBy_9 : decode cX8_isBuiltBy 9 = .ok (.aload_n 0, 1) := by decide +kernel
theorem dX8_isBuiltBy_10 : decode cX8_isBuiltBy 10 = .ok (.getfield 15, 3) := by decide +kernel
theorem dX8_isBuiltBy_13 : decode cX8_isBuiltBy 13 = .ok (.iload_n 2, 1) := by decide +kernel
theorem dX8_isBuiltBy_14 : decode cX8_isBuiltBy 14 = .ok (.bipush 13, 2) := by decide +kernel
theorem dX8_isBuiltBy_16 : decode cX8_isBuiltBy 16 = .ok (.imul, 1) := by decide +kernel
theorem dX8_isBuiltBy_17 : decode cX8_isBuiltBy 17 = .ok (.iload_n 3, 1) := by decide +kernel
theorem dX8_isBuiltBy_18 : decode cX8_isBuiltBy 18 = .ok (.iadd, 1) := by decide +kernel
theorem dX8_isBuiltBy_19 : decode cX8_isBuiltBy 19 = .ok (.iaload, 1) := by decide +kernel
theorem dX8_isBuiltBy_20 : decode cX8_isBuiltBy 20 = .ok (.isub, 1) := by decide +kernel
theorem dX8_isBuiltBy_21 : decode cX8_isBuiltBy 21 = .ok (.istore 4, 2) := by decide +kernel
theorem dX8_isBuiltBy_23 : decode cX8_isBuiltBy 23 = .ok (.iload 4, 2) := by decide +kernel
theorem dX8_isBuiltBy_25 : decode cX8_isBuiltBy 25 = .ok (.ifCond .lt 21, 3) := by decide +kernel
theorem dX8_isBuiltBy_28 : decode cX8_isBuiltBy 28 = .ok (.iload 4, 2) := by decide +kernel
theorem dX8_isBuiltBy_30 : decode cX8_isBuiltBy 30 = .ok (.aload_n 0, 1) := by decide +kernel
theorem dX8_isBuiltBy_31 : decode cX8_isBuiltBy 31 = .ok (.iload_n 2, 1) := by decide +kernel
theorem dX8_isBuiltBy_32 : decode cX8_isBuiltBy 32 = .ok (.iconst 0, 1) := by decide +kernel
theorem dX8_isBuiltBy_33 : decode cX8_isBuiltBy 33 = .ok (.iload_n 3, 1) := by decide +kernel
theorem dX8_isBuiltBy_34 : decode cX8_isBuiltBy 34 = .ok (.iconst 1, 1) := by decide +kernel
theorem dX8_isBuiltBy_35 : decode cX8_isBuiltBy 35 = .ok (.isub, 1) := by decide +kernel
theorem dX8_isBuiltBy_36 : decode cX8_isBuiltBy 36 = .ok (.invokevirtual 45, 3) := by decide +kernel
theorem dX8_isBuiltBy_39 : decode cX8_isBuiltBy 39 = .ok (.if_icmp .ge 7, 3) := by decide +kernel
theorem dX8_isBuiltBy_42 : decode cX8_isBuiltBy 42 = .ok (.iconst 1, 1) := by decide +kernel
theorem dX8_isBuiltBy_43 : decode cX8_isBuiltBy 43 = .ok (.goto 4, 3) := by decide +kernel
theorem dX8_isBuiltBy_46 : decode cX8_isBuiltBy 46 = .ok (.iconst 0, 1) := by decide +kernel
theorem dX8_isBuiltBy_47 : decode cX8_isBuiltBy 47 = .ok (.ireturn, 1) := by decide +kernel
theorem dX8_rootOf_0 : decode cX8_rootOf 0 = .ok (.iconst 0, 1) := by decide +kernel
theorem dX8_rootOf_1 : decode cX8_rootOf 1 = .ok (.istore_n 3, 1) := by decide +kernel
theorem dX8_rootOf_2 : decode cX8_rootOf 2 = .ok (.iload_n 3, 1) := by decide +kernel
theorem dX8_rootOf_3 : decode cX8_rootOf 3 = .ok (.aload_n 0, 1) := by decide +kernel
theorem dX8_rootOf_4 : decode cX8_rootOf 4 = .ok (.getfield 21, 3) := by decide +kernel
theorem dX8_rootOf_7 : decode cX8_rootOf 7 = .ok (.getfield 32, 3) := by decide +kernel
theorem dX8_rootOf_10 : decode cX8_rootOf 10 = .ok (.if_icmp .ge 33, 3) := by decide +kernel
theorem dX8_rootOf_13 : decode cX8_rootOf 13 = .ok (.aload_n 0, 1) := by decide +kernel
theorem dX8_rootOf_14 : decode cX8_rootOf 14 = .ok (.getfield 21, 3) := by decide +kernel
theorem dX8_rootOf_17 : decode cX8_rootOf 17 = .ok (.getfield 42, 3) := by decide +kernel
theorem dX8_rootOf_20 : decode cX8_rootOf 20 = .ok (.iload_n 3, 1) := by decide +kernel
theorem dX8_rootOf_21 : decode cX8_rootOf 21 = .ok (.iaload, 1) := by decide +kernel
theorem dX8_rootOf_22 : decode cX8_rootOf 22 = .ok (.iload_n 1, 1) := by decide +kernel
theorem dX8_rootOf_23 : decode cX8_rootOf 23 = .ok (.if_icmp .ne 14, 3) := by decide +kernel
theorem dX8_rootOf_26 : decode cX8_rootOf 26 = .ok (.aload_n 0, 1) := by decide +kernel
theorem dX8_rootOf_27 : decode cX8_rootOf 27 = .ok (.iload_n 2, 1) := by decide +kernel
theorem dX8_rootOf_28 : decode cX8_rootOf 28 = .ok (.iload_n 3, 1) := by decide +kernel
theorem dX8_rootOf_29 : decode cX8_rootOf 29 = .ok (.invokevirtual 76, 3) := by decide +kernel
theorem dX8_rootOf_32 : decode cX8_rootOf 32 = .ok (.ifCond .eq 5, 3) := by decide +kernel
theorem dX8_rootOf_35 : decode cX8_rootOf 35 = .ok (.iload_n 3, 1) := by decide +kernel
theorem dX8_rootOf_36 : decode cX8_rootOf 36 = .ok (.ireturn, 1) := by decide +kernel
theorem dX8_rootOf_37 : decode cX8_rootOf 37 = .ok (.iinc 3 1, 3) := by decide +kernel
theorem dX8_rootOf_40 : decode cX8_rootOf 40 = .ok (.goto (-38), 3) := by decide +kernel
theorem dX8_rootOf_43 : decode cX8_rootOf 43 = .ok (.iconst (-1), 1) := by decide +kernel
theorem dX8_rootOf_44 : decode cX8_rootOf 44 = .ok (.ireturn, 1) := by decide +kernel
theorem dX8_split_0 : decode cX8_split 0 = .ok (.iload_n 1, 1) := by decide +kernel
theorem dX8_split_1 : decode cX8_split 1 = .ok (.invokestatic 69, 3) := by decide +kernel
theorem dX8_split_4 : decode cX8_split 4 = .ok (.iconst 1, 1) := by decide +kernel
theorem dX8_split_5 : decode cX8_split 5 = .ok (.isub, 1) := by decide +kernel
theorem dX8_split_6 : decode cX8_split 6 = .ok (.istore 4, 2) := by decide +kernel
theorem dX8_split_8 : decode cX8_split 8 = .ok (.iload_n 1, 1) := by decide +kernel
theorem dX8_split_9 : decode cX8_split 9 = .ok (.invokestatic 73, 3) := by decide +kernel
theorem dX8_split_12 : decode cX8_split 12 = .ok (.aload_n 0, 1) := by decide +kernel
theorem dX8_split_13 : decode cX8_split 13 = .ok (.getfield 15, 3) := by decide +kernel
theorem dX8_split_16 : decode cX8_split 16 = .ok (.iload_n 2, 1) := by decide +kernel
theorem dX8_split_17 : decode cX8_split 17 = .ok (.bipush 13, 2) := by decide +kernel
theorem dX8_split_19 : decode cX8_split 19 = .ok (.imul, 1) := by decide +kernel
theorem dX8_split_20 : decode cX8_split 20 = .ok (.iload 4, 2) := by decide +kernel
theorem dX8_split_22 : decode cX8_split 22 = .ok (.iadd, 1) := by decide +kernel
theorem dX8_split_23 : decode cX8_split 23 = .ok (.iconst 1, 1) := by decide +kernel
theorem dX8_split_24 : decode cX8_split 24 = .ok (.iadd, 1) := by decide +kernel
theorem dX8_split_25 : decode cX8_split 25 = .ok (.iaload, 1) := by decide +kernel
theorem dX8_split_26 : decode cX8_split 26 = .ok (.isub, 1) := by decide +kernel
theorem dX8_split_27 : decode cX8_split 27 = .ok (.istore 5, 2) := by decide +kernel
theorem dX8_split_29 : decode cX8_split 29 = .ok (.iconst 0, 1) := by decide +kernel
theorem dX8_split_30 : decode cX8_split 30 = .ok (.istore 6, 2) := by decide +kernel
theorem dX8_split_32 : decode cX8_split 32 = .ok (.iload 6, 2) := by decide +kernel
theorem dX8_split_34 : decode cX8_split 34 = .ok (.aload_n 0, 1) := by decide +kernel
theorem dX8_split_35 : decode cX8_split 35 = .ok (.getfield 21, 3) := by decide +kernel
theorem dX8_split_38 : decode cX8_split 38 = .ok (.getfield 53, 3) := by decide +kernel
theorem dX8_split_41 : decode cX8_split 41 = .ok (.iload_n 2, 1) := by decide +kernel
theorem dX8_split_42 : decode cX8_split 42 = .ok (.iaload, 1) := by decide +kernel
theorem dX8_split_43 : decode cX8_split 43 = .ok (.if_icmp .ge 103, 3) := by decide +kernel
theorem dX8_split_46 : decode cX8_split 46 = .ok (.iconst 1, 1) := by decide +kernel
theorem dX8_split_47 : decode cX8_split 47 = .ok (.istore 7, 2) := by decide +kernel
theorem dX8_split_49 : decode cX8_split 49 = .ok (.iload 7, 2) := by decide +kernel
theorem dX8_split_51 : decode cX8_split 51 = .ok (.iload 4, 2) := by decide +kernel
theorem dX8_split_53 : decode cX8_split 53 = .ok (.if_icmp .ge 39, 3) := by decide +kernel
theorem dX8_split_56 : decode cX8_split 56 = .ok (.aload_n 0, 1) := by decide +kernel
theorem dX8_split_57 : decode cX8_split 57 = .ok (.iload_n 2, 1) := by decide +kernel
theorem dX8_split_58 : decode cX8_split 58 = .ok (.iload 6, 2) := by decide +kernel
theorem dX8_split_60 : decode cX8_split 60 = .ok (.iload 7, 2) := by decide +kernel
theorem dX8_split_62 : decode cX8_split 62 = .ok (.iload 4, 2) := by decide +kernel
theorem dX8_split_64 : decode cX8_split 64 = .ok (.invokevirtual 59, 3) := by decide +kernel
theorem dX8_split_67 : decode cX8_split 67 = .ok (.istore 8, 2) := by decide +kernel
theorem dX8_split_69 : decode cX8_split 69 = .ok (.iload 5, 2) := by decide +kernel
theorem dX8_split_71 : decode cX8_split 71 = .ok (.iload 8, 2) := by decide +kernel
theorem dX8_split_73 : decode cX8_split 73 = .ok (.if_icmp .ge 6, 3) := by decide +kernel
theorem dX8_split_76 : decode cX8_split 76 = .ok (.goto 16, 3) := by decide +kernel
theorem dX8_split_79 : decode cX8_split 79 = .ok (.iload 5, 2) := by decide +kernel
theorem dX8_split_81 : decode cX8_split 81 = .ok (.iload 8, 2) := by decide +kernel
theorem dX8_split_83 : decode cX8_split 83 = .ok (.isub, 1) := by decide +kernel
theorem dX8_split_84 : decode cX8_split 84 = .ok (.istore 5, 2) := by decide +kernel
theorem dX8_split_86 : decode cX8_split 86 = .ok (.iinc 7 1, 3) := by decide +kernel
theorem dX8_split_89 : decode cX8_split 89 = .ok (.goto (-40), 3) := by decide +kernel
theorem dX8_split_92 : decode cX8_split 92 = .ok (.iconst 1, 1) := by decide +kernel
theorem dX8_split_93 : decode cX8_split 93 = .ok (.aload_n 0, 1) := by decide +kernel
theorem dX8_split_94 : decode cX8_split 94 = .ok (.iload_n 2, 1) := by decide +kernel
theorem dX8_split_95 : decode cX8_split 95 = .ok (.iload 6, 2) := by decide +kernel
theorem dX8_split_97 : decode cX8_split 97 = .ok (.iconst 1, 1) := by decide +kernel
theorem dX8_split_98 : decode cX8_split 98 = .ok (.iadd, 1) := by decide +kernel
theorem dX8_split_99 : decode cX8_split 99 = .ok (.iload 4, 2) := by decide +kernel
theorem dX8_split_101 : decode cX8_split 101 = .ok (.iload 7, 2) := by decide +kernel
theorem dX8_split_103 : decode cX8_split 103 = .ok (.isub, 1) := by decide +kernel
theorem dX8_split_104 : decode cX8_split 104 = .ok (.invokevirtual 45, 3) := by decide +kernel
theorem dX8_split_107 : decode cX8_split 107 = .ok (.invokestatic 80, 3) := by decide +kernel
theorem dX8_split_110 : decode cX8_split 110 = .ok (.istore 8, 2) := by decide +kernel
theorem dX8_split_112 : decode cX8_split 112 = .ok (.aload_n 3, 1) := by decide +kernel
theorem dX8_split_113 : decode cX8_split 113 = .ok (.iload 6, 2) := by decide +kernel
theorem dX8_split_115 : decode cX8_split 115 = .ok (.iload 7, 2) := by decide +kernel
theorem dX8_split_117 : decode cX8_split 117 = .ok (.iload 5, 2) := by decide +kernel
theorem dX8_split_119 : decode cX8_split 119 = .ok (.iload 8, 2) := by decide +kernel
theorem dX8_split_121 : decode cX8_split 121 = .ok (.idiv, 1) := by decide +kernel
theorem dX8_split_122 : decode cX8_split 122 = .ok (.invokestatic 85, 3) := by decide +kernel
theorem dX8_split_125 : decode cX8_split 125 = .ok (.iastore, 1) := by decide +kernel
theorem dX8_split_126 : decode cX8_split 126 = .ok (.iload 5, 2) := by decide +kernel
theorem dX8_split_128 : decode cX8_split 128 = .ok (.iload 8, 2) := by decide +kernel
theorem dX8_split_130 : decode cX8_split 130 = .ok (.irem, 1) := by decide +kernel
theorem dX8_split_131 : decode cX8_split 131 = .ok (.istore 5, 2) := by decide +kernel
theorem dX8_split_133 : decode cX8_split 133 = .ok (.iload 4, 2) := by decide +kernel
theorem dX8_split_135 : decode cX8_split 135 = .ok (.iload 7, 2) := by decide +kernel
theorem dX8_split_137 : decode cX8_split 137 = .ok (.isub, 1) := by decide +kernel
theorem dX8_split_138 : decode cX8_split 138 = .ok (.istore 4, 2) := by decide +kernel
theorem dX8_split_140 : decode cX8_split 140 = .ok (.iinc 6 1, 3) := by decide +kernel
theorem dX8_split_143 : decode cX8_split 143 = .ok (.goto (-111), 3) := by decide +kernel
theorem dX8_split_146 : decode cX8_split 146 = .ok (.return_, 1) := by decide +kernel
theorem dX8_indexOf_0 : decode cX8_indexOf 0 = .ok (.aload_n 0, 1) := by decide +kernel
theorem dX8_indexOf_1 : decode cX8_indexOf 1 = .ok (.getfield 15, 3) := by decide +kernel
theorem dX8_indexOf_4 : decode cX8_indexOf 4 = .ok (.iload_n 1, 1) := by decide +kernel
theorem dX8_indexOf_5 : decode cX8_indexOf 5 = .ok (.bipush 13, 2) := by decide +kernel
theorem dX8_indexOf_7 : decode cX8_indexOf 7 = .ok (.imul, 1) := by decide +kernel
theorem dX8_indexOf_8 : decode cX8_indexOf 8 = .ok (.iload_n 2, 1) := by decide +kernel
theorem dX8_indexOf_9 : decode cX8_indexOf 9 = .ok (.iadd, 1) := by decide +kernel
theorem dX8_indexOf_10 : decode cX8_indexOf 10 = .ok (.iaload, 1) := by decide +kernel
theorem dX8_indexOf_11 : decode cX8_indexOf 11 = .ok (.istore 5, 2) := by decide +kernel
theorem dX8_indexOf_13 : decode cX8_indexOf 13 = .ok (.iload_n 2, 1) := by decide +kernel
theorem dX8_indexOf_14 : decode cX8_indexOf 14 = .ok (.iconst 1, 1) := by decide +kernel
theorem dX8_indexOf_15 : decode cX8_indexOf 15 = .ok (.isub, 1) := by decide +kernel
theorem dX8_indexOf_16 : decode cX8_indexOf 16 = .ok (.istore 6, 2) := by decide +kernel
theorem dX8_indexOf_18 : decode cX8_indexOf 18 = .ok (.iconst 0, 1) := by decide +kernel
theorem dX8_indexOf_19 : decode cX8_indexOf 19 = .ok (.istore 7, 2) := by decide +kernel
theorem dX8_indexOf_21 : decode cX8_indexOf 21 = .ok (.iload 7, 2) := by decide +kernel
theorem dX8_indexOf_23 : decode cX8_indexOf 23 = .ok (.aload_n 0, 1) := by decide +kernel
theorem dX8_indexOf_24 : decode cX8_indexOf 24 = .ok (.getfield 21, 3) := by decide +kernel
theorem dX8_indexOf_27 : decode cX8_indexOf 27 = .ok (.getfield 53, 3) := by decide +kernel
theorem dX8_indexOf_30 : decode cX8_indexOf 30 = .ok (.iload_n 1, 1) := by decide +kernel
theorem dX8_indexOf_31 : decode cX8_indexOf 31 = .ok (.iaload, 1) := by decide +kernel
theorem dX8_indexOf_32 : decode cX8_indexOf 32 = .ok (.if_icmp .ge 80, 3) := by decide +kernel
theorem dX8_indexOf_35 : decode cX8_indexOf 35 = .ok (.iconst 1, 1) := by decide +kernel
theorem dX8_indexOf_36 : decode cX8_indexOf 36 = .ok (.istore 8, 2) := by decide +kernel
theorem dX8_indexOf_38 : decode cX8_indexOf 38 = .ok (.iload 8, 2) := by decide +kernel
theorem dX8_indexOf_40 : decode cX8_indexOf 40 = .ok (.aload_n 3, 1) := by decide +kernel
theorem dX8_indexOf_41 : decode cX8_indexOf 41 = .ok (.iload 7, 2) := by decide +kernel
theorem dX8_indexOf_43 : decode cX8_indexOf 43 = .ok (.iaload, 1) := by decide +kernel
theorem dX8_indexOf_44 : decode cX8_indexOf 44 = .ok (.if_icmp .ge 27, 3) := by decide +kernel
theorem dX8_indexOf_47 : decode cX8_indexOf 47 = .ok (.iload 5, 2) := by decide +kernel
theorem dX8_indexOf_49 : decode cX8_indexOf 49 = .ok (.aload_n 0, 1) := by decide +kernel
theorem dX8_indexOf_50 : decode cX8_indexOf 50 = .ok (.iload_n 1, 1) := by decide +kernel
theorem dX8_indexOf_51 : decode cX8_indexOf 51 = .ok (.iload 7, 2) := by decide +kernel
theorem dX8_indexOf_53 : decode cX8_indexOf 53 = .ok (.iload 8, 2) := by decide +kernel
theorem dX8_indexOf_55 : decode cX8_indexOf 55 = .ok (.iload 6, 2) := by decide +kernel
theorem dX8_indexOf_57 : decode cX8_indexOf 57 = .ok (.invokevirtual 59, 3) := by decide +kernel
theorem dX8_indexOf_60 : decode cX8_indexOf 60 = .ok (.invokestatic 49, 3) := by decide +kernel
theorem dX8_indexOf_63 : decode cX8_indexOf 63 = .ok (.istore 5, 2) := by decide +kernel
theorem dX8_indexOf_65 : decode cX8_indexOf 65 = .ok (.iinc 8 1, 3) := by decide +kernel
theorem dX8_indexOf_68 : decode cX8_indexOf 68 = .ok (.goto (-30), 3) := by decide +kernel
theorem dX8_indexOf_71 : decode cX8_indexOf 71 = .ok (.iload 6, 2) := by decide +kernel
theorem dX8_indexOf_73 : decode cX8_indexOf 73 = .ok (.aload_n 3, 1) := by decide +kernel
theorem dX8_indexOf_74 : decode cX8_indexOf 74 = .ok (.iload 7, 2) := by decide +kernel
theorem dX8_indexOf_76 : decode cX8_indexOf 76 = .ok (.iaload, 1) := by decide +kernel
theorem dX8_indexOf_77 : decode cX8_indexOf 77 = .ok (.isub, 1) := by decide +kernel
theorem dX8_indexOf_78 : decode cX8_indexOf 78 = .ok (.istore 6, 2) := by decide +kernel
theorem dX8_indexOf_80 : decode cX8_indexOf 80 = .ok (.iload 5, 2) := by decide +kernel
theorem dX8_indexOf_82 : decode cX8_indexOf 82 = .ok (.aload 4, 2) := by decide +kernel
theorem dX8_indexOf_84 : decode cX8_indexOf 84 = .ok (.iload 7, 2) := by decide +kernel
theorem dX8_indexOf_86 : decode cX8_indexOf 86 = .ok (.iaload, 1) := by decide +kernel
theorem dX8_indexOf_87 : decode cX8_indexOf 87 = .ok (.aload_n 0, 1) := by decide +kernel
theorem dX8_indexOf_88 : decode cX8_indexOf 88 = .ok (.iload_n 1, 1) := by decide +kernel
theorem dX8_indexOf_89 : decode cX8_indexOf 89 = .ok (.iload 7, 2) := by decide +kernel
theorem dX8_indexOf_91 : decode cX8_indexOf 91 = .ok (.iconst 1, 1) := by decide +kernel
theorem dX8_indexOf_92 : decode cX8_indexOf 92 = .ok (.iadd, 1) := by decide +kernel
theorem dX8_indexOf_93 : decode cX8_indexOf 93 = .ok (.iload 6, 2) := by decide +kernel
theorem dX8_indexOf_95 : decode cX8_indexOf 95 = .ok (.invokevirtual 45, 3) := by decide +kernel
theorem dX8_indexOf_98 : decode cX8_indexOf 98 = .ok (.invokestatic 66, 3) := by decide +kernel
theorem dX8_indexOf_101 : decode cX8_indexOf 101 = .ok (.invokestatic 49, 3) := by decide +kernel
theorem dX8_indexOf_104 : decode cX8_indexOf 104 = .ok (.istore 5, 2) := by decide +kernel
theorem dX8_indexOf_106 : decode cX8_indexOf 106 = .ok (.iinc 7 1, 3) := by decide +kernel
theorem dX8_indexOf_109 : decode cX8_indexOf 109 = .ok (.goto (-88), 3) := by decide +kernel
theorem dX8_indexOf_112 : decode cX8_indexOf 112 = .ok (.iload 5, 2) := by decide +kernel
theorem dX8_indexOf_114 : decode cX8_indexOf 114 = .ok (.ireturn, 1) := by decide +kernel
theorem dX10_begin_0 : decode cX10_begin 0 = .ok (.aload_n 0, 1) := by decide +kernel
theorem dX10_begin_1 : decode cX10_begin 1 = .ok (.dup, 1) := by decide +kernel
theorem dX10_begin_2 : decode cX10_begin 2 = .ok (.getfield 25, 3) := by decide +kernel
theorem dX10_begin_5 : decode cX10_begin 5 = .ok (.iconst 1, 1) := by decide +kernel
theorem dX10_begin_6 : decode cX10_begin 6 = .ok (.iadd, 1) := by decide +kernel
theorem dX10_begin_7 : decode cX10_begin 7 = .ok (.putfield 25, 3) := by decide +kernel
theorem dX10_begin_10 : decode cX10_begin 10 = .ok (.aload_n 0, 1) := by decide +kernel
theorem dX10_begin_11 : decode cX10_begin 11 = .ok (.iconst 0, 1) := by decide +kernel
theorem dX10_begin_12 : decode cX10_begin 12 = .ok (.putfield 29, 3) := by decide +kernel
theorem dX10_begin_15 : decode cX10_begin 15 = .ok (.return_, 1) := by decide +kernel
theorem dX10_hasListed_0 : decode cX10_hasListed 0 = .ok (.aload_n 0, 1) := by decide +kernel
theorem dX10_hasListed_1 : decode cX10_hasListed 1 = .ok (.getfield 15, 3) := by decide +kernel
theorem dX10_hasListed_4 : decode cX10_hasListed 4 = .ok (.iload_n 1, 1) := by decide +kernel
theorem dX10_hasListed_5 : decode cX10_hasListed 5 = .ok (.iaload, 1) := by decide +kernel
theorem dX10_hasListed_6 : decode cX10_hasListed 6 = .ok (.aload_n 0, 1) := by decide +kernel
theorem dX10_hasListed_7 : decode cX10_hasListed 7 = .ok (.getfield 25, 3) := by decide +kernel
theorem dX10_hasListed_10 : decode cX10_hasListed 10 = .ok (.if_icmp .ne 7, 3) := by decide +kernel
theorem dX10_hasListed_13 : decode cX10_hasListed 13 = .ok (.iconst 1, 1) := by decide +kernel
theorem dX10_hasListed_14 : decode cX10_hasListed 14 = .ok (.goto 4, 3) := by decide +kernel
theorem dX10_hasListed_17 : decode cX10_hasListed 17 = .ok (.iconst 0, 1) := by decide +kernel
theorem dX10_hasListed_18 : decode cX10_hasListed 18 = .ok (.ireturn, 1) := by decide +kernel
theorem dX10_visit_0 : decode cX10_visit 0 = .ok (.aload_n 0, 1) := by decide +kernel
theorem dX10_visit_1 : decode cX10_visit 1 = .ok (.getfield 21, 3) := by decide +kernel
theorem dX10_visit_4 : decode cX10_visit 4 = .ok (.iload_n 1, 1) := by decide +kernel
theorem dX10_visit_5 : decode cX10_visit 5 = .ok (.invokevirtual 32, 3) := by decide +kernel
theorem dX10_visit_8 : decode cX10_visit 8 = .ok (.istore_n 2, 1) := by decide +kernel
theorem dX10_visit_9 : decode cX10_visit 9 = .ok (.aload_n 0, 1) := by decide +kernel
theorem dX10_visit_10 : decode cX10_visit 10 = .ok (.iload_n 2, 1) := by decide +kernel
theorem dX10_visit_11 : decode cX10_visit 11 = .ok (.invokevirtual 38, 3) := by decide +kernel
theorem dX10_visit_14 : decode cX10_visit 14 = .ok (.ifCond .eq 4, 3) := by decide +kernel
theorem dX10_visit_17 : decode cX10_visit 17 = .ok (.return_, 1) := by decide +kernel
theorem dX10_visit_18 : decode cX10_visit 18 = .ok (.aload_n 0, 1) := by decide +kernel
theorem dX10_visit_19 : decode cX10_visit 19 = .ok (.getfield 18, 3) := by decide +kernel
theorem dX10_visit_22 : decode cX10_visit 22 = .ok (.iconst 0, 1) := by decide +kernel
theorem dX10_visit_23 : decode cX10_visit 23 = .ok (.iload_n 2, 1) := by decide +kernel
theorem dX10_visit_24 : decode cX10_visit 24 = .ok (.iastore, 1) := by decide +kernel
theorem dX10_visit_25 : decode cX10_visit 25 = .ok (.iconst 1, 1) := by decide +kernel
theorem dX10_visit_26 : decode cX10_visit 26 = .ok (.istore_n 3, 1) := by decide +kernel
theorem dX10_visit_27 : decode cX10_visit 27 = .ok (.iconst 0, 1) := by decide +kernel
theorem dX10_visit_28 : decode cX10_visit 28 = .ok (.istore 4, 2) := by decide +kernel
theorem dX10_visit_30 : decode cX10_visit 30 = .ok (.iload_n 3, 1) := by decide +kernel
theorem dX10_visit_31 : decode cX10_visit 31 = .ok (.ifCond .le 70, 3) := by decide +kernel
theorem dX10_visit_34 : decode cX10_visit 34 = .ok (.iload 4, 2) := by decide +kernel
theorem dX10_visit_36 : decode cX10_visit 36 = .ok (.ldc 42, 2) := by decide +kernel
theorem dX10_visit_38 : decode cX10_visit 38 = .ok (.if_icmp .ge 63, 3) := by decide +kernel
theorem dX10_visit_41 : decode cX10_visit 41 = .ok (.aload_n 0, 1) := by decide +kernel
theorem dX10_visit_42 : decode cX10_visit 42 = .ok (.getfield 18, 3) := by decide +kernel
theorem dX10_visit_45 : decode cX10_visit 45 = .ok (.iload_n 3, 1) := by decide +kernel
theorem dX10_visit_46 : decode cX10_visit 46 = .ok (.iconst 1, 1) := by decide +kernel
theorem dX10_visit_47 : decode cX10_visit 47 = .ok (.isub, 1) := by decide +kernel
theorem dX10_visit_48 : decode cX10_visit 48 = .ok (.iaload, 1) := by decide +kernel
theorem dX10_visit_49 : decode cX10_visit 49 = .ok (.istore 5, 2) := by decide +kernel
theorem dX10_visit_51 : decode cX10_visit 51 = .ok (.aload_n 0, 1) := by decide +kernel
theorem dX10_visit_52 : decode cX10_visit 52 = .ok (.iload 5, 2) := by decide +kernel
theorem dX10_visit_54 : decode cX10_visit 54 = .ok (.invokevirtual 43, 3) := by decide +kernel
theorem dX10_visit_57 : decode cX10_visit 57 = .ok (.istore 6, 2) := by decide +kernel
theorem dX10_visit_59 : decode cX10_visit 59 = .ok (.iload 6, 2) := by decide +kernel
theorem dX10_visit_61 : decode cX10_visit 61 = .ok (.bipush (-13), 2) := by decide +kernel
theorem dX10_visit_63 : decode cX10_visit 63 = .ok (.if_icmp .eq 23, 3) := by decide +kernel
theorem dX10_visit_66 : decode cX10_visit 66 = .ok (.iload_n 3, 1) := by decide +kernel
theorem dX10_visit_67 : decode cX10_visit 67 = .ok (.bipush 100, 2) := by decide +kernel
theorem dX10_visit_69 : decode cX10_visit 69 = .ok (.if_icmp .ge 17, 3) := by decide +kernel
theorem dX10_visit_72 : decode cX10_visit 72 = .ok (.aload_n 0, 1) := by decide +kernel
theorem dX10_visit_73 : decode cX10_visit 73 = .ok (.getfield 18, 3) := by decide +kernel
theorem dX10_visit_76 : decode cX10_visit 76 = .ok (.iload_n 3, 1) := by decide +kernel
theorem dX10_visit_77 : decode cX10_visit 77 = .ok (.iload 6, 2) := by decide +kernel
theorem dX10_visit_79 : decode cX10_visit 79 = .ok (.iastore, 1) := by decide +kernel
theorem dX10_visit_80 : decode cX10_visit 80 = .ok (.iinc 3 1, 3) := by decide +kernel
theorem dX10_visit_83 : decode cX10_visit 83 = .ok (.goto 12, 3) := by decide +kernel
theorem dX10_visit_86 : decode cX10_visit 86 = .ok (.aload_n 0, 1) := by decide +kernel
theorem dX10_visit_87 : decode cX10_visit 87 = .ok (.iload 5, 2) := by decide +kernel
theorem dX10_visit_89 : decode cX10_visit 89 = .ok (.invokevirtual 46, 3) := by decide +kernel
theorem dX10_visit_92 : decode cX10_visit 92 = .ok (.iinc 3 (-1), 3) := by decide +kernel
theorem dX10_visit_95 : decode cX10_visit 95 = .ok (.iinc 4 1, 3) := by decide +kernel
theorem dX10_visit_98 : decode cX10_visit 98 = .ok (.goto (-68), 3) := by decide +kernel
theorem dX10_visit_101 : decode cX10_visit 101 = .ok (.return_, 1) := by decide +kernel
theorem dX10_unlistedPart_0 : decode cX10_unlistedPart 0 = .ok (.iconst 0, 1) := by decide +kernel
theorem dX10_unlistedPart_1 : decode cX10_unlistedPart 1 = .ok (.istore_n 2, 1) := by decide +kernel
theorem dX10_unlistedPart_2 : decode cX10_unlistedPart 2 = .ok (.iload_n 2, 1) := by decide +kernel
theorem dX10_unlistedPart_3 : decode cX10_unlistedPart 3 = .ok (.aload_n 0, 1) := by decide +kernel
theorem dX10_unlistedPart_4 : decode cX10_unlistedPart 4 = .ok (.getfield 21, 3) := by decide +kernel
theorem dX10_unlistedPart_7 : decode cX10_unlistedPart 7 = .ok (.iload_n 1, 1) := by decide +kernel
theorem dX10_unlistedPart_8 : decode cX10_unlistedPart 8 = .ok (.invokevirtual 50, 3) := by decide +kernel
theorem dX10_unlistedPart_11 : decode cX10_unlistedPart 11 = .ok (.if_icmp .ge 29, 3) := by decide +kernel
theorem dX10_unlistedPart_14 : decode cX10_unlistedPart 14 = .ok (.aload_n 0, 1) := by decide +kernel
theorem dX10_unlistedPart_15 : decode cX10_unlistedPart 15 = .ok (.getfield 21, 3) := by decide +kernel
theorem dX10_unlistedPart_18 : decode cX10_unlistedPart 18 = .ok (.iload_n 1, 1) := by decide +kernel
theorem dX10_unlistedPart_19 : decode cX10_unlistedPart 19 = .ok (.iload_n 2, 1) := by decide +kernel
theorem dX10_unlistedPart_20 : decode cX10_unlistedPart 20 = .ok (.invokevirtual 53, 3) := by decide +kernel
theorem dX10_unlistedPart_23 : decode cX10_unlistedPart 23 = .ok (.istore_n 3, 1) := by decide +kernel
theorem dX10_unlistedPart_24 : decode cX10_unlistedPart 24 = .ok (.aload_n 0, 1) := by decide +kernel
theorem dX10_unlistedPart_25 : decode cX10_unlistedPart 25 = .ok (.iload_n 3, 1) := by decide +kernel
theorem dX10_unlistedPart_26 : decode cX10_unlistedPart 26 = .ok (.invokevirtual 38, 3) := by decide +kernel
theorem dX10_unlistedPart_29 : decode cX10_unlistedPart 29 = .ok (.ifCond .ne 5, 3) := by decide +kernel
theorem dX10_unlistedPart_32 : decode cX10_unlistedPart 32 = .ok (.iload_n 3, 1) := by decide +kernel
theorem dX10_unlistedPart_33 : decode cX10_unlistedPart 33 = .ok (.ireturn, 1) := by decide +kernel
theorem dX10_unlistedPart_34 : decode cX10_unlistedPart 34 = .ok (.iinc 2 1, 3) := by decide +kernel
theorem dX10_unlistedPart_37 : decode cX10_unlistedPart 37 = .ok (.goto (-35), 3) := by decide +kernel
theorem dX10_unlistedPart_40 : decode cX10_unlistedPart 40 = .ok (.bipush (-13), 2) := by decide +kernel
theorem dX10_unlistedPart_42 : decode cX10_unlistedPart 42 = .ok (.ireturn, 1) := by decide +kernel
theorem dX10_list_0 : decode cX10_list 0 = .ok (.aload_n 0, 1) := by decide +kernel
theorem dX10_list_1 : decode cX10_list 1 = .ok (.getfield 29, 3) := by decide +kernel
theorem dX10_list_4 : decode cX10_list 4 = .ok (.bipush 100, 2) := by decide +kernel
theorem dX10_list_6 : decode cX10_list 6 = .ok (.if_icmp .ge 33, 3) := by decide +kernel
theorem dX10_list_9 : decode cX10_list 9 = .ok (.aload_n 0, 1) := by decide +kernel
theorem dX10_list_10 : decode cX10_list 10 = .ok (.getfield 15, 3) := by decide +kernel
theorem dX10_list_13 : decode cX10_list 13 = .ok (.iload_n 1, 1) := by decide +kernel
theorem dX10_list_14 : decode cX10_list 14 = .ok (.aload_n 0, 1) := by decide +kernel
theorem dX10_list_15 : decode cX10_list 15 = .ok (.getfield 25, 3) := by decide +kernel
theorem dX10_list_18 : decode cX10_list 18 = .ok (.iastore, 1) := by decide +kernel
theorem dX10_list_19 : decode cX10_list 19 = .ok (.aload_n 0, 1) := by decide +kernel
theorem dX10_list_20 : decode cX10_list 20 = .ok (.getfield 9, 3) := by decide +kernel
theorem dX10_list_23 : decode cX10_list 23 = .ok (.aload_n 0, 1) := by decide +kernel
theorem dX10_list_24 : decode cX10_list 24 = .ok (.getfield 29, 3) := by decide +kernel
theorem dX10_list_27 : decode cX10_list 27 = .ok (.iload_n 1, 1) := by decide +kernel
theorem dX10_list_28 : decode cX10_list 28 = .ok (.iastore, 1) := by decide +kernel
theorem dX10_list_29 : decode cX10_list 29 = .ok (.aload_n 0, 1) := by decide +kernel
theorem dX10_list_30 : decode cX10_list 30 = .ok (.dup, 1) := by decide +kernel
theorem dX10_list_31 : decode cX10_list 31 = .ok (.getfield 29, 3) := by decide +kernel
theorem dX10_list_34 : decode cX10_list 34 = .ok (.iconst 1, 1) := by decide +kernel
theorem dX10_list_35 : decode cX10_list 35 = .ok (.iadd, 1) := by decide +kernel
theorem dX10_list_36 : decode cX10_list 36 = .ok (.putfield 29, 3) := by decide +kernel
theorem dX10_list_39 : decode cX10_list 39 = .ok (.return_, 1) := by decide +kernel
theorem dX11_addType_0 : decode cX11_addType 0 = .ok (.aload_n 0, 1) := by decide +kernel
theorem dX11_addType_1 : decode cX11_addType 1 = .ok (.getfield 12, 3) := by decide +kernel
theorem dX11_addType_4 : decode cX11_addType 4 = .ok (.getfield 80, 3) := by decide +kernel
theorem dX11_addType_7 : decode cX11_addType 7 = .ok (.iconst 4, 1) := by decide +kernel
theorem dX11_addType_8 : decode cX11_addType 8 = .ok (.if_icmp .lt 6, 3) := by decide +kernel
theorem dX11_addType_11 : decode cX11_addType 11 = .ok (.bipush (-6), 2) := by decide +kernel
theorem dX11_addType_13 : decode cX11_addType 13 = .ok (.ireturn, 1) := by decide +kernel
theorem dX11_addType_14 : decode cX11_addType 14 = .ok (.aload_n 0, 1) := by decide +kernel
theorem dX11_addType_15 : decode cX11_addType 15 = .ok (.getfield 12, 3) := by decide +kernel
theorem dX11_addType_18 : decode cX11_addType 18 = .ok (.getfield 80, 3) := by decide +kernel
theorem dX11_addType_21 : decode cX11_addType 21 = .ok (.istore_n 1, 1) := by decide +kernel
theorem dX11_addType_22 : decode cX11_addType 22 = .ok (.aload_n 0, 1) := by decide +kernel
theorem dX11_addType_23 : decode cX11_addType 23 = .ok (.getfield 12, 3) := by decide +kernel
theorem dX11_addType_26 : decode cX11_addType 26 = .ok (.dup, 1) := by decide +kernel
theorem dX11_addType_27 : decode cX11_addType 27 = .ok (.getfield 80, 3) := by decide +kernel
theorem dX11_addType_30 : decode cX11_addType 30 = .ok (.iconst 1, 1) := by decide +kernel
theorem dX11_addType_31 : decode cX11_addType 31 = .ok (.iadd, 1) := by decide +kernel
theorem dX11_addType_32 : decode cX11_addType 32 = .ok (.putfield 80, 3) := by decide +kernel
theorem dX11_addType_35 : decode cX11_addType 35 = .ok (.iload_n 1, 1) := by decide +kernel
theorem dX11_addType_36 : decode cX11_addType 36 = .ok (.ireturn, 1) := by decide +kernel
theorem dX11_addConstructor_0 : decode cX11_addConstructor 0 = .ok (.iload_n 2, 1) := by decide +kernel
theorem dX11_addConstructor_1 : decode cX11_addConstructor 1 = .ok (.ifCond .lt 8, 3) := by decide +kernel
theorem dX11_addConstructor_4 : decode cX11_addConstructor 4 = .ok (.iload_n 2, 1) := by decide +kernel
theorem dX11_addConstructor_5 : decode cX11_addConstructor 5 = .ok (.iconst 3, 1) := by decide +kernel
theorem dX11_addConstructor_6 : decode cX11_addConstructor 6 = .ok (.if_icmp .le 6, 3) := by decide +kernel
theorem dX11_addConstructor_9 : decode cX11_addConstructor 9 = .ok (.bipush (-4), 2) := by decide +kernel
theorem dX11_addConstructor_11 : decode cX11_addConstructor 11 = .ok (.ireturn, 1) := by decide +kernel
theorem dX11_addConstructor_12 : decode cX11_addConstructor 12 = .ok (.aload_n 0, 1) := by decide +kernel
theorem dX11_addConstructor_13 : decode cX11_addConstructor 13 = .ok (.getfield 12, 3) := by decide +kernel
theorem dX11_addConstructor_16 : decode cX11_addConstructor 16 = .ok (.iload_n 1, 1) := by decide +kernel
theorem dX11_addConstructor_17 : decode cX11_addConstructor 17 = .ok (.invokevirtual 84, 3) := by decide +kernel
theorem dX11_addConstructor_20 : decode cX11_addConstructor 20 = .ok (.ifCond .eq 52, 3) := by decide +kernel
theorem dX11_addConstructor_23 : decode cX11_addConstructor 23 = .ok (.iload_n 2, 1) := by decide +kernel
theorem dX11_addConstructor_24 : decode cX11_addConstructor 24 = .ok (.ifCond .le 14, 3) := by decide +kernel
theorem dX11_addConstructor_27 : decode cX11_addConstructor 27 = .ok (.aload_n 0, 1) := by decide +kernel
theorem dX11_addConstructor_28 : decode cX11_addConstructor 28 = .ok (.getfield 12, 3) := by decide +kernel
theorem dX11_addConstructor_31 : decode cX11_addConstructor 31 = .ok (.iload_n 3, 1) := by decide +kernel
theorem dX11_addConstructor_32 : decode cX11_addConstructor 32 = .ok (.invokevirtual 84, 3) := by decide +kernel
theorem dX11_addConstructor_35 : decode cX11_addConstructor 35 = .ok (.ifCond .eq 37, 3) := by decide +kernel
theorem dX11_addConstructor_38 : decode cX11_addConstructor 38 = .ok (.iload_n 2, 1) := by decide +kernel
theorem dX11_addConstructor_39 : decode cX11_addConstructor 39 = .ok (.iconst 1, 1) := by decide +kernel
theorem dX11_addConstructor_40 : decode cX11_addConstructor 40 = .ok (.if_icmp .le 15, 3) := by decide +kernel
theorem dX11_addConstructor_43 : decode cX11_addConstructor 43 = .ok (.aload_n 0, 1) := by decide +kernel
theorem dX11_addConstructor_44 : decode cX11_addConstructor 44 = .ok (.getfield 12, 3) := by decide +kernel
theorem dX11_addConstructor_47 : decode cX11_addConstructor 47 = .ok (.iload 4, 2) := by decide +kernel
theorem dX11_addConstructor_49 : decode cX11_addConstructor 49 = .ok (.invokevirtual 84, 3) := by decide +kernel
theorem dX11_addConstructor_52 : decode cX11_addConstructor 52 = .ok (.ifCond .eq 20, 3) := by decide +kernel
theorem dX11_addConstructor_55 : decode cX11_addConstructor 55 = .ok (.iload_n 2, 1) := by decide +kernel
theorem dX11_addConstructor_56 : decode cX11_addConstructor 56 = .ok (.iconst 2, 1) := by decide +kernel
theorem dX11_addConstructor_57 : decode cX11_addConstructor 57 = .ok (.if_icmp .le 17, 3) := by decide +kernel
theorem dX11_addConstructor_60 : decode cX11_addConstructor 60 = .ok (.aload_n 0, 1) := by decide +kernel
theorem dX11_addConstructor_61 : decode cX11_addConstructor 61 = .ok (.getfield 12, 3) := by decide +kernel
theorem dX11_addConstructor_64 : decode cX11_addConstructor 64 = .ok (.iload 5, 2) := by decide +kernel
theorem dX11_addConstructor_66 : decode cX11_addConstructor 66 = .ok (.invokevirtual 84, 3) := by decide +kernel
theorem dX11_addConstructor_69 : decode cX11_addConstructor 69 = .ok (.ifCond .ne 5, 3) := by decide +kernel
theorem dX11_addConstructor_72 : decode cX11_addConstructor 72 = .ok (.iconst (-1), 1) := by decide +kernel
theorem dX11_addConstructor_73 : decode cX11_addConstructor 73 = .ok (.ireturn, 1) := by decide +kernel
theorem dX11_addConstructor_74 : decode cX11_addConstructor 74 = .ok (.aload_n 0, 1) := by decide +kernel
theorem dX11_addConstructor_75 : decode cX11_addConstructor 75 = .ok (.getfield 12, 3) := by decide +kernel
theorem dX11_addConstructor_78 : decode cX11_addConstructor 78 = .ok (.getfield 88, 3) := by decide +kernel
theorem dX11_addConstructor_81 : decode cX11_addConstructor 81 = .ok (.bipush 12, 2) := by decide +kernel
theorem dX11_addConstructor_83 : decode cX11_addConstructor 83 = .ok (.if_icmp .lt 6, 3) := by decide +kernel
theorem dX11_addConstructor_86 : decode cX11_addConstructor 86 = .ok (.bipush (-6), 2) := by decide +kernel
theorem dX11_addConstructor_88 : decode cX11_addConstructor 88 = .ok (.ireturn, 1) := by decide +kernel
theorem dX11_addConstructor_89 : decode cX11_addConstructor 89 = .ok (.aload_n 0, 1) := by decide +kernel
theorem dX11_addConstructor_90 : decode cX11_addConstructor 90 = .ok (.getfield 12, 3) := by decide +kernel
theorem dX11_addConstructor_93 : decode cX11_addConstructor 93 = .ok (.iload_n 1, 1) := by decide +kernel
theorem dX11_addConstructor_94 : decode cX11_addConstructor 94 = .ok (.iload_n 2, 1) := by decide +kernel
theorem dX11_addConstructor_95 : decode cX11_addConstructor 95 = .ok (.iload_n 3, 1) := by decide +kernel
theorem dX11_addConstructor_96 : decode cX11_addConstructor 96 = .ok (.iload 4, 2) := by decide +kernel
theorem dX11_addConstructor_98 : decode cX11_addConstructor 98 = .ok (.iload 5, 2) := by decide +kernel
theorem dX11_addConstructor_100 : decode cX11_addConstructor 100 = .ok (.invokevirtual 91, 3) := by decide +kernel
theorem dX11_addConstructor_103 : decode cX11_addConstructor 103 = .ok (.istore 6, 2) := by decide +kernel
theorem dX11_addConstructor_105 : decode cX11_addConstructor 105 = .ok (.aload_n 0, 1) := by decide +kernel
theorem dX11_addConstructor_106 : decode cX11_addConstructor 106 = .ok (.getfield 21, 3) := by decide +kernel
theorem dX11_addConstructor_109 : decode cX11_addConstructor 109 = .ok (.invokevirtual 95, 3) := by decide +kernel
theorem dX11_addConstructor_112 : decode cX11_addConstructor 112 = .ok (.aload_n 0, 1) := by decide +kernel
theorem dX11_addConstructor_113 : decode cX11_addConstructor 113 = .ok (.getfield 28, 3) := by decide +kernel
theorem dX11_addConstructor_116 : decode cX11_addConstructor 116 = .ok (.invokevirtual 98, 3) := by decide +kernel
theorem dX11_addConstructor_119 : decode cX11_addConstructor 119 = .ok (.iload 6, 2) := by decide +kernel
theorem dX11_addConstructor_121 : decode cX11_addConstructor 121 = .ok (.ireturn, 1) := by decide +kernel
theorem dX11_resultType_0 : decode cX11_resultType 0 = .ok (.aload_n 0, 1) := by decide +kernel
theorem dX11_resultType_1 : decode cX11_resultType 1 = .ok (.getfield 12, 3) := by decide +kernel
theorem dX11_resultType_4 : decode cX11_resultType 4 = .ok (.iload_n 1, 1) := by decide +kernel
theorem dX11_resultType_5 : decode cX11_resultType 5 = .ok (.invokevirtual 99, 3) := by decide +kernel
theorem dX11_resultType_8 : decode cX11_resultType 8 = .ok (.ifCond .ne 6, 3) := by decide +kernel
theorem dX11_resultType_11 : decode cX11_resultType 11 = .ok (.bipush (-2), 2) := by decide +kernel
theorem dX11_resultType_13 : decode cX11_resultType 13 = .ok (.ireturn, 1) := by decide +kernel
theorem dX11_resultType_14 : decode cX11_resultType 14 = .ok (.aload_n 0, 1) := by decide +kernel
theorem dX11_resultType_15 : decode cX11_resultType 15 = .ok (.getfield 12, 3) := by decide +kernel
theorem dX11_resultType_18 : decode cX11_resultType 18 = .ok (.getfield 102, 3) := by decide +kernel
theorem dX11_resultType_21 : decode cX11_resultType 21 = .ok (.iload_n 1, 1) := by decide +kernel
theorem dX11_resultType_22 : decode cX11_resultType 22 = .ok (.iaload, 1) := by decide +kernel
theorem dX11_resultType_23 : decode cX11_resultType 23 = .ok (.ireturn, 1) := by decide +kernel
theorem dX11_arity_0 : decode cX11_arity 0 = .ok (.aload_n 0, 1) := by decide +kernel
theorem dX11_arity_1 : decode cX11_arity 1 = .ok (.getfield 12, 3) := by decide +kernel
theorem dX11_arity_4 : decode cX11_arity 4 = .ok (.iload_n 1, 1) := by decide +kernel
theorem dX11_arity_5 : decode cX11_arity 5 = .ok (.invokevirtual 99, 3) := by decide +kernel
theorem dX11_arity_8 : decode cX11_arity 8 = .ok (.ifCond .ne 6, 3) := by decide +kernel
theorem dX11_arity_11 : decode cX11_arity 11 = .ok (.bipush (-2), 2) := by decide +kernel
theorem dX11_arity_13 : decode cX11_arity 13 = .ok (.ireturn, 1) := by decide +kernel
theorem dX11_arity_14 : decode cX11_arity 14 = .ok (.aload_n 0, 1) := by decide +kernel
theorem dX11_arity_15 : decode cX11_arity 15 = .ok (.getfield 12, 3) := by decide +kernel
theorem dX11_arity_18 : decode cX11_arity 18 = .ok (.getfield 106, 3) := by decide +kernel
theorem dX11_arity_21 : decode cX11_arity 21 = .ok (.iload_n 1, 1) := by decide +kernel
theorem dX11_arity_22 : decode cX11_arity 22 = .ok (.iaload, 1) := by decide +kernel
theorem dX11_arity_23 : decode cX11_arity 23 = .ok (.ireturn, 1) := by decide +kernel
theorem dX11_argumentType_0 : decode cX11_argumentType 0 = .ok (.aload_n 0, 1) := by decide +kernel
theorem dX11_argumentType_1 : decode cX11_argumentType 1 = .ok (.getfield 12, 3) := by decide +kernel
theorem dX11_argumentType_4 : decode cX11_argumentType 4 = .ok (.iload_n 1, 1) := by decide +kernel
theorem dX11_argumentType_5 : decode cX11_argumentType 5 = .ok (.invokevirtual 99, 3) := by decide +kernel
theorem dX11_argumentType_8 : decode cX11_argumentType 8 = .ok (.ifCond .ne 6, 3) := by decide +kernel
theorem dX11_argumentType_11 : decode cX11_argumentType 11 = .ok (.bipush (-2), 2) := by decide +kernel
theorem dX11_argumentType_13 : decode cX11_argumentType 13 = .ok (.ireturn, 1) := by decide +kernel
theorem dX11_argumentType_14 : decode cX11_argumentType 14 = .ok (.iload_n 2, 1) := by decide +kernel
theorem dX11_argumentType_15 : decode cX11_argumentType 15 = .ok (.ifCond .lt 16, 3) := by decide +kernel
theorem dX11_argumentType_18 : decode cX11_argumentType 18 = .ok (.iload_n 2, 1) := by decide +kernel
theorem dX11_argumentType_19 : decode cX11_argumentType 19 = .ok (.aload_n 0, 1) := by decide +kernel
theorem dX11_argumentType_20 : decode cX11_argumentType 20 = .ok (.getfield 12, 3) := by decide +kernel
theorem dX11_argumentType_23 : decode cX11_argumentType 23 = .ok (.getfield 106, 3) := by decide +kernel
theorem dX11_argumentType_26 : decode cX11_argumentType 26 = .ok (.iload_n 1, 1) := by decide +kernel
theorem dX11_argumentType_27 : decode cX11_argumentType 27 = .ok (.iaload, 1) := by decide +kernel
theorem dX11_argumentType_28 : decode cX11_argumentType 28 = .ok (.if_icmp .lt 6, 3) := by decide +kernel
theorem dX11_argumentType_31 : decode cX11_argumentType 31 = .ok (.bipush (-13), 2) := by decide +kernel
theorem dX11_argumentType_33 : decode cX11_argumentType 33 = .ok (.ireturn, 1) := by decide +kernel
theorem dX11_argumentType_34 : decode cX11_argumentType 34 = .ok (.aload_n 0, 1) := by decide +kernel
theorem dX11_argumentType_35 : decode cX11_argumentType 35 = .ok (.getfield 12, 3) := by decide +kernel
theorem dX11_argumentType_38 : decode cX11_argumentType 38 = .ok (.iload_n 1, 1) := by decide +kernel
theorem dX11_argumentType_39 : decode cX11_argumentType 39 = .ok (.iload_n 2, 1) := by decide +kernel
theorem dX11_argumentType_40 : decode cX11_argumentType 40 = .ok (.invokevirtual 109, 3) := by decide +kernel
theorem dX11_argumentType_43 : decode cX11_argumentType 43 = .ok (.ireturn, 1) := by decide +kernel
theorem dX11_cardinality_0 : decode cX11_cardinality 0 = .ok (.aload_n 0, 1) := by decide +kernel
theorem dX11_cardinality_1 : decode cX11_cardinality 1 = .ok (.getfield 12, 3) := by decide +kernel
theorem dX11_cardinality_4 : decode cX11_cardinality 4 = .ok (.iload_n 1, 1) := by decide +kernel
theorem dX11_cardinality_5 : decode cX11_cardinality 5 = .ok (.invokevirtual 84, 3) := by decide +kernel
theorem dX11_cardinality_8 : decode cX11_cardinality 8 = .ok (.ifCond .ne 5, 3) := by decide +kernel
theorem dX11_cardinality_11 : decode cX11_cardinality 11 = .ok (.iconst (-1), 1) := by decide +kernel
theorem dX11_cardinality_12 : decode cX11_cardinality 12 = .ok (.ireturn, 1) := by decide +kernel
theorem dX11_cardinality_13 : decode cX11_cardinality 13 = .ok (.aload_n 0, 1) := by decide +kernel
theorem dX11_cardinality_14 : decode cX11_cardinality 14 = .ok (.getfield 21, 3) := by decide +kernel
theorem dX11_cardinality_17 : decode cX11_cardinality 17 = .ok (.getfield 113, 3) := by decide +kernel
theorem dX11_cardinality_20 : decode cX11_cardinality 20 = .ok (.iload_n 1, 1) := by decide +kernel
theorem dX11_cardinality_21 : decode cX11_cardinality 21 = .ok (.iaload, 1) := by decide +kernel
theorem dX11_cardinality_22 : decode cX11_cardinality 22 = .ok (.ireturn, 1) := by decide +kernel
theorem dX11_smallestSize_0 : decode cX11_smallestSize 0 = .ok (.aload_n 0, 1) := by decide +kernel
theorem dX11_smallestSize_1 : decode cX11_smallestSize 1 = .ok (.getfield 12, 3) := by decide +kernel
theorem dX11_smallestSize_4 : decode cX11_smallestSize 4 = .ok (.iload_n 1, 1) := by decide +kernel
theorem dX11_smallestSize_5 : decode cX11_smallestSize 5 = .ok (.invokevirtual 84, 3) := by decide +kernel
theorem dX11_smallestSize_8 : decode cX11_smallestSize 8 = .ok (.ifCond .ne 5, 3) := by decide +kernel
theorem dX11_smallestSize_11 : decode cX11_smallestSize 11 = .ok (.iconst (-1), 1) := by decide +kernel
theorem dX11_smallestSize_12 : decode cX11_smallestSize 12 = .ok (.ireturn, 1) := by decide +kernel
theorem dX11_smallestSize_13 : decode cX11_smallestSize 13 = .ok (.aload_n 0, 1) := by decide +kernel
theorem dX11_smallestSize_14 : decode cX11_smallestSize 14 = .ok (.getfield 21, 3) := by decide +kernel
theorem dX11_smallestSize_17 : decode cX11_smallestSize 17 = .ok (.getfield 116, 3) := by decide +kernel
theorem dX11_smallestSize_20 : decode cX11_smallestSize 20 = .ok (.iload_n 1, 1) := by decide +kernel
theorem dX11_smallestSize_21 : decode cX11_smallestSize 21 = .ok (.iaload, 1) := by decide +kernel
theorem dX11_smallestSize_22 : decode cX11_smallestSize 22 = .ok (.ireturn, 1) := by decide +kernel
theorem dX11_count_0 : decode cX11_count 0 = .ok (.aload_n 0, 1) := by decide +kernel
theorem dX11_count_1 : decode cX11_count 1 = .ok (.getfield 12, 3) := by decide +kernel
theorem dX11_count_4 : decode cX11_count 4 = .ok (.iload_n 1, 1) := by decide +kernel
theorem dX11_count_5 : decode cX11_count 5 = .ok (.invokevirtual 84, 3) := by decide +kernel
theorem dX11_count_8 : decode cX11_count 8 = .ok (.ifCond .ne 5, 3) := by decide +kernel
theorem dX11_count_11 : decode cX11_count 11 = .ok (.iconst (-1), 1) := by decide +kernel
theorem dX11_count_12 : decode cX11_count 12 = .ok (.ireturn, 1) := by decide +kernel
theorem dX11_count_13 : decode cX11_count 13 = .ok (.iload_n 2, 1) := by decide +kernel
theorem dX11_count_14 : decode cX11_count 14 = .ok (.iconst 1, 1) := by decide +kernel
theorem dX11_count_15 : decode cX11_count 15 = .ok (.if_icmp .lt 9, 3) := by decide +kernel
theorem dX11_count_18 : decode cX11_count 18 = .ok (.iload_n 2, 1) := by decide +kernel
theorem dX11_count_19 : decode cX11_count 19 = .ok (.bipush 12, 2) := by decide +kernel
theorem dX11_count_21 : decode cX11_count 21 = .ok (.if_icmp .le 6, 3) := by decide +kernel
theorem dX11_count_24 : decode cX11_count 24 = .ok (.bipush (-4), 2) := by decide +kernel
theorem dX11_count_26 : decode cX11_count 26 = .ok (.ireturn, 1) := by decide +kernel
theorem dX11_count_27 : decode cX11_count 27 = .ok (.aload_n 0, 1) := by decide +kernel
theorem dX11_count_28 : decode cX11_count 28 = .ok (.getfield 28, 3) := by decide +kernel
theorem dX11_count_31 : decode cX11_count 31 = .ok (.iload_n 1, 1) := by decide +kernel
theorem dX11_count_32 : decode cX11_count 32 = .ok (.iload_n 2, 1) := by decide +kernel
theorem dX11_count_33 : decode cX11_count 33 = .ok (.invokevirtual 119, 3) := by decide +kernel
theorem dX11_count_36 : decode cX11_count 36 = .ok (.ireturn, 1) := by decide +kernel
theorem dX11_value_0 : decode cX11_value 0 = .ok (.aload_n 0, 1) := by decide +kernel
theorem dX11_value_1 : decode cX11_value 1 = .ok (.getfield 12, 3) := by decide +kernel
theorem dX11_value_4 : decode cX11_value 4 = .ok (.iload_n 1, 1) := by decide +kernel
theorem dX11_value_5 : decode cX11_value 5 = .ok (.invokevirtual 84, 3) := by decide +kernel
theorem dX11_value_8 : decode cX11_value 8 = .ok (.ifCond .ne 5, 3) := by decide +kernel
theorem dX11_value_11 : decode cX11_value 11 = .ok (.iconst (-1), 1) := by decide +kernel
theorem dX11_value_12 : decode cX11_value 12 = .ok (.ireturn, 1) := by decide +kernel
theorem dX11_value_13 : decode cX11_value 13 = .ok (.iload_n 2, 1) := by decide +kernel
theorem dX11_value_14 : decode cX11_value 14 = .ok (.iconst 1, 1) := by decide +kernel
theorem dX11_value_15 : decode cX11_value 15 = .ok (.if_icmp .lt 9, 3) := by decide +kernel
theorem dX11_value_18 : decode cX11_value 18 = .ok (.iload_n 2, 1) := by decide +kernel
theorem dX11_value_19 : decode cX11_value 19 = .ok (.bipush 12, 2) := by decide +kernel
theorem dX11_value_21 : decode cX11_value 21 = .ok (.if_icmp .le 6, 3) := by decide +kernel
theorem dX11_value_24 : decode cX11_value 24 = .ok (.bipush (-4), 2) := by decide +kernel
theorem dX11_value_26 : decode cX11_value 26 = .ok (.ireturn, 1) := by decide +kernel
theorem dX11_value_27 : decode cX11_value 27 = .ok (.iload_n 3, 1) := by decide +kernel
theorem dX11_value_28 : decode cX11_value 28 = .ok (.ifCond .lt 16, 3) := by decide +kernel
theorem dX11_value_31 : decode cX11_value 31 = .ok (.iload_n 3, 1) := by decide +kernel
theorem dX11_value_32 : decode cX11_value 32 = .ok (.aload_n 0, 1) := by decide +kernel
theorem dX11_value_33 : decode cX11_value 33 = .ok (.getfield 28, 3) := by decide +kernel
theorem dX11_value_36 : decode cX11_value 36 = .ok (.iload_n 1, 1) := by decide +kernel
theorem dX11_value_37 : decode cX11_value 37 = .ok (.iload_n 2, 1) := by decide +kernel
theorem dX11_value_38 : decode cX11_value 38 = .ok (.invokevirtual 119, 3) := by decide +kernel
theorem dX11_value_41 : decode cX11_value 41 = .ok (.if_icmp .lt 6, 3) := by decide +kernel
theorem dX11_value_44 : decode cX11_value 44 = .ok (.bipush (-13), 2) := by decide +kernel
theorem dX11_value_46 : decode cX11_value 46 = .ok (.ireturn, 1) := by decide +kernel
theorem dX11_value_47 : decode cX11_value 47 = .ok (.aload_n 0, 1) := by decide +kernel
theorem dX11_value_48 : decode cX11_value 48 = .ok (.getfield 35, 3) := by decide +kernel
theorem dX11_value_51 : decode cX11_value 51 = .ok (.getfield 122, 3) := by decide +kernel
theorem dX11_value_54 : decode cX11_value 54 = .ok (.iload_n 2, 1) := by decide +kernel
theorem dX11_value_55 : decode cX11_value 55 = .ok (.iadd, 1) := by decide +kernel
theorem dX11_value_56 : decode cX11_value 56 = .ok (.bipush 100, 2) := by decide +kernel
theorem dX11_value_58 : decode cX11_value 58 = .ok (.if_icmp .le 6, 3) := by decide +kernel
theorem dX11_value_61 : decode cX11_value 61 = .ok (.bipush (-6), 2) := by decide +kernel
theorem dX11_value_63 : decode cX11_value 63 = .ok (.ireturn, 1) := by decide +kernel
theorem dX11_value_64 : decode cX11_value 64 = .ok (.aload_n 0, 1) := by decide +kernel
theorem dX11_value_65 : decode cX11_value 65 = .ok (.getfield 44, 3) := by decide +kernel
theorem dX11_value_68 : decode cX11_value 68 = .ok (.iload_n 1, 1) := by decide +kernel
theorem dX11_value_69 : decode cX11_value 69 = .ok (.iload_n 2, 1) := by decide +kernel
theorem dX11_value_70 : decode cX11_value 70 = .ok (.iload_n 3, 1) := by decide +kernel
theorem dX11_value_71 : decode cX11_value 71 = .ok (.invokevirtual 125, 3) := by decide +kernel
theorem dX11_value_74 : decode cX11_value 74 = .ok (.ireturn, 1) := by decide +kernel
theorem dX11_variable_0 : decode cX11_variable 0 = .ok (.aload_n 0, 1) := by decide +kernel
theorem dX11_variable_1 : decode cX11_variable 1 = .ok (.getfield 12, 3) := by decide +kernel
theorem dX11_variable_4 : decode cX11_variable 4 = .ok (.iload_n 1, 1) := by decide +kernel
theorem dX11_variable_5 : decode cX11_variable 5 = .ok (.invokevirtual 84, 3) := by decide +kernel
theorem dX11_variable_8 : decode cX11_variable 8 = .ok (.ifCond .ne 5, 3) := by decide +kernel
theorem dX11_variable_11 : decode cX11_variable 11 = .ok (.iconst (-1), 1) := by decide +kernel
theorem dX11_variable_12 : decode cX11_variable 12 = .ok (.ireturn, 1) := by decide +kernel
theorem dX11_variable_13 : decode cX11_variable 13 = .ok (.aload_n 0, 1) := by decide +kernel
theorem dX11_variable_14 : decode cX11_variable 14 = .ok (.getfield 35, 3) := by decide +kernel
theorem dX11_variable_17 : decode cX11_variable 17 = .ok (.getfield 122, 3) := by decide +kernel
theorem dX11_variable_20 : decode cX11_variable 20 = .ok (.bipush 100, 2) := by decide +kernel
theorem dX11_variable_22 : decode cX11_variable 22 = .ok (.if_icmp .lt 6, 3) := by decide +kernel
theorem dX11_variable_25 : decode cX11_variable 25 = .ok (.bipush (-6), 2) := by decide +kernel
theorem dX11_variable_27 : decode cX11_variable 27 = .ok (.ireturn, 1) := by decide +kernel
theorem dX11_variable_28 : decode cX11_variable 28 = .ok (.aload_n 0, 1) := by decide +kernel
theorem dX11_variable_29 : decode cX11_variable 29 = .ok (.getfield 35, 3) := by decide +kernel
theorem dX11_variable_32 : decode cX11_variable 32 = .ok (.iload_n 1, 1) := by decide +kernel
theorem dX11_variable_33 : decode cX11_variable 33 = .ok (.invokevirtual 129, 3) := by decide +kernel
theorem dX11_variable_36 : decode cX11_variable 36 = .ok (.ireturn, 1) := by decide +kernel
theorem dX11_term_0 : decode cX11_term 0 = .ok (.aload_n 0, 1) := by decide +kernel
theorem dX11_term_1 : decode cX11_term 1 = .ok (.getfield 12, 3) := by decide +kernel
theorem dX11_term_4 : decode cX11_term 4 = .ok (.iload_n 1, 1) := by decide +kernel
theorem dX11_term_5 : decode cX11_term 5 = .ok (.invokevirtual 99, 3) := by decide +kernel
theorem dX11_term_8 : decode cX11_term 8 = .ok (.ifCond .ne 6, 3) := by decide +kernel
theorem dX11_term_11 : decode cX11_term 11 = .ok (.bipush (-2), 2) := by decide +kernel
theorem dX11_term_13 : decode cX11_term 13 = .ok (.ireturn, 1) := by decide +kernel
theorem dX11_term_14 : decode cX11_term 14 = .ok (.aload_n 0, 1) := by decide +kernel
theorem dX11_term_15 : decode cX11_term 15 = .ok (.getfield 12, 3) := by decide +kernel
theorem dX11_term_18 : decode cX11_term 18 = .ok (.getfield 106, 3) := by decide +kernel
theorem dX11_term_21 : decode cX11_term 21 = .ok (.iload_n 1, 1) := by decide +kernel
theorem dX11_term_22 : decode cX11_term 22 = .ok (.iaload, 1) := by decide +kernel
theorem dX11_term_23 : decode cX11_term 23 = .ok (.istore 5, 2) := by decide +kernel
theorem dX11_term_25 : decode cX11_term 25 = .ok (.iload 5, 2) := by decide +kernel
theorem dX11_term_27 : decode cX11_term 27 = .ok (.ifCond .le 14, 3) := by decide +kernel
theorem dX11_term_30 : decode cX11_term 30 = .ok (.aload_n 0, 1) := by decide +kernel
theorem dX11_term_31 : decode cX11_term 31 = .ok (.getfield 35, 3) := by decide +kernel
theorem dX11_term_34 : decode cX11_term 34 = .ok (.iload_n 2, 1) := by decide +kernel
theorem dX11_term_35 : decode cX11_term 35 = .ok (.invokevirtual 133, 3) := by decide +kernel
theorem dX11_term_38 : decode cX11_term 38 = .ok (.ifCond .eq 38, 3) := by decide +kernel
theorem dX11_term_41 : decode cX11_term 41 = .ok (.iload 5, 2) := by decide +kernel
theorem dX11_term_43 : decode cX11_term 43 = .ok (.iconst 1, 1) := by decide +kernel
theorem dX11_term_44 : decode cX11_term 44 = .ok (.if_icmp .le 14, 3) := by decide +kernel
theorem dX11_term_47 : decode cX11_term 47 = .ok (.aload_n 0, 1) := by decide +kernel
theorem dX11_term_48 : decode cX11_term 48 = .ok (.getfield 35, 3) := by decide +kernel
theorem dX11_term_51 : decode cX11_term 51 = .ok (.iload_n 3, 1) := by decide +kernel
theorem dX11_term_52 : decode cX11_term 52 = .ok (.invokevirtual 133, 3) := by decide +kernel
theorem dX11_term_55 : decode cX11_term 55 = .ok (.ifCond .eq 21, 3) := by decide +kernel
theorem dX11_term_58 : decode cX11_term 58 = .ok (.iload 5, 2) := by decide +kernel
theorem dX11_term_60 : decode cX11_term 60 = .ok (.iconst 2, 1) := by decide +kernel
theorem dX11_term_61 : decode cX11_term 61 = .ok (.if_icmp .le 18, 3) := by decide +kernel
theorem dX11_term_64 : decode cX11_term 64 = .ok (.aload_n 0, 1) := by decide +kernel
theorem dX11_term_65 : decode cX11_term 65 = .ok (.getfield 35, 3) := by decide +kernel
theorem dX11_term_68 : decode cX11_term 68 = .ok (.iload 4, 2) := by decide +kernel
theorem dX11_term_70 : decode cX11_term 70 = .ok (.invokevirtual 133, 3) := by decide +kernel
theorem dX11_term_73 : decode cX11_term 73 = .ok (.ifCond .ne 6, 3) := by decide +kernel
theorem dX11_term_76 : decode cX11_term 76 = .ok (.bipush (-3), 2) := by decide +kernel
theorem dX11_term_78 : decode cX11_term 78 = .ok (.ireturn, 1) := by decide +kernel
theorem dX11_term_79 : decode cX11_term 79 = .ok (.iload 5, 2) := by decide +kernel
theorem dX11_term_81 : decode cX11_term 81 = .ok (.ifCond .le 24, 3) := by decide +kernel
theorem dX11_term_84 : decode cX11_term 84 = .ok (.aload_n 0, 1) := by decide +kernel
theorem dX11_term_85 : decode cX11_term 85 = .ok (.getfield 35, 3) := by decide +kernel
theorem dX11_term_88 : decode cX11_term 88 = .ok (.getfield 136, 3) := by decide +kernel
theorem dX11_term_91 : decode cX11_term 91 = .ok (.iload_n 2, 1) := by decide +kernel
theorem dX11_term_92 : decode cX11_term 92 = .ok (.iaload, 1) := by decide +kernel
theorem dX11_term_93 : decode cX11_term 93 = .ok (.aload_n 0, 1) := by decide +kernel
theorem dX11_term_94 : decode cX11_term 94 = .ok (.getfield 12, 3) := by decide +kernel
theorem dX11_term_97 : decode cX11_term 97 = .ok (.iload_n 1, 1) := by decide +kernel
theorem dX11_term_98 : decode cX11_term 98 = .ok (.iconst 0, 1) := by decide +kernel
theorem dX11_term_99 : decode cX11_term 99 = .ok (.invokevirtual 109, 3) := by decide +kernel
theorem dX11_term_102 : decode cX11_term 102 = .ok (.if_icmp .ne 58, 3) := by decide +kernel
theorem dX11_term_105 : decode cX11_term 105 = .ok (.iload 5, 2) := by decide +kernel
theorem dX11_term_107 : decode cX11_term 107 = .ok (.iconst 1, 1) := by decide +kernel
theorem dX11_term_108 : decode cX11_term 108 = .ok (.if_icmp .le 24, 3) := by decide +kernel
theorem dX11_term_111 : decode cX11_term 111 = .ok (.aload_n 0, 1) := by decide +kernel
theorem dX11_term_112 : decode cX11_term 112 = .ok (.getfield 35, 3) := by decide +kernel
theorem dX11_term_115 : decode cX11_term 115 = .ok (.getfield 136, 3) := by decide +kernel
theorem dX11_term_118 : decode cX11_term 118 = .ok (.iload_n 3, 1) := by decide +kernel
theorem dX11_term_119 : decode cX11_term 119 = .ok (.iaload, 1) := by decide +kernel
theorem dX11_term_120 : decode cX11_term 120 = .ok (.aload_n 0, 1) := by decide +kernel
theorem dX11_term_121 : decode cX11_term 121 = .ok (.getfield 12, 3) := by decide +kernel
theorem dX11_term_124 : decode cX11_term 124 = .ok (.iload_n 1, 1) := by decide +kernel
theorem dX11_term_125 : decode cX11_term 125 = .ok (.iconst 1, 1) := by decide +kernel
theorem dX11_term_126 : decode cX11_term 126 = .ok (.invokevirtual 109, 3) := by decide +kernel
theorem dX11_term_129 : decode cX11_term 129 = .ok (.if_icmp .ne 31, 3) := by decide +kernel
theorem dX11_term_132 : decode cX11_term 132 = .ok (.iload 5, 2) := by decide +kernel
theorem dX11_term_134 : decode cX11_term 134 = .ok (.iconst 2, 1) := by decide +kernel
theorem dX11_term_135 : decode cX11_term 135 = .ok (.if_icmp .le 28, 3) := by decide +kernel
theorem dX11_term_138 : decode cX11_term 138 = .ok (.aload_n 0, 1) := by decide +kernel
theorem dX11_term_139 : decode cX11_term 139 = .ok (.getfield 35, 3) := by decide +kernel
theorem dX11_term_142 : decode cX11_term 142 = .ok (.getfield 136, 3) := by decide +kernel
theorem dX11_term_145 : decode cX11_term 145 = .ok (.iload 4, 2) := by decide +kernel
theorem dX11_term_147 : decode cX11_term 147 = .ok (.iaload, 1) := by decide +kernel
theorem dX11_term_148 : decode cX11_term 148 = .ok (.aload_n 0, 1) := by decide +kernel
theorem dX11_term_149 : decode cX11_term 149 = .ok (.getfield 12, 3) := by decide +kernel
theorem dX11_term_152 : decode cX11_term 152 = .ok (.iload_n 1, 1) := by decide +kernel
theorem dX11_term_153 : decode cX11_term 153 = .ok (.iconst 2, 1) := by decide +kernel
theorem dX11_term_154 : decode cX11_term 154 = .ok (.invokevirtual 109, 3) := by decide +kernel
theorem dX11_term_157 : decode cX11_term 157 = .ok (.if_icmp .eq 6, 3) := by decide +kernel
theorem dX11_term_160 : decode cX11_term 160 = .ok (.bipush (-5), 2) := by decide +kernel
theorem dX11_term_162 : decode cX11_term 162 = .ok (.ireturn, 1) := by decide +kernel
theorem dX11_term_163 : decode cX11_term 163 = .ok (.aload_n 0, 1) := by decide +kernel
theorem dX11_term_164 : decode cX11_term 164 = .ok (.getfield 35, 3) := by decide +kernel
theorem dX11_term_167 : decode cX11_term 167 = .ok (.getfield 122, 3) := by decide +kernel
theorem dX11_term_170 : decode cX11_term 170 = .ok (.bipush 100, 2) := by decide +kernel
theorem dX11_term_172 : decode cX11_term 172 = .ok (.if_icmp .lt 6, 3) := by decide +kernel
theorem dX11_term_175 : decode cX11_term 175 = .ok (.bipush (-6), 2) := by decide +kernel
theorem dX11_term_177 : decode cX11_term 177 = .ok (.ireturn, 1) := by decide +kernel
theorem dX11_term_178 : decode cX11_term 178 = .ok (.aload_n 0, 1) := by decide +kernel
theorem dX11_term_179 : decode cX11_term 179 = .ok (.getfield 35, 3) := by decide +kernel
theorem dX11_term_182 : decode cX11_term 182 = .ok (.iload_n 1, 1) := by decide +kernel
theorem dX11_term_183 : decode cX11_term 183 = .ok (.iload_n 2, 1) := by decide +kernel
theorem dX11_term_184 : decode cX11_term 184 = .ok (.iload_n 3, 1) := by decide +kernel
theorem dX11_term_185 : decode cX11_term 185 = .ok (.iload 4, 2) := by decide +kernel
theorem dX11_term_187 : decode cX11_term 187 = .ok (.invokevirtual 139, 3) := by decide +kernel
theorem dX11_term_190 : decode cX11_term 190 = .ok (.ireturn, 1) := by decide +kernel
theorem dX11_nodeCount_0 : decode cX11_nodeCount 0 = .ok (.aload_n 0, 1) := by decide +kernel
theorem dX11_nodeCount_1 : decode cX11_nodeCount 1 = .ok (.getfield 35, 3) := by decide +kernel
theorem dX11_nodeCount_4 : decode cX11_nodeCount 4 = .ok (.getfield 122, 3) := by decide +kernel
theorem dX11_nodeCount_7 : decode cX11_nodeCount 7 = .ok (.ireturn, 1) := by decide +kernel
theorem dX11_nodeType_0 : decode cX11_nodeType 0 = .ok (.aload_n 0, 1) := by decide +kernel
theorem dX11_nodeType_1 : decode cX11_nodeType 1 = .ok (.getfield 35, 3) := by decide +kernel
theorem dX11_nodeType_4 : decode cX11_nodeType 4 = .ok (.iload_n 1, 1) := by decide +kernel
theorem dX11_nodeType_5 : decode cX11_nodeType 5 = .ok (.invokevirtual 133, 3) := by decide +kernel
theorem dX11_nodeType_8 : decode cX11_nodeType 8 = .ok (.ifCond .ne 6, 3) := by decide +kernel
theorem dX11_nodeType_11 : decode cX11_nodeType 11 = .ok (.bipush (-3), 2) := by decide +kernel
theorem dX11_nodeType_13 : decode cX11_nodeType 13 = .ok (.ireturn, 1) := by decide +kernel
theorem dX11_nodeType_14 : decode cX11_nodeType 14 = .ok (.aload_n 0, 1) := by decide +kernel
theorem dX11_nodeType_15 : decode cX11_nodeType 15 = .ok (.getfield 35, 3) := by decide +kernel
theorem dX11_nodeType_18 : decode cX11_nodeType 18 = .ok (.getfield 136, 3) := by decide +kernel
theorem dX11_nodeType_21 : decode cX11_nodeType 21 = .ok (.iload_n 1, 1) := by decide +kernel
theorem dX11_nodeType_22 : decode cX11_nodeType 22 = .ok (.iaload, 1) := by decide +kernel
theorem dX11_nodeType_23 : decode cX11_nodeType 23 = .ok (.ireturn, 1) := by decide +kernel
theorem dX11_head_0 : decode cX11_head 0 = .ok (.aload_n 0, 1) := by decide +kernel
theorem dX11_head_1 : decode cX11_head 1 = .ok (.getfield 35, 3) := by decide +kernel
theorem dX11_head_4 : decode cX11_head 4 = .ok (.iload_n 1, 1) := by decide +kernel
theorem dX11_head_5 : decode cX11_head 5 = .ok (.invokevirtual 133, 3) := by decide +kernel
theorem dX11_head_8 : decode cX11_head 8 = .ok (.ifCond .ne 6, 3) := by decide +kernel
theorem dX11_head_11 : decode cX11_head 11 = .ok (.bipush (-3), 2) := by decide +kernel
theorem dX11_head_13 : decode cX11_head 13 = .ok (.ireturn, 1) := by decide +kernel
theorem dX11_head_14 : decode cX11_head 14 = .ok (.aload_n 0, 1) := by decide +kernel
theorem dX11_head_15 : decode cX11_head 15 = .ok (.getfield 35, 3) := by decide +kernel
theorem dX11_head_18 : decode cX11_head 18 = .ok (.iload_n 1, 1) := by decide +kernel
theorem dX11_head_19 : decode cX11_head 19 = .ok (.invokevirtual 143, 3) := by decide +kernel
theorem dX11_head_22 : decode cX11_head 22 = .ok (.istore_n 2, 1) := by decide +kernel
theorem dX11_head_23 : decode cX11_head 23 = .ok (.aload_n 0, 1) := by decide +kernel
theorem dX11_head_24 : decode cX11_head 24 = .ok (.getfield 35, 3) := by decide +kernel
theorem dX11_head_27 : decode cX11_head 27 = .ok (.iload_n 2, 1) := by decide +kernel
theorem dX11_head_28 : decode cX11_head 28 = .ok (.invokevirtual 146, 3) := by decide +kernel
theorem dX11_head_31 : decode cX11_head 31 = .ok (.ifCond .eq 8, 3) := by decide +kernel
theorem dX11_head_34 : decode cX11_head 34 = .ok (.bipush (-13), 2) := by decide +kernel
theorem dX11_head_36 : decode cX11_head 36 = .ok (.goto 12, 3) := by decide +kernel
theorem dX11_head_39 : decode cX11_head 39 = .ok (.aload_n 0, 1) := by decide +kernel
theorem dX11_head_40 : decode cX11_head 40 = .ok (.getfield 35, 3) := by decide +kernel
theorem dX11_head_43 : decode cX11_head 43 = .ok (.getfield 149, 3) := by decide +kernel
theorem dX11_head_46 : decode cX11_head 46 = .ok (.iload_n 2, 1) := by decide +kernel
theorem dX11_head_47 : decode cX11_head 47 = .ok (.iaload, 1) := by decide +kernel
theorem dX11_head_48 : decode cX11_head 48 = .ok (.ireturn, 1) := by decide +kernel
theorem dX11_child_0 : decode cX11_child 0 = .ok (.aload_n 0, 1) := by decide +kernel
theorem dX11_child_1 : decode cX11_child 1 = .ok (.getfield 35, 3) := by decide +kernel
theorem dX11_child_4 : decode cX11_child 4 = .ok (.iload_n 1, 1) := by decide +kernel
theorem dX11_child_5 : decode cX11_child 5 = .ok (.invokevirtual 133, 3) := by decide +kernel
theorem dX11_child_8 : decode cX11_child 8 = .ok (.ifCond .ne 6, 3) := by decide +kernel
theorem dX11_child_11 : decode cX11_child 11 = .ok (.bipush (-3), 2) := by decide +kernel
theorem dX11_child_13 : decode cX11_child 13 = .ok (.ireturn, 1) := by decide +kernel
theorem dX11_child_14 : decode cX11_child 14 = .ok (.aload_n 0, 1) := by decide +kernel
theorem dX11_child_15 : decode cX11_child 15 = .ok (.getfield 35, 3) := by decide +kernel
theorem dX11_child_18 : decode cX11_child 18 = .ok (.iload_n 1, 1) := by decide +kernel
theorem dX11_child_19 : decode cX11_child 19 = .ok (.invokevirtual 143, 3) := by decide +kernel
theorem dX11_child_22 : decode cX11_child 22 = .ok (.istore_n 3, 1) := by decide +kernel
theorem dX11_child_23 : decode cX11_child 23 = .ok (.iload_n 2, 1) := by decide +kernel
theorem dX11_child_24 : decode cX11_child 24 = .ok (.ifCond .lt 15, 3) := by decide +kernel
theorem dX11_child_27 : decode cX11_child 27 = .ok (.iload_n 2, 1) := by decide +kernel
theorem dX11_child_28 : decode cX11_child 28 = .ok (.aload_n 0, 1) := by decide +kernel
theorem dX11_child_29 : decode cX11_child 29 = .ok (.getfield 35, 3) := by decide +kernel
theorem dX11_child_32 : decode cX11_child 32 = .ok (.iload_n 3, 1) := by decide +kernel
theorem dX11_child_33 : decode cX11_child 33 = .ok (.invokevirtual 152, 3) := by decide +kernel
theorem dX11_child_36 : decode cX11_child 36 = .ok (.if_icmp .lt 6, 3) := by decide +kernel
theorem dX11_child_39 : decode cX11_child 39 = .ok (.bipush (-13), 2) := by decide +kernel
theorem dX11_child_41 : decode cX11_child 41 = .ok (.ireturn, 1) := by decide +kernel
theorem dX11_child_42 : decode cX11_child 42 = .ok (.aload_n 0, 1) := by decide +kernel
theorem dX11_child_43 : decode cX11_child 43 = .ok (.getfield 35, 3) := by decide +kernel
theorem dX11_child_46 : decode cX11_child 46 = .ok (.getfield 155, 3) := by decide +kernel
theorem dX11_child_49 : decode cX11_child 49 = .ok (.iload_n 3, 1) := by decide +kernel
theorem dX11_child_50 : decode cX11_child 50 = .ok (.iconst 3, 1) := by decide +kernel
theorem dX11_child_51 : decode cX11_child 51 = .ok (.imul, 1) := by decide +kernel
theorem dX11_child_52 : decode cX11_child 52 = .ok (.iload_n 2, 1) := by decide +kernel
theorem dX11_child_53 : decode cX11_child 53 = .ok (.iadd, 1) := by decide +kernel
theorem dX11_child_54 : decode cX11_child 54 = .ok (.iaload, 1) := by decide +kernel
theorem dX11_child_55 : decode cX11_child 55 = .ok (.ireturn, 1) := by decide +kernel
theorem dX11_binding_0 : decode cX11_binding 0 = .ok (.aload_n 0, 1) := by decide +kernel
theorem dX11_binding_1 : decode cX11_binding 1 = .ok (.getfield 35, 3) := by decide +kernel
theorem dX11_binding_4 : decode cX11_binding 4 = .ok (.iload_n 1, 1) := by decide +kernel
theorem dX11_binding_5 : decode cX11_binding 5 = .ok (.invokevirtual 133, 3) := by decide +kernel
theorem dX11_binding_8 : decode cX11_binding 8 = .ok (.ifCond .ne 6, 3) := by decide +kernel
theorem dX11_binding_11 : decode cX11_binding 11 = .ok (.bipush (-3), 2) := by decide +kernel
theorem dX11_binding_13 : decode cX11_binding 13 = .ok (.ireturn, 1) := by decide +kernel
theorem dX11_binding_14 : decode cX11_binding 14 = .ok (.aload_n 0, 1) := by decide +kernel
theorem dX11_binding_15 : decode cX11_binding 15 = .ok (.getfield 35, 3) := by decide +kernel
theorem dX11_binding_18 : decode cX11_binding 18 = .ok (.getfield 158, 3) := by decide +kernel
theorem dX11_binding_21 : decode cX11_binding 21 = .ok (.iload_n 1, 1) := by decide +kernel
theorem dX11_binding_22 : decode cX11_binding 22 = .ok (.iaload, 1) := by decide +kernel
theorem dX11_binding_23 : decode cX11_binding 23 = .ok (.iconst (-1), 1) := by decide +kernel
theorem dX11_binding_24 : decode cX11_binding 24 = .ok (.if_icmp .ne 8, 3) := by decide +kernel
theorem dX11_binding_27 : decode cX11_binding 27 = .ok (.bipush (-13), 2) := by decide +kernel
theorem dX11_binding_29 : decode cX11_binding 29 = .ok (.goto 12, 3) := by decide +kernel
theorem dX11_binding_32 : decode cX11_binding 32 = .ok (.aload_n 0, 1) := by decide +kernel
theorem dX11_binding_33 : decode cX11_binding 33 = .ok (.getfield 35, 3) := by decide +kernel
theorem dX11_binding_36 : decode cX11_binding 36 = .ok (.getfield 158, 3) := by decide +kernel
theorem dX11_binding_39 : decode cX11_binding 39 = .ok (.iload_n 1, 1) := by decide +kernel
theorem dX11_binding_40 : decode cX11_binding 40 = .ok (.iaload, 1) := by decide +kernel
theorem dX11_binding_41 : decode cX11_binding 41 = .ok (.ireturn, 1) := by decide +kernel
theorem dX11_size_0 : decode cX11_size 0 = .ok (.aload_n 0, 1) := by decide +kernel
theorem dX11_size_1 : decode cX11_size 1 = .ok (.getfield 35, 3) := by decide +kernel
theorem dX11_size_4 : decode cX11_size 4 = .ok (.iload_n 1, 1) := by decide +kernel
theorem dX11_size_5 : decode cX11_size 5 = .ok (.invokevirtual 133, 3) := by decide +kernel
theorem dX11_size_8 : decode cX11_size 8 = .ok (.ifCond .ne 6, 3) := by decide +kernel
theorem dX11_size_11 : decode cX11_size 11 = .ok (.bipush (-3), 2) := by decide +kernel
theorem dX11_size_13 : decode cX11_size 13 = .ok (.ireturn, 1) := by decide +kernel
theorem dX11_size_14 : decode cX11_size 14 = .ok (.aload_n 0, 1) := by decide +kernel
theorem dX11_size_15 : decode cX11_size 15 = .ok (.getfield 53, 3) := by decide +kernel
theorem dX11_size_18 : decode cX11_size 18 = .ok (.iload_n 1, 1) := by decide +kernel
theorem dX11_size_19 : decode cX11_size 19 = .ok (.invokevirtual 161, 3) := by decide +kernel
theorem dX11_size_22 : decode cX11_size 22 = .ok (.ireturn, 1) := by decide +kernel
theorem dX11_rank_0 : decode cX11_rank 0 = .ok (.aload_n 0, 1) := by decide +kernel
theorem dX11_rank_1 : decode cX11_rank 1 = .ok (.getfield 35, 3) := by decide +kernel
theorem dX11_rank_4 : decode cX11_rank 4 = .ok (.iload_n 1, 1) := by decide +kernel
theorem dX11_rank_5 : decode cX11_rank 5 = .ok (.invokevirtual 133, 3) := by decide +kernel
theorem dX11_rank_8 : decode cX11_rank 8 = .ok (.ifCond .ne 6, 3) := by decide +kernel
theorem dX11_rank_11 : decode cX11_rank 11 = .ok (.bipush (-3), 2) := by decide +kernel
theorem dX11_rank_13 : decode cX11_rank 13 = .ok (.ireturn, 1) := by decide +kernel
theorem dX11_rank_14 : decode cX11_rank 14 = .ok (.aload_n 0, 1) := by decide +kernel
theorem dX11_rank_15 : decode cX11_rank 15 = .ok (.getfield 53, 3) := by decide +kernel
theorem dX11_rank_18 : decode cX11_rank 18 = .ok (.iload_n 1, 1) := by decide +kernel
theorem dX11_rank_19 : decode cX11_rank 19 = .ok (.invokevirtual 161, 3) := by decide +kernel
theorem dX11_rank_22 : decode cX11_rank 22 = .ok (.istore_n 2, 1) := by decide +kernel
theorem dX11_rank_23 : decode cX11_rank 23 = .ok (.iload_n 2, 1) := by decide +kernel
theorem dX11_rank_24 : decode cX11_rank 24 = .ok (.bipush (-9), 2) := by decide +kernel
theorem dX11_rank_26 : decode cX11_rank 26 = .ok (.if_icmp .ne 6, 3) := by decide +kernel
theorem dX11_rank_29 : decode cX11_rank 29 = .ok (.bipush (-9), 2) := by decide +kernel
theorem dX11_rank_31 : decode cX11_rank 31 = .ok (.ireturn, 1) := by decide +kernel
theorem dX11_rank_32 : decode cX11_rank 32 = .ok (.iload_n 2, 1) := by decide +kernel
theorem dX11_rank_33 : decode cX11_rank 33 = .ok (.bipush 12, 2) := by decide +kernel
theorem dX11_rank_35 : decode cX11_rank 35 = .ok (.if_icmp .le 6, 3) := by decide +kernel
theorem dX11_rank_38 : decode cX11_rank 38 = .ok (.bipush (-10), 2) := by decide +kernel
theorem dX11_rank_40 : decode cX11_rank 40 = .ok (.ireturn, 1) := by decide +kernel
theorem dX11_rank_41 : decode cX11_rank 41 = .ok (.aload_n 0, 1) := by decide +kernel
theorem dX11_rank_42 : decode cX11_rank 42 = .ok (.getfield 53, 3) := by decide +kernel
theorem dX11_rank_45 : decode cX11_rank 45 = .ok (.iload_n 1, 1) := by decide +kernel
theorem dX11_rank_46 : decode cX11_rank 46 = .ok (.invokevirtual 164, 3) := by decide +kernel
theorem dX11_rank_49 : decode cX11_rank 49 = .ok (.istore_n 3, 1) := by decide +kernel
theorem dX11_rank_50 : decode cX11_rank 50 = .ok (.iload_n 3, 1) := by decide +kernel
theorem dX11_rank_51 : decode cX11_rank 51 = .ok (.ldc 167, 2) := by decide +kernel
theorem dX11_rank_53 : decode cX11_rank 53 = .ok (.if_icmp .lt 8, 3) := by decide +kernel
theorem dX11_rank_56 : decode cX11_rank 56 = .ok (.bipush (-10), 2) := by decide +kernel
theorem dX11_rank_58 : decode cX11_rank 58 = .ok (.goto 4, 3) := by decide +kernel
theorem dX11_rank_61 : decode cX11_rank 61 = .ok (.iload_n 3, 1) := by decide +kernel
theorem dX11_rank_62 : decode cX11_rank 62 = .ok (.ireturn, 1) := by decide +kernel
theorem dX11_equal_0 : decode cX11_equal 0 = .ok (.aload_n 0, 1) := by decide +kernel
theorem dX11_equal_1 : decode cX11_equal 1 = .ok (.getfield 35, 3) := by decide +kernel
theorem dX11_equal_4 : decode cX11_equal 4 = .ok (.iload_n 1, 1) := by decide +kernel
theorem dX11_equal_5 : decode cX11_equal 5 = .ok (.invokevirtual 133, 3) := by decide +kernel
theorem dX11_equal_8 : decode cX11_equal 8 = .ok (.ifCond .eq 14, 3) := by decide +kernel
theorem dX11_equal_11 : decode cX11_equal 11 = .ok (.aload_n 0, 1) := by decide +kernel
theorem dX11_equal_12 : decode cX11_equal 12 = .ok (.getfield 35, 3) := by decide +kernel
theorem dX11_equal_15 : decode cX11_equal 15 = .ok (.iload_n 2, 1) := by decide +kernel
theorem dX11_equal_16 : decode cX11_equal 16 = .ok (.invokevirtual 133, 3) := by decide +kernel
theorem dX11_equal_19 : decode cX11_equal 19 = .ok (.ifCond .ne 6, 3) := by decide +kernel
theorem dX11_equal_22 : decode cX11_equal 22 = .ok (.bipush (-3), 2) := by decide +kernel
theorem dX11_equal_24 : decode cX11_equal 24 = .ok (.ireturn, 1) := by decide +kernel
theorem dX11_equal_25 : decode cX11_equal 25 = .ok (.aload_n 0, 1) := by decide +kernel
theorem dX11_equal_26 : decode cX11_equal 26 = .ok (.getfield 53, 3) := by decide +kernel
theorem dX11_equal_29 : decode cX11_equal 29 = .ok (.iload_n 1, 1) := by decide +kernel
theorem dX11_equal_30 : decode cX11_equal 30 = .ok (.iload_n 2, 1) := by decide +kernel
theorem dX11_equal_31 : decode cX11_equal 31 = .ok (.invokevirtual 168, 3) := by decide +kernel
theorem dX11_equal_34 : decode cX11_equal 34 = .ok (.ifCond .eq 7, 3) := by decide +kernel
theorem dX11_equal_37 : decode cX11_equal 37 = .ok (.iconst 1, 1) := by decide +kernel
theorem dX11_equal_38 : decode cX11_equal 38 = .ok (.goto 4, 3) := by decide +kernel
theorem dX11_equal_41 : decode cX11_equal 41 = .ok (.iconst 0, 1) := by decide +kernel
theorem dX11_equal_42 : decode cX11_equal 42 = .ok (.ireturn, 1) := by decide +kernel
theorem dX11_unify_0 : decode cX11_unify 0 = .ok (.aload_n 0, 1) := by decide +kernel
theorem dX11_unify_1 : decode cX11_unify 1 = .ok (.getfield 35, 3) := by decide +kernel
theorem dX11_unify_4 : decode cX11_unify 4 = .ok (.iload_n 1, 1) := by decide +kernel
theorem dX11_unify_5 : decode cX11_unify 5 = .ok (.invokevirtual 133, 3) := by decide +kernel
theorem dX11_unify_8 : decode cX11_unify 8 = .ok (.ifCond .eq 14, 3) := by decide +kernel
theorem dX11_unify_11 : decode cX11_unify 11 = .ok (.aload_n 0, 1) := by decide +kernel
theorem dX11_unify_12 : decode cX11_unify 12 = .ok (.getfield 35, 3) := by decide +kernel
theorem dX11_unify_15 : decode cX11_unify 15 = .ok (.iload_n 2, 1) := by decide +kernel
theorem dX11_unify_16 : decode cX11_unify 16 = .ok (.invokevirtual 133, 3) := by decide +kernel
theorem dX11_unify_19 : decode cX11_unify 19 = .ok (.ifCond .ne 6, 3) := by decide +kernel
theorem dX11_unify_22 : decode cX11_unify 22 = .ok (.bipush (-3), 2) := by decide +kernel
theorem dX11_unify_24 : decode cX11_unify 24 = .ok (.ireturn, 1) := by decide +kernel
theorem dX11_unify_25 : decode cX11_unify 25 = .ok (.aload_n 0, 1) := by decide +kernel
theorem dX11_unify_26 : decode cX11_unify 26 = .ok (.getfield 35, 3) := by decide +kernel
theorem dX11_unify_29 : decode cX11_unify 29 = .ok (.getfield 136, 3) := by decide +kernel
theorem dX11_unify_32 : decode cX11_unify 32 = .ok (.iload_n 1, 1) := by decide +kernel
theorem dX11_unify_33 : decode cX11_unify 33 = .ok (.iaload, 1) := by decide +kernel
theorem dX11_unify_34 : decode cX11_unify 34 = .ok (.aload_n 0, 1) := by decide +kernel
theorem dX11_unify_35 : decode cX11_unify 35 = .ok (.getfield 35, 3) := by decide +kernel
theorem dX11_unify_38 : decode cX11_unify 38 = .ok (.getfield 136, 3) := by decide +kernel
theorem dX11_unify_41 : decode cX11_unify 41 = .ok (.iload_n 2, 1) := by decide +kernel
theorem dX11_unify_42 : decode cX11_unify 42 = .ok (.iaload, 1) := by decide +kernel
theorem dX11_unify_43 : decode cX11_unify 43 = .ok (.if_icmp .eq 6, 3) := by decide +kernel
theorem dX11_unify_46 : decode cX11_unify 46 = .ok (.bipush (-5), 2) := by decide +kernel
theorem dX11_unify_48 : decode cX11_unify 48 = .ok (.ireturn, 1) := by decide +kernel
theorem dX11_unify_49 : decode cX11_unify 49 = .ok (.aload_n 0, 1) := by decide +kernel
theorem dX11_unify_50 : decode cX11_unify 50 = .ok (.getfield 62, 3) := by decide +kernel
theorem dX11_unify_53 : decode cX11_unify 53 = .ok (.iload_n 1, 1) := by decide +kernel
theorem dX11_unify_54 : decode cX11_unify 54 = .ok (.iload_n 2, 1) := by decide +kernel
theorem dX11_unify_55 : decode cX11_unify 55 = .ok (.invokevirtual 172, 3) := by decide +kernel
theorem dX11_unify_58 : decode cX11_unify 58 = .ok (.ireturn, 1) := by decide +kernel
theorem dX11_boundCount_0 : decode cX11_boundCount 0 = .ok (.aload_n 0, 1) := by decide +kernel
theorem dX11_boundCount_1 : decode cX11_boundCount 1 = .ok (.getfield 35, 3) := by decide +kernel
theorem dX11_boundCount_4 : decode cX11_boundCount 4 = .ok (.invokevirtual 175, 3) := by decide +kernel
theorem dX11_boundCount_7 : decode cX11_boundCount 7 = .ok (.ireturn, 1) := by decide +kernel
theorem dX11_unbindAll_0 : decode cX11_unbindAll 0 = .ok (.aload_n 0, 1) := by decide +kernel
theorem dX11_unbindAll_1 : decode cX11_unbindAll 1 = .ok (.getfield 35, 3) := by decide +kernel
theorem dX11_unbindAll_4 : decode cX11_unbindAll 4 = .ok (.invokevirtual 175, 3) := by decide +kernel
theorem dX11_unbindAll_7 : decode cX11_unbindAll 7 = .ok (.istore_n 1, 1) := by decide +kernel
theorem dX11_unbindAll_8 : decode cX11_unbindAll 8 = .ok (.aload_n 0, 1) := by decide +kernel
theorem dX11_unbindAll_9 : decode cX11_unbindAll 9 = .ok (.getfield 35, 3) := by decide +kernel
theorem dX11_unbindAll_12 : decode cX11_unbindAll 12 = .ok (.getfield 158, 3) := by decide +kernel
theorem dX11_unbindAll_15 : decode cX11_unbindAll 15 = .ok (.iconst (-1), 1) := by decide +kernel
theorem dX11_unbindAll_16 : decode cX11_unbindAll 16 = .ok (.invokestatic 179, 3) := by decide +kernel
theorem dX11_unbindAll_19 : decode cX11_unbindAll 19 = .ok (.iload_n 1, 1) := by decide +kernel
theorem dX11_unbindAll_20 : decode cX11_unbindAll 20 = .ok (.ireturn, 1) := by decide +kernel
theorem dX11_push_0 : decode cX11_push 0 = .ok (.aload_n 0, 1) := by decide +kernel
theorem dX11_push_1 : decode cX11_push 1 = .ok (.getfield 69, 3) := by decide +kernel
theorem dX11_push_4 : decode cX11_push 4 = .ok (.getfield 185, 3) := by decide +kernel
theorem dX11_push_7 : decode cX11_push 7 = .ok (.bipush 8, 2) := by decide +kernel
theorem dX11_push_9 : decode cX11_push 9 = .ok (.if_icmp .lt 6, 3) := by decide +kernel
theorem dX11_push_12 : decode cX11_push 12 = .ok (.bipush (-6), 2) := by decide +kernel
theorem dX11_push_14 : decode cX11_push 14 = .ok (.ireturn, 1) := by decide +kernel
theorem dX11_push_15 : decode cX11_push 15 = .ok (.aload_n 0, 1) := by decide +kernel
theorem dX11_push_16 : decode cX11_push 16 = .ok (.getfield 69, 3) := by decide +kernel
theorem dX11_push_19 : decode cX11_push 19 = .ok (.aload_n 0, 1) := by decide +kernel
theorem dX11_push_20 : decode cX11_push 20 = .ok (.getfield 35, 3) := by decide +kernel
theorem dX11_push_23 : decode cX11_push 23 = .ok (.getfield 158, 3) := by decide +kernel
theorem dX11_push_26 : decode cX11_push 26 = .ok (.invokevirtual 186, 3) := by decide +kernel
theorem dX11_push_29 : decode cX11_push 29 = .ok (.aload_n 0, 1) := by decide +kernel
theorem dX11_push_30 : decode cX11_push 30 = .ok (.getfield 69, 3) := by decide +kernel
theorem dX11_push_33 : decode cX11_push 33 = .ok (.getfield 185, 3) := by decide +kernel
theorem dX11_push_36 : decode cX11_push 36 = .ok (.ireturn, 1) := by decide +kernel
theorem dX11_pop_0 : decode cX11_pop 0 = .ok (.aload_n 0, 1) := by decide +kernel
theorem dX11_pop_1 : decode cX11_pop 1 = .ok (.getfield 69, 3) := by decide +kernel
theorem dX11_pop_4 : decode cX11_pop 4 = .ok (.getfield 185, 3) := by decide +kernel
theorem dX11_pop_7 : decode cX11_pop 7 = .ok (.ifCond .gt 6, 3) := by decide +kernel
theorem dX11_pop_10 : decode cX11_pop 10 = .ok (.bipush (-12), 2) := by decide +kernel
theorem dX11_pop_12 : decode cX11_pop 12 = .ok (.ireturn, 1) := by decide +kernel
theorem dX11_pop_13 : decode cX11_pop 13 = .ok (.aload_n 0, 1) := by decide +kernel
theorem dX11_pop_14 : decode cX11_pop 14 = .ok (.getfield 69, 3) := by decide +kernel
theorem dX11_pop_17 : decode cX11_pop 17 = .ok (.aload_n 0, 1) := by decide +kernel
theorem dX11_pop_18 : decode cX11_pop 18 = .ok (.getfield 35, 3) := by decide +kernel
theorem dX11_pop_21 : decode cX11_pop 21 = .ok (.getfield 158, 3) := by decide +kernel
theorem dX11_pop_24 : decode cX11_pop 24 = .ok (.invokevirtual 190, 3) := by decide +kernel
theorem dX11_pop_27 : decode cX11_pop 27 = .ok (.aload_n 0, 1) := by decide +kernel
theorem dX11_pop_28 : decode cX11_pop 28 = .ok (.getfield 69, 3) := by decide +kernel
theorem dX11_pop_31 : decode cX11_pop 31 = .ok (.getfield 185, 3) := by decide +kernel
theorem dX11_pop_34 : decode cX11_pop 34 = .ok (.ireturn, 1) := by decide +kernel
theorem dX11_addRow_0 : decode cX11_addRow 0 = .ok (.aload_n 0, 1) := by decide +kernel
theorem dX11_addRow_1 : decode cX11_addRow 1 = .ok (.getfield 35, 3) := by decide +kernel
theorem dX11_addRow_4 : decode cX11_addRow 4 = .ok (.iload_n 1, 1) := by decide +kernel
theorem dX11_addRow_5 : decode cX11_addRow 5 = .ok (.invokevirtual 133, 3) := by decide +kernel
theorem dX11_addRow_8 : decode cX11_addRow 8 = .ok (.ifCond .ne 6, 3) := by decide +kernel
theorem dX11_addRow_11 : decode cX11_addRow 11 = .ok (.bipush (-3), 2) := by decide +kernel
theorem dX11_addRow_13 : decode cX11_addRow 13 = .ok (.ireturn, 1) := by decide +kernel
theorem dX11_addRow_14 : decode cX11_addRow 14 = .ok (.aload_n 0, 1) := by decide +kernel
theorem dX11_addRow_15 : decode cX11_addRow 15 = .ok (.getfield 76, 3) := by decide +kernel
theorem dX11_addRow_18 : decode cX11_addRow 18 = .ok (.getfield 193, 3) := by decide +kernel
theorem dX11_addRow_21 : decode cX11_addRow 21 = .ok (.ifCond .le 25, 3) := by decide +kernel
theorem dX11_addRow_24 : decode cX11_addRow 24 = .ok (.aload_n 0, 1) := by decide +kernel
theorem dX11_addRow_25 : decode cX11_addRow 25 = .ok (.getfield 35, 3) := by decide +kernel
theorem dX11_addRow_28 : decode cX11_addRow 28 = .ok (.getfield 136, 3) := by decide +kernel
theorem dX11_addRow_31 : decode cX11_addRow 31 = .ok (.iload_n 1, 1) := by decide +kernel
theorem dX11_addRow_32 : decode cX11_addRow 32 = .ok (.iaload, 1) := by decide +kernel
theorem dX11_addRow_33 : decode cX11_addRow 33 = .ok (.aload_n 0, 1) := by decide +kernel
theorem dX11_addRow_34 : decode cX11_addRow 34 = .ok (.getfield 76, 3) := by decide +kernel
theorem dX11_addRow_37 : decode cX11_addRow 37 = .ok (.invokevirtual 194, 3) := by decide +kernel
theorem dX11_addRow_40 : decode cX11_addRow 40 = .ok (.if_icmp .eq 6, 3) := by decide +kernel
theorem dX11_addRow_43 : decode cX11_addRow 43 = .ok (.bipush (-5), 2) := by decide +kernel
theorem dX11_addRow_45 : decode cX11_addRow 45 = .ok (.ireturn, 1) := by decide +kernel
theorem dX11_addRow_46 : decode cX11_addRow 46 = .ok (.aload_n 0, 1) := by decide +kernel
theorem dX11_addRow_47 : decode cX11_addRow 47 = .ok (.getfield 76, 3) := by decide +kernel
theorem dX11_addRow_50 : decode cX11_addRow 50 = .ok (.getfield 193, 3) := by decide +kernel
theorem dX11_addRow_53 : decode cX11_addRow 53 = .ok (.bipush 8, 2) := by decide +kernel
theorem dX11_addRow_55 : decode cX11_addRow 55 = .ok (.if_icmp .lt 6, 3) := by decide +kernel
theorem dX11_addRow_58 : decode cX11_addRow 58 = .ok (.bipush (-6), 2) := by decide +kernel
theorem dX11_addRow_60 : decode cX11_addRow 60 = .ok (.ireturn, 1) := by decide +kernel
theorem dX11_addRow_61 : decode cX11_addRow 61 = .ok (.aload_n 0, 1) := by decide +kernel
theorem dX11_addRow_62 : decode cX11_addRow 62 = .ok (.getfield 76, 3) := by decide +kernel
theorem dX11_addRow_65 : decode cX11_addRow 65 = .ok (.iload_n 1, 1) := by decide +kernel
theorem dX11_addRow_66 : decode cX11_addRow 66 = .ok (.invokevirtual 197, 3) := by decide +kernel
theorem dX11_addRow_69 : decode cX11_addRow 69 = .ok (.ireturn, 1) := by decide +kernel
theorem dX11_clearRows_0 : decode cX11_clearRows 0 = .ok (.aload_n 0, 1) := by decide +kernel
theorem dX11_clearRows_1 : decode cX11_clearRows 1 = .ok (.getfield 76, 3) := by decide +kernel
theorem dX11_clearRows_4 : decode cX11_clearRows 4 = .ok (.getfield 193, 3) := by decide +kernel
theorem dX11_clearRows_7 : decode cX11_clearRows 7 = .ok (.istore_n 1, 1) := by decide +kernel
theorem dX11_clearRows_8 : decode cX11_clearRows 8 = .ok (.aload_n 0, 1) := by decide +kernel
theorem dX11_clearRows_9 : decode cX11_clearRows 9 = .ok (.getfield 76, 3) := by decide +kernel
theorem dX11_clearRows_12 : decode cX11_clearRows 12 = .ok (.iconst 0, 1) := by decide +kernel
theorem dX11_clearRows_13 : decode cX11_clearRows 13 = .ok (.putfield 193, 3) := by decide +kernel
theorem dX11_clearRows_16 : decode cX11_clearRows 16 = .ok (.iload_n 1, 1) := by decide +kernel
theorem dX11_clearRows_17 : decode cX11_clearRows 17 = .ok (.ireturn, 1) := by decide +kernel
theorem dX11_firstMatch_0 : decode cX11_firstMatch 0 = .ok (.aload_n 0, 1) := by decide +kernel
theorem dX11_firstMatch_1 : decode cX11_firstMatch 1 = .ok (.getfield 35, 3) := by decide +kernel
theorem dX11_firstMatch_4 : decode cX11_firstMatch 4 = .ok (.iload_n 1, 1) := by decide +kernel
theorem dX11_firstMatch_5 : decode cX11_firstMatch 5 = .ok (.invokevirtual 133, 3) := by decide +kernel
theorem dX11_firstMatch_8 : decode cX11_firstMatch 8 = .ok (.ifCond .ne 6, 3) := by decide +kernel
theorem dX11_firstMatch_11 : decode cX11_firstMatch 11 = .ok (.bipush (-3), 2) := by decide +kernel
theorem dX11_firstMatch_13 : decode cX11_firstMatch 13 = .ok (.ireturn, 1) := by decide +kernel
theorem dX11_firstMatch_14 : decode cX11_firstMatch 14 = .ok (.aload_n 0, 1) := by decide +kernel
theorem dX11_firstMatch_15 : decode cX11_firstMatch 15 = .ok (.getfield 76, 3) := by decide +kernel
theorem dX11_firstMatch_18 : decode cX11_firstMatch 18 = .ok (.getfield 193, 3) := by decide +kernel
theorem dX11_firstMatch_21 : decode cX11_firstMatch 21 = .ok (.ifCond .ne 6, 3) := by decide +kernel
theorem dX11_firstMatch_24 : decode cX11_firstMatch 24 = .ok (.bipush (-11), 2) := by decide +kernel
theorem dX11_firstMatch_26 : decode cX11_firstMatch 26 = .ok (.ireturn, 1) := by decide +kernel
theorem dX11_firstMatch_27 : decode cX11_firstMatch 27 = .ok (.aload_n 0, 1) := by decide +kernel
theorem dX11_firstMatch_28 : decode cX11_firstMatch 28 = .ok (.getfield 35, 3) := by decide +kernel
theorem dX11_firstMatch_31 : decode cX11_firstMatch 31 = .ok (.getfield 136, 3) := by decide +kernel
theorem dX11_firstMatch_34 : decode cX11_firstMatch 34 = .ok (.iload_n 1, 1) := by decide +kernel
theorem dX11_firstMatch_35 : decode cX11_firstMatch 35 = .ok (.iaload, 1) := by decide +kernel
theorem dX11_firstMatch_36 : decode cX11_firstMatch 36 = .ok (.aload_n 0, 1) := by decide +kernel
theorem dX11_firstMatch_37 : decode cX11_firstMatch 37 = .ok (.getfield 76, 3) := by decide +kernel
theorem dX11_firstMatch_40 : decode cX11_firstMatch 40 = .ok (.invokevirtual 194, 3) := by decide +kernel
theorem dX11_firstMatch_43 : decode cX11_firstMatch 43 = .ok (.if_icmp .eq 6, 3) := by decide +kernel
theorem dX11_firstMatch_46 : decode cX11_firstMatch 46 = .ok (.bipush (-5), 2) := by decide +kernel
theorem dX11_firstMatch_48 : decode cX11_firstMatch 48 = .ok (.ireturn, 1) := by decide +kernel
theorem dX11_firstMatch_49 : decode cX11_firstMatch 49 = .ok (.aload_n 0, 1) := by decide +kernel
theorem dX11_firstMatch_50 : decode cX11_firstMatch 50 = .ok (.getfield 53, 3) := by decide +kernel
theorem dX11_firstMatch_53 : decode cX11_firstMatch 53 = .ok (.iload_n 1, 1) := by decide +kernel
theorem dX11_firstMatch_54 : decode cX11_firstMatch 54 = .ok (.invokevirtual 161, 3) := by decide +kernel
theorem dX11_firstMatch_57 : decode cX11_firstMatch 57 = .ok (.istore_n 2, 1) := by decide +kernel
theorem dX11_firstMatch_58 : decode cX11_firstMatch 58 = .ok (.iload_n 2, 1) := by decide +kernel
theorem dX11_firstMatch_59 : decode cX11_firstMatch 59 = .ok (.bipush (-9), 2) := by decide +kernel
theorem dX11_firstMatch_61 : decode cX11_firstMatch 61 = .ok (.if_icmp .ne 6, 3) := by decide +kernel
theorem dX11_firstMatch_64 : decode cX11_firstMatch 64 = .ok (.bipush (-9), 2) := by decide +kernel
theorem dX11_firstMatch_66 : decode cX11_firstMatch 66 = .ok (.ireturn, 1) := by decide +kernel
theorem dX11_firstMatch_67 : decode cX11_firstMatch 67 = .ok (.iload_n 2, 1) := by decide +kernel
theorem dX11_firstMatch_68 : decode cX11_firstMatch 68 = .ok (.bipush 60, 2) := by decide +kernel
theorem dX11_firstMatch_70 : decode cX11_firstMatch 70 = .ok (.if_icmp .le 6, 3) := by decide +kernel
theorem dX11_firstMatch_73 : decode cX11_firstMatch 73 = .ok (.bipush (-10), 2) := by decide +kernel
theorem dX11_firstMatch_75 : decode cX11_firstMatch 75 = .ok (.ireturn, 1) := by decide +kernel
theorem dX11_firstMatch_76 : decode cX11_firstMatch 76 = .ok (.aload_n 0, 1) := by decide +kernel
theorem dX11_firstMatch_77 : decode cX11_firstMatch 77 = .ok (.getfield 76, 3) := by decide +kernel
theorem dX11_firstMatch_80 : decode cX11_firstMatch 80 = .ok (.aload_n 0, 1) := by decide +kernel
theorem dX11_firstMatch_81 : decode cX11_firstMatch 81 = .ok (.getfield 53, 3) := by decide +kernel
theorem dX11_firstMatch_84 : decode cX11_firstMatch 84 = .ok (.aload_n 0, 1) := by decide +kernel
theorem dX11_firstMatch_85 : decode cX11_firstMatch 85 = .ok (.getfield 53, 3) := by decide +kernel
theorem dX11_firstMatch_88 : decode cX11_firstMatch 88 = .ok (.iload_n 1, 1) := by decide +kernel
theorem dX11_firstMatch_89 : decode cX11_firstMatch 89 = .ok (.invokevirtual 200, 3) := by decide +kernel
theorem dX11_firstMatch_92 : decode cX11_firstMatch 92 = .ok (.invokevirtual 203, 3) := by decide +kernel
theorem dX11_firstMatch_95 : decode cX11_firstMatch 95 = .ok (.ireturn, 1) := by decide +kernel
theorem dX11_uncovered_0 : decode cX11_uncovered 0 = .ok (.aload_n 0, 1) := by decide +kernel
theorem dX11_uncovered_1 : decode cX11_uncovered 1 = .ok (.getfield 76, 3) := by decide +kernel
theorem dX11_uncovered_4 : decode cX11_uncovered 4 = .ok (.getfield 193, 3) := by decide +kernel
theorem dX11_uncovered_7 : decode cX11_uncovered 7 = .ok (.ifCond .ne 6, 3) := by decide +kernel
theorem dX11_uncovered_10 : decode cX11_uncovered 10 = .ok (.bipush (-11), 2) := by decide +kernel
theorem dX11_uncovered_12 : decode cX11_uncovered 12 = .ok (.ireturn, 1) := by decide +kernel
theorem dX11_uncovered_13 : decode cX11_uncovered 13 = .ok (.aload_n 0, 1) := by decide +kernel
theorem dX11_uncovered_14 : decode cX11_uncovered 14 = .ok (.bipush (-13), 2) := by decide +kernel
theorem dX11_uncovered_16 : decode cX11_uncovered 16 = .ok (.iload_n 1, 1) := by decide +kernel
theorem dX11_uncovered_17 : decode cX11_uncovered 17 = .ok (.invokevirtual 207, 3) := by decide +kernel
theorem dX11_uncovered_20 : decode cX11_uncovered 20 = .ok (.ireturn, 1) := by decide +kernel
theorem dX11_firstUncovered_0 : decode cX11_firstUncovered 0 = .ok (.aload_n 0, 1) := by decide +kernel
theorem dX11_firstUncovered_1 : decode cX11_firstUncovered 1 = .ok (.getfield 76, 3) := by decide +kernel
theorem dX11_firstUncovered_4 : decode cX11_firstUncovered 4 = .ok (.getfield 193, 3) := by decide +kernel
theorem dX11_firstUncovered_7 : decode cX11_firstUncovered 7 = .ok (.ifCond .ne 6, 3) := by decide +kernel
theorem dX11_firstUncovered_10 : decode cX11_firstUncovered 10 = .ok (.bipush (-11), 2) := by decide +kernel
theorem dX11_firstUncovered_12 : decode cX11_firstUncovered 12 = .ok (.ireturn, 1) := by decide +kernel
theorem dX11_firstUncovered_13 : decode cX11_firstUncovered 13 = .ok (.iload_n 1, 1) := by decide +kernel
theorem dX11_firstUncovered_14 : decode cX11_firstUncovered 14 = .ok (.iconst 1, 1) := by decide +kernel
theorem dX11_firstUncovered_15 : decode cX11_firstUncovered 15 = .ok (.if_icmp .lt 9, 3) := by decide +kernel
theorem dX11_firstUncovered_18 : decode cX11_firstUncovered 18 = .ok (.iload_n 1, 1) := by decide +kernel
theorem dX11_firstUncovered_19 : decode cX11_firstUncovered 19 = .ok (.bipush 8, 2) := by decide +kernel
theorem dX11_firstUncovered_21 : decode cX11_firstUncovered 21 = .ok (.if_icmp .le 6, 3) := by decide +kernel
theorem dX11_firstUncovered_24 : decode cX11_firstUncovered 24 = .ok (.bipush (-4), 2) := by decide +kernel
theorem dX11_firstUncovered_26 : decode cX11_firstUncovered 26 = .ok (.ireturn, 1) := by decide +kernel
theorem dX11_firstUncovered_27 : decode cX11_firstUncovered 27 = .ok (.iconst 1, 1) := by decide +kernel
theorem dX11_firstUncovered_28 : decode cX11_firstUncovered 28 = .ok (.istore_n 2, 1) := by decide +kernel
theorem dX11_firstUncovered_29 : decode cX11_firstUncovered 29 = .ok (.iload_n 2, 1) := by decide +kernel
theorem dX11_firstUncovered_30 : decode cX11_firstUncovered 30 = .ok (.iload_n 1, 1) := by decide +kernel
theorem dX11_firstUncovered_31 : decode cX11_firstUncovered 31 = .ok (.if_icmp .gt 33, 3) := by decide +kernel
theorem dX11_firstUncovered_34 : decode cX11_firstUncovered 34 = .ok (.aload_n 0, 1) := by decide +kernel
theorem dX11_firstUncovered_35 : decode cX11_firstUncovered 35 = .ok (.getfield 28, 3) := by decide +kernel
theorem dX11_firstUncovered_38 : decode cX11_firstUncovered 38 = .ok (.aload_n 0, 1) := by decide +kernel
theorem dX11_firstUncovered_39 : decode cX11_firstUncovered 39 = .ok (.getfield 76, 3) := by decide +kernel
theorem dX11_firstUncovered_42 : decode cX11_firstUncovered 42 = .ok (.invokevirtual 194, 3) := by decide +kernel
theorem dX11_firstUncovered_45 : decode cX11_firstUncovered 45 = .ok (.iload_n 2, 1) := by decide +kernel
theorem dX11_firstUncovered_46 : decode cX11_firstUncovered 46 = .ok (.invokevirtual 119, 3) := by decide +kernel
theorem dX11_firstUncovered_49 : decode cX11_firstUncovered 49 = .ok (.sipush 2000, 3) := by decide +kernel
theorem dX11_firstUncovered_52 : decode cX11_firstUncovered 52 = .ok (.if_icmp .le 6, 3) := by decide +kernel
theorem dX11_firstUncovered_55 : decode cX11_firstUncovered 55 = .ok (.bipush (-10), 2) := by decide +kernel
theorem dX11_firstUncovered_57 : decode cX11_firstUncovered 57 = .ok (.ireturn, 1) := by decide +kernel
theorem dX11_firstUncovered_58 : decode cX11_firstUncovered 58 = .ok (.iinc 2 1, 3) := by decide +kernel
theorem dX11_firstUncovered_61 : decode cX11_firstUncovered 61 = .ok (.goto (-32), 3) := by decide +kernel
theorem dX11_firstUncovered_64 : decode cX11_firstUncovered 64 = .ok (.iconst 1, 1) := by decide +kernel
theorem dX11_firstUncovered_65 : decode cX11_firstUncovered 65 = .ok (.istore_n 2, 1) := by decide +kernel
theorem dX11_firstUncovered_66 : decode cX11_firstUncovered 66 = .ok (.iload_n 2, 1) := by decide +kernel
theorem dX11_firstUncovered_67 : decode cX11_firstUncovered 67 = .ok (.iload_n 1, 1) := by decide +kernel
theorem dX11_firstUncovered_68 : decode cX11_firstUncovered 68 = .ok (.if_icmp .gt 29, 3) := by decide +kernel
theorem dX11_firstUncovered_71 : decode cX11_firstUncovered 71 = .ok (.aload_n 0, 1) := by decide +kernel
theorem dX11_firstUncovered_72 : decode cX11_firstUncovered 72 = .ok (.iload_n 2, 1) := by decide +kernel
theorem dX11_firstUncovered_73 : decode cX11_firstUncovered 73 = .ok (.invokevirtual 210, 3) := by decide +kernel
theorem dX11_firstUncovered_76 : decode cX11_firstUncovered 76 = .ok (.istore_n 3, 1) := by decide +kernel
theorem dX11_firstUncovered_77 : decode cX11_firstUncovered 77 = .ok (.iload_n 3, 1) := by decide +kernel
theorem dX11_firstUncovered_78 : decode cX11_firstUncovered 78 = .ok (.bipush (-13), 2) := by decide +kernel
theorem dX11_firstUncovered_80 : decode cX11_firstUncovered 80 = .ok (.if_icmp .eq 11, 3) := by decide +kernel
theorem dX11_firstUncovered_83 : decode cX11_firstUncovered 83 = .ok (.sipush 10000, 3) := by decide +kernel
theorem dX11_firstUncovered_86 : decode cX11_firstUncovered 86 = .ok (.iload_n 2, 1) := by decide +kernel
theorem dX11_firstUncovered_87 : decode cX11_firstUncovered 87 = .ok (.imul, 1) := by decide +kernel
theorem dX11_firstUncovered_88 : decode cX11_firstUncovered 88 = .ok (.iload_n 3, 1) := by decide +kernel
theorem dX11_firstUncovered_89 : decode cX11_firstUncovered 89 = .ok (.iadd, 1) := by decide +kernel
theorem dX11_firstUncovered_90 : decode cX11_firstUncovered 90 = .ok (.ireturn, 1) := by decide +kernel
theorem dX11_firstUncovered_91 : decode cX11_firstUncovered 91 = .ok (.iinc 2 1, 3) := by decide +kernel
theorem dX11_firstUncovered_94 : decode cX11_firstUncovered 94 = .ok (.goto (-28), 3) := by decide +kernel
theorem dX11_firstUncovered_97 : decode cX11_firstUncovered 97 = .ok (.bipush (-13), 2) := by decide +kernel
theorem dX11_firstUncovered_99 : decode cX11_firstUncovered 99 = .ok (.ireturn, 1) := by decide +kernel
theorem dX11_coveredBy_0 : decode cX11_coveredBy 0 = .ok (.aload_n 0, 1) := by decide +kernel
theorem dX11_coveredBy_1 : decode cX11_coveredBy 1 = .ok (.getfield 76, 3) := by decide +kernel
theorem dX11_coveredBy_4 : decode cX11_coveredBy 4 = .ok (.getfield 193, 3) := by decide +kernel
theorem dX11_coveredBy_7 : decode cX11_coveredBy 7 = .ok (.ifCond .ne 6, 3) := by decide +kernel
theorem dX11_coveredBy_10 : decode cX11_coveredBy 10 = .ok (.bipush (-11), 2) := by decide +kernel
theorem dX11_coveredBy_12 : decode cX11_coveredBy 12 = .ok (.ireturn, 1) := by decide +kernel
theorem dX11_coveredBy_13 : decode cX11_coveredBy 13 = .ok (.iload_n 1, 1) := by decide +kernel
theorem dX11_coveredBy_14 : decode cX11_coveredBy 14 = .ok (.ifCond .lt 14, 3) := by decide +kernel
theorem dX11_coveredBy_17 : decode cX11_coveredBy 17 = .ok (.iload_n 1, 1) := by decide +kernel
theorem dX11_coveredBy_18 : decode cX11_coveredBy 18 = .ok (.aload_n 0, 1) := by decide +kernel
theorem dX11_coveredBy_19 : decode cX11_coveredBy 19 = .ok (.getfield 76, 3) := by decide +kernel
theorem dX11_coveredBy_22 : decode cX11_coveredBy 22 = .ok (.getfield 193, 3) := by decide +kernel
theorem dX11_coveredBy_25 : decode cX11_coveredBy 25 = .ok (.if_icmp .lt 6, 3) := by decide +kernel
theorem dX11_coveredBy_28 : decode cX11_coveredBy 28 = .ok (.bipush (-4), 2) := by decide +kernel
theorem dX11_coveredBy_30 : decode cX11_coveredBy 30 = .ok (.ireturn, 1) := by decide +kernel
theorem dX11_coveredBy_31 : decode cX11_coveredBy 31 = .ok (.aload_n 0, 1) := by decide +kernel
theorem dX11_coveredBy_32 : decode cX11_coveredBy 32 = .ok (.iload_n 1, 1) := by decide +kernel
theorem dX11_coveredBy_33 : decode cX11_coveredBy 33 = .ok (.iload_n 2, 1) := by decide +kernel
theorem dX11_coveredBy_34 : decode cX11_coveredBy 34 = .ok (.invokevirtual 207, 3) := by decide +kernel
theorem dX11_coveredBy_37 : decode cX11_coveredBy 37 = .ok (.ireturn, 1) := by decide +kernel
theorem dX11_countFirstFitting_0 : decode cX11_countFirstFitting 0 = .ok (.iload_n 2, 1) := by decide +kernel
theorem dX11_countFirstFitting_1 : decode cX11_countFirstFitting 1 = .ok (.iconst 1, 1) := by decide +kernel
theorem dX11_countFirstFitting_2 : decode cX11_countFirstFitting 2 = .ok (.if_icmp .lt 9, 3) := by decide +kernel
theorem dX11_countFirstFitting_5 : decode cX11_countFirstFitting 5 = .ok (.iload_n 2, 1) := by decide +kernel
theorem dX11_countFirstFitting_6 : decode cX11_countFirstFitting 6 = .ok (.bipush 8, 2) := by decide +kernel
theorem dX11_countFirstFitting_8 : decode cX11_countFirstFitting 8 = .ok (.if_icmp .le 6, 3) := by decide +kernel
theorem dX11_countFirstFitting_11 : decode cX11_countFirstFitting 11 = .ok (.bipush (-4), 2) := by decide +kernel
theorem dX11_countFirstFitting_13 : decode cX11_countFirstFitting 13 = .ok (.ireturn, 1) := by decide +kernel
theorem dX11_countFirstFitting_14 : decode cX11_countFirstFitting 14 = .ok (.aload_n 0, 1) := by decide +kernel
theorem dX11_countFirstFitting_15 : decode cX11_countFirstFitting 15 = .ok (.getfield 28, 3) := by decide +kernel
theorem dX11_countFirstFitting_18 : decode cX11_countFirstFitting 18 = .ok (.aload_n 0, 1) := by decide +kernel
theorem dX11_countFirstFitting_19 : decode cX11_countFirstFitting 19 = .ok (.getfield 76, 3) := by decide +kernel
theorem dX11_countFirstFitting_22 : decode cX11_countFirstFitting 22 = .ok (.invokevirtual 194, 3) := by decide +kernel
theorem dX11_countFirstFitting_25 : decode cX11_countFirstFitting 25 = .ok (.iload_n 2, 1) := by decide +kernel
theorem dX11_countFirstFitting_26 : decode cX11_countFirstFitting 26 = .ok (.invokevirtual 119, 3) := by decide +kernel
theorem dX11_countFirstFitting_29 : decode cX11_countFirstFitting 29 = .ok (.istore_n 3, 1) := by decide +kernel
theorem dX11_countFirstFitting_30 : decode cX11_countFirstFitting 30 = .ok (.iload_n 3, 1) := by decide +kernel
theorem dX11_countFirstFitting_31 : decode cX11_countFirstFitting 31 = .ok (.sipush 2000, 3) := by decide +kernel
theorem dX11_countFirstFitting_34 : decode cX11_countFirstFitting 34 = .ok (.if_icmp .le 6, 3) := by decide +kernel
theorem dX11_countFirstFitting_37 : decode cX11_countFirstFitting 37 = .ok (.bipush (-10), 2) := by decide +kernel
theorem dX11_countFirstFitting_39 : decode cX11_countFirstFitting 39 = .ok (.ireturn, 1) := by decide +kernel
theorem dX11_countFirstFitting_40 : decode cX11_countFirstFitting 40 = .ok (.iconst 0, 1) := by decide +kernel
theorem dX11_countFirstFitting_41 : decode cX11_countFirstFitting 41 = .ok (.istore 4, 2) := by decide +kernel
theorem dX11_countFirstFitting_43 : decode cX11_countFirstFitting 43 = .ok (.iconst 0, 1) := by decide +kernel
theorem dX11_countFirstFitting_44 : decode cX11_countFirstFitting 44 = .ok (.istore 5, 2) := by decide +kernel
theorem dX11_countFirstFitting_46 : decode cX11_countFirstFitting 46 = .ok (.iload 5, 2) := by decide +kernel
theorem dX11_countFirstFitting_48 : decode cX11_countFirstFitting 48 = .ok (.iload_n 3, 1) := by decide +kernel
theorem dX11_countFirstFitting_49 : decode cX11_countFirstFitting 49 = .ok (.if_icmp .ge 33, 3) := by decide +kernel
theorem dX11_countFirstFitting_52 : decode cX11_countFirstFitting 52 = .ok (.aload_n 0, 1) := by decide +kernel
theorem dX11_countFirstFitting_53 : decode cX11_countFirstFitting 53 = .ok (.getfield 76, 3) := by decide +kernel
theorem dX11_countFirstFitting_56 : decode cX11_countFirstFitting 56 = .ok (.aload_n 0, 1) := by decide +kernel
theorem dX11_countFirstFitting_57 : decode cX11_countFirstFitting 57 = .ok (.getfield 28, 3) := by decide +kernel
theorem dX11_countFirstFitting_60 : decode cX11_countFirstFitting 60 = .ok (.iload_n 2, 1) := by decide +kernel
theorem dX11_countFirstFitting_61 : decode cX11_countFirstFitting 61 = .ok (.iload 5, 2) := by decide +kernel
theorem dX11_countFirstFitting_63 : decode cX11_countFirstFitting 63 = .ok (.invokestatic 213, 3) := by decide +kernel
theorem dX11_countFirstFitting_66 : decode cX11_countFirstFitting 66 = .ok (.invokevirtual 203, 3) := by decide +kernel
theorem dX11_countFirstFitting_69 : decode cX11_countFirstFitting 69 = .ok (.iload_n 1, 1) := by decide +kernel
theorem dX11_countFirstFitting_70 : decode cX11_countFirstFitting 70 = .ok (.if_icmp .ne 6, 3) := by decide +kernel
theorem dX11_countFirstFitting_73 : decode cX11_countFirstFitting 73 = .ok (.iinc 4 1, 3) := by decide +kernel
theorem dX11_countFirstFitting_76 : decode cX11_countFirstFitting 76 = .ok (.iinc 5 1, 3) := by decide +kernel
theorem dX11_countFirstFitting_79 : decode cX11_countFirstFitting 79 = .ok (.goto (-33), 3) := by decide +kernel
theorem dX11_countFirstFitting_82 : decode cX11_countFirstFitting 82 = .ok (.iload 4, 2) := by decide +kernel
theorem dX11_countFirstFitting_84 : decode cX11_countFirstFitting 84 = .ok (.ireturn, 1) := by decide +kernel
theorem dX11_firstIndexUncovered_0 : decode cX11_firstIndexUncovered 0 = .ok (.aload_n 0, 1) := by decide +kernel
theorem dX11_firstIndexUncovered_1 : decode cX11_firstIndexUncovered 1 = .ok (.getfield 28, 3) := by decide +kernel
theorem dX11_firstIndexUncovered_4 : decode cX11_firstIndexUncovered 4 = .ok (.aload_n 0, 1) := by decide +kernel
theorem dX11_firstIndexUncovered_5 : decode cX11_firstIndexUncovered 5 = .ok (.getfield 76, 3) := by decide +kernel
theorem dX11_firstIndexUncovered_8 : decode cX11_firstIndexUncovered 8 = .ok (.invokevirtual 194, 3) := by decide +kernel
theorem dX11_firstIndexUncovered_11 : decode cX11_firstIndexUncovered 11 = .ok (.iload_n 1, 1) := by decide +kernel
theorem dX11_firstIndexUncovered_12 : decode cX11_firstIndexUncovered 12 = .ok (.invokevirtual 119, 3) := by decide +kernel
theorem dX11_firstIndexUncovered_15 : decode cX11_firstIndexUncovered 15 = .ok (.istore_n 2, 1) := by decide +kernel
theorem dX11_firstIndexUncovered_16 : decode cX11_firstIndexUncovered 16 = .ok (.iconst 0, 1) := by decide +kernel
theorem dX11_firstIndexUncovered_17 : decode cX11_firstIndexUncovered 17 = .ok (.istore_n 3, 1) := by decide +kernel
theorem dX11_firstIndexUncovered_18 : decode cX11_firstIndexUncovered 18 = .ok (.iload_n 3, 1) := by decide +kernel
theorem dX11_firstIndexUncovered_19 : decode cX11_firstIndexUncovered 19 = .ok (.iload_n 2, 1) := by decide +kernel
theorem dX11_firstIndexUncovered_20 : decode cX11_firstIndexUncovered 20 = .ok (.if_icmp .ge 32, 3) := by decide +kernel
theorem dX11_firstIndexUncovered_23 : decode cX11_firstIndexUncovered 23 = .ok (.aload_n 0, 1) := by decide +kernel
theorem dX11_firstIndexUncovered_24 : decode cX11_firstIndexUncovered 24 = .ok (.getfield 76, 3) := by decide +kernel
theorem dX11_firstIndexUncovered_27 : decode cX11_firstIndexUncovered 27 = .ok (.aload_n 0, 1) := by decide +kernel
theorem dX11_firstIndexUncovered_28 : decode cX11_firstIndexUncovered 28 = .ok (.getfield 28, 3) := by decide +kernel
theorem dX11_firstIndexUncovered_31 : decode cX11_firstIndexUncovered 31 = .ok (.iload_n 1, 1) := by decide +kernel
theorem dX11_firstIndexUncovered_32 : decode cX11_firstIndexUncovered 32 = .ok (.iload_n 3, 1) := by decide +kernel
theorem dX11_firstIndexUncovered_33 : decode cX11_firstIndexUncovered 33 = .ok (.invokestatic 213, 3) := by decide +kernel
theorem dX11_firstIndexUncovered_36 : decode cX11_firstIndexUncovered 36 = .ok (.invokevirtual 203, 3) := by decide +kernel
theorem dX11_firstIndexUncovered_39 : decode cX11_firstIndexUncovered 39 = .ok (.bipush (-13), 2) := by decide +kernel
theorem dX11_firstIndexUncovered_41 : decode cX11_firstIndexUncovered 41 = .ok (.if_icmp .ne 5, 3) := by decide +kernel
theorem dX11_firstIndexUncovered_44 : decode cX11_firstIndexUncovered 44 = .ok (.iload_n 3, 1) := by decide +kernel
theorem dX11_firstIndexUncovered_45 : decode cX11_firstIndexUncovered 45 = .ok (.ireturn, 1) := by decide +kernel
theorem dX11_firstIndexUncovered_46 : decode cX11_firstIndexUncovered 46 = .ok (.iinc 3 1, 3) := by decide +kernel
theorem dX11_firstIndexUncovered_49 : decode cX11_firstIndexUncovered 49 = .ok (.goto (-31), 3) := by decide +kernel
theorem dX11_firstIndexUncovered_52 : decode cX11_firstIndexUncovered 52 = .ok (.bipush (-13), 2) := by decide +kernel
theorem dX11_firstIndexUncovered_54 : decode cX11_firstIndexUncovered 54 = .ok (.ireturn, 1) := by decide +kernel
theorem dX11_limitedSum_0 : decode cX11_limitedSum 0 = .ok (.iload_n 0, 1) := by decide +kernel
theorem dX11_limitedSum_1 : decode cX11_limitedSum 1 = .ok (.iload_n 1, 1) := by decide +kernel
theorem dX11_limitedSum_2 : decode cX11_limitedSum 2 = .ok (.iadd, 1) := by decide +kernel
theorem dX11_limitedSum_3 : decode cX11_limitedSum 3 = .ok (.istore_n 2, 1) := by decide +kernel
theorem dX11_limitedSum_4 : decode cX11_limitedSum 4 = .ok (.iload_n 2, 1) := by decide +kernel
theorem dX11_limitedSum_5 : decode cX11_limitedSum 5 = .ok (.ldc 167, 2) := by decide +kernel
theorem dX11_limitedSum_7 : decode cX11_limitedSum 7 = .ok (.if_icmp .ge 7, 3) := by decide +kernel
theorem dX11_limitedSum_10 : decode cX11_limitedSum 10 = .ok (.iload_n 2, 1) := by decide +kernel
theorem dX11_limitedSum_11 : decode cX11_limitedSum 11 = .ok (.goto 5, 3) := by decide +kernel
theorem dX11_limitedSum_14 : decode cX11_limitedSum 14 = .ok (.ldc 167, 2) := by decide +kernel
theorem dX11_limitedSum_16 : decode cX11_limitedSum 16 = .ok (.ireturn, 1) := by decide +kernel
theorem dX11_limitedProduct_0 : decode cX11_limitedProduct 0 = .ok (.iload_n 0, 1) := by decide +kernel
theorem dX11_limitedProduct_1 : decode cX11_limitedProduct 1 = .ok (.i2l, 1) := by decide +kernel
theorem dX11_limitedProduct_2 : decode cX11_limitedProduct 2 = .ok (.iload_n 1, 1) := by decide +kernel
theorem dX11_limitedProduct_3 : decode cX11_limitedProduct 3 = .ok (.i2l, 1) := by decide +kernel
theorem dX11_limitedProduct_4 : decode cX11_limitedProduct 4 = .ok (.lmul, 1) := by decide +kernel
theorem dX11_limitedProduct_5 : decode cX11_limitedProduct 5 = .ok (.lstore_n 2, 1) := by decide +kernel
theorem dX11_limitedProduct_6 : decode cX11_limitedProduct 6 = .ok (.lload_n 2, 1) := by decide +kernel
theorem dX11_limitedProduct_7 : decode cX11_limitedProduct 7 = .ok (.ldc2_w 216, 3) := by decide +kernel
theorem dX11_limitedProduct_10 : decode cX11_limitedProduct 10 = .ok (.lcmp, 1) := by decide +kernel
theorem dX11_limitedProduct_11 : decode cX11_limitedProduct 11 = .ok (.ifCond .ge 8, 3) := by decide +kernel
theorem dX11_limitedProduct_14 : decode cX11_limitedProduct 14 = .ok (.lload_n 2, 1) := by decide +kernel
theorem dX11_limitedProduct_15 : decode cX11_limitedProduct 15 = .ok (.l2i, 1) := by decide +kernel
theorem dX11_limitedProduct_16 : decode cX11_limitedProduct 16 = .ok (.goto 5, 3) := by decide +kernel
theorem dX11_limitedProduct_19 : decode cX11_limitedProduct 19 = .ok (.ldc 167, 2) := by decide +kernel
theorem dX11_limitedProduct_21 : decode cX11_limitedProduct 21 = .ok (.ireturn, 1) := by decide +kernel
theorem dJ7_fill_d0a16_0 : decode cJ7_fill_d0a16 0 = .ok (.iconst 0, 1) := by decide +kernel
theorem dJ7_fill_d0a16_1 : decode cJ7_fill_d0a16 1 = .ok (.istore_n 3, 1) := by decide +kernel
theorem dJ7_fill_d0a16_2 : decode cJ7_fill_d0a16 2 = .ok (.aload_n 0, 1) := by decide +kernel
theorem dJ7_fill_d0a16_3 : decode cJ7_fill_d0a16 3 = .ok (.arraylength, 1) := by decide +kernel
theorem dJ7_fill_d0a16_4 : decode cJ7_fill_d0a16 4 = .ok (.istore 4, 2) := by decide +kernel
theorem dJ7_fill_d0a16_6 : decode cJ7_fill_d0a16 6 = .ok (.iload_n 3, 1) := by decide +kernel
theorem dJ7_fill_d0a16_7 : decode cJ7_fill_d0a16 7 = .ok (.iload 4, 2) := by decide +kernel
theorem dJ7_fill_d0a16_9 : decode cJ7_fill_d0a16 9 = .ok (.if_icmp .ge 13, 3) := by decide +kernel
theorem dJ7_fill_d0a16_12 : decode cJ7_fill_d0a16 12 = .ok (.aload_n 0, 1) := by decide +kernel
theorem dJ7_fill_d0a16_13 : decode cJ7_fill_d0a16 13 = .ok (.iload_n 3, 1) := by decide +kernel
theorem dJ7_fill_d0a16_14 : decode cJ7_fill_d0a16 14 = .ok (.lload_n 1, 1) := by decide +kernel
theorem dJ7_fill_d0a16_15 : decode cJ7_fill_d0a16 15 = .ok (.lastore, 1) := by decide +kernel
theorem dJ7_fill_d0a16_16 : decode cJ7_fill_d0a16 16 = .ok (.iinc 3 1, 3) := by decide +kernel
theorem dJ7_fill_d0a16_19 : decode cJ7_fill_d0a16 19 = .ok (.goto (-13), 3) := by decide +kernel
theorem dJ7_fill_d0a16_22 : decode cJ7_fill_d0a16 22 = .ok (.return_, 1) := by decide +kernel
theorem dJ7_fill_53178_0 : decode cJ7_fill_53178 0 = .ok (.iconst 0, 1) := by decide +kernel
theorem dJ7_fill_53178_1 : decode cJ7_fill_53178 1 = .ok (.istore_n 2, 1) := by decide +kernel
theorem dJ7_fill_53178_2 : decode cJ7_fill_53178 2 = .ok (.aload_n 0, 1) := by decide +kernel
theorem dJ7_fill_53178_3 : decode cJ7_fill_53178 3 = .ok (.arraylength, 1) := by decide +kernel
theorem dJ7_fill_53178_4 : decode cJ7_fill_53178 4 = .ok (.istore_n 3, 1) := by decide +kernel
theorem dJ7_fill_53178_5 : decode cJ7_fill_53178 5 = .ok (.iload_n 2, 1) := by decide +kernel
theorem dJ7_fill_53178_6 : decode cJ7_fill_53178 6 = .ok (.iload_n 3, 1) := by decide +kernel
theorem dJ7_fill_53178_7 : decode cJ7_fill_53178 7 = .ok (.if_icmp .ge 13, 3) := by decide +kernel
theorem dJ7_fill_53178_10 : decode cJ7_fill_53178 10 = .ok (.aload_n 0, 1) := by decide +kernel
theorem dJ7_fill_53178_11 : decode cJ7_fill_53178 11 = .ok (.iload_n 2, 1) := by decide +kernel
theorem dJ7_fill_53178_12 : decode cJ7_fill_53178 12 = .ok (.iload_n 1, 1) := by decide +kernel
theorem dJ7_fill_53178_13 : decode cJ7_fill_53178 13 = .ok (.iastore, 1) := by decide +kernel
theorem dJ7_fill_53178_14 : decode cJ7_fill_53178 14 = .ok (.iinc 2 1, 3) := by decide +kernel
theorem dJ7_fill_53178_17 : decode cJ7_fill_53178 17 = .ok (.goto (-12), 3) := by decide +kernel
theorem dJ7_fill_53178_20 : decode cJ7_fill_53178 20 = .ok (.return_, 1) := by decide +kernel
