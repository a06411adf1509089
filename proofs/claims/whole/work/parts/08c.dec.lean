theorem dX12_child_5 : decode cX12_child 5 = .ok (.ifCond .ne 6, 3) := by decide +kernel
theorem dX12_child_8 : decode cX12_child 8 = .ok (.bipush (-3), 2) := by decide +kernel
theorem dX12_child_10 : decode cX12_child 10 = .ok (.ireturn, 1) := by decide +kernel
theorem dX12_child_11 : decode cX12_child 11 = .ok (.aload_n 0, 1) := by decide +kernel
theorem dX12_child_12 : decode cX12_child 12 = .ok (.iload_n 1, 1) := by decide +kernel
theorem dX12_child_13 : decode cX12_child 13 = .ok (.invokevirtual 205, 3) := by decide +kernel
theorem dX12_child_16 : decode cX12_child 16 = .ok (.istore_n 3, 1) := by decide +kernel
theorem dX12_child_17 : decode cX12_child 17 = .ok (.iload_n 2, 1) := by decide +kernel
theorem dX12_child_18 : decode cX12_child 18 = .ok (.iconst 0, 1) := by decide +kernel
theorem dX12_child_19 : decode cX12_child 19 = .ok (.aload_n 0, 1) := by decide +kernel
theorem dX12_child_20 : decode cX12_child 20 = .ok (.iload_n 3, 1) := by decide +kernel
theorem dX12_child_21 : decode cX12_child 21 = .ok (.invokevirtual 208, 3) := by decide +kernel
theorem dX12_child_24 : decode cX12_child 24 = .ok (.iconst 1, 1) := by decide +kernel
theorem dX12_child_25 : decode cX12_child 25 = .ok (.isub, 1) := by decide +kernel
theorem dX12_child_26 : decode cX12_child 26 = .ok (.invokestatic 117, 3) := by decide +kernel
theorem dX12_child_29 : decode cX12_child 29 = .ok (.ifCond .eq 16, 3) := by decide +kernel
theorem dX12_child_32 : decode cX12_child 32 = .ok (.aload_n 0, 1) := by decide +kernel
theorem dX12_child_33 : decode cX12_child 33 = .ok (.getfield 25, 3) := by decide +kernel
theorem dX12_child_36 : decode cX12_child 36 = .ok (.iconst 3, 1) := by decide +kernel
theorem dX12_child_37 : decode cX12_child 37 = .ok (.iload_n 3, 1) := by decide +kernel
theorem dX12_child_38 : decode cX12_child 38 = .ok (.imul, 1) := by decide +kernel
theorem dX12_child_39 : decode cX12_child 39 = .ok (.iload_n 2, 1) := by decide +kernel
theorem dX12_child_40 : decode cX12_child 40 = .ok (.iadd, 1) := by decide +kernel
theorem dX12_child_41 : decode cX12_child 41 = .ok (.iaload, 1) := by decide +kernel
theorem dX12_child_42 : decode cX12_child 42 = .ok (.goto 5, 3) := by decide +kernel
theorem dX12_child_45 : decode cX12_child 45 = .ok (.bipush (-13), 2) := by decide +kernel
theorem dX12_child_47 : decode cX12_child 47 = .ok (.ireturn, 1) := by decide +kernel
theorem dX12_binding_0 : decode cX12_binding 0 = .ok (.aload_n 0, 1) := by decide +kernel
theorem dX12_binding_1 : decode cX12_binding 1 = .ok (.iload_n 1, 1) := by decide +kernel
theorem dX12_binding_2 : decode cX12_binding 2 = .ok (.invokevirtual 199, 3) := by decide +kernel
theorem dX12_binding_5 : decode cX12_binding 5 = .ok (.ifCond .eq 12, 3) := by decide +kernel
theorem dX12_binding_8 : decode cX12_binding 8 = .ok (.aload_n 0, 1) := by decide +kernel
theorem dX12_binding_9 : decode cX12_binding 9 = .ok (.getfield 28, 3) := by decide +kernel
theorem dX12_binding_12 : decode cX12_binding 12 = .ok (.iload_n 1, 1) := by decide +kernel
theorem dX12_binding_13 : decode cX12_binding 13 = .ok (.iaload, 1) := by decide +kernel
theorem dX12_binding_14 : decode cX12_binding 14 = .ok (.goto 5, 3) := by decide +kernel
theorem dX12_binding_17 : decode cX12_binding 17 = .ok (.bipush (-3), 2) := by decide +kernel
theorem dX12_binding_19 : decode cX12_binding 19 = .ok (.ireturn, 1) := by decide +kernel
theorem dX12_laySizes_0 : decode cX12_laySizes 0 = .ok (.iconst 0, 1) := by decide +kernel
theorem dX12_laySizes_1 : decode cX12_laySizes 1 = .ok (.istore_n 1, 1) := by decide +kernel
theorem dX12_laySizes_2 : decode cX12_laySizes 2 = .ok (.iload_n 1, 1) := by decide +kernel
theorem dX12_laySizes_3 : decode cX12_laySizes 3 = .ok (.aload_n 0, 1) := by decide +kernel
theorem dX12_laySizes_4 : decode cX12_laySizes 4 = .ok (.getfield 124, 3) := by decide +kernel
theorem dX12_laySizes_7 : decode cX12_laySizes 7 = .ok (.if_icmp .ge 16, 3) := by decide +kernel
theorem dX12_laySizes_10 : decode cX12_laySizes 10 = .ok (.aload_n 0, 1) := by decide +kernel
theorem dX12_laySizes_11 : decode cX12_laySizes 11 = .ok (.getfield 83, 3) := by decide +kernel
theorem dX12_laySizes_14 : decode cX12_laySizes 14 = .ok (.iload_n 1, 1) := by decide +kernel
theorem dX12_laySizes_15 : decode cX12_laySizes 15 = .ok (.iconst 0, 1) := by decide +kernel
theorem dX12_laySizes_16 : decode cX12_laySizes 16 = .ok (.iastore, 1) := by decide +kernel
theorem dX12_laySizes_17 : decode cX12_laySizes 17 = .ok (.iinc 1 1, 3) := by decide +kernel
theorem dX12_laySizes_20 : decode cX12_laySizes 20 = .ok (.goto (-18), 3) := by decide +kernel
theorem dX12_laySizes_23 : decode cX12_laySizes 23 = .ok (.iconst 1, 1) := by decide +kernel
theorem dX12_laySizes_24 : decode cX12_laySizes 24 = .ok (.istore_n 1, 1) := by decide +kernel
theorem dX12_laySizes_25 : decode cX12_laySizes 25 = .ok (.iload_n 1, 1) := by decide +kernel
theorem dX12_laySizes_26 : decode cX12_laySizes 26 = .ok (.ifCond .eq 67, 3) := by decide +kernel
theorem dX12_laySizes_29 : decode cX12_laySizes 29 = .ok (.iconst 0, 1) := by decide +kernel
theorem dX12_laySizes_30 : decode cX12_laySizes 30 = .ok (.istore_n 1, 1) := by decide +kernel
theorem dX12_laySizes_31 : decode cX12_laySizes 31 = .ok (.iconst 0, 1) := by decide +kernel
theorem dX12_laySizes_32 : decode cX12_laySizes 32 = .ok (.istore_n 2, 1) := by decide +kernel
theorem dX12_laySizes_33 : decode cX12_laySizes 33 = .ok (.iload_n 2, 1) := by decide +kernel
theorem dX12_laySizes_34 : decode cX12_laySizes 34 = .ok (.aload_n 0, 1) := by decide +kernel
theorem dX12_laySizes_35 : decode cX12_laySizes 35 = .ok (.getfield 124, 3) := by decide +kernel
theorem dX12_laySizes_38 : decode cX12_laySizes 38 = .ok (.if_icmp .ge 52, 3) := by decide +kernel
theorem dX12_laySizes_41 : decode cX12_laySizes 41 = .ok (.aload_n 0, 1) := by decide +kernel
theorem dX12_laySizes_42 : decode cX12_laySizes 42 = .ok (.getfield 83, 3) := by decide +kernel
theorem dX12_laySizes_45 : decode cX12_laySizes 45 = .ok (.iload_n 2, 1) := by decide +kernel
theorem dX12_laySizes_46 : decode cX12_laySizes 46 = .ok (.iaload, 1) := by decide +kernel
theorem dX12_laySizes_47 : decode cX12_laySizes 47 = .ok (.ifCond .ne 37, 3) := by decide +kernel
theorem dX12_laySizes_50 : decode cX12_laySizes 50 = .ok (.aload_n 0, 1) := by decide +kernel
theorem dX12_laySizes_51 : decode cX12_laySizes 51 = .ok (.getfield 83, 3) := by decide +kernel
theorem dX12_laySizes_54 : decode cX12_laySizes 54 = .ok (.iload_n 2, 1) := by decide +kernel
theorem dX12_laySizes_55 : decode cX12_laySizes 55 = .ok (.aload_n 0, 1) := by decide +kernel
theorem dX12_laySizes_56 : decode cX12_laySizes 56 = .ok (.aload_n 0, 1) := by decide +kernel
theorem dX12_laySizes_57 : decode cX12_laySizes 57 = .ok (.iload_n 2, 1) := by decide +kernel
theorem dX12_laySizes_58 : decode cX12_laySizes 58 = .ok (.invokevirtual 205, 3) := by decide +kernel
theorem dX12_laySizes_61 : decode cX12_laySizes 61 = .ok (.invokevirtual 211, 3) := by decide +kernel
theorem dX12_laySizes_64 : decode cX12_laySizes 64 = .ok (.iastore, 1) := by decide +kernel
theorem dX12_laySizes_65 : decode cX12_laySizes 65 = .ok (.iload_n 1, 1) := by decide +kernel
theorem dX12_laySizes_66 : decode cX12_laySizes 66 = .ok (.ifCond .ne 12, 3) := by decide +kernel
theorem dX12_laySizes_69 : decode cX12_laySizes 69 = .ok (.aload_n 0, 1) := by decide +kernel
theorem dX12_laySizes_70 : decode cX12_laySizes 70 = .ok (.getfield 83, 3) := by decide +kernel
theorem dX12_laySizes_73 : decode cX12_laySizes 73 = .ok (.iload_n 2, 1) := by decide +kernel
theorem dX12_laySizes_74 : decode cX12_laySizes 74 = .ok (.iaload, 1) := by decide +kernel
theorem dX12_laySizes_75 : decode cX12_laySizes 75 = .ok (.ifCond .eq 7, 3) := by decide +kernel
theorem dX12_laySizes_78 : decode cX12_laySizes 78 = .ok (.iconst 1, 1) := by decide +kernel
theorem dX12_laySizes_79 : decode cX12_laySizes 79 = .ok (.goto 4, 3) := by decide +kernel
theorem dX12_laySizes_82 : decode cX12_laySizes 82 = .ok (.iconst 0, 1) := by decide +kernel
theorem dX12_laySizes_83 : decode cX12_laySizes 83 = .ok (.istore_n 1, 1) := by decide +kernel
theorem dX12_laySizes_84 : decode cX12_laySizes 84 = .ok (.iinc 2 1, 3) := by decide +kernel
theorem dX12_laySizes_87 : decode cX12_laySizes 87 = .ok (.goto (-54), 3) := by decide +kernel
theorem dX12_laySizes_90 : decode cX12_laySizes 90 = .ok (.goto (-65), 3) := by decide +kernel
theorem dX12_laySizes_93 : decode cX12_laySizes 93 = .ok (.return_, 1) := by decide +kernel
theorem dX12_sizeNow_0 : decode cX12_sizeNow 0 = .ok (.aload_n 0, 1) := by decide +kernel
theorem dX12_sizeNow_1 : decode cX12_sizeNow 1 = .ok (.getfield 19, 3) := by decide +kernel
theorem dX12_sizeNow_4 : decode cX12_sizeNow 4 = .ok (.iload_n 1, 1) := by decide +kernel
theorem dX12_sizeNow_5 : decode cX12_sizeNow 5 = .ok (.iaload, 1) := by decide +kernel
theorem dX12_sizeNow_6 : decode cX12_sizeNow 6 = .ok (.ifCond .ge 5, 3) := by decide +kernel
theorem dX12_sizeNow_9 : decode cX12_sizeNow 9 = .ok (.iconst (-1), 1) := by decide +kernel
theorem dX12_sizeNow_10 : decode cX12_sizeNow 10 = .ok (.ireturn, 1) := by decide +kernel
theorem dX12_sizeNow_11 : decode cX12_sizeNow 11 = .ok (.lconst 1, 1) := by decide +kernel
theorem dX12_sizeNow_12 : decode cX12_sizeNow 12 = .ok (.lstore_n 2, 1) := by decide +kernel
theorem dX12_sizeNow_13 : decode cX12_sizeNow 13 = .ok (.iconst 1, 1) := by decide +kernel
theorem dX12_sizeNow_14 : decode cX12_sizeNow 14 = .ok (.istore 4, 2) := by decide +kernel
theorem dX12_sizeNow_16 : decode cX12_sizeNow 16 = .ok (.iconst 1, 1) := by decide +kernel
theorem dX12_sizeNow_17 : decode cX12_sizeNow 17 = .ok (.istore 5, 2) := by decide +kernel
theorem dX12_sizeNow_19 : decode cX12_sizeNow 19 = .ok (.iconst 0, 1) := by decide +kernel
theorem dX12_sizeNow_20 : decode cX12_sizeNow 20 = .ok (.istore 6, 2) := by decide +kernel
theorem dX12_sizeNow_22 : decode cX12_sizeNow 22 = .ok (.iload 6, 2) := by decide +kernel
theorem dX12_sizeNow_24 : decode cX12_sizeNow 24 = .ok (.aload_n 0, 1) := by decide +kernel
theorem dX12_sizeNow_25 : decode cX12_sizeNow 25 = .ok (.iload_n 1, 1) := by decide +kernel
theorem dX12_sizeNow_26 : decode cX12_sizeNow 26 = .ok (.invokevirtual 208, 3) := by decide +kernel
theorem dX12_sizeNow_29 : decode cX12_sizeNow 29 = .ok (.if_icmp .ge 67, 3) := by decide +kernel
theorem dX12_sizeNow_32 : decode cX12_sizeNow 32 = .ok (.aload_n 0, 1) := by decide +kernel
theorem dX12_sizeNow_33 : decode cX12_sizeNow 33 = .ok (.getfield 83, 3) := by decide +kernel
theorem dX12_sizeNow_36 : decode cX12_sizeNow 36 = .ok (.aload_n 0, 1) := by decide +kernel
theorem dX12_sizeNow_37 : decode cX12_sizeNow 37 = .ok (.getfield 25, 3) := by decide +kernel
theorem dX12_sizeNow_40 : decode cX12_sizeNow 40 = .ok (.iconst 3, 1) := by decide +kernel
theorem dX12_sizeNow_41 : decode cX12_sizeNow 41 = .ok (.iload_n 1, 1) := by decide +kernel
theorem dX12_sizeNow_42 : decode cX12_sizeNow 42 = .ok (.imul, 1) := by decide +kernel
theorem dX12_sizeNow_43 : decode cX12_sizeNow 43 = .ok (.iload 6, 2) := by decide +kernel
theorem dX12_sizeNow_45 : decode cX12_sizeNow 45 = .ok (.iadd, 1) := by decide +kernel
theorem dX12_sizeNow_46 : decode cX12_sizeNow 46 = .ok (.iaload, 1) := by decide +kernel
theorem dX12_sizeNow_47 : decode cX12_sizeNow 47 = .ok (.iaload, 1) := by decide +kernel
theorem dX12_sizeNow_48 : decode cX12_sizeNow 48 = .ok (.istore 7, 2) := by decide +kernel
theorem dX12_sizeNow_50 : decode cX12_sizeNow 50 = .ok (.iload 4, 2) := by decide +kernel
theorem dX12_sizeNow_52 : decode cX12_sizeNow 52 = .ok (.ifCond .eq 12, 3) := by decide +kernel
theorem dX12_sizeNow_55 : decode cX12_sizeNow 55 = .ok (.iload 7, 2) := by decide +kernel
theorem dX12_sizeNow_57 : decode cX12_sizeNow 57 = .ok (.ifCond .eq 7, 3) := by decide +kernel
theorem dX12_sizeNow_60 : decode cX12_sizeNow 60 = .ok (.iconst 1, 1) := by decide +kernel
theorem dX12_sizeNow_61 : decode cX12_sizeNow 61 = .ok (.goto 4, 3) := by decide +kernel
theorem dX12_sizeNow_64 : decode cX12_sizeNow 64 = .ok (.iconst 0, 1) := by decide +kernel
theorem dX12_sizeNow_65 : decode cX12_sizeNow 65 = .ok (.istore 4, 2) := by decide +kernel
theorem dX12_sizeNow_67 : decode cX12_sizeNow 67 = .ok (.iload 5, 2) := by decide +kernel
theorem dX12_sizeNow_69 : decode cX12_sizeNow 69 = .ok (.ifCond .eq 12, 3) := by decide +kernel
theorem dX12_sizeNow_72 : decode cX12_sizeNow 72 = .ok (.iload 7, 2) := by decide +kernel
theorem dX12_sizeNow_74 : decode cX12_sizeNow 74 = .ok (.ifCond .lt 7, 3) := by decide +kernel
theorem dX12_sizeNow_77 : decode cX12_sizeNow 77 = .ok (.iconst 1, 1) := by decide +kernel
theorem dX12_sizeNow_78 : decode cX12_sizeNow 78 = .ok (.goto 4, 3) := by decide +kernel
theorem dX12_sizeNow_81 : decode cX12_sizeNow 81 = .ok (.iconst 0, 1) := by decide +kernel
theorem dX12_sizeNow_82 : decode cX12_sizeNow 82 = .ok (.istore 5, 2) := by decide +kernel
theorem dX12_sizeNow_84 : decode cX12_sizeNow 84 = .ok (.lload_n 2, 1) := by decide +kernel
theorem dX12_sizeNow_85 : decode cX12_sizeNow 85 = .ok (.iload 7, 2) := by decide +kernel
theorem dX12_sizeNow_87 : decode cX12_sizeNow 87 = .ok (.i2l, 1) := by decide +kernel
theorem dX12_sizeNow_88 : decode cX12_sizeNow 88 = .ok (.ladd, 1) := by decide +kernel
theorem dX12_sizeNow_89 : decode cX12_sizeNow 89 = .ok (.lstore_n 2, 1) := by decide +kernel
theorem dX12_sizeNow_90 : decode cX12_sizeNow 90 = .ok (.iinc 6 1, 3) := by decide +kernel
theorem dX12_sizeNow_93 : decode cX12_sizeNow 93 = .ok (.goto (-71), 3) := by decide +kernel
theorem dX12_sizeNow_96 : decode cX12_sizeNow 96 = .ok (.iload 5, 2) := by decide +kernel
theorem dX12_sizeNow_98 : decode cX12_sizeNow 98 = .ok (.ifCond .ne 7, 3) := by decide +kernel
theorem dX12_sizeNow_101 : decode cX12_sizeNow 101 = .ok (.iconst (-1), 1) := by decide +kernel
theorem dX12_sizeNow_102 : decode cX12_sizeNow 102 = .ok (.goto 16, 3) := by decide +kernel
theorem dX12_sizeNow_105 : decode cX12_sizeNow 105 = .ok (.iload 4, 2) := by decide +kernel
theorem dX12_sizeNow_107 : decode cX12_sizeNow 107 = .ok (.ifCond .eq 10, 3) := by decide +kernel
theorem dX12_sizeNow_110 : decode cX12_sizeNow 110 = .ok (.lload_n 2, 1) := by decide +kernel
theorem dX12_sizeNow_111 : decode cX12_sizeNow 111 = .ok (.invokestatic 147, 3) := by decide +kernel
theorem dX12_sizeNow_114 : decode cX12_sizeNow 114 = .ok (.goto 4, 3) := by decide +kernel
theorem dX12_sizeNow_117 : decode cX12_sizeNow 117 = .ok (.iconst 0, 1) := by decide +kernel
theorem dX12_sizeNow_118 : decode cX12_sizeNow 118 = .ok (.ireturn, 1) := by decide +kernel
theorem dX12_size_0 : decode cX12_size 0 = .ok (.aload_n 0, 1) := by decide +kernel
theorem dX12_size_1 : decode cX12_size 1 = .ok (.iload_n 1, 1) := by decide +kernel
theorem dX12_size_2 : decode cX12_size 2 = .ok (.invokevirtual 199, 3) := by decide +kernel
theorem dX12_size_5 : decode cX12_size 5 = .ok (.ifCond .ne 6, 3) := by decide +kernel
theorem dX12_size_8 : decode cX12_size 8 = .ok (.bipush (-3), 2) := by decide +kernel
theorem dX12_size_10 : decode cX12_size 10 = .ok (.ireturn, 1) := by decide +kernel
theorem dX12_size_11 : decode cX12_size 11 = .ok (.aload_n 0, 1) := by decide +kernel
theorem dX12_size_12 : decode cX12_size 12 = .ok (.invokevirtual 214, 3) := by decide +kernel
theorem dX12_size_15 : decode cX12_size 15 = .ok (.aload_n 0, 1) := by decide +kernel
theorem dX12_size_16 : decode cX12_size 16 = .ok (.getfield 83, 3) := by decide +kernel
theorem dX12_size_19 : decode cX12_size 19 = .ok (.iload_n 1, 1) := by decide +kernel
theorem dX12_size_20 : decode cX12_size 20 = .ok (.iaload, 1) := by decide +kernel
theorem dX12_size_21 : decode cX12_size 21 = .ok (.ifCond .ge 8, 3) := by decide +kernel
theorem dX12_size_24 : decode cX12_size 24 = .ok (.bipush (-9), 2) := by decide +kernel
theorem dX12_size_26 : decode cX12_size 26 = .ok (.goto 9, 3) := by decide +kernel
theorem dX12_size_29 : decode cX12_size 29 = .ok (.aload_n 0, 1) := by decide +kernel
theorem dX12_size_30 : decode cX12_size 30 = .ok (.getfield 83, 3) := by decide +kernel
theorem dX12_size_33 : decode cX12_size 33 = .ok (.iload_n 1, 1) := by decide +kernel
theorem dX12_size_34 : decode cX12_size 34 = .ok (.iaload, 1) := by decide +kernel
theorem dX12_size_35 : decode cX12_size 35 = .ok (.ireturn, 1) := by decide +kernel
theorem dX12_rankNow_0 : decode cX12_rankNow 0 = .ok (.aload_n 0, 1) := by decide +kernel
theorem dX12_rankNow_1 : decode cX12_rankNow 1 = .ok (.getfield 19, 3) := by decide +kernel
theorem dX12_rankNow_4 : decode cX12_rankNow 4 = .ok (.iload_n 1, 1) := by decide +kernel
theorem dX12_rankNow_5 : decode cX12_rankNow 5 = .ok (.iaload, 1) := by decide +kernel
theorem dX12_rankNow_6 : decode cX12_rankNow 6 = .ok (.istore_n 2, 1) := by decide +kernel
theorem dX12_rankNow_7 : decode cX12_rankNow 7 = .ok (.lconst 0, 1) := by decide +kernel
theorem dX12_rankNow_8 : decode cX12_rankNow 8 = .ok (.lstore_n 3, 1) := by decide +kernel
theorem dX12_rankNow_9 : decode cX12_rankNow 9 = .ok (.iconst 0, 1) := by decide +kernel
theorem dX12_rankNow_10 : decode cX12_rankNow 10 = .ok (.istore 5, 2) := by decide +kernel
theorem dX12_rankNow_12 : decode cX12_rankNow 12 = .ok (.iload 5, 2) := by decide +kernel
theorem dX12_rankNow_14 : decode cX12_rankNow 14 = .ok (.iload_n 2, 1) := by decide +kernel
theorem dX12_rankNow_15 : decode cX12_rankNow 15 = .ok (.if_icmp .ge 56, 3) := by decide +kernel
theorem dX12_rankNow_18 : decode cX12_rankNow 18 = .ok (.lload_n 3, 1) := by decide +kernel
theorem dX12_rankNow_19 : decode cX12_rankNow 19 = .ok (.aload_n 0, 1) := by decide +kernel
theorem dX12_rankNow_20 : decode cX12_rankNow 20 = .ok (.getfield 7, 3) := by decide +kernel
theorem dX12_rankNow_23 : decode cX12_rankNow 23 = .ok (.iload 5, 2) := by decide +kernel
theorem dX12_rankNow_25 : decode cX12_rankNow 25 = .ok (.iaload, 1) := by decide +kernel
theorem dX12_rankNow_26 : decode cX12_rankNow 26 = .ok (.aload_n 0, 1) := by decide +kernel
theorem dX12_rankNow_27 : decode cX12_rankNow 27 = .ok (.getfield 7, 3) := by decide +kernel
theorem dX12_rankNow_30 : decode cX12_rankNow 30 = .ok (.iload_n 2, 1) := by decide +kernel
theorem dX12_rankNow_31 : decode cX12_rankNow 31 = .ok (.iaload, 1) := by decide +kernel
theorem dX12_rankNow_32 : decode cX12_rankNow 32 = .ok (.if_icmp .ne 25, 3) := by decide +kernel
theorem dX12_rankNow_35 : decode cX12_rankNow 35 = .ok (.aload_n 0, 1) := by decide +kernel
theorem dX12_rankNow_36 : decode cX12_rankNow 36 = .ok (.getfield 50, 3) := by decide +kernel
theorem dX12_rankNow_39 : decode cX12_rankNow 39 = .ok (.iload 5, 2) := by decide +kernel
theorem dX12_rankNow_41 : decode cX12_rankNow 41 = .ok (.iconst 0, 1) := by decide +kernel
theorem dX12_rankNow_42 : decode cX12_rankNow 42 = .ok (.aload_n 0, 1) := by decide +kernel
theorem dX12_rankNow_43 : decode cX12_rankNow 43 = .ok (.getfield 83, 3) := by decide +kernel
theorem dX12_rankNow_46 : decode cX12_rankNow 46 = .ok (.iload_n 1, 1) := by decide +kernel
theorem dX12_rankNow_47 : decode cX12_rankNow 47 = .ok (.iaload, 1) := by decide +kernel
theorem dX12_rankNow_48 : decode cX12_rankNow 48 = .ok (.iconst 1, 1) := by decide +kernel
theorem dX12_rankNow_49 : decode cX12_rankNow 49 = .ok (.isub, 1) := by decide +kernel
theorem dX12_rankNow_50 : decode cX12_rankNow 50 = .ok (.invokestatic 160, 3) := by decide +kernel
theorem dX12_rankNow_53 : decode cX12_rankNow 53 = .ok (.iaload, 1) := by decide +kernel
theorem dX12_rankNow_54 : decode cX12_rankNow 54 = .ok (.goto 4, 3) := by decide +kernel
theorem dX12_rankNow_57 : decode cX12_rankNow 57 = .ok (.iconst 0, 1) := by decide +kernel
theorem dX12_rankNow_58 : decode cX12_rankNow 58 = .ok (.i2l, 1) := by decide +kernel
theorem dX12_rankNow_59 : decode cX12_rankNow 59 = .ok (.ladd, 1) := by decide +kernel
theorem dX12_rankNow_60 : decode cX12_rankNow 60 = .ok (.invokestatic 147, 3) := by decide +kernel
theorem dX12_rankNow_63 : decode cX12_rankNow 63 = .ok (.i2l, 1) := by decide +kernel
theorem dX12_rankNow_64 : decode cX12_rankNow 64 = .ok (.lstore_n 3, 1) := by decide +kernel
theorem dX12_rankNow_65 : decode cX12_rankNow 65 = .ok (.iinc 5 1, 3) := by decide +kernel
theorem dX12_rankNow_68 : decode cX12_rankNow 68 = .ok (.goto (-56), 3) := by decide +kernel
theorem dX12_rankNow_71 : decode cX12_rankNow 71 = .ok (.aload_n 0, 1) := by decide +kernel
theorem dX12_rankNow_72 : decode cX12_rankNow 72 = .ok (.getfield 83, 3) := by decide +kernel
theorem dX12_rankNow_75 : decode cX12_rankNow 75 = .ok (.iload_n 1, 1) := by decide +kernel
theorem dX12_rankNow_76 : decode cX12_rankNow 76 = .ok (.iaload, 1) := by decide +kernel
theorem dX12_rankNow_77 : decode cX12_rankNow 77 = .ok (.iconst 1, 1) := by decide +kernel
theorem dX12_rankNow_78 : decode cX12_rankNow 78 = .ok (.isub, 1) := by decide +kernel
theorem dX12_rankNow_79 : decode cX12_rankNow 79 = .ok (.istore 5, 2) := by decide +kernel
theorem dX12_rankNow_81 : decode cX12_rankNow 81 = .ok (.iconst 0, 1) := by decide +kernel
theorem dX12_rankNow_82 : decode cX12_rankNow 82 = .ok (.istore 6, 2) := by decide +kernel
theorem dX12_rankNow_84 : decode cX12_rankNow 84 = .ok (.iload 6, 2) := by decide +kernel
theorem dX12_rankNow_86 : decode cX12_rankNow 86 = .ok (.aload_n 0, 1) := by decide +kernel
theorem dX12_rankNow_87 : decode cX12_rankNow 87 = .ok (.getfield 13, 3) := by decide +kernel
theorem dX12_rankNow_90 : decode cX12_rankNow 90 = .ok (.iload_n 2, 1) := by decide +kernel
theorem dX12_rankNow_91 : decode cX12_rankNow 91 = .ok (.iaload, 1) := by decide +kernel
theorem dX12_rankNow_92 : decode cX12_rankNow 92 = .ok (.if_icmp .ge 121, 3) := by decide +kernel
theorem dX12_rankNow_95 : decode cX12_rankNow 95 = .ok (.aload_n 0, 1) := by decide +kernel
theorem dX12_rankNow_96 : decode cX12_rankNow 96 = .ok (.getfield 25, 3) := by decide +kernel
theorem dX12_rankNow_99 : decode cX12_rankNow 99 = .ok (.iconst 3, 1) := by decide +kernel
theorem dX12_rankNow_100 : decode cX12_rankNow 100 = .ok (.iload_n 1, 1) := by decide +kernel
theorem dX12_rankNow_101 : decode cX12_rankNow 101 = .ok (.imul, 1) := by decide +kernel
theorem dX12_rankNow_102 : decode cX12_rankNow 102 = .ok (.iload 6, 2) := by decide +kernel
theorem dX12_rankNow_104 : decode cX12_rankNow 104 = .ok (.iadd, 1) := by decide +kernel
theorem dX12_rankNow_105 : decode cX12_rankNow 105 = .ok (.iaload, 1) := by decide +kernel
theorem dX12_rankNow_106 : decode cX12_rankNow 106 = .ok (.istore 7, 2) := by decide +kernel
theorem dX12_rankNow_108 : decode cX12_rankNow 108 = .ok (.aload_n 0, 1) := by decide +kernel
theorem dX12_rankNow_109 : decode cX12_rankNow 109 = .ok (.getfield 16, 3) := by decide +kernel
theorem dX12_rankNow_112 : decode cX12_rankNow 112 = .ok (.iconst 3, 1) := by decide +kernel
theorem dX12_rankNow_113 : decode cX12_rankNow 113 = .ok (.iload_n 2, 1) := by decide +kernel
theorem dX12_rankNow_114 : decode cX12_rankNow 114 = .ok (.imul, 1) := by decide +kernel
theorem dX12_rankNow_115 : decode cX12_rankNow 115 = .ok (.iload 6, 2) := by decide +kernel
theorem dX12_rankNow_117 : decode cX12_rankNow 117 = .ok (.iadd, 1) := by decide +kernel
theorem dX12_rankNow_118 : decode cX12_rankNow 118 = .ok (.iaload, 1) := by decide +kernel
theorem dX12_rankNow_119 : decode cX12_rankNow 119 = .ok (.istore 8, 2) := by decide +kernel
theorem dX12_rankNow_121 : decode cX12_rankNow 121 = .ok (.iconst 1, 1) := by decide +kernel
theorem dX12_rankNow_122 : decode cX12_rankNow 122 = .ok (.istore 9, 2) := by decide +kernel
theorem dX12_rankNow_124 : decode cX12_rankNow 124 = .ok (.iload 9, 2) := by decide +kernel
theorem dX12_rankNow_126 : decode cX12_rankNow 126 = .ok (.aload_n 0, 1) := by decide +kernel
theorem dX12_rankNow_127 : decode cX12_rankNow 127 = .ok (.getfield 83, 3) := by decide +kernel
theorem dX12_rankNow_130 : decode cX12_rankNow 130 = .ok (.iload 7, 2) := by decide +kernel
theorem dX12_rankNow_132 : decode cX12_rankNow 132 = .ok (.iaload, 1) := by decide +kernel
theorem dX12_rankNow_133 : decode cX12_rankNow 133 = .ok (.if_icmp .ge 30, 3) := by decide +kernel
theorem dX12_rankNow_136 : decode cX12_rankNow 136 = .ok (.lload_n 3, 1) := by decide +kernel
theorem dX12_rankNow_137 : decode cX12_rankNow 137 = .ok (.aload_n 0, 1) := by decide +kernel
theorem dX12_rankNow_138 : decode cX12_rankNow 138 = .ok (.iload_n 2, 1) := by decide +kernel
theorem dX12_rankNow_139 : decode cX12_rankNow 139 = .ok (.iload 6, 2) := by decide +kernel
theorem dX12_rankNow_141 : decode cX12_rankNow 141 = .ok (.iload 8, 2) := by decide +kernel
theorem dX12_rankNow_143 : decode cX12_rankNow 143 = .ok (.iload 9, 2) := by decide +kernel
theorem dX12_rankNow_145 : decode cX12_rankNow 145 = .ok (.iload 5, 2) := by decide +kernel
theorem dX12_rankNow_147 : decode cX12_rankNow 147 = .ok (.invokevirtual 175, 3) := by decide +kernel
theorem dX12_rankNow_150 : decode cX12_rankNow 150 = .ok (.i2l, 1) := by decide +kernel
theorem dX12_rankNow_151 : decode cX12_rankNow 151 = .ok (.ladd, 1) := by decide +kernel
theorem dX12_rankNow_152 : decode cX12_rankNow 152 = .ok (.invokestatic 147, 3) := by decide +kernel
theorem dX12_rankNow_155 : decode cX12_rankNow 155 = .ok (.i2l, 1) := by decide +kernel
theorem dX12_rankNow_156 : decode cX12_rankNow 156 = .ok (.lstore_n 3, 1) := by decide +kernel
theorem dX12_rankNow_157 : decode cX12_rankNow 157 = .ok (.iinc 9 1, 3) := by decide +kernel
theorem dX12_rankNow_160 : decode cX12_rankNow 160 = .ok (.goto (-36), 3) := by decide +kernel
theorem dX12_rankNow_163 : decode cX12_rankNow 163 = .ok (.iload 5, 2) := by decide +kernel
theorem dX12_rankNow_165 : decode cX12_rankNow 165 = .ok (.aload_n 0, 1) := by decide +kernel
theorem dX12_rankNow_166 : decode cX12_rankNow 166 = .ok (.getfield 83, 3) := by decide +kernel
theorem dX12_rankNow_169 : decode cX12_rankNow 169 = .ok (.iload 7, 2) := by decide +kernel
theorem dX12_rankNow_171 : decode cX12_rankNow 171 = .ok (.iaload, 1) := by decide +kernel
theorem dX12_rankNow_172 : decode cX12_rankNow 172 = .ok (.isub, 1) := by decide +kernel
theorem dX12_rankNow_173 : decode cX12_rankNow 173 = .ok (.istore 5, 2) := by decide +kernel
theorem dX12_rankNow_175 : decode cX12_rankNow 175 = .ok (.lload_n 3, 1) := by decide +kernel
theorem dX12_rankNow_176 : decode cX12_rankNow 176 = .ok (.aload_n 0, 1) := by decide +kernel
theorem dX12_rankNow_177 : decode cX12_rankNow 177 = .ok (.getfield 86, 3) := by decide +kernel
theorem dX12_rankNow_180 : decode cX12_rankNow 180 = .ok (.iload 7, 2) := by decide +kernel
theorem dX12_rankNow_182 : decode cX12_rankNow 182 = .ok (.iaload, 1) := by decide +kernel
theorem dX12_rankNow_183 : decode cX12_rankNow 183 = .ok (.i2l, 1) := by decide +kernel
theorem dX12_rankNow_184 : decode cX12_rankNow 184 = .ok (.aload_n 0, 1) := by decide +kernel
theorem dX12_rankNow_185 : decode cX12_rankNow 185 = .ok (.getfield 50, 3) := by decide +kernel
theorem dX12_rankNow_188 : decode cX12_rankNow 188 = .ok (.iload_n 2, 1) := by decide +kernel
theorem dX12_rankNow_189 : decode cX12_rankNow 189 = .ok (.iload 6, 2) := by decide +kernel
theorem dX12_rankNow_191 : decode cX12_rankNow 191 = .ok (.iconst 1, 1) := by decide +kernel
theorem dX12_rankNow_192 : decode cX12_rankNow 192 = .ok (.iadd, 1) := by decide +kernel
theorem dX12_rankNow_193 : decode cX12_rankNow 193 = .ok (.iload 5, 2) := by decide +kernel
theorem dX12_rankNow_195 : decode cX12_rankNow 195 = .ok (.invokestatic 160, 3) := by decide +kernel
theorem dX12_rankNow_198 : decode cX12_rankNow 198 = .ok (.iaload, 1) := by decide +kernel
theorem dX12_rankNow_199 : decode cX12_rankNow 199 = .ok (.i2l, 1) := by decide +kernel
theorem dX12_rankNow_200 : decode cX12_rankNow 200 = .ok (.lmul, 1) := by decide +kernel
theorem dX12_rankNow_201 : decode cX12_rankNow 201 = .ok (.ladd, 1) := by decide +kernel
theorem dX12_rankNow_202 : decode cX12_rankNow 202 = .ok (.invokestatic 147, 3) := by decide +kernel
theorem dX12_rankNow_205 : decode cX12_rankNow 205 = .ok (.i2l, 1) := by decide +kernel
theorem dX12_rankNow_206 : decode cX12_rankNow 206 = .ok (.lstore_n 3, 1) := by decide +kernel
theorem dX12_rankNow_207 : decode cX12_rankNow 207 = .ok (.iinc 6 1, 3) := by decide +kernel
theorem dX12_rankNow_210 : decode cX12_rankNow 210 = .ok (.goto (-126), 3) := by decide +kernel
theorem dX12_rankNow_213 : decode cX12_rankNow 213 = .ok (.lload_n 3, 1) := by decide +kernel
theorem dX12_rankNow_214 : decode cX12_rankNow 214 = .ok (.l2i, 1) := by decide +kernel
theorem dX12_rankNow_215 : decode cX12_rankNow 215 = .ok (.ireturn, 1) := by decide +kernel
theorem dX12_layRanks_0 : decode cX12_layRanks 0 = .ok (.aload_n 0, 1) := by decide +kernel
theorem dX12_layRanks_1 : decode cX12_layRanks 1 = .ok (.invokevirtual 172, 3) := by decide +kernel
theorem dX12_layRanks_4 : decode cX12_layRanks 4 = .ok (.iconst 1, 1) := by decide +kernel
theorem dX12_layRanks_5 : decode cX12_layRanks 5 = .ok (.istore_n 1, 1) := by decide +kernel
theorem dX12_layRanks_6 : decode cX12_layRanks 6 = .ok (.iload_n 1, 1) := by decide +kernel
theorem dX12_layRanks_7 : decode cX12_layRanks 7 = .ok (.bipush 12, 2) := by decide +kernel
theorem dX12_layRanks_9 : decode cX12_layRanks 9 = .ok (.if_icmp .gt 50, 3) := by decide +kernel
theorem dX12_layRanks_12 : decode cX12_layRanks 12 = .ok (.iconst 0, 1) := by decide +kernel
theorem dX12_layRanks_13 : decode cX12_layRanks 13 = .ok (.istore_n 2, 1) := by decide +kernel
theorem dX12_layRanks_14 : decode cX12_layRanks 14 = .ok (.iload_n 2, 1) := by decide +kernel
theorem dX12_layRanks_15 : decode cX12_layRanks 15 = .ok (.aload_n 0, 1) := by decide +kernel
theorem dX12_layRanks_16 : decode cX12_layRanks 16 = .ok (.getfield 124, 3) := by decide +kernel
theorem dX12_layRanks_19 : decode cX12_layRanks 19 = .ok (.if_icmp .ge 34, 3) := by decide +kernel
theorem dX12_layRanks_22 : decode cX12_layRanks 22 = .ok (.aload_n 0, 1) := by decide +kernel
theorem dX12_layRanks_23 : decode cX12_layRanks 23 = .ok (.getfield 83, 3) := by decide +kernel
theorem dX12_layRanks_26 : decode cX12_layRanks 26 = .ok (.iload_n 2, 1) := by decide +kernel
theorem dX12_layRanks_27 : decode cX12_layRanks 27 = .ok (.iaload, 1) := by decide +kernel
theorem dX12_layRanks_28 : decode cX12_layRanks 28 = .ok (.iload_n 1, 1) := by decide +kernel
theorem dX12_layRanks_29 : decode cX12_layRanks 29 = .ok (.if_icmp .ne 18, 3) := by decide +kernel
theorem dX12_layRanks_32 : decode cX12_layRanks 32 = .ok (.aload_n 0, 1) := by decide +kernel
theorem dX12_layRanks_33 : decode cX12_layRanks 33 = .ok (.getfield 86, 3) := by decide +kernel
theorem dX12_layRanks_36 : decode cX12_layRanks 36 = .ok (.iload_n 2, 1) := by decide +kernel
theorem dX12_layRanks_37 : decode cX12_layRanks 37 = .ok (.aload_n 0, 1) := by decide +kernel
theorem dX12_layRanks_38 : decode cX12_layRanks 38 = .ok (.aload_n 0, 1) := by decide +kernel
theorem dX12_layRanks_39 : decode cX12_layRanks 39 = .ok (.iload_n 2, 1) := by decide +kernel
theorem dX12_layRanks_40 : decode cX12_layRanks 40 = .ok (.invokevirtual 205, 3) := by decide +kernel
theorem dX12_layRanks_43 : decode cX12_layRanks 43 = .ok (.invokevirtual 217, 3) := by decide +kernel
theorem dX12_layRanks_46 : decode cX12_layRanks 46 = .ok (.iastore, 1) := by decide +kernel
theorem dX12_layRanks_47 : decode cX12_layRanks 47 = .ok (.iinc 2 1, 3) := by decide +kernel
theorem dX12_layRanks_50 : decode cX12_layRanks 50 = .ok (.goto (-36), 3) := by decide +kernel
theorem dX12_layRanks_53 : decode cX12_layRanks 53 = .ok (.iinc 1 1, 3) := by decide +kernel
theorem dX12_layRanks_56 : decode cX12_layRanks 56 = .ok (.goto (-50), 3) := by decide +kernel
theorem dX12_layRanks_59 : decode cX12_layRanks 59 = .ok (.return_, 1) := by decide +kernel
theorem dX12_rank_0 : decode cX12_rank 0 = .ok (.aload_n 0, 1) := by decide +kernel
theorem dX12_rank_1 : decode cX12_rank 1 = .ok (.iload_n 1, 1) := by decide +kernel
theorem dX12_rank_2 : decode cX12_rank 2 = .ok (.invokevirtual 199, 3) := by decide +kernel
theorem dX12_rank_5 : decode cX12_rank 5 = .ok (.ifCond .ne 6, 3) := by decide +kernel
theorem dX12_rank_8 : decode cX12_rank 8 = .ok (.bipush (-3), 2) := by decide +kernel
theorem dX12_rank_10 : decode cX12_rank 10 = .ok (.ireturn, 1) := by decide +kernel
theorem dX12_rank_11 : decode cX12_rank 11 = .ok (.aload_n 0, 1) := by decide +kernel
theorem dX12_rank_12 : decode cX12_rank 12 = .ok (.invokevirtual 214, 3) := by decide +kernel
theorem dX12_rank_15 : decode cX12_rank 15 = .ok (.aload_n 0, 1) := by decide +kernel
theorem dX12_rank_16 : decode cX12_rank 16 = .ok (.getfield 83, 3) := by decide +kernel
theorem dX12_rank_19 : decode cX12_rank 19 = .ok (.iload_n 1, 1) := by decide +kernel
theorem dX12_rank_20 : decode cX12_rank 20 = .ok (.iaload, 1) := by decide +kernel
theorem dX12_rank_21 : decode cX12_rank 21 = .ok (.ifCond .ge 6, 3) := by decide +kernel
theorem dX12_rank_24 : decode cX12_rank 24 = .ok (.bipush (-9), 2) := by decide +kernel
theorem dX12_rank_26 : decode cX12_rank 26 = .ok (.ireturn, 1) := by decide +kernel
theorem dX12_rank_27 : decode cX12_rank 27 = .ok (.aload_n 0, 1) := by decide +kernel
theorem dX12_rank_28 : decode cX12_rank 28 = .ok (.getfield 83, 3) := by decide +kernel
theorem dX12_rank_31 : decode cX12_rank 31 = .ok (.iload_n 1, 1) := by decide +kernel
theorem dX12_rank_32 : decode cX12_rank 32 = .ok (.iaload, 1) := by decide +kernel
theorem dX12_rank_33 : decode cX12_rank 33 = .ok (.bipush 12, 2) := by decide +kernel
theorem dX12_rank_35 : decode cX12_rank 35 = .ok (.if_icmp .le 6, 3) := by decide +kernel
theorem dX12_rank_38 : decode cX12_rank 38 = .ok (.bipush (-10), 2) := by decide +kernel
theorem dX12_rank_40 : decode cX12_rank 40 = .ok (.ireturn, 1) := by decide +kernel
theorem dX12_rank_41 : decode cX12_rank 41 = .ok (.aload_n 0, 1) := by decide +kernel
theorem dX12_rank_42 : decode cX12_rank 42 = .ok (.invokevirtual 220, 3) := by decide +kernel
theorem dX12_rank_45 : decode cX12_rank 45 = .ok (.aload_n 0, 1) := by decide +kernel
theorem dX12_rank_46 : decode cX12_rank 46 = .ok (.getfield 86, 3) := by decide +kernel
theorem dX12_rank_49 : decode cX12_rank 49 = .ok (.iload_n 1, 1) := by decide +kernel
theorem dX12_rank_50 : decode cX12_rank 50 = .ok (.iaload, 1) := by decide +kernel
theorem dX12_rank_51 : decode cX12_rank 51 = .ok (.ldc 129, 2) := by decide +kernel
theorem dX12_rank_53 : decode cX12_rank 53 = .ok (.if_icmp .lt 8, 3) := by decide +kernel
theorem dX12_rank_56 : decode cX12_rank 56 = .ok (.bipush (-10), 2) := by decide +kernel
theorem dX12_rank_58 : decode cX12_rank 58 = .ok (.goto 9, 3) := by decide +kernel
theorem dX12_rank_61 : decode cX12_rank 61 = .ok (.aload_n 0, 1) := by decide +kernel
theorem dX12_rank_62 : decode cX12_rank 62 = .ok (.getfield 86, 3) := by decide +kernel
theorem dX12_rank_65 : decode cX12_rank 65 = .ok (.iload_n 1, 1) := by decide +kernel
theorem dX12_rank_66 : decode cX12_rank 66 = .ok (.iaload, 1) := by decide +kernel
theorem dX12_rank_67 : decode cX12_rank 67 = .ok (.ireturn, 1) := by decide +kernel
theorem dX12_beginPairs_0 : decode cX12_beginPairs 0 = .ok (.iconst 0, 1) := by decide +kernel
theorem dX12_beginPairs_1 : decode cX12_beginPairs 1 = .ok (.istore_n 3, 1) := by decide +kernel
theorem dX12_beginPairs_2 : decode cX12_beginPairs 2 = .ok (.iload_n 3, 1) := by decide +kernel
theorem dX12_beginPairs_3 : decode cX12_beginPairs 3 = .ok (.sipush 10000, 3) := by decide +kernel
theorem dX12_beginPairs_6 : decode cX12_beginPairs 6 = .ok (.if_icmp .ge 16, 3) := by decide +kernel
theorem dX12_beginPairs_9 : decode cX12_beginPairs 9 = .ok (.aload_n 0, 1) := by decide +kernel
theorem dX12_beginPairs_10 : decode cX12_beginPairs 10 = .ok (.getfield 95, 3) := by decide +kernel
theorem dX12_beginPairs_13 : decode cX12_beginPairs 13 = .ok (.iload_n 3, 1) := by decide +kernel
theorem dX12_beginPairs_14 : decode cX12_beginPairs 14 = .ok (.iconst 0, 1) := by decide +kernel
theorem dX12_beginPairs_15 : decode cX12_beginPairs 15 = .ok (.bastore, 1) := by decide +kernel
theorem dX12_beginPairs_16 : decode cX12_beginPairs 16 = .ok (.iinc 3 1, 3) := by decide +kernel
theorem dX12_beginPairs_19 : decode cX12_beginPairs 19 = .ok (.goto (-17), 3) := by decide +kernel
theorem dX12_beginPairs_22 : decode cX12_beginPairs 22 = .ok (.aload_n 0, 1) := by decide +kernel
theorem dX12_beginPairs_23 : decode cX12_beginPairs 23 = .ok (.getfield 89, 3) := by decide +kernel
theorem dX12_beginPairs_26 : decode cX12_beginPairs 26 = .ok (.iconst 0, 1) := by decide +kernel
theorem dX12_beginPairs_27 : decode cX12_beginPairs 27 = .ok (.iload_n 1, 1) := by decide +kernel
theorem dX12_beginPairs_28 : decode cX12_beginPairs 28 = .ok (.iastore, 1) := by decide +kernel
theorem dX12_beginPairs_29 : decode cX12_beginPairs 29 = .ok (.aload_n 0, 1) := by decide +kernel
theorem dX12_beginPairs_30 : decode cX12_beginPairs 30 = .ok (.getfield 92, 3) := by decide +kernel
theorem dX12_beginPairs_33 : decode cX12_beginPairs 33 = .ok (.iconst 0, 1) := by decide +kernel
theorem dX12_beginPairs_34 : decode cX12_beginPairs 34 = .ok (.iload_n 2, 1) := by decide +kernel
theorem dX12_beginPairs_35 : decode cX12_beginPairs 35 = .ok (.iastore, 1) := by decide +kernel
theorem dX12_beginPairs_36 : decode cX12_beginPairs 36 = .ok (.aload_n 0, 1) := by decide +kernel
theorem dX12_beginPairs_37 : decode cX12_beginPairs 37 = .ok (.iconst 1, 1) := by decide +kernel
theorem dX12_beginPairs_38 : decode cX12_beginPairs 38 = .ok (.putfield 223, 3) := by decide +kernel
theorem dX12_beginPairs_41 : decode cX12_beginPairs 41 = .ok (.return_, 1) := by decide +kernel
theorem dX12_pushChildren_0 : decode cX12_pushChildren 0 = .ok (.aload_n 0, 1) := by decide +kernel
theorem dX12_pushChildren_1 : decode cX12_pushChildren 1 = .ok (.iload_n 1, 1) := by decide +kernel
theorem dX12_pushChildren_2 : decode cX12_pushChildren 2 = .ok (.invokevirtual 208, 3) := by decide +kernel
theorem dX12_pushChildren_5 : decode cX12_pushChildren 5 = .ok (.iconst 1, 1) := by decide +kernel
theorem dX12_pushChildren_6 : decode cX12_pushChildren 6 = .ok (.isub, 1) := by decide +kernel
theorem dX12_pushChildren_7 : decode cX12_pushChildren 7 = .ok (.istore_n 3, 1) := by decide +kernel
theorem dX12_pushChildren_8 : decode cX12_pushChildren 8 = .ok (.iload_n 3, 1) := by decide +kernel
theorem dX12_pushChildren_9 : decode cX12_pushChildren 9 = .ok (.ifCond .lt 57, 3) := by decide +kernel
theorem dX12_pushChildren_12 : decode cX12_pushChildren 12 = .ok (.aload_n 0, 1) := by decide +kernel
theorem dX12_pushChildren_13 : decode cX12_pushChildren 13 = .ok (.getfield 89, 3) := by decide +kernel
theorem dX12_pushChildren_16 : decode cX12_pushChildren 16 = .ok (.aload_n 0, 1) := by decide +kernel
theorem dX12_pushChildren_17 : decode cX12_pushChildren 17 = .ok (.getfield 223, 3) := by decide +kernel
theorem dX12_pushChildren_20 : decode cX12_pushChildren 20 = .ok (.aload_n 0, 1) := by decide +kernel
theorem dX12_pushChildren_21 : decode cX12_pushChildren 21 = .ok (.getfield 25, 3) := by decide +kernel
theorem dX12_pushChildren_24 : decode cX12_pushChildren 24 = .ok (.iconst 3, 1) := by decide +kernel
theorem dX12_pushChildren_25 : decode cX12_pushChildren 25 = .ok (.iload_n 1, 1) := by decide +kernel
theorem dX12_pushChildren_26 : decode cX12_pushChildren 26 = .ok (.imul, 1) := by decide +kernel
theorem dX12_pushChildren_27 : decode cX12_pushChildren 27 = .ok (.iload_n 3, 1) := by decide +kernel
theorem dX12_pushChildren_28 : decode cX12_pushChildren 28 = .ok (.iadd, 1) := by decide +kernel
theorem dX12_pushChildren_29 : decode cX12_pushChildren 29 = .ok (.iaload, 1) := by decide +kernel
theorem dX12_pushChildren_30 : decode cX12_pushChildren 30 = .ok (.iastore, 1) := by decide +kernel
theorem dX12_pushChildren_31 : decode cX12_pushChildren 31 = .ok (.aload_n 0, 1) := by decide +kernel
theorem dX12_pushChildren_32 : decode cX12_pushChildren 32 = .ok (.getfield 92, 3) := by decide +kernel
theorem dX12_pushChildren_35 : decode cX12_pushChildren 35 = .ok (.aload_n 0, 1) := by decide +kernel
theorem dX12_pushChildren_36 : decode cX12_pushChildren 36 = .ok (.getfield 223, 3) := by decide +kernel
theorem dX12_pushChildren_39 : decode cX12_pushChildren 39 = .ok (.aload_n 0, 1) := by decide +kernel
theorem dX12_pushChildren_40 : decode cX12_pushChildren 40 = .ok (.getfield 25, 3) := by decide +kernel
theorem dX12_pushChildren_43 : decode cX12_pushChildren 43 = .ok (.iconst 3, 1) := by decide +kernel
theorem dX12_pushChildren_44 : decode cX12_pushChildren 44 = .ok (.iload_n 2, 1) := by decide +kernel
theorem dX12_pushChildren_45 : decode cX12_pushChildren 45 = .ok (.imul, 1) := by decide +kernel
theorem dX12_pushChildren_46 : decode cX12_pushChildren 46 = .ok (.iload_n 3, 1) := by decide +kernel
theorem dX12_pushChildren_47 : decode cX12_pushChildren 47 = .ok (.iadd, 1) := by decide +kernel
theorem dX12_pushChildren_48 : decode cX12_pushChildren 48 = .ok (.iaload, 1) := by decide +kernel
theorem dX12_pushChildren_49 : decode cX12_pushChildren 49 = .ok (.iastore, 1) := by decide +kernel
theorem dX12_pushChildren_50 : decode cX12_pushChildren 50 = .ok (.aload_n 0, 1) := by decide +kernel
theorem dX12_pushChildren_51 : decode cX12_pushChildren 51 = .ok (.dup, 1) := by decide +kernel
theorem dX12_pushChildren_52 : decode cX12_pushChildren 52 = .ok (.getfield 223, 3) := by decide +kernel
theorem dX12_pushChildren_55 : decode cX12_pushChildren 55 = .ok (.iconst 1, 1) := by decide +kernel
theorem dX12_pushChildren_56 : decode cX12_pushChildren 56 = .ok (.iadd, 1) := by decide +kernel
theorem dX12_pushChildren_57 : decode cX12_pushChildren 57 = .ok (.putfield 223, 3) := by decide +kernel
theorem dX12_pushChildren_60 : decode cX12_pushChildren 60 = .ok (.iinc 3 (-1), 3) := by decide +kernel
theorem dX12_pushChildren_63 : decode cX12_pushChildren 63 = .ok (.goto (-55), 3) := by decide +kernel
theorem dX12_pushChildren_66 : decode cX12_pushChildren 66 = .ok (.return_, 1) := by decide +kernel
theorem dX12_equal_0 : decode cX12_equal 0 = .ok (.aload_n 0, 1) := by decide +kernel
theorem dX12_equal_1 : decode cX12_equal 1 = .ok (.iload_n 1, 1) := by decide +kernel
theorem dX12_equal_2 : decode cX12_equal 2 = .ok (.invokevirtual 199, 3) := by decide +kernel
theorem dX12_equal_5 : decode cX12_equal 5 = .ok (.ifCond .eq 11, 3) := by decide +kernel
theorem dX12_equal_8 : decode cX12_equal 8 = .ok (.aload_n 0, 1) := by decide +kernel
theorem dX12_equal_9 : decode cX12_equal 9 = .ok (.iload_n 2, 1) := by decide +kernel
theorem dX12_equal_10 : decode cX12_equal 10 = .ok (.invokevirtual 199, 3) := by decide +kernel
theorem dX12_equal_13 : decode cX12_equal 13 = .ok (.ifCond .ne 6, 3) := by decide +kernel
theorem dX12_equal_16 : decode cX12_equal 16 = .ok (.bipush (-3), 2) := by decide +kernel
theorem dX12_equal_18 : decode cX12_equal 18 = .ok (.ireturn, 1) := by decide +kernel
theorem dX12_equal_19 : decode cX12_equal 19 = .ok (.aload_n 0, 1) := by decide +kernel
theorem dX12_equal_20 : decode cX12_equal 20 = .ok (.iload_n 1, 1) := by decide +kernel
theorem dX12_equal_21 : decode cX12_equal 21 = .ok (.iload_n 2, 1) := by decide +kernel
theorem dX12_equal_22 : decode cX12_equal 22 = .ok (.invokevirtual 226, 3) := by decide +kernel
theorem dX12_equal_25 : decode cX12_equal 25 = .ok (.aload_n 0, 1) := by decide +kernel
theorem dX12_equal_26 : decode cX12_equal 26 = .ok (.getfield 223, 3) := by decide +kernel
theorem dX12_equal_29 : decode cX12_equal 29 = .ok (.ifCond .le 113, 3) := by decide +kernel
theorem dX12_equal_32 : decode cX12_equal 32 = .ok (.aload_n 0, 1) := by decide +kernel
theorem dX12_equal_33 : decode cX12_equal 33 = .ok (.dup, 1) := by decide +kernel
theorem dX12_equal_34 : decode cX12_equal 34 = .ok (.getfield 223, 3) := by decide +kernel
theorem dX12_equal_37 : decode cX12_equal 37 = .ok (.iconst 1, 1) := by decide +kernel
theorem dX12_equal_38 : decode cX12_equal 38 = .ok (.isub, 1) := by decide +kernel
theorem dX12_equal_39 : decode cX12_equal 39 = .ok (.putfield 223, 3) := by decide +kernel
theorem dX12_equal_42 : decode cX12_equal 42 = .ok (.aload_n 0, 1) := by decide +kernel
theorem dX12_equal_43 : decode cX12_equal 43 = .ok (.aload_n 0, 1) := by decide +kernel
theorem dX12_equal_44 : decode cX12_equal 44 = .ok (.getfield 89, 3) := by decide +kernel
theorem dX12_equal_47 : decode cX12_equal 47 = .ok (.aload_n 0, 1) := by decide +kernel
theorem dX12_equal_48 : decode cX12_equal 48 = .ok (.getfield 223, 3) := by decide +kernel
theorem dX12_equal_51 : decode cX12_equal 51 = .ok (.iaload, 1) := by decide +kernel
theorem dX12_equal_52 : decode cX12_equal 52 = .ok (.invokevirtual 205, 3) := by decide +kernel
theorem dX12_equal_55 : decode cX12_equal 55 = .ok (.istore_n 3, 1) := by decide +kernel
theorem dX12_equal_56 : decode cX12_equal 56 = .ok (.aload_n 0, 1) := by decide +kernel
theorem dX12_equal_57 : decode cX12_equal 57 = .ok (.aload_n 0, 1) := by decide +kernel
theorem dX12_equal_58 : decode cX12_equal 58 = .ok (.getfield 92, 3) := by decide +kernel
theorem dX12_equal_61 : decode cX12_equal 61 = .ok (.aload_n 0, 1) := by decide +kernel
theorem dX12_equal_62 : decode cX12_equal 62 = .ok (.getfield 223, 3) := by decide +kernel
theorem dX12_equal_65 : decode cX12_equal 65 = .ok (.iaload, 1) := by decide +kernel
theorem dX12_equal_66 : decode cX12_equal 66 = .ok (.invokevirtual 205, 3) := by decide +kernel
theorem dX12_equal_69 : decode cX12_equal 69 = .ok (.istore 4, 2) := by decide +kernel
theorem dX12_equal_71 : decode cX12_equal 71 = .ok (.iload_n 3, 1) := by decide +kernel
theorem dX12_equal_72 : decode cX12_equal 72 = .ok (.iload 4, 2) := by decide +kernel
theorem dX12_equal_74 : decode cX12_equal 74 = .ok (.if_icmp .eq 65, 3) := by decide +kernel
theorem dX12_equal_77 : decode cX12_equal 77 = .ok (.aload_n 0, 1) := by decide +kernel
theorem dX12_equal_78 : decode cX12_equal 78 = .ok (.getfield 95, 3) := by decide +kernel
theorem dX12_equal_81 : decode cX12_equal 81 = .ok (.bipush 100, 2) := by decide +kernel
theorem dX12_equal_83 : decode cX12_equal 83 = .ok (.iload_n 3, 1) := by decide +kernel
theorem dX12_equal_84 : decode cX12_equal 84 = .ok (.imul, 1) := by decide +kernel
theorem dX12_equal_85 : decode cX12_equal 85 = .ok (.iload 4, 2) := by decide +kernel
theorem dX12_equal_87 : decode cX12_equal 87 = .ok (.iadd, 1) := by decide +kernel
theorem dX12_equal_88 : decode cX12_equal 88 = .ok (.baload, 1) := by decide +kernel
theorem dX12_equal_89 : decode cX12_equal 89 = .ok (.ifCond .ne 50, 3) := by decide +kernel
theorem dX12_equal_92 : decode cX12_equal 92 = .ok (.aload_n 0, 1) := by decide +kernel
theorem dX12_equal_93 : decode cX12_equal 93 = .ok (.getfield 95, 3) := by decide +kernel
theorem dX12_equal_96 : decode cX12_equal 96 = .ok (.bipush 100, 2) := by decide +kernel
theorem dX12_equal_98 : decode cX12_equal 98 = .ok (.iload_n 3, 1) := by decide +kernel
theorem dX12_equal_99 : decode cX12_equal 99 = .ok (.imul, 1) := by decide +kernel
theorem dX12_equal_100 : decode cX12_equal 100 = .ok (.iload 4, 2) := by decide +kernel
theorem dX12_equal_102 : decode cX12_equal 102 = .ok (.iadd, 1) := by decide +kernel
theorem dX12_equal_103 : decode cX12_equal 103 = .ok (.iconst 1, 1) := by decide +kernel
theorem dX12_equal_104 : decode cX12_equal 104 = .ok (.bastore, 1) := by decide +kernel
theorem dX12_equal_105 : decode cX12_equal 105 = .ok (.aload_n 0, 1) := by decide +kernel
theorem dX12_equal_106 : decode cX12_equal 106 = .ok (.getfield 19, 3) := by decide +kernel
theorem dX12_equal_109 : decode cX12_equal 109 = .ok (.iload_n 3, 1) := by decide +kernel
theorem dX12_equal_110 : decode cX12_equal 110 = .ok (.iaload, 1) := by decide +kernel
theorem dX12_equal_111 : decode cX12_equal 111 = .ok (.ifCond .lt 19, 3) := by decide +kernel
theorem dX12_equal_114 : decode cX12_equal 114 = .ok (.aload_n 0, 1) := by decide +kernel
theorem dX12_equal_115 : decode cX12_equal 115 = .ok (.getfield 19, 3) := by decide +kernel
theorem dX12_equal_118 : decode cX12_equal 118 = .ok (.iload_n 3, 1) := by decide +kernel
theorem dX12_equal_119 : decode cX12_equal 119 = .ok (.iaload, 1) := by decide +kernel
theorem dX12_equal_120 : decode cX12_equal 120 = .ok (.aload_n 0, 1) := by decide +kernel
theorem dX12_equal_121 : decode cX12_equal 121 = .ok (.getfield 19, 3) := by decide +kernel
theorem dX12_equal_124 : decode cX12_equal 124 = .ok (.iload 4, 2) := by decide +kernel
theorem dX12_equal_126 : decode cX12_equal 126 = .ok (.iaload, 1) := by decide +kernel
theorem dX12_equal_127 : decode cX12_equal 127 = .ok (.if_icmp .eq 5, 3) := by decide +kernel
theorem dX12_equal_130 : decode cX12_equal 130 = .ok (.iconst 0, 1) := by decide +kernel
theorem dX12_equal_131 : decode cX12_equal 131 = .ok (.ireturn, 1) := by decide +kernel
theorem dX12_equal_132 : decode cX12_equal 132 = .ok (.aload_n 0, 1) := by decide +kernel
theorem dX12_equal_133 : decode cX12_equal 133 = .ok (.iload_n 3, 1) := by decide +kernel
theorem dX12_equal_134 : decode cX12_equal 134 = .ok (.iload 4, 2) := by decide +kernel
theorem dX12_equal_136 : decode cX12_equal 136 = .ok (.invokevirtual 229, 3) := by decide +kernel
theorem dX12_equal_139 : decode cX12_equal 139 = .ok (.goto (-114), 3) := by decide +kernel
theorem dX12_equal_142 : decode cX12_equal 142 = .ok (.iconst 1, 1) := by decide +kernel
theorem dX12_equal_143 : decode cX12_equal 143 = .ok (.ireturn, 1) := by decide +kernel
theorem dX12_bind_0 : decode cX12_bind 0 = .ok (.aload_n 0, 1) := by decide +kernel
theorem dX12_bind_1 : decode cX12_bind 1 = .ok (.getfield 28, 3) := by decide +kernel
theorem dX12_bind_4 : decode cX12_bind 4 = .ok (.iload_n 1, 1) := by decide +kernel
theorem dX12_bind_5 : decode cX12_bind 5 = .ok (.iload_n 2, 1) := by decide +kernel
theorem dX12_bind_6 : decode cX12_bind 6 = .ok (.iastore, 1) := by decide +kernel
theorem dX12_bind_7 : decode cX12_bind 7 = .ok (.aload_n 0, 1) := by decide +kernel
theorem dX12_bind_8 : decode cX12_bind 8 = .ok (.getfield 98, 3) := by decide +kernel
theorem dX12_bind_11 : decode cX12_bind 11 = .ok (.aload_n 0, 1) := by decide +kernel
theorem dX12_bind_12 : decode cX12_bind 12 = .ok (.getfield 232, 3) := by decide +kernel
theorem dX12_bind_15 : decode cX12_bind 15 = .ok (.iload_n 1, 1) := by decide +kernel
theorem dX12_bind_16 : decode cX12_bind 16 = .ok (.iastore, 1) := by decide +kernel
theorem dX12_bind_17 : decode cX12_bind 17 = .ok (.aload_n 0, 1) := by decide +kernel
theorem dX12_bind_18 : decode cX12_bind 18 = .ok (.dup, 1) := by decide +kernel
theorem dX12_bind_19 : decode cX12_bind 19 = .ok (.getfield 232, 3) := by decide +kernel
theorem dX12_bind_22 : decode cX12_bind 22 = .ok (.iconst 1, 1) := by decide +kernel
theorem dX12_bind_23 : decode cX12_bind 23 = .ok (.iadd, 1) := by decide +kernel
theorem dX12_bind_24 : decode cX12_bind 24 = .ok (.putfield 232, 3) := by decide +kernel
theorem dX12_bind_27 : decode cX12_bind 27 = .ok (.return_, 1) := by decide +kernel
theorem dX12_occurs_0 : decode cX12_occurs 0 = .ok (.iconst 0, 1) := by decide +kernel
theorem dX12_occurs_1 : decode cX12_occurs 1 = .ok (.istore_n 3, 1) := by decide +kernel
theorem dX12_occurs_2 : decode cX12_occurs 2 = .ok (.iload_n 3, 1) := by decide +kernel
theorem dX12_occurs_3 : decode cX12_occurs 3 = .ok (.aload_n 0, 1) := by decide +kernel
theorem dX12_occurs_4 : decode cX12_occurs 4 = .ok (.getfield 124, 3) := by decide +kernel
theorem dX12_occurs_7 : decode cX12_occurs 7 = .ok (.if_icmp .ge 16, 3) := by decide +kernel
theorem dX12_occurs_10 : decode cX12_occurs 10 = .ok (.aload_n 0, 1) := by decide +kernel
theorem dX12_occurs_11 : decode cX12_occurs 11 = .ok (.getfield 104, 3) := by decide +kernel
theorem dX12_occurs_14 : decode cX12_occurs 14 = .ok (.iload_n 3, 1) := by decide +kernel
theorem dX12_occurs_15 : decode cX12_occurs 15 = .ok (.iconst 0, 1) := by decide +kernel
theorem dX12_occurs_16 : decode cX12_occurs 16 = .ok (.bastore, 1) := by decide +kernel
theorem dX12_occurs_17 : decode cX12_occurs 17 = .ok (.iinc 3 1, 3) := by decide +kernel
theorem dX12_occurs_20 : decode cX12_occurs 20 = .ok (.goto (-18), 3) := by decide +kernel
theorem dX12_occurs_23 : decode cX12_occurs 23 = .ok (.iconst 1, 1) := by decide +kernel
theorem dX12_occurs_24 : decode cX12_occurs 24 = .ok (.istore_n 3, 1) := by decide +kernel
theorem dX12_occurs_25 : decode cX12_occurs 25 = .ok (.aload_n 0, 1) := by decide +kernel
theorem dX12_occurs_26 : decode cX12_occurs 26 = .ok (.getfield 101, 3) := by decide +kernel
theorem dX12_occurs_29 : decode cX12_occurs 29 = .ok (.iconst 0, 1) := by decide +kernel
theorem dX12_occurs_30 : decode cX12_occurs 30 = .ok (.iload_n 2, 1) := by decide +kernel
theorem dX12_occurs_31 : decode cX12_occurs 31 = .ok (.iastore, 1) := by decide +kernel
theorem dX12_occurs_32 : decode cX12_occurs 32 = .ok (.iload_n 3, 1) := by decide +kernel
theorem dX12_occurs_33 : decode cX12_occurs 33 = .ok (.ifCond .le 88, 3) := by decide +kernel
theorem dX12_occurs_36 : decode cX12_occurs 36 = .ok (.iinc 3 (-1), 3) := by decide +kernel
theorem dX12_occurs_39 : decode cX12_occurs 39 = .ok (.aload_n 0, 1) := by decide +kernel
theorem dX12_occurs_40 : decode cX12_occurs 40 = .ok (.aload_n 0, 1) := by decide +kernel
theorem dX12_occurs_41 : decode cX12_occurs 41 = .ok (.getfield 101, 3) := by decide +kernel
theorem dX12_occurs_44 : decode cX12_occurs 44 = .ok (.iload_n 3, 1) := by decide +kernel
theorem dX12_occurs_45 : decode cX12_occurs 45 = .ok (.iaload, 1) := by decide +kernel
theorem dX12_occurs_46 : decode cX12_occurs 46 = .ok (.invokevirtual 205, 3) := by decide +kernel
theorem dX12_occurs_49 : decode cX12_occurs 49 = .ok (.istore 4, 2) := by decide +kernel
theorem dX12_occurs_51 : decode cX12_occurs 51 = .ok (.iload 4, 2) := by decide +kernel
theorem dX12_occurs_53 : decode cX12_occurs 53 = .ok (.iload_n 1, 1) := by decide +kernel
theorem dX12_occurs_54 : decode cX12_occurs 54 = .ok (.if_icmp .ne 5, 3) := by decide +kernel
theorem dX12_occurs_57 : decode cX12_occurs 57 = .ok (.iconst 1, 1) := by decide +kernel
theorem dX12_occurs_58 : decode cX12_occurs 58 = .ok (.ireturn, 1) := by decide +kernel
theorem dX12_occurs_59 : decode cX12_occurs 59 = .ok (.aload_n 0, 1) := by decide +kernel
theorem dX12_occurs_60 : decode cX12_occurs 60 = .ok (.getfield 104, 3) := by decide +kernel
theorem dX12_occurs_63 : decode cX12_occurs 63 = .ok (.iload 4, 2) := by decide +kernel
theorem dX12_occurs_65 : decode cX12_occurs 65 = .ok (.baload, 1) := by decide +kernel
theorem dX12_occurs_66 : decode cX12_occurs 66 = .ok (.ifCond .ne 52, 3) := by decide +kernel
theorem dX12_occurs_69 : decode cX12_occurs 69 = .ok (.aload_n 0, 1) := by decide +kernel
theorem dX12_occurs_70 : decode cX12_occurs 70 = .ok (.getfield 104, 3) := by decide +kernel
theorem dX12_occurs_73 : decode cX12_occurs 73 = .ok (.iload 4, 2) := by decide +kernel
theorem dX12_occurs_75 : decode cX12_occurs 75 = .ok (.iconst 1, 1) := by decide +kernel
theorem dX12_occurs_76 : decode cX12_occurs 76 = .ok (.bastore, 1) := by decide +kernel
theorem dX12_occurs_77 : decode cX12_occurs 77 = .ok (.iconst 0, 1) := by decide +kernel
theorem dX12_occurs_78 : decode cX12_occurs 78 = .ok (.istore 5, 2) := by decide +kernel
theorem dX12_occurs_80 : decode cX12_occurs 80 = .ok (.iload 5, 2) := by decide +kernel
theorem dX12_occurs_82 : decode cX12_occurs 82 = .ok (.aload_n 0, 1) := by decide +kernel
theorem dX12_occurs_83 : decode cX12_occurs 83 = .ok (.iload 4, 2) := by decide +kernel
theorem dX12_occurs_85 : decode cX12_occurs 85 = .ok (.invokevirtual 208, 3) := by decide +kernel
theorem dX12_occurs_88 : decode cX12_occurs 88 = .ok (.if_icmp .ge 30, 3) := by decide +kernel
theorem dX12_occurs_91 : decode cX12_occurs 91 = .ok (.aload_n 0, 1) := by decide +kernel
theorem dX12_occurs_92 : decode cX12_occurs 92 = .ok (.getfield 101, 3) := by decide +kernel
theorem dX12_occurs_95 : decode cX12_occurs 95 = .ok (.iload_n 3, 1) := by decide +kernel
theorem dX12_occurs_96 : decode cX12_occurs 96 = .ok (.aload_n 0, 1) := by decide +kernel
theorem dX12_occurs_97 : decode cX12_occurs 97 = .ok (.getfield 25, 3) := by decide +kernel
theorem dX12_occurs_100 : decode cX12_occurs 100 = .ok (.iconst 3, 1) := by decide +kernel
theorem dX12_occurs_101 : decode cX12_occurs 101 = .ok (.iload 4, 2) := by decide +kernel
theorem dX12_occurs_103 : decode cX12_occurs 103 = .ok (.imul, 1) := by decide +kernel
theorem dX12_occurs_104 : decode cX12_occurs 104 = .ok (.iload 5, 2) := by decide +kernel
theorem dX12_occurs_106 : decode cX12_occurs 106 = .ok (.iadd, 1) := by decide +kernel
theorem dX12_occurs_107 : decode cX12_occurs 107 = .ok (.iaload, 1) := by decide +kernel
theorem dX12_occurs_108 : decode cX12_occurs 108 = .ok (.iastore, 1) := by decide +kernel
theorem dX12_occurs_109 : decode cX12_occurs 109 = .ok (.iinc 3 1, 3) := by decide +kernel
theorem dX12_occurs_112 : decode cX12_occurs 112 = .ok (.iinc 5 1, 3) := by decide +kernel
theorem dX12_occurs_115 : decode cX12_occurs 115 = .ok (.goto (-35), 3) := by decide +kernel
theorem dX12_occurs_118 : decode cX12_occurs 118 = .ok (.goto (-86), 3) := by decide +kernel
theorem dX12_occurs_121 : decode cX12_occurs 121 = .ok (.iconst 0, 1) := by decide +kernel
theorem dX12_occurs_122 : decode cX12_occurs 122 = .ok (.ireturn, 1) := by decide +kernel
theorem dX12_unifyNow_0 : decode cX12_unifyNow 0 = .ok (.aload_n 0, 1) := by decide +kernel
theorem dX12_unifyNow_1 : decode cX12_unifyNow 1 = .ok (.getfield 19, 3) := by decide +kernel
theorem dX12_unifyNow_4 : decode cX12_unifyNow 4 = .ok (.iload_n 1, 1) := by decide +kernel
theorem dX12_unifyNow_5 : decode cX12_unifyNow 5 = .ok (.iaload, 1) := by decide +kernel
theorem dX12_unifyNow_6 : decode cX12_unifyNow 6 = .ok (.ifCond .ge 7, 3) := by decide +kernel
theorem dX12_unifyNow_9 : decode cX12_unifyNow 9 = .ok (.iconst 1, 1) := by decide +kernel
theorem dX12_unifyNow_10 : decode cX12_unifyNow 10 = .ok (.goto 4, 3) := by decide +kernel
theorem dX12_unifyNow_13 : decode cX12_unifyNow 13 = .ok (.iconst 0, 1) := by decide +kernel
theorem dX12_unifyNow_14 : decode cX12_unifyNow 14 = .ok (.istore_n 3, 1) := by decide +kernel
theorem dX12_unifyNow_15 : decode cX12_unifyNow 15 = .ok (.aload_n 0, 1) := by decide +kernel
theorem dX12_unifyNow_16 : decode cX12_unifyNow 16 = .ok (.getfield 19, 3) := by decide +kernel
theorem dX12_unifyNow_19 : decode cX12_unifyNow 19 = .ok (.iload_n 2, 1) := by decide +kernel
theorem dX12_unifyNow_20 : decode cX12_unifyNow 20 = .ok (.iaload, 1) := by decide +kernel
theorem dX12_unifyNow_21 : decode cX12_unifyNow 21 = .ok (.ifCond .ge 7, 3) := by decide +kernel
theorem dX12_unifyNow_24 : decode cX12_unifyNow 24 = .ok (.iconst 1, 1) := by decide +kernel
theorem dX12_unifyNow_25 : decode cX12_unifyNow 25 = .ok (.goto 4, 3) := by decide +kernel
theorem dX12_unifyNow_28 : decode cX12_unifyNow 28 = .ok (.iconst 0, 1) := by decide +kernel
theorem dX12_unifyNow_29 : decode cX12_unifyNow 29 = .ok (.istore 4, 2) := by decide +kernel
theorem dX12_unifyNow_31 : decode cX12_unifyNow 31 = .ok (.iload_n 3, 1) := by decide +kernel
theorem dX12_unifyNow_32 : decode cX12_unifyNow 32 = .ok (.ifCond .eq 34, 3) := by decide +kernel
theorem dX12_unifyNow_35 : decode cX12_unifyNow 35 = .ok (.iload 4, 2) := by decide +kernel
theorem dX12_unifyNow_37 : decode cX12_unifyNow 37 = .ok (.ifCond .eq 29, 3) := by decide +kernel
theorem dX12_unifyNow_40 : decode cX12_unifyNow 40 = .ok (.aload_n 0, 1) := by decide +kernel
theorem dX12_unifyNow_41 : decode cX12_unifyNow 41 = .ok (.iload_n 1, 1) := by decide +kernel
theorem dX12_unifyNow_42 : decode cX12_unifyNow 42 = .ok (.iload_n 2, 1) := by decide +kernel
theorem dX12_unifyNow_43 : decode cX12_unifyNow 43 = .ok (.if_icmp .le 7, 3) := by decide +kernel
theorem dX12_unifyNow_46 : decode cX12_unifyNow 46 = .ok (.iload_n 1, 1) := by decide +kernel
theorem dX12_unifyNow_47 : decode cX12_unifyNow 47 = .ok (.goto 4, 3) := by decide +kernel
theorem dX12_unifyNow_50 : decode cX12_unifyNow 50 = .ok (.iload_n 2, 1) := by decide +kernel
theorem dX12_unifyNow_51 : decode cX12_unifyNow 51 = .ok (.iload_n 1, 1) := by decide +kernel
theorem dX12_unifyNow_52 : decode cX12_unifyNow 52 = .ok (.iload_n 2, 1) := by decide +kernel
theorem dX12_unifyNow_53 : decode cX12_unifyNow 53 = .ok (.if_icmp .le 7, 3) := by decide +kernel
theorem dX12_unifyNow_56 : decode cX12_unifyNow 56 = .ok (.iload_n 2, 1) := by decide +kernel
theorem dX12_unifyNow_57 : decode cX12_unifyNow 57 = .ok (.goto 4, 3) := by decide +kernel
theorem dX12_unifyNow_60 : decode cX12_unifyNow 60 = .ok (.iload_n 1, 1) := by decide +kernel
theorem dX12_unifyNow_61 : decode cX12_unifyNow 61 = .ok (.invokevirtual 235, 3) := by decide +kernel
theorem dX12_unifyNow_64 : decode cX12_unifyNow 64 = .ok (.iconst 0, 1) := by decide +kernel
theorem dX12_unifyNow_65 : decode cX12_unifyNow 65 = .ok (.ireturn, 1) := by decide +kernel
theorem dX12_unifyNow_66 : decode cX12_unifyNow 66 = .ok (.iload_n 3, 1) := by decide +kernel
theorem dX12_unifyNow_67 : decode cX12_unifyNow 67 = .ok (.ifCond .ne 8, 3) := by decide +kernel
theorem dX12_unifyNow_70 : decode cX12_unifyNow 70 = .ok (.iload 4, 2) := by decide +kernel
theorem dX12_unifyNow_72 : decode cX12_unifyNow 72 = .ok (.ifCond .eq 49, 3) := by decide +kernel
theorem dX12_unifyNow_75 : decode cX12_unifyNow 75 = .ok (.iload_n 3, 1) := by decide +kernel
theorem dX12_unifyNow_76 : decode cX12_unifyNow 76 = .ok (.ifCond .eq 7, 3) := by decide +kernel
theorem dX12_unifyNow_79 : decode cX12_unifyNow 79 = .ok (.iload_n 1, 1) := by decide +kernel
theorem dX12_unifyNow_80 : decode cX12_unifyNow 80 = .ok (.goto 4, 3) := by decide +kernel
theorem dX12_unifyNow_83 : decode cX12_unifyNow 83 = .ok (.iload_n 2, 1) := by decide +kernel
theorem dX12_unifyNow_84 : decode cX12_unifyNow 84 = .ok (.istore 5, 2) := by decide +kernel
theorem dX12_unifyNow_86 : decode cX12_unifyNow 86 = .ok (.iload_n 3, 1) := by decide +kernel
theorem dX12_unifyNow_87 : decode cX12_unifyNow 87 = .ok (.ifCond .eq 7, 3) := by decide +kernel
theorem dX12_unifyNow_90 : decode cX12_unifyNow 90 = .ok (.iload_n 2, 1) := by decide +kernel
theorem dX12_unifyNow_91 : decode cX12_unifyNow 91 = .ok (.goto 4, 3) := by decide +kernel
theorem dX12_unifyNow_94 : decode cX12_unifyNow 94 = .ok (.iload_n 1, 1) := by decide +kernel
theorem dX12_unifyNow_95 : decode cX12_unifyNow 95 = .ok (.istore 6, 2) := by decide +kernel
theorem dX12_unifyNow_97 : decode cX12_unifyNow 97 = .ok (.aload_n 0, 1) := by decide +kernel
theorem dX12_unifyNow_98 : decode cX12_unifyNow 98 = .ok (.iload 5, 2) := by decide +kernel
theorem dX12_unifyNow_100 : decode cX12_unifyNow 100 = .ok (.iload 6, 2) := by decide +kernel
theorem dX12_unifyNow_102 : decode cX12_unifyNow 102 = .ok (.invokevirtual 238, 3) := by decide +kernel
theorem dX12_unifyNow_105 : decode cX12_unifyNow 105 = .ok (.ifCond .eq 6, 3) := by decide +kernel
theorem dX12_unifyNow_108 : decode cX12_unifyNow 108 = .ok (.bipush (-8), 2) := by decide +kernel
theorem dX12_unifyNow_110 : decode cX12_unifyNow 110 = .ok (.ireturn, 1) := by decide +kernel
theorem dX12_unifyNow_111 : decode cX12_unifyNow 111 = .ok (.aload_n 0, 1) := by decide +kernel
theorem dX12_unifyNow_112 : decode cX12_unifyNow 112 = .ok (.iload 5, 2) := by decide +kernel
theorem dX12_unifyNow_114 : decode cX12_unifyNow 114 = .ok (.iload 6, 2) := by decide +kernel
theorem dX12_unifyNow_116 : decode cX12_unifyNow 116 = .ok (.invokevirtual 235, 3) := by decide +kernel
theorem dX12_unifyNow_119 : decode cX12_unifyNow 119 = .ok (.iconst 0, 1) := by decide +kernel
theorem dX12_unifyNow_120 : decode cX12_unifyNow 120 = .ok (.ireturn, 1) := by decide +kernel
theorem dX12_unifyNow_121 : decode cX12_unifyNow 121 = .ok (.aload_n 0, 1) := by decide +kernel
theorem dX12_unifyNow_122 : decode cX12_unifyNow 122 = .ok (.getfield 19, 3) := by decide +kernel
theorem dX12_unifyNow_125 : decode cX12_unifyNow 125 = .ok (.iload_n 1, 1) := by decide +kernel
theorem dX12_unifyNow_126 : decode cX12_unifyNow 126 = .ok (.iaload, 1) := by decide +kernel
theorem dX12_unifyNow_127 : decode cX12_unifyNow 127 = .ok (.aload_n 0, 1) := by decide +kernel
theorem dX12_unifyNow_128 : decode cX12_unifyNow 128 = .ok (.getfield 19, 3) := by decide +kernel
theorem dX12_unifyNow_131 : decode cX12_unifyNow 131 = .ok (.iload_n 2, 1) := by decide +kernel
theorem dX12_unifyNow_132 : decode cX12_unifyNow 132 = .ok (.iaload, 1) := by decide +kernel
theorem dX12_unifyNow_133 : decode cX12_unifyNow 133 = .ok (.if_icmp .eq 6, 3) := by decide +kernel
theorem dX12_unifyNow_136 : decode cX12_unifyNow 136 = .ok (.bipush (-7), 2) := by decide +kernel
theorem dX12_unifyNow_138 : decode cX12_unifyNow 138 = .ok (.ireturn, 1) := by decide +kernel
theorem dX12_unifyNow_139 : decode cX12_unifyNow 139 = .ok (.aload_n 0, 1) := by decide +kernel
theorem dX12_unifyNow_140 : decode cX12_unifyNow 140 = .ok (.getfield 95, 3) := by decide +kernel
theorem dX12_unifyNow_143 : decode cX12_unifyNow 143 = .ok (.bipush 100, 2) := by decide +kernel
theorem dX12_unifyNow_145 : decode cX12_unifyNow 145 = .ok (.iload_n 1, 1) := by decide +kernel
theorem dX12_unifyNow_146 : decode cX12_unifyNow 146 = .ok (.imul, 1) := by decide +kernel
theorem dX12_unifyNow_147 : decode cX12_unifyNow 147 = .ok (.iload_n 2, 1) := by decide +kernel
theorem dX12_unifyNow_148 : decode cX12_unifyNow 148 = .ok (.iadd, 1) := by decide +kernel
theorem dX12_unifyNow_149 : decode cX12_unifyNow 149 = .ok (.baload, 1) := by decide +kernel
theorem dX12_unifyNow_150 : decode cX12_unifyNow 150 = .ok (.ifCond .ne 21, 3) := by decide +kernel
theorem dX12_unifyNow_153 : decode cX12_unifyNow 153 = .ok (.aload_n 0, 1) := by decide +kernel
theorem dX12_unifyNow_154 : decode cX12_unifyNow 154 = .ok (.getfield 95, 3) := by decide +kernel
theorem dX12_unifyNow_157 : decode cX12_unifyNow 157 = .ok (.bipush 100, 2) := by decide +kernel
theorem dX12_unifyNow_159 : decode cX12_unifyNow 159 = .ok (.iload_n 1, 1) := by decide +kernel
theorem dX12_unifyNow_160 : decode cX12_unifyNow 160 = .ok (.imul, 1) := by decide +kernel
theorem dX12_unifyNow_161 : decode cX12_unifyNow 161 = .ok (.iload_n 2, 1) := by decide +kernel
theorem dX12_unifyNow_162 : decode cX12_unifyNow 162 = .ok (.iadd, 1) := by decide +kernel
theorem dX12_unifyNow_163 : decode cX12_unifyNow 163 = .ok (.iconst 1, 1) := by decide +kernel
theorem dX12_unifyNow_164 : decode cX12_unifyNow 164 = .ok (.bastore, 1) := by decide +kernel
theorem dX12_unifyNow_165 : decode cX12_unifyNow 165 = .ok (.aload_n 0, 1) := by decide +kernel
theorem dX12_unifyNow_166 : decode cX12_unifyNow 166 = .ok (.iload_n 1, 1) := by decide +kernel
theorem dX12_unifyNow_167 : decode cX12_unifyNow 167 = .ok (.iload_n 2, 1) := by decide +kernel
theorem dX12_unifyNow_168 : decode cX12_unifyNow 168 = .ok (.invokevirtual 229, 3) := by decide +kernel
theorem dX12_unifyNow_171 : decode cX12_unifyNow 171 = .ok (.iconst 0, 1) := by decide +kernel
theorem dX12_unifyNow_172 : decode cX12_unifyNow 172 = .ok (.ireturn, 1) := by decide +kernel
theorem dX12_unify_0 : decode cX12_unify 0 = .ok (.aload_n 0, 1) := by decide +kernel
theorem dX12_unify_1 : decode cX12_unify 1 = .ok (.iload_n 1, 1) := by decide +kernel
theorem dX12_unify_2 : decode cX12_unify 2 = .ok (.invokevirtual 199, 3) := by decide +kernel
theorem dX12_unify_5 : decode cX12_unify 5 = .ok (.ifCond .eq 11, 3) := by decide +kernel
theorem dX12_unify_8 : decode cX12_unify 8 = .ok (.aload_n 0, 1) := by decide +kernel
theorem dX12_unify_9 : decode cX12_unify 9 = .ok (.iload_n 2, 1) := by decide +kernel
theorem dX12_unify_10 : decode cX12_unify 10 = .ok (.invokevirtual 199, 3) := by decide +kernel
theorem dX12_unify_13 : decode cX12_unify 13 = .ok (.ifCond .ne 6, 3) := by decide +kernel
theorem dX12_unify_16 : decode cX12_unify 16 = .ok (.bipush (-3), 2) := by decide +kernel
theorem dX12_unify_18 : decode cX12_unify 18 = .ok (.ireturn, 1) := by decide +kernel
theorem dX12_unify_19 : decode cX12_unify 19 = .ok (.aload_n 0, 1) := by decide +kernel
theorem dX12_unify_20 : decode cX12_unify 20 = .ok (.getfield 22, 3) := by decide +kernel
theorem dX12_unify_23 : decode cX12_unify 23 = .ok (.iload_n 1, 1) := by decide +kernel
theorem dX12_unify_24 : decode cX12_unify 24 = .ok (.iaload, 1) := by decide +kernel
theorem dX12_unify_25 : decode cX12_unify 25 = .ok (.aload_n 0, 1) := by decide +kernel
theorem dX12_unify_26 : decode cX12_unify 26 = .ok (.getfield 22, 3) := by decide +kernel
theorem dX12_unify_29 : decode cX12_unify 29 = .ok (.iload_n 2, 1) := by decide +kernel
theorem dX12_unify_30 : decode cX12_unify 30 = .ok (.iaload, 1) := by decide +kernel
theorem dX12_unify_31 : decode cX12_unify 31 = .ok (.if_icmp .eq 6, 3) := by decide +kernel
theorem dX12_unify_34 : decode cX12_unify 34 = .ok (.bipush (-5), 2) := by decide +kernel
theorem dX12_unify_36 : decode cX12_unify 36 = .ok (.ireturn, 1) := by decide +kernel
theorem dX12_unify_37 : decode cX12_unify 37 = .ok (.aload_n 0, 1) := by decide +kernel
theorem dX12_unify_38 : decode cX12_unify 38 = .ok (.iload_n 1, 1) := by decide +kernel
theorem dX12_unify_39 : decode cX12_unify 39 = .ok (.iload_n 2, 1) := by decide +kernel
theorem dX12_unify_40 : decode cX12_unify 40 = .ok (.invokevirtual 226, 3) := by decide +kernel
theorem dX12_unify_43 : decode cX12_unify 43 = .ok (.aload_n 0, 1) := by decide +kernel
theorem dX12_unify_44 : decode cX12_unify 44 = .ok (.iconst 0, 1) := by decide +kernel
theorem dX12_unify_45 : decode cX12_unify 45 = .ok (.putfield 232, 3) := by decide +kernel
theorem dX12_unify_48 : decode cX12_unify 48 = .ok (.aload_n 0, 1) := by decide +kernel
theorem dX12_unify_49 : decode cX12_unify 49 = .ok (.getfield 223, 3) := by decide +kernel
theorem dX12_unify_52 : decode cX12_unify 52 = .ok (.ifCond .le 104, 3) := by decide +kernel
theorem dX12_unify_55 : decode cX12_unify 55 = .ok (.aload_n 0, 1) := by decide +kernel
theorem dX12_unify_56 : decode cX12_unify 56 = .ok (.dup, 1) := by decide +kernel
theorem dX12_unify_57 : decode cX12_unify 57 = .ok (.getfield 223, 3) := by decide +kernel
theorem dX12_unify_60 : decode cX12_unify 60 = .ok (.iconst 1, 1) := by decide +kernel
theorem dX12_unify_61 : decode cX12_unify 61 = .ok (.isub, 1) := by decide +kernel
theorem dX12_unify_62 : decode cX12_unify 62 = .ok (.putfield 223, 3) := by decide +kernel
theorem dX12_unify_65 : decode cX12_unify 65 = .ok (.aload_n 0, 1) := by decide +kernel
theorem dX12_unify_66 : decode cX12_unify 66 = .ok (.aload_n 0, 1) := by decide +kernel
theorem dX12_unify_67 : decode cX12_unify 67 = .ok (.getfield 89, 3) := by decide +kernel
theorem dX12_unify_70 : decode cX12_unify 70 = .ok (.aload_n 0, 1) := by decide +kernel
theorem dX12_unify_71 : decode cX12_unify 71 = .ok (.getfield 223, 3) := by decide +kernel
theorem dX12_unify_74 : decode cX12_unify 74 = .ok (.iaload, 1) := by decide +kernel
theorem dX12_unify_75 : decode cX12_unify 75 = .ok (.invokevirtual 205, 3) := by decide +kernel
theorem dX12_unify_78 : decode cX12_unify 78 = .ok (.istore_n 3, 1) := by decide +kernel
theorem dX12_unify_79 : decode cX12_unify 79 = .ok (.aload_n 0, 1) := by decide +kernel
theorem dX12_unify_80 : decode cX12_unify 80 = .ok (.aload_n 0, 1) := by decide +kernel
theorem dX12_unify_81 : decode cX12_unify 81 = .ok (.getfield 92, 3) := by decide +kernel
theorem dX12_unify_84 : decode cX12_unify 84 = .ok (.aload_n 0, 1) := by decide +kernel
theorem dX12_unify_85 : decode cX12_unify 85 = .ok (.getfield 223, 3) := by decide +kernel
theorem dX12_unify_88 : decode cX12_unify 88 = .ok (.iaload, 1) := by decide +kernel
theorem dX12_unify_89 : decode cX12_unify 89 = .ok (.invokevirtual 205, 3) := by decide +kernel
theorem dX12_unify_92 : decode cX12_unify 92 = .ok (.istore 4, 2) := by decide +kernel
theorem dX12_unify_94 : decode cX12_unify 94 = .ok (.iload_n 3, 1) := by decide +kernel
theorem dX12_unify_95 : decode cX12_unify 95 = .ok (.iload 4, 2) := by decide +kernel
theorem dX12_unify_97 : decode cX12_unify 97 = .ok (.if_icmp .ne 7, 3) := by decide +kernel
theorem dX12_unify_100 : decode cX12_unify 100 = .ok (.iconst 0, 1) := by decide +kernel
theorem dX12_unify_101 : decode cX12_unify 101 = .ok (.goto 10, 3) := by decide +kernel
theorem dX12_unify_104 : decode cX12_unify 104 = .ok (.aload_n 0, 1) := by decide +kernel
theorem dX12_unify_105 : decode cX12_unify 105 = .ok (.iload_n 3, 1) := by decide +kernel
theorem dX12_unify_106 : decode cX12_unify 106 = .ok (.iload 4, 2) := by decide +kernel
theorem dX12_unify_108 : decode cX12_unify 108 = .ok (.invokevirtual 242, 3) := by decide +kernel
theorem dX12_unify_111 : decode cX12_unify 111 = .ok (.istore 5, 2) := by decide +kernel
theorem dX12_unify_113 : decode cX12_unify 113 = .ok (.iload 5, 2) := by decide +kernel
theorem dX12_unify_115 : decode cX12_unify 115 = .ok (.ifCond .eq 38, 3) := by decide +kernel
theorem dX12_unify_118 : decode cX12_unify 118 = .ok (.iconst 0, 1) := by decide +kernel
theorem dX12_unify_119 : decode cX12_unify 119 = .ok (.istore 6, 2) := by decide +kernel
theorem dX12_unify_121 : decode cX12_unify 121 = .ok (.iload 6, 2) := by decide +kernel
theorem dX12_unify_123 : decode cX12_unify 123 = .ok (.aload_n 0, 1) := by decide +kernel
theorem dX12_unify_124 : decode cX12_unify 124 = .ok (.getfield 232, 3) := by decide +kernel
theorem dX12_unify_127 : decode cX12_unify 127 = .ok (.if_icmp .ge 23, 3) := by decide +kernel
theorem dX12_unify_130 : decode cX12_unify 130 = .ok (.aload_n 0, 1) := by decide +kernel
theorem dX12_unify_131 : decode cX12_unify 131 = .ok (.getfield 28, 3) := by decide +kernel
theorem dX12_unify_134 : decode cX12_unify 134 = .ok (.aload_n 0, 1) := by decide +kernel
theorem dX12_unify_135 : decode cX12_unify 135 = .ok (.getfield 98, 3) := by decide +kernel
theorem dX12_unify_138 : decode cX12_unify 138 = .ok (.iload 6, 2) := by decide +kernel
theorem dX12_unify_140 : decode cX12_unify 140 = .ok (.iaload, 1) := by decide +kernel
theorem dX12_unify_141 : decode cX12_unify 141 = .ok (.bipush (-13), 2) := by decide +kernel
theorem dX12_unify_143 : decode cX12_unify 143 = .ok (.iastore, 1) := by decide +kernel
theorem dX12_unify_144 : decode cX12_unify 144 = .ok (.iinc 6 1, 3) := by decide +kernel
theorem dX12_unify_147 : decode cX12_unify 147 = .ok (.goto (-26), 3) := by decide +kernel
theorem dX12_unify_150 : decode cX12_unify 150 = .ok (.iload 5, 2) := by decide +kernel
theorem dX12_unify_152 : decode cX12_unify 152 = .ok (.ireturn, 1) := by decide +kernel
theorem dX12_unify_153 : decode cX12_unify 153 = .ok (.goto (-105), 3) := by decide +kernel
theorem dX12_unify_156 : decode cX12_unify 156 = .ok (.iconst 1, 1) := by decide +kernel
theorem dX12_unify_157 : decode cX12_unify 157 = .ok (.ireturn, 1) := by decide +kernel
theorem dX12_boundCount_0 : decode cX12_boundCount 0 = .ok (.iconst 0, 1) := by decide +kernel
theorem dX12_boundCount_1 : decode cX12_boundCount 1 = .ok (.istore_n 1, 1) := by decide +kernel
theorem dX12_boundCount_2 : decode cX12_boundCount 2 = .ok (.iconst 0, 1) := by decide +kernel
theorem dX12_boundCount_3 : decode cX12_boundCount 3 = .ok (.istore_n 2, 1) := by decide +kernel
theorem dX12_boundCount_4 : decode cX12_boundCount 4 = .ok (.iload_n 2, 1) := by decide +kernel
theorem dX12_boundCount_5 : decode cX12_boundCount 5 = .ok (.aload_n 0, 1) := by decide +kernel
theorem dX12_boundCount_6 : decode cX12_boundCount 6 = .ok (.getfield 124, 3) := by decide +kernel
theorem dX12_boundCount_9 : decode cX12_boundCount 9 = .ok (.if_icmp .ge 26, 3) := by decide +kernel
theorem dX12_boundCount_12 : decode cX12_boundCount 12 = .ok (.iload_n 1, 1) := by decide +kernel
theorem dX12_boundCount_13 : decode cX12_boundCount 13 = .ok (.aload_n 0, 1) := by decide +kernel
theorem dX12_boundCount_14 : decode cX12_boundCount 14 = .ok (.getfield 28, 3) := by decide +kernel
theorem dX12_boundCount_17 : decode cX12_boundCount 17 = .ok (.iload_n 2, 1) := by decide +kernel
theorem dX12_boundCount_18 : decode cX12_boundCount 18 = .ok (.iaload, 1) := by decide +kernel
theorem dX12_boundCount_19 : decode cX12_boundCount 19 = .ok (.ifCond .lt 7, 3) := by decide +kernel
theorem dX12_boundCount_22 : decode cX12_boundCount 22 = .ok (.iconst 1, 1) := by decide +kernel
theorem dX12_boundCount_23 : decode cX12_boundCount 23 = .ok (.goto 4, 3) := by decide +kernel
theorem dX12_boundCount_26 : decode cX12_boundCount 26 = .ok (.iconst 0, 1) := by decide +kernel
theorem dX12_boundCount_27 : decode cX12_boundCount 27 = .ok (.iadd, 1) := by decide +kernel
theorem dX12_boundCount_28 : decode cX12_boundCount 28 = .ok (.istore_n 1, 1) := by decide +kernel
theorem dX12_boundCount_29 : decode cX12_boundCount 29 = .ok (.iinc 2 1, 3) := by decide +kernel
theorem dX12_boundCount_32 : decode cX12_boundCount 32 = .ok (.goto (-28), 3) := by decide +kernel
theorem dX12_boundCount_35 : decode cX12_boundCount 35 = .ok (.iload_n 1, 1) := by decide +kernel
theorem dX12_boundCount_36 : decode cX12_boundCount 36 = .ok (.ireturn, 1) := by decide +kernel
theorem dX12_unbindAll_0 : decode cX12_unbindAll 0 = .ok (.aload_n 0, 1) := by decide +kernel
theorem dX12_unbindAll_1 : decode cX12_unbindAll 1 = .ok (.invokevirtual 245, 3) := by decide +kernel
theorem dX12_unbindAll_4 : decode cX12_unbindAll 4 = .ok (.istore_n 1, 1) := by decide +kernel
theorem dX12_unbindAll_5 : decode cX12_unbindAll 5 = .ok (.iconst 0, 1) := by decide +kernel
theorem dX12_unbindAll_6 : decode cX12_unbindAll 6 = .ok (.istore_n 2, 1) := by decide +kernel
theorem dX12_unbindAll_7 : decode cX12_unbindAll 7 = .ok (.iload_n 2, 1) := by decide +kernel
theorem dX12_unbindAll_8 : decode cX12_unbindAll 8 = .ok (.aload_n 0, 1) := by decide +kernel
theorem dX12_unbindAll_9 : decode cX12_unbindAll 9 = .ok (.getfield 124, 3) := by decide +kernel
theorem dX12_unbindAll_12 : decode cX12_unbindAll 12 = .ok (.if_icmp .ge 17, 3) := by decide +kernel
theorem dX12_unbindAll_15 : decode cX12_unbindAll 15 = .ok (.aload_n 0, 1) := by decide +kernel
theorem dX12_unbindAll_16 : decode cX12_unbindAll 16 = .ok (.getfield 28, 3) := by decide +kernel
theorem dX12_unbindAll_19 : decode cX12_unbindAll 19 = .ok (.iload_n 2, 1) := by decide +kernel
theorem dX12_unbindAll_20 : decode cX12_unbindAll 20 = .ok (.bipush (-13), 2) := by decide +kernel
theorem dX12_unbindAll_22 : decode cX12_unbindAll 22 = .ok (.iastore, 1) := by decide +kernel
theorem dX12_unbindAll_23 : decode cX12_unbindAll 23 = .ok (.iinc 2 1, 3) := by decide +kernel
theorem dX12_unbindAll_26 : decode cX12_unbindAll 26 = .ok (.goto (-19), 3) := by decide +kernel
theorem dX12_unbindAll_29 : decode cX12_unbindAll 29 = .ok (.iload_n 1, 1) := by decide +kernel
theorem dX12_unbindAll_30 : decode cX12_unbindAll 30 = .ok (.ireturn, 1) := by decide +kernel
theorem dX12_push_0 : decode cX12_push 0 = .ok (.aload_n 0, 1) := by decide +kernel
theorem dX12_push_1 : decode cX12_push 1 = .ok (.getfield 248, 3) := by decide +kernel
theorem dX12_push_4 : decode cX12_push 4 = .ok (.bipush 8, 2) := by decide +kernel
theorem dX12_push_6 : decode cX12_push 6 = .ok (.if_icmp .ne 6, 3) := by decide +kernel
theorem dX12_push_9 : decode cX12_push 9 = .ok (.bipush (-6), 2) := by decide +kernel
theorem dX12_push_11 : decode cX12_push 11 = .ok (.ireturn, 1) := by decide +kernel
theorem dX12_push_12 : decode cX12_push 12 = .ok (.iconst 0, 1) := by decide +kernel
theorem dX12_push_13 : decode cX12_push 13 = .ok (.istore_n 1, 1) := by decide +kernel
theorem dX12_push_14 : decode cX12_push 14 = .ok (.iload_n 1, 1) := by decide +kernel
theorem dX12_push_15 : decode cX12_push 15 = .ok (.bipush 100, 2) := by decide +kernel
theorem dX12_push_17 : decode cX12_push 17 = .ok (.if_icmp .ge 42, 3) := by decide +kernel
theorem dX12_push_20 : decode cX12_push 20 = .ok (.aload_n 0, 1) := by decide +kernel
theorem dX12_push_21 : decode cX12_push 21 = .ok (.getfield 31, 3) := by decide +kernel
theorem dX12_push_24 : decode cX12_push 24 = .ok (.bipush 100, 2) := by decide +kernel
theorem dX12_push_26 : decode cX12_push 26 = .ok (.aload_n 0, 1) := by decide +kernel
theorem dX12_push_27 : decode cX12_push 27 = .ok (.getfield 248, 3) := by decide +kernel
theorem dX12_push_30 : decode cX12_push 30 = .ok (.imul, 1) := by decide +kernel
theorem dX12_push_31 : decode cX12_push 31 = .ok (.iload_n 1, 1) := by decide +kernel
theorem dX12_push_32 : decode cX12_push 32 = .ok (.iadd, 1) := by decide +kernel
theorem dX12_push_33 : decode cX12_push 33 = .ok (.iload_n 1, 1) := by decide +kernel
theorem dX12_push_34 : decode cX12_push 34 = .ok (.aload_n 0, 1) := by decide +kernel
theorem dX12_push_35 : decode cX12_push 35 = .ok (.getfield 124, 3) := by decide +kernel
theorem dX12_push_38 : decode cX12_push 38 = .ok (.if_icmp .ge 12, 3) := by decide +kernel
theorem dX12_push_41 : decode cX12_push 41 = .ok (.aload_n 0, 1) := by decide +kernel
theorem dX12_push_42 : decode cX12_push 42 = .ok (.getfield 28, 3) := by decide +kernel
theorem dX12_push_45 : decode cX12_push 45 = .ok (.iload_n 1, 1) := by decide +kernel
theorem dX12_push_46 : decode cX12_push 46 = .ok (.iaload, 1) := by decide +kernel
theorem dX12_push_47 : decode cX12_push 47 = .ok (.goto 5, 3) := by decide +kernel
theorem dX12_push_50 : decode cX12_push 50 = .ok (.bipush (-13), 2) := by decide +kernel
theorem dX12_push_52 : decode cX12_push 52 = .ok (.iastore, 1) := by decide +kernel
theorem dX12_push_53 : decode cX12_push 53 = .ok (.iinc 1 1, 3) := by decide +kernel
theorem dX12_push_56 : decode cX12_push 56 = .ok (.goto (-42), 3) := by decide +kernel
theorem dX12_push_59 : decode cX12_push 59 = .ok (.aload_n 0, 1) := by decide +kernel
theorem dX12_push_60 : decode cX12_push 60 = .ok (.dup, 1) := by decide +kernel
theorem dX12_push_61 : decode cX12_push 61 = .ok (.getfield 248, 3) := by decide +kernel
theorem dX12_push_64 : decode cX12_push 64 = .ok (.iconst 1, 1) := by decide +kernel
theorem dX12_push_65 : decode cX12_push 65 = .ok (.iadd, 1) := by decide +kernel
theorem dX12_push_66 : decode cX12_push 66 = .ok (.putfield 248, 3) := by decide +kernel
theorem dX12_push_69 : decode cX12_push 69 = .ok (.aload_n 0, 1) := by decide +kernel
theorem dX12_push_70 : decode cX12_push 70 = .ok (.getfield 248, 3) := by decide +kernel
theorem dX12_push_73 : decode cX12_push 73 = .ok (.ireturn, 1) := by decide +kernel
theorem dX12_pop_0 : decode cX12_pop 0 = .ok (.aload_n 0, 1) := by decide +kernel
theorem dX12_pop_1 : decode cX12_pop 1 = .ok (.getfield 248, 3) := by decide +kernel
theorem dX12_pop_4 : decode cX12_pop 4 = .ok (.ifCond .ne 6, 3) := by decide +kernel
theorem dX12_pop_7 : decode cX12_pop 7 = .ok (.bipush (-12), 2) := by decide +kernel
theorem dX12_pop_9 : decode cX12_pop 9 = .ok (.ireturn, 1) := by decide +kernel
theorem dX12_pop_10 : decode cX12_pop 10 = .ok (.aload_n 0, 1) := by decide +kernel
theorem dX12_pop_11 : decode cX12_pop 11 = .ok (.dup, 1) := by decide +kernel
theorem dX12_pop_12 : decode cX12_pop 12 = .ok (.getfield 248, 3) := by decide +kernel
theorem dX12_pop_15 : decode cX12_pop 15 = .ok (.iconst 1, 1) := by decide +kernel
theorem dX12_pop_16 : decode cX12_pop 16 = .ok (.isub, 1) := by decide +kernel
theorem dX12_pop_17 : decode cX12_pop 17 = .ok (.putfield 248, 3) := by decide +kernel
theorem dX12_pop_20 : decode cX12_pop 20 = .ok (.iconst 0, 1) := by decide +kernel
theorem dX12_pop_21 : decode cX12_pop 21 = .ok (.istore_n 1, 1) := by decide +kernel
theorem dX12_pop_22 : decode cX12_pop 22 = .ok (.iload_n 1, 1) := by decide +kernel
theorem dX12_pop_23 : decode cX12_pop 23 = .ok (.aload_n 0, 1) := by decide +kernel
theorem dX12_pop_24 : decode cX12_pop 24 = .ok (.getfield 124, 3) := by decide +kernel
theorem dX12_pop_27 : decode cX12_pop 27 = .ok (.if_icmp .ge 29, 3) := by decide +kernel
theorem dX12_pop_30 : decode cX12_pop 30 = .ok (.aload_n 0, 1) := by decide +kernel
theorem dX12_pop_31 : decode cX12_pop 31 = .ok (.getfield 28, 3) := by decide +kernel
theorem dX12_pop_34 : decode cX12_pop 34 = .ok (.iload_n 1, 1) := by decide +kernel
theorem dX12_pop_35 : decode cX12_pop 35 = .ok (.aload_n 0, 1) := by decide +kernel
theorem dX12_pop_36 : decode cX12_pop 36 = .ok (.getfield 31, 3) := by decide +kernel
theorem dX12_pop_39 : decode cX12_pop 39 = .ok (.bipush 100, 2) := by decide +kernel
theorem dX12_pop_41 : decode cX12_pop 41 = .ok (.aload_n 0, 1) := by decide +kernel
theorem dX12_pop_42 : decode cX12_pop 42 = .ok (.getfield 248, 3) := by decide +kernel
theorem dX12_pop_45 : decode cX12_pop 45 = .ok (.imul, 1) := by decide +kernel
theorem dX12_pop_46 : decode cX12_pop 46 = .ok (.iload_n 1, 1) := by decide +kernel
theorem dX12_pop_47 : decode cX12_pop 47 = .ok (.iadd, 1) := by decide +kernel
theorem dX12_pop_48 : decode cX12_pop 48 = .ok (.iaload, 1) := by decide +kernel
theorem dX12_pop_49 : decode cX12_pop 49 = .ok (.iastore, 1) := by decide +kernel
theorem dX12_pop_50 : decode cX12_pop 50 = .ok (.iinc 1 1, 3) := by decide +kernel
theorem dX12_pop_53 : decode cX12_pop 53 = .ok (.goto (-31), 3) := by decide +kernel
theorem dX12_pop_56 : decode cX12_pop 56 = .ok (.aload_n 0, 1) := by decide +kernel
theorem dX12_pop_57 : decode cX12_pop 57 = .ok (.getfield 248, 3) := by decide +kernel
theorem dX12_pop_60 : decode cX12_pop 60 = .ok (.ireturn, 1) := by decide +kernel
theorem dX12_addRow_0 : decode cX12_addRow 0 = .ok (.aload_n 0, 1) := by decide +kernel
theorem dX12_addRow_1 : decode cX12_addRow 1 = .ok (.iload_n 1, 1) := by decide +kernel
theorem dX12_addRow_2 : decode cX12_addRow 2 = .ok (.invokevirtual 199, 3) := by decide +kernel
theorem dX12_addRow_5 : decode cX12_addRow 5 = .ok (.ifCond .ne 6, 3) := by decide +kernel
theorem dX12_addRow_8 : decode cX12_addRow 8 = .ok (.bipush (-3), 2) := by decide +kernel
theorem dX12_addRow_10 : decode cX12_addRow 10 = .ok (.ireturn, 1) := by decide +kernel
theorem dX12_addRow_11 : decode cX12_addRow 11 = .ok (.aload_n 0, 1) := by decide +kernel
theorem dX12_addRow_12 : decode cX12_addRow 12 = .ok (.getfield 251, 3) := by decide +kernel
theorem dX12_addRow_15 : decode cX12_addRow 15 = .ok (.ifCond .le 26, 3) := by decide +kernel
theorem dX12_addRow_18 : decode cX12_addRow 18 = .ok (.aload_n 0, 1) := by decide +kernel
theorem dX12_addRow_19 : decode cX12_addRow 19 = .ok (.getfield 22, 3) := by decide +kernel
theorem dX12_addRow_22 : decode cX12_addRow 22 = .ok (.aload_n 0, 1) := by decide +kernel
theorem dX12_addRow_23 : decode cX12_addRow 23 = .ok (.getfield 34, 3) := by decide +kernel
theorem dX12_addRow_26 : decode cX12_addRow 26 = .ok (.iconst 0, 1) := by decide +kernel
theorem dX12_addRow_27 : decode cX12_addRow 27 = .ok (.iaload, 1) := by decide +kernel
theorem dX12_addRow_28 : decode cX12_addRow 28 = .ok (.iaload, 1) := by decide +kernel
theorem dX12_addRow_29 : decode cX12_addRow 29 = .ok (.aload_n 0, 1) := by decide +kernel
theorem dX12_addRow_30 : decode cX12_addRow 30 = .ok (.getfield 22, 3) := by decide +kernel
theorem dX12_addRow_33 : decode cX12_addRow 33 = .ok (.iload_n 1, 1) := by decide +kernel
theorem dX12_addRow_34 : decode cX12_addRow 34 = .ok (.iaload, 1) := by decide +kernel
theorem dX12_addRow_35 : decode cX12_addRow 35 = .ok (.if_icmp .eq 6, 3) := by decide +kernel
theorem dX12_addRow_38 : decode cX12_addRow 38 = .ok (.bipush (-5), 2) := by decide +kernel
theorem dX12_addRow_40 : decode cX12_addRow 40 = .ok (.ireturn, 1) := by decide +kernel
theorem dX12_addRow_41 : decode cX12_addRow 41 = .ok (.aload_n 0, 1) := by decide +kernel
theorem dX12_addRow_42 : decode cX12_addRow 42 = .ok (.getfield 251, 3) := by decide +kernel
theorem dX12_addRow_45 : decode cX12_addRow 45 = .ok (.bipush 8, 2) := by decide +kernel
theorem dX12_addRow_47 : decode cX12_addRow 47 = .ok (.if_icmp .ne 6, 3) := by decide +kernel
theorem dX12_addRow_50 : decode cX12_addRow 50 = .ok (.bipush (-6), 2) := by decide +kernel
theorem dX12_addRow_52 : decode cX12_addRow 52 = .ok (.ireturn, 1) := by decide +kernel
theorem dX12_addRow_53 : decode cX12_addRow 53 = .ok (.aload_n 0, 1) := by decide +kernel
theorem dX12_addRow_54 : decode cX12_addRow 54 = .ok (.getfield 34, 3) := by decide +kernel
theorem dX12_addRow_57 : decode cX12_addRow 57 = .ok (.aload_n 0, 1) := by decide +kernel
theorem dX12_addRow_58 : decode cX12_addRow 58 = .ok (.getfield 251, 3) := by decide +kernel
theorem dX12_addRow_61 : decode cX12_addRow 61 = .ok (.iload_n 1, 1) := by decide +kernel
theorem dX12_addRow_62 : decode cX12_addRow 62 = .ok (.iastore, 1) := by decide +kernel
theorem dX12_addRow_63 : decode cX12_addRow 63 = .ok (.aload_n 0, 1) := by decide +kernel
theorem dX12_addRow_64 : decode cX12_addRow 64 = .ok (.dup, 1) := by decide +kernel
theorem dX12_addRow_65 : decode cX12_addRow 65 = .ok (.getfield 251, 3) := by decide +kernel
theorem dX12_addRow_68 : decode cX12_addRow 68 = .ok (.iconst 1, 1) := by decide +kernel
theorem dX12_addRow_69 : decode cX12_addRow 69 = .ok (.iadd, 1) := by decide +kernel
theorem dX12_addRow_70 : decode cX12_addRow 70 = .ok (.putfield 251, 3) := by decide +kernel
theorem dX12_addRow_73 : decode cX12_addRow 73 = .ok (.aload_n 0, 1) := by decide +kernel
theorem dX12_addRow_74 : decode cX12_addRow 74 = .ok (.getfield 251, 3) := by decide +kernel
theorem dX12_addRow_77 : decode cX12_addRow 77 = .ok (.iconst 1, 1) := by decide +kernel
theorem dX12_addRow_78 : decode cX12_addRow 78 = .ok (.isub, 1) := by decide +kernel
theorem dX12_addRow_79 : decode cX12_addRow 79 = .ok (.ireturn, 1) := by decide +kernel
theorem dX12_clearRows_0 : decode cX12_clearRows 0 = .ok (.aload_n 0, 1) := by decide +kernel
theorem dX12_clearRows_1 : decode cX12_clearRows 1 = .ok (.getfield 251, 3) := by decide +kernel
theorem dX12_clearRows_4 : decode cX12_clearRows 4 = .ok (.istore_n 1, 1) := by decide +kernel
theorem dX12_clearRows_5 : decode cX12_clearRows 5 = .ok (.aload_n 0, 1) := by decide +kernel
theorem dX12_clearRows_6 : decode cX12_clearRows 6 = .ok (.iconst 0, 1) := by decide +kernel
theorem dX12_clearRows_7 : decode cX12_clearRows 7 = .ok (.putfield 251, 3) := by decide +kernel
theorem dX12_clearRows_10 : decode cX12_clearRows 10 = .ok (.iload_n 1, 1) := by decide +kernel
theorem dX12_clearRows_11 : decode cX12_clearRows 11 = .ok (.ireturn, 1) := by decide +kernel
theorem dX12_areSame_0 : decode cX12_areSame 0 = .ok (.aload_n 0, 1) := by decide +kernel
theorem dX12_areSame_1 : decode cX12_areSame 1 = .ok (.getfield 56, 3) := by decide +kernel
theorem dX12_areSame_4 : decode cX12_areSame 4 = .ok (.iload_n 1, 1) := by decide +kernel
theorem dX12_areSame_5 : decode cX12_areSame 5 = .ok (.iaload, 1) := by decide +kernel
theorem dX12_areSame_6 : decode cX12_areSame 6 = .ok (.aload_n 0, 1) := by decide +kernel
theorem dX12_areSame_7 : decode cX12_areSame 7 = .ok (.getfield 56, 3) := by decide +kernel
theorem dX12_areSame_10 : decode cX12_areSame 10 = .ok (.iload_n 2, 1) := by decide +kernel
theorem dX12_areSame_11 : decode cX12_areSame 11 = .ok (.iaload, 1) := by decide +kernel
theorem dX12_areSame_12 : decode cX12_areSame 12 = .ok (.if_icmp .ne 7, 3) := by decide +kernel
theorem dX12_areSame_15 : decode cX12_areSame 15 = .ok (.iconst 1, 1) := by decide +kernel
theorem dX12_areSame_16 : decode cX12_areSame 16 = .ok (.goto 4, 3) := by decide +kernel
theorem dX12_areSame_19 : decode cX12_areSame 19 = .ok (.iconst 0, 1) := by decide +kernel
theorem dX12_areSame_20 : decode cX12_areSame 20 = .ok (.istore_n 3, 1) := by decide +kernel
theorem dX12_areSame_21 : decode cX12_areSame 21 = .ok (.iconst 0, 1) := by decide +kernel
theorem dX12_areSame_22 : decode cX12_areSame 22 = .ok (.istore 4, 2) := by decide +kernel
theorem dX12_areSame_24 : decode cX12_areSame 24 = .ok (.iload 4, 2) := by decide +kernel
theorem dX12_areSame_26 : decode cX12_areSame 26 = .ok (.aload_n 0, 1) := by decide +kernel
theorem dX12_areSame_27 : decode cX12_areSame 27 = .ok (.getfield 56, 3) := by decide +kernel
theorem dX12_areSame_30 : decode cX12_areSame 30 = .ok (.iload_n 1, 1) := by decide +kernel
theorem dX12_areSame_31 : decode cX12_areSame 31 = .ok (.iaload, 1) := by decide +kernel
theorem dX12_areSame_32 : decode cX12_areSame 32 = .ok (.if_icmp .ge 40, 3) := by decide +kernel
theorem dX12_areSame_35 : decode cX12_areSame 35 = .ok (.iload_n 3, 1) := by decide +kernel
theorem dX12_areSame_36 : decode cX12_areSame 36 = .ok (.ifCond .eq 36, 3) := by decide +kernel
theorem dX12_areSame_39 : decode cX12_areSame 39 = .ok (.aload_n 0, 1) := by decide +kernel
theorem dX12_areSame_40 : decode cX12_areSame 40 = .ok (.getfield 53, 3) := by decide +kernel
theorem dX12_areSame_43 : decode cX12_areSame 43 = .ok (.iload_n 1, 1) := by decide +kernel
theorem dX12_areSame_44 : decode cX12_areSame 44 = .ok (.iload 4, 2) := by decide +kernel
theorem dX12_areSame_46 : decode cX12_areSame 46 = .ok (.iadd, 1) := by decide +kernel
theorem dX12_areSame_47 : decode cX12_areSame 47 = .ok (.iaload, 1) := by decide +kernel
theorem dX12_areSame_48 : decode cX12_areSame 48 = .ok (.aload_n 0, 1) := by decide +kernel
theorem dX12_areSame_49 : decode cX12_areSame 49 = .ok (.getfield 53, 3) := by decide +kernel
theorem dX12_areSame_52 : decode cX12_areSame 52 = .ok (.iload_n 2, 1) := by decide +kernel
theorem dX12_areSame_53 : decode cX12_areSame 53 = .ok (.iload 4, 2) := by decide +kernel
theorem dX12_areSame_55 : decode cX12_areSame 55 = .ok (.iadd, 1) := by decide +kernel
theorem dX12_areSame_56 : decode cX12_areSame 56 = .ok (.iaload, 1) := by decide +kernel
theorem dX12_areSame_57 : decode cX12_areSame 57 = .ok (.if_icmp .ne 7, 3) := by decide +kernel
theorem dX12_areSame_60 : decode cX12_areSame 60 = .ok (.iconst 1, 1) := by decide +kernel
theorem dX12_areSame_61 : decode cX12_areSame 61 = .ok (.goto 4, 3) := by decide +kernel
theorem dX12_areSame_64 : decode cX12_areSame 64 = .ok (.iconst 0, 1) := by decide +kernel
theorem dX12_areSame_65 : decode cX12_areSame 65 = .ok (.istore_n 3, 1) := by decide +kernel
theorem dX12_areSame_66 : decode cX12_areSame 66 = .ok (.iinc 4 1, 3) := by decide +kernel
theorem dX12_areSame_69 : decode cX12_areSame 69 = .ok (.goto (-45), 3) := by decide +kernel
theorem dX12_areSame_72 : decode cX12_areSame 72 = .ok (.iload_n 3, 1) := by decide +kernel
theorem dX12_areSame_73 : decode cX12_areSame 73 = .ok (.ireturn, 1) := by decide +kernel
theorem dX12_matches_0 : decode cX12_matches 0 = .ok (.iconst 0, 1) := by decide +kernel
theorem dX12_matches_1 : decode cX12_matches 1 = .ok (.istore_n 2, 1) := by decide +kernel
theorem dX12_matches_2 : decode cX12_matches 2 = .ok (.iload_n 2, 1) := by decide +kernel
theorem dX12_matches_3 : decode cX12_matches 3 = .ok (.aload_n 0, 1) := by decide +kernel
theorem dX12_matches_4 : decode cX12_matches 4 = .ok (.getfield 124, 3) := by decide +kernel
theorem dX12_matches_7 : decode cX12_matches 7 = .ok (.if_icmp .ge 17, 3) := by decide +kernel
theorem dX12_matches_10 : decode cX12_matches 10 = .ok (.aload_n 0, 1) := by decide +kernel
theorem dX12_matches_11 : decode cX12_matches 11 = .ok (.getfield 107, 3) := by decide +kernel
theorem dX12_matches_14 : decode cX12_matches 14 = .ok (.iload_n 2, 1) := by decide +kernel
theorem dX12_matches_15 : decode cX12_matches 15 = .ok (.bipush (-13), 2) := by decide +kernel
theorem dX12_matches_17 : decode cX12_matches 17 = .ok (.iastore, 1) := by decide +kernel
theorem dX12_matches_18 : decode cX12_matches 18 = .ok (.iinc 2 1, 3) := by decide +kernel
theorem dX12_matches_21 : decode cX12_matches 21 = .ok (.goto (-19), 3) := by decide +kernel
theorem dX12_matches_24 : decode cX12_matches 24 = .ok (.iconst 1, 1) := by decide +kernel
theorem dX12_matches_25 : decode cX12_matches 25 = .ok (.istore_n 2, 1) := by decide +kernel
theorem dX12_matches_26 : decode cX12_matches 26 = .ok (.iconst 0, 1) := by decide +kernel
theorem dX12_matches_27 : decode cX12_matches 27 = .ok (.istore_n 3, 1) := by decide +kernel
theorem dX12_matches_28 : decode cX12_matches 28 = .ok (.aload_n 0, 1) := by decide +kernel
theorem dX12_matches_29 : decode cX12_matches 29 = .ok (.getfield 110, 3) := by decide +kernel
theorem dX12_matches_32 : decode cX12_matches 32 = .ok (.iconst 0, 1) := by decide +kernel
theorem dX12_matches_33 : decode cX12_matches 33 = .ok (.iload_n 1, 1) := by decide +kernel
theorem dX12_matches_34 : decode cX12_matches 34 = .ok (.iastore, 1) := by decide +kernel
theorem dX12_matches_35 : decode cX12_matches 35 = .ok (.iload_n 2, 1) := by decide +kernel
theorem dX12_matches_36 : decode cX12_matches 36 = .ok (.ifCond .le 141, 3) := by decide +kernel
theorem dX12_matches_39 : decode cX12_matches 39 = .ok (.iinc 2 (-1), 3) := by decide +kernel
theorem dX12_matches_42 : decode cX12_matches 42 = .ok (.aload_n 0, 1) := by decide +kernel
theorem dX12_matches_43 : decode cX12_matches 43 = .ok (.aload_n 0, 1) := by decide +kernel
theorem dX12_matches_44 : decode cX12_matches 44 = .ok (.getfield 110, 3) := by decide +kernel
theorem dX12_matches_47 : decode cX12_matches 47 = .ok (.iload_n 2, 1) := by decide +kernel
theorem dX12_matches_48 : decode cX12_matches 48 = .ok (.iaload, 1) := by decide +kernel
theorem dX12_matches_49 : decode cX12_matches 49 = .ok (.invokevirtual 205, 3) := by decide +kernel
theorem dX12_matches_52 : decode cX12_matches 52 = .ok (.istore 4, 2) := by decide +kernel
theorem dX12_matches_54 : decode cX12_matches 54 = .ok (.aload_n 0, 1) := by decide +kernel
theorem dX12_matches_55 : decode cX12_matches 55 = .ok (.getfield 19, 3) := by decide +kernel
theorem dX12_matches_58 : decode cX12_matches 58 = .ok (.iload 4, 2) := by decide +kernel
theorem dX12_matches_60 : decode cX12_matches 60 = .ok (.iaload, 1) := by decide +kernel
theorem dX12_matches_61 : decode cX12_matches 61 = .ok (.ifCond .ge 50, 3) := by decide +kernel
theorem dX12_matches_64 : decode cX12_matches 64 = .ok (.aload_n 0, 1) := by decide +kernel
theorem dX12_matches_65 : decode cX12_matches 65 = .ok (.getfield 107, 3) := by decide +kernel
theorem dX12_matches_68 : decode cX12_matches 68 = .ok (.iload 4, 2) := by decide +kernel
theorem dX12_matches_70 : decode cX12_matches 70 = .ok (.iaload, 1) := by decide +kernel
theorem dX12_matches_71 : decode cX12_matches 71 = .ok (.ifCond .lt 20, 3) := by decide +kernel
theorem dX12_matches_74 : decode cX12_matches 74 = .ok (.aload_n 0, 1) := by decide +kernel
theorem dX12_matches_75 : decode cX12_matches 75 = .ok (.aload_n 0, 1) := by decide +kernel
theorem dX12_matches_76 : decode cX12_matches 76 = .ok (.getfield 107, 3) := by decide +kernel
theorem dX12_matches_79 : decode cX12_matches 79 = .ok (.iload 4, 2) := by decide +kernel
theorem dX12_matches_81 : decode cX12_matches 81 = .ok (.iaload, 1) := by decide +kernel
theorem dX12_matches_82 : decode cX12_matches 82 = .ok (.iload_n 3, 1) := by decide +kernel
theorem dX12_matches_83 : decode cX12_matches 83 = .ok (.invokevirtual 254, 3) := by decide +kernel
theorem dX12_matches_86 : decode cX12_matches 86 = .ok (.ifCond .ne 5, 3) := by decide +kernel
theorem dX12_matches_89 : decode cX12_matches 89 = .ok (.iconst 0, 1) := by decide +kernel
theorem dX12_matches_90 : decode cX12_matches 90 = .ok (.ireturn, 1) := by decide +kernel
theorem dX12_matches_91 : decode cX12_matches 91 = .ok (.aload_n 0, 1) := by decide +kernel
theorem dX12_matches_92 : decode cX12_matches 92 = .ok (.getfield 107, 3) := by decide +kernel
theorem dX12_matches_95 : decode cX12_matches 95 = .ok (.iload 4, 2) := by decide +kernel
theorem dX12_matches_97 : decode cX12_matches 97 = .ok (.iload_n 3, 1) := by decide +kernel
theorem dX12_matches_98 : decode cX12_matches 98 = .ok (.iastore, 1) := by decide +kernel
theorem dX12_matches_99 : decode cX12_matches 99 = .ok (.iload_n 3, 1) := by decide +kernel
theorem dX12_matches_100 : decode cX12_matches 100 = .ok (.aload_n 0, 1) := by decide +kernel
theorem dX12_matches_101 : decode cX12_matches 101 = .ok (.getfield 56, 3) := by decide +kernel
theorem dX12_matches_104 : decode cX12_matches 104 = .ok (.iload_n 3, 1) := by decide +kernel
theorem dX12_matches_105 : decode cX12_matches 105 = .ok (.iaload, 1) := by decide +kernel
theorem dX12_matches_106 : decode cX12_matches 106 = .ok (.iadd, 1) := by decide +kernel
theorem dX12_matches_107 : decode cX12_matches 107 = .ok (.istore_n 3, 1) := by decide +kernel
theorem dX12_matches_108 : decode cX12_matches 108 = .ok (.goto 66, 3) := by decide +kernel
theorem dX12_matches_111 : decode cX12_matches 111 = .ok (.aload_n 0, 1) := by decide +kernel
theorem dX12_matches_112 : decode cX12_matches 112 = .ok (.getfield 19, 3) := by decide +kernel
theorem dX12_matches_115 : decode cX12_matches 115 = .ok (.iload 4, 2) := by decide +kernel
theorem dX12_matches_117 : decode cX12_matches 117 = .ok (.iaload, 1) := by decide +kernel
theorem dX12_matches_118 : decode cX12_matches 118 = .ok (.aload_n 0, 1) := by decide +kernel
theorem dX12_matches_119 : decode cX12_matches 119 = .ok (.getfield 53, 3) := by decide +kernel
theorem dX12_matches_122 : decode cX12_matches 122 = .ok (.iload_n 3, 1) := by decide +kernel
theorem dX12_matches_123 : decode cX12_matches 123 = .ok (.iaload, 1) := by decide +kernel
theorem dX12_matches_124 : decode cX12_matches 124 = .ok (.if_icmp .eq 5, 3) := by decide +kernel
theorem dX12_matches_127 : decode cX12_matches 127 = .ok (.iconst 0, 1) := by decide +kernel
theorem dX12_matches_128 : decode cX12_matches 128 = .ok (.ireturn, 1) := by decide +kernel
theorem dX12_matches_129 : decode cX12_matches 129 = .ok (.aload_n 0, 1) := by decide +kernel
theorem dX12_matches_130 : decode cX12_matches 130 = .ok (.iload 4, 2) := by decide +kernel
theorem dX12_matches_132 : decode cX12_matches 132 = .ok (.invokevirtual 208, 3) := by decide +kernel
theorem dX12_matches_135 : decode cX12_matches 135 = .ok (.iconst 1, 1) := by decide +kernel
theorem dX12_matches_136 : decode cX12_matches 136 = .ok (.isub, 1) := by decide +kernel
theorem dX12_matches_137 : decode cX12_matches 137 = .ok (.istore 5, 2) := by decide +kernel
theorem dX12_matches_139 : decode cX12_matches 139 = .ok (.iload 5, 2) := by decide +kernel
theorem dX12_matches_141 : decode cX12_matches 141 = .ok (.ifCond .lt 30, 3) := by decide +kernel
theorem dX12_matches_144 : decode cX12_matches 144 = .ok (.aload_n 0, 1) := by decide +kernel
theorem dX12_matches_145 : decode cX12_matches 145 = .ok (.getfield 110, 3) := by decide +kernel
theorem dX12_matches_148 : decode cX12_matches 148 = .ok (.iload_n 2, 1) := by decide +kernel
theorem dX12_matches_149 : decode cX12_matches 149 = .ok (.aload_n 0, 1) := by decide +kernel
theorem dX12_matches_150 : decode cX12_matches 150 = .ok (.getfield 25, 3) := by decide +kernel
theorem dX12_matches_153 : decode cX12_matches 153 = .ok (.iconst 3, 1) := by decide +kernel
theorem dX12_matches_154 : decode cX12_matches 154 = .ok (.iload 4, 2) := by decide +kernel
theorem dX12_matches_156 : decode cX12_matches 156 = .ok (.imul, 1) := by decide +kernel
theorem dX12_matches_157 : decode cX12_matches 157 = .ok (.iload 5, 2) := by decide +kernel
theorem dX12_matches_159 : decode cX12_matches 159 = .ok (.iadd, 1) := by decide +kernel
theorem dX12_matches_160 : decode cX12_matches 160 = .ok (.iaload, 1) := by decide +kernel
theorem dX12_matches_161 : decode cX12_matches 161 = .ok (.iastore, 1) := by decide +kernel
theorem dX12_matches_162 : decode cX12_matches 162 = .ok (.iinc 2 1, 3) := by decide +kernel
theorem dX12_matches_165 : decode cX12_matches 165 = .ok (.iinc 5 (-1), 3) := by decide +kernel
theorem dX12_matches_168 : decode cX12_matches 168 = .ok (.goto (-29), 3) := by decide +kernel
theorem dX12_matches_171 : decode cX12_matches 171 = .ok (.iinc 3 1, 3) := by decide +kernel
theorem dX12_matches_174 : decode cX12_matches 174 = .ok (.goto (-139), 3) := by decide +kernel
theorem dX12_matches_177 : decode cX12_matches 177 = .ok (.iconst 1, 1) := by decide +kernel
theorem dX12_matches_178 : decode cX12_matches 178 = .ok (.ireturn, 1) := by decide +kernel
theorem dX12_matchNow_0 : decode cX12_matchNow 0 = .ok (.iconst 0, 1) := by decide +kernel
theorem dX12_matchNow_1 : decode cX12_matchNow 1 = .ok (.istore_n 1, 1) := by decide +kernel
theorem dX12_matchNow_2 : decode cX12_matchNow 2 = .ok (.iload_n 1, 1) := by decide +kernel
theorem dX12_matchNow_3 : decode cX12_matchNow 3 = .ok (.aload_n 0, 1) := by decide +kernel
theorem dX12_matchNow_4 : decode cX12_matchNow 4 = .ok (.getfield 251, 3) := by decide +kernel
theorem dX12_matchNow_7 : decode cX12_matchNow 7 = .ok (.if_icmp .ge 24, 3) := by decide +kernel
theorem dX12_matchNow_10 : decode cX12_matchNow 10 = .ok (.aload_n 0, 1) := by decide +kernel
theorem dX12_matchNow_11 : decode cX12_matchNow 11 = .ok (.aload_n 0, 1) := by decide +kernel
theorem dX12_matchNow_12 : decode cX12_matchNow 12 = .ok (.getfield 34, 3) := by decide +kernel
theorem dX12_matchNow_15 : decode cX12_matchNow 15 = .ok (.iload_n 1, 1) := by decide +kernel
theorem dX12_matchNow_16 : decode cX12_matchNow 16 = .ok (.iaload, 1) := by decide +kernel
theorem dX12_matchNow_17 : decode cX12_matchNow 17 = .ok (.invokevirtual 257, 3) := by decide +kernel
theorem dX12_matchNow_20 : decode cX12_matchNow 20 = .ok (.ifCond .eq 5, 3) := by decide +kernel
theorem dX12_matchNow_23 : decode cX12_matchNow 23 = .ok (.iload_n 1, 1) := by decide +kernel
theorem dX12_matchNow_24 : decode cX12_matchNow 24 = .ok (.ireturn, 1) := by decide +kernel
theorem dX12_matchNow_25 : decode cX12_matchNow 25 = .ok (.iinc 1 1, 3) := by decide +kernel
theorem dX12_matchNow_28 : decode cX12_matchNow 28 = .ok (.goto (-26), 3) := by decide +kernel
theorem dX12_matchNow_31 : decode cX12_matchNow 31 = .ok (.bipush (-13), 2) := by decide +kernel
theorem dX12_matchNow_33 : decode cX12_matchNow 33 = .ok (.ireturn, 1) := by decide +kernel
theorem dX12_layTerm_0 : decode cX12_layTerm 0 = .ok (.aload_n 0, 1) := by decide +kernel
theorem dX12_layTerm_1 : decode cX12_layTerm 1 = .ok (.iconst 0, 1) := by decide +kernel
theorem dX12_layTerm_2 : decode cX12_layTerm 2 = .ok (.putfield 179, 3) := by decide +kernel
theorem dX12_layTerm_5 : decode cX12_layTerm 5 = .ok (.iconst 1, 1) := by decide +kernel
theorem dX12_layTerm_6 : decode cX12_layTerm 6 = .ok (.istore_n 2, 1) := by decide +kernel
theorem dX12_layTerm_7 : decode cX12_layTerm 7 = .ok (.aload_n 0, 1) := by decide +kernel
theorem dX12_layTerm_8 : decode cX12_layTerm 8 = .ok (.getfield 110, 3) := by decide +kernel
theorem dX12_layTerm_11 : decode cX12_layTerm 11 = .ok (.iconst 0, 1) := by decide +kernel
theorem dX12_layTerm_12 : decode cX12_layTerm 12 = .ok (.iload_n 1, 1) := by decide +kernel
theorem dX12_layTerm_13 : decode cX12_layTerm 13 = .ok (.iastore, 1) := by decide +kernel
theorem dX12_layTerm_14 : decode cX12_layTerm 14 = .ok (.iload_n 2, 1) := by decide +kernel
theorem dX12_layTerm_15 : decode cX12_layTerm 15 = .ok (.ifCond .le 85, 3) := by decide +kernel
theorem dX12_layTerm_18 : decode cX12_layTerm 18 = .ok (.iinc 2 (-1), 3) := by decide +kernel
theorem dX12_layTerm_21 : decode cX12_layTerm 21 = .ok (.aload_n 0, 1) := by decide +kernel
theorem dX12_layTerm_22 : decode cX12_layTerm 22 = .ok (.aload_n 0, 1) := by decide +kernel
theorem dX12_layTerm_23 : decode cX12_layTerm 23 = .ok (.getfield 110, 3) := by decide +kernel
theorem dX12_layTerm_26 : decode cX12_layTerm 26 = .ok (.iload_n 2, 1) := by decide +kernel
theorem dX12_layTerm_27 : decode cX12_layTerm 27 = .ok (.iaload, 1) := by decide +kernel
theorem dX12_layTerm_28 : decode cX12_layTerm 28 = .ok (.invokevirtual 205, 3) := by decide +kernel
theorem dX12_layTerm_31 : decode cX12_layTerm 31 = .ok (.istore_n 3, 1) := by decide +kernel
theorem dX12_layTerm_32 : decode cX12_layTerm 32 = .ok (.aload_n 0, 1) := by decide +kernel
theorem dX12_layTerm_33 : decode cX12_layTerm 33 = .ok (.getfield 53, 3) := by decide +kernel
theorem dX12_layTerm_36 : decode cX12_layTerm 36 = .ok (.aload_n 0, 1) := by decide +kernel
theorem dX12_layTerm_37 : decode cX12_layTerm 37 = .ok (.getfield 179, 3) := by decide +kernel
theorem dX12_layTerm_40 : decode cX12_layTerm 40 = .ok (.aload_n 0, 1) := by decide +kernel
theorem dX12_layTerm_41 : decode cX12_layTerm 41 = .ok (.getfield 19, 3) := by decide +kernel
theorem dX12_layTerm_44 : decode cX12_layTerm 44 = .ok (.iload_n 3, 1) := by decide +kernel
theorem dX12_layTerm_45 : decode cX12_layTerm 45 = .ok (.iaload, 1) := by decide +kernel
theorem dX12_layTerm_46 : decode cX12_layTerm 46 = .ok (.iastore, 1) := by decide +kernel
theorem dX12_layTerm_47 : decode cX12_layTerm 47 = .ok (.aload_n 0, 1) := by decide +kernel
theorem dX12_layTerm_48 : decode cX12_layTerm 48 = .ok (.dup, 1) := by decide +kernel
theorem dX12_layTerm_49 : decode cX12_layTerm 49 = .ok (.getfield 179, 3) := by decide +kernel
theorem dX12_layTerm_52 : decode cX12_layTerm 52 = .ok (.iconst 1, 1) := by decide +kernel
theorem dX12_layTerm_53 : decode cX12_layTerm 53 = .ok (.iadd, 1) := by decide +kernel
theorem dX12_layTerm_54 : decode cX12_layTerm 54 = .ok (.putfield 179, 3) := by decide +kernel
theorem dX12_layTerm_57 : decode cX12_layTerm 57 = .ok (.aload_n 0, 1) := by decide +kernel
theorem dX12_layTerm_58 : decode cX12_layTerm 58 = .ok (.iload_n 3, 1) := by decide +kernel
theorem dX12_layTerm_59 : decode cX12_layTerm 59 = .ok (.invokevirtual 208, 3) := by decide +kernel
theorem dX12_layTerm_62 : decode cX12_layTerm 62 = .ok (.iconst 1, 1) := by decide +kernel
theorem dX12_layTerm_63 : decode cX12_layTerm 63 = .ok (.isub, 1) := by decide +kernel
theorem dX12_layTerm_64 : decode cX12_layTerm 64 = .ok (.istore 4, 2) := by decide +kernel
theorem dX12_layTerm_66 : decode cX12_layTerm 66 = .ok (.iload 4, 2) := by decide +kernel
theorem dX12_layTerm_68 : decode cX12_layTerm 68 = .ok (.ifCond .lt 29, 3) := by decide +kernel
theorem dX12_layTerm_71 : decode cX12_layTerm 71 = .ok (.aload_n 0, 1) := by decide +kernel
theorem dX12_layTerm_72 : decode cX12_layTerm 72 = .ok (.getfield 110, 3) := by decide +kernel
theorem dX12_layTerm_75 : decode cX12_layTerm 75 = .ok (.iload_n 2, 1) := by decide +kernel
theorem dX12_layTerm_76 : decode cX12_layTerm 76 = .ok (.aload_n 0, 1) := by decide +kernel
theorem dX12_layTerm_77 : decode cX12_layTerm 77 = .ok (.getfield 25, 3) := by decide +kernel
theorem dX12_layTerm_80 : decode cX12_layTerm 80 = .ok (.iconst 3, 1) := by decide +kernel
theorem dX12_layTerm_81 : decode cX12_layTerm 81 = .ok (.iload_n 3, 1) := by decide +kernel
theorem dX12_layTerm_82 : decode cX12_layTerm 82 = .ok (.imul, 1) := by decide +kernel
theorem dX12_layTerm_83 : decode cX12_layTerm 83 = .ok (.iload 4, 2) := by decide +kernel
theorem dX12_layTerm_85 : decode cX12_layTerm 85 = .ok (.iadd, 1) := by decide +kernel
theorem dX12_layTerm_86 : decode cX12_layTerm 86 = .ok (.iaload, 1) := by decide +kernel
theorem dX12_layTerm_87 : decode cX12_layTerm 87 = .ok (.iastore, 1) := by decide +kernel
theorem dX12_layTerm_88 : decode cX12_layTerm 88 = .ok (.iinc 2 1, 3) := by decide +kernel
theorem dX12_layTerm_91 : decode cX12_layTerm 91 = .ok (.iinc 4 (-1), 3) := by decide +kernel
theorem dX12_layTerm_94 : decode cX12_layTerm 94 = .ok (.goto (-28), 3) := by decide +kernel
theorem dX12_layTerm_97 : decode cX12_layTerm 97 = .ok (.goto (-83), 3) := by decide +kernel
theorem dX12_layTerm_100 : decode cX12_layTerm 100 = .ok (.aload_n 0, 1) := by decide +kernel
theorem dX12_layTerm_101 : decode cX12_layTerm 101 = .ok (.invokevirtual 186, 3) := by decide +kernel
theorem dX12_layTerm_104 : decode cX12_layTerm 104 = .ok (.return_, 1) := by decide +kernel
theorem dX12_firstMatch_0 : decode cX12_firstMatch 0 = .ok (.aload_n 0, 1) := by decide +kernel
theorem dX12_firstMatch_1 : decode cX12_firstMatch 1 = .ok (.iload_n 1, 1) := by decide +kernel
theorem dX12_firstMatch_2 : decode cX12_firstMatch 2 = .ok (.invokevirtual 199, 3) := by decide +kernel
theorem dX12_firstMatch_5 : decode cX12_firstMatch 5 = .ok (.ifCond .ne 6, 3) := by decide +kernel
theorem dX12_firstMatch_8 : decode cX12_firstMatch 8 = .ok (.bipush (-3), 2) := by decide +kernel
theorem dX12_firstMatch_10 : decode cX12_firstMatch 10 = .ok (.ireturn, 1) := by decide +kernel
theorem dX12_firstMatch_11 : decode cX12_firstMatch 11 = .ok (.aload_n 0, 1) := by decide +kernel
theorem dX12_firstMatch_12 : decode cX12_firstMatch 12 = .ok (.getfield 251, 3) := by decide +kernel
theorem dX12_firstMatch_15 : decode cX12_firstMatch 15 = .ok (.ifCond .ne 6, 3) := by decide +kernel
theorem dX12_firstMatch_18 : decode cX12_firstMatch 18 = .ok (.bipush (-11), 2) := by decide +kernel
theorem dX12_firstMatch_20 : decode cX12_firstMatch 20 = .ok (.ireturn, 1) := by decide +kernel
theorem dX12_firstMatch_21 : decode cX12_firstMatch 21 = .ok (.aload_n 0, 1) := by decide +kernel
theorem dX12_firstMatch_22 : decode cX12_firstMatch 22 = .ok (.getfield 22, 3) := by decide +kernel
theorem dX12_firstMatch_25 : decode cX12_firstMatch 25 = .ok (.iload_n 1, 1) := by decide +kernel
theorem dX12_firstMatch_26 : decode cX12_firstMatch 26 = .ok (.iaload, 1) := by decide +kernel
theorem dX12_firstMatch_27 : decode cX12_firstMatch 27 = .ok (.aload_n 0, 1) := by decide +kernel
theorem dX12_firstMatch_28 : decode cX12_firstMatch 28 = .ok (.getfield 22, 3) := by decide +kernel
theorem dX12_firstMatch_31 : decode cX12_firstMatch 31 = .ok (.aload_n 0, 1) := by decide +kernel
theorem dX12_firstMatch_32 : decode cX12_firstMatch 32 = .ok (.getfield 34, 3) := by decide +kernel
theorem dX12_firstMatch_35 : decode cX12_firstMatch 35 = .ok (.iconst 0, 1) := by decide +kernel
theorem dX12_firstMatch_36 : decode cX12_firstMatch 36 = .ok (.iaload, 1) := by decide +kernel
theorem dX12_firstMatch_37 : decode cX12_firstMatch 37 = .ok (.iaload, 1) := by decide +kernel
theorem dX12_firstMatch_38 : decode cX12_firstMatch 38 = .ok (.if_icmp .eq 6, 3) := by decide +kernel
theorem dX12_firstMatch_41 : decode cX12_firstMatch 41 = .ok (.bipush (-5), 2) := by decide +kernel
theorem dX12_firstMatch_43 : decode cX12_firstMatch 43 = .ok (.ireturn, 1) := by decide +kernel
theorem dX12_firstMatch_44 : decode cX12_firstMatch 44 = .ok (.aload_n 0, 1) := by decide +kernel
theorem dX12_firstMatch_45 : decode cX12_firstMatch 45 = .ok (.invokevirtual 214, 3) := by decide +kernel
theorem dX12_firstMatch_48 : decode cX12_firstMatch 48 = .ok (.aload_n 0, 1) := by decide +kernel
theorem dX12_firstMatch_49 : decode cX12_firstMatch 49 = .ok (.getfield 83, 3) := by decide +kernel
theorem dX12_firstMatch_52 : decode cX12_firstMatch 52 = .ok (.iload_n 1, 1) := by decide +kernel
theorem dX12_firstMatch_53 : decode cX12_firstMatch 53 = .ok (.iaload, 1) := by decide +kernel
theorem dX12_firstMatch_54 : decode cX12_firstMatch 54 = .ok (.ifCond .ge 6, 3) := by decide +kernel
theorem dX12_firstMatch_57 : decode cX12_firstMatch 57 = .ok (.bipush (-9), 2) := by decide +kernel
theorem dX12_firstMatch_59 : decode cX12_firstMatch 59 = .ok (.ireturn, 1) := by decide +kernel
theorem dX12_firstMatch_60 : decode cX12_firstMatch 60 = .ok (.aload_n 0, 1) := by decide +kernel
theorem dX12_firstMatch_61 : decode cX12_firstMatch 61 = .ok (.getfield 83, 3) := by decide +kernel
theorem dX12_firstMatch_64 : decode cX12_firstMatch 64 = .ok (.iload_n 1, 1) := by decide +kernel
theorem dX12_firstMatch_65 : decode cX12_firstMatch 65 = .ok (.iaload, 1) := by decide +kernel
theorem dX12_firstMatch_66 : decode cX12_firstMatch 66 = .ok (.bipush 60, 2) := by decide +kernel
theorem dX12_firstMatch_68 : decode cX12_firstMatch 68 = .ok (.if_icmp .le 6, 3) := by decide +kernel
theorem dX12_firstMatch_71 : decode cX12_firstMatch 71 = .ok (.bipush (-10), 2) := by decide +kernel
theorem dX12_firstMatch_73 : decode cX12_firstMatch 73 = .ok (.ireturn, 1) := by decide +kernel
theorem dX12_firstMatch_74 : decode cX12_firstMatch 74 = .ok (.aload_n 0, 1) := by decide +kernel
theorem dX12_firstMatch_75 : decode cX12_firstMatch 75 = .ok (.iload_n 1, 1) := by decide +kernel
theorem dX12_firstMatch_76 : decode cX12_firstMatch 76 = .ok (.invokevirtual 260, 3) := by decide +kernel
theorem dX12_firstMatch_79 : decode cX12_firstMatch 79 = .ok (.aload_n 0, 1) := by decide +kernel
theorem dX12_firstMatch_80 : decode cX12_firstMatch 80 = .ok (.invokevirtual 264, 3) := by decide +kernel
theorem dX12_firstMatch_83 : decode cX12_firstMatch 83 = .ok (.ireturn, 1) := by decide +kernel
theorem dX12_subject_0 : decode cX12_subject 0 = .ok (.aload_n 0, 1) := by decide +kernel
theorem dX12_subject_1 : decode cX12_subject 1 = .ok (.getfield 22, 3) := by decide +kernel
theorem dX12_subject_4 : decode cX12_subject 4 = .ok (.aload_n 0, 1) := by decide +kernel
theorem dX12_subject_5 : decode cX12_subject 5 = .ok (.getfield 34, 3) := by decide +kernel
theorem dX12_subject_8 : decode cX12_subject 8 = .ok (.iconst 0, 1) := by decide +kernel
theorem dX12_subject_9 : decode cX12_subject 9 = .ok (.iaload, 1) := by decide +kernel
theorem dX12_subject_10 : decode cX12_subject 10 = .ok (.iaload, 1) := by decide +kernel
theorem dX12_subject_11 : decode cX12_subject 11 = .ok (.ireturn, 1) := by decide +kernel
theorem dX12_countMatched_0 : decode cX12_countMatched 0 = .ok (.iconst 0, 1) := by decide +kernel
theorem dX12_countMatched_1 : decode cX12_countMatched 1 = .ok (.istore_n 3, 1) := by decide +kernel
theorem dX12_countMatched_2 : decode cX12_countMatched 2 = .ok (.aload_n 0, 1) := by decide +kernel
theorem dX12_countMatched_3 : decode cX12_countMatched 3 = .ok (.aload_n 0, 1) := by decide +kernel
theorem dX12_countMatched_4 : decode cX12_countMatched 4 = .ok (.invokevirtual 267, 3) := by decide +kernel
theorem dX12_countMatched_7 : decode cX12_countMatched 7 = .ok (.iload_n 2, 1) := by decide +kernel
theorem dX12_countMatched_8 : decode cX12_countMatched 8 = .ok (.invokevirtual 164, 3) := by decide +kernel
theorem dX12_countMatched_11 : decode cX12_countMatched 11 = .ok (.istore 4, 2) := by decide +kernel
theorem dX12_countMatched_13 : decode cX12_countMatched 13 = .ok (.iconst 0, 1) := by decide +kernel
theorem dX12_countMatched_14 : decode cX12_countMatched 14 = .ok (.istore 5, 2) := by decide +kernel
theorem dX12_countMatched_16 : decode cX12_countMatched 16 = .ok (.iload 5, 2) := by decide +kernel
theorem dX12_countMatched_18 : decode cX12_countMatched 18 = .ok (.iload 4, 2) := by decide +kernel
theorem dX12_countMatched_20 : decode cX12_countMatched 20 = .ok (.if_icmp .ge 36, 3) := by decide +kernel
theorem dX12_countMatched_23 : decode cX12_countMatched 23 = .ok (.aload_n 0, 1) := by decide +kernel
theorem dX12_countMatched_24 : decode cX12_countMatched 24 = .ok (.aload_n 0, 1) := by decide +kernel
theorem dX12_countMatched_25 : decode cX12_countMatched 25 = .ok (.invokevirtual 267, 3) := by decide +kernel
theorem dX12_countMatched_28 : decode cX12_countMatched 28 = .ok (.iload_n 2, 1) := by decide +kernel
theorem dX12_countMatched_29 : decode cX12_countMatched 29 = .ok (.iload 5, 2) := by decide +kernel
theorem dX12_countMatched_31 : decode cX12_countMatched 31 = .ok (.invokevirtual 192, 3) := by decide +kernel
theorem dX12_countMatched_34 : decode cX12_countMatched 34 = .ok (.iload_n 3, 1) := by decide +kernel
theorem dX12_countMatched_35 : decode cX12_countMatched 35 = .ok (.aload_n 0, 1) := by decide +kernel
theorem dX12_countMatched_36 : decode cX12_countMatched 36 = .ok (.invokevirtual 264, 3) := by decide +kernel
theorem dX12_countMatched_39 : decode cX12_countMatched 39 = .ok (.iload_n 1, 1) := by decide +kernel
theorem dX12_countMatched_40 : decode cX12_countMatched 40 = .ok (.if_icmp .ne 7, 3) := by decide +kernel
theorem dX12_countMatched_43 : decode cX12_countMatched 43 = .ok (.iconst 1, 1) := by decide +kernel
theorem dX12_countMatched_44 : decode cX12_countMatched 44 = .ok (.goto 4, 3) := by decide +kernel
theorem dX12_countMatched_47 : decode cX12_countMatched 47 = .ok (.iconst 0, 1) := by decide +kernel
theorem dX12_countMatched_48 : decode cX12_countMatched 48 = .ok (.iadd, 1) := by decide +kernel
theorem dX12_countMatched_49 : decode cX12_countMatched 49 = .ok (.istore_n 3, 1) := by decide +kernel
theorem dX12_countMatched_50 : decode cX12_countMatched 50 = .ok (.iinc 5 1, 3) := by decide +kernel
theorem dX12_countMatched_53 : decode cX12_countMatched 53 = .ok (.goto (-37), 3) := by decide +kernel
theorem dX12_countMatched_56 : decode cX12_countMatched 56 = .ok (.iload_n 3, 1) := by decide +kernel
theorem dX12_countMatched_57 : decode cX12_countMatched 57 = .ok (.ireturn, 1) := by decide +kernel
theorem dX12_uncovered_0 : decode cX12_uncovered 0 = .ok (.aload_n 0, 1) := by decide +kernel
theorem dX12_uncovered_1 : decode cX12_uncovered 1 = .ok (.getfield 251, 3) := by decide +kernel
theorem dX12_uncovered_4 : decode cX12_uncovered 4 = .ok (.ifCond .ne 6, 3) := by decide +kernel
theorem dX12_uncovered_7 : decode cX12_uncovered 7 = .ok (.bipush (-11), 2) := by decide +kernel
theorem dX12_uncovered_9 : decode cX12_uncovered 9 = .ok (.ireturn, 1) := by decide +kernel
theorem dX12_uncovered_10 : decode cX12_uncovered 10 = .ok (.iload_n 1, 1) := by decide +kernel
theorem dX12_uncovered_11 : decode cX12_uncovered 11 = .ok (.iconst 1, 1) := by decide +kernel
theorem dX12_uncovered_12 : decode cX12_uncovered 12 = .ok (.bipush 8, 2) := by decide +kernel
theorem dX12_uncovered_14 : decode cX12_uncovered 14 = .ok (.invokestatic 117, 3) := by decide +kernel
theorem dX12_uncovered_17 : decode cX12_uncovered 17 = .ok (.ifCond .ne 6, 3) := by decide +kernel
theorem dX12_uncovered_20 : decode cX12_uncovered 20 = .ok (.bipush (-4), 2) := by decide +kernel
theorem dX12_uncovered_22 : decode cX12_uncovered 22 = .ok (.ireturn, 1) := by decide +kernel
theorem dX12_uncovered_23 : decode cX12_uncovered 23 = .ok (.aload_n 0, 1) := by decide +kernel
theorem dX12_uncovered_24 : decode cX12_uncovered 24 = .ok (.invokevirtual 172, 3) := by decide +kernel
theorem dX12_uncovered_27 : decode cX12_uncovered 27 = .ok (.aload_n 0, 1) := by decide +kernel
theorem dX12_uncovered_28 : decode cX12_uncovered 28 = .ok (.aload_n 0, 1) := by decide +kernel
theorem dX12_uncovered_29 : decode cX12_uncovered 29 = .ok (.invokevirtual 267, 3) := by decide +kernel
theorem dX12_uncovered_32 : decode cX12_uncovered 32 = .ok (.iload_n 1, 1) := by decide +kernel
theorem dX12_uncovered_33 : decode cX12_uncovered 33 = .ok (.invokevirtual 164, 3) := by decide +kernel
theorem dX12_uncovered_36 : decode cX12_uncovered 36 = .ok (.sipush 2000, 3) := by decide +kernel
theorem dX12_uncovered_39 : decode cX12_uncovered 39 = .ok (.if_icmp .le 8, 3) := by decide +kernel
theorem dX12_uncovered_42 : decode cX12_uncovered 42 = .ok (.bipush (-10), 2) := by decide +kernel
theorem dX12_uncovered_44 : decode cX12_uncovered 44 = .ok (.goto 10, 3) := by decide +kernel
theorem dX12_uncovered_47 : decode cX12_uncovered 47 = .ok (.aload_n 0, 1) := by decide +kernel
theorem dX12_uncovered_48 : decode cX12_uncovered 48 = .ok (.bipush (-13), 2) := by decide +kernel
theorem dX12_uncovered_50 : decode cX12_uncovered 50 = .ok (.iload_n 1, 1) := by decide +kernel
theorem dX12_uncovered_51 : decode cX12_uncovered 51 = .ok (.invokevirtual 270, 3) := by decide +kernel
theorem dX12_uncovered_54 : decode cX12_uncovered 54 = .ok (.ireturn, 1) := by decide +kernel
theorem dX12_firstUncovered_0 : decode cX12_firstUncovered 0 = .ok (.aload_n 0, 1) := by decide +kernel
theorem dX12_firstUncovered_1 : decode cX12_firstUncovered 1 = .ok (.getfield 251, 3) := by decide +kernel
theorem dX12_firstUncovered_4 : decode cX12_firstUncovered 4 = .ok (.ifCond .ne 6, 3) := by decide +kernel
theorem dX12_firstUncovered_7 : decode cX12_firstUncovered 7 = .ok (.bipush (-11), 2) := by decide +kernel
theorem dX12_firstUncovered_9 : decode cX12_firstUncovered 9 = .ok (.ireturn, 1) := by decide +kernel
theorem dX12_firstUncovered_10 : decode cX12_firstUncovered 10 = .ok (.iload_n 1, 1) := by decide +kernel
theorem dX12_firstUncovered_11 : decode cX12_firstUncovered 11 = .ok (.iconst 1, 1) := by decide +kernel
theorem dX12_firstUncovered_12 : decode cX12_firstUncovered 12 = .ok (.bipush 8, 2) := by decide +kernel
theorem dX12_firstUncovered_14 : decode cX12_firstUncovered 14 = .ok (.invokestatic 117, 3) := by decide +kernel
theorem dX12_firstUncovered_17 : decode cX12_firstUncovered 17 = .ok (.ifCond .ne 6, 3) := by decide +kernel
theorem dX12_firstUncovered_20 : decode cX12_firstUncovered 20 = .ok (.bipush (-4), 2) := by decide +kernel
theorem dX12_firstUncovered_22 : decode cX12_firstUncovered 22 = .ok (.ireturn, 1) := by decide +kernel
theorem dX12_firstUncovered_23 : decode cX12_firstUncovered 23 = .ok (.aload_n 0, 1) := by decide +kernel
theorem dX12_firstUncovered_24 : decode cX12_firstUncovered 24 = .ok (.invokevirtual 172, 3) := by decide +kernel
theorem dX12_firstUncovered_27 : decode cX12_firstUncovered 27 = .ok (.iconst 1, 1) := by decide +kernel
theorem dX12_firstUncovered_28 : decode cX12_firstUncovered 28 = .ok (.istore_n 2, 1) := by decide +kernel
theorem dX12_firstUncovered_29 : decode cX12_firstUncovered 29 = .ok (.iload_n 2, 1) := by decide +kernel
theorem dX12_firstUncovered_30 : decode cX12_firstUncovered 30 = .ok (.iload_n 1, 1) := by decide +kernel
theorem dX12_firstUncovered_31 : decode cX12_firstUncovered 31 = .ok (.if_icmp .gt 27, 3) := by decide +kernel
theorem dX12_firstUncovered_34 : decode cX12_firstUncovered 34 = .ok (.aload_n 0, 1) := by decide +kernel
theorem dX12_firstUncovered_35 : decode cX12_firstUncovered 35 = .ok (.aload_n 0, 1) := by decide +kernel
theorem dX12_firstUncovered_36 : decode cX12_firstUncovered 36 = .ok (.invokevirtual 267, 3) := by decide +kernel
theorem dX12_firstUncovered_39 : decode cX12_firstUncovered 39 = .ok (.iload_n 2, 1) := by decide +kernel
theorem dX12_firstUncovered_40 : decode cX12_firstUncovered 40 = .ok (.invokevirtual 164, 3) := by decide +kernel
theorem dX12_firstUncovered_43 : decode cX12_firstUncovered 43 = .ok (.sipush 2000, 3) := by decide +kernel
theorem dX12_firstUncovered_46 : decode cX12_firstUncovered 46 = .ok (.if_icmp .le 6, 3) := by decide +kernel
theorem dX12_firstUncovered_49 : decode cX12_firstUncovered 49 = .ok (.bipush (-10), 2) := by decide +kernel
theorem dX12_firstUncovered_51 : decode cX12_firstUncovered 51 = .ok (.ireturn, 1) := by decide +kernel
theorem dX12_firstUncovered_52 : decode cX12_firstUncovered 52 = .ok (.iinc 2 1, 3) := by decide +kernel
theorem dX12_firstUncovered_55 : decode cX12_firstUncovered 55 = .ok (.goto (-26), 3) := by decide +kernel
theorem dX12_firstUncovered_58 : decode cX12_firstUncovered 58 = .ok (.iconst 1, 1) := by decide +kernel
theorem dX12_firstUncovered_59 : decode cX12_firstUncovered 59 = .ok (.istore_n 2, 1) := by decide +kernel
theorem dX12_firstUncovered_60 : decode cX12_firstUncovered 60 = .ok (.iload_n 2, 1) := by decide +kernel
theorem dX12_firstUncovered_61 : decode cX12_firstUncovered 61 = .ok (.iload_n 1, 1) := by decide +kernel
theorem dX12_firstUncovered_62 : decode cX12_firstUncovered 62 = .ok (.if_icmp .gt 55, 3) := by decide +kernel
theorem dX12_firstUncovered_65 : decode cX12_firstUncovered 65 = .ok (.iconst 0, 1) := by decide +kernel
theorem dX12_firstUncovered_66 : decode cX12_firstUncovered 66 = .ok (.istore_n 3, 1) := by decide +kernel
theorem dX12_firstUncovered_67 : decode cX12_firstUncovered 67 = .ok (.iload_n 3, 1) := by decide +kernel
theorem dX12_firstUncovered_68 : decode cX12_firstUncovered 68 = .ok (.aload_n 0, 1) := by decide +kernel
theorem dX12_firstUncovered_69 : decode cX12_firstUncovered 69 = .ok (.aload_n 0, 1) := by decide +kernel
theorem dX12_firstUncovered_70 : decode cX12_firstUncovered 70 = .ok (.invokevirtual 267, 3) := by decide +kernel
theorem dX12_firstUncovered_73 : decode cX12_firstUncovered 73 = .ok (.iload_n 2, 1) := by decide +kernel
theorem dX12_firstUncovered_74 : decode cX12_firstUncovered 74 = .ok (.invokevirtual 164, 3) := by decide +kernel
theorem dX12_firstUncovered_77 : decode cX12_firstUncovered 77 = .ok (.if_icmp .ge 34, 3) := by decide +kernel
theorem dX12_firstUncovered_80 : decode cX12_firstUncovered 80 = .ok (.aload_n 0, 1) := by decide +kernel
theorem dX12_firstUncovered_81 : decode cX12_firstUncovered 81 = .ok (.aload_n 0, 1) := by decide +kernel
theorem dX12_firstUncovered_82 : decode cX12_firstUncovered 82 = .ok (.invokevirtual 267, 3) := by decide +kernel
theorem dX12_firstUncovered_85 : decode cX12_firstUncovered 85 = .ok (.iload_n 2, 1) := by decide +kernel
theorem dX12_firstUncovered_86 : decode cX12_firstUncovered 86 = .ok (.iload_n 3, 1) := by decide +kernel
theorem dX12_firstUncovered_87 : decode cX12_firstUncovered 87 = .ok (.invokevirtual 192, 3) := by decide +kernel
theorem dX12_firstUncovered_90 : decode cX12_firstUncovered 90 = .ok (.aload_n 0, 1) := by decide +kernel
theorem dX12_firstUncovered_91 : decode cX12_firstUncovered 91 = .ok (.invokevirtual 264, 3) := by decide +kernel
theorem dX12_firstUncovered_94 : decode cX12_firstUncovered 94 = .ok (.ifCond .ge 11, 3) := by decide +kernel
theorem dX12_firstUncovered_97 : decode cX12_firstUncovered 97 = .ok (.sipush 10000, 3) := by decide +kernel
theorem dX12_firstUncovered_100 : decode cX12_firstUncovered 100 = .ok (.iload_n 2, 1) := by decide +kernel
theorem dX12_firstUncovered_101 : decode cX12_firstUncovered 101 = .ok (.imul, 1) := by decide +kernel
theorem dX12_firstUncovered_102 : decode cX12_firstUncovered 102 = .ok (.iload_n 3, 1) := by decide +kernel
theorem dX12_firstUncovered_103 : decode cX12_firstUncovered 103 = .ok (.iadd, 1) := by decide +kernel
theorem dX12_firstUncovered_104 : decode cX12_firstUncovered 104 = .ok (.ireturn, 1) := by decide +kernel
theorem dX12_firstUncovered_105 : decode cX12_firstUncovered 105 = .ok (.iinc 3 1, 3) := by decide +kernel
theorem dX12_firstUncovered_108 : decode cX12_firstUncovered 108 = .ok (.goto (-41), 3) := by decide +kernel
theorem dX12_firstUncovered_111 : decode cX12_firstUncovered 111 = .ok (.iinc 2 1, 3) := by decide +kernel
theorem dX12_firstUncovered_114 : decode cX12_firstUncovered 114 = .ok (.goto (-54), 3) := by decide +kernel
theorem dX12_firstUncovered_117 : decode cX12_firstUncovered 117 = .ok (.bipush (-13), 2) := by decide +kernel
theorem dX12_firstUncovered_119 : decode cX12_firstUncovered 119 = .ok (.ireturn, 1) := by decide +kernel
theorem dX12_coveredBy_0 : decode cX12_coveredBy 0 = .ok (.aload_n 0, 1) := by decide +kernel
theorem dX12_coveredBy_1 : decode cX12_coveredBy 1 = .ok (.getfield 251, 3) := by decide +kernel
theorem dX12_coveredBy_4 : decode cX12_coveredBy 4 = .ok (.ifCond .ne 6, 3) := by decide +kernel
theorem dX12_coveredBy_7 : decode cX12_coveredBy 7 = .ok (.bipush (-11), 2) := by decide +kernel
theorem dX12_coveredBy_9 : decode cX12_coveredBy 9 = .ok (.ireturn, 1) := by decide +kernel
theorem dX12_coveredBy_10 : decode cX12_coveredBy 10 = .ok (.iload_n 1, 1) := by decide +kernel
theorem dX12_coveredBy_11 : decode cX12_coveredBy 11 = .ok (.iconst 0, 1) := by decide +kernel
theorem dX12_coveredBy_12 : decode cX12_coveredBy 12 = .ok (.aload_n 0, 1) := by decide +kernel
theorem dX12_coveredBy_13 : decode cX12_coveredBy 13 = .ok (.getfield 251, 3) := by decide +kernel
theorem dX12_coveredBy_16 : decode cX12_coveredBy 16 = .ok (.iconst 1, 1) := by decide +kernel
theorem dX12_coveredBy_17 : decode cX12_coveredBy 17 = .ok (.isub, 1) := by decide +kernel
theorem dX12_coveredBy_18 : decode cX12_coveredBy 18 = .ok (.invokestatic 117, 3) := by decide +kernel
theorem dX12_coveredBy_21 : decode cX12_coveredBy 21 = .ok (.ifCond .eq 13, 3) := by decide +kernel
theorem dX12_coveredBy_24 : decode cX12_coveredBy 24 = .ok (.iload_n 2, 1) := by decide +kernel
theorem dX12_coveredBy_25 : decode cX12_coveredBy 25 = .ok (.iconst 1, 1) := by decide +kernel
theorem dX12_coveredBy_26 : decode cX12_coveredBy 26 = .ok (.bipush 8, 2) := by decide +kernel
theorem dX12_coveredBy_28 : decode cX12_coveredBy 28 = .ok (.invokestatic 117, 3) := by decide +kernel
theorem dX12_coveredBy_31 : decode cX12_coveredBy 31 = .ok (.ifCond .ne 6, 3) := by decide +kernel
theorem dX12_coveredBy_34 : decode cX12_coveredBy 34 = .ok (.bipush (-4), 2) := by decide +kernel
theorem dX12_coveredBy_36 : decode cX12_coveredBy 36 = .ok (.ireturn, 1) := by decide +kernel
theorem dX12_coveredBy_37 : decode cX12_coveredBy 37 = .ok (.aload_n 0, 1) := by decide +kernel
theorem dX12_coveredBy_38 : decode cX12_coveredBy 38 = .ok (.invokevirtual 172, 3) := by decide +kernel
theorem dX12_coveredBy_41 : decode cX12_coveredBy 41 = .ok (.aload_n 0, 1) := by decide +kernel
theorem dX12_coveredBy_42 : decode cX12_coveredBy 42 = .ok (.aload_n 0, 1) := by decide +kernel
theorem dX12_coveredBy_43 : decode cX12_coveredBy 43 = .ok (.invokevirtual 267, 3) := by decide +kernel
theorem dX12_coveredBy_46 : decode cX12_coveredBy 46 = .ok (.iload_n 2, 1) := by decide +kernel
theorem dX12_coveredBy_47 : decode cX12_coveredBy 47 = .ok (.invokevirtual 164, 3) := by decide +kernel
theorem dX12_coveredBy_50 : decode cX12_coveredBy 50 = .ok (.sipush 2000, 3) := by decide +kernel
theorem dX12_coveredBy_53 : decode cX12_coveredBy 53 = .ok (.if_icmp .le 8, 3) := by decide +kernel
theorem dX12_coveredBy_56 : decode cX12_coveredBy 56 = .ok (.bipush (-10), 2) := by decide +kernel
theorem dX12_coveredBy_58 : decode cX12_coveredBy 58 = .ok (.goto 9, 3) := by decide +kernel
theorem dX12_coveredBy_61 : decode cX12_coveredBy 61 = .ok (.aload_n 0, 1) := by decide +kernel
theorem dX12_coveredBy_62 : decode cX12_coveredBy 62 = .ok (.iload_n 1, 1) := by decide +kernel
theorem dX12_coveredBy_63 : decode cX12_coveredBy 63 = .ok (.iload_n 2, 1) := by decide +kernel
theorem dX12_coveredBy_64 : decode cX12_coveredBy 64 = .ok (.invokevirtual 270, 3) := by decide +kernel
theorem dX12_coveredBy_67 : decode cX12_coveredBy 67 = .ok (.ireturn, 1) := by decide +kernel
