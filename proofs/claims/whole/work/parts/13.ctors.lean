theorem dX0_init_0 : decode cX0_init 0 = .ok (.aload_n 0, 1) := by decide +kernel
theorem dX0_init_1 : decode cX0_init 1 = .ok (.invokespecial 3, 3) := by decide +kernel
theorem dX0_init_4 : decode cX0_init 4 = .ok (.aload_n 0, 1) := by decide +kernel
theorem dX0_init_5 : decode cX0_init 5 = .ok (.bipush 100, 2) := by decide +kernel
theorem dX0_init_7 : decode cX0_init 7 = .ok (.newarray .int, 2) := by decide +kernel
theorem dX0_init_9 : decode cX0_init 9 = .ok (.putfield 9, 3) := by decide +kernel
theorem dX0_init_12 : decode cX0_init 12 = .ok (.aload_n 0, 1) := by decide +kernel
theorem dX0_init_13 : decode cX0_init 13 = .ok (.bipush 100, 2) := by decide +kernel
theorem dX0_init_15 : decode cX0_init 15 = .ok (.newarray .int, 2) := by decide +kernel
theorem dX0_init_17 : decode cX0_init 17 = .ok (.putfield 15, 3) := by decide +kernel
theorem dX0_init_20 : decode cX0_init 20 = .ok (.aload_n 0, 1) := by decide +kernel
theorem dX0_init_21 : decode cX0_init 21 = .ok (.sipush 300, 3) := by decide +kernel
theorem dX0_init_24 : decode cX0_init 24 = .ok (.newarray .int, 2) := by decide +kernel
theorem dX0_init_26 : decode cX0_init 26 = .ok (.putfield 18, 3) := by decide +kernel
theorem dX0_init_29 : decode cX0_init 29 = .ok (.aload_n 0, 1) := by decide +kernel
theorem dX0_init_30 : decode cX0_init 30 = .ok (.bipush 100, 2) := by decide +kernel
theorem dX0_init_32 : decode cX0_init 32 = .ok (.newarray .int, 2) := by decide +kernel
theorem dX0_init_34 : decode cX0_init 34 = .ok (.putfield 21, 3) := by decide +kernel
theorem dX0_init_37 : decode cX0_init 37 = .ok (.aload_n 0, 1) := by decide +kernel
theorem dX0_init_38 : decode cX0_init 38 = .ok (.aload_n 1, 1) := by decide +kernel
theorem dX0_init_39 : decode cX0_init 39 = .ok (.putfield 24, 3) := by decide +kernel
theorem dX0_init_42 : decode cX0_init 42 = .ok (.aload_n 0, 1) := by decide +kernel
theorem dX0_init_43 : decode cX0_init 43 = .ok (.getfield 21, 3) := by decide +kernel
theorem dX0_init_46 : decode cX0_init 46 = .ok (.iconst (-1), 1) := by decide +kernel
theorem dX0_init_47 : decode cX0_init 47 = .ok (.invokestatic 28, 3) := by decide +kernel
theorem dX0_init_50 : decode cX0_init 50 = .ok (.return_, 1) := by decide +kernel
theorem dX1_init_0 : decode cX1_init 0 = .ok (.aload_n 0, 1) := by decide +kernel
theorem dX1_init_1 : decode cX1_init 1 = .ok (.invokespecial 3, 3) := by decide +kernel
theorem dX1_init_4 : decode cX1_init 4 = .ok (.aload_n 0, 1) := by decide +kernel
theorem dX1_init_5 : decode cX1_init 5 = .ok (.iconst 4, 1) := by decide +kernel
theorem dX1_init_6 : decode cX1_init 6 = .ok (.newarray .int, 2) := by decide +kernel
theorem dX1_init_8 : decode cX1_init 8 = .ok (.putfield 9, 3) := by decide +kernel
theorem dX1_init_11 : decode cX1_init 11 = .ok (.aload_n 0, 1) := by decide +kernel
theorem dX1_init_12 : decode cX1_init 12 = .ok (.iconst 4, 1) := by decide +kernel
theorem dX1_init_13 : decode cX1_init 13 = .ok (.newarray .int, 2) := by decide +kernel
theorem dX1_init_15 : decode cX1_init 15 = .ok (.putfield 15, 3) := by decide +kernel
theorem dX1_init_18 : decode cX1_init 18 = .ok (.aload_n 0, 1) := by decide +kernel
theorem dX1_init_19 : decode cX1_init 19 = .ok (.aload_n 1, 1) := by decide +kernel
theorem dX1_init_20 : decode cX1_init 20 = .ok (.putfield 18, 3) := by decide +kernel
theorem dX1_init_23 : decode cX1_init 23 = .ok (.aload_n 0, 1) := by decide +kernel
theorem dX1_init_24 : decode cX1_init 24 = .ok (.getfield 9, 3) := by decide +kernel
theorem dX1_init_27 : decode cX1_init 27 = .ok (.bipush (-13), 2) := by decide +kernel
theorem dX1_init_29 : decode cX1_init 29 = .ok (.invokestatic 22, 3) := by decide +kernel
theorem dX1_init_32 : decode cX1_init 32 = .ok (.return_, 1) := by decide +kernel
theorem dX2_init_0 : decode cX2_init 0 = .ok (.aload_n 0, 1) := by decide +kernel
theorem dX2_init_1 : decode cX2_init 1 = .ok (.invokespecial 3, 3) := by decide +kernel
theorem dX2_init_4 : decode cX2_init 4 = .ok (.aload_n 0, 1) := by decide +kernel
theorem dX2_init_5 : decode cX2_init 5 = .ok (.bipush 8, 2) := by decide +kernel
theorem dX2_init_7 : decode cX2_init 7 = .ok (.newarray .int, 2) := by decide +kernel
theorem dX2_init_9 : decode cX2_init 9 = .ok (.putfield 9, 3) := by decide +kernel
theorem dX2_init_12 : decode cX2_init 12 = .ok (.aload_n 0, 1) := by decide +kernel
theorem dX2_init_13 : decode cX2_init 13 = .ok (.bipush 100, 2) := by decide +kernel
theorem dX2_init_15 : decode cX2_init 15 = .ok (.newarray .int, 2) := by decide +kernel
theorem dX2_init_17 : decode cX2_init 17 = .ok (.putfield 15, 3) := by decide +kernel
theorem dX2_init_20 : decode cX2_init 20 = .ok (.aload_n 0, 1) := by decide +kernel
theorem dX2_init_21 : decode cX2_init 21 = .ok (.bipush 100, 2) := by decide +kernel
theorem dX2_init_23 : decode cX2_init 23 = .ok (.newarray .int, 2) := by decide +kernel
theorem dX2_init_25 : decode cX2_init 25 = .ok (.putfield 18, 3) := by decide +kernel
theorem dX2_init_28 : decode cX2_init 28 = .ok (.aload_n 0, 1) := by decide +kernel
theorem dX2_init_29 : decode cX2_init 29 = .ok (.bipush 60, 2) := by decide +kernel
theorem dX2_init_31 : decode cX2_init 31 = .ok (.newarray .int, 2) := by decide +kernel
theorem dX2_init_33 : decode cX2_init 33 = .ok (.putfield 21, 3) := by decide +kernel
theorem dX2_init_36 : decode cX2_init 36 = .ok (.aload_n 0, 1) := by decide +kernel
theorem dX2_init_37 : decode cX2_init 37 = .ok (.bipush 60, 2) := by decide +kernel
theorem dX2_init_39 : decode cX2_init 39 = .ok (.newarray .int, 2) := by decide +kernel
theorem dX2_init_41 : decode cX2_init 41 = .ok (.putfield 24, 3) := by decide +kernel
theorem dX2_init_44 : decode cX2_init 44 = .ok (.aload_n 0, 1) := by decide +kernel
theorem dX2_init_45 : decode cX2_init 45 = .ok (.iconst 3, 1) := by decide +kernel
theorem dX2_init_46 : decode cX2_init 46 = .ok (.newarray .int, 2) := by decide +kernel
theorem dX2_init_48 : decode cX2_init 48 = .ok (.putfield 27, 3) := by decide +kernel
theorem dX2_init_51 : decode cX2_init 51 = .ok (.aload_n 0, 1) := by decide +kernel
theorem dX2_init_52 : decode cX2_init 52 = .ok (.aload_n 1, 1) := by decide +kernel
theorem dX2_init_53 : decode cX2_init 53 = .ok (.putfield 30, 3) := by decide +kernel
theorem dX2_init_56 : decode cX2_init 56 = .ok (.return_, 1) := by decide +kernel
theorem dX3_init_0 : decode cX3_init 0 = .ok (.aload_n 0, 1) := by decide +kernel
theorem dX3_init_1 : decode cX3_init 1 = .ok (.invokespecial 3, 3) := by decide +kernel
theorem dX3_init_4 : decode cX3_init 4 = .ok (.aload_n 0, 1) := by decide +kernel
theorem dX3_init_5 : decode cX3_init 5 = .ok (.sipush 800, 3) := by decide +kernel
theorem dX3_init_8 : decode cX3_init 8 = .ok (.newarray .int, 2) := by decide +kernel
theorem dX3_init_10 : decode cX3_init 10 = .ok (.putfield 9, 3) := by decide +kernel
theorem dX3_init_13 : decode cX3_init 13 = .ok (.return_, 1) := by decide +kernel
theorem dX4_init_0 : decode cX4_init 0 = .ok (.aload_n 0, 1) := by decide +kernel
theorem dX4_init_1 : decode cX4_init 1 = .ok (.invokespecial 3, 3) := by decide +kernel
theorem dX4_init_4 : decode cX4_init 4 = .ok (.aload_n 0, 1) := by decide +kernel
theorem dX4_init_5 : decode cX4_init 5 = .ok (.bipush 12, 2) := by decide +kernel
theorem dX4_init_7 : decode cX4_init 7 = .ok (.newarray .int, 2) := by decide +kernel
theorem dX4_init_9 : decode cX4_init 9 = .ok (.putfield 9, 3) := by decide +kernel
theorem dX4_init_12 : decode cX4_init 12 = .ok (.aload_n 0, 1) := by decide +kernel
theorem dX4_init_13 : decode cX4_init 13 = .ok (.bipush 12, 2) := by decide +kernel
theorem dX4_init_15 : decode cX4_init 15 = .ok (.newarray .int, 2) := by decide +kernel
theorem dX4_init_17 : decode cX4_init 17 = .ok (.putfield 15, 3) := by decide +kernel
theorem dX4_init_20 : decode cX4_init 20 = .ok (.aload_n 0, 1) := by decide +kernel
theorem dX4_init_21 : decode cX4_init 21 = .ok (.bipush 36, 2) := by decide +kernel
theorem dX4_init_23 : decode cX4_init 23 = .ok (.newarray .int, 2) := by decide +kernel
theorem dX4_init_25 : decode cX4_init 25 = .ok (.putfield 18, 3) := by decide +kernel
theorem dX4_init_28 : decode cX4_init 28 = .ok (.return_, 1) := by decide +kernel
theorem dX5_init_0 : decode cX5_init 0 = .ok (.aload_n 0, 1) := by decide +kernel
theorem dX5_init_1 : decode cX5_init 1 = .ok (.invokespecial 3, 3) := by decide +kernel
theorem dX5_init_4 : decode cX5_init 4 = .ok (.aload_n 0, 1) := by decide +kernel
theorem dX5_init_5 : decode cX5_init 5 = .ok (.bipush 100, 2) := by decide +kernel
theorem dX5_init_7 : decode cX5_init 7 = .ok (.newarray .int, 2) := by decide +kernel
theorem dX5_init_9 : decode cX5_init 9 = .ok (.putfield 9, 3) := by decide +kernel
theorem dX5_init_12 : decode cX5_init 12 = .ok (.aload_n 0, 1) := by decide +kernel
theorem dX5_init_13 : decode cX5_init 13 = .ok (.bipush 100, 2) := by decide +kernel
theorem dX5_init_15 : decode cX5_init 15 = .ok (.newarray .int, 2) := by decide +kernel
theorem dX5_init_17 : decode cX5_init 17 = .ok (.putfield 15, 3) := by decide +kernel
theorem dX5_init_20 : decode cX5_init 20 = .ok (.aload_n 0, 1) := by decide +kernel
theorem dX5_init_21 : decode cX5_init 21 = .ok (.bipush 100, 2) := by decide +kernel
theorem dX5_init_23 : decode cX5_init 23 = .ok (.newarray .int, 2) := by decide +kernel
theorem dX5_init_25 : decode cX5_init 25 = .ok (.putfield 18, 3) := by decide +kernel
theorem dX5_init_28 : decode cX5_init 28 = .ok (.aload_n 0, 1) := by decide +kernel
theorem dX5_init_29 : decode cX5_init 29 = .ok (.iconst 3, 1) := by decide +kernel
theorem dX5_init_30 : decode cX5_init 30 = .ok (.newarray .int, 2) := by decide +kernel
theorem dX5_init_32 : decode cX5_init 32 = .ok (.putfield 21, 3) := by decide +kernel
theorem dX5_init_35 : decode cX5_init 35 = .ok (.aload_n 0, 1) := by decide +kernel
theorem dX5_init_36 : decode cX5_init 36 = .ok (.iconst 3, 1) := by decide +kernel
theorem dX5_init_37 : decode cX5_init 37 = .ok (.newarray .int, 2) := by decide +kernel
theorem dX5_init_39 : decode cX5_init 39 = .ok (.putfield 24, 3) := by decide +kernel
theorem dX5_init_42 : decode cX5_init 42 = .ok (.aload_n 0, 1) := by decide +kernel
theorem dX5_init_43 : decode cX5_init 43 = .ok (.aload_n 1, 1) := by decide +kernel
theorem dX5_init_44 : decode cX5_init 44 = .ok (.putfield 27, 3) := by decide +kernel
theorem dX5_init_47 : decode cX5_init 47 = .ok (.aload_n 0, 1) := by decide +kernel
theorem dX5_init_48 : decode cX5_init 48 = .ok (.aload_n 2, 1) := by decide +kernel
theorem dX5_init_49 : decode cX5_init 49 = .ok (.putfield 31, 3) := by decide +kernel
theorem dX5_init_52 : decode cX5_init 52 = .ok (.aload_n 0, 1) := by decide +kernel
theorem dX5_init_53 : decode cX5_init 53 = .ok (.new 35, 3) := by decide +kernel
theorem dX5_init_56 : decode cX5_init 56 = .ok (.dup, 1) := by decide +kernel
theorem dX5_init_57 : decode cX5_init 57 = .ok (.aload_n 1, 1) := by decide +kernel
theorem dX5_init_58 : decode cX5_init 58 = .ok (.invokespecial 37, 3) := by decide +kernel
theorem dX5_init_61 : decode cX5_init 61 = .ok (.putfield 40, 3) := by decide +kernel
theorem dX5_init_64 : decode cX5_init 64 = .ok (.return_, 1) := by decide +kernel
theorem dX6_init_0 : decode cX6_init 0 = .ok (.aload_n 0, 1) := by decide +kernel
theorem dX6_init_1 : decode cX6_init 1 = .ok (.invokespecial 3, 3) := by decide +kernel
theorem dX6_init_4 : decode cX6_init 4 = .ok (.aload_n 0, 1) := by decide +kernel
theorem dX6_init_5 : decode cX6_init 5 = .ok (.bipush 100, 2) := by decide +kernel
theorem dX6_init_7 : decode cX6_init 7 = .ok (.newarray .int, 2) := by decide +kernel
theorem dX6_init_9 : decode cX6_init 9 = .ok (.putfield 9, 3) := by decide +kernel
theorem dX6_init_12 : decode cX6_init 12 = .ok (.aload_n 0, 1) := by decide +kernel
theorem dX6_init_13 : decode cX6_init 13 = .ok (.sipush 300, 3) := by decide +kernel
theorem dX6_init_16 : decode cX6_init 16 = .ok (.newarray .int, 2) := by decide +kernel
theorem dX6_init_18 : decode cX6_init 18 = .ok (.putfield 15, 3) := by decide +kernel
theorem dX6_init_21 : decode cX6_init 21 = .ok (.aload_n 0, 1) := by decide +kernel
theorem dX6_init_22 : decode cX6_init 22 = .ok (.sipush 300, 3) := by decide +kernel
theorem dX6_init_25 : decode cX6_init 25 = .ok (.newarray .int, 2) := by decide +kernel
theorem dX6_init_27 : decode cX6_init 27 = .ok (.putfield 18, 3) := by decide +kernel
theorem dX6_init_30 : decode cX6_init 30 = .ok (.aload_n 0, 1) := by decide +kernel
theorem dX6_init_31 : decode cX6_init 31 = .ok (.sipush 157, 3) := by decide +kernel
theorem dX6_init_34 : decode cX6_init 34 = .ok (.newarray .long, 2) := by decide +kernel
theorem dX6_init_36 : decode cX6_init 36 = .ok (.putfield 21, 3) := by decide +kernel
theorem dX6_init_39 : decode cX6_init 39 = .ok (.aload_n 0, 1) := by decide +kernel
theorem dX6_init_40 : decode cX6_init 40 = .ok (.aload_n 1, 1) := by decide +kernel
theorem dX6_init_41 : decode cX6_init 41 = .ok (.putfield 25, 3) := by decide +kernel
theorem dX6_init_44 : decode cX6_init 44 = .ok (.aload_n 0, 1) := by decide +kernel
theorem dX6_init_45 : decode cX6_init 45 = .ok (.new 29, 3) := by decide +kernel
theorem dX6_init_48 : decode cX6_init 48 = .ok (.dup, 1) := by decide +kernel
theorem dX6_init_49 : decode cX6_init 49 = .ok (.aload_n 1, 1) := by decide +kernel
theorem dX6_init_50 : decode cX6_init 50 = .ok (.invokespecial 31, 3) := by decide +kernel
theorem dX6_init_53 : decode cX6_init 53 = .ok (.putfield 34, 3) := by decide +kernel
theorem dX6_init_56 : decode cX6_init 56 = .ok (.return_, 1) := by decide +kernel
theorem dX7_init_0 : decode cX7_init 0 = .ok (.aload_n 0, 1) := by decide +kernel
theorem dX7_init_1 : decode cX7_init 1 = .ok (.invokespecial 3, 3) := by decide +kernel
theorem dX7_init_4 : decode cX7_init 4 = .ok (.aload_n 0, 1) := by decide +kernel
theorem dX7_init_5 : decode cX7_init 5 = .ok (.bipush 12, 2) := by decide +kernel
theorem dX7_init_7 : decode cX7_init 7 = .ok (.newarray .int, 2) := by decide +kernel
theorem dX7_init_9 : decode cX7_init 9 = .ok (.putfield 9, 3) := by decide +kernel
theorem dX7_init_12 : decode cX7_init 12 = .ok (.aload_n 0, 1) := by decide +kernel
theorem dX7_init_13 : decode cX7_init 13 = .ok (.bipush 12, 2) := by decide +kernel
theorem dX7_init_15 : decode cX7_init 15 = .ok (.newarray .int, 2) := by decide +kernel
theorem dX7_init_17 : decode cX7_init 17 = .ok (.putfield 15, 3) := by decide +kernel
theorem dX7_init_20 : decode cX7_init 20 = .ok (.aload_n 0, 1) := by decide +kernel
theorem dX7_init_21 : decode cX7_init 21 = .ok (.bipush 12, 2) := by decide +kernel
theorem dX7_init_23 : decode cX7_init 23 = .ok (.newarray .int, 2) := by decide +kernel
theorem dX7_init_25 : decode cX7_init 25 = .ok (.putfield 18, 3) := by decide +kernel
theorem dX7_init_28 : decode cX7_init 28 = .ok (.aload_n 0, 1) := by decide +kernel
theorem dX7_init_29 : decode cX7_init 29 = .ok (.iconst 3, 1) := by decide +kernel
theorem dX7_init_30 : decode cX7_init 30 = .ok (.newarray .int, 2) := by decide +kernel
theorem dX7_init_32 : decode cX7_init 32 = .ok (.putfield 21, 3) := by decide +kernel
theorem dX7_init_35 : decode cX7_init 35 = .ok (.aload_n 0, 1) := by decide +kernel
theorem dX7_init_36 : decode cX7_init 36 = .ok (.aload_n 1, 1) := by decide +kernel
theorem dX7_init_37 : decode cX7_init 37 = .ok (.putfield 24, 3) := by decide +kernel
theorem dX7_init_40 : decode cX7_init 40 = .ok (.aload_n 0, 1) := by decide +kernel
theorem dX7_init_41 : decode cX7_init 41 = .ok (.aload_n 2, 1) := by decide +kernel
theorem dX7_init_42 : decode cX7_init 42 = .ok (.putfield 28, 3) := by decide +kernel
theorem dX7_init_45 : decode cX7_init 45 = .ok (.aload_n 0, 1) := by decide +kernel
theorem dX7_init_46 : decode cX7_init 46 = .ok (.aload_n 3, 1) := by decide +kernel
theorem dX7_init_47 : decode cX7_init 47 = .ok (.putfield 32, 3) := by decide +kernel
theorem dX7_init_50 : decode cX7_init 50 = .ok (.return_, 1) := by decide +kernel
theorem dX8_init_0 : decode cX8_init 0 = .ok (.aload_n 0, 1) := by decide +kernel
theorem dX8_init_1 : decode cX8_init 1 = .ok (.invokespecial 3, 3) := by decide +kernel
theorem dX8_init_4 : decode cX8_init 4 = .ok (.aload_n 0, 1) := by decide +kernel
theorem dX8_init_5 : decode cX8_init 5 = .ok (.bipush 52, 2) := by decide +kernel
theorem dX8_init_7 : decode cX8_init 7 = .ok (.newarray .int, 2) := by decide +kernel
theorem dX8_init_9 : decode cX8_init 9 = .ok (.putfield 9, 3) := by decide +kernel
theorem dX8_init_12 : decode cX8_init 12 = .ok (.aload_n 0, 1) := by decide +kernel
theorem dX8_init_13 : decode cX8_init 13 = .ok (.sipush 156, 3) := by decide +kernel
theorem dX8_init_16 : decode cX8_init 16 = .ok (.newarray .int, 2) := by decide +kernel
theorem dX8_init_18 : decode cX8_init 18 = .ok (.putfield 15, 3) := by decide +kernel
theorem dX8_init_21 : decode cX8_init 21 = .ok (.aload_n 0, 1) := by decide +kernel
theorem dX8_init_22 : decode cX8_init 22 = .ok (.sipush 624, 3) := by decide +kernel
theorem dX8_init_25 : decode cX8_init 25 = .ok (.newarray .int, 2) := by decide +kernel
theorem dX8_init_27 : decode cX8_init 27 = .ok (.putfield 18, 3) := by decide +kernel
theorem dX8_init_30 : decode cX8_init 30 = .ok (.aload_n 0, 1) := by decide +kernel
theorem dX8_init_31 : decode cX8_init 31 = .ok (.aload_n 1, 1) := by decide +kernel
theorem dX8_init_32 : decode cX8_init 32 = .ok (.putfield 21, 3) := by decide +kernel
theorem dX8_init_35 : decode cX8_init 35 = .ok (.return_, 1) := by decide +kernel
theorem dX10_init_0 : decode cX10_init 0 = .ok (.aload_n 0, 1) := by decide +kernel
theorem dX10_init_1 : decode cX10_init 1 = .ok (.invokespecial 3, 3) := by decide +kernel
theorem dX10_init_4 : decode cX10_init 4 = .ok (.aload_n 0, 1) := by decide +kernel
theorem dX10_init_5 : decode cX10_init 5 = .ok (.bipush 100, 2) := by decide +kernel
theorem dX10_init_7 : decode cX10_init 7 = .ok (.newarray .int, 2) := by decide +kernel
theorem dX10_init_9 : decode cX10_init 9 = .ok (.putfield 9, 3) := by decide +kernel
theorem dX10_init_12 : decode cX10_init 12 = .ok (.aload_n 0, 1) := by decide +kernel
theorem dX10_init_13 : decode cX10_init 13 = .ok (.bipush 100, 2) := by decide +kernel
theorem dX10_init_15 : decode cX10_init 15 = .ok (.newarray .int, 2) := by decide +kernel
theorem dX10_init_17 : decode cX10_init 17 = .ok (.putfield 15, 3) := by decide +kernel
theorem dX10_init_20 : decode cX10_init 20 = .ok (.aload_n 0, 1) := by decide +kernel
theorem dX10_init_21 : decode cX10_init 21 = .ok (.bipush 100, 2) := by decide +kernel
theorem dX10_init_23 : decode cX10_init 23 = .ok (.newarray .int, 2) := by decide +kernel
theorem dX10_init_25 : decode cX10_init 25 = .ok (.putfield 18, 3) := by decide +kernel
theorem dX10_init_28 : decode cX10_init 28 = .ok (.aload_n 0, 1) := by decide +kernel
theorem dX10_init_29 : decode cX10_init 29 = .ok (.aload_n 1, 1) := by decide +kernel
theorem dX10_init_30 : decode cX10_init 30 = .ok (.putfield 21, 3) := by decide +kernel
theorem dX10_init_33 : decode cX10_init 33 = .ok (.return_, 1) := by decide +kernel
theorem dX11_init_0 : decode cX11_init 0 = .ok (.aload_n 0, 1) := by decide +kernel
theorem dX11_init_1 : decode cX11_init 1 = .ok (.invokespecial 3, 3) := by decide +kernel
theorem dX11_init_4 : decode cX11_init 4 = .ok (.aload_n 0, 1) := by decide +kernel
theorem dX11_init_5 : decode cX11_init 5 = .ok (.new 9, 3) := by decide +kernel
theorem dX11_init_8 : decode cX11_init 8 = .ok (.dup, 1) := by decide +kernel
theorem dX11_init_9 : decode cX11_init 9 = .ok (.invokespecial 11, 3) := by decide +kernel
theorem dX11_init_12 : decode cX11_init 12 = .ok (.putfield 12, 3) := by decide +kernel
theorem dX11_init_15 : decode cX11_init 15 = .ok (.aload_n 0, 1) := by decide +kernel
theorem dX11_init_16 : decode cX11_init 16 = .ok (.new 16, 3) := by decide +kernel
theorem dX11_init_19 : decode cX11_init 19 = .ok (.dup, 1) := by decide +kernel
theorem dX11_init_20 : decode cX11_init 20 = .ok (.aload_n 0, 1) := by decide +kernel
theorem dX11_init_21 : decode cX11_init 21 = .ok (.getfield 12, 3) := by decide +kernel
theorem dX11_init_24 : decode cX11_init 24 = .ok (.invokespecial 18, 3) := by decide +kernel
theorem dX11_init_27 : decode cX11_init 27 = .ok (.putfield 21, 3) := by decide +kernel
theorem dX11_init_30 : decode cX11_init 30 = .ok (.aload_n 0, 1) := by decide +kernel
theorem dX11_init_31 : decode cX11_init 31 = .ok (.new 25, 3) := by decide +kernel
theorem dX11_init_34 : decode cX11_init 34 = .ok (.dup, 1) := by decide +kernel
theorem dX11_init_35 : decode cX11_init 35 = .ok (.aload_n 0, 1) := by decide +kernel
theorem dX11_init_36 : decode cX11_init 36 = .ok (.getfield 12, 3) := by decide +kernel
theorem dX11_init_39 : decode cX11_init 39 = .ok (.invokespecial 27, 3) := by decide +kernel
theorem dX11_init_42 : decode cX11_init 42 = .ok (.putfield 28, 3) := by decide +kernel
theorem dX11_init_45 : decode cX11_init 45 = .ok (.aload_n 0, 1) := by decide +kernel
theorem dX11_init_46 : decode cX11_init 46 = .ok (.new 32, 3) := by decide +kernel
theorem dX11_init_49 : decode cX11_init 49 = .ok (.dup, 1) := by decide +kernel
theorem dX11_init_50 : decode cX11_init 50 = .ok (.aload_n 0, 1) := by decide +kernel
theorem dX11_init_51 : decode cX11_init 51 = .ok (.getfield 12, 3) := by decide +kernel
theorem dX11_init_54 : decode cX11_init 54 = .ok (.invokespecial 34, 3) := by decide +kernel
theorem dX11_init_57 : decode cX11_init 57 = .ok (.putfield 35, 3) := by decide +kernel
theorem dX11_init_60 : decode cX11_init 60 = .ok (.aload_n 0, 1) := by decide +kernel
theorem dX11_init_61 : decode cX11_init 61 = .ok (.new 39, 3) := by decide +kernel
theorem dX11_init_64 : decode cX11_init 64 = .ok (.dup, 1) := by decide +kernel
theorem dX11_init_65 : decode cX11_init 65 = .ok (.aload_n 0, 1) := by decide +kernel
theorem dX11_init_66 : decode cX11_init 66 = .ok (.getfield 12, 3) := by decide +kernel
theorem dX11_init_69 : decode cX11_init 69 = .ok (.aload_n 0, 1) := by decide +kernel
theorem dX11_init_70 : decode cX11_init 70 = .ok (.getfield 28, 3) := by decide +kernel
theorem dX11_init_73 : decode cX11_init 73 = .ok (.aload_n 0, 1) := by decide +kernel
theorem dX11_init_74 : decode cX11_init 74 = .ok (.getfield 35, 3) := by decide +kernel
theorem dX11_init_77 : decode cX11_init 77 = .ok (.invokespecial 41, 3) := by decide +kernel
theorem dX11_init_80 : decode cX11_init 80 = .ok (.putfield 44, 3) := by decide +kernel
theorem dX11_init_83 : decode cX11_init 83 = .ok (.aload_n 0, 1) := by decide +kernel
theorem dX11_init_84 : decode cX11_init 84 = .ok (.new 48, 3) := by decide +kernel
theorem dX11_init_87 : decode cX11_init 87 = .ok (.dup, 1) := by decide +kernel
theorem dX11_init_88 : decode cX11_init 88 = .ok (.aload_n 0, 1) := by decide +kernel
theorem dX11_init_89 : decode cX11_init 89 = .ok (.getfield 35, 3) := by decide +kernel
theorem dX11_init_92 : decode cX11_init 92 = .ok (.aload_n 0, 1) := by decide +kernel
theorem dX11_init_93 : decode cX11_init 93 = .ok (.getfield 28, 3) := by decide +kernel
theorem dX11_init_96 : decode cX11_init 96 = .ok (.invokespecial 50, 3) := by decide +kernel
theorem dX11_init_99 : decode cX11_init 99 = .ok (.putfield 53, 3) := by decide +kernel
theorem dX11_init_102 : decode cX11_init 102 = .ok (.aload_n 0, 1) := by decide +kernel
theorem dX11_init_103 : decode cX11_init 103 = .ok (.new 57, 3) := by decide +kernel
theorem dX11_init_106 : decode cX11_init 106 = .ok (.dup, 1) := by decide +kernel
theorem dX11_init_107 : decode cX11_init 107 = .ok (.aload_n 0, 1) := by decide +kernel
theorem dX11_init_108 : decode cX11_init 108 = .ok (.getfield 35, 3) := by decide +kernel
theorem dX11_init_111 : decode cX11_init 111 = .ok (.invokespecial 59, 3) := by decide +kernel
theorem dX11_init_114 : decode cX11_init 114 = .ok (.putfield 62, 3) := by decide +kernel
theorem dX11_init_117 : decode cX11_init 117 = .ok (.aload_n 0, 1) := by decide +kernel
theorem dX11_init_118 : decode cX11_init 118 = .ok (.new 66, 3) := by decide +kernel
theorem dX11_init_121 : decode cX11_init 121 = .ok (.dup, 1) := by decide +kernel
theorem dX11_init_122 : decode cX11_init 122 = .ok (.invokespecial 68, 3) := by decide +kernel
theorem dX11_init_125 : decode cX11_init 125 = .ok (.putfield 69, 3) := by decide +kernel
theorem dX11_init_128 : decode cX11_init 128 = .ok (.aload_n 0, 1) := by decide +kernel
theorem dX11_init_129 : decode cX11_init 129 = .ok (.new 73, 3) := by decide +kernel
theorem dX11_init_132 : decode cX11_init 132 = .ok (.dup, 1) := by decide +kernel
theorem dX11_init_133 : decode cX11_init 133 = .ok (.aload_n 0, 1) := by decide +kernel
theorem dX11_init_134 : decode cX11_init 134 = .ok (.getfield 35, 3) := by decide +kernel
theorem dX11_init_137 : decode cX11_init 137 = .ok (.invokespecial 75, 3) := by decide +kernel
theorem dX11_init_140 : decode cX11_init 140 = .ok (.putfield 76, 3) := by decide +kernel
theorem dX11_init_143 : decode cX11_init 143 = .ok (.return_, 1) := by decide +kernel
theorem dX12_init_0 : decode cX12_init 0 = .ok (.aload_n 0, 1) := by decide +kernel
theorem dX12_init_1 : decode cX12_init 1 = .ok (.invokespecial 1, 3) := by decide +kernel
theorem dX12_init_4 : decode cX12_init 4 = .ok (.aload_n 0, 1) := by decide +kernel
theorem dX12_init_5 : decode cX12_init 5 = .ok (.bipush 12, 2) := by decide +kernel
theorem dX12_init_7 : decode cX12_init 7 = .ok (.newarray .int, 2) := by decide +kernel
theorem dX12_init_9 : decode cX12_init 9 = .ok (.putfield 7, 3) := by decide +kernel
theorem dX12_init_12 : decode cX12_init 12 = .ok (.aload_n 0, 1) := by decide +kernel
theorem dX12_init_13 : decode cX12_init 13 = .ok (.bipush 12, 2) := by decide +kernel
theorem dX12_init_15 : decode cX12_init 15 = .ok (.newarray .int, 2) := by decide +kernel
theorem dX12_init_17 : decode cX12_init 17 = .ok (.putfield 13, 3) := by decide +kernel
theorem dX12_init_20 : decode cX12_init 20 = .ok (.aload_n 0, 1) := by decide +kernel
theorem dX12_init_21 : decode cX12_init 21 = .ok (.bipush 36, 2) := by decide +kernel
theorem dX12_init_23 : decode cX12_init 23 = .ok (.newarray .int, 2) := by decide +kernel
theorem dX12_init_25 : decode cX12_init 25 = .ok (.putfield 16, 3) := by decide +kernel
theorem dX12_init_28 : decode cX12_init 28 = .ok (.aload_n 0, 1) := by decide +kernel
theorem dX12_init_29 : decode cX12_init 29 = .ok (.bipush 100, 2) := by decide +kernel
theorem dX12_init_31 : decode cX12_init 31 = .ok (.newarray .int, 2) := by decide +kernel
theorem dX12_init_33 : decode cX12_init 33 = .ok (.putfield 19, 3) := by decide +kernel
theorem dX12_init_36 : decode cX12_init 36 = .ok (.aload_n 0, 1) := by decide +kernel
theorem dX12_init_37 : decode cX12_init 37 = .ok (.bipush 100, 2) := by decide +kernel
theorem dX12_init_39 : decode cX12_init 39 = .ok (.newarray .int, 2) := by decide +kernel
theorem dX12_init_41 : decode cX12_init 41 = .ok (.putfield 22, 3) := by decide +kernel
theorem dX12_init_44 : decode cX12_init 44 = .ok (.aload_n 0, 1) := by decide +kernel
theorem dX12_init_45 : decode cX12_init 45 = .ok (.sipush 300, 3) := by decide +kernel
theorem dX12_init_48 : decode cX12_init 48 = .ok (.newarray .int, 2) := by decide +kernel
theorem dX12_init_50 : decode cX12_init 50 = .ok (.putfield 25, 3) := by decide +kernel
theorem dX12_init_53 : decode cX12_init 53 = .ok (.aload_n 0, 1) := by decide +kernel
theorem dX12_init_54 : decode cX12_init 54 = .ok (.bipush 100, 2) := by decide +kernel
theorem dX12_init_56 : decode cX12_init 56 = .ok (.newarray .int, 2) := by decide +kernel
theorem dX12_init_58 : decode cX12_init 58 = .ok (.putfield 28, 3) := by decide +kernel
theorem dX12_init_61 : decode cX12_init 61 = .ok (.aload_n 0, 1) := by decide +kernel
theorem dX12_init_62 : decode cX12_init 62 = .ok (.sipush 800, 3) := by decide +kernel
theorem dX12_init_65 : decode cX12_init 65 = .ok (.newarray .int, 2) := by decide +kernel
theorem dX12_init_67 : decode cX12_init 67 = .ok (.putfield 31, 3) := by decide +kernel
theorem dX12_init_70 : decode cX12_init 70 = .ok (.aload_n 0, 1) := by decide +kernel
theorem dX12_init_71 : decode cX12_init 71 = .ok (.bipush 8, 2) := by decide +kernel
theorem dX12_init_73 : decode cX12_init 73 = .ok (.newarray .int, 2) := by decide +kernel
theorem dX12_init_75 : decode cX12_init 75 = .ok (.putfield 34, 3) := by decide +kernel
theorem dX12_init_78 : decode cX12_init 78 = .ok (.aload_n 0, 1) := by decide +kernel
theorem dX12_init_79 : decode cX12_init 79 = .ok (.iconst 4, 1) := by decide +kernel
theorem dX12_init_80 : decode cX12_init 80 = .ok (.newarray .int, 2) := by decide +kernel
theorem dX12_init_82 : decode cX12_init 82 = .ok (.putfield 37, 3) := by decide +kernel
theorem dX12_init_85 : decode cX12_init 85 = .ok (.aload_n 0, 1) := by decide +kernel
theorem dX12_init_86 : decode cX12_init 86 = .ok (.iconst 4, 1) := by decide +kernel
theorem dX12_init_87 : decode cX12_init 87 = .ok (.newarray .int, 2) := by decide +kernel
theorem dX12_init_89 : decode cX12_init 89 = .ok (.putfield 40, 3) := by decide +kernel
theorem dX12_init_92 : decode cX12_init 92 = .ok (.aload_n 0, 1) := by decide +kernel
theorem dX12_init_93 : decode cX12_init 93 = .ok (.bipush 16, 2) := by decide +kernel
theorem dX12_init_95 : decode cX12_init 95 = .ok (.newarray .boolean, 2) := by decide +kernel
theorem dX12_init_97 : decode cX12_init 97 = .ok (.putfield 43, 3) := by decide +kernel
theorem dX12_init_100 : decode cX12_init 100 = .ok (.aload_n 0, 1) := by decide +kernel
theorem dX12_init_101 : decode cX12_init 101 = .ok (.bipush 52, 2) := by decide +kernel
theorem dX12_init_103 : decode cX12_init 103 = .ok (.newarray .int, 2) := by decide +kernel
theorem dX12_init_105 : decode cX12_init 105 = .ok (.putfield 47, 3) := by decide +kernel
theorem dX12_init_108 : decode cX12_init 108 = .ok (.aload_n 0, 1) := by decide +kernel
theorem dX12_init_109 : decode cX12_init 109 = .ok (.sipush 624, 3) := by decide +kernel
theorem dX12_init_112 : decode cX12_init 112 = .ok (.newarray .int, 2) := by decide +kernel
theorem dX12_init_114 : decode cX12_init 114 = .ok (.putfield 50, 3) := by decide +kernel
theorem dX12_init_117 : decode cX12_init 117 = .ok (.aload_n 0, 1) := by decide +kernel
theorem dX12_init_118 : decode cX12_init 118 = .ok (.bipush 64, 2) := by decide +kernel
theorem dX12_init_120 : decode cX12_init 120 = .ok (.newarray .int, 2) := by decide +kernel
theorem dX12_init_122 : decode cX12_init 122 = .ok (.putfield 53, 3) := by decide +kernel
theorem dX12_init_125 : decode cX12_init 125 = .ok (.aload_n 0, 1) := by decide +kernel
theorem dX12_init_126 : decode cX12_init 126 = .ok (.bipush 64, 2) := by decide +kernel
theorem dX12_init_128 : decode cX12_init 128 = .ok (.newarray .int, 2) := by decide +kernel
theorem dX12_init_130 : decode cX12_init 130 = .ok (.putfield 56, 3) := by decide +kernel
theorem dX12_init_133 : decode cX12_init 133 = .ok (.aload_n 0, 1) := by decide +kernel
theorem dX12_init_134 : decode cX12_init 134 = .ok (.bipush 64, 2) := by decide +kernel
theorem dX12_init_136 : decode cX12_init 136 = .ok (.newarray .int, 2) := by decide +kernel
theorem dX12_init_138 : decode cX12_init 138 = .ok (.putfield 59, 3) := by decide +kernel
theorem dX12_init_141 : decode cX12_init 141 = .ok (.aload_n 0, 1) := by decide +kernel
theorem dX12_init_142 : decode cX12_init 142 = .ok (.bipush 64, 2) := by decide +kernel
theorem dX12_init_144 : decode cX12_init 144 = .ok (.newarray .int, 2) := by decide +kernel
theorem dX12_init_146 : decode cX12_init 146 = .ok (.putfield 62, 3) := by decide +kernel
theorem dX12_init_149 : decode cX12_init 149 = .ok (.aload_n 0, 1) := by decide +kernel
theorem dX12_init_150 : decode cX12_init 150 = .ok (.bipush 64, 2) := by decide +kernel
theorem dX12_init_152 : decode cX12_init 152 = .ok (.newarray .int, 2) := by decide +kernel
theorem dX12_init_154 : decode cX12_init 154 = .ok (.putfield 65, 3) := by decide +kernel
theorem dX12_init_157 : decode cX12_init 157 = .ok (.aload_n 0, 1) := by decide +kernel
theorem dX12_init_158 : decode cX12_init 158 = .ok (.iconst 3, 1) := by decide +kernel
theorem dX12_init_159 : decode cX12_init 159 = .ok (.newarray .int, 2) := by decide +kernel
theorem dX12_init_161 : decode cX12_init 161 = .ok (.putfield 68, 3) := by decide +kernel
theorem dX12_init_164 : decode cX12_init 164 = .ok (.aload_n 0, 1) := by decide +kernel
theorem dX12_init_165 : decode cX12_init 165 = .ok (.iconst 3, 1) := by decide +kernel
theorem dX12_init_166 : decode cX12_init 166 = .ok (.newarray .int, 2) := by decide +kernel
theorem dX12_init_168 : decode cX12_init 168 = .ok (.putfield 71, 3) := by decide +kernel
theorem dX12_init_171 : decode cX12_init 171 = .ok (.aload_n 0, 1) := by decide +kernel
theorem dX12_init_172 : decode cX12_init 172 = .ok (.bipush 64, 2) := by decide +kernel
theorem dX12_init_174 : decode cX12_init 174 = .ok (.newarray .int, 2) := by decide +kernel
theorem dX12_init_176 : decode cX12_init 176 = .ok (.putfield 74, 3) := by decide +kernel
theorem dX12_init_179 : decode cX12_init 179 = .ok (.aload_n 0, 1) := by decide +kernel
theorem dX12_init_180 : decode cX12_init 180 = .ok (.bipush 64, 2) := by decide +kernel
theorem dX12_init_182 : decode cX12_init 182 = .ok (.newarray .int, 2) := by decide +kernel
theorem dX12_init_184 : decode cX12_init 184 = .ok (.putfield 77, 3) := by decide +kernel
theorem dX12_init_187 : decode cX12_init 187 = .ok (.aload_n 0, 1) := by decide +kernel
theorem dX12_init_188 : decode cX12_init 188 = .ok (.sipush 192, 3) := by decide +kernel
theorem dX12_init_191 : decode cX12_init 191 = .ok (.newarray .int, 2) := by decide +kernel
theorem dX12_init_193 : decode cX12_init 193 = .ok (.putfield 80, 3) := by decide +kernel
theorem dX12_init_196 : decode cX12_init 196 = .ok (.aload_n 0, 1) := by decide +kernel
theorem dX12_init_197 : decode cX12_init 197 = .ok (.bipush 100, 2) := by decide +kernel
theorem dX12_init_199 : decode cX12_init 199 = .ok (.newarray .int, 2) := by decide +kernel
theorem dX12_init_201 : decode cX12_init 201 = .ok (.putfield 83, 3) := by decide +kernel
theorem dX12_init_204 : decode cX12_init 204 = .ok (.aload_n 0, 1) := by decide +kernel
theorem dX12_init_205 : decode cX12_init 205 = .ok (.bipush 100, 2) := by decide +kernel
theorem dX12_init_207 : decode cX12_init 207 = .ok (.newarray .int, 2) := by decide +kernel
theorem dX12_init_209 : decode cX12_init 209 = .ok (.putfield 86, 3) := by decide +kernel
theorem dX12_init_212 : decode cX12_init 212 = .ok (.aload_n 0, 1) := by decide +kernel
theorem dX12_init_213 : decode cX12_init 213 = .ok (.sipush 31000, 3) := by decide +kernel
theorem dX12_init_216 : decode cX12_init 216 = .ok (.newarray .int, 2) := by decide +kernel
theorem dX12_init_218 : decode cX12_init 218 = .ok (.putfield 89, 3) := by decide +kernel
theorem dX12_init_221 : decode cX12_init 221 = .ok (.aload_n 0, 1) := by decide +kernel
theorem dX12_init_222 : decode cX12_init 222 = .ok (.sipush 31000, 3) := by decide +kernel
theorem dX12_init_225 : decode cX12_init 225 = .ok (.newarray .int, 2) := by decide +kernel
theorem dX12_init_227 : decode cX12_init 227 = .ok (.putfield 92, 3) := by decide +kernel
theorem dX12_init_230 : decode cX12_init 230 = .ok (.aload_n 0, 1) := by decide +kernel
theorem dX12_init_231 : decode cX12_init 231 = .ok (.sipush 10000, 3) := by decide +kernel
theorem dX12_init_234 : decode cX12_init 234 = .ok (.newarray .boolean, 2) := by decide +kernel
theorem dX12_init_236 : decode cX12_init 236 = .ok (.putfield 95, 3) := by decide +kernel
theorem dX12_init_239 : decode cX12_init 239 = .ok (.aload_n 0, 1) := by decide +kernel
theorem dX12_init_240 : decode cX12_init 240 = .ok (.bipush 100, 2) := by decide +kernel
theorem dX12_init_242 : decode cX12_init 242 = .ok (.newarray .int, 2) := by decide +kernel
theorem dX12_init_244 : decode cX12_init 244 = .ok (.putfield 98, 3) := by decide +kernel
theorem dX12_init_247 : decode cX12_init 247 = .ok (.aload_n 0, 1) := by decide +kernel
theorem dX12_init_248 : decode cX12_init 248 = .ok (.sipush 400, 3) := by decide +kernel
theorem dX12_init_251 : decode cX12_init 251 = .ok (.newarray .int, 2) := by decide +kernel
theorem dX12_init_253 : decode cX12_init 253 = .ok (.putfield 101, 3) := by decide +kernel
theorem dX12_init_256 : decode cX12_init 256 = .ok (.aload_n 0, 1) := by decide +kernel
theorem dX12_init_257 : decode cX12_init 257 = .ok (.bipush 100, 2) := by decide +kernel
theorem dX12_init_259 : decode cX12_init 259 = .ok (.newarray .boolean, 2) := by decide +kernel
theorem dX12_init_261 : decode cX12_init 261 = .ok (.putfield 104, 3) := by decide +kernel
theorem dX12_init_264 : decode cX12_init 264 = .ok (.aload_n 0, 1) := by decide +kernel
theorem dX12_init_265 : decode cX12_init 265 = .ok (.bipush 100, 2) := by decide +kernel
theorem dX12_init_267 : decode cX12_init 267 = .ok (.newarray .int, 2) := by decide +kernel
theorem dX12_init_269 : decode cX12_init 269 = .ok (.putfield 107, 3) := by decide +kernel
theorem dX12_init_272 : decode cX12_init 272 = .ok (.aload_n 0, 1) := by decide +kernel
theorem dX12_init_273 : decode cX12_init 273 = .ok (.sipush 256, 3) := by decide +kernel
theorem dX12_init_276 : decode cX12_init 276 = .ok (.newarray .int, 2) := by decide +kernel
theorem dX12_init_278 : decode cX12_init 278 = .ok (.putfield 110, 3) := by decide +kernel
theorem dX12_init_281 : decode cX12_init 281 = .ok (.return_, 1) := by decide +kernel
def mX0_init : MR := (0, yX0_init, cX0_init, 2, none, 1, 23, 0, fun _ => 0)
theorem ob_X0_init : MOB mX0_init 1 := ⟨by decide +kernel, rfl, (tm 104 (by decide +kernel) rfl), (tm 6 (by decide +kernel) rfl), by decide +kernel, by decide +kernel, by decide +kernel, rfl, (tm 103 (by decide +kernel) rfl)⟩
def mX1_init : MR := (1, yX1_init, cX1_init, 2, none, 1, 23, 0, fun _ => 0)
theorem ob_X1_init : MOB mX1_init 1 := ⟨by decide +kernel, rfl, (tm 64 (by decide +kernel) rfl), (tm 3 (by decide +kernel) rfl), by decide +kernel, by decide +kernel, by decide +kernel, rfl, (tm 63 (by decide +kernel) rfl)⟩
def mX2_init : MR := (2, yX2_init, cX2_init, 2, none, 1, 12, 0, fun _ => 0)
theorem ob_X2_init : MOB mX2_init 1 := ⟨by decide +kernel, rfl, (tm 278 (by decide +kernel) rfl), (tm 12 (by decide +kernel) rfl), by decide +kernel, by decide +kernel, by decide +kernel, rfl, (tm 277 (by decide +kernel) rfl)⟩
def mX3_init : MR := (3, yX3_init, cX3_init, 1, none, 1, 12, 0, fun _ => 0)
theorem ob_X3_init : MOB mX3_init 0 := ⟨by decide +kernel, rfl, (tm 264 (by decide +kernel) rfl), (tm 11 (by decide +kernel) rfl), by decide +kernel, by decide +kernel, by decide +kernel, rfl, (tm 263 (by decide +kernel) rfl)⟩
def mX4_init : MR := (4, yX4_init, cX4_init, 1, none, 1, 12, 0, fun _ => 0)
theorem ob_X4_init : MOB mX4_init 0 := ⟨by decide +kernel, rfl, (tm 28 (by decide +kernel) rfl), (tm 2 (by decide +kernel) rfl), by decide +kernel, by decide +kernel, by decide +kernel, rfl, (tm 27 (by decide +kernel) rfl)⟩
def mX5_init : MR := (5, yX5_init, cX5_init, 3, none, 2, 33, 0, fun _ => 0)
theorem ob_X5_init : MOB mX5_init 2 := ⟨by decide +kernel, rfl, (tm 175 (by decide +kernel) rfl), (tm 8 (by decide +kernel) rfl), by decide +kernel, by decide +kernel, by decide +kernel, rfl, (tm 174 (by decide +kernel) rfl)⟩
def mX6_init : MR := (6, yX6_init, cX6_init, 2, none, 2, 33, 0, fun _ => 0)
theorem ob_X6_init : MOB mX6_init 1 := ⟨by decide +kernel, rfl, (tm 233 (by decide +kernel) rfl), (tm 10 (by decide +kernel) rfl), by decide +kernel, by decide +kernel, by decide +kernel, rfl, (tm 232 (by decide +kernel) rfl)⟩
def mX7_init : MR := (7, yX7_init, cX7_init, 4, none, 1, 12, 0, fun _ => 0)
theorem ob_X7_init : MOB mX7_init 3 := ⟨by decide +kernel, rfl, (tm 144 (by decide +kernel) rfl), (tm 7 (by decide +kernel) rfl), by decide +kernel, by decide +kernel, by decide +kernel, rfl, (tm 143 (by decide +kernel) rfl)⟩
def mX8_init : MR := (8, yX8_init, cX8_init, 2, none, 1, 12, 0, fun _ => 0)
theorem ob_X8_init : MOB mX8_init 1 := ⟨by decide +kernel, rfl, (tm 85 (by decide +kernel) rfl), (tm 5 (by decide +kernel) rfl), by decide +kernel, by decide +kernel, by decide +kernel, rfl, (tm 84 (by decide +kernel) rfl)⟩
def mX10_init : MR := (9, yX10_init, cX10_init, 2, none, 1, 12, 0, fun _ => 0)
theorem ob_X10_init : MOB mX10_init 1 := ⟨by decide +kernel, rfl, (tm 181 (by decide +kernel) rfl), (tm 9 (by decide +kernel) rfl), by decide +kernel, by decide +kernel, by decide +kernel, rfl, (tm 180 (by decide +kernel) rfl)⟩
def mX11_init : MR := (10, yX11_init, cX11_init, 1, none, 3, 55, 0, fun _ => 0)
theorem ob_X11_init : MOB mX11_init 0 := ⟨by decide +kernel, rfl, (tm 20 (by decide +kernel) rfl), (tm 1 (by decide +kernel) rfl), by decide +kernel, by decide +kernel, by decide +kernel, rfl, (tm 19 (by decide +kernel) rfl)⟩
def mX12_init : MR := (11, yX12_init, cX12_init, 1, none, 1, 12, 0, fun _ => 0)
theorem ob_X12_init : MOB mX12_init 0 := ⟨by decide +kernel, rfl, (tm 796 (by decide +kernel) rfl), (tm 13 (by decide +kernel) rfl), by decide +kernel, by decide +kernel, by decide +kernel, rfl, (tm 795 (by decide +kernel) rfl)⟩
theorem oi_inst : Cond.instanceMethod Lib.objectInit ∈ lw_good := (tm 22 (by decide +kernel) rfl)
theorem oi_code : Cond.code Lib.objectInit ⟨#[0xb1]⟩ 1 none ∈ lw_good := (tm 23 (by decide +kernel) rfl)
theorem ac_int : Cond.arrayClass .int ∈ lw_good := (tm 59 (by decide +kernel) rfl)
theorem ac_boolean : Cond.arrayClass .boolean ∈ lw_good := (tm 925 (by decide +kernel) rfl)
theorem ac_long : Cond.arrayClass .long ∈ lw_good := (tm 259 (by decide +kernel) rfl)
def mL_ent : MR := (13, yL_law, cL_law, 4, some .boolean, 4, 75, 0, fun _ => 0)
theorem PB.top {l : Launch} {Dd : va_G} {cs : ClassId × ClassId × ClassId} {ke se : Nat} {mr : MR} {pc : Nat} {ls : Ls} {st : List AV} {ks : List BRow} {Q : BQ} {h h2 : Nat} (e : h = h2) (k : PB l Dd cs ke se mr pc ls (vR h2 :: st) ks Q) : PB l Dd cs ke se mr pc ls (vR h :: st) ks Q := e ▸ k
theorem ff_X0_9 : FldF 0 9 0 2 := ⟨RX0, TX0, 6, tyX0, rfl, by decide, (tm 111 (by decide +kernel) rfl), hin_X0, tyX0_ok, nmX0, rfl, rfl, fun _ => ⟨rfl, rfl⟩⟩
theorem ff_X0_15 : FldF 0 15 0 3 := ⟨RX0, TX0, 6, tyX0, rfl, by decide, (tm 114 (by decide +kernel) rfl), hin_X0, tyX0_ok, nmX0, rfl, rfl, fun _ => ⟨rfl, rfl⟩⟩
theorem ff_X0_18 : FldF 0 18 0 4 := ⟨RX0, TX0, 6, tyX0, rfl, by decide, (tm 119 (by decide +kernel) rfl), hin_X0, tyX0_ok, nmX0, rfl, rfl, fun _ => ⟨rfl, rfl⟩⟩
theorem ff_X0_21 : FldF 0 21 0 5 := ⟨RX0, TX0, 6, tyX0, rfl, by decide, (tm 124 (by decide +kernel) rfl), hin_X0, tyX0_ok, nmX0, rfl, rfl, fun _ => ⟨rfl, rfl⟩⟩
theorem ff_X0_24 : FldF 0 24 0 0 := ⟨RX0, TX0, 6, tyX0, rfl, by decide, (tm 107 (by decide +kernel) rfl), hin_X0, tyX0_ok, nmX0, rfl, rfl, fun _ => ⟨rfl, rfl⟩⟩
theorem ff_X1_9 : FldF 1 9 1 1 := ⟨RX1, TX1, 3, tyX1, rfl, by decide, (tm 70 (by decide +kernel) rfl), hin_X1, tyX1_ok, nmX1, rfl, rfl, fun _ => ⟨rfl, rfl⟩⟩
theorem ff_X1_15 : FldF 1 15 1 2 := ⟨RX1, TX1, 3, tyX1, rfl, by decide, (tm 72 (by decide +kernel) rfl), hin_X1, tyX1_ok, nmX1, rfl, rfl, fun _ => ⟨rfl, rfl⟩⟩
theorem ff_X1_18 : FldF 1 18 1 0 := ⟨RX1, TX1, 3, tyX1, rfl, by decide, (tm 69 (by decide +kernel) rfl), hin_X1, tyX1_ok, nmX1, rfl, rfl, fun _ => ⟨rfl, rfl⟩⟩
theorem ff_X10_9 : FldF 9 9 9 1 := ⟨RX10, TX10, 6, tyX10, rfl, by decide, (tm 184 (by decide +kernel) rfl), hin_X10, tyX10_ok, nmX10, rfl, rfl, fun _ => ⟨rfl, rfl⟩⟩
theorem ff_X10_15 : FldF 9 15 9 4 := ⟨RX10, TX10, 6, tyX10, rfl, by decide, (tm 189 (by decide +kernel) rfl), hin_X10, tyX10_ok, nmX10, rfl, rfl, fun _ => ⟨rfl, rfl⟩⟩
theorem ff_X10_18 : FldF 9 18 9 5 := ⟨RX10, TX10, 6, tyX10, rfl, by decide, (tm 190 (by decide +kernel) rfl), hin_X10, tyX10_ok, nmX10, rfl, rfl, fun _ => ⟨rfl, rfl⟩⟩
theorem ff_X10_21 : FldF 9 21 9 0 := ⟨RX10, TX10, 6, tyX10, rfl, by decide, (tm 183 (by decide +kernel) rfl), hin_X10, tyX10_ok, nmX10, rfl, rfl, fun _ => ⟨rfl, rfl⟩⟩
theorem ff_X11_12 : FldF 10 12 10 0 := ⟨RX11, TX11, 9, tyX11, rfl, by decide, (tm 312 (by decide +kernel) rfl), hin_X11, tyX11_ok, nmX11, rfl, rfl, fun _ => ⟨rfl, rfl⟩⟩
theorem ff_X11_21 : FldF 10 21 10 1 := ⟨RX11, TX11, 9, tyX11, rfl, by decide, (tm 313 (by decide +kernel) rfl), hin_X11, tyX11_ok, nmX11, rfl, rfl, fun _ => ⟨rfl, rfl⟩⟩
theorem ff_X11_28 : FldF 10 28 10 2 := ⟨RX11, TX11, 9, tyX11, rfl, by decide, (tm 314 (by decide +kernel) rfl), hin_X11, tyX11_ok, nmX11, rfl, rfl, fun _ => ⟨rfl, rfl⟩⟩
theorem ff_X11_35 : FldF 10 35 10 3 := ⟨RX11, TX11, 9, tyX11, rfl, by decide, (tm 315 (by decide +kernel) rfl), hin_X11, tyX11_ok, nmX11, rfl, rfl, fun _ => ⟨rfl, rfl⟩⟩
theorem ff_X11_44 : FldF 10 44 10 4 := ⟨RX11, TX11, 9, tyX11, rfl, by decide, (tm 316 (by decide +kernel) rfl), hin_X11, tyX11_ok, nmX11, rfl, rfl, fun _ => ⟨rfl, rfl⟩⟩
theorem ff_X11_53 : FldF 10 53 10 5 := ⟨RX11, TX11, 9, tyX11, rfl, by decide, (tm 317 (by decide +kernel) rfl), hin_X11, tyX11_ok, nmX11, rfl, rfl, fun _ => ⟨rfl, rfl⟩⟩
theorem ff_X11_62 : FldF 10 62 10 6 := ⟨RX11, TX11, 9, tyX11, rfl, by decide, (tm 318 (by decide +kernel) rfl), hin_X11, tyX11_ok, nmX11, rfl, rfl, fun _ => ⟨rfl, rfl⟩⟩
theorem ff_X11_69 : FldF 10 69 10 7 := ⟨RX11, TX11, 9, tyX11, rfl, by decide, (tm 319 (by decide +kernel) rfl), hin_X11, tyX11_ok, nmX11, rfl, rfl, fun _ => ⟨rfl, rfl⟩⟩
theorem ff_X11_76 : FldF 10 76 10 8 := ⟨RX11, TX11, 9, tyX11, rfl, by decide, (tm 320 (by decide +kernel) rfl), hin_X11, tyX11_ok, nmX11, rfl, rfl, fun _ => ⟨rfl, rfl⟩⟩
theorem ff_X12_7 : FldF 11 7 11 2 := ⟨RX12, TX12, 42, tyX12, rfl, by decide, (tm 800 (by decide +kernel) rfl), hin_X12, tyX12_ok, nmX12, rfl, rfl, fun _ => ⟨rfl, rfl⟩⟩
theorem ff_X12_13 : FldF 11 13 11 3 := ⟨RX12, TX12, 42, tyX12, rfl, by decide, (tm 801 (by decide +kernel) rfl), hin_X12, tyX12_ok, nmX12, rfl, rfl, fun _ => ⟨rfl, rfl⟩⟩
theorem ff_X12_16 : FldF 11 16 11 4 := ⟨RX12, TX12, 42, tyX12, rfl, by decide, (tm 802 (by decide +kernel) rfl), hin_X12, tyX12_ok, nmX12, rfl, rfl, fun _ => ⟨rfl, rfl⟩⟩
theorem ff_X12_19 : FldF 11 19 11 6 := ⟨RX12, TX12, 42, tyX12, rfl, by decide, (tm 804 (by decide +kernel) rfl), hin_X12, tyX12_ok, nmX12, rfl, rfl, fun _ => ⟨rfl, rfl⟩⟩
theorem ff_X12_22 : FldF 11 22 11 7 := ⟨RX12, TX12, 42, tyX12, rfl, by decide, (tm 805 (by decide +kernel) rfl), hin_X12, tyX12_ok, nmX12, rfl, rfl, fun _ => ⟨rfl, rfl⟩⟩
theorem ff_X12_25 : FldF 11 25 11 8 := ⟨RX12, TX12, 42, tyX12, rfl, by decide, (tm 806 (by decide +kernel) rfl), hin_X12, tyX12_ok, nmX12, rfl, rfl, fun _ => ⟨rfl, rfl⟩⟩
theorem ff_X12_28 : FldF 11 28 11 9 := ⟨RX12, TX12, 42, tyX12, rfl, by decide, (tm 807 (by decide +kernel) rfl), hin_X12, tyX12_ok, nmX12, rfl, rfl, fun _ => ⟨rfl, rfl⟩⟩
theorem ff_X12_31 : FldF 11 31 11 10 := ⟨RX12, TX12, 42, tyX12, rfl, by decide, (tm 808 (by decide +kernel) rfl), hin_X12, tyX12_ok, nmX12, rfl, rfl, fun _ => ⟨rfl, rfl⟩⟩
theorem ff_X12_34 : FldF 11 34 11 12 := ⟨RX12, TX12, 42, tyX12, rfl, by decide, (tm 810 (by decide +kernel) rfl), hin_X12, tyX12_ok, nmX12, rfl, rfl, fun _ => ⟨rfl, rfl⟩⟩
theorem ff_X12_37 : FldF 11 37 11 14 := ⟨RX12, TX12, 42, tyX12, rfl, by decide, (tm 812 (by decide +kernel) rfl), hin_X12, tyX12_ok, nmX12, rfl, rfl, fun _ => ⟨rfl, rfl⟩⟩
theorem ff_X12_40 : FldF 11 40 11 15 := ⟨RX12, TX12, 42, tyX12, rfl, by decide, (tm 813 (by decide +kernel) rfl), hin_X12, tyX12_ok, nmX12, rfl, rfl, fun _ => ⟨rfl, rfl⟩⟩
theorem ff_X12_43 : FldF 11 43 11 16 := ⟨RX12, TX12, 42, tyX12, rfl, by decide, (tm 814 (by decide +kernel) rfl), hin_X12, tyX12_ok, nmX12, rfl, rfl, fun _ => ⟨rfl, rfl⟩⟩
theorem ff_X12_47 : FldF 11 47 11 17 := ⟨RX12, TX12, 42, tyX12, rfl, by decide, (tm 815 (by decide +kernel) rfl), hin_X12, tyX12_ok, nmX12, rfl, rfl, fun _ => ⟨rfl, rfl⟩⟩
theorem ff_X12_50 : FldF 11 50 11 18 := ⟨RX12, TX12, 42, tyX12, rfl, by decide, (tm 816 (by decide +kernel) rfl), hin_X12, tyX12_ok, nmX12, rfl, rfl, fun _ => ⟨rfl, rfl⟩⟩
theorem ff_X12_53 : FldF 11 53 11 19 := ⟨RX12, TX12, 42, tyX12, rfl, by decide, (tm 817 (by decide +kernel) rfl), hin_X12, tyX12_ok, nmX12, rfl, rfl, fun _ => ⟨rfl, rfl⟩⟩
theorem ff_X12_56 : FldF 11 56 11 20 := ⟨RX12, TX12, 42, tyX12, rfl, by decide, (tm 818 (by decide +kernel) rfl), hin_X12, tyX12_ok, nmX12, rfl, rfl, fun _ => ⟨rfl, rfl⟩⟩
theorem ff_X12_59 : FldF 11 59 11 22 := ⟨RX12, TX12, 42, tyX12, rfl, by decide, (tm 820 (by decide +kernel) rfl), hin_X12, tyX12_ok, nmX12, rfl, rfl, fun _ => ⟨rfl, rfl⟩⟩
theorem ff_X12_62 : FldF 11 62 11 23 := ⟨RX12, TX12, 42, tyX12, rfl, by decide, (tm 821 (by decide +kernel) rfl), hin_X12, tyX12_ok, nmX12, rfl, rfl, fun _ => ⟨rfl, rfl⟩⟩
theorem ff_X12_65 : FldF 11 65 11 24 := ⟨RX12, TX12, 42, tyX12, rfl, by decide, (tm 822 (by decide +kernel) rfl), hin_X12, tyX12_ok, nmX12, rfl, rfl, fun _ => ⟨rfl, rfl⟩⟩
theorem ff_X12_68 : FldF 11 68 11 25 := ⟨RX12, TX12, 42, tyX12, rfl, by decide, (tm 823 (by decide +kernel) rfl), hin_X12, tyX12_ok, nmX12, rfl, rfl, fun _ => ⟨rfl, rfl⟩⟩
theorem ff_X12_71 : FldF 11 71 11 26 := ⟨RX12, TX12, 42, tyX12, rfl, by decide, (tm 824 (by decide +kernel) rfl), hin_X12, tyX12_ok, nmX12, rfl, rfl, fun _ => ⟨rfl, rfl⟩⟩
theorem ff_X12_74 : FldF 11 74 11 27 := ⟨RX12, TX12, 42, tyX12, rfl, by decide, (tm 825 (by decide +kernel) rfl), hin_X12, tyX12_ok, nmX12, rfl, rfl, fun _ => ⟨rfl, rfl⟩⟩
theorem ff_X12_77 : FldF 11 77 11 28 := ⟨RX12, TX12, 42, tyX12, rfl, by decide, (tm 826 (by decide +kernel) rfl), hin_X12, tyX12_ok, nmX12, rfl, rfl, fun _ => ⟨rfl, rfl⟩⟩
theorem ff_X12_80 : FldF 11 80 11 29 := ⟨RX12, TX12, 42, tyX12, rfl, by decide, (tm 827 (by decide +kernel) rfl), hin_X12, tyX12_ok, nmX12, rfl, rfl, fun _ => ⟨rfl, rfl⟩⟩
theorem ff_X12_83 : FldF 11 83 11 30 := ⟨RX12, TX12, 42, tyX12, rfl, by decide, (tm 828 (by decide +kernel) rfl), hin_X12, tyX12_ok, nmX12, rfl, rfl, fun _ => ⟨rfl, rfl⟩⟩
theorem ff_X12_86 : FldF 11 86 11 31 := ⟨RX12, TX12, 42, tyX12, rfl, by decide, (tm 829 (by decide +kernel) rfl), hin_X12, tyX12_ok, nmX12, rfl, rfl, fun _ => ⟨rfl, rfl⟩⟩
theorem ff_X12_89 : FldF 11 89 11 32 := ⟨RX12, TX12, 42, tyX12, rfl, by decide, (tm 830 (by decide +kernel) rfl), hin_X12, tyX12_ok, nmX12, rfl, rfl, fun _ => ⟨rfl, rfl⟩⟩
theorem ff_X12_92 : FldF 11 92 11 33 := ⟨RX12, TX12, 42, tyX12, rfl, by decide, (tm 831 (by decide +kernel) rfl), hin_X12, tyX12_ok, nmX12, rfl, rfl, fun _ => ⟨rfl, rfl⟩⟩
theorem ff_X12_95 : FldF 11 95 11 35 := ⟨RX12, TX12, 42, tyX12, rfl, by decide, (tm 833 (by decide +kernel) rfl), hin_X12, tyX12_ok, nmX12, rfl, rfl, fun _ => ⟨rfl, rfl⟩⟩
theorem ff_X12_98 : FldF 11 98 11 36 := ⟨RX12, TX12, 42, tyX12, rfl, by decide, (tm 834 (by decide +kernel) rfl), hin_X12, tyX12_ok, nmX12, rfl, rfl, fun _ => ⟨rfl, rfl⟩⟩
theorem ff_X12_101 : FldF 11 101 11 38 := ⟨RX12, TX12, 42, tyX12, rfl, by decide, (tm 836 (by decide +kernel) rfl), hin_X12, tyX12_ok, nmX12, rfl, rfl, fun _ => ⟨rfl, rfl⟩⟩
theorem ff_X12_104 : FldF 11 104 11 39 := ⟨RX12, TX12, 42, tyX12, rfl, by decide, (tm 837 (by decide +kernel) rfl), hin_X12, tyX12_ok, nmX12, rfl, rfl, fun _ => ⟨rfl, rfl⟩⟩
theorem ff_X12_107 : FldF 11 107 11 40 := ⟨RX12, TX12, 42, tyX12, rfl, by decide, (tm 838 (by decide +kernel) rfl), hin_X12, tyX12_ok, nmX12, rfl, rfl, fun _ => ⟨rfl, rfl⟩⟩
theorem ff_X12_110 : FldF 11 110 11 41 := ⟨RX12, TX12, 42, tyX12, rfl, by decide, (tm 839 (by decide +kernel) rfl), hin_X12, tyX12_ok, nmX12, rfl, rfl, fun _ => ⟨rfl, rfl⟩⟩
theorem ff_X2_9 : FldF 2 9 2 2 := ⟨RX2, TX2, 10, tyX2, rfl, by decide, (tm 283 (by decide +kernel) rfl), hin_X2, tyX2_ok, nmX2, rfl, rfl, fun _ => ⟨rfl, rfl⟩⟩
theorem ff_X2_15 : FldF 2 15 2 4 := ⟨RX2, TX2, 10, tyX2, rfl, by decide, (tm 285 (by decide +kernel) rfl), hin_X2, tyX2_ok, nmX2, rfl, rfl, fun _ => ⟨rfl, rfl⟩⟩
theorem ff_X2_18 : FldF 2 18 2 5 := ⟨RX2, TX2, 10, tyX2, rfl, by decide, (tm 286 (by decide +kernel) rfl), hin_X2, tyX2_ok, nmX2, rfl, rfl, fun _ => ⟨rfl, rfl⟩⟩
theorem ff_X2_21 : FldF 2 21 2 6 := ⟨RX2, TX2, 10, tyX2, rfl, by decide, (tm 287 (by decide +kernel) rfl), hin_X2, tyX2_ok, nmX2, rfl, rfl, fun _ => ⟨rfl, rfl⟩⟩
theorem ff_X2_24 : FldF 2 24 2 7 := ⟨RX2, TX2, 10, tyX2, rfl, by decide, (tm 288 (by decide +kernel) rfl), hin_X2, tyX2_ok, nmX2, rfl, rfl, fun _ => ⟨rfl, rfl⟩⟩
theorem ff_X2_27 : FldF 2 27 2 9 := ⟨RX2, TX2, 10, tyX2, rfl, by decide, (tm 290 (by decide +kernel) rfl), hin_X2, tyX2_ok, nmX2, rfl, rfl, fun _ => ⟨rfl, rfl⟩⟩
theorem ff_X2_30 : FldF 2 30 2 0 := ⟨RX2, TX2, 10, tyX2, rfl, by decide, (tm 280 (by decide +kernel) rfl), hin_X2, tyX2_ok, nmX2, rfl, rfl, fun _ => ⟨rfl, rfl⟩⟩
theorem ff_X3_9 : FldF 3 9 3 1 := ⟨RX3, TX3, 2, tyX3, rfl, by decide, (tm 268 (by decide +kernel) rfl), hin_X3, tyX3_ok, nmX3, rfl, rfl, fun _ => ⟨rfl, rfl⟩⟩
theorem ff_X4_9 : FldF 4 9 4 2 := ⟨RX4, TX4, 5, tyX4, rfl, by decide, (tm 36 (by decide +kernel) rfl), hin_X4, tyX4_ok, nmX4, rfl, rfl, fun _ => ⟨rfl, rfl⟩⟩
theorem ff_X4_15 : FldF 4 15 4 3 := ⟨RX4, TX4, 5, tyX4, rfl, by decide, (tm 41 (by decide +kernel) rfl), hin_X4, tyX4_ok, nmX4, rfl, rfl, fun _ => ⟨rfl, rfl⟩⟩
theorem ff_X4_18 : FldF 4 18 4 4 := ⟨RX4, TX4, 5, tyX4, rfl, by decide, (tm 47 (by decide +kernel) rfl), hin_X4, tyX4_ok, nmX4, rfl, rfl, fun _ => ⟨rfl, rfl⟩⟩
theorem ff_X5_9 : FldF 5 9 5 3 := ⟨RX5, TX5, 8, tyX5, rfl, by decide, (tm 207 (by decide +kernel) rfl), hin_X5, tyX5_ok, nmX5, rfl, rfl, fun _ => ⟨rfl, rfl⟩⟩
theorem ff_X5_15 : FldF 5 15 5 4 := ⟨RX5, TX5, 8, tyX5, rfl, by decide, (tm 208 (by decide +kernel) rfl), hin_X5, tyX5_ok, nmX5, rfl, rfl, fun _ => ⟨rfl, rfl⟩⟩
theorem ff_X5_18 : FldF 5 18 5 5 := ⟨RX5, TX5, 8, tyX5, rfl, by decide, (tm 209 (by decide +kernel) rfl), hin_X5, tyX5_ok, nmX5, rfl, rfl, fun _ => ⟨rfl, rfl⟩⟩
theorem ff_X5_21 : FldF 5 21 5 6 := ⟨RX5, TX5, 8, tyX5, rfl, by decide, (tm 210 (by decide +kernel) rfl), hin_X5, tyX5_ok, nmX5, rfl, rfl, fun _ => ⟨rfl, rfl⟩⟩
theorem ff_X5_24 : FldF 5 24 5 7 := ⟨RX5, TX5, 8, tyX5, rfl, by decide, (tm 211 (by decide +kernel) rfl), hin_X5, tyX5_ok, nmX5, rfl, rfl, fun _ => ⟨rfl, rfl⟩⟩
theorem ff_X5_27 : FldF 5 27 5 0 := ⟨RX5, TX5, 8, tyX5, rfl, by decide, (tm 204 (by decide +kernel) rfl), hin_X5, tyX5_ok, nmX5, rfl, rfl, fun _ => ⟨rfl, rfl⟩⟩
theorem ff_X5_31 : FldF 5 31 5 1 := ⟨RX5, TX5, 8, tyX5, rfl, by decide, (tm 205 (by decide +kernel) rfl), hin_X5, tyX5_ok, nmX5, rfl, rfl, fun _ => ⟨rfl, rfl⟩⟩
theorem ff_X5_40 : FldF 5 40 5 2 := ⟨RX5, TX5, 8, tyX5, rfl, by decide, (tm 206 (by decide +kernel) rfl), hin_X5, tyX5_ok, nmX5, rfl, rfl, fun _ => ⟨rfl, rfl⟩⟩
theorem ff_X6_9 : FldF 6 9 6 2 := ⟨RX6, TX6, 7, tyX6, rfl, by decide, (tm 239 (by decide +kernel) rfl), hin_X6, tyX6_ok, nmX6, rfl, rfl, fun _ => ⟨rfl, rfl⟩⟩
theorem ff_X6_15 : FldF 6 15 6 3 := ⟨RX6, TX6, 7, tyX6, rfl, by decide, (tm 240 (by decide +kernel) rfl), hin_X6, tyX6_ok, nmX6, rfl, rfl, fun _ => ⟨rfl, rfl⟩⟩
theorem ff_X6_18 : FldF 6 18 6 4 := ⟨RX6, TX6, 7, tyX6, rfl, by decide, (tm 241 (by decide +kernel) rfl), hin_X6, tyX6_ok, nmX6, rfl, rfl, fun _ => ⟨rfl, rfl⟩⟩
theorem ff_X6_21 : FldF 6 21 6 6 := ⟨RX6, TX6, 7, tyX6, rfl, by decide, (tm 243 (by decide +kernel) rfl), hin_X6, tyX6_ok, nmX6, rfl, rfl, fun _ => ⟨rfl, rfl⟩⟩
theorem ff_X6_25 : FldF 6 25 6 0 := ⟨RX6, TX6, 7, tyX6, rfl, by decide, (tm 237 (by decide +kernel) rfl), hin_X6, tyX6_ok, nmX6, rfl, rfl, fun _ => ⟨rfl, rfl⟩⟩
theorem ff_X6_34 : FldF 6 34 6 1 := ⟨RX6, TX6, 7, tyX6, rfl, by decide, (tm 238 (by decide +kernel) rfl), hin_X6, tyX6_ok, nmX6, rfl, rfl, fun _ => ⟨rfl, rfl⟩⟩
theorem ff_X7_9 : FldF 7 9 7 3 := ⟨RX7, TX7, 8, tyX7, rfl, by decide, (tm 149 (by decide +kernel) rfl), hin_X7, tyX7_ok, nmX7, rfl, rfl, fun _ => ⟨rfl, rfl⟩⟩
theorem ff_X7_15 : FldF 7 15 7 4 := ⟨RX7, TX7, 8, tyX7, rfl, by decide, (tm 150 (by decide +kernel) rfl), hin_X7, tyX7_ok, nmX7, rfl, rfl, fun _ => ⟨rfl, rfl⟩⟩
theorem ff_X7_18 : FldF 7 18 7 5 := ⟨RX7, TX7, 8, tyX7, rfl, by decide, (tm 151 (by decide +kernel) rfl), hin_X7, tyX7_ok, nmX7, rfl, rfl, fun _ => ⟨rfl, rfl⟩⟩
theorem ff_X7_21 : FldF 7 21 7 7 := ⟨RX7, TX7, 8, tyX7, rfl, by decide, (tm 153 (by decide +kernel) rfl), hin_X7, tyX7_ok, nmX7, rfl, rfl, fun _ => ⟨rfl, rfl⟩⟩
theorem ff_X7_24 : FldF 7 24 7 0 := ⟨RX7, TX7, 8, tyX7, rfl, by decide, (tm 146 (by decide +kernel) rfl), hin_X7, tyX7_ok, nmX7, rfl, rfl, fun _ => ⟨rfl, rfl⟩⟩
theorem ff_X7_28 : FldF 7 28 7 1 := ⟨RX7, TX7, 8, tyX7, rfl, by decide, (tm 147 (by decide +kernel) rfl), hin_X7, tyX7_ok, nmX7, rfl, rfl, fun _ => ⟨rfl, rfl⟩⟩
theorem ff_X7_32 : FldF 7 32 7 2 := ⟨RX7, TX7, 8, tyX7, rfl, by decide, (tm 148 (by decide +kernel) rfl), hin_X7, tyX7_ok, nmX7, rfl, rfl, fun _ => ⟨rfl, rfl⟩⟩
theorem ff_X8_9 : FldF 8 9 8 1 := ⟨RX8, TX8, 4, tyX8, rfl, by decide, (tm 88 (by decide +kernel) rfl), hin_X8, tyX8_ok, nmX8, rfl, rfl, fun _ => ⟨rfl, rfl⟩⟩
theorem ff_X8_15 : FldF 8 15 8 2 := ⟨RX8, TX8, 4, tyX8, rfl, by decide, (tm 89 (by decide +kernel) rfl), hin_X8, tyX8_ok, nmX8, rfl, rfl, fun _ => ⟨rfl, rfl⟩⟩
theorem ff_X8_18 : FldF 8 18 8 3 := ⟨RX8, TX8, 4, tyX8, rfl, by decide, (tm 90 (by decide +kernel) rfl), hin_X8, tyX8_ok, nmX8, rfl, rfl, fun _ => ⟨rfl, rfl⟩⟩
theorem ff_X8_21 : FldF 8 21 8 0 := ⟨RX8, TX8, 4, tyX8, rfl, by decide, (tm 87 (by decide +kernel) rfl), hin_X8, tyX8_ok, nmX8, rfl, rfl, fun _ => ⟨rfl, rfl⟩⟩
theorem fgi_X0_21 : FldG 0 21 0 5 := ⟨RX0, TX0, 6, rfl, by decide, (tm 124 (by decide +kernel) rfl), hin_X0⟩
theorem fgi_X1_9 : FldG 1 9 1 1 := ⟨RX1, TX1, 3, rfl, by decide, (tm 70 (by decide +kernel) rfl), hin_X1⟩
theorem fgi_X11_12 : FldG 10 12 10 0 := ⟨RX11, TX11, 9, rfl, by decide, (tm 312 (by decide +kernel) rfl), hin_X11⟩
theorem fgi_X11_28 : FldG 10 28 10 2 := ⟨RX11, TX11, 9, rfl, by decide, (tm 314 (by decide +kernel) rfl), hin_X11⟩
theorem fgi_X11_35 : FldG 10 35 10 3 := ⟨RX11, TX11, 9, rfl, by decide, (tm 315 (by decide +kernel) rfl), hin_X11⟩
theorem cl_X0_28 : CallS 0 28 mJ7_fill_53178 2 := ⟨ok_J7_fill_53178, (tm 106 (by decide +kernel) rfl), (tm 67 (by decide +kernel) rfl)⟩
def bk_0 : List BRow := [(3, 10, [some none, some none, some none, some none, some none, some none, some none, some none, some none], 0)]
def bk_1 : List BRow := [(3, 10, [some none, some none, some none, some none, some none, some none, some none, some none, some none], 0), (3, 4, [none, none, some none, some none, some none], 0)]
def bk_2 : List BRow := [(3, 10, [some none, some none, some none, some none, some none, some none, some none, some none, some none], 0), (3, 4, [none, none, some (some 2), some (some 3), some (some 4)], 0), (0, 12, [], 0), (0, 12, [], 0), (0, 36, [], 0)]
def bk_3 : List BRow := [(3, 10, [some (some 1), some none, some none, some none, some none, some none, some none, some none, some none], 0), (3, 4, [none, none, some (some 2), some (some 3), some (some 4)], 0), (0, 12, [], 0), (0, 12, [], 0), (0, 36, [], 0), (3, 1, [some none, some none, some none], 0)]
def bk_4 : List BRow := [(3, 10, [some (some 1), some none, some none, some none, some none, some none, some none, some none, some none], 0), (3, 4, [none, none, some (some 2), some (some 3), some (some 4)], 0), (0, 12, [], 0), (0, 12, [], 0), (0, 36, [], 0), (3, 1, [some (some 1), some (some 6), some (some 7)], 0), (0, 4, [], (-13)), (0, 4, [], 0)]
def bk_5 : List BRow := [(3, 10, [some (some 1), some (some 5), some none, some none, some none, some none, some none, some none, some none], 0), (3, 4, [none, none, some (some 2), some (some 3), some (some 4)], 0), (0, 12, [], 0), (0, 12, [], 0), (0, 36, [], 0), (3, 1, [some (some 1), some (some 6), some (some 7)], 0), (0, 4, [], (-13)), (0, 4, [], 0), (3, 8, [some none, some none, some none, some none], 0)]
def bk_6 : List BRow := [(3, 10, [some (some 1), some (some 5), some none, some none, some none, some none, some none, some none, some none], 0), (3, 4, [none, none, some (some 2), some (some 3), some (some 4)], 0), (0, 12, [], 0), (0, 12, [], 0), (0, 36, [], 0), (3, 1, [some (some 1), some (some 6), some (some 7)], 0), (0, 4, [], (-13)), (0, 4, [], 0), (3, 8, [some (some 1), some (some 9), some (some 10), some (some 11)], 0), (0, 52, [], 0), (0, 156, [], 0), (0, 624, [], 0)]
def bk_7 : List BRow := [(3, 10, [some (some 1), some (some 5), some (some 8), some none, some none, some none, some none, some none, some none], 0), (3, 4, [none, none, some (some 2), some (some 3), some (some 4)], 0), (0, 12, [], 0), (0, 12, [], 0), (0, 36, [], 0), (3, 1, [some (some 1), some (some 6), some (some 7)], 0), (0, 4, [], (-13)), (0, 4, [], 0), (3, 8, [some (some 1), some (some 9), some (some 10), some (some 11)], 0), (0, 52, [], 0), (0, 156, [], 0), (0, 624, [], 0), (3, 0, [some none, none, some none, some none, some none, some none], 0)]
def bk_8 : List BRow := [(3, 10, [some (some 1), some (some 5), some (some 8), some none, some none, some none, some none, some none, some none], 0), (3, 4, [none, none, some (some 2), some (some 3), some (some 4)], 0), (0, 12, [], 0), (0, 12, [], 0), (0, 36, [], 0), (3, 1, [some (some 1), some (some 6), some (some 7)], 0), (0, 4, [], (-13)), (0, 4, [], 0), (3, 8, [some (some 1), some (some 9), some (some 10), some (some 11)], 0), (0, 52, [], 0), (0, 156, [], 0), (0, 624, [], 0), (3, 0, [some (some 1), none, some (some 13), some (some 14), some (some 15), some (some 16)], 0), (0, 100, [], 0), (0, 100, [], 0), (0, 300, [], 0), (0, 100, [], (-1))]
def bk_9 : List BRow := [(3, 10, [some (some 1), some (some 5), some (some 8), some (some 12), some none, some none, some none, some none, some none], 0), (3, 4, [none, none, some (some 2), some (some 3), some (some 4)], 0), (0, 12, [], 0), (0, 12, [], 0), (0, 36, [], 0), (3, 1, [some (some 1), some (some 6), some (some 7)], 0), (0, 4, [], (-13)), (0, 4, [], 0), (3, 8, [some (some 1), some (some 9), some (some 10), some (some 11)], 0), (0, 52, [], 0), (0, 156, [], 0), (0, 624, [], 0), (3, 0, [some (some 1), none, some (some 13), some (some 14), some (some 15), some (some 16)], 0), (0, 100, [], 0), (0, 100, [], 0), (0, 300, [], 0), (0, 100, [], (-1)), (3, 7, [some none, some none, some none, some none, some none, some none, none, some none], 0)]
def bk_10 : List BRow := [(3, 10, [some (some 1), some (some 5), some (some 8), some (some 12), some none, some none, some none, some none, some none], 0), (3, 4, [none, none, some (some 2), some (some 3), some (some 4)], 0), (0, 12, [], 0), (0, 12, [], 0), (0, 36, [], 0), (3, 1, [some (some 1), some (some 6), some (some 7)], 0), (0, 4, [], (-13)), (0, 4, [], 0), (3, 8, [some (some 1), some (some 9), some (some 10), some (some 11)], 0), (0, 52, [], 0), (0, 156, [], 0), (0, 624, [], 0), (3, 0, [some (some 1), none, some (some 13), some (some 14), some (some 15), some (some 16)], 0), (0, 100, [], 0), (0, 100, [], 0), (0, 300, [], 0), (0, 100, [], (-1)), (3, 7, [some (some 1), some (some 8), some (some 12), some (some 18), some (some 19), some (some 20), none, some (some 21)], 0), (0, 12, [], 0), (0, 12, [], 0), (0, 12, [], 0), (0, 3, [], 0)]
def bk_11 : List BRow := [(3, 10, [some (some 1), some (some 5), some (some 8), some (some 12), some (some 17), some none, some none, some none, some none], 0), (3, 4, [none, none, some (some 2), some (some 3), some (some 4)], 0), (0, 12, [], 0), (0, 12, [], 0), (0, 36, [], 0), (3, 1, [some (some 1), some (some 6), some (some 7)], 0), (0, 4, [], (-13)), (0, 4, [], 0), (3, 8, [some (some 1), some (some 9), some (some 10), some (some 11)], 0), (0, 52, [], 0), (0, 156, [], 0), (0, 624, [], 0), (3, 0, [some (some 1), none, some (some 13), some (some 14), some (some 15), some (some 16)], 0), (0, 100, [], 0), (0, 100, [], 0), (0, 300, [], 0), (0, 100, [], (-1)), (3, 7, [some (some 1), some (some 8), some (some 12), some (some 18), some (some 19), some (some 20), none, some (some 21)], 0), (0, 12, [], 0), (0, 12, [], 0), (0, 12, [], 0), (0, 3, [], 0), (3, 5, [some none, some none, some none, some none, some none, some none, some none, some none], 0)]
def bk_12 : List BRow := [(3, 10, [some (some 1), some (some 5), some (some 8), some (some 12), some (some 17), some none, some none, some none, some none], 0), (3, 4, [none, none, some (some 2), some (some 3), some (some 4)], 0), (0, 12, [], 0), (0, 12, [], 0), (0, 36, [], 0), (3, 1, [some (some 1), some (some 6), some (some 7)], 0), (0, 4, [], (-13)), (0, 4, [], 0), (3, 8, [some (some 1), some (some 9), some (some 10), some (some 11)], 0), (0, 52, [], 0), (0, 156, [], 0), (0, 624, [], 0), (3, 0, [some (some 1), none, some (some 13), some (some 14), some (some 15), some (some 16)], 0), (0, 100, [], 0), (0, 100, [], 0), (0, 300, [], 0), (0, 100, [], (-1)), (3, 7, [some (some 1), some (some 8), some (some 12), some (some 18), some (some 19), some (some 20), none, some (some 21)], 0), (0, 12, [], 0), (0, 12, [], 0), (0, 12, [], 0), (0, 3, [], 0), (3, 5, [some (some 12), some (some 8), some none, some (some 23), some (some 24), some (some 25), some (some 26), some (some 27)], 0), (0, 100, [], 0), (0, 100, [], 0), (0, 100, [], 0), (0, 3, [], 0), (0, 3, [], 0), (3, 9, [some none, some none, none, none, some none, some none], 0)]
def bk_13 : List BRow := [(3, 10, [some (some 1), some (some 5), some (some 8), some (some 12), some (some 17), some none, some none, some none, some none], 0), (3, 4, [none, none, some (some 2), some (some 3), some (some 4)], 0), (0, 12, [], 0), (0, 12, [], 0), (0, 36, [], 0), (3, 1, [some (some 1), some (some 6), some (some 7)], 0), (0, 4, [], (-13)), (0, 4, [], 0), (3, 8, [some (some 1), some (some 9), some (some 10), some (some 11)], 0), (0, 52, [], 0), (0, 156, [], 0), (0, 624, [], 0), (3, 0, [some (some 1), none, some (some 13), some (some 14), some (some 15), some (some 16)], 0), (0, 100, [], 0), (0, 100, [], 0), (0, 300, [], 0), (0, 100, [], (-1)), (3, 7, [some (some 1), some (some 8), some (some 12), some (some 18), some (some 19), some (some 20), none, some (some 21)], 0), (0, 12, [], 0), (0, 12, [], 0), (0, 12, [], 0), (0, 3, [], 0), (3, 5, [some (some 12), some (some 8), some none, some (some 23), some (some 24), some (some 25), some (some 26), some (some 27)], 0), (0, 100, [], 0), (0, 100, [], 0), (0, 100, [], 0), (0, 3, [], 0), (0, 3, [], 0), (3, 9, [some (some 12), some (some 29), none, none, some (some 30), some (some 31)], 0), (0, 100, [], 0), (0, 100, [], 0), (0, 100, [], 0)]
def bk_14 : List BRow := [(3, 10, [some (some 1), some (some 5), some (some 8), some (some 12), some (some 17), some none, some none, some none, some none], 0), (3, 4, [none, none, some (some 2), some (some 3), some (some 4)], 0), (0, 12, [], 0), (0, 12, [], 0), (0, 36, [], 0), (3, 1, [some (some 1), some (some 6), some (some 7)], 0), (0, 4, [], (-13)), (0, 4, [], 0), (3, 8, [some (some 1), some (some 9), some (some 10), some (some 11)], 0), (0, 52, [], 0), (0, 156, [], 0), (0, 624, [], 0), (3, 0, [some (some 1), none, some (some 13), some (some 14), some (some 15), some (some 16)], 0), (0, 100, [], 0), (0, 100, [], 0), (0, 300, [], 0), (0, 100, [], (-1)), (3, 7, [some (some 1), some (some 8), some (some 12), some (some 18), some (some 19), some (some 20), none, some (some 21)], 0), (0, 12, [], 0), (0, 12, [], 0), (0, 12, [], 0), (0, 3, [], 0), (3, 5, [some (some 12), some (some 8), some (some 28), some (some 23), some (some 24), some (some 25), some (some 26), some (some 27)], 0), (0, 100, [], 0), (0, 100, [], 0), (0, 100, [], 0), (0, 3, [], 0), (0, 3, [], 0), (3, 9, [some (some 12), some (some 29), none, none, some (some 30), some (some 31)], 0), (0, 100, [], 0), (0, 100, [], 0), (0, 100, [], 0)]
def bk_15 : List BRow := [(3, 10, [some (some 1), some (some 5), some (some 8), some (some 12), some (some 17), some (some 22), some none, some none, some none], 0), (3, 4, [none, none, some (some 2), some (some 3), some (some 4)], 0), (0, 12, [], 0), (0, 12, [], 0), (0, 36, [], 0), (3, 1, [some (some 1), some (some 6), some (some 7)], 0), (0, 4, [], (-13)), (0, 4, [], 0), (3, 8, [some (some 1), some (some 9), some (some 10), some (some 11)], 0), (0, 52, [], 0), (0, 156, [], 0), (0, 624, [], 0), (3, 0, [some (some 1), none, some (some 13), some (some 14), some (some 15), some (some 16)], 0), (0, 100, [], 0), (0, 100, [], 0), (0, 300, [], 0), (0, 100, [], (-1)), (3, 7, [some (some 1), some (some 8), some (some 12), some (some 18), some (some 19), some (some 20), none, some (some 21)], 0), (0, 12, [], 0), (0, 12, [], 0), (0, 12, [], 0), (0, 3, [], 0), (3, 5, [some (some 12), some (some 8), some (some 28), some (some 23), some (some 24), some (some 25), some (some 26), some (some 27)], 0), (0, 100, [], 0), (0, 100, [], 0), (0, 100, [], 0), (0, 3, [], 0), (0, 3, [], 0), (3, 9, [some (some 12), some (some 29), none, none, some (some 30), some (some 31)], 0), (0, 100, [], 0), (0, 100, [], 0), (0, 100, [], 0), (3, 6, [some none, some none, some none, some none, some none, none, some none], 0)]
def bk_16 : List BRow := [(3, 10, [some (some 1), some (some 5), some (some 8), some (some 12), some (some 17), some (some 22), some none, some none, some none], 0), (3, 4, [none, none, some (some 2), some (some 3), some (some 4)], 0), (0, 12, [], 0), (0, 12, [], 0), (0, 36, [], 0), (3, 1, [some (some 1), some (some 6), some (some 7)], 0), (0, 4, [], (-13)), (0, 4, [], 0), (3, 8, [some (some 1), some (some 9), some (some 10), some (some 11)], 0), (0, 52, [], 0), (0, 156, [], 0), (0, 624, [], 0), (3, 0, [some (some 1), none, some (some 13), some (some 14), some (some 15), some (some 16)], 0), (0, 100, [], 0), (0, 100, [], 0), (0, 300, [], 0), (0, 100, [], (-1)), (3, 7, [some (some 1), some (some 8), some (some 12), some (some 18), some (some 19), some (some 20), none, some (some 21)], 0), (0, 12, [], 0), (0, 12, [], 0), (0, 12, [], 0), (0, 3, [], 0), (3, 5, [some (some 12), some (some 8), some (some 28), some (some 23), some (some 24), some (some 25), some (some 26), some (some 27)], 0), (0, 100, [], 0), (0, 100, [], 0), (0, 100, [], 0), (0, 3, [], 0), (0, 3, [], 0), (3, 9, [some (some 12), some (some 29), none, none, some (some 30), some (some 31)], 0), (0, 100, [], 0), (0, 100, [], 0), (0, 100, [], 0), (3, 6, [some (some 12), some none, some (some 33), some (some 34), some (some 35), none, some (some 36)], 0), (0, 100, [], 0), (0, 300, [], 0), (0, 300, [], 0), (2, 157, [], 0), (3, 9, [some none, some none, none, none, some none, some none], 0)]
def bk_17 : List BRow := [(3, 10, [some (some 1), some (some 5), some (some 8), some (some 12), some (some 17), some (some 22), some none, some none, some none], 0), (3, 4, [none, none, some (some 2), some (some 3), some (some 4)], 0), (0, 12, [], 0), (0, 12, [], 0), (0, 36, [], 0), (3, 1, [some (some 1), some (some 6), some (some 7)], 0), (0, 4, [], (-13)), (0, 4, [], 0), (3, 8, [some (some 1), some (some 9), some (some 10), some (some 11)], 0), (0, 52, [], 0), (0, 156, [], 0), (0, 624, [], 0), (3, 0, [some (some 1), none, some (some 13), some (some 14), some (some 15), some (some 16)], 0), (0, 100, [], 0), (0, 100, [], 0), (0, 300, [], 0), (0, 100, [], (-1)), (3, 7, [some (some 1), some (some 8), some (some 12), some (some 18), some (some 19), some (some 20), none, some (some 21)], 0), (0, 12, [], 0), (0, 12, [], 0), (0, 12, [], 0), (0, 3, [], 0), (3, 5, [some (some 12), some (some 8), some (some 28), some (some 23), some (some 24), some (some 25), some (some 26), some (some 27)], 0), (0, 100, [], 0), (0, 100, [], 0), (0, 100, [], 0), (0, 3, [], 0), (0, 3, [], 0), (3, 9, [some (some 12), some (some 29), none, none, some (some 30), some (some 31)], 0), (0, 100, [], 0), (0, 100, [], 0), (0, 100, [], 0), (3, 6, [some (some 12), some none, some (some 33), some (some 34), some (some 35), none, some (some 36)], 0), (0, 100, [], 0), (0, 300, [], 0), (0, 300, [], 0), (2, 157, [], 0), (3, 9, [some (some 12), some (some 38), none, none, some (some 39), some (some 40)], 0), (0, 100, [], 0), (0, 100, [], 0), (0, 100, [], 0)]
def bk_18 : List BRow := [(3, 10, [some (some 1), some (some 5), some (some 8), some (some 12), some (some 17), some (some 22), some none, some none, some none], 0), (3, 4, [none, none, some (some 2), some (some 3), some (some 4)], 0), (0, 12, [], 0), (0, 12, [], 0), (0, 36, [], 0), (3, 1, [some (some 1), some (some 6), some (some 7)], 0), (0, 4, [], (-13)), (0, 4, [], 0), (3, 8, [some (some 1), some (some 9), some (some 10), some (some 11)], 0), (0, 52, [], 0), (0, 156, [], 0), (0, 624, [], 0), (3, 0, [some (some 1), none, some (some 13), some (some 14), some (some 15), some (some 16)], 0), (0, 100, [], 0), (0, 100, [], 0), (0, 300, [], 0), (0, 100, [], (-1)), (3, 7, [some (some 1), some (some 8), some (some 12), some (some 18), some (some 19), some (some 20), none, some (some 21)], 0), (0, 12, [], 0), (0, 12, [], 0), (0, 12, [], 0), (0, 3, [], 0), (3, 5, [some (some 12), some (some 8), some (some 28), some (some 23), some (some 24), some (some 25), some (some 26), some (some 27)], 0), (0, 100, [], 0), (0, 100, [], 0), (0, 100, [], 0), (0, 3, [], 0), (0, 3, [], 0), (3, 9, [some (some 12), some (some 29), none, none, some (some 30), some (some 31)], 0), (0, 100, [], 0), (0, 100, [], 0), (0, 100, [], 0), (3, 6, [some (some 12), some (some 37), some (some 33), some (some 34), some (some 35), none, some (some 36)], 0), (0, 100, [], 0), (0, 300, [], 0), (0, 300, [], 0), (2, 157, [], 0), (3, 9, [some (some 12), some (some 38), none, none, some (some 39), some (some 40)], 0), (0, 100, [], 0), (0, 100, [], 0), (0, 100, [], 0)]
def bk_19 : List BRow := [(3, 10, [some (some 1), some (some 5), some (some 8), some (some 12), some (some 17), some (some 22), some (some 32), some none, some none], 0), (3, 4, [none, none, some (some 2), some (some 3), some (some 4)], 0), (0, 12, [], 0), (0, 12, [], 0), (0, 36, [], 0), (3, 1, [some (some 1), some (some 6), some (some 7)], 0), (0, 4, [], (-13)), (0, 4, [], 0), (3, 8, [some (some 1), some (some 9), some (some 10), some (some 11)], 0), (0, 52, [], 0), (0, 156, [], 0), (0, 624, [], 0), (3, 0, [some (some 1), none, some (some 13), some (some 14), some (some 15), some (some 16)], 0), (0, 100, [], 0), (0, 100, [], 0), (0, 300, [], 0), (0, 100, [], (-1)), (3, 7, [some (some 1), some (some 8), some (some 12), some (some 18), some (some 19), some (some 20), none, some (some 21)], 0), (0, 12, [], 0), (0, 12, [], 0), (0, 12, [], 0), (0, 3, [], 0), (3, 5, [some (some 12), some (some 8), some (some 28), some (some 23), some (some 24), some (some 25), some (some 26), some (some 27)], 0), (0, 100, [], 0), (0, 100, [], 0), (0, 100, [], 0), (0, 3, [], 0), (0, 3, [], 0), (3, 9, [some (some 12), some (some 29), none, none, some (some 30), some (some 31)], 0), (0, 100, [], 0), (0, 100, [], 0), (0, 100, [], 0), (3, 6, [some (some 12), some (some 37), some (some 33), some (some 34), some (some 35), none, some (some 36)], 0), (0, 100, [], 0), (0, 300, [], 0), (0, 300, [], 0), (2, 157, [], 0), (3, 9, [some (some 12), some (some 38), none, none, some (some 39), some (some 40)], 0), (0, 100, [], 0), (0, 100, [], 0), (0, 100, [], 0), (3, 3, [none, some none], 0)]
def bk_20 : List BRow := [(3, 10, [some (some 1), some (some 5), some (some 8), some (some 12), some (some 17), some (some 22), some (some 32), some none, some none], 0), (3, 4, [none, none, some (some 2), some (some 3), some (some 4)], 0), (0, 12, [], 0), (0, 12, [], 0), (0, 36, [], 0), (3, 1, [some (some 1), some (some 6), some (some 7)], 0), (0, 4, [], (-13)), (0, 4, [], 0), (3, 8, [some (some 1), some (some 9), some (some 10), some (some 11)], 0), (0, 52, [], 0), (0, 156, [], 0), (0, 624, [], 0), (3, 0, [some (some 1), none, some (some 13), some (some 14), some (some 15), some (some 16)], 0), (0, 100, [], 0), (0, 100, [], 0), (0, 300, [], 0), (0, 100, [], (-1)), (3, 7, [some (some 1), some (some 8), some (some 12), some (some 18), some (some 19), some (some 20), none, some (some 21)], 0), (0, 12, [], 0), (0, 12, [], 0), (0, 12, [], 0), (0, 3, [], 0), (3, 5, [some (some 12), some (some 8), some (some 28), some (some 23), some (some 24), some (some 25), some (some 26), some (some 27)], 0), (0, 100, [], 0), (0, 100, [], 0), (0, 100, [], 0), (0, 3, [], 0), (0, 3, [], 0), (3, 9, [some (some 12), some (some 29), none, none, some (some 30), some (some 31)], 0), (0, 100, [], 0), (0, 100, [], 0), (0, 100, [], 0), (3, 6, [some (some 12), some (some 37), some (some 33), some (some 34), some (some 35), none, some (some 36)], 0), (0, 100, [], 0), (0, 300, [], 0), (0, 300, [], 0), (2, 157, [], 0), (3, 9, [some (some 12), some (some 38), none, none, some (some 39), some (some 40)], 0), (0, 100, [], 0), (0, 100, [], 0), (0, 100, [], 0), (3, 3, [none, some (some 42)], 0), (0, 800, [], 0)]
def bk_21 : List BRow := [(3, 10, [some (some 1), some (some 5), some (some 8), some (some 12), some (some 17), some (some 22), some (some 32), some (some 41), some none], 0), (3, 4, [none, none, some (some 2), some (some 3), some (some 4)], 0), (0, 12, [], 0), (0, 12, [], 0), (0, 36, [], 0), (3, 1, [some (some 1), some (some 6), some (some 7)], 0), (0, 4, [], (-13)), (0, 4, [], 0), (3, 8, [some (some 1), some (some 9), some (some 10), some (some 11)], 0), (0, 52, [], 0), (0, 156, [], 0), (0, 624, [], 0), (3, 0, [some (some 1), none, some (some 13), some (some 14), some (some 15), some (some 16)], 0), (0, 100, [], 0), (0, 100, [], 0), (0, 300, [], 0), (0, 100, [], (-1)), (3, 7, [some (some 1), some (some 8), some (some 12), some (some 18), some (some 19), some (some 20), none, some (some 21)], 0), (0, 12, [], 0), (0, 12, [], 0), (0, 12, [], 0), (0, 3, [], 0), (3, 5, [some (some 12), some (some 8), some (some 28), some (some 23), some (some 24), some (some 25), some (some 26), some (some 27)], 0), (0, 100, [], 0), (0, 100, [], 0), (0, 100, [], 0), (0, 3, [], 0), (0, 3, [], 0), (3, 9, [some (some 12), some (some 29), none, none, some (some 30), some (some 31)], 0), (0, 100, [], 0), (0, 100, [], 0), (0, 100, [], 0), (3, 6, [some (some 12), some (some 37), some (some 33), some (some 34), some (some 35), none, some (some 36)], 0), (0, 100, [], 0), (0, 300, [], 0), (0, 300, [], 0), (2, 157, [], 0), (3, 9, [some (some 12), some (some 38), none, none, some (some 39), some (some 40)], 0), (0, 100, [], 0), (0, 100, [], 0), (0, 100, [], 0), (3, 3, [none, some (some 42)], 0), (0, 800, [], 0), (3, 2, [some none, none, some none, none, some none, some none, some none, some none, none, some none], 0)]
def bk_22 : List BRow := [(3, 10, [some (some 1), some (some 5), some (some 8), some (some 12), some (some 17), some (some 22), some (some 32), some (some 41), some none], 0), (3, 4, [none, none, some (some 2), some (some 3), some (some 4)], 0), (0, 12, [], 0), (0, 12, [], 0), (0, 36, [], 0), (3, 1, [some (some 1), some (some 6), some (some 7)], 0), (0, 4, [], (-13)), (0, 4, [], 0), (3, 8, [some (some 1), some (some 9), some (some 10), some (some 11)], 0), (0, 52, [], 0), (0, 156, [], 0), (0, 624, [], 0), (3, 0, [some (some 1), none, some (some 13), some (some 14), some (some 15), some (some 16)], 0), (0, 100, [], 0), (0, 100, [], 0), (0, 300, [], 0), (0, 100, [], (-1)), (3, 7, [some (some 1), some (some 8), some (some 12), some (some 18), some (some 19), some (some 20), none, some (some 21)], 0), (0, 12, [], 0), (0, 12, [], 0), (0, 12, [], 0), (0, 3, [], 0), (3, 5, [some (some 12), some (some 8), some (some 28), some (some 23), some (some 24), some (some 25), some (some 26), some (some 27)], 0), (0, 100, [], 0), (0, 100, [], 0), (0, 100, [], 0), (0, 3, [], 0), (0, 3, [], 0), (3, 9, [some (some 12), some (some 29), none, none, some (some 30), some (some 31)], 0), (0, 100, [], 0), (0, 100, [], 0), (0, 100, [], 0), (3, 6, [some (some 12), some (some 37), some (some 33), some (some 34), some (some 35), none, some (some 36)], 0), (0, 100, [], 0), (0, 300, [], 0), (0, 300, [], 0), (2, 157, [], 0), (3, 9, [some (some 12), some (some 38), none, none, some (some 39), some (some 40)], 0), (0, 100, [], 0), (0, 100, [], 0), (0, 100, [], 0), (3, 3, [none, some (some 42)], 0), (0, 800, [], 0), (3, 2, [some (some 12), none, some (some 44), none, some (some 45), some (some 46), some (some 47), some (some 48), none, some (some 49)], 0), (0, 8, [], 0), (0, 100, [], 0), (0, 100, [], 0), (0, 60, [], 0), (0, 60, [], 0), (0, 3, [], 0)]
def bk_23 : List BRow := [(3, 10, [some (some 1), some (some 5), some (some 8), some (some 12), some (some 17), some (some 22), some (some 32), some (some 41), some (some 43)], 0), (3, 4, [none, none, some (some 2), some (some 3), some (some 4)], 0), (0, 12, [], 0), (0, 12, [], 0), (0, 36, [], 0), (3, 1, [some (some 1), some (some 6), some (some 7)], 0), (0, 4, [], (-13)), (0, 4, [], 0), (3, 8, [some (some 1), some (some 9), some (some 10), some (some 11)], 0), (0, 52, [], 0), (0, 156, [], 0), (0, 624, [], 0), (3, 0, [some (some 1), none, some (some 13), some (some 14), some (some 15), some (some 16)], 0), (0, 100, [], 0), (0, 100, [], 0), (0, 300, [], 0), (0, 100, [], (-1)), (3, 7, [some (some 1), some (some 8), some (some 12), some (some 18), some (some 19), some (some 20), none, some (some 21)], 0), (0, 12, [], 0), (0, 12, [], 0), (0, 12, [], 0), (0, 3, [], 0), (3, 5, [some (some 12), some (some 8), some (some 28), some (some 23), some (some 24), some (some 25), some (some 26), some (some 27)], 0), (0, 100, [], 0), (0, 100, [], 0), (0, 100, [], 0), (0, 3, [], 0), (0, 3, [], 0), (3, 9, [some (some 12), some (some 29), none, none, some (some 30), some (some 31)], 0), (0, 100, [], 0), (0, 100, [], 0), (0, 100, [], 0), (3, 6, [some (some 12), some (some 37), some (some 33), some (some 34), some (some 35), none, some (some 36)], 0), (0, 100, [], 0), (0, 300, [], 0), (0, 300, [], 0), (2, 157, [], 0), (3, 9, [some (some 12), some (some 38), none, none, some (some 39), some (some 40)], 0), (0, 100, [], 0), (0, 100, [], 0), (0, 100, [], 0), (3, 3, [none, some (some 42)], 0), (0, 800, [], 0), (3, 2, [some (some 12), none, some (some 44), none, some (some 45), some (some 46), some (some 47), some (some 48), none, some (some 49)], 0), (0, 8, [], 0), (0, 100, [], 0), (0, 100, [], 0), (0, 60, [], 0), (0, 60, [], 0), (0, 3, [], 0)]
def bk_24 : List BRow := [(3, 10, [some (some 1), some (some 5), some (some 8), some (some 12), some (some 17), some (some 22), some (some 32), some (some 41), some (some 43)], 0), (3, 4, [none, none, some (some 2), some (some 3), some (some 4)], 0), (0, 12, [], 0), (0, 12, [], 0), (0, 36, [], 0), (3, 1, [some (some 1), some (some 6), some (some 7)], 0), (0, 4, [], (-13)), (0, 4, [], 0), (3, 8, [some (some 1), some (some 9), some (some 10), some (some 11)], 0), (0, 52, [], 0), (0, 156, [], 0), (0, 624, [], 0), (3, 0, [some (some 1), none, some (some 13), some (some 14), some (some 15), some (some 16)], 0), (0, 100, [], 0), (0, 100, [], 0), (0, 300, [], 0), (0, 100, [], (-1)), (3, 7, [some (some 1), some (some 8), some (some 12), some (some 18), some (some 19), some (some 20), none, some (some 21)], 0), (0, 12, [], 0), (0, 12, [], 0), (0, 12, [], 0), (0, 3, [], 0), (3, 5, [some (some 12), some (some 8), some (some 28), some (some 23), some (some 24), some (some 25), some (some 26), some (some 27)], 0), (0, 100, [], 0), (0, 100, [], 0), (0, 100, [], 0), (0, 3, [], 0), (0, 3, [], 0), (3, 9, [some (some 12), some (some 29), none, none, some (some 30), some (some 31)], 0), (0, 100, [], 0), (0, 100, [], 0), (0, 100, [], 0), (3, 6, [some (some 12), some (some 37), some (some 33), some (some 34), some (some 35), none, some (some 36)], 0), (0, 100, [], 0), (0, 300, [], 0), (0, 300, [], 0), (2, 157, [], 0), (3, 9, [some (some 12), some (some 38), none, none, some (some 39), some (some 40)], 0), (0, 100, [], 0), (0, 100, [], 0), (0, 100, [], 0), (3, 3, [none, some (some 42)], 0), (0, 800, [], 0), (3, 2, [some (some 12), none, some (some 44), none, some (some 45), some (some 46), some (some 47), some (some 48), none, some (some 49)], 0), (0, 8, [], 0), (0, 100, [], 0), (0, 100, [], 0), (0, 60, [], 0), (0, 60, [], 0), (0, 3, [], 0), (3, 11, [none, none, some none, some none, some none, none, some none, some none, some none, some none, some none, none, some none, none, some none, some none, some none, some none, some none, some none, some none, none, some none, some none, some none, some none, some none, some none, some none, some none, some none, some none, some none, some none, none, some none, some none, none, some none, some none, some none, some none], 0)]
def bk_25 : List BRow := [(3, 10, [some (some 1), some (some 5), some (some 8), some (some 12), some (some 17), some (some 22), some (some 32), some (some 41), some (some 43)], 0), (3, 4, [none, none, some (some 2), some (some 3), some (some 4)], 0), (0, 12, [], 0), (0, 12, [], 0), (0, 36, [], 0), (3, 1, [some (some 1), some (some 6), some (some 7)], 0), (0, 4, [], (-13)), (0, 4, [], 0), (3, 8, [some (some 1), some (some 9), some (some 10), some (some 11)], 0), (0, 52, [], 0), (0, 156, [], 0), (0, 624, [], 0), (3, 0, [some (some 1), none, some (some 13), some (some 14), some (some 15), some (some 16)], 0), (0, 100, [], 0), (0, 100, [], 0), (0, 300, [], 0), (0, 100, [], (-1)), (3, 7, [some (some 1), some (some 8), some (some 12), some (some 18), some (some 19), some (some 20), none, some (some 21)], 0), (0, 12, [], 0), (0, 12, [], 0), (0, 12, [], 0), (0, 3, [], 0), (3, 5, [some (some 12), some (some 8), some (some 28), some (some 23), some (some 24), some (some 25), some (some 26), some (some 27)], 0), (0, 100, [], 0), (0, 100, [], 0), (0, 100, [], 0), (0, 3, [], 0), (0, 3, [], 0), (3, 9, [some (some 12), some (some 29), none, none, some (some 30), some (some 31)], 0), (0, 100, [], 0), (0, 100, [], 0), (0, 100, [], 0), (3, 6, [some (some 12), some (some 37), some (some 33), some (some 34), some (some 35), none, some (some 36)], 0), (0, 100, [], 0), (0, 300, [], 0), (0, 300, [], 0), (2, 157, [], 0), (3, 9, [some (some 12), some (some 38), none, none, some (some 39), some (some 40)], 0), (0, 100, [], 0), (0, 100, [], 0), (0, 100, [], 0), (3, 3, [none, some (some 42)], 0), (0, 800, [], 0), (3, 2, [some (some 12), none, some (some 44), none, some (some 45), some (some 46), some (some 47), some (some 48), none, some (some 49)], 0), (0, 8, [], 0), (0, 100, [], 0), (0, 100, [], 0), (0, 60, [], 0), (0, 60, [], 0), (0, 3, [], 0), (3, 11, [none, none, some (some 51), some (some 52), some (some 53), none, some (some 54), some (some 55), some (some 56), some (some 57), some (some 58), none, some (some 59), none, some (some 60), some (some 61), some (some 62), some (some 63), some (some 64), some (some 65), some (some 66), none, some (some 67), some (some 68), some (some 69), some (some 70), some (some 71), some (some 72), some (some 73), some (some 74), some (some 75), some (some 76), some (some 77), some (some 78), none, some (some 79), some (some 80), none, some (some 81), some (some 82), some (some 83), some (some 84)], 0), (0, 12, [], 0), (0, 12, [], 0), (0, 36, [], 0), (0, 100, [], 0), (0, 100, [], 0), (0, 300, [], 0), (0, 100, [], 0), (0, 800, [], 0), (0, 8, [], 0), (0, 4, [], 0), (0, 4, [], 0), (1, 16, [], 0), (0, 52, [], 0), (0, 624, [], 0), (0, 64, [], 0), (0, 64, [], 0), (0, 64, [], 0), (0, 64, [], 0), (0, 64, [], 0), (0, 3, [], 0), (0, 3, [], 0), (0, 64, [], 0), (0, 64, [], 0), (0, 192, [], 0), (0, 100, [], 0), (0, 100, [], 0), (0, 31000, [], 0), (0, 31000, [], 0), (1, 10000, [], 0), (0, 100, [], 0), (0, 400, [], 0), (1, 100, [], 0), (0, 100, [], 0), (0, 256, [], 0)]
def bk_26 : List BRow := [(3, 10, [some (some 1), some (some 5), some (some 8), some (some 12), some (some 17), some (some 22), some (some 32), some (some 41), some (some 43)], 0), (3, 4, [none, none, some (some 2), some (some 3), some (some 4)], 0), (0, 12, [], 0), (0, 12, [], 0), (0, 36, [], 0), (3, 1, [some (some 1), some (some 6), some (some 7)], 0), (0, 4, [], (-13)), (0, 4, [], 0), (3, 8, [some (some 1), some (some 9), some (some 10), some (some 11)], 0), (0, 52, [], 0), (0, 156, [], 0), (0, 624, [], 0), (3, 0, [some (some 1), none, some (some 13), some (some 14), some (some 15), some (some 16)], 0), (0, 100, [], 0), (0, 100, [], 0), (0, 300, [], 0), (0, 100, [], (-1)), (3, 7, [some (some 1), some (some 8), some (some 12), some (some 18), some (some 19), some (some 20), none, some (some 21)], 0), (0, 12, [], 0), (0, 12, [], 0), (0, 12, [], 0), (0, 3, [], 0), (3, 5, [some (some 12), some (some 8), some (some 28), some (some 23), some (some 24), some (some 25), some (some 26), some (some 27)], 0), (0, 100, [], 0), (0, 100, [], 0), (0, 100, [], 0), (0, 3, [], 0), (0, 3, [], 0), (3, 9, [some (some 12), some (some 29), none, none, some (some 30), some (some 31)], 0), (0, 100, [], 0), (0, 100, [], 0), (0, 100, [], 0), (3, 6, [some (some 12), some (some 37), some (some 33), some (some 34), some (some 35), none, some (some 36)], 0), (0, 100, [], 0), (0, 300, [], 0), (0, 300, [], 0), (2, 157, [], 0), (3, 9, [some (some 12), some (some 38), none, none, some (some 39), some (some 40)], 0), (0, 100, [], 0), (0, 100, [], 0), (0, 100, [], 0), (3, 3, [none, some (some 42)], 0), (0, 800, [], 0), (3, 2, [some (some 12), none, some (some 44), none, some (some 45), some (some 46), some (some 47), some (some 48), none, some (some 49)], 0), (0, 8, [], 0), (0, 100, [], 0), (0, 100, [], 0), (0, 60, [], 0), (0, 60, [], 0), (0, 3, [], 0), (3, 11, [none, none, some (some 51), some (some 52), some (some 53), none, some (some 54), some (some 55), some (some 56), some (some 57), some (some 58), none, some (some 59), none, some (some 60), some (some 61), some (some 62), some (some 63), some (some 64), some (some 65), some (some 66), none, some (some 67), some (some 68), some (some 69), some (some 70), some (some 71), some (some 72), some (some 73), some (some 74), some (some 75), some (some 76), some (some 77), some (some 78), none, some (some 79), some (some 80), none, some (some 81), some (some 82), some (some 83), some (some 84)], 0), (0, 12, [], 0), (0, 12, [], 0), (0, 36, [], 0), (0, 100, [], 0), (0, 100, [], 0), (0, 300, [], 0), (0, 100, [], 0), (0, 800, [], 0), (0, 8, [], 0), (0, 4, [], 0), (0, 4, [], 0), (1, 16, [], 0), (0, 52, [], 0), (0, 624, [], 0), (0, 64, [], 0), (0, 64, [], 0), (0, 64, [], 0), (0, 64, [], 0), (0, 64, [], 0), (0, 3, [], 0), (0, 3, [], 0), (0, 64, [], 0), (0, 64, [], 0), (0, 192, [], 0), (0, 100, [], 0), (0, 100, [], 0), (0, 31000, [], 0), (0, 31000, [], 0), (1, 10000, [], 0), (0, 100, [], 0), (0, 400, [], 0), (1, 100, [], 0), (0, 100, [], 0), (0, 256, [], 0)]
set_option maxRecDepth 20000 in
theorem b_X4_init_1 (l : Launch) (Dd : va_G) (cs : ClassId × ClassId × ClassId) : PB l Dd cs (bk_2.length) (bsz bk_2) mX4_init 0 (entL [vR 1] (mrN mX4_init)) [] bk_1 (RQ mX4_init bk_2) := by
  refine PB.aload_n (pc := 0) (x := 1) dX4_init_0 rfl ?_
  refine PB.objInit (pc := 1) dX4_init_1 (tm 29 (by decide +kernel) rfl) oi_inst oi_code (by decide) (by decide) ?_
  refine PB.aload_n (pc := 4) (x := 1) dX4_init_4 rfl ?_
  refine PB.bipush (pc := 5) dX4_init_5 (by decide) ?_
  refine PB.newaI (pc := 7) (n := 12) dX4_init_7 ac_int (by decide) (by decide) (by decide +kernel) (by decide +kernel) (by decide +kernel) (by decide +kernel) (by decide +kernel) ?_
  refine PB.top (h2 := 2) (by decide +kernel) ?_
  refine PB.put (pc := 9) dX4_init_9 ff_X4_9 rfl (fs := [none, none, some none, some none, some none]) (by decide +kernel) (by decide) ?_
  refine PB.aload_n (pc := 12) (x := 1) dX4_init_12 rfl ?_
  refine PB.bipush (pc := 13) dX4_init_13 (by decide) ?_
  refine PB.newaI (pc := 15) (n := 12) dX4_init_15 ac_int (by decide) (by decide) (by decide +kernel) (by decide +kernel) (by decide +kernel) (by decide +kernel) (by decide +kernel) ?_
  refine PB.top (h2 := 3) (by decide +kernel) ?_
  refine PB.put (pc := 17) dX4_init_17 ff_X4_15 rfl (fs := [none, none, some (some 2), some none, some none]) (by decide +kernel) (by decide) ?_
  refine PB.aload_n (pc := 20) (x := 1) dX4_init_20 rfl ?_
  refine PB.bipush (pc := 21) dX4_init_21 (by decide) ?_
  refine PB.newaI (pc := 23) (n := 36) dX4_init_23 ac_int (by decide) (by decide) (by decide +kernel) (by decide +kernel) (by decide +kernel) (by decide +kernel) (by decide +kernel) ?_
  refine PB.top (h2 := 4) (by decide +kernel) ?_
  refine PB.put (pc := 25) dX4_init_25 ff_X4_18 rfl (fs := [none, none, some (some 2), some (some 3), some none]) (by decide +kernel) (by decide) ?_
  exact PB.stop ⟨dX4_init_28, rfl, by decide +kernel⟩

set_option maxRecDepth 20000 in
theorem b_X1_init_5 (l : Launch) (Dd : va_G) (cs : ClassId × ClassId × ClassId) : PB l Dd cs (bk_4.length) (bsz bk_4) mX1_init 0 (entL [vR 5, vR 1] (mrN mX1_init)) [] bk_3 (RQ mX1_init bk_4) := by
  refine PB.aload_n (pc := 0) (x := 5) dX1_init_0 rfl ?_
  refine PB.objInit (pc := 1) dX1_init_1 (tm 65 (by decide +kernel) rfl) oi_inst oi_code (by decide) (by decide) ?_
  refine PB.aload_n (pc := 4) (x := 5) dX1_init_4 rfl ?_
  refine PB.iconst (pc := 5) dX1_init_5 ?_
  refine PB.newaI (pc := 6) (n := 4) dX1_init_6 ac_int (by decide) (by decide) (by decide +kernel) (by decide +kernel) (by decide +kernel) (by decide +kernel) (by decide +kernel) ?_
  refine PB.top (h2 := 6) (by decide +kernel) ?_
  refine PB.put (pc := 8) dX1_init_8 ff_X1_9 rfl (fs := [some none, some none, some none]) (by decide +kernel) (by decide) ?_
  refine PB.aload_n (pc := 11) (x := 5) dX1_init_11 rfl ?_
  refine PB.iconst (pc := 12) dX1_init_12 ?_
  refine PB.newaI (pc := 13) (n := 4) dX1_init_13 ac_int (by decide) (by decide) (by decide +kernel) (by decide +kernel) (by decide +kernel) (by decide +kernel) (by decide +kernel) ?_
  refine PB.top (h2 := 7) (by decide +kernel) ?_
  refine PB.put (pc := 15) dX1_init_15 ff_X1_15 rfl (fs := [some none, some (some 6), some none]) (by decide +kernel) (by decide) ?_
  refine PB.aload_n (pc := 18) (x := 5) dX1_init_18 rfl ?_
  refine PB.aload_n (pc := 19) (x := 1) dX1_init_19 rfl ?_
  refine PB.put (pc := 20) dX1_init_20 ff_X1_18 rfl (fs := [some none, some (some 6), some (some 7)]) (by decide +kernel) (by decide) ?_
  refine PB.aload_n (pc := 23) (x := 5) dX1_init_23 rfl ?_
  refine PB.getR (pc := 24) (h2 := 6) dX1_init_24 fgi_X1_9 (fs := [some (some 1), some (some 6), some (some 7)]) (by decide +kernel) rfl ?_
  refine PB.bipush (pc := 27) dX1_init_27 (by decide) ?_
  refine PB.fill (pc := 29) (n := 4) (c0 := 0) dX1_init_29 cl_X1_22 (by decide +kernel) (by decide) ⟨by decide, by decide⟩ (Nat.le_of_ble_eq_true rfl) (by decide +kernel) (by decide +kernel) ?_
  exact PB.stop ⟨dX1_init_32, rfl, by decide +kernel⟩

set_option maxRecDepth 20000 in
theorem b_X8_init_8 (l : Launch) (Dd : va_G) (cs : ClassId × ClassId × ClassId) : PB l Dd cs (bk_6.length) (bsz bk_6) mX8_init 0 (entL [vR 8, vR 1] (mrN mX8_init)) [] bk_5 (RQ mX8_init bk_6) := by
  refine PB.aload_n (pc := 0) (x := 8) dX8_init_0 rfl ?_
  refine PB.objInit (pc := 1) dX8_init_1 (tm 86 (by decide +kernel) rfl) oi_inst oi_code (by decide) (by decide) ?_
  refine PB.aload_n (pc := 4) (x := 8) dX8_init_4 rfl ?_
  refine PB.bipush (pc := 5) dX8_init_5 (by decide) ?_
  refine PB.newaI (pc := 7) (n := 52) dX8_init_7 ac_int (by decide) (by decide) (by decide +kernel) (by decide +kernel) (by decide +kernel) (by decide +kernel) (by decide +kernel) ?_
  refine PB.top (h2 := 9) (by decide +kernel) ?_
  refine PB.put (pc := 9) dX8_init_9 ff_X8_9 rfl (fs := [some none, some none, some none, some none]) (by decide +kernel) (by decide) ?_
  refine PB.aload_n (pc := 12) (x := 8) dX8_init_12 rfl ?_
  refine PB.sipush (pc := 13) dX8_init_13 (by decide) ?_
  refine PB.newaI (pc := 16) (n := 156) dX8_init_16 ac_int (by decide) (by decide) (by decide +kernel) (by decide +kernel) (by decide +kernel) (by decide +kernel) (by decide +kernel) ?_
  refine PB.top (h2 := 10) (by decide +kernel) ?_
  refine PB.put (pc := 18) dX8_init_18 ff_X8_15 rfl (fs := [some none, some (some 9), some none, some none]) (by decide +kernel) (by decide) ?_
  refine PB.aload_n (pc := 21) (x := 8) dX8_init_21 rfl ?_
  refine PB.sipush (pc := 22) dX8_init_22 (by decide) ?_
  refine PB.newaI (pc := 25) (n := 624) dX8_init_25 ac_int (by decide) (by decide) (by decide +kernel) (by decide +kernel) (by decide +kernel) (by decide +kernel) (by decide +kernel) ?_
  refine PB.top (h2 := 11) (by decide +kernel) ?_
  refine PB.put (pc := 27) dX8_init_27 ff_X8_18 rfl (fs := [some none, some (some 9), some (some 10), some none]) (by decide +kernel) (by decide) ?_
  refine PB.aload_n (pc := 30) (x := 8) dX8_init_30 rfl ?_
  refine PB.aload_n (pc := 31) (x := 1) dX8_init_31 rfl ?_
  refine PB.put (pc := 32) dX8_init_32 ff_X8_21 rfl (fs := [some none, some (some 9), some (some 10), some (some 11)]) (by decide +kernel) (by decide) ?_
  exact PB.stop ⟨dX8_init_35, rfl, by decide +kernel⟩

set_option maxRecDepth 20000 in
theorem b_X0_init_12 (l : Launch) (Dd : va_G) (cs : ClassId × ClassId × ClassId) : PB l Dd cs (bk_8.length) (bsz bk_8) mX0_init 0 (entL [vR 12, vR 1] (mrN mX0_init)) [] bk_7 (RQ mX0_init bk_8) := by
  refine PB.aload_n (pc := 0) (x := 12) dX0_init_0 rfl ?_
  refine PB.objInit (pc := 1) dX0_init_1 (tm 105 (by decide +kernel) rfl) oi_inst oi_code (by decide) (by decide) ?_
  refine PB.aload_n (pc := 4) (x := 12) dX0_init_4 rfl ?_
  refine PB.bipush (pc := 5) dX0_init_5 (by decide) ?_
  refine PB.newaI (pc := 7) (n := 100) dX0_init_7 ac_int (by decide) (by decide) (by decide +kernel) (by decide +kernel) (by decide +kernel) (by decide +kernel) (by decide +kernel) ?_
  refine PB.top (h2 := 13) (by decide +kernel) ?_
  refine PB.put (pc := 9) dX0_init_9 ff_X0_9 rfl (fs := [some none, none, some none, some none, some none, some none]) (by decide +kernel) (by decide) ?_
  refine PB.aload_n (pc := 12) (x := 12) dX0_init_12 rfl ?_
  refine PB.bipush (pc := 13) dX0_init_13 (by decide) ?_
  refine PB.newaI (pc := 15) (n := 100) dX0_init_15 ac_int (by decide) (by decide) (by decide +kernel) (by decide +kernel) (by decide +kernel) (by decide +kernel) (by decide +kernel) ?_
  refine PB.top (h2 := 14) (by decide +kernel) ?_
  refine PB.put (pc := 17) dX0_init_17 ff_X0_15 rfl (fs := [some none, none, some (some 13), some none, some none, some none]) (by decide +kernel) (by decide) ?_
  refine PB.aload_n (pc := 20) (x := 12) dX0_init_20 rfl ?_
  refine PB.sipush (pc := 21) dX0_init_21 (by decide) ?_
  refine PB.newaI (pc := 24) (n := 300) dX0_init_24 ac_int (by decide) (by decide) (by decide +kernel) (by decide +kernel) (by decide +kernel) (by decide +kernel) (by decide +kernel) ?_
  refine PB.top (h2 := 15) (by decide +kernel) ?_
  refine PB.put (pc := 26) dX0_init_26 ff_X0_18 rfl (fs := [some none, none, some (some 13), some (some 14), some none, some none]) (by decide +kernel) (by decide) ?_
  refine PB.aload_n (pc := 29) (x := 12) dX0_init_29 rfl ?_
  refine PB.bipush (pc := 30) dX0_init_30 (by decide) ?_
  refine PB.newaI (pc := 32) (n := 100) dX0_init_32 ac_int (by decide) (by decide) (by decide +kernel) (by decide +kernel) (by decide +kernel) (by decide +kernel) (by decide +kernel) ?_
  refine PB.top (h2 := 16) (by decide +kernel) ?_
  refine PB.put (pc := 34) dX0_init_34 ff_X0_21 rfl (fs := [some none, none, some (some 13), some (some 14), some (some 15), some none]) (by decide +kernel) (by decide) ?_
  refine PB.aload_n (pc := 37) (x := 12) dX0_init_37 rfl ?_
  refine PB.aload_n (pc := 38) (x := 1) dX0_init_38 rfl ?_
  refine PB.put (pc := 39) dX0_init_39 ff_X0_24 rfl (fs := [some none, none, some (some 13), some (some 14), some (some 15), some (some 16)]) (by decide +kernel) (by decide) ?_
  refine PB.aload_n (pc := 42) (x := 12) dX0_init_42 rfl ?_
  refine PB.getR (pc := 43) (h2 := 16) dX0_init_43 fgi_X0_21 (fs := [some (some 1), none, some (some 13), some (some 14), some (some 15), some (some 16)]) (by decide +kernel) rfl ?_
  refine PB.iconst (pc := 46) dX0_init_46 ?_
  refine PB.fill (pc := 47) (n := 100) (c0 := 0) dX0_init_47 cl_X0_28 (by decide +kernel) (by decide) ⟨by decide, by decide⟩ (Nat.le_of_ble_eq_true rfl) (by decide +kernel) (by decide +kernel) ?_
  exact PB.stop ⟨dX0_init_50, rfl, by decide +kernel⟩

set_option maxRecDepth 20000 in
theorem b_X7_init_17 (l : Launch) (Dd : va_G) (cs : ClassId × ClassId × ClassId) : PB l Dd cs (bk_10.length) (bsz bk_10) mX7_init 0 (entL [vR 17, vR 1, vR 8, vR 12] (mrN mX7_init)) [] bk_9 (RQ mX7_init bk_10) := by
  refine PB.aload_n (pc := 0) (x := 17) dX7_init_0 rfl ?_
  refine PB.objInit (pc := 1) dX7_init_1 (tm 145 (by decide +kernel) rfl) oi_inst oi_code (by decide) (by decide) ?_
  refine PB.aload_n (pc := 4) (x := 17) dX7_init_4 rfl ?_
  refine PB.bipush (pc := 5) dX7_init_5 (by decide) ?_
  refine PB.newaI (pc := 7) (n := 12) dX7_init_7 ac_int (by decide) (by decide) (by decide +kernel) (by decide +kernel) (by decide +kernel) (by decide +kernel) (by decide +kernel) ?_
  refine PB.top (h2 := 18) (by decide +kernel) ?_
  refine PB.put (pc := 9) dX7_init_9 ff_X7_9 rfl (fs := [some none, some none, some none, some none, some none, some none, none, some none]) (by decide +kernel) (by decide) ?_
  refine PB.aload_n (pc := 12) (x := 17) dX7_init_12 rfl ?_
  refine PB.bipush (pc := 13) dX7_init_13 (by decide) ?_
  refine PB.newaI (pc := 15) (n := 12) dX7_init_15 ac_int (by decide) (by decide) (by decide +kernel) (by decide +kernel) (by decide +kernel) (by decide +kernel) (by decide +kernel) ?_
  refine PB.top (h2 := 19) (by decide +kernel) ?_
  refine PB.put (pc := 17) dX7_init_17 ff_X7_15 rfl (fs := [some none, some none, some none, some (some 18), some none, some none, none, some none]) (by decide +kernel) (by decide) ?_
  refine PB.aload_n (pc := 20) (x := 17) dX7_init_20 rfl ?_
  refine PB.bipush (pc := 21) dX7_init_21 (by decide) ?_
  refine PB.newaI (pc := 23) (n := 12) dX7_init_23 ac_int (by decide) (by decide) (by decide +kernel) (by decide +kernel) (by decide +kernel) (by decide +kernel) (by decide +kernel) ?_
  refine PB.top (h2 := 20) (by decide +kernel) ?_
  refine PB.put (pc := 25) dX7_init_25 ff_X7_18 rfl (fs := [some none, some none, some none, some (some 18), some (some 19), some none, none, some none]) (by decide +kernel) (by decide) ?_
  refine PB.aload_n (pc := 28) (x := 17) dX7_init_28 rfl ?_
  refine PB.iconst (pc := 29) dX7_init_29 ?_
  refine PB.newaI (pc := 30) (n := 3) dX7_init_30 ac_int (by decide) (by decide) (by decide +kernel) (by decide +kernel) (by decide +kernel) (by decide +kernel) (by decide +kernel) ?_
  refine PB.top (h2 := 21) (by decide +kernel) ?_
  refine PB.put (pc := 32) dX7_init_32 ff_X7_21 rfl (fs := [some none, some none, some none, some (some 18), some (some 19), some (some 20), none, some none]) (by decide +kernel) (by decide) ?_
  refine PB.aload_n (pc := 35) (x := 17) dX7_init_35 rfl ?_
  refine PB.aload_n (pc := 36) (x := 1) dX7_init_36 rfl ?_
  refine PB.put (pc := 37) dX7_init_37 ff_X7_24 rfl (fs := [some none, some none, some none, some (some 18), some (some 19), some (some 20), none, some (some 21)]) (by decide +kernel) (by decide) ?_
  refine PB.aload_n (pc := 40) (x := 17) dX7_init_40 rfl ?_
  refine PB.aload_n (pc := 41) (x := 8) dX7_init_41 rfl ?_
  refine PB.put (pc := 42) dX7_init_42 ff_X7_28 rfl (fs := [some (some 1), some none, some none, some (some 18), some (some 19), some (some 20), none, some (some 21)]) (by decide +kernel) (by decide) ?_
  refine PB.aload_n (pc := 45) (x := 17) dX7_init_45 rfl ?_
  refine PB.aload_n (pc := 46) (x := 12) dX7_init_46 rfl ?_
  refine PB.put (pc := 47) dX7_init_47 ff_X7_32 rfl (fs := [some (some 1), some (some 8), some none, some (some 18), some (some 19), some (some 20), none, some (some 21)]) (by decide +kernel) (by decide) ?_
  exact PB.stop ⟨dX7_init_50, rfl, by decide +kernel⟩

set_option maxRecDepth 20000 in
theorem b_X10_init_28 (l : Launch) (Dd : va_G) (cs : ClassId × ClassId × ClassId) : PB l Dd cs (bk_13.length) (bsz bk_13) mX10_init 0 (entL [vR 28, vR 12] (mrN mX10_init)) [] bk_12 (RQ mX10_init bk_13) := by
  refine PB.aload_n (pc := 0) (x := 28) dX10_init_0 rfl ?_
  refine PB.objInit (pc := 1) dX10_init_1 (tm 182 (by decide +kernel) rfl) oi_inst oi_code (by decide) (by decide) ?_
  refine PB.aload_n (pc := 4) (x := 28) dX10_init_4 rfl ?_
  refine PB.bipush (pc := 5) dX10_init_5 (by decide) ?_
  refine PB.newaI (pc := 7) (n := 100) dX10_init_7 ac_int (by decide) (by decide) (by decide +kernel) (by decide +kernel) (by decide +kernel) (by decide +kernel) (by decide +kernel) ?_
  refine PB.top (h2 := 29) (by decide +kernel) ?_
  refine PB.put (pc := 9) dX10_init_9 ff_X10_9 rfl (fs := [some none, some none, none, none, some none, some none]) (by decide +kernel) (by decide) ?_
  refine PB.aload_n (pc := 12) (x := 28) dX10_init_12 rfl ?_
  refine PB.bipush (pc := 13) dX10_init_13 (by decide) ?_
  refine PB.newaI (pc := 15) (n := 100) dX10_init_15 ac_int (by decide) (by decide) (by decide +kernel) (by decide +kernel) (by decide +kernel) (by decide +kernel) (by decide +kernel) ?_
  refine PB.top (h2 := 30) (by decide +kernel) ?_
  refine PB.put (pc := 17) dX10_init_17 ff_X10_15 rfl (fs := [some none, some (some 29), none, none, some none, some none]) (by decide +kernel) (by decide) ?_
  refine PB.aload_n (pc := 20) (x := 28) dX10_init_20 rfl ?_
  refine PB.bipush (pc := 21) dX10_init_21 (by decide) ?_
  refine PB.newaI (pc := 23) (n := 100) dX10_init_23 ac_int (by decide) (by decide) (by decide +kernel) (by decide +kernel) (by decide +kernel) (by decide +kernel) (by decide +kernel) ?_
  refine PB.top (h2 := 31) (by decide +kernel) ?_
  refine PB.put (pc := 25) dX10_init_25 ff_X10_18 rfl (fs := [some none, some (some 29), none, none, some (some 30), some none]) (by decide +kernel) (by decide) ?_
  refine PB.aload_n (pc := 28) (x := 28) dX10_init_28 rfl ?_
  refine PB.aload_n (pc := 29) (x := 12) dX10_init_29 rfl ?_
  refine PB.put (pc := 30) dX10_init_30 ff_X10_21 rfl (fs := [some none, some (some 29), none, none, some (some 30), some (some 31)]) (by decide +kernel) (by decide) ?_
  exact PB.stop ⟨dX10_init_33, rfl, by decide +kernel⟩

set_option maxRecDepth 20000 in
theorem b_X5_init_22 (l : Launch) (Dd : va_G) (cs : ClassId × ClassId × ClassId) : PB l Dd cs (bk_14.length) (bsz bk_14) mX5_init 0 (entL [vR 22, vR 12, vR 8] (mrN mX5_init)) [] bk_11 (RQ mX5_init bk_14) := by
  refine PB.aload_n (pc := 0) (x := 22) dX5_init_0 rfl ?_
  refine PB.objInit (pc := 1) dX5_init_1 (tm 176 (by decide +kernel) rfl) oi_inst oi_code (by decide) (by decide) ?_
  refine PB.aload_n (pc := 4) (x := 22) dX5_init_4 rfl ?_
  refine PB.bipush (pc := 5) dX5_init_5 (by decide) ?_
  refine PB.newaI (pc := 7) (n := 100) dX5_init_7 ac_int (by decide) (by decide) (by decide +kernel) (by decide +kernel) (by decide +kernel) (by decide +kernel) (by decide +kernel) ?_
  refine PB.top (h2 := 23) (by decide +kernel) ?_
  refine PB.put (pc := 9) dX5_init_9 ff_X5_9 rfl (fs := [some none, some none, some none, some none, some none, some none, some none, some none]) (by decide +kernel) (by decide) ?_
  refine PB.aload_n (pc := 12) (x := 22) dX5_init_12 rfl ?_
  refine PB.bipush (pc := 13) dX5_init_13 (by decide) ?_
  refine PB.newaI (pc := 15) (n := 100) dX5_init_15 ac_int (by decide) (by decide) (by decide +kernel) (by decide +kernel) (by decide +kernel) (by decide +kernel) (by decide +kernel) ?_
  refine PB.top (h2 := 24) (by decide +kernel) ?_
  refine PB.put (pc := 17) dX5_init_17 ff_X5_15 rfl (fs := [some none, some none, some none, some (some 23), some none, some none, some none, some none]) (by decide +kernel) (by decide) ?_
  refine PB.aload_n (pc := 20) (x := 22) dX5_init_20 rfl ?_
  refine PB.bipush (pc := 21) dX5_init_21 (by decide) ?_
  refine PB.newaI (pc := 23) (n := 100) dX5_init_23 ac_int (by decide) (by decide) (by decide +kernel) (by decide +kernel) (by decide +kernel) (by decide +kernel) (by decide +kernel) ?_
  refine PB.top (h2 := 25) (by decide +kernel) ?_
  refine PB.put (pc := 25) dX5_init_25 ff_X5_18 rfl (fs := [some none, some none, some none, some (some 23), some (some 24), some none, some none, some none]) (by decide +kernel) (by decide) ?_
  refine PB.aload_n (pc := 28) (x := 22) dX5_init_28 rfl ?_
  refine PB.iconst (pc := 29) dX5_init_29 ?_
  refine PB.newaI (pc := 30) (n := 3) dX5_init_30 ac_int (by decide) (by decide) (by decide +kernel) (by decide +kernel) (by decide +kernel) (by decide +kernel) (by decide +kernel) ?_
  refine PB.top (h2 := 26) (by decide +kernel) ?_
  refine PB.put (pc := 32) dX5_init_32 ff_X5_21 rfl (fs := [some none, some none, some none, some (some 23), some (some 24), some (some 25), some none, some none]) (by decide +kernel) (by decide) ?_
  refine PB.aload_n (pc := 35) (x := 22) dX5_init_35 rfl ?_
  refine PB.iconst (pc := 36) dX5_init_36 ?_
  refine PB.newaI (pc := 37) (n := 3) dX5_init_37 ac_int (by decide) (by decide) (by decide +kernel) (by decide +kernel) (by decide +kernel) (by decide +kernel) (by decide +kernel) ?_
  refine PB.top (h2 := 27) (by decide +kernel) ?_
  refine PB.put (pc := 39) dX5_init_39 ff_X5_24 rfl (fs := [some none, some none, some none, some (some 23), some (some 24), some (some 25), some (some 26), some none]) (by decide +kernel) (by decide) ?_
  refine PB.aload_n (pc := 42) (x := 22) dX5_init_42 rfl ?_
  refine PB.aload_n (pc := 43) (x := 12) dX5_init_43 rfl ?_
  refine PB.put (pc := 44) dX5_init_44 ff_X5_27 rfl (fs := [some none, some none, some none, some (some 23), some (some 24), some (some 25), some (some 26), some (some 27)]) (by decide +kernel) (by decide) ?_
  refine PB.aload_n (pc := 47) (x := 22) dX5_init_47 rfl ?_
  refine PB.aload_n (pc := 48) (x := 8) dX5_init_48 rfl ?_
  refine PB.put (pc := 49) dX5_init_49 ff_X5_31 rfl (fs := [some (some 12), some none, some none, some (some 23), some (some 24), some (some 25), some (some 26), some (some 27)]) (by decide +kernel) (by decide) ?_
  refine PB.aload_n (pc := 52) (x := 22) dX5_init_52 rfl ?_
  refine PB.new (pc := 53) (ci := 9) (N := 6) (fs := [some none, some none, none, none, some none, some none]) tyX10 dX5_init_53 (tm 177 (by decide +kernel) rfl) (tm 178 (by decide +kernel) rfl) (tm 9 (by decide +kernel) rfl) rfl hin_X10 tyX10_ok (by decide +kernel) rfl rfl (by decide) (by decide +kernel) (by decide +kernel) (by decide +kernel) (by decide +kernel) (by decide +kernel) ?_
  refine PB.top (h2 := 28) (by decide +kernel) ?_
  refine PB.dup (pc := 56) dX5_init_56 ?_
  refine PB.aload_n (pc := 57) (x := 12) dX5_init_57 rfl ?_
  refine PB.rows (ks2 := bk_12) (by decide +kernel) ?_
  refine PB.callI (pc := 58) (As := [vR 12]) (st := [vR 28, vR 22]) (h := 28) (ks2 := bk_13) dX5_init_58 ob_X10_init (tm 179 (by decide +kernel) rfl) ⟨(Nat.le_of_ble_eq_true rfl), (Nat.le_of_ble_eq_true rfl)⟩ (Nat.le_of_ble_eq_true rfl) (Nat.le_of_ble_eq_true rfl) (by decide +kernel) (by decide +kernel) (by decide +kernel) (by decide +kernel) (by decide +kernel) (by decide +kernel) (b_X10_init_28 l Dd cs) ?_
  refine PB.put (pc := 61) dX5_init_61 ff_X5_40 rfl (fs := [some (some 12), some (some 8), some none, some (some 23), some (some 24), some (some 25), some (some 26), some (some 27)]) (by decide +kernel) (by decide) ?_
  exact PB.stop ⟨dX5_init_64, rfl, by decide +kernel⟩

set_option maxRecDepth 20000 in
theorem b_X10_init_37 (l : Launch) (Dd : va_G) (cs : ClassId × ClassId × ClassId) : PB l Dd cs (bk_17.length) (bsz bk_17) mX10_init 0 (entL [vR 37, vR 12] (mrN mX10_init)) [] bk_16 (RQ mX10_init bk_17) := by
  refine PB.aload_n (pc := 0) (x := 37) dX10_init_0 rfl ?_
  refine PB.objInit (pc := 1) dX10_init_1 (tm 182 (by decide +kernel) rfl) oi_inst oi_code (by decide) (by decide) ?_
  refine PB.aload_n (pc := 4) (x := 37) dX10_init_4 rfl ?_
  refine PB.bipush (pc := 5) dX10_init_5 (by decide) ?_
  refine PB.newaI (pc := 7) (n := 100) dX10_init_7 ac_int (by decide) (by decide) (by decide +kernel) (by decide +kernel) (by decide +kernel) (by decide +kernel) (by decide +kernel) ?_
  refine PB.top (h2 := 38) (by decide +kernel) ?_
  refine PB.put (pc := 9) dX10_init_9 ff_X10_9 rfl (fs := [some none, some none, none, none, some none, some none]) (by decide +kernel) (by decide) ?_
  refine PB.aload_n (pc := 12) (x := 37) dX10_init_12 rfl ?_
  refine PB.bipush (pc := 13) dX10_init_13 (by decide) ?_
  refine PB.newaI (pc := 15) (n := 100) dX10_init_15 ac_int (by decide) (by decide) (by decide +kernel) (by decide +kernel) (by decide +kernel) (by decide +kernel) (by decide +kernel) ?_
  refine PB.top (h2 := 39) (by decide +kernel) ?_
  refine PB.put (pc := 17) dX10_init_17 ff_X10_15 rfl (fs := [some none, some (some 38), none, none, some none, some none]) (by decide +kernel) (by decide) ?_
  refine PB.aload_n (pc := 20) (x := 37) dX10_init_20 rfl ?_
  refine PB.bipush (pc := 21) dX10_init_21 (by decide) ?_
  refine PB.newaI (pc := 23) (n := 100) dX10_init_23 ac_int (by decide) (by decide) (by decide +kernel) (by decide +kernel) (by decide +kernel) (by decide +kernel) (by decide +kernel) ?_
  refine PB.top (h2 := 40) (by decide +kernel) ?_
  refine PB.put (pc := 25) dX10_init_25 ff_X10_18 rfl (fs := [some none, some (some 38), none, none, some (some 39), some none]) (by decide +kernel) (by decide) ?_
  refine PB.aload_n (pc := 28) (x := 37) dX10_init_28 rfl ?_
  refine PB.aload_n (pc := 29) (x := 12) dX10_init_29 rfl ?_
  refine PB.put (pc := 30) dX10_init_30 ff_X10_21 rfl (fs := [some none, some (some 38), none, none, some (some 39), some (some 40)]) (by decide +kernel) (by decide) ?_
  exact PB.stop ⟨dX10_init_33, rfl, by decide +kernel⟩

set_option maxRecDepth 20000 in
theorem b_X6_init_32 (l : Launch) (Dd : va_G) (cs : ClassId × ClassId × ClassId) : PB l Dd cs (bk_18.length) (bsz bk_18) mX6_init 0 (entL [vR 32, vR 12] (mrN mX6_init)) [] bk_15 (RQ mX6_init bk_18) := by
  refine PB.aload_n (pc := 0) (x := 32) dX6_init_0 rfl ?_
  refine PB.objInit (pc := 1) dX6_init_1 (tm 234 (by decide +kernel) rfl) oi_inst oi_code (by decide) (by decide) ?_
  refine PB.aload_n (pc := 4) (x := 32) dX6_init_4 rfl ?_
  refine PB.bipush (pc := 5) dX6_init_5 (by decide) ?_
  refine PB.newaI (pc := 7) (n := 100) dX6_init_7 ac_int (by decide) (by decide) (by decide +kernel) (by decide +kernel) (by decide +kernel) (by decide +kernel) (by decide +kernel) ?_
  refine PB.top (h2 := 33) (by decide +kernel) ?_
  refine PB.put (pc := 9) dX6_init_9 ff_X6_9 rfl (fs := [some none, some none, some none, some none, some none, none, some none]) (by decide +kernel) (by decide) ?_
  refine PB.aload_n (pc := 12) (x := 32) dX6_init_12 rfl ?_
  refine PB.sipush (pc := 13) dX6_init_13 (by decide) ?_
  refine PB.newaI (pc := 16) (n := 300) dX6_init_16 ac_int (by decide) (by decide) (by decide +kernel) (by decide +kernel) (by decide +kernel) (by decide +kernel) (by decide +kernel) ?_
  refine PB.top (h2 := 34) (by decide +kernel) ?_
  refine PB.put (pc := 18) dX6_init_18 ff_X6_15 rfl (fs := [some none, some none, some (some 33), some none, some none, none, some none]) (by decide +kernel) (by decide) ?_
  refine PB.aload_n (pc := 21) (x := 32) dX6_init_21 rfl ?_
  refine PB.sipush (pc := 22) dX6_init_22 (by decide) ?_
  refine PB.newaI (pc := 25) (n := 300) dX6_init_25 ac_int (by decide) (by decide) (by decide +kernel) (by decide +kernel) (by decide +kernel) (by decide +kernel) (by decide +kernel) ?_
  refine PB.top (h2 := 35) (by decide +kernel) ?_
  refine PB.put (pc := 27) dX6_init_27 ff_X6_18 rfl (fs := [some none, some none, some (some 33), some (some 34), some none, none, some none]) (by decide +kernel) (by decide) ?_
  refine PB.aload_n (pc := 30) (x := 32) dX6_init_30 rfl ?_
  refine PB.sipush (pc := 31) dX6_init_31 (by decide) ?_
  refine PB.newaL (pc := 34) (n := 157) dX6_init_34 ac_long (by decide) (by decide) (by decide +kernel) (by decide +kernel) (by decide +kernel) (by decide +kernel) (by decide +kernel) ?_
  refine PB.top (h2 := 36) (by decide +kernel) ?_
  refine PB.put (pc := 36) dX6_init_36 ff_X6_21 rfl (fs := [some none, some none, some (some 33), some (some 34), some (some 35), none, some none]) (by decide +kernel) (by decide) ?_
  refine PB.aload_n (pc := 39) (x := 32) dX6_init_39 rfl ?_
  refine PB.aload_n (pc := 40) (x := 12) dX6_init_40 rfl ?_
  refine PB.put (pc := 41) dX6_init_41 ff_X6_25 rfl (fs := [some none, some none, some (some 33), some (some 34), some (some 35), none, some (some 36)]) (by decide +kernel) (by decide) ?_
  refine PB.aload_n (pc := 44) (x := 32) dX6_init_44 rfl ?_
  refine PB.new (pc := 45) (ci := 9) (N := 6) (fs := [some none, some none, none, none, some none, some none]) tyX10 dX6_init_45 (tm 235 (by decide +kernel) rfl) (tm 178 (by decide +kernel) rfl) (tm 9 (by decide +kernel) rfl) rfl hin_X10 tyX10_ok (by decide +kernel) rfl rfl (by decide) (by decide +kernel) (by decide +kernel) (by decide +kernel) (by decide +kernel) (by decide +kernel) ?_
  refine PB.top (h2 := 37) (by decide +kernel) ?_
  refine PB.dup (pc := 48) dX6_init_48 ?_
  refine PB.aload_n (pc := 49) (x := 12) dX6_init_49 rfl ?_
  refine PB.rows (ks2 := bk_16) (by decide +kernel) ?_
  refine PB.callI (pc := 50) (As := [vR 12]) (st := [vR 37, vR 32]) (h := 37) (ks2 := bk_17) dX6_init_50 ob_X10_init (tm 236 (by decide +kernel) rfl) ⟨(Nat.le_of_ble_eq_true rfl), (Nat.le_of_ble_eq_true rfl)⟩ (Nat.le_of_ble_eq_true rfl) (Nat.le_of_ble_eq_true rfl) (by decide +kernel) (by decide +kernel) (by decide +kernel) (by decide +kernel) (by decide +kernel) (by decide +kernel) (b_X10_init_37 l Dd cs) ?_
  refine PB.put (pc := 53) dX6_init_53 ff_X6_34 rfl (fs := [some (some 12), some none, some (some 33), some (some 34), some (some 35), none, some (some 36)]) (by decide +kernel) (by decide) ?_
  exact PB.stop ⟨dX6_init_56, rfl, by decide +kernel⟩

set_option maxRecDepth 20000 in
theorem b_X3_init_41 (l : Launch) (Dd : va_G) (cs : ClassId × ClassId × ClassId) : PB l Dd cs (bk_20.length) (bsz bk_20) mX3_init 0 (entL [vR 41] (mrN mX3_init)) [] bk_19 (RQ mX3_init bk_20) := by
  refine PB.aload_n (pc := 0) (x := 41) dX3_init_0 rfl ?_
  refine PB.objInit (pc := 1) dX3_init_1 (tm 265 (by decide +kernel) rfl) oi_inst oi_code (by decide) (by decide) ?_
  refine PB.aload_n (pc := 4) (x := 41) dX3_init_4 rfl ?_
  refine PB.sipush (pc := 5) dX3_init_5 (by decide) ?_
  refine PB.newaI (pc := 8) (n := 800) dX3_init_8 ac_int (by decide) (by decide) (by decide +kernel) (by decide +kernel) (by decide +kernel) (by decide +kernel) (by decide +kernel) ?_
  refine PB.top (h2 := 42) (by decide +kernel) ?_
  refine PB.put (pc := 10) dX3_init_10 ff_X3_9 rfl (fs := [none, some none]) (by decide +kernel) (by decide) ?_
  exact PB.stop ⟨dX3_init_13, rfl, by decide +kernel⟩

set_option maxRecDepth 20000 in
theorem b_X2_init_43 (l : Launch) (Dd : va_G) (cs : ClassId × ClassId × ClassId) : PB l Dd cs (bk_22.length) (bsz bk_22) mX2_init 0 (entL [vR 43, vR 12] (mrN mX2_init)) [] bk_21 (RQ mX2_init bk_22) := by
  refine PB.aload_n (pc := 0) (x := 43) dX2_init_0 rfl ?_
  refine PB.objInit (pc := 1) dX2_init_1 (tm 279 (by decide +kernel) rfl) oi_inst oi_code (by decide) (by decide) ?_
  refine PB.aload_n (pc := 4) (x := 43) dX2_init_4 rfl ?_
  refine PB.bipush (pc := 5) dX2_init_5 (by decide) ?_
  refine PB.newaI (pc := 7) (n := 8) dX2_init_7 ac_int (by decide) (by decide) (by decide +kernel) (by decide +kernel) (by decide +kernel) (by decide +kernel) (by decide +kernel) ?_
  refine PB.top (h2 := 44) (by decide +kernel) ?_
  refine PB.put (pc := 9) dX2_init_9 ff_X2_9 rfl (fs := [some none, none, some none, none, some none, some none, some none, some none, none, some none]) (by decide +kernel) (by decide) ?_
  refine PB.aload_n (pc := 12) (x := 43) dX2_init_12 rfl ?_
  refine PB.bipush (pc := 13) dX2_init_13 (by decide) ?_
  refine PB.newaI (pc := 15) (n := 100) dX2_init_15 ac_int (by decide) (by decide) (by decide +kernel) (by decide +kernel) (by decide +kernel) (by decide +kernel) (by decide +kernel) ?_
  refine PB.top (h2 := 45) (by decide +kernel) ?_
  refine PB.put (pc := 17) dX2_init_17 ff_X2_15 rfl (fs := [some none, none, some (some 44), none, some none, some none, some none, some none, none, some none]) (by decide +kernel) (by decide) ?_
  refine PB.aload_n (pc := 20) (x := 43) dX2_init_20 rfl ?_
  refine PB.bipush (pc := 21) dX2_init_21 (by decide) ?_
  refine PB.newaI (pc := 23) (n := 100) dX2_init_23 ac_int (by decide) (by decide) (by decide +kernel) (by decide +kernel) (by decide +kernel) (by decide +kernel) (by decide +kernel) ?_
  refine PB.top (h2 := 46) (by decide +kernel) ?_
  refine PB.put (pc := 25) dX2_init_25 ff_X2_18 rfl (fs := [some none, none, some (some 44), none, some (some 45), some none, some none, some none, none, some none]) (by decide +kernel) (by decide) ?_
  refine PB.aload_n (pc := 28) (x := 43) dX2_init_28 rfl ?_
  refine PB.bipush (pc := 29) dX2_init_29 (by decide) ?_
  refine PB.newaI (pc := 31) (n := 60) dX2_init_31 ac_int (by decide) (by decide) (by decide +kernel) (by decide +kernel) (by decide +kernel) (by decide +kernel) (by decide +kernel) ?_
  refine PB.top (h2 := 47) (by decide +kernel) ?_
  refine PB.put (pc := 33) dX2_init_33 ff_X2_21 rfl (fs := [some none, none, some (some 44), none, some (some 45), some (some 46), some none, some none, none, some none]) (by decide +kernel) (by decide) ?_
  refine PB.aload_n (pc := 36) (x := 43) dX2_init_36 rfl ?_
  refine PB.bipush (pc := 37) dX2_init_37 (by decide) ?_
  refine PB.newaI (pc := 39) (n := 60) dX2_init_39 ac_int (by decide) (by decide) (by decide +kernel) (by decide +kernel) (by decide +kernel) (by decide +kernel) (by decide +kernel) ?_
  refine PB.top (h2 := 48) (by decide +kernel) ?_
  refine PB.put (pc := 41) dX2_init_41 ff_X2_24 rfl (fs := [some none, none, some (some 44), none, some (some 45), some (some 46), some (some 47), some none, none, some none]) (by decide +kernel) (by decide) ?_
  refine PB.aload_n (pc := 44) (x := 43) dX2_init_44 rfl ?_
  refine PB.iconst (pc := 45) dX2_init_45 ?_
  refine PB.newaI (pc := 46) (n := 3) dX2_init_46 ac_int (by decide) (by decide) (by decide +kernel) (by decide +kernel) (by decide +kernel) (by decide +kernel) (by decide +kernel) ?_
  refine PB.top (h2 := 49) (by decide +kernel) ?_
  refine PB.put (pc := 48) dX2_init_48 ff_X2_27 rfl (fs := [some none, none, some (some 44), none, some (some 45), some (some 46), some (some 47), some (some 48), none, some none]) (by decide +kernel) (by decide) ?_
  refine PB.aload_n (pc := 51) (x := 43) dX2_init_51 rfl ?_
  refine PB.aload_n (pc := 52) (x := 12) dX2_init_52 rfl ?_
  refine PB.put (pc := 53) dX2_init_53 ff_X2_30 rfl (fs := [some none, none, some (some 44), none, some (some 45), some (some 46), some (some 47), some (some 48), none, some (some 49)]) (by decide +kernel) (by decide) ?_
  exact PB.stop ⟨dX2_init_56, rfl, by decide +kernel⟩

set_option maxRecDepth 20000 in
theorem b_X11_init_0 (l : Launch) (Dd : va_G) (cs : ClassId × ClassId × ClassId) : PB l Dd cs (bk_23.length) (bsz bk_23) mX11_init 0 (entL [vR 0] (mrN mX11_init)) [] bk_0 (RQ mX11_init bk_23) := by
  refine PB.aload_n (pc := 0) (x := 0) dX11_init_0 rfl ?_
  refine PB.objInit (pc := 1) dX11_init_1 (tm 21 (by decide +kernel) rfl) oi_inst oi_code (by decide) (by decide) ?_
  refine PB.aload_n (pc := 4) (x := 0) dX11_init_4 rfl ?_
  refine PB.new (pc := 5) (ci := 4) (N := 5) (fs := [none, none, some none, some none, some none]) tyX4 dX11_init_5 (tm 24 (by decide +kernel) rfl) (tm 25 (by decide +kernel) rfl) (tm 2 (by decide +kernel) rfl) rfl hin_X4 tyX4_ok (by decide +kernel) rfl rfl (by decide) (by decide +kernel) (by decide +kernel) (by decide +kernel) (by decide +kernel) (by decide +kernel) ?_
  refine PB.top (h2 := 1) (by decide +kernel) ?_
  refine PB.dup (pc := 8) dX11_init_8 ?_
  refine PB.rows (ks2 := bk_1) (by decide +kernel) ?_
  refine PB.callIN (pc := 9) (As := []) (st := [vR 1, vR 0]) (h := 1) (ks2 := bk_2) dX11_init_9 ob_X4_init (by decide +kernel) ⟨(Nat.le_of_ble_eq_true rfl), (Nat.le_of_ble_eq_true rfl)⟩ (Nat.le_of_ble_eq_true rfl) (Nat.le_of_ble_eq_true rfl) (by decide +kernel) (by decide +kernel) (by decide +kernel) (by decide +kernel) (by decide +kernel) (by decide +kernel) (b_X4_init_1 l Dd cs) ?_
  refine PB.put (pc := 12) dX11_init_12 ff_X11_12 rfl (fs := [some none, some none, some none, some none, some none, some none, some none, some none, some none]) (by decide +kernel) (by decide) ?_
  refine PB.aload_n (pc := 15) (x := 0) dX11_init_15 rfl ?_
  refine PB.new (pc := 16) (ci := 1) (N := 3) (fs := [some none, some none, some none]) tyX1 dX11_init_16 (tm 60 (by decide +kernel) rfl) (tm 61 (by decide +kernel) rfl) (tm 3 (by decide +kernel) rfl) rfl hin_X1 tyX1_ok (by decide +kernel) rfl rfl (by decide) (by decide +kernel) (by decide +kernel) (by decide +kernel) (by decide +kernel) (by decide +kernel) ?_
  refine PB.top (h2 := 5) (by decide +kernel) ?_
  refine PB.dup (pc := 19) dX11_init_19 ?_
  refine PB.aload_n (pc := 20) (x := 0) dX11_init_20 rfl ?_
  refine PB.getR (pc := 21) (h2 := 1) dX11_init_21 fgi_X11_12 (fs := [some (some 1), some none, some none, some none, some none, some none, some none, some none, some none]) (by decide +kernel) rfl ?_
  refine PB.rows (ks2 := bk_3) (by decide +kernel) ?_
  refine PB.callI (pc := 24) (As := [vR 1]) (st := [vR 5, vR 0]) (h := 5) (ks2 := bk_4) dX11_init_24 ob_X1_init (tm 62 (by decide +kernel) rfl) ⟨(Nat.le_of_ble_eq_true rfl), (Nat.le_of_ble_eq_true rfl)⟩ (Nat.le_of_ble_eq_true rfl) (Nat.le_of_ble_eq_true rfl) (by decide +kernel) (by decide +kernel) (by decide +kernel) (by decide +kernel) (by decide +kernel) (by decide +kernel) (b_X1_init_5 l Dd cs) ?_
  refine PB.put (pc := 27) dX11_init_27 ff_X11_21 rfl (fs := [some (some 1), some none, some none, some none, some none, some none, some none, some none, some none]) (by decide +kernel) (by decide) ?_
  refine PB.aload_n (pc := 30) (x := 0) dX11_init_30 rfl ?_
  refine PB.new (pc := 31) (ci := 8) (N := 4) (fs := [some none, some none, some none, some none]) tyX8 dX11_init_31 (tm 81 (by decide +kernel) rfl) (tm 82 (by decide +kernel) rfl) (tm 5 (by decide +kernel) rfl) rfl hin_X8 tyX8_ok (by decide +kernel) rfl rfl (by decide) (by decide +kernel) (by decide +kernel) (by decide +kernel) (by decide +kernel) (by decide +kernel) ?_
  refine PB.top (h2 := 8) (by decide +kernel) ?_
  refine PB.dup (pc := 34) dX11_init_34 ?_
  refine PB.aload_n (pc := 35) (x := 0) dX11_init_35 rfl ?_
  refine PB.getR (pc := 36) (h2 := 1) dX11_init_36 fgi_X11_12 (fs := [some (some 1), some (some 5), some none, some none, some none, some none, some none, some none, some none]) (by decide +kernel) rfl ?_
  refine PB.rows (ks2 := bk_5) (by decide +kernel) ?_
  refine PB.callI (pc := 39) (As := [vR 1]) (st := [vR 8, vR 0]) (h := 8) (ks2 := bk_6) dX11_init_39 ob_X8_init (tm 83 (by decide +kernel) rfl) ⟨(Nat.le_of_ble_eq_true rfl), (Nat.le_of_ble_eq_true rfl)⟩ (Nat.le_of_ble_eq_true rfl) (Nat.le_of_ble_eq_true rfl) (by decide +kernel) (by decide +kernel) (by decide +kernel) (by decide +kernel) (by decide +kernel) (by decide +kernel) (b_X8_init_8 l Dd cs) ?_
  refine PB.put (pc := 42) dX11_init_42 ff_X11_28 rfl (fs := [some (some 1), some (some 5), some none, some none, some none, some none, some none, some none, some none]) (by decide +kernel) (by decide) ?_
  refine PB.aload_n (pc := 45) (x := 0) dX11_init_45 rfl ?_
  refine PB.new (pc := 46) (ci := 0) (N := 6) (fs := [some none, none, some none, some none, some none, some none]) tyX0 dX11_init_46 (tm 100 (by decide +kernel) rfl) (tm 101 (by decide +kernel) rfl) (tm 6 (by decide +kernel) rfl) rfl hin_X0 tyX0_ok (by decide +kernel) rfl rfl (by decide) (by decide +kernel) (by decide +kernel) (by decide +kernel) (by decide +kernel) (by decide +kernel) ?_
  refine PB.top (h2 := 12) (by decide +kernel) ?_
  refine PB.dup (pc := 49) dX11_init_49 ?_
  refine PB.aload_n (pc := 50) (x := 0) dX11_init_50 rfl ?_
  refine PB.getR (pc := 51) (h2 := 1) dX11_init_51 fgi_X11_12 (fs := [some (some 1), some (some 5), some (some 8), some none, some none, some none, some none, some none, some none]) (by decide +kernel) rfl ?_
  refine PB.rows (ks2 := bk_7) (by decide +kernel) ?_
  refine PB.callI (pc := 54) (As := [vR 1]) (st := [vR 12, vR 0]) (h := 12) (ks2 := bk_8) dX11_init_54 ob_X0_init (tm 102 (by decide +kernel) rfl) ⟨(Nat.le_of_ble_eq_true rfl), (Nat.le_of_ble_eq_true rfl)⟩ (Nat.le_of_ble_eq_true rfl) (Nat.le_of_ble_eq_true rfl) (by decide +kernel) (by decide +kernel) (by decide +kernel) (by decide +kernel) (by decide +kernel) (by decide +kernel) (b_X0_init_12 l Dd cs) ?_
  refine PB.put (pc := 57) dX11_init_57 ff_X11_35 rfl (fs := [some (some 1), some (some 5), some (some 8), some none, some none, some none, some none, some none, some none]) (by decide +kernel) (by decide) ?_
  refine PB.aload_n (pc := 60) (x := 0) dX11_init_60 rfl ?_
  refine PB.new (pc := 61) (ci := 7) (N := 8) (fs := [some none, some none, some none, some none, some none, some none, none, some none]) tyX7 dX11_init_61 (tm 140 (by decide +kernel) rfl) (tm 141 (by decide +kernel) rfl) (tm 7 (by decide +kernel) rfl) rfl hin_X7 tyX7_ok (by decide +kernel) rfl rfl (by decide) (by decide +kernel) (by decide +kernel) (by decide +kernel) (by decide +kernel) (by decide +kernel) ?_
  refine PB.top (h2 := 17) (by decide +kernel) ?_
  refine PB.dup (pc := 64) dX11_init_64 ?_
  refine PB.aload_n (pc := 65) (x := 0) dX11_init_65 rfl ?_
  refine PB.getR (pc := 66) (h2 := 1) dX11_init_66 fgi_X11_12 (fs := [some (some 1), some (some 5), some (some 8), some (some 12), some none, some none, some none, some none, some none]) (by decide +kernel) rfl ?_
  refine PB.aload_n (pc := 69) (x := 0) dX11_init_69 rfl ?_
  refine PB.getR (pc := 70) (h2 := 8) dX11_init_70 fgi_X11_28 (fs := [some (some 1), some (some 5), some (some 8), some (some 12), some none, some none, some none, some none, some none]) (by decide +kernel) rfl ?_
  refine PB.aload_n (pc := 73) (x := 0) dX11_init_73 rfl ?_
  refine PB.getR (pc := 74) (h2 := 12) dX11_init_74 fgi_X11_35 (fs := [some (some 1), some (some 5), some (some 8), some (some 12), some none, some none, some none, some none, some none]) (by decide +kernel) rfl ?_
  refine PB.rows (ks2 := bk_9) (by decide +kernel) ?_
  refine PB.callI (pc := 77) (As := [vR 1, vR 8, vR 12]) (st := [vR 17, vR 0]) (h := 17) (ks2 := bk_10) dX11_init_77 ob_X7_init (tm 142 (by decide +kernel) rfl) ⟨(Nat.le_of_ble_eq_true rfl), (Nat.le_of_ble_eq_true rfl)⟩ (Nat.le_of_ble_eq_true rfl) (Nat.le_of_ble_eq_true rfl) (by decide +kernel) (by decide +kernel) (by decide +kernel) (by decide +kernel) (by decide +kernel) (by decide +kernel) (b_X7_init_17 l Dd cs) ?_
  refine PB.put (pc := 80) dX11_init_80 ff_X11_44 rfl (fs := [some (some 1), some (some 5), some (some 8), some (some 12), some none, some none, some none, some none, some none]) (by decide +kernel) (by decide) ?_
  refine PB.aload_n (pc := 83) (x := 0) dX11_init_83 rfl ?_
  refine PB.new (pc := 84) (ci := 5) (N := 8) (fs := [some none, some none, some none, some none, some none, some none, some none, some none]) tyX5 dX11_init_84 (tm 171 (by decide +kernel) rfl) (tm 172 (by decide +kernel) rfl) (tm 8 (by decide +kernel) rfl) rfl hin_X5 tyX5_ok (by decide +kernel) rfl rfl (by decide) (by decide +kernel) (by decide +kernel) (by decide +kernel) (by decide +kernel) (by decide +kernel) ?_
  refine PB.top (h2 := 22) (by decide +kernel) ?_
  refine PB.dup (pc := 87) dX11_init_87 ?_
  refine PB.aload_n (pc := 88) (x := 0) dX11_init_88 rfl ?_
  refine PB.getR (pc := 89) (h2 := 12) dX11_init_89 fgi_X11_35 (fs := [some (some 1), some (some 5), some (some 8), some (some 12), some (some 17), some none, some none, some none, some none]) (by decide +kernel) rfl ?_
  refine PB.aload_n (pc := 92) (x := 0) dX11_init_92 rfl ?_
  refine PB.getR (pc := 93) (h2 := 8) dX11_init_93 fgi_X11_28 (fs := [some (some 1), some (some 5), some (some 8), some (some 12), some (some 17), some none, some none, some none, some none]) (by decide +kernel) rfl ?_
  refine PB.rows (ks2 := bk_11) (by decide +kernel) ?_
  refine PB.callI (pc := 96) (As := [vR 12, vR 8]) (st := [vR 22, vR 0]) (h := 22) (ks2 := bk_14) dX11_init_96 ob_X5_init (tm 173 (by decide +kernel) rfl) ⟨(Nat.le_of_ble_eq_true rfl), (Nat.le_of_ble_eq_true rfl)⟩ (Nat.le_of_ble_eq_true rfl) (Nat.le_of_ble_eq_true rfl) (by decide +kernel) (by decide +kernel) (by decide +kernel) (by decide +kernel) (by decide +kernel) (by decide +kernel) (b_X5_init_22 l Dd cs) ?_
  refine PB.put (pc := 99) dX11_init_99 ff_X11_53 rfl (fs := [some (some 1), some (some 5), some (some 8), some (some 12), some (some 17), some none, some none, some none, some none]) (by decide +kernel) (by decide) ?_
  refine PB.aload_n (pc := 102) (x := 0) dX11_init_102 rfl ?_
  refine PB.new (pc := 103) (ci := 6) (N := 7) (fs := [some none, some none, some none, some none, some none, none, some none]) tyX6 dX11_init_103 (tm 229 (by decide +kernel) rfl) (tm 230 (by decide +kernel) rfl) (tm 10 (by decide +kernel) rfl) rfl hin_X6 tyX6_ok (by decide +kernel) rfl rfl (by decide) (by decide +kernel) (by decide +kernel) (by decide +kernel) (by decide +kernel) (by decide +kernel) ?_
  refine PB.top (h2 := 32) (by decide +kernel) ?_
  refine PB.dup (pc := 106) dX11_init_106 ?_
  refine PB.aload_n (pc := 107) (x := 0) dX11_init_107 rfl ?_
  refine PB.getR (pc := 108) (h2 := 12) dX11_init_108 fgi_X11_35 (fs := [some (some 1), some (some 5), some (some 8), some (some 12), some (some 17), some (some 22), some none, some none, some none]) (by decide +kernel) rfl ?_
  refine PB.rows (ks2 := bk_15) (by decide +kernel) ?_
  refine PB.callI (pc := 111) (As := [vR 12]) (st := [vR 32, vR 0]) (h := 32) (ks2 := bk_18) dX11_init_111 ob_X6_init (tm 231 (by decide +kernel) rfl) ⟨(Nat.le_of_ble_eq_true rfl), (Nat.le_of_ble_eq_true rfl)⟩ (Nat.le_of_ble_eq_true rfl) (Nat.le_of_ble_eq_true rfl) (by decide +kernel) (by decide +kernel) (by decide +kernel) (by decide +kernel) (by decide +kernel) (by decide +kernel) (b_X6_init_32 l Dd cs) ?_
  refine PB.put (pc := 114) dX11_init_114 ff_X11_62 rfl (fs := [some (some 1), some (some 5), some (some 8), some (some 12), some (some 17), some (some 22), some none, some none, some none]) (by decide +kernel) (by decide) ?_
  refine PB.aload_n (pc := 117) (x := 0) dX11_init_117 rfl ?_
  refine PB.new (pc := 118) (ci := 3) (N := 2) (fs := [none, some none]) tyX3 dX11_init_118 (tm 260 (by decide +kernel) rfl) (tm 261 (by decide +kernel) rfl) (tm 11 (by decide +kernel) rfl) rfl hin_X3 tyX3_ok (by decide +kernel) rfl rfl (by decide) (by decide +kernel) (by decide +kernel) (by decide +kernel) (by decide +kernel) (by decide +kernel) ?_
  refine PB.top (h2 := 41) (by decide +kernel) ?_
  refine PB.dup (pc := 121) dX11_init_121 ?_
  refine PB.rows (ks2 := bk_19) (by decide +kernel) ?_
  refine PB.callIN (pc := 122) (As := []) (st := [vR 41, vR 0]) (h := 41) (ks2 := bk_20) dX11_init_122 ob_X3_init (by decide +kernel) ⟨(Nat.le_of_ble_eq_true rfl), (Nat.le_of_ble_eq_true rfl)⟩ (Nat.le_of_ble_eq_true rfl) (Nat.le_of_ble_eq_true rfl) (by decide +kernel) (by decide +kernel) (by decide +kernel) (by decide +kernel) (by decide +kernel) (by decide +kernel) (b_X3_init_41 l Dd cs) ?_
  refine PB.put (pc := 125) dX11_init_125 ff_X11_69 rfl (fs := [some (some 1), some (some 5), some (some 8), some (some 12), some (some 17), some (some 22), some (some 32), some none, some none]) (by decide +kernel) (by decide) ?_
  refine PB.aload_n (pc := 128) (x := 0) dX11_init_128 rfl ?_
  refine PB.new (pc := 129) (ci := 2) (N := 10) (fs := [some none, none, some none, none, some none, some none, some none, some none, none, some none]) tyX2 dX11_init_129 (tm 274 (by decide +kernel) rfl) (tm 275 (by decide +kernel) rfl) (tm 12 (by decide +kernel) rfl) rfl hin_X2 tyX2_ok (by decide +kernel) rfl rfl (by decide) (by decide +kernel) (by decide +kernel) (by decide +kernel) (by decide +kernel) (by decide +kernel) ?_
  refine PB.top (h2 := 43) (by decide +kernel) ?_
  refine PB.dup (pc := 132) dX11_init_132 ?_
  refine PB.aload_n (pc := 133) (x := 0) dX11_init_133 rfl ?_
  refine PB.getR (pc := 134) (h2 := 12) dX11_init_134 fgi_X11_35 (fs := [some (some 1), some (some 5), some (some 8), some (some 12), some (some 17), some (some 22), some (some 32), some (some 41), some none]) (by decide +kernel) rfl ?_
  refine PB.rows (ks2 := bk_21) (by decide +kernel) ?_
  refine PB.callI (pc := 137) (As := [vR 12]) (st := [vR 43, vR 0]) (h := 43) (ks2 := bk_22) dX11_init_137 ob_X2_init (tm 276 (by decide +kernel) rfl) ⟨(Nat.le_of_ble_eq_true rfl), (Nat.le_of_ble_eq_true rfl)⟩ (Nat.le_of_ble_eq_true rfl) (Nat.le_of_ble_eq_true rfl) (by decide +kernel) (by decide +kernel) (by decide +kernel) (by decide +kernel) (by decide +kernel) (by decide +kernel) (b_X2_init_43 l Dd cs) ?_
  refine PB.put (pc := 140) dX11_init_140 ff_X11_76 rfl (fs := [some (some 1), some (some 5), some (some 8), some (some 12), some (some 17), some (some 22), some (some 32), some (some 41), some none]) (by decide +kernel) (by decide) ?_
  exact PB.stop ⟨dX11_init_143, rfl, by decide +kernel⟩

set_option maxRecDepth 20000 in
theorem b_X12_init_50 (l : Launch) (Dd : va_G) (cs : ClassId × ClassId × ClassId) : PB l Dd cs (bk_25.length) (bsz bk_25) mX12_init 0 (entL [vR 50] (mrN mX12_init)) [] bk_24 (RQ mX12_init bk_25) := by
  refine PB.aload_n (pc := 0) (x := 50) dX12_init_0 rfl ?_
  refine PB.objInit (pc := 1) dX12_init_1 (tm 797 (by decide +kernel) rfl) oi_inst oi_code (by decide) (by decide) ?_
  refine PB.aload_n (pc := 4) (x := 50) dX12_init_4 rfl ?_
  refine PB.bipush (pc := 5) dX12_init_5 (by decide) ?_
  refine PB.newaI (pc := 7) (n := 12) dX12_init_7 ac_int (by decide) (by decide) (by decide +kernel) (by decide +kernel) (by decide +kernel) (by decide +kernel) (by decide +kernel) ?_
  refine PB.top (h2 := 51) (by decide +kernel) ?_
  refine PB.put (pc := 9) dX12_init_9 ff_X12_7 rfl (fs := [none, none, some none, some none, some none, none, some none, some none, some none, some none, some none, none, some none, none, some none, some none, some none, some none, some none, some none, some none, none, some none, some none, some none, some none, some none, some none, some none, some none, some none, some none, some none, some none, none, some none, some none, none, some none, some none, some none, some none]) (by decide +kernel) (by decide) ?_
  refine PB.aload_n (pc := 12) (x := 50) dX12_init_12 rfl ?_
  refine PB.bipush (pc := 13) dX12_init_13 (by decide) ?_
  refine PB.newaI (pc := 15) (n := 12) dX12_init_15 ac_int (by decide) (by decide) (by decide +kernel) (by decide +kernel) (by decide +kernel) (by decide +kernel) (by decide +kernel) ?_
  refine PB.top (h2 := 52) (by decide +kernel) ?_
  refine PB.put (pc := 17) dX12_init_17 ff_X12_13 rfl (fs := [none, none, some (some 51), some none, some none, none, some none, some none, some none, some none, some none, none, some none, none, some none, some none, some none, some none, some none, some none, some none, none, some none, some none, some none, some none, some none, some none, some none, some none, some none, some none, some none, some none, none, some none, some none, none, some none, some none, some none, some none]) (by decide +kernel) (by decide) ?_
  refine PB.aload_n (pc := 20) (x := 50) dX12_init_20 rfl ?_
  refine PB.bipush (pc := 21) dX12_init_21 (by decide) ?_
  refine PB.newaI (pc := 23) (n := 36) dX12_init_23 ac_int (by decide) (by decide) (by decide +kernel) (by decide +kernel) (by decide +kernel) (by decide +kernel) (by decide +kernel) ?_
  refine PB.top (h2 := 53) (by decide +kernel) ?_
  refine PB.put (pc := 25) dX12_init_25 ff_X12_16 rfl (fs := [none, none, some (some 51), some (some 52), some none, none, some none, some none, some none, some none, some none, none, some none, none, some none, some none, some none, some none, some none, some none, some none, none, some none, some none, some none, some none, some none, some none, some none, some none, some none, some none, some none, some none, none, some none, some none, none, some none, some none, some none, some none]) (by decide +kernel) (by decide) ?_
  refine PB.aload_n (pc := 28) (x := 50) dX12_init_28 rfl ?_
  refine PB.bipush (pc := 29) dX12_init_29 (by decide) ?_
  refine PB.newaI (pc := 31) (n := 100) dX12_init_31 ac_int (by decide) (by decide) (by decide +kernel) (by decide +kernel) (by decide +kernel) (by decide +kernel) (by decide +kernel) ?_
  refine PB.top (h2 := 54) (by decide +kernel) ?_
  refine PB.put (pc := 33) dX12_init_33 ff_X12_19 rfl (fs := [none, none, some (some 51), some (some 52), some (some 53), none, some none, some none, some none, some none, some none, none, some none, none, some none, some none, some none, some none, some none, some none, some none, none, some none, some none, some none, some none, some none, some none, some none, some none, some none, some none, some none, some none, none, some none, some none, none, some none, some none, some none, some none]) (by decide +kernel) (by decide) ?_
  refine PB.aload_n (pc := 36) (x := 50) dX12_init_36 rfl ?_
  refine PB.bipush (pc := 37) dX12_init_37 (by decide) ?_
  refine PB.newaI (pc := 39) (n := 100) dX12_init_39 ac_int (by decide) (by decide) (by decide +kernel) (by decide +kernel) (by decide +kernel) (by decide +kernel) (by decide +kernel) ?_
  refine PB.top (h2 := 55) (by decide +kernel) ?_
  refine PB.put (pc := 41) dX12_init_41 ff_X12_22 rfl (fs := [none, none, some (some 51), some (some 52), some (some 53), none, some (some 54), some none, some none, some none, some none, none, some none, none, some none, some none, some none, some none, some none, some none, some none, none, some none, some none, some none, some none, some none, some none, some none, some none, some none, some none, some none, some none, none, some none, some none, none, some none, some none, some none, some none]) (by decide +kernel) (by decide) ?_
  refine PB.aload_n (pc := 44) (x := 50) dX12_init_44 rfl ?_
  refine PB.sipush (pc := 45) dX12_init_45 (by decide) ?_
  refine PB.newaI (pc := 48) (n := 300) dX12_init_48 ac_int (by decide) (by decide) (by decide +kernel) (by decide +kernel) (by decide +kernel) (by decide +kernel) (by decide +kernel) ?_
  refine PB.top (h2 := 56) (by decide +kernel) ?_
  refine PB.put (pc := 50) dX12_init_50 ff_X12_25 rfl (fs := [none, none, some (some 51), some (some 52), some (some 53), none, some (some 54), some (some 55), some none, some none, some none, none, some none, none, some none, some none, some none, some none, some none, some none, some none, none, some none, some none, some none, some none, some none, some none, some none, some none, some none, some none, some none, some none, none, some none, some none, none, some none, some none, some none, some none]) (by decide +kernel) (by decide) ?_
  refine PB.aload_n (pc := 53) (x := 50) dX12_init_53 rfl ?_
  refine PB.bipush (pc := 54) dX12_init_54 (by decide) ?_
  refine PB.newaI (pc := 56) (n := 100) dX12_init_56 ac_int (by decide) (by decide) (by decide +kernel) (by decide +kernel) (by decide +kernel) (by decide +kernel) (by decide +kernel) ?_
  refine PB.top (h2 := 57) (by decide +kernel) ?_
  refine PB.put (pc := 58) dX12_init_58 ff_X12_28 rfl (fs := [none, none, some (some 51), some (some 52), some (some 53), none, some (some 54), some (some 55), some (some 56), some none, some none, none, some none, none, some none, some none, some none, some none, some none, some none, some none, none, some none, some none, some none, some none, some none, some none, some none, some none, some none, some none, some none, some none, none, some none, some none, none, some none, some none, some none, some none]) (by decide +kernel) (by decide) ?_
  refine PB.aload_n (pc := 61) (x := 50) dX12_init_61 rfl ?_
  refine PB.sipush (pc := 62) dX12_init_62 (by decide) ?_
  refine PB.newaI (pc := 65) (n := 800) dX12_init_65 ac_int (by decide) (by decide) (by decide +kernel) (by decide +kernel) (by decide +kernel) (by decide +kernel) (by decide +kernel) ?_
  refine PB.top (h2 := 58) (by decide +kernel) ?_
  refine PB.put (pc := 67) dX12_init_67 ff_X12_31 rfl (fs := [none, none, some (some 51), some (some 52), some (some 53), none, some (some 54), some (some 55), some (some 56), some (some 57), some none, none, some none, none, some none, some none, some none, some none, some none, some none, some none, none, some none, some none, some none, some none, some none, some none, some none, some none, some none, some none, some none, some none, none, some none, some none, none, some none, some none, some none, some none]) (by decide +kernel) (by decide) ?_
  refine PB.aload_n (pc := 70) (x := 50) dX12_init_70 rfl ?_
  refine PB.bipush (pc := 71) dX12_init_71 (by decide) ?_
  refine PB.newaI (pc := 73) (n := 8) dX12_init_73 ac_int (by decide) (by decide) (by decide +kernel) (by decide +kernel) (by decide +kernel) (by decide +kernel) (by decide +kernel) ?_
  refine PB.top (h2 := 59) (by decide +kernel) ?_
  refine PB.put (pc := 75) dX12_init_75 ff_X12_34 rfl (fs := [none, none, some (some 51), some (some 52), some (some 53), none, some (some 54), some (some 55), some (some 56), some (some 57), some (some 58), none, some none, none, some none, some none, some none, some none, some none, some none, some none, none, some none, some none, some none, some none, some none, some none, some none, some none, some none, some none, some none, some none, none, some none, some none, none, some none, some none, some none, some none]) (by decide +kernel) (by decide) ?_
  refine PB.aload_n (pc := 78) (x := 50) dX12_init_78 rfl ?_
  refine PB.iconst (pc := 79) dX12_init_79 ?_
  refine PB.newaI (pc := 80) (n := 4) dX12_init_80 ac_int (by decide) (by decide) (by decide +kernel) (by decide +kernel) (by decide +kernel) (by decide +kernel) (by decide +kernel) ?_
  refine PB.top (h2 := 60) (by decide +kernel) ?_
  refine PB.put (pc := 82) dX12_init_82 ff_X12_37 rfl (fs := [none, none, some (some 51), some (some 52), some (some 53), none, some (some 54), some (some 55), some (some 56), some (some 57), some (some 58), none, some (some 59), none, some none, some none, some none, some none, some none, some none, some none, none, some none, some none, some none, some none, some none, some none, some none, some none, some none, some none, some none, some none, none, some none, some none, none, some none, some none, some none, some none]) (by decide +kernel) (by decide) ?_
  refine PB.aload_n (pc := 85) (x := 50) dX12_init_85 rfl ?_
  refine PB.iconst (pc := 86) dX12_init_86 ?_
  refine PB.newaI (pc := 87) (n := 4) dX12_init_87 ac_int (by decide) (by decide) (by decide +kernel) (by decide +kernel) (by decide +kernel) (by decide +kernel) (by decide +kernel) ?_
  refine PB.top (h2 := 61) (by decide +kernel) ?_
  refine PB.put (pc := 89) dX12_init_89 ff_X12_40 rfl (fs := [none, none, some (some 51), some (some 52), some (some 53), none, some (some 54), some (some 55), some (some 56), some (some 57), some (some 58), none, some (some 59), none, some (some 60), some none, some none, some none, some none, some none, some none, none, some none, some none, some none, some none, some none, some none, some none, some none, some none, some none, some none, some none, none, some none, some none, none, some none, some none, some none, some none]) (by decide +kernel) (by decide) ?_
  refine PB.aload_n (pc := 92) (x := 50) dX12_init_92 rfl ?_
  refine PB.bipush (pc := 93) dX12_init_93 (by decide) ?_
  refine PB.newaZ (pc := 95) (n := 16) dX12_init_95 ac_boolean (by decide) (by decide) (by decide +kernel) (by decide +kernel) (by decide +kernel) (by decide +kernel) (by decide +kernel) ?_
  refine PB.top (h2 := 62) (by decide +kernel) ?_
  refine PB.put (pc := 97) dX12_init_97 ff_X12_43 rfl (fs := [none, none, some (some 51), some (some 52), some (some 53), none, some (some 54), some (some 55), some (some 56), some (some 57), some (some 58), none, some (some 59), none, some (some 60), some (some 61), some none, some none, some none, some none, some none, none, some none, some none, some none, some none, some none, some none, some none, some none, some none, some none, some none, some none, none, some none, some none, none, some none, some none, some none, some none]) (by decide +kernel) (by decide) ?_
  refine PB.aload_n (pc := 100) (x := 50) dX12_init_100 rfl ?_
  refine PB.bipush (pc := 101) dX12_init_101 (by decide) ?_
  refine PB.newaI (pc := 103) (n := 52) dX12_init_103 ac_int (by decide) (by decide) (by decide +kernel) (by decide +kernel) (by decide +kernel) (by decide +kernel) (by decide +kernel) ?_
  refine PB.top (h2 := 63) (by decide +kernel) ?_
  refine PB.put (pc := 105) dX12_init_105 ff_X12_47 rfl (fs := [none, none, some (some 51), some (some 52), some (some 53), none, some (some 54), some (some 55), some (some 56), some (some 57), some (some 58), none, some (some 59), none, some (some 60), some (some 61), some (some 62), some none, some none, some none, some none, none, some none, some none, some none, some none, some none, some none, some none, some none, some none, some none, some none, some none, none, some none, some none, none, some none, some none, some none, some none]) (by decide +kernel) (by decide) ?_
  refine PB.aload_n (pc := 108) (x := 50) dX12_init_108 rfl ?_
  refine PB.sipush (pc := 109) dX12_init_109 (by decide) ?_
  refine PB.newaI (pc := 112) (n := 624) dX12_init_112 ac_int (by decide) (by decide) (by decide +kernel) (by decide +kernel) (by decide +kernel) (by decide +kernel) (by decide +kernel) ?_
  refine PB.top (h2 := 64) (by decide +kernel) ?_
  refine PB.put (pc := 114) dX12_init_114 ff_X12_50 rfl (fs := [none, none, some (some 51), some (some 52), some (some 53), none, some (some 54), some (some 55), some (some 56), some (some 57), some (some 58), none, some (some 59), none, some (some 60), some (some 61), some (some 62), some (some 63), some none, some none, some none, none, some none, some none, some none, some none, some none, some none, some none, some none, some none, some none, some none, some none, none, some none, some none, none, some none, some none, some none, some none]) (by decide +kernel) (by decide) ?_
  refine PB.aload_n (pc := 117) (x := 50) dX12_init_117 rfl ?_
  refine PB.bipush (pc := 118) dX12_init_118 (by decide) ?_
  refine PB.newaI (pc := 120) (n := 64) dX12_init_120 ac_int (by decide) (by decide) (by decide +kernel) (by decide +kernel) (by decide +kernel) (by decide +kernel) (by decide +kernel) ?_
  refine PB.top (h2 := 65) (by decide +kernel) ?_
  refine PB.put (pc := 122) dX12_init_122 ff_X12_53 rfl (fs := [none, none, some (some 51), some (some 52), some (some 53), none, some (some 54), some (some 55), some (some 56), some (some 57), some (some 58), none, some (some 59), none, some (some 60), some (some 61), some (some 62), some (some 63), some (some 64), some none, some none, none, some none, some none, some none, some none, some none, some none, some none, some none, some none, some none, some none, some none, none, some none, some none, none, some none, some none, some none, some none]) (by decide +kernel) (by decide) ?_
  refine PB.aload_n (pc := 125) (x := 50) dX12_init_125 rfl ?_
  refine PB.bipush (pc := 126) dX12_init_126 (by decide) ?_
  refine PB.newaI (pc := 128) (n := 64) dX12_init_128 ac_int (by decide) (by decide) (by decide +kernel) (by decide +kernel) (by decide +kernel) (by decide +kernel) (by decide +kernel) ?_
  refine PB.top (h2 := 66) (by decide +kernel) ?_
  refine PB.put (pc := 130) dX12_init_130 ff_X12_56 rfl (fs := [none, none, some (some 51), some (some 52), some (some 53), none, some (some 54), some (some 55), some (some 56), some (some 57), some (some 58), none, some (some 59), none, some (some 60), some (some 61), some (some 62), some (some 63), some (some 64), some (some 65), some none, none, some none, some none, some none, some none, some none, some none, some none, some none, some none, some none, some none, some none, none, some none, some none, none, some none, some none, some none, some none]) (by decide +kernel) (by decide) ?_
  refine PB.aload_n (pc := 133) (x := 50) dX12_init_133 rfl ?_
  refine PB.bipush (pc := 134) dX12_init_134 (by decide) ?_
  refine PB.newaI (pc := 136) (n := 64) dX12_init_136 ac_int (by decide) (by decide) (by decide +kernel) (by decide +kernel) (by decide +kernel) (by decide +kernel) (by decide +kernel) ?_
  refine PB.top (h2 := 67) (by decide +kernel) ?_
  refine PB.put (pc := 138) dX12_init_138 ff_X12_59 rfl (fs := [none, none, some (some 51), some (some 52), some (some 53), none, some (some 54), some (some 55), some (some 56), some (some 57), some (some 58), none, some (some 59), none, some (some 60), some (some 61), some (some 62), some (some 63), some (some 64), some (some 65), some (some 66), none, some none, some none, some none, some none, some none, some none, some none, some none, some none, some none, some none, some none, none, some none, some none, none, some none, some none, some none, some none]) (by decide +kernel) (by decide) ?_
  refine PB.aload_n (pc := 141) (x := 50) dX12_init_141 rfl ?_
  refine PB.bipush (pc := 142) dX12_init_142 (by decide) ?_
  refine PB.newaI (pc := 144) (n := 64) dX12_init_144 ac_int (by decide) (by decide) (by decide +kernel) (by decide +kernel) (by decide +kernel) (by decide +kernel) (by decide +kernel) ?_
  refine PB.top (h2 := 68) (by decide +kernel) ?_
  refine PB.put (pc := 146) dX12_init_146 ff_X12_62 rfl (fs := [none, none, some (some 51), some (some 52), some (some 53), none, some (some 54), some (some 55), some (some 56), some (some 57), some (some 58), none, some (some 59), none, some (some 60), some (some 61), some (some 62), some (some 63), some (some 64), some (some 65), some (some 66), none, some (some 67), some none, some none, some none, some none, some none, some none, some none, some none, some none, some none, some none, none, some none, some none, none, some none, some none, some none, some none]) (by decide +kernel) (by decide) ?_
  refine PB.aload_n (pc := 149) (x := 50) dX12_init_149 rfl ?_
  refine PB.bipush (pc := 150) dX12_init_150 (by decide) ?_
  refine PB.newaI (pc := 152) (n := 64) dX12_init_152 ac_int (by decide) (by decide) (by decide +kernel) (by decide +kernel) (by decide +kernel) (by decide +kernel) (by decide +kernel) ?_
  refine PB.top (h2 := 69) (by decide +kernel) ?_
  refine PB.put (pc := 154) dX12_init_154 ff_X12_65 rfl (fs := [none, none, some (some 51), some (some 52), some (some 53), none, some (some 54), some (some 55), some (some 56), some (some 57), some (some 58), none, some (some 59), none, some (some 60), some (some 61), some (some 62), some (some 63), some (some 64), some (some 65), some (some 66), none, some (some 67), some (some 68), some none, some none, some none, some none, some none, some none, some none, some none, some none, some none, none, some none, some none, none, some none, some none, some none, some none]) (by decide +kernel) (by decide) ?_
  refine PB.aload_n (pc := 157) (x := 50) dX12_init_157 rfl ?_
  refine PB.iconst (pc := 158) dX12_init_158 ?_
  refine PB.newaI (pc := 159) (n := 3) dX12_init_159 ac_int (by decide) (by decide) (by decide +kernel) (by decide +kernel) (by decide +kernel) (by decide +kernel) (by decide +kernel) ?_
  refine PB.top (h2 := 70) (by decide +kernel) ?_
  refine PB.put (pc := 161) dX12_init_161 ff_X12_68 rfl (fs := [none, none, some (some 51), some (some 52), some (some 53), none, some (some 54), some (some 55), some (some 56), some (some 57), some (some 58), none, some (some 59), none, some (some 60), some (some 61), some (some 62), some (some 63), some (some 64), some (some 65), some (some 66), none, some (some 67), some (some 68), some (some 69), some none, some none, some none, some none, some none, some none, some none, some none, some none, none, some none, some none, none, some none, some none, some none, some none]) (by decide +kernel) (by decide) ?_
  refine PB.aload_n (pc := 164) (x := 50) dX12_init_164 rfl ?_
  refine PB.iconst (pc := 165) dX12_init_165 ?_
  refine PB.newaI (pc := 166) (n := 3) dX12_init_166 ac_int (by decide) (by decide) (by decide +kernel) (by decide +kernel) (by decide +kernel) (by decide +kernel) (by decide +kernel) ?_
  refine PB.top (h2 := 71) (by decide +kernel) ?_
  refine PB.put (pc := 168) dX12_init_168 ff_X12_71 rfl (fs := [none, none, some (some 51), some (some 52), some (some 53), none, some (some 54), some (some 55), some (some 56), some (some 57), some (some 58), none, some (some 59), none, some (some 60), some (some 61), some (some 62), some (some 63), some (some 64), some (some 65), some (some 66), none, some (some 67), some (some 68), some (some 69), some (some 70), some none, some none, some none, some none, some none, some none, some none, some none, none, some none, some none, none, some none, some none, some none, some none]) (by decide +kernel) (by decide) ?_
  refine PB.aload_n (pc := 171) (x := 50) dX12_init_171 rfl ?_
  refine PB.bipush (pc := 172) dX12_init_172 (by decide) ?_
  refine PB.newaI (pc := 174) (n := 64) dX12_init_174 ac_int (by decide) (by decide) (by decide +kernel) (by decide +kernel) (by decide +kernel) (by decide +kernel) (by decide +kernel) ?_
  refine PB.top (h2 := 72) (by decide +kernel) ?_
  refine PB.put (pc := 176) dX12_init_176 ff_X12_74 rfl (fs := [none, none, some (some 51), some (some 52), some (some 53), none, some (some 54), some (some 55), some (some 56), some (some 57), some (some 58), none, some (some 59), none, some (some 60), some (some 61), some (some 62), some (some 63), some (some 64), some (some 65), some (some 66), none, some (some 67), some (some 68), some (some 69), some (some 70), some (some 71), some none, some none, some none, some none, some none, some none, some none, none, some none, some none, none, some none, some none, some none, some none]) (by decide +kernel) (by decide) ?_
  refine PB.aload_n (pc := 179) (x := 50) dX12_init_179 rfl ?_
  refine PB.bipush (pc := 180) dX12_init_180 (by decide) ?_
  refine PB.newaI (pc := 182) (n := 64) dX12_init_182 ac_int (by decide) (by decide) (by decide +kernel) (by decide +kernel) (by decide +kernel) (by decide +kernel) (by decide +kernel) ?_
  refine PB.top (h2 := 73) (by decide +kernel) ?_
  refine PB.put (pc := 184) dX12_init_184 ff_X12_77 rfl (fs := [none, none, some (some 51), some (some 52), some (some 53), none, some (some 54), some (some 55), some (some 56), some (some 57), some (some 58), none, some (some 59), none, some (some 60), some (some 61), some (some 62), some (some 63), some (some 64), some (some 65), some (some 66), none, some (some 67), some (some 68), some (some 69), some (some 70), some (some 71), some (some 72), some none, some none, some none, some none, some none, some none, none, some none, some none, none, some none, some none, some none, some none]) (by decide +kernel) (by decide) ?_
  refine PB.aload_n (pc := 187) (x := 50) dX12_init_187 rfl ?_
  refine PB.sipush (pc := 188) dX12_init_188 (by decide) ?_
  refine PB.newaI (pc := 191) (n := 192) dX12_init_191 ac_int (by decide) (by decide) (by decide +kernel) (by decide +kernel) (by decide +kernel) (by decide +kernel) (by decide +kernel) ?_
  refine PB.top (h2 := 74) (by decide +kernel) ?_
  refine PB.put (pc := 193) dX12_init_193 ff_X12_80 rfl (fs := [none, none, some (some 51), some (some 52), some (some 53), none, some (some 54), some (some 55), some (some 56), some (some 57), some (some 58), none, some (some 59), none, some (some 60), some (some 61), some (some 62), some (some 63), some (some 64), some (some 65), some (some 66), none, some (some 67), some (some 68), some (some 69), some (some 70), some (some 71), some (some 72), some (some 73), some none, some none, some none, some none, some none, none, some none, some none, none, some none, some none, some none, some none]) (by decide +kernel) (by decide) ?_
  refine PB.aload_n (pc := 196) (x := 50) dX12_init_196 rfl ?_
  refine PB.bipush (pc := 197) dX12_init_197 (by decide) ?_
  refine PB.newaI (pc := 199) (n := 100) dX12_init_199 ac_int (by decide) (by decide) (by decide +kernel) (by decide +kernel) (by decide +kernel) (by decide +kernel) (by decide +kernel) ?_
  refine PB.top (h2 := 75) (by decide +kernel) ?_
  refine PB.put (pc := 201) dX12_init_201 ff_X12_83 rfl (fs := [none, none, some (some 51), some (some 52), some (some 53), none, some (some 54), some (some 55), some (some 56), some (some 57), some (some 58), none, some (some 59), none, some (some 60), some (some 61), some (some 62), some (some 63), some (some 64), some (some 65), some (some 66), none, some (some 67), some (some 68), some (some 69), some (some 70), some (some 71), some (some 72), some (some 73), some (some 74), some none, some none, some none, some none, none, some none, some none, none, some none, some none, some none, some none]) (by decide +kernel) (by decide) ?_
  refine PB.aload_n (pc := 204) (x := 50) dX12_init_204 rfl ?_
  refine PB.bipush (pc := 205) dX12_init_205 (by decide) ?_
  refine PB.newaI (pc := 207) (n := 100) dX12_init_207 ac_int (by decide) (by decide) (by decide +kernel) (by decide +kernel) (by decide +kernel) (by decide +kernel) (by decide +kernel) ?_
  refine PB.top (h2 := 76) (by decide +kernel) ?_
  refine PB.put (pc := 209) dX12_init_209 ff_X12_86 rfl (fs := [none, none, some (some 51), some (some 52), some (some 53), none, some (some 54), some (some 55), some (some 56), some (some 57), some (some 58), none, some (some 59), none, some (some 60), some (some 61), some (some 62), some (some 63), some (some 64), some (some 65), some (some 66), none, some (some 67), some (some 68), some (some 69), some (some 70), some (some 71), some (some 72), some (some 73), some (some 74), some (some 75), some none, some none, some none, none, some none, some none, none, some none, some none, some none, some none]) (by decide +kernel) (by decide) ?_
  refine PB.aload_n (pc := 212) (x := 50) dX12_init_212 rfl ?_
  refine PB.sipush (pc := 213) dX12_init_213 (by decide) ?_
  refine PB.newaI (pc := 216) (n := 31000) dX12_init_216 ac_int (by decide) (by decide) (by decide +kernel) (by decide +kernel) (by decide +kernel) (by decide +kernel) (by decide +kernel) ?_
  refine PB.top (h2 := 77) (by decide +kernel) ?_
  refine PB.put (pc := 218) dX12_init_218 ff_X12_89 rfl (fs := [none, none, some (some 51), some (some 52), some (some 53), none, some (some 54), some (some 55), some (some 56), some (some 57), some (some 58), none, some (some 59), none, some (some 60), some (some 61), some (some 62), some (some 63), some (some 64), some (some 65), some (some 66), none, some (some 67), some (some 68), some (some 69), some (some 70), some (some 71), some (some 72), some (some 73), some (some 74), some (some 75), some (some 76), some none, some none, none, some none, some none, none, some none, some none, some none, some none]) (by decide +kernel) (by decide) ?_
  refine PB.aload_n (pc := 221) (x := 50) dX12_init_221 rfl ?_
  refine PB.sipush (pc := 222) dX12_init_222 (by decide) ?_
  refine PB.newaI (pc := 225) (n := 31000) dX12_init_225 ac_int (by decide) (by decide) (by decide +kernel) (by decide +kernel) (by decide +kernel) (by decide +kernel) (by decide +kernel) ?_
  refine PB.top (h2 := 78) (by decide +kernel) ?_
  refine PB.put (pc := 227) dX12_init_227 ff_X12_92 rfl (fs := [none, none, some (some 51), some (some 52), some (some 53), none, some (some 54), some (some 55), some (some 56), some (some 57), some (some 58), none, some (some 59), none, some (some 60), some (some 61), some (some 62), some (some 63), some (some 64), some (some 65), some (some 66), none, some (some 67), some (some 68), some (some 69), some (some 70), some (some 71), some (some 72), some (some 73), some (some 74), some (some 75), some (some 76), some (some 77), some none, none, some none, some none, none, some none, some none, some none, some none]) (by decide +kernel) (by decide) ?_
  refine PB.aload_n (pc := 230) (x := 50) dX12_init_230 rfl ?_
  refine PB.sipush (pc := 231) dX12_init_231 (by decide) ?_
  refine PB.newaZ (pc := 234) (n := 10000) dX12_init_234 ac_boolean (by decide) (by decide) (by decide +kernel) (by decide +kernel) (by decide +kernel) (by decide +kernel) (by decide +kernel) ?_
  refine PB.top (h2 := 79) (by decide +kernel) ?_
  refine PB.put (pc := 236) dX12_init_236 ff_X12_95 rfl (fs := [none, none, some (some 51), some (some 52), some (some 53), none, some (some 54), some (some 55), some (some 56), some (some 57), some (some 58), none, some (some 59), none, some (some 60), some (some 61), some (some 62), some (some 63), some (some 64), some (some 65), some (some 66), none, some (some 67), some (some 68), some (some 69), some (some 70), some (some 71), some (some 72), some (some 73), some (some 74), some (some 75), some (some 76), some (some 77), some (some 78), none, some none, some none, none, some none, some none, some none, some none]) (by decide +kernel) (by decide) ?_
  refine PB.aload_n (pc := 239) (x := 50) dX12_init_239 rfl ?_
  refine PB.bipush (pc := 240) dX12_init_240 (by decide) ?_
  refine PB.newaI (pc := 242) (n := 100) dX12_init_242 ac_int (by decide) (by decide) (by decide +kernel) (by decide +kernel) (by decide +kernel) (by decide +kernel) (by decide +kernel) ?_
  refine PB.top (h2 := 80) (by decide +kernel) ?_
  refine PB.put (pc := 244) dX12_init_244 ff_X12_98 rfl (fs := [none, none, some (some 51), some (some 52), some (some 53), none, some (some 54), some (some 55), some (some 56), some (some 57), some (some 58), none, some (some 59), none, some (some 60), some (some 61), some (some 62), some (some 63), some (some 64), some (some 65), some (some 66), none, some (some 67), some (some 68), some (some 69), some (some 70), some (some 71), some (some 72), some (some 73), some (some 74), some (some 75), some (some 76), some (some 77), some (some 78), none, some (some 79), some none, none, some none, some none, some none, some none]) (by decide +kernel) (by decide) ?_
  refine PB.aload_n (pc := 247) (x := 50) dX12_init_247 rfl ?_
  refine PB.sipush (pc := 248) dX12_init_248 (by decide) ?_
  refine PB.newaI (pc := 251) (n := 400) dX12_init_251 ac_int (by decide) (by decide) (by decide +kernel) (by decide +kernel) (by decide +kernel) (by decide +kernel) (by decide +kernel) ?_
  refine PB.top (h2 := 81) (by decide +kernel) ?_
  refine PB.put (pc := 253) dX12_init_253 ff_X12_101 rfl (fs := [none, none, some (some 51), some (some 52), some (some 53), none, some (some 54), some (some 55), some (some 56), some (some 57), some (some 58), none, some (some 59), none, some (some 60), some (some 61), some (some 62), some (some 63), some (some 64), some (some 65), some (some 66), none, some (some 67), some (some 68), some (some 69), some (some 70), some (some 71), some (some 72), some (some 73), some (some 74), some (some 75), some (some 76), some (some 77), some (some 78), none, some (some 79), some (some 80), none, some none, some none, some none, some none]) (by decide +kernel) (by decide) ?_
  refine PB.aload_n (pc := 256) (x := 50) dX12_init_256 rfl ?_
  refine PB.bipush (pc := 257) dX12_init_257 (by decide) ?_
  refine PB.newaZ (pc := 259) (n := 100) dX12_init_259 ac_boolean (by decide) (by decide) (by decide +kernel) (by decide +kernel) (by decide +kernel) (by decide +kernel) (by decide +kernel) ?_
  refine PB.top (h2 := 82) (by decide +kernel) ?_
  refine PB.put (pc := 261) dX12_init_261 ff_X12_104 rfl (fs := [none, none, some (some 51), some (some 52), some (some 53), none, some (some 54), some (some 55), some (some 56), some (some 57), some (some 58), none, some (some 59), none, some (some 60), some (some 61), some (some 62), some (some 63), some (some 64), some (some 65), some (some 66), none, some (some 67), some (some 68), some (some 69), some (some 70), some (some 71), some (some 72), some (some 73), some (some 74), some (some 75), some (some 76), some (some 77), some (some 78), none, some (some 79), some (some 80), none, some (some 81), some none, some none, some none]) (by decide +kernel) (by decide) ?_
  refine PB.aload_n (pc := 264) (x := 50) dX12_init_264 rfl ?_
  refine PB.bipush (pc := 265) dX12_init_265 (by decide) ?_
  refine PB.newaI (pc := 267) (n := 100) dX12_init_267 ac_int (by decide) (by decide) (by decide +kernel) (by decide +kernel) (by decide +kernel) (by decide +kernel) (by decide +kernel) ?_
  refine PB.top (h2 := 83) (by decide +kernel) ?_
  refine PB.put (pc := 269) dX12_init_269 ff_X12_107 rfl (fs := [none, none, some (some 51), some (some 52), some (some 53), none, some (some 54), some (some 55), some (some 56), some (some 57), some (some 58), none, some (some 59), none, some (some 60), some (some 61), some (some 62), some (some 63), some (some 64), some (some 65), some (some 66), none, some (some 67), some (some 68), some (some 69), some (some 70), some (some 71), some (some 72), some (some 73), some (some 74), some (some 75), some (some 76), some (some 77), some (some 78), none, some (some 79), some (some 80), none, some (some 81), some (some 82), some none, some none]) (by decide +kernel) (by decide) ?_
  refine PB.aload_n (pc := 272) (x := 50) dX12_init_272 rfl ?_
  refine PB.sipush (pc := 273) dX12_init_273 (by decide) ?_
  refine PB.newaI (pc := 276) (n := 256) dX12_init_276 ac_int (by decide) (by decide) (by decide +kernel) (by decide +kernel) (by decide +kernel) (by decide +kernel) (by decide +kernel) ?_
  refine PB.top (h2 := 84) (by decide +kernel) ?_
  refine PB.put (pc := 278) dX12_init_278 ff_X12_110 rfl (fs := [none, none, some (some 51), some (some 52), some (some 53), none, some (some 54), some (some 55), some (some 56), some (some 57), some (some 58), none, some (some 59), none, some (some 60), some (some 61), some (some 62), some (some 63), some (some 64), some (some 65), some (some 66), none, some (some 67), some (some 68), some (some 69), some (some 70), some (some 71), some (some 72), some (some 73), some (some 74), some (some 75), some (some 76), some (some 77), some (some 78), none, some (some 79), some (some 80), none, some (some 81), some (some 82), some (some 83), some none]) (by decide +kernel) (by decide) ?_
  exact PB.stop ⟨dX12_init_281, rfl, by decide +kernel⟩

def LQ : BQ := fun pc ls st k => pc = 16 ∧ ls = [some (vR 85), some (vR 0), some (vR 50), none] ∧ st = [] ∧ k = bk_26
set_option maxRecDepth 20000 in
theorem b_law (l : Launch) (Dd : va_G) (cs : ClassId × ClassId × ClassId) : PB l Dd cs 85 80519 mL_ent 0 [some (vR 85), none, none, none] [] [] LQ := by
  refine PB.new (pc := 0) (ci := 10) (N := 9) (fs := [some none, some none, some none, some none, some none, some none, some none, some none, some none]) tyX11 dL_law_0 (tm 16 (by decide +kernel) rfl) (tm 17 (by decide +kernel) rfl) (tm 1 (by decide +kernel) rfl) rfl hin_X11 tyX11_ok (by decide +kernel) rfl rfl (by decide) (by decide +kernel) (by decide +kernel) (by decide +kernel) (by decide +kernel) (by decide +kernel) ?_
  refine PB.top (h2 := 0) (by decide +kernel) ?_
  refine PB.dup (pc := 3) dL_law_3 ?_
  refine PB.rows (ks2 := bk_0) (by decide +kernel) ?_
  refine PB.callI (pc := 4) (As := []) (st := [vR 0]) (h := 0) (ks2 := bk_23) dL_law_4 ob_X11_init (tm 18 (by decide +kernel) rfl) ⟨(Nat.le_of_ble_eq_true rfl), (Nat.le_of_ble_eq_true rfl)⟩ (Nat.le_of_ble_eq_true rfl) (Nat.le_of_ble_eq_true rfl) (by decide +kernel) (by decide +kernel) (by decide +kernel) (by decide +kernel) (by decide +kernel) (by decide +kernel) (b_X11_init_0 l Dd cs) ?_
  refine PB.astore_n (pc := 7) (ls2 := [some (vR 85), some (vR 0), none, none]) dL_law_7 (by decide) rfl ?_
  refine PB.new (pc := 8) (ci := 11) (N := 42) (fs := [none, none, some none, some none, some none, none, some none, some none, some none, some none, some none, none, some none, none, some none, some none, some none, some none, some none, some none, some none, none, some none, some none, some none, some none, some none, some none, some none, some none, some none, some none, some none, some none, none, some none, some none, none, some none, some none, some none, some none]) tyX12 dL_law_8 (tm 792 (by decide +kernel) rfl) (tm 793 (by decide +kernel) rfl) (tm 13 (by decide +kernel) rfl) rfl hin_X12 tyX12_ok (by decide +kernel) rfl rfl (by decide) (by decide +kernel) (by decide +kernel) (by decide +kernel) (by decide +kernel) (by decide +kernel) ?_
  refine PB.top (h2 := 50) (by decide +kernel) ?_
  refine PB.dup (pc := 11) dL_law_11 ?_
  refine PB.rows (ks2 := bk_24) (by decide +kernel) ?_
  refine PB.callI (pc := 12) (As := []) (st := [vR 50]) (h := 50) (ks2 := bk_25) dL_law_12 ob_X12_init (tm 794 (by decide +kernel) rfl) ⟨(Nat.le_of_ble_eq_true rfl), (Nat.le_of_ble_eq_true rfl)⟩ (Nat.le_of_ble_eq_true rfl) (Nat.le_of_ble_eq_true rfl) (by decide +kernel) (by decide +kernel) (by decide +kernel) (by decide +kernel) (by decide +kernel) (by decide +kernel) (b_X12_init_50 l Dd cs) ?_
  refine PB.astore_n (pc := 15) (ls2 := [some (vR 85), some (vR 0), some (vR 50), none]) dL_law_15 (by decide) rfl ?_
  exact PB.stop ⟨rfl, rfl, rfl, by decide +kernel⟩
