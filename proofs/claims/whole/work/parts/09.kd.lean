theorem kd_0 : kd 0 = (3, 10, [some 1, some 5, some 8, some 12, some 17, some 22, some 32, some 41, some 43]) := rfl
theorem hl_0 : 0 < nH := by decide
theorem kd_1 : kd 1 = (3, 4, [none, none, some 2, some 3, some 4]) := rfl
theorem hl_1 : 1 < nH := by decide
theorem kd_2 : kd 2 = (0, 12, []) := rfl
theorem hl_2 : 2 < nH := by decide
theorem kd_3 : kd 3 = (0, 12, []) := rfl
theorem hl_3 : 3 < nH := by decide
theorem kd_4 : kd 4 = (0, 36, []) := rfl
theorem hl_4 : 4 < nH := by decide
theorem kd_5 : kd 5 = (3, 1, [some 1, some 6, some 7]) := rfl
theorem hl_5 : 5 < nH := by decide
theorem kd_6 : kd 6 = (0, 4, []) := rfl
theorem hl_6 : 6 < nH := by decide
theorem kd_7 : kd 7 = (0, 4, []) := rfl
theorem hl_7 : 7 < nH := by decide
theorem kd_8 : kd 8 = (3, 8, [some 1, some 9, some 10, some 11]) := rfl
theorem hl_8 : 8 < nH := by decide
theorem kd_9 : kd 9 = (0, 52, []) := rfl
theorem hl_9 : 9 < nH := by decide
theorem kd_10 : kd 10 = (0, 156, []) := rfl
theorem hl_10 : 10 < nH := by decide
theorem kd_11 : kd 11 = (0, 624, []) := rfl
theorem hl_11 : 11 < nH := by decide
theorem kd_12 : kd 12 = (3, 0, [some 1, none, some 13, some 14, some 15, some 16]) := rfl
theorem hl_12 : 12 < nH := by decide
theorem kd_13 : kd 13 = (0, 100, []) := rfl
theorem hl_13 : 13 < nH := by decide
theorem kd_14 : kd 14 = (0, 100, []) := rfl
theorem hl_14 : 14 < nH := by decide
theorem kd_15 : kd 15 = (0, 300, []) := rfl
theorem hl_15 : 15 < nH := by decide
theorem kd_16 : kd 16 = (0, 100, []) := rfl
theorem hl_16 : 16 < nH := by decide
theorem kd_17 : kd 17 = (3, 7, [some 1, some 8, some 12, some 18, some 19, some 20, none, some 21]) := rfl
theorem hl_17 : 17 < nH := by decide
theorem kd_18 : kd 18 = (0, 12, []) := rfl
theorem hl_18 : 18 < nH := by decide
theorem kd_19 : kd 19 = (0, 12, []) := rfl
theorem hl_19 : 19 < nH := by decide
theorem kd_20 : kd 20 = (0, 12, []) := rfl
theorem hl_20 : 20 < nH := by decide
theorem kd_21 : kd 21 = (0, 3, []) := rfl
theorem hl_21 : 21 < nH := by decide
theorem kd_22 : kd 22 = (3, 5, [some 12, some 8, some 28, some 23, some 24, some 25, some 26, some 27]) := rfl
theorem hl_22 : 22 < nH := by decide
theorem kd_23 : kd 23 = (0, 100, []) := rfl
theorem hl_23 : 23 < nH := by decide
theorem kd_24 : kd 24 = (0, 100, []) := rfl
theorem hl_24 : 24 < nH := by decide
theorem kd_25 : kd 25 = (0, 100, []) := rfl
theorem hl_25 : 25 < nH := by decide
theorem kd_26 : kd 26 = (0, 3, []) := rfl
theorem hl_26 : 26 < nH := by decide
theorem kd_27 : kd 27 = (0, 3, []) := rfl
theorem hl_27 : 27 < nH := by decide
theorem kd_28 : kd 28 = (3, 9, [some 12, some 29, none, none, some 30, some 31]) := rfl
theorem hl_28 : 28 < nH := by decide
theorem kd_29 : kd 29 = (0, 100, []) := rfl
theorem hl_29 : 29 < nH := by decide
theorem kd_30 : kd 30 = (0, 100, []) := rfl
theorem hl_30 : 30 < nH := by decide
theorem kd_31 : kd 31 = (0, 100, []) := rfl
theorem hl_31 : 31 < nH := by decide
theorem kd_32 : kd 32 = (3, 6, [some 12, some 37, some 33, some 34, some 35, none, some 36]) := rfl
theorem hl_32 : 32 < nH := by decide
theorem kd_33 : kd 33 = (0, 100, []) := rfl
theorem hl_33 : 33 < nH := by decide
theorem kd_34 : kd 34 = (0, 300, []) := rfl
theorem hl_34 : 34 < nH := by decide
theorem kd_35 : kd 35 = (0, 300, []) := rfl
theorem hl_35 : 35 < nH := by decide
theorem kd_36 : kd 36 = (2, 157, []) := rfl
theorem hl_36 : 36 < nH := by decide
theorem kd_37 : kd 37 = (3, 9, [some 12, some 38, none, none, some 39, some 40]) := rfl
theorem hl_37 : 37 < nH := by decide
theorem kd_38 : kd 38 = (0, 100, []) := rfl
theorem hl_38 : 38 < nH := by decide
theorem kd_39 : kd 39 = (0, 100, []) := rfl
theorem hl_39 : 39 < nH := by decide
theorem kd_40 : kd 40 = (0, 100, []) := rfl
theorem hl_40 : 40 < nH := by decide
theorem kd_41 : kd 41 = (3, 3, [none, some 42]) := rfl
theorem hl_41 : 41 < nH := by decide
theorem kd_42 : kd 42 = (0, 800, []) := rfl
theorem hl_42 : 42 < nH := by decide
theorem kd_43 : kd 43 = (3, 2, [some 12, none, some 44, none, some 45, some 46, some 47, some 48, none, some 49]) := rfl
theorem hl_43 : 43 < nH := by decide
theorem kd_44 : kd 44 = (0, 8, []) := rfl
theorem hl_44 : 44 < nH := by decide
theorem kd_45 : kd 45 = (0, 100, []) := rfl
theorem hl_45 : 45 < nH := by decide
theorem kd_46 : kd 46 = (0, 100, []) := rfl
theorem hl_46 : 46 < nH := by decide
theorem kd_47 : kd 47 = (0, 60, []) := rfl
theorem hl_47 : 47 < nH := by decide
theorem kd_48 : kd 48 = (0, 60, []) := rfl
theorem hl_48 : 48 < nH := by decide
theorem kd_49 : kd 49 = (0, 3, []) := rfl
theorem hl_49 : 49 < nH := by decide
theorem kd_50 : kd 50 = (3, 11, [none, none, some 51, some 52, some 53, none, some 54, some 55, some 56, some 57, some 58, none, some 59, none, some 60, some 61, some 62, some 63, some 64, some 65, some 66, none, some 67, some 68, some 69, some 70, some 71, some 72, some 73, some 74, some 75, some 76, some 77, some 78, none, some 79, some 80, none, some 81, some 82, some 83, some 84]) := rfl
theorem hl_50 : 50 < nH := by decide
theorem kd_51 : kd 51 = (0, 12, []) := rfl
theorem hl_51 : 51 < nH := by decide
theorem kd_52 : kd 52 = (0, 12, []) := rfl
theorem hl_52 : 52 < nH := by decide
theorem kd_53 : kd 53 = (0, 36, []) := rfl
theorem hl_53 : 53 < nH := by decide
theorem kd_54 : kd 54 = (0, 100, []) := rfl
theorem hl_54 : 54 < nH := by decide
theorem kd_55 : kd 55 = (0, 100, []) := rfl
theorem hl_55 : 55 < nH := by decide
theorem kd_56 : kd 56 = (0, 300, []) := rfl
theorem hl_56 : 56 < nH := by decide
theorem kd_57 : kd 57 = (0, 100, []) := rfl
theorem hl_57 : 57 < nH := by decide
theorem kd_58 : kd 58 = (0, 800, []) := rfl
theorem hl_58 : 58 < nH := by decide
theorem kd_59 : kd 59 = (0, 8, []) := rfl
theorem hl_59 : 59 < nH := by decide
theorem kd_60 : kd 60 = (0, 4, []) := rfl
theorem hl_60 : 60 < nH := by decide
theorem kd_61 : kd 61 = (0, 4, []) := rfl
theorem hl_61 : 61 < nH := by decide
theorem kd_62 : kd 62 = (1, 16, []) := rfl
theorem hl_62 : 62 < nH := by decide
theorem kd_63 : kd 63 = (0, 52, []) := rfl
theorem hl_63 : 63 < nH := by decide
theorem kd_64 : kd 64 = (0, 624, []) := rfl
theorem hl_64 : 64 < nH := by decide
theorem kd_65 : kd 65 = (0, 64, []) := rfl
theorem hl_65 : 65 < nH := by decide
theorem kd_66 : kd 66 = (0, 64, []) := rfl
theorem hl_66 : 66 < nH := by decide
theorem kd_67 : kd 67 = (0, 64, []) := rfl
theorem hl_67 : 67 < nH := by decide
theorem kd_68 : kd 68 = (0, 64, []) := rfl
theorem hl_68 : 68 < nH := by decide
theorem kd_69 : kd 69 = (0, 64, []) := rfl
theorem hl_69 : 69 < nH := by decide
theorem kd_70 : kd 70 = (0, 3, []) := rfl
theorem hl_70 : 70 < nH := by decide
theorem kd_71 : kd 71 = (0, 3, []) := rfl
theorem hl_71 : 71 < nH := by decide
theorem kd_72 : kd 72 = (0, 64, []) := rfl
theorem hl_72 : 72 < nH := by decide
theorem kd_73 : kd 73 = (0, 64, []) := rfl
theorem hl_73 : 73 < nH := by decide
theorem kd_74 : kd 74 = (0, 192, []) := rfl
theorem hl_74 : 74 < nH := by decide
theorem kd_75 : kd 75 = (0, 100, []) := rfl
theorem hl_75 : 75 < nH := by decide
theorem kd_76 : kd 76 = (0, 100, []) := rfl
theorem hl_76 : 76 < nH := by decide
theorem kd_77 : kd 77 = (0, 31000, []) := rfl
theorem hl_77 : 77 < nH := by decide
theorem kd_78 : kd 78 = (0, 31000, []) := rfl
theorem hl_78 : 78 < nH := by decide
theorem kd_79 : kd 79 = (1, 10000, []) := rfl
theorem hl_79 : 79 < nH := by decide
theorem kd_80 : kd 80 = (0, 100, []) := rfl
theorem hl_80 : 80 < nH := by decide
theorem kd_81 : kd 81 = (0, 400, []) := rfl
theorem hl_81 : 81 < nH := by decide
theorem kd_82 : kd 82 = (1, 100, []) := rfl
theorem hl_82 : 82 < nH := by decide
theorem kd_83 : kd 83 = (0, 100, []) := rfl
theorem hl_83 : 83 < nH := by decide
theorem kd_84 : kd 84 = (0, 256, []) := rfl
theorem hl_84 : 84 < nH := by decide
theorem k_X10_42 : Cond.constant (cn 9) 42 (Int32.ofInt 1000000) ∈ lw_good := tm 574 (by decide +kernel) rfl
theorem k_X11_167 : Cond.constant (cn 10) 167 (Int32.ofInt 1000000) ∈ lw_good := tm 392 (by decide +kernel) rfl
theorem k_X11_216 : Cond.constantLong (cn 10) 216 (Int64.ofInt 1000000) ∈ lw_good := tm 391 (by decide +kernel) rfl
theorem k_X12_127 : Cond.constantLong (cn 11) 127 (Int64.ofInt 1000000) ∈ lw_good := tm 988 (by decide +kernel) rfl
theorem k_X12_129 : Cond.constant (cn 11) 129 (Int32.ofInt 1000000) ∈ lw_good := tm 989 (by decide +kernel) rfl
theorem k_X2_57 : Cond.constant (cn 2) 57 (Int32.ofInt 1000000) ∈ lw_good := tm 733 (by decide +kernel) rfl
theorem k_X6_63 : Cond.constant (cn 6) 63 (Int32.ofInt 1000000) ∈ lw_good := tm 644 (by decide +kernel) rfl
theorem k_X8_25 : Cond.constant (cn 8) 25 (Int32.ofInt 1000000) ∈ lw_good := tm 463 (by decide +kernel) rfl
