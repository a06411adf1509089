set_option maxRecDepth 20000 in
theorem en_X12_addConstructor {M : Mem} {K : Int → Mem → Prop} {v1 v2 v3 v4 v5 : Int} 
    (h : CI mX12_in [vI v2, vI 0, vI 3] M (fun r3 M3 => InR r3 ∧ (r3 ≠ 0 → (CI mX12_isType [vR 50, vI v1] M3 (fun r14 M14 => InR r14 ∧ (r14 = 0 → (K (-1) M14)) ∧ (¬ (r14 = 0) → (InR v2 ∧ (v2 ≤ 0 → (AW mX12_addConstructor 32 [some (vR 50), some (vI v1), some (vI v2), some (vI v3), some (vI v4), some (vI v5)] [] M14 (QI K))) ∧ (¬ (v2 ≤ 0) → (CI mX12_isType [vR 50, vI v3] M14 (fun r26 M26 => InR r26 ∧ (r26 = 0 → (K (-1) M26)) ∧ (¬ (r26 = 0) → (AW mX12_addConstructor 32 [some (vR 50), some (vI v1), some (vI v2), some (vI v3), some (vI v4), some (vI v5)] [] M26 (QI K))))))))))) ∧ (¬ (r3 ≠ 0) → (K (-4) M3)))) :
    CI mX12_addConstructor [vR 50, vI v1, vI v2, vI v3, vI v4, vI v5] M K := by
  show AW mX12_addConstructor 0 [some (vR 50), some (vI v1), some (vI v2), some (vI v3), some (vI v4), some (vI v5)] [] M (QI K)
  refine AW.iload_n (pc := 0) (x := v2) dX12_addConstructor_0 rfl ?_
  refine AW.iconst (pc := 1) dX12_addConstructor_1 ?_
  refine AW.iconst (pc := 2) dX12_addConstructor_2 ?_
  refine AW.callS (pc := 3) (As := [vI v2, vI 0, vI 3]) (st := []) dX12_addConstructor_3 cl_X12_117 ⟨Nat.le_of_ble_eq_true rfl, Nat.le_of_ble_eq_true rfl⟩ (Nat.le_of_ble_eq_true rfl) (Nat.le_of_ble_eq_true rfl) h ?_
  rintro _ M3 ⟨r3, rfl, h⟩
  show AW mX12_addConstructor 6 [some (vR 50), some (vI v1), some (vI v2), some (vI v3), some (vI v4), some (vI v5)] [vI r3] M3 (QI K)
  obtain ⟨o, ha, hb⟩ := h
  refine AW.if_ne (pc := 6) (tgt := 12) dX12_addConstructor_6 (by decide) o (fun hc => ?_) (fun hc => ?_)
  · have h := ha hc
    refine AW.aload_n (pc := 12) (x := 50) dX12_addConstructor_12 rfl ?_
    refine AW.iload_n (pc := 13) (x := v1) dX12_addConstructor_13 rfl ?_
    refine AW.callV (pc := 14) (As := [vI v1]) (st := []) dX12_addConstructor_14 cl_X12_130 kd_50 hl_50 ⟨Nat.le_of_ble_eq_true rfl, Nat.le_of_ble_eq_true rfl⟩ (Nat.le_of_ble_eq_true rfl) (Nat.le_of_ble_eq_true rfl) h ?_
    rintro _ M14 ⟨r14, rfl, h⟩
    show AW mX12_addConstructor 17 [some (vR 50), some (vI v1), some (vI v2), some (vI v3), some (vI v4), some (vI v5)] [vI r14] M14 (QI K)
    obtain ⟨o, ha, hb⟩ := h
    refine AW.if_eq (pc := 17) (tgt := 60) dX12_addConstructor_17 (by decide) o (fun hc => ?_) (fun hc => ?_)
    · have h := ha hc
      refine AW.iconst (pc := 60) dX12_addConstructor_60 ?_
      exact AW.iret (st := []) (pc := 61) dX12_addConstructor_61 rfl ⟨_, rfl, h⟩
    · have h := hb hc
      refine AW.iload_n (pc := 20) (x := v2) dX12_addConstructor_20 rfl ?_
      obtain ⟨o, ha, hb⟩ := h
      refine AW.if_le (pc := 21) (tgt := 32) dX12_addConstructor_21 (by decide) o (fun hc => ?_) (fun hc => ?_)
      · have h := ha hc
        exact h
      · have h := hb hc
        refine AW.aload_n (pc := 24) (x := 50) dX12_addConstructor_24 rfl ?_
        refine AW.iload_n (pc := 25) (x := v3) dX12_addConstructor_25 rfl ?_
        refine AW.callV (pc := 26) (As := [vI v3]) (st := []) dX12_addConstructor_26 cl_X12_130 kd_50 hl_50 ⟨Nat.le_of_ble_eq_true rfl, Nat.le_of_ble_eq_true rfl⟩ (Nat.le_of_ble_eq_true rfl) (Nat.le_of_ble_eq_true rfl) h ?_
        rintro _ M26 ⟨r26, rfl, h⟩
        show AW mX12_addConstructor 29 [some (vR 50), some (vI v1), some (vI v2), some (vI v3), some (vI v4), some (vI v5)] [vI r26] M26 (QI K)
        obtain ⟨o, ha, hb⟩ := h
        refine AW.if_eq (pc := 29) (tgt := 60) dX12_addConstructor_29 (by decide) o (fun hc => ?_) (fun hc => ?_)
        · have h := ha hc
          refine AW.iconst (pc := 60) dX12_addConstructor_60 ?_
          exact AW.iret (st := []) (pc := 61) dX12_addConstructor_61 rfl ⟨_, rfl, h⟩
        · have h := hb hc
          exact h
  · have h := hb hc
    refine AW.bipush (pc := 9) dX12_addConstructor_9 (by decide) ?_
    exact AW.iret (st := []) (pc := 11) dX12_addConstructor_11 rfl ⟨_, rfl, h⟩

set_option maxRecDepth 20000 in
theorem sg_X12_addConstructor_32 {M : Mem} {K : Int → Mem → Prop} {v1 v2 v3 v4 v5 : Int} 
    (h : InR v2 ∧ (v2 ≤ 1 → (AW mX12_addConstructor 46 [some (vR 50), some (vI v1), some (vI v2), some (vI v3), some (vI v4), some (vI v5)] [] M (QI K))) ∧ (¬ (v2 ≤ 1) → (CI mX12_isType [vR 50, vI v4] M (fun r40 M40 => InR r40 ∧ (r40 = 0 → (K (-1) M40)) ∧ (¬ (r40 = 0) → (AW mX12_addConstructor 46 [some (vR 50), some (vI v1), some (vI v2), some (vI v3), some (vI v4), some (vI v5)] [] M40 (QI K))))))) :
    AW mX12_addConstructor 32 [some (vR 50), some (vI v1), some (vI v2), some (vI v3), some (vI v4), some (vI v5)] [] M (QI K) := by
  refine AW.iload_n (pc := 32) (x := v2) dX12_addConstructor_32 rfl ?_
  refine AW.iconst (pc := 33) dX12_addConstructor_33 ?_
  obtain ⟨o, ha, hb⟩ := h
  refine AW.icmp_le (pc := 34) (tgt := 46) dX12_addConstructor_34 (by decide) o (by decide) (fun hc => ?_) (fun hc => ?_)
  · have h := ha hc
    exact h
  · have h := hb hc
    refine AW.aload_n (pc := 37) (x := 50) dX12_addConstructor_37 rfl ?_
    refine AW.iload (pc := 38) (x := v4) dX12_addConstructor_38 rfl ?_
    refine AW.callV (pc := 40) (As := [vI v4]) (st := []) dX12_addConstructor_40 cl_X12_130 kd_50 hl_50 ⟨Nat.le_of_ble_eq_true rfl, Nat.le_of_ble_eq_true rfl⟩ (Nat.le_of_ble_eq_true rfl) (Nat.le_of_ble_eq_true rfl) h ?_
    rintro _ M40 ⟨r40, rfl, h⟩
    show AW mX12_addConstructor 43 [some (vR 50), some (vI v1), some (vI v2), some (vI v3), some (vI v4), some (vI v5)] [vI r40] M40 (QI K)
    obtain ⟨o, ha, hb⟩ := h
    refine AW.if_eq (pc := 43) (tgt := 60) dX12_addConstructor_43 (by decide) o (fun hc => ?_) (fun hc => ?_)
    · have h := ha hc
      refine AW.iconst (pc := 60) dX12_addConstructor_60 ?_
      exact AW.iret (st := []) (pc := 61) dX12_addConstructor_61 rfl ⟨_, rfl, h⟩
    · have h := hb hc
      exact h

set_option maxRecDepth 20000 in
theorem sg_X12_addConstructor_46 {M : Mem} {K : Int → Mem → Prop} {v1 v2 v3 v4 v5 : Int} 
    (h : InR v2 ∧ (v2 ≤ 2 → (AW mX12_addConstructor 62 [some (vR 50), some (vI v1), some (vI v2), some (vI v3), some (vI v4), some (vI v5)] [] M (QI K))) ∧ (¬ (v2 ≤ 2) → (CI mX12_isType [vR 50, vI v5] M (fun r54 M54 => InR r54 ∧ (r54 ≠ 0 → (AW mX12_addConstructor 62 [some (vR 50), some (vI v1), some (vI v2), some (vI v3), some (vI v4), some (vI v5)] [] M54 (QI K))) ∧ (¬ (r54 ≠ 0) → (K (-1) M54)))))) :
    AW mX12_addConstructor 46 [some (vR 50), some (vI v1), some (vI v2), some (vI v3), some (vI v4), some (vI v5)] [] M (QI K) := by
  refine AW.iload_n (pc := 46) (x := v2) dX12_addConstructor_46 rfl ?_
  refine AW.iconst (pc := 47) dX12_addConstructor_47 ?_
  obtain ⟨o, ha, hb⟩ := h
  refine AW.icmp_le (pc := 48) (tgt := 62) dX12_addConstructor_48 (by decide) o (by decide) (fun hc => ?_) (fun hc => ?_)
  · have h := ha hc
    exact h
  · have h := hb hc
    refine AW.aload_n (pc := 51) (x := 50) dX12_addConstructor_51 rfl ?_
    refine AW.iload (pc := 52) (x := v5) dX12_addConstructor_52 rfl ?_
    refine AW.callV (pc := 54) (As := [vI v5]) (st := []) dX12_addConstructor_54 cl_X12_130 kd_50 hl_50 ⟨Nat.le_of_ble_eq_true rfl, Nat.le_of_ble_eq_true rfl⟩ (Nat.le_of_ble_eq_true rfl) (Nat.le_of_ble_eq_true rfl) h ?_
    rintro _ M54 ⟨r54, rfl, h⟩
    show AW mX12_addConstructor 57 [some (vR 50), some (vI v1), some (vI v2), some (vI v3), some (vI v4), some (vI v5)] [vI r54] M54 (QI K)
    obtain ⟨o, ha, hb⟩ := h
    refine AW.if_ne (pc := 57) (tgt := 62) dX12_addConstructor_57 (by decide) o (fun hc => ?_) (fun hc => ?_)
    · have h := ha hc
      exact h
    · have h := hb hc
      refine AW.iconst (pc := 60) dX12_addConstructor_60 ?_
      exact AW.iret (st := []) (pc := 61) dX12_addConstructor_61 rfl ⟨_, rfl, h⟩

set_option maxRecDepth 20000 in
theorem sg_X12_addConstructor_62 {M : Mem} {K : Int → Mem → Prop} {v1 v2 v3 v4 v5 : Int} 
    (h : InR (M 50 1) ∧ ((M 50 1) ≠ 12 → ((0 ≤ (M 50 1) ∧ (M 50 1) < 12) ∧ (0 ≤ (M 50 1) ∧ (M 50 1) < 12) ∧ (0 ≤ (3 * (M 50 1)) ∧ (3 * (M 50 1)) < 36) ∧ (0 ≤ ((3 * (M 50 1)) + 1) ∧ ((3 * (M 50 1)) + 1) < 36) ∧ (0 ≤ ((3 * (M 50 1)) + 2) ∧ ((3 * (M 50 1)) + 2) < 36) ∧ K (((M 50 1) + 1) - 1) (up (up (up (up (up (up M 51 (M 50 1) v1) 52 (M 50 1) v2) 53 (3 * (M 50 1)) v3) 53 ((3 * (M 50 1)) + 1) v4) 53 ((3 * (M 50 1)) + 2) v5) 50 1 ((M 50 1) + 1)))) ∧ (¬ ((M 50 1) ≠ 12) → (K (-6) M))) :
    AW mX12_addConstructor 62 [some (vR 50), some (vI v1), some (vI v2), some (vI v3), some (vI v4), some (vI v5)] [] M (QI K) := by
  refine AW.aload_n (pc := 62) (x := 50) dX12_addConstructor_62 rfl ?_
  refine AW.getI (pc := 63) dX12_addConstructor_63 fg_X12_121 kd_50 hl_50 rfl ?_
  refine AW.bipush (pc := 66) dX12_addConstructor_66 (by decide) ?_
  obtain ⟨o, ha, hb⟩ := h
  refine AW.icmp_ne (pc := 68) (tgt := 74) dX12_addConstructor_68 (by decide) o (by decide) (fun hc => ?_) (fun hc => ?_)
  · have h := ha hc
    refine AW.aload_n (pc := 74) (x := 50) dX12_addConstructor_74 rfl ?_
    refine AW.getR (pc := 75) (h2 := 51) dX12_addConstructor_75 fg_X12_7 kd_50 hl_50 rfl ?_
    refine AW.aload_n (pc := 78) (x := 50) dX12_addConstructor_78 rfl ?_
    refine AW.getI (pc := 79) dX12_addConstructor_79 fg_X12_121 kd_50 hl_50 rfl ?_
    refine AW.iload_n (pc := 82) (x := v1) dX12_addConstructor_82 rfl ?_
    obtain ⟨o, h⟩ := h
    refine AW.iast (pc := 83) dX12_addConstructor_83 kd_51 hl_51 o ?_
    refine AW.aload_n (pc := 84) (x := 50) dX12_addConstructor_84 rfl ?_
    refine AW.getR (pc := 85) (h2 := 52) dX12_addConstructor_85 fg_X12_13 kd_50 hl_50 rfl ?_
    refine AW.aload_n (pc := 88) (x := 50) dX12_addConstructor_88 rfl ?_
    refine AW.getI (pc := 89) dX12_addConstructor_89 fg_X12_121 kd_50 hl_50 rfl ?_
    refine AW.iload_n (pc := 92) (x := v2) dX12_addConstructor_92 rfl ?_
    obtain ⟨o, h⟩ := h
    refine AW.iast (pc := 93) dX12_addConstructor_93 kd_52 hl_52 o ?_
    refine AW.aload_n (pc := 94) (x := 50) dX12_addConstructor_94 rfl ?_
    refine AW.getR (pc := 95) (h2 := 53) dX12_addConstructor_95 fg_X12_16 kd_50 hl_50 rfl ?_
    refine AW.iconst (pc := 98) dX12_addConstructor_98 ?_
    refine AW.aload_n (pc := 99) (x := 50) dX12_addConstructor_99 rfl ?_
    refine AW.getI (pc := 100) dX12_addConstructor_100 fg_X12_121 kd_50 hl_50 rfl ?_
    refine AW.imul (pc := 103) dX12_addConstructor_103 ?_
    refine AW.iload_n (pc := 104) (x := v3) dX12_addConstructor_104 rfl ?_
    obtain ⟨o, h⟩ := h
    refine AW.iast (pc := 105) dX12_addConstructor_105 kd_53 hl_53 o ?_
    refine AW.aload_n (pc := 106) (x := 50) dX12_addConstructor_106 rfl ?_
    refine AW.getR (pc := 107) (h2 := 53) dX12_addConstructor_107 fg_X12_16 kd_50 hl_50 rfl ?_
    refine AW.iconst (pc := 110) dX12_addConstructor_110 ?_
    refine AW.aload_n (pc := 111) (x := 50) dX12_addConstructor_111 rfl ?_
    refine AW.getI (pc := 112) dX12_addConstructor_112 fg_X12_121 kd_50 hl_50 rfl ?_
    refine AW.imul (pc := 115) dX12_addConstructor_115 ?_
    refine AW.iconst (pc := 116) dX12_addConstructor_116 ?_
    refine AW.iadd (pc := 117) dX12_addConstructor_117 ?_
    refine AW.iload (pc := 118) (x := v4) dX12_addConstructor_118 rfl ?_
    obtain ⟨o, h⟩ := h
    refine AW.iast (pc := 120) dX12_addConstructor_120 kd_53 hl_53 o ?_
    refine AW.aload_n (pc := 121) (x := 50) dX12_addConstructor_121 rfl ?_
    refine AW.getR (pc := 122) (h2 := 53) dX12_addConstructor_122 fg_X12_16 kd_50 hl_50 rfl ?_
    refine AW.iconst (pc := 125) dX12_addConstructor_125 ?_
    refine AW.aload_n (pc := 126) (x := 50) dX12_addConstructor_126 rfl ?_
    refine AW.getI (pc := 127) dX12_addConstructor_127 fg_X12_121 kd_50 hl_50 rfl ?_
    refine AW.imul (pc := 130) dX12_addConstructor_130 ?_
    refine AW.iconst (pc := 131) dX12_addConstructor_131 ?_
    refine AW.iadd (pc := 132) dX12_addConstructor_132 ?_
    refine AW.iload (pc := 133) (x := v5) dX12_addConstructor_133 rfl ?_
    obtain ⟨o, h⟩ := h
    refine AW.iast (pc := 135) dX12_addConstructor_135 kd_53 hl_53 o ?_
    refine AW.aload_n (pc := 136) (x := 50) dX12_addConstructor_136 rfl ?_
    refine AW.dup (pc := 137) dX12_addConstructor_137 rfl ?_
    refine AW.getI (pc := 138) dX12_addConstructor_138 fg_X12_121 kd_50 hl_50 rfl ?_
    refine AW.iconst (pc := 141) dX12_addConstructor_141 ?_
    refine AW.iadd (pc := 142) dX12_addConstructor_142 ?_
    refine AW.put (pc := 143) dX12_addConstructor_143 fp_X12_121 kd_50 hl_50 rfl ?_
    refine AW.aload_n (pc := 146) (x := 50) dX12_addConstructor_146 rfl ?_
    refine AW.getI (pc := 147) dX12_addConstructor_147 fg_X12_121 kd_50 hl_50 rfl ?_
    refine AW.iconst (pc := 150) dX12_addConstructor_150 ?_
    refine AW.isub (pc := 151) dX12_addConstructor_151 ?_
    exact AW.iret (st := []) (pc := 152) dX12_addConstructor_152 rfl ⟨_, rfl, h⟩
  · have h := hb hc
    refine AW.bipush (pc := 71) dX12_addConstructor_71 (by decide) ?_
    exact AW.iret (st := []) (pc := 73) dX12_addConstructor_73 rfl ⟨_, rfl, h⟩

set_option maxRecDepth 20000 in
theorem en_X12_addNode {M : Mem} {K : Int → Mem → Prop} {v1 v2 v3 v4 v5 : Int} 
    (h : (0 ≤ (M 50 5) ∧ (M 50 5) < 100) ∧ (0 ≤ (M 50 5) ∧ (M 50 5) < 100) ∧ (0 ≤ (3 * (M 50 5)) ∧ (3 * (M 50 5)) < 300) ∧ (0 ≤ ((3 * (M 50 5)) + 1) ∧ ((3 * (M 50 5)) + 1) < 300) ∧ (0 ≤ ((3 * (M 50 5)) + 2) ∧ ((3 * (M 50 5)) + 2) < 300) ∧ (0 ≤ (M 50 5) ∧ (M 50 5) < 100) ∧ K (((M 50 5) + 1) - 1) (up (up (up (up (up (up (up M 54 (M 50 5) v1) 55 (M 50 5) v2) 56 (3 * (M 50 5)) v3) 56 ((3 * (M 50 5)) + 1) v4) 56 ((3 * (M 50 5)) + 2) v5) 57 (M 50 5) (-13)) 50 5 ((M 50 5) + 1))) :
    CI mX12_addNode [vR 50, vI v1, vI v2, vI v3, vI v4, vI v5] M K := by
  show AW mX12_addNode 0 [some (vR 50), some (vI v1), some (vI v2), some (vI v3), some (vI v4), some (vI v5)] [] M (QI K)
  refine AW.aload_n (pc := 0) (x := 50) dX12_addNode_0 rfl ?_
  refine AW.getR (pc := 1) (h2 := 54) dX12_addNode_1 fg_X12_19 kd_50 hl_50 rfl ?_
  refine AW.aload_n (pc := 4) (x := 50) dX12_addNode_4 rfl ?_
  refine AW.getI (pc := 5) dX12_addNode_5 fg_X12_124 kd_50 hl_50 rfl ?_
  refine AW.iload_n (pc := 8) (x := v1) dX12_addNode_8 rfl ?_
  obtain ⟨o, h⟩ := h
  refine AW.iast (pc := 9) dX12_addNode_9 kd_54 hl_54 o ?_
  refine AW.aload_n (pc := 10) (x := 50) dX12_addNode_10 rfl ?_
  refine AW.getR (pc := 11) (h2 := 55) dX12_addNode_11 fg_X12_22 kd_50 hl_50 rfl ?_
  refine AW.aload_n (pc := 14) (x := 50) dX12_addNode_14 rfl ?_
  refine AW.getI (pc := 15) dX12_addNode_15 fg_X12_124 kd_50 hl_50 rfl ?_
  refine AW.iload_n (pc := 18) (x := v2) dX12_addNode_18 rfl ?_
  obtain ⟨o, h⟩ := h
  refine AW.iast (pc := 19) dX12_addNode_19 kd_55 hl_55 o ?_
  refine AW.aload_n (pc := 20) (x := 50) dX12_addNode_20 rfl ?_
  refine AW.getR (pc := 21) (h2 := 56) dX12_addNode_21 fg_X12_25 kd_50 hl_50 rfl ?_
  refine AW.iconst (pc := 24) dX12_addNode_24 ?_
  refine AW.aload_n (pc := 25) (x := 50) dX12_addNode_25 rfl ?_
  refine AW.getI (pc := 26) dX12_addNode_26 fg_X12_124 kd_50 hl_50 rfl ?_
  refine AW.imul (pc := 29) dX12_addNode_29 ?_
  refine AW.iload_n (pc := 30) (x := v3) dX12_addNode_30 rfl ?_
  obtain ⟨o, h⟩ := h
  refine AW.iast (pc := 31) dX12_addNode_31 kd_56 hl_56 o ?_
  refine AW.aload_n (pc := 32) (x := 50) dX12_addNode_32 rfl ?_
  refine AW.getR (pc := 33) (h2 := 56) dX12_addNode_33 fg_X12_25 kd_50 hl_50 rfl ?_
  refine AW.iconst (pc := 36) dX12_addNode_36 ?_
  refine AW.aload_n (pc := 37) (x := 50) dX12_addNode_37 rfl ?_
  refine AW.getI (pc := 38) dX12_addNode_38 fg_X12_124 kd_50 hl_50 rfl ?_
  refine AW.imul (pc := 41) dX12_addNode_41 ?_
  refine AW.iconst (pc := 42) dX12_addNode_42 ?_
  refine AW.iadd (pc := 43) dX12_addNode_43 ?_
  refine AW.iload (pc := 44) (x := v4) dX12_addNode_44 rfl ?_
  obtain ⟨o, h⟩ := h
  refine AW.iast (pc := 46) dX12_addNode_46 kd_56 hl_56 o ?_
  refine AW.aload_n (pc := 47) (x := 50) dX12_addNode_47 rfl ?_
  refine AW.getR (pc := 48) (h2 := 56) dX12_addNode_48 fg_X12_25 kd_50 hl_50 rfl ?_
  refine AW.iconst (pc := 51) dX12_addNode_51 ?_
  refine AW.aload_n (pc := 52) (x := 50) dX12_addNode_52 rfl ?_
  refine AW.getI (pc := 53) dX12_addNode_53 fg_X12_124 kd_50 hl_50 rfl ?_
  refine AW.imul (pc := 56) dX12_addNode_56 ?_
  refine AW.iconst (pc := 57) dX12_addNode_57 ?_
  refine AW.iadd (pc := 58) dX12_addNode_58 ?_
  refine AW.iload (pc := 59) (x := v5) dX12_addNode_59 rfl ?_
  obtain ⟨o, h⟩ := h
  refine AW.iast (pc := 61) dX12_addNode_61 kd_56 hl_56 o ?_
  refine AW.aload_n (pc := 62) (x := 50) dX12_addNode_62 rfl ?_
  refine AW.getR (pc := 63) (h2 := 57) dX12_addNode_63 fg_X12_28 kd_50 hl_50 rfl ?_
  refine AW.aload_n (pc := 66) (x := 50) dX12_addNode_66 rfl ?_
  refine AW.getI (pc := 67) dX12_addNode_67 fg_X12_124 kd_50 hl_50 rfl ?_
  refine AW.bipush (pc := 70) dX12_addNode_70 (by decide) ?_
  obtain ⟨o, h⟩ := h
  refine AW.iast (pc := 72) dX12_addNode_72 kd_57 hl_57 o ?_
  refine AW.aload_n (pc := 73) (x := 50) dX12_addNode_73 rfl ?_
  refine AW.dup (pc := 74) dX12_addNode_74 rfl ?_
  refine AW.getI (pc := 75) dX12_addNode_75 fg_X12_124 kd_50 hl_50 rfl ?_
  refine AW.iconst (pc := 78) dX12_addNode_78 ?_
  refine AW.iadd (pc := 79) dX12_addNode_79 ?_
  refine AW.put (pc := 80) dX12_addNode_80 fp_X12_124 kd_50 hl_50 rfl ?_
  refine AW.aload_n (pc := 83) (x := 50) dX12_addNode_83 rfl ?_
  refine AW.getI (pc := 84) dX12_addNode_84 fg_X12_124 kd_50 hl_50 rfl ?_
  refine AW.iconst (pc := 87) dX12_addNode_87 ?_
  refine AW.isub (pc := 88) dX12_addNode_88 ?_
  exact AW.iret (st := []) (pc := 89) dX12_addNode_89 rfl ⟨_, rfl, h⟩

set_option maxRecDepth 20000 in
theorem en_X12_addRow {M : Mem} {K : Int → Mem → Prop} {v1 : Int} 
    (h : CI mX12_isNode [vR 50, vI v1] M (fun r2 M2 => InR r2 ∧ (r2 ≠ 0 → (InR (M2 50 13) ∧ ((M2 50 13) ≤ 0 → (AW mX12_addRow 41 [some (vR 50), some (vI v1)] [] M2 (QI K))) ∧ (¬ ((M2 50 13) ≤ 0) → ((0 ≤ (M2 59 0) ∧ (M2 59 0) < 100) ∧ (0 ≤ v1 ∧ v1 < 100) ∧ (InR (M2 55 (M2 59 0)) ∧ InR (M2 55 v1)) ∧ ((M2 55 (M2 59 0)) = (M2 55 v1) → (AW mX12_addRow 41 [some (vR 50), some (vI v1)] [] M2 (QI K))) ∧ (¬ ((M2 55 (M2 59 0)) = (M2 55 v1)) → (K (-5) M2)))))) ∧ (¬ (r2 ≠ 0) → (K (-3) M2)))) :
    CI mX12_addRow [vR 50, vI v1] M K := by
  show AW mX12_addRow 0 [some (vR 50), some (vI v1)] [] M (QI K)
  refine AW.aload_n (pc := 0) (x := 50) dX12_addRow_0 rfl ?_
  refine AW.iload_n (pc := 1) (x := v1) dX12_addRow_1 rfl ?_
  refine AW.callV (pc := 2) (As := [vI v1]) (st := []) dX12_addRow_2 cl_X12_199 kd_50 hl_50 ⟨Nat.le_of_ble_eq_true rfl, Nat.le_of_ble_eq_true rfl⟩ (Nat.le_of_ble_eq_true rfl) (Nat.le_of_ble_eq_true rfl) h ?_
  rintro _ M2 ⟨r2, rfl, h⟩
  show AW mX12_addRow 5 [some (vR 50), some (vI v1)] [vI r2] M2 (QI K)
  obtain ⟨o, ha, hb⟩ := h
  refine AW.if_ne (pc := 5) (tgt := 11) dX12_addRow_5 (by decide) o (fun hc => ?_) (fun hc => ?_)
  · have h := ha hc
    refine AW.aload_n (pc := 11) (x := 50) dX12_addRow_11 rfl ?_
    refine AW.getI (pc := 12) dX12_addRow_12 fg_X12_251 kd_50 hl_50 rfl ?_
    obtain ⟨o, ha, hb⟩ := h
    refine AW.if_le (pc := 15) (tgt := 41) dX12_addRow_15 (by decide) o (fun hc => ?_) (fun hc => ?_)
    · have h := ha hc
      exact h
    · have h := hb hc
      refine AW.aload_n (pc := 18) (x := 50) dX12_addRow_18 rfl ?_
      refine AW.getR (pc := 19) (h2 := 55) dX12_addRow_19 fg_X12_22 kd_50 hl_50 rfl ?_
      refine AW.aload_n (pc := 22) (x := 50) dX12_addRow_22 rfl ?_
      refine AW.getR (pc := 23) (h2 := 59) dX12_addRow_23 fg_X12_34 kd_50 hl_50 rfl ?_
      refine AW.iconst (pc := 26) dX12_addRow_26 ?_
      refine AW.iald (pc := 27) dX12_addRow_27 kd_59 hl_59 (by decide) ?_
      obtain ⟨o, h⟩ := h
      refine AW.iald (pc := 28) dX12_addRow_28 kd_55 hl_55 o ?_
      refine AW.aload_n (pc := 29) (x := 50) dX12_addRow_29 rfl ?_
      refine AW.getR (pc := 30) (h2 := 55) dX12_addRow_30 fg_X12_22 kd_50 hl_50 rfl ?_
      refine AW.iload_n (pc := 33) (x := v1) dX12_addRow_33 rfl ?_
      obtain ⟨o, h⟩ := h
      refine AW.iald (pc := 34) dX12_addRow_34 kd_55 hl_55 o ?_
      obtain ⟨o, ha, hb⟩ := h
      refine AW.icmp_eq (pc := 35) (tgt := 41) dX12_addRow_35 (by decide) o.1 o.2 (fun hc => ?_) (fun hc => ?_)
      · have h := ha hc
        exact h
      · have h := hb hc
        refine AW.bipush (pc := 38) dX12_addRow_38 (by decide) ?_
        exact AW.iret (st := []) (pc := 40) dX12_addRow_40 rfl ⟨_, rfl, h⟩
  · have h := hb hc
    refine AW.bipush (pc := 8) dX12_addRow_8 (by decide) ?_
    exact AW.iret (st := []) (pc := 10) dX12_addRow_10 rfl ⟨_, rfl, h⟩

set_option maxRecDepth 20000 in
theorem sg_X12_addRow_41 {M : Mem} {K : Int → Mem → Prop} {v1 : Int} 
    (h : InR (M 50 13) ∧ ((M 50 13) ≠ 8 → ((0 ≤ (M 50 13) ∧ (M 50 13) < 8) ∧ K (((M 50 13) + 1) - 1) (up (up M 59 (M 50 13) v1) 50 13 ((M 50 13) + 1)))) ∧ (¬ ((M 50 13) ≠ 8) → (K (-6) M))) :
    AW mX12_addRow 41 [some (vR 50), some (vI v1)] [] M (QI K) := by
  refine AW.aload_n (pc := 41) (x := 50) dX12_addRow_41 rfl ?_
  refine AW.getI (pc := 42) dX12_addRow_42 fg_X12_251 kd_50 hl_50 rfl ?_
  refine AW.bipush (pc := 45) dX12_addRow_45 (by decide) ?_
  obtain ⟨o, ha, hb⟩ := h
  refine AW.icmp_ne (pc := 47) (tgt := 53) dX12_addRow_47 (by decide) o (by decide) (fun hc => ?_) (fun hc => ?_)
  · have h := ha hc
    refine AW.aload_n (pc := 53) (x := 50) dX12_addRow_53 rfl ?_
    refine AW.getR (pc := 54) (h2 := 59) dX12_addRow_54 fg_X12_34 kd_50 hl_50 rfl ?_
    refine AW.aload_n (pc := 57) (x := 50) dX12_addRow_57 rfl ?_
    refine AW.getI (pc := 58) dX12_addRow_58 fg_X12_251 kd_50 hl_50 rfl ?_
    refine AW.iload_n (pc := 61) (x := v1) dX12_addRow_61 rfl ?_
    obtain ⟨o, h⟩ := h
    refine AW.iast (pc := 62) dX12_addRow_62 kd_59 hl_59 o ?_
    refine AW.aload_n (pc := 63) (x := 50) dX12_addRow_63 rfl ?_
    refine AW.dup (pc := 64) dX12_addRow_64 rfl ?_
    refine AW.getI (pc := 65) dX12_addRow_65 fg_X12_251 kd_50 hl_50 rfl ?_
    refine AW.iconst (pc := 68) dX12_addRow_68 ?_
    refine AW.iadd (pc := 69) dX12_addRow_69 ?_
    refine AW.put (pc := 70) dX12_addRow_70 fp_X12_251 kd_50 hl_50 rfl ?_
    refine AW.aload_n (pc := 73) (x := 50) dX12_addRow_73 rfl ?_
    refine AW.getI (pc := 74) dX12_addRow_74 fg_X12_251 kd_50 hl_50 rfl ?_
    refine AW.iconst (pc := 77) dX12_addRow_77 ?_
    refine AW.isub (pc := 78) dX12_addRow_78 ?_
    exact AW.iret (st := []) (pc := 79) dX12_addRow_79 rfl ⟨_, rfl, h⟩
  · have h := hb hc
    refine AW.bipush (pc := 50) dX12_addRow_50 (by decide) ?_
    exact AW.iret (st := []) (pc := 52) dX12_addRow_52 rfl ⟨_, rfl, h⟩

set_option maxRecDepth 20000 in
theorem en_X12_addType {M : Mem} {K : Int → Mem → Prop} 
    (h : InR (M 50 0) ∧ ((M 50 0) ≠ 4 → (K (((M 50 0) + 1) - 1) (up M 50 0 ((M 50 0) + 1)))) ∧ (¬ ((M 50 0) ≠ 4) → (K (-6) M))) :
    CI mX12_addType [vR 50] M K := by
  show AW mX12_addType 0 [some (vR 50)] [] M (QI K)
  refine AW.aload_n (pc := 0) (x := 50) dX12_addType_0 rfl ?_
  refine AW.getI (pc := 1) dX12_addType_1 fg_X12_113 kd_50 hl_50 rfl ?_
  refine AW.iconst (pc := 4) dX12_addType_4 ?_
  obtain ⟨o, ha, hb⟩ := h
  refine AW.icmp_ne (pc := 5) (tgt := 11) dX12_addType_5 (by decide) o (by decide) (fun hc => ?_) (fun hc => ?_)
  · have h := ha hc
    refine AW.aload_n (pc := 11) (x := 50) dX12_addType_11 rfl ?_
    refine AW.dup (pc := 12) dX12_addType_12 rfl ?_
    refine AW.getI (pc := 13) dX12_addType_13 fg_X12_113 kd_50 hl_50 rfl ?_
    refine AW.iconst (pc := 16) dX12_addType_16 ?_
    refine AW.iadd (pc := 17) dX12_addType_17 ?_
    refine AW.put (pc := 18) dX12_addType_18 fp_X12_113 kd_50 hl_50 rfl ?_
    refine AW.aload_n (pc := 21) (x := 50) dX12_addType_21 rfl ?_
    refine AW.getI (pc := 22) dX12_addType_22 fg_X12_113 kd_50 hl_50 rfl ?_
    refine AW.iconst (pc := 25) dX12_addType_25 ?_
    refine AW.isub (pc := 26) dX12_addType_26 ?_
    exact AW.iret (st := []) (pc := 27) dX12_addType_27 rfl ⟨_, rfl, h⟩
  · have h := hb hc
    refine AW.bipush (pc := 8) dX12_addType_8 (by decide) ?_
    exact AW.iret (st := []) (pc := 10) dX12_addType_10 rfl ⟨_, rfl, h⟩

set_option maxRecDepth 20000 in
theorem en_X12_allBy {M : Mem} {K : Int → Mem → Prop} {v1 : Int} 
    (h : AW mX12_allBy 4 [some (vR 50), some (vI v1), some (vI 1), some (vI 0)] [] M (QI K)) :
    CI mX12_allBy [vR 50, vI v1] M K := by
  show AW mX12_allBy 0 [some (vR 50), some (vI v1), none, none] [] M (QI K)
  refine AW.iconst (pc := 0) dX12_allBy_0 ?_
  refine AW.istore_n (pc := 1) (ls2 := [some (vR 50), some (vI v1), some (vI 1), none]) dX12_allBy_1 (by decide) rfl ?_
  refine AW.iconst (pc := 2) dX12_allBy_2 ?_
  refine AW.istore_n (pc := 3) (ls2 := [some (vR 50), some (vI v1), some (vI 1), some (vI 0)]) dX12_allBy_3 (by decide) rfl ?_
  exact h

set_option maxRecDepth 20000 in
theorem sg_X12_allBy_4 {M : Mem} {K : Int → Mem → Prop} {v1 v2 v3 : Int} 
    (h : (0 ≤ v1 ∧ v1 < 12) ∧ (InR v3 ∧ InR (M 52 v1)) ∧ (v3 ≥ (M 52 v1) → (K v2 M)) ∧ (¬ (v3 ≥ (M 52 v1)) → (InR v2 ∧ (0 ≤ ((3 * v1) + v3) ∧ ((3 * v1) + v3) < 36) ∧ (0 ≤ (M 53 ((3 * v1) + v3)) ∧ (M 53 ((3 * v1) + v3)) < 4) ∧ InR (M 61 (M 53 ((3 * v1) + v3))) ∧ CI mX12_capped [vL (v2 * (M 61 (M 53 ((3 * v1) + v3))))] M (fun r33 M33 => AW mX12_allBy 4 [some (vR 50), some (vI v1), some (vI r33), some (vI (v3 + 1))] [] M33 (QI K))))) :
    AW mX12_allBy 4 [some (vR 50), some (vI v1), some (vI v2), some (vI v3)] [] M (QI K) := by
  refine AW.iload_n (pc := 4) (x := v3) dX12_allBy_4 rfl ?_
  refine AW.aload_n (pc := 5) (x := 50) dX12_allBy_5 rfl ?_
  refine AW.getR (pc := 6) (h2 := 52) dX12_allBy_6 fg_X12_13 kd_50 hl_50 rfl ?_
  refine AW.iload_n (pc := 9) (x := v1) dX12_allBy_9 rfl ?_
  obtain ⟨o, h⟩ := h
  refine AW.iald (pc := 10) dX12_allBy_10 kd_52 hl_52 o ?_
  obtain ⟨o, ha, hb⟩ := h
  refine AW.icmp_ge (pc := 11) (tgt := 43) dX12_allBy_11 (by decide) o.1 o.2 (fun hc => ?_) (fun hc => ?_)
  · have h := ha hc
    refine AW.iload_n (pc := 43) (x := v2) dX12_allBy_43 rfl ?_
    exact AW.iret (st := []) (pc := 44) dX12_allBy_44 rfl ⟨_, rfl, h⟩
  · have h := hb hc
    refine AW.iload_n (pc := 14) (x := v2) dX12_allBy_14 rfl ?_
    obtain ⟨o, h⟩ := h
    refine AW.i2l (pc := 15) dX12_allBy_15 o ?_
    refine AW.aload_n (pc := 16) (x := 50) dX12_allBy_16 rfl ?_
    refine AW.getR (pc := 17) (h2 := 61) dX12_allBy_17 fg_X12_40 kd_50 hl_50 rfl ?_
    refine AW.aload_n (pc := 20) (x := 50) dX12_allBy_20 rfl ?_
    refine AW.getR (pc := 21) (h2 := 53) dX12_allBy_21 fg_X12_16 kd_50 hl_50 rfl ?_
    refine AW.iconst (pc := 24) dX12_allBy_24 ?_
    refine AW.iload_n (pc := 25) (x := v1) dX12_allBy_25 rfl ?_
    refine AW.imul (pc := 26) dX12_allBy_26 ?_
    refine AW.iload_n (pc := 27) (x := v3) dX12_allBy_27 rfl ?_
    refine AW.iadd (pc := 28) dX12_allBy_28 ?_
    obtain ⟨o, h⟩ := h
    refine AW.iald (pc := 29) dX12_allBy_29 kd_53 hl_53 o ?_
    obtain ⟨o, h⟩ := h
    refine AW.iald (pc := 30) dX12_allBy_30 kd_61 hl_61 o ?_
    obtain ⟨o, h⟩ := h
    refine AW.i2l (pc := 31) dX12_allBy_31 o ?_
    refine AW.lmul (pc := 32) dX12_allBy_32 ?_
    refine AW.callS (pc := 33) (As := [vL (v2 * (M 61 (M 53 ((3 * v1) + v3))))]) (st := []) dX12_allBy_33 cl_X12_147 ⟨Nat.le_of_ble_eq_true rfl, Nat.le_of_ble_eq_true rfl⟩ (Nat.le_of_ble_eq_true rfl) (Nat.le_of_ble_eq_true rfl) h ?_
    rintro _ M33 ⟨r33, rfl, h⟩
    show AW mX12_allBy 36 [some (vR 50), some (vI v1), some (vI v2), some (vI v3)] [vI r33] M33 (QI K)
    refine AW.istore_n (pc := 36) (ls2 := [some (vR 50), some (vI v1), some (vI r33), some (vI v3)]) dX12_allBy_36 (by decide) rfl ?_
    refine AW.iinc (pc := 37) (x := v3) (ls2 := [some (vR 50), some (vI v1), some (vI r33), some (vI (v3 + 1))]) dX12_allBy_37 rfl (by decide) rfl ?_
    refine AW.goto (pc := 40) (tgt := 4) dX12_allBy_40 (by decide) ?_
    exact h

set_option maxRecDepth 20000 in
theorem en_X12_areSame {M : Mem} {K : Int → Mem → Prop} {v1 v2 : Int} 
    (h : (0 ≤ v1 ∧ v1 < 64) ∧ (0 ≤ v2 ∧ v2 < 64) ∧ (InR (M 66 v1) ∧ InR (M 66 v2)) ∧ ((M 66 v1) ≠ (M 66 v2) → (AW mX12_areSame 24 [some (vR 50), some (vI v1), some (vI v2), some (vI 0), some (vI 0)] [] M (QI K))) ∧ (¬ ((M 66 v1) ≠ (M 66 v2)) → (AW mX12_areSame 24 [some (vR 50), some (vI v1), some (vI v2), some (vI 1), some (vI 0)] [] M (QI K)))) :
    CI mX12_areSame [vR 50, vI v1, vI v2] M K := by
  show AW mX12_areSame 0 [some (vR 50), some (vI v1), some (vI v2), none, none] [] M (QI K)
  refine AW.aload_n (pc := 0) (x := 50) dX12_areSame_0 rfl ?_
  refine AW.getR (pc := 1) (h2 := 66) dX12_areSame_1 fg_X12_56 kd_50 hl_50 rfl ?_
  refine AW.iload_n (pc := 4) (x := v1) dX12_areSame_4 rfl ?_
  obtain ⟨o, h⟩ := h
  refine AW.iald (pc := 5) dX12_areSame_5 kd_66 hl_66 o ?_
  refine AW.aload_n (pc := 6) (x := 50) dX12_areSame_6 rfl ?_
  refine AW.getR (pc := 7) (h2 := 66) dX12_areSame_7 fg_X12_56 kd_50 hl_50 rfl ?_
  refine AW.iload_n (pc := 10) (x := v2) dX12_areSame_10 rfl ?_
  obtain ⟨o, h⟩ := h
  refine AW.iald (pc := 11) dX12_areSame_11 kd_66 hl_66 o ?_
  obtain ⟨o, ha, hb⟩ := h
  refine AW.icmp_ne (pc := 12) (tgt := 19) dX12_areSame_12 (by decide) o.1 o.2 (fun hc => ?_) (fun hc => ?_)
  · have h := ha hc
    refine AW.iconst (pc := 19) dX12_areSame_19 ?_
    refine AW.istore_n (pc := 20) (ls2 := [some (vR 50), some (vI v1), some (vI v2), some (vI 0), none]) dX12_areSame_20 (by decide) rfl ?_
    refine AW.iconst (pc := 21) dX12_areSame_21 ?_
    refine AW.istore (pc := 22) (ls2 := [some (vR 50), some (vI v1), some (vI v2), some (vI 0), some (vI 0)]) dX12_areSame_22 (by decide) rfl ?_
    exact h
  · have h := hb hc
    refine AW.iconst (pc := 15) dX12_areSame_15 ?_
    refine AW.goto (pc := 16) (tgt := 20) dX12_areSame_16 (by decide) ?_
    refine AW.istore_n (pc := 20) (ls2 := [some (vR 50), some (vI v1), some (vI v2), some (vI 1), none]) dX12_areSame_20 (by decide) rfl ?_
    refine AW.iconst (pc := 21) dX12_areSame_21 ?_
    refine AW.istore (pc := 22) (ls2 := [some (vR 50), some (vI v1), some (vI v2), some (vI 1), some (vI 0)]) dX12_areSame_22 (by decide) rfl ?_
    exact h

set_option maxRecDepth 20000 in
theorem sg_X12_areSame_24 {M : Mem} {K : Int → Mem → Prop} {v1 v2 v3 v4 : Int} 
    (h : (0 ≤ v1 ∧ v1 < 64) ∧ (InR v4 ∧ InR (M 66 v1)) ∧ (v4 ≥ (M 66 v1) → (((v3 = 0 ∨ v3 = 1) ∧ K v3 M))) ∧ (¬ (v4 ≥ (M 66 v1)) → (InR v3 ∧ (v3 = 0 → (((v3 = 0 ∨ v3 = 1) ∧ K v3 M))) ∧ (¬ (v3 = 0) → ((0 ≤ (v1 + v4) ∧ (v1 + v4) < 64) ∧ (0 ≤ (v2 + v4) ∧ (v2 + v4) < 64) ∧ (InR (M 65 (v1 + v4)) ∧ InR (M 65 (v2 + v4))) ∧ ((M 65 (v1 + v4)) ≠ (M 65 (v2 + v4)) → (AW mX12_areSame 24 [some (vR 50), some (vI v1), some (vI v2), some (vI 0), some (vI (v4 + 1))] [] M (QI K))) ∧ (¬ ((M 65 (v1 + v4)) ≠ (M 65 (v2 + v4))) → (AW mX12_areSame 24 [some (vR 50), some (vI v1), some (vI v2), some (vI 1), some (vI (v4 + 1))] [] M (QI K)))))))) :
    AW mX12_areSame 24 [some (vR 50), some (vI v1), some (vI v2), some (vI v3), some (vI v4)] [] M (QI K) := by
  refine AW.iload (pc := 24) (x := v4) dX12_areSame_24 rfl ?_
  refine AW.aload_n (pc := 26) (x := 50) dX12_areSame_26 rfl ?_
  refine AW.getR (pc := 27) (h2 := 66) dX12_areSame_27 fg_X12_56 kd_50 hl_50 rfl ?_
  refine AW.iload_n (pc := 30) (x := v1) dX12_areSame_30 rfl ?_
  obtain ⟨o, h⟩ := h
  refine AW.iald (pc := 31) dX12_areSame_31 kd_66 hl_66 o ?_
  obtain ⟨o, ha, hb⟩ := h
  refine AW.icmp_ge (pc := 32) (tgt := 72) dX12_areSame_32 (by decide) o.1 o.2 (fun hc => ?_) (fun hc => ?_)
  · have h := ha hc
    refine AW.iload_n (pc := 72) (x := v3) dX12_areSame_72 rfl ?_
    exact AW.zret (st := []) (pc := 73) dX12_areSame_73 rfl h.1 ⟨_, rfl, h.2⟩
  · have h := hb hc
    refine AW.iload_n (pc := 35) (x := v3) dX12_areSame_35 rfl ?_
    obtain ⟨o, ha, hb⟩ := h
    refine AW.if_eq (pc := 36) (tgt := 72) dX12_areSame_36 (by decide) o (fun hc => ?_) (fun hc => ?_)
    · have h := ha hc
      refine AW.iload_n (pc := 72) (x := v3) dX12_areSame_72 rfl ?_
      exact AW.zret (st := []) (pc := 73) dX12_areSame_73 rfl h.1 ⟨_, rfl, h.2⟩
    · have h := hb hc
      refine AW.aload_n (pc := 39) (x := 50) dX12_areSame_39 rfl ?_
      refine AW.getR (pc := 40) (h2 := 65) dX12_areSame_40 fg_X12_53 kd_50 hl_50 rfl ?_
      refine AW.iload_n (pc := 43) (x := v1) dX12_areSame_43 rfl ?_
      refine AW.iload (pc := 44) (x := v4) dX12_areSame_44 rfl ?_
      refine AW.iadd (pc := 46) dX12_areSame_46 ?_
      obtain ⟨o, h⟩ := h
      refine AW.iald (pc := 47) dX12_areSame_47 kd_65 hl_65 o ?_
      refine AW.aload_n (pc := 48) (x := 50) dX12_areSame_48 rfl ?_
      refine AW.getR (pc := 49) (h2 := 65) dX12_areSame_49 fg_X12_53 kd_50 hl_50 rfl ?_
      refine AW.iload_n (pc := 52) (x := v2) dX12_areSame_52 rfl ?_
      refine AW.iload (pc := 53) (x := v4) dX12_areSame_53 rfl ?_
      refine AW.iadd (pc := 55) dX12_areSame_55 ?_
      obtain ⟨o, h⟩ := h
      refine AW.iald (pc := 56) dX12_areSame_56 kd_65 hl_65 o ?_
      obtain ⟨o, ha, hb⟩ := h
      refine AW.icmp_ne (pc := 57) (tgt := 64) dX12_areSame_57 (by decide) o.1 o.2 (fun hc => ?_) (fun hc => ?_)
      · have h := ha hc
        refine AW.iconst (pc := 64) dX12_areSame_64 ?_
        refine AW.istore_n (pc := 65) (ls2 := [some (vR 50), some (vI v1), some (vI v2), some (vI 0), some (vI v4)]) dX12_areSame_65 (by decide) rfl ?_
        refine AW.iinc (pc := 66) (x := v4) (ls2 := [some (vR 50), some (vI v1), some (vI v2), some (vI 0), some (vI (v4 + 1))]) dX12_areSame_66 rfl (by decide) rfl ?_
        refine AW.goto (pc := 69) (tgt := 24) dX12_areSame_69 (by decide) ?_
        exact h
      · have h := hb hc
        refine AW.iconst (pc := 60) dX12_areSame_60 ?_
        refine AW.goto (pc := 61) (tgt := 65) dX12_areSame_61 (by decide) ?_
        refine AW.istore_n (pc := 65) (ls2 := [some (vR 50), some (vI v1), some (vI v2), some (vI 1), some (vI v4)]) dX12_areSame_65 (by decide) rfl ?_
        refine AW.iinc (pc := 66) (x := v4) (ls2 := [some (vR 50), some (vI v1), some (vI v2), some (vI 1), some (vI (v4 + 1))]) dX12_areSame_66 rfl (by decide) rfl ?_
        refine AW.goto (pc := 69) (tgt := 24) dX12_areSame_69 (by decide) ?_
        exact h

set_option maxRecDepth 20000 in
theorem en_X12_argumentType {M : Mem} {K : Int → Mem → Prop} {v1 v2 : Int} 
    (h : CI mX12_isConstructor [vR 50, vI v1] M (fun r2 M2 => InR r2 ∧ (r2 ≠ 0 → ((0 ≤ v1 ∧ v1 < 12) ∧ CI mX12_in [vI v2, vI 0, vI ((M2 52 v1) - 1)] M2 (fun r21 M21 => InR r21 ∧ (r21 = 0 → (K (-13) M21)) ∧ (¬ (r21 = 0) → ((0 ≤ ((3 * v1) + v2) ∧ ((3 * v1) + v2) < 36) ∧ K (M21 53 ((3 * v1) + v2)) M21))))) ∧ (¬ (r2 ≠ 0) → (K (-2) M2)))) :
    CI mX12_argumentType [vR 50, vI v1, vI v2] M K := by
  show AW mX12_argumentType 0 [some (vR 50), some (vI v1), some (vI v2)] [] M (QI K)
  refine AW.aload_n (pc := 0) (x := 50) dX12_argumentType_0 rfl ?_
  refine AW.iload_n (pc := 1) (x := v1) dX12_argumentType_1 rfl ?_
  refine AW.callV (pc := 2) (As := [vI v1]) (st := []) dX12_argumentType_2 cl_X12_134 kd_50 hl_50 ⟨Nat.le_of_ble_eq_true rfl, Nat.le_of_ble_eq_true rfl⟩ (Nat.le_of_ble_eq_true rfl) (Nat.le_of_ble_eq_true rfl) h ?_
  rintro _ M2 ⟨r2, rfl, h⟩
  show AW mX12_argumentType 5 [some (vR 50), some (vI v1), some (vI v2)] [vI r2] M2 (QI K)
  obtain ⟨o, ha, hb⟩ := h
  refine AW.if_ne (pc := 5) (tgt := 11) dX12_argumentType_5 (by decide) o (fun hc => ?_) (fun hc => ?_)
  · have h := ha hc
    refine AW.iload_n (pc := 11) (x := v2) dX12_argumentType_11 rfl ?_
    refine AW.iconst (pc := 12) dX12_argumentType_12 ?_
    refine AW.aload_n (pc := 13) (x := 50) dX12_argumentType_13 rfl ?_
    refine AW.getR (pc := 14) (h2 := 52) dX12_argumentType_14 fg_X12_13 kd_50 hl_50 rfl ?_
    refine AW.iload_n (pc := 17) (x := v1) dX12_argumentType_17 rfl ?_
    obtain ⟨o, h⟩ := h
    refine AW.iald (pc := 18) dX12_argumentType_18 kd_52 hl_52 o ?_
    refine AW.iconst (pc := 19) dX12_argumentType_19 ?_
    refine AW.isub (pc := 20) dX12_argumentType_20 ?_
    refine AW.callS (pc := 21) (As := [vI v2, vI 0, vI ((M2 52 v1) - 1)]) (st := []) dX12_argumentType_21 cl_X12_117 ⟨Nat.le_of_ble_eq_true rfl, Nat.le_of_ble_eq_true rfl⟩ (Nat.le_of_ble_eq_true rfl) (Nat.le_of_ble_eq_true rfl) h ?_
    rintro _ M21 ⟨r21, rfl, h⟩
    show AW mX12_argumentType 24 [some (vR 50), some (vI v1), some (vI v2)] [vI r21] M21 (QI K)
    obtain ⟨o, ha, hb⟩ := h
    refine AW.if_eq (pc := 24) (tgt := 40) dX12_argumentType_24 (by decide) o (fun hc => ?_) (fun hc => ?_)
    · have h := ha hc
      refine AW.bipush (pc := 40) dX12_argumentType_40 (by decide) ?_
      exact AW.iret (st := []) (pc := 42) dX12_argumentType_42 rfl ⟨_, rfl, h⟩
    · have h := hb hc
      refine AW.aload_n (pc := 27) (x := 50) dX12_argumentType_27 rfl ?_
      refine AW.getR (pc := 28) (h2 := 53) dX12_argumentType_28 fg_X12_16 kd_50 hl_50 rfl ?_
      refine AW.iconst (pc := 31) dX12_argumentType_31 ?_
      refine AW.iload_n (pc := 32) (x := v1) dX12_argumentType_32 rfl ?_
      refine AW.imul (pc := 33) dX12_argumentType_33 ?_
      refine AW.iload_n (pc := 34) (x := v2) dX12_argumentType_34 rfl ?_
      refine AW.iadd (pc := 35) dX12_argumentType_35 ?_
      obtain ⟨o, h⟩ := h
      refine AW.iald (pc := 36) dX12_argumentType_36 kd_53 hl_53 o ?_
      refine AW.goto (pc := 37) (tgt := 42) dX12_argumentType_37 (by decide) ?_
      exact AW.iret (st := []) (pc := 42) dX12_argumentType_42 rfl ⟨_, rfl, h⟩
  · have h := hb hc
    refine AW.bipush (pc := 8) dX12_argumentType_8 (by decide) ?_
    exact AW.iret (st := []) (pc := 10) dX12_argumentType_10 rfl ⟨_, rfl, h⟩

set_option maxRecDepth 20000 in
theorem en_X12_arity {M : Mem} {K : Int → Mem → Prop} {v1 : Int} 
    (h : CI mX12_isConstructor [vR 50, vI v1] M (fun r2 M2 => InR r2 ∧ (r2 = 0 → (K (-2) M2)) ∧ (¬ (r2 = 0) → ((0 ≤ v1 ∧ v1 < 12) ∧ K (M2 52 v1) M2)))) :
    CI mX12_arity [vR 50, vI v1] M K := by
  show AW mX12_arity 0 [some (vR 50), some (vI v1)] [] M (QI K)
  refine AW.aload_n (pc := 0) (x := 50) dX12_arity_0 rfl ?_
  refine AW.iload_n (pc := 1) (x := v1) dX12_arity_1 rfl ?_
  refine AW.callV (pc := 2) (As := [vI v1]) (st := []) dX12_arity_2 cl_X12_134 kd_50 hl_50 ⟨Nat.le_of_ble_eq_true rfl, Nat.le_of_ble_eq_true rfl⟩ (Nat.le_of_ble_eq_true rfl) (Nat.le_of_ble_eq_true rfl) h ?_
  rintro _ M2 ⟨r2, rfl, h⟩
  show AW mX12_arity 5 [some (vR 50), some (vI v1)] [vI r2] M2 (QI K)
  obtain ⟨o, ha, hb⟩ := h
  refine AW.if_eq (pc := 5) (tgt := 17) dX12_arity_5 (by decide) o (fun hc => ?_) (fun hc => ?_)
  · have h := ha hc
    refine AW.bipush (pc := 17) dX12_arity_17 (by decide) ?_
    exact AW.iret (st := []) (pc := 19) dX12_arity_19 rfl ⟨_, rfl, h⟩
  · have h := hb hc
    refine AW.aload_n (pc := 8) (x := 50) dX12_arity_8 rfl ?_
    refine AW.getR (pc := 9) (h2 := 52) dX12_arity_9 fg_X12_13 kd_50 hl_50 rfl ?_
    refine AW.iload_n (pc := 12) (x := v1) dX12_arity_12 rfl ?_
    obtain ⟨o, h⟩ := h
    refine AW.iald (pc := 13) dX12_arity_13 kd_52 hl_52 o ?_
    refine AW.goto (pc := 14) (tgt := 19) dX12_arity_14 (by decide) ?_
    exact AW.iret (st := []) (pc := 19) dX12_arity_19 rfl ⟨_, rfl, h⟩

set_option maxRecDepth 20000 in
theorem en_X12_beginPairs {M : Mem} {K : Mem → Prop} {v1 v2 : Int} 
    (h : AW mX12_beginPairs 2 [some (vR 50), some (vI v1), some (vI v2), some (vI 0)] [] M (QV K)) :
    CV mX12_beginPairs [vR 50, vI v1, vI v2] M K := by
  show AW mX12_beginPairs 0 [some (vR 50), some (vI v1), some (vI v2), none] [] M (QV K)
  refine AW.iconst (pc := 0) dX12_beginPairs_0 ?_
  refine AW.istore_n (pc := 1) (ls2 := [some (vR 50), some (vI v1), some (vI v2), some (vI 0)]) dX12_beginPairs_1 (by decide) rfl ?_
  exact h

set_option maxRecDepth 20000 in
theorem sg_X12_beginPairs_2 {M : Mem} {K : Mem → Prop} {v1 v2 v3 : Int} 
    (h : InR v3 ∧ (v3 ≥ 10000 → (K (up (up (up M 77 0 v1) 78 0 v2) 50 34 1))) ∧ (¬ (v3 ≥ 10000) → ((0 ≤ v3 ∧ v3 < 10000) ∧ AW mX12_beginPairs 2 [some (vR 50), some (vI v1), some (vI v2), some (vI (v3 + 1))] [] (up M 79 v3 0) (QV K)))) :
    AW mX12_beginPairs 2 [some (vR 50), some (vI v1), some (vI v2), some (vI v3)] [] M (QV K) := by
  refine AW.iload_n (pc := 2) (x := v3) dX12_beginPairs_2 rfl ?_
  refine AW.sipush (pc := 3) dX12_beginPairs_3 (by decide) ?_
  obtain ⟨o, ha, hb⟩ := h
  refine AW.icmp_ge (pc := 6) (tgt := 22) dX12_beginPairs_6 (by decide) o (by decide) (fun hc => ?_) (fun hc => ?_)
  · have h := ha hc
    refine AW.aload_n (pc := 22) (x := 50) dX12_beginPairs_22 rfl ?_
    refine AW.getR (pc := 23) (h2 := 77) dX12_beginPairs_23 fg_X12_89 kd_50 hl_50 rfl ?_
    refine AW.iconst (pc := 26) dX12_beginPairs_26 ?_
    refine AW.iload_n (pc := 27) (x := v1) dX12_beginPairs_27 rfl ?_
    refine AW.iast (pc := 28) dX12_beginPairs_28 kd_77 hl_77 (by decide) ?_
    refine AW.aload_n (pc := 29) (x := 50) dX12_beginPairs_29 rfl ?_
    refine AW.getR (pc := 30) (h2 := 78) dX12_beginPairs_30 fg_X12_92 kd_50 hl_50 rfl ?_
    refine AW.iconst (pc := 33) dX12_beginPairs_33 ?_
    refine AW.iload_n (pc := 34) (x := v2) dX12_beginPairs_34 rfl ?_
    refine AW.iast (pc := 35) dX12_beginPairs_35 kd_78 hl_78 (by decide) ?_
    refine AW.aload_n (pc := 36) (x := 50) dX12_beginPairs_36 rfl ?_
    refine AW.iconst (pc := 37) dX12_beginPairs_37 ?_
    refine AW.put (pc := 38) dX12_beginPairs_38 fp_X12_223 kd_50 hl_50 rfl ?_
    exact AW.vret (st := []) (pc := 41) dX12_beginPairs_41 rfl ⟨rfl, h⟩
  · have h := hb hc
    refine AW.aload_n (pc := 9) (x := 50) dX12_beginPairs_9 rfl ?_
    refine AW.getR (pc := 10) (h2 := 79) dX12_beginPairs_10 fg_X12_95 kd_50 hl_50 rfl ?_
    refine AW.iload_n (pc := 13) (x := v3) dX12_beginPairs_13 rfl ?_
    refine AW.iconst (pc := 14) dX12_beginPairs_14 ?_
    obtain ⟨o, h⟩ := h
    refine AW.zast (pc := 15) dX12_beginPairs_15 kd_79 hl_79 o (by decide) ?_
    refine AW.iinc (pc := 16) (x := v3) (ls2 := [some (vR 50), some (vI v1), some (vI v2), some (vI (v3 + 1))]) dX12_beginPairs_16 rfl (by decide) rfl ?_
    refine AW.goto (pc := 19) (tgt := 2) dX12_beginPairs_19 (by decide) ?_
    exact h

set_option maxRecDepth 20000 in
theorem en_X12_bind {M : Mem} {K : Mem → Prop} {v1 v2 : Int} 
    (h : (0 ≤ v1 ∧ v1 < 100) ∧ (0 ≤ (M 50 37) ∧ (M 50 37) < 100) ∧ K (up (up (up M 57 v1 v2) 80 (M 50 37) v1) 50 37 ((M 50 37) + 1))) :
    CV mX12_bind [vR 50, vI v1, vI v2] M K := by
  show AW mX12_bind 0 [some (vR 50), some (vI v1), some (vI v2)] [] M (QV K)
  refine AW.aload_n (pc := 0) (x := 50) dX12_bind_0 rfl ?_
  refine AW.getR (pc := 1) (h2 := 57) dX12_bind_1 fg_X12_28 kd_50 hl_50 rfl ?_
  refine AW.iload_n (pc := 4) (x := v1) dX12_bind_4 rfl ?_
  refine AW.iload_n (pc := 5) (x := v2) dX12_bind_5 rfl ?_
  obtain ⟨o, h⟩ := h
  refine AW.iast (pc := 6) dX12_bind_6 kd_57 hl_57 o ?_
  refine AW.aload_n (pc := 7) (x := 50) dX12_bind_7 rfl ?_
  refine AW.getR (pc := 8) (h2 := 80) dX12_bind_8 fg_X12_98 kd_50 hl_50 rfl ?_
  refine AW.aload_n (pc := 11) (x := 50) dX12_bind_11 rfl ?_
  refine AW.getI (pc := 12) dX12_bind_12 fg_X12_232 kd_50 hl_50 rfl ?_
  refine AW.iload_n (pc := 15) (x := v1) dX12_bind_15 rfl ?_
  obtain ⟨o, h⟩ := h
  refine AW.iast (pc := 16) dX12_bind_16 kd_80 hl_80 o ?_
  refine AW.aload_n (pc := 17) (x := 50) dX12_bind_17 rfl ?_
  refine AW.dup (pc := 18) dX12_bind_18 rfl ?_
  refine AW.getI (pc := 19) dX12_bind_19 fg_X12_232 kd_50 hl_50 rfl ?_
  refine AW.iconst (pc := 22) dX12_bind_22 ?_
  refine AW.iadd (pc := 23) dX12_bind_23 ?_
  refine AW.put (pc := 24) dX12_bind_24 fp_X12_232 kd_50 hl_50 rfl ?_
  exact AW.vret (st := []) (pc := 27) dX12_bind_27 rfl ⟨rfl, h⟩

set_option maxRecDepth 20000 in
theorem en_X12_binding {M : Mem} {K : Int → Mem → Prop} {v1 : Int} 
    (h : CI mX12_isNode [vR 50, vI v1] M (fun r2 M2 => InR r2 ∧ (r2 = 0 → (K (-3) M2)) ∧ (¬ (r2 = 0) → ((0 ≤ v1 ∧ v1 < 100) ∧ K (M2 57 v1) M2)))) :
    CI mX12_binding [vR 50, vI v1] M K := by
  show AW mX12_binding 0 [some (vR 50), some (vI v1)] [] M (QI K)
  refine AW.aload_n (pc := 0) (x := 50) dX12_binding_0 rfl ?_
  refine AW.iload_n (pc := 1) (x := v1) dX12_binding_1 rfl ?_
  refine AW.callV (pc := 2) (As := [vI v1]) (st := []) dX12_binding_2 cl_X12_199 kd_50 hl_50 ⟨Nat.le_of_ble_eq_true rfl, Nat.le_of_ble_eq_true rfl⟩ (Nat.le_of_ble_eq_true rfl) (Nat.le_of_ble_eq_true rfl) h ?_
  rintro _ M2 ⟨r2, rfl, h⟩
  show AW mX12_binding 5 [some (vR 50), some (vI v1)] [vI r2] M2 (QI K)
  obtain ⟨o, ha, hb⟩ := h
  refine AW.if_eq (pc := 5) (tgt := 17) dX12_binding_5 (by decide) o (fun hc => ?_) (fun hc => ?_)
  · have h := ha hc
    refine AW.bipush (pc := 17) dX12_binding_17 (by decide) ?_
    exact AW.iret (st := []) (pc := 19) dX12_binding_19 rfl ⟨_, rfl, h⟩
  · have h := hb hc
    refine AW.aload_n (pc := 8) (x := 50) dX12_binding_8 rfl ?_
    refine AW.getR (pc := 9) (h2 := 57) dX12_binding_9 fg_X12_28 kd_50 hl_50 rfl ?_
    refine AW.iload_n (pc := 12) (x := v1) dX12_binding_12 rfl ?_
    obtain ⟨o, h⟩ := h
    refine AW.iald (pc := 13) dX12_binding_13 kd_57 hl_57 o ?_
    refine AW.goto (pc := 14) (tgt := 19) dX12_binding_14 (by decide) ?_
    exact AW.iret (st := []) (pc := 19) dX12_binding_19 rfl ⟨_, rfl, h⟩

set_option maxRecDepth 20000 in
theorem en_X12_blockOf {M : Mem} {K : Int → Mem → Prop} {v1 v2 v3 v4 v5 : Int} 
    (h : CI mX12_countOf [vR 50, vI v3, vI v4] M (fun r4 M4 => InR r4 ∧ CI mX12_way [vI v1, vI (v2 + 1), vI (v5 - v4)] M4 (fun r21 M21 => (0 ≤ r21 ∧ r21 < 624) ∧ InR (M21 64 r21) ∧ CI mX12_capped [vL (r4 * (M21 64 r21))] M21 (fun r27 M27 => K r27 M27)))) :
    CI mX12_blockOf [vR 50, vI v1, vI v2, vI v3, vI v4, vI v5] M K := by
  show AW mX12_blockOf 0 [some (vR 50), some (vI v1), some (vI v2), some (vI v3), some (vI v4), some (vI v5)] [] M (QI K)
  refine AW.aload_n (pc := 0) (x := 50) dX12_blockOf_0 rfl ?_
  refine AW.iload_n (pc := 1) (x := v3) dX12_blockOf_1 rfl ?_
  refine AW.iload (pc := 2) (x := v4) dX12_blockOf_2 rfl ?_
  refine AW.callV (pc := 4) (As := [vI v3, vI v4]) (st := []) dX12_blockOf_4 cl_X12_164 kd_50 hl_50 ⟨Nat.le_of_ble_eq_true rfl, Nat.le_of_ble_eq_true rfl⟩ (Nat.le_of_ble_eq_true rfl) (Nat.le_of_ble_eq_true rfl) h ?_
  rintro _ M4 ⟨r4, rfl, h⟩
  show AW mX12_blockOf 7 [some (vR 50), some (vI v1), some (vI v2), some (vI v3), some (vI v4), some (vI v5)] [vI r4] M4 (QI K)
  obtain ⟨o, h⟩ := h
  refine AW.i2l (pc := 7) dX12_blockOf_7 o ?_
  refine AW.aload_n (pc := 8) (x := 50) dX12_blockOf_8 rfl ?_
  refine AW.getR (pc := 9) (h2 := 64) dX12_blockOf_9 fg_X12_50 kd_50 hl_50 rfl ?_
  refine AW.iload_n (pc := 12) (x := v1) dX12_blockOf_12 rfl ?_
  refine AW.iload_n (pc := 13) (x := v2) dX12_blockOf_13 rfl ?_
  refine AW.iconst (pc := 14) dX12_blockOf_14 ?_
  refine AW.iadd (pc := 15) dX12_blockOf_15 ?_
  refine AW.iload (pc := 16) (x := v5) dX12_blockOf_16 rfl ?_
  refine AW.iload (pc := 18) (x := v4) dX12_blockOf_18 rfl ?_
  refine AW.isub (pc := 20) dX12_blockOf_20 ?_
  refine AW.callS (pc := 21) (As := [vI v1, vI (v2 + 1), vI (v5 - v4)]) (st := [vR 64, vL r4]) dX12_blockOf_21 cl_X12_160 ⟨Nat.le_of_ble_eq_true rfl, Nat.le_of_ble_eq_true rfl⟩ (Nat.le_of_ble_eq_true rfl) (Nat.le_of_ble_eq_true rfl) h ?_
  rintro _ M21 ⟨r21, rfl, h⟩
  show AW mX12_blockOf 24 [some (vR 50), some (vI v1), some (vI v2), some (vI v3), some (vI v4), some (vI v5)] [vI r21, vR 64, vL r4] M21 (QI K)
  obtain ⟨o, h⟩ := h
  refine AW.iald (pc := 24) dX12_blockOf_24 kd_64 hl_64 o ?_
  obtain ⟨o, h⟩ := h
  refine AW.i2l (pc := 25) dX12_blockOf_25 o ?_
  refine AW.lmul (pc := 26) dX12_blockOf_26 ?_
  refine AW.callS (pc := 27) (As := [vL (r4 * (M21 64 r21))]) (st := []) dX12_blockOf_27 cl_X12_147 ⟨Nat.le_of_ble_eq_true rfl, Nat.le_of_ble_eq_true rfl⟩ (Nat.le_of_ble_eq_true rfl) (Nat.le_of_ble_eq_true rfl) h ?_
  rintro _ M27 ⟨r27, rfl, h⟩
  show AW mX12_blockOf 30 [some (vR 50), some (vI v1), some (vI v2), some (vI v3), some (vI v4), some (vI v5)] [vI r27] M27 (QI K)
  exact AW.iret (st := []) (pc := 30) dX12_blockOf_30 rfl ⟨_, rfl, h⟩

set_option maxRecDepth 20000 in
theorem en_X12_boundCount {M : Mem} {K : Int → Mem → Prop} 
    (h : AW mX12_boundCount 4 [some (vR 50), some (vI 0), some (vI 0)] [] M (QI K)) :
    CI mX12_boundCount [vR 50] M K := by
  show AW mX12_boundCount 0 [some (vR 50), none, none] [] M (QI K)
  refine AW.iconst (pc := 0) dX12_boundCount_0 ?_
  refine AW.istore_n (pc := 1) (ls2 := [some (vR 50), some (vI 0), none]) dX12_boundCount_1 (by decide) rfl ?_
  refine AW.iconst (pc := 2) dX12_boundCount_2 ?_
  refine AW.istore_n (pc := 3) (ls2 := [some (vR 50), some (vI 0), some (vI 0)]) dX12_boundCount_3 (by decide) rfl ?_
  exact h

set_option maxRecDepth 20000 in
theorem sg_X12_boundCount_4 {M : Mem} {K : Int → Mem → Prop} {v1 v2 : Int} 
    (h : (InR v2 ∧ InR (M 50 5)) ∧ (v2 ≥ (M 50 5) → (K v1 M)) ∧ (¬ (v2 ≥ (M 50 5)) → ((0 ≤ v2 ∧ v2 < 100) ∧ InR (M 57 v2) ∧ ((M 57 v2) < 0 → (AW mX12_boundCount 4 [some (vR 50), some (vI (v1 + 0)), some (vI (v2 + 1))] [] M (QI K))) ∧ (¬ ((M 57 v2) < 0) → (AW mX12_boundCount 4 [some (vR 50), some (vI (v1 + 1)), some (vI (v2 + 1))] [] M (QI K)))))) :
    AW mX12_boundCount 4 [some (vR 50), some (vI v1), some (vI v2)] [] M (QI K) := by
  refine AW.iload_n (pc := 4) (x := v2) dX12_boundCount_4 rfl ?_
  refine AW.aload_n (pc := 5) (x := 50) dX12_boundCount_5 rfl ?_
  refine AW.getI (pc := 6) dX12_boundCount_6 fg_X12_124 kd_50 hl_50 rfl ?_
  obtain ⟨o, ha, hb⟩ := h
  refine AW.icmp_ge (pc := 9) (tgt := 35) dX12_boundCount_9 (by decide) o.1 o.2 (fun hc => ?_) (fun hc => ?_)
  · have h := ha hc
    refine AW.iload_n (pc := 35) (x := v1) dX12_boundCount_35 rfl ?_
    exact AW.iret (st := []) (pc := 36) dX12_boundCount_36 rfl ⟨_, rfl, h⟩
  · have h := hb hc
    refine AW.iload_n (pc := 12) (x := v1) dX12_boundCount_12 rfl ?_
    refine AW.aload_n (pc := 13) (x := 50) dX12_boundCount_13 rfl ?_
    refine AW.getR (pc := 14) (h2 := 57) dX12_boundCount_14 fg_X12_28 kd_50 hl_50 rfl ?_
    refine AW.iload_n (pc := 17) (x := v2) dX12_boundCount_17 rfl ?_
    obtain ⟨o, h⟩ := h
    refine AW.iald (pc := 18) dX12_boundCount_18 kd_57 hl_57 o ?_
    obtain ⟨o, ha, hb⟩ := h
    refine AW.if_lt (pc := 19) (tgt := 26) dX12_boundCount_19 (by decide) o (fun hc => ?_) (fun hc => ?_)
    · have h := ha hc
      refine AW.iconst (pc := 26) dX12_boundCount_26 ?_
      refine AW.iadd (pc := 27) dX12_boundCount_27 ?_
      refine AW.istore_n (pc := 28) (ls2 := [some (vR 50), some (vI (v1 + 0)), some (vI v2)]) dX12_boundCount_28 (by decide) rfl ?_
      refine AW.iinc (pc := 29) (x := v2) (ls2 := [some (vR 50), some (vI (v1 + 0)), some (vI (v2 + 1))]) dX12_boundCount_29 rfl (by decide) rfl ?_
      refine AW.goto (pc := 32) (tgt := 4) dX12_boundCount_32 (by decide) ?_
      exact h
    · have h := hb hc
      refine AW.iconst (pc := 22) dX12_boundCount_22 ?_
      refine AW.goto (pc := 23) (tgt := 27) dX12_boundCount_23 (by decide) ?_
      refine AW.iadd (pc := 27) dX12_boundCount_27 ?_
      refine AW.istore_n (pc := 28) (ls2 := [some (vR 50), some (vI (v1 + 1)), some (vI v2)]) dX12_boundCount_28 (by decide) rfl ?_
      refine AW.iinc (pc := 29) (x := v2) (ls2 := [some (vR 50), some (vI (v1 + 1)), some (vI (v2 + 1))]) dX12_boundCount_29 rfl (by decide) rfl ?_
      refine AW.goto (pc := 32) (tgt := 4) dX12_boundCount_32 (by decide) ?_
      exact h

set_option maxRecDepth 20000 in
theorem en_X12_capped {M : Mem} {K : Int → Mem → Prop} {v0 : Int} 
    (h : InR8 v0 ∧ (v0 ≤ 1000000 → (K v0 M)) ∧ (¬ (v0 ≤ 1000000) → (K 1000000 M))) :
    CI mX12_capped [vL v0] M K := by
  show AW mX12_capped 0 [some (vL v0), none] [] M (QI K)
  refine AW.lload_n (pc := 0) (x := v0) dX12_capped_0 rfl ?_
  refine AW.ldc2 (pc := 1) (n := 1000000) dX12_capped_1 k_X12_127 ?_
  obtain ⟨o, h⟩ := h
  refine AW.lcmp (pc := 4) dX12_capped_4 o (by decide) ?_
  obtain ⟨ha, hb⟩ := h
  refine AW.if_le (pc := 5) (tgt := 13) dX12_capped_5 (by decide) lcm_in (fun hc => ?_) (fun hc => ?_)
  · have hc := lcm_le.mp hc
    have h := ha hc
    refine AW.lload_n (pc := 13) (x := v0) dX12_capped_13 rfl ?_
    refine AW.l2i (pc := 14) dX12_capped_14 ?_
    exact AW.iret (st := []) (pc := 15) dX12_capped_15 rfl ⟨_, rfl, h⟩
  · have hc := fun q => hc (lcm_le.mpr q)
    have h := hb hc
    refine AW.ldc (pc := 8) (n := 1000000) dX12_capped_8 k_X12_129 ?_
    refine AW.goto (pc := 10) (tgt := 15) dX12_capped_10 (by decide) ?_
    exact AW.iret (st := []) (pc := 15) dX12_capped_15 rfl ⟨_, rfl, h⟩

set_option maxRecDepth 20000 in
theorem en_X12_cardinality {M : Mem} {K : Int → Mem → Prop} {v1 : Int} 
    (h : CI mX12_isType [vR 50, vI v1] M (fun r2 M2 => InR r2 ∧ (r2 ≠ 0 → (CV mX12_layWithin [vR 50] M2 (fun M11 => CI mX12_isInfinite [vR 50, vI v1] M11 (fun r16 M16 => InR r16 ∧ (r16 = 0 → (CV mX12_layAll [vR 50] M16 (fun M26 => (0 ≤ v1 ∧ v1 < 4) ∧ K (M26 61 v1) M26))) ∧ (¬ (r16 = 0) → (K (-14) M16)))))) ∧ (¬ (r2 ≠ 0) → (K (-1) M2)))) :
    CI mX12_cardinality [vR 50, vI v1] M K := by
  show AW mX12_cardinality 0 [some (vR 50), some (vI v1)] [] M (QI K)
  refine AW.aload_n (pc := 0) (x := 50) dX12_cardinality_0 rfl ?_
  refine AW.iload_n (pc := 1) (x := v1) dX12_cardinality_1 rfl ?_
  refine AW.callV (pc := 2) (As := [vI v1]) (st := []) dX12_cardinality_2 cl_X12_130 kd_50 hl_50 ⟨Nat.le_of_ble_eq_true rfl, Nat.le_of_ble_eq_true rfl⟩ (Nat.le_of_ble_eq_true rfl) (Nat.le_of_ble_eq_true rfl) h ?_
  rintro _ M2 ⟨r2, rfl, h⟩
  show AW mX12_cardinality 5 [some (vR 50), some (vI v1)] [vI r2] M2 (QI K)
  obtain ⟨o, ha, hb⟩ := h
  refine AW.if_ne (pc := 5) (tgt := 10) dX12_cardinality_5 (by decide) o (fun hc => ?_) (fun hc => ?_)
  · have h := ha hc
    refine AW.aload_n (pc := 10) (x := 50) dX12_cardinality_10 rfl ?_
    refine AW.callV (pc := 11) (As := []) (st := []) dX12_cardinality_11 cl_X12_151 kd_50 hl_50 ⟨Nat.le_of_ble_eq_true rfl, Nat.le_of_ble_eq_true rfl⟩ (Nat.le_of_ble_eq_true rfl) (Nat.le_of_ble_eq_true rfl) h ?_
    rintro _ M11 ⟨rfl, h⟩
    show AW mX12_cardinality 14 [some (vR 50), some (vI v1)] [] M11 (QI K)
    refine AW.aload_n (pc := 14) (x := 50) dX12_cardinality_14 rfl ?_
    refine AW.iload_n (pc := 15) (x := v1) dX12_cardinality_15 rfl ?_
    refine AW.callV (pc := 16) (As := [vI v1]) (st := []) dX12_cardinality_16 cl_X12_154 kd_50 hl_50 ⟨Nat.le_of_ble_eq_true rfl, Nat.le_of_ble_eq_true rfl⟩ (Nat.le_of_ble_eq_true rfl) (Nat.le_of_ble_eq_true rfl) h ?_
    rintro _ M16 ⟨r16, rfl, h⟩
    show AW mX12_cardinality 19 [some (vR 50), some (vI v1)] [vI r16] M16 (QI K)
    obtain ⟨o, ha, hb⟩ := h
    refine AW.if_eq (pc := 19) (tgt := 25) dX12_cardinality_19 (by decide) o (fun hc => ?_) (fun hc => ?_)
    · have h := ha hc
      refine AW.aload_n (pc := 25) (x := 50) dX12_cardinality_25 rfl ?_
      refine AW.callV (pc := 26) (As := []) (st := []) dX12_cardinality_26 cl_X12_157 kd_50 hl_50 ⟨Nat.le_of_ble_eq_true rfl, Nat.le_of_ble_eq_true rfl⟩ (Nat.le_of_ble_eq_true rfl) (Nat.le_of_ble_eq_true rfl) h ?_
      rintro _ M26 ⟨rfl, h⟩
      show AW mX12_cardinality 29 [some (vR 50), some (vI v1)] [] M26 (QI K)
      refine AW.aload_n (pc := 29) (x := 50) dX12_cardinality_29 rfl ?_
      refine AW.getR (pc := 30) (h2 := 61) dX12_cardinality_30 fg_X12_40 kd_50 hl_50 rfl ?_
      refine AW.iload_n (pc := 33) (x := v1) dX12_cardinality_33 rfl ?_
      obtain ⟨o, h⟩ := h
      refine AW.iald (pc := 34) dX12_cardinality_34 kd_61 hl_61 o ?_
      exact AW.iret (st := []) (pc := 35) dX12_cardinality_35 rfl ⟨_, rfl, h⟩
    · have h := hb hc
      refine AW.bipush (pc := 22) dX12_cardinality_22 (by decide) ?_
      exact AW.iret (st := []) (pc := 24) dX12_cardinality_24 rfl ⟨_, rfl, h⟩
  · have h := hb hc
    refine AW.iconst (pc := 8) dX12_cardinality_8 ?_
    exact AW.iret (st := []) (pc := 9) dX12_cardinality_9 rfl ⟨_, rfl, h⟩

set_option maxRecDepth 20000 in
theorem en_X12_child {M : Mem} {K : Int → Mem → Prop} {v1 v2 : Int} 
    (h : CI mX12_isNode [vR 50, vI v1] M (fun r2 M2 => InR r2 ∧ (r2 ≠ 0 → (CI mX12_resolved [vR 50, vI v1] M2 (fun r13 M13 => CI mX12_manyOf [vR 50, vI r13] M13 (fun r21 M21 => CI mX12_in [vI v2, vI 0, vI (r21 - 1)] M21 (fun r26 M26 => InR r26 ∧ (r26 = 0 → (K (-13) M26)) ∧ (¬ (r26 = 0) → ((0 ≤ ((3 * r13) + v2) ∧ ((3 * r13) + v2) < 300) ∧ K (M26 56 ((3 * r13) + v2)) M26))))))) ∧ (¬ (r2 ≠ 0) → (K (-3) M2)))) :
    CI mX12_child [vR 50, vI v1, vI v2] M K := by
  show AW mX12_child 0 [some (vR 50), some (vI v1), some (vI v2), none] [] M (QI K)
  refine AW.aload_n (pc := 0) (x := 50) dX12_child_0 rfl ?_
  refine AW.iload_n (pc := 1) (x := v1) dX12_child_1 rfl ?_
  refine AW.callV (pc := 2) (As := [vI v1]) (st := []) dX12_child_2 cl_X12_199 kd_50 hl_50 ⟨Nat.le_of_ble_eq_true rfl, Nat.le_of_ble_eq_true rfl⟩ (Nat.le_of_ble_eq_true rfl) (Nat.le_of_ble_eq_true rfl) h ?_
  rintro _ M2 ⟨r2, rfl, h⟩
  show AW mX12_child 5 [some (vR 50), some (vI v1), some (vI v2), none] [vI r2] M2 (QI K)
  obtain ⟨o, ha, hb⟩ := h
  refine AW.if_ne (pc := 5) (tgt := 11) dX12_child_5 (by decide) o (fun hc => ?_) (fun hc => ?_)
  · have h := ha hc
    refine AW.aload_n (pc := 11) (x := 50) dX12_child_11 rfl ?_
    refine AW.iload_n (pc := 12) (x := v1) dX12_child_12 rfl ?_
    refine AW.callV (pc := 13) (As := [vI v1]) (st := []) dX12_child_13 cl_X12_205 kd_50 hl_50 ⟨Nat.le_of_ble_eq_true rfl, Nat.le_of_ble_eq_true rfl⟩ (Nat.le_of_ble_eq_true rfl) (Nat.le_of_ble_eq_true rfl) h ?_
    rintro _ M13 ⟨r13, rfl, h⟩
    show AW mX12_child 16 [some (vR 50), some (vI v1), some (vI v2), none] [vI r13] M13 (QI K)
    refine AW.istore_n (pc := 16) (ls2 := [some (vR 50), some (vI v1), some (vI v2), some (vI r13)]) dX12_child_16 (by decide) rfl ?_
    refine AW.iload_n (pc := 17) (x := v2) dX12_child_17 rfl ?_
    refine AW.iconst (pc := 18) dX12_child_18 ?_
    refine AW.aload_n (pc := 19) (x := 50) dX12_child_19 rfl ?_
    refine AW.iload_n (pc := 20) (x := r13) dX12_child_20 rfl ?_
    refine AW.callV (pc := 21) (As := [vI r13]) (st := [vI 0, vI v2]) dX12_child_21 cl_X12_208 kd_50 hl_50 ⟨Nat.le_of_ble_eq_true rfl, Nat.le_of_ble_eq_true rfl⟩ (Nat.le_of_ble_eq_true rfl) (Nat.le_of_ble_eq_true rfl) h ?_
    rintro _ M21 ⟨r21, rfl, h⟩
    show AW mX12_child 24 [some (vR 50), some (vI v1), some (vI v2), some (vI r13)] [vI r21, vI 0, vI v2] M21 (QI K)
    refine AW.iconst (pc := 24) dX12_child_24 ?_
    refine AW.isub (pc := 25) dX12_child_25 ?_
    refine AW.callS (pc := 26) (As := [vI v2, vI 0, vI (r21 - 1)]) (st := []) dX12_child_26 cl_X12_117 ⟨Nat.le_of_ble_eq_true rfl, Nat.le_of_ble_eq_true rfl⟩ (Nat.le_of_ble_eq_true rfl) (Nat.le_of_ble_eq_true rfl) h ?_
    rintro _ M26 ⟨r26, rfl, h⟩
    show AW mX12_child 29 [some (vR 50), some (vI v1), some (vI v2), some (vI r13)] [vI r26] M26 (QI K)
    obtain ⟨o, ha, hb⟩ := h
    refine AW.if_eq (pc := 29) (tgt := 45) dX12_child_29 (by decide) o (fun hc => ?_) (fun hc => ?_)
    · have h := ha hc
      refine AW.bipush (pc := 45) dX12_child_45 (by decide) ?_
      exact AW.iret (st := []) (pc := 47) dX12_child_47 rfl ⟨_, rfl, h⟩
    · have h := hb hc
      refine AW.aload_n (pc := 32) (x := 50) dX12_child_32 rfl ?_
      refine AW.getR (pc := 33) (h2 := 56) dX12_child_33 fg_X12_25 kd_50 hl_50 rfl ?_
      refine AW.iconst (pc := 36) dX12_child_36 ?_
      refine AW.iload_n (pc := 37) (x := r13) dX12_child_37 rfl ?_
      refine AW.imul (pc := 38) dX12_child_38 ?_
      refine AW.iload_n (pc := 39) (x := v2) dX12_child_39 rfl ?_
      refine AW.iadd (pc := 40) dX12_child_40 ?_
      obtain ⟨o, h⟩ := h
      refine AW.iald (pc := 41) dX12_child_41 kd_56 hl_56 o ?_
      refine AW.goto (pc := 42) (tgt := 47) dX12_child_42 (by decide) ?_
      exact AW.iret (st := []) (pc := 47) dX12_child_47 rfl ⟨_, rfl, h⟩
  · have h := hb hc
    refine AW.bipush (pc := 8) dX12_child_8 (by decide) ?_
    exact AW.iret (st := []) (pc := 10) dX12_child_10 rfl ⟨_, rfl, h⟩

set_option maxRecDepth 20000 in
theorem en_X12_clearRows {M : Mem} {K : Int → Mem → Prop} 
    (h : K (M 50 13) (up M 50 13 0)) :
    CI mX12_clearRows [vR 50] M K := by
  show AW mX12_clearRows 0 [some (vR 50), none] [] M (QI K)
  refine AW.aload_n (pc := 0) (x := 50) dX12_clearRows_0 rfl ?_
  refine AW.getI (pc := 1) dX12_clearRows_1 fg_X12_251 kd_50 hl_50 rfl ?_
  refine AW.istore_n (pc := 4) (ls2 := [some (vR 50), some (vI (M 50 13))]) dX12_clearRows_4 (by decide) rfl ?_
  refine AW.aload_n (pc := 5) (x := 50) dX12_clearRows_5 rfl ?_
  refine AW.iconst (pc := 6) dX12_clearRows_6 ?_
  refine AW.put (pc := 7) dX12_clearRows_7 fp_X12_251 kd_50 hl_50 rfl ?_
  refine AW.iload_n (pc := 10) (x := (M 50 13)) dX12_clearRows_10 rfl ?_
  exact AW.iret (st := []) (pc := 11) dX12_clearRows_11 rfl ⟨_, rfl, h⟩

set_option maxRecDepth 20000 in
theorem en_X12_count {M : Mem} {K : Int → Mem → Prop} {v1 v2 : Int} 
    (h : CI mX12_isType [vR 50, vI v1] M (fun r2 M2 => InR r2 ∧ (r2 ≠ 0 → (CI mX12_in [vI v2, vI 1, vI 12] M2 (fun r14 M14 => InR r14 ∧ (r14 ≠ 0 → (CV mX12_layCounts [vR 50] M14 (fun M24 => CI mX12_countOf [vR 50, vI v1, vI v2] M24 (fun r30 M30 => K r30 M30)))) ∧ (¬ (r14 ≠ 0) → (K (-4) M14))))) ∧ (¬ (r2 ≠ 0) → (K (-1) M2)))) :
    CI mX12_count [vR 50, vI v1, vI v2] M K := by
  show AW mX12_count 0 [some (vR 50), some (vI v1), some (vI v2)] [] M (QI K)
  refine AW.aload_n (pc := 0) (x := 50) dX12_count_0 rfl ?_
  refine AW.iload_n (pc := 1) (x := v1) dX12_count_1 rfl ?_
  refine AW.callV (pc := 2) (As := [vI v1]) (st := []) dX12_count_2 cl_X12_130 kd_50 hl_50 ⟨Nat.le_of_ble_eq_true rfl, Nat.le_of_ble_eq_true rfl⟩ (Nat.le_of_ble_eq_true rfl) (Nat.le_of_ble_eq_true rfl) h ?_
  rintro _ M2 ⟨r2, rfl, h⟩
  show AW mX12_count 5 [some (vR 50), some (vI v1), some (vI v2)] [vI r2] M2 (QI K)
  obtain ⟨o, ha, hb⟩ := h
  refine AW.if_ne (pc := 5) (tgt := 10) dX12_count_5 (by decide) o (fun hc => ?_) (fun hc => ?_)
  · have h := ha hc
    refine AW.iload_n (pc := 10) (x := v2) dX12_count_10 rfl ?_
    refine AW.iconst (pc := 11) dX12_count_11 ?_
    refine AW.bipush (pc := 12) dX12_count_12 (by decide) ?_
    refine AW.callS (pc := 14) (As := [vI v2, vI 1, vI 12]) (st := []) dX12_count_14 cl_X12_117 ⟨Nat.le_of_ble_eq_true rfl, Nat.le_of_ble_eq_true rfl⟩ (Nat.le_of_ble_eq_true rfl) (Nat.le_of_ble_eq_true rfl) h ?_
    rintro _ M14 ⟨r14, rfl, h⟩
    show AW mX12_count 17 [some (vR 50), some (vI v1), some (vI v2)] [vI r14] M14 (QI K)
    obtain ⟨o, ha, hb⟩ := h
    refine AW.if_ne (pc := 17) (tgt := 23) dX12_count_17 (by decide) o (fun hc => ?_) (fun hc => ?_)
    · have h := ha hc
      refine AW.aload_n (pc := 23) (x := 50) dX12_count_23 rfl ?_
      refine AW.callV (pc := 24) (As := []) (st := []) dX12_count_24 cl_X12_172 kd_50 hl_50 ⟨Nat.le_of_ble_eq_true rfl, Nat.le_of_ble_eq_true rfl⟩ (Nat.le_of_ble_eq_true rfl) (Nat.le_of_ble_eq_true rfl) h ?_
      rintro _ M24 ⟨rfl, h⟩
      show AW mX12_count 27 [some (vR 50), some (vI v1), some (vI v2)] [] M24 (QI K)
      refine AW.aload_n (pc := 27) (x := 50) dX12_count_27 rfl ?_
      refine AW.iload_n (pc := 28) (x := v1) dX12_count_28 rfl ?_
      refine AW.iload_n (pc := 29) (x := v2) dX12_count_29 rfl ?_
      refine AW.callV (pc := 30) (As := [vI v1, vI v2]) (st := []) dX12_count_30 cl_X12_164 kd_50 hl_50 ⟨Nat.le_of_ble_eq_true rfl, Nat.le_of_ble_eq_true rfl⟩ (Nat.le_of_ble_eq_true rfl) (Nat.le_of_ble_eq_true rfl) h ?_
      rintro _ M30 ⟨r30, rfl, h⟩
      show AW mX12_count 33 [some (vR 50), some (vI v1), some (vI v2)] [vI r30] M30 (QI K)
      exact AW.iret (st := []) (pc := 33) dX12_count_33 rfl ⟨_, rfl, h⟩
    · have h := hb hc
      refine AW.bipush (pc := 20) dX12_count_20 (by decide) ?_
      exact AW.iret (st := []) (pc := 22) dX12_count_22 rfl ⟨_, rfl, h⟩
  · have h := hb hc
    refine AW.iconst (pc := 8) dX12_count_8 ?_
    exact AW.iret (st := []) (pc := 9) dX12_count_9 rfl ⟨_, rfl, h⟩

set_option maxRecDepth 20000 in
theorem en_X12_countMatched {M : Mem} {K : Int → Mem → Prop} {v1 v2 : Int} 
    (h : CI mX12_subject [vR 50] M (fun r4 M4 => CI mX12_countOf [vR 50, vI r4, vI v2] M4 (fun r8 M8 => AW mX12_countMatched 16 [some (vR 50), some (vI v1), some (vI v2), some (vI 0), some (vI r8), some (vI 0)] [] M8 (QI K)))) :
    CI mX12_countMatched [vR 50, vI v1, vI v2] M K := by
  show AW mX12_countMatched 0 [some (vR 50), some (vI v1), some (vI v2), none, none, none] [] M (QI K)
  refine AW.iconst (pc := 0) dX12_countMatched_0 ?_
  refine AW.istore_n (pc := 1) (ls2 := [some (vR 50), some (vI v1), some (vI v2), some (vI 0), none, none]) dX12_countMatched_1 (by decide) rfl ?_
  refine AW.aload_n (pc := 2) (x := 50) dX12_countMatched_2 rfl ?_
  refine AW.aload_n (pc := 3) (x := 50) dX12_countMatched_3 rfl ?_
  refine AW.callV (pc := 4) (As := []) (st := [vR 50]) dX12_countMatched_4 cl_X12_267 kd_50 hl_50 ⟨Nat.le_of_ble_eq_true rfl, Nat.le_of_ble_eq_true rfl⟩ (Nat.le_of_ble_eq_true rfl) (Nat.le_of_ble_eq_true rfl) h ?_
  rintro _ M4 ⟨r4, rfl, h⟩
  show AW mX12_countMatched 7 [some (vR 50), some (vI v1), some (vI v2), some (vI 0), none, none] [vI r4, vR 50] M4 (QI K)
  refine AW.iload_n (pc := 7) (x := v2) dX12_countMatched_7 rfl ?_
  refine AW.callV (pc := 8) (As := [vI r4, vI v2]) (st := []) dX12_countMatched_8 cl_X12_164 kd_50 hl_50 ⟨Nat.le_of_ble_eq_true rfl, Nat.le_of_ble_eq_true rfl⟩ (Nat.le_of_ble_eq_true rfl) (Nat.le_of_ble_eq_true rfl) h ?_
  rintro _ M8 ⟨r8, rfl, h⟩
  show AW mX12_countMatched 11 [some (vR 50), some (vI v1), some (vI v2), some (vI 0), none, none] [vI r8] M8 (QI K)
  refine AW.istore (pc := 11) (ls2 := [some (vR 50), some (vI v1), some (vI v2), some (vI 0), some (vI r8), none]) dX12_countMatched_11 (by decide) rfl ?_
  refine AW.iconst (pc := 13) dX12_countMatched_13 ?_
  refine AW.istore (pc := 14) (ls2 := [some (vR 50), some (vI v1), some (vI v2), some (vI 0), some (vI r8), some (vI 0)]) dX12_countMatched_14 (by decide) rfl ?_
  exact h

set_option maxRecDepth 20000 in
theorem sg_X12_countMatched_16 {M : Mem} {K : Int → Mem → Prop} {v1 v2 v3 v4 v5 : Int} 
    (h : (InR v5 ∧ InR v4) ∧ (v5 ≥ v4 → (K v3 M)) ∧ (¬ (v5 ≥ v4) → (CI mX12_subject [vR 50] M (fun r25 M25 => CV mX12_layValue [vR 50, vI r25, vI v2, vI v5] M25 (fun M31 => CI mX12_matchNow [vR 50] M31 (fun r36 M36 => (InR r36 ∧ InR v1) ∧ (r36 ≠ v1 → (AW mX12_countMatched 16 [some (vR 50), some (vI v1), some (vI v2), some (vI (v3 + 0)), some (vI v4), some (vI (v5 + 1))] [] M36 (QI K))) ∧ (¬ (r36 ≠ v1) → (AW mX12_countMatched 16 [some (vR 50), some (vI v1), some (vI v2), some (vI (v3 + 1)), some (vI v4), some (vI (v5 + 1))] [] M36 (QI K))))))))) :
    AW mX12_countMatched 16 [some (vR 50), some (vI v1), some (vI v2), some (vI v3), some (vI v4), some (vI v5)] [] M (QI K) := by
  refine AW.iload (pc := 16) (x := v5) dX12_countMatched_16 rfl ?_
  refine AW.iload (pc := 18) (x := v4) dX12_countMatched_18 rfl ?_
  obtain ⟨o, ha, hb⟩ := h
  refine AW.icmp_ge (pc := 20) (tgt := 56) dX12_countMatched_20 (by decide) o.1 o.2 (fun hc => ?_) (fun hc => ?_)
  · have h := ha hc
    refine AW.iload_n (pc := 56) (x := v3) dX12_countMatched_56 rfl ?_
    exact AW.iret (st := []) (pc := 57) dX12_countMatched_57 rfl ⟨_, rfl, h⟩
  · have h := hb hc
    refine AW.aload_n (pc := 23) (x := 50) dX12_countMatched_23 rfl ?_
    refine AW.aload_n (pc := 24) (x := 50) dX12_countMatched_24 rfl ?_
    refine AW.callV (pc := 25) (As := []) (st := [vR 50]) dX12_countMatched_25 cl_X12_267 kd_50 hl_50 ⟨Nat.le_of_ble_eq_true rfl, Nat.le_of_ble_eq_true rfl⟩ (Nat.le_of_ble_eq_true rfl) (Nat.le_of_ble_eq_true rfl) h ?_
    rintro _ M25 ⟨r25, rfl, h⟩
    show AW mX12_countMatched 28 [some (vR 50), some (vI v1), some (vI v2), some (vI v3), some (vI v4), some (vI v5)] [vI r25, vR 50] M25 (QI K)
    refine AW.iload_n (pc := 28) (x := v2) dX12_countMatched_28 rfl ?_
    refine AW.iload (pc := 29) (x := v5) dX12_countMatched_29 rfl ?_
    refine AW.callV (pc := 31) (As := [vI r25, vI v2, vI v5]) (st := []) dX12_countMatched_31 cl_X12_192 kd_50 hl_50 ⟨Nat.le_of_ble_eq_true rfl, Nat.le_of_ble_eq_true rfl⟩ (Nat.le_of_ble_eq_true rfl) (Nat.le_of_ble_eq_true rfl) h ?_
    rintro _ M31 ⟨rfl, h⟩
    show AW mX12_countMatched 34 [some (vR 50), some (vI v1), some (vI v2), some (vI v3), some (vI v4), some (vI v5)] [] M31 (QI K)
    refine AW.iload_n (pc := 34) (x := v3) dX12_countMatched_34 rfl ?_
    refine AW.aload_n (pc := 35) (x := 50) dX12_countMatched_35 rfl ?_
    refine AW.callV (pc := 36) (As := []) (st := [vI v3]) dX12_countMatched_36 cl_X12_264 kd_50 hl_50 ⟨Nat.le_of_ble_eq_true rfl, Nat.le_of_ble_eq_true rfl⟩ (Nat.le_of_ble_eq_true rfl) (Nat.le_of_ble_eq_true rfl) h ?_
    rintro _ M36 ⟨r36, rfl, h⟩
    show AW mX12_countMatched 39 [some (vR 50), some (vI v1), some (vI v2), some (vI v3), some (vI v4), some (vI v5)] [vI r36, vI v3] M36 (QI K)
    refine AW.iload_n (pc := 39) (x := v1) dX12_countMatched_39 rfl ?_
    obtain ⟨o, ha, hb⟩ := h
    refine AW.icmp_ne (pc := 40) (tgt := 47) dX12_countMatched_40 (by decide) o.1 o.2 (fun hc => ?_) (fun hc => ?_)
    · have h := ha hc
      refine AW.iconst (pc := 47) dX12_countMatched_47 ?_
      refine AW.iadd (pc := 48) dX12_countMatched_48 ?_
      refine AW.istore_n (pc := 49) (ls2 := [some (vR 50), some (vI v1), some (vI v2), some (vI (v3 + 0)), some (vI v4), some (vI v5)]) dX12_countMatched_49 (by decide) rfl ?_
      refine AW.iinc (pc := 50) (x := v5) (ls2 := [some (vR 50), some (vI v1), some (vI v2), some (vI (v3 + 0)), some (vI v4), some (vI (v5 + 1))]) dX12_countMatched_50 rfl (by decide) rfl ?_
      refine AW.goto (pc := 53) (tgt := 16) dX12_countMatched_53 (by decide) ?_
      exact h
    · have h := hb hc
      refine AW.iconst (pc := 43) dX12_countMatched_43 ?_
      refine AW.goto (pc := 44) (tgt := 48) dX12_countMatched_44 (by decide) ?_
      refine AW.iadd (pc := 48) dX12_countMatched_48 ?_
      refine AW.istore_n (pc := 49) (ls2 := [some (vR 50), some (vI v1), some (vI v2), some (vI (v3 + 1)), some (vI v4), some (vI v5)]) dX12_countMatched_49 (by decide) rfl ?_
      refine AW.iinc (pc := 50) (x := v5) (ls2 := [some (vR 50), some (vI v1), some (vI v2), some (vI (v3 + 1)), some (vI v4), some (vI (v5 + 1))]) dX12_countMatched_50 rfl (by decide) rfl ?_
      refine AW.goto (pc := 53) (tgt := 16) dX12_countMatched_53 (by decide) ?_
      exact h

set_option maxRecDepth 20000 in
theorem en_X12_countOf {M : Mem} {K : Int → Mem → Prop} {v1 v2 : Int} 
    (h : (0 ≤ ((13 * v1) + v2) ∧ ((13 * v1) + v2) < 52) ∧ K (M 63 ((13 * v1) + v2)) M) :
    CI mX12_countOf [vR 50, vI v1, vI v2] M K := by
  show AW mX12_countOf 0 [some (vR 50), some (vI v1), some (vI v2)] [] M (QI K)
  refine AW.aload_n (pc := 0) (x := 50) dX12_countOf_0 rfl ?_
  refine AW.getR (pc := 1) (h2 := 63) dX12_countOf_1 fg_X12_47 kd_50 hl_50 rfl ?_
  refine AW.bipush (pc := 4) dX12_countOf_4 (by decide) ?_
  refine AW.iload_n (pc := 6) (x := v1) dX12_countOf_6 rfl ?_
  refine AW.imul (pc := 7) dX12_countOf_7 ?_
  refine AW.iload_n (pc := 8) (x := v2) dX12_countOf_8 rfl ?_
  refine AW.iadd (pc := 9) dX12_countOf_9 ?_
  obtain ⟨o, h⟩ := h
  refine AW.iald (pc := 10) dX12_countOf_10 kd_63 hl_63 o ?_
  exact AW.iret (st := []) (pc := 11) dX12_countOf_11 rfl ⟨_, rfl, h⟩

set_option maxRecDepth 20000 in
theorem en_X12_coveredBy {M : Mem} {K : Int → Mem → Prop} {v1 v2 : Int} 
    (h : InR (M 50 13) ∧ ((M 50 13) ≠ 0 → (CI mX12_in [vI v1, vI 0, vI ((M 50 13) - 1)] M (fun r18 M18 => InR r18 ∧ (r18 = 0 → (K (-4) M18)) ∧ (¬ (r18 = 0) → (CI mX12_in [vI v2, vI 1, vI 8] M18 (fun r28 M28 => InR r28 ∧ (r28 ≠ 0 → (CV mX12_layCounts [vR 50] M28 (fun M38 => CI mX12_subject [vR 50] M38 (fun r43 M43 => CI mX12_countOf [vR 50, vI r43, vI v2] M43 (fun r47 M47 => InR r47 ∧ (r47 ≤ 2000 → (CI mX12_countMatched [vR 50, vI v1, vI v2] M47 (fun r64 M64 => K r64 M64))) ∧ (¬ (r47 ≤ 2000) → (K (-10) M47))))))) ∧ (¬ (r28 ≠ 0) → (K (-4) M28)))))))) ∧ (¬ ((M 50 13) ≠ 0) → (K (-11) M))) :
    CI mX12_coveredBy [vR 50, vI v1, vI v2] M K := by
  show AW mX12_coveredBy 0 [some (vR 50), some (vI v1), some (vI v2)] [] M (QI K)
  refine AW.aload_n (pc := 0) (x := 50) dX12_coveredBy_0 rfl ?_
  refine AW.getI (pc := 1) dX12_coveredBy_1 fg_X12_251 kd_50 hl_50 rfl ?_
  obtain ⟨o, ha, hb⟩ := h
  refine AW.if_ne (pc := 4) (tgt := 10) dX12_coveredBy_4 (by decide) o (fun hc => ?_) (fun hc => ?_)
  · have h := ha hc
    refine AW.iload_n (pc := 10) (x := v1) dX12_coveredBy_10 rfl ?_
    refine AW.iconst (pc := 11) dX12_coveredBy_11 ?_
    refine AW.aload_n (pc := 12) (x := 50) dX12_coveredBy_12 rfl ?_
    refine AW.getI (pc := 13) dX12_coveredBy_13 fg_X12_251 kd_50 hl_50 rfl ?_
    refine AW.iconst (pc := 16) dX12_coveredBy_16 ?_
    refine AW.isub (pc := 17) dX12_coveredBy_17 ?_
    refine AW.callS (pc := 18) (As := [vI v1, vI 0, vI ((M 50 13) - 1)]) (st := []) dX12_coveredBy_18 cl_X12_117 ⟨Nat.le_of_ble_eq_true rfl, Nat.le_of_ble_eq_true rfl⟩ (Nat.le_of_ble_eq_true rfl) (Nat.le_of_ble_eq_true rfl) h ?_
    rintro _ M18 ⟨r18, rfl, h⟩
    show AW mX12_coveredBy 21 [some (vR 50), some (vI v1), some (vI v2)] [vI r18] M18 (QI K)
    obtain ⟨o, ha, hb⟩ := h
    refine AW.if_eq (pc := 21) (tgt := 34) dX12_coveredBy_21 (by decide) o (fun hc => ?_) (fun hc => ?_)
    · have h := ha hc
      refine AW.bipush (pc := 34) dX12_coveredBy_34 (by decide) ?_
      exact AW.iret (st := []) (pc := 36) dX12_coveredBy_36 rfl ⟨_, rfl, h⟩
    · have h := hb hc
      refine AW.iload_n (pc := 24) (x := v2) dX12_coveredBy_24 rfl ?_
      refine AW.iconst (pc := 25) dX12_coveredBy_25 ?_
      refine AW.bipush (pc := 26) dX12_coveredBy_26 (by decide) ?_
      refine AW.callS (pc := 28) (As := [vI v2, vI 1, vI 8]) (st := []) dX12_coveredBy_28 cl_X12_117 ⟨Nat.le_of_ble_eq_true rfl, Nat.le_of_ble_eq_true rfl⟩ (Nat.le_of_ble_eq_true rfl) (Nat.le_of_ble_eq_true rfl) h ?_
      rintro _ M28 ⟨r28, rfl, h⟩
      show AW mX12_coveredBy 31 [some (vR 50), some (vI v1), some (vI v2)] [vI r28] M28 (QI K)
      obtain ⟨o, ha, hb⟩ := h
      refine AW.if_ne (pc := 31) (tgt := 37) dX12_coveredBy_31 (by decide) o (fun hc => ?_) (fun hc => ?_)
      · have h := ha hc
        refine AW.aload_n (pc := 37) (x := 50) dX12_coveredBy_37 rfl ?_
        refine AW.callV (pc := 38) (As := []) (st := []) dX12_coveredBy_38 cl_X12_172 kd_50 hl_50 ⟨Nat.le_of_ble_eq_true rfl, Nat.le_of_ble_eq_true rfl⟩ (Nat.le_of_ble_eq_true rfl) (Nat.le_of_ble_eq_true rfl) h ?_
        rintro _ M38 ⟨rfl, h⟩
        show AW mX12_coveredBy 41 [some (vR 50), some (vI v1), some (vI v2)] [] M38 (QI K)
        refine AW.aload_n (pc := 41) (x := 50) dX12_coveredBy_41 rfl ?_
        refine AW.aload_n (pc := 42) (x := 50) dX12_coveredBy_42 rfl ?_
        refine AW.callV (pc := 43) (As := []) (st := [vR 50]) dX12_coveredBy_43 cl_X12_267 kd_50 hl_50 ⟨Nat.le_of_ble_eq_true rfl, Nat.le_of_ble_eq_true rfl⟩ (Nat.le_of_ble_eq_true rfl) (Nat.le_of_ble_eq_true rfl) h ?_
        rintro _ M43 ⟨r43, rfl, h⟩
        show AW mX12_coveredBy 46 [some (vR 50), some (vI v1), some (vI v2)] [vI r43, vR 50] M43 (QI K)
        refine AW.iload_n (pc := 46) (x := v2) dX12_coveredBy_46 rfl ?_
        refine AW.callV (pc := 47) (As := [vI r43, vI v2]) (st := []) dX12_coveredBy_47 cl_X12_164 kd_50 hl_50 ⟨Nat.le_of_ble_eq_true rfl, Nat.le_of_ble_eq_true rfl⟩ (Nat.le_of_ble_eq_true rfl) (Nat.le_of_ble_eq_true rfl) h ?_
        rintro _ M47 ⟨r47, rfl, h⟩
        show AW mX12_coveredBy 50 [some (vR 50), some (vI v1), some (vI v2)] [vI r47] M47 (QI K)
        refine AW.sipush (pc := 50) dX12_coveredBy_50 (by decide) ?_
        obtain ⟨o, ha, hb⟩ := h
        refine AW.icmp_le (pc := 53) (tgt := 61) dX12_coveredBy_53 (by decide) o (by decide) (fun hc => ?_) (fun hc => ?_)
        · have h := ha hc
          refine AW.aload_n (pc := 61) (x := 50) dX12_coveredBy_61 rfl ?_
          refine AW.iload_n (pc := 62) (x := v1) dX12_coveredBy_62 rfl ?_
          refine AW.iload_n (pc := 63) (x := v2) dX12_coveredBy_63 rfl ?_
          refine AW.callV (pc := 64) (As := [vI v1, vI v2]) (st := []) dX12_coveredBy_64 cl_X12_270 kd_50 hl_50 ⟨Nat.le_of_ble_eq_true rfl, Nat.le_of_ble_eq_true rfl⟩ (Nat.le_of_ble_eq_true rfl) (Nat.le_of_ble_eq_true rfl) h ?_
          rintro _ M64 ⟨r64, rfl, h⟩
          show AW mX12_coveredBy 67 [some (vR 50), some (vI v1), some (vI v2)] [vI r64] M64 (QI K)
          exact AW.iret (st := []) (pc := 67) dX12_coveredBy_67 rfl ⟨_, rfl, h⟩
        · have h := hb hc
          refine AW.bipush (pc := 56) dX12_coveredBy_56 (by decide) ?_
          refine AW.goto (pc := 58) (tgt := 67) dX12_coveredBy_58 (by decide) ?_
          exact AW.iret (st := []) (pc := 67) dX12_coveredBy_67 rfl ⟨_, rfl, h⟩
      · have h := hb hc
        refine AW.bipush (pc := 34) dX12_coveredBy_34 (by decide) ?_
        exact AW.iret (st := []) (pc := 36) dX12_coveredBy_36 rfl ⟨_, rfl, h⟩
  · have h := hb hc
    refine AW.bipush (pc := 7) dX12_coveredBy_7 (by decide) ?_
    exact AW.iret (st := []) (pc := 9) dX12_coveredBy_9 rfl ⟨_, rfl, h⟩

set_option maxRecDepth 20000 in
theorem en_X12_equal {M : Mem} {K : Int → Mem → Prop} {v1 v2 : Int} 
    (h : CI mX12_isNode [vR 50, vI v1] M (fun r2 M2 => InR r2 ∧ (r2 = 0 → (K (-3) M2)) ∧ (¬ (r2 = 0) → (CI mX12_isNode [vR 50, vI v2] M2 (fun r10 M10 => InR r10 ∧ (r10 ≠ 0 → (CV mX12_beginPairs [vR 50, vI v1, vI v2] M10 (fun M22 => AW mX12_equal 25 [some (vR 50), some (vI v1), some (vI v2), none, none] [] M22 (QI K)))) ∧ (¬ (r10 ≠ 0) → (K (-3) M10))))))) :
    CI mX12_equal [vR 50, vI v1, vI v2] M K := by
  show AW mX12_equal 0 [some (vR 50), some (vI v1), some (vI v2), none, none] [] M (QI K)
  refine AW.aload_n (pc := 0) (x := 50) dX12_equal_0 rfl ?_
  refine AW.iload_n (pc := 1) (x := v1) dX12_equal_1 rfl ?_
  refine AW.callV (pc := 2) (As := [vI v1]) (st := []) dX12_equal_2 cl_X12_199 kd_50 hl_50 ⟨Nat.le_of_ble_eq_true rfl, Nat.le_of_ble_eq_true rfl⟩ (Nat.le_of_ble_eq_true rfl) (Nat.le_of_ble_eq_true rfl) h ?_
  rintro _ M2 ⟨r2, rfl, h⟩
  show AW mX12_equal 5 [some (vR 50), some (vI v1), some (vI v2), none, none] [vI r2] M2 (QI K)
  obtain ⟨o, ha, hb⟩ := h
  refine AW.if_eq (pc := 5) (tgt := 16) dX12_equal_5 (by decide) o (fun hc => ?_) (fun hc => ?_)
  · have h := ha hc
    refine AW.bipush (pc := 16) dX12_equal_16 (by decide) ?_
    exact AW.iret (st := []) (pc := 18) dX12_equal_18 rfl ⟨_, rfl, h⟩
  · have h := hb hc
    refine AW.aload_n (pc := 8) (x := 50) dX12_equal_8 rfl ?_
    refine AW.iload_n (pc := 9) (x := v2) dX12_equal_9 rfl ?_
    refine AW.callV (pc := 10) (As := [vI v2]) (st := []) dX12_equal_10 cl_X12_199 kd_50 hl_50 ⟨Nat.le_of_ble_eq_true rfl, Nat.le_of_ble_eq_true rfl⟩ (Nat.le_of_ble_eq_true rfl) (Nat.le_of_ble_eq_true rfl) h ?_
    rintro _ M10 ⟨r10, rfl, h⟩
    show AW mX12_equal 13 [some (vR 50), some (vI v1), some (vI v2), none, none] [vI r10] M10 (QI K)
    obtain ⟨o, ha, hb⟩ := h
    refine AW.if_ne (pc := 13) (tgt := 19) dX12_equal_13 (by decide) o (fun hc => ?_) (fun hc => ?_)
    · have h := ha hc
      refine AW.aload_n (pc := 19) (x := 50) dX12_equal_19 rfl ?_
      refine AW.iload_n (pc := 20) (x := v1) dX12_equal_20 rfl ?_
      refine AW.iload_n (pc := 21) (x := v2) dX12_equal_21 rfl ?_
      refine AW.callV (pc := 22) (As := [vI v1, vI v2]) (st := []) dX12_equal_22 cl_X12_226 kd_50 hl_50 ⟨Nat.le_of_ble_eq_true rfl, Nat.le_of_ble_eq_true rfl⟩ (Nat.le_of_ble_eq_true rfl) (Nat.le_of_ble_eq_true rfl) h ?_
      rintro _ M22 ⟨rfl, h⟩
      show AW mX12_equal 25 [some (vR 50), some (vI v1), some (vI v2), none, none] [] M22 (QI K)
      exact h
    · have h := hb hc
      refine AW.bipush (pc := 16) dX12_equal_16 (by decide) ?_
      exact AW.iret (st := []) (pc := 18) dX12_equal_18 rfl ⟨_, rfl, h⟩

set_option maxRecDepth 20000 in
theorem sg_X12_equal_25 {M : Mem} {K : Int → Mem → Prop} {v1 v2 : Int} 
    (h : InR (M 50 34) ∧ ((M 50 34) ≤ 0 → (K 1 M)) ∧ (¬ ((M 50 34) ≤ 0) → ((0 ≤ ((M 50 34) - 1) ∧ ((M 50 34) - 1) < 31000) ∧ CI mX12_resolved [vR 50, vI (M 77 ((M 50 34) - 1))] (up M 50 34 ((M 50 34) - 1)) (fun r52 M52 => (0 ≤ (M52 50 34) ∧ (M52 50 34) < 31000) ∧ CI mX12_resolved [vR 50, vI (M52 78 (M52 50 34))] M52 (fun r66 M66 => (InR r52 ∧ InR r66) ∧ (r52 = r66 → (AW mX12_equal 139 [some (vR 50), some (vI v1), some (vI v2), some (vI r52), some (vI r66)] [] M66 (QI K))) ∧ (¬ (r52 = r66) → ((0 ≤ ((100 * r52) + r66) ∧ ((100 * r52) + r66) < 10000) ∧ InR (M66 79 ((100 * r52) + r66)) ∧ ((M66 79 ((100 * r52) + r66)) ≠ 0 → (AW mX12_equal 139 [some (vR 50), some (vI v1), some (vI v2), some (vI r52), some (vI r66)] [] M66 (QI K))) ∧ (¬ ((M66 79 ((100 * r52) + r66)) ≠ 0) → ((0 ≤ ((100 * r52) + r66) ∧ ((100 * r52) + r66) < 10000) ∧ (0 ≤ r52 ∧ r52 < 100) ∧ InR (M66 54 r52) ∧ ((M66 54 r52) < 0 → (K 0 (up M66 79 ((100 * r52) + r66) 1))) ∧ (¬ ((M66 54 r52) < 0) → ((0 ≤ r52 ∧ r52 < 100) ∧ (0 ≤ r66 ∧ r66 < 100) ∧ (InR (M66 54 r52) ∧ InR (M66 54 r66)) ∧ ((M66 54 r52) = (M66 54 r66) → (CV mX12_pushChildren [vR 50, vI r52, vI r66] (up M66 79 ((100 * r52) + r66) 1) (fun M136 => AW mX12_equal 139 [some (vR 50), some (vI v1), some (vI v2), some (vI r52), some (vI r66)] [] M136 (QI K)))) ∧ (¬ ((M66 54 r52) = (M66 54 r66)) → (K 0 (up M66 79 ((100 * r52) + r66) 1)))))))))))))) :
    AW mX12_equal 25 [some (vR 50), some (vI v1), some (vI v2), none, none] [] M (QI K) := by
  refine AW.aload_n (pc := 25) (x := 50) dX12_equal_25 rfl ?_
  refine AW.getI (pc := 26) dX12_equal_26 fg_X12_223 kd_50 hl_50 rfl ?_
  obtain ⟨o, ha, hb⟩ := h
  refine AW.if_le (pc := 29) (tgt := 142) dX12_equal_29 (by decide) o (fun hc => ?_) (fun hc => ?_)
  · have h := ha hc
    refine AW.iconst (pc := 142) dX12_equal_142 ?_
    exact AW.iret (st := []) (pc := 143) dX12_equal_143 rfl ⟨_, rfl, h⟩
  · have h := hb hc
    refine AW.aload_n (pc := 32) (x := 50) dX12_equal_32 rfl ?_
    refine AW.dup (pc := 33) dX12_equal_33 rfl ?_
    refine AW.getI (pc := 34) dX12_equal_34 fg_X12_223 kd_50 hl_50 rfl ?_
    refine AW.iconst (pc := 37) dX12_equal_37 ?_
    refine AW.isub (pc := 38) dX12_equal_38 ?_
    refine AW.put (pc := 39) dX12_equal_39 fp_X12_223 kd_50 hl_50 rfl ?_
    refine AW.aload_n (pc := 42) (x := 50) dX12_equal_42 rfl ?_
    refine AW.aload_n (pc := 43) (x := 50) dX12_equal_43 rfl ?_
    refine AW.getR (pc := 44) (h2 := 77) dX12_equal_44 fg_X12_89 kd_50 hl_50 rfl ?_
    refine AW.aload_n (pc := 47) (x := 50) dX12_equal_47 rfl ?_
    refine AW.getI (pc := 48) dX12_equal_48 fg_X12_223 kd_50 hl_50 rfl ?_
    obtain ⟨o, h⟩ := h
    refine AW.iald (pc := 51) dX12_equal_51 kd_77 hl_77 o ?_
    refine AW.callV (pc := 52) (As := [vI (M 77 ((M 50 34) - 1))]) (st := []) dX12_equal_52 cl_X12_205 kd_50 hl_50 ⟨Nat.le_of_ble_eq_true rfl, Nat.le_of_ble_eq_true rfl⟩ (Nat.le_of_ble_eq_true rfl) (Nat.le_of_ble_eq_true rfl) h ?_
    rintro _ M52 ⟨r52, rfl, h⟩
    show AW mX12_equal 55 [some (vR 50), some (vI v1), some (vI v2), none, none] [vI r52] M52 (QI K)
    refine AW.istore_n (pc := 55) (ls2 := [some (vR 50), some (vI v1), some (vI v2), some (vI r52), none]) dX12_equal_55 (by decide) rfl ?_
    refine AW.aload_n (pc := 56) (x := 50) dX12_equal_56 rfl ?_
    refine AW.aload_n (pc := 57) (x := 50) dX12_equal_57 rfl ?_
    refine AW.getR (pc := 58) (h2 := 78) dX12_equal_58 fg_X12_92 kd_50 hl_50 rfl ?_
    refine AW.aload_n (pc := 61) (x := 50) dX12_equal_61 rfl ?_
    refine AW.getI (pc := 62) dX12_equal_62 fg_X12_223 kd_50 hl_50 rfl ?_
    obtain ⟨o, h⟩ := h
    refine AW.iald (pc := 65) dX12_equal_65 kd_78 hl_78 o ?_
    refine AW.callV (pc := 66) (As := [vI (M52 78 (M52 50 34))]) (st := []) dX12_equal_66 cl_X12_205 kd_50 hl_50 ⟨Nat.le_of_ble_eq_true rfl, Nat.le_of_ble_eq_true rfl⟩ (Nat.le_of_ble_eq_true rfl) (Nat.le_of_ble_eq_true rfl) h ?_
    rintro _ M66 ⟨r66, rfl, h⟩
    show AW mX12_equal 69 [some (vR 50), some (vI v1), some (vI v2), some (vI r52), none] [vI r66] M66 (QI K)
    refine AW.istore (pc := 69) (ls2 := [some (vR 50), some (vI v1), some (vI v2), some (vI r52), some (vI r66)]) dX12_equal_69 (by decide) rfl ?_
    refine AW.iload_n (pc := 71) (x := r52) dX12_equal_71 rfl ?_
    refine AW.iload (pc := 72) (x := r66) dX12_equal_72 rfl ?_
    obtain ⟨o, ha, hb⟩ := h
    refine AW.icmp_eq (pc := 74) (tgt := 139) dX12_equal_74 (by decide) o.1 o.2 (fun hc => ?_) (fun hc => ?_)
    · have h := ha hc
      exact h
    · have h := hb hc
      refine AW.aload_n (pc := 77) (x := 50) dX12_equal_77 rfl ?_
      refine AW.getR (pc := 78) (h2 := 79) dX12_equal_78 fg_X12_95 kd_50 hl_50 rfl ?_
      refine AW.bipush (pc := 81) dX12_equal_81 (by decide) ?_
      refine AW.iload_n (pc := 83) (x := r52) dX12_equal_83 rfl ?_
      refine AW.imul (pc := 84) dX12_equal_84 ?_
      refine AW.iload (pc := 85) (x := r66) dX12_equal_85 rfl ?_
      refine AW.iadd (pc := 87) dX12_equal_87 ?_
      obtain ⟨o, h⟩ := h
      refine AW.zald (pc := 88) dX12_equal_88 kd_79 hl_79 o ?_
      obtain ⟨o, ha, hb⟩ := h
      refine AW.if_ne (pc := 89) (tgt := 139) dX12_equal_89 (by decide) o (fun hc => ?_) (fun hc => ?_)
      · have h := ha hc
        exact h
      · have h := hb hc
        refine AW.aload_n (pc := 92) (x := 50) dX12_equal_92 rfl ?_
        refine AW.getR (pc := 93) (h2 := 79) dX12_equal_93 fg_X12_95 kd_50 hl_50 rfl ?_
        refine AW.bipush (pc := 96) dX12_equal_96 (by decide) ?_
        refine AW.iload_n (pc := 98) (x := r52) dX12_equal_98 rfl ?_
        refine AW.imul (pc := 99) dX12_equal_99 ?_
        refine AW.iload (pc := 100) (x := r66) dX12_equal_100 rfl ?_
        refine AW.iadd (pc := 102) dX12_equal_102 ?_
        refine AW.iconst (pc := 103) dX12_equal_103 ?_
        obtain ⟨o, h⟩ := h
        refine AW.zast (pc := 104) dX12_equal_104 kd_79 hl_79 o (by decide) ?_
        refine AW.aload_n (pc := 105) (x := 50) dX12_equal_105 rfl ?_
        refine AW.getR (pc := 106) (h2 := 54) dX12_equal_106 fg_X12_19 kd_50 hl_50 rfl ?_
        refine AW.iload_n (pc := 109) (x := r52) dX12_equal_109 rfl ?_
        obtain ⟨o, h⟩ := h
        refine AW.iald (pc := 110) dX12_equal_110 kd_54 hl_54 o ?_
        obtain ⟨o, ha, hb⟩ := h
        refine AW.if_lt (pc := 111) (tgt := 130) dX12_equal_111 (by decide) o (fun hc => ?_) (fun hc => ?_)
        · have h := ha hc
          refine AW.iconst (pc := 130) dX12_equal_130 ?_
          exact AW.iret (st := []) (pc := 131) dX12_equal_131 rfl ⟨_, rfl, h⟩
        · have h := hb hc
          refine AW.aload_n (pc := 114) (x := 50) dX12_equal_114 rfl ?_
          refine AW.getR (pc := 115) (h2 := 54) dX12_equal_115 fg_X12_19 kd_50 hl_50 rfl ?_
          refine AW.iload_n (pc := 118) (x := r52) dX12_equal_118 rfl ?_
          obtain ⟨o, h⟩ := h
          refine AW.iald (pc := 119) dX12_equal_119 kd_54 hl_54 o ?_
          refine AW.aload_n (pc := 120) (x := 50) dX12_equal_120 rfl ?_
          refine AW.getR (pc := 121) (h2 := 54) dX12_equal_121 fg_X12_19 kd_50 hl_50 rfl ?_
          refine AW.iload (pc := 124) (x := r66) dX12_equal_124 rfl ?_
          obtain ⟨o, h⟩ := h
          refine AW.iald (pc := 126) dX12_equal_126 kd_54 hl_54 o ?_
          obtain ⟨o, ha, hb⟩ := h
          refine AW.icmp_eq (pc := 127) (tgt := 132) dX12_equal_127 (by decide) o.1 o.2 (fun hc => ?_) (fun hc => ?_)
          · have h := ha hc
            refine AW.aload_n (pc := 132) (x := 50) dX12_equal_132 rfl ?_
            refine AW.iload_n (pc := 133) (x := r52) dX12_equal_133 rfl ?_
            refine AW.iload (pc := 134) (x := r66) dX12_equal_134 rfl ?_
            refine AW.callV (pc := 136) (As := [vI r52, vI r66]) (st := []) dX12_equal_136 cl_X12_229 kd_50 hl_50 ⟨Nat.le_of_ble_eq_true rfl, Nat.le_of_ble_eq_true rfl⟩ (Nat.le_of_ble_eq_true rfl) (Nat.le_of_ble_eq_true rfl) h ?_
            rintro _ M136 ⟨rfl, h⟩
            show AW mX12_equal 139 [some (vR 50), some (vI v1), some (vI v2), some (vI r52), some (vI r66)] [] M136 (QI K)
            exact h
          · have h := hb hc
            refine AW.iconst (pc := 130) dX12_equal_130 ?_
            exact AW.iret (st := []) (pc := 131) dX12_equal_131 rfl ⟨_, rfl, h⟩

set_option maxRecDepth 20000 in
theorem sg_X12_equal_139 {M : Mem} {K : Int → Mem → Prop} {v1 v2 v3 v4 : Int} 
    (h : AW mX12_equal 25 [some (vR 50), some (vI v1), some (vI v2), none, none] [] M (QI K)) :
    AW mX12_equal 139 [some (vR 50), some (vI v1), some (vI v2), some (vI v3), some (vI v4)] [] M (QI K) := by
  refine AW.goto (pc := 139) (tgt := 25) dX12_equal_139 (by decide) ?_
  exact AW.weak (ls2 := [some (vR 50), some (vI v1), some (vI v2), none, none]) (by simp [lsub]) h

set_option maxRecDepth 20000 in
theorem en_X12_firstMatch {M : Mem} {K : Int → Mem → Prop} {v1 : Int} 
    (h : CI mX12_isNode [vR 50, vI v1] M (fun r2 M2 => InR r2 ∧ (r2 ≠ 0 → (InR (M2 50 13) ∧ ((M2 50 13) ≠ 0 → ((0 ≤ v1 ∧ v1 < 100) ∧ (0 ≤ (M2 59 0) ∧ (M2 59 0) < 100) ∧ (InR (M2 55 v1) ∧ InR (M2 55 (M2 59 0))) ∧ ((M2 55 v1) = (M2 55 (M2 59 0)) → (CV mX12_laySizes [vR 50] M2 (fun M45 => (0 ≤ v1 ∧ v1 < 100) ∧ InR (M45 75 v1) ∧ ((M45 75 v1) ≥ 0 → ((0 ≤ v1 ∧ v1 < 100) ∧ InR (M45 75 v1) ∧ ((M45 75 v1) ≤ 60 → (CV mX12_layTerm [vR 50, vI v1] M45 (fun M76 => CI mX12_matchNow [vR 50] M76 (fun r80 M80 => K r80 M80)))) ∧ (¬ ((M45 75 v1) ≤ 60) → (K (-10) M45)))) ∧ (¬ ((M45 75 v1) ≥ 0) → (K (-9) M45))))) ∧ (¬ ((M2 55 v1) = (M2 55 (M2 59 0))) → (K (-5) M2)))) ∧ (¬ ((M2 50 13) ≠ 0) → (K (-11) M2)))) ∧ (¬ (r2 ≠ 0) → (K (-3) M2)))) :
    CI mX12_firstMatch [vR 50, vI v1] M K := by
  show AW mX12_firstMatch 0 [some (vR 50), some (vI v1)] [] M (QI K)
  refine AW.aload_n (pc := 0) (x := 50) dX12_firstMatch_0 rfl ?_
  refine AW.iload_n (pc := 1) (x := v1) dX12_firstMatch_1 rfl ?_
  refine AW.callV (pc := 2) (As := [vI v1]) (st := []) dX12_firstMatch_2 cl_X12_199 kd_50 hl_50 ⟨Nat.le_of_ble_eq_true rfl, Nat.le_of_ble_eq_true rfl⟩ (Nat.le_of_ble_eq_true rfl) (Nat.le_of_ble_eq_true rfl) h ?_
  rintro _ M2 ⟨r2, rfl, h⟩
  show AW mX12_firstMatch 5 [some (vR 50), some (vI v1)] [vI r2] M2 (QI K)
  obtain ⟨o, ha, hb⟩ := h
  refine AW.if_ne (pc := 5) (tgt := 11) dX12_firstMatch_5 (by decide) o (fun hc => ?_) (fun hc => ?_)
  · have h := ha hc
    refine AW.aload_n (pc := 11) (x := 50) dX12_firstMatch_11 rfl ?_
    refine AW.getI (pc := 12) dX12_firstMatch_12 fg_X12_251 kd_50 hl_50 rfl ?_
    obtain ⟨o, ha, hb⟩ := h
    refine AW.if_ne (pc := 15) (tgt := 21) dX12_firstMatch_15 (by decide) o (fun hc => ?_) (fun hc => ?_)
    · have h := ha hc
      refine AW.aload_n (pc := 21) (x := 50) dX12_firstMatch_21 rfl ?_
      refine AW.getR (pc := 22) (h2 := 55) dX12_firstMatch_22 fg_X12_22 kd_50 hl_50 rfl ?_
      refine AW.iload_n (pc := 25) (x := v1) dX12_firstMatch_25 rfl ?_
      obtain ⟨o, h⟩ := h
      refine AW.iald (pc := 26) dX12_firstMatch_26 kd_55 hl_55 o ?_
      refine AW.aload_n (pc := 27) (x := 50) dX12_firstMatch_27 rfl ?_
      refine AW.getR (pc := 28) (h2 := 55) dX12_firstMatch_28 fg_X12_22 kd_50 hl_50 rfl ?_
      refine AW.aload_n (pc := 31) (x := 50) dX12_firstMatch_31 rfl ?_
      refine AW.getR (pc := 32) (h2 := 59) dX12_firstMatch_32 fg_X12_34 kd_50 hl_50 rfl ?_
      refine AW.iconst (pc := 35) dX12_firstMatch_35 ?_
      refine AW.iald (pc := 36) dX12_firstMatch_36 kd_59 hl_59 (by decide) ?_
      obtain ⟨o, h⟩ := h
      refine AW.iald (pc := 37) dX12_firstMatch_37 kd_55 hl_55 o ?_
      obtain ⟨o, ha, hb⟩ := h
      refine AW.icmp_eq (pc := 38) (tgt := 44) dX12_firstMatch_38 (by decide) o.1 o.2 (fun hc => ?_) (fun hc => ?_)
      · have h := ha hc
        refine AW.aload_n (pc := 44) (x := 50) dX12_firstMatch_44 rfl ?_
        refine AW.callV (pc := 45) (As := []) (st := []) dX12_firstMatch_45 cl_X12_214 kd_50 hl_50 ⟨Nat.le_of_ble_eq_true rfl, Nat.le_of_ble_eq_true rfl⟩ (Nat.le_of_ble_eq_true rfl) (Nat.le_of_ble_eq_true rfl) h ?_
        rintro _ M45 ⟨rfl, h⟩
        show AW mX12_firstMatch 48 [some (vR 50), some (vI v1)] [] M45 (QI K)
        refine AW.aload_n (pc := 48) (x := 50) dX12_firstMatch_48 rfl ?_
        refine AW.getR (pc := 49) (h2 := 75) dX12_firstMatch_49 fg_X12_83 kd_50 hl_50 rfl ?_
        refine AW.iload_n (pc := 52) (x := v1) dX12_firstMatch_52 rfl ?_
        obtain ⟨o, h⟩ := h
        refine AW.iald (pc := 53) dX12_firstMatch_53 kd_75 hl_75 o ?_
        obtain ⟨o, ha, hb⟩ := h
        refine AW.if_ge (pc := 54) (tgt := 60) dX12_firstMatch_54 (by decide) o (fun hc => ?_) (fun hc => ?_)
        · have h := ha hc
          refine AW.aload_n (pc := 60) (x := 50) dX12_firstMatch_60 rfl ?_
          refine AW.getR (pc := 61) (h2 := 75) dX12_firstMatch_61 fg_X12_83 kd_50 hl_50 rfl ?_
          refine AW.iload_n (pc := 64) (x := v1) dX12_firstMatch_64 rfl ?_
          obtain ⟨o, h⟩ := h
          refine AW.iald (pc := 65) dX12_firstMatch_65 kd_75 hl_75 o ?_
          refine AW.bipush (pc := 66) dX12_firstMatch_66 (by decide) ?_
          obtain ⟨o, ha, hb⟩ := h
          refine AW.icmp_le (pc := 68) (tgt := 74) dX12_firstMatch_68 (by decide) o (by decide) (fun hc => ?_) (fun hc => ?_)
          · have h := ha hc
            refine AW.aload_n (pc := 74) (x := 50) dX12_firstMatch_74 rfl ?_
            refine AW.iload_n (pc := 75) (x := v1) dX12_firstMatch_75 rfl ?_
            refine AW.callV (pc := 76) (As := [vI v1]) (st := []) dX12_firstMatch_76 cl_X12_260 kd_50 hl_50 ⟨Nat.le_of_ble_eq_true rfl, Nat.le_of_ble_eq_true rfl⟩ (Nat.le_of_ble_eq_true rfl) (Nat.le_of_ble_eq_true rfl) h ?_
            rintro _ M76 ⟨rfl, h⟩
            show AW mX12_firstMatch 79 [some (vR 50), some (vI v1)] [] M76 (QI K)
            refine AW.aload_n (pc := 79) (x := 50) dX12_firstMatch_79 rfl ?_
            refine AW.callV (pc := 80) (As := []) (st := []) dX12_firstMatch_80 cl_X12_264 kd_50 hl_50 ⟨Nat.le_of_ble_eq_true rfl, Nat.le_of_ble_eq_true rfl⟩ (Nat.le_of_ble_eq_true rfl) (Nat.le_of_ble_eq_true rfl) h ?_
            rintro _ M80 ⟨r80, rfl, h⟩
            show AW mX12_firstMatch 83 [some (vR 50), some (vI v1)] [vI r80] M80 (QI K)
            exact AW.iret (st := []) (pc := 83) dX12_firstMatch_83 rfl ⟨_, rfl, h⟩
          · have h := hb hc
            refine AW.bipush (pc := 71) dX12_firstMatch_71 (by decide) ?_
            exact AW.iret (st := []) (pc := 73) dX12_firstMatch_73 rfl ⟨_, rfl, h⟩
        · have h := hb hc
          refine AW.bipush (pc := 57) dX12_firstMatch_57 (by decide) ?_
          exact AW.iret (st := []) (pc := 59) dX12_firstMatch_59 rfl ⟨_, rfl, h⟩
      · have h := hb hc
        refine AW.bipush (pc := 41) dX12_firstMatch_41 (by decide) ?_
        exact AW.iret (st := []) (pc := 43) dX12_firstMatch_43 rfl ⟨_, rfl, h⟩
    · have h := hb hc
      refine AW.bipush (pc := 18) dX12_firstMatch_18 (by decide) ?_
      exact AW.iret (st := []) (pc := 20) dX12_firstMatch_20 rfl ⟨_, rfl, h⟩
  · have h := hb hc
    refine AW.bipush (pc := 8) dX12_firstMatch_8 (by decide) ?_
    exact AW.iret (st := []) (pc := 10) dX12_firstMatch_10 rfl ⟨_, rfl, h⟩

set_option maxRecDepth 20000 in
theorem en_X12_firstUncovered {M : Mem} {K : Int → Mem → Prop} {v1 : Int} 
    (h : InR (M 50 13) ∧ ((M 50 13) ≠ 0 → (CI mX12_in [vI v1, vI 1, vI 8] M (fun r14 M14 => InR r14 ∧ (r14 ≠ 0 → (CV mX12_layCounts [vR 50] M14 (fun M24 => AW mX12_firstUncovered 29 [some (vR 50), some (vI v1), some (vI 1), none] [] M24 (QI K)))) ∧ (¬ (r14 ≠ 0) → (K (-4) M14))))) ∧ (¬ ((M 50 13) ≠ 0) → (K (-11) M))) :
    CI mX12_firstUncovered [vR 50, vI v1] M K := by
  show AW mX12_firstUncovered 0 [some (vR 50), some (vI v1), none, none] [] M (QI K)
  refine AW.aload_n (pc := 0) (x := 50) dX12_firstUncovered_0 rfl ?_
  refine AW.getI (pc := 1) dX12_firstUncovered_1 fg_X12_251 kd_50 hl_50 rfl ?_
  obtain ⟨o, ha, hb⟩ := h
  refine AW.if_ne (pc := 4) (tgt := 10) dX12_firstUncovered_4 (by decide) o (fun hc => ?_) (fun hc => ?_)
  · have h := ha hc
    refine AW.iload_n (pc := 10) (x := v1) dX12_firstUncovered_10 rfl ?_
    refine AW.iconst (pc := 11) dX12_firstUncovered_11 ?_
    refine AW.bipush (pc := 12) dX12_firstUncovered_12 (by decide) ?_
    refine AW.callS (pc := 14) (As := [vI v1, vI 1, vI 8]) (st := []) dX12_firstUncovered_14 cl_X12_117 ⟨Nat.le_of_ble_eq_true rfl, Nat.le_of_ble_eq_true rfl⟩ (Nat.le_of_ble_eq_true rfl) (Nat.le_of_ble_eq_true rfl) h ?_
    rintro _ M14 ⟨r14, rfl, h⟩
    show AW mX12_firstUncovered 17 [some (vR 50), some (vI v1), none, none] [vI r14] M14 (QI K)
    obtain ⟨o, ha, hb⟩ := h
    refine AW.if_ne (pc := 17) (tgt := 23) dX12_firstUncovered_17 (by decide) o (fun hc => ?_) (fun hc => ?_)
    · have h := ha hc
      refine AW.aload_n (pc := 23) (x := 50) dX12_firstUncovered_23 rfl ?_
      refine AW.callV (pc := 24) (As := []) (st := []) dX12_firstUncovered_24 cl_X12_172 kd_50 hl_50 ⟨Nat.le_of_ble_eq_true rfl, Nat.le_of_ble_eq_true rfl⟩ (Nat.le_of_ble_eq_true rfl) (Nat.le_of_ble_eq_true rfl) h ?_
      rintro _ M24 ⟨rfl, h⟩
      show AW mX12_firstUncovered 27 [some (vR 50), some (vI v1), none, none] [] M24 (QI K)
      refine AW.iconst (pc := 27) dX12_firstUncovered_27 ?_
      refine AW.istore_n (pc := 28) (ls2 := [some (vR 50), some (vI v1), some (vI 1), none]) dX12_firstUncovered_28 (by decide) rfl ?_
      exact h
    · have h := hb hc
      refine AW.bipush (pc := 20) dX12_firstUncovered_20 (by decide) ?_
      exact AW.iret (st := []) (pc := 22) dX12_firstUncovered_22 rfl ⟨_, rfl, h⟩
  · have h := hb hc
    refine AW.bipush (pc := 7) dX12_firstUncovered_7 (by decide) ?_
    exact AW.iret (st := []) (pc := 9) dX12_firstUncovered_9 rfl ⟨_, rfl, h⟩

set_option maxRecDepth 20000 in
theorem sg_X12_firstUncovered_29 {M : Mem} {K : Int → Mem → Prop} {v1 v2 : Int} 
    (h : (InR v2 ∧ InR v1) ∧ (v2 > v1 → (AW mX12_firstUncovered 60 [some (vR 50), some (vI v1), some (vI 1), none] [] M (QI K))) ∧ (¬ (v2 > v1) → (CI mX12_subject [vR 50] M (fun r36 M36 => CI mX12_countOf [vR 50, vI r36, vI v2] M36 (fun r40 M40 => InR r40 ∧ (r40 ≤ 2000 → (AW mX12_firstUncovered 29 [some (vR 50), some (vI v1), some (vI (v2 + 1)), none] [] M40 (QI K))) ∧ (¬ (r40 ≤ 2000) → (K (-10) M40))))))) :
    AW mX12_firstUncovered 29 [some (vR 50), some (vI v1), some (vI v2), none] [] M (QI K) := by
  refine AW.iload_n (pc := 29) (x := v2) dX12_firstUncovered_29 rfl ?_
  refine AW.iload_n (pc := 30) (x := v1) dX12_firstUncovered_30 rfl ?_
  obtain ⟨o, ha, hb⟩ := h
  refine AW.icmp_gt (pc := 31) (tgt := 58) dX12_firstUncovered_31 (by decide) o.1 o.2 (fun hc => ?_) (fun hc => ?_)
  · have h := ha hc
    refine AW.iconst (pc := 58) dX12_firstUncovered_58 ?_
    refine AW.istore_n (pc := 59) (ls2 := [some (vR 50), some (vI v1), some (vI 1), none]) dX12_firstUncovered_59 (by decide) rfl ?_
    exact h
  · have h := hb hc
    refine AW.aload_n (pc := 34) (x := 50) dX12_firstUncovered_34 rfl ?_
    refine AW.aload_n (pc := 35) (x := 50) dX12_firstUncovered_35 rfl ?_
    refine AW.callV (pc := 36) (As := []) (st := [vR 50]) dX12_firstUncovered_36 cl_X12_267 kd_50 hl_50 ⟨Nat.le_of_ble_eq_true rfl, Nat.le_of_ble_eq_true rfl⟩ (Nat.le_of_ble_eq_true rfl) (Nat.le_of_ble_eq_true rfl) h ?_
    rintro _ M36 ⟨r36, rfl, h⟩
    show AW mX12_firstUncovered 39 [some (vR 50), some (vI v1), some (vI v2), none] [vI r36, vR 50] M36 (QI K)
    refine AW.iload_n (pc := 39) (x := v2) dX12_firstUncovered_39 rfl ?_
    refine AW.callV (pc := 40) (As := [vI r36, vI v2]) (st := []) dX12_firstUncovered_40 cl_X12_164 kd_50 hl_50 ⟨Nat.le_of_ble_eq_true rfl, Nat.le_of_ble_eq_true rfl⟩ (Nat.le_of_ble_eq_true rfl) (Nat.le_of_ble_eq_true rfl) h ?_
    rintro _ M40 ⟨r40, rfl, h⟩
    show AW mX12_firstUncovered 43 [some (vR 50), some (vI v1), some (vI v2), none] [vI r40] M40 (QI K)
    refine AW.sipush (pc := 43) dX12_firstUncovered_43 (by decide) ?_
    obtain ⟨o, ha, hb⟩ := h
    refine AW.icmp_le (pc := 46) (tgt := 52) dX12_firstUncovered_46 (by decide) o (by decide) (fun hc => ?_) (fun hc => ?_)
    · have h := ha hc
      refine AW.iinc (pc := 52) (x := v2) (ls2 := [some (vR 50), some (vI v1), some (vI (v2 + 1)), none]) dX12_firstUncovered_52 rfl (by decide) rfl ?_
      refine AW.goto (pc := 55) (tgt := 29) dX12_firstUncovered_55 (by decide) ?_
      exact h
    · have h := hb hc
      refine AW.bipush (pc := 49) dX12_firstUncovered_49 (by decide) ?_
      exact AW.iret (st := []) (pc := 51) dX12_firstUncovered_51 rfl ⟨_, rfl, h⟩

set_option maxRecDepth 20000 in
theorem sg_X12_firstUncovered_60 {M : Mem} {K : Int → Mem → Prop} {v1 v2 : Int} 
    (h : (InR v2 ∧ InR v1) ∧ (v2 > v1 → (K (-13) M)) ∧ (¬ (v2 > v1) → (AW mX12_firstUncovered 67 [some (vR 50), some (vI v1), some (vI v2), some (vI 0)] [] M (QI K)))) :
    AW mX12_firstUncovered 60 [some (vR 50), some (vI v1), some (vI v2), none] [] M (QI K) := by
  refine AW.iload_n (pc := 60) (x := v2) dX12_firstUncovered_60 rfl ?_
  refine AW.iload_n (pc := 61) (x := v1) dX12_firstUncovered_61 rfl ?_
  obtain ⟨o, ha, hb⟩ := h
  refine AW.icmp_gt (pc := 62) (tgt := 117) dX12_firstUncovered_62 (by decide) o.1 o.2 (fun hc => ?_) (fun hc => ?_)
  · have h := ha hc
    refine AW.bipush (pc := 117) dX12_firstUncovered_117 (by decide) ?_
    exact AW.iret (st := []) (pc := 119) dX12_firstUncovered_119 rfl ⟨_, rfl, h⟩
  · have h := hb hc
    refine AW.iconst (pc := 65) dX12_firstUncovered_65 ?_
    refine AW.istore_n (pc := 66) (ls2 := [some (vR 50), some (vI v1), some (vI v2), some (vI 0)]) dX12_firstUncovered_66 (by decide) rfl ?_
    exact h

set_option maxRecDepth 20000 in
theorem sg_X12_firstUncovered_67 {M : Mem} {K : Int → Mem → Prop} {v1 v2 v3 : Int} 
    (h : CI mX12_subject [vR 50] M (fun r70 M70 => CI mX12_countOf [vR 50, vI r70, vI v2] M70 (fun r74 M74 => (InR v3 ∧ InR r74) ∧ (v3 ≥ r74 → (AW mX12_firstUncovered 60 [some (vR 50), some (vI v1), some (vI (v2 + 1)), none] [] M74 (QI K))) ∧ (¬ (v3 ≥ r74) → (CI mX12_subject [vR 50] M74 (fun r82 M82 => CV mX12_layValue [vR 50, vI r82, vI v2, vI v3] M82 (fun M87 => CI mX12_matchNow [vR 50] M87 (fun r91 M91 => InR r91 ∧ (r91 ≥ 0 → (AW mX12_firstUncovered 67 [some (vR 50), some (vI v1), some (vI v2), some (vI (v3 + 1))] [] M91 (QI K))) ∧ (¬ (r91 ≥ 0) → (K ((10000 * v2) + v3) M91)))))))))) :
    AW mX12_firstUncovered 67 [some (vR 50), some (vI v1), some (vI v2), some (vI v3)] [] M (QI K) := by
  refine AW.iload_n (pc := 67) (x := v3) dX12_firstUncovered_67 rfl ?_
  refine AW.aload_n (pc := 68) (x := 50) dX12_firstUncovered_68 rfl ?_
  refine AW.aload_n (pc := 69) (x := 50) dX12_firstUncovered_69 rfl ?_
  refine AW.callV (pc := 70) (As := []) (st := [vR 50, vI v3]) dX12_firstUncovered_70 cl_X12_267 kd_50 hl_50 ⟨Nat.le_of_ble_eq_true rfl, Nat.le_of_ble_eq_true rfl⟩ (Nat.le_of_ble_eq_true rfl) (Nat.le_of_ble_eq_true rfl) h ?_
  rintro _ M70 ⟨r70, rfl, h⟩
  show AW mX12_firstUncovered 73 [some (vR 50), some (vI v1), some (vI v2), some (vI v3)] [vI r70, vR 50, vI v3] M70 (QI K)
  refine AW.iload_n (pc := 73) (x := v2) dX12_firstUncovered_73 rfl ?_
  refine AW.callV (pc := 74) (As := [vI r70, vI v2]) (st := [vI v3]) dX12_firstUncovered_74 cl_X12_164 kd_50 hl_50 ⟨Nat.le_of_ble_eq_true rfl, Nat.le_of_ble_eq_true rfl⟩ (Nat.le_of_ble_eq_true rfl) (Nat.le_of_ble_eq_true rfl) h ?_
  rintro _ M74 ⟨r74, rfl, h⟩
  show AW mX12_firstUncovered 77 [some (vR 50), some (vI v1), some (vI v2), some (vI v3)] [vI r74, vI v3] M74 (QI K)
  obtain ⟨o, ha, hb⟩ := h
  refine AW.icmp_ge (pc := 77) (tgt := 111) dX12_firstUncovered_77 (by decide) o.1 o.2 (fun hc => ?_) (fun hc => ?_)
  · have h := ha hc
    refine AW.iinc (pc := 111) (x := v2) (ls2 := [some (vR 50), some (vI v1), some (vI (v2 + 1)), some (vI v3)]) dX12_firstUncovered_111 rfl (by decide) rfl ?_
    refine AW.goto (pc := 114) (tgt := 60) dX12_firstUncovered_114 (by decide) ?_
    exact AW.weak (ls2 := [some (vR 50), some (vI v1), some (vI (v2 + 1)), none]) (by simp [lsub]) h
  · have h := hb hc
    refine AW.aload_n (pc := 80) (x := 50) dX12_firstUncovered_80 rfl ?_
    refine AW.aload_n (pc := 81) (x := 50) dX12_firstUncovered_81 rfl ?_
    refine AW.callV (pc := 82) (As := []) (st := [vR 50]) dX12_firstUncovered_82 cl_X12_267 kd_50 hl_50 ⟨Nat.le_of_ble_eq_true rfl, Nat.le_of_ble_eq_true rfl⟩ (Nat.le_of_ble_eq_true rfl) (Nat.le_of_ble_eq_true rfl) h ?_
    rintro _ M82 ⟨r82, rfl, h⟩
    show AW mX12_firstUncovered 85 [some (vR 50), some (vI v1), some (vI v2), some (vI v3)] [vI r82, vR 50] M82 (QI K)
    refine AW.iload_n (pc := 85) (x := v2) dX12_firstUncovered_85 rfl ?_
    refine AW.iload_n (pc := 86) (x := v3) dX12_firstUncovered_86 rfl ?_
    refine AW.callV (pc := 87) (As := [vI r82, vI v2, vI v3]) (st := []) dX12_firstUncovered_87 cl_X12_192 kd_50 hl_50 ⟨Nat.le_of_ble_eq_true rfl, Nat.le_of_ble_eq_true rfl⟩ (Nat.le_of_ble_eq_true rfl) (Nat.le_of_ble_eq_true rfl) h ?_
    rintro _ M87 ⟨rfl, h⟩
    show AW mX12_firstUncovered 90 [some (vR 50), some (vI v1), some (vI v2), some (vI v3)] [] M87 (QI K)
    refine AW.aload_n (pc := 90) (x := 50) dX12_firstUncovered_90 rfl ?_
    refine AW.callV (pc := 91) (As := []) (st := []) dX12_firstUncovered_91 cl_X12_264 kd_50 hl_50 ⟨Nat.le_of_ble_eq_true rfl, Nat.le_of_ble_eq_true rfl⟩ (Nat.le_of_ble_eq_true rfl) (Nat.le_of_ble_eq_true rfl) h ?_
    rintro _ M91 ⟨r91, rfl, h⟩
    show AW mX12_firstUncovered 94 [some (vR 50), some (vI v1), some (vI v2), some (vI v3)] [vI r91] M91 (QI K)
    obtain ⟨o, ha, hb⟩ := h
    refine AW.if_ge (pc := 94) (tgt := 105) dX12_firstUncovered_94 (by decide) o (fun hc => ?_) (fun hc => ?_)
    · have h := ha hc
      refine AW.iinc (pc := 105) (x := v3) (ls2 := [some (vR 50), some (vI v1), some (vI v2), some (vI (v3 + 1))]) dX12_firstUncovered_105 rfl (by decide) rfl ?_
      refine AW.goto (pc := 108) (tgt := 67) dX12_firstUncovered_108 (by decide) ?_
      exact h
    · have h := hb hc
      refine AW.sipush (pc := 97) dX12_firstUncovered_97 (by decide) ?_
      refine AW.iload_n (pc := 100) (x := v2) dX12_firstUncovered_100 rfl ?_
      refine AW.imul (pc := 101) dX12_firstUncovered_101 ?_
      refine AW.iload_n (pc := 102) (x := v3) dX12_firstUncovered_102 rfl ?_
      refine AW.iadd (pc := 103) dX12_firstUncovered_103 ?_
      exact AW.iret (st := []) (pc := 104) dX12_firstUncovered_104 rfl ⟨_, rfl, h⟩

set_option maxRecDepth 20000 in
theorem en_X12_head {M : Mem} {K : Int → Mem → Prop} {v1 : Int} 
    (h : CI mX12_isNode [vR 50, vI v1] M (fun r2 M2 => InR r2 ∧ (r2 = 0 → (K (-3) M2)) ∧ (¬ (r2 = 0) → (CI mX12_resolved [vR 50, vI v1] M2 (fun r14 M14 => (0 ≤ r14 ∧ r14 < 100) ∧ K (M14 54 r14) M14))))) :
    CI mX12_head [vR 50, vI v1] M K := by
  show AW mX12_head 0 [some (vR 50), some (vI v1)] [] M (QI K)
  refine AW.aload_n (pc := 0) (x := 50) dX12_head_0 rfl ?_
  refine AW.iload_n (pc := 1) (x := v1) dX12_head_1 rfl ?_
  refine AW.callV (pc := 2) (As := [vI v1]) (st := []) dX12_head_2 cl_X12_199 kd_50 hl_50 ⟨Nat.le_of_ble_eq_true rfl, Nat.le_of_ble_eq_true rfl⟩ (Nat.le_of_ble_eq_true rfl) (Nat.le_of_ble_eq_true rfl) h ?_
  rintro _ M2 ⟨r2, rfl, h⟩
  show AW mX12_head 5 [some (vR 50), some (vI v1)] [vI r2] M2 (QI K)
  obtain ⟨o, ha, hb⟩ := h
  refine AW.if_eq (pc := 5) (tgt := 21) dX12_head_5 (by decide) o (fun hc => ?_) (fun hc => ?_)
  · have h := ha hc
    refine AW.bipush (pc := 21) dX12_head_21 (by decide) ?_
    exact AW.iret (st := []) (pc := 23) dX12_head_23 rfl ⟨_, rfl, h⟩
  · have h := hb hc
    refine AW.aload_n (pc := 8) (x := 50) dX12_head_8 rfl ?_
    refine AW.getR (pc := 9) (h2 := 54) dX12_head_9 fg_X12_19 kd_50 hl_50 rfl ?_
    refine AW.aload_n (pc := 12) (x := 50) dX12_head_12 rfl ?_
    refine AW.iload_n (pc := 13) (x := v1) dX12_head_13 rfl ?_
    refine AW.callV (pc := 14) (As := [vI v1]) (st := [vR 54]) dX12_head_14 cl_X12_205 kd_50 hl_50 ⟨Nat.le_of_ble_eq_true rfl, Nat.le_of_ble_eq_true rfl⟩ (Nat.le_of_ble_eq_true rfl) (Nat.le_of_ble_eq_true rfl) h ?_
    rintro _ M14 ⟨r14, rfl, h⟩
    show AW mX12_head 17 [some (vR 50), some (vI v1)] [vI r14, vR 54] M14 (QI K)
    obtain ⟨o, h⟩ := h
    refine AW.iald (pc := 17) dX12_head_17 kd_54 hl_54 o ?_
    refine AW.goto (pc := 18) (tgt := 23) dX12_head_18 (by decide) ?_
    exact AW.iret (st := []) (pc := 23) dX12_head_23 rfl ⟨_, rfl, h⟩

set_option maxRecDepth 20000 in
theorem en_X12_in {M : Mem} {K : Int → Mem → Prop} {v0 v1 v2 : Int} 
    (h : (InR v0 ∧ InR v1) ∧ (v0 < v1 → (K 0 M)) ∧ (¬ (v0 < v1) → ((InR v0 ∧ InR v2) ∧ (v0 > v2 → (K 0 M)) ∧ (¬ (v0 > v2) → (K 1 M))))) :
    CI mX12_in [vI v0, vI v1, vI v2] M K := by
  show AW mX12_in 0 [some (vI v0), some (vI v1), some (vI v2)] [] M (QI K)
  refine AW.iload_n (pc := 0) (x := v0) dX12_in_0 rfl ?_
  refine AW.iload_n (pc := 1) (x := v1) dX12_in_1 rfl ?_
  obtain ⟨o, ha, hb⟩ := h
  refine AW.icmp_lt (pc := 2) (tgt := 14) dX12_in_2 (by decide) o.1 o.2 (fun hc => ?_) (fun hc => ?_)
  · have h := ha hc
    refine AW.iconst (pc := 14) dX12_in_14 ?_
    exact AW.zret (st := []) (pc := 15) dX12_in_15 rfl (by decide) ⟨_, rfl, h⟩
  · have h := hb hc
    refine AW.iload_n (pc := 5) (x := v0) dX12_in_5 rfl ?_
    refine AW.iload_n (pc := 6) (x := v2) dX12_in_6 rfl ?_
    obtain ⟨o, ha, hb⟩ := h
    refine AW.icmp_gt (pc := 7) (tgt := 14) dX12_in_7 (by decide) o.1 o.2 (fun hc => ?_) (fun hc => ?_)
    · have h := ha hc
      refine AW.iconst (pc := 14) dX12_in_14 ?_
      exact AW.zret (st := []) (pc := 15) dX12_in_15 rfl (by decide) ⟨_, rfl, h⟩
    · have h := hb hc
      refine AW.iconst (pc := 10) dX12_in_10 ?_
      refine AW.goto (pc := 11) (tgt := 15) dX12_in_11 (by decide) ?_
      exact AW.zret (st := []) (pc := 15) dX12_in_15 rfl (by decide) ⟨_, rfl, h⟩

set_option maxRecDepth 20000 in
theorem en_X12_isConstructor {M : Mem} {K : Int → Mem → Prop} {v1 : Int} 
    (h : CI mX12_in [vI v1, vI 0, vI ((M 50 1) - 1)] M (fun r8 M8 => ((r8 = 0 ∨ r8 = 1) ∧ K r8 M8))) :
    CI mX12_isConstructor [vR 50, vI v1] M K := by
  show AW mX12_isConstructor 0 [some (vR 50), some (vI v1)] [] M (QI K)
  refine AW.iload_n (pc := 0) (x := v1) dX12_isConstructor_0 rfl ?_
  refine AW.iconst (pc := 1) dX12_isConstructor_1 ?_
  refine AW.aload_n (pc := 2) (x := 50) dX12_isConstructor_2 rfl ?_
  refine AW.getI (pc := 3) dX12_isConstructor_3 fg_X12_121 kd_50 hl_50 rfl ?_
  refine AW.iconst (pc := 6) dX12_isConstructor_6 ?_
  refine AW.isub (pc := 7) dX12_isConstructor_7 ?_
  refine AW.callS (pc := 8) (As := [vI v1, vI 0, vI ((M 50 1) - 1)]) (st := []) dX12_isConstructor_8 cl_X12_117 ⟨Nat.le_of_ble_eq_true rfl, Nat.le_of_ble_eq_true rfl⟩ (Nat.le_of_ble_eq_true rfl) (Nat.le_of_ble_eq_true rfl) h ?_
  rintro _ M8 ⟨r8, rfl, h⟩
  show AW mX12_isConstructor 11 [some (vR 50), some (vI v1)] [vI r8] M8 (QI K)
  exact AW.zret (st := []) (pc := 11) dX12_isConstructor_11 rfl h.1 ⟨_, rfl, h.2⟩

