set_option maxRecDepth 20000 in
theorem en_X12_makeNodes {M : Mem} {K : Int → Mem → Prop} 
    (h : AW mX12_makeNodes 7 [some (vR 50), some (vI 0), some (vI (-13)), some (vI 0), none] [] M (QI K)) :
    CI mX12_makeNodes [vR 50] M K := by
  show AW mX12_makeNodes 0 [some (vR 50), none, none, none, none] [] M (QI K)
  refine AW.iconst (pc := 0) dX12_makeNodes_0 ?_
  refine AW.istore_n (pc := 1) (ls2 := [some (vR 50), some (vI 0), none, none, none]) dX12_makeNodes_1 (by decide) rfl ?_
  refine AW.bipush (pc := 2) dX12_makeNodes_2 (by decide) ?_
  refine AW.istore_n (pc := 4) (ls2 := [some (vR 50), some (vI 0), some (vI (-13)), none, none]) dX12_makeNodes_4 (by decide) rfl ?_
  refine AW.iconst (pc := 5) dX12_makeNodes_5 ?_
  refine AW.istore_n (pc := 6) (ls2 := [some (vR 50), some (vI 0), some (vI (-13)), some (vI 0), none]) dX12_makeNodes_6 (by decide) rfl ?_
  exact h

set_option maxRecDepth 20000 in
theorem sg_X12_makeNodes_7 {M : Mem} {K : Int → Mem → Prop} {v1 v2 v3 : Int} 
    (h : (InR v3 ∧ InR (M 50 21)) ∧ (v3 ≥ (M 50 21) → (K v2 M)) ∧ (¬ (v3 ≥ (M 50 21)) → ((0 ≤ v3 ∧ v3 < 64) ∧ (0 ≤ v1 ∧ v1 < 64) ∧ (0 ≤ v1 ∧ v1 < 64) ∧ AW mX12_makeNodes 37 [some (vR 50), some (vI (v1 + 1)), some (vI v2), some (vI v3), none] [] (up (up M 72 v1 (M 65 v3)) 73 v1 0) (QI K)))) :
    AW mX12_makeNodes 7 [some (vR 50), some (vI v1), some (vI v2), some (vI v3), none] [] M (QI K) := by
  refine AW.iload_n (pc := 7) (x := v3) dX12_makeNodes_7 rfl ?_
  refine AW.aload_n (pc := 8) (x := 50) dX12_makeNodes_8 rfl ?_
  refine AW.getI (pc := 9) dX12_makeNodes_9 fg_X12_179 kd_50 hl_50 rfl ?_
  obtain ⟨o, ha, hb⟩ := h
  refine AW.icmp_ge (pc := 12) (tgt := 163) dX12_makeNodes_12 (by decide) o.1 o.2 (fun hc => ?_) (fun hc => ?_)
  · have h := ha hc
    refine AW.iload_n (pc := 163) (x := v2) dX12_makeNodes_163 rfl ?_
    exact AW.iret (st := []) (pc := 164) dX12_makeNodes_164 rfl ⟨_, rfl, h⟩
  · have h := hb hc
    refine AW.aload_n (pc := 15) (x := 50) dX12_makeNodes_15 rfl ?_
    refine AW.getR (pc := 16) (h2 := 72) dX12_makeNodes_16 fg_X12_74 kd_50 hl_50 rfl ?_
    refine AW.iload_n (pc := 19) (x := v1) dX12_makeNodes_19 rfl ?_
    refine AW.aload_n (pc := 20) (x := 50) dX12_makeNodes_20 rfl ?_
    refine AW.getR (pc := 21) (h2 := 65) dX12_makeNodes_21 fg_X12_53 kd_50 hl_50 rfl ?_
    refine AW.iload_n (pc := 24) (x := v3) dX12_makeNodes_24 rfl ?_
    obtain ⟨o, h⟩ := h
    refine AW.iald (pc := 25) dX12_makeNodes_25 kd_65 hl_65 o ?_
    obtain ⟨o, h⟩ := h
    refine AW.iast (pc := 26) dX12_makeNodes_26 kd_72 hl_72 o ?_
    refine AW.aload_n (pc := 27) (x := 50) dX12_makeNodes_27 rfl ?_
    refine AW.getR (pc := 28) (h2 := 73) dX12_makeNodes_28 fg_X12_77 kd_50 hl_50 rfl ?_
    refine AW.iload_n (pc := 31) (x := v1) dX12_makeNodes_31 rfl ?_
    refine AW.iconst (pc := 32) dX12_makeNodes_32 ?_
    obtain ⟨o, h⟩ := h
    refine AW.iast (pc := 33) dX12_makeNodes_33 kd_73 hl_73 o ?_
    refine AW.iinc (pc := 34) (x := v1) (ls2 := [some (vR 50), some (vI (v1 + 1)), some (vI v2), some (vI v3), none]) dX12_makeNodes_34 rfl (by decide) rfl ?_
    exact h

set_option maxRecDepth 20000 in
theorem sg_X12_makeNodes_37 {M : Mem} {K : Int → Mem → Prop} {v1 v2 v3 : Int} 
    (h : InR v1 ∧ (v1 ≤ 0 → (AW mX12_makeNodes 157 [some (vR 50), some (vI v1), some (vI v2), some (vI v3), none] [] M (QI K))) ∧ (¬ (v1 ≤ 0) → ((0 ≤ (v1 - 1) ∧ (v1 - 1) < 64) ∧ (0 ≤ (v1 - 1) ∧ (v1 - 1) < 64) ∧ (0 ≤ (M 72 (v1 - 1)) ∧ (M 72 (v1 - 1)) < 12) ∧ (InR (M 73 (v1 - 1)) ∧ InR (M 52 (M 72 (v1 - 1)))) ∧ ((M 73 (v1 - 1)) ≠ (M 52 (M 72 (v1 - 1))) → (AW mX12_makeNodes 157 [some (vR 50), some (vI v1), some (vI v2), some (vI v3), none] [] M (QI K))) ∧ (¬ ((M 73 (v1 - 1)) ≠ (M 52 (M 72 (v1 - 1)))) → ((0 ≤ (v1 + (-1)) ∧ (v1 + (-1)) < 64) ∧ (0 ≤ (M 72 (v1 + (-1))) ∧ (M 72 (v1 + (-1))) < 12) ∧ (0 ≤ (3 * (v1 + (-1))) ∧ (3 * (v1 + (-1))) < 192) ∧ (0 ≤ ((3 * (v1 + (-1))) + 1) ∧ ((3 * (v1 + (-1))) + 1) < 192) ∧ (0 ≤ ((3 * (v1 + (-1))) + 2) ∧ ((3 * (v1 + (-1))) + 2) < 192) ∧ CI mX12_addNode [vR 50, vI (M 72 (v1 + (-1))), vI (M 51 (M 72 (v1 + (-1)))), vI (M 74 (3 * (v1 + (-1)))), vI (M 74 ((3 * (v1 + (-1))) + 1)), vI (M 74 ((3 * (v1 + (-1))) + 2))] M (fun r114 M114 => InR (v1 + (-1)) ∧ ((v1 + (-1)) ≤ 0 → (AW mX12_makeNodes 154 [some (vR 50), some (vI (v1 + (-1))), some (vI r114), some (vI v3), some (vI (M 72 (v1 + (-1))))] [] M114 (QI K))) ∧ (¬ ((v1 + (-1)) ≤ 0) → ((0 ≤ ((v1 + (-1)) - 1) ∧ ((v1 + (-1)) - 1) < 64) ∧ (0 ≤ ((3 * ((v1 + (-1)) - 1)) + (M114 73 ((v1 + (-1)) - 1))) ∧ ((3 * ((v1 + (-1)) - 1)) + (M114 73 ((v1 + (-1)) - 1))) < 192) ∧ (0 ≤ ((v1 + (-1)) - 1) ∧ ((v1 + (-1)) - 1) < 64) ∧ (0 ≤ ((v1 + (-1)) - 1) ∧ ((v1 + (-1)) - 1) < 64) ∧ AW mX12_makeNodes 154 [some (vR 50), some (vI (v1 + (-1))), some (vI r114), some (vI v3), some (vI (M 72 (v1 + (-1))))] [] (up (up M114 74 ((3 * ((v1 + (-1)) - 1)) + (M114 73 ((v1 + (-1)) - 1))) r114) 73 ((v1 + (-1)) - 1) ((M114 73 ((v1 + (-1)) - 1)) + 1)) (QI K))))))))) :
    AW mX12_makeNodes 37 [some (vR 50), some (vI v1), some (vI v2), some (vI v3), none] [] M (QI K) := by
  refine AW.iload_n (pc := 37) (x := v1) dX12_makeNodes_37 rfl ?_
  obtain ⟨o, ha, hb⟩ := h
  refine AW.if_le (pc := 38) (tgt := 157) dX12_makeNodes_38 (by decide) o (fun hc => ?_) (fun hc => ?_)
  · have h := ha hc
    exact h
  · have h := hb hc
    refine AW.aload_n (pc := 41) (x := 50) dX12_makeNodes_41 rfl ?_
    refine AW.getR (pc := 42) (h2 := 73) dX12_makeNodes_42 fg_X12_77 kd_50 hl_50 rfl ?_
    refine AW.iload_n (pc := 45) (x := v1) dX12_makeNodes_45 rfl ?_
    refine AW.iconst (pc := 46) dX12_makeNodes_46 ?_
    refine AW.isub (pc := 47) dX12_makeNodes_47 ?_
    obtain ⟨o, h⟩ := h
    refine AW.iald (pc := 48) dX12_makeNodes_48 kd_73 hl_73 o ?_
    refine AW.aload_n (pc := 49) (x := 50) dX12_makeNodes_49 rfl ?_
    refine AW.getR (pc := 50) (h2 := 52) dX12_makeNodes_50 fg_X12_13 kd_50 hl_50 rfl ?_
    refine AW.aload_n (pc := 53) (x := 50) dX12_makeNodes_53 rfl ?_
    refine AW.getR (pc := 54) (h2 := 72) dX12_makeNodes_54 fg_X12_74 kd_50 hl_50 rfl ?_
    refine AW.iload_n (pc := 57) (x := v1) dX12_makeNodes_57 rfl ?_
    refine AW.iconst (pc := 58) dX12_makeNodes_58 ?_
    refine AW.isub (pc := 59) dX12_makeNodes_59 ?_
    obtain ⟨o, h⟩ := h
    refine AW.iald (pc := 60) dX12_makeNodes_60 kd_72 hl_72 o ?_
    obtain ⟨o, h⟩ := h
    refine AW.iald (pc := 61) dX12_makeNodes_61 kd_52 hl_52 o ?_
    obtain ⟨o, ha, hb⟩ := h
    refine AW.icmp_ne (pc := 62) (tgt := 157) dX12_makeNodes_62 (by decide) o.1 o.2 (fun hc => ?_) (fun hc => ?_)
    · have h := ha hc
      exact h
    · have h := hb hc
      refine AW.iinc (pc := 65) (x := v1) (ls2 := [some (vR 50), some (vI (v1 + (-1))), some (vI v2), some (vI v3), none]) dX12_makeNodes_65 rfl (by decide) rfl ?_
      refine AW.aload_n (pc := 68) (x := 50) dX12_makeNodes_68 rfl ?_
      refine AW.getR (pc := 69) (h2 := 72) dX12_makeNodes_69 fg_X12_74 kd_50 hl_50 rfl ?_
      refine AW.iload_n (pc := 72) (x := (v1 + (-1))) dX12_makeNodes_72 rfl ?_
      obtain ⟨o, h⟩ := h
      refine AW.iald (pc := 73) dX12_makeNodes_73 kd_72 hl_72 o ?_
      refine AW.istore (pc := 74) (ls2 := [some (vR 50), some (vI (v1 + (-1))), some (vI v2), some (vI v3), some (vI (M 72 (v1 + (-1))))]) dX12_makeNodes_74 (by decide) rfl ?_
      refine AW.aload_n (pc := 76) (x := 50) dX12_makeNodes_76 rfl ?_
      refine AW.iload (pc := 77) (x := (M 72 (v1 + (-1)))) dX12_makeNodes_77 rfl ?_
      refine AW.aload_n (pc := 79) (x := 50) dX12_makeNodes_79 rfl ?_
      refine AW.getR (pc := 80) (h2 := 51) dX12_makeNodes_80 fg_X12_7 kd_50 hl_50 rfl ?_
      refine AW.iload (pc := 83) (x := (M 72 (v1 + (-1)))) dX12_makeNodes_83 rfl ?_
      obtain ⟨o, h⟩ := h
      refine AW.iald (pc := 85) dX12_makeNodes_85 kd_51 hl_51 o ?_
      refine AW.aload_n (pc := 86) (x := 50) dX12_makeNodes_86 rfl ?_
      refine AW.getR (pc := 87) (h2 := 74) dX12_makeNodes_87 fg_X12_80 kd_50 hl_50 rfl ?_
      refine AW.iconst (pc := 90) dX12_makeNodes_90 ?_
      refine AW.iload_n (pc := 91) (x := (v1 + (-1))) dX12_makeNodes_91 rfl ?_
      refine AW.imul (pc := 92) dX12_makeNodes_92 ?_
      obtain ⟨o, h⟩ := h
      refine AW.iald (pc := 93) dX12_makeNodes_93 kd_74 hl_74 o ?_
      refine AW.aload_n (pc := 94) (x := 50) dX12_makeNodes_94 rfl ?_
      refine AW.getR (pc := 95) (h2 := 74) dX12_makeNodes_95 fg_X12_80 kd_50 hl_50 rfl ?_
      refine AW.iconst (pc := 98) dX12_makeNodes_98 ?_
      refine AW.iload_n (pc := 99) (x := (v1 + (-1))) dX12_makeNodes_99 rfl ?_
      refine AW.imul (pc := 100) dX12_makeNodes_100 ?_
      refine AW.iconst (pc := 101) dX12_makeNodes_101 ?_
      refine AW.iadd (pc := 102) dX12_makeNodes_102 ?_
      obtain ⟨o, h⟩ := h
      refine AW.iald (pc := 103) dX12_makeNodes_103 kd_74 hl_74 o ?_
      refine AW.aload_n (pc := 104) (x := 50) dX12_makeNodes_104 rfl ?_
      refine AW.getR (pc := 105) (h2 := 74) dX12_makeNodes_105 fg_X12_80 kd_50 hl_50 rfl ?_
      refine AW.iconst (pc := 108) dX12_makeNodes_108 ?_
      refine AW.iload_n (pc := 109) (x := (v1 + (-1))) dX12_makeNodes_109 rfl ?_
      refine AW.imul (pc := 110) dX12_makeNodes_110 ?_
      refine AW.iconst (pc := 111) dX12_makeNodes_111 ?_
      refine AW.iadd (pc := 112) dX12_makeNodes_112 ?_
      obtain ⟨o, h⟩ := h
      refine AW.iald (pc := 113) dX12_makeNodes_113 kd_74 hl_74 o ?_
      refine AW.callV (pc := 114) (As := [vI (M 72 (v1 + (-1))), vI (M 51 (M 72 (v1 + (-1)))), vI (M 74 (3 * (v1 + (-1)))), vI (M 74 ((3 * (v1 + (-1))) + 1)), vI (M 74 ((3 * (v1 + (-1))) + 2))]) (st := []) dX12_makeNodes_114 cl_X12_189 kd_50 hl_50 ⟨Nat.le_of_ble_eq_true rfl, Nat.le_of_ble_eq_true rfl⟩ (Nat.le_of_ble_eq_true rfl) (Nat.le_of_ble_eq_true rfl) h ?_
      rintro _ M114 ⟨r114, rfl, h⟩
      show AW mX12_makeNodes 117 [some (vR 50), some (vI (v1 + (-1))), some (vI v2), some (vI v3), some (vI (M 72 (v1 + (-1))))] [vI r114] M114 (QI K)
      refine AW.istore_n (pc := 117) (ls2 := [some (vR 50), some (vI (v1 + (-1))), some (vI r114), some (vI v3), some (vI (M 72 (v1 + (-1))))]) dX12_makeNodes_117 (by decide) rfl ?_
      refine AW.iload_n (pc := 118) (x := (v1 + (-1))) dX12_makeNodes_118 rfl ?_
      obtain ⟨o, ha, hb⟩ := h
      refine AW.if_le (pc := 119) (tgt := 154) dX12_makeNodes_119 (by decide) o (fun hc => ?_) (fun hc => ?_)
      · have h := ha hc
        exact h
      · have h := hb hc
        refine AW.aload_n (pc := 122) (x := 50) dX12_makeNodes_122 rfl ?_
        refine AW.getR (pc := 123) (h2 := 74) dX12_makeNodes_123 fg_X12_80 kd_50 hl_50 rfl ?_
        refine AW.iconst (pc := 126) dX12_makeNodes_126 ?_
        refine AW.iload_n (pc := 127) (x := (v1 + (-1))) dX12_makeNodes_127 rfl ?_
        refine AW.iconst (pc := 128) dX12_makeNodes_128 ?_
        refine AW.isub (pc := 129) dX12_makeNodes_129 ?_
        refine AW.imul (pc := 130) dX12_makeNodes_130 ?_
        refine AW.aload_n (pc := 131) (x := 50) dX12_makeNodes_131 rfl ?_
        refine AW.getR (pc := 132) (h2 := 73) dX12_makeNodes_132 fg_X12_77 kd_50 hl_50 rfl ?_
        refine AW.iload_n (pc := 135) (x := (v1 + (-1))) dX12_makeNodes_135 rfl ?_
        refine AW.iconst (pc := 136) dX12_makeNodes_136 ?_
        refine AW.isub (pc := 137) dX12_makeNodes_137 ?_
        obtain ⟨o, h⟩ := h
        refine AW.iald (pc := 138) dX12_makeNodes_138 kd_73 hl_73 o ?_
        refine AW.iadd (pc := 139) dX12_makeNodes_139 ?_
        refine AW.iload_n (pc := 140) (x := r114) dX12_makeNodes_140 rfl ?_
        obtain ⟨o, h⟩ := h
        refine AW.iast (pc := 141) dX12_makeNodes_141 kd_74 hl_74 o ?_
        refine AW.aload_n (pc := 142) (x := 50) dX12_makeNodes_142 rfl ?_
        refine AW.getR (pc := 143) (h2 := 73) dX12_makeNodes_143 fg_X12_77 kd_50 hl_50 rfl ?_
        refine AW.iload_n (pc := 146) (x := (v1 + (-1))) dX12_makeNodes_146 rfl ?_
        refine AW.iconst (pc := 147) dX12_makeNodes_147 ?_
        refine AW.isub (pc := 148) dX12_makeNodes_148 ?_
        refine AW.dup2 (pc := 149) dX12_makeNodes_149 rfl rfl ?_
        obtain ⟨o, h⟩ := h
        refine AW.iald (pc := 150) dX12_makeNodes_150 kd_73 hl_73 o ?_
        refine AW.iconst (pc := 151) dX12_makeNodes_151 ?_
        refine AW.iadd (pc := 152) dX12_makeNodes_152 ?_
        obtain ⟨o, h⟩ := h
        refine AW.iast (pc := 153) dX12_makeNodes_153 kd_73 hl_73 o ?_
        exact h

set_option maxRecDepth 20000 in
theorem sg_X12_makeNodes_154 {M : Mem} {K : Int → Mem → Prop} {v1 v2 v3 v4 : Int} 
    (h : AW mX12_makeNodes 37 [some (vR 50), some (vI v1), some (vI v2), some (vI v3), none] [] M (QI K)) :
    AW mX12_makeNodes 154 [some (vR 50), some (vI v1), some (vI v2), some (vI v3), some (vI v4)] [] M (QI K) := by
  refine AW.goto (pc := 154) (tgt := 37) dX12_makeNodes_154 (by decide) ?_
  exact AW.weak (ls2 := [some (vR 50), some (vI v1), some (vI v2), some (vI v3), none]) (by simp [lsub]) h

set_option maxRecDepth 20000 in
theorem sg_X12_makeNodes_157 {M : Mem} {K : Int → Mem → Prop} {v1 v2 v3 : Int} 
    (h : AW mX12_makeNodes 7 [some (vR 50), some (vI v1), some (vI v2), some (vI (v3 + 1)), none] [] M (QI K)) :
    AW mX12_makeNodes 157 [some (vR 50), some (vI v1), some (vI v2), some (vI v3), none] [] M (QI K) := by
  refine AW.iinc (pc := 157) (x := v3) (ls2 := [some (vR 50), some (vI v1), some (vI v2), some (vI (v3 + 1)), none]) dX12_makeNodes_157 rfl (by decide) rfl ?_
  refine AW.goto (pc := 160) (tgt := 7) dX12_makeNodes_160 (by decide) ?_
  exact h

set_option maxRecDepth 20000 in
theorem en_X12_manyOf {M : Mem} {K : Int → Mem → Prop} {v1 : Int} 
    (h : (0 ≤ v1 ∧ v1 < 100) ∧ InR (M 54 v1) ∧ ((M 54 v1) ≥ 0 → ((0 ≤ v1 ∧ v1 < 100) ∧ (0 ≤ (M 54 v1) ∧ (M 54 v1) < 12) ∧ K (M 52 (M 54 v1)) M)) ∧ (¬ ((M 54 v1) ≥ 0) → (K 0 M))) :
    CI mX12_manyOf [vR 50, vI v1] M K := by
  show AW mX12_manyOf 0 [some (vR 50), some (vI v1)] [] M (QI K)
  refine AW.aload_n (pc := 0) (x := 50) dX12_manyOf_0 rfl ?_
  refine AW.getR (pc := 1) (h2 := 54) dX12_manyOf_1 fg_X12_19 kd_50 hl_50 rfl ?_
  refine AW.iload_n (pc := 4) (x := v1) dX12_manyOf_4 rfl ?_
  obtain ⟨o, h⟩ := h
  refine AW.iald (pc := 5) dX12_manyOf_5 kd_54 hl_54 o ?_
  obtain ⟨o, ha, hb⟩ := h
  refine AW.if_ge (pc := 6) (tgt := 13) dX12_manyOf_6 (by decide) o (fun hc => ?_) (fun hc => ?_)
  · have h := ha hc
    refine AW.aload_n (pc := 13) (x := 50) dX12_manyOf_13 rfl ?_
    refine AW.getR (pc := 14) (h2 := 52) dX12_manyOf_14 fg_X12_13 kd_50 hl_50 rfl ?_
    refine AW.aload_n (pc := 17) (x := 50) dX12_manyOf_17 rfl ?_
    refine AW.getR (pc := 18) (h2 := 54) dX12_manyOf_18 fg_X12_19 kd_50 hl_50 rfl ?_
    refine AW.iload_n (pc := 21) (x := v1) dX12_manyOf_21 rfl ?_
    obtain ⟨o, h⟩ := h
    refine AW.iald (pc := 22) dX12_manyOf_22 kd_54 hl_54 o ?_
    obtain ⟨o, h⟩ := h
    refine AW.iald (pc := 23) dX12_manyOf_23 kd_52 hl_52 o ?_
    exact AW.iret (st := []) (pc := 24) dX12_manyOf_24 rfl ⟨_, rfl, h⟩
  · have h := hb hc
    refine AW.iconst (pc := 9) dX12_manyOf_9 ?_
    refine AW.goto (pc := 10) (tgt := 24) dX12_manyOf_10 (by decide) ?_
    exact AW.iret (st := []) (pc := 24) dX12_manyOf_24 rfl ⟨_, rfl, h⟩

set_option maxRecDepth 20000 in
theorem en_X12_matchNow {M : Mem} {K : Int → Mem → Prop} 
    (h : AW mX12_matchNow 2 [some (vR 50), some (vI 0)] [] M (QI K)) :
    CI mX12_matchNow [vR 50] M K := by
  show AW mX12_matchNow 0 [some (vR 50), none] [] M (QI K)
  refine AW.iconst (pc := 0) dX12_matchNow_0 ?_
  refine AW.istore_n (pc := 1) (ls2 := [some (vR 50), some (vI 0)]) dX12_matchNow_1 (by decide) rfl ?_
  exact h

set_option maxRecDepth 20000 in
theorem sg_X12_matchNow_2 {M : Mem} {K : Int → Mem → Prop} {v1 : Int} 
    (h : (InR v1 ∧ InR (M 50 13)) ∧ (v1 ≥ (M 50 13) → (K (-13) M)) ∧ (¬ (v1 ≥ (M 50 13)) → ((0 ≤ v1 ∧ v1 < 8) ∧ CI mX12_matches [vR 50, vI (M 59 v1)] M (fun r17 M17 => InR r17 ∧ (r17 = 0 → (AW mX12_matchNow 2 [some (vR 50), some (vI (v1 + 1))] [] M17 (QI K))) ∧ (¬ (r17 = 0) → (K v1 M17)))))) :
    AW mX12_matchNow 2 [some (vR 50), some (vI v1)] [] M (QI K) := by
  refine AW.iload_n (pc := 2) (x := v1) dX12_matchNow_2 rfl ?_
  refine AW.aload_n (pc := 3) (x := 50) dX12_matchNow_3 rfl ?_
  refine AW.getI (pc := 4) dX12_matchNow_4 fg_X12_251 kd_50 hl_50 rfl ?_
  obtain ⟨o, ha, hb⟩ := h
  refine AW.icmp_ge (pc := 7) (tgt := 31) dX12_matchNow_7 (by decide) o.1 o.2 (fun hc => ?_) (fun hc => ?_)
  · have h := ha hc
    refine AW.bipush (pc := 31) dX12_matchNow_31 (by decide) ?_
    exact AW.iret (st := []) (pc := 33) dX12_matchNow_33 rfl ⟨_, rfl, h⟩
  · have h := hb hc
    refine AW.aload_n (pc := 10) (x := 50) dX12_matchNow_10 rfl ?_
    refine AW.aload_n (pc := 11) (x := 50) dX12_matchNow_11 rfl ?_
    refine AW.getR (pc := 12) (h2 := 59) dX12_matchNow_12 fg_X12_34 kd_50 hl_50 rfl ?_
    refine AW.iload_n (pc := 15) (x := v1) dX12_matchNow_15 rfl ?_
    obtain ⟨o, h⟩ := h
    refine AW.iald (pc := 16) dX12_matchNow_16 kd_59 hl_59 o ?_
    refine AW.callV (pc := 17) (As := [vI (M 59 v1)]) (st := []) dX12_matchNow_17 cl_X12_257 kd_50 hl_50 ⟨Nat.le_of_ble_eq_true rfl, Nat.le_of_ble_eq_true rfl⟩ (Nat.le_of_ble_eq_true rfl) (Nat.le_of_ble_eq_true rfl) h ?_
    rintro _ M17 ⟨r17, rfl, h⟩
    show AW mX12_matchNow 20 [some (vR 50), some (vI v1)] [vI r17] M17 (QI K)
    obtain ⟨o, ha, hb⟩ := h
    refine AW.if_eq (pc := 20) (tgt := 25) dX12_matchNow_20 (by decide) o (fun hc => ?_) (fun hc => ?_)
    · have h := ha hc
      refine AW.iinc (pc := 25) (x := v1) (ls2 := [some (vR 50), some (vI (v1 + 1))]) dX12_matchNow_25 rfl (by decide) rfl ?_
      refine AW.goto (pc := 28) (tgt := 2) dX12_matchNow_28 (by decide) ?_
      exact h
    · have h := hb hc
      refine AW.iload_n (pc := 23) (x := v1) dX12_matchNow_23 rfl ?_
      exact AW.iret (st := []) (pc := 24) dX12_matchNow_24 rfl ⟨_, rfl, h⟩

set_option maxRecDepth 20000 in
theorem en_X12_matches {M : Mem} {K : Int → Mem → Prop} {v1 : Int} 
    (h : AW mX12_matches 2 [some (vR 50), some (vI v1), some (vI 0), none, none, none] [] M (QI K)) :
    CI mX12_matches [vR 50, vI v1] M K := by
  show AW mX12_matches 0 [some (vR 50), some (vI v1), none, none, none, none] [] M (QI K)
  refine AW.iconst (pc := 0) dX12_matches_0 ?_
  refine AW.istore_n (pc := 1) (ls2 := [some (vR 50), some (vI v1), some (vI 0), none, none, none]) dX12_matches_1 (by decide) rfl ?_
  exact h

set_option maxRecDepth 20000 in
theorem sg_X12_matches_2 {M : Mem} {K : Int → Mem → Prop} {v1 v2 : Int} 
    (h : (InR v2 ∧ InR (M 50 5)) ∧ (v2 ≥ (M 50 5) → (AW mX12_matches 35 [some (vR 50), some (vI v1), some (vI 1), some (vI 0), none, none] [] (up M 84 0 v1) (QI K))) ∧ (¬ (v2 ≥ (M 50 5)) → ((0 ≤ v2 ∧ v2 < 100) ∧ AW mX12_matches 2 [some (vR 50), some (vI v1), some (vI (v2 + 1)), none, none, none] [] (up M 83 v2 (-13)) (QI K)))) :
    AW mX12_matches 2 [some (vR 50), some (vI v1), some (vI v2), none, none, none] [] M (QI K) := by
  refine AW.iload_n (pc := 2) (x := v2) dX12_matches_2 rfl ?_
  refine AW.aload_n (pc := 3) (x := 50) dX12_matches_3 rfl ?_
  refine AW.getI (pc := 4) dX12_matches_4 fg_X12_124 kd_50 hl_50 rfl ?_
  obtain ⟨o, ha, hb⟩ := h
  refine AW.icmp_ge (pc := 7) (tgt := 24) dX12_matches_7 (by decide) o.1 o.2 (fun hc => ?_) (fun hc => ?_)
  · have h := ha hc
    refine AW.iconst (pc := 24) dX12_matches_24 ?_
    refine AW.istore_n (pc := 25) (ls2 := [some (vR 50), some (vI v1), some (vI 1), none, none, none]) dX12_matches_25 (by decide) rfl ?_
    refine AW.iconst (pc := 26) dX12_matches_26 ?_
    refine AW.istore_n (pc := 27) (ls2 := [some (vR 50), some (vI v1), some (vI 1), some (vI 0), none, none]) dX12_matches_27 (by decide) rfl ?_
    refine AW.aload_n (pc := 28) (x := 50) dX12_matches_28 rfl ?_
    refine AW.getR (pc := 29) (h2 := 84) dX12_matches_29 fg_X12_110 kd_50 hl_50 rfl ?_
    refine AW.iconst (pc := 32) dX12_matches_32 ?_
    refine AW.iload_n (pc := 33) (x := v1) dX12_matches_33 rfl ?_
    refine AW.iast (pc := 34) dX12_matches_34 kd_84 hl_84 (by decide) ?_
    exact h
  · have h := hb hc
    refine AW.aload_n (pc := 10) (x := 50) dX12_matches_10 rfl ?_
    refine AW.getR (pc := 11) (h2 := 83) dX12_matches_11 fg_X12_107 kd_50 hl_50 rfl ?_
    refine AW.iload_n (pc := 14) (x := v2) dX12_matches_14 rfl ?_
    refine AW.bipush (pc := 15) dX12_matches_15 (by decide) ?_
    obtain ⟨o, h⟩ := h
    refine AW.iast (pc := 17) dX12_matches_17 kd_83 hl_83 o ?_
    refine AW.iinc (pc := 18) (x := v2) (ls2 := [some (vR 50), some (vI v1), some (vI (v2 + 1)), none, none, none]) dX12_matches_18 rfl (by decide) rfl ?_
    refine AW.goto (pc := 21) (tgt := 2) dX12_matches_21 (by decide) ?_
    exact h

set_option maxRecDepth 20000 in
theorem sg_X12_matches_35 {M : Mem} {K : Int → Mem → Prop} {v1 v2 v3 : Int} 
    (h : InR v2 ∧ (v2 ≤ 0 → (K 1 M)) ∧ (¬ (v2 ≤ 0) → ((0 ≤ (v2 + (-1)) ∧ (v2 + (-1)) < 256) ∧ CI mX12_resolved [vR 50, vI (M 84 (v2 + (-1)))] M (fun r49 M49 => (0 ≤ r49 ∧ r49 < 100) ∧ InR (M49 54 r49) ∧ ((M49 54 r49) ≥ 0 → ((0 ≤ r49 ∧ r49 < 100) ∧ (0 ≤ v3 ∧ v3 < 64) ∧ (InR (M49 54 r49) ∧ InR (M49 65 v3)) ∧ ((M49 54 r49) = (M49 65 v3) → (CI mX12_manyOf [vR 50, vI r49] M49 (fun r132 M132 => AW mX12_matches 139 [some (vR 50), some (vI v1), some (vI (v2 + (-1))), some (vI v3), some (vI r49), some (vI (r132 - 1))] [] M132 (QI K)))) ∧ (¬ ((M49 54 r49) = (M49 65 v3)) → (K 0 M49)))) ∧ (¬ ((M49 54 r49) ≥ 0) → ((0 ≤ r49 ∧ r49 < 100) ∧ InR (M49 83 r49) ∧ ((M49 83 r49) < 0 → (AW mX12_matches 91 [some (vR 50), some (vI v1), some (vI (v2 + (-1))), some (vI v3), some (vI r49), none] [] M49 (QI K))) ∧ (¬ ((M49 83 r49) < 0) → ((0 ≤ r49 ∧ r49 < 100) ∧ CI mX12_areSame [vR 50, vI (M49 83 r49), vI v3] M49 (fun r83 M83 => InR r83 ∧ (r83 ≠ 0 → (AW mX12_matches 91 [some (vR 50), some (vI v1), some (vI (v2 + (-1))), some (vI v3), some (vI r49), none] [] M83 (QI K))) ∧ (¬ (r83 ≠ 0) → (K 0 M83))))))))))) :
    AW mX12_matches 35 [some (vR 50), some (vI v1), some (vI v2), some (vI v3), none, none] [] M (QI K) := by
  refine AW.iload_n (pc := 35) (x := v2) dX12_matches_35 rfl ?_
  obtain ⟨o, ha, hb⟩ := h
  refine AW.if_le (pc := 36) (tgt := 177) dX12_matches_36 (by decide) o (fun hc => ?_) (fun hc => ?_)
  · have h := ha hc
    refine AW.iconst (pc := 177) dX12_matches_177 ?_
    exact AW.zret (st := []) (pc := 178) dX12_matches_178 rfl (by decide) ⟨_, rfl, h⟩
  · have h := hb hc
    refine AW.iinc (pc := 39) (x := v2) (ls2 := [some (vR 50), some (vI v1), some (vI (v2 + (-1))), some (vI v3), none, none]) dX12_matches_39 rfl (by decide) rfl ?_
    refine AW.aload_n (pc := 42) (x := 50) dX12_matches_42 rfl ?_
    refine AW.aload_n (pc := 43) (x := 50) dX12_matches_43 rfl ?_
    refine AW.getR (pc := 44) (h2 := 84) dX12_matches_44 fg_X12_110 kd_50 hl_50 rfl ?_
    refine AW.iload_n (pc := 47) (x := (v2 + (-1))) dX12_matches_47 rfl ?_
    obtain ⟨o, h⟩ := h
    refine AW.iald (pc := 48) dX12_matches_48 kd_84 hl_84 o ?_
    refine AW.callV (pc := 49) (As := [vI (M 84 (v2 + (-1)))]) (st := []) dX12_matches_49 cl_X12_205 kd_50 hl_50 ⟨Nat.le_of_ble_eq_true rfl, Nat.le_of_ble_eq_true rfl⟩ (Nat.le_of_ble_eq_true rfl) (Nat.le_of_ble_eq_true rfl) h ?_
    rintro _ M49 ⟨r49, rfl, h⟩
    show AW mX12_matches 52 [some (vR 50), some (vI v1), some (vI (v2 + (-1))), some (vI v3), none, none] [vI r49] M49 (QI K)
    refine AW.istore (pc := 52) (ls2 := [some (vR 50), some (vI v1), some (vI (v2 + (-1))), some (vI v3), some (vI r49), none]) dX12_matches_52 (by decide) rfl ?_
    refine AW.aload_n (pc := 54) (x := 50) dX12_matches_54 rfl ?_
    refine AW.getR (pc := 55) (h2 := 54) dX12_matches_55 fg_X12_19 kd_50 hl_50 rfl ?_
    refine AW.iload (pc := 58) (x := r49) dX12_matches_58 rfl ?_
    obtain ⟨o, h⟩ := h
    refine AW.iald (pc := 60) dX12_matches_60 kd_54 hl_54 o ?_
    obtain ⟨o, ha, hb⟩ := h
    refine AW.if_ge (pc := 61) (tgt := 111) dX12_matches_61 (by decide) o (fun hc => ?_) (fun hc => ?_)
    · have h := ha hc
      refine AW.aload_n (pc := 111) (x := 50) dX12_matches_111 rfl ?_
      refine AW.getR (pc := 112) (h2 := 54) dX12_matches_112 fg_X12_19 kd_50 hl_50 rfl ?_
      refine AW.iload (pc := 115) (x := r49) dX12_matches_115 rfl ?_
      obtain ⟨o, h⟩ := h
      refine AW.iald (pc := 117) dX12_matches_117 kd_54 hl_54 o ?_
      refine AW.aload_n (pc := 118) (x := 50) dX12_matches_118 rfl ?_
      refine AW.getR (pc := 119) (h2 := 65) dX12_matches_119 fg_X12_53 kd_50 hl_50 rfl ?_
      refine AW.iload_n (pc := 122) (x := v3) dX12_matches_122 rfl ?_
      obtain ⟨o, h⟩ := h
      refine AW.iald (pc := 123) dX12_matches_123 kd_65 hl_65 o ?_
      obtain ⟨o, ha, hb⟩ := h
      refine AW.icmp_eq (pc := 124) (tgt := 129) dX12_matches_124 (by decide) o.1 o.2 (fun hc => ?_) (fun hc => ?_)
      · have h := ha hc
        refine AW.aload_n (pc := 129) (x := 50) dX12_matches_129 rfl ?_
        refine AW.iload (pc := 130) (x := r49) dX12_matches_130 rfl ?_
        refine AW.callV (pc := 132) (As := [vI r49]) (st := []) dX12_matches_132 cl_X12_208 kd_50 hl_50 ⟨Nat.le_of_ble_eq_true rfl, Nat.le_of_ble_eq_true rfl⟩ (Nat.le_of_ble_eq_true rfl) (Nat.le_of_ble_eq_true rfl) h ?_
        rintro _ M132 ⟨r132, rfl, h⟩
        show AW mX12_matches 135 [some (vR 50), some (vI v1), some (vI (v2 + (-1))), some (vI v3), some (vI r49), none] [vI r132] M132 (QI K)
        refine AW.iconst (pc := 135) dX12_matches_135 ?_
        refine AW.isub (pc := 136) dX12_matches_136 ?_
        refine AW.istore (pc := 137) (ls2 := [some (vR 50), some (vI v1), some (vI (v2 + (-1))), some (vI v3), some (vI r49), some (vI (r132 - 1))]) dX12_matches_137 (by decide) rfl ?_
        exact h
      · have h := hb hc
        refine AW.iconst (pc := 127) dX12_matches_127 ?_
        exact AW.zret (st := []) (pc := 128) dX12_matches_128 rfl (by decide) ⟨_, rfl, h⟩
    · have h := hb hc
      refine AW.aload_n (pc := 64) (x := 50) dX12_matches_64 rfl ?_
      refine AW.getR (pc := 65) (h2 := 83) dX12_matches_65 fg_X12_107 kd_50 hl_50 rfl ?_
      refine AW.iload (pc := 68) (x := r49) dX12_matches_68 rfl ?_
      obtain ⟨o, h⟩ := h
      refine AW.iald (pc := 70) dX12_matches_70 kd_83 hl_83 o ?_
      obtain ⟨o, ha, hb⟩ := h
      refine AW.if_lt (pc := 71) (tgt := 91) dX12_matches_71 (by decide) o (fun hc => ?_) (fun hc => ?_)
      · have h := ha hc
        exact h
      · have h := hb hc
        refine AW.aload_n (pc := 74) (x := 50) dX12_matches_74 rfl ?_
        refine AW.aload_n (pc := 75) (x := 50) dX12_matches_75 rfl ?_
        refine AW.getR (pc := 76) (h2 := 83) dX12_matches_76 fg_X12_107 kd_50 hl_50 rfl ?_
        refine AW.iload (pc := 79) (x := r49) dX12_matches_79 rfl ?_
        obtain ⟨o, h⟩ := h
        refine AW.iald (pc := 81) dX12_matches_81 kd_83 hl_83 o ?_
        refine AW.iload_n (pc := 82) (x := v3) dX12_matches_82 rfl ?_
        refine AW.callV (pc := 83) (As := [vI (M49 83 r49), vI v3]) (st := []) dX12_matches_83 cl_X12_254 kd_50 hl_50 ⟨Nat.le_of_ble_eq_true rfl, Nat.le_of_ble_eq_true rfl⟩ (Nat.le_of_ble_eq_true rfl) (Nat.le_of_ble_eq_true rfl) h ?_
        rintro _ M83 ⟨r83, rfl, h⟩
        show AW mX12_matches 86 [some (vR 50), some (vI v1), some (vI (v2 + (-1))), some (vI v3), some (vI r49), none] [vI r83] M83 (QI K)
        obtain ⟨o, ha, hb⟩ := h
        refine AW.if_ne (pc := 86) (tgt := 91) dX12_matches_86 (by decide) o (fun hc => ?_) (fun hc => ?_)
        · have h := ha hc
          exact h
        · have h := hb hc
          refine AW.iconst (pc := 89) dX12_matches_89 ?_
          exact AW.zret (st := []) (pc := 90) dX12_matches_90 rfl (by decide) ⟨_, rfl, h⟩

set_option maxRecDepth 20000 in
theorem sg_X12_matches_91 {M : Mem} {K : Int → Mem → Prop} {v1 v2 v3 v4 : Int} 
    (h : (0 ≤ v4 ∧ v4 < 100) ∧ (0 ≤ v3 ∧ v3 < 64) ∧ AW mX12_matches 174 [some (vR 50), some (vI v1), some (vI v2), some (vI (v3 + (M 66 v3))), some (vI v4), none] [] (up M 83 v4 v3) (QI K)) :
    AW mX12_matches 91 [some (vR 50), some (vI v1), some (vI v2), some (vI v3), some (vI v4), none] [] M (QI K) := by
  refine AW.aload_n (pc := 91) (x := 50) dX12_matches_91 rfl ?_
  refine AW.getR (pc := 92) (h2 := 83) dX12_matches_92 fg_X12_107 kd_50 hl_50 rfl ?_
  refine AW.iload (pc := 95) (x := v4) dX12_matches_95 rfl ?_
  refine AW.iload_n (pc := 97) (x := v3) dX12_matches_97 rfl ?_
  obtain ⟨o, h⟩ := h
  refine AW.iast (pc := 98) dX12_matches_98 kd_83 hl_83 o ?_
  refine AW.iload_n (pc := 99) (x := v3) dX12_matches_99 rfl ?_
  refine AW.aload_n (pc := 100) (x := 50) dX12_matches_100 rfl ?_
  refine AW.getR (pc := 101) (h2 := 66) dX12_matches_101 fg_X12_56 kd_50 hl_50 rfl ?_
  refine AW.iload_n (pc := 104) (x := v3) dX12_matches_104 rfl ?_
  obtain ⟨o, h⟩ := h
  refine AW.iald (pc := 105) dX12_matches_105 kd_66 hl_66 o ?_
  refine AW.iadd (pc := 106) dX12_matches_106 ?_
  refine AW.istore_n (pc := 107) (ls2 := [some (vR 50), some (vI v1), some (vI v2), some (vI (v3 + (M 66 v3))), some (vI v4), none]) dX12_matches_107 (by decide) rfl ?_
  refine AW.goto (pc := 108) (tgt := 174) dX12_matches_108 (by decide) ?_
  exact h

set_option maxRecDepth 20000 in
theorem sg_X12_matches_139 {M : Mem} {K : Int → Mem → Prop} {v1 v2 v3 v4 v5 : Int} 
    (h : InR v5 ∧ (v5 < 0 → (AW mX12_matches 174 [some (vR 50), some (vI v1), some (vI v2), some (vI (v3 + 1)), some (vI v4), none] [] M (QI K))) ∧ (¬ (v5 < 0) → ((0 ≤ ((3 * v4) + v5) ∧ ((3 * v4) + v5) < 300) ∧ (0 ≤ v2 ∧ v2 < 256) ∧ AW mX12_matches 139 [some (vR 50), some (vI v1), some (vI (v2 + 1)), some (vI v3), some (vI v4), some (vI (v5 + (-1)))] [] (up M 84 v2 (M 56 ((3 * v4) + v5))) (QI K)))) :
    AW mX12_matches 139 [some (vR 50), some (vI v1), some (vI v2), some (vI v3), some (vI v4), some (vI v5)] [] M (QI K) := by
  refine AW.iload (pc := 139) (x := v5) dX12_matches_139 rfl ?_
  obtain ⟨o, ha, hb⟩ := h
  refine AW.if_lt (pc := 141) (tgt := 171) dX12_matches_141 (by decide) o (fun hc => ?_) (fun hc => ?_)
  · have h := ha hc
    refine AW.iinc (pc := 171) (x := v3) (ls2 := [some (vR 50), some (vI v1), some (vI v2), some (vI (v3 + 1)), some (vI v4), some (vI v5)]) dX12_matches_171 rfl (by decide) rfl ?_
    exact AW.weak (ls2 := [some (vR 50), some (vI v1), some (vI v2), some (vI (v3 + 1)), some (vI v4), none]) (by simp [lsub]) h
  · have h := hb hc
    refine AW.aload_n (pc := 144) (x := 50) dX12_matches_144 rfl ?_
    refine AW.getR (pc := 145) (h2 := 84) dX12_matches_145 fg_X12_110 kd_50 hl_50 rfl ?_
    refine AW.iload_n (pc := 148) (x := v2) dX12_matches_148 rfl ?_
    refine AW.aload_n (pc := 149) (x := 50) dX12_matches_149 rfl ?_
    refine AW.getR (pc := 150) (h2 := 56) dX12_matches_150 fg_X12_25 kd_50 hl_50 rfl ?_
    refine AW.iconst (pc := 153) dX12_matches_153 ?_
    refine AW.iload (pc := 154) (x := v4) dX12_matches_154 rfl ?_
    refine AW.imul (pc := 156) dX12_matches_156 ?_
    refine AW.iload (pc := 157) (x := v5) dX12_matches_157 rfl ?_
    refine AW.iadd (pc := 159) dX12_matches_159 ?_
    obtain ⟨o, h⟩ := h
    refine AW.iald (pc := 160) dX12_matches_160 kd_56 hl_56 o ?_
    obtain ⟨o, h⟩ := h
    refine AW.iast (pc := 161) dX12_matches_161 kd_84 hl_84 o ?_
    refine AW.iinc (pc := 162) (x := v2) (ls2 := [some (vR 50), some (vI v1), some (vI (v2 + 1)), some (vI v3), some (vI v4), some (vI v5)]) dX12_matches_162 rfl (by decide) rfl ?_
    refine AW.iinc (pc := 165) (x := v5) (ls2 := [some (vR 50), some (vI v1), some (vI (v2 + 1)), some (vI v3), some (vI v4), some (vI (v5 + (-1)))]) dX12_matches_165 rfl (by decide) rfl ?_
    refine AW.goto (pc := 168) (tgt := 139) dX12_matches_168 (by decide) ?_
    exact h

set_option maxRecDepth 20000 in
theorem sg_X12_matches_174 {M : Mem} {K : Int → Mem → Prop} {v1 v2 v3 v4 : Int} 
    (h : AW mX12_matches 35 [some (vR 50), some (vI v1), some (vI v2), some (vI v3), none, none] [] M (QI K)) :
    AW mX12_matches 174 [some (vR 50), some (vI v1), some (vI v2), some (vI v3), some (vI v4), none] [] M (QI K) := by
  refine AW.goto (pc := 174) (tgt := 35) dX12_matches_174 (by decide) ?_
  exact AW.weak (ls2 := [some (vR 50), some (vI v1), some (vI v2), some (vI v3), none, none]) (by simp [lsub]) h

set_option maxRecDepth 20000 in
theorem en_X12_nodeCount {M : Mem} {K : Int → Mem → Prop} 
    (h : K (M 50 5) M) :
    CI mX12_nodeCount [vR 50] M K := by
  show AW mX12_nodeCount 0 [some (vR 50)] [] M (QI K)
  refine AW.aload_n (pc := 0) (x := 50) dX12_nodeCount_0 rfl ?_
  refine AW.getI (pc := 1) dX12_nodeCount_1 fg_X12_124 kd_50 hl_50 rfl ?_
  exact AW.iret (st := []) (pc := 4) dX12_nodeCount_4 rfl ⟨_, rfl, h⟩

set_option maxRecDepth 20000 in
theorem en_X12_nodeType {M : Mem} {K : Int → Mem → Prop} {v1 : Int} 
    (h : CI mX12_isNode [vR 50, vI v1] M (fun r2 M2 => InR r2 ∧ (r2 = 0 → (K (-3) M2)) ∧ (¬ (r2 = 0) → ((0 ≤ v1 ∧ v1 < 100) ∧ K (M2 55 v1) M2)))) :
    CI mX12_nodeType [vR 50, vI v1] M K := by
  show AW mX12_nodeType 0 [some (vR 50), some (vI v1)] [] M (QI K)
  refine AW.aload_n (pc := 0) (x := 50) dX12_nodeType_0 rfl ?_
  refine AW.iload_n (pc := 1) (x := v1) dX12_nodeType_1 rfl ?_
  refine AW.callV (pc := 2) (As := [vI v1]) (st := []) dX12_nodeType_2 cl_X12_199 kd_50 hl_50 ⟨Nat.le_of_ble_eq_true rfl, Nat.le_of_ble_eq_true rfl⟩ (Nat.le_of_ble_eq_true rfl) (Nat.le_of_ble_eq_true rfl) h ?_
  rintro _ M2 ⟨r2, rfl, h⟩
  show AW mX12_nodeType 5 [some (vR 50), some (vI v1)] [vI r2] M2 (QI K)
  obtain ⟨o, ha, hb⟩ := h
  refine AW.if_eq (pc := 5) (tgt := 17) dX12_nodeType_5 (by decide) o (fun hc => ?_) (fun hc => ?_)
  · have h := ha hc
    refine AW.bipush (pc := 17) dX12_nodeType_17 (by decide) ?_
    exact AW.iret (st := []) (pc := 19) dX12_nodeType_19 rfl ⟨_, rfl, h⟩
  · have h := hb hc
    refine AW.aload_n (pc := 8) (x := 50) dX12_nodeType_8 rfl ?_
    refine AW.getR (pc := 9) (h2 := 55) dX12_nodeType_9 fg_X12_22 kd_50 hl_50 rfl ?_
    refine AW.iload_n (pc := 12) (x := v1) dX12_nodeType_12 rfl ?_
    obtain ⟨o, h⟩ := h
    refine AW.iald (pc := 13) dX12_nodeType_13 kd_55 hl_55 o ?_
    refine AW.goto (pc := 14) (tgt := 19) dX12_nodeType_14 (by decide) ?_
    exact AW.iret (st := []) (pc := 19) dX12_nodeType_19 rfl ⟨_, rfl, h⟩

set_option maxRecDepth 20000 in
theorem en_X12_occurs {M : Mem} {K : Int → Mem → Prop} {v1 v2 : Int} 
    (h : AW mX12_occurs 2 [some (vR 50), some (vI v1), some (vI v2), some (vI 0), none, none] [] M (QI K)) :
    CI mX12_occurs [vR 50, vI v1, vI v2] M K := by
  show AW mX12_occurs 0 [some (vR 50), some (vI v1), some (vI v2), none, none, none] [] M (QI K)
  refine AW.iconst (pc := 0) dX12_occurs_0 ?_
  refine AW.istore_n (pc := 1) (ls2 := [some (vR 50), some (vI v1), some (vI v2), some (vI 0), none, none]) dX12_occurs_1 (by decide) rfl ?_
  exact h

set_option maxRecDepth 20000 in
theorem sg_X12_occurs_2 {M : Mem} {K : Int → Mem → Prop} {v1 v2 v3 : Int} 
    (h : (InR v3 ∧ InR (M 50 5)) ∧ (v3 ≥ (M 50 5) → (AW mX12_occurs 32 [some (vR 50), some (vI v1), some (vI v2), some (vI 1), none, none] [] (up M 81 0 v2) (QI K))) ∧ (¬ (v3 ≥ (M 50 5)) → ((0 ≤ v3 ∧ v3 < 100) ∧ AW mX12_occurs 2 [some (vR 50), some (vI v1), some (vI v2), some (vI (v3 + 1)), none, none] [] (up M 82 v3 0) (QI K)))) :
    AW mX12_occurs 2 [some (vR 50), some (vI v1), some (vI v2), some (vI v3), none, none] [] M (QI K) := by
  refine AW.iload_n (pc := 2) (x := v3) dX12_occurs_2 rfl ?_
  refine AW.aload_n (pc := 3) (x := 50) dX12_occurs_3 rfl ?_
  refine AW.getI (pc := 4) dX12_occurs_4 fg_X12_124 kd_50 hl_50 rfl ?_
  obtain ⟨o, ha, hb⟩ := h
  refine AW.icmp_ge (pc := 7) (tgt := 23) dX12_occurs_7 (by decide) o.1 o.2 (fun hc => ?_) (fun hc => ?_)
  · have h := ha hc
    refine AW.iconst (pc := 23) dX12_occurs_23 ?_
    refine AW.istore_n (pc := 24) (ls2 := [some (vR 50), some (vI v1), some (vI v2), some (vI 1), none, none]) dX12_occurs_24 (by decide) rfl ?_
    refine AW.aload_n (pc := 25) (x := 50) dX12_occurs_25 rfl ?_
    refine AW.getR (pc := 26) (h2 := 81) dX12_occurs_26 fg_X12_101 kd_50 hl_50 rfl ?_
    refine AW.iconst (pc := 29) dX12_occurs_29 ?_
    refine AW.iload_n (pc := 30) (x := v2) dX12_occurs_30 rfl ?_
    refine AW.iast (pc := 31) dX12_occurs_31 kd_81 hl_81 (by decide) ?_
    exact h
  · have h := hb hc
    refine AW.aload_n (pc := 10) (x := 50) dX12_occurs_10 rfl ?_
    refine AW.getR (pc := 11) (h2 := 82) dX12_occurs_11 fg_X12_104 kd_50 hl_50 rfl ?_
    refine AW.iload_n (pc := 14) (x := v3) dX12_occurs_14 rfl ?_
    refine AW.iconst (pc := 15) dX12_occurs_15 ?_
    obtain ⟨o, h⟩ := h
    refine AW.zast (pc := 16) dX12_occurs_16 kd_82 hl_82 o (by decide) ?_
    refine AW.iinc (pc := 17) (x := v3) (ls2 := [some (vR 50), some (vI v1), some (vI v2), some (vI (v3 + 1)), none, none]) dX12_occurs_17 rfl (by decide) rfl ?_
    refine AW.goto (pc := 20) (tgt := 2) dX12_occurs_20 (by decide) ?_
    exact h

set_option maxRecDepth 20000 in
theorem sg_X12_occurs_32 {M : Mem} {K : Int → Mem → Prop} {v1 v2 v3 : Int} 
    (h : InR v3 ∧ (v3 ≤ 0 → (K 0 M)) ∧ (¬ (v3 ≤ 0) → ((0 ≤ (v3 + (-1)) ∧ (v3 + (-1)) < 400) ∧ CI mX12_resolved [vR 50, vI (M 81 (v3 + (-1)))] M (fun r46 M46 => (InR r46 ∧ InR v1) ∧ (r46 ≠ v1 → ((0 ≤ r46 ∧ r46 < 100) ∧ InR (M46 82 r46) ∧ ((M46 82 r46) ≠ 0 → (AW mX12_occurs 118 [some (vR 50), some (vI v1), some (vI v2), some (vI (v3 + (-1))), some (vI r46), none] [] M46 (QI K))) ∧ (¬ ((M46 82 r46) ≠ 0) → ((0 ≤ r46 ∧ r46 < 100) ∧ AW mX12_occurs 80 [some (vR 50), some (vI v1), some (vI v2), some (vI (v3 + (-1))), some (vI r46), some (vI 0)] [] (up M46 82 r46 1) (QI K))))) ∧ (¬ (r46 ≠ v1) → (K 1 M46)))))) :
    AW mX12_occurs 32 [some (vR 50), some (vI v1), some (vI v2), some (vI v3), none, none] [] M (QI K) := by
  refine AW.iload_n (pc := 32) (x := v3) dX12_occurs_32 rfl ?_
  obtain ⟨o, ha, hb⟩ := h
  refine AW.if_le (pc := 33) (tgt := 121) dX12_occurs_33 (by decide) o (fun hc => ?_) (fun hc => ?_)
  · have h := ha hc
    refine AW.iconst (pc := 121) dX12_occurs_121 ?_
    exact AW.zret (st := []) (pc := 122) dX12_occurs_122 rfl (by decide) ⟨_, rfl, h⟩
  · have h := hb hc
    refine AW.iinc (pc := 36) (x := v3) (ls2 := [some (vR 50), some (vI v1), some (vI v2), some (vI (v3 + (-1))), none, none]) dX12_occurs_36 rfl (by decide) rfl ?_
    refine AW.aload_n (pc := 39) (x := 50) dX12_occurs_39 rfl ?_
    refine AW.aload_n (pc := 40) (x := 50) dX12_occurs_40 rfl ?_
    refine AW.getR (pc := 41) (h2 := 81) dX12_occurs_41 fg_X12_101 kd_50 hl_50 rfl ?_
    refine AW.iload_n (pc := 44) (x := (v3 + (-1))) dX12_occurs_44 rfl ?_
    obtain ⟨o, h⟩ := h
    refine AW.iald (pc := 45) dX12_occurs_45 kd_81 hl_81 o ?_
    refine AW.callV (pc := 46) (As := [vI (M 81 (v3 + (-1)))]) (st := []) dX12_occurs_46 cl_X12_205 kd_50 hl_50 ⟨Nat.le_of_ble_eq_true rfl, Nat.le_of_ble_eq_true rfl⟩ (Nat.le_of_ble_eq_true rfl) (Nat.le_of_ble_eq_true rfl) h ?_
    rintro _ M46 ⟨r46, rfl, h⟩
    show AW mX12_occurs 49 [some (vR 50), some (vI v1), some (vI v2), some (vI (v3 + (-1))), none, none] [vI r46] M46 (QI K)
    refine AW.istore (pc := 49) (ls2 := [some (vR 50), some (vI v1), some (vI v2), some (vI (v3 + (-1))), some (vI r46), none]) dX12_occurs_49 (by decide) rfl ?_
    refine AW.iload (pc := 51) (x := r46) dX12_occurs_51 rfl ?_
    refine AW.iload_n (pc := 53) (x := v1) dX12_occurs_53 rfl ?_
    obtain ⟨o, ha, hb⟩ := h
    refine AW.icmp_ne (pc := 54) (tgt := 59) dX12_occurs_54 (by decide) o.1 o.2 (fun hc => ?_) (fun hc => ?_)
    · have h := ha hc
      refine AW.aload_n (pc := 59) (x := 50) dX12_occurs_59 rfl ?_
      refine AW.getR (pc := 60) (h2 := 82) dX12_occurs_60 fg_X12_104 kd_50 hl_50 rfl ?_
      refine AW.iload (pc := 63) (x := r46) dX12_occurs_63 rfl ?_
      obtain ⟨o, h⟩ := h
      refine AW.zald (pc := 65) dX12_occurs_65 kd_82 hl_82 o ?_
      obtain ⟨o, ha, hb⟩ := h
      refine AW.if_ne (pc := 66) (tgt := 118) dX12_occurs_66 (by decide) o (fun hc => ?_) (fun hc => ?_)
      · have h := ha hc
        exact h
      · have h := hb hc
        refine AW.aload_n (pc := 69) (x := 50) dX12_occurs_69 rfl ?_
        refine AW.getR (pc := 70) (h2 := 82) dX12_occurs_70 fg_X12_104 kd_50 hl_50 rfl ?_
        refine AW.iload (pc := 73) (x := r46) dX12_occurs_73 rfl ?_
        refine AW.iconst (pc := 75) dX12_occurs_75 ?_
        obtain ⟨o, h⟩ := h
        refine AW.zast (pc := 76) dX12_occurs_76 kd_82 hl_82 o (by decide) ?_
        refine AW.iconst (pc := 77) dX12_occurs_77 ?_
        refine AW.istore (pc := 78) (ls2 := [some (vR 50), some (vI v1), some (vI v2), some (vI (v3 + (-1))), some (vI r46), some (vI 0)]) dX12_occurs_78 (by decide) rfl ?_
        exact h
    · have h := hb hc
      refine AW.iconst (pc := 57) dX12_occurs_57 ?_
      exact AW.zret (st := []) (pc := 58) dX12_occurs_58 rfl (by decide) ⟨_, rfl, h⟩

set_option maxRecDepth 20000 in
theorem sg_X12_occurs_80 {M : Mem} {K : Int → Mem → Prop} {v1 v2 v3 v4 v5 : Int} 
    (h : CI mX12_manyOf [vR 50, vI v4] M (fun r85 M85 => (InR v5 ∧ InR r85) ∧ (v5 ≥ r85 → (AW mX12_occurs 118 [some (vR 50), some (vI v1), some (vI v2), some (vI v3), some (vI v4), none] [] M85 (QI K))) ∧ (¬ (v5 ≥ r85) → ((0 ≤ ((3 * v4) + v5) ∧ ((3 * v4) + v5) < 300) ∧ (0 ≤ v3 ∧ v3 < 400) ∧ AW mX12_occurs 80 [some (vR 50), some (vI v1), some (vI v2), some (vI (v3 + 1)), some (vI v4), some (vI (v5 + 1))] [] (up M85 81 v3 (M85 56 ((3 * v4) + v5))) (QI K))))) :
    AW mX12_occurs 80 [some (vR 50), some (vI v1), some (vI v2), some (vI v3), some (vI v4), some (vI v5)] [] M (QI K) := by
  refine AW.iload (pc := 80) (x := v5) dX12_occurs_80 rfl ?_
  refine AW.aload_n (pc := 82) (x := 50) dX12_occurs_82 rfl ?_
  refine AW.iload (pc := 83) (x := v4) dX12_occurs_83 rfl ?_
  refine AW.callV (pc := 85) (As := [vI v4]) (st := [vI v5]) dX12_occurs_85 cl_X12_208 kd_50 hl_50 ⟨Nat.le_of_ble_eq_true rfl, Nat.le_of_ble_eq_true rfl⟩ (Nat.le_of_ble_eq_true rfl) (Nat.le_of_ble_eq_true rfl) h ?_
  rintro _ M85 ⟨r85, rfl, h⟩
  show AW mX12_occurs 88 [some (vR 50), some (vI v1), some (vI v2), some (vI v3), some (vI v4), some (vI v5)] [vI r85, vI v5] M85 (QI K)
  obtain ⟨o, ha, hb⟩ := h
  refine AW.icmp_ge (pc := 88) (tgt := 118) dX12_occurs_88 (by decide) o.1 o.2 (fun hc => ?_) (fun hc => ?_)
  · have h := ha hc
    exact AW.weak (ls2 := [some (vR 50), some (vI v1), some (vI v2), some (vI v3), some (vI v4), none]) (by simp [lsub]) h
  · have h := hb hc
    refine AW.aload_n (pc := 91) (x := 50) dX12_occurs_91 rfl ?_
    refine AW.getR (pc := 92) (h2 := 81) dX12_occurs_92 fg_X12_101 kd_50 hl_50 rfl ?_
    refine AW.iload_n (pc := 95) (x := v3) dX12_occurs_95 rfl ?_
    refine AW.aload_n (pc := 96) (x := 50) dX12_occurs_96 rfl ?_
    refine AW.getR (pc := 97) (h2 := 56) dX12_occurs_97 fg_X12_25 kd_50 hl_50 rfl ?_
    refine AW.iconst (pc := 100) dX12_occurs_100 ?_
    refine AW.iload (pc := 101) (x := v4) dX12_occurs_101 rfl ?_
    refine AW.imul (pc := 103) dX12_occurs_103 ?_
    refine AW.iload (pc := 104) (x := v5) dX12_occurs_104 rfl ?_
    refine AW.iadd (pc := 106) dX12_occurs_106 ?_
    obtain ⟨o, h⟩ := h
    refine AW.iald (pc := 107) dX12_occurs_107 kd_56 hl_56 o ?_
    obtain ⟨o, h⟩ := h
    refine AW.iast (pc := 108) dX12_occurs_108 kd_81 hl_81 o ?_
    refine AW.iinc (pc := 109) (x := v3) (ls2 := [some (vR 50), some (vI v1), some (vI v2), some (vI (v3 + 1)), some (vI v4), some (vI v5)]) dX12_occurs_109 rfl (by decide) rfl ?_
    refine AW.iinc (pc := 112) (x := v5) (ls2 := [some (vR 50), some (vI v1), some (vI v2), some (vI (v3 + 1)), some (vI v4), some (vI (v5 + 1))]) dX12_occurs_112 rfl (by decide) rfl ?_
    refine AW.goto (pc := 115) (tgt := 80) dX12_occurs_115 (by decide) ?_
    exact h

set_option maxRecDepth 20000 in
theorem sg_X12_occurs_118 {M : Mem} {K : Int → Mem → Prop} {v1 v2 v3 v4 : Int} 
    (h : AW mX12_occurs 32 [some (vR 50), some (vI v1), some (vI v2), some (vI v3), none, none] [] M (QI K)) :
    AW mX12_occurs 118 [some (vR 50), some (vI v1), some (vI v2), some (vI v3), some (vI v4), none] [] M (QI K) := by
  refine AW.goto (pc := 118) (tgt := 32) dX12_occurs_118 (by decide) ?_
  exact AW.weak (ls2 := [some (vR 50), some (vI v1), some (vI v2), some (vI v3), none, none]) (by simp [lsub]) h

set_option maxRecDepth 20000 in
theorem en_X12_pop {M : Mem} {K : Int → Mem → Prop} 
    (h : InR (M 50 11) ∧ ((M 50 11) ≠ 0 → (AW mX12_pop 22 [some (vR 50), some (vI 0)] [] (up M 50 11 ((M 50 11) - 1)) (QI K))) ∧ (¬ ((M 50 11) ≠ 0) → (K (-12) M))) :
    CI mX12_pop [vR 50] M K := by
  show AW mX12_pop 0 [some (vR 50), none] [] M (QI K)
  refine AW.aload_n (pc := 0) (x := 50) dX12_pop_0 rfl ?_
  refine AW.getI (pc := 1) dX12_pop_1 fg_X12_248 kd_50 hl_50 rfl ?_
  obtain ⟨o, ha, hb⟩ := h
  refine AW.if_ne (pc := 4) (tgt := 10) dX12_pop_4 (by decide) o (fun hc => ?_) (fun hc => ?_)
  · have h := ha hc
    refine AW.aload_n (pc := 10) (x := 50) dX12_pop_10 rfl ?_
    refine AW.dup (pc := 11) dX12_pop_11 rfl ?_
    refine AW.getI (pc := 12) dX12_pop_12 fg_X12_248 kd_50 hl_50 rfl ?_
    refine AW.iconst (pc := 15) dX12_pop_15 ?_
    refine AW.isub (pc := 16) dX12_pop_16 ?_
    refine AW.put (pc := 17) dX12_pop_17 fp_X12_248 kd_50 hl_50 rfl ?_
    refine AW.iconst (pc := 20) dX12_pop_20 ?_
    refine AW.istore_n (pc := 21) (ls2 := [some (vR 50), some (vI 0)]) dX12_pop_21 (by decide) rfl ?_
    exact h
  · have h := hb hc
    refine AW.bipush (pc := 7) dX12_pop_7 (by decide) ?_
    exact AW.iret (st := []) (pc := 9) dX12_pop_9 rfl ⟨_, rfl, h⟩

set_option maxRecDepth 20000 in
theorem sg_X12_pop_22 {M : Mem} {K : Int → Mem → Prop} {v1 : Int} 
    (h : (InR v1 ∧ InR (M 50 5)) ∧ (v1 ≥ (M 50 5) → (K (M 50 11) M)) ∧ (¬ (v1 ≥ (M 50 5)) → ((0 ≤ ((100 * (M 50 11)) + v1) ∧ ((100 * (M 50 11)) + v1) < 800) ∧ (0 ≤ v1 ∧ v1 < 100) ∧ AW mX12_pop 22 [some (vR 50), some (vI (v1 + 1))] [] (up M 57 v1 (M 58 ((100 * (M 50 11)) + v1))) (QI K)))) :
    AW mX12_pop 22 [some (vR 50), some (vI v1)] [] M (QI K) := by
  refine AW.iload_n (pc := 22) (x := v1) dX12_pop_22 rfl ?_
  refine AW.aload_n (pc := 23) (x := 50) dX12_pop_23 rfl ?_
  refine AW.getI (pc := 24) dX12_pop_24 fg_X12_124 kd_50 hl_50 rfl ?_
  obtain ⟨o, ha, hb⟩ := h
  refine AW.icmp_ge (pc := 27) (tgt := 56) dX12_pop_27 (by decide) o.1 o.2 (fun hc => ?_) (fun hc => ?_)
  · have h := ha hc
    refine AW.aload_n (pc := 56) (x := 50) dX12_pop_56 rfl ?_
    refine AW.getI (pc := 57) dX12_pop_57 fg_X12_248 kd_50 hl_50 rfl ?_
    exact AW.iret (st := []) (pc := 60) dX12_pop_60 rfl ⟨_, rfl, h⟩
  · have h := hb hc
    refine AW.aload_n (pc := 30) (x := 50) dX12_pop_30 rfl ?_
    refine AW.getR (pc := 31) (h2 := 57) dX12_pop_31 fg_X12_28 kd_50 hl_50 rfl ?_
    refine AW.iload_n (pc := 34) (x := v1) dX12_pop_34 rfl ?_
    refine AW.aload_n (pc := 35) (x := 50) dX12_pop_35 rfl ?_
    refine AW.getR (pc := 36) (h2 := 58) dX12_pop_36 fg_X12_31 kd_50 hl_50 rfl ?_
    refine AW.bipush (pc := 39) dX12_pop_39 (by decide) ?_
    refine AW.aload_n (pc := 41) (x := 50) dX12_pop_41 rfl ?_
    refine AW.getI (pc := 42) dX12_pop_42 fg_X12_248 kd_50 hl_50 rfl ?_
    refine AW.imul (pc := 45) dX12_pop_45 ?_
    refine AW.iload_n (pc := 46) (x := v1) dX12_pop_46 rfl ?_
    refine AW.iadd (pc := 47) dX12_pop_47 ?_
    obtain ⟨o, h⟩ := h
    refine AW.iald (pc := 48) dX12_pop_48 kd_58 hl_58 o ?_
    obtain ⟨o, h⟩ := h
    refine AW.iast (pc := 49) dX12_pop_49 kd_57 hl_57 o ?_
    refine AW.iinc (pc := 50) (x := v1) (ls2 := [some (vR 50), some (vI (v1 + 1))]) dX12_pop_50 rfl (by decide) rfl ?_
    refine AW.goto (pc := 53) (tgt := 22) dX12_pop_53 (by decide) ?_
    exact h

set_option maxRecDepth 20000 in
theorem en_X12_push {M : Mem} {K : Int → Mem → Prop} 
    (h : InR (M 50 11) ∧ ((M 50 11) ≠ 8 → (AW mX12_push 14 [some (vR 50), some (vI 0)] [] M (QI K))) ∧ (¬ ((M 50 11) ≠ 8) → (K (-6) M))) :
    CI mX12_push [vR 50] M K := by
  show AW mX12_push 0 [some (vR 50), none] [] M (QI K)
  refine AW.aload_n (pc := 0) (x := 50) dX12_push_0 rfl ?_
  refine AW.getI (pc := 1) dX12_push_1 fg_X12_248 kd_50 hl_50 rfl ?_
  refine AW.bipush (pc := 4) dX12_push_4 (by decide) ?_
  obtain ⟨o, ha, hb⟩ := h
  refine AW.icmp_ne (pc := 6) (tgt := 12) dX12_push_6 (by decide) o (by decide) (fun hc => ?_) (fun hc => ?_)
  · have h := ha hc
    refine AW.iconst (pc := 12) dX12_push_12 ?_
    refine AW.istore_n (pc := 13) (ls2 := [some (vR 50), some (vI 0)]) dX12_push_13 (by decide) rfl ?_
    exact h
  · have h := hb hc
    refine AW.bipush (pc := 9) dX12_push_9 (by decide) ?_
    exact AW.iret (st := []) (pc := 11) dX12_push_11 rfl ⟨_, rfl, h⟩

set_option maxRecDepth 20000 in
theorem sg_X12_push_14 {M : Mem} {K : Int → Mem → Prop} {v1 : Int} 
    (h : InR v1 ∧ (v1 ≥ 100 → (K ((M 50 11) + 1) (up M 50 11 ((M 50 11) + 1)))) ∧ (¬ (v1 ≥ 100) → ((InR v1 ∧ InR (M 50 5)) ∧ (v1 ≥ (M 50 5) → ((0 ≤ ((100 * (M 50 11)) + v1) ∧ ((100 * (M 50 11)) + v1) < 800) ∧ AW mX12_push 14 [some (vR 50), some (vI (v1 + 1))] [] (up M 58 ((100 * (M 50 11)) + v1) (-13)) (QI K))) ∧ (¬ (v1 ≥ (M 50 5)) → ((0 ≤ v1 ∧ v1 < 100) ∧ (0 ≤ ((100 * (M 50 11)) + v1) ∧ ((100 * (M 50 11)) + v1) < 800) ∧ AW mX12_push 14 [some (vR 50), some (vI (v1 + 1))] [] (up M 58 ((100 * (M 50 11)) + v1) (M 57 v1)) (QI K)))))) :
    AW mX12_push 14 [some (vR 50), some (vI v1)] [] M (QI K) := by
  refine AW.iload_n (pc := 14) (x := v1) dX12_push_14 rfl ?_
  refine AW.bipush (pc := 15) dX12_push_15 (by decide) ?_
  obtain ⟨o, ha, hb⟩ := h
  refine AW.icmp_ge (pc := 17) (tgt := 59) dX12_push_17 (by decide) o (by decide) (fun hc => ?_) (fun hc => ?_)
  · have h := ha hc
    refine AW.aload_n (pc := 59) (x := 50) dX12_push_59 rfl ?_
    refine AW.dup (pc := 60) dX12_push_60 rfl ?_
    refine AW.getI (pc := 61) dX12_push_61 fg_X12_248 kd_50 hl_50 rfl ?_
    refine AW.iconst (pc := 64) dX12_push_64 ?_
    refine AW.iadd (pc := 65) dX12_push_65 ?_
    refine AW.put (pc := 66) dX12_push_66 fp_X12_248 kd_50 hl_50 rfl ?_
    refine AW.aload_n (pc := 69) (x := 50) dX12_push_69 rfl ?_
    refine AW.getI (pc := 70) dX12_push_70 fg_X12_248 kd_50 hl_50 rfl ?_
    exact AW.iret (st := []) (pc := 73) dX12_push_73 rfl ⟨_, rfl, h⟩
  · have h := hb hc
    refine AW.aload_n (pc := 20) (x := 50) dX12_push_20 rfl ?_
    refine AW.getR (pc := 21) (h2 := 58) dX12_push_21 fg_X12_31 kd_50 hl_50 rfl ?_
    refine AW.bipush (pc := 24) dX12_push_24 (by decide) ?_
    refine AW.aload_n (pc := 26) (x := 50) dX12_push_26 rfl ?_
    refine AW.getI (pc := 27) dX12_push_27 fg_X12_248 kd_50 hl_50 rfl ?_
    refine AW.imul (pc := 30) dX12_push_30 ?_
    refine AW.iload_n (pc := 31) (x := v1) dX12_push_31 rfl ?_
    refine AW.iadd (pc := 32) dX12_push_32 ?_
    refine AW.iload_n (pc := 33) (x := v1) dX12_push_33 rfl ?_
    refine AW.aload_n (pc := 34) (x := 50) dX12_push_34 rfl ?_
    refine AW.getI (pc := 35) dX12_push_35 fg_X12_124 kd_50 hl_50 rfl ?_
    obtain ⟨o, ha, hb⟩ := h
    refine AW.icmp_ge (pc := 38) (tgt := 50) dX12_push_38 (by decide) o.1 o.2 (fun hc => ?_) (fun hc => ?_)
    · have h := ha hc
      refine AW.bipush (pc := 50) dX12_push_50 (by decide) ?_
      obtain ⟨o, h⟩ := h
      refine AW.iast (pc := 52) dX12_push_52 kd_58 hl_58 o ?_
      refine AW.iinc (pc := 53) (x := v1) (ls2 := [some (vR 50), some (vI (v1 + 1))]) dX12_push_53 rfl (by decide) rfl ?_
      refine AW.goto (pc := 56) (tgt := 14) dX12_push_56 (by decide) ?_
      exact h
    · have h := hb hc
      refine AW.aload_n (pc := 41) (x := 50) dX12_push_41 rfl ?_
      refine AW.getR (pc := 42) (h2 := 57) dX12_push_42 fg_X12_28 kd_50 hl_50 rfl ?_
      refine AW.iload_n (pc := 45) (x := v1) dX12_push_45 rfl ?_
      obtain ⟨o, h⟩ := h
      refine AW.iald (pc := 46) dX12_push_46 kd_57 hl_57 o ?_
      refine AW.goto (pc := 47) (tgt := 52) dX12_push_47 (by decide) ?_
      obtain ⟨o, h⟩ := h
      refine AW.iast (pc := 52) dX12_push_52 kd_58 hl_58 o ?_
      refine AW.iinc (pc := 53) (x := v1) (ls2 := [some (vR 50), some (vI (v1 + 1))]) dX12_push_53 rfl (by decide) rfl ?_
      refine AW.goto (pc := 56) (tgt := 14) dX12_push_56 (by decide) ?_
      exact h

set_option maxRecDepth 20000 in
theorem en_X12_pushChildren {M : Mem} {K : Mem → Prop} {v1 v2 : Int} 
    (h : CI mX12_manyOf [vR 50, vI v1] M (fun r2 M2 => AW mX12_pushChildren 8 [some (vR 50), some (vI v1), some (vI v2), some (vI (r2 - 1))] [] M2 (QV K))) :
    CV mX12_pushChildren [vR 50, vI v1, vI v2] M K := by
  show AW mX12_pushChildren 0 [some (vR 50), some (vI v1), some (vI v2), none] [] M (QV K)
  refine AW.aload_n (pc := 0) (x := 50) dX12_pushChildren_0 rfl ?_
  refine AW.iload_n (pc := 1) (x := v1) dX12_pushChildren_1 rfl ?_
  refine AW.callV (pc := 2) (As := [vI v1]) (st := []) dX12_pushChildren_2 cl_X12_208 kd_50 hl_50 ⟨Nat.le_of_ble_eq_true rfl, Nat.le_of_ble_eq_true rfl⟩ (Nat.le_of_ble_eq_true rfl) (Nat.le_of_ble_eq_true rfl) h ?_
  rintro _ M2 ⟨r2, rfl, h⟩
  show AW mX12_pushChildren 5 [some (vR 50), some (vI v1), some (vI v2), none] [vI r2] M2 (QV K)
  refine AW.iconst (pc := 5) dX12_pushChildren_5 ?_
  refine AW.isub (pc := 6) dX12_pushChildren_6 ?_
  refine AW.istore_n (pc := 7) (ls2 := [some (vR 50), some (vI v1), some (vI v2), some (vI (r2 - 1))]) dX12_pushChildren_7 (by decide) rfl ?_
  exact h

set_option maxRecDepth 20000 in
theorem sg_X12_pushChildren_8 {M : Mem} {K : Mem → Prop} {v1 v2 v3 : Int} 
    (h : InR v3 ∧ (v3 < 0 → (K M)) ∧ (¬ (v3 < 0) → ((0 ≤ ((3 * v1) + v3) ∧ ((3 * v1) + v3) < 300) ∧ (0 ≤ (M 50 34) ∧ (M 50 34) < 31000) ∧ (0 ≤ ((3 * v2) + v3) ∧ ((3 * v2) + v3) < 300) ∧ (0 ≤ (M 50 34) ∧ (M 50 34) < 31000) ∧ AW mX12_pushChildren 8 [some (vR 50), some (vI v1), some (vI v2), some (vI (v3 + (-1)))] [] (up (up (up M 77 (M 50 34) (M 56 ((3 * v1) + v3))) 78 (M 50 34) (M 56 ((3 * v2) + v3))) 50 34 ((M 50 34) + 1)) (QV K)))) :
    AW mX12_pushChildren 8 [some (vR 50), some (vI v1), some (vI v2), some (vI v3)] [] M (QV K) := by
  refine AW.iload_n (pc := 8) (x := v3) dX12_pushChildren_8 rfl ?_
  obtain ⟨o, ha, hb⟩ := h
  refine AW.if_lt (pc := 9) (tgt := 66) dX12_pushChildren_9 (by decide) o (fun hc => ?_) (fun hc => ?_)
  · have h := ha hc
    exact AW.vret (st := []) (pc := 66) dX12_pushChildren_66 rfl ⟨rfl, h⟩
  · have h := hb hc
    refine AW.aload_n (pc := 12) (x := 50) dX12_pushChildren_12 rfl ?_
    refine AW.getR (pc := 13) (h2 := 77) dX12_pushChildren_13 fg_X12_89 kd_50 hl_50 rfl ?_
    refine AW.aload_n (pc := 16) (x := 50) dX12_pushChildren_16 rfl ?_
    refine AW.getI (pc := 17) dX12_pushChildren_17 fg_X12_223 kd_50 hl_50 rfl ?_
    refine AW.aload_n (pc := 20) (x := 50) dX12_pushChildren_20 rfl ?_
    refine AW.getR (pc := 21) (h2 := 56) dX12_pushChildren_21 fg_X12_25 kd_50 hl_50 rfl ?_
    refine AW.iconst (pc := 24) dX12_pushChildren_24 ?_
    refine AW.iload_n (pc := 25) (x := v1) dX12_pushChildren_25 rfl ?_
    refine AW.imul (pc := 26) dX12_pushChildren_26 ?_
    refine AW.iload_n (pc := 27) (x := v3) dX12_pushChildren_27 rfl ?_
    refine AW.iadd (pc := 28) dX12_pushChildren_28 ?_
    obtain ⟨o, h⟩ := h
    refine AW.iald (pc := 29) dX12_pushChildren_29 kd_56 hl_56 o ?_
    obtain ⟨o, h⟩ := h
    refine AW.iast (pc := 30) dX12_pushChildren_30 kd_77 hl_77 o ?_
    refine AW.aload_n (pc := 31) (x := 50) dX12_pushChildren_31 rfl ?_
    refine AW.getR (pc := 32) (h2 := 78) dX12_pushChildren_32 fg_X12_92 kd_50 hl_50 rfl ?_
    refine AW.aload_n (pc := 35) (x := 50) dX12_pushChildren_35 rfl ?_
    refine AW.getI (pc := 36) dX12_pushChildren_36 fg_X12_223 kd_50 hl_50 rfl ?_
    refine AW.aload_n (pc := 39) (x := 50) dX12_pushChildren_39 rfl ?_
    refine AW.getR (pc := 40) (h2 := 56) dX12_pushChildren_40 fg_X12_25 kd_50 hl_50 rfl ?_
    refine AW.iconst (pc := 43) dX12_pushChildren_43 ?_
    refine AW.iload_n (pc := 44) (x := v2) dX12_pushChildren_44 rfl ?_
    refine AW.imul (pc := 45) dX12_pushChildren_45 ?_
    refine AW.iload_n (pc := 46) (x := v3) dX12_pushChildren_46 rfl ?_
    refine AW.iadd (pc := 47) dX12_pushChildren_47 ?_
    obtain ⟨o, h⟩ := h
    refine AW.iald (pc := 48) dX12_pushChildren_48 kd_56 hl_56 o ?_
    obtain ⟨o, h⟩ := h
    refine AW.iast (pc := 49) dX12_pushChildren_49 kd_78 hl_78 o ?_
    refine AW.aload_n (pc := 50) (x := 50) dX12_pushChildren_50 rfl ?_
    refine AW.dup (pc := 51) dX12_pushChildren_51 rfl ?_
    refine AW.getI (pc := 52) dX12_pushChildren_52 fg_X12_223 kd_50 hl_50 rfl ?_
    refine AW.iconst (pc := 55) dX12_pushChildren_55 ?_
    refine AW.iadd (pc := 56) dX12_pushChildren_56 ?_
    refine AW.put (pc := 57) dX12_pushChildren_57 fp_X12_223 kd_50 hl_50 rfl ?_
    refine AW.iinc (pc := 60) (x := v3) (ls2 := [some (vR 50), some (vI v1), some (vI v2), some (vI (v3 + (-1)))]) dX12_pushChildren_60 rfl (by decide) rfl ?_
    refine AW.goto (pc := 63) (tgt := 8) dX12_pushChildren_63 (by decide) ?_
    exact h

set_option maxRecDepth 20000 in
theorem en_X12_rank {M : Mem} {K : Int → Mem → Prop} {v1 : Int} 
    (h : CI mX12_isNode [vR 50, vI v1] M (fun r2 M2 => InR r2 ∧ (r2 ≠ 0 → (CV mX12_laySizes [vR 50] M2 (fun M12 => (0 ≤ v1 ∧ v1 < 100) ∧ InR (M12 75 v1) ∧ ((M12 75 v1) ≥ 0 → ((0 ≤ v1 ∧ v1 < 100) ∧ InR (M12 75 v1) ∧ ((M12 75 v1) ≤ 12 → (CV mX12_layRanks [vR 50] M12 (fun M42 => (0 ≤ v1 ∧ v1 < 100) ∧ InR (M42 76 v1) ∧ ((M42 76 v1) < 1000000 → ((0 ≤ v1 ∧ v1 < 100) ∧ K (M42 76 v1) M42)) ∧ (¬ ((M42 76 v1) < 1000000) → (K (-10) M42))))) ∧ (¬ ((M12 75 v1) ≤ 12) → (K (-10) M12)))) ∧ (¬ ((M12 75 v1) ≥ 0) → (K (-9) M12))))) ∧ (¬ (r2 ≠ 0) → (K (-3) M2)))) :
    CI mX12_rank [vR 50, vI v1] M K := by
  show AW mX12_rank 0 [some (vR 50), some (vI v1)] [] M (QI K)
  refine AW.aload_n (pc := 0) (x := 50) dX12_rank_0 rfl ?_
  refine AW.iload_n (pc := 1) (x := v1) dX12_rank_1 rfl ?_
  refine AW.callV (pc := 2) (As := [vI v1]) (st := []) dX12_rank_2 cl_X12_199 kd_50 hl_50 ⟨Nat.le_of_ble_eq_true rfl, Nat.le_of_ble_eq_true rfl⟩ (Nat.le_of_ble_eq_true rfl) (Nat.le_of_ble_eq_true rfl) h ?_
  rintro _ M2 ⟨r2, rfl, h⟩
  show AW mX12_rank 5 [some (vR 50), some (vI v1)] [vI r2] M2 (QI K)
  obtain ⟨o, ha, hb⟩ := h
  refine AW.if_ne (pc := 5) (tgt := 11) dX12_rank_5 (by decide) o (fun hc => ?_) (fun hc => ?_)
  · have h := ha hc
    refine AW.aload_n (pc := 11) (x := 50) dX12_rank_11 rfl ?_
    refine AW.callV (pc := 12) (As := []) (st := []) dX12_rank_12 cl_X12_214 kd_50 hl_50 ⟨Nat.le_of_ble_eq_true rfl, Nat.le_of_ble_eq_true rfl⟩ (Nat.le_of_ble_eq_true rfl) (Nat.le_of_ble_eq_true rfl) h ?_
    rintro _ M12 ⟨rfl, h⟩
    show AW mX12_rank 15 [some (vR 50), some (vI v1)] [] M12 (QI K)
    refine AW.aload_n (pc := 15) (x := 50) dX12_rank_15 rfl ?_
    refine AW.getR (pc := 16) (h2 := 75) dX12_rank_16 fg_X12_83 kd_50 hl_50 rfl ?_
    refine AW.iload_n (pc := 19) (x := v1) dX12_rank_19 rfl ?_
    obtain ⟨o, h⟩ := h
    refine AW.iald (pc := 20) dX12_rank_20 kd_75 hl_75 o ?_
    obtain ⟨o, ha, hb⟩ := h
    refine AW.if_ge (pc := 21) (tgt := 27) dX12_rank_21 (by decide) o (fun hc => ?_) (fun hc => ?_)
    · have h := ha hc
      refine AW.aload_n (pc := 27) (x := 50) dX12_rank_27 rfl ?_
      refine AW.getR (pc := 28) (h2 := 75) dX12_rank_28 fg_X12_83 kd_50 hl_50 rfl ?_
      refine AW.iload_n (pc := 31) (x := v1) dX12_rank_31 rfl ?_
      obtain ⟨o, h⟩ := h
      refine AW.iald (pc := 32) dX12_rank_32 kd_75 hl_75 o ?_
      refine AW.bipush (pc := 33) dX12_rank_33 (by decide) ?_
      obtain ⟨o, ha, hb⟩ := h
      refine AW.icmp_le (pc := 35) (tgt := 41) dX12_rank_35 (by decide) o (by decide) (fun hc => ?_) (fun hc => ?_)
      · have h := ha hc
        refine AW.aload_n (pc := 41) (x := 50) dX12_rank_41 rfl ?_
        refine AW.callV (pc := 42) (As := []) (st := []) dX12_rank_42 cl_X12_220 kd_50 hl_50 ⟨Nat.le_of_ble_eq_true rfl, Nat.le_of_ble_eq_true rfl⟩ (Nat.le_of_ble_eq_true rfl) (Nat.le_of_ble_eq_true rfl) h ?_
        rintro _ M42 ⟨rfl, h⟩
        show AW mX12_rank 45 [some (vR 50), some (vI v1)] [] M42 (QI K)
        refine AW.aload_n (pc := 45) (x := 50) dX12_rank_45 rfl ?_
        refine AW.getR (pc := 46) (h2 := 76) dX12_rank_46 fg_X12_86 kd_50 hl_50 rfl ?_
        refine AW.iload_n (pc := 49) (x := v1) dX12_rank_49 rfl ?_
        obtain ⟨o, h⟩ := h
        refine AW.iald (pc := 50) dX12_rank_50 kd_76 hl_76 o ?_
        refine AW.ldc (pc := 51) (n := 1000000) dX12_rank_51 k_X12_129 ?_
        obtain ⟨o, ha, hb⟩ := h
        refine AW.icmp_lt (pc := 53) (tgt := 61) dX12_rank_53 (by decide) o (by decide) (fun hc => ?_) (fun hc => ?_)
        · have h := ha hc
          refine AW.aload_n (pc := 61) (x := 50) dX12_rank_61 rfl ?_
          refine AW.getR (pc := 62) (h2 := 76) dX12_rank_62 fg_X12_86 kd_50 hl_50 rfl ?_
          refine AW.iload_n (pc := 65) (x := v1) dX12_rank_65 rfl ?_
          obtain ⟨o, h⟩ := h
          refine AW.iald (pc := 66) dX12_rank_66 kd_76 hl_76 o ?_
          exact AW.iret (st := []) (pc := 67) dX12_rank_67 rfl ⟨_, rfl, h⟩
        · have h := hb hc
          refine AW.bipush (pc := 56) dX12_rank_56 (by decide) ?_
          refine AW.goto (pc := 58) (tgt := 67) dX12_rank_58 (by decide) ?_
          exact AW.iret (st := []) (pc := 67) dX12_rank_67 rfl ⟨_, rfl, h⟩
      · have h := hb hc
        refine AW.bipush (pc := 38) dX12_rank_38 (by decide) ?_
        exact AW.iret (st := []) (pc := 40) dX12_rank_40 rfl ⟨_, rfl, h⟩
    · have h := hb hc
      refine AW.bipush (pc := 24) dX12_rank_24 (by decide) ?_
      exact AW.iret (st := []) (pc := 26) dX12_rank_26 rfl ⟨_, rfl, h⟩
  · have h := hb hc
    refine AW.bipush (pc := 8) dX12_rank_8 (by decide) ?_
    exact AW.iret (st := []) (pc := 10) dX12_rank_10 rfl ⟨_, rfl, h⟩

set_option maxRecDepth 20000 in
theorem en_X12_rankNow {M : Mem} {K : Int → Mem → Prop} {v1 : Int} 
    (h : (0 ≤ v1 ∧ v1 < 100) ∧ AW mX12_rankNow 12 [some (vR 50), some (vI v1), some (vI (M 54 v1)), some (vL 0), none, some (vI 0), none, none, none, none] [] M (QI K)) :
    CI mX12_rankNow [vR 50, vI v1] M K := by
  show AW mX12_rankNow 0 [some (vR 50), some (vI v1), none, none, none, none, none, none, none, none] [] M (QI K)
  refine AW.aload_n (pc := 0) (x := 50) dX12_rankNow_0 rfl ?_
  refine AW.getR (pc := 1) (h2 := 54) dX12_rankNow_1 fg_X12_19 kd_50 hl_50 rfl ?_
  refine AW.iload_n (pc := 4) (x := v1) dX12_rankNow_4 rfl ?_
  obtain ⟨o, h⟩ := h
  refine AW.iald (pc := 5) dX12_rankNow_5 kd_54 hl_54 o ?_
  refine AW.istore_n (pc := 6) (ls2 := [some (vR 50), some (vI v1), some (vI (M 54 v1)), none, none, none, none, none, none, none]) dX12_rankNow_6 (by decide) rfl ?_
  refine AW.lconst (pc := 7) (n := 0) dX12_rankNow_7 (by decide) ?_
  refine AW.lstore_n (pc := 8) (ls2 := [some (vR 50), some (vI v1), some (vI (M 54 v1)), some (vL 0), none, none, none, none, none, none]) dX12_rankNow_8 (by decide) rfl ?_
  refine AW.iconst (pc := 9) dX12_rankNow_9 ?_
  refine AW.istore (pc := 10) (ls2 := [some (vR 50), some (vI v1), some (vI (M 54 v1)), some (vL 0), none, some (vI 0), none, none, none, none]) dX12_rankNow_10 (by decide) rfl ?_
  exact h

set_option maxRecDepth 20000 in
theorem sg_X12_rankNow_12 {M : Mem} {K : Int → Mem → Prop} {v1 v2 v3 v5 : Int} 
    (h : (InR v5 ∧ InR v2) ∧ (v5 ≥ v2 → ((0 ≤ v1 ∧ v1 < 100) ∧ AW mX12_rankNow 84 [some (vR 50), some (vI v1), some (vI v2), some (vL v3), none, some (vI ((M 75 v1) - 1)), some (vI 0), none, none, none] [] M (QI K))) ∧ (¬ (v5 ≥ v2) → ((0 ≤ v5 ∧ v5 < 12) ∧ (0 ≤ v2 ∧ v2 < 12) ∧ (InR (M 51 v5) ∧ InR (M 51 v2)) ∧ ((M 51 v5) ≠ (M 51 v2) → (CI mX12_capped [vL (v3 + 0)] M (fun r60 M60 => InR r60 ∧ AW mX12_rankNow 12 [some (vR 50), some (vI v1), some (vI v2), some (vL r60), none, some (vI (v5 + 1)), none, none, none, none] [] M60 (QI K)))) ∧ (¬ ((M 51 v5) ≠ (M 51 v2)) → ((0 ≤ v1 ∧ v1 < 100) ∧ CI mX12_way [vI v5, vI 0, vI ((M 75 v1) - 1)] M (fun r50 M50 => (0 ≤ r50 ∧ r50 < 624) ∧ InR (M50 64 r50) ∧ CI mX12_capped [vL (v3 + (M50 64 r50))] M50 (fun r60 M60 => InR r60 ∧ AW mX12_rankNow 12 [some (vR 50), some (vI v1), some (vI v2), some (vL r60), none, some (vI (v5 + 1)), none, none, none, none] [] M60 (QI K)))))))) :
    AW mX12_rankNow 12 [some (vR 50), some (vI v1), some (vI v2), some (vL v3), none, some (vI v5), none, none, none, none] [] M (QI K) := by
  refine AW.iload (pc := 12) (x := v5) dX12_rankNow_12 rfl ?_
  refine AW.iload_n (pc := 14) (x := v2) dX12_rankNow_14 rfl ?_
  obtain ⟨o, ha, hb⟩ := h
  refine AW.icmp_ge (pc := 15) (tgt := 71) dX12_rankNow_15 (by decide) o.1 o.2 (fun hc => ?_) (fun hc => ?_)
  · have h := ha hc
    refine AW.aload_n (pc := 71) (x := 50) dX12_rankNow_71 rfl ?_
    refine AW.getR (pc := 72) (h2 := 75) dX12_rankNow_72 fg_X12_83 kd_50 hl_50 rfl ?_
    refine AW.iload_n (pc := 75) (x := v1) dX12_rankNow_75 rfl ?_
    obtain ⟨o, h⟩ := h
    refine AW.iald (pc := 76) dX12_rankNow_76 kd_75 hl_75 o ?_
    refine AW.iconst (pc := 77) dX12_rankNow_77 ?_
    refine AW.isub (pc := 78) dX12_rankNow_78 ?_
    refine AW.istore (pc := 79) (ls2 := [some (vR 50), some (vI v1), some (vI v2), some (vL v3), none, some (vI ((M 75 v1) - 1)), none, none, none, none]) dX12_rankNow_79 (by decide) rfl ?_
    refine AW.iconst (pc := 81) dX12_rankNow_81 ?_
    refine AW.istore (pc := 82) (ls2 := [some (vR 50), some (vI v1), some (vI v2), some (vL v3), none, some (vI ((M 75 v1) - 1)), some (vI 0), none, none, none]) dX12_rankNow_82 (by decide) rfl ?_
    exact h
  · have h := hb hc
    refine AW.lload_n (pc := 18) (x := v3) dX12_rankNow_18 rfl ?_
    refine AW.aload_n (pc := 19) (x := 50) dX12_rankNow_19 rfl ?_
    refine AW.getR (pc := 20) (h2 := 51) dX12_rankNow_20 fg_X12_7 kd_50 hl_50 rfl ?_
    refine AW.iload (pc := 23) (x := v5) dX12_rankNow_23 rfl ?_
    obtain ⟨o, h⟩ := h
    refine AW.iald (pc := 25) dX12_rankNow_25 kd_51 hl_51 o ?_
    refine AW.aload_n (pc := 26) (x := 50) dX12_rankNow_26 rfl ?_
    refine AW.getR (pc := 27) (h2 := 51) dX12_rankNow_27 fg_X12_7 kd_50 hl_50 rfl ?_
    refine AW.iload_n (pc := 30) (x := v2) dX12_rankNow_30 rfl ?_
    obtain ⟨o, h⟩ := h
    refine AW.iald (pc := 31) dX12_rankNow_31 kd_51 hl_51 o ?_
    obtain ⟨o, ha, hb⟩ := h
    refine AW.icmp_ne (pc := 32) (tgt := 57) dX12_rankNow_32 (by decide) o.1 o.2 (fun hc => ?_) (fun hc => ?_)
    · have h := ha hc
      refine AW.iconst (pc := 57) dX12_rankNow_57 ?_
      refine AW.i2l (pc := 58) dX12_rankNow_58 (by decide) ?_
      refine AW.ladd (pc := 59) dX12_rankNow_59 ?_
      refine AW.callS (pc := 60) (As := [vL (v3 + 0)]) (st := []) dX12_rankNow_60 cl_X12_147 ⟨Nat.le_of_ble_eq_true rfl, Nat.le_of_ble_eq_true rfl⟩ (Nat.le_of_ble_eq_true rfl) (Nat.le_of_ble_eq_true rfl) h ?_
      rintro _ M60 ⟨r60, rfl, h⟩
      show AW mX12_rankNow 63 [some (vR 50), some (vI v1), some (vI v2), some (vL v3), none, some (vI v5), none, none, none, none] [vI r60] M60 (QI K)
      obtain ⟨o, h⟩ := h
      refine AW.i2l (pc := 63) dX12_rankNow_63 o ?_
      refine AW.lstore_n (pc := 64) (ls2 := [some (vR 50), some (vI v1), some (vI v2), some (vL r60), none, some (vI v5), none, none, none, none]) dX12_rankNow_64 (by decide) rfl ?_
      refine AW.iinc (pc := 65) (x := v5) (ls2 := [some (vR 50), some (vI v1), some (vI v2), some (vL r60), none, some (vI (v5 + 1)), none, none, none, none]) dX12_rankNow_65 rfl (by decide) rfl ?_
      refine AW.goto (pc := 68) (tgt := 12) dX12_rankNow_68 (by decide) ?_
      exact h
    · have h := hb hc
      refine AW.aload_n (pc := 35) (x := 50) dX12_rankNow_35 rfl ?_
      refine AW.getR (pc := 36) (h2 := 64) dX12_rankNow_36 fg_X12_50 kd_50 hl_50 rfl ?_
      refine AW.iload (pc := 39) (x := v5) dX12_rankNow_39 rfl ?_
      refine AW.iconst (pc := 41) dX12_rankNow_41 ?_
      refine AW.aload_n (pc := 42) (x := 50) dX12_rankNow_42 rfl ?_
      refine AW.getR (pc := 43) (h2 := 75) dX12_rankNow_43 fg_X12_83 kd_50 hl_50 rfl ?_
      refine AW.iload_n (pc := 46) (x := v1) dX12_rankNow_46 rfl ?_
      obtain ⟨o, h⟩ := h
      refine AW.iald (pc := 47) dX12_rankNow_47 kd_75 hl_75 o ?_
      refine AW.iconst (pc := 48) dX12_rankNow_48 ?_
      refine AW.isub (pc := 49) dX12_rankNow_49 ?_
      refine AW.callS (pc := 50) (As := [vI v5, vI 0, vI ((M 75 v1) - 1)]) (st := [vR 64, vL v3]) dX12_rankNow_50 cl_X12_160 ⟨Nat.le_of_ble_eq_true rfl, Nat.le_of_ble_eq_true rfl⟩ (Nat.le_of_ble_eq_true rfl) (Nat.le_of_ble_eq_true rfl) h ?_
      rintro _ M50 ⟨r50, rfl, h⟩
      show AW mX12_rankNow 53 [some (vR 50), some (vI v1), some (vI v2), some (vL v3), none, some (vI v5), none, none, none, none] [vI r50, vR 64, vL v3] M50 (QI K)
      obtain ⟨o, h⟩ := h
      refine AW.iald (pc := 53) dX12_rankNow_53 kd_64 hl_64 o ?_
      refine AW.goto (pc := 54) (tgt := 58) dX12_rankNow_54 (by decide) ?_
      obtain ⟨o, h⟩ := h
      refine AW.i2l (pc := 58) dX12_rankNow_58 o ?_
      refine AW.ladd (pc := 59) dX12_rankNow_59 ?_
      refine AW.callS (pc := 60) (As := [vL (v3 + (M50 64 r50))]) (st := []) dX12_rankNow_60 cl_X12_147 ⟨Nat.le_of_ble_eq_true rfl, Nat.le_of_ble_eq_true rfl⟩ (Nat.le_of_ble_eq_true rfl) (Nat.le_of_ble_eq_true rfl) h ?_
      rintro _ M60 ⟨r60, rfl, h⟩
      show AW mX12_rankNow 63 [some (vR 50), some (vI v1), some (vI v2), some (vL v3), none, some (vI v5), none, none, none, none] [vI r60] M60 (QI K)
      obtain ⟨o, h⟩ := h
      refine AW.i2l (pc := 63) dX12_rankNow_63 o ?_
      refine AW.lstore_n (pc := 64) (ls2 := [some (vR 50), some (vI v1), some (vI v2), some (vL r60), none, some (vI v5), none, none, none, none]) dX12_rankNow_64 (by decide) rfl ?_
      refine AW.iinc (pc := 65) (x := v5) (ls2 := [some (vR 50), some (vI v1), some (vI v2), some (vL r60), none, some (vI (v5 + 1)), none, none, none, none]) dX12_rankNow_65 rfl (by decide) rfl ?_
      refine AW.goto (pc := 68) (tgt := 12) dX12_rankNow_68 (by decide) ?_
      exact h

set_option maxRecDepth 20000 in
theorem sg_X12_rankNow_84 {M : Mem} {K : Int → Mem → Prop} {v1 v2 v3 v5 v6 : Int} 
    (h : (0 ≤ v2 ∧ v2 < 12) ∧ (InR v6 ∧ InR (M 52 v2)) ∧ (v6 ≥ (M 52 v2) → (K v3 M)) ∧ (¬ (v6 ≥ (M 52 v2)) → ((0 ≤ ((3 * v1) + v6) ∧ ((3 * v1) + v6) < 300) ∧ (0 ≤ ((3 * v2) + v6) ∧ ((3 * v2) + v6) < 36) ∧ AW mX12_rankNow 124 [some (vR 50), some (vI v1), some (vI v2), some (vL v3), none, some (vI v5), some (vI v6), some (vI (M 56 ((3 * v1) + v6))), some (vI (M 53 ((3 * v2) + v6))), some (vI 1)] [] M (QI K)))) :
    AW mX12_rankNow 84 [some (vR 50), some (vI v1), some (vI v2), some (vL v3), none, some (vI v5), some (vI v6), none, none, none] [] M (QI K) := by
  refine AW.iload (pc := 84) (x := v6) dX12_rankNow_84 rfl ?_
  refine AW.aload_n (pc := 86) (x := 50) dX12_rankNow_86 rfl ?_
  refine AW.getR (pc := 87) (h2 := 52) dX12_rankNow_87 fg_X12_13 kd_50 hl_50 rfl ?_
  refine AW.iload_n (pc := 90) (x := v2) dX12_rankNow_90 rfl ?_
  obtain ⟨o, h⟩ := h
  refine AW.iald (pc := 91) dX12_rankNow_91 kd_52 hl_52 o ?_
  obtain ⟨o, ha, hb⟩ := h
  refine AW.icmp_ge (pc := 92) (tgt := 213) dX12_rankNow_92 (by decide) o.1 o.2 (fun hc => ?_) (fun hc => ?_)
  · have h := ha hc
    refine AW.lload_n (pc := 213) (x := v3) dX12_rankNow_213 rfl ?_
    refine AW.l2i (pc := 214) dX12_rankNow_214 ?_
    exact AW.iret (st := []) (pc := 215) dX12_rankNow_215 rfl ⟨_, rfl, h⟩
  · have h := hb hc
    refine AW.aload_n (pc := 95) (x := 50) dX12_rankNow_95 rfl ?_
    refine AW.getR (pc := 96) (h2 := 56) dX12_rankNow_96 fg_X12_25 kd_50 hl_50 rfl ?_
    refine AW.iconst (pc := 99) dX12_rankNow_99 ?_
    refine AW.iload_n (pc := 100) (x := v1) dX12_rankNow_100 rfl ?_
    refine AW.imul (pc := 101) dX12_rankNow_101 ?_
    refine AW.iload (pc := 102) (x := v6) dX12_rankNow_102 rfl ?_
    refine AW.iadd (pc := 104) dX12_rankNow_104 ?_
    obtain ⟨o, h⟩ := h
    refine AW.iald (pc := 105) dX12_rankNow_105 kd_56 hl_56 o ?_
    refine AW.istore (pc := 106) (ls2 := [some (vR 50), some (vI v1), some (vI v2), some (vL v3), none, some (vI v5), some (vI v6), some (vI (M 56 ((3 * v1) + v6))), none, none]) dX12_rankNow_106 (by decide) rfl ?_
    refine AW.aload_n (pc := 108) (x := 50) dX12_rankNow_108 rfl ?_
    refine AW.getR (pc := 109) (h2 := 53) dX12_rankNow_109 fg_X12_16 kd_50 hl_50 rfl ?_
    refine AW.iconst (pc := 112) dX12_rankNow_112 ?_
    refine AW.iload_n (pc := 113) (x := v2) dX12_rankNow_113 rfl ?_
    refine AW.imul (pc := 114) dX12_rankNow_114 ?_
    refine AW.iload (pc := 115) (x := v6) dX12_rankNow_115 rfl ?_
    refine AW.iadd (pc := 117) dX12_rankNow_117 ?_
    obtain ⟨o, h⟩ := h
    refine AW.iald (pc := 118) dX12_rankNow_118 kd_53 hl_53 o ?_
    refine AW.istore (pc := 119) (ls2 := [some (vR 50), some (vI v1), some (vI v2), some (vL v3), none, some (vI v5), some (vI v6), some (vI (M 56 ((3 * v1) + v6))), some (vI (M 53 ((3 * v2) + v6))), none]) dX12_rankNow_119 (by decide) rfl ?_
    refine AW.iconst (pc := 121) dX12_rankNow_121 ?_
    refine AW.istore (pc := 122) (ls2 := [some (vR 50), some (vI v1), some (vI v2), some (vL v3), none, some (vI v5), some (vI v6), some (vI (M 56 ((3 * v1) + v6))), some (vI (M 53 ((3 * v2) + v6))), some (vI 1)]) dX12_rankNow_122 (by decide) rfl ?_
    exact h

set_option maxRecDepth 20000 in
theorem sg_X12_rankNow_124 {M : Mem} {K : Int → Mem → Prop} {v1 v2 v3 v5 v6 v7 v8 v9 : Int} 
    (h : (0 ≤ v7 ∧ v7 < 100) ∧ (InR v9 ∧ InR (M 75 v7)) ∧ (v9 ≥ (M 75 v7) → ((0 ≤ v7 ∧ v7 < 100) ∧ (0 ≤ v7 ∧ v7 < 100) ∧ InR (M 76 v7) ∧ CI mX12_way [vI v2, vI (v6 + 1), vI (v5 - (M 75 v7))] M (fun r195 M195 => (0 ≤ r195 ∧ r195 < 624) ∧ InR (M195 64 r195) ∧ CI mX12_capped [vL (v3 + ((M 76 v7) * (M195 64 r195)))] M195 (fun r202 M202 => InR r202 ∧ AW mX12_rankNow 84 [some (vR 50), some (vI v1), some (vI v2), some (vL r202), none, some (vI (v5 - (M 75 v7))), some (vI (v6 + 1)), none, none, none] [] M202 (QI K))))) ∧ (¬ (v9 ≥ (M 75 v7)) → (CI mX12_blockOf [vR 50, vI v2, vI v6, vI v8, vI v9, vI v5] M (fun r147 M147 => InR r147 ∧ CI mX12_capped [vL (v3 + r147)] M147 (fun r152 M152 => InR r152 ∧ AW mX12_rankNow 124 [some (vR 50), some (vI v1), some (vI v2), some (vL r152), none, some (vI v5), some (vI v6), some (vI v7), some (vI v8), some (vI (v9 + 1))] [] M152 (QI K)))))) :
    AW mX12_rankNow 124 [some (vR 50), some (vI v1), some (vI v2), some (vL v3), none, some (vI v5), some (vI v6), some (vI v7), some (vI v8), some (vI v9)] [] M (QI K) := by
  refine AW.iload (pc := 124) (x := v9) dX12_rankNow_124 rfl ?_
  refine AW.aload_n (pc := 126) (x := 50) dX12_rankNow_126 rfl ?_
  refine AW.getR (pc := 127) (h2 := 75) dX12_rankNow_127 fg_X12_83 kd_50 hl_50 rfl ?_
  refine AW.iload (pc := 130) (x := v7) dX12_rankNow_130 rfl ?_
  obtain ⟨o, h⟩ := h
  refine AW.iald (pc := 132) dX12_rankNow_132 kd_75 hl_75 o ?_
  obtain ⟨o, ha, hb⟩ := h
  refine AW.icmp_ge (pc := 133) (tgt := 163) dX12_rankNow_133 (by decide) o.1 o.2 (fun hc => ?_) (fun hc => ?_)
  · have h := ha hc
    refine AW.iload (pc := 163) (x := v5) dX12_rankNow_163 rfl ?_
    refine AW.aload_n (pc := 165) (x := 50) dX12_rankNow_165 rfl ?_
    refine AW.getR (pc := 166) (h2 := 75) dX12_rankNow_166 fg_X12_83 kd_50 hl_50 rfl ?_
    refine AW.iload (pc := 169) (x := v7) dX12_rankNow_169 rfl ?_
    obtain ⟨o, h⟩ := h
    refine AW.iald (pc := 171) dX12_rankNow_171 kd_75 hl_75 o ?_
    refine AW.isub (pc := 172) dX12_rankNow_172 ?_
    refine AW.istore (pc := 173) (ls2 := [some (vR 50), some (vI v1), some (vI v2), some (vL v3), none, some (vI (v5 - (M 75 v7))), some (vI v6), some (vI v7), some (vI v8), some (vI v9)]) dX12_rankNow_173 (by decide) rfl ?_
    refine AW.lload_n (pc := 175) (x := v3) dX12_rankNow_175 rfl ?_
    refine AW.aload_n (pc := 176) (x := 50) dX12_rankNow_176 rfl ?_
    refine AW.getR (pc := 177) (h2 := 76) dX12_rankNow_177 fg_X12_86 kd_50 hl_50 rfl ?_
    refine AW.iload (pc := 180) (x := v7) dX12_rankNow_180 rfl ?_
    obtain ⟨o, h⟩ := h
    refine AW.iald (pc := 182) dX12_rankNow_182 kd_76 hl_76 o ?_
    obtain ⟨o, h⟩ := h
    refine AW.i2l (pc := 183) dX12_rankNow_183 o ?_
    refine AW.aload_n (pc := 184) (x := 50) dX12_rankNow_184 rfl ?_
    refine AW.getR (pc := 185) (h2 := 64) dX12_rankNow_185 fg_X12_50 kd_50 hl_50 rfl ?_
    refine AW.iload_n (pc := 188) (x := v2) dX12_rankNow_188 rfl ?_
    refine AW.iload (pc := 189) (x := v6) dX12_rankNow_189 rfl ?_
    refine AW.iconst (pc := 191) dX12_rankNow_191 ?_
    refine AW.iadd (pc := 192) dX12_rankNow_192 ?_
    refine AW.iload (pc := 193) (x := (v5 - (M 75 v7))) dX12_rankNow_193 rfl ?_
    refine AW.callS (pc := 195) (As := [vI v2, vI (v6 + 1), vI (v5 - (M 75 v7))]) (st := [vR 64, vL (M 76 v7), vL v3]) dX12_rankNow_195 cl_X12_160 ⟨Nat.le_of_ble_eq_true rfl, Nat.le_of_ble_eq_true rfl⟩ (Nat.le_of_ble_eq_true rfl) (Nat.le_of_ble_eq_true rfl) h ?_
    rintro _ M195 ⟨r195, rfl, h⟩
    show AW mX12_rankNow 198 [some (vR 50), some (vI v1), some (vI v2), some (vL v3), none, some (vI (v5 - (M 75 v7))), some (vI v6), some (vI v7), some (vI v8), some (vI v9)] [vI r195, vR 64, vL (M 76 v7), vL v3] M195 (QI K)
    obtain ⟨o, h⟩ := h
    refine AW.iald (pc := 198) dX12_rankNow_198 kd_64 hl_64 o ?_
    obtain ⟨o, h⟩ := h
    refine AW.i2l (pc := 199) dX12_rankNow_199 o ?_
    refine AW.lmul (pc := 200) dX12_rankNow_200 ?_
    refine AW.ladd (pc := 201) dX12_rankNow_201 ?_
    refine AW.callS (pc := 202) (As := [vL (v3 + ((M 76 v7) * (M195 64 r195)))]) (st := []) dX12_rankNow_202 cl_X12_147 ⟨Nat.le_of_ble_eq_true rfl, Nat.le_of_ble_eq_true rfl⟩ (Nat.le_of_ble_eq_true rfl) (Nat.le_of_ble_eq_true rfl) h ?_
    rintro _ M202 ⟨r202, rfl, h⟩
    show AW mX12_rankNow 205 [some (vR 50), some (vI v1), some (vI v2), some (vL v3), none, some (vI (v5 - (M 75 v7))), some (vI v6), some (vI v7), some (vI v8), some (vI v9)] [vI r202] M202 (QI K)
    obtain ⟨o, h⟩ := h
    refine AW.i2l (pc := 205) dX12_rankNow_205 o ?_
    refine AW.lstore_n (pc := 206) (ls2 := [some (vR 50), some (vI v1), some (vI v2), some (vL r202), none, some (vI (v5 - (M 75 v7))), some (vI v6), some (vI v7), some (vI v8), some (vI v9)]) dX12_rankNow_206 (by decide) rfl ?_
    refine AW.iinc (pc := 207) (x := v6) (ls2 := [some (vR 50), some (vI v1), some (vI v2), some (vL r202), none, some (vI (v5 - (M 75 v7))), some (vI (v6 + 1)), some (vI v7), some (vI v8), some (vI v9)]) dX12_rankNow_207 rfl (by decide) rfl ?_
    refine AW.goto (pc := 210) (tgt := 84) dX12_rankNow_210 (by decide) ?_
    exact AW.weak (ls2 := [some (vR 50), some (vI v1), some (vI v2), some (vL r202), none, some (vI (v5 - (M 75 v7))), some (vI (v6 + 1)), none, none, none]) (by simp [lsub]) h
  · have h := hb hc
    refine AW.lload_n (pc := 136) (x := v3) dX12_rankNow_136 rfl ?_
    refine AW.aload_n (pc := 137) (x := 50) dX12_rankNow_137 rfl ?_
    refine AW.iload_n (pc := 138) (x := v2) dX12_rankNow_138 rfl ?_
    refine AW.iload (pc := 139) (x := v6) dX12_rankNow_139 rfl ?_
    refine AW.iload (pc := 141) (x := v8) dX12_rankNow_141 rfl ?_
    refine AW.iload (pc := 143) (x := v9) dX12_rankNow_143 rfl ?_
    refine AW.iload (pc := 145) (x := v5) dX12_rankNow_145 rfl ?_
    refine AW.callV (pc := 147) (As := [vI v2, vI v6, vI v8, vI v9, vI v5]) (st := [vL v3]) dX12_rankNow_147 cl_X12_175 kd_50 hl_50 ⟨Nat.le_of_ble_eq_true rfl, Nat.le_of_ble_eq_true rfl⟩ (Nat.le_of_ble_eq_true rfl) (Nat.le_of_ble_eq_true rfl) h ?_
    rintro _ M147 ⟨r147, rfl, h⟩
    show AW mX12_rankNow 150 [some (vR 50), some (vI v1), some (vI v2), some (vL v3), none, some (vI v5), some (vI v6), some (vI v7), some (vI v8), some (vI v9)] [vI r147, vL v3] M147 (QI K)
    obtain ⟨o, h⟩ := h
    refine AW.i2l (pc := 150) dX12_rankNow_150 o ?_
    refine AW.ladd (pc := 151) dX12_rankNow_151 ?_
    refine AW.callS (pc := 152) (As := [vL (v3 + r147)]) (st := []) dX12_rankNow_152 cl_X12_147 ⟨Nat.le_of_ble_eq_true rfl, Nat.le_of_ble_eq_true rfl⟩ (Nat.le_of_ble_eq_true rfl) (Nat.le_of_ble_eq_true rfl) h ?_
    rintro _ M152 ⟨r152, rfl, h⟩
    show AW mX12_rankNow 155 [some (vR 50), some (vI v1), some (vI v2), some (vL v3), none, some (vI v5), some (vI v6), some (vI v7), some (vI v8), some (vI v9)] [vI r152] M152 (QI K)
    obtain ⟨o, h⟩ := h
    refine AW.i2l (pc := 155) dX12_rankNow_155 o ?_
    refine AW.lstore_n (pc := 156) (ls2 := [some (vR 50), some (vI v1), some (vI v2), some (vL r152), none, some (vI v5), some (vI v6), some (vI v7), some (vI v8), some (vI v9)]) dX12_rankNow_156 (by decide) rfl ?_
    refine AW.iinc (pc := 157) (x := v9) (ls2 := [some (vR 50), some (vI v1), some (vI v2), some (vL r152), none, some (vI v5), some (vI v6), some (vI v7), some (vI v8), some (vI (v9 + 1))]) dX12_rankNow_157 rfl (by decide) rfl ?_
    refine AW.goto (pc := 160) (tgt := 124) dX12_rankNow_160 (by decide) ?_
    exact h

set_option maxRecDepth 20000 in
theorem en_X12_resolved {M : Mem} {K : Int → Mem → Prop} {v1 : Int} 
    (h : AW mX12_resolved 2 [some (vR 50), some (vI v1), some (vI v1)] [] M (QI K)) :
    CI mX12_resolved [vR 50, vI v1] M K := by
  show AW mX12_resolved 0 [some (vR 50), some (vI v1), none] [] M (QI K)
  refine AW.iload_n (pc := 0) (x := v1) dX12_resolved_0 rfl ?_
  refine AW.istore_n (pc := 1) (ls2 := [some (vR 50), some (vI v1), some (vI v1)]) dX12_resolved_1 (by decide) rfl ?_
  exact h

set_option maxRecDepth 20000 in
theorem sg_X12_resolved_2 {M : Mem} {K : Int → Mem → Prop} {v1 v2 : Int} 
    (h : (0 ≤ v2 ∧ v2 < 100) ∧ InR (M 57 v2) ∧ ((M 57 v2) < 0 → (K v2 M)) ∧ (¬ ((M 57 v2) < 0) → ((0 ≤ v2 ∧ v2 < 100) ∧ AW mX12_resolved 2 [some (vR 50), some (vI v1), some (vI (M 57 v2))] [] M (QI K)))) :
    AW mX12_resolved 2 [some (vR 50), some (vI v1), some (vI v2)] [] M (QI K) := by
  refine AW.aload_n (pc := 2) (x := 50) dX12_resolved_2 rfl ?_
  refine AW.getR (pc := 3) (h2 := 57) dX12_resolved_3 fg_X12_28 kd_50 hl_50 rfl ?_
  refine AW.iload_n (pc := 6) (x := v2) dX12_resolved_6 rfl ?_
  obtain ⟨o, h⟩ := h
  refine AW.iald (pc := 7) dX12_resolved_7 kd_57 hl_57 o ?_
  obtain ⟨o, ha, hb⟩ := h
  refine AW.if_lt (pc := 8) (tgt := 21) dX12_resolved_8 (by decide) o (fun hc => ?_) (fun hc => ?_)
  · have h := ha hc
    refine AW.iload_n (pc := 21) (x := v2) dX12_resolved_21 rfl ?_
    exact AW.iret (st := []) (pc := 22) dX12_resolved_22 rfl ⟨_, rfl, h⟩
  · have h := hb hc
    refine AW.aload_n (pc := 11) (x := 50) dX12_resolved_11 rfl ?_
    refine AW.getR (pc := 12) (h2 := 57) dX12_resolved_12 fg_X12_28 kd_50 hl_50 rfl ?_
    refine AW.iload_n (pc := 15) (x := v2) dX12_resolved_15 rfl ?_
    obtain ⟨o, h⟩ := h
    refine AW.iald (pc := 16) dX12_resolved_16 kd_57 hl_57 o ?_
    refine AW.istore_n (pc := 17) (ls2 := [some (vR 50), some (vI v1), some (vI (M 57 v2))]) dX12_resolved_17 (by decide) rfl ?_
    refine AW.goto (pc := 18) (tgt := 2) dX12_resolved_18 (by decide) ?_
    exact h

set_option maxRecDepth 20000 in
theorem en_X12_resultType {M : Mem} {K : Int → Mem → Prop} {v1 : Int} 
    (h : CI mX12_isConstructor [vR 50, vI v1] M (fun r2 M2 => InR r2 ∧ (r2 = 0 → (K (-2) M2)) ∧ (¬ (r2 = 0) → ((0 ≤ v1 ∧ v1 < 12) ∧ K (M2 51 v1) M2)))) :
    CI mX12_resultType [vR 50, vI v1] M K := by
  show AW mX12_resultType 0 [some (vR 50), some (vI v1)] [] M (QI K)
  refine AW.aload_n (pc := 0) (x := 50) dX12_resultType_0 rfl ?_
  refine AW.iload_n (pc := 1) (x := v1) dX12_resultType_1 rfl ?_
  refine AW.callV (pc := 2) (As := [vI v1]) (st := []) dX12_resultType_2 cl_X12_134 kd_50 hl_50 ⟨Nat.le_of_ble_eq_true rfl, Nat.le_of_ble_eq_true rfl⟩ (Nat.le_of_ble_eq_true rfl) (Nat.le_of_ble_eq_true rfl) h ?_
  rintro _ M2 ⟨r2, rfl, h⟩
  show AW mX12_resultType 5 [some (vR 50), some (vI v1)] [vI r2] M2 (QI K)
  obtain ⟨o, ha, hb⟩ := h
  refine AW.if_eq (pc := 5) (tgt := 17) dX12_resultType_5 (by decide) o (fun hc => ?_) (fun hc => ?_)
  · have h := ha hc
    refine AW.bipush (pc := 17) dX12_resultType_17 (by decide) ?_
    exact AW.iret (st := []) (pc := 19) dX12_resultType_19 rfl ⟨_, rfl, h⟩
  · have h := hb hc
    refine AW.aload_n (pc := 8) (x := 50) dX12_resultType_8 rfl ?_
    refine AW.getR (pc := 9) (h2 := 51) dX12_resultType_9 fg_X12_7 kd_50 hl_50 rfl ?_
    refine AW.iload_n (pc := 12) (x := v1) dX12_resultType_12 rfl ?_
    obtain ⟨o, h⟩ := h
    refine AW.iald (pc := 13) dX12_resultType_13 kd_51 hl_51 o ?_
    refine AW.goto (pc := 14) (tgt := 19) dX12_resultType_14 (by decide) ?_
    exact AW.iret (st := []) (pc := 19) dX12_resultType_19 rfl ⟨_, rfl, h⟩

set_option maxRecDepth 20000 in
theorem en_X12_share {M : Mem} {K : Mem → Prop} {v1 v2 v3 : Int} 
    (h : AW mX12_share 11 [some (vR 50), some (vI v1), some (vI v2), some (vI v3), some (vI (v2 - 1)), some (vI v3), some (vI 0), none, none, none, none] [] M (QV K)) :
    CV mX12_share [vR 50, vI v1, vI v2, vI v3] M K := by
  show AW mX12_share 0 [some (vR 50), some (vI v1), some (vI v2), some (vI v3), none, none, none, none, none, none, none] [] M (QV K)
  refine AW.iload_n (pc := 0) (x := v2) dX12_share_0 rfl ?_
  refine AW.iconst (pc := 1) dX12_share_1 ?_
  refine AW.isub (pc := 2) dX12_share_2 ?_
  refine AW.istore (pc := 3) (ls2 := [some (vR 50), some (vI v1), some (vI v2), some (vI v3), some (vI (v2 - 1)), none, none, none, none, none, none]) dX12_share_3 (by decide) rfl ?_
  refine AW.iload_n (pc := 5) (x := v3) dX12_share_5 rfl ?_
  refine AW.istore (pc := 6) (ls2 := [some (vR 50), some (vI v1), some (vI v2), some (vI v3), some (vI (v2 - 1)), some (vI v3), none, none, none, none, none]) dX12_share_6 (by decide) rfl ?_
  refine AW.iconst (pc := 8) dX12_share_8 ?_
  refine AW.istore (pc := 9) (ls2 := [some (vR 50), some (vI v1), some (vI v2), some (vI v3), some (vI (v2 - 1)), some (vI v3), some (vI 0), none, none, none, none]) dX12_share_9 (by decide) rfl ?_
  exact h

set_option maxRecDepth 20000 in
theorem sg_X12_share_11 {M : Mem} {K : Mem → Prop} {v1 v2 v3 v4 v5 v6 : Int} 
    (h : (0 ≤ v1 ∧ v1 < 12) ∧ (InR v6 ∧ InR (M 52 v1)) ∧ (v6 ≥ (M 52 v1) → (K M)) ∧ (¬ (v6 ≥ (M 52 v1)) → ((0 ≤ ((3 * v1) + v6) ∧ ((3 * v1) + v6) < 36) ∧ CI mX12_blockOf [vR 50, vI v1, vI v6, vI (M 53 ((3 * v1) + v6)), vI 1, vI v4] M (fun r48 M48 => AW mX12_share 53 [some (vR 50), some (vI v1), some (vI v2), some (vI v3), some (vI v4), some (vI v5), some (vI v6), some (vI (M 53 ((3 * v1) + v6))), some (vI 1), some (vI r48), none] [] M48 (QV K))))) :
    AW mX12_share 11 [some (vR 50), some (vI v1), some (vI v2), some (vI v3), some (vI v4), some (vI v5), some (vI v6), none, none, none, none] [] M (QV K) := by
  refine AW.iload (pc := 11) (x := v6) dX12_share_11 rfl ?_
  refine AW.aload_n (pc := 13) (x := 50) dX12_share_13 rfl ?_
  refine AW.getR (pc := 14) (h2 := 52) dX12_share_14 fg_X12_13 kd_50 hl_50 rfl ?_
  refine AW.iload_n (pc := 17) (x := v1) dX12_share_17 rfl ?_
  obtain ⟨o, h⟩ := h
  refine AW.iald (pc := 18) dX12_share_18 kd_52 hl_52 o ?_
  obtain ⟨o, ha, hb⟩ := h
  refine AW.icmp_ge (pc := 19) (tgt := 155) dX12_share_19 (by decide) o.1 o.2 (fun hc => ?_) (fun hc => ?_)
  · have h := ha hc
    exact AW.vret (st := []) (pc := 155) dX12_share_155 rfl ⟨rfl, h⟩
  · have h := hb hc
    refine AW.aload_n (pc := 22) (x := 50) dX12_share_22 rfl ?_
    refine AW.getR (pc := 23) (h2 := 53) dX12_share_23 fg_X12_16 kd_50 hl_50 rfl ?_
    refine AW.iconst (pc := 26) dX12_share_26 ?_
    refine AW.iload_n (pc := 27) (x := v1) dX12_share_27 rfl ?_
    refine AW.imul (pc := 28) dX12_share_28 ?_
    refine AW.iload (pc := 29) (x := v6) dX12_share_29 rfl ?_
    refine AW.iadd (pc := 31) dX12_share_31 ?_
    obtain ⟨o, h⟩ := h
    refine AW.iald (pc := 32) dX12_share_32 kd_53 hl_53 o ?_
    refine AW.istore (pc := 33) (ls2 := [some (vR 50), some (vI v1), some (vI v2), some (vI v3), some (vI v4), some (vI v5), some (vI v6), some (vI (M 53 ((3 * v1) + v6))), none, none, none]) dX12_share_33 (by decide) rfl ?_
    refine AW.iconst (pc := 35) dX12_share_35 ?_
    refine AW.istore (pc := 36) (ls2 := [some (vR 50), some (vI v1), some (vI v2), some (vI v3), some (vI v4), some (vI v5), some (vI v6), some (vI (M 53 ((3 * v1) + v6))), some (vI 1), none, none]) dX12_share_36 (by decide) rfl ?_
    refine AW.aload_n (pc := 38) (x := 50) dX12_share_38 rfl ?_
    refine AW.iload_n (pc := 39) (x := v1) dX12_share_39 rfl ?_
    refine AW.iload (pc := 40) (x := v6) dX12_share_40 rfl ?_
    refine AW.iload (pc := 42) (x := (M 53 ((3 * v1) + v6))) dX12_share_42 rfl ?_
    refine AW.iload (pc := 44) (x := 1) dX12_share_44 rfl ?_
    refine AW.iload (pc := 46) (x := v4) dX12_share_46 rfl ?_
    refine AW.callV (pc := 48) (As := [vI v1, vI v6, vI (M 53 ((3 * v1) + v6)), vI 1, vI v4]) (st := []) dX12_share_48 cl_X12_175 kd_50 hl_50 ⟨Nat.le_of_ble_eq_true rfl, Nat.le_of_ble_eq_true rfl⟩ (Nat.le_of_ble_eq_true rfl) (Nat.le_of_ble_eq_true rfl) h ?_
    rintro _ M48 ⟨r48, rfl, h⟩
    show AW mX12_share 51 [some (vR 50), some (vI v1), some (vI v2), some (vI v3), some (vI v4), some (vI v5), some (vI v6), some (vI (M 53 ((3 * v1) + v6))), some (vI 1), none, none] [vI r48] M48 (QV K)
    refine AW.istore (pc := 51) (ls2 := [some (vR 50), some (vI v1), some (vI v2), some (vI v3), some (vI v4), some (vI v5), some (vI v6), some (vI (M 53 ((3 * v1) + v6))), some (vI 1), some (vI r48), none]) dX12_share_51 (by decide) rfl ?_
    exact h

set_option maxRecDepth 20000 in
theorem sg_X12_share_53 {M : Mem} {K : Mem → Prop} {v1 v2 v3 v4 v5 v6 v7 v8 v9 : Int} 
    (h : (InR v5 ∧ InR v9) ∧ (v5 < v9 → (CI mX12_way [vI v1, vI (v6 + 1), vI (v4 - v8)] M (fun r102 M102 => (0 ≤ r102 ∧ r102 < 624) ∧ (0 ≤ v6 ∧ v6 < 3) ∧ ((0 ≤ v5 ∧ v5 ≤ 2147483647) ∧ (0 < (M102 64 r102) ∧ (M102 64 r102) ≤ 2147483647)) ∧ (0 ≤ v6 ∧ v6 < 3) ∧ ((0 ≤ v5 ∧ v5 ≤ 2147483647) ∧ (0 < (M102 64 r102) ∧ (M102 64 r102) ≤ 2147483647)) ∧ AW mX12_share 11 [some (vR 50), some (vI v1), some (vI v2), some (vI v3), some (vI (v4 - v8)), some (vI (v5 - ((v5 / (M102 64 r102)) * (M102 64 r102)))), some (vI (v6 + 1)), none, none, none, none] [] (up (up M102 70 v6 v8) 71 v6 (v5 / (M102 64 r102))) (QV K)))) ∧ (¬ (v5 < v9) → (CI mX12_blockOf [vR 50, vI v1, vI v6, vI v7, vI (v8 + 1), vI v4] M (fun r80 M80 => AW mX12_share 53 [some (vR 50), some (vI v1), some (vI v2), some (vI v3), some (vI v4), some (vI (v5 - v9)), some (vI v6), some (vI v7), some (vI (v8 + 1)), some (vI r80), none] [] M80 (QV K))))) :
    AW mX12_share 53 [some (vR 50), some (vI v1), some (vI v2), some (vI v3), some (vI v4), some (vI v5), some (vI v6), some (vI v7), some (vI v8), some (vI v9), none] [] M (QV K) := by
  refine AW.iload (pc := 53) (x := v5) dX12_share_53 rfl ?_
  refine AW.iload (pc := 55) (x := v9) dX12_share_55 rfl ?_
  obtain ⟨o, ha, hb⟩ := h
  refine AW.icmp_lt (pc := 57) (tgt := 88) dX12_share_57 (by decide) o.1 o.2 (fun hc => ?_) (fun hc => ?_)
  · have h := ha hc
    refine AW.aload_n (pc := 88) (x := 50) dX12_share_88 rfl ?_
    refine AW.getR (pc := 89) (h2 := 64) dX12_share_89 fg_X12_50 kd_50 hl_50 rfl ?_
    refine AW.iload_n (pc := 92) (x := v1) dX12_share_92 rfl ?_
    refine AW.iload (pc := 93) (x := v6) dX12_share_93 rfl ?_
    refine AW.iconst (pc := 95) dX12_share_95 ?_
    refine AW.iadd (pc := 96) dX12_share_96 ?_
    refine AW.iload (pc := 97) (x := v4) dX12_share_97 rfl ?_
    refine AW.iload (pc := 99) (x := v8) dX12_share_99 rfl ?_
    refine AW.isub (pc := 101) dX12_share_101 ?_
    refine AW.callS (pc := 102) (As := [vI v1, vI (v6 + 1), vI (v4 - v8)]) (st := [vR 64]) dX12_share_102 cl_X12_160 ⟨Nat.le_of_ble_eq_true rfl, Nat.le_of_ble_eq_true rfl⟩ (Nat.le_of_ble_eq_true rfl) (Nat.le_of_ble_eq_true rfl) h ?_
    rintro _ M102 ⟨r102, rfl, h⟩
    show AW mX12_share 105 [some (vR 50), some (vI v1), some (vI v2), some (vI v3), some (vI v4), some (vI v5), some (vI v6), some (vI v7), some (vI v8), some (vI v9), none] [vI r102, vR 64] M102 (QV K)
    obtain ⟨o, h⟩ := h
    refine AW.iald (pc := 105) dX12_share_105 kd_64 hl_64 o ?_
    refine AW.istore (pc := 106) (ls2 := [some (vR 50), some (vI v1), some (vI v2), some (vI v3), some (vI v4), some (vI v5), some (vI v6), some (vI v7), some (vI v8), some (vI v9), some (vI (M102 64 r102))]) dX12_share_106 (by decide) rfl ?_
    refine AW.aload_n (pc := 108) (x := 50) dX12_share_108 rfl ?_
    refine AW.getR (pc := 109) (h2 := 70) dX12_share_109 fg_X12_68 kd_50 hl_50 rfl ?_
    refine AW.iload (pc := 112) (x := v6) dX12_share_112 rfl ?_
    refine AW.iload (pc := 114) (x := v8) dX12_share_114 rfl ?_
    obtain ⟨o, h⟩ := h
    refine AW.iast (pc := 116) dX12_share_116 kd_70 hl_70 o ?_
    refine AW.aload_n (pc := 117) (x := 50) dX12_share_117 rfl ?_
    refine AW.getR (pc := 118) (h2 := 71) dX12_share_118 fg_X12_71 kd_50 hl_50 rfl ?_
    refine AW.iload (pc := 121) (x := v6) dX12_share_121 rfl ?_
    refine AW.iload (pc := 123) (x := v5) dX12_share_123 rfl ?_
    refine AW.iload (pc := 125) (x := (M102 64 r102)) dX12_share_125 rfl ?_
    obtain ⟨o, h⟩ := h
    refine AW.idiv (pc := 127) dX12_share_127 o.1 o.2 ?_
    obtain ⟨o, h⟩ := h
    refine AW.iast (pc := 128) dX12_share_128 kd_71 hl_71 o ?_
    refine AW.iload (pc := 129) (x := v5) dX12_share_129 rfl ?_
    refine AW.iload (pc := 131) (x := v5) dX12_share_131 rfl ?_
    refine AW.iload (pc := 133) (x := (M102 64 r102)) dX12_share_133 rfl ?_
    obtain ⟨o, h⟩ := h
    refine AW.idiv (pc := 135) dX12_share_135 o.1 o.2 ?_
    refine AW.iload (pc := 136) (x := (M102 64 r102)) dX12_share_136 rfl ?_
    refine AW.imul (pc := 138) dX12_share_138 ?_
    refine AW.isub (pc := 139) dX12_share_139 ?_
    refine AW.istore (pc := 140) (ls2 := [some (vR 50), some (vI v1), some (vI v2), some (vI v3), some (vI v4), some (vI (v5 - ((v5 / (M102 64 r102)) * (M102 64 r102)))), some (vI v6), some (vI v7), some (vI v8), some (vI v9), some (vI (M102 64 r102))]) dX12_share_140 (by decide) rfl ?_
    refine AW.iload (pc := 142) (x := v4) dX12_share_142 rfl ?_
    refine AW.iload (pc := 144) (x := v8) dX12_share_144 rfl ?_
    refine AW.isub (pc := 146) dX12_share_146 ?_
    refine AW.istore (pc := 147) (ls2 := [some (vR 50), some (vI v1), some (vI v2), some (vI v3), some (vI (v4 - v8)), some (vI (v5 - ((v5 / (M102 64 r102)) * (M102 64 r102)))), some (vI v6), some (vI v7), some (vI v8), some (vI v9), some (vI (M102 64 r102))]) dX12_share_147 (by decide) rfl ?_
    refine AW.iinc (pc := 149) (x := v6) (ls2 := [some (vR 50), some (vI v1), some (vI v2), some (vI v3), some (vI (v4 - v8)), some (vI (v5 - ((v5 / (M102 64 r102)) * (M102 64 r102)))), some (vI (v6 + 1)), some (vI v7), some (vI v8), some (vI v9), some (vI (M102 64 r102))]) dX12_share_149 rfl (by decide) rfl ?_
    refine AW.goto (pc := 152) (tgt := 11) dX12_share_152 (by decide) ?_
    exact AW.weak (ls2 := [some (vR 50), some (vI v1), some (vI v2), some (vI v3), some (vI (v4 - v8)), some (vI (v5 - ((v5 / (M102 64 r102)) * (M102 64 r102)))), some (vI (v6 + 1)), none, none, none, none]) (by simp [lsub]) h
  · have h := hb hc
    refine AW.iload (pc := 60) (x := v5) dX12_share_60 rfl ?_
    refine AW.iload (pc := 62) (x := v9) dX12_share_62 rfl ?_
    refine AW.isub (pc := 64) dX12_share_64 ?_
    refine AW.istore (pc := 65) (ls2 := [some (vR 50), some (vI v1), some (vI v2), some (vI v3), some (vI v4), some (vI (v5 - v9)), some (vI v6), some (vI v7), some (vI v8), some (vI v9), none]) dX12_share_65 (by decide) rfl ?_
    refine AW.iinc (pc := 67) (x := v8) (ls2 := [some (vR 50), some (vI v1), some (vI v2), some (vI v3), some (vI v4), some (vI (v5 - v9)), some (vI v6), some (vI v7), some (vI (v8 + 1)), some (vI v9), none]) dX12_share_67 rfl (by decide) rfl ?_
    refine AW.aload_n (pc := 70) (x := 50) dX12_share_70 rfl ?_
    refine AW.iload_n (pc := 71) (x := v1) dX12_share_71 rfl ?_
    refine AW.iload (pc := 72) (x := v6) dX12_share_72 rfl ?_
    refine AW.iload (pc := 74) (x := v7) dX12_share_74 rfl ?_
    refine AW.iload (pc := 76) (x := (v8 + 1)) dX12_share_76 rfl ?_
    refine AW.iload (pc := 78) (x := v4) dX12_share_78 rfl ?_
    refine AW.callV (pc := 80) (As := [vI v1, vI v6, vI v7, vI (v8 + 1), vI v4]) (st := []) dX12_share_80 cl_X12_175 kd_50 hl_50 ⟨Nat.le_of_ble_eq_true rfl, Nat.le_of_ble_eq_true rfl⟩ (Nat.le_of_ble_eq_true rfl) (Nat.le_of_ble_eq_true rfl) h ?_
    rintro _ M80 ⟨r80, rfl, h⟩
    show AW mX12_share 83 [some (vR 50), some (vI v1), some (vI v2), some (vI v3), some (vI v4), some (vI (v5 - v9)), some (vI v6), some (vI v7), some (vI (v8 + 1)), some (vI v9), none] [vI r80] M80 (QV K)
    refine AW.istore (pc := 83) (ls2 := [some (vR 50), some (vI v1), some (vI v2), some (vI v3), some (vI v4), some (vI (v5 - v9)), some (vI v6), some (vI v7), some (vI (v8 + 1)), some (vI r80), none]) dX12_share_83 (by decide) rfl ?_
    refine AW.goto (pc := 85) (tgt := 53) dX12_share_85 (by decide) ?_
    exact h

set_option maxRecDepth 20000 in
theorem en_X12_size {M : Mem} {K : Int → Mem → Prop} {v1 : Int} 
    (h : CI mX12_isNode [vR 50, vI v1] M (fun r2 M2 => InR r2 ∧ (r2 ≠ 0 → (CV mX12_laySizes [vR 50] M2 (fun M12 => (0 ≤ v1 ∧ v1 < 100) ∧ InR (M12 75 v1) ∧ ((M12 75 v1) ≥ 0 → ((0 ≤ v1 ∧ v1 < 100) ∧ K (M12 75 v1) M12)) ∧ (¬ ((M12 75 v1) ≥ 0) → (K (-9) M12))))) ∧ (¬ (r2 ≠ 0) → (K (-3) M2)))) :
    CI mX12_size [vR 50, vI v1] M K := by
  show AW mX12_size 0 [some (vR 50), some (vI v1)] [] M (QI K)
  refine AW.aload_n (pc := 0) (x := 50) dX12_size_0 rfl ?_
  refine AW.iload_n (pc := 1) (x := v1) dX12_size_1 rfl ?_
  refine AW.callV (pc := 2) (As := [vI v1]) (st := []) dX12_size_2 cl_X12_199 kd_50 hl_50 ⟨Nat.le_of_ble_eq_true rfl, Nat.le_of_ble_eq_true rfl⟩ (Nat.le_of_ble_eq_true rfl) (Nat.le_of_ble_eq_true rfl) h ?_
  rintro _ M2 ⟨r2, rfl, h⟩
  show AW mX12_size 5 [some (vR 50), some (vI v1)] [vI r2] M2 (QI K)
  obtain ⟨o, ha, hb⟩ := h
  refine AW.if_ne (pc := 5) (tgt := 11) dX12_size_5 (by decide) o (fun hc => ?_) (fun hc => ?_)
  · have h := ha hc
    refine AW.aload_n (pc := 11) (x := 50) dX12_size_11 rfl ?_
    refine AW.callV (pc := 12) (As := []) (st := []) dX12_size_12 cl_X12_214 kd_50 hl_50 ⟨Nat.le_of_ble_eq_true rfl, Nat.le_of_ble_eq_true rfl⟩ (Nat.le_of_ble_eq_true rfl) (Nat.le_of_ble_eq_true rfl) h ?_
    rintro _ M12 ⟨rfl, h⟩
    show AW mX12_size 15 [some (vR 50), some (vI v1)] [] M12 (QI K)
    refine AW.aload_n (pc := 15) (x := 50) dX12_size_15 rfl ?_
    refine AW.getR (pc := 16) (h2 := 75) dX12_size_16 fg_X12_83 kd_50 hl_50 rfl ?_
    refine AW.iload_n (pc := 19) (x := v1) dX12_size_19 rfl ?_
    obtain ⟨o, h⟩ := h
    refine AW.iald (pc := 20) dX12_size_20 kd_75 hl_75 o ?_
    obtain ⟨o, ha, hb⟩ := h
    refine AW.if_ge (pc := 21) (tgt := 29) dX12_size_21 (by decide) o (fun hc => ?_) (fun hc => ?_)
    · have h := ha hc
      refine AW.aload_n (pc := 29) (x := 50) dX12_size_29 rfl ?_
      refine AW.getR (pc := 30) (h2 := 75) dX12_size_30 fg_X12_83 kd_50 hl_50 rfl ?_
      refine AW.iload_n (pc := 33) (x := v1) dX12_size_33 rfl ?_
      obtain ⟨o, h⟩ := h
      refine AW.iald (pc := 34) dX12_size_34 kd_75 hl_75 o ?_
      exact AW.iret (st := []) (pc := 35) dX12_size_35 rfl ⟨_, rfl, h⟩
    · have h := hb hc
      refine AW.bipush (pc := 24) dX12_size_24 (by decide) ?_
      refine AW.goto (pc := 26) (tgt := 35) dX12_size_26 (by decide) ?_
      exact AW.iret (st := []) (pc := 35) dX12_size_35 rfl ⟨_, rfl, h⟩
  · have h := hb hc
    refine AW.bipush (pc := 8) dX12_size_8 (by decide) ?_
    exact AW.iret (st := []) (pc := 10) dX12_size_10 rfl ⟨_, rfl, h⟩

set_option maxRecDepth 20000 in
theorem en_X12_sizeBy {M : Mem} {K : Int → Mem → Prop} {v1 : Int} 
    (h : AW mX12_sizeBy 4 [some (vR 50), some (vI v1), some (vI 1), some (vI 0), none] [] M (QI K)) :
    CI mX12_sizeBy [vR 50, vI v1] M K := by
  show AW mX12_sizeBy 0 [some (vR 50), some (vI v1), none, none, none] [] M (QI K)
  refine AW.iconst (pc := 0) dX12_sizeBy_0 ?_
  refine AW.istore_n (pc := 1) (ls2 := [some (vR 50), some (vI v1), some (vI 1), none, none]) dX12_sizeBy_1 (by decide) rfl ?_
  refine AW.iconst (pc := 2) dX12_sizeBy_2 ?_
  refine AW.istore_n (pc := 3) (ls2 := [some (vR 50), some (vI v1), some (vI 1), some (vI 0), none]) dX12_sizeBy_3 (by decide) rfl ?_
  exact h

set_option maxRecDepth 20000 in
theorem sg_X12_sizeBy_4 {M : Mem} {K : Int → Mem → Prop} {v1 v2 v3 : Int} 
    (h : (0 ≤ v1 ∧ v1 < 12) ∧ (InR v3 ∧ InR (M 52 v1)) ∧ (v3 ≥ (M 52 v1) → (K v2 M)) ∧ (¬ (v3 ≥ (M 52 v1)) → ((0 ≤ ((3 * v1) + v3) ∧ ((3 * v1) + v3) < 36) ∧ (0 ≤ (M 53 ((3 * v1) + v3)) ∧ (M 53 ((3 * v1) + v3)) < 4) ∧ InR (M 60 (M 53 ((3 * v1) + v3))) ∧ ((M 60 (M 53 ((3 * v1) + v3))) ≥ 0 → (AW mX12_sizeBy 4 [some (vR 50), some (vI v1), some (vI (v2 + (M 60 (M 53 ((3 * v1) + v3))))), some (vI (v3 + 1)), none] [] M (QI K))) ∧ (¬ ((M 60 (M 53 ((3 * v1) + v3))) ≥ 0) → (K (-13) M))))) :
    AW mX12_sizeBy 4 [some (vR 50), some (vI v1), some (vI v2), some (vI v3), none] [] M (QI K) := by
  refine AW.iload_n (pc := 4) (x := v3) dX12_sizeBy_4 rfl ?_
  refine AW.aload_n (pc := 5) (x := 50) dX12_sizeBy_5 rfl ?_
  refine AW.getR (pc := 6) (h2 := 52) dX12_sizeBy_6 fg_X12_13 kd_50 hl_50 rfl ?_
  refine AW.iload_n (pc := 9) (x := v1) dX12_sizeBy_9 rfl ?_
  obtain ⟨o, h⟩ := h
  refine AW.iald (pc := 10) dX12_sizeBy_10 kd_52 hl_52 o ?_
  obtain ⟨o, ha, hb⟩ := h
  refine AW.icmp_ge (pc := 11) (tgt := 50) dX12_sizeBy_11 (by decide) o.1 o.2 (fun hc => ?_) (fun hc => ?_)
  · have h := ha hc
    refine AW.iload_n (pc := 50) (x := v2) dX12_sizeBy_50 rfl ?_
    exact AW.iret (st := []) (pc := 51) dX12_sizeBy_51 rfl ⟨_, rfl, h⟩
  · have h := hb hc
    refine AW.aload_n (pc := 14) (x := 50) dX12_sizeBy_14 rfl ?_
    refine AW.getR (pc := 15) (h2 := 60) dX12_sizeBy_15 fg_X12_37 kd_50 hl_50 rfl ?_
    refine AW.aload_n (pc := 18) (x := 50) dX12_sizeBy_18 rfl ?_
    refine AW.getR (pc := 19) (h2 := 53) dX12_sizeBy_19 fg_X12_16 kd_50 hl_50 rfl ?_
    refine AW.iconst (pc := 22) dX12_sizeBy_22 ?_
    refine AW.iload_n (pc := 23) (x := v1) dX12_sizeBy_23 rfl ?_
    refine AW.imul (pc := 24) dX12_sizeBy_24 ?_
    refine AW.iload_n (pc := 25) (x := v3) dX12_sizeBy_25 rfl ?_
    refine AW.iadd (pc := 26) dX12_sizeBy_26 ?_
    obtain ⟨o, h⟩ := h
    refine AW.iald (pc := 27) dX12_sizeBy_27 kd_53 hl_53 o ?_
    obtain ⟨o, h⟩ := h
    refine AW.iald (pc := 28) dX12_sizeBy_28 kd_60 hl_60 o ?_
    refine AW.istore (pc := 29) (ls2 := [some (vR 50), some (vI v1), some (vI v2), some (vI v3), some (vI (M 60 (M 53 ((3 * v1) + v3))))]) dX12_sizeBy_29 (by decide) rfl ?_
    refine AW.iload (pc := 31) (x := (M 60 (M 53 ((3 * v1) + v3)))) dX12_sizeBy_31 rfl ?_
    obtain ⟨o, ha, hb⟩ := h
    refine AW.if_ge (pc := 33) (tgt := 39) dX12_sizeBy_33 (by decide) o (fun hc => ?_) (fun hc => ?_)
    · have h := ha hc
      refine AW.iload_n (pc := 39) (x := v2) dX12_sizeBy_39 rfl ?_
      refine AW.iload (pc := 40) (x := (M 60 (M 53 ((3 * v1) + v3)))) dX12_sizeBy_40 rfl ?_
      refine AW.iadd (pc := 42) dX12_sizeBy_42 ?_
      refine AW.istore_n (pc := 43) (ls2 := [some (vR 50), some (vI v1), some (vI (v2 + (M 60 (M 53 ((3 * v1) + v3))))), some (vI v3), some (vI (M 60 (M 53 ((3 * v1) + v3))))]) dX12_sizeBy_43 (by decide) rfl ?_
      refine AW.iinc (pc := 44) (x := v3) (ls2 := [some (vR 50), some (vI v1), some (vI (v2 + (M 60 (M 53 ((3 * v1) + v3))))), some (vI (v3 + 1)), some (vI (M 60 (M 53 ((3 * v1) + v3))))]) dX12_sizeBy_44 rfl (by decide) rfl ?_
      refine AW.goto (pc := 47) (tgt := 4) dX12_sizeBy_47 (by decide) ?_
      exact AW.weak (ls2 := [some (vR 50), some (vI v1), some (vI (v2 + (M 60 (M 53 ((3 * v1) + v3))))), some (vI (v3 + 1)), none]) (by simp [lsub]) h
    · have h := hb hc
      refine AW.bipush (pc := 36) dX12_sizeBy_36 (by decide) ?_
      exact AW.iret (st := []) (pc := 38) dX12_sizeBy_38 rfl ⟨_, rfl, h⟩

