set_option maxRecDepth 20000 in
theorem en_X11_equal {M : Mem} {K : Int → Mem → Prop} {v1 v2 : Int} 
    (h : CI mX0_contains [vR 12, vI v1] M (fun r5 M5 => InR r5 ∧ (r5 = 0 → (K (-3) M5)) ∧ (¬ (r5 = 0) → (CI mX0_contains [vR 12, vI v2] M5 (fun r16 M16 => InR r16 ∧ (r16 ≠ 0 → (CI mX5_sameTerm [vR 22, vI v1, vI v2] M16 (fun r31 M31 => InR r31 ∧ (r31 = 0 → (K 0 M31)) ∧ (¬ (r31 = 0) → (K 1 M31))))) ∧ (¬ (r16 ≠ 0) → (K (-3) M16))))))) :
    CI mX11_equal [vR 0, vI v1, vI v2] M K := by
  show AW mX11_equal 0 [some (vR 0), some (vI v1), some (vI v2)] [] M (QI K)
  refine AW.aload_n (pc := 0) (x := 0) dX11_equal_0 rfl ?_
  refine AW.getR (pc := 1) (h2 := 12) dX11_equal_1 fg_X11_35 kd_0 hl_0 rfl ?_
  refine AW.iload_n (pc := 4) (x := v1) dX11_equal_4 rfl ?_
  refine AW.callV (pc := 5) (As := [vI v1]) (st := []) dX11_equal_5 cl_X11_133 kd_12 hl_12 ⟨Nat.le_of_ble_eq_true rfl, Nat.le_of_ble_eq_true rfl⟩ (Nat.le_of_ble_eq_true rfl) (Nat.le_of_ble_eq_true rfl) h ?_
  rintro _ M5 ⟨r5, rfl, h⟩
  show AW mX11_equal 8 [some (vR 0), some (vI v1), some (vI v2)] [vI r5] M5 (QI K)
  obtain ⟨o, ha, hb⟩ := h
  refine AW.if_eq (pc := 8) (tgt := 22) dX11_equal_8 (by decide) o (fun hc => ?_) (fun hc => ?_)
  · have h := ha hc
    refine AW.bipush (pc := 22) dX11_equal_22 (by decide) ?_
    exact AW.iret (st := []) (pc := 24) dX11_equal_24 rfl ⟨_, rfl, h⟩
  · have h := hb hc
    refine AW.aload_n (pc := 11) (x := 0) dX11_equal_11 rfl ?_
    refine AW.getR (pc := 12) (h2 := 12) dX11_equal_12 fg_X11_35 kd_0 hl_0 rfl ?_
    refine AW.iload_n (pc := 15) (x := v2) dX11_equal_15 rfl ?_
    refine AW.callV (pc := 16) (As := [vI v2]) (st := []) dX11_equal_16 cl_X11_133 kd_12 hl_12 ⟨Nat.le_of_ble_eq_true rfl, Nat.le_of_ble_eq_true rfl⟩ (Nat.le_of_ble_eq_true rfl) (Nat.le_of_ble_eq_true rfl) h ?_
    rintro _ M16 ⟨r16, rfl, h⟩
    show AW mX11_equal 19 [some (vR 0), some (vI v1), some (vI v2)] [vI r16] M16 (QI K)
    obtain ⟨o, ha, hb⟩ := h
    refine AW.if_ne (pc := 19) (tgt := 25) dX11_equal_19 (by decide) o (fun hc => ?_) (fun hc => ?_)
    · have h := ha hc
      refine AW.aload_n (pc := 25) (x := 0) dX11_equal_25 rfl ?_
      refine AW.getR (pc := 26) (h2 := 22) dX11_equal_26 fg_X11_53 kd_0 hl_0 rfl ?_
      refine AW.iload_n (pc := 29) (x := v1) dX11_equal_29 rfl ?_
      refine AW.iload_n (pc := 30) (x := v2) dX11_equal_30 rfl ?_
      refine AW.callV (pc := 31) (As := [vI v1, vI v2]) (st := []) dX11_equal_31 cl_X11_168 kd_22 hl_22 ⟨Nat.le_of_ble_eq_true rfl, Nat.le_of_ble_eq_true rfl⟩ (Nat.le_of_ble_eq_true rfl) (Nat.le_of_ble_eq_true rfl) h ?_
      rintro _ M31 ⟨r31, rfl, h⟩
      show AW mX11_equal 34 [some (vR 0), some (vI v1), some (vI v2)] [vI r31] M31 (QI K)
      obtain ⟨o, ha, hb⟩ := h
      refine AW.if_eq (pc := 34) (tgt := 41) dX11_equal_34 (by decide) o (fun hc => ?_) (fun hc => ?_)
      · have h := ha hc
        refine AW.iconst (pc := 41) dX11_equal_41 ?_
        exact AW.iret (st := []) (pc := 42) dX11_equal_42 rfl ⟨_, rfl, h⟩
      · have h := hb hc
        refine AW.iconst (pc := 37) dX11_equal_37 ?_
        refine AW.goto (pc := 38) (tgt := 42) dX11_equal_38 (by decide) ?_
        exact AW.iret (st := []) (pc := 42) dX11_equal_42 rfl ⟨_, rfl, h⟩
    · have h := hb hc
      refine AW.bipush (pc := 22) dX11_equal_22 (by decide) ?_
      exact AW.iret (st := []) (pc := 24) dX11_equal_24 rfl ⟨_, rfl, h⟩

set_option maxRecDepth 20000 in
theorem en_X11_firstIndexUncovered {M : Mem} {K : Int → Mem → Prop} {v1 : Int} 
    (h : CI mX2_subjectType [vR 43] M (fun r8 M8 => CI mX8_countOf [vR 8, vI r8, vI v1] M8 (fun r12 M12 => AW mX11_firstIndexUncovered 18 [some (vR 0), some (vI v1), some (vI r12), some (vI 0)] [] M12 (QI K)))) :
    CI mX11_firstIndexUncovered [vR 0, vI v1] M K := by
  show AW mX11_firstIndexUncovered 0 [some (vR 0), some (vI v1), none, none] [] M (QI K)
  refine AW.aload_n (pc := 0) (x := 0) dX11_firstIndexUncovered_0 rfl ?_
  refine AW.getR (pc := 1) (h2 := 8) dX11_firstIndexUncovered_1 fg_X11_28 kd_0 hl_0 rfl ?_
  refine AW.aload_n (pc := 4) (x := 0) dX11_firstIndexUncovered_4 rfl ?_
  refine AW.getR (pc := 5) (h2 := 43) dX11_firstIndexUncovered_5 fg_X11_76 kd_0 hl_0 rfl ?_
  refine AW.callV (pc := 8) (As := []) (st := [vR 8]) dX11_firstIndexUncovered_8 cl_X11_194 kd_43 hl_43 ⟨Nat.le_of_ble_eq_true rfl, Nat.le_of_ble_eq_true rfl⟩ (Nat.le_of_ble_eq_true rfl) (Nat.le_of_ble_eq_true rfl) h ?_
  rintro _ M8 ⟨r8, rfl, h⟩
  show AW mX11_firstIndexUncovered 11 [some (vR 0), some (vI v1), none, none] [vI r8, vR 8] M8 (QI K)
  refine AW.iload_n (pc := 11) (x := v1) dX11_firstIndexUncovered_11 rfl ?_
  refine AW.callV (pc := 12) (As := [vI r8, vI v1]) (st := []) dX11_firstIndexUncovered_12 cl_X11_119 kd_8 hl_8 ⟨Nat.le_of_ble_eq_true rfl, Nat.le_of_ble_eq_true rfl⟩ (Nat.le_of_ble_eq_true rfl) (Nat.le_of_ble_eq_true rfl) h ?_
  rintro _ M12 ⟨r12, rfl, h⟩
  show AW mX11_firstIndexUncovered 15 [some (vR 0), some (vI v1), none, none] [vI r12] M12 (QI K)
  refine AW.istore_n (pc := 15) (ls2 := [some (vR 0), some (vI v1), some (vI r12), none]) dX11_firstIndexUncovered_15 (by decide) rfl ?_
  refine AW.iconst (pc := 16) dX11_firstIndexUncovered_16 ?_
  refine AW.istore_n (pc := 17) (ls2 := [some (vR 0), some (vI v1), some (vI r12), some (vI 0)]) dX11_firstIndexUncovered_17 (by decide) rfl ?_
  exact h

set_option maxRecDepth 20000 in
theorem sg_X11_firstIndexUncovered_18 {M : Mem} {K : Int → Mem → Prop} {v1 v2 v3 : Int} 
    (h : (InR v3 ∧ InR v2) ∧ (v3 ≥ v2 → (K (-13) M)) ∧ (¬ (v3 ≥ v2) → (CI mX8_keyOf [vI v1, vI v3] M (fun r33 M33 => CI mX2_firstFitting [vR 43, vR 8, vI r33] M33 (fun r36 M36 => InR r36 ∧ (r36 ≠ (-13) → (AW mX11_firstIndexUncovered 18 [some (vR 0), some (vI v1), some (vI v2), some (vI (v3 + 1))] [] M36 (QI K))) ∧ (¬ (r36 ≠ (-13)) → (K v3 M36))))))) :
    AW mX11_firstIndexUncovered 18 [some (vR 0), some (vI v1), some (vI v2), some (vI v3)] [] M (QI K) := by
  refine AW.iload_n (pc := 18) (x := v3) dX11_firstIndexUncovered_18 rfl ?_
  refine AW.iload_n (pc := 19) (x := v2) dX11_firstIndexUncovered_19 rfl ?_
  obtain ⟨o, ha, hb⟩ := h
  refine AW.icmp_ge (pc := 20) (tgt := 52) dX11_firstIndexUncovered_20 (by decide) o.1 o.2 (fun hc => ?_) (fun hc => ?_)
  · have h := ha hc
    refine AW.bipush (pc := 52) dX11_firstIndexUncovered_52 (by decide) ?_
    exact AW.iret (st := []) (pc := 54) dX11_firstIndexUncovered_54 rfl ⟨_, rfl, h⟩
  · have h := hb hc
    refine AW.aload_n (pc := 23) (x := 0) dX11_firstIndexUncovered_23 rfl ?_
    refine AW.getR (pc := 24) (h2 := 43) dX11_firstIndexUncovered_24 fg_X11_76 kd_0 hl_0 rfl ?_
    refine AW.aload_n (pc := 27) (x := 0) dX11_firstIndexUncovered_27 rfl ?_
    refine AW.getR (pc := 28) (h2 := 8) dX11_firstIndexUncovered_28 fg_X11_28 kd_0 hl_0 rfl ?_
    refine AW.iload_n (pc := 31) (x := v1) dX11_firstIndexUncovered_31 rfl ?_
    refine AW.iload_n (pc := 32) (x := v3) dX11_firstIndexUncovered_32 rfl ?_
    refine AW.callS (pc := 33) (As := [vI v1, vI v3]) (st := [vR 8, vR 43]) dX11_firstIndexUncovered_33 cl_X11_213 ⟨Nat.le_of_ble_eq_true rfl, Nat.le_of_ble_eq_true rfl⟩ (Nat.le_of_ble_eq_true rfl) (Nat.le_of_ble_eq_true rfl) h ?_
    rintro _ M33 ⟨r33, rfl, h⟩
    show AW mX11_firstIndexUncovered 36 [some (vR 0), some (vI v1), some (vI v2), some (vI v3)] [vI r33, vR 8, vR 43] M33 (QI K)
    refine AW.callV (pc := 36) (As := [vR 8, vI r33]) (st := []) dX11_firstIndexUncovered_36 cl_X11_203 kd_43 hl_43 ⟨Nat.le_of_ble_eq_true rfl, Nat.le_of_ble_eq_true rfl⟩ (Nat.le_of_ble_eq_true rfl) (Nat.le_of_ble_eq_true rfl) h ?_
    rintro _ M36 ⟨r36, rfl, h⟩
    show AW mX11_firstIndexUncovered 39 [some (vR 0), some (vI v1), some (vI v2), some (vI v3)] [vI r36] M36 (QI K)
    refine AW.bipush (pc := 39) dX11_firstIndexUncovered_39 (by decide) ?_
    obtain ⟨o, ha, hb⟩ := h
    refine AW.icmp_ne (pc := 41) (tgt := 46) dX11_firstIndexUncovered_41 (by decide) o (by decide) (fun hc => ?_) (fun hc => ?_)
    · have h := ha hc
      refine AW.iinc (pc := 46) (x := v3) (ls2 := [some (vR 0), some (vI v1), some (vI v2), some (vI (v3 + 1))]) dX11_firstIndexUncovered_46 rfl (by decide) rfl ?_
      refine AW.goto (pc := 49) (tgt := 18) dX11_firstIndexUncovered_49 (by decide) ?_
      exact h
    · have h := hb hc
      refine AW.iload_n (pc := 44) (x := v3) dX11_firstIndexUncovered_44 rfl ?_
      exact AW.iret (st := []) (pc := 45) dX11_firstIndexUncovered_45 rfl ⟨_, rfl, h⟩

set_option maxRecDepth 20000 in
theorem en_X11_firstMatch {M : Mem} {K : Int → Mem → Prop} {v1 : Int} 
    (h : CI mX0_contains [vR 12, vI v1] M (fun r5 M5 => InR r5 ∧ (r5 ≠ 0 → (InR (M5 43 1) ∧ ((M5 43 1) ≠ 0 → ((0 ≤ v1 ∧ v1 < 100) ∧ CI mX2_subjectType [vR 43] M5 (fun r40 M40 => (InR (M5 13 v1) ∧ InR r40) ∧ ((M5 13 v1) = r40 → (CI mX5_measure [vR 22, vI v1] M40 (fun r54 M54 => InR r54 ∧ (r54 ≠ (-9) → (InR r54 ∧ (r54 ≤ 60 → (CI mX5_canonicalNode [vR 22, vI v1] M54 (fun r89 M89 => CI mX2_firstFitting [vR 43, vR 22, vI r89] M89 (fun r92 M92 => K r92 M92)))) ∧ (¬ (r54 ≤ 60) → (K (-10) M54)))) ∧ (¬ (r54 ≠ (-9)) → (K (-9) M54))))) ∧ (¬ ((M5 13 v1) = r40) → (K (-5) M40))))) ∧ (¬ ((M5 43 1) ≠ 0) → (K (-11) M5)))) ∧ (¬ (r5 ≠ 0) → (K (-3) M5)))) :
    CI mX11_firstMatch [vR 0, vI v1] M K := by
  show AW mX11_firstMatch 0 [some (vR 0), some (vI v1), none] [] M (QI K)
  refine AW.aload_n (pc := 0) (x := 0) dX11_firstMatch_0 rfl ?_
  refine AW.getR (pc := 1) (h2 := 12) dX11_firstMatch_1 fg_X11_35 kd_0 hl_0 rfl ?_
  refine AW.iload_n (pc := 4) (x := v1) dX11_firstMatch_4 rfl ?_
  refine AW.callV (pc := 5) (As := [vI v1]) (st := []) dX11_firstMatch_5 cl_X11_133 kd_12 hl_12 ⟨Nat.le_of_ble_eq_true rfl, Nat.le_of_ble_eq_true rfl⟩ (Nat.le_of_ble_eq_true rfl) (Nat.le_of_ble_eq_true rfl) h ?_
  rintro _ M5 ⟨r5, rfl, h⟩
  show AW mX11_firstMatch 8 [some (vR 0), some (vI v1), none] [vI r5] M5 (QI K)
  obtain ⟨o, ha, hb⟩ := h
  refine AW.if_ne (pc := 8) (tgt := 14) dX11_firstMatch_8 (by decide) o (fun hc => ?_) (fun hc => ?_)
  · have h := ha hc
    refine AW.aload_n (pc := 14) (x := 0) dX11_firstMatch_14 rfl ?_
    refine AW.getR (pc := 15) (h2 := 43) dX11_firstMatch_15 fg_X11_76 kd_0 hl_0 rfl ?_
    refine AW.getI (pc := 18) dX11_firstMatch_18 fg_X11_193 kd_43 hl_43 rfl ?_
    obtain ⟨o, ha, hb⟩ := h
    refine AW.if_ne (pc := 21) (tgt := 27) dX11_firstMatch_21 (by decide) o (fun hc => ?_) (fun hc => ?_)
    · have h := ha hc
      refine AW.aload_n (pc := 27) (x := 0) dX11_firstMatch_27 rfl ?_
      refine AW.getR (pc := 28) (h2 := 12) dX11_firstMatch_28 fg_X11_35 kd_0 hl_0 rfl ?_
      refine AW.getR (pc := 31) (h2 := 13) dX11_firstMatch_31 fg_X11_136 kd_12 hl_12 rfl ?_
      refine AW.iload_n (pc := 34) (x := v1) dX11_firstMatch_34 rfl ?_
      obtain ⟨o, h⟩ := h
      refine AW.iald (pc := 35) dX11_firstMatch_35 kd_13 hl_13 o ?_
      refine AW.aload_n (pc := 36) (x := 0) dX11_firstMatch_36 rfl ?_
      refine AW.getR (pc := 37) (h2 := 43) dX11_firstMatch_37 fg_X11_76 kd_0 hl_0 rfl ?_
      refine AW.callV (pc := 40) (As := []) (st := [vI (M5 13 v1)]) dX11_firstMatch_40 cl_X11_194 kd_43 hl_43 ⟨Nat.le_of_ble_eq_true rfl, Nat.le_of_ble_eq_true rfl⟩ (Nat.le_of_ble_eq_true rfl) (Nat.le_of_ble_eq_true rfl) h ?_
      rintro _ M40 ⟨r40, rfl, h⟩
      show AW mX11_firstMatch 43 [some (vR 0), some (vI v1), none] [vI r40, vI (M5 13 v1)] M40 (QI K)
      obtain ⟨o, ha, hb⟩ := h
      refine AW.icmp_eq (pc := 43) (tgt := 49) dX11_firstMatch_43 (by decide) o.1 o.2 (fun hc => ?_) (fun hc => ?_)
      · have h := ha hc
        refine AW.aload_n (pc := 49) (x := 0) dX11_firstMatch_49 rfl ?_
        refine AW.getR (pc := 50) (h2 := 22) dX11_firstMatch_50 fg_X11_53 kd_0 hl_0 rfl ?_
        refine AW.iload_n (pc := 53) (x := v1) dX11_firstMatch_53 rfl ?_
        refine AW.callV (pc := 54) (As := [vI v1]) (st := []) dX11_firstMatch_54 cl_X11_161 kd_22 hl_22 ⟨Nat.le_of_ble_eq_true rfl, Nat.le_of_ble_eq_true rfl⟩ (Nat.le_of_ble_eq_true rfl) (Nat.le_of_ble_eq_true rfl) h ?_
        rintro _ M54 ⟨r54, rfl, h⟩
        show AW mX11_firstMatch 57 [some (vR 0), some (vI v1), none] [vI r54] M54 (QI K)
        refine AW.istore_n (pc := 57) (ls2 := [some (vR 0), some (vI v1), some (vI r54)]) dX11_firstMatch_57 (by decide) rfl ?_
        refine AW.iload_n (pc := 58) (x := r54) dX11_firstMatch_58 rfl ?_
        refine AW.bipush (pc := 59) dX11_firstMatch_59 (by decide) ?_
        obtain ⟨o, ha, hb⟩ := h
        refine AW.icmp_ne (pc := 61) (tgt := 67) dX11_firstMatch_61 (by decide) o (by decide) (fun hc => ?_) (fun hc => ?_)
        · have h := ha hc
          refine AW.iload_n (pc := 67) (x := r54) dX11_firstMatch_67 rfl ?_
          refine AW.bipush (pc := 68) dX11_firstMatch_68 (by decide) ?_
          obtain ⟨o, ha, hb⟩ := h
          refine AW.icmp_le (pc := 70) (tgt := 76) dX11_firstMatch_70 (by decide) o (by decide) (fun hc => ?_) (fun hc => ?_)
          · have h := ha hc
            refine AW.aload_n (pc := 76) (x := 0) dX11_firstMatch_76 rfl ?_
            refine AW.getR (pc := 77) (h2 := 43) dX11_firstMatch_77 fg_X11_76 kd_0 hl_0 rfl ?_
            refine AW.aload_n (pc := 80) (x := 0) dX11_firstMatch_80 rfl ?_
            refine AW.getR (pc := 81) (h2 := 22) dX11_firstMatch_81 fg_X11_53 kd_0 hl_0 rfl ?_
            refine AW.aload_n (pc := 84) (x := 0) dX11_firstMatch_84 rfl ?_
            refine AW.getR (pc := 85) (h2 := 22) dX11_firstMatch_85 fg_X11_53 kd_0 hl_0 rfl ?_
            refine AW.iload_n (pc := 88) (x := v1) dX11_firstMatch_88 rfl ?_
            refine AW.callV (pc := 89) (As := [vI v1]) (st := [vR 22, vR 43]) dX11_firstMatch_89 cl_X11_200 kd_22 hl_22 ⟨Nat.le_of_ble_eq_true rfl, Nat.le_of_ble_eq_true rfl⟩ (Nat.le_of_ble_eq_true rfl) (Nat.le_of_ble_eq_true rfl) h ?_
            rintro _ M89 ⟨r89, rfl, h⟩
            show AW mX11_firstMatch 92 [some (vR 0), some (vI v1), some (vI r54)] [vI r89, vR 22, vR 43] M89 (QI K)
            refine AW.callV (pc := 92) (As := [vR 22, vI r89]) (st := []) dX11_firstMatch_92 cl_X11_203 kd_43 hl_43 ⟨Nat.le_of_ble_eq_true rfl, Nat.le_of_ble_eq_true rfl⟩ (Nat.le_of_ble_eq_true rfl) (Nat.le_of_ble_eq_true rfl) h ?_
            rintro _ M92 ⟨r92, rfl, h⟩
            show AW mX11_firstMatch 95 [some (vR 0), some (vI v1), some (vI r54)] [vI r92] M92 (QI K)
            exact AW.iret (st := []) (pc := 95) dX11_firstMatch_95 rfl ⟨_, rfl, h⟩
          · have h := hb hc
            refine AW.bipush (pc := 73) dX11_firstMatch_73 (by decide) ?_
            exact AW.iret (st := []) (pc := 75) dX11_firstMatch_75 rfl ⟨_, rfl, h⟩
        · have h := hb hc
          refine AW.bipush (pc := 64) dX11_firstMatch_64 (by decide) ?_
          exact AW.iret (st := []) (pc := 66) dX11_firstMatch_66 rfl ⟨_, rfl, h⟩
      · have h := hb hc
        refine AW.bipush (pc := 46) dX11_firstMatch_46 (by decide) ?_
        exact AW.iret (st := []) (pc := 48) dX11_firstMatch_48 rfl ⟨_, rfl, h⟩
    · have h := hb hc
      refine AW.bipush (pc := 24) dX11_firstMatch_24 (by decide) ?_
      exact AW.iret (st := []) (pc := 26) dX11_firstMatch_26 rfl ⟨_, rfl, h⟩
  · have h := hb hc
    refine AW.bipush (pc := 11) dX11_firstMatch_11 (by decide) ?_
    exact AW.iret (st := []) (pc := 13) dX11_firstMatch_13 rfl ⟨_, rfl, h⟩

set_option maxRecDepth 20000 in
theorem en_X11_firstUncovered {M : Mem} {K : Int → Mem → Prop} {v1 : Int} 
    (h : InR (M 43 1) ∧ ((M 43 1) ≠ 0 → (InR v1 ∧ (v1 < 1 → (K (-4) M)) ∧ (¬ (v1 < 1) → (InR v1 ∧ (v1 ≤ 8 → (AW mX11_firstUncovered 29 [some (vR 0), some (vI v1), some (vI 1), none] [] M (QI K))) ∧ (¬ (v1 ≤ 8) → (K (-4) M)))))) ∧ (¬ ((M 43 1) ≠ 0) → (K (-11) M))) :
    CI mX11_firstUncovered [vR 0, vI v1] M K := by
  show AW mX11_firstUncovered 0 [some (vR 0), some (vI v1), none, none] [] M (QI K)
  refine AW.aload_n (pc := 0) (x := 0) dX11_firstUncovered_0 rfl ?_
  refine AW.getR (pc := 1) (h2 := 43) dX11_firstUncovered_1 fg_X11_76 kd_0 hl_0 rfl ?_
  refine AW.getI (pc := 4) dX11_firstUncovered_4 fg_X11_193 kd_43 hl_43 rfl ?_
  obtain ⟨o, ha, hb⟩ := h
  refine AW.if_ne (pc := 7) (tgt := 13) dX11_firstUncovered_7 (by decide) o (fun hc => ?_) (fun hc => ?_)
  · have h := ha hc
    refine AW.iload_n (pc := 13) (x := v1) dX11_firstUncovered_13 rfl ?_
    refine AW.iconst (pc := 14) dX11_firstUncovered_14 ?_
    obtain ⟨o, ha, hb⟩ := h
    refine AW.icmp_lt (pc := 15) (tgt := 24) dX11_firstUncovered_15 (by decide) o (by decide) (fun hc => ?_) (fun hc => ?_)
    · have h := ha hc
      refine AW.bipush (pc := 24) dX11_firstUncovered_24 (by decide) ?_
      exact AW.iret (st := []) (pc := 26) dX11_firstUncovered_26 rfl ⟨_, rfl, h⟩
    · have h := hb hc
      refine AW.iload_n (pc := 18) (x := v1) dX11_firstUncovered_18 rfl ?_
      refine AW.bipush (pc := 19) dX11_firstUncovered_19 (by decide) ?_
      obtain ⟨o, ha, hb⟩ := h
      refine AW.icmp_le (pc := 21) (tgt := 27) dX11_firstUncovered_21 (by decide) o (by decide) (fun hc => ?_) (fun hc => ?_)
      · have h := ha hc
        refine AW.iconst (pc := 27) dX11_firstUncovered_27 ?_
        refine AW.istore_n (pc := 28) (ls2 := [some (vR 0), some (vI v1), some (vI 1), none]) dX11_firstUncovered_28 (by decide) rfl ?_
        exact h
      · have h := hb hc
        refine AW.bipush (pc := 24) dX11_firstUncovered_24 (by decide) ?_
        exact AW.iret (st := []) (pc := 26) dX11_firstUncovered_26 rfl ⟨_, rfl, h⟩
  · have h := hb hc
    refine AW.bipush (pc := 10) dX11_firstUncovered_10 (by decide) ?_
    exact AW.iret (st := []) (pc := 12) dX11_firstUncovered_12 rfl ⟨_, rfl, h⟩

set_option maxRecDepth 20000 in
theorem sg_X11_firstUncovered_29 {M : Mem} {K : Int → Mem → Prop} {v1 v2 : Int} 
    (h : (InR v2 ∧ InR v1) ∧ (v2 > v1 → (AW mX11_firstUncovered 66 [some (vR 0), some (vI v1), some (vI 1), none] [] M (QI K))) ∧ (¬ (v2 > v1) → (CI mX2_subjectType [vR 43] M (fun r42 M42 => CI mX8_countOf [vR 8, vI r42, vI v2] M42 (fun r46 M46 => InR r46 ∧ (r46 ≤ 2000 → (AW mX11_firstUncovered 29 [some (vR 0), some (vI v1), some (vI (v2 + 1)), none] [] M46 (QI K))) ∧ (¬ (r46 ≤ 2000) → (K (-10) M46))))))) :
    AW mX11_firstUncovered 29 [some (vR 0), some (vI v1), some (vI v2), none] [] M (QI K) := by
  refine AW.iload_n (pc := 29) (x := v2) dX11_firstUncovered_29 rfl ?_
  refine AW.iload_n (pc := 30) (x := v1) dX11_firstUncovered_30 rfl ?_
  obtain ⟨o, ha, hb⟩ := h
  refine AW.icmp_gt (pc := 31) (tgt := 64) dX11_firstUncovered_31 (by decide) o.1 o.2 (fun hc => ?_) (fun hc => ?_)
  · have h := ha hc
    refine AW.iconst (pc := 64) dX11_firstUncovered_64 ?_
    refine AW.istore_n (pc := 65) (ls2 := [some (vR 0), some (vI v1), some (vI 1), none]) dX11_firstUncovered_65 (by decide) rfl ?_
    exact h
  · have h := hb hc
    refine AW.aload_n (pc := 34) (x := 0) dX11_firstUncovered_34 rfl ?_
    refine AW.getR (pc := 35) (h2 := 8) dX11_firstUncovered_35 fg_X11_28 kd_0 hl_0 rfl ?_
    refine AW.aload_n (pc := 38) (x := 0) dX11_firstUncovered_38 rfl ?_
    refine AW.getR (pc := 39) (h2 := 43) dX11_firstUncovered_39 fg_X11_76 kd_0 hl_0 rfl ?_
    refine AW.callV (pc := 42) (As := []) (st := [vR 8]) dX11_firstUncovered_42 cl_X11_194 kd_43 hl_43 ⟨Nat.le_of_ble_eq_true rfl, Nat.le_of_ble_eq_true rfl⟩ (Nat.le_of_ble_eq_true rfl) (Nat.le_of_ble_eq_true rfl) h ?_
    rintro _ M42 ⟨r42, rfl, h⟩
    show AW mX11_firstUncovered 45 [some (vR 0), some (vI v1), some (vI v2), none] [vI r42, vR 8] M42 (QI K)
    refine AW.iload_n (pc := 45) (x := v2) dX11_firstUncovered_45 rfl ?_
    refine AW.callV (pc := 46) (As := [vI r42, vI v2]) (st := []) dX11_firstUncovered_46 cl_X11_119 kd_8 hl_8 ⟨Nat.le_of_ble_eq_true rfl, Nat.le_of_ble_eq_true rfl⟩ (Nat.le_of_ble_eq_true rfl) (Nat.le_of_ble_eq_true rfl) h ?_
    rintro _ M46 ⟨r46, rfl, h⟩
    show AW mX11_firstUncovered 49 [some (vR 0), some (vI v1), some (vI v2), none] [vI r46] M46 (QI K)
    refine AW.sipush (pc := 49) dX11_firstUncovered_49 (by decide) ?_
    obtain ⟨o, ha, hb⟩ := h
    refine AW.icmp_le (pc := 52) (tgt := 58) dX11_firstUncovered_52 (by decide) o (by decide) (fun hc => ?_) (fun hc => ?_)
    · have h := ha hc
      refine AW.iinc (pc := 58) (x := v2) (ls2 := [some (vR 0), some (vI v1), some (vI (v2 + 1)), none]) dX11_firstUncovered_58 rfl (by decide) rfl ?_
      refine AW.goto (pc := 61) (tgt := 29) dX11_firstUncovered_61 (by decide) ?_
      exact h
    · have h := hb hc
      refine AW.bipush (pc := 55) dX11_firstUncovered_55 (by decide) ?_
      exact AW.iret (st := []) (pc := 57) dX11_firstUncovered_57 rfl ⟨_, rfl, h⟩

set_option maxRecDepth 20000 in
theorem sg_X11_firstUncovered_66 {M : Mem} {K : Int → Mem → Prop} {v1 v2 : Int} 
    (h : (InR v2 ∧ InR v1) ∧ (v2 > v1 → (K (-13) M)) ∧ (¬ (v2 > v1) → (CI mX11_firstIndexUncovered [vR 0, vI v2] M (fun r73 M73 => InR r73 ∧ (r73 = (-13) → (AW mX11_firstUncovered 66 [some (vR 0), some (vI v1), some (vI (v2 + 1)), none] [] M73 (QI K))) ∧ (¬ (r73 = (-13)) → (K ((10000 * v2) + r73) M73)))))) :
    AW mX11_firstUncovered 66 [some (vR 0), some (vI v1), some (vI v2), none] [] M (QI K) := by
  refine AW.iload_n (pc := 66) (x := v2) dX11_firstUncovered_66 rfl ?_
  refine AW.iload_n (pc := 67) (x := v1) dX11_firstUncovered_67 rfl ?_
  obtain ⟨o, ha, hb⟩ := h
  refine AW.icmp_gt (pc := 68) (tgt := 97) dX11_firstUncovered_68 (by decide) o.1 o.2 (fun hc => ?_) (fun hc => ?_)
  · have h := ha hc
    refine AW.bipush (pc := 97) dX11_firstUncovered_97 (by decide) ?_
    exact AW.iret (st := []) (pc := 99) dX11_firstUncovered_99 rfl ⟨_, rfl, h⟩
  · have h := hb hc
    refine AW.aload_n (pc := 71) (x := 0) dX11_firstUncovered_71 rfl ?_
    refine AW.iload_n (pc := 72) (x := v2) dX11_firstUncovered_72 rfl ?_
    refine AW.callV (pc := 73) (As := [vI v2]) (st := []) dX11_firstUncovered_73 cl_X11_210 kd_0 hl_0 ⟨Nat.le_of_ble_eq_true rfl, Nat.le_of_ble_eq_true rfl⟩ (Nat.le_of_ble_eq_true rfl) (Nat.le_of_ble_eq_true rfl) h ?_
    rintro _ M73 ⟨r73, rfl, h⟩
    show AW mX11_firstUncovered 76 [some (vR 0), some (vI v1), some (vI v2), none] [vI r73] M73 (QI K)
    refine AW.istore_n (pc := 76) (ls2 := [some (vR 0), some (vI v1), some (vI v2), some (vI r73)]) dX11_firstUncovered_76 (by decide) rfl ?_
    refine AW.iload_n (pc := 77) (x := r73) dX11_firstUncovered_77 rfl ?_
    refine AW.bipush (pc := 78) dX11_firstUncovered_78 (by decide) ?_
    obtain ⟨o, ha, hb⟩ := h
    refine AW.icmp_eq (pc := 80) (tgt := 91) dX11_firstUncovered_80 (by decide) o (by decide) (fun hc => ?_) (fun hc => ?_)
    · have h := ha hc
      refine AW.iinc (pc := 91) (x := v2) (ls2 := [some (vR 0), some (vI v1), some (vI (v2 + 1)), some (vI r73)]) dX11_firstUncovered_91 rfl (by decide) rfl ?_
      refine AW.goto (pc := 94) (tgt := 66) dX11_firstUncovered_94 (by decide) ?_
      exact AW.weak (ls2 := [some (vR 0), some (vI v1), some (vI (v2 + 1)), none]) (by simp [lsub]) h
    · have h := hb hc
      refine AW.sipush (pc := 83) dX11_firstUncovered_83 (by decide) ?_
      refine AW.iload_n (pc := 86) (x := v2) dX11_firstUncovered_86 rfl ?_
      refine AW.imul (pc := 87) dX11_firstUncovered_87 ?_
      refine AW.iload_n (pc := 88) (x := r73) dX11_firstUncovered_88 rfl ?_
      refine AW.iadd (pc := 89) dX11_firstUncovered_89 ?_
      exact AW.iret (st := []) (pc := 90) dX11_firstUncovered_90 rfl ⟨_, rfl, h⟩

set_option maxRecDepth 20000 in
theorem en_X11_head {M : Mem} {K : Int → Mem → Prop} {v1 : Int} 
    (h : CI mX0_contains [vR 12, vI v1] M (fun r5 M5 => InR r5 ∧ (r5 ≠ 0 → (CI mX0_resolve [vR 12, vI v1] M5 (fun r19 M19 => CI mX0_isVariable [vR 12, vI r19] M19 (fun r28 M28 => InR r28 ∧ (r28 = 0 → ((0 ≤ r19 ∧ r19 < 100) ∧ K (M28 14 r19) M28)) ∧ (¬ (r28 = 0) → (K (-13) M28)))))) ∧ (¬ (r5 ≠ 0) → (K (-3) M5)))) :
    CI mX11_head [vR 0, vI v1] M K := by
  show AW mX11_head 0 [some (vR 0), some (vI v1), none] [] M (QI K)
  refine AW.aload_n (pc := 0) (x := 0) dX11_head_0 rfl ?_
  refine AW.getR (pc := 1) (h2 := 12) dX11_head_1 fg_X11_35 kd_0 hl_0 rfl ?_
  refine AW.iload_n (pc := 4) (x := v1) dX11_head_4 rfl ?_
  refine AW.callV (pc := 5) (As := [vI v1]) (st := []) dX11_head_5 cl_X11_133 kd_12 hl_12 ⟨Nat.le_of_ble_eq_true rfl, Nat.le_of_ble_eq_true rfl⟩ (Nat.le_of_ble_eq_true rfl) (Nat.le_of_ble_eq_true rfl) h ?_
  rintro _ M5 ⟨r5, rfl, h⟩
  show AW mX11_head 8 [some (vR 0), some (vI v1), none] [vI r5] M5 (QI K)
  obtain ⟨o, ha, hb⟩ := h
  refine AW.if_ne (pc := 8) (tgt := 14) dX11_head_8 (by decide) o (fun hc => ?_) (fun hc => ?_)
  · have h := ha hc
    refine AW.aload_n (pc := 14) (x := 0) dX11_head_14 rfl ?_
    refine AW.getR (pc := 15) (h2 := 12) dX11_head_15 fg_X11_35 kd_0 hl_0 rfl ?_
    refine AW.iload_n (pc := 18) (x := v1) dX11_head_18 rfl ?_
    refine AW.callV (pc := 19) (As := [vI v1]) (st := []) dX11_head_19 cl_X11_143 kd_12 hl_12 ⟨Nat.le_of_ble_eq_true rfl, Nat.le_of_ble_eq_true rfl⟩ (Nat.le_of_ble_eq_true rfl) (Nat.le_of_ble_eq_true rfl) h ?_
    rintro _ M19 ⟨r19, rfl, h⟩
    show AW mX11_head 22 [some (vR 0), some (vI v1), none] [vI r19] M19 (QI K)
    refine AW.istore_n (pc := 22) (ls2 := [some (vR 0), some (vI v1), some (vI r19)]) dX11_head_22 (by decide) rfl ?_
    refine AW.aload_n (pc := 23) (x := 0) dX11_head_23 rfl ?_
    refine AW.getR (pc := 24) (h2 := 12) dX11_head_24 fg_X11_35 kd_0 hl_0 rfl ?_
    refine AW.iload_n (pc := 27) (x := r19) dX11_head_27 rfl ?_
    refine AW.callV (pc := 28) (As := [vI r19]) (st := []) dX11_head_28 cl_X11_146 kd_12 hl_12 ⟨Nat.le_of_ble_eq_true rfl, Nat.le_of_ble_eq_true rfl⟩ (Nat.le_of_ble_eq_true rfl) (Nat.le_of_ble_eq_true rfl) h ?_
    rintro _ M28 ⟨r28, rfl, h⟩
    show AW mX11_head 31 [some (vR 0), some (vI v1), some (vI r19)] [vI r28] M28 (QI K)
    obtain ⟨o, ha, hb⟩ := h
    refine AW.if_eq (pc := 31) (tgt := 39) dX11_head_31 (by decide) o (fun hc => ?_) (fun hc => ?_)
    · have h := ha hc
      refine AW.aload_n (pc := 39) (x := 0) dX11_head_39 rfl ?_
      refine AW.getR (pc := 40) (h2 := 12) dX11_head_40 fg_X11_35 kd_0 hl_0 rfl ?_
      refine AW.getR (pc := 43) (h2 := 14) dX11_head_43 fg_X11_149 kd_12 hl_12 rfl ?_
      refine AW.iload_n (pc := 46) (x := r19) dX11_head_46 rfl ?_
      obtain ⟨o, h⟩ := h
      refine AW.iald (pc := 47) dX11_head_47 kd_14 hl_14 o ?_
      exact AW.iret (st := []) (pc := 48) dX11_head_48 rfl ⟨_, rfl, h⟩
    · have h := hb hc
      refine AW.bipush (pc := 34) dX11_head_34 (by decide) ?_
      refine AW.goto (pc := 36) (tgt := 48) dX11_head_36 (by decide) ?_
      exact AW.iret (st := []) (pc := 48) dX11_head_48 rfl ⟨_, rfl, h⟩
  · have h := hb hc
    refine AW.bipush (pc := 11) dX11_head_11 (by decide) ?_
    exact AW.iret (st := []) (pc := 13) dX11_head_13 rfl ⟨_, rfl, h⟩

set_option maxRecDepth 20000 in
theorem en_X11_limitedProduct {M : Mem} {K : Int → Mem → Prop} {v0 v1 : Int} 
    (h : InR v0 ∧ InR v1 ∧ InR8 (v0 * v1) ∧ ((v0 * v1) ≥ 1000000 → (K 1000000 M)) ∧ (¬ ((v0 * v1) ≥ 1000000) → (K (v0 * v1) M))) :
    CI mX11_limitedProduct [vI v0, vI v1] M K := by
  show AW mX11_limitedProduct 0 [some (vI v0), some (vI v1), none, none] [] M (QI K)
  refine AW.iload_n (pc := 0) (x := v0) dX11_limitedProduct_0 rfl ?_
  obtain ⟨o, h⟩ := h
  refine AW.i2l (pc := 1) dX11_limitedProduct_1 o ?_
  refine AW.iload_n (pc := 2) (x := v1) dX11_limitedProduct_2 rfl ?_
  obtain ⟨o, h⟩ := h
  refine AW.i2l (pc := 3) dX11_limitedProduct_3 o ?_
  refine AW.lmul (pc := 4) dX11_limitedProduct_4 ?_
  refine AW.lstore_n (pc := 5) (ls2 := [some (vI v0), some (vI v1), some (vL (v0 * v1)), none]) dX11_limitedProduct_5 (by decide) rfl ?_
  refine AW.lload_n (pc := 6) (x := (v0 * v1)) dX11_limitedProduct_6 rfl ?_
  refine AW.ldc2 (pc := 7) (n := 1000000) dX11_limitedProduct_7 k_X11_216 ?_
  obtain ⟨o, h⟩ := h
  refine AW.lcmp (pc := 10) dX11_limitedProduct_10 o (by decide) ?_
  obtain ⟨ha, hb⟩ := h
  refine AW.if_ge (pc := 11) (tgt := 19) dX11_limitedProduct_11 (by decide) lcm_in (fun hc => ?_) (fun hc => ?_)
  · have hc := lcm_ge.mp hc
    have h := ha hc
    refine AW.ldc (pc := 19) (n := 1000000) dX11_limitedProduct_19 k_X11_167 ?_
    exact AW.iret (st := []) (pc := 21) dX11_limitedProduct_21 rfl ⟨_, rfl, h⟩
  · have hc := fun q => hc (lcm_ge.mpr q)
    have h := hb hc
    refine AW.lload_n (pc := 14) (x := (v0 * v1)) dX11_limitedProduct_14 rfl ?_
    refine AW.l2i (pc := 15) dX11_limitedProduct_15 ?_
    refine AW.goto (pc := 16) (tgt := 21) dX11_limitedProduct_16 (by decide) ?_
    exact AW.iret (st := []) (pc := 21) dX11_limitedProduct_21 rfl ⟨_, rfl, h⟩

set_option maxRecDepth 20000 in
theorem en_X11_limitedSum {M : Mem} {K : Int → Mem → Prop} {v0 v1 : Int} 
    (h : InR (v0 + v1) ∧ ((v0 + v1) ≥ 1000000 → (K 1000000 M)) ∧ (¬ ((v0 + v1) ≥ 1000000) → (K (v0 + v1) M))) :
    CI mX11_limitedSum [vI v0, vI v1] M K := by
  show AW mX11_limitedSum 0 [some (vI v0), some (vI v1), none] [] M (QI K)
  refine AW.iload_n (pc := 0) (x := v0) dX11_limitedSum_0 rfl ?_
  refine AW.iload_n (pc := 1) (x := v1) dX11_limitedSum_1 rfl ?_
  refine AW.iadd (pc := 2) dX11_limitedSum_2 ?_
  refine AW.istore_n (pc := 3) (ls2 := [some (vI v0), some (vI v1), some (vI (v0 + v1))]) dX11_limitedSum_3 (by decide) rfl ?_
  refine AW.iload_n (pc := 4) (x := (v0 + v1)) dX11_limitedSum_4 rfl ?_
  refine AW.ldc (pc := 5) (n := 1000000) dX11_limitedSum_5 k_X11_167 ?_
  obtain ⟨o, ha, hb⟩ := h
  refine AW.icmp_ge (pc := 7) (tgt := 14) dX11_limitedSum_7 (by decide) o (by decide) (fun hc => ?_) (fun hc => ?_)
  · have h := ha hc
    refine AW.ldc (pc := 14) (n := 1000000) dX11_limitedSum_14 k_X11_167 ?_
    exact AW.iret (st := []) (pc := 16) dX11_limitedSum_16 rfl ⟨_, rfl, h⟩
  · have h := hb hc
    refine AW.iload_n (pc := 10) (x := (v0 + v1)) dX11_limitedSum_10 rfl ?_
    refine AW.goto (pc := 11) (tgt := 16) dX11_limitedSum_11 (by decide) ?_
    exact AW.iret (st := []) (pc := 16) dX11_limitedSum_16 rfl ⟨_, rfl, h⟩

set_option maxRecDepth 20000 in
theorem en_X11_nodeCount {M : Mem} {K : Int → Mem → Prop} 
    (h : K (M 12 1) M) :
    CI mX11_nodeCount [vR 0] M K := by
  show AW mX11_nodeCount 0 [some (vR 0)] [] M (QI K)
  refine AW.aload_n (pc := 0) (x := 0) dX11_nodeCount_0 rfl ?_
  refine AW.getR (pc := 1) (h2 := 12) dX11_nodeCount_1 fg_X11_35 kd_0 hl_0 rfl ?_
  refine AW.getI (pc := 4) dX11_nodeCount_4 fg_X11_122 kd_12 hl_12 rfl ?_
  exact AW.iret (st := []) (pc := 7) dX11_nodeCount_7 rfl ⟨_, rfl, h⟩

set_option maxRecDepth 20000 in
theorem en_X11_nodeType {M : Mem} {K : Int → Mem → Prop} {v1 : Int} 
    (h : CI mX0_contains [vR 12, vI v1] M (fun r5 M5 => InR r5 ∧ (r5 ≠ 0 → ((0 ≤ v1 ∧ v1 < 100) ∧ K (M5 13 v1) M5)) ∧ (¬ (r5 ≠ 0) → (K (-3) M5)))) :
    CI mX11_nodeType [vR 0, vI v1] M K := by
  show AW mX11_nodeType 0 [some (vR 0), some (vI v1)] [] M (QI K)
  refine AW.aload_n (pc := 0) (x := 0) dX11_nodeType_0 rfl ?_
  refine AW.getR (pc := 1) (h2 := 12) dX11_nodeType_1 fg_X11_35 kd_0 hl_0 rfl ?_
  refine AW.iload_n (pc := 4) (x := v1) dX11_nodeType_4 rfl ?_
  refine AW.callV (pc := 5) (As := [vI v1]) (st := []) dX11_nodeType_5 cl_X11_133 kd_12 hl_12 ⟨Nat.le_of_ble_eq_true rfl, Nat.le_of_ble_eq_true rfl⟩ (Nat.le_of_ble_eq_true rfl) (Nat.le_of_ble_eq_true rfl) h ?_
  rintro _ M5 ⟨r5, rfl, h⟩
  show AW mX11_nodeType 8 [some (vR 0), some (vI v1)] [vI r5] M5 (QI K)
  obtain ⟨o, ha, hb⟩ := h
  refine AW.if_ne (pc := 8) (tgt := 14) dX11_nodeType_8 (by decide) o (fun hc => ?_) (fun hc => ?_)
  · have h := ha hc
    refine AW.aload_n (pc := 14) (x := 0) dX11_nodeType_14 rfl ?_
    refine AW.getR (pc := 15) (h2 := 12) dX11_nodeType_15 fg_X11_35 kd_0 hl_0 rfl ?_
    refine AW.getR (pc := 18) (h2 := 13) dX11_nodeType_18 fg_X11_136 kd_12 hl_12 rfl ?_
    refine AW.iload_n (pc := 21) (x := v1) dX11_nodeType_21 rfl ?_
    obtain ⟨o, h⟩ := h
    refine AW.iald (pc := 22) dX11_nodeType_22 kd_13 hl_13 o ?_
    exact AW.iret (st := []) (pc := 23) dX11_nodeType_23 rfl ⟨_, rfl, h⟩
  · have h := hb hc
    refine AW.bipush (pc := 11) dX11_nodeType_11 (by decide) ?_
    exact AW.iret (st := []) (pc := 13) dX11_nodeType_13 rfl ⟨_, rfl, h⟩

set_option maxRecDepth 20000 in
theorem en_X11_pop {M : Mem} {K : Int → Mem → Prop} 
    (h : InR (M 41 0) ∧ ((M 41 0) > 0 → (CV mX3_restore [vR 41, vR 16] M (fun M24 => K (M24 41 0) M24))) ∧ (¬ ((M 41 0) > 0) → (K (-12) M))) :
    CI mX11_pop [vR 0] M K := by
  show AW mX11_pop 0 [some (vR 0)] [] M (QI K)
  refine AW.aload_n (pc := 0) (x := 0) dX11_pop_0 rfl ?_
  refine AW.getR (pc := 1) (h2 := 41) dX11_pop_1 fg_X11_69 kd_0 hl_0 rfl ?_
  refine AW.getI (pc := 4) dX11_pop_4 fg_X11_185 kd_41 hl_41 rfl ?_
  obtain ⟨o, ha, hb⟩ := h
  refine AW.if_gt (pc := 7) (tgt := 13) dX11_pop_7 (by decide) o (fun hc => ?_) (fun hc => ?_)
  · have h := ha hc
    refine AW.aload_n (pc := 13) (x := 0) dX11_pop_13 rfl ?_
    refine AW.getR (pc := 14) (h2 := 41) dX11_pop_14 fg_X11_69 kd_0 hl_0 rfl ?_
    refine AW.aload_n (pc := 17) (x := 0) dX11_pop_17 rfl ?_
    refine AW.getR (pc := 18) (h2 := 12) dX11_pop_18 fg_X11_35 kd_0 hl_0 rfl ?_
    refine AW.getR (pc := 21) (h2 := 16) dX11_pop_21 fg_X11_158 kd_12 hl_12 rfl ?_
    refine AW.callV (pc := 24) (As := [vR 16]) (st := []) dX11_pop_24 cl_X11_190 kd_41 hl_41 ⟨Nat.le_of_ble_eq_true rfl, Nat.le_of_ble_eq_true rfl⟩ (Nat.le_of_ble_eq_true rfl) (Nat.le_of_ble_eq_true rfl) h ?_
    rintro _ M24 ⟨rfl, h⟩
    show AW mX11_pop 27 [some (vR 0)] [] M24 (QI K)
    refine AW.aload_n (pc := 27) (x := 0) dX11_pop_27 rfl ?_
    refine AW.getR (pc := 28) (h2 := 41) dX11_pop_28 fg_X11_69 kd_0 hl_0 rfl ?_
    refine AW.getI (pc := 31) dX11_pop_31 fg_X11_185 kd_41 hl_41 rfl ?_
    exact AW.iret (st := []) (pc := 34) dX11_pop_34 rfl ⟨_, rfl, h⟩
  · have h := hb hc
    refine AW.bipush (pc := 10) dX11_pop_10 (by decide) ?_
    exact AW.iret (st := []) (pc := 12) dX11_pop_12 rfl ⟨_, rfl, h⟩

set_option maxRecDepth 20000 in
theorem en_X11_push {M : Mem} {K : Int → Mem → Prop} 
    (h : InR (M 41 0) ∧ ((M 41 0) < 8 → (CV mX3_save [vR 41, vR 16] M (fun M26 => K (M26 41 0) M26))) ∧ (¬ ((M 41 0) < 8) → (K (-6) M))) :
    CI mX11_push [vR 0] M K := by
  show AW mX11_push 0 [some (vR 0)] [] M (QI K)
  refine AW.aload_n (pc := 0) (x := 0) dX11_push_0 rfl ?_
  refine AW.getR (pc := 1) (h2 := 41) dX11_push_1 fg_X11_69 kd_0 hl_0 rfl ?_
  refine AW.getI (pc := 4) dX11_push_4 fg_X11_185 kd_41 hl_41 rfl ?_
  refine AW.bipush (pc := 7) dX11_push_7 (by decide) ?_
  obtain ⟨o, ha, hb⟩ := h
  refine AW.icmp_lt (pc := 9) (tgt := 15) dX11_push_9 (by decide) o (by decide) (fun hc => ?_) (fun hc => ?_)
  · have h := ha hc
    refine AW.aload_n (pc := 15) (x := 0) dX11_push_15 rfl ?_
    refine AW.getR (pc := 16) (h2 := 41) dX11_push_16 fg_X11_69 kd_0 hl_0 rfl ?_
    refine AW.aload_n (pc := 19) (x := 0) dX11_push_19 rfl ?_
    refine AW.getR (pc := 20) (h2 := 12) dX11_push_20 fg_X11_35 kd_0 hl_0 rfl ?_
    refine AW.getR (pc := 23) (h2 := 16) dX11_push_23 fg_X11_158 kd_12 hl_12 rfl ?_
    refine AW.callV (pc := 26) (As := [vR 16]) (st := []) dX11_push_26 cl_X11_186 kd_41 hl_41 ⟨Nat.le_of_ble_eq_true rfl, Nat.le_of_ble_eq_true rfl⟩ (Nat.le_of_ble_eq_true rfl) (Nat.le_of_ble_eq_true rfl) h ?_
    rintro _ M26 ⟨rfl, h⟩
    show AW mX11_push 29 [some (vR 0)] [] M26 (QI K)
    refine AW.aload_n (pc := 29) (x := 0) dX11_push_29 rfl ?_
    refine AW.getR (pc := 30) (h2 := 41) dX11_push_30 fg_X11_69 kd_0 hl_0 rfl ?_
    refine AW.getI (pc := 33) dX11_push_33 fg_X11_185 kd_41 hl_41 rfl ?_
    exact AW.iret (st := []) (pc := 36) dX11_push_36 rfl ⟨_, rfl, h⟩
  · have h := hb hc
    refine AW.bipush (pc := 12) dX11_push_12 (by decide) ?_
    exact AW.iret (st := []) (pc := 14) dX11_push_14 rfl ⟨_, rfl, h⟩

set_option maxRecDepth 20000 in
theorem en_X11_rank {M : Mem} {K : Int → Mem → Prop} {v1 : Int} 
    (h : CI mX0_contains [vR 12, vI v1] M (fun r5 M5 => InR r5 ∧ (r5 ≠ 0 → (CI mX5_measure [vR 22, vI v1] M5 (fun r19 M19 => InR r19 ∧ (r19 ≠ (-9) → (InR r19 ∧ (r19 ≤ 12 → (CI mX5_indexAmongValues [vR 22, vI v1] M19 (fun r46 M46 => InR r46 ∧ (r46 < 1000000 → (K r46 M46)) ∧ (¬ (r46 < 1000000) → (K (-10) M46))))) ∧ (¬ (r19 ≤ 12) → (K (-10) M19)))) ∧ (¬ (r19 ≠ (-9)) → (K (-9) M19))))) ∧ (¬ (r5 ≠ 0) → (K (-3) M5)))) :
    CI mX11_rank [vR 0, vI v1] M K := by
  show AW mX11_rank 0 [some (vR 0), some (vI v1), none, none] [] M (QI K)
  refine AW.aload_n (pc := 0) (x := 0) dX11_rank_0 rfl ?_
  refine AW.getR (pc := 1) (h2 := 12) dX11_rank_1 fg_X11_35 kd_0 hl_0 rfl ?_
  refine AW.iload_n (pc := 4) (x := v1) dX11_rank_4 rfl ?_
  refine AW.callV (pc := 5) (As := [vI v1]) (st := []) dX11_rank_5 cl_X11_133 kd_12 hl_12 ⟨Nat.le_of_ble_eq_true rfl, Nat.le_of_ble_eq_true rfl⟩ (Nat.le_of_ble_eq_true rfl) (Nat.le_of_ble_eq_true rfl) h ?_
  rintro _ M5 ⟨r5, rfl, h⟩
  show AW mX11_rank 8 [some (vR 0), some (vI v1), none, none] [vI r5] M5 (QI K)
  obtain ⟨o, ha, hb⟩ := h
  refine AW.if_ne (pc := 8) (tgt := 14) dX11_rank_8 (by decide) o (fun hc => ?_) (fun hc => ?_)
  · have h := ha hc
    refine AW.aload_n (pc := 14) (x := 0) dX11_rank_14 rfl ?_
    refine AW.getR (pc := 15) (h2 := 22) dX11_rank_15 fg_X11_53 kd_0 hl_0 rfl ?_
    refine AW.iload_n (pc := 18) (x := v1) dX11_rank_18 rfl ?_
    refine AW.callV (pc := 19) (As := [vI v1]) (st := []) dX11_rank_19 cl_X11_161 kd_22 hl_22 ⟨Nat.le_of_ble_eq_true rfl, Nat.le_of_ble_eq_true rfl⟩ (Nat.le_of_ble_eq_true rfl) (Nat.le_of_ble_eq_true rfl) h ?_
    rintro _ M19 ⟨r19, rfl, h⟩
    show AW mX11_rank 22 [some (vR 0), some (vI v1), none, none] [vI r19] M19 (QI K)
    refine AW.istore_n (pc := 22) (ls2 := [some (vR 0), some (vI v1), some (vI r19), none]) dX11_rank_22 (by decide) rfl ?_
    refine AW.iload_n (pc := 23) (x := r19) dX11_rank_23 rfl ?_
    refine AW.bipush (pc := 24) dX11_rank_24 (by decide) ?_
    obtain ⟨o, ha, hb⟩ := h
    refine AW.icmp_ne (pc := 26) (tgt := 32) dX11_rank_26 (by decide) o (by decide) (fun hc => ?_) (fun hc => ?_)
    · have h := ha hc
      refine AW.iload_n (pc := 32) (x := r19) dX11_rank_32 rfl ?_
      refine AW.bipush (pc := 33) dX11_rank_33 (by decide) ?_
      obtain ⟨o, ha, hb⟩ := h
      refine AW.icmp_le (pc := 35) (tgt := 41) dX11_rank_35 (by decide) o (by decide) (fun hc => ?_) (fun hc => ?_)
      · have h := ha hc
        refine AW.aload_n (pc := 41) (x := 0) dX11_rank_41 rfl ?_
        refine AW.getR (pc := 42) (h2 := 22) dX11_rank_42 fg_X11_53 kd_0 hl_0 rfl ?_
        refine AW.iload_n (pc := 45) (x := v1) dX11_rank_45 rfl ?_
        refine AW.callV (pc := 46) (As := [vI v1]) (st := []) dX11_rank_46 cl_X11_164 kd_22 hl_22 ⟨Nat.le_of_ble_eq_true rfl, Nat.le_of_ble_eq_true rfl⟩ (Nat.le_of_ble_eq_true rfl) (Nat.le_of_ble_eq_true rfl) h ?_
        rintro _ M46 ⟨r46, rfl, h⟩
        show AW mX11_rank 49 [some (vR 0), some (vI v1), some (vI r19), none] [vI r46] M46 (QI K)
        refine AW.istore_n (pc := 49) (ls2 := [some (vR 0), some (vI v1), some (vI r19), some (vI r46)]) dX11_rank_49 (by decide) rfl ?_
        refine AW.iload_n (pc := 50) (x := r46) dX11_rank_50 rfl ?_
        refine AW.ldc (pc := 51) (n := 1000000) dX11_rank_51 k_X11_167 ?_
        obtain ⟨o, ha, hb⟩ := h
        refine AW.icmp_lt (pc := 53) (tgt := 61) dX11_rank_53 (by decide) o (by decide) (fun hc => ?_) (fun hc => ?_)
        · have h := ha hc
          refine AW.iload_n (pc := 61) (x := r46) dX11_rank_61 rfl ?_
          exact AW.iret (st := []) (pc := 62) dX11_rank_62 rfl ⟨_, rfl, h⟩
        · have h := hb hc
          refine AW.bipush (pc := 56) dX11_rank_56 (by decide) ?_
          refine AW.goto (pc := 58) (tgt := 62) dX11_rank_58 (by decide) ?_
          exact AW.iret (st := []) (pc := 62) dX11_rank_62 rfl ⟨_, rfl, h⟩
      · have h := hb hc
        refine AW.bipush (pc := 38) dX11_rank_38 (by decide) ?_
        exact AW.iret (st := []) (pc := 40) dX11_rank_40 rfl ⟨_, rfl, h⟩
    · have h := hb hc
      refine AW.bipush (pc := 29) dX11_rank_29 (by decide) ?_
      exact AW.iret (st := []) (pc := 31) dX11_rank_31 rfl ⟨_, rfl, h⟩
  · have h := hb hc
    refine AW.bipush (pc := 11) dX11_rank_11 (by decide) ?_
    exact AW.iret (st := []) (pc := 13) dX11_rank_13 rfl ⟨_, rfl, h⟩

set_option maxRecDepth 20000 in
theorem en_X11_resultType {M : Mem} {K : Int → Mem → Prop} {v1 : Int} 
    (h : CI mX4_hasConstructor [vR 1, vI v1] M (fun r5 M5 => InR r5 ∧ (r5 ≠ 0 → ((0 ≤ v1 ∧ v1 < 12) ∧ K (M5 2 v1) M5)) ∧ (¬ (r5 ≠ 0) → (K (-2) M5)))) :
    CI mX11_resultType [vR 0, vI v1] M K := by
  show AW mX11_resultType 0 [some (vR 0), some (vI v1)] [] M (QI K)
  refine AW.aload_n (pc := 0) (x := 0) dX11_resultType_0 rfl ?_
  refine AW.getR (pc := 1) (h2 := 1) dX11_resultType_1 fg_X11_12 kd_0 hl_0 rfl ?_
  refine AW.iload_n (pc := 4) (x := v1) dX11_resultType_4 rfl ?_
  refine AW.callV (pc := 5) (As := [vI v1]) (st := []) dX11_resultType_5 cl_X11_99 kd_1 hl_1 ⟨Nat.le_of_ble_eq_true rfl, Nat.le_of_ble_eq_true rfl⟩ (Nat.le_of_ble_eq_true rfl) (Nat.le_of_ble_eq_true rfl) h ?_
  rintro _ M5 ⟨r5, rfl, h⟩
  show AW mX11_resultType 8 [some (vR 0), some (vI v1)] [vI r5] M5 (QI K)
  obtain ⟨o, ha, hb⟩ := h
  refine AW.if_ne (pc := 8) (tgt := 14) dX11_resultType_8 (by decide) o (fun hc => ?_) (fun hc => ?_)
  · have h := ha hc
    refine AW.aload_n (pc := 14) (x := 0) dX11_resultType_14 rfl ?_
    refine AW.getR (pc := 15) (h2 := 1) dX11_resultType_15 fg_X11_12 kd_0 hl_0 rfl ?_
    refine AW.getR (pc := 18) (h2 := 2) dX11_resultType_18 fg_X11_102 kd_1 hl_1 rfl ?_
    refine AW.iload_n (pc := 21) (x := v1) dX11_resultType_21 rfl ?_
    obtain ⟨o, h⟩ := h
    refine AW.iald (pc := 22) dX11_resultType_22 kd_2 hl_2 o ?_
    exact AW.iret (st := []) (pc := 23) dX11_resultType_23 rfl ⟨_, rfl, h⟩
  · have h := hb hc
    refine AW.bipush (pc := 11) dX11_resultType_11 (by decide) ?_
    exact AW.iret (st := []) (pc := 13) dX11_resultType_13 rfl ⟨_, rfl, h⟩

set_option maxRecDepth 20000 in
theorem en_X11_size {M : Mem} {K : Int → Mem → Prop} {v1 : Int} 
    (h : CI mX0_contains [vR 12, vI v1] M (fun r5 M5 => InR r5 ∧ (r5 ≠ 0 → (CI mX5_measure [vR 22, vI v1] M5 (fun r19 M19 => K r19 M19))) ∧ (¬ (r5 ≠ 0) → (K (-3) M5)))) :
    CI mX11_size [vR 0, vI v1] M K := by
  show AW mX11_size 0 [some (vR 0), some (vI v1)] [] M (QI K)
  refine AW.aload_n (pc := 0) (x := 0) dX11_size_0 rfl ?_
  refine AW.getR (pc := 1) (h2 := 12) dX11_size_1 fg_X11_35 kd_0 hl_0 rfl ?_
  refine AW.iload_n (pc := 4) (x := v1) dX11_size_4 rfl ?_
  refine AW.callV (pc := 5) (As := [vI v1]) (st := []) dX11_size_5 cl_X11_133 kd_12 hl_12 ⟨Nat.le_of_ble_eq_true rfl, Nat.le_of_ble_eq_true rfl⟩ (Nat.le_of_ble_eq_true rfl) (Nat.le_of_ble_eq_true rfl) h ?_
  rintro _ M5 ⟨r5, rfl, h⟩
  show AW mX11_size 8 [some (vR 0), some (vI v1)] [vI r5] M5 (QI K)
  obtain ⟨o, ha, hb⟩ := h
  refine AW.if_ne (pc := 8) (tgt := 14) dX11_size_8 (by decide) o (fun hc => ?_) (fun hc => ?_)
  · have h := ha hc
    refine AW.aload_n (pc := 14) (x := 0) dX11_size_14 rfl ?_
    refine AW.getR (pc := 15) (h2 := 22) dX11_size_15 fg_X11_53 kd_0 hl_0 rfl ?_
    refine AW.iload_n (pc := 18) (x := v1) dX11_size_18 rfl ?_
    refine AW.callV (pc := 19) (As := [vI v1]) (st := []) dX11_size_19 cl_X11_161 kd_22 hl_22 ⟨Nat.le_of_ble_eq_true rfl, Nat.le_of_ble_eq_true rfl⟩ (Nat.le_of_ble_eq_true rfl) (Nat.le_of_ble_eq_true rfl) h ?_
    rintro _ M19 ⟨r19, rfl, h⟩
    show AW mX11_size 22 [some (vR 0), some (vI v1)] [vI r19] M19 (QI K)
    exact AW.iret (st := []) (pc := 22) dX11_size_22 rfl ⟨_, rfl, h⟩
  · have h := hb hc
    refine AW.bipush (pc := 11) dX11_size_11 (by decide) ?_
    exact AW.iret (st := []) (pc := 13) dX11_size_13 rfl ⟨_, rfl, h⟩

set_option maxRecDepth 20000 in
theorem en_X11_smallestSize {M : Mem} {K : Int → Mem → Prop} {v1 : Int} 
    (h : CI mX4_hasType [vR 1, vI v1] M (fun r5 M5 => InR r5 ∧ (r5 ≠ 0 → ((0 ≤ v1 ∧ v1 < 4) ∧ K (M5 6 v1) M5)) ∧ (¬ (r5 ≠ 0) → (K (-1) M5)))) :
    CI mX11_smallestSize [vR 0, vI v1] M K := by
  show AW mX11_smallestSize 0 [some (vR 0), some (vI v1)] [] M (QI K)
  refine AW.aload_n (pc := 0) (x := 0) dX11_smallestSize_0 rfl ?_
  refine AW.getR (pc := 1) (h2 := 1) dX11_smallestSize_1 fg_X11_12 kd_0 hl_0 rfl ?_
  refine AW.iload_n (pc := 4) (x := v1) dX11_smallestSize_4 rfl ?_
  refine AW.callV (pc := 5) (As := [vI v1]) (st := []) dX11_smallestSize_5 cl_X11_84 kd_1 hl_1 ⟨Nat.le_of_ble_eq_true rfl, Nat.le_of_ble_eq_true rfl⟩ (Nat.le_of_ble_eq_true rfl) (Nat.le_of_ble_eq_true rfl) h ?_
  rintro _ M5 ⟨r5, rfl, h⟩
  show AW mX11_smallestSize 8 [some (vR 0), some (vI v1)] [vI r5] M5 (QI K)
  obtain ⟨o, ha, hb⟩ := h
  refine AW.if_ne (pc := 8) (tgt := 13) dX11_smallestSize_8 (by decide) o (fun hc => ?_) (fun hc => ?_)
  · have h := ha hc
    refine AW.aload_n (pc := 13) (x := 0) dX11_smallestSize_13 rfl ?_
    refine AW.getR (pc := 14) (h2 := 5) dX11_smallestSize_14 fg_X11_21 kd_0 hl_0 rfl ?_
    refine AW.getR (pc := 17) (h2 := 6) dX11_smallestSize_17 fg_X11_116 kd_5 hl_5 rfl ?_
    refine AW.iload_n (pc := 20) (x := v1) dX11_smallestSize_20 rfl ?_
    obtain ⟨o, h⟩ := h
    refine AW.iald (pc := 21) dX11_smallestSize_21 kd_6 hl_6 o ?_
    exact AW.iret (st := []) (pc := 22) dX11_smallestSize_22 rfl ⟨_, rfl, h⟩
  · have h := hb hc
    refine AW.iconst (pc := 11) dX11_smallestSize_11 ?_
    exact AW.iret (st := []) (pc := 12) dX11_smallestSize_12 rfl ⟨_, rfl, h⟩

set_option maxRecDepth 20000 in
theorem en_X11_term {M : Mem} {K : Int → Mem → Prop} {v1 v2 v3 v4 : Int} 
    (h : CI mX4_hasConstructor [vR 1, vI v1] M (fun r5 M5 => InR r5 ∧ (r5 ≠ 0 → ((0 ≤ v1 ∧ v1 < 12) ∧ InR (M5 3 v1) ∧ ((M5 3 v1) ≤ 0 → (AW mX11_term 41 [some (vR 0), some (vI v1), some (vI v2), some (vI v3), some (vI v4), some (vI (M5 3 v1))] [] M5 (QI K))) ∧ (¬ ((M5 3 v1) ≤ 0) → (CI mX0_contains [vR 12, vI v2] M5 (fun r35 M35 => InR r35 ∧ (r35 = 0 → (K (-3) M35)) ∧ (¬ (r35 = 0) → (AW mX11_term 41 [some (vR 0), some (vI v1), some (vI v2), some (vI v3), some (vI v4), some (vI (M5 3 v1))] [] M35 (QI K)))))))) ∧ (¬ (r5 ≠ 0) → (K (-2) M5)))) :
    CI mX11_term [vR 0, vI v1, vI v2, vI v3, vI v4] M K := by
  show AW mX11_term 0 [some (vR 0), some (vI v1), some (vI v2), some (vI v3), some (vI v4), none] [] M (QI K)
  refine AW.aload_n (pc := 0) (x := 0) dX11_term_0 rfl ?_
  refine AW.getR (pc := 1) (h2 := 1) dX11_term_1 fg_X11_12 kd_0 hl_0 rfl ?_
  refine AW.iload_n (pc := 4) (x := v1) dX11_term_4 rfl ?_
  refine AW.callV (pc := 5) (As := [vI v1]) (st := []) dX11_term_5 cl_X11_99 kd_1 hl_1 ⟨Nat.le_of_ble_eq_true rfl, Nat.le_of_ble_eq_true rfl⟩ (Nat.le_of_ble_eq_true rfl) (Nat.le_of_ble_eq_true rfl) h ?_
  rintro _ M5 ⟨r5, rfl, h⟩
  show AW mX11_term 8 [some (vR 0), some (vI v1), some (vI v2), some (vI v3), some (vI v4), none] [vI r5] M5 (QI K)
  obtain ⟨o, ha, hb⟩ := h
  refine AW.if_ne (pc := 8) (tgt := 14) dX11_term_8 (by decide) o (fun hc => ?_) (fun hc => ?_)
  · have h := ha hc
    refine AW.aload_n (pc := 14) (x := 0) dX11_term_14 rfl ?_
    refine AW.getR (pc := 15) (h2 := 1) dX11_term_15 fg_X11_12 kd_0 hl_0 rfl ?_
    refine AW.getR (pc := 18) (h2 := 3) dX11_term_18 fg_X11_106 kd_1 hl_1 rfl ?_
    refine AW.iload_n (pc := 21) (x := v1) dX11_term_21 rfl ?_
    obtain ⟨o, h⟩ := h
    refine AW.iald (pc := 22) dX11_term_22 kd_3 hl_3 o ?_
    refine AW.istore (pc := 23) (ls2 := [some (vR 0), some (vI v1), some (vI v2), some (vI v3), some (vI v4), some (vI (M5 3 v1))]) dX11_term_23 (by decide) rfl ?_
    refine AW.iload (pc := 25) (x := (M5 3 v1)) dX11_term_25 rfl ?_
    obtain ⟨o, ha, hb⟩ := h
    refine AW.if_le (pc := 27) (tgt := 41) dX11_term_27 (by decide) o (fun hc => ?_) (fun hc => ?_)
    · have h := ha hc
      exact h
    · have h := hb hc
      refine AW.aload_n (pc := 30) (x := 0) dX11_term_30 rfl ?_
      refine AW.getR (pc := 31) (h2 := 12) dX11_term_31 fg_X11_35 kd_0 hl_0 rfl ?_
      refine AW.iload_n (pc := 34) (x := v2) dX11_term_34 rfl ?_
      refine AW.callV (pc := 35) (As := [vI v2]) (st := []) dX11_term_35 cl_X11_133 kd_12 hl_12 ⟨Nat.le_of_ble_eq_true rfl, Nat.le_of_ble_eq_true rfl⟩ (Nat.le_of_ble_eq_true rfl) (Nat.le_of_ble_eq_true rfl) h ?_
      rintro _ M35 ⟨r35, rfl, h⟩
      show AW mX11_term 38 [some (vR 0), some (vI v1), some (vI v2), some (vI v3), some (vI v4), some (vI (M5 3 v1))] [vI r35] M35 (QI K)
      obtain ⟨o, ha, hb⟩ := h
      refine AW.if_eq (pc := 38) (tgt := 76) dX11_term_38 (by decide) o (fun hc => ?_) (fun hc => ?_)
      · have h := ha hc
        refine AW.bipush (pc := 76) dX11_term_76 (by decide) ?_
        exact AW.iret (st := []) (pc := 78) dX11_term_78 rfl ⟨_, rfl, h⟩
      · have h := hb hc
        exact h
  · have h := hb hc
    refine AW.bipush (pc := 11) dX11_term_11 (by decide) ?_
    exact AW.iret (st := []) (pc := 13) dX11_term_13 rfl ⟨_, rfl, h⟩

set_option maxRecDepth 20000 in
theorem sg_X11_term_41 {M : Mem} {K : Int → Mem → Prop} {v1 v2 v3 v4 v5 : Int} 
    (h : InR v5 ∧ (v5 ≤ 1 → (AW mX11_term 58 [some (vR 0), some (vI v1), some (vI v2), some (vI v3), some (vI v4), some (vI v5)] [] M (QI K))) ∧ (¬ (v5 ≤ 1) → (CI mX0_contains [vR 12, vI v3] M (fun r52 M52 => InR r52 ∧ (r52 = 0 → (K (-3) M52)) ∧ (¬ (r52 = 0) → (AW mX11_term 58 [some (vR 0), some (vI v1), some (vI v2), some (vI v3), some (vI v4), some (vI v5)] [] M52 (QI K))))))) :
    AW mX11_term 41 [some (vR 0), some (vI v1), some (vI v2), some (vI v3), some (vI v4), some (vI v5)] [] M (QI K) := by
  refine AW.iload (pc := 41) (x := v5) dX11_term_41 rfl ?_
  refine AW.iconst (pc := 43) dX11_term_43 ?_
  obtain ⟨o, ha, hb⟩ := h
  refine AW.icmp_le (pc := 44) (tgt := 58) dX11_term_44 (by decide) o (by decide) (fun hc => ?_) (fun hc => ?_)
  · have h := ha hc
    exact h
  · have h := hb hc
    refine AW.aload_n (pc := 47) (x := 0) dX11_term_47 rfl ?_
    refine AW.getR (pc := 48) (h2 := 12) dX11_term_48 fg_X11_35 kd_0 hl_0 rfl ?_
    refine AW.iload_n (pc := 51) (x := v3) dX11_term_51 rfl ?_
    refine AW.callV (pc := 52) (As := [vI v3]) (st := []) dX11_term_52 cl_X11_133 kd_12 hl_12 ⟨Nat.le_of_ble_eq_true rfl, Nat.le_of_ble_eq_true rfl⟩ (Nat.le_of_ble_eq_true rfl) (Nat.le_of_ble_eq_true rfl) h ?_
    rintro _ M52 ⟨r52, rfl, h⟩
    show AW mX11_term 55 [some (vR 0), some (vI v1), some (vI v2), some (vI v3), some (vI v4), some (vI v5)] [vI r52] M52 (QI K)
    obtain ⟨o, ha, hb⟩ := h
    refine AW.if_eq (pc := 55) (tgt := 76) dX11_term_55 (by decide) o (fun hc => ?_) (fun hc => ?_)
    · have h := ha hc
      refine AW.bipush (pc := 76) dX11_term_76 (by decide) ?_
      exact AW.iret (st := []) (pc := 78) dX11_term_78 rfl ⟨_, rfl, h⟩
    · have h := hb hc
      exact h

set_option maxRecDepth 20000 in
theorem sg_X11_term_58 {M : Mem} {K : Int → Mem → Prop} {v1 v2 v3 v4 v5 : Int} 
    (h : InR v5 ∧ (v5 ≤ 2 → (AW mX11_term 79 [some (vR 0), some (vI v1), some (vI v2), some (vI v3), some (vI v4), some (vI v5)] [] M (QI K))) ∧ (¬ (v5 ≤ 2) → (CI mX0_contains [vR 12, vI v4] M (fun r70 M70 => InR r70 ∧ (r70 ≠ 0 → (AW mX11_term 79 [some (vR 0), some (vI v1), some (vI v2), some (vI v3), some (vI v4), some (vI v5)] [] M70 (QI K))) ∧ (¬ (r70 ≠ 0) → (K (-3) M70)))))) :
    AW mX11_term 58 [some (vR 0), some (vI v1), some (vI v2), some (vI v3), some (vI v4), some (vI v5)] [] M (QI K) := by
  refine AW.iload (pc := 58) (x := v5) dX11_term_58 rfl ?_
  refine AW.iconst (pc := 60) dX11_term_60 ?_
  obtain ⟨o, ha, hb⟩ := h
  refine AW.icmp_le (pc := 61) (tgt := 79) dX11_term_61 (by decide) o (by decide) (fun hc => ?_) (fun hc => ?_)
  · have h := ha hc
    exact h
  · have h := hb hc
    refine AW.aload_n (pc := 64) (x := 0) dX11_term_64 rfl ?_
    refine AW.getR (pc := 65) (h2 := 12) dX11_term_65 fg_X11_35 kd_0 hl_0 rfl ?_
    refine AW.iload (pc := 68) (x := v4) dX11_term_68 rfl ?_
    refine AW.callV (pc := 70) (As := [vI v4]) (st := []) dX11_term_70 cl_X11_133 kd_12 hl_12 ⟨Nat.le_of_ble_eq_true rfl, Nat.le_of_ble_eq_true rfl⟩ (Nat.le_of_ble_eq_true rfl) (Nat.le_of_ble_eq_true rfl) h ?_
    rintro _ M70 ⟨r70, rfl, h⟩
    show AW mX11_term 73 [some (vR 0), some (vI v1), some (vI v2), some (vI v3), some (vI v4), some (vI v5)] [vI r70] M70 (QI K)
    obtain ⟨o, ha, hb⟩ := h
    refine AW.if_ne (pc := 73) (tgt := 79) dX11_term_73 (by decide) o (fun hc => ?_) (fun hc => ?_)
    · have h := ha hc
      exact h
    · have h := hb hc
      refine AW.bipush (pc := 76) dX11_term_76 (by decide) ?_
      exact AW.iret (st := []) (pc := 78) dX11_term_78 rfl ⟨_, rfl, h⟩

set_option maxRecDepth 20000 in
theorem sg_X11_term_79 {M : Mem} {K : Int → Mem → Prop} {v1 v2 v3 v4 v5 : Int} 
    (h : InR v5 ∧ (v5 ≤ 0 → (AW mX11_term 105 [some (vR 0), some (vI v1), some (vI v2), some (vI v3), some (vI v4), some (vI v5)] [] M (QI K))) ∧ (¬ (v5 ≤ 0) → ((0 ≤ v2 ∧ v2 < 100) ∧ CI mX4_typeOfArgument [vR 1, vI v1, vI 0] M (fun r99 M99 => (InR (M 13 v2) ∧ InR r99) ∧ ((M 13 v2) ≠ r99 → (K (-5) M99)) ∧ (¬ ((M 13 v2) ≠ r99) → (AW mX11_term 105 [some (vR 0), some (vI v1), some (vI v2), some (vI v3), some (vI v4), some (vI v5)] [] M99 (QI K))))))) :
    AW mX11_term 79 [some (vR 0), some (vI v1), some (vI v2), some (vI v3), some (vI v4), some (vI v5)] [] M (QI K) := by
  refine AW.iload (pc := 79) (x := v5) dX11_term_79 rfl ?_
  obtain ⟨o, ha, hb⟩ := h
  refine AW.if_le (pc := 81) (tgt := 105) dX11_term_81 (by decide) o (fun hc => ?_) (fun hc => ?_)
  · have h := ha hc
    exact h
  · have h := hb hc
    refine AW.aload_n (pc := 84) (x := 0) dX11_term_84 rfl ?_
    refine AW.getR (pc := 85) (h2 := 12) dX11_term_85 fg_X11_35 kd_0 hl_0 rfl ?_
    refine AW.getR (pc := 88) (h2 := 13) dX11_term_88 fg_X11_136 kd_12 hl_12 rfl ?_
    refine AW.iload_n (pc := 91) (x := v2) dX11_term_91 rfl ?_
    obtain ⟨o, h⟩ := h
    refine AW.iald (pc := 92) dX11_term_92 kd_13 hl_13 o ?_
    refine AW.aload_n (pc := 93) (x := 0) dX11_term_93 rfl ?_
    refine AW.getR (pc := 94) (h2 := 1) dX11_term_94 fg_X11_12 kd_0 hl_0 rfl ?_
    refine AW.iload_n (pc := 97) (x := v1) dX11_term_97 rfl ?_
    refine AW.iconst (pc := 98) dX11_term_98 ?_
    refine AW.callV (pc := 99) (As := [vI v1, vI 0]) (st := [vI (M 13 v2)]) dX11_term_99 cl_X11_109 kd_1 hl_1 ⟨Nat.le_of_ble_eq_true rfl, Nat.le_of_ble_eq_true rfl⟩ (Nat.le_of_ble_eq_true rfl) (Nat.le_of_ble_eq_true rfl) h ?_
    rintro _ M99 ⟨r99, rfl, h⟩
    show AW mX11_term 102 [some (vR 0), some (vI v1), some (vI v2), some (vI v3), some (vI v4), some (vI v5)] [vI r99, vI (M 13 v2)] M99 (QI K)
    obtain ⟨o, ha, hb⟩ := h
    refine AW.icmp_ne (pc := 102) (tgt := 160) dX11_term_102 (by decide) o.1 o.2 (fun hc => ?_) (fun hc => ?_)
    · have h := ha hc
      refine AW.bipush (pc := 160) dX11_term_160 (by decide) ?_
      exact AW.iret (st := []) (pc := 162) dX11_term_162 rfl ⟨_, rfl, h⟩
    · have h := hb hc
      exact h

set_option maxRecDepth 20000 in
theorem sg_X11_term_105 {M : Mem} {K : Int → Mem → Prop} {v1 v2 v3 v4 v5 : Int} 
    (h : InR v5 ∧ (v5 ≤ 1 → (AW mX11_term 132 [some (vR 0), some (vI v1), some (vI v2), some (vI v3), some (vI v4), some (vI v5)] [] M (QI K))) ∧ (¬ (v5 ≤ 1) → ((0 ≤ v3 ∧ v3 < 100) ∧ CI mX4_typeOfArgument [vR 1, vI v1, vI 1] M (fun r126 M126 => (InR (M 13 v3) ∧ InR r126) ∧ ((M 13 v3) ≠ r126 → (K (-5) M126)) ∧ (¬ ((M 13 v3) ≠ r126) → (AW mX11_term 132 [some (vR 0), some (vI v1), some (vI v2), some (vI v3), some (vI v4), some (vI v5)] [] M126 (QI K))))))) :
    AW mX11_term 105 [some (vR 0), some (vI v1), some (vI v2), some (vI v3), some (vI v4), some (vI v5)] [] M (QI K) := by
  refine AW.iload (pc := 105) (x := v5) dX11_term_105 rfl ?_
  refine AW.iconst (pc := 107) dX11_term_107 ?_
  obtain ⟨o, ha, hb⟩ := h
  refine AW.icmp_le (pc := 108) (tgt := 132) dX11_term_108 (by decide) o (by decide) (fun hc => ?_) (fun hc => ?_)
  · have h := ha hc
    exact h
  · have h := hb hc
    refine AW.aload_n (pc := 111) (x := 0) dX11_term_111 rfl ?_
    refine AW.getR (pc := 112) (h2 := 12) dX11_term_112 fg_X11_35 kd_0 hl_0 rfl ?_
    refine AW.getR (pc := 115) (h2 := 13) dX11_term_115 fg_X11_136 kd_12 hl_12 rfl ?_
    refine AW.iload_n (pc := 118) (x := v3) dX11_term_118 rfl ?_
    obtain ⟨o, h⟩ := h
    refine AW.iald (pc := 119) dX11_term_119 kd_13 hl_13 o ?_
    refine AW.aload_n (pc := 120) (x := 0) dX11_term_120 rfl ?_
    refine AW.getR (pc := 121) (h2 := 1) dX11_term_121 fg_X11_12 kd_0 hl_0 rfl ?_
    refine AW.iload_n (pc := 124) (x := v1) dX11_term_124 rfl ?_
    refine AW.iconst (pc := 125) dX11_term_125 ?_
    refine AW.callV (pc := 126) (As := [vI v1, vI 1]) (st := [vI (M 13 v3)]) dX11_term_126 cl_X11_109 kd_1 hl_1 ⟨Nat.le_of_ble_eq_true rfl, Nat.le_of_ble_eq_true rfl⟩ (Nat.le_of_ble_eq_true rfl) (Nat.le_of_ble_eq_true rfl) h ?_
    rintro _ M126 ⟨r126, rfl, h⟩
    show AW mX11_term 129 [some (vR 0), some (vI v1), some (vI v2), some (vI v3), some (vI v4), some (vI v5)] [vI r126, vI (M 13 v3)] M126 (QI K)
    obtain ⟨o, ha, hb⟩ := h
    refine AW.icmp_ne (pc := 129) (tgt := 160) dX11_term_129 (by decide) o.1 o.2 (fun hc => ?_) (fun hc => ?_)
    · have h := ha hc
      refine AW.bipush (pc := 160) dX11_term_160 (by decide) ?_
      exact AW.iret (st := []) (pc := 162) dX11_term_162 rfl ⟨_, rfl, h⟩
    · have h := hb hc
      exact h

set_option maxRecDepth 20000 in
theorem sg_X11_term_132 {M : Mem} {K : Int → Mem → Prop} {v1 v2 v3 v4 v5 : Int} 
    (h : InR v5 ∧ (v5 ≤ 2 → (AW mX11_term 163 [some (vR 0), some (vI v1), some (vI v2), some (vI v3), some (vI v4), some (vI v5)] [] M (QI K))) ∧ (¬ (v5 ≤ 2) → ((0 ≤ v4 ∧ v4 < 100) ∧ CI mX4_typeOfArgument [vR 1, vI v1, vI 2] M (fun r154 M154 => (InR (M 13 v4) ∧ InR r154) ∧ ((M 13 v4) = r154 → (AW mX11_term 163 [some (vR 0), some (vI v1), some (vI v2), some (vI v3), some (vI v4), some (vI v5)] [] M154 (QI K))) ∧ (¬ ((M 13 v4) = r154) → (K (-5) M154)))))) :
    AW mX11_term 132 [some (vR 0), some (vI v1), some (vI v2), some (vI v3), some (vI v4), some (vI v5)] [] M (QI K) := by
  refine AW.iload (pc := 132) (x := v5) dX11_term_132 rfl ?_
  refine AW.iconst (pc := 134) dX11_term_134 ?_
  obtain ⟨o, ha, hb⟩ := h
  refine AW.icmp_le (pc := 135) (tgt := 163) dX11_term_135 (by decide) o (by decide) (fun hc => ?_) (fun hc => ?_)
  · have h := ha hc
    exact h
  · have h := hb hc
    refine AW.aload_n (pc := 138) (x := 0) dX11_term_138 rfl ?_
    refine AW.getR (pc := 139) (h2 := 12) dX11_term_139 fg_X11_35 kd_0 hl_0 rfl ?_
    refine AW.getR (pc := 142) (h2 := 13) dX11_term_142 fg_X11_136 kd_12 hl_12 rfl ?_
    refine AW.iload (pc := 145) (x := v4) dX11_term_145 rfl ?_
    obtain ⟨o, h⟩ := h
    refine AW.iald (pc := 147) dX11_term_147 kd_13 hl_13 o ?_
    refine AW.aload_n (pc := 148) (x := 0) dX11_term_148 rfl ?_
    refine AW.getR (pc := 149) (h2 := 1) dX11_term_149 fg_X11_12 kd_0 hl_0 rfl ?_
    refine AW.iload_n (pc := 152) (x := v1) dX11_term_152 rfl ?_
    refine AW.iconst (pc := 153) dX11_term_153 ?_
    refine AW.callV (pc := 154) (As := [vI v1, vI 2]) (st := [vI (M 13 v4)]) dX11_term_154 cl_X11_109 kd_1 hl_1 ⟨Nat.le_of_ble_eq_true rfl, Nat.le_of_ble_eq_true rfl⟩ (Nat.le_of_ble_eq_true rfl) (Nat.le_of_ble_eq_true rfl) h ?_
    rintro _ M154 ⟨r154, rfl, h⟩
    show AW mX11_term 157 [some (vR 0), some (vI v1), some (vI v2), some (vI v3), some (vI v4), some (vI v5)] [vI r154, vI (M 13 v4)] M154 (QI K)
    obtain ⟨o, ha, hb⟩ := h
    refine AW.icmp_eq (pc := 157) (tgt := 163) dX11_term_157 (by decide) o.1 o.2 (fun hc => ?_) (fun hc => ?_)
    · have h := ha hc
      exact h
    · have h := hb hc
      refine AW.bipush (pc := 160) dX11_term_160 (by decide) ?_
      exact AW.iret (st := []) (pc := 162) dX11_term_162 rfl ⟨_, rfl, h⟩

set_option maxRecDepth 20000 in
theorem sg_X11_term_163 {M : Mem} {K : Int → Mem → Prop} {v1 v2 v3 v4 v5 : Int} 
    (h : InR (M 12 1) ∧ ((M 12 1) < 100 → (CI mX0_addConstructed [vR 12, vI v1, vI v2, vI v3, vI v4] M (fun r187 M187 => K r187 M187))) ∧ (¬ ((M 12 1) < 100) → (K (-6) M))) :
    AW mX11_term 163 [some (vR 0), some (vI v1), some (vI v2), some (vI v3), some (vI v4), some (vI v5)] [] M (QI K) := by
  refine AW.aload_n (pc := 163) (x := 0) dX11_term_163 rfl ?_
  refine AW.getR (pc := 164) (h2 := 12) dX11_term_164 fg_X11_35 kd_0 hl_0 rfl ?_
  refine AW.getI (pc := 167) dX11_term_167 fg_X11_122 kd_12 hl_12 rfl ?_
  refine AW.bipush (pc := 170) dX11_term_170 (by decide) ?_
  obtain ⟨o, ha, hb⟩ := h
  refine AW.icmp_lt (pc := 172) (tgt := 178) dX11_term_172 (by decide) o (by decide) (fun hc => ?_) (fun hc => ?_)
  · have h := ha hc
    refine AW.aload_n (pc := 178) (x := 0) dX11_term_178 rfl ?_
    refine AW.getR (pc := 179) (h2 := 12) dX11_term_179 fg_X11_35 kd_0 hl_0 rfl ?_
    refine AW.iload_n (pc := 182) (x := v1) dX11_term_182 rfl ?_
    refine AW.iload_n (pc := 183) (x := v2) dX11_term_183 rfl ?_
    refine AW.iload_n (pc := 184) (x := v3) dX11_term_184 rfl ?_
    refine AW.iload (pc := 185) (x := v4) dX11_term_185 rfl ?_
    refine AW.callV (pc := 187) (As := [vI v1, vI v2, vI v3, vI v4]) (st := []) dX11_term_187 cl_X11_139 kd_12 hl_12 ⟨Nat.le_of_ble_eq_true rfl, Nat.le_of_ble_eq_true rfl⟩ (Nat.le_of_ble_eq_true rfl) (Nat.le_of_ble_eq_true rfl) h ?_
    rintro _ M187 ⟨r187, rfl, h⟩
    show AW mX11_term 190 [some (vR 0), some (vI v1), some (vI v2), some (vI v3), some (vI v4), some (vI v5)] [vI r187] M187 (QI K)
    exact AW.iret (st := []) (pc := 190) dX11_term_190 rfl ⟨_, rfl, h⟩
  · have h := hb hc
    refine AW.bipush (pc := 175) dX11_term_175 (by decide) ?_
    exact AW.iret (st := []) (pc := 177) dX11_term_177 rfl ⟨_, rfl, h⟩

set_option maxRecDepth 20000 in
theorem en_X11_unbindAll {M : Mem} {K : Int → Mem → Prop} 
    (h : CI mX0_countBound [vR 12] M (fun r4 M4 => CV mJ7_fill_53178 [vR 16, vI (-1)] M4 (fun M16 => K r4 M16))) :
    CI mX11_unbindAll [vR 0] M K := by
  show AW mX11_unbindAll 0 [some (vR 0), none] [] M (QI K)
  refine AW.aload_n (pc := 0) (x := 0) dX11_unbindAll_0 rfl ?_
  refine AW.getR (pc := 1) (h2 := 12) dX11_unbindAll_1 fg_X11_35 kd_0 hl_0 rfl ?_
  refine AW.callV (pc := 4) (As := []) (st := []) dX11_unbindAll_4 cl_X11_175 kd_12 hl_12 ⟨Nat.le_of_ble_eq_true rfl, Nat.le_of_ble_eq_true rfl⟩ (Nat.le_of_ble_eq_true rfl) (Nat.le_of_ble_eq_true rfl) h ?_
  rintro _ M4 ⟨r4, rfl, h⟩
  show AW mX11_unbindAll 7 [some (vR 0), none] [vI r4] M4 (QI K)
  refine AW.istore_n (pc := 7) (ls2 := [some (vR 0), some (vI r4)]) dX11_unbindAll_7 (by decide) rfl ?_
  refine AW.aload_n (pc := 8) (x := 0) dX11_unbindAll_8 rfl ?_
  refine AW.getR (pc := 9) (h2 := 12) dX11_unbindAll_9 fg_X11_35 kd_0 hl_0 rfl ?_
  refine AW.getR (pc := 12) (h2 := 16) dX11_unbindAll_12 fg_X11_158 kd_12 hl_12 rfl ?_
  refine AW.iconst (pc := 15) dX11_unbindAll_15 ?_
  refine AW.callS (pc := 16) (As := [vR 16, vI (-1)]) (st := []) dX11_unbindAll_16 cl_X11_179 ⟨Nat.le_of_ble_eq_true rfl, Nat.le_of_ble_eq_true rfl⟩ (Nat.le_of_ble_eq_true rfl) (Nat.le_of_ble_eq_true rfl) h ?_
  rintro _ M16 ⟨rfl, h⟩
  show AW mX11_unbindAll 19 [some (vR 0), some (vI r4)] [] M16 (QI K)
  refine AW.iload_n (pc := 19) (x := r4) dX11_unbindAll_19 rfl ?_
  exact AW.iret (st := []) (pc := 20) dX11_unbindAll_20 rfl ⟨_, rfl, h⟩

set_option maxRecDepth 20000 in
theorem en_X11_uncovered {M : Mem} {K : Int → Mem → Prop} {v1 : Int} 
    (h : InR (M 43 1) ∧ ((M 43 1) ≠ 0 → (CI mX11_countFirstFitting [vR 0, vI (-13), vI v1] M (fun r17 M17 => K r17 M17))) ∧ (¬ ((M 43 1) ≠ 0) → (K (-11) M))) :
    CI mX11_uncovered [vR 0, vI v1] M K := by
  show AW mX11_uncovered 0 [some (vR 0), some (vI v1)] [] M (QI K)
  refine AW.aload_n (pc := 0) (x := 0) dX11_uncovered_0 rfl ?_
  refine AW.getR (pc := 1) (h2 := 43) dX11_uncovered_1 fg_X11_76 kd_0 hl_0 rfl ?_
  refine AW.getI (pc := 4) dX11_uncovered_4 fg_X11_193 kd_43 hl_43 rfl ?_
  obtain ⟨o, ha, hb⟩ := h
  refine AW.if_ne (pc := 7) (tgt := 13) dX11_uncovered_7 (by decide) o (fun hc => ?_) (fun hc => ?_)
  · have h := ha hc
    refine AW.aload_n (pc := 13) (x := 0) dX11_uncovered_13 rfl ?_
    refine AW.bipush (pc := 14) dX11_uncovered_14 (by decide) ?_
    refine AW.iload_n (pc := 16) (x := v1) dX11_uncovered_16 rfl ?_
    refine AW.callV (pc := 17) (As := [vI (-13), vI v1]) (st := []) dX11_uncovered_17 cl_X11_207 kd_0 hl_0 ⟨Nat.le_of_ble_eq_true rfl, Nat.le_of_ble_eq_true rfl⟩ (Nat.le_of_ble_eq_true rfl) (Nat.le_of_ble_eq_true rfl) h ?_
    rintro _ M17 ⟨r17, rfl, h⟩
    show AW mX11_uncovered 20 [some (vR 0), some (vI v1)] [vI r17] M17 (QI K)
    exact AW.iret (st := []) (pc := 20) dX11_uncovered_20 rfl ⟨_, rfl, h⟩
  · have h := hb hc
    refine AW.bipush (pc := 10) dX11_uncovered_10 (by decide) ?_
    exact AW.iret (st := []) (pc := 12) dX11_uncovered_12 rfl ⟨_, rfl, h⟩

set_option maxRecDepth 20000 in
theorem en_X11_unify {M : Mem} {K : Int → Mem → Prop} {v1 v2 : Int} 
    (h : CI mX0_contains [vR 12, vI v1] M (fun r5 M5 => InR r5 ∧ (r5 = 0 → (K (-3) M5)) ∧ (¬ (r5 = 0) → (CI mX0_contains [vR 12, vI v2] M5 (fun r16 M16 => InR r16 ∧ (r16 ≠ 0 → ((0 ≤ v1 ∧ v1 < 100) ∧ (0 ≤ v2 ∧ v2 < 100) ∧ (InR (M16 13 v1) ∧ InR (M16 13 v2)) ∧ ((M16 13 v1) = (M16 13 v2) → (CI mX6_run [vR 32, vI v1, vI v2] M16 (fun r55 M55 => K r55 M55))) ∧ (¬ ((M16 13 v1) = (M16 13 v2)) → (K (-5) M16)))) ∧ (¬ (r16 ≠ 0) → (K (-3) M16))))))) :
    CI mX11_unify [vR 0, vI v1, vI v2] M K := by
  show AW mX11_unify 0 [some (vR 0), some (vI v1), some (vI v2)] [] M (QI K)
  refine AW.aload_n (pc := 0) (x := 0) dX11_unify_0 rfl ?_
  refine AW.getR (pc := 1) (h2 := 12) dX11_unify_1 fg_X11_35 kd_0 hl_0 rfl ?_
  refine AW.iload_n (pc := 4) (x := v1) dX11_unify_4 rfl ?_
  refine AW.callV (pc := 5) (As := [vI v1]) (st := []) dX11_unify_5 cl_X11_133 kd_12 hl_12 ⟨Nat.le_of_ble_eq_true rfl, Nat.le_of_ble_eq_true rfl⟩ (Nat.le_of_ble_eq_true rfl) (Nat.le_of_ble_eq_true rfl) h ?_
  rintro _ M5 ⟨r5, rfl, h⟩
  show AW mX11_unify 8 [some (vR 0), some (vI v1), some (vI v2)] [vI r5] M5 (QI K)
  obtain ⟨o, ha, hb⟩ := h
  refine AW.if_eq (pc := 8) (tgt := 22) dX11_unify_8 (by decide) o (fun hc => ?_) (fun hc => ?_)
  · have h := ha hc
    refine AW.bipush (pc := 22) dX11_unify_22 (by decide) ?_
    exact AW.iret (st := []) (pc := 24) dX11_unify_24 rfl ⟨_, rfl, h⟩
  · have h := hb hc
    refine AW.aload_n (pc := 11) (x := 0) dX11_unify_11 rfl ?_
    refine AW.getR (pc := 12) (h2 := 12) dX11_unify_12 fg_X11_35 kd_0 hl_0 rfl ?_
    refine AW.iload_n (pc := 15) (x := v2) dX11_unify_15 rfl ?_
    refine AW.callV (pc := 16) (As := [vI v2]) (st := []) dX11_unify_16 cl_X11_133 kd_12 hl_12 ⟨Nat.le_of_ble_eq_true rfl, Nat.le_of_ble_eq_true rfl⟩ (Nat.le_of_ble_eq_true rfl) (Nat.le_of_ble_eq_true rfl) h ?_
    rintro _ M16 ⟨r16, rfl, h⟩
    show AW mX11_unify 19 [some (vR 0), some (vI v1), some (vI v2)] [vI r16] M16 (QI K)
    obtain ⟨o, ha, hb⟩ := h
    refine AW.if_ne (pc := 19) (tgt := 25) dX11_unify_19 (by decide) o (fun hc => ?_) (fun hc => ?_)
    · have h := ha hc
      refine AW.aload_n (pc := 25) (x := 0) dX11_unify_25 rfl ?_
      refine AW.getR (pc := 26) (h2 := 12) dX11_unify_26 fg_X11_35 kd_0 hl_0 rfl ?_
      refine AW.getR (pc := 29) (h2 := 13) dX11_unify_29 fg_X11_136 kd_12 hl_12 rfl ?_
      refine AW.iload_n (pc := 32) (x := v1) dX11_unify_32 rfl ?_
      obtain ⟨o, h⟩ := h
      refine AW.iald (pc := 33) dX11_unify_33 kd_13 hl_13 o ?_
      refine AW.aload_n (pc := 34) (x := 0) dX11_unify_34 rfl ?_
      refine AW.getR (pc := 35) (h2 := 12) dX11_unify_35 fg_X11_35 kd_0 hl_0 rfl ?_
      refine AW.getR (pc := 38) (h2 := 13) dX11_unify_38 fg_X11_136 kd_12 hl_12 rfl ?_
      refine AW.iload_n (pc := 41) (x := v2) dX11_unify_41 rfl ?_
      obtain ⟨o, h⟩ := h
      refine AW.iald (pc := 42) dX11_unify_42 kd_13 hl_13 o ?_
      obtain ⟨o, ha, hb⟩ := h
      refine AW.icmp_eq (pc := 43) (tgt := 49) dX11_unify_43 (by decide) o.1 o.2 (fun hc => ?_) (fun hc => ?_)
      · have h := ha hc
        refine AW.aload_n (pc := 49) (x := 0) dX11_unify_49 rfl ?_
        refine AW.getR (pc := 50) (h2 := 32) dX11_unify_50 fg_X11_62 kd_0 hl_0 rfl ?_
        refine AW.iload_n (pc := 53) (x := v1) dX11_unify_53 rfl ?_
        refine AW.iload_n (pc := 54) (x := v2) dX11_unify_54 rfl ?_
        refine AW.callV (pc := 55) (As := [vI v1, vI v2]) (st := []) dX11_unify_55 cl_X11_172 kd_32 hl_32 ⟨Nat.le_of_ble_eq_true rfl, Nat.le_of_ble_eq_true rfl⟩ (Nat.le_of_ble_eq_true rfl) (Nat.le_of_ble_eq_true rfl) h ?_
        rintro _ M55 ⟨r55, rfl, h⟩
        show AW mX11_unify 58 [some (vR 0), some (vI v1), some (vI v2)] [vI r55] M55 (QI K)
        exact AW.iret (st := []) (pc := 58) dX11_unify_58 rfl ⟨_, rfl, h⟩
      · have h := hb hc
        refine AW.bipush (pc := 46) dX11_unify_46 (by decide) ?_
        exact AW.iret (st := []) (pc := 48) dX11_unify_48 rfl ⟨_, rfl, h⟩
    · have h := hb hc
      refine AW.bipush (pc := 22) dX11_unify_22 (by decide) ?_
      exact AW.iret (st := []) (pc := 24) dX11_unify_24 rfl ⟨_, rfl, h⟩

set_option maxRecDepth 20000 in
theorem en_X11_value {M : Mem} {K : Int → Mem → Prop} {v1 v2 v3 : Int} 
    (h : CI mX4_hasType [vR 1, vI v1] M (fun r5 M5 => InR r5 ∧ (r5 ≠ 0 → (InR v2 ∧ (v2 < 1 → (K (-4) M5)) ∧ (¬ (v2 < 1) → (InR v2 ∧ (v2 ≤ 12 → (InR v3 ∧ (v3 < 0 → (K (-13) M5)) ∧ (¬ (v3 < 0) → (CI mX8_countOf [vR 8, vI v1, vI v2] M5 (fun r38 M38 => (InR v3 ∧ InR r38) ∧ (v3 < r38 → (InR ((M38 12 1) + v2) ∧ (((M38 12 1) + v2) ≤ 100 → (CI mX7_build [vR 17, vI v1, vI v2, vI v3] M38 (fun r71 M71 => K r71 M71))) ∧ (¬ (((M38 12 1) + v2) ≤ 100) → (K (-6) M38)))) ∧ (¬ (v3 < r38) → (K (-13) M38))))))) ∧ (¬ (v2 ≤ 12) → (K (-4) M5)))))) ∧ (¬ (r5 ≠ 0) → (K (-1) M5)))) :
    CI mX11_value [vR 0, vI v1, vI v2, vI v3] M K := by
  show AW mX11_value 0 [some (vR 0), some (vI v1), some (vI v2), some (vI v3)] [] M (QI K)
  refine AW.aload_n (pc := 0) (x := 0) dX11_value_0 rfl ?_
  refine AW.getR (pc := 1) (h2 := 1) dX11_value_1 fg_X11_12 kd_0 hl_0 rfl ?_
  refine AW.iload_n (pc := 4) (x := v1) dX11_value_4 rfl ?_
  refine AW.callV (pc := 5) (As := [vI v1]) (st := []) dX11_value_5 cl_X11_84 kd_1 hl_1 ⟨Nat.le_of_ble_eq_true rfl, Nat.le_of_ble_eq_true rfl⟩ (Nat.le_of_ble_eq_true rfl) (Nat.le_of_ble_eq_true rfl) h ?_
  rintro _ M5 ⟨r5, rfl, h⟩
  show AW mX11_value 8 [some (vR 0), some (vI v1), some (vI v2), some (vI v3)] [vI r5] M5 (QI K)
  obtain ⟨o, ha, hb⟩ := h
  refine AW.if_ne (pc := 8) (tgt := 13) dX11_value_8 (by decide) o (fun hc => ?_) (fun hc => ?_)
  · have h := ha hc
    refine AW.iload_n (pc := 13) (x := v2) dX11_value_13 rfl ?_
    refine AW.iconst (pc := 14) dX11_value_14 ?_
    obtain ⟨o, ha, hb⟩ := h
    refine AW.icmp_lt (pc := 15) (tgt := 24) dX11_value_15 (by decide) o (by decide) (fun hc => ?_) (fun hc => ?_)
    · have h := ha hc
      refine AW.bipush (pc := 24) dX11_value_24 (by decide) ?_
      exact AW.iret (st := []) (pc := 26) dX11_value_26 rfl ⟨_, rfl, h⟩
    · have h := hb hc
      refine AW.iload_n (pc := 18) (x := v2) dX11_value_18 rfl ?_
      refine AW.bipush (pc := 19) dX11_value_19 (by decide) ?_
      obtain ⟨o, ha, hb⟩ := h
      refine AW.icmp_le (pc := 21) (tgt := 27) dX11_value_21 (by decide) o (by decide) (fun hc => ?_) (fun hc => ?_)
      · have h := ha hc
        refine AW.iload_n (pc := 27) (x := v3) dX11_value_27 rfl ?_
        obtain ⟨o, ha, hb⟩ := h
        refine AW.if_lt (pc := 28) (tgt := 44) dX11_value_28 (by decide) o (fun hc => ?_) (fun hc => ?_)
        · have h := ha hc
          refine AW.bipush (pc := 44) dX11_value_44 (by decide) ?_
          exact AW.iret (st := []) (pc := 46) dX11_value_46 rfl ⟨_, rfl, h⟩
        · have h := hb hc
          refine AW.iload_n (pc := 31) (x := v3) dX11_value_31 rfl ?_
          refine AW.aload_n (pc := 32) (x := 0) dX11_value_32 rfl ?_
          refine AW.getR (pc := 33) (h2 := 8) dX11_value_33 fg_X11_28 kd_0 hl_0 rfl ?_
          refine AW.iload_n (pc := 36) (x := v1) dX11_value_36 rfl ?_
          refine AW.iload_n (pc := 37) (x := v2) dX11_value_37 rfl ?_
          refine AW.callV (pc := 38) (As := [vI v1, vI v2]) (st := [vI v3]) dX11_value_38 cl_X11_119 kd_8 hl_8 ⟨Nat.le_of_ble_eq_true rfl, Nat.le_of_ble_eq_true rfl⟩ (Nat.le_of_ble_eq_true rfl) (Nat.le_of_ble_eq_true rfl) h ?_
          rintro _ M38 ⟨r38, rfl, h⟩
          show AW mX11_value 41 [some (vR 0), some (vI v1), some (vI v2), some (vI v3)] [vI r38, vI v3] M38 (QI K)
          obtain ⟨o, ha, hb⟩ := h
          refine AW.icmp_lt (pc := 41) (tgt := 47) dX11_value_41 (by decide) o.1 o.2 (fun hc => ?_) (fun hc => ?_)
          · have h := ha hc
            refine AW.aload_n (pc := 47) (x := 0) dX11_value_47 rfl ?_
            refine AW.getR (pc := 48) (h2 := 12) dX11_value_48 fg_X11_35 kd_0 hl_0 rfl ?_
            refine AW.getI (pc := 51) dX11_value_51 fg_X11_122 kd_12 hl_12 rfl ?_
            refine AW.iload_n (pc := 54) (x := v2) dX11_value_54 rfl ?_
            refine AW.iadd (pc := 55) dX11_value_55 ?_
            refine AW.bipush (pc := 56) dX11_value_56 (by decide) ?_
            obtain ⟨o, ha, hb⟩ := h
            refine AW.icmp_le (pc := 58) (tgt := 64) dX11_value_58 (by decide) o (by decide) (fun hc => ?_) (fun hc => ?_)
            · have h := ha hc
              refine AW.aload_n (pc := 64) (x := 0) dX11_value_64 rfl ?_
              refine AW.getR (pc := 65) (h2 := 17) dX11_value_65 fg_X11_44 kd_0 hl_0 rfl ?_
              refine AW.iload_n (pc := 68) (x := v1) dX11_value_68 rfl ?_
              refine AW.iload_n (pc := 69) (x := v2) dX11_value_69 rfl ?_
              refine AW.iload_n (pc := 70) (x := v3) dX11_value_70 rfl ?_
              refine AW.callV (pc := 71) (As := [vI v1, vI v2, vI v3]) (st := []) dX11_value_71 cl_X11_125 kd_17 hl_17 ⟨Nat.le_of_ble_eq_true rfl, Nat.le_of_ble_eq_true rfl⟩ (Nat.le_of_ble_eq_true rfl) (Nat.le_of_ble_eq_true rfl) h ?_
              rintro _ M71 ⟨r71, rfl, h⟩
              show AW mX11_value 74 [some (vR 0), some (vI v1), some (vI v2), some (vI v3)] [vI r71] M71 (QI K)
              exact AW.iret (st := []) (pc := 74) dX11_value_74 rfl ⟨_, rfl, h⟩
            · have h := hb hc
              refine AW.bipush (pc := 61) dX11_value_61 (by decide) ?_
              exact AW.iret (st := []) (pc := 63) dX11_value_63 rfl ⟨_, rfl, h⟩
          · have h := hb hc
            refine AW.bipush (pc := 44) dX11_value_44 (by decide) ?_
            exact AW.iret (st := []) (pc := 46) dX11_value_46 rfl ⟨_, rfl, h⟩
      · have h := hb hc
        refine AW.bipush (pc := 24) dX11_value_24 (by decide) ?_
        exact AW.iret (st := []) (pc := 26) dX11_value_26 rfl ⟨_, rfl, h⟩
  · have h := hb hc
    refine AW.iconst (pc := 11) dX11_value_11 ?_
    exact AW.iret (st := []) (pc := 12) dX11_value_12 rfl ⟨_, rfl, h⟩

set_option maxRecDepth 20000 in
theorem en_X11_variable {M : Mem} {K : Int → Mem → Prop} {v1 : Int} 
    (h : CI mX4_hasType [vR 1, vI v1] M (fun r5 M5 => InR r5 ∧ (r5 ≠ 0 → (InR (M5 12 1) ∧ ((M5 12 1) < 100 → (CI mX0_addVariable [vR 12, vI v1] M5 (fun r33 M33 => K r33 M33))) ∧ (¬ ((M5 12 1) < 100) → (K (-6) M5)))) ∧ (¬ (r5 ≠ 0) → (K (-1) M5)))) :
    CI mX11_variable [vR 0, vI v1] M K := by
  show AW mX11_variable 0 [some (vR 0), some (vI v1)] [] M (QI K)
  refine AW.aload_n (pc := 0) (x := 0) dX11_variable_0 rfl ?_
  refine AW.getR (pc := 1) (h2 := 1) dX11_variable_1 fg_X11_12 kd_0 hl_0 rfl ?_
  refine AW.iload_n (pc := 4) (x := v1) dX11_variable_4 rfl ?_
  refine AW.callV (pc := 5) (As := [vI v1]) (st := []) dX11_variable_5 cl_X11_84 kd_1 hl_1 ⟨Nat.le_of_ble_eq_true rfl, Nat.le_of_ble_eq_true rfl⟩ (Nat.le_of_ble_eq_true rfl) (Nat.le_of_ble_eq_true rfl) h ?_
  rintro _ M5 ⟨r5, rfl, h⟩
  show AW mX11_variable 8 [some (vR 0), some (vI v1)] [vI r5] M5 (QI K)
  obtain ⟨o, ha, hb⟩ := h
  refine AW.if_ne (pc := 8) (tgt := 13) dX11_variable_8 (by decide) o (fun hc => ?_) (fun hc => ?_)
  · have h := ha hc
    refine AW.aload_n (pc := 13) (x := 0) dX11_variable_13 rfl ?_
    refine AW.getR (pc := 14) (h2 := 12) dX11_variable_14 fg_X11_35 kd_0 hl_0 rfl ?_
    refine AW.getI (pc := 17) dX11_variable_17 fg_X11_122 kd_12 hl_12 rfl ?_
    refine AW.bipush (pc := 20) dX11_variable_20 (by decide) ?_
    obtain ⟨o, ha, hb⟩ := h
    refine AW.icmp_lt (pc := 22) (tgt := 28) dX11_variable_22 (by decide) o (by decide) (fun hc => ?_) (fun hc => ?_)
    · have h := ha hc
      refine AW.aload_n (pc := 28) (x := 0) dX11_variable_28 rfl ?_
      refine AW.getR (pc := 29) (h2 := 12) dX11_variable_29 fg_X11_35 kd_0 hl_0 rfl ?_
      refine AW.iload_n (pc := 32) (x := v1) dX11_variable_32 rfl ?_
      refine AW.callV (pc := 33) (As := [vI v1]) (st := []) dX11_variable_33 cl_X11_129 kd_12 hl_12 ⟨Nat.le_of_ble_eq_true rfl, Nat.le_of_ble_eq_true rfl⟩ (Nat.le_of_ble_eq_true rfl) (Nat.le_of_ble_eq_true rfl) h ?_
      rintro _ M33 ⟨r33, rfl, h⟩
      show AW mX11_variable 36 [some (vR 0), some (vI v1)] [vI r33] M33 (QI K)
      exact AW.iret (st := []) (pc := 36) dX11_variable_36 rfl ⟨_, rfl, h⟩
    · have h := hb hc
      refine AW.bipush (pc := 25) dX11_variable_25 (by decide) ?_
      exact AW.iret (st := []) (pc := 27) dX11_variable_27 rfl ⟨_, rfl, h⟩
  · have h := hb hc
    refine AW.iconst (pc := 11) dX11_variable_11 ?_
    exact AW.iret (st := []) (pc := 12) dX11_variable_12 rfl ⟨_, rfl, h⟩

set_option maxRecDepth 20000 in
theorem en_X1_findSmallest {M : Mem} {K : Mem → Prop} 
    (h : CV mJ7_fill_53178 [vR 6, vI (-13)] M (fun M6 => AW mX1_findSmallest 11 [some (vR 5), some (vI 0), none] [] M6 (QV K))) :
    CV mX1_findSmallest [vR 5] M K := by
  show AW mX1_findSmallest 0 [some (vR 5), none, none] [] M (QV K)
  refine AW.aload_n (pc := 0) (x := 5) dX1_findSmallest_0 rfl ?_
  refine AW.getR (pc := 1) (h2 := 6) dX1_findSmallest_1 fg_X1_9 kd_5 hl_5 rfl ?_
  refine AW.bipush (pc := 4) dX1_findSmallest_4 (by decide) ?_
  refine AW.callS (pc := 6) (As := [vR 6, vI (-13)]) (st := []) dX1_findSmallest_6 cl_X1_22 ⟨Nat.le_of_ble_eq_true rfl, Nat.le_of_ble_eq_true rfl⟩ (Nat.le_of_ble_eq_true rfl) (Nat.le_of_ble_eq_true rfl) h ?_
  rintro _ M6 ⟨rfl, h⟩
  show AW mX1_findSmallest 9 [some (vR 5), none, none] [] M6 (QV K)
  refine AW.iconst (pc := 9) dX1_findSmallest_9 ?_
  refine AW.istore_n (pc := 10) (ls2 := [some (vR 5), some (vI 0), none]) dX1_findSmallest_10 (by decide) rfl ?_
  exact h

set_option maxRecDepth 20000 in
theorem sg_X1_findSmallest_11 {M : Mem} {K : Mem → Prop} {v1 : Int} 
    (h : InR v1 ∧ (v1 ≥ 4 → (K M)) ∧ (¬ (v1 ≥ 4) → (AW mX1_findSmallest 18 [some (vR 5), some (vI v1), some (vI 0)] [] M (QV K)))) :
    AW mX1_findSmallest 11 [some (vR 5), some (vI v1), none] [] M (QV K) := by
  refine AW.iload_n (pc := 11) (x := v1) dX1_findSmallest_11 rfl ?_
  refine AW.iconst (pc := 12) dX1_findSmallest_12 ?_
  obtain ⟨o, ha, hb⟩ := h
  refine AW.icmp_ge (pc := 13) (tgt := 46) dX1_findSmallest_13 (by decide) o (by decide) (fun hc => ?_) (fun hc => ?_)
  · have h := ha hc
    exact AW.vret (st := []) (pc := 46) dX1_findSmallest_46 rfl ⟨rfl, h⟩
  · have h := hb hc
    refine AW.iconst (pc := 16) dX1_findSmallest_16 ?_
    refine AW.istore_n (pc := 17) (ls2 := [some (vR 5), some (vI v1), some (vI 0)]) dX1_findSmallest_17 (by decide) rfl ?_
    exact h

set_option maxRecDepth 20000 in
theorem sg_X1_findSmallest_18 {M : Mem} {K : Mem → Prop} {v1 v2 : Int} 
    (h : (InR v2 ∧ InR (M 1 1)) ∧ (v2 ≥ (M 1 1) → (AW mX1_findSmallest 11 [some (vR 5), some (vI (v1 + 1)), none] [] M (QV K))) ∧ (¬ (v2 ≥ (M 1 1)) → (CV mX1_improveSmallest [vR 5, vI v2] M (fun M31 => AW mX1_findSmallest 18 [some (vR 5), some (vI v1), some (vI (v2 + 1))] [] M31 (QV K))))) :
    AW mX1_findSmallest 18 [some (vR 5), some (vI v1), some (vI v2)] [] M (QV K) := by
  refine AW.iload_n (pc := 18) (x := v2) dX1_findSmallest_18 rfl ?_
  refine AW.aload_n (pc := 19) (x := 5) dX1_findSmallest_19 rfl ?_
  refine AW.getR (pc := 20) (h2 := 1) dX1_findSmallest_20 fg_X1_18 kd_5 hl_5 rfl ?_
  refine AW.getI (pc := 23) dX1_findSmallest_23 fg_X1_34 kd_1 hl_1 rfl ?_
  obtain ⟨o, ha, hb⟩ := h
  refine AW.icmp_ge (pc := 26) (tgt := 40) dX1_findSmallest_26 (by decide) o.1 o.2 (fun hc => ?_) (fun hc => ?_)
  · have h := ha hc
    refine AW.iinc (pc := 40) (x := v1) (ls2 := [some (vR 5), some (vI (v1 + 1)), some (vI v2)]) dX1_findSmallest_40 rfl (by decide) rfl ?_
    refine AW.goto (pc := 43) (tgt := 11) dX1_findSmallest_43 (by decide) ?_
    exact AW.weak (ls2 := [some (vR 5), some (vI (v1 + 1)), none]) (by simp [lsub]) h
  · have h := hb hc
    refine AW.aload_n (pc := 29) (x := 5) dX1_findSmallest_29 rfl ?_
    refine AW.iload_n (pc := 30) (x := v2) dX1_findSmallest_30 rfl ?_
    refine AW.callV (pc := 31) (As := [vI v2]) (st := []) dX1_findSmallest_31 cl_X1_40 kd_5 hl_5 ⟨Nat.le_of_ble_eq_true rfl, Nat.le_of_ble_eq_true rfl⟩ (Nat.le_of_ble_eq_true rfl) (Nat.le_of_ble_eq_true rfl) h ?_
    rintro _ M31 ⟨rfl, h⟩
    show AW mX1_findSmallest 34 [some (vR 5), some (vI v1), some (vI v2)] [] M31 (QV K)
    refine AW.iinc (pc := 34) (x := v2) (ls2 := [some (vR 5), some (vI v1), some (vI (v2 + 1))]) dX1_findSmallest_34 rfl (by decide) rfl ?_
    refine AW.goto (pc := 37) (tgt := 18) dX1_findSmallest_37 (by decide) ?_
    exact h

set_option maxRecDepth 20000 in
theorem en_X1_findTotals {M : Mem} {K : Mem → Prop} 
    (h : CV mJ7_fill_53178 [vR 7, vI (-14)] M (fun M6 => AW mX1_findTotals 11 [some (vR 5), some (vI 0), none] [] M6 (QV K))) :
    CV mX1_findTotals [vR 5] M K := by
  show AW mX1_findTotals 0 [some (vR 5), none, none] [] M (QV K)
  refine AW.aload_n (pc := 0) (x := 5) dX1_findTotals_0 rfl ?_
  refine AW.getR (pc := 1) (h2 := 7) dX1_findTotals_1 fg_X1_15 kd_5 hl_5 rfl ?_
  refine AW.bipush (pc := 4) dX1_findTotals_4 (by decide) ?_
  refine AW.callS (pc := 6) (As := [vR 7, vI (-14)]) (st := []) dX1_findTotals_6 cl_X1_22 ⟨Nat.le_of_ble_eq_true rfl, Nat.le_of_ble_eq_true rfl⟩ (Nat.le_of_ble_eq_true rfl) (Nat.le_of_ble_eq_true rfl) h ?_
  rintro _ M6 ⟨rfl, h⟩
  show AW mX1_findTotals 9 [some (vR 5), none, none] [] M6 (QV K)
  refine AW.iconst (pc := 9) dX1_findTotals_9 ?_
  refine AW.istore_n (pc := 10) (ls2 := [some (vR 5), some (vI 0), none]) dX1_findTotals_10 (by decide) rfl ?_
  exact h

set_option maxRecDepth 20000 in
theorem sg_X1_findTotals_11 {M : Mem} {K : Mem → Prop} {v1 : Int} 
    (h : InR v1 ∧ (v1 ≥ 4 → (K M)) ∧ (¬ (v1 ≥ 4) → (AW mX1_findTotals 18 [some (vR 5), some (vI v1), some (vI 0)] [] M (QV K)))) :
    AW mX1_findTotals 11 [some (vR 5), some (vI v1), none] [] M (QV K) := by
  refine AW.iload_n (pc := 11) (x := v1) dX1_findTotals_11 rfl ?_
  refine AW.iconst (pc := 12) dX1_findTotals_12 ?_
  obtain ⟨o, ha, hb⟩ := h
  refine AW.icmp_ge (pc := 13) (tgt := 46) dX1_findTotals_13 (by decide) o (by decide) (fun hc => ?_) (fun hc => ?_)
  · have h := ha hc
    exact AW.vret (st := []) (pc := 46) dX1_findTotals_46 rfl ⟨rfl, h⟩
  · have h := hb hc
    refine AW.iconst (pc := 16) dX1_findTotals_16 ?_
    refine AW.istore_n (pc := 17) (ls2 := [some (vR 5), some (vI v1), some (vI 0)]) dX1_findTotals_17 (by decide) rfl ?_
    exact h

set_option maxRecDepth 20000 in
theorem sg_X1_findTotals_18 {M : Mem} {K : Mem → Prop} {v1 v2 : Int} 
    (h : InR v2 ∧ (v2 ≥ 4 → (AW mX1_findTotals 11 [some (vR 5), some (vI (v1 + 1)), none] [] M (QV K))) ∧ (¬ (v2 ≥ 4) → (CI mX1_totalOfType [vR 5, vI v2] M (fun r30 M30 => (0 ≤ v2 ∧ v2 < 4) ∧ AW mX1_findTotals 18 [some (vR 5), some (vI v1), some (vI (v2 + 1))] [] (up M30 7 v2 r30) (QV K))))) :
    AW mX1_findTotals 18 [some (vR 5), some (vI v1), some (vI v2)] [] M (QV K) := by
  refine AW.iload_n (pc := 18) (x := v2) dX1_findTotals_18 rfl ?_
  refine AW.iconst (pc := 19) dX1_findTotals_19 ?_
  obtain ⟨o, ha, hb⟩ := h
  refine AW.icmp_ge (pc := 20) (tgt := 40) dX1_findTotals_20 (by decide) o (by decide) (fun hc => ?_) (fun hc => ?_)
  · have h := ha hc
    refine AW.iinc (pc := 40) (x := v1) (ls2 := [some (vR 5), some (vI (v1 + 1)), some (vI v2)]) dX1_findTotals_40 rfl (by decide) rfl ?_
    refine AW.goto (pc := 43) (tgt := 11) dX1_findTotals_43 (by decide) ?_
    exact AW.weak (ls2 := [some (vR 5), some (vI (v1 + 1)), none]) (by simp [lsub]) h
  · have h := hb hc
    refine AW.aload_n (pc := 23) (x := 5) dX1_findTotals_23 rfl ?_
    refine AW.getR (pc := 24) (h2 := 7) dX1_findTotals_24 fg_X1_15 kd_5 hl_5 rfl ?_
    refine AW.iload_n (pc := 27) (x := v2) dX1_findTotals_27 rfl ?_
    refine AW.aload_n (pc := 28) (x := 5) dX1_findTotals_28 rfl ?_
    refine AW.iload_n (pc := 29) (x := v2) dX1_findTotals_29 rfl ?_
    refine AW.callV (pc := 30) (As := [vI v2]) (st := [vI v2, vR 7]) dX1_findTotals_30 cl_X1_58 kd_5 hl_5 ⟨Nat.le_of_ble_eq_true rfl, Nat.le_of_ble_eq_true rfl⟩ (Nat.le_of_ble_eq_true rfl) (Nat.le_of_ble_eq_true rfl) h ?_
    rintro _ M30 ⟨r30, rfl, h⟩
    show AW mX1_findTotals 33 [some (vR 5), some (vI v1), some (vI v2)] [vI r30, vI v2, vR 7] M30 (QV K)
    obtain ⟨o, h⟩ := h
    refine AW.iast (pc := 33) dX1_findTotals_33 kd_7 hl_7 o ?_
    refine AW.iinc (pc := 34) (x := v2) (ls2 := [some (vR 5), some (vI v1), some (vI (v2 + 1))]) dX1_findTotals_34 rfl (by decide) rfl ?_
    refine AW.goto (pc := 37) (tgt := 18) dX1_findTotals_37 (by decide) ?_
    exact h

set_option maxRecDepth 20000 in
theorem en_X1_improveSmallest {M : Mem} {K : Mem → Prop} {v1 : Int} 
    (h : CI mX1_isUsable [vR 5, vI v1] M (fun r2 M2 => InR r2 ∧ (r2 ≠ 0 → (AW mX1_improveSmallest 13 [some (vR 5), some (vI v1), some (vI 1), some (vI 0)] [] M2 (QV K))) ∧ (¬ (r2 ≠ 0) → (K M2)))) :
    CV mX1_improveSmallest [vR 5, vI v1] M K := by
  show AW mX1_improveSmallest 0 [some (vR 5), some (vI v1), none, none] [] M (QV K)
  refine AW.aload_n (pc := 0) (x := 5) dX1_improveSmallest_0 rfl ?_
  refine AW.iload_n (pc := 1) (x := v1) dX1_improveSmallest_1 rfl ?_
  refine AW.callV (pc := 2) (As := [vI v1]) (st := []) dX1_improveSmallest_2 cl_X1_44 kd_5 hl_5 ⟨Nat.le_of_ble_eq_true rfl, Nat.le_of_ble_eq_true rfl⟩ (Nat.le_of_ble_eq_true rfl) (Nat.le_of_ble_eq_true rfl) h ?_
  rintro _ M2 ⟨r2, rfl, h⟩
  show AW mX1_improveSmallest 5 [some (vR 5), some (vI v1), none, none] [vI r2] M2 (QV K)
  obtain ⟨o, ha, hb⟩ := h
  refine AW.if_ne (pc := 5) (tgt := 9) dX1_improveSmallest_5 (by decide) o (fun hc => ?_) (fun hc => ?_)
  · have h := ha hc
    refine AW.iconst (pc := 9) dX1_improveSmallest_9 ?_
    refine AW.istore_n (pc := 10) (ls2 := [some (vR 5), some (vI v1), some (vI 1), none]) dX1_improveSmallest_10 (by decide) rfl ?_
    refine AW.iconst (pc := 11) dX1_improveSmallest_11 ?_
    refine AW.istore_n (pc := 12) (ls2 := [some (vR 5), some (vI v1), some (vI 1), some (vI 0)]) dX1_improveSmallest_12 (by decide) rfl ?_
    exact h
  · have h := hb hc
    exact AW.vret (st := []) (pc := 8) dX1_improveSmallest_8 rfl ⟨rfl, h⟩

set_option maxRecDepth 20000 in
theorem sg_X1_improveSmallest_13 {M : Mem} {K : Mem → Prop} {v1 v2 v3 : Int} 
    (h : (0 ≤ v1 ∧ v1 < 12) ∧ (InR v3 ∧ InR (M 3 v1)) ∧ (v3 ≥ (M 3 v1) → ((0 ≤ v1 ∧ v1 < 12) ∧ (0 ≤ (M 2 v1) ∧ (M 2 v1) < 4) ∧ InR (M 6 (M 2 v1)) ∧ ((M 6 (M 2 v1)) = (-13) → ((0 ≤ (M 2 v1) ∧ (M 2 v1) < 4) ∧ K (up M 6 (M 2 v1) v2))) ∧ (¬ ((M 6 (M 2 v1)) = (-13)) → ((0 ≤ (M 2 v1) ∧ (M 2 v1) < 4) ∧ (InR v2 ∧ InR (M 6 (M 2 v1))) ∧ (v2 ≥ (M 6 (M 2 v1)) → (K M)) ∧ (¬ (v2 ≥ (M 6 (M 2 v1))) → ((0 ≤ (M 2 v1) ∧ (M 2 v1) < 4) ∧ K (up M 6 (M 2 v1) v2))))))) ∧ (¬ (v3 ≥ (M 3 v1)) → (CI mX4_typeOfArgument [vR 1, vI v1, vI v3] M (fun r37 M37 => (0 ≤ r37 ∧ r37 < 4) ∧ AW mX1_improveSmallest 13 [some (vR 5), some (vI v1), some (vI (v2 + (M37 6 r37))), some (vI (v3 + 1))] [] M37 (QV K))))) :
    AW mX1_improveSmallest 13 [some (vR 5), some (vI v1), some (vI v2), some (vI v3)] [] M (QV K) := by
  refine AW.iload_n (pc := 13) (x := v3) dX1_improveSmallest_13 rfl ?_
  refine AW.aload_n (pc := 14) (x := 5) dX1_improveSmallest_14 rfl ?_
  refine AW.getR (pc := 15) (h2 := 1) dX1_improveSmallest_15 fg_X1_18 kd_5 hl_5 rfl ?_
  refine AW.getR (pc := 18) (h2 := 3) dX1_improveSmallest_18 fg_X1_48 kd_1 hl_1 rfl ?_
  refine AW.iload_n (pc := 21) (x := v1) dX1_improveSmallest_21 rfl ?_
  obtain ⟨o, h⟩ := h
  refine AW.iald (pc := 22) dX1_improveSmallest_22 kd_3 hl_3 o ?_
  obtain ⟨o, ha, hb⟩ := h
  refine AW.icmp_ge (pc := 23) (tgt := 49) dX1_improveSmallest_23 (by decide) o.1 o.2 (fun hc => ?_) (fun hc => ?_)
  · have h := ha hc
    refine AW.aload_n (pc := 49) (x := 5) dX1_improveSmallest_49 rfl ?_
    refine AW.getR (pc := 50) (h2 := 1) dX1_improveSmallest_50 fg_X1_18 kd_5 hl_5 rfl ?_
    refine AW.getR (pc := 53) (h2 := 2) dX1_improveSmallest_53 fg_X1_55 kd_1 hl_1 rfl ?_
    refine AW.iload_n (pc := 56) (x := v1) dX1_improveSmallest_56 rfl ?_
    obtain ⟨o, h⟩ := h
    refine AW.iald (pc := 57) dX1_improveSmallest_57 kd_2 hl_2 o ?_
    refine AW.istore_n (pc := 58) (ls2 := [some (vR 5), some (vI v1), some (vI v2), some (vI (M 2 v1))]) dX1_improveSmallest_58 (by decide) rfl ?_
    refine AW.aload_n (pc := 59) (x := 5) dX1_improveSmallest_59 rfl ?_
    refine AW.getR (pc := 60) (h2 := 6) dX1_improveSmallest_60 fg_X1_9 kd_5 hl_5 rfl ?_
    refine AW.iload_n (pc := 63) (x := (M 2 v1)) dX1_improveSmallest_63 rfl ?_
    obtain ⟨o, h⟩ := h
    refine AW.iald (pc := 64) dX1_improveSmallest_64 kd_6 hl_6 o ?_
    refine AW.bipush (pc := 65) dX1_improveSmallest_65 (by decide) ?_
    obtain ⟨o, ha, hb⟩ := h
    refine AW.icmp_eq (pc := 67) (tgt := 80) dX1_improveSmallest_67 (by decide) o (by decide) (fun hc => ?_) (fun hc => ?_)
    · have h := ha hc
      refine AW.aload_n (pc := 80) (x := 5) dX1_improveSmallest_80 rfl ?_
      refine AW.getR (pc := 81) (h2 := 6) dX1_improveSmallest_81 fg_X1_9 kd_5 hl_5 rfl ?_
      refine AW.iload_n (pc := 84) (x := (M 2 v1)) dX1_improveSmallest_84 rfl ?_
      refine AW.iload_n (pc := 85) (x := v2) dX1_improveSmallest_85 rfl ?_
      obtain ⟨o, h⟩ := h
      refine AW.iast (pc := 86) dX1_improveSmallest_86 kd_6 hl_6 o ?_
      exact AW.vret (st := []) (pc := 87) dX1_improveSmallest_87 rfl ⟨rfl, h⟩
    · have h := hb hc
      refine AW.iload_n (pc := 70) (x := v2) dX1_improveSmallest_70 rfl ?_
      refine AW.aload_n (pc := 71) (x := 5) dX1_improveSmallest_71 rfl ?_
      refine AW.getR (pc := 72) (h2 := 6) dX1_improveSmallest_72 fg_X1_9 kd_5 hl_5 rfl ?_
      refine AW.iload_n (pc := 75) (x := (M 2 v1)) dX1_improveSmallest_75 rfl ?_
      obtain ⟨o, h⟩ := h
      refine AW.iald (pc := 76) dX1_improveSmallest_76 kd_6 hl_6 o ?_
      obtain ⟨o, ha, hb⟩ := h
      refine AW.icmp_ge (pc := 77) (tgt := 87) dX1_improveSmallest_77 (by decide) o.1 o.2 (fun hc => ?_) (fun hc => ?_)
      · have h := ha hc
        exact AW.vret (st := []) (pc := 87) dX1_improveSmallest_87 rfl ⟨rfl, h⟩
      · have h := hb hc
        refine AW.aload_n (pc := 80) (x := 5) dX1_improveSmallest_80 rfl ?_
        refine AW.getR (pc := 81) (h2 := 6) dX1_improveSmallest_81 fg_X1_9 kd_5 hl_5 rfl ?_
        refine AW.iload_n (pc := 84) (x := (M 2 v1)) dX1_improveSmallest_84 rfl ?_
        refine AW.iload_n (pc := 85) (x := v2) dX1_improveSmallest_85 rfl ?_
        obtain ⟨o, h⟩ := h
        refine AW.iast (pc := 86) dX1_improveSmallest_86 kd_6 hl_6 o ?_
        exact AW.vret (st := []) (pc := 87) dX1_improveSmallest_87 rfl ⟨rfl, h⟩
  · have h := hb hc
    refine AW.iload_n (pc := 26) (x := v2) dX1_improveSmallest_26 rfl ?_
    refine AW.aload_n (pc := 27) (x := 5) dX1_improveSmallest_27 rfl ?_
    refine AW.getR (pc := 28) (h2 := 6) dX1_improveSmallest_28 fg_X1_9 kd_5 hl_5 rfl ?_
    refine AW.aload_n (pc := 31) (x := 5) dX1_improveSmallest_31 rfl ?_
    refine AW.getR (pc := 32) (h2 := 1) dX1_improveSmallest_32 fg_X1_18 kd_5 hl_5 rfl ?_
    refine AW.iload_n (pc := 35) (x := v1) dX1_improveSmallest_35 rfl ?_
    refine AW.iload_n (pc := 36) (x := v3) dX1_improveSmallest_36 rfl ?_
    refine AW.callV (pc := 37) (As := [vI v1, vI v3]) (st := [vR 6, vI v2]) dX1_improveSmallest_37 cl_X1_51 kd_1 hl_1 ⟨Nat.le_of_ble_eq_true rfl, Nat.le_of_ble_eq_true rfl⟩ (Nat.le_of_ble_eq_true rfl) (Nat.le_of_ble_eq_true rfl) h ?_
    rintro _ M37 ⟨r37, rfl, h⟩
    show AW mX1_improveSmallest 40 [some (vR 5), some (vI v1), some (vI v2), some (vI v3)] [vI r37, vR 6, vI v2] M37 (QV K)
    obtain ⟨o, h⟩ := h
    refine AW.iald (pc := 40) dX1_improveSmallest_40 kd_6 hl_6 o ?_
    refine AW.iadd (pc := 41) dX1_improveSmallest_41 ?_
    refine AW.istore_n (pc := 42) (ls2 := [some (vR 5), some (vI v1), some (vI (v2 + (M37 6 r37))), some (vI v3)]) dX1_improveSmallest_42 (by decide) rfl ?_
    refine AW.iinc (pc := 43) (x := v3) (ls2 := [some (vR 5), some (vI v1), some (vI (v2 + (M37 6 r37))), some (vI (v3 + 1))]) dX1_improveSmallest_43 rfl (by decide) rfl ?_
    refine AW.goto (pc := 46) (tgt := 13) dX1_improveSmallest_46 (by decide) ?_
    exact h

set_option maxRecDepth 20000 in
theorem en_X1_isUsable {M : Mem} {K : Int → Mem → Prop} {v1 : Int} 
    (h : AW mX1_isUsable 2 [some (vR 5), some (vI v1), some (vI 0)] [] M (QI K)) :
    CI mX1_isUsable [vR 5, vI v1] M K := by
  show AW mX1_isUsable 0 [some (vR 5), some (vI v1), none] [] M (QI K)
  refine AW.iconst (pc := 0) dX1_isUsable_0 ?_
  refine AW.istore_n (pc := 1) (ls2 := [some (vR 5), some (vI v1), some (vI 0)]) dX1_isUsable_1 (by decide) rfl ?_
  exact h

set_option maxRecDepth 20000 in
theorem sg_X1_isUsable_2 {M : Mem} {K : Int → Mem → Prop} {v1 v2 : Int} 
    (h : (0 ≤ v1 ∧ v1 < 12) ∧ (InR v2 ∧ InR (M 3 v1)) ∧ (v2 ≥ (M 3 v1) → (K 1 M)) ∧ (¬ (v2 ≥ (M 3 v1)) → (CI mX4_typeOfArgument [vR 1, vI v1, vI v2] M (fun r25 M25 => (0 ≤ r25 ∧ r25 < 4) ∧ InR (M25 6 r25) ∧ ((M25 6 r25) ≠ (-13) → (AW mX1_isUsable 2 [some (vR 5), some (vI v1), some (vI (v2 + 1))] [] M25 (QI K))) ∧ (¬ ((M25 6 r25) ≠ (-13)) → (K 0 M25)))))) :
    AW mX1_isUsable 2 [some (vR 5), some (vI v1), some (vI v2)] [] M (QI K) := by
  refine AW.iload_n (pc := 2) (x := v2) dX1_isUsable_2 rfl ?_
  refine AW.aload_n (pc := 3) (x := 5) dX1_isUsable_3 rfl ?_
  refine AW.getR (pc := 4) (h2 := 1) dX1_isUsable_4 fg_X1_18 kd_5 hl_5 rfl ?_
  refine AW.getR (pc := 7) (h2 := 3) dX1_isUsable_7 fg_X1_48 kd_1 hl_1 rfl ?_
  refine AW.iload_n (pc := 10) (x := v1) dX1_isUsable_10 rfl ?_
  obtain ⟨o, h⟩ := h
  refine AW.iald (pc := 11) dX1_isUsable_11 kd_3 hl_3 o ?_
  obtain ⟨o, ha, hb⟩ := h
  refine AW.icmp_ge (pc := 12) (tgt := 42) dX1_isUsable_12 (by decide) o.1 o.2 (fun hc => ?_) (fun hc => ?_)
  · have h := ha hc
    refine AW.iconst (pc := 42) dX1_isUsable_42 ?_
    exact AW.zret (st := []) (pc := 43) dX1_isUsable_43 rfl (by decide) ⟨_, rfl, h⟩
  · have h := hb hc
    refine AW.aload_n (pc := 15) (x := 5) dX1_isUsable_15 rfl ?_
    refine AW.getR (pc := 16) (h2 := 6) dX1_isUsable_16 fg_X1_9 kd_5 hl_5 rfl ?_
    refine AW.aload_n (pc := 19) (x := 5) dX1_isUsable_19 rfl ?_
    refine AW.getR (pc := 20) (h2 := 1) dX1_isUsable_20 fg_X1_18 kd_5 hl_5 rfl ?_
    refine AW.iload_n (pc := 23) (x := v1) dX1_isUsable_23 rfl ?_
    refine AW.iload_n (pc := 24) (x := v2) dX1_isUsable_24 rfl ?_
    refine AW.callV (pc := 25) (As := [vI v1, vI v2]) (st := [vR 6]) dX1_isUsable_25 cl_X1_51 kd_1 hl_1 ⟨Nat.le_of_ble_eq_true rfl, Nat.le_of_ble_eq_true rfl⟩ (Nat.le_of_ble_eq_true rfl) (Nat.le_of_ble_eq_true rfl) h ?_
    rintro _ M25 ⟨r25, rfl, h⟩
    show AW mX1_isUsable 28 [some (vR 5), some (vI v1), some (vI v2)] [vI r25, vR 6] M25 (QI K)
    obtain ⟨o, h⟩ := h
    refine AW.iald (pc := 28) dX1_isUsable_28 kd_6 hl_6 o ?_
    refine AW.bipush (pc := 29) dX1_isUsable_29 (by decide) ?_
    obtain ⟨o, ha, hb⟩ := h
    refine AW.icmp_ne (pc := 31) (tgt := 36) dX1_isUsable_31 (by decide) o (by decide) (fun hc => ?_) (fun hc => ?_)
    · have h := ha hc
      refine AW.iinc (pc := 36) (x := v2) (ls2 := [some (vR 5), some (vI v1), some (vI (v2 + 1))]) dX1_isUsable_36 rfl (by decide) rfl ?_
      refine AW.goto (pc := 39) (tgt := 2) dX1_isUsable_39 (by decide) ?_
      exact h
    · have h := hb hc
      refine AW.iconst (pc := 34) dX1_isUsable_34 ?_
      exact AW.zret (st := []) (pc := 35) dX1_isUsable_35 rfl (by decide) ⟨_, rfl, h⟩

set_option maxRecDepth 20000 in
theorem en_X1_recompute {M : Mem} {K : Mem → Prop} 
    (h : CV mX1_findSmallest [vR 5] M (fun M1 => CV mX1_findTotals [vR 5] M1 (fun M5 => K M5))) :
    CV mX1_recompute [vR 5] M K := by
  show AW mX1_recompute 0 [some (vR 5)] [] M (QV K)
  refine AW.aload_n (pc := 0) (x := 5) dX1_recompute_0 rfl ?_
  refine AW.callV (pc := 1) (As := []) (st := []) dX1_recompute_1 cl_X1_28 kd_5 hl_5 ⟨Nat.le_of_ble_eq_true rfl, Nat.le_of_ble_eq_true rfl⟩ (Nat.le_of_ble_eq_true rfl) (Nat.le_of_ble_eq_true rfl) h ?_
  rintro _ M1 ⟨rfl, h⟩
  show AW mX1_recompute 4 [some (vR 5)] [] M1 (QV K)
  refine AW.aload_n (pc := 4) (x := 5) dX1_recompute_4 rfl ?_
  refine AW.callV (pc := 5) (As := []) (st := []) dX1_recompute_5 cl_X1_31 kd_5 hl_5 ⟨Nat.le_of_ble_eq_true rfl, Nat.le_of_ble_eq_true rfl⟩ (Nat.le_of_ble_eq_true rfl) (Nat.le_of_ble_eq_true rfl) h ?_
  rintro _ M5 ⟨rfl, h⟩
  show AW mX1_recompute 8 [some (vR 5)] [] M5 (QV K)
  exact AW.vret (st := []) (pc := 8) dX1_recompute_8 rfl ⟨rfl, h⟩

set_option maxRecDepth 20000 in
theorem en_X1_totalOfConstructor {M : Mem} {K : Int → Mem → Prop} {v1 : Int} 
    (h : AW mX1_totalOfConstructor 4 [some (vR 5), some (vI v1), some (vI 1), some (vI 0), none] [] M (QI K)) :
    CI mX1_totalOfConstructor [vR 5, vI v1] M K := by
  show AW mX1_totalOfConstructor 0 [some (vR 5), some (vI v1), none, none, none] [] M (QI K)
  refine AW.iconst (pc := 0) dX1_totalOfConstructor_0 ?_
  refine AW.istore_n (pc := 1) (ls2 := [some (vR 5), some (vI v1), some (vI 1), none, none]) dX1_totalOfConstructor_1 (by decide) rfl ?_
  refine AW.iconst (pc := 2) dX1_totalOfConstructor_2 ?_
  refine AW.istore_n (pc := 3) (ls2 := [some (vR 5), some (vI v1), some (vI 1), some (vI 0), none]) dX1_totalOfConstructor_3 (by decide) rfl ?_
  exact h

set_option maxRecDepth 20000 in
theorem sg_X1_totalOfConstructor_4 {M : Mem} {K : Int → Mem → Prop} {v1 v2 v3 : Int} 
    (h : (0 ≤ v1 ∧ v1 < 12) ∧ (InR v3 ∧ InR (M 3 v1)) ∧ (v3 ≥ (M 3 v1) → (K v2 M)) ∧ (¬ (v3 ≥ (M 3 v1)) → (CI mX4_typeOfArgument [vR 1, vI v1, vI v3] M (fun r27 M27 => (0 ≤ r27 ∧ r27 < 4) ∧ InR (M27 7 r27) ∧ ((M27 7 r27) ≠ (-14) → (CI mX11_limitedProduct [vI v2, vI (M27 7 r27)] M27 (fun r46 M46 => AW mX1_totalOfConstructor 4 [some (vR 5), some (vI v1), some (vI r46), some (vI (v3 + 1)), none] [] M46 (QI K)))) ∧ (¬ ((M27 7 r27) ≠ (-14)) → (K (-14) M27)))))) :
    AW mX1_totalOfConstructor 4 [some (vR 5), some (vI v1), some (vI v2), some (vI v3), none] [] M (QI K) := by
  refine AW.iload_n (pc := 4) (x := v3) dX1_totalOfConstructor_4 rfl ?_
  refine AW.aload_n (pc := 5) (x := 5) dX1_totalOfConstructor_5 rfl ?_
  refine AW.getR (pc := 6) (h2 := 1) dX1_totalOfConstructor_6 fg_X1_18 kd_5 hl_5 rfl ?_
  refine AW.getR (pc := 9) (h2 := 3) dX1_totalOfConstructor_9 fg_X1_48 kd_1 hl_1 rfl ?_
  refine AW.iload_n (pc := 12) (x := v1) dX1_totalOfConstructor_12 rfl ?_
  obtain ⟨o, h⟩ := h
  refine AW.iald (pc := 13) dX1_totalOfConstructor_13 kd_3 hl_3 o ?_
  obtain ⟨o, ha, hb⟩ := h
  refine AW.icmp_ge (pc := 14) (tgt := 56) dX1_totalOfConstructor_14 (by decide) o.1 o.2 (fun hc => ?_) (fun hc => ?_)
  · have h := ha hc
    refine AW.iload_n (pc := 56) (x := v2) dX1_totalOfConstructor_56 rfl ?_
    exact AW.iret (st := []) (pc := 57) dX1_totalOfConstructor_57 rfl ⟨_, rfl, h⟩
  · have h := hb hc
    refine AW.aload_n (pc := 17) (x := 5) dX1_totalOfConstructor_17 rfl ?_
    refine AW.getR (pc := 18) (h2 := 7) dX1_totalOfConstructor_18 fg_X1_15 kd_5 hl_5 rfl ?_
    refine AW.aload_n (pc := 21) (x := 5) dX1_totalOfConstructor_21 rfl ?_
    refine AW.getR (pc := 22) (h2 := 1) dX1_totalOfConstructor_22 fg_X1_18 kd_5 hl_5 rfl ?_
    refine AW.iload_n (pc := 25) (x := v1) dX1_totalOfConstructor_25 rfl ?_
    refine AW.iload_n (pc := 26) (x := v3) dX1_totalOfConstructor_26 rfl ?_
    refine AW.callV (pc := 27) (As := [vI v1, vI v3]) (st := [vR 7]) dX1_totalOfConstructor_27 cl_X1_51 kd_1 hl_1 ⟨Nat.le_of_ble_eq_true rfl, Nat.le_of_ble_eq_true rfl⟩ (Nat.le_of_ble_eq_true rfl) (Nat.le_of_ble_eq_true rfl) h ?_
    rintro _ M27 ⟨r27, rfl, h⟩
    show AW mX1_totalOfConstructor 30 [some (vR 5), some (vI v1), some (vI v2), some (vI v3), none] [vI r27, vR 7] M27 (QI K)
    obtain ⟨o, h⟩ := h
    refine AW.iald (pc := 30) dX1_totalOfConstructor_30 kd_7 hl_7 o ?_
    refine AW.istore (pc := 31) (ls2 := [some (vR 5), some (vI v1), some (vI v2), some (vI v3), some (vI (M27 7 r27))]) dX1_totalOfConstructor_31 (by decide) rfl ?_
    refine AW.iload (pc := 33) (x := (M27 7 r27)) dX1_totalOfConstructor_33 rfl ?_
    refine AW.bipush (pc := 35) dX1_totalOfConstructor_35 (by decide) ?_
    obtain ⟨o, ha, hb⟩ := h
    refine AW.icmp_ne (pc := 37) (tgt := 43) dX1_totalOfConstructor_37 (by decide) o (by decide) (fun hc => ?_) (fun hc => ?_)
    · have h := ha hc
      refine AW.iload_n (pc := 43) (x := v2) dX1_totalOfConstructor_43 rfl ?_
      refine AW.iload (pc := 44) (x := (M27 7 r27)) dX1_totalOfConstructor_44 rfl ?_
      refine AW.callN (pc := 46) (As := [vI v2, vI (M27 7 r27)]) (st := []) dX1_totalOfConstructor_46 cl_X1_68 ⟨Nat.le_of_ble_eq_true rfl, Nat.le_of_ble_eq_true rfl⟩ (Nat.le_of_ble_eq_true rfl) (Nat.le_of_ble_eq_true rfl) h ?_
      rintro _ M46 ⟨r46, rfl, h⟩
      show AW mX1_totalOfConstructor 49 [some (vR 5), some (vI v1), some (vI v2), some (vI v3), some (vI (M27 7 r27))] [vI r46] M46 (QI K)
      refine AW.istore_n (pc := 49) (ls2 := [some (vR 5), some (vI v1), some (vI r46), some (vI v3), some (vI (M27 7 r27))]) dX1_totalOfConstructor_49 (by decide) rfl ?_
      refine AW.iinc (pc := 50) (x := v3) (ls2 := [some (vR 5), some (vI v1), some (vI r46), some (vI (v3 + 1)), some (vI (M27 7 r27))]) dX1_totalOfConstructor_50 rfl (by decide) rfl ?_
      refine AW.goto (pc := 53) (tgt := 4) dX1_totalOfConstructor_53 (by decide) ?_
      exact AW.weak (ls2 := [some (vR 5), some (vI v1), some (vI r46), some (vI (v3 + 1)), none]) (by simp [lsub]) h
    · have h := hb hc
      refine AW.bipush (pc := 40) dX1_totalOfConstructor_40 (by decide) ?_
      exact AW.iret (st := []) (pc := 42) dX1_totalOfConstructor_42 rfl ⟨_, rfl, h⟩

set_option maxRecDepth 20000 in
theorem en_X1_totalOfType {M : Mem} {K : Int → Mem → Prop} {v1 : Int} 
    (h : AW mX1_totalOfType 4 [some (vR 5), some (vI v1), some (vI 0), some (vI 0), none] [] M (QI K)) :
    CI mX1_totalOfType [vR 5, vI v1] M K := by
  show AW mX1_totalOfType 0 [some (vR 5), some (vI v1), none, none, none] [] M (QI K)
  refine AW.iconst (pc := 0) dX1_totalOfType_0 ?_
  refine AW.istore_n (pc := 1) (ls2 := [some (vR 5), some (vI v1), some (vI 0), none, none]) dX1_totalOfType_1 (by decide) rfl ?_
  refine AW.iconst (pc := 2) dX1_totalOfType_2 ?_
  refine AW.istore_n (pc := 3) (ls2 := [some (vR 5), some (vI v1), some (vI 0), some (vI 0), none]) dX1_totalOfType_3 (by decide) rfl ?_
  exact h

set_option maxRecDepth 20000 in
theorem sg_X1_totalOfType_4 {M : Mem} {K : Int → Mem → Prop} {v1 v2 v3 : Int} 
    (h : (InR v3 ∧ InR (M 1 1)) ∧ (v3 ≥ (M 1 1) → (K v2 M)) ∧ (¬ (v3 ≥ (M 1 1)) → ((0 ≤ v3 ∧ v3 < 12) ∧ (InR (M 2 v3) ∧ InR v1) ∧ ((M 2 v3) ≠ v1 → (AW mX1_totalOfType 60 [some (vR 5), some (vI v1), some (vI v2), some (vI v3), none] [] M (QI K))) ∧ (¬ ((M 2 v3) ≠ v1) → (CI mX1_isUsable [vR 5, vI v3] M (fun r30 M30 => InR r30 ∧ (r30 = 0 → (AW mX1_totalOfType 60 [some (vR 5), some (vI v1), some (vI v2), some (vI v3), none] [] M30 (QI K))) ∧ (¬ (r30 = 0) → (CI mX1_totalOfConstructor [vR 5, vI v3] M30 (fun r38 M38 => InR r38 ∧ (r38 ≠ (-14) → (CI mX11_limitedSum [vI v2, vI r38] M38 (fun r56 M56 => AW mX1_totalOfType 60 [some (vR 5), some (vI v1), some (vI r56), some (vI v3), none] [] M56 (QI K)))) ∧ (¬ (r38 ≠ (-14)) → (K (-14) M38))))))))))) :
    AW mX1_totalOfType 4 [some (vR 5), some (vI v1), some (vI v2), some (vI v3), none] [] M (QI K) := by
  refine AW.iload_n (pc := 4) (x := v3) dX1_totalOfType_4 rfl ?_
  refine AW.aload_n (pc := 5) (x := 5) dX1_totalOfType_5 rfl ?_
  refine AW.getR (pc := 6) (h2 := 1) dX1_totalOfType_6 fg_X1_18 kd_5 hl_5 rfl ?_
  refine AW.getI (pc := 9) dX1_totalOfType_9 fg_X1_34 kd_1 hl_1 rfl ?_
  obtain ⟨o, ha, hb⟩ := h
  refine AW.icmp_ge (pc := 12) (tgt := 66) dX1_totalOfType_12 (by decide) o.1 o.2 (fun hc => ?_) (fun hc => ?_)
  · have h := ha hc
    refine AW.iload_n (pc := 66) (x := v2) dX1_totalOfType_66 rfl ?_
    exact AW.iret (st := []) (pc := 67) dX1_totalOfType_67 rfl ⟨_, rfl, h⟩
  · have h := hb hc
    refine AW.aload_n (pc := 15) (x := 5) dX1_totalOfType_15 rfl ?_
    refine AW.getR (pc := 16) (h2 := 1) dX1_totalOfType_16 fg_X1_18 kd_5 hl_5 rfl ?_
    refine AW.getR (pc := 19) (h2 := 2) dX1_totalOfType_19 fg_X1_55 kd_1 hl_1 rfl ?_
    refine AW.iload_n (pc := 22) (x := v3) dX1_totalOfType_22 rfl ?_
    obtain ⟨o, h⟩ := h
    refine AW.iald (pc := 23) dX1_totalOfType_23 kd_2 hl_2 o ?_
    refine AW.iload_n (pc := 24) (x := v1) dX1_totalOfType_24 rfl ?_
    obtain ⟨o, ha, hb⟩ := h
    refine AW.icmp_ne (pc := 25) (tgt := 60) dX1_totalOfType_25 (by decide) o.1 o.2 (fun hc => ?_) (fun hc => ?_)
    · have h := ha hc
      exact h
    · have h := hb hc
      refine AW.aload_n (pc := 28) (x := 5) dX1_totalOfType_28 rfl ?_
      refine AW.iload_n (pc := 29) (x := v3) dX1_totalOfType_29 rfl ?_
      refine AW.callV (pc := 30) (As := [vI v3]) (st := []) dX1_totalOfType_30 cl_X1_44 kd_5 hl_5 ⟨Nat.le_of_ble_eq_true rfl, Nat.le_of_ble_eq_true rfl⟩ (Nat.le_of_ble_eq_true rfl) (Nat.le_of_ble_eq_true rfl) h ?_
      rintro _ M30 ⟨r30, rfl, h⟩
      show AW mX1_totalOfType 33 [some (vR 5), some (vI v1), some (vI v2), some (vI v3), none] [vI r30] M30 (QI K)
      obtain ⟨o, ha, hb⟩ := h
      refine AW.if_eq (pc := 33) (tgt := 60) dX1_totalOfType_33 (by decide) o (fun hc => ?_) (fun hc => ?_)
      · have h := ha hc
        exact h
      · have h := hb hc
        refine AW.aload_n (pc := 36) (x := 5) dX1_totalOfType_36 rfl ?_
        refine AW.iload_n (pc := 37) (x := v3) dX1_totalOfType_37 rfl ?_
        refine AW.callV (pc := 38) (As := [vI v3]) (st := []) dX1_totalOfType_38 cl_X1_62 kd_5 hl_5 ⟨Nat.le_of_ble_eq_true rfl, Nat.le_of_ble_eq_true rfl⟩ (Nat.le_of_ble_eq_true rfl) (Nat.le_of_ble_eq_true rfl) h ?_
        rintro _ M38 ⟨r38, rfl, h⟩
        show AW mX1_totalOfType 41 [some (vR 5), some (vI v1), some (vI v2), some (vI v3), none] [vI r38] M38 (QI K)
        refine AW.istore (pc := 41) (ls2 := [some (vR 5), some (vI v1), some (vI v2), some (vI v3), some (vI r38)]) dX1_totalOfType_41 (by decide) rfl ?_
        refine AW.iload (pc := 43) (x := r38) dX1_totalOfType_43 rfl ?_
        refine AW.bipush (pc := 45) dX1_totalOfType_45 (by decide) ?_
        obtain ⟨o, ha, hb⟩ := h
        refine AW.icmp_ne (pc := 47) (tgt := 53) dX1_totalOfType_47 (by decide) o (by decide) (fun hc => ?_) (fun hc => ?_)
        · have h := ha hc
          refine AW.iload_n (pc := 53) (x := v2) dX1_totalOfType_53 rfl ?_
          refine AW.iload (pc := 54) (x := r38) dX1_totalOfType_54 rfl ?_
          refine AW.callN (pc := 56) (As := [vI v2, vI r38]) (st := []) dX1_totalOfType_56 cl_X1_65 ⟨Nat.le_of_ble_eq_true rfl, Nat.le_of_ble_eq_true rfl⟩ (Nat.le_of_ble_eq_true rfl) (Nat.le_of_ble_eq_true rfl) h ?_
          rintro _ M56 ⟨r56, rfl, h⟩
          show AW mX1_totalOfType 59 [some (vR 5), some (vI v1), some (vI v2), some (vI v3), some (vI r38)] [vI r56] M56 (QI K)
          refine AW.istore_n (pc := 59) (ls2 := [some (vR 5), some (vI v1), some (vI r56), some (vI v3), some (vI r38)]) dX1_totalOfType_59 (by decide) rfl ?_
          exact AW.weak (ls2 := [some (vR 5), some (vI v1), some (vI r56), some (vI v3), none]) (by simp [lsub]) h
        · have h := hb hc
          refine AW.bipush (pc := 50) dX1_totalOfType_50 (by decide) ?_
          exact AW.iret (st := []) (pc := 52) dX1_totalOfType_52 rfl ⟨_, rfl, h⟩

set_option maxRecDepth 20000 in
theorem sg_X1_totalOfType_60 {M : Mem} {K : Int → Mem → Prop} {v1 v2 v3 : Int} 
    (h : AW mX1_totalOfType 4 [some (vR 5), some (vI v1), some (vI v2), some (vI (v3 + 1)), none] [] M (QI K)) :
    AW mX1_totalOfType 60 [some (vR 5), some (vI v1), some (vI v2), some (vI v3), none] [] M (QI K) := by
  refine AW.iinc (pc := 60) (x := v3) (ls2 := [some (vR 5), some (vI v1), some (vI v2), some (vI (v3 + 1)), none]) dX1_totalOfType_60 rfl (by decide) rfl ?_
  refine AW.goto (pc := 63) (tgt := 4) dX1_totalOfType_63 (by decide) ?_
  exact h

set_option maxRecDepth 20000 in
theorem en_X2_append {M : Mem} {K : Int → Mem → Prop} {v1 : Int} 
    (h : (0 ≤ (M 43 1) ∧ (M 43 1) < 8) ∧ K (M 43 1) (up (up M 44 (M 43 1) v1) 43 1 ((M 43 1) + 1))) :
    CI mX2_append [vR 43, vI v1] M K := by
  show AW mX2_append 0 [some (vR 43), some (vI v1), none] [] M (QI K)
  refine AW.aload_n (pc := 0) (x := 43) dX2_append_0 rfl ?_
  refine AW.getI (pc := 1) dX2_append_1 fg_X2_39 kd_43 hl_43 rfl ?_
  refine AW.istore_n (pc := 4) (ls2 := [some (vR 43), some (vI v1), some (vI (M 43 1))]) dX2_append_4 (by decide) rfl ?_
  refine AW.aload_n (pc := 5) (x := 43) dX2_append_5 rfl ?_
  refine AW.getR (pc := 6) (h2 := 44) dX2_append_6 fg_X2_9 kd_43 hl_43 rfl ?_
  refine AW.iload_n (pc := 9) (x := (M 43 1)) dX2_append_9 rfl ?_
  refine AW.iload_n (pc := 10) (x := v1) dX2_append_10 rfl ?_
  obtain ⟨o, h⟩ := h
  refine AW.iast (pc := 11) dX2_append_11 kd_44 hl_44 o ?_
  refine AW.aload_n (pc := 12) (x := 43) dX2_append_12 rfl ?_
  refine AW.dup (pc := 13) dX2_append_13 rfl ?_
  refine AW.getI (pc := 14) dX2_append_14 fg_X2_39 kd_43 hl_43 rfl ?_
  refine AW.iconst (pc := 17) dX2_append_17 ?_
  refine AW.iadd (pc := 18) dX2_append_18 ?_
  refine AW.put (pc := 19) dX2_append_19 fp_X2_39 kd_43 hl_43 rfl ?_
  refine AW.iload_n (pc := 22) (x := (M 43 1)) dX2_append_22 rfl ?_
  exact AW.iret (st := []) (pc := 23) dX2_append_23 rfl ⟨_, rfl, h⟩

set_option maxRecDepth 20000 in
theorem en_X2_await {M : Mem} {K : Mem → Prop} {v1 v2 : Int} 
    (h : InR (M 43 8) ∧ ((M 43 8) ≥ 60 → (K M)) ∧ (¬ ((M 43 8) ≥ 60) → ((0 ≤ (M 43 8) ∧ (M 43 8) < 60) ∧ (0 ≤ (M 43 8) ∧ (M 43 8) < 60) ∧ K (up (up (up M 47 (M 43 8) v1) 48 (M 43 8) v2) 43 8 ((M 43 8) + 1))))) :
    CV mX2_await [vR 43, vI v1, vI v2] M K := by
  show AW mX2_await 0 [some (vR 43), some (vI v1), some (vI v2)] [] M (QV K)
  refine AW.aload_n (pc := 0) (x := 43) dX2_await_0 rfl ?_
  refine AW.getI (pc := 1) dX2_await_1 fg_X2_50 kd_43 hl_43 rfl ?_
  refine AW.bipush (pc := 4) dX2_await_4 (by decide) ?_
  obtain ⟨o, ha, hb⟩ := h
  refine AW.icmp_ge (pc := 6) (tgt := 39) dX2_await_6 (by decide) o (by decide) (fun hc => ?_) (fun hc => ?_)
  · have h := ha hc
    exact AW.vret (st := []) (pc := 39) dX2_await_39 rfl ⟨rfl, h⟩
  · have h := hb hc
    refine AW.aload_n (pc := 9) (x := 43) dX2_await_9 rfl ?_
    refine AW.getR (pc := 10) (h2 := 47) dX2_await_10 fg_X2_21 kd_43 hl_43 rfl ?_
    refine AW.aload_n (pc := 13) (x := 43) dX2_await_13 rfl ?_
    refine AW.getI (pc := 14) dX2_await_14 fg_X2_50 kd_43 hl_43 rfl ?_
    refine AW.iload_n (pc := 17) (x := v1) dX2_await_17 rfl ?_
    obtain ⟨o, h⟩ := h
    refine AW.iast (pc := 18) dX2_await_18 kd_47 hl_47 o ?_
    refine AW.aload_n (pc := 19) (x := 43) dX2_await_19 rfl ?_
    refine AW.getR (pc := 20) (h2 := 48) dX2_await_20 fg_X2_24 kd_43 hl_43 rfl ?_
    refine AW.aload_n (pc := 23) (x := 43) dX2_await_23 rfl ?_
    refine AW.getI (pc := 24) dX2_await_24 fg_X2_50 kd_43 hl_43 rfl ?_
    refine AW.iload_n (pc := 27) (x := v2) dX2_await_27 rfl ?_
    obtain ⟨o, h⟩ := h
    refine AW.iast (pc := 28) dX2_await_28 kd_48 hl_48 o ?_
    refine AW.aload_n (pc := 29) (x := 43) dX2_await_29 rfl ?_
    refine AW.dup (pc := 30) dX2_await_30 rfl ?_
    refine AW.getI (pc := 31) dX2_await_31 fg_X2_50 kd_43 hl_43 rfl ?_
    refine AW.iconst (pc := 34) dX2_await_34 ?_
    refine AW.iadd (pc := 35) dX2_await_35 ?_
    refine AW.put (pc := 36) dX2_await_36 fp_X2_50 kd_43 hl_43 rfl ?_
    exact AW.vret (st := []) (pc := 39) dX2_await_39 rfl ⟨rfl, h⟩

