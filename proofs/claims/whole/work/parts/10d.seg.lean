set_option maxRecDepth 20000 in
theorem en_X6_run {M : Mem} {K : Int → Mem → Prop} {v1 v2 : Int} 
    (h : (0 ≤ (0 : Int) ∧ 0 ≤ (0 : Int) ∧ 0 ≤ (100 : Int) ∧ (0 : Int) + 100 ≤ 100 ∧ (0 : Int) + 100 ≤ 100) ∧ CV mJ7_fill_d0a16 [vR 36, vL 0] (cpy M 16 33 0 0 100) (fun M23 => CV mX6_await [vR 32, vI v1, vI v2] (up M23 32 5 0) (fun M34 => AW mX6_run 42 [some (vR 32), some (vI v1), some (vI v2), some (vI 1), some (vI 0)] [] M34 (QI K)))) :
    CI mX6_run [vR 32, vI v1, vI v2] M K := by
  show AW mX6_run 0 [some (vR 32), some (vI v1), some (vI v2), none, none] [] M (QI K)
  refine AW.aload_n (pc := 0) (x := 32) dX6_run_0 rfl ?_
  refine AW.getR (pc := 1) (h2 := 12) dX6_run_1 fg_X6_25 kd_32 hl_32 rfl ?_
  refine AW.getR (pc := 4) (h2 := 16) dX6_run_4 fg_X6_38 kd_12 hl_12 rfl ?_
  refine AW.iconst (pc := 7) dX6_run_7 ?_
  refine AW.aload_n (pc := 8) (x := 32) dX6_run_8 rfl ?_
  refine AW.getR (pc := 9) (h2 := 33) dX6_run_9 fg_X6_9 kd_32 hl_32 rfl ?_
  refine AW.iconst (pc := 12) dX6_run_12 ?_
  refine AW.bipush (pc := 13) dX6_run_13 (by decide) ?_
  obtain ⟨o, h⟩ := h
  refine AW.copy (pc := 15) dX6_run_15 cc_X6_43 kd_16 kd_33 hl_16 hl_33 o (Nat.le_of_ble_eq_true rfl) (Nat.le_of_ble_eq_true rfl) (Nat.le_of_ble_eq_true rfl) ?_
  refine AW.aload_n (pc := 18) (x := 32) dX6_run_18 rfl ?_
  refine AW.getR (pc := 19) (h2 := 36) dX6_run_19 fg_X6_21 kd_32 hl_32 rfl ?_
  refine AW.lconst (pc := 22) (n := 0) dX6_run_22 (by decide) ?_
  refine AW.callS (pc := 23) (As := [vR 36, vL 0]) (st := []) dX6_run_23 cl_X6_49 ⟨Nat.le_of_ble_eq_true rfl, Nat.le_of_ble_eq_true rfl⟩ (Nat.le_of_ble_eq_true rfl) (Nat.le_of_ble_eq_true rfl) h ?_
  rintro _ M23 ⟨rfl, h⟩
  show AW mX6_run 26 [some (vR 32), some (vI v1), some (vI v2), none, none] [] M23 (QI K)
  refine AW.aload_n (pc := 26) (x := 32) dX6_run_26 rfl ?_
  refine AW.iconst (pc := 27) dX6_run_27 ?_
  refine AW.put (pc := 28) dX6_run_28 fp_X6_55 kd_32 hl_32 rfl ?_
  refine AW.aload_n (pc := 31) (x := 32) dX6_run_31 rfl ?_
  refine AW.iload_n (pc := 32) (x := v1) dX6_run_32 rfl ?_
  refine AW.iload_n (pc := 33) (x := v2) dX6_run_33 rfl ?_
  refine AW.callV (pc := 34) (As := [vI v1, vI v2]) (st := []) dX6_run_34 cl_X6_59 kd_32 hl_32 ⟨Nat.le_of_ble_eq_true rfl, Nat.le_of_ble_eq_true rfl⟩ (Nat.le_of_ble_eq_true rfl) (Nat.le_of_ble_eq_true rfl) h ?_
  rintro _ M34 ⟨rfl, h⟩
  show AW mX6_run 37 [some (vR 32), some (vI v1), some (vI v2), none, none] [] M34 (QI K)
  refine AW.iconst (pc := 37) dX6_run_37 ?_
  refine AW.istore_n (pc := 38) (ls2 := [some (vR 32), some (vI v1), some (vI v2), some (vI 1), none]) dX6_run_38 (by decide) rfl ?_
  refine AW.iconst (pc := 39) dX6_run_39 ?_
  refine AW.istore (pc := 40) (ls2 := [some (vR 32), some (vI v1), some (vI v2), some (vI 1), some (vI 0)]) dX6_run_40 (by decide) rfl ?_
  exact h

set_option maxRecDepth 20000 in
theorem sg_X6_run_42 {M : Mem} {K : Int → Mem → Prop} {v1 v2 v3 v4 : Int} 
    (h : InR v3 ∧ (v3 ≠ 1 → (InR v3 ∧ (v3 = 1 → (K v3 M)) ∧ (¬ (v3 = 1) → ((0 ≤ (0 : Int) ∧ 0 ≤ (0 : Int) ∧ 0 ≤ (100 : Int) ∧ (0 : Int) + 100 ≤ 100 ∧ (0 : Int) + 100 ≤ 100) ∧ K v3 (cpy M 33 16 0 0 100))))) ∧ (¬ (v3 ≠ 1) → (InR (M 32 5) ∧ ((M 32 5) ≤ 0 → (InR v3 ∧ (v3 = 1 → (K v3 M)) ∧ (¬ (v3 = 1) → ((0 ≤ (0 : Int) ∧ 0 ≤ (0 : Int) ∧ 0 ≤ (100 : Int) ∧ (0 : Int) + 100 ≤ 100 ∧ (0 : Int) + 100 ≤ 100) ∧ K v3 (cpy M 33 16 0 0 100))))) ∧ (¬ ((M 32 5) ≤ 0) → (InR v4 ∧ (v4 ≥ 1000000 → (InR v3 ∧ (v3 = 1 → (K v3 M)) ∧ (¬ (v3 = 1) → ((0 ≤ (0 : Int) ∧ 0 ≤ (0 : Int) ∧ 0 ≤ (100 : Int) ∧ (0 : Int) + 100 ≤ 100 ∧ (0 : Int) + 100 ≤ 100) ∧ K v3 (cpy M 33 16 0 0 100))))) ∧ (¬ (v4 ≥ 1000000) → ((0 ≤ ((M 32 5) - 1) ∧ ((M 32 5) - 1) < 300) ∧ CI mX0_resolve [vR 12, vI (M 34 ((M 32 5) - 1))] (up M 32 5 ((M 32 5) - 1)) (fun r85 M85 => (0 ≤ (M85 32 5) ∧ (M85 32 5) < 300) ∧ CI mX0_resolve [vR 12, vI (M85 35 (M85 32 5))] M85 (fun r101 M101 => CI mX6_unifyResolved [vR 32, vI r85, vI r101] M101 (fun r104 M104 => AW mX6_run 42 [some (vR 32), some (vI v1), some (vI v2), some (vI r104), some (vI (v4 + 1))] [] M104 (QI K))))))))))) :
    AW mX6_run 42 [some (vR 32), some (vI v1), some (vI v2), some (vI v3), some (vI v4)] [] M (QI K) := by
  refine AW.iload_n (pc := 42) (x := v3) dX6_run_42 rfl ?_
  refine AW.iconst (pc := 43) dX6_run_43 ?_
  obtain ⟨o, ha, hb⟩ := h
  refine AW.icmp_ne (pc := 44) (tgt := 114) dX6_run_44 (by decide) o (by decide) (fun hc => ?_) (fun hc => ?_)
  · have h := ha hc
    refine AW.iload_n (pc := 114) (x := v3) dX6_run_114 rfl ?_
    refine AW.iconst (pc := 115) dX6_run_115 ?_
    obtain ⟨o, ha, hb⟩ := h
    refine AW.icmp_eq (pc := 116) (tgt := 137) dX6_run_116 (by decide) o (by decide) (fun hc => ?_) (fun hc => ?_)
    · have h := ha hc
      refine AW.iload_n (pc := 137) (x := v3) dX6_run_137 rfl ?_
      exact AW.iret (st := []) (pc := 138) dX6_run_138 rfl ⟨_, rfl, h⟩
    · have h := hb hc
      refine AW.aload_n (pc := 119) (x := 32) dX6_run_119 rfl ?_
      refine AW.getR (pc := 120) (h2 := 33) dX6_run_120 fg_X6_9 kd_32 hl_32 rfl ?_
      refine AW.iconst (pc := 123) dX6_run_123 ?_
      refine AW.aload_n (pc := 124) (x := 32) dX6_run_124 rfl ?_
      refine AW.getR (pc := 125) (h2 := 12) dX6_run_125 fg_X6_25 kd_32 hl_32 rfl ?_
      refine AW.getR (pc := 128) (h2 := 16) dX6_run_128 fg_X6_38 kd_12 hl_12 rfl ?_
      refine AW.iconst (pc := 131) dX6_run_131 ?_
      refine AW.bipush (pc := 132) dX6_run_132 (by decide) ?_
      obtain ⟨o, h⟩ := h
      refine AW.copy (pc := 134) dX6_run_134 cc_X6_43 kd_33 kd_16 hl_33 hl_16 o (Nat.le_of_ble_eq_true rfl) (Nat.le_of_ble_eq_true rfl) (Nat.le_of_ble_eq_true rfl) ?_
      refine AW.iload_n (pc := 137) (x := v3) dX6_run_137 rfl ?_
      exact AW.iret (st := []) (pc := 138) dX6_run_138 rfl ⟨_, rfl, h⟩
  · have h := hb hc
    refine AW.aload_n (pc := 47) (x := 32) dX6_run_47 rfl ?_
    refine AW.getI (pc := 48) dX6_run_48 fg_X6_55 kd_32 hl_32 rfl ?_
    obtain ⟨o, ha, hb⟩ := h
    refine AW.if_le (pc := 51) (tgt := 114) dX6_run_51 (by decide) o (fun hc => ?_) (fun hc => ?_)
    · have h := ha hc
      refine AW.iload_n (pc := 114) (x := v3) dX6_run_114 rfl ?_
      refine AW.iconst (pc := 115) dX6_run_115 ?_
      obtain ⟨o, ha, hb⟩ := h
      refine AW.icmp_eq (pc := 116) (tgt := 137) dX6_run_116 (by decide) o (by decide) (fun hc => ?_) (fun hc => ?_)
      · have h := ha hc
        refine AW.iload_n (pc := 137) (x := v3) dX6_run_137 rfl ?_
        exact AW.iret (st := []) (pc := 138) dX6_run_138 rfl ⟨_, rfl, h⟩
      · have h := hb hc
        refine AW.aload_n (pc := 119) (x := 32) dX6_run_119 rfl ?_
        refine AW.getR (pc := 120) (h2 := 33) dX6_run_120 fg_X6_9 kd_32 hl_32 rfl ?_
        refine AW.iconst (pc := 123) dX6_run_123 ?_
        refine AW.aload_n (pc := 124) (x := 32) dX6_run_124 rfl ?_
        refine AW.getR (pc := 125) (h2 := 12) dX6_run_125 fg_X6_25 kd_32 hl_32 rfl ?_
        refine AW.getR (pc := 128) (h2 := 16) dX6_run_128 fg_X6_38 kd_12 hl_12 rfl ?_
        refine AW.iconst (pc := 131) dX6_run_131 ?_
        refine AW.bipush (pc := 132) dX6_run_132 (by decide) ?_
        obtain ⟨o, h⟩ := h
        refine AW.copy (pc := 134) dX6_run_134 cc_X6_43 kd_33 kd_16 hl_33 hl_16 o (Nat.le_of_ble_eq_true rfl) (Nat.le_of_ble_eq_true rfl) (Nat.le_of_ble_eq_true rfl) ?_
        refine AW.iload_n (pc := 137) (x := v3) dX6_run_137 rfl ?_
        exact AW.iret (st := []) (pc := 138) dX6_run_138 rfl ⟨_, rfl, h⟩
    · have h := hb hc
      refine AW.iload (pc := 54) (x := v4) dX6_run_54 rfl ?_
      refine AW.ldc (pc := 56) (n := 1000000) dX6_run_56 k_X6_63 ?_
      obtain ⟨o, ha, hb⟩ := h
      refine AW.icmp_ge (pc := 58) (tgt := 114) dX6_run_58 (by decide) o (by decide) (fun hc => ?_) (fun hc => ?_)
      · have h := ha hc
        refine AW.iload_n (pc := 114) (x := v3) dX6_run_114 rfl ?_
        refine AW.iconst (pc := 115) dX6_run_115 ?_
        obtain ⟨o, ha, hb⟩ := h
        refine AW.icmp_eq (pc := 116) (tgt := 137) dX6_run_116 (by decide) o (by decide) (fun hc => ?_) (fun hc => ?_)
        · have h := ha hc
          refine AW.iload_n (pc := 137) (x := v3) dX6_run_137 rfl ?_
          exact AW.iret (st := []) (pc := 138) dX6_run_138 rfl ⟨_, rfl, h⟩
        · have h := hb hc
          refine AW.aload_n (pc := 119) (x := 32) dX6_run_119 rfl ?_
          refine AW.getR (pc := 120) (h2 := 33) dX6_run_120 fg_X6_9 kd_32 hl_32 rfl ?_
          refine AW.iconst (pc := 123) dX6_run_123 ?_
          refine AW.aload_n (pc := 124) (x := 32) dX6_run_124 rfl ?_
          refine AW.getR (pc := 125) (h2 := 12) dX6_run_125 fg_X6_25 kd_32 hl_32 rfl ?_
          refine AW.getR (pc := 128) (h2 := 16) dX6_run_128 fg_X6_38 kd_12 hl_12 rfl ?_
          refine AW.iconst (pc := 131) dX6_run_131 ?_
          refine AW.bipush (pc := 132) dX6_run_132 (by decide) ?_
          obtain ⟨o, h⟩ := h
          refine AW.copy (pc := 134) dX6_run_134 cc_X6_43 kd_33 kd_16 hl_33 hl_16 o (Nat.le_of_ble_eq_true rfl) (Nat.le_of_ble_eq_true rfl) (Nat.le_of_ble_eq_true rfl) ?_
          refine AW.iload_n (pc := 137) (x := v3) dX6_run_137 rfl ?_
          exact AW.iret (st := []) (pc := 138) dX6_run_138 rfl ⟨_, rfl, h⟩
      · have h := hb hc
        refine AW.aload_n (pc := 61) (x := 32) dX6_run_61 rfl ?_
        refine AW.dup (pc := 62) dX6_run_62 rfl ?_
        refine AW.getI (pc := 63) dX6_run_63 fg_X6_55 kd_32 hl_32 rfl ?_
        refine AW.iconst (pc := 66) dX6_run_66 ?_
        refine AW.isub (pc := 67) dX6_run_67 ?_
        refine AW.put (pc := 68) dX6_run_68 fp_X6_55 kd_32 hl_32 rfl ?_
        refine AW.aload_n (pc := 71) (x := 32) dX6_run_71 rfl ?_
        refine AW.aload_n (pc := 72) (x := 32) dX6_run_72 rfl ?_
        refine AW.getR (pc := 73) (h2 := 12) dX6_run_73 fg_X6_25 kd_32 hl_32 rfl ?_
        refine AW.aload_n (pc := 76) (x := 32) dX6_run_76 rfl ?_
        refine AW.getR (pc := 77) (h2 := 34) dX6_run_77 fg_X6_15 kd_32 hl_32 rfl ?_
        refine AW.aload_n (pc := 80) (x := 32) dX6_run_80 rfl ?_
        refine AW.getI (pc := 81) dX6_run_81 fg_X6_55 kd_32 hl_32 rfl ?_
        obtain ⟨o, h⟩ := h
        refine AW.iald (pc := 84) dX6_run_84 kd_34 hl_34 o ?_
        refine AW.callV (pc := 85) (As := [vI (M 34 ((M 32 5) - 1))]) (st := [vR 32]) dX6_run_85 cl_X6_64 kd_12 hl_12 ⟨Nat.le_of_ble_eq_true rfl, Nat.le_of_ble_eq_true rfl⟩ (Nat.le_of_ble_eq_true rfl) (Nat.le_of_ble_eq_true rfl) h ?_
        rintro _ M85 ⟨r85, rfl, h⟩
        show AW mX6_run 88 [some (vR 32), some (vI v1), some (vI v2), some (vI v3), some (vI v4)] [vI r85, vR 32] M85 (QI K)
        refine AW.aload_n (pc := 88) (x := 32) dX6_run_88 rfl ?_
        refine AW.getR (pc := 89) (h2 := 12) dX6_run_89 fg_X6_25 kd_32 hl_32 rfl ?_
        refine AW.aload_n (pc := 92) (x := 32) dX6_run_92 rfl ?_
        refine AW.getR (pc := 93) (h2 := 35) dX6_run_93 fg_X6_18 kd_32 hl_32 rfl ?_
        refine AW.aload_n (pc := 96) (x := 32) dX6_run_96 rfl ?_
        refine AW.getI (pc := 97) dX6_run_97 fg_X6_55 kd_32 hl_32 rfl ?_
        obtain ⟨o, h⟩ := h
        refine AW.iald (pc := 100) dX6_run_100 kd_35 hl_35 o ?_
        refine AW.callV (pc := 101) (As := [vI (M85 35 (M85 32 5))]) (st := [vI r85, vR 32]) dX6_run_101 cl_X6_64 kd_12 hl_12 ⟨Nat.le_of_ble_eq_true rfl, Nat.le_of_ble_eq_true rfl⟩ (Nat.le_of_ble_eq_true rfl) (Nat.le_of_ble_eq_true rfl) h ?_
        rintro _ M101 ⟨r101, rfl, h⟩
        show AW mX6_run 104 [some (vR 32), some (vI v1), some (vI v2), some (vI v3), some (vI v4)] [vI r101, vI r85, vR 32] M101 (QI K)
        refine AW.callV (pc := 104) (As := [vI r85, vI r101]) (st := []) dX6_run_104 cl_X6_68 kd_32 hl_32 ⟨Nat.le_of_ble_eq_true rfl, Nat.le_of_ble_eq_true rfl⟩ (Nat.le_of_ble_eq_true rfl) (Nat.le_of_ble_eq_true rfl) h ?_
        rintro _ M104 ⟨r104, rfl, h⟩
        show AW mX6_run 107 [some (vR 32), some (vI v1), some (vI v2), some (vI v3), some (vI v4)] [vI r104] M104 (QI K)
        refine AW.istore_n (pc := 107) (ls2 := [some (vR 32), some (vI v1), some (vI v2), some (vI r104), some (vI v4)]) dX6_run_107 (by decide) rfl ?_
        refine AW.iinc (pc := 108) (x := v4) (ls2 := [some (vR 32), some (vI v1), some (vI v2), some (vI r104), some (vI (v4 + 1))]) dX6_run_108 rfl (by decide) rfl ?_
        refine AW.goto (pc := 111) (tgt := 42) dX6_run_111 (by decide) ?_
        exact h

set_option maxRecDepth 20000 in
theorem en_X6_unifyResolved {M : Mem} {K : Int → Mem → Prop} {v1 v2 : Int} 
    (h : (InR v1 ∧ InR v2) ∧ (v1 ≠ v2 → (CI mX0_isVariable [vR 12, vI v1] M (fun r12 M12 => InR r12 ∧ (r12 = 0 → (AW mX6_unifyResolved 49 [some (vR 32), some (vI v1), some (vI v2)] [] M12 (QI K))) ∧ (¬ (r12 = 0) → (CI mX0_isVariable [vR 12, vI v2] M12 (fun r23 M23 => InR r23 ∧ (r23 = 0 → (AW mX6_unifyResolved 49 [some (vR 32), some (vI v1), some (vI v2)] [] M23 (QI K))) ∧ (¬ (r23 = 0) → ((InR v1 ∧ InR v2) ∧ (InR v1 ∧ InR v2) ∧ (0 ≤ (if v1 < v2 then v2 else v1) ∧ (if v1 < v2 then v2 else v1) < 100) ∧ K 1 (up M23 16 (if v1 < v2 then v2 else v1) (if v2 < v1 then v2 else v1)))))))))) ∧ (¬ (v1 ≠ v2) → (K 1 M))) :
    CI mX6_unifyResolved [vR 32, vI v1, vI v2] M K := by
  show AW mX6_unifyResolved 0 [some (vR 32), some (vI v1), some (vI v2)] [] M (QI K)
  refine AW.iload_n (pc := 0) (x := v1) dX6_unifyResolved_0 rfl ?_
  refine AW.iload_n (pc := 1) (x := v2) dX6_unifyResolved_1 rfl ?_
  obtain ⟨o, ha, hb⟩ := h
  refine AW.icmp_ne (pc := 2) (tgt := 7) dX6_unifyResolved_2 (by decide) o.1 o.2 (fun hc => ?_) (fun hc => ?_)
  · have h := ha hc
    refine AW.aload_n (pc := 7) (x := 32) dX6_unifyResolved_7 rfl ?_
    refine AW.getR (pc := 8) (h2 := 12) dX6_unifyResolved_8 fg_X6_25 kd_32 hl_32 rfl ?_
    refine AW.iload_n (pc := 11) (x := v1) dX6_unifyResolved_11 rfl ?_
    refine AW.callV (pc := 12) (As := [vI v1]) (st := []) dX6_unifyResolved_12 cl_X6_72 kd_12 hl_12 ⟨Nat.le_of_ble_eq_true rfl, Nat.le_of_ble_eq_true rfl⟩ (Nat.le_of_ble_eq_true rfl) (Nat.le_of_ble_eq_true rfl) h ?_
    rintro _ M12 ⟨r12, rfl, h⟩
    show AW mX6_unifyResolved 15 [some (vR 32), some (vI v1), some (vI v2)] [vI r12] M12 (QI K)
    obtain ⟨o, ha, hb⟩ := h
    refine AW.if_eq (pc := 15) (tgt := 49) dX6_unifyResolved_15 (by decide) o (fun hc => ?_) (fun hc => ?_)
    · have h := ha hc
      exact h
    · have h := hb hc
      refine AW.aload_n (pc := 18) (x := 32) dX6_unifyResolved_18 rfl ?_
      refine AW.getR (pc := 19) (h2 := 12) dX6_unifyResolved_19 fg_X6_25 kd_32 hl_32 rfl ?_
      refine AW.iload_n (pc := 22) (x := v2) dX6_unifyResolved_22 rfl ?_
      refine AW.callV (pc := 23) (As := [vI v2]) (st := []) dX6_unifyResolved_23 cl_X6_72 kd_12 hl_12 ⟨Nat.le_of_ble_eq_true rfl, Nat.le_of_ble_eq_true rfl⟩ (Nat.le_of_ble_eq_true rfl) (Nat.le_of_ble_eq_true rfl) h ?_
      rintro _ M23 ⟨r23, rfl, h⟩
      show AW mX6_unifyResolved 26 [some (vR 32), some (vI v1), some (vI v2)] [vI r23] M23 (QI K)
      obtain ⟨o, ha, hb⟩ := h
      refine AW.if_eq (pc := 26) (tgt := 49) dX6_unifyResolved_26 (by decide) o (fun hc => ?_) (fun hc => ?_)
      · have h := ha hc
        exact h
      · have h := hb hc
        refine AW.aload_n (pc := 29) (x := 32) dX6_unifyResolved_29 rfl ?_
        refine AW.getR (pc := 30) (h2 := 12) dX6_unifyResolved_30 fg_X6_25 kd_32 hl_32 rfl ?_
        refine AW.getR (pc := 33) (h2 := 16) dX6_unifyResolved_33 fg_X6_38 kd_12 hl_12 rfl ?_
        refine AW.iload_n (pc := 36) (x := v1) dX6_unifyResolved_36 rfl ?_
        refine AW.iload_n (pc := 37) (x := v2) dX6_unifyResolved_37 rfl ?_
        obtain ⟨o, h⟩ := h
        refine AW.mmax (pc := 38) dX6_unifyResolved_38 cc_X6_76 (Nat.le_of_ble_eq_true rfl) (Nat.le_of_ble_eq_true rfl) (Nat.le_of_ble_eq_true rfl) o.1 o.2 ?_
        refine AW.iload_n (pc := 41) (x := v1) dX6_unifyResolved_41 rfl ?_
        refine AW.iload_n (pc := 42) (x := v2) dX6_unifyResolved_42 rfl ?_
        obtain ⟨o, h⟩ := h
        refine AW.mmin (pc := 43) dX6_unifyResolved_43 cc_X6_81 (Nat.le_of_ble_eq_true rfl) (Nat.le_of_ble_eq_true rfl) (Nat.le_of_ble_eq_true rfl) o.1 o.2 ?_
        obtain ⟨o, h⟩ := h
        refine AW.iast (pc := 46) dX6_unifyResolved_46 kd_16 hl_16 o ?_
        refine AW.iconst (pc := 47) dX6_unifyResolved_47 ?_
        exact AW.iret (st := []) (pc := 48) dX6_unifyResolved_48 rfl ⟨_, rfl, h⟩
  · have h := hb hc
    refine AW.iconst (pc := 5) dX6_unifyResolved_5 ?_
    exact AW.iret (st := []) (pc := 6) dX6_unifyResolved_6 rfl ⟨_, rfl, h⟩

set_option maxRecDepth 20000 in
theorem sg_X6_unifyResolved_49 {M : Mem} {K : Int → Mem → Prop} {v1 v2 : Int} 
    (h : CI mX0_isVariable [vR 12, vI v1] M (fun r54 M54 => InR r54 ∧ (r54 = 0 → (CI mX0_isVariable [vR 12, vI v2] M54 (fun r72 M72 => InR r72 ∧ (r72 = 0 → ((0 ≤ v1 ∧ v1 < 100) ∧ (0 ≤ v2 ∧ v2 < 100) ∧ (InR (M72 14 v1) ∧ InR (M72 14 v2)) ∧ ((M72 14 v1) = (M72 14 v2) → (CV mX6_open [vR 32, vI v1, vI v2] M72 (fun M112 => K 1 M112))) ∧ (¬ ((M72 14 v1) = (M72 14 v2)) → (K (-7) M72)))) ∧ (¬ (r72 = 0) → (CI mX6_bindToTerm [vR 32, vI v2, vI v1] M72 (fun r81 M81 => K r81 M81)))))) ∧ (¬ (r54 = 0) → (CI mX6_bindToTerm [vR 32, vI v1, vI v2] M54 (fun r63 M63 => K r63 M63))))) :
    AW mX6_unifyResolved 49 [some (vR 32), some (vI v1), some (vI v2)] [] M (QI K) := by
  refine AW.aload_n (pc := 49) (x := 32) dX6_unifyResolved_49 rfl ?_
  refine AW.getR (pc := 50) (h2 := 12) dX6_unifyResolved_50 fg_X6_25 kd_32 hl_32 rfl ?_
  refine AW.iload_n (pc := 53) (x := v1) dX6_unifyResolved_53 rfl ?_
  refine AW.callV (pc := 54) (As := [vI v1]) (st := []) dX6_unifyResolved_54 cl_X6_72 kd_12 hl_12 ⟨Nat.le_of_ble_eq_true rfl, Nat.le_of_ble_eq_true rfl⟩ (Nat.le_of_ble_eq_true rfl) (Nat.le_of_ble_eq_true rfl) h ?_
  rintro _ M54 ⟨r54, rfl, h⟩
  show AW mX6_unifyResolved 57 [some (vR 32), some (vI v1), some (vI v2)] [vI r54] M54 (QI K)
  obtain ⟨o, ha, hb⟩ := h
  refine AW.if_eq (pc := 57) (tgt := 67) dX6_unifyResolved_57 (by decide) o (fun hc => ?_) (fun hc => ?_)
  · have h := ha hc
    refine AW.aload_n (pc := 67) (x := 32) dX6_unifyResolved_67 rfl ?_
    refine AW.getR (pc := 68) (h2 := 12) dX6_unifyResolved_68 fg_X6_25 kd_32 hl_32 rfl ?_
    refine AW.iload_n (pc := 71) (x := v2) dX6_unifyResolved_71 rfl ?_
    refine AW.callV (pc := 72) (As := [vI v2]) (st := []) dX6_unifyResolved_72 cl_X6_72 kd_12 hl_12 ⟨Nat.le_of_ble_eq_true rfl, Nat.le_of_ble_eq_true rfl⟩ (Nat.le_of_ble_eq_true rfl) (Nat.le_of_ble_eq_true rfl) h ?_
    rintro _ M72 ⟨r72, rfl, h⟩
    show AW mX6_unifyResolved 75 [some (vR 32), some (vI v1), some (vI v2)] [vI r72] M72 (QI K)
    obtain ⟨o, ha, hb⟩ := h
    refine AW.if_eq (pc := 75) (tgt := 85) dX6_unifyResolved_75 (by decide) o (fun hc => ?_) (fun hc => ?_)
    · have h := ha hc
      refine AW.aload_n (pc := 85) (x := 32) dX6_unifyResolved_85 rfl ?_
      refine AW.getR (pc := 86) (h2 := 12) dX6_unifyResolved_86 fg_X6_25 kd_32 hl_32 rfl ?_
      refine AW.getR (pc := 89) (h2 := 14) dX6_unifyResolved_89 fg_X6_87 kd_12 hl_12 rfl ?_
      refine AW.iload_n (pc := 92) (x := v1) dX6_unifyResolved_92 rfl ?_
      obtain ⟨o, h⟩ := h
      refine AW.iald (pc := 93) dX6_unifyResolved_93 kd_14 hl_14 o ?_
      refine AW.aload_n (pc := 94) (x := 32) dX6_unifyResolved_94 rfl ?_
      refine AW.getR (pc := 95) (h2 := 12) dX6_unifyResolved_95 fg_X6_25 kd_32 hl_32 rfl ?_
      refine AW.getR (pc := 98) (h2 := 14) dX6_unifyResolved_98 fg_X6_87 kd_12 hl_12 rfl ?_
      refine AW.iload_n (pc := 101) (x := v2) dX6_unifyResolved_101 rfl ?_
      obtain ⟨o, h⟩ := h
      refine AW.iald (pc := 102) dX6_unifyResolved_102 kd_14 hl_14 o ?_
      obtain ⟨o, ha, hb⟩ := h
      refine AW.icmp_eq (pc := 103) (tgt := 109) dX6_unifyResolved_103 (by decide) o.1 o.2 (fun hc => ?_) (fun hc => ?_)
      · have h := ha hc
        refine AW.aload_n (pc := 109) (x := 32) dX6_unifyResolved_109 rfl ?_
        refine AW.iload_n (pc := 110) (x := v1) dX6_unifyResolved_110 rfl ?_
        refine AW.iload_n (pc := 111) (x := v2) dX6_unifyResolved_111 rfl ?_
        refine AW.callV (pc := 112) (As := [vI v1, vI v2]) (st := []) dX6_unifyResolved_112 cl_X6_90 kd_32 hl_32 ⟨Nat.le_of_ble_eq_true rfl, Nat.le_of_ble_eq_true rfl⟩ (Nat.le_of_ble_eq_true rfl) (Nat.le_of_ble_eq_true rfl) h ?_
        rintro _ M112 ⟨rfl, h⟩
        show AW mX6_unifyResolved 115 [some (vR 32), some (vI v1), some (vI v2)] [] M112 (QI K)
        refine AW.iconst (pc := 115) dX6_unifyResolved_115 ?_
        exact AW.iret (st := []) (pc := 116) dX6_unifyResolved_116 rfl ⟨_, rfl, h⟩
      · have h := hb hc
        refine AW.bipush (pc := 106) dX6_unifyResolved_106 (by decide) ?_
        exact AW.iret (st := []) (pc := 108) dX6_unifyResolved_108 rfl ⟨_, rfl, h⟩
    · have h := hb hc
      refine AW.aload_n (pc := 78) (x := 32) dX6_unifyResolved_78 rfl ?_
      refine AW.iload_n (pc := 79) (x := v2) dX6_unifyResolved_79 rfl ?_
      refine AW.iload_n (pc := 80) (x := v1) dX6_unifyResolved_80 rfl ?_
      refine AW.callV (pc := 81) (As := [vI v2, vI v1]) (st := []) dX6_unifyResolved_81 cl_X6_84 kd_32 hl_32 ⟨Nat.le_of_ble_eq_true rfl, Nat.le_of_ble_eq_true rfl⟩ (Nat.le_of_ble_eq_true rfl) (Nat.le_of_ble_eq_true rfl) h ?_
      rintro _ M81 ⟨r81, rfl, h⟩
      show AW mX6_unifyResolved 84 [some (vR 32), some (vI v1), some (vI v2)] [vI r81] M81 (QI K)
      exact AW.iret (st := []) (pc := 84) dX6_unifyResolved_84 rfl ⟨_, rfl, h⟩
  · have h := hb hc
    refine AW.aload_n (pc := 60) (x := 32) dX6_unifyResolved_60 rfl ?_
    refine AW.iload_n (pc := 61) (x := v1) dX6_unifyResolved_61 rfl ?_
    refine AW.iload_n (pc := 62) (x := v2) dX6_unifyResolved_62 rfl ?_
    refine AW.callV (pc := 63) (As := [vI v1, vI v2]) (st := []) dX6_unifyResolved_63 cl_X6_84 kd_32 hl_32 ⟨Nat.le_of_ble_eq_true rfl, Nat.le_of_ble_eq_true rfl⟩ (Nat.le_of_ble_eq_true rfl) (Nat.le_of_ble_eq_true rfl) h ?_
    rintro _ M63 ⟨r63, rfl, h⟩
    show AW mX6_unifyResolved 66 [some (vR 32), some (vI v1), some (vI v2)] [vI r63] M63 (QI K)
    exact AW.iret (st := []) (pc := 66) dX6_unifyResolved_66 rfl ⟨_, rfl, h⟩

set_option maxRecDepth 20000 in
theorem en_X7_await {M : Mem} {K : Mem → Prop} {v1 v2 v3 : Int} 
    (h : InR (M 17 6) ∧ ((M 17 6) ≥ 12 → (K M)) ∧ (¬ ((M 17 6) ≥ 12) → ((0 ≤ (M 17 6) ∧ (M 17 6) < 12) ∧ (0 ≤ (M 17 6) ∧ (M 17 6) < 12) ∧ (0 ≤ (M 17 6) ∧ (M 17 6) < 12) ∧ K (up (up (up (up M 18 (M 17 6) v1) 19 (M 17 6) v2) 20 (M 17 6) v3) 17 6 ((M 17 6) + 1))))) :
    CV mX7_await [vR 17, vI v1, vI v2, vI v3] M K := by
  show AW mX7_await 0 [some (vR 17), some (vI v1), some (vI v2), some (vI v3)] [] M (QV K)
  refine AW.aload_n (pc := 0) (x := 17) dX7_await_0 rfl ?_
  refine AW.getI (pc := 1) dX7_await_1 fg_X7_42 kd_17 hl_17 rfl ?_
  refine AW.bipush (pc := 4) dX7_await_4 (by decide) ?_
  obtain ⟨o, ha, hb⟩ := h
  refine AW.icmp_ge (pc := 6) (tgt := 49) dX7_await_6 (by decide) o (by decide) (fun hc => ?_) (fun hc => ?_)
  · have h := ha hc
    exact AW.vret (st := []) (pc := 49) dX7_await_49 rfl ⟨rfl, h⟩
  · have h := hb hc
    refine AW.aload_n (pc := 9) (x := 17) dX7_await_9 rfl ?_
    refine AW.getR (pc := 10) (h2 := 18) dX7_await_10 fg_X7_9 kd_17 hl_17 rfl ?_
    refine AW.aload_n (pc := 13) (x := 17) dX7_await_13 rfl ?_
    refine AW.getI (pc := 14) dX7_await_14 fg_X7_42 kd_17 hl_17 rfl ?_
    refine AW.iload_n (pc := 17) (x := v1) dX7_await_17 rfl ?_
    obtain ⟨o, h⟩ := h
    refine AW.iast (pc := 18) dX7_await_18 kd_18 hl_18 o ?_
    refine AW.aload_n (pc := 19) (x := 17) dX7_await_19 rfl ?_
    refine AW.getR (pc := 20) (h2 := 19) dX7_await_20 fg_X7_15 kd_17 hl_17 rfl ?_
    refine AW.aload_n (pc := 23) (x := 17) dX7_await_23 rfl ?_
    refine AW.getI (pc := 24) dX7_await_24 fg_X7_42 kd_17 hl_17 rfl ?_
    refine AW.iload_n (pc := 27) (x := v2) dX7_await_27 rfl ?_
    obtain ⟨o, h⟩ := h
    refine AW.iast (pc := 28) dX7_await_28 kd_19 hl_19 o ?_
    refine AW.aload_n (pc := 29) (x := 17) dX7_await_29 rfl ?_
    refine AW.getR (pc := 30) (h2 := 20) dX7_await_30 fg_X7_18 kd_17 hl_17 rfl ?_
    refine AW.aload_n (pc := 33) (x := 17) dX7_await_33 rfl ?_
    refine AW.getI (pc := 34) dX7_await_34 fg_X7_42 kd_17 hl_17 rfl ?_
    refine AW.iload_n (pc := 37) (x := v3) dX7_await_37 rfl ?_
    obtain ⟨o, h⟩ := h
    refine AW.iast (pc := 38) dX7_await_38 kd_20 hl_20 o ?_
    refine AW.aload_n (pc := 39) (x := 17) dX7_await_39 rfl ?_
    refine AW.dup (pc := 40) dX7_await_40 rfl ?_
    refine AW.getI (pc := 41) dX7_await_41 fg_X7_42 kd_17 hl_17 rfl ?_
    refine AW.iconst (pc := 44) dX7_await_44 ?_
    refine AW.iadd (pc := 45) dX7_await_45 ?_
    refine AW.put (pc := 46) dX7_await_46 fp_X7_42 kd_17 hl_17 rfl ?_
    exact AW.vret (st := []) (pc := 49) dX7_await_49 rfl ⟨rfl, h⟩

set_option maxRecDepth 20000 in
theorem en_X7_build {M : Mem} {K : Int → Mem → Prop} {v1 v2 v3 : Int} 
    (h : CI mX8_keyOf [vI v2, vI v3] (up M 17 6 0) (fun r26 M26 => CV mX7_await [vR 17, vI v1, vI r26, vI (-13)] M26 (fun M31 => AW mX7_build 38 [some (vR 17), some (vI v1), some (vI v2), some (vI v3), some (vI (M 12 1)), some (vI (((M 12 1) + v2) - 1)), some (vI (((M 12 1) + v2) - 1))] [] M31 (QI K)))) :
    CI mX7_build [vR 17, vI v1, vI v2, vI v3] M K := by
  show AW mX7_build 0 [some (vR 17), some (vI v1), some (vI v2), some (vI v3), none, none, none] [] M (QI K)
  refine AW.aload_n (pc := 0) (x := 17) dX7_build_0 rfl ?_
  refine AW.getR (pc := 1) (h2 := 12) dX7_build_1 fg_X7_32 kd_17 hl_17 rfl ?_
  refine AW.getI (pc := 4) dX7_build_4 fg_X7_36 kd_12 hl_12 rfl ?_
  refine AW.istore (pc := 7) (ls2 := [some (vR 17), some (vI v1), some (vI v2), some (vI v3), some (vI (M 12 1)), none, none]) dX7_build_7 (by decide) rfl ?_
  refine AW.iload (pc := 9) (x := (M 12 1)) dX7_build_9 rfl ?_
  refine AW.iload_n (pc := 11) (x := v2) dX7_build_11 rfl ?_
  refine AW.iadd (pc := 12) dX7_build_12 ?_
  refine AW.iconst (pc := 13) dX7_build_13 ?_
  refine AW.isub (pc := 14) dX7_build_14 ?_
  refine AW.istore (pc := 15) (ls2 := [some (vR 17), some (vI v1), some (vI v2), some (vI v3), some (vI (M 12 1)), some (vI (((M 12 1) + v2) - 1)), none]) dX7_build_15 (by decide) rfl ?_
  refine AW.aload_n (pc := 17) (x := 17) dX7_build_17 rfl ?_
  refine AW.iconst (pc := 18) dX7_build_18 ?_
  refine AW.put (pc := 19) dX7_build_19 fp_X7_42 kd_17 hl_17 rfl ?_
  refine AW.aload_n (pc := 22) (x := 17) dX7_build_22 rfl ?_
  refine AW.iload_n (pc := 23) (x := v1) dX7_build_23 rfl ?_
  refine AW.iload_n (pc := 24) (x := v2) dX7_build_24 rfl ?_
  refine AW.iload_n (pc := 25) (x := v3) dX7_build_25 rfl ?_
  refine AW.callS (pc := 26) (As := [vI v2, vI v3]) (st := [vI v1, vR 17]) dX7_build_26 cl_X7_45 ⟨Nat.le_of_ble_eq_true rfl, Nat.le_of_ble_eq_true rfl⟩ (Nat.le_of_ble_eq_true rfl) (Nat.le_of_ble_eq_true rfl) h ?_
  rintro _ M26 ⟨r26, rfl, h⟩
  show AW mX7_build 29 [some (vR 17), some (vI v1), some (vI v2), some (vI v3), some (vI (M 12 1)), some (vI (((M 12 1) + v2) - 1)), none] [vI r26, vI v1, vR 17] M26 (QI K)
  refine AW.bipush (pc := 29) dX7_build_29 (by decide) ?_
  refine AW.callV (pc := 31) (As := [vI v1, vI r26, vI (-13)]) (st := []) dX7_build_31 cl_X7_51 kd_17 hl_17 ⟨Nat.le_of_ble_eq_true rfl, Nat.le_of_ble_eq_true rfl⟩ (Nat.le_of_ble_eq_true rfl) (Nat.le_of_ble_eq_true rfl) h ?_
  rintro _ M31 ⟨rfl, h⟩
  show AW mX7_build 34 [some (vR 17), some (vI v1), some (vI v2), some (vI v3), some (vI (M 12 1)), some (vI (((M 12 1) + v2) - 1)), none] [] M31 (QI K)
  refine AW.iload (pc := 34) (x := (((M 12 1) + v2) - 1)) dX7_build_34 rfl ?_
  refine AW.istore (pc := 36) (ls2 := [some (vR 17), some (vI v1), some (vI v2), some (vI v3), some (vI (M 12 1)), some (vI (((M 12 1) + v2) - 1)), some (vI (((M 12 1) + v2) - 1))]) dX7_build_36 (by decide) rfl ?_
  exact h

set_option maxRecDepth 20000 in
theorem sg_X7_build_38 {M : Mem} {K : Int → Mem → Prop} {v1 v2 v3 v4 v5 v6 : Int} 
    (h : (InR v6 ∧ InR v4) ∧ (v6 < v4 → (K v5 (up M 12 1 ((M 12 1) + v2)))) ∧ (¬ (v6 < v4) → (InR (M 17 6) ∧ ((M 17 6) ≤ 0 → (K v5 (up M 12 1 ((M 12 1) + v2)))) ∧ (¬ ((M 17 6) ≤ 0) → ((0 ≤ ((M 17 6) - 1) ∧ ((M 17 6) - 1) < 12) ∧ (0 ≤ ((M 17 6) - 1) ∧ ((M 17 6) - 1) < 12) ∧ (0 ≤ ((M 17 6) - 1) ∧ ((M 17 6) - 1) < 12) ∧ CV mX7_place [vR 17, vI v6, vI (M 18 ((M 17 6) - 1)), vI (M 19 ((M 17 6) - 1)), vI (M 20 ((M 17 6) - 1))] (up M 17 6 ((M 17 6) - 1)) (fun M92 => AW mX7_build 38 [some (vR 17), some (vI v1), some (vI v2), some (vI v3), some (vI v4), some (vI v5), some (vI (v6 + (-1)))] [] M92 (QI K))))))) :
    AW mX7_build 38 [some (vR 17), some (vI v1), some (vI v2), some (vI v3), some (vI v4), some (vI v5), some (vI v6)] [] M (QI K) := by
  refine AW.iload (pc := 38) (x := v6) dX7_build_38 rfl ?_
  refine AW.iload (pc := 40) (x := v4) dX7_build_40 rfl ?_
  obtain ⟨o, ha, hb⟩ := h
  refine AW.icmp_lt (pc := 42) (tgt := 101) dX7_build_42 (by decide) o.1 o.2 (fun hc => ?_) (fun hc => ?_)
  · have h := ha hc
    refine AW.aload_n (pc := 101) (x := 17) dX7_build_101 rfl ?_
    refine AW.getR (pc := 102) (h2 := 12) dX7_build_102 fg_X7_32 kd_17 hl_17 rfl ?_
    refine AW.dup (pc := 105) dX7_build_105 rfl ?_
    refine AW.getI (pc := 106) dX7_build_106 fg_X7_36 kd_12 hl_12 rfl ?_
    refine AW.iload_n (pc := 109) (x := v2) dX7_build_109 rfl ?_
    refine AW.iadd (pc := 110) dX7_build_110 ?_
    refine AW.put (pc := 111) dX7_build_111 fp_X7_36 kd_12 hl_12 rfl ?_
    refine AW.iload (pc := 114) (x := v5) dX7_build_114 rfl ?_
    exact AW.iret (st := []) (pc := 116) dX7_build_116 rfl ⟨_, rfl, h⟩
  · have h := hb hc
    refine AW.aload_n (pc := 45) (x := 17) dX7_build_45 rfl ?_
    refine AW.getI (pc := 46) dX7_build_46 fg_X7_42 kd_17 hl_17 rfl ?_
    obtain ⟨o, ha, hb⟩ := h
    refine AW.if_le (pc := 49) (tgt := 101) dX7_build_49 (by decide) o (fun hc => ?_) (fun hc => ?_)
    · have h := ha hc
      refine AW.aload_n (pc := 101) (x := 17) dX7_build_101 rfl ?_
      refine AW.getR (pc := 102) (h2 := 12) dX7_build_102 fg_X7_32 kd_17 hl_17 rfl ?_
      refine AW.dup (pc := 105) dX7_build_105 rfl ?_
      refine AW.getI (pc := 106) dX7_build_106 fg_X7_36 kd_12 hl_12 rfl ?_
      refine AW.iload_n (pc := 109) (x := v2) dX7_build_109 rfl ?_
      refine AW.iadd (pc := 110) dX7_build_110 ?_
      refine AW.put (pc := 111) dX7_build_111 fp_X7_36 kd_12 hl_12 rfl ?_
      refine AW.iload (pc := 114) (x := v5) dX7_build_114 rfl ?_
      exact AW.iret (st := []) (pc := 116) dX7_build_116 rfl ⟨_, rfl, h⟩
    · have h := hb hc
      refine AW.aload_n (pc := 52) (x := 17) dX7_build_52 rfl ?_
      refine AW.dup (pc := 53) dX7_build_53 rfl ?_
      refine AW.getI (pc := 54) dX7_build_54 fg_X7_42 kd_17 hl_17 rfl ?_
      refine AW.iconst (pc := 57) dX7_build_57 ?_
      refine AW.isub (pc := 58) dX7_build_58 ?_
      refine AW.put (pc := 59) dX7_build_59 fp_X7_42 kd_17 hl_17 rfl ?_
      refine AW.aload_n (pc := 62) (x := 17) dX7_build_62 rfl ?_
      refine AW.iload (pc := 63) (x := v6) dX7_build_63 rfl ?_
      refine AW.aload_n (pc := 65) (x := 17) dX7_build_65 rfl ?_
      refine AW.getR (pc := 66) (h2 := 18) dX7_build_66 fg_X7_9 kd_17 hl_17 rfl ?_
      refine AW.aload_n (pc := 69) (x := 17) dX7_build_69 rfl ?_
      refine AW.getI (pc := 70) dX7_build_70 fg_X7_42 kd_17 hl_17 rfl ?_
      obtain ⟨o, h⟩ := h
      refine AW.iald (pc := 73) dX7_build_73 kd_18 hl_18 o ?_
      refine AW.aload_n (pc := 74) (x := 17) dX7_build_74 rfl ?_
      refine AW.getR (pc := 75) (h2 := 19) dX7_build_75 fg_X7_15 kd_17 hl_17 rfl ?_
      refine AW.aload_n (pc := 78) (x := 17) dX7_build_78 rfl ?_
      refine AW.getI (pc := 79) dX7_build_79 fg_X7_42 kd_17 hl_17 rfl ?_
      obtain ⟨o, h⟩ := h
      refine AW.iald (pc := 82) dX7_build_82 kd_19 hl_19 o ?_
      refine AW.aload_n (pc := 83) (x := 17) dX7_build_83 rfl ?_
      refine AW.getR (pc := 84) (h2 := 20) dX7_build_84 fg_X7_18 kd_17 hl_17 rfl ?_
      refine AW.aload_n (pc := 87) (x := 17) dX7_build_87 rfl ?_
      refine AW.getI (pc := 88) dX7_build_88 fg_X7_42 kd_17 hl_17 rfl ?_
      obtain ⟨o, h⟩ := h
      refine AW.iald (pc := 91) dX7_build_91 kd_20 hl_20 o ?_
      refine AW.callV (pc := 92) (As := [vI v6, vI (M 18 ((M 17 6) - 1)), vI (M 19 ((M 17 6) - 1)), vI (M 20 ((M 17 6) - 1))]) (st := []) dX7_build_92 cl_X7_55 kd_17 hl_17 ⟨Nat.le_of_ble_eq_true rfl, Nat.le_of_ble_eq_true rfl⟩ (Nat.le_of_ble_eq_true rfl) (Nat.le_of_ble_eq_true rfl) h ?_
      rintro _ M92 ⟨rfl, h⟩
      show AW mX7_build 95 [some (vR 17), some (vI v1), some (vI v2), some (vI v3), some (vI v4), some (vI v5), some (vI v6)] [] M92 (QI K)
      refine AW.iinc (pc := 95) (x := v6) (ls2 := [some (vR 17), some (vI v1), some (vI v2), some (vI v3), some (vI v4), some (vI v5), some (vI (v6 + (-1)))]) dX7_build_95 rfl (by decide) rfl ?_
      refine AW.goto (pc := 98) (tgt := 38) dX7_build_98 (by decide) ?_
      exact h

set_option maxRecDepth 20000 in
theorem en_X7_place {M : Mem} {K : Mem → Prop} {v1 v2 v3 v4 : Int} 
    (h : CI mX8_rootOf [vR 8, vI v2, vI v3] M (fun r6 M6 => InR r6 ∧ (r6 ≠ (-1) → (CV mX0_fill [vR 12, vI v1, vI r6] M6 (fun M25 => InR v4 ∧ (v4 = (-13) → (AW mX7_place 46 [some (vR 17), some (vI v1), some (vI v2), some (vI v3), some (vI v4), some (vI r6), none] [] M25 (QV K))) ∧ (¬ (v4 = (-13)) → ((0 ≤ v4 ∧ v4 < 300) ∧ AW mX7_place 46 [some (vR 17), some (vI v1), some (vI v2), some (vI v3), some (vI v4), some (vI r6), none] [] (up M25 15 v4 v1) (QV K)))))) ∧ (¬ (r6 ≠ (-1)) → (K M6)))) :
    CV mX7_place [vR 17, vI v1, vI v2, vI v3, vI v4] M K := by
  show AW mX7_place 0 [some (vR 17), some (vI v1), some (vI v2), some (vI v3), some (vI v4), none, none] [] M (QV K)
  refine AW.aload_n (pc := 0) (x := 17) dX7_place_0 rfl ?_
  refine AW.getR (pc := 1) (h2 := 8) dX7_place_1 fg_X7_28 kd_17 hl_17 rfl ?_
  refine AW.iload_n (pc := 4) (x := v2) dX7_place_4 rfl ?_
  refine AW.iload_n (pc := 5) (x := v3) dX7_place_5 rfl ?_
  refine AW.callV (pc := 6) (As := [vI v2, vI v3]) (st := []) dX7_place_6 cl_X7_59 kd_8 hl_8 ⟨Nat.le_of_ble_eq_true rfl, Nat.le_of_ble_eq_true rfl⟩ (Nat.le_of_ble_eq_true rfl) (Nat.le_of_ble_eq_true rfl) h ?_
  rintro _ M6 ⟨r6, rfl, h⟩
  show AW mX7_place 9 [some (vR 17), some (vI v1), some (vI v2), some (vI v3), some (vI v4), none, none] [vI r6] M6 (QV K)
  refine AW.istore (pc := 9) (ls2 := [some (vR 17), some (vI v1), some (vI v2), some (vI v3), some (vI v4), some (vI r6), none]) dX7_place_9 (by decide) rfl ?_
  refine AW.iload (pc := 11) (x := r6) dX7_place_11 rfl ?_
  refine AW.iconst (pc := 13) dX7_place_13 ?_
  obtain ⟨o, ha, hb⟩ := h
  refine AW.icmp_ne (pc := 14) (tgt := 18) dX7_place_14 (by decide) o (by decide) (fun hc => ?_) (fun hc => ?_)
  · have h := ha hc
    refine AW.aload_n (pc := 18) (x := 17) dX7_place_18 rfl ?_
    refine AW.getR (pc := 19) (h2 := 12) dX7_place_19 fg_X7_32 kd_17 hl_17 rfl ?_
    refine AW.iload_n (pc := 22) (x := v1) dX7_place_22 rfl ?_
    refine AW.iload (pc := 23) (x := r6) dX7_place_23 rfl ?_
    refine AW.callV (pc := 25) (As := [vI v1, vI r6]) (st := []) dX7_place_25 cl_X7_62 kd_12 hl_12 ⟨Nat.le_of_ble_eq_true rfl, Nat.le_of_ble_eq_true rfl⟩ (Nat.le_of_ble_eq_true rfl) (Nat.le_of_ble_eq_true rfl) h ?_
    rintro _ M25 ⟨rfl, h⟩
    show AW mX7_place 28 [some (vR 17), some (vI v1), some (vI v2), some (vI v3), some (vI v4), some (vI r6), none] [] M25 (QV K)
    refine AW.iload (pc := 28) (x := v4) dX7_place_28 rfl ?_
    refine AW.bipush (pc := 30) dX7_place_30 (by decide) ?_
    obtain ⟨o, ha, hb⟩ := h
    refine AW.icmp_eq (pc := 32) (tgt := 46) dX7_place_32 (by decide) o (by decide) (fun hc => ?_) (fun hc => ?_)
    · have h := ha hc
      exact h
    · have h := hb hc
      refine AW.aload_n (pc := 35) (x := 17) dX7_place_35 rfl ?_
      refine AW.getR (pc := 36) (h2 := 12) dX7_place_36 fg_X7_32 kd_17 hl_17 rfl ?_
      refine AW.getR (pc := 39) (h2 := 15) dX7_place_39 fg_X7_66 kd_12 hl_12 rfl ?_
      refine AW.iload (pc := 42) (x := v4) dX7_place_42 rfl ?_
      refine AW.iload_n (pc := 44) (x := v1) dX7_place_44 rfl ?_
      obtain ⟨o, h⟩ := h
      refine AW.iast (pc := 45) dX7_place_45 kd_15 hl_15 o ?_
      exact h
  · have h := hb hc
    exact AW.vret (st := []) (pc := 17) dX7_place_17 rfl ⟨rfl, h⟩

set_option maxRecDepth 20000 in
theorem sg_X7_place_46 {M : Mem} {K : Mem → Prop} {v1 v2 v3 v4 v5 : Int} 
    (h : CV mX8_split [vR 8, vI v3, vI v5, vR 21] M (fun M57 => AW mX7_place 63 [some (vR 17), some (vI v1), some (vI v2), some (vI v3), some (vI v4), some (vI v5), some (vI 0)] [] M57 (QV K))) :
    AW mX7_place 46 [some (vR 17), some (vI v1), some (vI v2), some (vI v3), some (vI v4), some (vI v5), none] [] M (QV K) := by
  refine AW.aload_n (pc := 46) (x := 17) dX7_place_46 rfl ?_
  refine AW.getR (pc := 47) (h2 := 8) dX7_place_47 fg_X7_28 kd_17 hl_17 rfl ?_
  refine AW.iload_n (pc := 50) (x := v3) dX7_place_50 rfl ?_
  refine AW.iload (pc := 51) (x := v5) dX7_place_51 rfl ?_
  refine AW.aload_n (pc := 53) (x := 17) dX7_place_53 rfl ?_
  refine AW.getR (pc := 54) (h2 := 21) dX7_place_54 fg_X7_21 kd_17 hl_17 rfl ?_
  refine AW.callV (pc := 57) (As := [vI v3, vI v5, vR 21]) (st := []) dX7_place_57 cl_X7_69 kd_8 hl_8 ⟨Nat.le_of_ble_eq_true rfl, Nat.le_of_ble_eq_true rfl⟩ (Nat.le_of_ble_eq_true rfl) (Nat.le_of_ble_eq_true rfl) h ?_
  rintro _ M57 ⟨rfl, h⟩
  show AW mX7_place 60 [some (vR 17), some (vI v1), some (vI v2), some (vI v3), some (vI v4), some (vI v5), none] [] M57 (QV K)
  refine AW.iconst (pc := 60) dX7_place_60 ?_
  refine AW.istore (pc := 61) (ls2 := [some (vR 17), some (vI v1), some (vI v2), some (vI v3), some (vI v4), some (vI v5), some (vI 0)]) dX7_place_61 (by decide) rfl ?_
  exact h

set_option maxRecDepth 20000 in
theorem sg_X7_place_63 {M : Mem} {K : Mem → Prop} {v1 v2 v3 v4 v5 v6 : Int} 
    (h : (0 ≤ v5 ∧ v5 < 12) ∧ (InR v6 ∧ InR (M 3 v5)) ∧ (v6 ≥ (M 3 v5) → (K M)) ∧ (¬ (v6 ≥ (M 3 v5)) → (CI mX4_typeOfArgument [vR 1, vI v5, vI v6] M (fun r87 M87 => (0 ≤ v6 ∧ v6 < 3) ∧ CV mX7_await [vR 17, vI r87, vI (M87 21 v6), vI ((v1 * 3) + v6)] M87 (fun M103 => AW mX7_place 63 [some (vR 17), some (vI v1), some (vI v2), some (vI v3), some (vI v4), some (vI v5), some (vI (v6 + 1))] [] M103 (QV K)))))) :
    AW mX7_place 63 [some (vR 17), some (vI v1), some (vI v2), some (vI v3), some (vI v4), some (vI v5), some (vI v6)] [] M (QV K) := by
  refine AW.iload (pc := 63) (x := v6) dX7_place_63 rfl ?_
  refine AW.aload_n (pc := 65) (x := 17) dX7_place_65 rfl ?_
  refine AW.getR (pc := 66) (h2 := 1) dX7_place_66 fg_X7_24 kd_17 hl_17 rfl ?_
  refine AW.getR (pc := 69) (h2 := 3) dX7_place_69 fg_X7_73 kd_1 hl_1 rfl ?_
  refine AW.iload (pc := 72) (x := v5) dX7_place_72 rfl ?_
  obtain ⟨o, h⟩ := h
  refine AW.iald (pc := 74) dX7_place_74 kd_3 hl_3 o ?_
  obtain ⟨o, ha, hb⟩ := h
  refine AW.icmp_ge (pc := 75) (tgt := 112) dX7_place_75 (by decide) o.1 o.2 (fun hc => ?_) (fun hc => ?_)
  · have h := ha hc
    exact AW.vret (st := []) (pc := 112) dX7_place_112 rfl ⟨rfl, h⟩
  · have h := hb hc
    refine AW.aload_n (pc := 78) (x := 17) dX7_place_78 rfl ?_
    refine AW.aload_n (pc := 79) (x := 17) dX7_place_79 rfl ?_
    refine AW.getR (pc := 80) (h2 := 1) dX7_place_80 fg_X7_24 kd_17 hl_17 rfl ?_
    refine AW.iload (pc := 83) (x := v5) dX7_place_83 rfl ?_
    refine AW.iload (pc := 85) (x := v6) dX7_place_85 rfl ?_
    refine AW.callV (pc := 87) (As := [vI v5, vI v6]) (st := [vR 17]) dX7_place_87 cl_X7_78 kd_1 hl_1 ⟨Nat.le_of_ble_eq_true rfl, Nat.le_of_ble_eq_true rfl⟩ (Nat.le_of_ble_eq_true rfl) (Nat.le_of_ble_eq_true rfl) h ?_
    rintro _ M87 ⟨r87, rfl, h⟩
    show AW mX7_place 90 [some (vR 17), some (vI v1), some (vI v2), some (vI v3), some (vI v4), some (vI v5), some (vI v6)] [vI r87, vR 17] M87 (QV K)
    refine AW.aload_n (pc := 90) (x := 17) dX7_place_90 rfl ?_
    refine AW.getR (pc := 91) (h2 := 21) dX7_place_91 fg_X7_21 kd_17 hl_17 rfl ?_
    refine AW.iload (pc := 94) (x := v6) dX7_place_94 rfl ?_
    obtain ⟨o, h⟩ := h
    refine AW.iald (pc := 96) dX7_place_96 kd_21 hl_21 o ?_
    refine AW.iload_n (pc := 97) (x := v1) dX7_place_97 rfl ?_
    refine AW.iconst (pc := 98) dX7_place_98 ?_
    refine AW.imul (pc := 99) dX7_place_99 ?_
    refine AW.iload (pc := 100) (x := v6) dX7_place_100 rfl ?_
    refine AW.iadd (pc := 102) dX7_place_102 ?_
    refine AW.callV (pc := 103) (As := [vI r87, vI (M87 21 v6), vI ((v1 * 3) + v6)]) (st := []) dX7_place_103 cl_X7_51 kd_17 hl_17 ⟨Nat.le_of_ble_eq_true rfl, Nat.le_of_ble_eq_true rfl⟩ (Nat.le_of_ble_eq_true rfl) (Nat.le_of_ble_eq_true rfl) h ?_
    rintro _ M103 ⟨rfl, h⟩
    show AW mX7_place 106 [some (vR 17), some (vI v1), some (vI v2), some (vI v3), some (vI v4), some (vI v5), some (vI v6)] [] M103 (QV K)
    refine AW.iinc (pc := 106) (x := v6) (ls2 := [some (vR 17), some (vI v1), some (vI v2), some (vI v3), some (vI v4), some (vI v5), some (vI (v6 + 1))]) dX7_place_106 rfl (by decide) rfl ?_
    refine AW.goto (pc := 109) (tgt := 63) dX7_place_109 (by decide) ?_
    exact h

set_option maxRecDepth 20000 in
theorem en_X8_countOf {M : Mem} {K : Int → Mem → Prop} {v1 v2 : Int} 
    (h : (0 ≤ ((v1 * 13) + v2) ∧ ((v1 * 13) + v2) < 52) ∧ K (M 9 ((v1 * 13) + v2)) M) :
    CI mX8_countOf [vR 8, vI v1, vI v2] M K := by
  show AW mX8_countOf 0 [some (vR 8), some (vI v1), some (vI v2)] [] M (QI K)
  refine AW.aload_n (pc := 0) (x := 8) dX8_countOf_0 rfl ?_
  refine AW.getR (pc := 1) (h2 := 9) dX8_countOf_1 fg_X8_9 kd_8 hl_8 rfl ?_
  refine AW.iload_n (pc := 4) (x := v1) dX8_countOf_4 rfl ?_
  refine AW.bipush (pc := 5) dX8_countOf_5 (by decide) ?_
  refine AW.imul (pc := 7) dX8_countOf_7 ?_
  refine AW.iload_n (pc := 8) (x := v2) dX8_countOf_8 rfl ?_
  refine AW.iadd (pc := 9) dX8_countOf_9 ?_
  obtain ⟨o, h⟩ := h
  refine AW.iald (pc := 10) dX8_countOf_10 kd_9 hl_9 o ?_
  exact AW.iret (st := []) (pc := 11) dX8_countOf_11 rfl ⟨_, rfl, h⟩

set_option maxRecDepth 20000 in
theorem en_X8_fillWays {M : Mem} {K : Mem → Prop} {v1 v2 : Int} 
    (h : (0 ≤ v1 ∧ v1 < 12) ∧ CI mX8_wayPlace [vI v1, vI (M 3 v1), vI v2] M (fun r17 M17 => InR v2 ∧ (v2 ≠ 0 → ((0 ≤ r17 ∧ r17 < 624) ∧ AW mX8_fillWays 35 [some (vR 8), some (vI v1), some (vI v2), some (vI (M 3 v1)), some (vI ((M 3 v1) - 1)), none, none] [] (up M17 11 r17 0) (QV K))) ∧ (¬ (v2 ≠ 0) → ((0 ≤ r17 ∧ r17 < 624) ∧ AW mX8_fillWays 35 [some (vR 8), some (vI v1), some (vI v2), some (vI (M 3 v1)), some (vI ((M 3 v1) - 1)), none, none] [] (up M17 11 r17 1) (QV K))))) :
    CV mX8_fillWays [vR 8, vI v1, vI v2] M K := by
  show AW mX8_fillWays 0 [some (vR 8), some (vI v1), some (vI v2), none, none, none, none] [] M (QV K)
  refine AW.aload_n (pc := 0) (x := 8) dX8_fillWays_0 rfl ?_
  refine AW.getR (pc := 1) (h2 := 1) dX8_fillWays_1 fg_X8_21 kd_8 hl_8 rfl ?_
  refine AW.getR (pc := 4) (h2 := 3) dX8_fillWays_4 fg_X8_53 kd_1 hl_1 rfl ?_
  refine AW.iload_n (pc := 7) (x := v1) dX8_fillWays_7 rfl ?_
  obtain ⟨o, h⟩ := h
  refine AW.iald (pc := 8) dX8_fillWays_8 kd_3 hl_3 o ?_
  refine AW.istore_n (pc := 9) (ls2 := [some (vR 8), some (vI v1), some (vI v2), some (vI (M 3 v1)), none, none, none]) dX8_fillWays_9 (by decide) rfl ?_
  refine AW.aload_n (pc := 10) (x := 8) dX8_fillWays_10 rfl ?_
  refine AW.getR (pc := 11) (h2 := 11) dX8_fillWays_11 fg_X8_18 kd_8 hl_8 rfl ?_
  refine AW.iload_n (pc := 14) (x := v1) dX8_fillWays_14 rfl ?_
  refine AW.iload_n (pc := 15) (x := (M 3 v1)) dX8_fillWays_15 rfl ?_
  refine AW.iload_n (pc := 16) (x := v2) dX8_fillWays_16 rfl ?_
  refine AW.callS (pc := 17) (As := [vI v1, vI (M 3 v1), vI v2]) (st := [vR 11]) dX8_fillWays_17 cl_X8_56 ⟨Nat.le_of_ble_eq_true rfl, Nat.le_of_ble_eq_true rfl⟩ (Nat.le_of_ble_eq_true rfl) (Nat.le_of_ble_eq_true rfl) h ?_
  rintro _ M17 ⟨r17, rfl, h⟩
  show AW mX8_fillWays 20 [some (vR 8), some (vI v1), some (vI v2), some (vI (M 3 v1)), none, none, none] [vI r17, vR 11] M17 (QV K)
  refine AW.iload_n (pc := 20) (x := v2) dX8_fillWays_20 rfl ?_
  obtain ⟨o, ha, hb⟩ := h
  refine AW.if_ne (pc := 21) (tgt := 28) dX8_fillWays_21 (by decide) o (fun hc => ?_) (fun hc => ?_)
  · have h := ha hc
    refine AW.iconst (pc := 28) dX8_fillWays_28 ?_
    obtain ⟨o, h⟩ := h
    refine AW.iast (pc := 29) dX8_fillWays_29 kd_11 hl_11 o ?_
    refine AW.iload_n (pc := 30) (x := (M 3 v1)) dX8_fillWays_30 rfl ?_
    refine AW.iconst (pc := 31) dX8_fillWays_31 ?_
    refine AW.isub (pc := 32) dX8_fillWays_32 ?_
    refine AW.istore (pc := 33) (ls2 := [some (vR 8), some (vI v1), some (vI v2), some (vI (M 3 v1)), some (vI ((M 3 v1) - 1)), none, none]) dX8_fillWays_33 (by decide) rfl ?_
    exact h
  · have h := hb hc
    refine AW.iconst (pc := 24) dX8_fillWays_24 ?_
    refine AW.goto (pc := 25) (tgt := 29) dX8_fillWays_25 (by decide) ?_
    obtain ⟨o, h⟩ := h
    refine AW.iast (pc := 29) dX8_fillWays_29 kd_11 hl_11 o ?_
    refine AW.iload_n (pc := 30) (x := (M 3 v1)) dX8_fillWays_30 rfl ?_
    refine AW.iconst (pc := 31) dX8_fillWays_31 ?_
    refine AW.isub (pc := 32) dX8_fillWays_32 ?_
    refine AW.istore (pc := 33) (ls2 := [some (vR 8), some (vI v1), some (vI v2), some (vI (M 3 v1)), some (vI ((M 3 v1) - 1)), none, none]) dX8_fillWays_33 (by decide) rfl ?_
    exact h

set_option maxRecDepth 20000 in
theorem sg_X8_fillWays_35 {M : Mem} {K : Mem → Prop} {v1 v2 v3 v4 : Int} 
    (h : InR v4 ∧ (v4 < 0 → (K M)) ∧ (¬ (v4 < 0) → (AW mX8_fillWays 46 [some (vR 8), some (vI v1), some (vI v2), some (vI v3), some (vI v4), some (vI 0), some (vI 1)] [] M (QV K)))) :
    AW mX8_fillWays 35 [some (vR 8), some (vI v1), some (vI v2), some (vI v3), some (vI v4), none, none] [] M (QV K) := by
  refine AW.iload (pc := 35) (x := v4) dX8_fillWays_35 rfl ?_
  obtain ⟨o, ha, hb⟩ := h
  refine AW.if_lt (pc := 37) (tgt := 95) dX8_fillWays_37 (by decide) o (fun hc => ?_) (fun hc => ?_)
  · have h := ha hc
    exact AW.vret (st := []) (pc := 95) dX8_fillWays_95 rfl ⟨rfl, h⟩
  · have h := hb hc
    refine AW.iconst (pc := 40) dX8_fillWays_40 ?_
    refine AW.istore (pc := 41) (ls2 := [some (vR 8), some (vI v1), some (vI v2), some (vI v3), some (vI v4), some (vI 0), none]) dX8_fillWays_41 (by decide) rfl ?_
    refine AW.iconst (pc := 43) dX8_fillWays_43 ?_
    refine AW.istore (pc := 44) (ls2 := [some (vR 8), some (vI v1), some (vI v2), some (vI v3), some (vI v4), some (vI 0), some (vI 1)]) dX8_fillWays_44 (by decide) rfl ?_
    exact h

set_option maxRecDepth 20000 in
theorem sg_X8_fillWays_46 {M : Mem} {K : Mem → Prop} {v1 v2 v3 v4 v5 v6 : Int} 
    (h : (InR v6 ∧ InR v2) ∧ (v6 > v2 → (CI mX8_wayPlace [vI v1, vI v4, vI v2] M (fun r83 M83 => (0 ≤ r83 ∧ r83 < 624) ∧ AW mX8_fillWays 35 [some (vR 8), some (vI v1), some (vI v2), some (vI v3), some (vI (v4 + (-1))), none, none] [] (up M83 11 r83 v5) (QV K)))) ∧ (¬ (v6 > v2) → (CI mX8_waysOfSplit [vR 8, vI v1, vI v4, vI v6, vI v2] M (fun r61 M61 => CI mX11_limitedSum [vI v5, vI r61] M61 (fun r64 M64 => AW mX8_fillWays 46 [some (vR 8), some (vI v1), some (vI v2), some (vI v3), some (vI v4), some (vI r64), some (vI (v6 + 1))] [] M64 (QV K)))))) :
    AW mX8_fillWays 46 [some (vR 8), some (vI v1), some (vI v2), some (vI v3), some (vI v4), some (vI v5), some (vI v6)] [] M (QV K) := by
  refine AW.iload (pc := 46) (x := v6) dX8_fillWays_46 rfl ?_
  refine AW.iload_n (pc := 48) (x := v2) dX8_fillWays_48 rfl ?_
  obtain ⟨o, ha, hb⟩ := h
  refine AW.icmp_gt (pc := 49) (tgt := 75) dX8_fillWays_49 (by decide) o.1 o.2 (fun hc => ?_) (fun hc => ?_)
  · have h := ha hc
    refine AW.aload_n (pc := 75) (x := 8) dX8_fillWays_75 rfl ?_
    refine AW.getR (pc := 76) (h2 := 11) dX8_fillWays_76 fg_X8_18 kd_8 hl_8 rfl ?_
    refine AW.iload_n (pc := 79) (x := v1) dX8_fillWays_79 rfl ?_
    refine AW.iload (pc := 80) (x := v4) dX8_fillWays_80 rfl ?_
    refine AW.iload_n (pc := 82) (x := v2) dX8_fillWays_82 rfl ?_
    refine AW.callS (pc := 83) (As := [vI v1, vI v4, vI v2]) (st := [vR 11]) dX8_fillWays_83 cl_X8_56 ⟨Nat.le_of_ble_eq_true rfl, Nat.le_of_ble_eq_true rfl⟩ (Nat.le_of_ble_eq_true rfl) (Nat.le_of_ble_eq_true rfl) h ?_
    rintro _ M83 ⟨r83, rfl, h⟩
    show AW mX8_fillWays 86 [some (vR 8), some (vI v1), some (vI v2), some (vI v3), some (vI v4), some (vI v5), some (vI v6)] [vI r83, vR 11] M83 (QV K)
    refine AW.iload (pc := 86) (x := v5) dX8_fillWays_86 rfl ?_
    obtain ⟨o, h⟩ := h
    refine AW.iast (pc := 88) dX8_fillWays_88 kd_11 hl_11 o ?_
    refine AW.iinc (pc := 89) (x := v4) (ls2 := [some (vR 8), some (vI v1), some (vI v2), some (vI v3), some (vI (v4 + (-1))), some (vI v5), some (vI v6)]) dX8_fillWays_89 rfl (by decide) rfl ?_
    refine AW.goto (pc := 92) (tgt := 35) dX8_fillWays_92 (by decide) ?_
    exact AW.weak (ls2 := [some (vR 8), some (vI v1), some (vI v2), some (vI v3), some (vI (v4 + (-1))), none, none]) (by simp [lsub]) h
  · have h := hb hc
    refine AW.iload (pc := 52) (x := v5) dX8_fillWays_52 rfl ?_
    refine AW.aload_n (pc := 54) (x := 8) dX8_fillWays_54 rfl ?_
    refine AW.iload_n (pc := 55) (x := v1) dX8_fillWays_55 rfl ?_
    refine AW.iload (pc := 56) (x := v4) dX8_fillWays_56 rfl ?_
    refine AW.iload (pc := 58) (x := v6) dX8_fillWays_58 rfl ?_
    refine AW.iload_n (pc := 60) (x := v2) dX8_fillWays_60 rfl ?_
    refine AW.callV (pc := 61) (As := [vI v1, vI v4, vI v6, vI v2]) (st := [vI v5]) dX8_fillWays_61 cl_X8_59 kd_8 hl_8 ⟨Nat.le_of_ble_eq_true rfl, Nat.le_of_ble_eq_true rfl⟩ (Nat.le_of_ble_eq_true rfl) (Nat.le_of_ble_eq_true rfl) h ?_
    rintro _ M61 ⟨r61, rfl, h⟩
    show AW mX8_fillWays 64 [some (vR 8), some (vI v1), some (vI v2), some (vI v3), some (vI v4), some (vI v5), some (vI v6)] [vI r61, vI v5] M61 (QV K)
    refine AW.callN (pc := 64) (As := [vI v5, vI r61]) (st := []) dX8_fillWays_64 cl_X8_49 ⟨Nat.le_of_ble_eq_true rfl, Nat.le_of_ble_eq_true rfl⟩ (Nat.le_of_ble_eq_true rfl) (Nat.le_of_ble_eq_true rfl) h ?_
    rintro _ M64 ⟨r64, rfl, h⟩
    show AW mX8_fillWays 67 [some (vR 8), some (vI v1), some (vI v2), some (vI v3), some (vI v4), some (vI v5), some (vI v6)] [vI r64] M64 (QV K)
    refine AW.istore (pc := 67) (ls2 := [some (vR 8), some (vI v1), some (vI v2), some (vI v3), some (vI v4), some (vI r64), some (vI v6)]) dX8_fillWays_67 (by decide) rfl ?_
    refine AW.iinc (pc := 69) (x := v6) (ls2 := [some (vR 8), some (vI v1), some (vI v2), some (vI v3), some (vI v4), some (vI r64), some (vI (v6 + 1))]) dX8_fillWays_69 rfl (by decide) rfl ?_
    refine AW.goto (pc := 72) (tgt := 46) dX8_fillWays_72 (by decide) ?_
    exact h

set_option maxRecDepth 20000 in
theorem en_X8_indexOf {M : Mem} {K : Int → Mem → Prop} {v1 v2 : Int} 
    (h : (0 ≤ ((v1 * 13) + v2) ∧ ((v1 * 13) + v2) < 156) ∧ AW mX8_indexOf 21 [some (vR 8), some (vI v1), some (vI v2), some (vR 26), some (vR 27), some (vI (M 10 ((v1 * 13) + v2))), some (vI (v2 - 1)), some (vI 0), none] [] M (QI K)) :
    CI mX8_indexOf [vR 8, vI v1, vI v2, vR 26, vR 27] M K := by
  show AW mX8_indexOf 0 [some (vR 8), some (vI v1), some (vI v2), some (vR 26), some (vR 27), none, none, none, none] [] M (QI K)
  refine AW.aload_n (pc := 0) (x := 8) dX8_indexOf_0 rfl ?_
  refine AW.getR (pc := 1) (h2 := 10) dX8_indexOf_1 fg_X8_15 kd_8 hl_8 rfl ?_
  refine AW.iload_n (pc := 4) (x := v1) dX8_indexOf_4 rfl ?_
  refine AW.bipush (pc := 5) dX8_indexOf_5 (by decide) ?_
  refine AW.imul (pc := 7) dX8_indexOf_7 ?_
  refine AW.iload_n (pc := 8) (x := v2) dX8_indexOf_8 rfl ?_
  refine AW.iadd (pc := 9) dX8_indexOf_9 ?_
  obtain ⟨o, h⟩ := h
  refine AW.iald (pc := 10) dX8_indexOf_10 kd_10 hl_10 o ?_
  refine AW.istore (pc := 11) (ls2 := [some (vR 8), some (vI v1), some (vI v2), some (vR 26), some (vR 27), some (vI (M 10 ((v1 * 13) + v2))), none, none, none]) dX8_indexOf_11 (by decide) rfl ?_
  refine AW.iload_n (pc := 13) (x := v2) dX8_indexOf_13 rfl ?_
  refine AW.iconst (pc := 14) dX8_indexOf_14 ?_
  refine AW.isub (pc := 15) dX8_indexOf_15 ?_
  refine AW.istore (pc := 16) (ls2 := [some (vR 8), some (vI v1), some (vI v2), some (vR 26), some (vR 27), some (vI (M 10 ((v1 * 13) + v2))), some (vI (v2 - 1)), none, none]) dX8_indexOf_16 (by decide) rfl ?_
  refine AW.iconst (pc := 18) dX8_indexOf_18 ?_
  refine AW.istore (pc := 19) (ls2 := [some (vR 8), some (vI v1), some (vI v2), some (vR 26), some (vR 27), some (vI (M 10 ((v1 * 13) + v2))), some (vI (v2 - 1)), some (vI 0), none]) dX8_indexOf_19 (by decide) rfl ?_
  exact h

set_option maxRecDepth 20000 in
theorem sg_X8_indexOf_21 {M : Mem} {K : Int → Mem → Prop} {v1 v2 v5 v6 v7 : Int} 
    (h : (0 ≤ v1 ∧ v1 < 12) ∧ (InR v7 ∧ InR (M 3 v1)) ∧ (v7 ≥ (M 3 v1) → (K v5 M)) ∧ (¬ (v7 ≥ (M 3 v1)) → (AW mX8_indexOf 38 [some (vR 8), some (vI v1), some (vI v2), some (vR 26), some (vR 27), some (vI v5), some (vI v6), some (vI v7), some (vI 1)] [] M (QI K)))) :
    AW mX8_indexOf 21 [some (vR 8), some (vI v1), some (vI v2), some (vR 26), some (vR 27), some (vI v5), some (vI v6), some (vI v7), none] [] M (QI K) := by
  refine AW.iload (pc := 21) (x := v7) dX8_indexOf_21 rfl ?_
  refine AW.aload_n (pc := 23) (x := 8) dX8_indexOf_23 rfl ?_
  refine AW.getR (pc := 24) (h2 := 1) dX8_indexOf_24 fg_X8_21 kd_8 hl_8 rfl ?_
  refine AW.getR (pc := 27) (h2 := 3) dX8_indexOf_27 fg_X8_53 kd_1 hl_1 rfl ?_
  refine AW.iload_n (pc := 30) (x := v1) dX8_indexOf_30 rfl ?_
  obtain ⟨o, h⟩ := h
  refine AW.iald (pc := 31) dX8_indexOf_31 kd_3 hl_3 o ?_
  obtain ⟨o, ha, hb⟩ := h
  refine AW.icmp_ge (pc := 32) (tgt := 112) dX8_indexOf_32 (by decide) o.1 o.2 (fun hc => ?_) (fun hc => ?_)
  · have h := ha hc
    refine AW.iload (pc := 112) (x := v5) dX8_indexOf_112 rfl ?_
    exact AW.iret (st := []) (pc := 114) dX8_indexOf_114 rfl ⟨_, rfl, h⟩
  · have h := hb hc
    refine AW.iconst (pc := 35) dX8_indexOf_35 ?_
    refine AW.istore (pc := 36) (ls2 := [some (vR 8), some (vI v1), some (vI v2), some (vR 26), some (vR 27), some (vI v5), some (vI v6), some (vI v7), some (vI 1)]) dX8_indexOf_36 (by decide) rfl ?_
    exact h

set_option maxRecDepth 20000 in
theorem sg_X8_indexOf_38 {M : Mem} {K : Int → Mem → Prop} {v1 v2 v5 v6 v7 v8 : Int} 
    (h : (0 ≤ v7 ∧ v7 < 3) ∧ (InR v8 ∧ InR (M 26 v7)) ∧ (v8 ≥ (M 26 v7) → ((0 ≤ v7 ∧ v7 < 3) ∧ (0 ≤ v7 ∧ v7 < 3) ∧ CI mX8_waysOf [vR 8, vI v1, vI (v7 + 1), vI (v6 - (M 26 v7))] M (fun r95 M95 => CI mX11_limitedProduct [vI (M 27 v7), vI r95] M95 (fun r98 M98 => CI mX11_limitedSum [vI v5, vI r98] M98 (fun r101 M101 => AW mX8_indexOf 21 [some (vR 8), some (vI v1), some (vI v2), some (vR 26), some (vR 27), some (vI r101), some (vI (v6 - (M 26 v7))), some (vI (v7 + 1)), none] [] M101 (QI K)))))) ∧ (¬ (v8 ≥ (M 26 v7)) → (CI mX8_waysOfSplit [vR 8, vI v1, vI v7, vI v8, vI v6] M (fun r57 M57 => CI mX11_limitedSum [vI v5, vI r57] M57 (fun r60 M60 => AW mX8_indexOf 38 [some (vR 8), some (vI v1), some (vI v2), some (vR 26), some (vR 27), some (vI r60), some (vI v6), some (vI v7), some (vI (v8 + 1))] [] M60 (QI K)))))) :
    AW mX8_indexOf 38 [some (vR 8), some (vI v1), some (vI v2), some (vR 26), some (vR 27), some (vI v5), some (vI v6), some (vI v7), some (vI v8)] [] M (QI K) := by
  refine AW.iload (pc := 38) (x := v8) dX8_indexOf_38 rfl ?_
  refine AW.aload_n (pc := 40) (x := 26) dX8_indexOf_40 rfl ?_
  refine AW.iload (pc := 41) (x := v7) dX8_indexOf_41 rfl ?_
  obtain ⟨o, h⟩ := h
  refine AW.iald (pc := 43) dX8_indexOf_43 kd_26 hl_26 o ?_
  obtain ⟨o, ha, hb⟩ := h
  refine AW.icmp_ge (pc := 44) (tgt := 71) dX8_indexOf_44 (by decide) o.1 o.2 (fun hc => ?_) (fun hc => ?_)
  · have h := ha hc
    refine AW.iload (pc := 71) (x := v6) dX8_indexOf_71 rfl ?_
    refine AW.aload_n (pc := 73) (x := 26) dX8_indexOf_73 rfl ?_
    refine AW.iload (pc := 74) (x := v7) dX8_indexOf_74 rfl ?_
    obtain ⟨o, h⟩ := h
    refine AW.iald (pc := 76) dX8_indexOf_76 kd_26 hl_26 o ?_
    refine AW.isub (pc := 77) dX8_indexOf_77 ?_
    refine AW.istore (pc := 78) (ls2 := [some (vR 8), some (vI v1), some (vI v2), some (vR 26), some (vR 27), some (vI v5), some (vI (v6 - (M 26 v7))), some (vI v7), some (vI v8)]) dX8_indexOf_78 (by decide) rfl ?_
    refine AW.iload (pc := 80) (x := v5) dX8_indexOf_80 rfl ?_
    refine AW.aload (pc := 82) (x := 27) dX8_indexOf_82 rfl ?_
    refine AW.iload (pc := 84) (x := v7) dX8_indexOf_84 rfl ?_
    obtain ⟨o, h⟩ := h
    refine AW.iald (pc := 86) dX8_indexOf_86 kd_27 hl_27 o ?_
    refine AW.aload_n (pc := 87) (x := 8) dX8_indexOf_87 rfl ?_
    refine AW.iload_n (pc := 88) (x := v1) dX8_indexOf_88 rfl ?_
    refine AW.iload (pc := 89) (x := v7) dX8_indexOf_89 rfl ?_
    refine AW.iconst (pc := 91) dX8_indexOf_91 ?_
    refine AW.iadd (pc := 92) dX8_indexOf_92 ?_
    refine AW.iload (pc := 93) (x := (v6 - (M 26 v7))) dX8_indexOf_93 rfl ?_
    refine AW.callV (pc := 95) (As := [vI v1, vI (v7 + 1), vI (v6 - (M 26 v7))]) (st := [vI (M 27 v7), vI v5]) dX8_indexOf_95 cl_X8_45 kd_8 hl_8 ⟨Nat.le_of_ble_eq_true rfl, Nat.le_of_ble_eq_true rfl⟩ (Nat.le_of_ble_eq_true rfl) (Nat.le_of_ble_eq_true rfl) h ?_
    rintro _ M95 ⟨r95, rfl, h⟩
    show AW mX8_indexOf 98 [some (vR 8), some (vI v1), some (vI v2), some (vR 26), some (vR 27), some (vI v5), some (vI (v6 - (M 26 v7))), some (vI v7), some (vI v8)] [vI r95, vI (M 27 v7), vI v5] M95 (QI K)
    refine AW.callN (pc := 98) (As := [vI (M 27 v7), vI r95]) (st := [vI v5]) dX8_indexOf_98 cl_X8_66 ⟨Nat.le_of_ble_eq_true rfl, Nat.le_of_ble_eq_true rfl⟩ (Nat.le_of_ble_eq_true rfl) (Nat.le_of_ble_eq_true rfl) h ?_
    rintro _ M98 ⟨r98, rfl, h⟩
    show AW mX8_indexOf 101 [some (vR 8), some (vI v1), some (vI v2), some (vR 26), some (vR 27), some (vI v5), some (vI (v6 - (M 26 v7))), some (vI v7), some (vI v8)] [vI r98, vI v5] M98 (QI K)
    refine AW.callN (pc := 101) (As := [vI v5, vI r98]) (st := []) dX8_indexOf_101 cl_X8_49 ⟨Nat.le_of_ble_eq_true rfl, Nat.le_of_ble_eq_true rfl⟩ (Nat.le_of_ble_eq_true rfl) (Nat.le_of_ble_eq_true rfl) h ?_
    rintro _ M101 ⟨r101, rfl, h⟩
    show AW mX8_indexOf 104 [some (vR 8), some (vI v1), some (vI v2), some (vR 26), some (vR 27), some (vI v5), some (vI (v6 - (M 26 v7))), some (vI v7), some (vI v8)] [vI r101] M101 (QI K)
    refine AW.istore (pc := 104) (ls2 := [some (vR 8), some (vI v1), some (vI v2), some (vR 26), some (vR 27), some (vI r101), some (vI (v6 - (M 26 v7))), some (vI v7), some (vI v8)]) dX8_indexOf_104 (by decide) rfl ?_
    refine AW.iinc (pc := 106) (x := v7) (ls2 := [some (vR 8), some (vI v1), some (vI v2), some (vR 26), some (vR 27), some (vI r101), some (vI (v6 - (M 26 v7))), some (vI (v7 + 1)), some (vI v8)]) dX8_indexOf_106 rfl (by decide) rfl ?_
    refine AW.goto (pc := 109) (tgt := 21) dX8_indexOf_109 (by decide) ?_
    exact AW.weak (ls2 := [some (vR 8), some (vI v1), some (vI v2), some (vR 26), some (vR 27), some (vI r101), some (vI (v6 - (M 26 v7))), some (vI (v7 + 1)), none]) (by simp [lsub]) h
  · have h := hb hc
    refine AW.iload (pc := 47) (x := v5) dX8_indexOf_47 rfl ?_
    refine AW.aload_n (pc := 49) (x := 8) dX8_indexOf_49 rfl ?_
    refine AW.iload_n (pc := 50) (x := v1) dX8_indexOf_50 rfl ?_
    refine AW.iload (pc := 51) (x := v7) dX8_indexOf_51 rfl ?_
    refine AW.iload (pc := 53) (x := v8) dX8_indexOf_53 rfl ?_
    refine AW.iload (pc := 55) (x := v6) dX8_indexOf_55 rfl ?_
    refine AW.callV (pc := 57) (As := [vI v1, vI v7, vI v8, vI v6]) (st := [vI v5]) dX8_indexOf_57 cl_X8_59 kd_8 hl_8 ⟨Nat.le_of_ble_eq_true rfl, Nat.le_of_ble_eq_true rfl⟩ (Nat.le_of_ble_eq_true rfl) (Nat.le_of_ble_eq_true rfl) h ?_
    rintro _ M57 ⟨r57, rfl, h⟩
    show AW mX8_indexOf 60 [some (vR 8), some (vI v1), some (vI v2), some (vR 26), some (vR 27), some (vI v5), some (vI v6), some (vI v7), some (vI v8)] [vI r57, vI v5] M57 (QI K)
    refine AW.callN (pc := 60) (As := [vI v5, vI r57]) (st := []) dX8_indexOf_60 cl_X8_49 ⟨Nat.le_of_ble_eq_true rfl, Nat.le_of_ble_eq_true rfl⟩ (Nat.le_of_ble_eq_true rfl) (Nat.le_of_ble_eq_true rfl) h ?_
    rintro _ M60 ⟨r60, rfl, h⟩
    show AW mX8_indexOf 63 [some (vR 8), some (vI v1), some (vI v2), some (vR 26), some (vR 27), some (vI v5), some (vI v6), some (vI v7), some (vI v8)] [vI r60] M60 (QI K)
    refine AW.istore (pc := 63) (ls2 := [some (vR 8), some (vI v1), some (vI v2), some (vR 26), some (vR 27), some (vI r60), some (vI v6), some (vI v7), some (vI v8)]) dX8_indexOf_63 (by decide) rfl ?_
    refine AW.iinc (pc := 65) (x := v8) (ls2 := [some (vR 8), some (vI v1), some (vI v2), some (vR 26), some (vR 27), some (vI r60), some (vI v6), some (vI v7), some (vI (v8 + 1))]) dX8_indexOf_65 rfl (by decide) rfl ?_
    refine AW.goto (pc := 68) (tgt := 38) dX8_indexOf_68 (by decide) ?_
    exact h

set_option maxRecDepth 20000 in
theorem en_X8_indexOfKey {M : Mem} {K : Int → Mem → Prop} {v0 : Int} 
    (h : (0 ≤ v0 ∧ v0 ≤ 2147483647) ∧ K (v0 % 1000000) M) :
    CI mX8_indexOfKey [vI v0] M K := by
  show AW mX8_indexOfKey 0 [some (vI v0)] [] M (QI K)
  refine AW.iload_n (pc := 0) (x := v0) dX8_indexOfKey_0 rfl ?_
  refine AW.ldc (pc := 1) (n := 1000000) dX8_indexOfKey_1 k_X8_25 ?_
  obtain ⟨o, h⟩ := h
  refine AW.irem (pc := 3) dX8_indexOfKey_3 o (by decide) ?_
  exact AW.iret (st := []) (pc := 4) dX8_indexOfKey_4 rfl ⟨_, rfl, h⟩

set_option maxRecDepth 20000 in
theorem en_X8_isBuiltBy {M : Mem} {K : Int → Mem → Prop} {v1 v2 : Int} 
    (h : CI mX8_sizeOfKey [vI v1] M (fun r1 M1 => CI mX8_indexOfKey [vI v1] M1 (fun r6 M6 => (0 ≤ ((v2 * 13) + r1) ∧ ((v2 * 13) + r1) < 156) ∧ InR (r6 - (M6 10 ((v2 * 13) + r1))) ∧ ((r6 - (M6 10 ((v2 * 13) + r1))) < 0 → (K 0 M6)) ∧ (¬ ((r6 - (M6 10 ((v2 * 13) + r1))) < 0) → (CI mX8_waysOf [vR 8, vI v2, vI 0, vI (r1 - 1)] M6 (fun r36 M36 => (InR (r6 - (M6 10 ((v2 * 13) + r1))) ∧ InR r36) ∧ ((r6 - (M6 10 ((v2 * 13) + r1))) ≥ r36 → (K 0 M36)) ∧ (¬ ((r6 - (M6 10 ((v2 * 13) + r1))) ≥ r36) → (K 1 M36)))))))) :
    CI mX8_isBuiltBy [vR 8, vI v1, vI v2] M K := by
  show AW mX8_isBuiltBy 0 [some (vR 8), some (vI v1), some (vI v2), none, none] [] M (QI K)
  refine AW.iload_n (pc := 0) (x := v1) dX8_isBuiltBy_0 rfl ?_
  refine AW.callS (pc := 1) (As := [vI v1]) (st := []) dX8_isBuiltBy_1 cl_X8_69 ⟨Nat.le_of_ble_eq_true rfl, Nat.le_of_ble_eq_true rfl⟩ (Nat.le_of_ble_eq_true rfl) (Nat.le_of_ble_eq_true rfl) h ?_
  rintro _ M1 ⟨r1, rfl, h⟩
  show AW mX8_isBuiltBy 4 [some (vR 8), some (vI v1), some (vI v2), none, none] [vI r1] M1 (QI K)
  refine AW.istore_n (pc := 4) (ls2 := [some (vR 8), some (vI v1), some (vI v2), some (vI r1), none]) dX8_isBuiltBy_4 (by decide) rfl ?_
  refine AW.iload_n (pc := 5) (x := v1) dX8_isBuiltBy_5 rfl ?_
  refine AW.callS (pc := 6) (As := [vI v1]) (st := []) dX8_isBuiltBy_6 cl_X8_73 ⟨Nat.le_of_ble_eq_true rfl, Nat.le_of_ble_eq_true rfl⟩ (Nat.le_of_ble_eq_true rfl) (Nat.le_of_ble_eq_true rfl) h ?_
  rintro _ M6 ⟨r6, rfl, h⟩
  show AW mX8_isBuiltBy 9 [some (vR 8), some (vI v1), some (vI v2), some (vI r1), none] [vI r6] M6 (QI K)
  refine AW.aload_n (pc := 9) (x := 8) dX8_isBuiltBy_9 rfl ?_
  refine AW.getR (pc := 10) (h2 := 10) dX8_isBuiltBy_10 fg_X8_15 kd_8 hl_8 rfl ?_
  refine AW.iload_n (pc := 13) (x := v2) dX8_isBuiltBy_13 rfl ?_
  refine AW.bipush (pc := 14) dX8_isBuiltBy_14 (by decide) ?_
  refine AW.imul (pc := 16) dX8_isBuiltBy_16 ?_
  refine AW.iload_n (pc := 17) (x := r1) dX8_isBuiltBy_17 rfl ?_
  refine AW.iadd (pc := 18) dX8_isBuiltBy_18 ?_
  obtain ⟨o, h⟩ := h
  refine AW.iald (pc := 19) dX8_isBuiltBy_19 kd_10 hl_10 o ?_
  refine AW.isub (pc := 20) dX8_isBuiltBy_20 ?_
  refine AW.istore (pc := 21) (ls2 := [some (vR 8), some (vI v1), some (vI v2), some (vI r1), some (vI (r6 - (M6 10 ((v2 * 13) + r1))))]) dX8_isBuiltBy_21 (by decide) rfl ?_
  refine AW.iload (pc := 23) (x := (r6 - (M6 10 ((v2 * 13) + r1)))) dX8_isBuiltBy_23 rfl ?_
  obtain ⟨o, ha, hb⟩ := h
  refine AW.if_lt (pc := 25) (tgt := 46) dX8_isBuiltBy_25 (by decide) o (fun hc => ?_) (fun hc => ?_)
  · have h := ha hc
    refine AW.iconst (pc := 46) dX8_isBuiltBy_46 ?_
    exact AW.zret (st := []) (pc := 47) dX8_isBuiltBy_47 rfl (by decide) ⟨_, rfl, h⟩
  · have h := hb hc
    refine AW.iload (pc := 28) (x := (r6 - (M6 10 ((v2 * 13) + r1)))) dX8_isBuiltBy_28 rfl ?_
    refine AW.aload_n (pc := 30) (x := 8) dX8_isBuiltBy_30 rfl ?_
    refine AW.iload_n (pc := 31) (x := v2) dX8_isBuiltBy_31 rfl ?_
    refine AW.iconst (pc := 32) dX8_isBuiltBy_32 ?_
    refine AW.iload_n (pc := 33) (x := r1) dX8_isBuiltBy_33 rfl ?_
    refine AW.iconst (pc := 34) dX8_isBuiltBy_34 ?_
    refine AW.isub (pc := 35) dX8_isBuiltBy_35 ?_
    refine AW.callV (pc := 36) (As := [vI v2, vI 0, vI (r1 - 1)]) (st := [vI (r6 - (M6 10 ((v2 * 13) + r1)))]) dX8_isBuiltBy_36 cl_X8_45 kd_8 hl_8 ⟨Nat.le_of_ble_eq_true rfl, Nat.le_of_ble_eq_true rfl⟩ (Nat.le_of_ble_eq_true rfl) (Nat.le_of_ble_eq_true rfl) h ?_
    rintro _ M36 ⟨r36, rfl, h⟩
    show AW mX8_isBuiltBy 39 [some (vR 8), some (vI v1), some (vI v2), some (vI r1), some (vI (r6 - (M6 10 ((v2 * 13) + r1))))] [vI r36, vI (r6 - (M6 10 ((v2 * 13) + r1)))] M36 (QI K)
    obtain ⟨o, ha, hb⟩ := h
    refine AW.icmp_ge (pc := 39) (tgt := 46) dX8_isBuiltBy_39 (by decide) o.1 o.2 (fun hc => ?_) (fun hc => ?_)
    · have h := ha hc
      refine AW.iconst (pc := 46) dX8_isBuiltBy_46 ?_
      exact AW.zret (st := []) (pc := 47) dX8_isBuiltBy_47 rfl (by decide) ⟨_, rfl, h⟩
    · have h := hb hc
      refine AW.iconst (pc := 42) dX8_isBuiltBy_42 ?_
      refine AW.goto (pc := 43) (tgt := 47) dX8_isBuiltBy_43 (by decide) ?_
      exact AW.zret (st := []) (pc := 47) dX8_isBuiltBy_47 rfl (by decide) ⟨_, rfl, h⟩

set_option maxRecDepth 20000 in
theorem en_X8_keyOf {M : Mem} {K : Int → Mem → Prop} {v0 v1 : Int} 
    (h : K ((v0 * 1000000) + v1) M) :
    CI mX8_keyOf [vI v0, vI v1] M K := by
  show AW mX8_keyOf 0 [some (vI v0), some (vI v1)] [] M (QI K)
  refine AW.iload_n (pc := 0) (x := v0) dX8_keyOf_0 rfl ?_
  refine AW.ldc (pc := 1) (n := 1000000) dX8_keyOf_1 k_X8_25 ?_
  refine AW.imul (pc := 3) dX8_keyOf_3 ?_
  refine AW.iload_n (pc := 4) (x := v1) dX8_keyOf_4 rfl ?_
  refine AW.iadd (pc := 5) dX8_keyOf_5 ?_
  exact AW.iret (st := []) (pc := 6) dX8_keyOf_6 rfl ⟨_, rfl, h⟩

set_option maxRecDepth 20000 in
theorem en_X8_recompute {M : Mem} {K : Mem → Prop} 
    (h : CV mJ7_fill_53178 [vR 9, vI 0] M (fun M5 => AW mX8_recompute 10 [some (vR 8), some (vI 1), none, none] [] M5 (QV K))) :
    CV mX8_recompute [vR 8] M K := by
  show AW mX8_recompute 0 [some (vR 8), none, none, none] [] M (QV K)
  refine AW.aload_n (pc := 0) (x := 8) dX8_recompute_0 rfl ?_
  refine AW.getR (pc := 1) (h2 := 9) dX8_recompute_1 fg_X8_9 kd_8 hl_8 rfl ?_
  refine AW.iconst (pc := 4) dX8_recompute_4 ?_
  refine AW.callS (pc := 5) (As := [vR 9, vI 0]) (st := []) dX8_recompute_5 cl_X8_26 ⟨Nat.le_of_ble_eq_true rfl, Nat.le_of_ble_eq_true rfl⟩ (Nat.le_of_ble_eq_true rfl) (Nat.le_of_ble_eq_true rfl) h ?_
  rintro _ M5 ⟨rfl, h⟩
  show AW mX8_recompute 8 [some (vR 8), none, none, none] [] M5 (QV K)
  refine AW.iconst (pc := 8) dX8_recompute_8 ?_
  refine AW.istore_n (pc := 9) (ls2 := [some (vR 8), some (vI 1), none, none]) dX8_recompute_9 (by decide) rfl ?_
  exact h

set_option maxRecDepth 20000 in
theorem sg_X8_recompute_10 {M : Mem} {K : Mem → Prop} {v1 : Int} 
    (h : InR v1 ∧ (v1 > 12 → (K M)) ∧ (¬ (v1 > 12) → (AW mX8_recompute 18 [some (vR 8), some (vI v1), some (vI 0), none] [] M (QV K)))) :
    AW mX8_recompute 10 [some (vR 8), some (vI v1), none, none] [] M (QV K) := by
  refine AW.iload_n (pc := 10) (x := v1) dX8_recompute_10 rfl ?_
  refine AW.bipush (pc := 11) dX8_recompute_11 (by decide) ?_
  obtain ⟨o, ha, hb⟩ := h
  refine AW.icmp_gt (pc := 13) (tgt := 105) dX8_recompute_13 (by decide) o (by decide) (fun hc => ?_) (fun hc => ?_)
  · have h := ha hc
    exact AW.vret (st := []) (pc := 105) dX8_recompute_105 rfl ⟨rfl, h⟩
  · have h := hb hc
    refine AW.iconst (pc := 16) dX8_recompute_16 ?_
    refine AW.istore_n (pc := 17) (ls2 := [some (vR 8), some (vI v1), some (vI 0), none]) dX8_recompute_17 (by decide) rfl ?_
    exact h

set_option maxRecDepth 20000 in
theorem sg_X8_recompute_18 {M : Mem} {K : Mem → Prop} {v1 v2 : Int} 
    (h : (InR v2 ∧ InR (M 1 1)) ∧ (v2 ≥ (M 1 1) → (AW mX8_recompute 10 [some (vR 8), some (vI (v1 + 1)), none, none] [] M (QV K))) ∧ (¬ (v2 ≥ (M 1 1)) → (CV mX8_fillWays [vR 8, vI v2, vI (v1 - 1)] M (fun M34 => (0 ≤ v2 ∧ v2 < 12) ∧ (0 ≤ (((M34 2 v2) * 13) + v1) ∧ (((M34 2 v2) * 13) + v1) < 52) ∧ (0 ≤ ((v2 * 13) + v1) ∧ ((v2 * 13) + v1) < 156) ∧ (0 ≤ (((M34 2 v2) * 13) + v1) ∧ (((M34 2 v2) * 13) + v1) < 52) ∧ CI mX8_waysOf [vR 8, vI v2, vI 0, vI (v1 - 1)] (up M34 10 ((v2 * 13) + v1) (M34 9 (((M34 2 v2) * 13) + v1))) (fun r86 M86 => CI mX11_limitedSum [vI (M34 9 (((M34 2 v2) * 13) + v1)), vI r86] M86 (fun r89 M89 => (0 ≤ (((M34 2 v2) * 13) + v1) ∧ (((M34 2 v2) * 13) + v1) < 52) ∧ AW mX8_recompute 18 [some (vR 8), some (vI v1), some (vI (v2 + 1)), none] [] (up M89 9 (((M34 2 v2) * 13) + v1) r89) (QV K))))))) :
    AW mX8_recompute 18 [some (vR 8), some (vI v1), some (vI v2), none] [] M (QV K) := by
  refine AW.iload_n (pc := 18) (x := v2) dX8_recompute_18 rfl ?_
  refine AW.aload_n (pc := 19) (x := 8) dX8_recompute_19 rfl ?_
  refine AW.getR (pc := 20) (h2 := 1) dX8_recompute_20 fg_X8_21 kd_8 hl_8 rfl ?_
  refine AW.getI (pc := 23) dX8_recompute_23 fg_X8_32 kd_1 hl_1 rfl ?_
  obtain ⟨o, ha, hb⟩ := h
  refine AW.icmp_ge (pc := 26) (tgt := 99) dX8_recompute_26 (by decide) o.1 o.2 (fun hc => ?_) (fun hc => ?_)
  · have h := ha hc
    refine AW.iinc (pc := 99) (x := v1) (ls2 := [some (vR 8), some (vI (v1 + 1)), some (vI v2), none]) dX8_recompute_99 rfl (by decide) rfl ?_
    refine AW.goto (pc := 102) (tgt := 10) dX8_recompute_102 (by decide) ?_
    exact AW.weak (ls2 := [some (vR 8), some (vI (v1 + 1)), none, none]) (by simp [lsub]) h
  · have h := hb hc
    refine AW.aload_n (pc := 29) (x := 8) dX8_recompute_29 rfl ?_
    refine AW.iload_n (pc := 30) (x := v2) dX8_recompute_30 rfl ?_
    refine AW.iload_n (pc := 31) (x := v1) dX8_recompute_31 rfl ?_
    refine AW.iconst (pc := 32) dX8_recompute_32 ?_
    refine AW.isub (pc := 33) dX8_recompute_33 ?_
    refine AW.callV (pc := 34) (As := [vI v2, vI (v1 - 1)]) (st := []) dX8_recompute_34 cl_X8_38 kd_8 hl_8 ⟨Nat.le_of_ble_eq_true rfl, Nat.le_of_ble_eq_true rfl⟩ (Nat.le_of_ble_eq_true rfl) (Nat.le_of_ble_eq_true rfl) h ?_
    rintro _ M34 ⟨rfl, h⟩
    show AW mX8_recompute 37 [some (vR 8), some (vI v1), some (vI v2), none] [] M34 (QV K)
    refine AW.aload_n (pc := 37) (x := 8) dX8_recompute_37 rfl ?_
    refine AW.getR (pc := 38) (h2 := 1) dX8_recompute_38 fg_X8_21 kd_8 hl_8 rfl ?_
    refine AW.getR (pc := 41) (h2 := 2) dX8_recompute_41 fg_X8_42 kd_1 hl_1 rfl ?_
    refine AW.iload_n (pc := 44) (x := v2) dX8_recompute_44 rfl ?_
    obtain ⟨o, h⟩ := h
    refine AW.iald (pc := 45) dX8_recompute_45 kd_2 hl_2 o ?_
    refine AW.bipush (pc := 46) dX8_recompute_46 (by decide) ?_
    refine AW.imul (pc := 48) dX8_recompute_48 ?_
    refine AW.iload_n (pc := 49) (x := v1) dX8_recompute_49 rfl ?_
    refine AW.iadd (pc := 50) dX8_recompute_50 ?_
    refine AW.istore_n (pc := 51) (ls2 := [some (vR 8), some (vI v1), some (vI v2), some (vI (((M34 2 v2) * 13) + v1))]) dX8_recompute_51 (by decide) rfl ?_
    refine AW.aload_n (pc := 52) (x := 8) dX8_recompute_52 rfl ?_
    refine AW.getR (pc := 53) (h2 := 10) dX8_recompute_53 fg_X8_15 kd_8 hl_8 rfl ?_
    refine AW.iload_n (pc := 56) (x := v2) dX8_recompute_56 rfl ?_
    refine AW.bipush (pc := 57) dX8_recompute_57 (by decide) ?_
    refine AW.imul (pc := 59) dX8_recompute_59 ?_
    refine AW.iload_n (pc := 60) (x := v1) dX8_recompute_60 rfl ?_
    refine AW.iadd (pc := 61) dX8_recompute_61 ?_
    refine AW.aload_n (pc := 62) (x := 8) dX8_recompute_62 rfl ?_
    refine AW.getR (pc := 63) (h2 := 9) dX8_recompute_63 fg_X8_9 kd_8 hl_8 rfl ?_
    refine AW.iload_n (pc := 66) (x := (((M34 2 v2) * 13) + v1)) dX8_recompute_66 rfl ?_
    obtain ⟨o, h⟩ := h
    refine AW.iald (pc := 67) dX8_recompute_67 kd_9 hl_9 o ?_
    obtain ⟨o, h⟩ := h
    refine AW.iast (pc := 68) dX8_recompute_68 kd_10 hl_10 o ?_
    refine AW.aload_n (pc := 69) (x := 8) dX8_recompute_69 rfl ?_
    refine AW.getR (pc := 70) (h2 := 9) dX8_recompute_70 fg_X8_9 kd_8 hl_8 rfl ?_
    refine AW.iload_n (pc := 73) (x := (((M34 2 v2) * 13) + v1)) dX8_recompute_73 rfl ?_
    refine AW.aload_n (pc := 74) (x := 8) dX8_recompute_74 rfl ?_
    refine AW.getR (pc := 75) (h2 := 9) dX8_recompute_75 fg_X8_9 kd_8 hl_8 rfl ?_
    refine AW.iload_n (pc := 78) (x := (((M34 2 v2) * 13) + v1)) dX8_recompute_78 rfl ?_
    obtain ⟨o, h⟩ := h
    refine AW.iald (pc := 79) dX8_recompute_79 kd_9 hl_9 o ?_
    refine AW.aload_n (pc := 80) (x := 8) dX8_recompute_80 rfl ?_
    refine AW.iload_n (pc := 81) (x := v2) dX8_recompute_81 rfl ?_
    refine AW.iconst (pc := 82) dX8_recompute_82 ?_
    refine AW.iload_n (pc := 83) (x := v1) dX8_recompute_83 rfl ?_
    refine AW.iconst (pc := 84) dX8_recompute_84 ?_
    refine AW.isub (pc := 85) dX8_recompute_85 ?_
    refine AW.callV (pc := 86) (As := [vI v2, vI 0, vI (v1 - 1)]) (st := [vI (M34 9 (((M34 2 v2) * 13) + v1)), vI (((M34 2 v2) * 13) + v1), vR 9]) dX8_recompute_86 cl_X8_45 kd_8 hl_8 ⟨Nat.le_of_ble_eq_true rfl, Nat.le_of_ble_eq_true rfl⟩ (Nat.le_of_ble_eq_true rfl) (Nat.le_of_ble_eq_true rfl) h ?_
    rintro _ M86 ⟨r86, rfl, h⟩
    show AW mX8_recompute 89 [some (vR 8), some (vI v1), some (vI v2), some (vI (((M34 2 v2) * 13) + v1))] [vI r86, vI (M34 9 (((M34 2 v2) * 13) + v1)), vI (((M34 2 v2) * 13) + v1), vR 9] M86 (QV K)
    refine AW.callN (pc := 89) (As := [vI (M34 9 (((M34 2 v2) * 13) + v1)), vI r86]) (st := [vI (((M34 2 v2) * 13) + v1), vR 9]) dX8_recompute_89 cl_X8_49 ⟨Nat.le_of_ble_eq_true rfl, Nat.le_of_ble_eq_true rfl⟩ (Nat.le_of_ble_eq_true rfl) (Nat.le_of_ble_eq_true rfl) h ?_
    rintro _ M89 ⟨r89, rfl, h⟩
    show AW mX8_recompute 92 [some (vR 8), some (vI v1), some (vI v2), some (vI (((M34 2 v2) * 13) + v1))] [vI r89, vI (((M34 2 v2) * 13) + v1), vR 9] M89 (QV K)
    obtain ⟨o, h⟩ := h
    refine AW.iast (pc := 92) dX8_recompute_92 kd_9 hl_9 o ?_
    refine AW.iinc (pc := 93) (x := v2) (ls2 := [some (vR 8), some (vI v1), some (vI (v2 + 1)), some (vI (((M34 2 v2) * 13) + v1))]) dX8_recompute_93 rfl (by decide) rfl ?_
    refine AW.goto (pc := 96) (tgt := 18) dX8_recompute_96 (by decide) ?_
    exact AW.weak (ls2 := [some (vR 8), some (vI v1), some (vI (v2 + 1)), none]) (by simp [lsub]) h

set_option maxRecDepth 20000 in
theorem en_X8_rootOf {M : Mem} {K : Int → Mem → Prop} {v1 v2 : Int} 
    (h : AW mX8_rootOf 2 [some (vR 8), some (vI v1), some (vI v2), some (vI 0)] [] M (QI K)) :
    CI mX8_rootOf [vR 8, vI v1, vI v2] M K := by
  show AW mX8_rootOf 0 [some (vR 8), some (vI v1), some (vI v2), none] [] M (QI K)
  refine AW.iconst (pc := 0) dX8_rootOf_0 ?_
  refine AW.istore_n (pc := 1) (ls2 := [some (vR 8), some (vI v1), some (vI v2), some (vI 0)]) dX8_rootOf_1 (by decide) rfl ?_
  exact h

set_option maxRecDepth 20000 in
theorem sg_X8_rootOf_2 {M : Mem} {K : Int → Mem → Prop} {v1 v2 v3 : Int} 
    (h : (InR v3 ∧ InR (M 1 1)) ∧ (v3 ≥ (M 1 1) → (K (-1) M)) ∧ (¬ (v3 ≥ (M 1 1)) → ((0 ≤ v3 ∧ v3 < 12) ∧ (InR (M 2 v3) ∧ InR v1) ∧ ((M 2 v3) ≠ v1 → (AW mX8_rootOf 37 [some (vR 8), some (vI v1), some (vI v2), some (vI v3)] [] M (QI K))) ∧ (¬ ((M 2 v3) ≠ v1) → (CI mX8_isBuiltBy [vR 8, vI v2, vI v3] M (fun r29 M29 => InR r29 ∧ (r29 = 0 → (AW mX8_rootOf 37 [some (vR 8), some (vI v1), some (vI v2), some (vI v3)] [] M29 (QI K))) ∧ (¬ (r29 = 0) → (K v3 M29)))))))) :
    AW mX8_rootOf 2 [some (vR 8), some (vI v1), some (vI v2), some (vI v3)] [] M (QI K) := by
  refine AW.iload_n (pc := 2) (x := v3) dX8_rootOf_2 rfl ?_
  refine AW.aload_n (pc := 3) (x := 8) dX8_rootOf_3 rfl ?_
  refine AW.getR (pc := 4) (h2 := 1) dX8_rootOf_4 fg_X8_21 kd_8 hl_8 rfl ?_
  refine AW.getI (pc := 7) dX8_rootOf_7 fg_X8_32 kd_1 hl_1 rfl ?_
  obtain ⟨o, ha, hb⟩ := h
  refine AW.icmp_ge (pc := 10) (tgt := 43) dX8_rootOf_10 (by decide) o.1 o.2 (fun hc => ?_) (fun hc => ?_)
  · have h := ha hc
    refine AW.iconst (pc := 43) dX8_rootOf_43 ?_
    exact AW.iret (st := []) (pc := 44) dX8_rootOf_44 rfl ⟨_, rfl, h⟩
  · have h := hb hc
    refine AW.aload_n (pc := 13) (x := 8) dX8_rootOf_13 rfl ?_
    refine AW.getR (pc := 14) (h2 := 1) dX8_rootOf_14 fg_X8_21 kd_8 hl_8 rfl ?_
    refine AW.getR (pc := 17) (h2 := 2) dX8_rootOf_17 fg_X8_42 kd_1 hl_1 rfl ?_
    refine AW.iload_n (pc := 20) (x := v3) dX8_rootOf_20 rfl ?_
    obtain ⟨o, h⟩ := h
    refine AW.iald (pc := 21) dX8_rootOf_21 kd_2 hl_2 o ?_
    refine AW.iload_n (pc := 22) (x := v1) dX8_rootOf_22 rfl ?_
    obtain ⟨o, ha, hb⟩ := h
    refine AW.icmp_ne (pc := 23) (tgt := 37) dX8_rootOf_23 (by decide) o.1 o.2 (fun hc => ?_) (fun hc => ?_)
    · have h := ha hc
      exact h
    · have h := hb hc
      refine AW.aload_n (pc := 26) (x := 8) dX8_rootOf_26 rfl ?_
      refine AW.iload_n (pc := 27) (x := v2) dX8_rootOf_27 rfl ?_
      refine AW.iload_n (pc := 28) (x := v3) dX8_rootOf_28 rfl ?_
      refine AW.callV (pc := 29) (As := [vI v2, vI v3]) (st := []) dX8_rootOf_29 cl_X8_76 kd_8 hl_8 ⟨Nat.le_of_ble_eq_true rfl, Nat.le_of_ble_eq_true rfl⟩ (Nat.le_of_ble_eq_true rfl) (Nat.le_of_ble_eq_true rfl) h ?_
      rintro _ M29 ⟨r29, rfl, h⟩
      show AW mX8_rootOf 32 [some (vR 8), some (vI v1), some (vI v2), some (vI v3)] [vI r29] M29 (QI K)
      obtain ⟨o, ha, hb⟩ := h
      refine AW.if_eq (pc := 32) (tgt := 37) dX8_rootOf_32 (by decide) o (fun hc => ?_) (fun hc => ?_)
      · have h := ha hc
        exact h
      · have h := hb hc
        refine AW.iload_n (pc := 35) (x := v3) dX8_rootOf_35 rfl ?_
        exact AW.iret (st := []) (pc := 36) dX8_rootOf_36 rfl ⟨_, rfl, h⟩

set_option maxRecDepth 20000 in
theorem sg_X8_rootOf_37 {M : Mem} {K : Int → Mem → Prop} {v1 v2 v3 : Int} 
    (h : AW mX8_rootOf 2 [some (vR 8), some (vI v1), some (vI v2), some (vI (v3 + 1))] [] M (QI K)) :
    AW mX8_rootOf 37 [some (vR 8), some (vI v1), some (vI v2), some (vI v3)] [] M (QI K) := by
  refine AW.iinc (pc := 37) (x := v3) (ls2 := [some (vR 8), some (vI v1), some (vI v2), some (vI (v3 + 1))]) dX8_rootOf_37 rfl (by decide) rfl ?_
  refine AW.goto (pc := 40) (tgt := 2) dX8_rootOf_40 (by decide) ?_
  exact h

set_option maxRecDepth 20000 in
theorem en_X8_sizeOfKey {M : Mem} {K : Int → Mem → Prop} {v0 : Int} 
    (h : (0 ≤ v0 ∧ v0 ≤ 2147483647) ∧ K (v0 / 1000000) M) :
    CI mX8_sizeOfKey [vI v0] M K := by
  show AW mX8_sizeOfKey 0 [some (vI v0)] [] M (QI K)
  refine AW.iload_n (pc := 0) (x := v0) dX8_sizeOfKey_0 rfl ?_
  refine AW.ldc (pc := 1) (n := 1000000) dX8_sizeOfKey_1 k_X8_25 ?_
  obtain ⟨o, h⟩ := h
  refine AW.idiv (pc := 3) dX8_sizeOfKey_3 o (by decide) ?_
  exact AW.iret (st := []) (pc := 4) dX8_sizeOfKey_4 rfl ⟨_, rfl, h⟩

set_option maxRecDepth 20000 in
theorem en_X8_split {M : Mem} {K : Mem → Prop} {v1 v2 : Int} 
    (h : CI mX8_sizeOfKey [vI v1] M (fun r1 M1 => CI mX8_indexOfKey [vI v1] M1 (fun r9 M9 => (0 ≤ (((v2 * 13) + (r1 - 1)) + 1) ∧ (((v2 * 13) + (r1 - 1)) + 1) < 156) ∧ AW mX8_split 32 [some (vR 8), some (vI v1), some (vI v2), some (vR 21), some (vI (r1 - 1)), some (vI (r9 - (M9 10 (((v2 * 13) + (r1 - 1)) + 1)))), some (vI 0), none, none] [] M9 (QV K)))) :
    CV mX8_split [vR 8, vI v1, vI v2, vR 21] M K := by
  show AW mX8_split 0 [some (vR 8), some (vI v1), some (vI v2), some (vR 21), none, none, none, none, none] [] M (QV K)
  refine AW.iload_n (pc := 0) (x := v1) dX8_split_0 rfl ?_
  refine AW.callS (pc := 1) (As := [vI v1]) (st := []) dX8_split_1 cl_X8_69 ⟨Nat.le_of_ble_eq_true rfl, Nat.le_of_ble_eq_true rfl⟩ (Nat.le_of_ble_eq_true rfl) (Nat.le_of_ble_eq_true rfl) h ?_
  rintro _ M1 ⟨r1, rfl, h⟩
  show AW mX8_split 4 [some (vR 8), some (vI v1), some (vI v2), some (vR 21), none, none, none, none, none] [vI r1] M1 (QV K)
  refine AW.iconst (pc := 4) dX8_split_4 ?_
  refine AW.isub (pc := 5) dX8_split_5 ?_
  refine AW.istore (pc := 6) (ls2 := [some (vR 8), some (vI v1), some (vI v2), some (vR 21), some (vI (r1 - 1)), none, none, none, none]) dX8_split_6 (by decide) rfl ?_
  refine AW.iload_n (pc := 8) (x := v1) dX8_split_8 rfl ?_
  refine AW.callS (pc := 9) (As := [vI v1]) (st := []) dX8_split_9 cl_X8_73 ⟨Nat.le_of_ble_eq_true rfl, Nat.le_of_ble_eq_true rfl⟩ (Nat.le_of_ble_eq_true rfl) (Nat.le_of_ble_eq_true rfl) h ?_
  rintro _ M9 ⟨r9, rfl, h⟩
  show AW mX8_split 12 [some (vR 8), some (vI v1), some (vI v2), some (vR 21), some (vI (r1 - 1)), none, none, none, none] [vI r9] M9 (QV K)
  refine AW.aload_n (pc := 12) (x := 8) dX8_split_12 rfl ?_
  refine AW.getR (pc := 13) (h2 := 10) dX8_split_13 fg_X8_15 kd_8 hl_8 rfl ?_
  refine AW.iload_n (pc := 16) (x := v2) dX8_split_16 rfl ?_
  refine AW.bipush (pc := 17) dX8_split_17 (by decide) ?_
  refine AW.imul (pc := 19) dX8_split_19 ?_
  refine AW.iload (pc := 20) (x := (r1 - 1)) dX8_split_20 rfl ?_
  refine AW.iadd (pc := 22) dX8_split_22 ?_
  refine AW.iconst (pc := 23) dX8_split_23 ?_
  refine AW.iadd (pc := 24) dX8_split_24 ?_
  obtain ⟨o, h⟩ := h
  refine AW.iald (pc := 25) dX8_split_25 kd_10 hl_10 o ?_
  refine AW.isub (pc := 26) dX8_split_26 ?_
  refine AW.istore (pc := 27) (ls2 := [some (vR 8), some (vI v1), some (vI v2), some (vR 21), some (vI (r1 - 1)), some (vI (r9 - (M9 10 (((v2 * 13) + (r1 - 1)) + 1)))), none, none, none]) dX8_split_27 (by decide) rfl ?_
  refine AW.iconst (pc := 29) dX8_split_29 ?_
  refine AW.istore (pc := 30) (ls2 := [some (vR 8), some (vI v1), some (vI v2), some (vR 21), some (vI (r1 - 1)), some (vI (r9 - (M9 10 (((v2 * 13) + (r1 - 1)) + 1)))), some (vI 0), none, none]) dX8_split_30 (by decide) rfl ?_
  exact h

set_option maxRecDepth 20000 in
theorem sg_X8_split_32 {M : Mem} {K : Mem → Prop} {v1 v2 v4 v5 v6 : Int} 
    (h : (0 ≤ v2 ∧ v2 < 12) ∧ (InR v6 ∧ InR (M 3 v2)) ∧ (v6 ≥ (M 3 v2) → (K M)) ∧ (¬ (v6 ≥ (M 3 v2)) → (AW mX8_split 49 [some (vR 8), some (vI v1), some (vI v2), some (vR 21), some (vI v4), some (vI v5), some (vI v6), some (vI 1), none] [] M (QV K)))) :
    AW mX8_split 32 [some (vR 8), some (vI v1), some (vI v2), some (vR 21), some (vI v4), some (vI v5), some (vI v6), none, none] [] M (QV K) := by
  refine AW.iload (pc := 32) (x := v6) dX8_split_32 rfl ?_
  refine AW.aload_n (pc := 34) (x := 8) dX8_split_34 rfl ?_
  refine AW.getR (pc := 35) (h2 := 1) dX8_split_35 fg_X8_21 kd_8 hl_8 rfl ?_
  refine AW.getR (pc := 38) (h2 := 3) dX8_split_38 fg_X8_53 kd_1 hl_1 rfl ?_
  refine AW.iload_n (pc := 41) (x := v2) dX8_split_41 rfl ?_
  obtain ⟨o, h⟩ := h
  refine AW.iald (pc := 42) dX8_split_42 kd_3 hl_3 o ?_
  obtain ⟨o, ha, hb⟩ := h
  refine AW.icmp_ge (pc := 43) (tgt := 146) dX8_split_43 (by decide) o.1 o.2 (fun hc => ?_) (fun hc => ?_)
  · have h := ha hc
    exact AW.vret (st := []) (pc := 146) dX8_split_146 rfl ⟨rfl, h⟩
  · have h := hb hc
    refine AW.iconst (pc := 46) dX8_split_46 ?_
    refine AW.istore (pc := 47) (ls2 := [some (vR 8), some (vI v1), some (vI v2), some (vR 21), some (vI v4), some (vI v5), some (vI v6), some (vI 1), none]) dX8_split_47 (by decide) rfl ?_
    exact h

set_option maxRecDepth 20000 in
theorem sg_X8_split_49 {M : Mem} {K : Mem → Prop} {v1 v2 v4 v5 v6 v7 : Int} 
    (h : (InR v7 ∧ InR v4) ∧ (v7 ≥ v4 → (AW mX8_split 92 [some (vR 8), some (vI v1), some (vI v2), some (vR 21), some (vI v4), some (vI v5), some (vI v6), some (vI v7), none] [] M (QV K))) ∧ (¬ (v7 ≥ v4) → (CI mX8_waysOfSplit [vR 8, vI v2, vI v6, vI v7, vI v4] M (fun r64 M64 => (InR v5 ∧ InR r64) ∧ (v5 ≥ r64 → (AW mX8_split 49 [some (vR 8), some (vI v1), some (vI v2), some (vR 21), some (vI v4), some (vI (v5 - r64)), some (vI v6), some (vI (v7 + 1)), none] [] M64 (QV K))) ∧ (¬ (v5 ≥ r64) → (AW mX8_split 92 [some (vR 8), some (vI v1), some (vI v2), some (vR 21), some (vI v4), some (vI v5), some (vI v6), some (vI v7), none] [] M64 (QV K))))))) :
    AW mX8_split 49 [some (vR 8), some (vI v1), some (vI v2), some (vR 21), some (vI v4), some (vI v5), some (vI v6), some (vI v7), none] [] M (QV K) := by
  refine AW.iload (pc := 49) (x := v7) dX8_split_49 rfl ?_
  refine AW.iload (pc := 51) (x := v4) dX8_split_51 rfl ?_
  obtain ⟨o, ha, hb⟩ := h
  refine AW.icmp_ge (pc := 53) (tgt := 92) dX8_split_53 (by decide) o.1 o.2 (fun hc => ?_) (fun hc => ?_)
  · have h := ha hc
    exact h
  · have h := hb hc
    refine AW.aload_n (pc := 56) (x := 8) dX8_split_56 rfl ?_
    refine AW.iload_n (pc := 57) (x := v2) dX8_split_57 rfl ?_
    refine AW.iload (pc := 58) (x := v6) dX8_split_58 rfl ?_
    refine AW.iload (pc := 60) (x := v7) dX8_split_60 rfl ?_
    refine AW.iload (pc := 62) (x := v4) dX8_split_62 rfl ?_
    refine AW.callV (pc := 64) (As := [vI v2, vI v6, vI v7, vI v4]) (st := []) dX8_split_64 cl_X8_59 kd_8 hl_8 ⟨Nat.le_of_ble_eq_true rfl, Nat.le_of_ble_eq_true rfl⟩ (Nat.le_of_ble_eq_true rfl) (Nat.le_of_ble_eq_true rfl) h ?_
    rintro _ M64 ⟨r64, rfl, h⟩
    show AW mX8_split 67 [some (vR 8), some (vI v1), some (vI v2), some (vR 21), some (vI v4), some (vI v5), some (vI v6), some (vI v7), none] [vI r64] M64 (QV K)
    refine AW.istore (pc := 67) (ls2 := [some (vR 8), some (vI v1), some (vI v2), some (vR 21), some (vI v4), some (vI v5), some (vI v6), some (vI v7), some (vI r64)]) dX8_split_67 (by decide) rfl ?_
    refine AW.iload (pc := 69) (x := v5) dX8_split_69 rfl ?_
    refine AW.iload (pc := 71) (x := r64) dX8_split_71 rfl ?_
    obtain ⟨o, ha, hb⟩ := h
    refine AW.icmp_ge (pc := 73) (tgt := 79) dX8_split_73 (by decide) o.1 o.2 (fun hc => ?_) (fun hc => ?_)
    · have h := ha hc
      refine AW.iload (pc := 79) (x := v5) dX8_split_79 rfl ?_
      refine AW.iload (pc := 81) (x := r64) dX8_split_81 rfl ?_
      refine AW.isub (pc := 83) dX8_split_83 ?_
      refine AW.istore (pc := 84) (ls2 := [some (vR 8), some (vI v1), some (vI v2), some (vR 21), some (vI v4), some (vI (v5 - r64)), some (vI v6), some (vI v7), some (vI r64)]) dX8_split_84 (by decide) rfl ?_
      refine AW.iinc (pc := 86) (x := v7) (ls2 := [some (vR 8), some (vI v1), some (vI v2), some (vR 21), some (vI v4), some (vI (v5 - r64)), some (vI v6), some (vI (v7 + 1)), some (vI r64)]) dX8_split_86 rfl (by decide) rfl ?_
      refine AW.goto (pc := 89) (tgt := 49) dX8_split_89 (by decide) ?_
      exact AW.weak (ls2 := [some (vR 8), some (vI v1), some (vI v2), some (vR 21), some (vI v4), some (vI (v5 - r64)), some (vI v6), some (vI (v7 + 1)), none]) (by simp [lsub]) h
    · have h := hb hc
      refine AW.goto (pc := 76) (tgt := 92) dX8_split_76 (by decide) ?_
      exact AW.weak (ls2 := [some (vR 8), some (vI v1), some (vI v2), some (vR 21), some (vI v4), some (vI v5), some (vI v6), some (vI v7), none]) (by simp [lsub]) h

set_option maxRecDepth 20000 in
theorem sg_X8_split_92 {M : Mem} {K : Mem → Prop} {v1 v2 v4 v5 v6 v7 : Int} 
    (h : CI mX8_waysOf [vR 8, vI v2, vI (v6 + 1), vI (v4 - v7)] M (fun r104 M104 => InR r104 ∧ ((0 ≤ v5 ∧ v5 ≤ 2147483647) ∧ (0 < (if 1 < r104 then r104 else 1) ∧ (if 1 < r104 then r104 else 1) ≤ 2147483647)) ∧ CI mX8_keyOf [vI v7, vI (v5 / (if 1 < r104 then r104 else 1))] M104 (fun r122 M122 => (0 ≤ v6 ∧ v6 < 3) ∧ ((0 ≤ v5 ∧ v5 ≤ 2147483647) ∧ (0 < (if 1 < r104 then r104 else 1) ∧ (if 1 < r104 then r104 else 1) ≤ 2147483647)) ∧ AW mX8_split 32 [some (vR 8), some (vI v1), some (vI v2), some (vR 21), some (vI (v4 - v7)), some (vI (v5 % (if 1 < r104 then r104 else 1))), some (vI (v6 + 1)), none, none] [] (up M122 21 v6 r122) (QV K)))) :
    AW mX8_split 92 [some (vR 8), some (vI v1), some (vI v2), some (vR 21), some (vI v4), some (vI v5), some (vI v6), some (vI v7), none] [] M (QV K) := by
  refine AW.iconst (pc := 92) dX8_split_92 ?_
  refine AW.aload_n (pc := 93) (x := 8) dX8_split_93 rfl ?_
  refine AW.iload_n (pc := 94) (x := v2) dX8_split_94 rfl ?_
  refine AW.iload (pc := 95) (x := v6) dX8_split_95 rfl ?_
  refine AW.iconst (pc := 97) dX8_split_97 ?_
  refine AW.iadd (pc := 98) dX8_split_98 ?_
  refine AW.iload (pc := 99) (x := v4) dX8_split_99 rfl ?_
  refine AW.iload (pc := 101) (x := v7) dX8_split_101 rfl ?_
  refine AW.isub (pc := 103) dX8_split_103 ?_
  refine AW.callV (pc := 104) (As := [vI v2, vI (v6 + 1), vI (v4 - v7)]) (st := [vI 1]) dX8_split_104 cl_X8_45 kd_8 hl_8 ⟨Nat.le_of_ble_eq_true rfl, Nat.le_of_ble_eq_true rfl⟩ (Nat.le_of_ble_eq_true rfl) (Nat.le_of_ble_eq_true rfl) h ?_
  rintro _ M104 ⟨r104, rfl, h⟩
  show AW mX8_split 107 [some (vR 8), some (vI v1), some (vI v2), some (vR 21), some (vI v4), some (vI v5), some (vI v6), some (vI v7), none] [vI r104, vI 1] M104 (QV K)
  obtain ⟨o, h⟩ := h
  refine AW.mmax (pc := 107) dX8_split_107 cc_X8_80 (Nat.le_of_ble_eq_true rfl) (Nat.le_of_ble_eq_true rfl) (Nat.le_of_ble_eq_true rfl) (by decide) o ?_
  refine AW.istore (pc := 110) (ls2 := [some (vR 8), some (vI v1), some (vI v2), some (vR 21), some (vI v4), some (vI v5), some (vI v6), some (vI v7), some (vI (if 1 < r104 then r104 else 1))]) dX8_split_110 (by decide) rfl ?_
  refine AW.aload_n (pc := 112) (x := 21) dX8_split_112 rfl ?_
  refine AW.iload (pc := 113) (x := v6) dX8_split_113 rfl ?_
  refine AW.iload (pc := 115) (x := v7) dX8_split_115 rfl ?_
  refine AW.iload (pc := 117) (x := v5) dX8_split_117 rfl ?_
  refine AW.iload (pc := 119) (x := (if 1 < r104 then r104 else 1)) dX8_split_119 rfl ?_
  obtain ⟨o, h⟩ := h
  refine AW.idiv (pc := 121) dX8_split_121 o.1 o.2 ?_
  refine AW.callS (pc := 122) (As := [vI v7, vI (v5 / (if 1 < r104 then r104 else 1))]) (st := [vI v6, vR 21]) dX8_split_122 cl_X8_85 ⟨Nat.le_of_ble_eq_true rfl, Nat.le_of_ble_eq_true rfl⟩ (Nat.le_of_ble_eq_true rfl) (Nat.le_of_ble_eq_true rfl) h ?_
  rintro _ M122 ⟨r122, rfl, h⟩
  show AW mX8_split 125 [some (vR 8), some (vI v1), some (vI v2), some (vR 21), some (vI v4), some (vI v5), some (vI v6), some (vI v7), some (vI (if 1 < r104 then r104 else 1))] [vI r122, vI v6, vR 21] M122 (QV K)
  obtain ⟨o, h⟩ := h
  refine AW.iast (pc := 125) dX8_split_125 kd_21 hl_21 o ?_
  refine AW.iload (pc := 126) (x := v5) dX8_split_126 rfl ?_
  refine AW.iload (pc := 128) (x := (if 1 < r104 then r104 else 1)) dX8_split_128 rfl ?_
  obtain ⟨o, h⟩ := h
  refine AW.irem (pc := 130) dX8_split_130 o.1 o.2 ?_
  refine AW.istore (pc := 131) (ls2 := [some (vR 8), some (vI v1), some (vI v2), some (vR 21), some (vI v4), some (vI (v5 % (if 1 < r104 then r104 else 1))), some (vI v6), some (vI v7), some (vI (if 1 < r104 then r104 else 1))]) dX8_split_131 (by decide) rfl ?_
  refine AW.iload (pc := 133) (x := v4) dX8_split_133 rfl ?_
  refine AW.iload (pc := 135) (x := v7) dX8_split_135 rfl ?_
  refine AW.isub (pc := 137) dX8_split_137 ?_
  refine AW.istore (pc := 138) (ls2 := [some (vR 8), some (vI v1), some (vI v2), some (vR 21), some (vI (v4 - v7)), some (vI (v5 % (if 1 < r104 then r104 else 1))), some (vI v6), some (vI v7), some (vI (if 1 < r104 then r104 else 1))]) dX8_split_138 (by decide) rfl ?_
  refine AW.iinc (pc := 140) (x := v6) (ls2 := [some (vR 8), some (vI v1), some (vI v2), some (vR 21), some (vI (v4 - v7)), some (vI (v5 % (if 1 < r104 then r104 else 1))), some (vI (v6 + 1)), some (vI v7), some (vI (if 1 < r104 then r104 else 1))]) dX8_split_140 rfl (by decide) rfl ?_
  refine AW.goto (pc := 143) (tgt := 32) dX8_split_143 (by decide) ?_
  exact AW.weak (ls2 := [some (vR 8), some (vI v1), some (vI v2), some (vR 21), some (vI (v4 - v7)), some (vI (v5 % (if 1 < r104 then r104 else 1))), some (vI (v6 + 1)), none, none]) (by simp [lsub]) h

set_option maxRecDepth 20000 in
theorem en_X8_split_b {M : Mem} {K : Mem → Prop} {v1 v2 : Int} 
    (h : CI mX8_sizeOfKey [vI v1] M (fun r1 M1 => CI mX8_indexOfKey [vI v1] M1 (fun r9 M9 => (0 ≤ (((v2 * 13) + (r1 - 1)) + 1) ∧ (((v2 * 13) + (r1 - 1)) + 1) < 156) ∧ AW mX8_split 32 [some (vR 8), some (vI v1), some (vI v2), some (vR 49), some (vI (r1 - 1)), some (vI (r9 - (M9 10 (((v2 * 13) + (r1 - 1)) + 1)))), some (vI 0), none, none] [] M9 (QV K)))) :
    CV mX8_split [vR 8, vI v1, vI v2, vR 49] M K := by
  show AW mX8_split 0 [some (vR 8), some (vI v1), some (vI v2), some (vR 49), none, none, none, none, none] [] M (QV K)
  refine AW.iload_n (pc := 0) (x := v1) dX8_split_0 rfl ?_
  refine AW.callS (pc := 1) (As := [vI v1]) (st := []) dX8_split_1 cl_X8_69 ⟨Nat.le_of_ble_eq_true rfl, Nat.le_of_ble_eq_true rfl⟩ (Nat.le_of_ble_eq_true rfl) (Nat.le_of_ble_eq_true rfl) h ?_
  rintro _ M1 ⟨r1, rfl, h⟩
  show AW mX8_split 4 [some (vR 8), some (vI v1), some (vI v2), some (vR 49), none, none, none, none, none] [vI r1] M1 (QV K)
  refine AW.iconst (pc := 4) dX8_split_4 ?_
  refine AW.isub (pc := 5) dX8_split_5 ?_
  refine AW.istore (pc := 6) (ls2 := [some (vR 8), some (vI v1), some (vI v2), some (vR 49), some (vI (r1 - 1)), none, none, none, none]) dX8_split_6 (by decide) rfl ?_
  refine AW.iload_n (pc := 8) (x := v1) dX8_split_8 rfl ?_
  refine AW.callS (pc := 9) (As := [vI v1]) (st := []) dX8_split_9 cl_X8_73 ⟨Nat.le_of_ble_eq_true rfl, Nat.le_of_ble_eq_true rfl⟩ (Nat.le_of_ble_eq_true rfl) (Nat.le_of_ble_eq_true rfl) h ?_
  rintro _ M9 ⟨r9, rfl, h⟩
  show AW mX8_split 12 [some (vR 8), some (vI v1), some (vI v2), some (vR 49), some (vI (r1 - 1)), none, none, none, none] [vI r9] M9 (QV K)
  refine AW.aload_n (pc := 12) (x := 8) dX8_split_12 rfl ?_
  refine AW.getR (pc := 13) (h2 := 10) dX8_split_13 fg_X8_15 kd_8 hl_8 rfl ?_
  refine AW.iload_n (pc := 16) (x := v2) dX8_split_16 rfl ?_
  refine AW.bipush (pc := 17) dX8_split_17 (by decide) ?_
  refine AW.imul (pc := 19) dX8_split_19 ?_
  refine AW.iload (pc := 20) (x := (r1 - 1)) dX8_split_20 rfl ?_
  refine AW.iadd (pc := 22) dX8_split_22 ?_
  refine AW.iconst (pc := 23) dX8_split_23 ?_
  refine AW.iadd (pc := 24) dX8_split_24 ?_
  obtain ⟨o, h⟩ := h
  refine AW.iald (pc := 25) dX8_split_25 kd_10 hl_10 o ?_
  refine AW.isub (pc := 26) dX8_split_26 ?_
  refine AW.istore (pc := 27) (ls2 := [some (vR 8), some (vI v1), some (vI v2), some (vR 49), some (vI (r1 - 1)), some (vI (r9 - (M9 10 (((v2 * 13) + (r1 - 1)) + 1)))), none, none, none]) dX8_split_27 (by decide) rfl ?_
  refine AW.iconst (pc := 29) dX8_split_29 ?_
  refine AW.istore (pc := 30) (ls2 := [some (vR 8), some (vI v1), some (vI v2), some (vR 49), some (vI (r1 - 1)), some (vI (r9 - (M9 10 (((v2 * 13) + (r1 - 1)) + 1)))), some (vI 0), none, none]) dX8_split_30 (by decide) rfl ?_
  exact h

set_option maxRecDepth 20000 in
theorem sg_X8_split_b_32 {M : Mem} {K : Mem → Prop} {v1 v2 v4 v5 v6 : Int} 
    (h : (0 ≤ v2 ∧ v2 < 12) ∧ (InR v6 ∧ InR (M 3 v2)) ∧ (v6 ≥ (M 3 v2) → (K M)) ∧ (¬ (v6 ≥ (M 3 v2)) → (AW mX8_split 49 [some (vR 8), some (vI v1), some (vI v2), some (vR 49), some (vI v4), some (vI v5), some (vI v6), some (vI 1), none] [] M (QV K)))) :
    AW mX8_split 32 [some (vR 8), some (vI v1), some (vI v2), some (vR 49), some (vI v4), some (vI v5), some (vI v6), none, none] [] M (QV K) := by
  refine AW.iload (pc := 32) (x := v6) dX8_split_32 rfl ?_
  refine AW.aload_n (pc := 34) (x := 8) dX8_split_34 rfl ?_
  refine AW.getR (pc := 35) (h2 := 1) dX8_split_35 fg_X8_21 kd_8 hl_8 rfl ?_
  refine AW.getR (pc := 38) (h2 := 3) dX8_split_38 fg_X8_53 kd_1 hl_1 rfl ?_
  refine AW.iload_n (pc := 41) (x := v2) dX8_split_41 rfl ?_
  obtain ⟨o, h⟩ := h
  refine AW.iald (pc := 42) dX8_split_42 kd_3 hl_3 o ?_
  obtain ⟨o, ha, hb⟩ := h
  refine AW.icmp_ge (pc := 43) (tgt := 146) dX8_split_43 (by decide) o.1 o.2 (fun hc => ?_) (fun hc => ?_)
  · have h := ha hc
    exact AW.vret (st := []) (pc := 146) dX8_split_146 rfl ⟨rfl, h⟩
  · have h := hb hc
    refine AW.iconst (pc := 46) dX8_split_46 ?_
    refine AW.istore (pc := 47) (ls2 := [some (vR 8), some (vI v1), some (vI v2), some (vR 49), some (vI v4), some (vI v5), some (vI v6), some (vI 1), none]) dX8_split_47 (by decide) rfl ?_
    exact h

set_option maxRecDepth 20000 in
theorem sg_X8_split_b_49 {M : Mem} {K : Mem → Prop} {v1 v2 v4 v5 v6 v7 : Int} 
    (h : (InR v7 ∧ InR v4) ∧ (v7 ≥ v4 → (AW mX8_split 92 [some (vR 8), some (vI v1), some (vI v2), some (vR 49), some (vI v4), some (vI v5), some (vI v6), some (vI v7), none] [] M (QV K))) ∧ (¬ (v7 ≥ v4) → (CI mX8_waysOfSplit [vR 8, vI v2, vI v6, vI v7, vI v4] M (fun r64 M64 => (InR v5 ∧ InR r64) ∧ (v5 ≥ r64 → (AW mX8_split 49 [some (vR 8), some (vI v1), some (vI v2), some (vR 49), some (vI v4), some (vI (v5 - r64)), some (vI v6), some (vI (v7 + 1)), none] [] M64 (QV K))) ∧ (¬ (v5 ≥ r64) → (AW mX8_split 92 [some (vR 8), some (vI v1), some (vI v2), some (vR 49), some (vI v4), some (vI v5), some (vI v6), some (vI v7), none] [] M64 (QV K))))))) :
    AW mX8_split 49 [some (vR 8), some (vI v1), some (vI v2), some (vR 49), some (vI v4), some (vI v5), some (vI v6), some (vI v7), none] [] M (QV K) := by
  refine AW.iload (pc := 49) (x := v7) dX8_split_49 rfl ?_
  refine AW.iload (pc := 51) (x := v4) dX8_split_51 rfl ?_
  obtain ⟨o, ha, hb⟩ := h
  refine AW.icmp_ge (pc := 53) (tgt := 92) dX8_split_53 (by decide) o.1 o.2 (fun hc => ?_) (fun hc => ?_)
  · have h := ha hc
    exact h
  · have h := hb hc
    refine AW.aload_n (pc := 56) (x := 8) dX8_split_56 rfl ?_
    refine AW.iload_n (pc := 57) (x := v2) dX8_split_57 rfl ?_
    refine AW.iload (pc := 58) (x := v6) dX8_split_58 rfl ?_
    refine AW.iload (pc := 60) (x := v7) dX8_split_60 rfl ?_
    refine AW.iload (pc := 62) (x := v4) dX8_split_62 rfl ?_
    refine AW.callV (pc := 64) (As := [vI v2, vI v6, vI v7, vI v4]) (st := []) dX8_split_64 cl_X8_59 kd_8 hl_8 ⟨Nat.le_of_ble_eq_true rfl, Nat.le_of_ble_eq_true rfl⟩ (Nat.le_of_ble_eq_true rfl) (Nat.le_of_ble_eq_true rfl) h ?_
    rintro _ M64 ⟨r64, rfl, h⟩
    show AW mX8_split 67 [some (vR 8), some (vI v1), some (vI v2), some (vR 49), some (vI v4), some (vI v5), some (vI v6), some (vI v7), none] [vI r64] M64 (QV K)
    refine AW.istore (pc := 67) (ls2 := [some (vR 8), some (vI v1), some (vI v2), some (vR 49), some (vI v4), some (vI v5), some (vI v6), some (vI v7), some (vI r64)]) dX8_split_67 (by decide) rfl ?_
    refine AW.iload (pc := 69) (x := v5) dX8_split_69 rfl ?_
    refine AW.iload (pc := 71) (x := r64) dX8_split_71 rfl ?_
    obtain ⟨o, ha, hb⟩ := h
    refine AW.icmp_ge (pc := 73) (tgt := 79) dX8_split_73 (by decide) o.1 o.2 (fun hc => ?_) (fun hc => ?_)
    · have h := ha hc
      refine AW.iload (pc := 79) (x := v5) dX8_split_79 rfl ?_
      refine AW.iload (pc := 81) (x := r64) dX8_split_81 rfl ?_
      refine AW.isub (pc := 83) dX8_split_83 ?_
      refine AW.istore (pc := 84) (ls2 := [some (vR 8), some (vI v1), some (vI v2), some (vR 49), some (vI v4), some (vI (v5 - r64)), some (vI v6), some (vI v7), some (vI r64)]) dX8_split_84 (by decide) rfl ?_
      refine AW.iinc (pc := 86) (x := v7) (ls2 := [some (vR 8), some (vI v1), some (vI v2), some (vR 49), some (vI v4), some (vI (v5 - r64)), some (vI v6), some (vI (v7 + 1)), some (vI r64)]) dX8_split_86 rfl (by decide) rfl ?_
      refine AW.goto (pc := 89) (tgt := 49) dX8_split_89 (by decide) ?_
      exact AW.weak (ls2 := [some (vR 8), some (vI v1), some (vI v2), some (vR 49), some (vI v4), some (vI (v5 - r64)), some (vI v6), some (vI (v7 + 1)), none]) (by simp [lsub]) h
    · have h := hb hc
      refine AW.goto (pc := 76) (tgt := 92) dX8_split_76 (by decide) ?_
      exact AW.weak (ls2 := [some (vR 8), some (vI v1), some (vI v2), some (vR 49), some (vI v4), some (vI v5), some (vI v6), some (vI v7), none]) (by simp [lsub]) h

set_option maxRecDepth 20000 in
theorem sg_X8_split_b_92 {M : Mem} {K : Mem → Prop} {v1 v2 v4 v5 v6 v7 : Int} 
    (h : CI mX8_waysOf [vR 8, vI v2, vI (v6 + 1), vI (v4 - v7)] M (fun r104 M104 => InR r104 ∧ ((0 ≤ v5 ∧ v5 ≤ 2147483647) ∧ (0 < (if 1 < r104 then r104 else 1) ∧ (if 1 < r104 then r104 else 1) ≤ 2147483647)) ∧ CI mX8_keyOf [vI v7, vI (v5 / (if 1 < r104 then r104 else 1))] M104 (fun r122 M122 => (0 ≤ v6 ∧ v6 < 3) ∧ ((0 ≤ v5 ∧ v5 ≤ 2147483647) ∧ (0 < (if 1 < r104 then r104 else 1) ∧ (if 1 < r104 then r104 else 1) ≤ 2147483647)) ∧ AW mX8_split 32 [some (vR 8), some (vI v1), some (vI v2), some (vR 49), some (vI (v4 - v7)), some (vI (v5 % (if 1 < r104 then r104 else 1))), some (vI (v6 + 1)), none, none] [] (up M122 49 v6 r122) (QV K)))) :
    AW mX8_split 92 [some (vR 8), some (vI v1), some (vI v2), some (vR 49), some (vI v4), some (vI v5), some (vI v6), some (vI v7), none] [] M (QV K) := by
  refine AW.iconst (pc := 92) dX8_split_92 ?_
  refine AW.aload_n (pc := 93) (x := 8) dX8_split_93 rfl ?_
  refine AW.iload_n (pc := 94) (x := v2) dX8_split_94 rfl ?_
  refine AW.iload (pc := 95) (x := v6) dX8_split_95 rfl ?_
  refine AW.iconst (pc := 97) dX8_split_97 ?_
  refine AW.iadd (pc := 98) dX8_split_98 ?_
  refine AW.iload (pc := 99) (x := v4) dX8_split_99 rfl ?_
  refine AW.iload (pc := 101) (x := v7) dX8_split_101 rfl ?_
  refine AW.isub (pc := 103) dX8_split_103 ?_
  refine AW.callV (pc := 104) (As := [vI v2, vI (v6 + 1), vI (v4 - v7)]) (st := [vI 1]) dX8_split_104 cl_X8_45 kd_8 hl_8 ⟨Nat.le_of_ble_eq_true rfl, Nat.le_of_ble_eq_true rfl⟩ (Nat.le_of_ble_eq_true rfl) (Nat.le_of_ble_eq_true rfl) h ?_
  rintro _ M104 ⟨r104, rfl, h⟩
  show AW mX8_split 107 [some (vR 8), some (vI v1), some (vI v2), some (vR 49), some (vI v4), some (vI v5), some (vI v6), some (vI v7), none] [vI r104, vI 1] M104 (QV K)
  obtain ⟨o, h⟩ := h
  refine AW.mmax (pc := 107) dX8_split_107 cc_X8_80 (Nat.le_of_ble_eq_true rfl) (Nat.le_of_ble_eq_true rfl) (Nat.le_of_ble_eq_true rfl) (by decide) o ?_
  refine AW.istore (pc := 110) (ls2 := [some (vR 8), some (vI v1), some (vI v2), some (vR 49), some (vI v4), some (vI v5), some (vI v6), some (vI v7), some (vI (if 1 < r104 then r104 else 1))]) dX8_split_110 (by decide) rfl ?_
  refine AW.aload_n (pc := 112) (x := 49) dX8_split_112 rfl ?_
  refine AW.iload (pc := 113) (x := v6) dX8_split_113 rfl ?_
  refine AW.iload (pc := 115) (x := v7) dX8_split_115 rfl ?_
  refine AW.iload (pc := 117) (x := v5) dX8_split_117 rfl ?_
  refine AW.iload (pc := 119) (x := (if 1 < r104 then r104 else 1)) dX8_split_119 rfl ?_
  obtain ⟨o, h⟩ := h
  refine AW.idiv (pc := 121) dX8_split_121 o.1 o.2 ?_
  refine AW.callS (pc := 122) (As := [vI v7, vI (v5 / (if 1 < r104 then r104 else 1))]) (st := [vI v6, vR 49]) dX8_split_122 cl_X8_85 ⟨Nat.le_of_ble_eq_true rfl, Nat.le_of_ble_eq_true rfl⟩ (Nat.le_of_ble_eq_true rfl) (Nat.le_of_ble_eq_true rfl) h ?_
  rintro _ M122 ⟨r122, rfl, h⟩
  show AW mX8_split 125 [some (vR 8), some (vI v1), some (vI v2), some (vR 49), some (vI v4), some (vI v5), some (vI v6), some (vI v7), some (vI (if 1 < r104 then r104 else 1))] [vI r122, vI v6, vR 49] M122 (QV K)
  obtain ⟨o, h⟩ := h
  refine AW.iast (pc := 125) dX8_split_125 kd_49 hl_49 o ?_
  refine AW.iload (pc := 126) (x := v5) dX8_split_126 rfl ?_
  refine AW.iload (pc := 128) (x := (if 1 < r104 then r104 else 1)) dX8_split_128 rfl ?_
  obtain ⟨o, h⟩ := h
  refine AW.irem (pc := 130) dX8_split_130 o.1 o.2 ?_
  refine AW.istore (pc := 131) (ls2 := [some (vR 8), some (vI v1), some (vI v2), some (vR 49), some (vI v4), some (vI (v5 % (if 1 < r104 then r104 else 1))), some (vI v6), some (vI v7), some (vI (if 1 < r104 then r104 else 1))]) dX8_split_131 (by decide) rfl ?_
  refine AW.iload (pc := 133) (x := v4) dX8_split_133 rfl ?_
  refine AW.iload (pc := 135) (x := v7) dX8_split_135 rfl ?_
  refine AW.isub (pc := 137) dX8_split_137 ?_
  refine AW.istore (pc := 138) (ls2 := [some (vR 8), some (vI v1), some (vI v2), some (vR 49), some (vI (v4 - v7)), some (vI (v5 % (if 1 < r104 then r104 else 1))), some (vI v6), some (vI v7), some (vI (if 1 < r104 then r104 else 1))]) dX8_split_138 (by decide) rfl ?_
  refine AW.iinc (pc := 140) (x := v6) (ls2 := [some (vR 8), some (vI v1), some (vI v2), some (vR 49), some (vI (v4 - v7)), some (vI (v5 % (if 1 < r104 then r104 else 1))), some (vI (v6 + 1)), some (vI v7), some (vI (if 1 < r104 then r104 else 1))]) dX8_split_140 rfl (by decide) rfl ?_
  refine AW.goto (pc := 143) (tgt := 32) dX8_split_143 (by decide) ?_
  exact AW.weak (ls2 := [some (vR 8), some (vI v1), some (vI v2), some (vR 49), some (vI (v4 - v7)), some (vI (v5 % (if 1 < r104 then r104 else 1))), some (vI (v6 + 1)), none, none]) (by simp [lsub]) h

set_option maxRecDepth 20000 in
theorem en_X8_wayPlace {M : Mem} {K : Int → Mem → Prop} {v0 v1 v2 : Int} 
    (h : K ((((v0 * 4) + v1) * 13) + v2) M) :
    CI mX8_wayPlace [vI v0, vI v1, vI v2] M K := by
  show AW mX8_wayPlace 0 [some (vI v0), some (vI v1), some (vI v2)] [] M (QI K)
  refine AW.iload_n (pc := 0) (x := v0) dX8_wayPlace_0 rfl ?_
  refine AW.iconst (pc := 1) dX8_wayPlace_1 ?_
  refine AW.imul (pc := 2) dX8_wayPlace_2 ?_
  refine AW.iload_n (pc := 3) (x := v1) dX8_wayPlace_3 rfl ?_
  refine AW.iadd (pc := 4) dX8_wayPlace_4 ?_
  refine AW.bipush (pc := 5) dX8_wayPlace_5 (by decide) ?_
  refine AW.imul (pc := 7) dX8_wayPlace_7 ?_
  refine AW.iload_n (pc := 8) (x := v2) dX8_wayPlace_8 rfl ?_
  refine AW.iadd (pc := 9) dX8_wayPlace_9 ?_
  exact AW.iret (st := []) (pc := 10) dX8_wayPlace_10 rfl ⟨_, rfl, h⟩

set_option maxRecDepth 20000 in
theorem en_X8_waysOf {M : Mem} {K : Int → Mem → Prop} {v1 v2 v3 : Int} 
    (h : CI mX8_wayPlace [vI v1, vI v2, vI v3] M (fun r7 M7 => (0 ≤ r7 ∧ r7 < 624) ∧ K (M7 11 r7) M7)) :
    CI mX8_waysOf [vR 8, vI v1, vI v2, vI v3] M K := by
  show AW mX8_waysOf 0 [some (vR 8), some (vI v1), some (vI v2), some (vI v3)] [] M (QI K)
  refine AW.aload_n (pc := 0) (x := 8) dX8_waysOf_0 rfl ?_
  refine AW.getR (pc := 1) (h2 := 11) dX8_waysOf_1 fg_X8_18 kd_8 hl_8 rfl ?_
  refine AW.iload_n (pc := 4) (x := v1) dX8_waysOf_4 rfl ?_
  refine AW.iload_n (pc := 5) (x := v2) dX8_waysOf_5 rfl ?_
  refine AW.iload_n (pc := 6) (x := v3) dX8_waysOf_6 rfl ?_
  refine AW.callS (pc := 7) (As := [vI v1, vI v2, vI v3]) (st := [vR 11]) dX8_waysOf_7 cl_X8_56 ⟨Nat.le_of_ble_eq_true rfl, Nat.le_of_ble_eq_true rfl⟩ (Nat.le_of_ble_eq_true rfl) (Nat.le_of_ble_eq_true rfl) h ?_
  rintro _ M7 ⟨r7, rfl, h⟩
  show AW mX8_waysOf 10 [some (vR 8), some (vI v1), some (vI v2), some (vI v3)] [vI r7, vR 11] M7 (QI K)
  obtain ⟨o, h⟩ := h
  refine AW.iald (pc := 10) dX8_waysOf_10 kd_11 hl_11 o ?_
  exact AW.iret (st := []) (pc := 11) dX8_waysOf_11 rfl ⟨_, rfl, h⟩

set_option maxRecDepth 20000 in
theorem en_X8_waysOfSplit {M : Mem} {K : Int → Mem → Prop} {v1 v2 v3 v4 : Int} 
    (h : CI mX4_typeOfArgument [vR 1, vI v1, vI v2] M (fun r10 M10 => (0 ≤ ((r10 * 13) + v3) ∧ ((r10 * 13) + v3) < 52) ∧ CI mX8_wayPlace [vI v1, vI (v2 + 1), vI (v4 - v3)] M10 (fun r31 M31 => (0 ≤ r31 ∧ r31 < 624) ∧ CI mX11_limitedProduct [vI (M10 9 ((r10 * 13) + v3)), vI (M31 11 r31)] M31 (fun r35 M35 => K r35 M35)))) :
    CI mX8_waysOfSplit [vR 8, vI v1, vI v2, vI v3, vI v4] M K := by
  show AW mX8_waysOfSplit 0 [some (vR 8), some (vI v1), some (vI v2), some (vI v3), some (vI v4)] [] M (QI K)
  refine AW.aload_n (pc := 0) (x := 8) dX8_waysOfSplit_0 rfl ?_
  refine AW.getR (pc := 1) (h2 := 9) dX8_waysOfSplit_1 fg_X8_9 kd_8 hl_8 rfl ?_
  refine AW.aload_n (pc := 4) (x := 8) dX8_waysOfSplit_4 rfl ?_
  refine AW.getR (pc := 5) (h2 := 1) dX8_waysOfSplit_5 fg_X8_21 kd_8 hl_8 rfl ?_
  refine AW.iload_n (pc := 8) (x := v1) dX8_waysOfSplit_8 rfl ?_
  refine AW.iload_n (pc := 9) (x := v2) dX8_waysOfSplit_9 rfl ?_
  refine AW.callV (pc := 10) (As := [vI v1, vI v2]) (st := [vR 9]) dX8_waysOfSplit_10 cl_X8_63 kd_1 hl_1 ⟨Nat.le_of_ble_eq_true rfl, Nat.le_of_ble_eq_true rfl⟩ (Nat.le_of_ble_eq_true rfl) (Nat.le_of_ble_eq_true rfl) h ?_
  rintro _ M10 ⟨r10, rfl, h⟩
  show AW mX8_waysOfSplit 13 [some (vR 8), some (vI v1), some (vI v2), some (vI v3), some (vI v4)] [vI r10, vR 9] M10 (QI K)
  refine AW.bipush (pc := 13) dX8_waysOfSplit_13 (by decide) ?_
  refine AW.imul (pc := 15) dX8_waysOfSplit_15 ?_
  refine AW.iload_n (pc := 16) (x := v3) dX8_waysOfSplit_16 rfl ?_
  refine AW.iadd (pc := 17) dX8_waysOfSplit_17 ?_
  obtain ⟨o, h⟩ := h
  refine AW.iald (pc := 18) dX8_waysOfSplit_18 kd_9 hl_9 o ?_
  refine AW.aload_n (pc := 19) (x := 8) dX8_waysOfSplit_19 rfl ?_
  refine AW.getR (pc := 20) (h2 := 11) dX8_waysOfSplit_20 fg_X8_18 kd_8 hl_8 rfl ?_
  refine AW.iload_n (pc := 23) (x := v1) dX8_waysOfSplit_23 rfl ?_
  refine AW.iload_n (pc := 24) (x := v2) dX8_waysOfSplit_24 rfl ?_
  refine AW.iconst (pc := 25) dX8_waysOfSplit_25 ?_
  refine AW.iadd (pc := 26) dX8_waysOfSplit_26 ?_
  refine AW.iload (pc := 27) (x := v4) dX8_waysOfSplit_27 rfl ?_
  refine AW.iload_n (pc := 29) (x := v3) dX8_waysOfSplit_29 rfl ?_
  refine AW.isub (pc := 30) dX8_waysOfSplit_30 ?_
  refine AW.callS (pc := 31) (As := [vI v1, vI (v2 + 1), vI (v4 - v3)]) (st := [vR 11, vI (M10 9 ((r10 * 13) + v3))]) dX8_waysOfSplit_31 cl_X8_56 ⟨Nat.le_of_ble_eq_true rfl, Nat.le_of_ble_eq_true rfl⟩ (Nat.le_of_ble_eq_true rfl) (Nat.le_of_ble_eq_true rfl) h ?_
  rintro _ M31 ⟨r31, rfl, h⟩
  show AW mX8_waysOfSplit 34 [some (vR 8), some (vI v1), some (vI v2), some (vI v3), some (vI v4)] [vI r31, vR 11, vI (M10 9 ((r10 * 13) + v3))] M31 (QI K)
  obtain ⟨o, h⟩ := h
  refine AW.iald (pc := 34) dX8_waysOfSplit_34 kd_11 hl_11 o ?_
  refine AW.callN (pc := 35) (As := [vI (M10 9 ((r10 * 13) + v3)), vI (M31 11 r31)]) (st := []) dX8_waysOfSplit_35 cl_X8_66 ⟨Nat.le_of_ble_eq_true rfl, Nat.le_of_ble_eq_true rfl⟩ (Nat.le_of_ble_eq_true rfl) (Nat.le_of_ble_eq_true rfl) h ?_
  rintro _ M35 ⟨r35, rfl, h⟩
  show AW mX8_waysOfSplit 38 [some (vR 8), some (vI v1), some (vI v2), some (vI v3), some (vI v4)] [vI r35] M35 (QI K)
  exact AW.iret (st := []) (pc := 38) dX8_waysOfSplit_38 rfl ⟨_, rfl, h⟩

