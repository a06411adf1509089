set_option maxRecDepth 20000 in
theorem en_X2_firstFitting {M : Mem} {K : Int → Mem → Prop} {v2 : Int} 
    (h : AW mX2_firstFitting 2 [some (vR 43), some (vR 22), some (vI v2), some (vI 0)] [] M (QI K)) :
    CI mX2_firstFitting [vR 43, vR 22, vI v2] M K := by
  show AW mX2_firstFitting 0 [some (vR 43), some (vR 22), some (vI v2), none] [] M (QI K)
  refine AW.iconst (pc := 0) dX2_firstFitting_0 ?_
  refine AW.istore_n (pc := 1) (ls2 := [some (vR 43), some (vR 22), some (vI v2), some (vI 0)]) dX2_firstFitting_1 (by decide) rfl ?_
  exact h

set_option maxRecDepth 20000 in
theorem sg_X2_firstFitting_2 {M : Mem} {K : Int → Mem → Prop} {v2 v3 : Int} 
    (h : (InR v3 ∧ InR (M 43 1)) ∧ (v3 ≥ (M 43 1) → (K (-13) M)) ∧ (¬ (v3 ≥ (M 43 1)) → ((0 ≤ v3 ∧ v3 < 8) ∧ CI mX2_fits [vR 43, vI (M 44 v3), vR 22, vI v2] M (fun r19 M19 => InR r19 ∧ (r19 = 0 → (AW mX2_firstFitting 2 [some (vR 43), some (vR 22), some (vI v2), some (vI (v3 + 1))] [] M19 (QI K))) ∧ (¬ (r19 = 0) → (K v3 M19)))))) :
    AW mX2_firstFitting 2 [some (vR 43), some (vR 22), some (vI v2), some (vI v3)] [] M (QI K) := by
  refine AW.iload_n (pc := 2) (x := v3) dX2_firstFitting_2 rfl ?_
  refine AW.aload_n (pc := 3) (x := 43) dX2_firstFitting_3 rfl ?_
  refine AW.getI (pc := 4) dX2_firstFitting_4 fg_X2_39 kd_43 hl_43 rfl ?_
  obtain ⟨o, ha, hb⟩ := h
  refine AW.icmp_ge (pc := 7) (tgt := 33) dX2_firstFitting_7 (by decide) o.1 o.2 (fun hc => ?_) (fun hc => ?_)
  · have h := ha hc
    refine AW.bipush (pc := 33) dX2_firstFitting_33 (by decide) ?_
    exact AW.iret (st := []) (pc := 35) dX2_firstFitting_35 rfl ⟨_, rfl, h⟩
  · have h := hb hc
    refine AW.aload_n (pc := 10) (x := 43) dX2_firstFitting_10 rfl ?_
    refine AW.aload_n (pc := 11) (x := 43) dX2_firstFitting_11 rfl ?_
    refine AW.getR (pc := 12) (h2 := 44) dX2_firstFitting_12 fg_X2_9 kd_43 hl_43 rfl ?_
    refine AW.iload_n (pc := 15) (x := v3) dX2_firstFitting_15 rfl ?_
    obtain ⟨o, h⟩ := h
    refine AW.iald (pc := 16) dX2_firstFitting_16 kd_44 hl_44 o ?_
    refine AW.aload_n (pc := 17) (x := 22) dX2_firstFitting_17 rfl ?_
    refine AW.iload_n (pc := 18) (x := v2) dX2_firstFitting_18 rfl ?_
    refine AW.callV (pc := 19) (As := [vI (M 44 v3), vR 22, vI v2]) (st := []) dX2_firstFitting_19 cl_X2_43 kd_43 hl_43 ⟨Nat.le_of_ble_eq_true rfl, Nat.le_of_ble_eq_true rfl⟩ (Nat.le_of_ble_eq_true rfl) (Nat.le_of_ble_eq_true rfl) h ?_
    rintro _ M19 ⟨r19, rfl, h⟩
    show AW mX2_firstFitting 22 [some (vR 43), some (vR 22), some (vI v2), some (vI v3)] [vI r19] M19 (QI K)
    obtain ⟨o, ha, hb⟩ := h
    refine AW.if_eq (pc := 22) (tgt := 27) dX2_firstFitting_22 (by decide) o (fun hc => ?_) (fun hc => ?_)
    · have h := ha hc
      refine AW.iinc (pc := 27) (x := v3) (ls2 := [some (vR 43), some (vR 22), some (vI v2), some (vI (v3 + 1))]) dX2_firstFitting_27 rfl (by decide) rfl ?_
      refine AW.goto (pc := 30) (tgt := 2) dX2_firstFitting_30 (by decide) ?_
      exact h
    · have h := hb hc
      refine AW.iload_n (pc := 25) (x := v3) dX2_firstFitting_25 rfl ?_
      exact AW.iret (st := []) (pc := 26) dX2_firstFitting_26 rfl ⟨_, rfl, h⟩

set_option maxRecDepth 20000 in
theorem en_X2_firstFitting_b {M : Mem} {K : Int → Mem → Prop} {v2 : Int} 
    (h : AW mX2_firstFitting 2 [some (vR 43), some (vR 8), some (vI v2), some (vI 0)] [] M (QI K)) :
    CI mX2_firstFitting [vR 43, vR 8, vI v2] M K := by
  show AW mX2_firstFitting 0 [some (vR 43), some (vR 8), some (vI v2), none] [] M (QI K)
  refine AW.iconst (pc := 0) dX2_firstFitting_0 ?_
  refine AW.istore_n (pc := 1) (ls2 := [some (vR 43), some (vR 8), some (vI v2), some (vI 0)]) dX2_firstFitting_1 (by decide) rfl ?_
  exact h

set_option maxRecDepth 20000 in
theorem sg_X2_firstFitting_b_2 {M : Mem} {K : Int → Mem → Prop} {v2 v3 : Int} 
    (h : (InR v3 ∧ InR (M 43 1)) ∧ (v3 ≥ (M 43 1) → (K (-13) M)) ∧ (¬ (v3 ≥ (M 43 1)) → ((0 ≤ v3 ∧ v3 < 8) ∧ CI mX2_fits [vR 43, vI (M 44 v3), vR 8, vI v2] M (fun r19 M19 => InR r19 ∧ (r19 = 0 → (AW mX2_firstFitting 2 [some (vR 43), some (vR 8), some (vI v2), some (vI (v3 + 1))] [] M19 (QI K))) ∧ (¬ (r19 = 0) → (K v3 M19)))))) :
    AW mX2_firstFitting 2 [some (vR 43), some (vR 8), some (vI v2), some (vI v3)] [] M (QI K) := by
  refine AW.iload_n (pc := 2) (x := v3) dX2_firstFitting_2 rfl ?_
  refine AW.aload_n (pc := 3) (x := 43) dX2_firstFitting_3 rfl ?_
  refine AW.getI (pc := 4) dX2_firstFitting_4 fg_X2_39 kd_43 hl_43 rfl ?_
  obtain ⟨o, ha, hb⟩ := h
  refine AW.icmp_ge (pc := 7) (tgt := 33) dX2_firstFitting_7 (by decide) o.1 o.2 (fun hc => ?_) (fun hc => ?_)
  · have h := ha hc
    refine AW.bipush (pc := 33) dX2_firstFitting_33 (by decide) ?_
    exact AW.iret (st := []) (pc := 35) dX2_firstFitting_35 rfl ⟨_, rfl, h⟩
  · have h := hb hc
    refine AW.aload_n (pc := 10) (x := 43) dX2_firstFitting_10 rfl ?_
    refine AW.aload_n (pc := 11) (x := 43) dX2_firstFitting_11 rfl ?_
    refine AW.getR (pc := 12) (h2 := 44) dX2_firstFitting_12 fg_X2_9 kd_43 hl_43 rfl ?_
    refine AW.iload_n (pc := 15) (x := v3) dX2_firstFitting_15 rfl ?_
    obtain ⟨o, h⟩ := h
    refine AW.iald (pc := 16) dX2_firstFitting_16 kd_44 hl_44 o ?_
    refine AW.aload_n (pc := 17) (x := 8) dX2_firstFitting_17 rfl ?_
    refine AW.iload_n (pc := 18) (x := v2) dX2_firstFitting_18 rfl ?_
    refine AW.callV (pc := 19) (As := [vI (M 44 v3), vR 8, vI v2]) (st := []) dX2_firstFitting_19 cl_X2_43 kd_43 hl_43 ⟨Nat.le_of_ble_eq_true rfl, Nat.le_of_ble_eq_true rfl⟩ (Nat.le_of_ble_eq_true rfl) (Nat.le_of_ble_eq_true rfl) h ?_
    rintro _ M19 ⟨r19, rfl, h⟩
    show AW mX2_firstFitting 22 [some (vR 43), some (vR 8), some (vI v2), some (vI v3)] [vI r19] M19 (QI K)
    obtain ⟨o, ha, hb⟩ := h
    refine AW.if_eq (pc := 22) (tgt := 27) dX2_firstFitting_22 (by decide) o (fun hc => ?_) (fun hc => ?_)
    · have h := ha hc
      refine AW.iinc (pc := 27) (x := v3) (ls2 := [some (vR 43), some (vR 8), some (vI v2), some (vI (v3 + 1))]) dX2_firstFitting_27 rfl (by decide) rfl ?_
      refine AW.goto (pc := 30) (tgt := 2) dX2_firstFitting_30 (by decide) ?_
      exact h
    · have h := hb hc
      refine AW.iload_n (pc := 25) (x := v3) dX2_firstFitting_25 rfl ?_
      exact AW.iret (st := []) (pc := 26) dX2_firstFitting_26 rfl ⟨_, rfl, h⟩

set_option maxRecDepth 20000 in
theorem en_X2_fits {M : Mem} {K : Int → Mem → Prop} {v1 v3 : Int} 
    (h : CV mX2_await [vR 43, vI v1, vI v3] (up (up M 43 3 ((M 43 3) + 1)) 43 8 0) (fun M18 => AW mX2_fits 27 [some (vR 43), some (vI v1), some (vR 22), some (vI v3), some (vI 1), some (vI 0)] [] M18 (QI K))) :
    CI mX2_fits [vR 43, vI v1, vR 22, vI v3] M K := by
  show AW mX2_fits 0 [some (vR 43), some (vI v1), some (vR 22), some (vI v3), none, none] [] M (QI K)
  refine AW.aload_n (pc := 0) (x := 43) dX2_fits_0 rfl ?_
  refine AW.dup (pc := 1) dX2_fits_1 rfl ?_
  refine AW.getI (pc := 2) dX2_fits_2 fg_X2_47 kd_43 hl_43 rfl ?_
  refine AW.iconst (pc := 5) dX2_fits_5 ?_
  refine AW.iadd (pc := 6) dX2_fits_6 ?_
  refine AW.put (pc := 7) dX2_fits_7 fp_X2_47 kd_43 hl_43 rfl ?_
  refine AW.aload_n (pc := 10) (x := 43) dX2_fits_10 rfl ?_
  refine AW.iconst (pc := 11) dX2_fits_11 ?_
  refine AW.put (pc := 12) dX2_fits_12 fp_X2_50 kd_43 hl_43 rfl ?_
  refine AW.aload_n (pc := 15) (x := 43) dX2_fits_15 rfl ?_
  refine AW.iload_n (pc := 16) (x := v1) dX2_fits_16 rfl ?_
  refine AW.iload_n (pc := 17) (x := v3) dX2_fits_17 rfl ?_
  refine AW.callV (pc := 18) (As := [vI v1, vI v3]) (st := []) dX2_fits_18 cl_X2_53 kd_43 hl_43 ⟨Nat.le_of_ble_eq_true rfl, Nat.le_of_ble_eq_true rfl⟩ (Nat.le_of_ble_eq_true rfl) (Nat.le_of_ble_eq_true rfl) h ?_
  rintro _ M18 ⟨rfl, h⟩
  show AW mX2_fits 21 [some (vR 43), some (vI v1), some (vR 22), some (vI v3), none, none] [] M18 (QI K)
  refine AW.iconst (pc := 21) dX2_fits_21 ?_
  refine AW.istore (pc := 22) (ls2 := [some (vR 43), some (vI v1), some (vR 22), some (vI v3), some (vI 1), none]) dX2_fits_22 (by decide) rfl ?_
  refine AW.iconst (pc := 24) dX2_fits_24 ?_
  refine AW.istore (pc := 25) (ls2 := [some (vR 43), some (vI v1), some (vR 22), some (vI v3), some (vI 1), some (vI 0)]) dX2_fits_25 (by decide) rfl ?_
  exact h

set_option maxRecDepth 20000 in
theorem sg_X2_fits_27 {M : Mem} {K : Int → Mem → Prop} {v1 v3 v4 v5 : Int} 
    (h : InR v4 ∧ (v4 = 0 → (((v4 = 0 ∨ v4 = 1) ∧ K v4 M))) ∧ (¬ (v4 = 0) → (InR (M 43 8) ∧ ((M 43 8) ≤ 0 → (((v4 = 0 ∨ v4 = 1) ∧ K v4 M))) ∧ (¬ ((M 43 8) ≤ 0) → (InR v5 ∧ (v5 ≥ 1000000 → (((v4 = 0 ∨ v4 = 1) ∧ K v4 M))) ∧ (¬ (v5 ≥ 1000000) → ((0 ≤ ((M 43 8) - 1) ∧ ((M 43 8) - 1) < 60) ∧ CI mX0_resolve [vR 12, vI (M 47 ((M 43 8) - 1))] (up M 43 8 ((M 43 8) - 1)) (fun r70 M70 => (0 ≤ (M70 43 8) ∧ (M70 43 8) < 60) ∧ CI mX2_fitsAtRoot [vR 43, vI r70, vR 22, vI (M70 48 (M70 43 8))] M70 (fun r83 M83 => AW mX2_fits 27 [some (vR 43), some (vI v1), some (vR 22), some (vI v3), some (vI r83), some (vI (v5 + 1))] [] M83 (QI K)))))))))) :
    AW mX2_fits 27 [some (vR 43), some (vI v1), some (vR 22), some (vI v3), some (vI v4), some (vI v5)] [] M (QI K) := by
  refine AW.iload (pc := 27) (x := v4) dX2_fits_27 rfl ?_
  obtain ⟨o, ha, hb⟩ := h
  refine AW.if_eq (pc := 29) (tgt := 94) dX2_fits_29 (by decide) o (fun hc => ?_) (fun hc => ?_)
  · have h := ha hc
    refine AW.iload (pc := 94) (x := v4) dX2_fits_94 rfl ?_
    exact AW.zret (st := []) (pc := 96) dX2_fits_96 rfl h.1 ⟨_, rfl, h.2⟩
  · have h := hb hc
    refine AW.aload_n (pc := 32) (x := 43) dX2_fits_32 rfl ?_
    refine AW.getI (pc := 33) dX2_fits_33 fg_X2_50 kd_43 hl_43 rfl ?_
    obtain ⟨o, ha, hb⟩ := h
    refine AW.if_le (pc := 36) (tgt := 94) dX2_fits_36 (by decide) o (fun hc => ?_) (fun hc => ?_)
    · have h := ha hc
      refine AW.iload (pc := 94) (x := v4) dX2_fits_94 rfl ?_
      exact AW.zret (st := []) (pc := 96) dX2_fits_96 rfl h.1 ⟨_, rfl, h.2⟩
    · have h := hb hc
      refine AW.iload (pc := 39) (x := v5) dX2_fits_39 rfl ?_
      refine AW.ldc (pc := 41) (n := 1000000) dX2_fits_41 k_X2_57 ?_
      obtain ⟨o, ha, hb⟩ := h
      refine AW.icmp_ge (pc := 43) (tgt := 94) dX2_fits_43 (by decide) o (by decide) (fun hc => ?_) (fun hc => ?_)
      · have h := ha hc
        refine AW.iload (pc := 94) (x := v4) dX2_fits_94 rfl ?_
        exact AW.zret (st := []) (pc := 96) dX2_fits_96 rfl h.1 ⟨_, rfl, h.2⟩
      · have h := hb hc
        refine AW.aload_n (pc := 46) (x := 43) dX2_fits_46 rfl ?_
        refine AW.dup (pc := 47) dX2_fits_47 rfl ?_
        refine AW.getI (pc := 48) dX2_fits_48 fg_X2_50 kd_43 hl_43 rfl ?_
        refine AW.iconst (pc := 51) dX2_fits_51 ?_
        refine AW.isub (pc := 52) dX2_fits_52 ?_
        refine AW.put (pc := 53) dX2_fits_53 fp_X2_50 kd_43 hl_43 rfl ?_
        refine AW.aload_n (pc := 56) (x := 43) dX2_fits_56 rfl ?_
        refine AW.aload_n (pc := 57) (x := 43) dX2_fits_57 rfl ?_
        refine AW.getR (pc := 58) (h2 := 12) dX2_fits_58 fg_X2_30 kd_43 hl_43 rfl ?_
        refine AW.aload_n (pc := 61) (x := 43) dX2_fits_61 rfl ?_
        refine AW.getR (pc := 62) (h2 := 47) dX2_fits_62 fg_X2_21 kd_43 hl_43 rfl ?_
        refine AW.aload_n (pc := 65) (x := 43) dX2_fits_65 rfl ?_
        refine AW.getI (pc := 66) dX2_fits_66 fg_X2_50 kd_43 hl_43 rfl ?_
        obtain ⟨o, h⟩ := h
        refine AW.iald (pc := 69) dX2_fits_69 kd_47 hl_47 o ?_
        refine AW.callV (pc := 70) (As := [vI (M 47 ((M 43 8) - 1))]) (st := [vR 43]) dX2_fits_70 cl_X2_58 kd_12 hl_12 ⟨Nat.le_of_ble_eq_true rfl, Nat.le_of_ble_eq_true rfl⟩ (Nat.le_of_ble_eq_true rfl) (Nat.le_of_ble_eq_true rfl) h ?_
        rintro _ M70 ⟨r70, rfl, h⟩
        show AW mX2_fits 73 [some (vR 43), some (vI v1), some (vR 22), some (vI v3), some (vI v4), some (vI v5)] [vI r70, vR 43] M70 (QI K)
        refine AW.aload_n (pc := 73) (x := 22) dX2_fits_73 rfl ?_
        refine AW.aload_n (pc := 74) (x := 43) dX2_fits_74 rfl ?_
        refine AW.getR (pc := 75) (h2 := 48) dX2_fits_75 fg_X2_24 kd_43 hl_43 rfl ?_
        refine AW.aload_n (pc := 78) (x := 43) dX2_fits_78 rfl ?_
        refine AW.getI (pc := 79) dX2_fits_79 fg_X2_50 kd_43 hl_43 rfl ?_
        obtain ⟨o, h⟩ := h
        refine AW.iald (pc := 82) dX2_fits_82 kd_48 hl_48 o ?_
        refine AW.callV (pc := 83) (As := [vI r70, vR 22, vI (M70 48 (M70 43 8))]) (st := []) dX2_fits_83 cl_X2_62 kd_43 hl_43 ⟨Nat.le_of_ble_eq_true rfl, Nat.le_of_ble_eq_true rfl⟩ (Nat.le_of_ble_eq_true rfl) (Nat.le_of_ble_eq_true rfl) h ?_
        rintro _ M83 ⟨r83, rfl, h⟩
        show AW mX2_fits 86 [some (vR 43), some (vI v1), some (vR 22), some (vI v3), some (vI v4), some (vI v5)] [vI r83] M83 (QI K)
        refine AW.istore (pc := 86) (ls2 := [some (vR 43), some (vI v1), some (vR 22), some (vI v3), some (vI r83), some (vI v5)]) dX2_fits_86 (by decide) rfl ?_
        refine AW.iinc (pc := 88) (x := v5) (ls2 := [some (vR 43), some (vI v1), some (vR 22), some (vI v3), some (vI r83), some (vI (v5 + 1))]) dX2_fits_88 rfl (by decide) rfl ?_
        refine AW.goto (pc := 91) (tgt := 27) dX2_fits_91 (by decide) ?_
        exact h

set_option maxRecDepth 20000 in
theorem en_X2_fits_b {M : Mem} {K : Int → Mem → Prop} {v1 v3 : Int} 
    (h : CV mX2_await [vR 43, vI v1, vI v3] (up (up M 43 3 ((M 43 3) + 1)) 43 8 0) (fun M18 => AW mX2_fits 27 [some (vR 43), some (vI v1), some (vR 8), some (vI v3), some (vI 1), some (vI 0)] [] M18 (QI K))) :
    CI mX2_fits [vR 43, vI v1, vR 8, vI v3] M K := by
  show AW mX2_fits 0 [some (vR 43), some (vI v1), some (vR 8), some (vI v3), none, none] [] M (QI K)
  refine AW.aload_n (pc := 0) (x := 43) dX2_fits_0 rfl ?_
  refine AW.dup (pc := 1) dX2_fits_1 rfl ?_
  refine AW.getI (pc := 2) dX2_fits_2 fg_X2_47 kd_43 hl_43 rfl ?_
  refine AW.iconst (pc := 5) dX2_fits_5 ?_
  refine AW.iadd (pc := 6) dX2_fits_6 ?_
  refine AW.put (pc := 7) dX2_fits_7 fp_X2_47 kd_43 hl_43 rfl ?_
  refine AW.aload_n (pc := 10) (x := 43) dX2_fits_10 rfl ?_
  refine AW.iconst (pc := 11) dX2_fits_11 ?_
  refine AW.put (pc := 12) dX2_fits_12 fp_X2_50 kd_43 hl_43 rfl ?_
  refine AW.aload_n (pc := 15) (x := 43) dX2_fits_15 rfl ?_
  refine AW.iload_n (pc := 16) (x := v1) dX2_fits_16 rfl ?_
  refine AW.iload_n (pc := 17) (x := v3) dX2_fits_17 rfl ?_
  refine AW.callV (pc := 18) (As := [vI v1, vI v3]) (st := []) dX2_fits_18 cl_X2_53 kd_43 hl_43 ⟨Nat.le_of_ble_eq_true rfl, Nat.le_of_ble_eq_true rfl⟩ (Nat.le_of_ble_eq_true rfl) (Nat.le_of_ble_eq_true rfl) h ?_
  rintro _ M18 ⟨rfl, h⟩
  show AW mX2_fits 21 [some (vR 43), some (vI v1), some (vR 8), some (vI v3), none, none] [] M18 (QI K)
  refine AW.iconst (pc := 21) dX2_fits_21 ?_
  refine AW.istore (pc := 22) (ls2 := [some (vR 43), some (vI v1), some (vR 8), some (vI v3), some (vI 1), none]) dX2_fits_22 (by decide) rfl ?_
  refine AW.iconst (pc := 24) dX2_fits_24 ?_
  refine AW.istore (pc := 25) (ls2 := [some (vR 43), some (vI v1), some (vR 8), some (vI v3), some (vI 1), some (vI 0)]) dX2_fits_25 (by decide) rfl ?_
  exact h

set_option maxRecDepth 20000 in
theorem sg_X2_fits_b_27 {M : Mem} {K : Int → Mem → Prop} {v1 v3 v4 v5 : Int} 
    (h : InR v4 ∧ (v4 = 0 → (((v4 = 0 ∨ v4 = 1) ∧ K v4 M))) ∧ (¬ (v4 = 0) → (InR (M 43 8) ∧ ((M 43 8) ≤ 0 → (((v4 = 0 ∨ v4 = 1) ∧ K v4 M))) ∧ (¬ ((M 43 8) ≤ 0) → (InR v5 ∧ (v5 ≥ 1000000 → (((v4 = 0 ∨ v4 = 1) ∧ K v4 M))) ∧ (¬ (v5 ≥ 1000000) → ((0 ≤ ((M 43 8) - 1) ∧ ((M 43 8) - 1) < 60) ∧ CI mX0_resolve [vR 12, vI (M 47 ((M 43 8) - 1))] (up M 43 8 ((M 43 8) - 1)) (fun r70 M70 => (0 ≤ (M70 43 8) ∧ (M70 43 8) < 60) ∧ CI mX2_fitsAtRoot [vR 43, vI r70, vR 8, vI (M70 48 (M70 43 8))] M70 (fun r83 M83 => AW mX2_fits 27 [some (vR 43), some (vI v1), some (vR 8), some (vI v3), some (vI r83), some (vI (v5 + 1))] [] M83 (QI K)))))))))) :
    AW mX2_fits 27 [some (vR 43), some (vI v1), some (vR 8), some (vI v3), some (vI v4), some (vI v5)] [] M (QI K) := by
  refine AW.iload (pc := 27) (x := v4) dX2_fits_27 rfl ?_
  obtain ⟨o, ha, hb⟩ := h
  refine AW.if_eq (pc := 29) (tgt := 94) dX2_fits_29 (by decide) o (fun hc => ?_) (fun hc => ?_)
  · have h := ha hc
    refine AW.iload (pc := 94) (x := v4) dX2_fits_94 rfl ?_
    exact AW.zret (st := []) (pc := 96) dX2_fits_96 rfl h.1 ⟨_, rfl, h.2⟩
  · have h := hb hc
    refine AW.aload_n (pc := 32) (x := 43) dX2_fits_32 rfl ?_
    refine AW.getI (pc := 33) dX2_fits_33 fg_X2_50 kd_43 hl_43 rfl ?_
    obtain ⟨o, ha, hb⟩ := h
    refine AW.if_le (pc := 36) (tgt := 94) dX2_fits_36 (by decide) o (fun hc => ?_) (fun hc => ?_)
    · have h := ha hc
      refine AW.iload (pc := 94) (x := v4) dX2_fits_94 rfl ?_
      exact AW.zret (st := []) (pc := 96) dX2_fits_96 rfl h.1 ⟨_, rfl, h.2⟩
    · have h := hb hc
      refine AW.iload (pc := 39) (x := v5) dX2_fits_39 rfl ?_
      refine AW.ldc (pc := 41) (n := 1000000) dX2_fits_41 k_X2_57 ?_
      obtain ⟨o, ha, hb⟩ := h
      refine AW.icmp_ge (pc := 43) (tgt := 94) dX2_fits_43 (by decide) o (by decide) (fun hc => ?_) (fun hc => ?_)
      · have h := ha hc
        refine AW.iload (pc := 94) (x := v4) dX2_fits_94 rfl ?_
        exact AW.zret (st := []) (pc := 96) dX2_fits_96 rfl h.1 ⟨_, rfl, h.2⟩
      · have h := hb hc
        refine AW.aload_n (pc := 46) (x := 43) dX2_fits_46 rfl ?_
        refine AW.dup (pc := 47) dX2_fits_47 rfl ?_
        refine AW.getI (pc := 48) dX2_fits_48 fg_X2_50 kd_43 hl_43 rfl ?_
        refine AW.iconst (pc := 51) dX2_fits_51 ?_
        refine AW.isub (pc := 52) dX2_fits_52 ?_
        refine AW.put (pc := 53) dX2_fits_53 fp_X2_50 kd_43 hl_43 rfl ?_
        refine AW.aload_n (pc := 56) (x := 43) dX2_fits_56 rfl ?_
        refine AW.aload_n (pc := 57) (x := 43) dX2_fits_57 rfl ?_
        refine AW.getR (pc := 58) (h2 := 12) dX2_fits_58 fg_X2_30 kd_43 hl_43 rfl ?_
        refine AW.aload_n (pc := 61) (x := 43) dX2_fits_61 rfl ?_
        refine AW.getR (pc := 62) (h2 := 47) dX2_fits_62 fg_X2_21 kd_43 hl_43 rfl ?_
        refine AW.aload_n (pc := 65) (x := 43) dX2_fits_65 rfl ?_
        refine AW.getI (pc := 66) dX2_fits_66 fg_X2_50 kd_43 hl_43 rfl ?_
        obtain ⟨o, h⟩ := h
        refine AW.iald (pc := 69) dX2_fits_69 kd_47 hl_47 o ?_
        refine AW.callV (pc := 70) (As := [vI (M 47 ((M 43 8) - 1))]) (st := [vR 43]) dX2_fits_70 cl_X2_58 kd_12 hl_12 ⟨Nat.le_of_ble_eq_true rfl, Nat.le_of_ble_eq_true rfl⟩ (Nat.le_of_ble_eq_true rfl) (Nat.le_of_ble_eq_true rfl) h ?_
        rintro _ M70 ⟨r70, rfl, h⟩
        show AW mX2_fits 73 [some (vR 43), some (vI v1), some (vR 8), some (vI v3), some (vI v4), some (vI v5)] [vI r70, vR 43] M70 (QI K)
        refine AW.aload_n (pc := 73) (x := 8) dX2_fits_73 rfl ?_
        refine AW.aload_n (pc := 74) (x := 43) dX2_fits_74 rfl ?_
        refine AW.getR (pc := 75) (h2 := 48) dX2_fits_75 fg_X2_24 kd_43 hl_43 rfl ?_
        refine AW.aload_n (pc := 78) (x := 43) dX2_fits_78 rfl ?_
        refine AW.getI (pc := 79) dX2_fits_79 fg_X2_50 kd_43 hl_43 rfl ?_
        obtain ⟨o, h⟩ := h
        refine AW.iald (pc := 82) dX2_fits_82 kd_48 hl_48 o ?_
        refine AW.callV (pc := 83) (As := [vI r70, vR 8, vI (M70 48 (M70 43 8))]) (st := []) dX2_fits_83 cl_X2_62 kd_43 hl_43 ⟨Nat.le_of_ble_eq_true rfl, Nat.le_of_ble_eq_true rfl⟩ (Nat.le_of_ble_eq_true rfl) (Nat.le_of_ble_eq_true rfl) h ?_
        rintro _ M83 ⟨r83, rfl, h⟩
        show AW mX2_fits 86 [some (vR 43), some (vI v1), some (vR 8), some (vI v3), some (vI v4), some (vI v5)] [vI r83] M83 (QI K)
        refine AW.istore (pc := 86) (ls2 := [some (vR 43), some (vI v1), some (vR 8), some (vI v3), some (vI r83), some (vI v5)]) dX2_fits_86 (by decide) rfl ?_
        refine AW.iinc (pc := 88) (x := v5) (ls2 := [some (vR 43), some (vI v1), some (vR 8), some (vI v3), some (vI r83), some (vI (v5 + 1))]) dX2_fits_88 rfl (by decide) rfl ?_
        refine AW.goto (pc := 91) (tgt := 27) dX2_fits_91 (by decide) ?_
        exact h

set_option maxRecDepth 20000 in
theorem en_X2_fitsAtRoot {M : Mem} {K : Int → Mem → Prop} {v1 v3 : Int} 
    (h : CI mX0_isVariable [vR 12, vI v1] M (fun r5 M5 => InR r5 ∧ (r5 = 0 → ((0 ≤ v1 ∧ v1 < 100) ∧ CI mX5_isBuiltBy [vR 22, vI v3, vI (M5 14 v1)] M5 (fun r33 M33 => InR r33 ∧ (r33 ≠ 0 → (CV mX5_split [vR 22, vI v3, vI (M5 14 v1), vR 49] M33 (fun M51 => AW mX2_fitsAtRoot 59 [some (vR 43), some (vI v1), some (vR 22), some (vI v3), some (vI (M5 14 v1)), some (vI 0)] [] M51 (QI K)))) ∧ (¬ (r33 ≠ 0) → (K 0 M33))))) ∧ (¬ (r5 = 0) → (CI mX2_fitsVariable [vR 43, vI v1, vI v3] M5 (fun r14 M14 => ((r14 = 0 ∨ r14 = 1) ∧ K r14 M14)))))) :
    CI mX2_fitsAtRoot [vR 43, vI v1, vR 22, vI v3] M K := by
  show AW mX2_fitsAtRoot 0 [some (vR 43), some (vI v1), some (vR 22), some (vI v3), none, none] [] M (QI K)
  refine AW.aload_n (pc := 0) (x := 43) dX2_fitsAtRoot_0 rfl ?_
  refine AW.getR (pc := 1) (h2 := 12) dX2_fitsAtRoot_1 fg_X2_30 kd_43 hl_43 rfl ?_
  refine AW.iload_n (pc := 4) (x := v1) dX2_fitsAtRoot_4 rfl ?_
  refine AW.callV (pc := 5) (As := [vI v1]) (st := []) dX2_fitsAtRoot_5 cl_X2_65 kd_12 hl_12 ⟨Nat.le_of_ble_eq_true rfl, Nat.le_of_ble_eq_true rfl⟩ (Nat.le_of_ble_eq_true rfl) (Nat.le_of_ble_eq_true rfl) h ?_
  rintro _ M5 ⟨r5, rfl, h⟩
  show AW mX2_fitsAtRoot 8 [some (vR 43), some (vI v1), some (vR 22), some (vI v3), none, none] [vI r5] M5 (QI K)
  obtain ⟨o, ha, hb⟩ := h
  refine AW.if_eq (pc := 8) (tgt := 18) dX2_fitsAtRoot_8 (by decide) o (fun hc => ?_) (fun hc => ?_)
  · have h := ha hc
    refine AW.aload_n (pc := 18) (x := 43) dX2_fitsAtRoot_18 rfl ?_
    refine AW.getR (pc := 19) (h2 := 12) dX2_fitsAtRoot_19 fg_X2_30 kd_43 hl_43 rfl ?_
    refine AW.getR (pc := 22) (h2 := 14) dX2_fitsAtRoot_22 fg_X2_73 kd_12 hl_12 rfl ?_
    refine AW.iload_n (pc := 25) (x := v1) dX2_fitsAtRoot_25 rfl ?_
    obtain ⟨o, h⟩ := h
    refine AW.iald (pc := 26) dX2_fitsAtRoot_26 kd_14 hl_14 o ?_
    refine AW.istore (pc := 27) (ls2 := [some (vR 43), some (vI v1), some (vR 22), some (vI v3), some (vI (M5 14 v1)), none]) dX2_fitsAtRoot_27 (by decide) rfl ?_
    refine AW.aload_n (pc := 29) (x := 22) dX2_fitsAtRoot_29 rfl ?_
    refine AW.iload_n (pc := 30) (x := v3) dX2_fitsAtRoot_30 rfl ?_
    refine AW.iload (pc := 31) (x := (M5 14 v1)) dX2_fitsAtRoot_31 rfl ?_
    refine AW.callF (pc := 33) (As := [vI v3, vI (M5 14 v1)]) (st := []) dX2_fitsAtRoot_33 cl_X2_76_X5 kd_22 hl_22 ⟨Nat.le_of_ble_eq_true rfl, Nat.le_of_ble_eq_true rfl⟩ (Nat.le_of_ble_eq_true rfl) (Nat.le_of_ble_eq_true rfl) h ?_
    rintro _ M33 ⟨r33, rfl, h⟩
    show AW mX2_fitsAtRoot 38 [some (vR 43), some (vI v1), some (vR 22), some (vI v3), some (vI (M5 14 v1)), none] [vI r33] M33 (QI K)
    obtain ⟨o, ha, hb⟩ := h
    refine AW.if_ne (pc := 38) (tgt := 43) dX2_fitsAtRoot_38 (by decide) o (fun hc => ?_) (fun hc => ?_)
    · have h := ha hc
      refine AW.aload_n (pc := 43) (x := 22) dX2_fitsAtRoot_43 rfl ?_
      refine AW.iload_n (pc := 44) (x := v3) dX2_fitsAtRoot_44 rfl ?_
      refine AW.iload (pc := 45) (x := (M5 14 v1)) dX2_fitsAtRoot_45 rfl ?_
      refine AW.aload_n (pc := 47) (x := 43) dX2_fitsAtRoot_47 rfl ?_
      refine AW.getR (pc := 48) (h2 := 49) dX2_fitsAtRoot_48 fg_X2_27 kd_43 hl_43 rfl ?_
      refine AW.callF (pc := 51) (As := [vI v3, vI (M5 14 v1), vR 49]) (st := []) dX2_fitsAtRoot_51 cl_X2_81_X5 kd_22 hl_22 ⟨Nat.le_of_ble_eq_true rfl, Nat.le_of_ble_eq_true rfl⟩ (Nat.le_of_ble_eq_true rfl) (Nat.le_of_ble_eq_true rfl) h ?_
      rintro _ M51 ⟨rfl, h⟩
      show AW mX2_fitsAtRoot 56 [some (vR 43), some (vI v1), some (vR 22), some (vI v3), some (vI (M5 14 v1)), none] [] M51 (QI K)
      refine AW.iconst (pc := 56) dX2_fitsAtRoot_56 ?_
      refine AW.istore (pc := 57) (ls2 := [some (vR 43), some (vI v1), some (vR 22), some (vI v3), some (vI (M5 14 v1)), some (vI 0)]) dX2_fitsAtRoot_57 (by decide) rfl ?_
      exact h
    · have h := hb hc
      refine AW.iconst (pc := 41) dX2_fitsAtRoot_41 ?_
      exact AW.zret (st := []) (pc := 42) dX2_fitsAtRoot_42 rfl (by decide) ⟨_, rfl, h⟩
  · have h := hb hc
    refine AW.aload_n (pc := 11) (x := 43) dX2_fitsAtRoot_11 rfl ?_
    refine AW.iload_n (pc := 12) (x := v1) dX2_fitsAtRoot_12 rfl ?_
    refine AW.iload_n (pc := 13) (x := v3) dX2_fitsAtRoot_13 rfl ?_
    refine AW.callV (pc := 14) (As := [vI v1, vI v3]) (st := []) dX2_fitsAtRoot_14 cl_X2_69 kd_43 hl_43 ⟨Nat.le_of_ble_eq_true rfl, Nat.le_of_ble_eq_true rfl⟩ (Nat.le_of_ble_eq_true rfl) (Nat.le_of_ble_eq_true rfl) h ?_
    rintro _ M14 ⟨r14, rfl, h⟩
    show AW mX2_fitsAtRoot 17 [some (vR 43), some (vI v1), some (vR 22), some (vI v3), none, none] [vI r14] M14 (QI K)
    exact AW.zret (st := []) (pc := 17) dX2_fitsAtRoot_17 rfl h.1 ⟨_, rfl, h.2⟩

set_option maxRecDepth 20000 in
theorem sg_X2_fitsAtRoot_59 {M : Mem} {K : Int → Mem → Prop} {v1 v3 v4 v5 : Int} 
    (h : CI mX0_partTotal [vR 12, vI v1] M (fun r66 M66 => (InR v5 ∧ InR r66) ∧ (v5 ≥ r66 → (K 1 M66)) ∧ (¬ (v5 ≥ r66) → ((0 ≤ ((v1 * 3) + v5) ∧ ((v1 * 3) + v5) < 300) ∧ (0 ≤ v5 ∧ v5 < 3) ∧ CV mX2_await [vR 43, vI (M66 15 ((v1 * 3) + v5)), vI (M66 49 v5)] M66 (fun M94 => AW mX2_fitsAtRoot 59 [some (vR 43), some (vI v1), some (vR 22), some (vI v3), some (vI v4), some (vI (v5 + 1))] [] M94 (QI K)))))) :
    AW mX2_fitsAtRoot 59 [some (vR 43), some (vI v1), some (vR 22), some (vI v3), some (vI v4), some (vI v5)] [] M (QI K) := by
  refine AW.iload (pc := 59) (x := v5) dX2_fitsAtRoot_59 rfl ?_
  refine AW.aload_n (pc := 61) (x := 43) dX2_fitsAtRoot_61 rfl ?_
  refine AW.getR (pc := 62) (h2 := 12) dX2_fitsAtRoot_62 fg_X2_30 kd_43 hl_43 rfl ?_
  refine AW.iload_n (pc := 65) (x := v1) dX2_fitsAtRoot_65 rfl ?_
  refine AW.callV (pc := 66) (As := [vI v1]) (st := [vI v5]) dX2_fitsAtRoot_66 cl_X2_85 kd_12 hl_12 ⟨Nat.le_of_ble_eq_true rfl, Nat.le_of_ble_eq_true rfl⟩ (Nat.le_of_ble_eq_true rfl) (Nat.le_of_ble_eq_true rfl) h ?_
  rintro _ M66 ⟨r66, rfl, h⟩
  show AW mX2_fitsAtRoot 69 [some (vR 43), some (vI v1), some (vR 22), some (vI v3), some (vI v4), some (vI v5)] [vI r66, vI v5] M66 (QI K)
  obtain ⟨o, ha, hb⟩ := h
  refine AW.icmp_ge (pc := 69) (tgt := 103) dX2_fitsAtRoot_69 (by decide) o.1 o.2 (fun hc => ?_) (fun hc => ?_)
  · have h := ha hc
    refine AW.iconst (pc := 103) dX2_fitsAtRoot_103 ?_
    exact AW.zret (st := []) (pc := 104) dX2_fitsAtRoot_104 rfl (by decide) ⟨_, rfl, h⟩
  · have h := hb hc
    refine AW.aload_n (pc := 72) (x := 43) dX2_fitsAtRoot_72 rfl ?_
    refine AW.aload_n (pc := 73) (x := 43) dX2_fitsAtRoot_73 rfl ?_
    refine AW.getR (pc := 74) (h2 := 12) dX2_fitsAtRoot_74 fg_X2_30 kd_43 hl_43 rfl ?_
    refine AW.getR (pc := 77) (h2 := 15) dX2_fitsAtRoot_77 fg_X2_88 kd_12 hl_12 rfl ?_
    refine AW.iload_n (pc := 80) (x := v1) dX2_fitsAtRoot_80 rfl ?_
    refine AW.iconst (pc := 81) dX2_fitsAtRoot_81 ?_
    refine AW.imul (pc := 82) dX2_fitsAtRoot_82 ?_
    refine AW.iload (pc := 83) (x := v5) dX2_fitsAtRoot_83 rfl ?_
    refine AW.iadd (pc := 85) dX2_fitsAtRoot_85 ?_
    obtain ⟨o, h⟩ := h
    refine AW.iald (pc := 86) dX2_fitsAtRoot_86 kd_15 hl_15 o ?_
    refine AW.aload_n (pc := 87) (x := 43) dX2_fitsAtRoot_87 rfl ?_
    refine AW.getR (pc := 88) (h2 := 49) dX2_fitsAtRoot_88 fg_X2_27 kd_43 hl_43 rfl ?_
    refine AW.iload (pc := 91) (x := v5) dX2_fitsAtRoot_91 rfl ?_
    obtain ⟨o, h⟩ := h
    refine AW.iald (pc := 93) dX2_fitsAtRoot_93 kd_49 hl_49 o ?_
    refine AW.callV (pc := 94) (As := [vI (M66 15 ((v1 * 3) + v5)), vI (M66 49 v5)]) (st := []) dX2_fitsAtRoot_94 cl_X2_53 kd_43 hl_43 ⟨Nat.le_of_ble_eq_true rfl, Nat.le_of_ble_eq_true rfl⟩ (Nat.le_of_ble_eq_true rfl) (Nat.le_of_ble_eq_true rfl) h ?_
    rintro _ M94 ⟨rfl, h⟩
    show AW mX2_fitsAtRoot 97 [some (vR 43), some (vI v1), some (vR 22), some (vI v3), some (vI v4), some (vI v5)] [] M94 (QI K)
    refine AW.iinc (pc := 97) (x := v5) (ls2 := [some (vR 43), some (vI v1), some (vR 22), some (vI v3), some (vI v4), some (vI (v5 + 1))]) dX2_fitsAtRoot_97 rfl (by decide) rfl ?_
    refine AW.goto (pc := 100) (tgt := 59) dX2_fitsAtRoot_100 (by decide) ?_
    exact h

set_option maxRecDepth 20000 in
theorem en_X2_fitsAtRoot_b {M : Mem} {K : Int → Mem → Prop} {v1 v3 : Int} 
    (h : CI mX0_isVariable [vR 12, vI v1] M (fun r5 M5 => InR r5 ∧ (r5 = 0 → ((0 ≤ v1 ∧ v1 < 100) ∧ CI mX8_isBuiltBy [vR 8, vI v3, vI (M5 14 v1)] M5 (fun r33 M33 => InR r33 ∧ (r33 ≠ 0 → (CV mX8_split [vR 8, vI v3, vI (M5 14 v1), vR 49] M33 (fun M51 => AW mX2_fitsAtRoot 59 [some (vR 43), some (vI v1), some (vR 8), some (vI v3), some (vI (M5 14 v1)), some (vI 0)] [] M51 (QI K)))) ∧ (¬ (r33 ≠ 0) → (K 0 M33))))) ∧ (¬ (r5 = 0) → (CI mX2_fitsVariable [vR 43, vI v1, vI v3] M5 (fun r14 M14 => ((r14 = 0 ∨ r14 = 1) ∧ K r14 M14)))))) :
    CI mX2_fitsAtRoot [vR 43, vI v1, vR 8, vI v3] M K := by
  show AW mX2_fitsAtRoot 0 [some (vR 43), some (vI v1), some (vR 8), some (vI v3), none, none] [] M (QI K)
  refine AW.aload_n (pc := 0) (x := 43) dX2_fitsAtRoot_0 rfl ?_
  refine AW.getR (pc := 1) (h2 := 12) dX2_fitsAtRoot_1 fg_X2_30 kd_43 hl_43 rfl ?_
  refine AW.iload_n (pc := 4) (x := v1) dX2_fitsAtRoot_4 rfl ?_
  refine AW.callV (pc := 5) (As := [vI v1]) (st := []) dX2_fitsAtRoot_5 cl_X2_65 kd_12 hl_12 ⟨Nat.le_of_ble_eq_true rfl, Nat.le_of_ble_eq_true rfl⟩ (Nat.le_of_ble_eq_true rfl) (Nat.le_of_ble_eq_true rfl) h ?_
  rintro _ M5 ⟨r5, rfl, h⟩
  show AW mX2_fitsAtRoot 8 [some (vR 43), some (vI v1), some (vR 8), some (vI v3), none, none] [vI r5] M5 (QI K)
  obtain ⟨o, ha, hb⟩ := h
  refine AW.if_eq (pc := 8) (tgt := 18) dX2_fitsAtRoot_8 (by decide) o (fun hc => ?_) (fun hc => ?_)
  · have h := ha hc
    refine AW.aload_n (pc := 18) (x := 43) dX2_fitsAtRoot_18 rfl ?_
    refine AW.getR (pc := 19) (h2 := 12) dX2_fitsAtRoot_19 fg_X2_30 kd_43 hl_43 rfl ?_
    refine AW.getR (pc := 22) (h2 := 14) dX2_fitsAtRoot_22 fg_X2_73 kd_12 hl_12 rfl ?_
    refine AW.iload_n (pc := 25) (x := v1) dX2_fitsAtRoot_25 rfl ?_
    obtain ⟨o, h⟩ := h
    refine AW.iald (pc := 26) dX2_fitsAtRoot_26 kd_14 hl_14 o ?_
    refine AW.istore (pc := 27) (ls2 := [some (vR 43), some (vI v1), some (vR 8), some (vI v3), some (vI (M5 14 v1)), none]) dX2_fitsAtRoot_27 (by decide) rfl ?_
    refine AW.aload_n (pc := 29) (x := 8) dX2_fitsAtRoot_29 rfl ?_
    refine AW.iload_n (pc := 30) (x := v3) dX2_fitsAtRoot_30 rfl ?_
    refine AW.iload (pc := 31) (x := (M5 14 v1)) dX2_fitsAtRoot_31 rfl ?_
    refine AW.callF (pc := 33) (As := [vI v3, vI (M5 14 v1)]) (st := []) dX2_fitsAtRoot_33 cl_X2_76_X8 kd_8 hl_8 ⟨Nat.le_of_ble_eq_true rfl, Nat.le_of_ble_eq_true rfl⟩ (Nat.le_of_ble_eq_true rfl) (Nat.le_of_ble_eq_true rfl) h ?_
    rintro _ M33 ⟨r33, rfl, h⟩
    show AW mX2_fitsAtRoot 38 [some (vR 43), some (vI v1), some (vR 8), some (vI v3), some (vI (M5 14 v1)), none] [vI r33] M33 (QI K)
    obtain ⟨o, ha, hb⟩ := h
    refine AW.if_ne (pc := 38) (tgt := 43) dX2_fitsAtRoot_38 (by decide) o (fun hc => ?_) (fun hc => ?_)
    · have h := ha hc
      refine AW.aload_n (pc := 43) (x := 8) dX2_fitsAtRoot_43 rfl ?_
      refine AW.iload_n (pc := 44) (x := v3) dX2_fitsAtRoot_44 rfl ?_
      refine AW.iload (pc := 45) (x := (M5 14 v1)) dX2_fitsAtRoot_45 rfl ?_
      refine AW.aload_n (pc := 47) (x := 43) dX2_fitsAtRoot_47 rfl ?_
      refine AW.getR (pc := 48) (h2 := 49) dX2_fitsAtRoot_48 fg_X2_27 kd_43 hl_43 rfl ?_
      refine AW.callF (pc := 51) (As := [vI v3, vI (M5 14 v1), vR 49]) (st := []) dX2_fitsAtRoot_51 cl_X2_81_X8 kd_8 hl_8 ⟨Nat.le_of_ble_eq_true rfl, Nat.le_of_ble_eq_true rfl⟩ (Nat.le_of_ble_eq_true rfl) (Nat.le_of_ble_eq_true rfl) h ?_
      rintro _ M51 ⟨rfl, h⟩
      show AW mX2_fitsAtRoot 56 [some (vR 43), some (vI v1), some (vR 8), some (vI v3), some (vI (M5 14 v1)), none] [] M51 (QI K)
      refine AW.iconst (pc := 56) dX2_fitsAtRoot_56 ?_
      refine AW.istore (pc := 57) (ls2 := [some (vR 43), some (vI v1), some (vR 8), some (vI v3), some (vI (M5 14 v1)), some (vI 0)]) dX2_fitsAtRoot_57 (by decide) rfl ?_
      exact h
    · have h := hb hc
      refine AW.iconst (pc := 41) dX2_fitsAtRoot_41 ?_
      exact AW.zret (st := []) (pc := 42) dX2_fitsAtRoot_42 rfl (by decide) ⟨_, rfl, h⟩
  · have h := hb hc
    refine AW.aload_n (pc := 11) (x := 43) dX2_fitsAtRoot_11 rfl ?_
    refine AW.iload_n (pc := 12) (x := v1) dX2_fitsAtRoot_12 rfl ?_
    refine AW.iload_n (pc := 13) (x := v3) dX2_fitsAtRoot_13 rfl ?_
    refine AW.callV (pc := 14) (As := [vI v1, vI v3]) (st := []) dX2_fitsAtRoot_14 cl_X2_69 kd_43 hl_43 ⟨Nat.le_of_ble_eq_true rfl, Nat.le_of_ble_eq_true rfl⟩ (Nat.le_of_ble_eq_true rfl) (Nat.le_of_ble_eq_true rfl) h ?_
    rintro _ M14 ⟨r14, rfl, h⟩
    show AW mX2_fitsAtRoot 17 [some (vR 43), some (vI v1), some (vR 8), some (vI v3), none, none] [vI r14] M14 (QI K)
    exact AW.zret (st := []) (pc := 17) dX2_fitsAtRoot_17 rfl h.1 ⟨_, rfl, h.2⟩

set_option maxRecDepth 20000 in
theorem sg_X2_fitsAtRoot_b_59 {M : Mem} {K : Int → Mem → Prop} {v1 v3 v4 v5 : Int} 
    (h : CI mX0_partTotal [vR 12, vI v1] M (fun r66 M66 => (InR v5 ∧ InR r66) ∧ (v5 ≥ r66 → (K 1 M66)) ∧ (¬ (v5 ≥ r66) → ((0 ≤ ((v1 * 3) + v5) ∧ ((v1 * 3) + v5) < 300) ∧ (0 ≤ v5 ∧ v5 < 3) ∧ CV mX2_await [vR 43, vI (M66 15 ((v1 * 3) + v5)), vI (M66 49 v5)] M66 (fun M94 => AW mX2_fitsAtRoot 59 [some (vR 43), some (vI v1), some (vR 8), some (vI v3), some (vI v4), some (vI (v5 + 1))] [] M94 (QI K)))))) :
    AW mX2_fitsAtRoot 59 [some (vR 43), some (vI v1), some (vR 8), some (vI v3), some (vI v4), some (vI v5)] [] M (QI K) := by
  refine AW.iload (pc := 59) (x := v5) dX2_fitsAtRoot_59 rfl ?_
  refine AW.aload_n (pc := 61) (x := 43) dX2_fitsAtRoot_61 rfl ?_
  refine AW.getR (pc := 62) (h2 := 12) dX2_fitsAtRoot_62 fg_X2_30 kd_43 hl_43 rfl ?_
  refine AW.iload_n (pc := 65) (x := v1) dX2_fitsAtRoot_65 rfl ?_
  refine AW.callV (pc := 66) (As := [vI v1]) (st := [vI v5]) dX2_fitsAtRoot_66 cl_X2_85 kd_12 hl_12 ⟨Nat.le_of_ble_eq_true rfl, Nat.le_of_ble_eq_true rfl⟩ (Nat.le_of_ble_eq_true rfl) (Nat.le_of_ble_eq_true rfl) h ?_
  rintro _ M66 ⟨r66, rfl, h⟩
  show AW mX2_fitsAtRoot 69 [some (vR 43), some (vI v1), some (vR 8), some (vI v3), some (vI v4), some (vI v5)] [vI r66, vI v5] M66 (QI K)
  obtain ⟨o, ha, hb⟩ := h
  refine AW.icmp_ge (pc := 69) (tgt := 103) dX2_fitsAtRoot_69 (by decide) o.1 o.2 (fun hc => ?_) (fun hc => ?_)
  · have h := ha hc
    refine AW.iconst (pc := 103) dX2_fitsAtRoot_103 ?_
    exact AW.zret (st := []) (pc := 104) dX2_fitsAtRoot_104 rfl (by decide) ⟨_, rfl, h⟩
  · have h := hb hc
    refine AW.aload_n (pc := 72) (x := 43) dX2_fitsAtRoot_72 rfl ?_
    refine AW.aload_n (pc := 73) (x := 43) dX2_fitsAtRoot_73 rfl ?_
    refine AW.getR (pc := 74) (h2 := 12) dX2_fitsAtRoot_74 fg_X2_30 kd_43 hl_43 rfl ?_
    refine AW.getR (pc := 77) (h2 := 15) dX2_fitsAtRoot_77 fg_X2_88 kd_12 hl_12 rfl ?_
    refine AW.iload_n (pc := 80) (x := v1) dX2_fitsAtRoot_80 rfl ?_
    refine AW.iconst (pc := 81) dX2_fitsAtRoot_81 ?_
    refine AW.imul (pc := 82) dX2_fitsAtRoot_82 ?_
    refine AW.iload (pc := 83) (x := v5) dX2_fitsAtRoot_83 rfl ?_
    refine AW.iadd (pc := 85) dX2_fitsAtRoot_85 ?_
    obtain ⟨o, h⟩ := h
    refine AW.iald (pc := 86) dX2_fitsAtRoot_86 kd_15 hl_15 o ?_
    refine AW.aload_n (pc := 87) (x := 43) dX2_fitsAtRoot_87 rfl ?_
    refine AW.getR (pc := 88) (h2 := 49) dX2_fitsAtRoot_88 fg_X2_27 kd_43 hl_43 rfl ?_
    refine AW.iload (pc := 91) (x := v5) dX2_fitsAtRoot_91 rfl ?_
    obtain ⟨o, h⟩ := h
    refine AW.iald (pc := 93) dX2_fitsAtRoot_93 kd_49 hl_49 o ?_
    refine AW.callV (pc := 94) (As := [vI (M66 15 ((v1 * 3) + v5)), vI (M66 49 v5)]) (st := []) dX2_fitsAtRoot_94 cl_X2_53 kd_43 hl_43 ⟨Nat.le_of_ble_eq_true rfl, Nat.le_of_ble_eq_true rfl⟩ (Nat.le_of_ble_eq_true rfl) (Nat.le_of_ble_eq_true rfl) h ?_
    rintro _ M94 ⟨rfl, h⟩
    show AW mX2_fitsAtRoot 97 [some (vR 43), some (vI v1), some (vR 8), some (vI v3), some (vI v4), some (vI v5)] [] M94 (QI K)
    refine AW.iinc (pc := 97) (x := v5) (ls2 := [some (vR 43), some (vI v1), some (vR 8), some (vI v3), some (vI v4), some (vI (v5 + 1))]) dX2_fitsAtRoot_97 rfl (by decide) rfl ?_
    refine AW.goto (pc := 100) (tgt := 59) dX2_fitsAtRoot_100 (by decide) ?_
    exact h

set_option maxRecDepth 20000 in
theorem en_X2_fitsVariable {M : Mem} {K : Int → Mem → Prop} {v1 v2 : Int} 
    (h : (0 ≤ v1 ∧ v1 < 100) ∧ (InR (M 45 v1) ∧ InR (M 43 3)) ∧ ((M 45 v1) ≠ (M 43 3) → ((0 ≤ v1 ∧ v1 < 100) ∧ (0 ≤ v1 ∧ v1 < 100) ∧ K 1 (up (up M 45 v1 (M 43 3)) 46 v1 v2))) ∧ (¬ ((M 45 v1) ≠ (M 43 3)) → ((0 ≤ v1 ∧ v1 < 100) ∧ (InR (M 46 v1) ∧ InR v2) ∧ ((M 46 v1) ≠ v2 → (K 0 M)) ∧ (¬ ((M 46 v1) ≠ v2) → (K 1 M))))) :
    CI mX2_fitsVariable [vR 43, vI v1, vI v2] M K := by
  show AW mX2_fitsVariable 0 [some (vR 43), some (vI v1), some (vI v2)] [] M (QI K)
  refine AW.aload_n (pc := 0) (x := 43) dX2_fitsVariable_0 rfl ?_
  refine AW.getR (pc := 1) (h2 := 45) dX2_fitsVariable_1 fg_X2_15 kd_43 hl_43 rfl ?_
  refine AW.iload_n (pc := 4) (x := v1) dX2_fitsVariable_4 rfl ?_
  obtain ⟨o, h⟩ := h
  refine AW.iald (pc := 5) dX2_fitsVariable_5 kd_45 hl_45 o ?_
  refine AW.aload_n (pc := 6) (x := 43) dX2_fitsVariable_6 rfl ?_
  refine AW.getI (pc := 7) dX2_fitsVariable_7 fg_X2_47 kd_43 hl_43 rfl ?_
  obtain ⟨o, ha, hb⟩ := h
  refine AW.icmp_ne (pc := 10) (tgt := 29) dX2_fitsVariable_10 (by decide) o.1 o.2 (fun hc => ?_) (fun hc => ?_)
  · have h := ha hc
    refine AW.aload_n (pc := 29) (x := 43) dX2_fitsVariable_29 rfl ?_
    refine AW.getR (pc := 30) (h2 := 45) dX2_fitsVariable_30 fg_X2_15 kd_43 hl_43 rfl ?_
    refine AW.iload_n (pc := 33) (x := v1) dX2_fitsVariable_33 rfl ?_
    refine AW.aload_n (pc := 34) (x := 43) dX2_fitsVariable_34 rfl ?_
    refine AW.getI (pc := 35) dX2_fitsVariable_35 fg_X2_47 kd_43 hl_43 rfl ?_
    obtain ⟨o, h⟩ := h
    refine AW.iast (pc := 38) dX2_fitsVariable_38 kd_45 hl_45 o ?_
    refine AW.aload_n (pc := 39) (x := 43) dX2_fitsVariable_39 rfl ?_
    refine AW.getR (pc := 40) (h2 := 46) dX2_fitsVariable_40 fg_X2_18 kd_43 hl_43 rfl ?_
    refine AW.iload_n (pc := 43) (x := v1) dX2_fitsVariable_43 rfl ?_
    refine AW.iload_n (pc := 44) (x := v2) dX2_fitsVariable_44 rfl ?_
    obtain ⟨o, h⟩ := h
    refine AW.iast (pc := 45) dX2_fitsVariable_45 kd_46 hl_46 o ?_
    refine AW.iconst (pc := 46) dX2_fitsVariable_46 ?_
    exact AW.zret (st := []) (pc := 47) dX2_fitsVariable_47 rfl (by decide) ⟨_, rfl, h⟩
  · have h := hb hc
    refine AW.aload_n (pc := 13) (x := 43) dX2_fitsVariable_13 rfl ?_
    refine AW.getR (pc := 14) (h2 := 46) dX2_fitsVariable_14 fg_X2_18 kd_43 hl_43 rfl ?_
    refine AW.iload_n (pc := 17) (x := v1) dX2_fitsVariable_17 rfl ?_
    obtain ⟨o, h⟩ := h
    refine AW.iald (pc := 18) dX2_fitsVariable_18 kd_46 hl_46 o ?_
    refine AW.iload_n (pc := 19) (x := v2) dX2_fitsVariable_19 rfl ?_
    obtain ⟨o, ha, hb⟩ := h
    refine AW.icmp_ne (pc := 20) (tgt := 27) dX2_fitsVariable_20 (by decide) o.1 o.2 (fun hc => ?_) (fun hc => ?_)
    · have h := ha hc
      refine AW.iconst (pc := 27) dX2_fitsVariable_27 ?_
      exact AW.zret (st := []) (pc := 28) dX2_fitsVariable_28 rfl (by decide) ⟨_, rfl, h⟩
    · have h := hb hc
      refine AW.iconst (pc := 23) dX2_fitsVariable_23 ?_
      refine AW.goto (pc := 24) (tgt := 28) dX2_fitsVariable_24 (by decide) ?_
      exact AW.zret (st := []) (pc := 28) dX2_fitsVariable_28 rfl (by decide) ⟨_, rfl, h⟩

set_option maxRecDepth 20000 in
theorem en_X2_subjectType {M : Mem} {K : Int → Mem → Prop} 
    (h : (0 ≤ (M 44 0) ∧ (M 44 0) < 100) ∧ K (M 13 (M 44 0)) M) :
    CI mX2_subjectType [vR 43] M K := by
  show AW mX2_subjectType 0 [some (vR 43)] [] M (QI K)
  refine AW.aload_n (pc := 0) (x := 43) dX2_subjectType_0 rfl ?_
  refine AW.getR (pc := 1) (h2 := 12) dX2_subjectType_1 fg_X2_30 kd_43 hl_43 rfl ?_
  refine AW.getR (pc := 4) (h2 := 13) dX2_subjectType_4 fg_X2_34 kd_12 hl_12 rfl ?_
  refine AW.aload_n (pc := 7) (x := 43) dX2_subjectType_7 rfl ?_
  refine AW.getR (pc := 8) (h2 := 44) dX2_subjectType_8 fg_X2_9 kd_43 hl_43 rfl ?_
  refine AW.iconst (pc := 11) dX2_subjectType_11 ?_
  refine AW.iald (pc := 12) dX2_subjectType_12 kd_44 hl_44 (by decide) ?_
  obtain ⟨o, h⟩ := h
  refine AW.iald (pc := 13) dX2_subjectType_13 kd_13 hl_13 o ?_
  exact AW.iret (st := []) (pc := 14) dX2_subjectType_14 rfl ⟨_, rfl, h⟩

set_option maxRecDepth 20000 in
theorem en_X3_restore {M : Mem} {K : Mem → Prop} 
    (h : (0 ≤ ((((M 41 0) - 1) * 100) : Int) ∧ 0 ≤ (0 : Int) ∧ 0 ≤ (100 : Int) ∧ ((((M 41 0) - 1) * 100) : Int) + 100 ≤ 800 ∧ (0 : Int) + 100 ≤ 100) ∧ K (cpy (up M 41 0 ((M 41 0) - 1)) 42 16 (((M 41 0) - 1) * 100) 0 100)) :
    CV mX3_restore [vR 41, vR 16] M K := by
  show AW mX3_restore 0 [some (vR 41), some (vR 16)] [] M (QV K)
  refine AW.aload_n (pc := 0) (x := 41) dX3_restore_0 rfl ?_
  refine AW.dup (pc := 1) dX3_restore_1 rfl ?_
  refine AW.getI (pc := 2) dX3_restore_2 fg_X3_15 kd_41 hl_41 rfl ?_
  refine AW.iconst (pc := 5) dX3_restore_5 ?_
  refine AW.isub (pc := 6) dX3_restore_6 ?_
  refine AW.put (pc := 7) dX3_restore_7 fp_X3_15 kd_41 hl_41 rfl ?_
  refine AW.aload_n (pc := 10) (x := 41) dX3_restore_10 rfl ?_
  refine AW.getR (pc := 11) (h2 := 42) dX3_restore_11 fg_X3_9 kd_41 hl_41 rfl ?_
  refine AW.aload_n (pc := 14) (x := 41) dX3_restore_14 rfl ?_
  refine AW.getI (pc := 15) dX3_restore_15 fg_X3_15 kd_41 hl_41 rfl ?_
  refine AW.bipush (pc := 18) dX3_restore_18 (by decide) ?_
  refine AW.imul (pc := 20) dX3_restore_20 ?_
  refine AW.aload_n (pc := 21) (x := 16) dX3_restore_21 rfl ?_
  refine AW.iconst (pc := 22) dX3_restore_22 ?_
  refine AW.bipush (pc := 23) dX3_restore_23 (by decide) ?_
  obtain ⟨o, h⟩ := h
  refine AW.copy (pc := 25) dX3_restore_25 cc_X3_19 kd_42 kd_16 hl_42 hl_16 o (Nat.le_of_ble_eq_true rfl) (Nat.le_of_ble_eq_true rfl) (Nat.le_of_ble_eq_true rfl) ?_
  exact AW.vret (st := []) (pc := 28) dX3_restore_28 rfl ⟨rfl, h⟩

set_option maxRecDepth 20000 in
theorem en_X3_save {M : Mem} {K : Mem → Prop} 
    (h : (0 ≤ (0 : Int) ∧ 0 ≤ (((M 41 0) * 100) : Int) ∧ 0 ≤ (100 : Int) ∧ (0 : Int) + 100 ≤ 100 ∧ (((M 41 0) * 100) : Int) + 100 ≤ 800) ∧ K (up (cpy M 16 42 0 ((M 41 0) * 100) 100) 41 0 ((M 41 0) + 1))) :
    CV mX3_save [vR 41, vR 16] M K := by
  show AW mX3_save 0 [some (vR 41), some (vR 16)] [] M (QV K)
  refine AW.aload_n (pc := 0) (x := 16) dX3_save_0 rfl ?_
  refine AW.iconst (pc := 1) dX3_save_1 ?_
  refine AW.aload_n (pc := 2) (x := 41) dX3_save_2 rfl ?_
  refine AW.getR (pc := 3) (h2 := 42) dX3_save_3 fg_X3_9 kd_41 hl_41 rfl ?_
  refine AW.aload_n (pc := 6) (x := 41) dX3_save_6 rfl ?_
  refine AW.getI (pc := 7) dX3_save_7 fg_X3_15 kd_41 hl_41 rfl ?_
  refine AW.bipush (pc := 10) dX3_save_10 (by decide) ?_
  refine AW.imul (pc := 12) dX3_save_12 ?_
  refine AW.bipush (pc := 13) dX3_save_13 (by decide) ?_
  obtain ⟨o, h⟩ := h
  refine AW.copy (pc := 15) dX3_save_15 cc_X3_19 kd_16 kd_42 hl_16 hl_42 o (Nat.le_of_ble_eq_true rfl) (Nat.le_of_ble_eq_true rfl) (Nat.le_of_ble_eq_true rfl) ?_
  refine AW.aload_n (pc := 18) (x := 41) dX3_save_18 rfl ?_
  refine AW.dup (pc := 19) dX3_save_19 rfl ?_
  refine AW.getI (pc := 20) dX3_save_20 fg_X3_15 kd_41 hl_41 rfl ?_
  refine AW.iconst (pc := 23) dX3_save_23 ?_
  refine AW.iadd (pc := 24) dX3_save_24 ?_
  refine AW.put (pc := 25) dX3_save_25 fp_X3_15 kd_41 hl_41 rfl ?_
  exact AW.vret (st := []) (pc := 28) dX3_save_28 rfl ⟨rfl, h⟩

set_option maxRecDepth 20000 in
theorem en_X4_define {M : Mem} {K : Int → Mem → Prop} {v1 v2 v3 v4 v5 : Int} 
    (h : (0 ≤ (M 1 1) ∧ (M 1 1) < 12) ∧ (0 ≤ (M 1 1) ∧ (M 1 1) < 12) ∧ (0 ≤ ((M 1 1) * 3) ∧ ((M 1 1) * 3) < 36) ∧ (0 ≤ (((M 1 1) * 3) + 1) ∧ (((M 1 1) * 3) + 1) < 36) ∧ (0 ≤ (((M 1 1) * 3) + 2) ∧ (((M 1 1) * 3) + 2) < 36) ∧ K (M 1 1) (up (up (up (up (up (up M 2 (M 1 1) v1) 3 (M 1 1) v2) 4 ((M 1 1) * 3) v3) 4 (((M 1 1) * 3) + 1) v4) 4 (((M 1 1) * 3) + 2) v5) 1 1 ((M 1 1) + 1))) :
    CI mX4_define [vR 1, vI v1, vI v2, vI v3, vI v4, vI v5] M K := by
  show AW mX4_define 0 [some (vR 1), some (vI v1), some (vI v2), some (vI v3), some (vI v4), some (vI v5), none] [] M (QI K)
  refine AW.aload_n (pc := 0) (x := 1) dX4_define_0 rfl ?_
  refine AW.getI (pc := 1) dX4_define_1 fg_X4_25 kd_1 hl_1 rfl ?_
  refine AW.istore (pc := 4) (ls2 := [some (vR 1), some (vI v1), some (vI v2), some (vI v3), some (vI v4), some (vI v5), some (vI (M 1 1))]) dX4_define_4 (by decide) rfl ?_
  refine AW.aload_n (pc := 6) (x := 1) dX4_define_6 rfl ?_
  refine AW.getR (pc := 7) (h2 := 2) dX4_define_7 fg_X4_9 kd_1 hl_1 rfl ?_
  refine AW.iload (pc := 10) (x := (M 1 1)) dX4_define_10 rfl ?_
  refine AW.iload_n (pc := 12) (x := v1) dX4_define_12 rfl ?_
  obtain ⟨o, h⟩ := h
  refine AW.iast (pc := 13) dX4_define_13 kd_2 hl_2 o ?_
  refine AW.aload_n (pc := 14) (x := 1) dX4_define_14 rfl ?_
  refine AW.getR (pc := 15) (h2 := 3) dX4_define_15 fg_X4_15 kd_1 hl_1 rfl ?_
  refine AW.iload (pc := 18) (x := (M 1 1)) dX4_define_18 rfl ?_
  refine AW.iload_n (pc := 20) (x := v2) dX4_define_20 rfl ?_
  obtain ⟨o, h⟩ := h
  refine AW.iast (pc := 21) dX4_define_21 kd_3 hl_3 o ?_
  refine AW.aload_n (pc := 22) (x := 1) dX4_define_22 rfl ?_
  refine AW.getR (pc := 23) (h2 := 4) dX4_define_23 fg_X4_18 kd_1 hl_1 rfl ?_
  refine AW.iload (pc := 26) (x := (M 1 1)) dX4_define_26 rfl ?_
  refine AW.iconst (pc := 28) dX4_define_28 ?_
  refine AW.imul (pc := 29) dX4_define_29 ?_
  refine AW.iload_n (pc := 30) (x := v3) dX4_define_30 rfl ?_
  obtain ⟨o, h⟩ := h
  refine AW.iast (pc := 31) dX4_define_31 kd_4 hl_4 o ?_
  refine AW.aload_n (pc := 32) (x := 1) dX4_define_32 rfl ?_
  refine AW.getR (pc := 33) (h2 := 4) dX4_define_33 fg_X4_18 kd_1 hl_1 rfl ?_
  refine AW.iload (pc := 36) (x := (M 1 1)) dX4_define_36 rfl ?_
  refine AW.iconst (pc := 38) dX4_define_38 ?_
  refine AW.imul (pc := 39) dX4_define_39 ?_
  refine AW.iconst (pc := 40) dX4_define_40 ?_
  refine AW.iadd (pc := 41) dX4_define_41 ?_
  refine AW.iload (pc := 42) (x := v4) dX4_define_42 rfl ?_
  obtain ⟨o, h⟩ := h
  refine AW.iast (pc := 44) dX4_define_44 kd_4 hl_4 o ?_
  refine AW.aload_n (pc := 45) (x := 1) dX4_define_45 rfl ?_
  refine AW.getR (pc := 46) (h2 := 4) dX4_define_46 fg_X4_18 kd_1 hl_1 rfl ?_
  refine AW.iload (pc := 49) (x := (M 1 1)) dX4_define_49 rfl ?_
  refine AW.iconst (pc := 51) dX4_define_51 ?_
  refine AW.imul (pc := 52) dX4_define_52 ?_
  refine AW.iconst (pc := 53) dX4_define_53 ?_
  refine AW.iadd (pc := 54) dX4_define_54 ?_
  refine AW.iload (pc := 55) (x := v5) dX4_define_55 rfl ?_
  obtain ⟨o, h⟩ := h
  refine AW.iast (pc := 57) dX4_define_57 kd_4 hl_4 o ?_
  refine AW.aload_n (pc := 58) (x := 1) dX4_define_58 rfl ?_
  refine AW.dup (pc := 59) dX4_define_59 rfl ?_
  refine AW.getI (pc := 60) dX4_define_60 fg_X4_25 kd_1 hl_1 rfl ?_
  refine AW.iconst (pc := 63) dX4_define_63 ?_
  refine AW.iadd (pc := 64) dX4_define_64 ?_
  refine AW.put (pc := 65) dX4_define_65 fp_X4_25 kd_1 hl_1 rfl ?_
  refine AW.iload (pc := 68) (x := (M 1 1)) dX4_define_68 rfl ?_
  exact AW.iret (st := []) (pc := 70) dX4_define_70 rfl ⟨_, rfl, h⟩

set_option maxRecDepth 20000 in
theorem en_X4_hasConstructor {M : Mem} {K : Int → Mem → Prop} {v1 : Int} 
    (h : InR v1 ∧ (v1 < 0 → (K 0 M)) ∧ (¬ (v1 < 0) → ((InR v1 ∧ InR (M 1 1)) ∧ (v1 ≥ (M 1 1) → (K 0 M)) ∧ (¬ (v1 ≥ (M 1 1)) → (K 1 M))))) :
    CI mX4_hasConstructor [vR 1, vI v1] M K := by
  show AW mX4_hasConstructor 0 [some (vR 1), some (vI v1)] [] M (QI K)
  refine AW.iload_n (pc := 0) (x := v1) dX4_hasConstructor_0 rfl ?_
  obtain ⟨o, ha, hb⟩ := h
  refine AW.if_lt (pc := 1) (tgt := 16) dX4_hasConstructor_1 (by decide) o (fun hc => ?_) (fun hc => ?_)
  · have h := ha hc
    refine AW.iconst (pc := 16) dX4_hasConstructor_16 ?_
    exact AW.zret (st := []) (pc := 17) dX4_hasConstructor_17 rfl (by decide) ⟨_, rfl, h⟩
  · have h := hb hc
    refine AW.iload_n (pc := 4) (x := v1) dX4_hasConstructor_4 rfl ?_
    refine AW.aload_n (pc := 5) (x := 1) dX4_hasConstructor_5 rfl ?_
    refine AW.getI (pc := 6) dX4_hasConstructor_6 fg_X4_25 kd_1 hl_1 rfl ?_
    obtain ⟨o, ha, hb⟩ := h
    refine AW.icmp_ge (pc := 9) (tgt := 16) dX4_hasConstructor_9 (by decide) o.1 o.2 (fun hc => ?_) (fun hc => ?_)
    · have h := ha hc
      refine AW.iconst (pc := 16) dX4_hasConstructor_16 ?_
      exact AW.zret (st := []) (pc := 17) dX4_hasConstructor_17 rfl (by decide) ⟨_, rfl, h⟩
    · have h := hb hc
      refine AW.iconst (pc := 12) dX4_hasConstructor_12 ?_
      refine AW.goto (pc := 13) (tgt := 17) dX4_hasConstructor_13 (by decide) ?_
      exact AW.zret (st := []) (pc := 17) dX4_hasConstructor_17 rfl (by decide) ⟨_, rfl, h⟩

set_option maxRecDepth 20000 in
theorem en_X4_hasType {M : Mem} {K : Int → Mem → Prop} {v1 : Int} 
    (h : InR v1 ∧ (v1 < 0 → (K 0 M)) ∧ (¬ (v1 < 0) → ((InR v1 ∧ InR (M 1 0)) ∧ (v1 ≥ (M 1 0) → (K 0 M)) ∧ (¬ (v1 ≥ (M 1 0)) → (K 1 M))))) :
    CI mX4_hasType [vR 1, vI v1] M K := by
  show AW mX4_hasType 0 [some (vR 1), some (vI v1)] [] M (QI K)
  refine AW.iload_n (pc := 0) (x := v1) dX4_hasType_0 rfl ?_
  obtain ⟨o, ha, hb⟩ := h
  refine AW.if_lt (pc := 1) (tgt := 16) dX4_hasType_1 (by decide) o (fun hc => ?_) (fun hc => ?_)
  · have h := ha hc
    refine AW.iconst (pc := 16) dX4_hasType_16 ?_
    exact AW.zret (st := []) (pc := 17) dX4_hasType_17 rfl (by decide) ⟨_, rfl, h⟩
  · have h := hb hc
    refine AW.iload_n (pc := 4) (x := v1) dX4_hasType_4 rfl ?_
    refine AW.aload_n (pc := 5) (x := 1) dX4_hasType_5 rfl ?_
    refine AW.getI (pc := 6) dX4_hasType_6 fg_X4_21 kd_1 hl_1 rfl ?_
    obtain ⟨o, ha, hb⟩ := h
    refine AW.icmp_ge (pc := 9) (tgt := 16) dX4_hasType_9 (by decide) o.1 o.2 (fun hc => ?_) (fun hc => ?_)
    · have h := ha hc
      refine AW.iconst (pc := 16) dX4_hasType_16 ?_
      exact AW.zret (st := []) (pc := 17) dX4_hasType_17 rfl (by decide) ⟨_, rfl, h⟩
    · have h := hb hc
      refine AW.iconst (pc := 12) dX4_hasType_12 ?_
      refine AW.goto (pc := 13) (tgt := 17) dX4_hasType_13 (by decide) ?_
      exact AW.zret (st := []) (pc := 17) dX4_hasType_17 rfl (by decide) ⟨_, rfl, h⟩

set_option maxRecDepth 20000 in
theorem en_X4_typeOfArgument {M : Mem} {K : Int → Mem → Prop} {v1 v2 : Int} 
    (h : (0 ≤ ((v1 * 3) + v2) ∧ ((v1 * 3) + v2) < 36) ∧ K (M 4 ((v1 * 3) + v2)) M) :
    CI mX4_typeOfArgument [vR 1, vI v1, vI v2] M K := by
  show AW mX4_typeOfArgument 0 [some (vR 1), some (vI v1), some (vI v2)] [] M (QI K)
  refine AW.aload_n (pc := 0) (x := 1) dX4_typeOfArgument_0 rfl ?_
  refine AW.getR (pc := 1) (h2 := 4) dX4_typeOfArgument_1 fg_X4_18 kd_1 hl_1 rfl ?_
  refine AW.iload_n (pc := 4) (x := v1) dX4_typeOfArgument_4 rfl ?_
  refine AW.iconst (pc := 5) dX4_typeOfArgument_5 ?_
  refine AW.imul (pc := 6) dX4_typeOfArgument_6 ?_
  refine AW.iload_n (pc := 7) (x := v2) dX4_typeOfArgument_7 rfl ?_
  refine AW.iadd (pc := 8) dX4_typeOfArgument_8 ?_
  obtain ⟨o, h⟩ := h
  refine AW.iald (pc := 9) dX4_typeOfArgument_9 kd_4 hl_4 o ?_
  exact AW.iret (st := []) (pc := 10) dX4_typeOfArgument_10 rfl ⟨_, rfl, h⟩

set_option maxRecDepth 20000 in
theorem en_X5_canonicalNode {M : Mem} {K : Int → Mem → Prop} {v1 : Int} 
    (h : CV mX10_begin [vR 28] M (fun M4 => CV mX10_visit [vR 28, vI v1] M4 (fun M12 => CV mX5_findCanonical [vR 22] M12 (fun M16 => CI mX0_resolve [vR 12, vI v1] M16 (fun r28 M28 => (0 ≤ r28 ∧ r28 < 100) ∧ K (M28 25 r28) M28))))) :
    CI mX5_canonicalNode [vR 22, vI v1] M K := by
  show AW mX5_canonicalNode 0 [some (vR 22), some (vI v1)] [] M (QI K)
  refine AW.aload_n (pc := 0) (x := 22) dX5_canonicalNode_0 rfl ?_
  refine AW.getR (pc := 1) (h2 := 28) dX5_canonicalNode_1 fg_X5_40 kd_22 hl_22 rfl ?_
  refine AW.callV (pc := 4) (As := []) (st := []) dX5_canonicalNode_4 cl_X5_44 kd_28 hl_28 ⟨Nat.le_of_ble_eq_true rfl, Nat.le_of_ble_eq_true rfl⟩ (Nat.le_of_ble_eq_true rfl) (Nat.le_of_ble_eq_true rfl) h ?_
  rintro _ M4 ⟨rfl, h⟩
  show AW mX5_canonicalNode 7 [some (vR 22), some (vI v1)] [] M4 (QI K)
  refine AW.aload_n (pc := 7) (x := 22) dX5_canonicalNode_7 rfl ?_
  refine AW.getR (pc := 8) (h2 := 28) dX5_canonicalNode_8 fg_X5_40 kd_22 hl_22 rfl ?_
  refine AW.iload_n (pc := 11) (x := v1) dX5_canonicalNode_11 rfl ?_
  refine AW.callV (pc := 12) (As := [vI v1]) (st := []) dX5_canonicalNode_12 cl_X5_47 kd_28 hl_28 ⟨Nat.le_of_ble_eq_true rfl, Nat.le_of_ble_eq_true rfl⟩ (Nat.le_of_ble_eq_true rfl) (Nat.le_of_ble_eq_true rfl) h ?_
  rintro _ M12 ⟨rfl, h⟩
  show AW mX5_canonicalNode 15 [some (vR 22), some (vI v1)] [] M12 (QI K)
  refine AW.aload_n (pc := 15) (x := 22) dX5_canonicalNode_15 rfl ?_
  refine AW.callV (pc := 16) (As := []) (st := []) dX5_canonicalNode_16 cl_X5_90 kd_22 hl_22 ⟨Nat.le_of_ble_eq_true rfl, Nat.le_of_ble_eq_true rfl⟩ (Nat.le_of_ble_eq_true rfl) (Nat.le_of_ble_eq_true rfl) h ?_
  rintro _ M16 ⟨rfl, h⟩
  show AW mX5_canonicalNode 19 [some (vR 22), some (vI v1)] [] M16 (QI K)
  refine AW.aload_n (pc := 19) (x := 22) dX5_canonicalNode_19 rfl ?_
  refine AW.getR (pc := 20) (h2 := 25) dX5_canonicalNode_20 fg_X5_18 kd_22 hl_22 rfl ?_
  refine AW.aload_n (pc := 23) (x := 22) dX5_canonicalNode_23 rfl ?_
  refine AW.getR (pc := 24) (h2 := 12) dX5_canonicalNode_24 fg_X5_27 kd_22 hl_22 rfl ?_
  refine AW.iload_n (pc := 27) (x := v1) dX5_canonicalNode_27 rfl ?_
  refine AW.callV (pc := 28) (As := [vI v1]) (st := [vR 25]) dX5_canonicalNode_28 cl_X5_62 kd_12 hl_12 ⟨Nat.le_of_ble_eq_true rfl, Nat.le_of_ble_eq_true rfl⟩ (Nat.le_of_ble_eq_true rfl) (Nat.le_of_ble_eq_true rfl) h ?_
  rintro _ M28 ⟨r28, rfl, h⟩
  show AW mX5_canonicalNode 31 [some (vR 22), some (vI v1)] [vI r28, vR 25] M28 (QI K)
  obtain ⟨o, h⟩ := h
  refine AW.iald (pc := 31) dX5_canonicalNode_31 kd_25 hl_25 o ?_
  exact AW.iret (st := []) (pc := 32) dX5_canonicalNode_32 rfl ⟨_, rfl, h⟩

set_option maxRecDepth 20000 in
theorem en_X5_findCanonical {M : Mem} {K : Mem → Prop} 
    (h : AW mX5_findCanonical 2 [some (vR 22), some (vI 0), none, none] [] M (QV K)) :
    CV mX5_findCanonical [vR 22] M K := by
  show AW mX5_findCanonical 0 [some (vR 22), none, none, none] [] M (QV K)
  refine AW.iconst (pc := 0) dX5_findCanonical_0 ?_
  refine AW.istore_n (pc := 1) (ls2 := [some (vR 22), some (vI 0), none, none]) dX5_findCanonical_1 (by decide) rfl ?_
  exact h

set_option maxRecDepth 20000 in
theorem sg_X5_findCanonical_2 {M : Mem} {K : Mem → Prop} {v1 : Int} 
    (h : (InR v1 ∧ InR (M 28 2)) ∧ (v1 ≥ (M 28 2) → (K M)) ∧ (¬ (v1 ≥ (M 28 2)) → ((0 ≤ v1 ∧ v1 < 100) ∧ (0 ≤ (M 29 v1) ∧ (M 29 v1) < 100) ∧ AW mX5_findCanonical 32 [some (vR 22), some (vI v1), some (vI (M 29 v1)), some (vI 0)] [] (up M 25 (M 29 v1) (M 29 v1)) (QV K)))) :
    AW mX5_findCanonical 2 [some (vR 22), some (vI v1), none, none] [] M (QV K) := by
  refine AW.iload_n (pc := 2) (x := v1) dX5_findCanonical_2 rfl ?_
  refine AW.aload_n (pc := 3) (x := 22) dX5_findCanonical_3 rfl ?_
  refine AW.getR (pc := 4) (h2 := 28) dX5_findCanonical_4 fg_X5_40 kd_22 hl_22 rfl ?_
  refine AW.getI (pc := 7) dX5_findCanonical_7 fg_X5_51 kd_28 hl_28 rfl ?_
  obtain ⟨o, ha, hb⟩ := h
  refine AW.icmp_ge (pc := 10) (tgt := 89) dX5_findCanonical_10 (by decide) o.1 o.2 (fun hc => ?_) (fun hc => ?_)
  · have h := ha hc
    exact AW.vret (st := []) (pc := 89) dX5_findCanonical_89 rfl ⟨rfl, h⟩
  · have h := hb hc
    refine AW.aload_n (pc := 13) (x := 22) dX5_findCanonical_13 rfl ?_
    refine AW.getR (pc := 14) (h2 := 28) dX5_findCanonical_14 fg_X5_40 kd_22 hl_22 rfl ?_
    refine AW.getR (pc := 17) (h2 := 29) dX5_findCanonical_17 fg_X5_55 kd_28 hl_28 rfl ?_
    refine AW.iload_n (pc := 20) (x := v1) dX5_findCanonical_20 rfl ?_
    obtain ⟨o, h⟩ := h
    refine AW.iald (pc := 21) dX5_findCanonical_21 kd_29 hl_29 o ?_
    refine AW.istore_n (pc := 22) (ls2 := [some (vR 22), some (vI v1), some (vI (M 29 v1)), none]) dX5_findCanonical_22 (by decide) rfl ?_
    refine AW.aload_n (pc := 23) (x := 22) dX5_findCanonical_23 rfl ?_
    refine AW.getR (pc := 24) (h2 := 25) dX5_findCanonical_24 fg_X5_18 kd_22 hl_22 rfl ?_
    refine AW.iload_n (pc := 27) (x := (M 29 v1)) dX5_findCanonical_27 rfl ?_
    refine AW.iload_n (pc := 28) (x := (M 29 v1)) dX5_findCanonical_28 rfl ?_
    obtain ⟨o, h⟩ := h
    refine AW.iast (pc := 29) dX5_findCanonical_29 kd_25 hl_25 o ?_
    refine AW.iconst (pc := 30) dX5_findCanonical_30 ?_
    refine AW.istore_n (pc := 31) (ls2 := [some (vR 22), some (vI v1), some (vI (M 29 v1)), some (vI 0)]) dX5_findCanonical_31 (by decide) rfl ?_
    exact h

set_option maxRecDepth 20000 in
theorem sg_X5_findCanonical_32 {M : Mem} {K : Mem → Prop} {v1 v2 v3 : Int} 
    (h : (InR v3 ∧ InR v1) ∧ (v3 ≥ v1 → (AW mX5_findCanonical 83 [some (vR 22), some (vI v1), some (vI v2), some (vI v3)] [] M (QV K))) ∧ (¬ (v3 ≥ v1) → ((0 ≤ v3 ∧ v3 < 100) ∧ CI mX5_haveEqualParts [vR 22, vI v2, vI (M 29 v3)] M (fun r48 M48 => InR r48 ∧ (r48 = 0 → (AW mX5_findCanonical 32 [some (vR 22), some (vI v1), some (vI v2), some (vI (v3 + 1))] [] M48 (QV K))) ∧ (¬ (r48 = 0) → ((0 ≤ v3 ∧ v3 < 100) ∧ (0 ≤ (M48 29 v3) ∧ (M48 29 v3) < 100) ∧ (0 ≤ v2 ∧ v2 < 100) ∧ AW mX5_findCanonical 83 [some (vR 22), some (vI v1), some (vI v2), some (vI v3)] [] (up M48 25 v2 (M48 25 (M48 29 v3))) (QV K))))))) :
    AW mX5_findCanonical 32 [some (vR 22), some (vI v1), some (vI v2), some (vI v3)] [] M (QV K) := by
  refine AW.iload_n (pc := 32) (x := v3) dX5_findCanonical_32 rfl ?_
  refine AW.iload_n (pc := 33) (x := v1) dX5_findCanonical_33 rfl ?_
  obtain ⟨o, ha, hb⟩ := h
  refine AW.icmp_ge (pc := 34) (tgt := 83) dX5_findCanonical_34 (by decide) o.1 o.2 (fun hc => ?_) (fun hc => ?_)
  · have h := ha hc
    exact h
  · have h := hb hc
    refine AW.aload_n (pc := 37) (x := 22) dX5_findCanonical_37 rfl ?_
    refine AW.iload_n (pc := 38) (x := v2) dX5_findCanonical_38 rfl ?_
    refine AW.aload_n (pc := 39) (x := 22) dX5_findCanonical_39 rfl ?_
    refine AW.getR (pc := 40) (h2 := 28) dX5_findCanonical_40 fg_X5_40 kd_22 hl_22 rfl ?_
    refine AW.getR (pc := 43) (h2 := 29) dX5_findCanonical_43 fg_X5_55 kd_28 hl_28 rfl ?_
    refine AW.iload_n (pc := 46) (x := v3) dX5_findCanonical_46 rfl ?_
    obtain ⟨o, h⟩ := h
    refine AW.iald (pc := 47) dX5_findCanonical_47 kd_29 hl_29 o ?_
    refine AW.callV (pc := 48) (As := [vI v2, vI (M 29 v3)]) (st := []) dX5_findCanonical_48 cl_X5_93 kd_22 hl_22 ⟨Nat.le_of_ble_eq_true rfl, Nat.le_of_ble_eq_true rfl⟩ (Nat.le_of_ble_eq_true rfl) (Nat.le_of_ble_eq_true rfl) h ?_
    rintro _ M48 ⟨r48, rfl, h⟩
    show AW mX5_findCanonical 51 [some (vR 22), some (vI v1), some (vI v2), some (vI v3)] [vI r48] M48 (QV K)
    obtain ⟨o, ha, hb⟩ := h
    refine AW.if_eq (pc := 51) (tgt := 77) dX5_findCanonical_51 (by decide) o (fun hc => ?_) (fun hc => ?_)
    · have h := ha hc
      refine AW.iinc (pc := 77) (x := v3) (ls2 := [some (vR 22), some (vI v1), some (vI v2), some (vI (v3 + 1))]) dX5_findCanonical_77 rfl (by decide) rfl ?_
      refine AW.goto (pc := 80) (tgt := 32) dX5_findCanonical_80 (by decide) ?_
      exact h
    · have h := hb hc
      refine AW.aload_n (pc := 54) (x := 22) dX5_findCanonical_54 rfl ?_
      refine AW.getR (pc := 55) (h2 := 25) dX5_findCanonical_55 fg_X5_18 kd_22 hl_22 rfl ?_
      refine AW.iload_n (pc := 58) (x := v2) dX5_findCanonical_58 rfl ?_
      refine AW.aload_n (pc := 59) (x := 22) dX5_findCanonical_59 rfl ?_
      refine AW.getR (pc := 60) (h2 := 25) dX5_findCanonical_60 fg_X5_18 kd_22 hl_22 rfl ?_
      refine AW.aload_n (pc := 63) (x := 22) dX5_findCanonical_63 rfl ?_
      refine AW.getR (pc := 64) (h2 := 28) dX5_findCanonical_64 fg_X5_40 kd_22 hl_22 rfl ?_
      refine AW.getR (pc := 67) (h2 := 29) dX5_findCanonical_67 fg_X5_55 kd_28 hl_28 rfl ?_
      refine AW.iload_n (pc := 70) (x := v3) dX5_findCanonical_70 rfl ?_
      obtain ⟨o, h⟩ := h
      refine AW.iald (pc := 71) dX5_findCanonical_71 kd_29 hl_29 o ?_
      obtain ⟨o, h⟩ := h
      refine AW.iald (pc := 72) dX5_findCanonical_72 kd_25 hl_25 o ?_
      obtain ⟨o, h⟩ := h
      refine AW.iast (pc := 73) dX5_findCanonical_73 kd_25 hl_25 o ?_
      refine AW.goto (pc := 74) (tgt := 83) dX5_findCanonical_74 (by decide) ?_
      exact h

set_option maxRecDepth 20000 in
theorem sg_X5_findCanonical_83 {M : Mem} {K : Mem → Prop} {v1 v2 v3 : Int} 
    (h : AW mX5_findCanonical 2 [some (vR 22), some (vI (v1 + 1)), none, none] [] M (QV K)) :
    AW mX5_findCanonical 83 [some (vR 22), some (vI v1), some (vI v2), some (vI v3)] [] M (QV K) := by
  refine AW.iinc (pc := 83) (x := v1) (ls2 := [some (vR 22), some (vI (v1 + 1)), some (vI v2), some (vI v3)]) dX5_findCanonical_83 rfl (by decide) rfl ?_
  refine AW.goto (pc := 86) (tgt := 2) dX5_findCanonical_86 (by decide) ?_
  exact AW.weak (ls2 := [some (vR 22), some (vI (v1 + 1)), none, none]) (by simp [lsub]) h

set_option maxRecDepth 20000 in
theorem en_X5_haveEqualParts {M : Mem} {K : Int → Mem → Prop} {v1 v2 : Int} 
    (h : CI mX0_isVariable [vR 12, vI v1] M (fun r5 M5 => InR r5 ∧ (r5 ≠ 0 → (K 0 M5)) ∧ (¬ (r5 ≠ 0) → ((0 ≤ v1 ∧ v1 < 100) ∧ (0 ≤ v2 ∧ v2 < 100) ∧ (InR (M5 14 v1) ∧ InR (M5 14 v2)) ∧ ((M5 14 v1) = (M5 14 v2) → (AW mX5_haveEqualParts 36 [some (vR 22), some (vI v1), some (vI v2), some (vI 0)] [] M5 (QI K))) ∧ (¬ ((M5 14 v1) = (M5 14 v2)) → (K 0 M5)))))) :
    CI mX5_haveEqualParts [vR 22, vI v1, vI v2] M K := by
  show AW mX5_haveEqualParts 0 [some (vR 22), some (vI v1), some (vI v2), none] [] M (QI K)
  refine AW.aload_n (pc := 0) (x := 22) dX5_haveEqualParts_0 rfl ?_
  refine AW.getR (pc := 1) (h2 := 12) dX5_haveEqualParts_1 fg_X5_27 kd_22 hl_22 rfl ?_
  refine AW.iload_n (pc := 4) (x := v1) dX5_haveEqualParts_4 rfl ?_
  refine AW.callV (pc := 5) (As := [vI v1]) (st := []) dX5_haveEqualParts_5 cl_X5_67 kd_12 hl_12 ⟨Nat.le_of_ble_eq_true rfl, Nat.le_of_ble_eq_true rfl⟩ (Nat.le_of_ble_eq_true rfl) (Nat.le_of_ble_eq_true rfl) h ?_
  rintro _ M5 ⟨r5, rfl, h⟩
  show AW mX5_haveEqualParts 8 [some (vR 22), some (vI v1), some (vI v2), none] [vI r5] M5 (QI K)
  obtain ⟨o, ha, hb⟩ := h
  refine AW.if_ne (pc := 8) (tgt := 32) dX5_haveEqualParts_8 (by decide) o (fun hc => ?_) (fun hc => ?_)
  · have h := ha hc
    refine AW.iconst (pc := 32) dX5_haveEqualParts_32 ?_
    exact AW.zret (st := []) (pc := 33) dX5_haveEqualParts_33 rfl (by decide) ⟨_, rfl, h⟩
  · have h := hb hc
    refine AW.aload_n (pc := 11) (x := 22) dX5_haveEqualParts_11 rfl ?_
    refine AW.getR (pc := 12) (h2 := 12) dX5_haveEqualParts_12 fg_X5_27 kd_22 hl_22 rfl ?_
    refine AW.getR (pc := 15) (h2 := 14) dX5_haveEqualParts_15 fg_X5_81 kd_12 hl_12 rfl ?_
    refine AW.iload_n (pc := 18) (x := v1) dX5_haveEqualParts_18 rfl ?_
    obtain ⟨o, h⟩ := h
    refine AW.iald (pc := 19) dX5_haveEqualParts_19 kd_14 hl_14 o ?_
    refine AW.aload_n (pc := 20) (x := 22) dX5_haveEqualParts_20 rfl ?_
    refine AW.getR (pc := 21) (h2 := 12) dX5_haveEqualParts_21 fg_X5_27 kd_22 hl_22 rfl ?_
    refine AW.getR (pc := 24) (h2 := 14) dX5_haveEqualParts_24 fg_X5_81 kd_12 hl_12 rfl ?_
    refine AW.iload_n (pc := 27) (x := v2) dX5_haveEqualParts_27 rfl ?_
    obtain ⟨o, h⟩ := h
    refine AW.iald (pc := 28) dX5_haveEqualParts_28 kd_14 hl_14 o ?_
    obtain ⟨o, ha, hb⟩ := h
    refine AW.icmp_eq (pc := 29) (tgt := 34) dX5_haveEqualParts_29 (by decide) o.1 o.2 (fun hc => ?_) (fun hc => ?_)
    · have h := ha hc
      refine AW.iconst (pc := 34) dX5_haveEqualParts_34 ?_
      refine AW.istore_n (pc := 35) (ls2 := [some (vR 22), some (vI v1), some (vI v2), some (vI 0)]) dX5_haveEqualParts_35 (by decide) rfl ?_
      exact h
    · have h := hb hc
      refine AW.iconst (pc := 32) dX5_haveEqualParts_32 ?_
      exact AW.zret (st := []) (pc := 33) dX5_haveEqualParts_33 rfl (by decide) ⟨_, rfl, h⟩

set_option maxRecDepth 20000 in
theorem sg_X5_haveEqualParts_36 {M : Mem} {K : Int → Mem → Prop} {v1 v2 v3 : Int} 
    (h : CI mX0_partTotal [vR 12, vI v1] M (fun r42 M42 => (InR v3 ∧ InR r42) ∧ (v3 ≥ r42 → (K 1 M42)) ∧ (¬ (v3 ≥ r42) → (CI mX0_resolvedPart [vR 12, vI v1, vI v3] M42 (fun r58 M58 => (0 ≤ r58 ∧ r58 < 100) ∧ CI mX0_resolvedPart [vR 12, vI v2, vI v3] M58 (fun r72 M72 => (0 ≤ r72 ∧ r72 < 100) ∧ (InR (M58 25 r58) ∧ InR (M72 25 r72)) ∧ ((M58 25 r58) = (M72 25 r72) → (AW mX5_haveEqualParts 36 [some (vR 22), some (vI v1), some (vI v2), some (vI (v3 + 1))] [] M72 (QI K))) ∧ (¬ ((M58 25 r58) = (M72 25 r72)) → (K 0 M72)))))))) :
    AW mX5_haveEqualParts 36 [some (vR 22), some (vI v1), some (vI v2), some (vI v3)] [] M (QI K) := by
  refine AW.iload_n (pc := 36) (x := v3) dX5_haveEqualParts_36 rfl ?_
  refine AW.aload_n (pc := 37) (x := 22) dX5_haveEqualParts_37 rfl ?_
  refine AW.getR (pc := 38) (h2 := 12) dX5_haveEqualParts_38 fg_X5_27 kd_22 hl_22 rfl ?_
  refine AW.iload_n (pc := 41) (x := v1) dX5_haveEqualParts_41 rfl ?_
  refine AW.callV (pc := 42) (As := [vI v1]) (st := [vI v3]) dX5_haveEqualParts_42 cl_X5_71 kd_12 hl_12 ⟨Nat.le_of_ble_eq_true rfl, Nat.le_of_ble_eq_true rfl⟩ (Nat.le_of_ble_eq_true rfl) (Nat.le_of_ble_eq_true rfl) h ?_
  rintro _ M42 ⟨r42, rfl, h⟩
  show AW mX5_haveEqualParts 45 [some (vR 22), some (vI v1), some (vI v2), some (vI v3)] [vI r42, vI v3] M42 (QI K)
  obtain ⟨o, ha, hb⟩ := h
  refine AW.icmp_ge (pc := 45) (tgt := 87) dX5_haveEqualParts_45 (by decide) o.1 o.2 (fun hc => ?_) (fun hc => ?_)
  · have h := ha hc
    refine AW.iconst (pc := 87) dX5_haveEqualParts_87 ?_
    exact AW.zret (st := []) (pc := 88) dX5_haveEqualParts_88 rfl (by decide) ⟨_, rfl, h⟩
  · have h := hb hc
    refine AW.aload_n (pc := 48) (x := 22) dX5_haveEqualParts_48 rfl ?_
    refine AW.getR (pc := 49) (h2 := 25) dX5_haveEqualParts_49 fg_X5_18 kd_22 hl_22 rfl ?_
    refine AW.aload_n (pc := 52) (x := 22) dX5_haveEqualParts_52 rfl ?_
    refine AW.getR (pc := 53) (h2 := 12) dX5_haveEqualParts_53 fg_X5_27 kd_22 hl_22 rfl ?_
    refine AW.iload_n (pc := 56) (x := v1) dX5_haveEqualParts_56 rfl ?_
    refine AW.iload_n (pc := 57) (x := v3) dX5_haveEqualParts_57 rfl ?_
    refine AW.callV (pc := 58) (As := [vI v1, vI v3]) (st := [vR 25]) dX5_haveEqualParts_58 cl_X5_74 kd_12 hl_12 ⟨Nat.le_of_ble_eq_true rfl, Nat.le_of_ble_eq_true rfl⟩ (Nat.le_of_ble_eq_true rfl) (Nat.le_of_ble_eq_true rfl) h ?_
    rintro _ M58 ⟨r58, rfl, h⟩
    show AW mX5_haveEqualParts 61 [some (vR 22), some (vI v1), some (vI v2), some (vI v3)] [vI r58, vR 25] M58 (QI K)
    obtain ⟨o, h⟩ := h
    refine AW.iald (pc := 61) dX5_haveEqualParts_61 kd_25 hl_25 o ?_
    refine AW.aload_n (pc := 62) (x := 22) dX5_haveEqualParts_62 rfl ?_
    refine AW.getR (pc := 63) (h2 := 25) dX5_haveEqualParts_63 fg_X5_18 kd_22 hl_22 rfl ?_
    refine AW.aload_n (pc := 66) (x := 22) dX5_haveEqualParts_66 rfl ?_
    refine AW.getR (pc := 67) (h2 := 12) dX5_haveEqualParts_67 fg_X5_27 kd_22 hl_22 rfl ?_
    refine AW.iload_n (pc := 70) (x := v2) dX5_haveEqualParts_70 rfl ?_
    refine AW.iload_n (pc := 71) (x := v3) dX5_haveEqualParts_71 rfl ?_
    refine AW.callV (pc := 72) (As := [vI v2, vI v3]) (st := [vR 25, vI (M58 25 r58)]) dX5_haveEqualParts_72 cl_X5_74 kd_12 hl_12 ⟨Nat.le_of_ble_eq_true rfl, Nat.le_of_ble_eq_true rfl⟩ (Nat.le_of_ble_eq_true rfl) (Nat.le_of_ble_eq_true rfl) h ?_
    rintro _ M72 ⟨r72, rfl, h⟩
    show AW mX5_haveEqualParts 75 [some (vR 22), some (vI v1), some (vI v2), some (vI v3)] [vI r72, vR 25, vI (M58 25 r58)] M72 (QI K)
    obtain ⟨o, h⟩ := h
    refine AW.iald (pc := 75) dX5_haveEqualParts_75 kd_25 hl_25 o ?_
    obtain ⟨o, ha, hb⟩ := h
    refine AW.icmp_eq (pc := 76) (tgt := 81) dX5_haveEqualParts_76 (by decide) o.1 o.2 (fun hc => ?_) (fun hc => ?_)
    · have h := ha hc
      refine AW.iinc (pc := 81) (x := v3) (ls2 := [some (vR 22), some (vI v1), some (vI v2), some (vI (v3 + 1))]) dX5_haveEqualParts_81 rfl (by decide) rfl ?_
      refine AW.goto (pc := 84) (tgt := 36) dX5_haveEqualParts_84 (by decide) ?_
      exact h
    · have h := hb hc
      refine AW.iconst (pc := 79) dX5_haveEqualParts_79 ?_
      exact AW.zret (st := []) (pc := 80) dX5_haveEqualParts_80 rfl (by decide) ⟨_, rfl, h⟩

set_option maxRecDepth 20000 in
theorem en_X5_indexAmongValues {M : Mem} {K : Int → Mem → Prop} {v1 : Int} 
    (h : AW mX5_indexAmongValues 2 [some (vR 22), some (vI v1), some (vI 0), none, none] [] M (QI K)) :
    CI mX5_indexAmongValues [vR 22, vI v1] M K := by
  show AW mX5_indexAmongValues 0 [some (vR 22), some (vI v1), none, none, none] [] M (QI K)
  refine AW.iconst (pc := 0) dX5_indexAmongValues_0 ?_
  refine AW.istore_n (pc := 1) (ls2 := [some (vR 22), some (vI v1), some (vI 0), none, none]) dX5_indexAmongValues_1 (by decide) rfl ?_
  exact h

set_option maxRecDepth 20000 in
theorem sg_X5_indexAmongValues_2 {M : Mem} {K : Int → Mem → Prop} {v1 v2 : Int} 
    (h : (InR v2 ∧ InR (M 28 2)) ∧ (v2 ≥ (M 28 2) → (CI mX0_resolve [vR 12, vI v1] M (fun r140 M140 => (0 ≤ r140 ∧ r140 < 100) ∧ K (M140 24 r140) M140))) ∧ (¬ (v2 ≥ (M 28 2)) → ((0 ≤ v2 ∧ v2 < 100) ∧ AW mX5_indexAmongValues 26 [some (vR 22), some (vI v1), some (vI v2), some (vI (M 29 v2)), some (vI 0)] [] M (QI K)))) :
    AW mX5_indexAmongValues 2 [some (vR 22), some (vI v1), some (vI v2), none, none] [] M (QI K) := by
  refine AW.iload_n (pc := 2) (x := v2) dX5_indexAmongValues_2 rfl ?_
  refine AW.aload_n (pc := 3) (x := 22) dX5_indexAmongValues_3 rfl ?_
  refine AW.getR (pc := 4) (h2 := 28) dX5_indexAmongValues_4 fg_X5_40 kd_22 hl_22 rfl ?_
  refine AW.getI (pc := 7) dX5_indexAmongValues_7 fg_X5_51 kd_28 hl_28 rfl ?_
  obtain ⟨o, ha, hb⟩ := h
  refine AW.icmp_ge (pc := 10) (tgt := 131) dX5_indexAmongValues_10 (by decide) o.1 o.2 (fun hc => ?_) (fun hc => ?_)
  · have h := ha hc
    refine AW.aload_n (pc := 131) (x := 22) dX5_indexAmongValues_131 rfl ?_
    refine AW.getR (pc := 132) (h2 := 24) dX5_indexAmongValues_132 fg_X5_15 kd_22 hl_22 rfl ?_
    refine AW.aload_n (pc := 135) (x := 22) dX5_indexAmongValues_135 rfl ?_
    refine AW.getR (pc := 136) (h2 := 12) dX5_indexAmongValues_136 fg_X5_27 kd_22 hl_22 rfl ?_
    refine AW.iload_n (pc := 139) (x := v1) dX5_indexAmongValues_139 rfl ?_
    refine AW.callV (pc := 140) (As := [vI v1]) (st := [vR 24]) dX5_indexAmongValues_140 cl_X5_62 kd_12 hl_12 ⟨Nat.le_of_ble_eq_true rfl, Nat.le_of_ble_eq_true rfl⟩ (Nat.le_of_ble_eq_true rfl) (Nat.le_of_ble_eq_true rfl) h ?_
    rintro _ M140 ⟨r140, rfl, h⟩
    show AW mX5_indexAmongValues 143 [some (vR 22), some (vI v1), some (vI v2), none, none] [vI r140, vR 24] M140 (QI K)
    obtain ⟨o, h⟩ := h
    refine AW.iald (pc := 143) dX5_indexAmongValues_143 kd_24 hl_24 o ?_
    exact AW.iret (st := []) (pc := 144) dX5_indexAmongValues_144 rfl ⟨_, rfl, h⟩
  · have h := hb hc
    refine AW.aload_n (pc := 13) (x := 22) dX5_indexAmongValues_13 rfl ?_
    refine AW.getR (pc := 14) (h2 := 28) dX5_indexAmongValues_14 fg_X5_40 kd_22 hl_22 rfl ?_
    refine AW.getR (pc := 17) (h2 := 29) dX5_indexAmongValues_17 fg_X5_55 kd_28 hl_28 rfl ?_
    refine AW.iload_n (pc := 20) (x := v2) dX5_indexAmongValues_20 rfl ?_
    obtain ⟨o, h⟩ := h
    refine AW.iald (pc := 21) dX5_indexAmongValues_21 kd_29 hl_29 o ?_
    refine AW.istore_n (pc := 22) (ls2 := [some (vR 22), some (vI v1), some (vI v2), some (vI (M 29 v2)), none]) dX5_indexAmongValues_22 (by decide) rfl ?_
    refine AW.iconst (pc := 23) dX5_indexAmongValues_23 ?_
    refine AW.istore (pc := 24) (ls2 := [some (vR 22), some (vI v1), some (vI v2), some (vI (M 29 v2)), some (vI 0)]) dX5_indexAmongValues_24 (by decide) rfl ?_
    exact h

set_option maxRecDepth 20000 in
theorem sg_X5_indexAmongValues_26 {M : Mem} {K : Int → Mem → Prop} {v1 v2 v3 v4 : Int} 
    (h : CI mX0_partTotal [vR 12, vI v3] M (fun r33 M33 => (InR v4 ∧ InR r33) ∧ (v4 ≥ r33 → ((0 ≤ v3 ∧ v3 < 100) ∧ (0 ≤ v3 ∧ v3 < 100) ∧ CI mX8_indexOf [vR 8, vI (M33 14 v3), vI (M33 23 v3), vR 26, vR 27] M33 (fun r121 M121 => (0 ≤ v3 ∧ v3 < 100) ∧ AW mX5_indexAmongValues 2 [some (vR 22), some (vI v1), some (vI (v2 + 1)), none, none] [] (up M121 24 v3 r121) (QI K)))) ∧ (¬ (v4 ≥ r33) → (CI mX0_resolvedPart [vR 12, vI v3, vI v4] M33 (fun r56 M56 => (0 ≤ r56 ∧ r56 < 100) ∧ (0 ≤ v4 ∧ v4 < 3) ∧ CI mX0_resolvedPart [vR 12, vI v3, vI v4] (up M56 26 v4 (M56 23 r56)) (fun r78 M78 => (0 ≤ r78 ∧ r78 < 100) ∧ (0 ≤ v4 ∧ v4 < 3) ∧ AW mX5_indexAmongValues 26 [some (vR 22), some (vI v1), some (vI v2), some (vI v3), some (vI (v4 + 1))] [] (up M78 27 v4 (M78 24 r78)) (QI K))))))) :
    AW mX5_indexAmongValues 26 [some (vR 22), some (vI v1), some (vI v2), some (vI v3), some (vI v4)] [] M (QI K) := by
  refine AW.iload (pc := 26) (x := v4) dX5_indexAmongValues_26 rfl ?_
  refine AW.aload_n (pc := 28) (x := 22) dX5_indexAmongValues_28 rfl ?_
  refine AW.getR (pc := 29) (h2 := 12) dX5_indexAmongValues_29 fg_X5_27 kd_22 hl_22 rfl ?_
  refine AW.iload_n (pc := 32) (x := v3) dX5_indexAmongValues_32 rfl ?_
  refine AW.callV (pc := 33) (As := [vI v3]) (st := [vI v4]) dX5_indexAmongValues_33 cl_X5_71 kd_12 hl_12 ⟨Nat.le_of_ble_eq_true rfl, Nat.le_of_ble_eq_true rfl⟩ (Nat.le_of_ble_eq_true rfl) (Nat.le_of_ble_eq_true rfl) h ?_
  rintro _ M33 ⟨r33, rfl, h⟩
  show AW mX5_indexAmongValues 36 [some (vR 22), some (vI v1), some (vI v2), some (vI v3), some (vI v4)] [vI r33, vI v4] M33 (QI K)
  obtain ⟨o, ha, hb⟩ := h
  refine AW.icmp_ge (pc := 36) (tgt := 89) dX5_indexAmongValues_36 (by decide) o.1 o.2 (fun hc => ?_) (fun hc => ?_)
  · have h := ha hc
    refine AW.aload_n (pc := 89) (x := 22) dX5_indexAmongValues_89 rfl ?_
    refine AW.getR (pc := 90) (h2 := 24) dX5_indexAmongValues_90 fg_X5_15 kd_22 hl_22 rfl ?_
    refine AW.iload_n (pc := 93) (x := v3) dX5_indexAmongValues_93 rfl ?_
    refine AW.aload_n (pc := 94) (x := 22) dX5_indexAmongValues_94 rfl ?_
    refine AW.getR (pc := 95) (h2 := 8) dX5_indexAmongValues_95 fg_X5_31 kd_22 hl_22 rfl ?_
    refine AW.aload_n (pc := 98) (x := 22) dX5_indexAmongValues_98 rfl ?_
    refine AW.getR (pc := 99) (h2 := 12) dX5_indexAmongValues_99 fg_X5_27 kd_22 hl_22 rfl ?_
    refine AW.getR (pc := 102) (h2 := 14) dX5_indexAmongValues_102 fg_X5_81 kd_12 hl_12 rfl ?_
    refine AW.iload_n (pc := 105) (x := v3) dX5_indexAmongValues_105 rfl ?_
    obtain ⟨o, h⟩ := h
    refine AW.iald (pc := 106) dX5_indexAmongValues_106 kd_14 hl_14 o ?_
    refine AW.aload_n (pc := 107) (x := 22) dX5_indexAmongValues_107 rfl ?_
    refine AW.getR (pc := 108) (h2 := 23) dX5_indexAmongValues_108 fg_X5_9 kd_22 hl_22 rfl ?_
    refine AW.iload_n (pc := 111) (x := v3) dX5_indexAmongValues_111 rfl ?_
    obtain ⟨o, h⟩ := h
    refine AW.iald (pc := 112) dX5_indexAmongValues_112 kd_23 hl_23 o ?_
    refine AW.aload_n (pc := 113) (x := 22) dX5_indexAmongValues_113 rfl ?_
    refine AW.getR (pc := 114) (h2 := 26) dX5_indexAmongValues_114 fg_X5_21 kd_22 hl_22 rfl ?_
    refine AW.aload_n (pc := 117) (x := 22) dX5_indexAmongValues_117 rfl ?_
    refine AW.getR (pc := 118) (h2 := 27) dX5_indexAmongValues_118 fg_X5_24 kd_22 hl_22 rfl ?_
    refine AW.callV (pc := 121) (As := [vI (M33 14 v3), vI (M33 23 v3), vR 26, vR 27]) (st := [vI v3, vR 24]) dX5_indexAmongValues_121 cl_X5_84 kd_8 hl_8 ⟨Nat.le_of_ble_eq_true rfl, Nat.le_of_ble_eq_true rfl⟩ (Nat.le_of_ble_eq_true rfl) (Nat.le_of_ble_eq_true rfl) h ?_
    rintro _ M121 ⟨r121, rfl, h⟩
    show AW mX5_indexAmongValues 124 [some (vR 22), some (vI v1), some (vI v2), some (vI v3), some (vI v4)] [vI r121, vI v3, vR 24] M121 (QI K)
    obtain ⟨o, h⟩ := h
    refine AW.iast (pc := 124) dX5_indexAmongValues_124 kd_24 hl_24 o ?_
    refine AW.iinc (pc := 125) (x := v2) (ls2 := [some (vR 22), some (vI v1), some (vI (v2 + 1)), some (vI v3), some (vI v4)]) dX5_indexAmongValues_125 rfl (by decide) rfl ?_
    refine AW.goto (pc := 128) (tgt := 2) dX5_indexAmongValues_128 (by decide) ?_
    exact AW.weak (ls2 := [some (vR 22), some (vI v1), some (vI (v2 + 1)), none, none]) (by simp [lsub]) h
  · have h := hb hc
    refine AW.aload_n (pc := 39) (x := 22) dX5_indexAmongValues_39 rfl ?_
    refine AW.getR (pc := 40) (h2 := 26) dX5_indexAmongValues_40 fg_X5_21 kd_22 hl_22 rfl ?_
    refine AW.iload (pc := 43) (x := v4) dX5_indexAmongValues_43 rfl ?_
    refine AW.aload_n (pc := 45) (x := 22) dX5_indexAmongValues_45 rfl ?_
    refine AW.getR (pc := 46) (h2 := 23) dX5_indexAmongValues_46 fg_X5_9 kd_22 hl_22 rfl ?_
    refine AW.aload_n (pc := 49) (x := 22) dX5_indexAmongValues_49 rfl ?_
    refine AW.getR (pc := 50) (h2 := 12) dX5_indexAmongValues_50 fg_X5_27 kd_22 hl_22 rfl ?_
    refine AW.iload_n (pc := 53) (x := v3) dX5_indexAmongValues_53 rfl ?_
    refine AW.iload (pc := 54) (x := v4) dX5_indexAmongValues_54 rfl ?_
    refine AW.callV (pc := 56) (As := [vI v3, vI v4]) (st := [vR 23, vI v4, vR 26]) dX5_indexAmongValues_56 cl_X5_74 kd_12 hl_12 ⟨Nat.le_of_ble_eq_true rfl, Nat.le_of_ble_eq_true rfl⟩ (Nat.le_of_ble_eq_true rfl) (Nat.le_of_ble_eq_true rfl) h ?_
    rintro _ M56 ⟨r56, rfl, h⟩
    show AW mX5_indexAmongValues 59 [some (vR 22), some (vI v1), some (vI v2), some (vI v3), some (vI v4)] [vI r56, vR 23, vI v4, vR 26] M56 (QI K)
    obtain ⟨o, h⟩ := h
    refine AW.iald (pc := 59) dX5_indexAmongValues_59 kd_23 hl_23 o ?_
    obtain ⟨o, h⟩ := h
    refine AW.iast (pc := 60) dX5_indexAmongValues_60 kd_26 hl_26 o ?_
    refine AW.aload_n (pc := 61) (x := 22) dX5_indexAmongValues_61 rfl ?_
    refine AW.getR (pc := 62) (h2 := 27) dX5_indexAmongValues_62 fg_X5_24 kd_22 hl_22 rfl ?_
    refine AW.iload (pc := 65) (x := v4) dX5_indexAmongValues_65 rfl ?_
    refine AW.aload_n (pc := 67) (x := 22) dX5_indexAmongValues_67 rfl ?_
    refine AW.getR (pc := 68) (h2 := 24) dX5_indexAmongValues_68 fg_X5_15 kd_22 hl_22 rfl ?_
    refine AW.aload_n (pc := 71) (x := 22) dX5_indexAmongValues_71 rfl ?_
    refine AW.getR (pc := 72) (h2 := 12) dX5_indexAmongValues_72 fg_X5_27 kd_22 hl_22 rfl ?_
    refine AW.iload_n (pc := 75) (x := v3) dX5_indexAmongValues_75 rfl ?_
    refine AW.iload (pc := 76) (x := v4) dX5_indexAmongValues_76 rfl ?_
    refine AW.callV (pc := 78) (As := [vI v3, vI v4]) (st := [vR 24, vI v4, vR 27]) dX5_indexAmongValues_78 cl_X5_74 kd_12 hl_12 ⟨Nat.le_of_ble_eq_true rfl, Nat.le_of_ble_eq_true rfl⟩ (Nat.le_of_ble_eq_true rfl) (Nat.le_of_ble_eq_true rfl) h ?_
    rintro _ M78 ⟨r78, rfl, h⟩
    show AW mX5_indexAmongValues 81 [some (vR 22), some (vI v1), some (vI v2), some (vI v3), some (vI v4)] [vI r78, vR 24, vI v4, vR 27] M78 (QI K)
    obtain ⟨o, h⟩ := h
    refine AW.iald (pc := 81) dX5_indexAmongValues_81 kd_24 hl_24 o ?_
    obtain ⟨o, h⟩ := h
    refine AW.iast (pc := 82) dX5_indexAmongValues_82 kd_27 hl_27 o ?_
    refine AW.iinc (pc := 83) (x := v4) (ls2 := [some (vR 22), some (vI v1), some (vI v2), some (vI v3), some (vI (v4 + 1))]) dX5_indexAmongValues_83 rfl (by decide) rfl ?_
    refine AW.goto (pc := 86) (tgt := 26) dX5_indexAmongValues_86 (by decide) ?_
    exact h

set_option maxRecDepth 20000 in
theorem en_X5_isBuiltBy {M : Mem} {K : Int → Mem → Prop} {v1 v2 : Int} 
    (h : (0 ≤ v1 ∧ v1 < 100) ∧ (InR (M 14 v1) ∧ InR v2) ∧ ((M 14 v1) ≠ v2 → (K 0 M)) ∧ (¬ ((M 14 v1) ≠ v2) → (K 1 M))) :
    CI mX5_isBuiltBy [vR 22, vI v1, vI v2] M K := by
  show AW mX5_isBuiltBy 0 [some (vR 22), some (vI v1), some (vI v2)] [] M (QI K)
  refine AW.aload_n (pc := 0) (x := 22) dX5_isBuiltBy_0 rfl ?_
  refine AW.getR (pc := 1) (h2 := 12) dX5_isBuiltBy_1 fg_X5_27 kd_22 hl_22 rfl ?_
  refine AW.getR (pc := 4) (h2 := 14) dX5_isBuiltBy_4 fg_X5_81 kd_12 hl_12 rfl ?_
  refine AW.iload_n (pc := 7) (x := v1) dX5_isBuiltBy_7 rfl ?_
  obtain ⟨o, h⟩ := h
  refine AW.iald (pc := 8) dX5_isBuiltBy_8 kd_14 hl_14 o ?_
  refine AW.iload_n (pc := 9) (x := v2) dX5_isBuiltBy_9 rfl ?_
  obtain ⟨o, ha, hb⟩ := h
  refine AW.icmp_ne (pc := 10) (tgt := 17) dX5_isBuiltBy_10 (by decide) o.1 o.2 (fun hc => ?_) (fun hc => ?_)
  · have h := ha hc
    refine AW.iconst (pc := 17) dX5_isBuiltBy_17 ?_
    exact AW.zret (st := []) (pc := 18) dX5_isBuiltBy_18 rfl (by decide) ⟨_, rfl, h⟩
  · have h := hb hc
    refine AW.iconst (pc := 13) dX5_isBuiltBy_13 ?_
    refine AW.goto (pc := 14) (tgt := 18) dX5_isBuiltBy_14 (by decide) ?_
    exact AW.zret (st := []) (pc := 18) dX5_isBuiltBy_18 rfl (by decide) ⟨_, rfl, h⟩

set_option maxRecDepth 20000 in
theorem en_X5_measure {M : Mem} {K : Int → Mem → Prop} {v1 : Int} 
    (h : CV mX10_begin [vR 28] M (fun M4 => CV mX10_visit [vR 28, vI v1] M4 (fun M12 => AW mX5_measure 17 [some (vR 22), some (vI v1), some (vI 0)] [] M12 (QI K)))) :
    CI mX5_measure [vR 22, vI v1] M K := by
  show AW mX5_measure 0 [some (vR 22), some (vI v1), none] [] M (QI K)
  refine AW.aload_n (pc := 0) (x := 22) dX5_measure_0 rfl ?_
  refine AW.getR (pc := 1) (h2 := 28) dX5_measure_1 fg_X5_40 kd_22 hl_22 rfl ?_
  refine AW.callV (pc := 4) (As := []) (st := []) dX5_measure_4 cl_X5_44 kd_28 hl_28 ⟨Nat.le_of_ble_eq_true rfl, Nat.le_of_ble_eq_true rfl⟩ (Nat.le_of_ble_eq_true rfl) (Nat.le_of_ble_eq_true rfl) h ?_
  rintro _ M4 ⟨rfl, h⟩
  show AW mX5_measure 7 [some (vR 22), some (vI v1), none] [] M4 (QI K)
  refine AW.aload_n (pc := 7) (x := 22) dX5_measure_7 rfl ?_
  refine AW.getR (pc := 8) (h2 := 28) dX5_measure_8 fg_X5_40 kd_22 hl_22 rfl ?_
  refine AW.iload_n (pc := 11) (x := v1) dX5_measure_11 rfl ?_
  refine AW.callV (pc := 12) (As := [vI v1]) (st := []) dX5_measure_12 cl_X5_47 kd_28 hl_28 ⟨Nat.le_of_ble_eq_true rfl, Nat.le_of_ble_eq_true rfl⟩ (Nat.le_of_ble_eq_true rfl) (Nat.le_of_ble_eq_true rfl) h ?_
  rintro _ M12 ⟨rfl, h⟩
  show AW mX5_measure 15 [some (vR 22), some (vI v1), none] [] M12 (QI K)
  refine AW.iconst (pc := 15) dX5_measure_15 ?_
  refine AW.istore_n (pc := 16) (ls2 := [some (vR 22), some (vI v1), some (vI 0)]) dX5_measure_16 (by decide) rfl ?_
  exact h

set_option maxRecDepth 20000 in
theorem sg_X5_measure_17 {M : Mem} {K : Int → Mem → Prop} {v1 v2 : Int} 
    (h : (InR v2 ∧ InR (M 28 2)) ∧ (v2 ≥ (M 28 2) → (CI mX0_resolve [vR 12, vI v1] M (fun r70 M70 => (0 ≤ r70 ∧ r70 < 100) ∧ K (M70 23 r70) M70))) ∧ (¬ (v2 ≥ (M 28 2)) → ((0 ≤ v2 ∧ v2 < 100) ∧ (0 ≤ v2 ∧ v2 < 100) ∧ CI mX5_sizeFromParts [vR 22, vI (M 29 v2)] M (fun r51 M51 => (0 ≤ (M 29 v2) ∧ (M 29 v2) < 100) ∧ AW mX5_measure 17 [some (vR 22), some (vI v1), some (vI (v2 + 1))] [] (up M51 23 (M 29 v2) r51) (QI K))))) :
    AW mX5_measure 17 [some (vR 22), some (vI v1), some (vI v2)] [] M (QI K) := by
  refine AW.iload_n (pc := 17) (x := v2) dX5_measure_17 rfl ?_
  refine AW.aload_n (pc := 18) (x := 22) dX5_measure_18 rfl ?_
  refine AW.getR (pc := 19) (h2 := 28) dX5_measure_19 fg_X5_40 kd_22 hl_22 rfl ?_
  refine AW.getI (pc := 22) dX5_measure_22 fg_X5_51 kd_28 hl_28 rfl ?_
  obtain ⟨o, ha, hb⟩ := h
  refine AW.icmp_ge (pc := 25) (tgt := 61) dX5_measure_25 (by decide) o.1 o.2 (fun hc => ?_) (fun hc => ?_)
  · have h := ha hc
    refine AW.aload_n (pc := 61) (x := 22) dX5_measure_61 rfl ?_
    refine AW.getR (pc := 62) (h2 := 23) dX5_measure_62 fg_X5_9 kd_22 hl_22 rfl ?_
    refine AW.aload_n (pc := 65) (x := 22) dX5_measure_65 rfl ?_
    refine AW.getR (pc := 66) (h2 := 12) dX5_measure_66 fg_X5_27 kd_22 hl_22 rfl ?_
    refine AW.iload_n (pc := 69) (x := v1) dX5_measure_69 rfl ?_
    refine AW.callV (pc := 70) (As := [vI v1]) (st := [vR 23]) dX5_measure_70 cl_X5_62 kd_12 hl_12 ⟨Nat.le_of_ble_eq_true rfl, Nat.le_of_ble_eq_true rfl⟩ (Nat.le_of_ble_eq_true rfl) (Nat.le_of_ble_eq_true rfl) h ?_
    rintro _ M70 ⟨r70, rfl, h⟩
    show AW mX5_measure 73 [some (vR 22), some (vI v1), some (vI v2)] [vI r70, vR 23] M70 (QI K)
    obtain ⟨o, h⟩ := h
    refine AW.iald (pc := 73) dX5_measure_73 kd_23 hl_23 o ?_
    exact AW.iret (st := []) (pc := 74) dX5_measure_74 rfl ⟨_, rfl, h⟩
  · have h := hb hc
    refine AW.aload_n (pc := 28) (x := 22) dX5_measure_28 rfl ?_
    refine AW.getR (pc := 29) (h2 := 23) dX5_measure_29 fg_X5_9 kd_22 hl_22 rfl ?_
    refine AW.aload_n (pc := 32) (x := 22) dX5_measure_32 rfl ?_
    refine AW.getR (pc := 33) (h2 := 28) dX5_measure_33 fg_X5_40 kd_22 hl_22 rfl ?_
    refine AW.getR (pc := 36) (h2 := 29) dX5_measure_36 fg_X5_55 kd_28 hl_28 rfl ?_
    refine AW.iload_n (pc := 39) (x := v2) dX5_measure_39 rfl ?_
    obtain ⟨o, h⟩ := h
    refine AW.iald (pc := 40) dX5_measure_40 kd_29 hl_29 o ?_
    refine AW.aload_n (pc := 41) (x := 22) dX5_measure_41 rfl ?_
    refine AW.aload_n (pc := 42) (x := 22) dX5_measure_42 rfl ?_
    refine AW.getR (pc := 43) (h2 := 28) dX5_measure_43 fg_X5_40 kd_22 hl_22 rfl ?_
    refine AW.getR (pc := 46) (h2 := 29) dX5_measure_46 fg_X5_55 kd_28 hl_28 rfl ?_
    refine AW.iload_n (pc := 49) (x := v2) dX5_measure_49 rfl ?_
    obtain ⟨o, h⟩ := h
    refine AW.iald (pc := 50) dX5_measure_50 kd_29 hl_29 o ?_
    refine AW.callV (pc := 51) (As := [vI (M 29 v2)]) (st := [vI (M 29 v2), vR 23]) dX5_measure_51 cl_X5_58 kd_22 hl_22 ⟨Nat.le_of_ble_eq_true rfl, Nat.le_of_ble_eq_true rfl⟩ (Nat.le_of_ble_eq_true rfl) (Nat.le_of_ble_eq_true rfl) h ?_
    rintro _ M51 ⟨r51, rfl, h⟩
    show AW mX5_measure 54 [some (vR 22), some (vI v1), some (vI v2)] [vI r51, vI (M 29 v2), vR 23] M51 (QI K)
    obtain ⟨o, h⟩ := h
    refine AW.iast (pc := 54) dX5_measure_54 kd_23 hl_23 o ?_
    refine AW.iinc (pc := 55) (x := v2) (ls2 := [some (vR 22), some (vI v1), some (vI (v2 + 1))]) dX5_measure_55 rfl (by decide) rfl ?_
    refine AW.goto (pc := 58) (tgt := 17) dX5_measure_58 (by decide) ?_
    exact h

set_option maxRecDepth 20000 in
theorem en_X5_sameTerm {M : Mem} {K : Int → Mem → Prop} {v1 v2 : Int} 
    (h : CV mX10_begin [vR 28] M (fun M4 => CV mX10_visit [vR 28, vI v1] M4 (fun M12 => CV mX10_visit [vR 28, vI v2] M12 (fun M20 => CV mX5_findCanonical [vR 22] M20 (fun M24 => CI mX0_resolve [vR 12, vI v1] M24 (fun r36 M36 => (0 ≤ r36 ∧ r36 < 100) ∧ CI mX0_resolve [vR 12, vI v2] M36 (fun r49 M49 => (0 ≤ r49 ∧ r49 < 100) ∧ (InR (M36 25 r36) ∧ InR (M49 25 r49)) ∧ ((M36 25 r36) ≠ (M49 25 r49) → (K 0 M49)) ∧ (¬ ((M36 25 r36) ≠ (M49 25 r49)) → (K 1 M49))))))))) :
    CI mX5_sameTerm [vR 22, vI v1, vI v2] M K := by
  show AW mX5_sameTerm 0 [some (vR 22), some (vI v1), some (vI v2)] [] M (QI K)
  refine AW.aload_n (pc := 0) (x := 22) dX5_sameTerm_0 rfl ?_
  refine AW.getR (pc := 1) (h2 := 28) dX5_sameTerm_1 fg_X5_40 kd_22 hl_22 rfl ?_
  refine AW.callV (pc := 4) (As := []) (st := []) dX5_sameTerm_4 cl_X5_44 kd_28 hl_28 ⟨Nat.le_of_ble_eq_true rfl, Nat.le_of_ble_eq_true rfl⟩ (Nat.le_of_ble_eq_true rfl) (Nat.le_of_ble_eq_true rfl) h ?_
  rintro _ M4 ⟨rfl, h⟩
  show AW mX5_sameTerm 7 [some (vR 22), some (vI v1), some (vI v2)] [] M4 (QI K)
  refine AW.aload_n (pc := 7) (x := 22) dX5_sameTerm_7 rfl ?_
  refine AW.getR (pc := 8) (h2 := 28) dX5_sameTerm_8 fg_X5_40 kd_22 hl_22 rfl ?_
  refine AW.iload_n (pc := 11) (x := v1) dX5_sameTerm_11 rfl ?_
  refine AW.callV (pc := 12) (As := [vI v1]) (st := []) dX5_sameTerm_12 cl_X5_47 kd_28 hl_28 ⟨Nat.le_of_ble_eq_true rfl, Nat.le_of_ble_eq_true rfl⟩ (Nat.le_of_ble_eq_true rfl) (Nat.le_of_ble_eq_true rfl) h ?_
  rintro _ M12 ⟨rfl, h⟩
  show AW mX5_sameTerm 15 [some (vR 22), some (vI v1), some (vI v2)] [] M12 (QI K)
  refine AW.aload_n (pc := 15) (x := 22) dX5_sameTerm_15 rfl ?_
  refine AW.getR (pc := 16) (h2 := 28) dX5_sameTerm_16 fg_X5_40 kd_22 hl_22 rfl ?_
  refine AW.iload_n (pc := 19) (x := v2) dX5_sameTerm_19 rfl ?_
  refine AW.callV (pc := 20) (As := [vI v2]) (st := []) dX5_sameTerm_20 cl_X5_47 kd_28 hl_28 ⟨Nat.le_of_ble_eq_true rfl, Nat.le_of_ble_eq_true rfl⟩ (Nat.le_of_ble_eq_true rfl) (Nat.le_of_ble_eq_true rfl) h ?_
  rintro _ M20 ⟨rfl, h⟩
  show AW mX5_sameTerm 23 [some (vR 22), some (vI v1), some (vI v2)] [] M20 (QI K)
  refine AW.aload_n (pc := 23) (x := 22) dX5_sameTerm_23 rfl ?_
  refine AW.callV (pc := 24) (As := []) (st := []) dX5_sameTerm_24 cl_X5_90 kd_22 hl_22 ⟨Nat.le_of_ble_eq_true rfl, Nat.le_of_ble_eq_true rfl⟩ (Nat.le_of_ble_eq_true rfl) (Nat.le_of_ble_eq_true rfl) h ?_
  rintro _ M24 ⟨rfl, h⟩
  show AW mX5_sameTerm 27 [some (vR 22), some (vI v1), some (vI v2)] [] M24 (QI K)
  refine AW.aload_n (pc := 27) (x := 22) dX5_sameTerm_27 rfl ?_
  refine AW.getR (pc := 28) (h2 := 25) dX5_sameTerm_28 fg_X5_18 kd_22 hl_22 rfl ?_
  refine AW.aload_n (pc := 31) (x := 22) dX5_sameTerm_31 rfl ?_
  refine AW.getR (pc := 32) (h2 := 12) dX5_sameTerm_32 fg_X5_27 kd_22 hl_22 rfl ?_
  refine AW.iload_n (pc := 35) (x := v1) dX5_sameTerm_35 rfl ?_
  refine AW.callV (pc := 36) (As := [vI v1]) (st := [vR 25]) dX5_sameTerm_36 cl_X5_62 kd_12 hl_12 ⟨Nat.le_of_ble_eq_true rfl, Nat.le_of_ble_eq_true rfl⟩ (Nat.le_of_ble_eq_true rfl) (Nat.le_of_ble_eq_true rfl) h ?_
  rintro _ M36 ⟨r36, rfl, h⟩
  show AW mX5_sameTerm 39 [some (vR 22), some (vI v1), some (vI v2)] [vI r36, vR 25] M36 (QI K)
  obtain ⟨o, h⟩ := h
  refine AW.iald (pc := 39) dX5_sameTerm_39 kd_25 hl_25 o ?_
  refine AW.aload_n (pc := 40) (x := 22) dX5_sameTerm_40 rfl ?_
  refine AW.getR (pc := 41) (h2 := 25) dX5_sameTerm_41 fg_X5_18 kd_22 hl_22 rfl ?_
  refine AW.aload_n (pc := 44) (x := 22) dX5_sameTerm_44 rfl ?_
  refine AW.getR (pc := 45) (h2 := 12) dX5_sameTerm_45 fg_X5_27 kd_22 hl_22 rfl ?_
  refine AW.iload_n (pc := 48) (x := v2) dX5_sameTerm_48 rfl ?_
  refine AW.callV (pc := 49) (As := [vI v2]) (st := [vR 25, vI (M36 25 r36)]) dX5_sameTerm_49 cl_X5_62 kd_12 hl_12 ⟨Nat.le_of_ble_eq_true rfl, Nat.le_of_ble_eq_true rfl⟩ (Nat.le_of_ble_eq_true rfl) (Nat.le_of_ble_eq_true rfl) h ?_
  rintro _ M49 ⟨r49, rfl, h⟩
  show AW mX5_sameTerm 52 [some (vR 22), some (vI v1), some (vI v2)] [vI r49, vR 25, vI (M36 25 r36)] M49 (QI K)
  obtain ⟨o, h⟩ := h
  refine AW.iald (pc := 52) dX5_sameTerm_52 kd_25 hl_25 o ?_
  obtain ⟨o, ha, hb⟩ := h
  refine AW.icmp_ne (pc := 53) (tgt := 60) dX5_sameTerm_53 (by decide) o.1 o.2 (fun hc => ?_) (fun hc => ?_)
  · have h := ha hc
    refine AW.iconst (pc := 60) dX5_sameTerm_60 ?_
    exact AW.zret (st := []) (pc := 61) dX5_sameTerm_61 rfl (by decide) ⟨_, rfl, h⟩
  · have h := hb hc
    refine AW.iconst (pc := 56) dX5_sameTerm_56 ?_
    refine AW.goto (pc := 57) (tgt := 61) dX5_sameTerm_57 (by decide) ?_
    exact AW.zret (st := []) (pc := 61) dX5_sameTerm_61 rfl (by decide) ⟨_, rfl, h⟩

set_option maxRecDepth 20000 in
theorem en_X5_sizeFromParts {M : Mem} {K : Int → Mem → Prop} {v1 : Int} 
    (h : CI mX0_isVariable [vR 12, vI v1] M (fun r5 M5 => InR r5 ∧ (r5 = 0 → (AW mX5_sizeFromParts 18 [some (vR 22), some (vI v1), some (vI 1), some (vI 0), none] [] M5 (QI K))) ∧ (¬ (r5 = 0) → (K (-9) M5)))) :
    CI mX5_sizeFromParts [vR 22, vI v1] M K := by
  show AW mX5_sizeFromParts 0 [some (vR 22), some (vI v1), none, none, none] [] M (QI K)
  refine AW.aload_n (pc := 0) (x := 22) dX5_sizeFromParts_0 rfl ?_
  refine AW.getR (pc := 1) (h2 := 12) dX5_sizeFromParts_1 fg_X5_27 kd_22 hl_22 rfl ?_
  refine AW.iload_n (pc := 4) (x := v1) dX5_sizeFromParts_4 rfl ?_
  refine AW.callV (pc := 5) (As := [vI v1]) (st := []) dX5_sizeFromParts_5 cl_X5_67 kd_12 hl_12 ⟨Nat.le_of_ble_eq_true rfl, Nat.le_of_ble_eq_true rfl⟩ (Nat.le_of_ble_eq_true rfl) (Nat.le_of_ble_eq_true rfl) h ?_
  rintro _ M5 ⟨r5, rfl, h⟩
  show AW mX5_sizeFromParts 8 [some (vR 22), some (vI v1), none, none, none] [vI r5] M5 (QI K)
  obtain ⟨o, ha, hb⟩ := h
  refine AW.if_eq (pc := 8) (tgt := 14) dX5_sizeFromParts_8 (by decide) o (fun hc => ?_) (fun hc => ?_)
  · have h := ha hc
    refine AW.iconst (pc := 14) dX5_sizeFromParts_14 ?_
    refine AW.istore_n (pc := 15) (ls2 := [some (vR 22), some (vI v1), some (vI 1), none, none]) dX5_sizeFromParts_15 (by decide) rfl ?_
    refine AW.iconst (pc := 16) dX5_sizeFromParts_16 ?_
    refine AW.istore_n (pc := 17) (ls2 := [some (vR 22), some (vI v1), some (vI 1), some (vI 0), none]) dX5_sizeFromParts_17 (by decide) rfl ?_
    exact h
  · have h := hb hc
    refine AW.bipush (pc := 11) dX5_sizeFromParts_11 (by decide) ?_
    exact AW.iret (st := []) (pc := 13) dX5_sizeFromParts_13 rfl ⟨_, rfl, h⟩

set_option maxRecDepth 20000 in
theorem sg_X5_sizeFromParts_18 {M : Mem} {K : Int → Mem → Prop} {v1 v2 v3 : Int} 
    (h : CI mX0_partTotal [vR 12, vI v1] M (fun r24 M24 => (InR v3 ∧ InR r24) ∧ (v3 ≥ r24 → (K v2 M24)) ∧ (¬ (v3 ≥ r24) → (CI mX0_resolvedPart [vR 12, vI v1, vI v3] M24 (fun r40 M40 => (0 ≤ r40 ∧ r40 < 100) ∧ InR (M40 23 r40) ∧ ((M40 23 r40) ≠ (-9) → (CI mX11_limitedSum [vI v2, vI (M40 23 r40)] M40 (fun r59 M59 => AW mX5_sizeFromParts 18 [some (vR 22), some (vI v1), some (vI r59), some (vI (v3 + 1)), none] [] M59 (QI K)))) ∧ (¬ ((M40 23 r40) ≠ (-9)) → (K (-9) M40))))))) :
    AW mX5_sizeFromParts 18 [some (vR 22), some (vI v1), some (vI v2), some (vI v3), none] [] M (QI K) := by
  refine AW.iload_n (pc := 18) (x := v3) dX5_sizeFromParts_18 rfl ?_
  refine AW.aload_n (pc := 19) (x := 22) dX5_sizeFromParts_19 rfl ?_
  refine AW.getR (pc := 20) (h2 := 12) dX5_sizeFromParts_20 fg_X5_27 kd_22 hl_22 rfl ?_
  refine AW.iload_n (pc := 23) (x := v1) dX5_sizeFromParts_23 rfl ?_
  refine AW.callV (pc := 24) (As := [vI v1]) (st := [vI v3]) dX5_sizeFromParts_24 cl_X5_71 kd_12 hl_12 ⟨Nat.le_of_ble_eq_true rfl, Nat.le_of_ble_eq_true rfl⟩ (Nat.le_of_ble_eq_true rfl) (Nat.le_of_ble_eq_true rfl) h ?_
  rintro _ M24 ⟨r24, rfl, h⟩
  show AW mX5_sizeFromParts 27 [some (vR 22), some (vI v1), some (vI v2), some (vI v3), none] [vI r24, vI v3] M24 (QI K)
  obtain ⟨o, ha, hb⟩ := h
  refine AW.icmp_ge (pc := 27) (tgt := 69) dX5_sizeFromParts_27 (by decide) o.1 o.2 (fun hc => ?_) (fun hc => ?_)
  · have h := ha hc
    refine AW.iload_n (pc := 69) (x := v2) dX5_sizeFromParts_69 rfl ?_
    exact AW.iret (st := []) (pc := 70) dX5_sizeFromParts_70 rfl ⟨_, rfl, h⟩
  · have h := hb hc
    refine AW.aload_n (pc := 30) (x := 22) dX5_sizeFromParts_30 rfl ?_
    refine AW.getR (pc := 31) (h2 := 23) dX5_sizeFromParts_31 fg_X5_9 kd_22 hl_22 rfl ?_
    refine AW.aload_n (pc := 34) (x := 22) dX5_sizeFromParts_34 rfl ?_
    refine AW.getR (pc := 35) (h2 := 12) dX5_sizeFromParts_35 fg_X5_27 kd_22 hl_22 rfl ?_
    refine AW.iload_n (pc := 38) (x := v1) dX5_sizeFromParts_38 rfl ?_
    refine AW.iload_n (pc := 39) (x := v3) dX5_sizeFromParts_39 rfl ?_
    refine AW.callV (pc := 40) (As := [vI v1, vI v3]) (st := [vR 23]) dX5_sizeFromParts_40 cl_X5_74 kd_12 hl_12 ⟨Nat.le_of_ble_eq_true rfl, Nat.le_of_ble_eq_true rfl⟩ (Nat.le_of_ble_eq_true rfl) (Nat.le_of_ble_eq_true rfl) h ?_
    rintro _ M40 ⟨r40, rfl, h⟩
    show AW mX5_sizeFromParts 43 [some (vR 22), some (vI v1), some (vI v2), some (vI v3), none] [vI r40, vR 23] M40 (QI K)
    obtain ⟨o, h⟩ := h
    refine AW.iald (pc := 43) dX5_sizeFromParts_43 kd_23 hl_23 o ?_
    refine AW.istore (pc := 44) (ls2 := [some (vR 22), some (vI v1), some (vI v2), some (vI v3), some (vI (M40 23 r40))]) dX5_sizeFromParts_44 (by decide) rfl ?_
    refine AW.iload (pc := 46) (x := (M40 23 r40)) dX5_sizeFromParts_46 rfl ?_
    refine AW.bipush (pc := 48) dX5_sizeFromParts_48 (by decide) ?_
    obtain ⟨o, ha, hb⟩ := h
    refine AW.icmp_ne (pc := 50) (tgt := 56) dX5_sizeFromParts_50 (by decide) o (by decide) (fun hc => ?_) (fun hc => ?_)
    · have h := ha hc
      refine AW.iload_n (pc := 56) (x := v2) dX5_sizeFromParts_56 rfl ?_
      refine AW.iload (pc := 57) (x := (M40 23 r40)) dX5_sizeFromParts_57 rfl ?_
      refine AW.callN (pc := 59) (As := [vI v2, vI (M40 23 r40)]) (st := []) dX5_sizeFromParts_59 cl_X5_78 ⟨Nat.le_of_ble_eq_true rfl, Nat.le_of_ble_eq_true rfl⟩ (Nat.le_of_ble_eq_true rfl) (Nat.le_of_ble_eq_true rfl) h ?_
      rintro _ M59 ⟨r59, rfl, h⟩
      show AW mX5_sizeFromParts 62 [some (vR 22), some (vI v1), some (vI v2), some (vI v3), some (vI (M40 23 r40))] [vI r59] M59 (QI K)
      refine AW.istore_n (pc := 62) (ls2 := [some (vR 22), some (vI v1), some (vI r59), some (vI v3), some (vI (M40 23 r40))]) dX5_sizeFromParts_62 (by decide) rfl ?_
      refine AW.iinc (pc := 63) (x := v3) (ls2 := [some (vR 22), some (vI v1), some (vI r59), some (vI (v3 + 1)), some (vI (M40 23 r40))]) dX5_sizeFromParts_63 rfl (by decide) rfl ?_
      refine AW.goto (pc := 66) (tgt := 18) dX5_sizeFromParts_66 (by decide) ?_
      exact AW.weak (ls2 := [some (vR 22), some (vI v1), some (vI r59), some (vI (v3 + 1)), none]) (by simp [lsub]) h
    · have h := hb hc
      refine AW.bipush (pc := 53) dX5_sizeFromParts_53 (by decide) ?_
      exact AW.iret (st := []) (pc := 55) dX5_sizeFromParts_55 rfl ⟨_, rfl, h⟩

set_option maxRecDepth 20000 in
theorem en_X5_split {M : Mem} {K : Mem → Prop} {v1 v2 : Int} 
    (h : AW mX5_split 3 [some (vR 22), some (vI v1), some (vI v2), some (vR 49), some (vI 0)] [] M (QV K)) :
    CV mX5_split [vR 22, vI v1, vI v2, vR 49] M K := by
  show AW mX5_split 0 [some (vR 22), some (vI v1), some (vI v2), some (vR 49), none] [] M (QV K)
  refine AW.iconst (pc := 0) dX5_split_0 ?_
  refine AW.istore (pc := 1) (ls2 := [some (vR 22), some (vI v1), some (vI v2), some (vR 49), some (vI 0)]) dX5_split_1 (by decide) rfl ?_
  exact h

set_option maxRecDepth 20000 in
theorem sg_X5_split_3 {M : Mem} {K : Mem → Prop} {v1 v2 v4 : Int} 
    (h : CI mX0_partTotal [vR 12, vI v1] M (fun r10 M10 => (InR v4 ∧ InR r10) ∧ (v4 ≥ r10 → (K M10)) ∧ (¬ (v4 ≥ r10) → (CI mX0_resolvedPart [vR 12, vI v1, vI v4] M10 (fun r30 M30 => (0 ≤ r30 ∧ r30 < 100) ∧ (0 ≤ v4 ∧ v4 < 3) ∧ AW mX5_split 3 [some (vR 22), some (vI v1), some (vI v2), some (vR 49), some (vI (v4 + 1))] [] (up M30 49 v4 (M30 25 r30)) (QV K)))))) :
    AW mX5_split 3 [some (vR 22), some (vI v1), some (vI v2), some (vR 49), some (vI v4)] [] M (QV K) := by
  refine AW.iload (pc := 3) (x := v4) dX5_split_3 rfl ?_
  refine AW.aload_n (pc := 5) (x := 22) dX5_split_5 rfl ?_
  refine AW.getR (pc := 6) (h2 := 12) dX5_split_6 fg_X5_27 kd_22 hl_22 rfl ?_
  refine AW.iload_n (pc := 9) (x := v1) dX5_split_9 rfl ?_
  refine AW.callV (pc := 10) (As := [vI v1]) (st := [vI v4]) dX5_split_10 cl_X5_71 kd_12 hl_12 ⟨Nat.le_of_ble_eq_true rfl, Nat.le_of_ble_eq_true rfl⟩ (Nat.le_of_ble_eq_true rfl) (Nat.le_of_ble_eq_true rfl) h ?_
  rintro _ M10 ⟨r10, rfl, h⟩
  show AW mX5_split 13 [some (vR 22), some (vI v1), some (vI v2), some (vR 49), some (vI v4)] [vI r10, vI v4] M10 (QV K)
  obtain ⟨o, ha, hb⟩ := h
  refine AW.icmp_ge (pc := 13) (tgt := 41) dX5_split_13 (by decide) o.1 o.2 (fun hc => ?_) (fun hc => ?_)
  · have h := ha hc
    exact AW.vret (st := []) (pc := 41) dX5_split_41 rfl ⟨rfl, h⟩
  · have h := hb hc
    refine AW.aload_n (pc := 16) (x := 49) dX5_split_16 rfl ?_
    refine AW.iload (pc := 17) (x := v4) dX5_split_17 rfl ?_
    refine AW.aload_n (pc := 19) (x := 22) dX5_split_19 rfl ?_
    refine AW.getR (pc := 20) (h2 := 25) dX5_split_20 fg_X5_18 kd_22 hl_22 rfl ?_
    refine AW.aload_n (pc := 23) (x := 22) dX5_split_23 rfl ?_
    refine AW.getR (pc := 24) (h2 := 12) dX5_split_24 fg_X5_27 kd_22 hl_22 rfl ?_
    refine AW.iload_n (pc := 27) (x := v1) dX5_split_27 rfl ?_
    refine AW.iload (pc := 28) (x := v4) dX5_split_28 rfl ?_
    refine AW.callV (pc := 30) (As := [vI v1, vI v4]) (st := [vR 25, vI v4, vR 49]) dX5_split_30 cl_X5_74 kd_12 hl_12 ⟨Nat.le_of_ble_eq_true rfl, Nat.le_of_ble_eq_true rfl⟩ (Nat.le_of_ble_eq_true rfl) (Nat.le_of_ble_eq_true rfl) h ?_
    rintro _ M30 ⟨r30, rfl, h⟩
    show AW mX5_split 33 [some (vR 22), some (vI v1), some (vI v2), some (vR 49), some (vI v4)] [vI r30, vR 25, vI v4, vR 49] M30 (QV K)
    obtain ⟨o, h⟩ := h
    refine AW.iald (pc := 33) dX5_split_33 kd_25 hl_25 o ?_
    obtain ⟨o, h⟩ := h
    refine AW.iast (pc := 34) dX5_split_34 kd_49 hl_49 o ?_
    refine AW.iinc (pc := 35) (x := v4) (ls2 := [some (vR 22), some (vI v1), some (vI v2), some (vR 49), some (vI (v4 + 1))]) dX5_split_35 rfl (by decide) rfl ?_
    refine AW.goto (pc := 38) (tgt := 3) dX5_split_38 (by decide) ?_
    exact h

set_option maxRecDepth 20000 in
theorem en_X6_await {M : Mem} {K : Mem → Prop} {v1 v2 : Int} 
    (h : InR (M 32 5) ∧ ((M 32 5) ≥ 300 → (K M)) ∧ (¬ ((M 32 5) ≥ 300) → ((0 ≤ (M 32 5) ∧ (M 32 5) < 300) ∧ (0 ≤ (M 32 5) ∧ (M 32 5) < 300) ∧ K (up (up (up M 34 (M 32 5) v1) 35 (M 32 5) v2) 32 5 ((M 32 5) + 1))))) :
    CV mX6_await [vR 32, vI v1, vI v2] M K := by
  show AW mX6_await 0 [some (vR 32), some (vI v1), some (vI v2)] [] M (QV K)
  refine AW.aload_n (pc := 0) (x := 32) dX6_await_0 rfl ?_
  refine AW.getI (pc := 1) dX6_await_1 fg_X6_55 kd_32 hl_32 rfl ?_
  refine AW.sipush (pc := 4) dX6_await_4 (by decide) ?_
  obtain ⟨o, ha, hb⟩ := h
  refine AW.icmp_ge (pc := 7) (tgt := 40) dX6_await_7 (by decide) o (by decide) (fun hc => ?_) (fun hc => ?_)
  · have h := ha hc
    exact AW.vret (st := []) (pc := 40) dX6_await_40 rfl ⟨rfl, h⟩
  · have h := hb hc
    refine AW.aload_n (pc := 10) (x := 32) dX6_await_10 rfl ?_
    refine AW.getR (pc := 11) (h2 := 34) dX6_await_11 fg_X6_15 kd_32 hl_32 rfl ?_
    refine AW.aload_n (pc := 14) (x := 32) dX6_await_14 rfl ?_
    refine AW.getI (pc := 15) dX6_await_15 fg_X6_55 kd_32 hl_32 rfl ?_
    refine AW.iload_n (pc := 18) (x := v1) dX6_await_18 rfl ?_
    obtain ⟨o, h⟩ := h
    refine AW.iast (pc := 19) dX6_await_19 kd_34 hl_34 o ?_
    refine AW.aload_n (pc := 20) (x := 32) dX6_await_20 rfl ?_
    refine AW.getR (pc := 21) (h2 := 35) dX6_await_21 fg_X6_18 kd_32 hl_32 rfl ?_
    refine AW.aload_n (pc := 24) (x := 32) dX6_await_24 rfl ?_
    refine AW.getI (pc := 25) dX6_await_25 fg_X6_55 kd_32 hl_32 rfl ?_
    refine AW.iload_n (pc := 28) (x := v2) dX6_await_28 rfl ?_
    obtain ⟨o, h⟩ := h
    refine AW.iast (pc := 29) dX6_await_29 kd_35 hl_35 o ?_
    refine AW.aload_n (pc := 30) (x := 32) dX6_await_30 rfl ?_
    refine AW.dup (pc := 31) dX6_await_31 rfl ?_
    refine AW.getI (pc := 32) dX6_await_32 fg_X6_55 kd_32 hl_32 rfl ?_
    refine AW.iconst (pc := 35) dX6_await_35 ?_
    refine AW.iadd (pc := 36) dX6_await_36 ?_
    refine AW.put (pc := 37) dX6_await_37 fp_X6_55 kd_32 hl_32 rfl ?_
    exact AW.vret (st := []) (pc := 40) dX6_await_40 rfl ⟨rfl, h⟩

set_option maxRecDepth 20000 in
theorem en_X6_bindToTerm {M : Mem} {K : Int → Mem → Prop} {v1 v2 : Int} 
    (h : CV mX10_begin [vR 37] M (fun M4 => CV mX10_visit [vR 37, vI v2] M4 (fun M12 => CI mX10_hasListed [vR 37, vI v1] M12 (fun r20 M20 => InR r20 ∧ (r20 = 0 → ((0 ≤ v1 ∧ v1 < 100) ∧ K 1 (up M20 16 v1 v2))) ∧ (¬ (r20 = 0) → (K (-8) M20)))))) :
    CI mX6_bindToTerm [vR 32, vI v1, vI v2] M K := by
  show AW mX6_bindToTerm 0 [some (vR 32), some (vI v1), some (vI v2)] [] M (QI K)
  refine AW.aload_n (pc := 0) (x := 32) dX6_bindToTerm_0 rfl ?_
  refine AW.getR (pc := 1) (h2 := 37) dX6_bindToTerm_1 fg_X6_34 kd_32 hl_32 rfl ?_
  refine AW.callV (pc := 4) (As := []) (st := []) dX6_bindToTerm_4 cl_X6_93 kd_37 hl_37 ⟨Nat.le_of_ble_eq_true rfl, Nat.le_of_ble_eq_true rfl⟩ (Nat.le_of_ble_eq_true rfl) (Nat.le_of_ble_eq_true rfl) h ?_
  rintro _ M4 ⟨rfl, h⟩
  show AW mX6_bindToTerm 7 [some (vR 32), some (vI v1), some (vI v2)] [] M4 (QI K)
  refine AW.aload_n (pc := 7) (x := 32) dX6_bindToTerm_7 rfl ?_
  refine AW.getR (pc := 8) (h2 := 37) dX6_bindToTerm_8 fg_X6_34 kd_32 hl_32 rfl ?_
  refine AW.iload_n (pc := 11) (x := v2) dX6_bindToTerm_11 rfl ?_
  refine AW.callV (pc := 12) (As := [vI v2]) (st := []) dX6_bindToTerm_12 cl_X6_96 kd_37 hl_37 ⟨Nat.le_of_ble_eq_true rfl, Nat.le_of_ble_eq_true rfl⟩ (Nat.le_of_ble_eq_true rfl) (Nat.le_of_ble_eq_true rfl) h ?_
  rintro _ M12 ⟨rfl, h⟩
  show AW mX6_bindToTerm 15 [some (vR 32), some (vI v1), some (vI v2)] [] M12 (QI K)
  refine AW.aload_n (pc := 15) (x := 32) dX6_bindToTerm_15 rfl ?_
  refine AW.getR (pc := 16) (h2 := 37) dX6_bindToTerm_16 fg_X6_34 kd_32 hl_32 rfl ?_
  refine AW.iload_n (pc := 19) (x := v1) dX6_bindToTerm_19 rfl ?_
  refine AW.callV (pc := 20) (As := [vI v1]) (st := []) dX6_bindToTerm_20 cl_X6_100 kd_37 hl_37 ⟨Nat.le_of_ble_eq_true rfl, Nat.le_of_ble_eq_true rfl⟩ (Nat.le_of_ble_eq_true rfl) (Nat.le_of_ble_eq_true rfl) h ?_
  rintro _ M20 ⟨r20, rfl, h⟩
  show AW mX6_bindToTerm 23 [some (vR 32), some (vI v1), some (vI v2)] [vI r20] M20 (QI K)
  obtain ⟨o, ha, hb⟩ := h
  refine AW.if_eq (pc := 23) (tgt := 29) dX6_bindToTerm_23 (by decide) o (fun hc => ?_) (fun hc => ?_)
  · have h := ha hc
    refine AW.aload_n (pc := 29) (x := 32) dX6_bindToTerm_29 rfl ?_
    refine AW.getR (pc := 30) (h2 := 12) dX6_bindToTerm_30 fg_X6_25 kd_32 hl_32 rfl ?_
    refine AW.getR (pc := 33) (h2 := 16) dX6_bindToTerm_33 fg_X6_38 kd_12 hl_12 rfl ?_
    refine AW.iload_n (pc := 36) (x := v1) dX6_bindToTerm_36 rfl ?_
    refine AW.iload_n (pc := 37) (x := v2) dX6_bindToTerm_37 rfl ?_
    obtain ⟨o, h⟩ := h
    refine AW.iast (pc := 38) dX6_bindToTerm_38 kd_16 hl_16 o ?_
    refine AW.iconst (pc := 39) dX6_bindToTerm_39 ?_
    exact AW.iret (st := []) (pc := 40) dX6_bindToTerm_40 rfl ⟨_, rfl, h⟩
  · have h := hb hc
    refine AW.bipush (pc := 26) dX6_bindToTerm_26 (by decide) ?_
    exact AW.iret (st := []) (pc := 28) dX6_bindToTerm_28 rfl ⟨_, rfl, h⟩

set_option maxRecDepth 20000 in
theorem en_X6_open {M : Mem} {K : Mem → Prop} {v1 v2 : Int} 
    (h : (0 ≤ ((v1 * 100) + v2) ∧ ((v1 * 100) + v2) ≤ 2147483647) ∧ (0 ≤ ((v1 * 100) + v2) ∧ ((v1 * 100) + v2) ≤ 2147483647) ∧ (0 ≤ (((v1 * 100) + v2) / 64) ∧ (((v1 * 100) + v2) / 64) < 157) ∧ InR8 (Int64.ofInt (M 36 (((v1 * 100) + v2) / 64)) &&& Int64.ofInt (Int64.ofInt 1 <<< ((Int32.ofInt (((v1 * 100) + v2) % 64)).toInt64 &&& 63)).toInt).toInt ∧ ((Int64.ofInt (M 36 (((v1 * 100) + v2) / 64)) &&& Int64.ofInt (Int64.ofInt 1 <<< ((Int32.ofInt (((v1 * 100) + v2) % 64)).toInt64 &&& 63)).toInt).toInt = 0 → ((0 ≤ ((v1 * 100) + v2) ∧ ((v1 * 100) + v2) ≤ 2147483647) ∧ (0 ≤ (((v1 * 100) + v2) / 64) ∧ (((v1 * 100) + v2) / 64) < 157) ∧ (0 ≤ (((v1 * 100) + v2) / 64) ∧ (((v1 * 100) + v2) / 64) < 157) ∧ CI mX0_partTotal [vR 12, vI v1] (up M 36 (((v1 * 100) + v2) / 64) (Int64.ofInt (M 36 (((v1 * 100) + v2) / 64)) ||| Int64.ofInt (Int64.ofInt 1 <<< ((Int32.ofInt (((v1 * 100) + v2) % 64)).toInt64 &&& 63)).toInt).toInt) (fun r52 M52 => AW mX6_open 59 [some (vR 32), some (vI v1), some (vI v2), some (vI ((v1 * 100) + v2)), some (vL (Int64.ofInt 1 <<< ((Int32.ofInt (((v1 * 100) + v2) % 64)).toInt64 &&& 63)).toInt), none, some (vI (r52 - 1))] [] M52 (QV K)))) ∧ (¬ ((Int64.ofInt (M 36 (((v1 * 100) + v2) / 64)) &&& Int64.ofInt (Int64.ofInt 1 <<< ((Int32.ofInt (((v1 * 100) + v2) % 64)).toInt64 &&& 63)).toInt).toInt = 0) → (K M))) :
    CV mX6_open [vR 32, vI v1, vI v2] M K := by
  show AW mX6_open 0 [some (vR 32), some (vI v1), some (vI v2), none, none, none, none] [] M (QV K)
  refine AW.iload_n (pc := 0) (x := v1) dX6_open_0 rfl ?_
  refine AW.bipush (pc := 1) dX6_open_1 (by decide) ?_
  refine AW.imul (pc := 3) dX6_open_3 ?_
  refine AW.iload_n (pc := 4) (x := v2) dX6_open_4 rfl ?_
  refine AW.iadd (pc := 5) dX6_open_5 ?_
  refine AW.istore_n (pc := 6) (ls2 := [some (vR 32), some (vI v1), some (vI v2), some (vI ((v1 * 100) + v2)), none, none, none]) dX6_open_6 (by decide) rfl ?_
  refine AW.lconst (pc := 7) (n := 1) dX6_open_7 (by decide) ?_
  refine AW.iload_n (pc := 8) (x := ((v1 * 100) + v2)) dX6_open_8 rfl ?_
  refine AW.bipush (pc := 9) dX6_open_9 (by decide) ?_
  obtain ⟨o, h⟩ := h
  refine AW.irem (pc := 11) dX6_open_11 o (by decide) ?_
  refine AW.lshl (pc := 12) dX6_open_12 ?_
  refine AW.lstore (pc := 13) (ls2 := [some (vR 32), some (vI v1), some (vI v2), some (vI ((v1 * 100) + v2)), some (vL (Int64.ofInt 1 <<< ((Int32.ofInt (((v1 * 100) + v2) % 64)).toInt64 &&& 63)).toInt), none, none]) dX6_open_13 (by decide) rfl ?_
  refine AW.aload_n (pc := 15) (x := 32) dX6_open_15 rfl ?_
  refine AW.getR (pc := 16) (h2 := 36) dX6_open_16 fg_X6_21 kd_32 hl_32 rfl ?_
  refine AW.iload_n (pc := 19) (x := ((v1 * 100) + v2)) dX6_open_19 rfl ?_
  refine AW.bipush (pc := 20) dX6_open_20 (by decide) ?_
  obtain ⟨o, h⟩ := h
  refine AW.idiv (pc := 22) dX6_open_22 o (by decide) ?_
  obtain ⟨o, h⟩ := h
  refine AW.lald (pc := 23) dX6_open_23 kd_36 hl_36 o ?_
  refine AW.lload (pc := 24) (x := (Int64.ofInt 1 <<< ((Int32.ofInt (((v1 * 100) + v2) % 64)).toInt64 &&& 63)).toInt) dX6_open_24 rfl ?_
  refine AW.land (pc := 26) dX6_open_26 ?_
  refine AW.lconst (pc := 27) (n := 0) dX6_open_27 (by decide) ?_
  obtain ⟨o, h⟩ := h
  refine AW.lcmp (pc := 28) dX6_open_28 o (by decide) ?_
  obtain ⟨ha, hb⟩ := h
  refine AW.if_eq (pc := 29) (tgt := 33) dX6_open_29 (by decide) lcm_in (fun hc => ?_) (fun hc => ?_)
  · have hc := lcm_eq.mp hc
    have h := ha hc
    refine AW.aload_n (pc := 33) (x := 32) dX6_open_33 rfl ?_
    refine AW.getR (pc := 34) (h2 := 36) dX6_open_34 fg_X6_21 kd_32 hl_32 rfl ?_
    refine AW.iload_n (pc := 37) (x := ((v1 * 100) + v2)) dX6_open_37 rfl ?_
    refine AW.bipush (pc := 38) dX6_open_38 (by decide) ?_
    obtain ⟨o, h⟩ := h
    refine AW.idiv (pc := 40) dX6_open_40 o (by decide) ?_
    refine AW.dup2 (pc := 41) dX6_open_41 rfl rfl ?_
    obtain ⟨o, h⟩ := h
    refine AW.lald (pc := 42) dX6_open_42 kd_36 hl_36 o ?_
    refine AW.lload (pc := 43) (x := (Int64.ofInt 1 <<< ((Int32.ofInt (((v1 * 100) + v2) % 64)).toInt64 &&& 63)).toInt) dX6_open_43 rfl ?_
    refine AW.lor (pc := 45) dX6_open_45 ?_
    obtain ⟨o, h⟩ := h
    refine AW.last (pc := 46) dX6_open_46 kd_36 hl_36 o ?_
    refine AW.aload_n (pc := 47) (x := 32) dX6_open_47 rfl ?_
    refine AW.getR (pc := 48) (h2 := 12) dX6_open_48 fg_X6_25 kd_32 hl_32 rfl ?_
    refine AW.iload_n (pc := 51) (x := v1) dX6_open_51 rfl ?_
    refine AW.callV (pc := 52) (As := [vI v1]) (st := []) dX6_open_52 cl_X6_103 kd_12 hl_12 ⟨Nat.le_of_ble_eq_true rfl, Nat.le_of_ble_eq_true rfl⟩ (Nat.le_of_ble_eq_true rfl) (Nat.le_of_ble_eq_true rfl) h ?_
    rintro _ M52 ⟨r52, rfl, h⟩
    show AW mX6_open 55 [some (vR 32), some (vI v1), some (vI v2), some (vI ((v1 * 100) + v2)), some (vL (Int64.ofInt 1 <<< ((Int32.ofInt (((v1 * 100) + v2) % 64)).toInt64 &&& 63)).toInt), none, none] [vI r52] M52 (QV K)
    refine AW.iconst (pc := 55) dX6_open_55 ?_
    refine AW.isub (pc := 56) dX6_open_56 ?_
    refine AW.istore (pc := 57) (ls2 := [some (vR 32), some (vI v1), some (vI v2), some (vI ((v1 * 100) + v2)), some (vL (Int64.ofInt 1 <<< ((Int32.ofInt (((v1 * 100) + v2) % 64)).toInt64 &&& 63)).toInt), none, some (vI (r52 - 1))]) dX6_open_57 (by decide) rfl ?_
    exact h
  · have hc := fun q => hc (lcm_eq.mpr q)
    have h := hb hc
    exact AW.vret (st := []) (pc := 32) dX6_open_32 rfl ⟨rfl, h⟩

set_option maxRecDepth 20000 in
theorem sg_X6_open_59 {M : Mem} {K : Mem → Prop} {v1 v2 v3 v4 v6 : Int} 
    (h : InR v6 ∧ (v6 < 0 → (K M)) ∧ (¬ (v6 < 0) → ((0 ≤ ((v1 * 3) + v6) ∧ ((v1 * 3) + v6) < 300) ∧ (0 ≤ ((v2 * 3) + v6) ∧ ((v2 * 3) + v6) < 300) ∧ CV mX6_await [vR 32, vI (M 15 ((v1 * 3) + v6)), vI (M 15 ((v2 * 3) + v6))] M (fun M93 => AW mX6_open 59 [some (vR 32), some (vI v1), some (vI v2), some (vI v3), some (vL v4), none, some (vI (v6 + (-1)))] [] M93 (QV K))))) :
    AW mX6_open 59 [some (vR 32), some (vI v1), some (vI v2), some (vI v3), some (vL v4), none, some (vI v6)] [] M (QV K) := by
  refine AW.iload (pc := 59) (x := v6) dX6_open_59 rfl ?_
  obtain ⟨o, ha, hb⟩ := h
  refine AW.if_lt (pc := 61) (tgt := 102) dX6_open_61 (by decide) o (fun hc => ?_) (fun hc => ?_)
  · have h := ha hc
    exact AW.vret (st := []) (pc := 102) dX6_open_102 rfl ⟨rfl, h⟩
  · have h := hb hc
    refine AW.aload_n (pc := 64) (x := 32) dX6_open_64 rfl ?_
    refine AW.aload_n (pc := 65) (x := 32) dX6_open_65 rfl ?_
    refine AW.getR (pc := 66) (h2 := 12) dX6_open_66 fg_X6_25 kd_32 hl_32 rfl ?_
    refine AW.getR (pc := 69) (h2 := 15) dX6_open_69 fg_X6_106 kd_12 hl_12 rfl ?_
    refine AW.iload_n (pc := 72) (x := v1) dX6_open_72 rfl ?_
    refine AW.iconst (pc := 73) dX6_open_73 ?_
    refine AW.imul (pc := 74) dX6_open_74 ?_
    refine AW.iload (pc := 75) (x := v6) dX6_open_75 rfl ?_
    refine AW.iadd (pc := 77) dX6_open_77 ?_
    obtain ⟨o, h⟩ := h
    refine AW.iald (pc := 78) dX6_open_78 kd_15 hl_15 o ?_
    refine AW.aload_n (pc := 79) (x := 32) dX6_open_79 rfl ?_
    refine AW.getR (pc := 80) (h2 := 12) dX6_open_80 fg_X6_25 kd_32 hl_32 rfl ?_
    refine AW.getR (pc := 83) (h2 := 15) dX6_open_83 fg_X6_106 kd_12 hl_12 rfl ?_
    refine AW.iload_n (pc := 86) (x := v2) dX6_open_86 rfl ?_
    refine AW.iconst (pc := 87) dX6_open_87 ?_
    refine AW.imul (pc := 88) dX6_open_88 ?_
    refine AW.iload (pc := 89) (x := v6) dX6_open_89 rfl ?_
    refine AW.iadd (pc := 91) dX6_open_91 ?_
    obtain ⟨o, h⟩ := h
    refine AW.iald (pc := 92) dX6_open_92 kd_15 hl_15 o ?_
    refine AW.callV (pc := 93) (As := [vI (M 15 ((v1 * 3) + v6)), vI (M 15 ((v2 * 3) + v6))]) (st := []) dX6_open_93 cl_X6_59 kd_32 hl_32 ⟨Nat.le_of_ble_eq_true rfl, Nat.le_of_ble_eq_true rfl⟩ (Nat.le_of_ble_eq_true rfl) (Nat.le_of_ble_eq_true rfl) h ?_
    rintro _ M93 ⟨rfl, h⟩
    show AW mX6_open 96 [some (vR 32), some (vI v1), some (vI v2), some (vI v3), some (vL v4), none, some (vI v6)] [] M93 (QV K)
    refine AW.iinc (pc := 96) (x := v6) (ls2 := [some (vR 32), some (vI v1), some (vI v2), some (vI v3), some (vL v4), none, some (vI (v6 + (-1)))]) dX6_open_96 rfl (by decide) rfl ?_
    refine AW.goto (pc := 99) (tgt := 59) dX6_open_99 (by decide) ?_
    exact h

