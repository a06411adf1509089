set_option maxRecDepth 20000 in
theorem en_X12_sizeNow {M : Mem} {K : Int → Mem → Prop} {v1 : Int} 
    (h : (0 ≤ v1 ∧ v1 < 100) ∧ InR (M 54 v1) ∧ ((M 54 v1) ≥ 0 → (AW mX12_sizeNow 22 [some (vR 50), some (vI v1), some (vL 1), none, some (vI 1), some (vI 1), some (vI 0), none] [] M (QI K))) ∧ (¬ ((M 54 v1) ≥ 0) → (K (-1) M))) :
    CI mX12_sizeNow [vR 50, vI v1] M K := by
  show AW mX12_sizeNow 0 [some (vR 50), some (vI v1), none, none, none, none, none, none] [] M (QI K)
  refine AW.aload_n (pc := 0) (x := 50) dX12_sizeNow_0 rfl ?_
  refine AW.getR (pc := 1) (h2 := 54) dX12_sizeNow_1 fg_X12_19 kd_50 hl_50 rfl ?_
  refine AW.iload_n (pc := 4) (x := v1) dX12_sizeNow_4 rfl ?_
  obtain ⟨o, h⟩ := h
  refine AW.iald (pc := 5) dX12_sizeNow_5 kd_54 hl_54 o ?_
  obtain ⟨o, ha, hb⟩ := h
  refine AW.if_ge (pc := 6) (tgt := 11) dX12_sizeNow_6 (by decide) o (fun hc => ?_) (fun hc => ?_)
  · have h := ha hc
    refine AW.lconst (pc := 11) (n := 1) dX12_sizeNow_11 (by decide) ?_
    refine AW.lstore_n (pc := 12) (ls2 := [some (vR 50), some (vI v1), some (vL 1), none, none, none, none, none]) dX12_sizeNow_12 (by decide) rfl ?_
    refine AW.iconst (pc := 13) dX12_sizeNow_13 ?_
    refine AW.istore (pc := 14) (ls2 := [some (vR 50), some (vI v1), some (vL 1), none, some (vI 1), none, none, none]) dX12_sizeNow_14 (by decide) rfl ?_
    refine AW.iconst (pc := 16) dX12_sizeNow_16 ?_
    refine AW.istore (pc := 17) (ls2 := [some (vR 50), some (vI v1), some (vL 1), none, some (vI 1), some (vI 1), none, none]) dX12_sizeNow_17 (by decide) rfl ?_
    refine AW.iconst (pc := 19) dX12_sizeNow_19 ?_
    refine AW.istore (pc := 20) (ls2 := [some (vR 50), some (vI v1), some (vL 1), none, some (vI 1), some (vI 1), some (vI 0), none]) dX12_sizeNow_20 (by decide) rfl ?_
    exact h
  · have h := hb hc
    refine AW.iconst (pc := 9) dX12_sizeNow_9 ?_
    exact AW.iret (st := []) (pc := 10) dX12_sizeNow_10 rfl ⟨_, rfl, h⟩

set_option maxRecDepth 20000 in
theorem sg_X12_sizeNow_22 {M : Mem} {K : Int → Mem → Prop} {v1 v2 v4 v5 v6 : Int} 
    (h : CI mX12_manyOf [vR 50, vI v1] M (fun r26 M26 => (InR v6 ∧ InR r26) ∧ (v6 ≥ r26 → (InR v5 ∧ (v5 ≠ 0 → (InR v4 ∧ (v4 = 0 → (K 0 M26)) ∧ (¬ (v4 = 0) → (CI mX12_capped [vL v2] M26 (fun r111 M111 => K r111 M111))))) ∧ (¬ (v5 ≠ 0) → (K (-1) M26)))) ∧ (¬ (v6 ≥ r26) → ((0 ≤ ((3 * v1) + v6) ∧ ((3 * v1) + v6) < 300) ∧ (0 ≤ (M26 56 ((3 * v1) + v6)) ∧ (M26 56 ((3 * v1) + v6)) < 100) ∧ InR v4 ∧ (v4 = 0 → (AW mX12_sizeNow 64 [some (vR 50), some (vI v1), some (vL v2), none, some (vI v4), some (vI v5), some (vI v6), some (vI (M26 75 (M26 56 ((3 * v1) + v6))))] [] M26 (QI K))) ∧ (¬ (v4 = 0) → (InR (M26 75 (M26 56 ((3 * v1) + v6))) ∧ ((M26 75 (M26 56 ((3 * v1) + v6))) = 0 → (AW mX12_sizeNow 64 [some (vR 50), some (vI v1), some (vL v2), none, some (vI v4), some (vI v5), some (vI v6), some (vI (M26 75 (M26 56 ((3 * v1) + v6))))] [] M26 (QI K))) ∧ (¬ ((M26 75 (M26 56 ((3 * v1) + v6))) = 0) → (InR v5 ∧ (v5 = 0 → (AW mX12_sizeNow 81 [some (vR 50), some (vI v1), some (vL v2), none, some (vI 1), some (vI v5), some (vI v6), some (vI (M26 75 (M26 56 ((3 * v1) + v6))))] [] M26 (QI K))) ∧ (¬ (v5 = 0) → (InR (M26 75 (M26 56 ((3 * v1) + v6))) ∧ ((M26 75 (M26 56 ((3 * v1) + v6))) < 0 → (AW mX12_sizeNow 81 [some (vR 50), some (vI v1), some (vL v2), none, some (vI 1), some (vI v5), some (vI v6), some (vI (M26 75 (M26 56 ((3 * v1) + v6))))] [] M26 (QI K))) ∧ (¬ ((M26 75 (M26 56 ((3 * v1) + v6))) < 0) → (InR (M26 75 (M26 56 ((3 * v1) + v6))) ∧ AW mX12_sizeNow 22 [some (vR 50), some (vI v1), some (vL (v2 + (M26 75 (M26 56 ((3 * v1) + v6))))), none, some (vI 1), some (vI 1), some (vI (v6 + 1)), none] [] M26 (QI K))))))))))))) :
    AW mX12_sizeNow 22 [some (vR 50), some (vI v1), some (vL v2), none, some (vI v4), some (vI v5), some (vI v6), none] [] M (QI K) := by
  refine AW.iload (pc := 22) (x := v6) dX12_sizeNow_22 rfl ?_
  refine AW.aload_n (pc := 24) (x := 50) dX12_sizeNow_24 rfl ?_
  refine AW.iload_n (pc := 25) (x := v1) dX12_sizeNow_25 rfl ?_
  refine AW.callV (pc := 26) (As := [vI v1]) (st := [vI v6]) dX12_sizeNow_26 cl_X12_208 kd_50 hl_50 ⟨Nat.le_of_ble_eq_true rfl, Nat.le_of_ble_eq_true rfl⟩ (Nat.le_of_ble_eq_true rfl) (Nat.le_of_ble_eq_true rfl) h ?_
  rintro _ M26 ⟨r26, rfl, h⟩
  show AW mX12_sizeNow 29 [some (vR 50), some (vI v1), some (vL v2), none, some (vI v4), some (vI v5), some (vI v6), none] [vI r26, vI v6] M26 (QI K)
  obtain ⟨o, ha, hb⟩ := h
  refine AW.icmp_ge (pc := 29) (tgt := 96) dX12_sizeNow_29 (by decide) o.1 o.2 (fun hc => ?_) (fun hc => ?_)
  · have h := ha hc
    refine AW.iload (pc := 96) (x := v5) dX12_sizeNow_96 rfl ?_
    obtain ⟨o, ha, hb⟩ := h
    refine AW.if_ne (pc := 98) (tgt := 105) dX12_sizeNow_98 (by decide) o (fun hc => ?_) (fun hc => ?_)
    · have h := ha hc
      refine AW.iload (pc := 105) (x := v4) dX12_sizeNow_105 rfl ?_
      obtain ⟨o, ha, hb⟩ := h
      refine AW.if_eq (pc := 107) (tgt := 117) dX12_sizeNow_107 (by decide) o (fun hc => ?_) (fun hc => ?_)
      · have h := ha hc
        refine AW.iconst (pc := 117) dX12_sizeNow_117 ?_
        exact AW.iret (st := []) (pc := 118) dX12_sizeNow_118 rfl ⟨_, rfl, h⟩
      · have h := hb hc
        refine AW.lload_n (pc := 110) (x := v2) dX12_sizeNow_110 rfl ?_
        refine AW.callS (pc := 111) (As := [vL v2]) (st := []) dX12_sizeNow_111 cl_X12_147 ⟨Nat.le_of_ble_eq_true rfl, Nat.le_of_ble_eq_true rfl⟩ (Nat.le_of_ble_eq_true rfl) (Nat.le_of_ble_eq_true rfl) h ?_
        rintro _ M111 ⟨r111, rfl, h⟩
        show AW mX12_sizeNow 114 [some (vR 50), some (vI v1), some (vL v2), none, some (vI v4), some (vI v5), some (vI v6), none] [vI r111] M111 (QI K)
        refine AW.goto (pc := 114) (tgt := 118) dX12_sizeNow_114 (by decide) ?_
        exact AW.iret (st := []) (pc := 118) dX12_sizeNow_118 rfl ⟨_, rfl, h⟩
    · have h := hb hc
      refine AW.iconst (pc := 101) dX12_sizeNow_101 ?_
      refine AW.goto (pc := 102) (tgt := 118) dX12_sizeNow_102 (by decide) ?_
      exact AW.iret (st := []) (pc := 118) dX12_sizeNow_118 rfl ⟨_, rfl, h⟩
  · have h := hb hc
    refine AW.aload_n (pc := 32) (x := 50) dX12_sizeNow_32 rfl ?_
    refine AW.getR (pc := 33) (h2 := 75) dX12_sizeNow_33 fg_X12_83 kd_50 hl_50 rfl ?_
    refine AW.aload_n (pc := 36) (x := 50) dX12_sizeNow_36 rfl ?_
    refine AW.getR (pc := 37) (h2 := 56) dX12_sizeNow_37 fg_X12_25 kd_50 hl_50 rfl ?_
    refine AW.iconst (pc := 40) dX12_sizeNow_40 ?_
    refine AW.iload_n (pc := 41) (x := v1) dX12_sizeNow_41 rfl ?_
    refine AW.imul (pc := 42) dX12_sizeNow_42 ?_
    refine AW.iload (pc := 43) (x := v6) dX12_sizeNow_43 rfl ?_
    refine AW.iadd (pc := 45) dX12_sizeNow_45 ?_
    obtain ⟨o, h⟩ := h
    refine AW.iald (pc := 46) dX12_sizeNow_46 kd_56 hl_56 o ?_
    obtain ⟨o, h⟩ := h
    refine AW.iald (pc := 47) dX12_sizeNow_47 kd_75 hl_75 o ?_
    refine AW.istore (pc := 48) (ls2 := [some (vR 50), some (vI v1), some (vL v2), none, some (vI v4), some (vI v5), some (vI v6), some (vI (M26 75 (M26 56 ((3 * v1) + v6))))]) dX12_sizeNow_48 (by decide) rfl ?_
    refine AW.iload (pc := 50) (x := v4) dX12_sizeNow_50 rfl ?_
    obtain ⟨o, ha, hb⟩ := h
    refine AW.if_eq (pc := 52) (tgt := 64) dX12_sizeNow_52 (by decide) o (fun hc => ?_) (fun hc => ?_)
    · have h := ha hc
      exact h
    · have h := hb hc
      refine AW.iload (pc := 55) (x := (M26 75 (M26 56 ((3 * v1) + v6)))) dX12_sizeNow_55 rfl ?_
      obtain ⟨o, ha, hb⟩ := h
      refine AW.if_eq (pc := 57) (tgt := 64) dX12_sizeNow_57 (by decide) o (fun hc => ?_) (fun hc => ?_)
      · have h := ha hc
        exact h
      · have h := hb hc
        refine AW.iconst (pc := 60) dX12_sizeNow_60 ?_
        refine AW.goto (pc := 61) (tgt := 65) dX12_sizeNow_61 (by decide) ?_
        refine AW.istore (pc := 65) (ls2 := [some (vR 50), some (vI v1), some (vL v2), none, some (vI 1), some (vI v5), some (vI v6), some (vI (M26 75 (M26 56 ((3 * v1) + v6))))]) dX12_sizeNow_65 (by decide) rfl ?_
        refine AW.iload (pc := 67) (x := v5) dX12_sizeNow_67 rfl ?_
        obtain ⟨o, ha, hb⟩ := h
        refine AW.if_eq (pc := 69) (tgt := 81) dX12_sizeNow_69 (by decide) o (fun hc => ?_) (fun hc => ?_)
        · have h := ha hc
          exact h
        · have h := hb hc
          refine AW.iload (pc := 72) (x := (M26 75 (M26 56 ((3 * v1) + v6)))) dX12_sizeNow_72 rfl ?_
          obtain ⟨o, ha, hb⟩ := h
          refine AW.if_lt (pc := 74) (tgt := 81) dX12_sizeNow_74 (by decide) o (fun hc => ?_) (fun hc => ?_)
          · have h := ha hc
            exact h
          · have h := hb hc
            refine AW.iconst (pc := 77) dX12_sizeNow_77 ?_
            refine AW.goto (pc := 78) (tgt := 82) dX12_sizeNow_78 (by decide) ?_
            refine AW.istore (pc := 82) (ls2 := [some (vR 50), some (vI v1), some (vL v2), none, some (vI 1), some (vI 1), some (vI v6), some (vI (M26 75 (M26 56 ((3 * v1) + v6))))]) dX12_sizeNow_82 (by decide) rfl ?_
            refine AW.lload_n (pc := 84) (x := v2) dX12_sizeNow_84 rfl ?_
            refine AW.iload (pc := 85) (x := (M26 75 (M26 56 ((3 * v1) + v6)))) dX12_sizeNow_85 rfl ?_
            obtain ⟨o, h⟩ := h
            refine AW.i2l (pc := 87) dX12_sizeNow_87 o ?_
            refine AW.ladd (pc := 88) dX12_sizeNow_88 ?_
            refine AW.lstore_n (pc := 89) (ls2 := [some (vR 50), some (vI v1), some (vL (v2 + (M26 75 (M26 56 ((3 * v1) + v6))))), none, some (vI 1), some (vI 1), some (vI v6), some (vI (M26 75 (M26 56 ((3 * v1) + v6))))]) dX12_sizeNow_89 (by decide) rfl ?_
            refine AW.iinc (pc := 90) (x := v6) (ls2 := [some (vR 50), some (vI v1), some (vL (v2 + (M26 75 (M26 56 ((3 * v1) + v6))))), none, some (vI 1), some (vI 1), some (vI (v6 + 1)), some (vI (M26 75 (M26 56 ((3 * v1) + v6))))]) dX12_sizeNow_90 rfl (by decide) rfl ?_
            refine AW.goto (pc := 93) (tgt := 22) dX12_sizeNow_93 (by decide) ?_
            exact AW.weak (ls2 := [some (vR 50), some (vI v1), some (vL (v2 + (M26 75 (M26 56 ((3 * v1) + v6))))), none, some (vI 1), some (vI 1), some (vI (v6 + 1)), none]) (by simp [lsub]) h

set_option maxRecDepth 20000 in
theorem sg_X12_sizeNow_64 {M : Mem} {K : Int → Mem → Prop} {v1 v2 v4 v5 v6 v7 : Int} 
    (h : InR v5 ∧ (v5 = 0 → (AW mX12_sizeNow 81 [some (vR 50), some (vI v1), some (vL v2), none, some (vI 0), some (vI v5), some (vI v6), some (vI v7)] [] M (QI K))) ∧ (¬ (v5 = 0) → (InR v7 ∧ (v7 < 0 → (AW mX12_sizeNow 81 [some (vR 50), some (vI v1), some (vL v2), none, some (vI 0), some (vI v5), some (vI v6), some (vI v7)] [] M (QI K))) ∧ (¬ (v7 < 0) → (InR v7 ∧ AW mX12_sizeNow 22 [some (vR 50), some (vI v1), some (vL (v2 + v7)), none, some (vI 0), some (vI 1), some (vI (v6 + 1)), none] [] M (QI K)))))) :
    AW mX12_sizeNow 64 [some (vR 50), some (vI v1), some (vL v2), none, some (vI v4), some (vI v5), some (vI v6), some (vI v7)] [] M (QI K) := by
  refine AW.iconst (pc := 64) dX12_sizeNow_64 ?_
  refine AW.istore (pc := 65) (ls2 := [some (vR 50), some (vI v1), some (vL v2), none, some (vI 0), some (vI v5), some (vI v6), some (vI v7)]) dX12_sizeNow_65 (by decide) rfl ?_
  refine AW.iload (pc := 67) (x := v5) dX12_sizeNow_67 rfl ?_
  obtain ⟨o, ha, hb⟩ := h
  refine AW.if_eq (pc := 69) (tgt := 81) dX12_sizeNow_69 (by decide) o (fun hc => ?_) (fun hc => ?_)
  · have h := ha hc
    exact h
  · have h := hb hc
    refine AW.iload (pc := 72) (x := v7) dX12_sizeNow_72 rfl ?_
    obtain ⟨o, ha, hb⟩ := h
    refine AW.if_lt (pc := 74) (tgt := 81) dX12_sizeNow_74 (by decide) o (fun hc => ?_) (fun hc => ?_)
    · have h := ha hc
      exact h
    · have h := hb hc
      refine AW.iconst (pc := 77) dX12_sizeNow_77 ?_
      refine AW.goto (pc := 78) (tgt := 82) dX12_sizeNow_78 (by decide) ?_
      refine AW.istore (pc := 82) (ls2 := [some (vR 50), some (vI v1), some (vL v2), none, some (vI 0), some (vI 1), some (vI v6), some (vI v7)]) dX12_sizeNow_82 (by decide) rfl ?_
      refine AW.lload_n (pc := 84) (x := v2) dX12_sizeNow_84 rfl ?_
      refine AW.iload (pc := 85) (x := v7) dX12_sizeNow_85 rfl ?_
      obtain ⟨o, h⟩ := h
      refine AW.i2l (pc := 87) dX12_sizeNow_87 o ?_
      refine AW.ladd (pc := 88) dX12_sizeNow_88 ?_
      refine AW.lstore_n (pc := 89) (ls2 := [some (vR 50), some (vI v1), some (vL (v2 + v7)), none, some (vI 0), some (vI 1), some (vI v6), some (vI v7)]) dX12_sizeNow_89 (by decide) rfl ?_
      refine AW.iinc (pc := 90) (x := v6) (ls2 := [some (vR 50), some (vI v1), some (vL (v2 + v7)), none, some (vI 0), some (vI 1), some (vI (v6 + 1)), some (vI v7)]) dX12_sizeNow_90 rfl (by decide) rfl ?_
      refine AW.goto (pc := 93) (tgt := 22) dX12_sizeNow_93 (by decide) ?_
      exact AW.weak (ls2 := [some (vR 50), some (vI v1), some (vL (v2 + v7)), none, some (vI 0), some (vI 1), some (vI (v6 + 1)), none]) (by simp [lsub]) h

set_option maxRecDepth 20000 in
theorem sg_X12_sizeNow_81 {M : Mem} {K : Int → Mem → Prop} {v1 v2 v4 v5 v6 v7 : Int} 
    (h : InR v7 ∧ AW mX12_sizeNow 22 [some (vR 50), some (vI v1), some (vL (v2 + v7)), none, some (vI v4), some (vI 0), some (vI (v6 + 1)), none] [] M (QI K)) :
    AW mX12_sizeNow 81 [some (vR 50), some (vI v1), some (vL v2), none, some (vI v4), some (vI v5), some (vI v6), some (vI v7)] [] M (QI K) := by
  refine AW.iconst (pc := 81) dX12_sizeNow_81 ?_
  refine AW.istore (pc := 82) (ls2 := [some (vR 50), some (vI v1), some (vL v2), none, some (vI v4), some (vI 0), some (vI v6), some (vI v7)]) dX12_sizeNow_82 (by decide) rfl ?_
  refine AW.lload_n (pc := 84) (x := v2) dX12_sizeNow_84 rfl ?_
  refine AW.iload (pc := 85) (x := v7) dX12_sizeNow_85 rfl ?_
  obtain ⟨o, h⟩ := h
  refine AW.i2l (pc := 87) dX12_sizeNow_87 o ?_
  refine AW.ladd (pc := 88) dX12_sizeNow_88 ?_
  refine AW.lstore_n (pc := 89) (ls2 := [some (vR 50), some (vI v1), some (vL (v2 + v7)), none, some (vI v4), some (vI 0), some (vI v6), some (vI v7)]) dX12_sizeNow_89 (by decide) rfl ?_
  refine AW.iinc (pc := 90) (x := v6) (ls2 := [some (vR 50), some (vI v1), some (vL (v2 + v7)), none, some (vI v4), some (vI 0), some (vI (v6 + 1)), some (vI v7)]) dX12_sizeNow_90 rfl (by decide) rfl ?_
  refine AW.goto (pc := 93) (tgt := 22) dX12_sizeNow_93 (by decide) ?_
  exact AW.weak (ls2 := [some (vR 50), some (vI v1), some (vL (v2 + v7)), none, some (vI v4), some (vI 0), some (vI (v6 + 1)), none]) (by simp [lsub]) h

set_option maxRecDepth 20000 in
theorem en_X12_smallestSize {M : Mem} {K : Int → Mem → Prop} {v1 : Int} 
    (h : CI mX12_isType [vR 50, vI v1] M (fun r2 M2 => InR r2 ∧ (r2 ≠ 0 → (CV mX12_laySmallest [vR 50] M2 (fun M11 => (0 ≤ v1 ∧ v1 < 4) ∧ K (M11 60 v1) M11))) ∧ (¬ (r2 ≠ 0) → (K (-1) M2)))) :
    CI mX12_smallestSize [vR 50, vI v1] M K := by
  show AW mX12_smallestSize 0 [some (vR 50), some (vI v1)] [] M (QI K)
  refine AW.aload_n (pc := 0) (x := 50) dX12_smallestSize_0 rfl ?_
  refine AW.iload_n (pc := 1) (x := v1) dX12_smallestSize_1 rfl ?_
  refine AW.callV (pc := 2) (As := [vI v1]) (st := []) dX12_smallestSize_2 cl_X12_130 kd_50 hl_50 ⟨Nat.le_of_ble_eq_true rfl, Nat.le_of_ble_eq_true rfl⟩ (Nat.le_of_ble_eq_true rfl) (Nat.le_of_ble_eq_true rfl) h ?_
  rintro _ M2 ⟨r2, rfl, h⟩
  show AW mX12_smallestSize 5 [some (vR 50), some (vI v1)] [vI r2] M2 (QI K)
  obtain ⟨o, ha, hb⟩ := h
  refine AW.if_ne (pc := 5) (tgt := 10) dX12_smallestSize_5 (by decide) o (fun hc => ?_) (fun hc => ?_)
  · have h := ha hc
    refine AW.aload_n (pc := 10) (x := 50) dX12_smallestSize_10 rfl ?_
    refine AW.callV (pc := 11) (As := []) (st := []) dX12_smallestSize_11 cl_X12_141 kd_50 hl_50 ⟨Nat.le_of_ble_eq_true rfl, Nat.le_of_ble_eq_true rfl⟩ (Nat.le_of_ble_eq_true rfl) (Nat.le_of_ble_eq_true rfl) h ?_
    rintro _ M11 ⟨rfl, h⟩
    show AW mX12_smallestSize 14 [some (vR 50), some (vI v1)] [] M11 (QI K)
    refine AW.aload_n (pc := 14) (x := 50) dX12_smallestSize_14 rfl ?_
    refine AW.getR (pc := 15) (h2 := 60) dX12_smallestSize_15 fg_X12_37 kd_50 hl_50 rfl ?_
    refine AW.iload_n (pc := 18) (x := v1) dX12_smallestSize_18 rfl ?_
    obtain ⟨o, h⟩ := h
    refine AW.iald (pc := 19) dX12_smallestSize_19 kd_60 hl_60 o ?_
    exact AW.iret (st := []) (pc := 20) dX12_smallestSize_20 rfl ⟨_, rfl, h⟩
  · have h := hb hc
    refine AW.iconst (pc := 8) dX12_smallestSize_8 ?_
    exact AW.iret (st := []) (pc := 9) dX12_smallestSize_9 rfl ⟨_, rfl, h⟩

set_option maxRecDepth 20000 in
theorem en_X12_subject {M : Mem} {K : Int → Mem → Prop} 
    (h : (0 ≤ (M 59 0) ∧ (M 59 0) < 100) ∧ K (M 55 (M 59 0)) M) :
    CI mX12_subject [vR 50] M K := by
  show AW mX12_subject 0 [some (vR 50)] [] M (QI K)
  refine AW.aload_n (pc := 0) (x := 50) dX12_subject_0 rfl ?_
  refine AW.getR (pc := 1) (h2 := 55) dX12_subject_1 fg_X12_22 kd_50 hl_50 rfl ?_
  refine AW.aload_n (pc := 4) (x := 50) dX12_subject_4 rfl ?_
  refine AW.getR (pc := 5) (h2 := 59) dX12_subject_5 fg_X12_34 kd_50 hl_50 rfl ?_
  refine AW.iconst (pc := 8) dX12_subject_8 ?_
  refine AW.iald (pc := 9) dX12_subject_9 kd_59 hl_59 (by decide) ?_
  obtain ⟨o, h⟩ := h
  refine AW.iald (pc := 10) dX12_subject_10 kd_55 hl_55 o ?_
  exact AW.iret (st := []) (pc := 11) dX12_subject_11 rfl ⟨_, rfl, h⟩

set_option maxRecDepth 20000 in
theorem en_X12_term {M : Mem} {K : Int → Mem → Prop} {v1 v2 v3 v4 : Int} 
    (h : CI mX12_isConstructor [vR 50, vI v1] M (fun r2 M2 => InR r2 ∧ (r2 ≠ 0 → (CI mX12_wrongChild [vR 50, vI v1, vI 0, vI v2] M2 (fun r15 M15 => CI mX12_wrongChild [vR 50, vI v1, vI 1, vI v3] M15 (fun r24 M24 => CI mX12_wrongChild [vR 50, vI v1, vI 2, vI v4] M24 (fun r34 M34 => InR r15 ∧ (r15 = (-3) → (K (-3) M34)) ∧ (¬ (r15 = (-3)) → (InR r24 ∧ (r24 = (-3) → (K (-3) M34)) ∧ (¬ (r24 = (-3)) → (InR r34 ∧ (r34 ≠ (-3) → (InR r15 ∧ (r15 ≠ 0 → (K (-5) M34)) ∧ (¬ (r15 ≠ 0) → (InR r24 ∧ (r24 ≠ 0 → (K (-5) M34)) ∧ (¬ (r24 ≠ 0) → (InR r34 ∧ (r34 = 0 → (InR (M34 50 5) ∧ ((M34 50 5) ≠ 100 → ((0 ≤ v1 ∧ v1 < 12) ∧ CI mX12_addNode [vR 50, vI v1, vI (M34 51 v1), vI v2, vI v3, vI v4] M34 (fun r107 M107 => K r107 M107))) ∧ (¬ ((M34 50 5) ≠ 100) → (K (-6) M34)))) ∧ (¬ (r34 = 0) → (K (-5) M34)))))))) ∧ (¬ (r34 ≠ (-3)) → (K (-3) M34))))))))))) ∧ (¬ (r2 ≠ 0) → (K (-2) M2)))) :
    CI mX12_term [vR 50, vI v1, vI v2, vI v3, vI v4] M K := by
  show AW mX12_term 0 [some (vR 50), some (vI v1), some (vI v2), some (vI v3), some (vI v4), none, none, none] [] M (QI K)
  refine AW.aload_n (pc := 0) (x := 50) dX12_term_0 rfl ?_
  refine AW.iload_n (pc := 1) (x := v1) dX12_term_1 rfl ?_
  refine AW.callV (pc := 2) (As := [vI v1]) (st := []) dX12_term_2 cl_X12_134 kd_50 hl_50 ⟨Nat.le_of_ble_eq_true rfl, Nat.le_of_ble_eq_true rfl⟩ (Nat.le_of_ble_eq_true rfl) (Nat.le_of_ble_eq_true rfl) h ?_
  rintro _ M2 ⟨r2, rfl, h⟩
  show AW mX12_term 5 [some (vR 50), some (vI v1), some (vI v2), some (vI v3), some (vI v4), none, none, none] [vI r2] M2 (QI K)
  obtain ⟨o, ha, hb⟩ := h
  refine AW.if_ne (pc := 5) (tgt := 11) dX12_term_5 (by decide) o (fun hc => ?_) (fun hc => ?_)
  · have h := ha hc
    refine AW.aload_n (pc := 11) (x := 50) dX12_term_11 rfl ?_
    refine AW.iload_n (pc := 12) (x := v1) dX12_term_12 rfl ?_
    refine AW.iconst (pc := 13) dX12_term_13 ?_
    refine AW.iload_n (pc := 14) (x := v2) dX12_term_14 rfl ?_
    refine AW.callV (pc := 15) (As := [vI v1, vI 0, vI v2]) (st := []) dX12_term_15 cl_X12_202 kd_50 hl_50 ⟨Nat.le_of_ble_eq_true rfl, Nat.le_of_ble_eq_true rfl⟩ (Nat.le_of_ble_eq_true rfl) (Nat.le_of_ble_eq_true rfl) h ?_
    rintro _ M15 ⟨r15, rfl, h⟩
    show AW mX12_term 18 [some (vR 50), some (vI v1), some (vI v2), some (vI v3), some (vI v4), none, none, none] [vI r15] M15 (QI K)
    refine AW.istore (pc := 18) (ls2 := [some (vR 50), some (vI v1), some (vI v2), some (vI v3), some (vI v4), some (vI r15), none, none]) dX12_term_18 (by decide) rfl ?_
    refine AW.aload_n (pc := 20) (x := 50) dX12_term_20 rfl ?_
    refine AW.iload_n (pc := 21) (x := v1) dX12_term_21 rfl ?_
    refine AW.iconst (pc := 22) dX12_term_22 ?_
    refine AW.iload_n (pc := 23) (x := v3) dX12_term_23 rfl ?_
    refine AW.callV (pc := 24) (As := [vI v1, vI 1, vI v3]) (st := []) dX12_term_24 cl_X12_202 kd_50 hl_50 ⟨Nat.le_of_ble_eq_true rfl, Nat.le_of_ble_eq_true rfl⟩ (Nat.le_of_ble_eq_true rfl) (Nat.le_of_ble_eq_true rfl) h ?_
    rintro _ M24 ⟨r24, rfl, h⟩
    show AW mX12_term 27 [some (vR 50), some (vI v1), some (vI v2), some (vI v3), some (vI v4), some (vI r15), none, none] [vI r24] M24 (QI K)
    refine AW.istore (pc := 27) (ls2 := [some (vR 50), some (vI v1), some (vI v2), some (vI v3), some (vI v4), some (vI r15), some (vI r24), none]) dX12_term_27 (by decide) rfl ?_
    refine AW.aload_n (pc := 29) (x := 50) dX12_term_29 rfl ?_
    refine AW.iload_n (pc := 30) (x := v1) dX12_term_30 rfl ?_
    refine AW.iconst (pc := 31) dX12_term_31 ?_
    refine AW.iload (pc := 32) (x := v4) dX12_term_32 rfl ?_
    refine AW.callV (pc := 34) (As := [vI v1, vI 2, vI v4]) (st := []) dX12_term_34 cl_X12_202 kd_50 hl_50 ⟨Nat.le_of_ble_eq_true rfl, Nat.le_of_ble_eq_true rfl⟩ (Nat.le_of_ble_eq_true rfl) (Nat.le_of_ble_eq_true rfl) h ?_
    rintro _ M34 ⟨r34, rfl, h⟩
    show AW mX12_term 37 [some (vR 50), some (vI v1), some (vI v2), some (vI v3), some (vI v4), some (vI r15), some (vI r24), none] [vI r34] M34 (QI K)
    refine AW.istore (pc := 37) (ls2 := [some (vR 50), some (vI v1), some (vI v2), some (vI v3), some (vI v4), some (vI r15), some (vI r24), some (vI r34)]) dX12_term_37 (by decide) rfl ?_
    refine AW.iload (pc := 39) (x := r15) dX12_term_39 rfl ?_
    refine AW.bipush (pc := 41) dX12_term_41 (by decide) ?_
    obtain ⟨o, ha, hb⟩ := h
    refine AW.icmp_eq (pc := 43) (tgt := 60) dX12_term_43 (by decide) o (by decide) (fun hc => ?_) (fun hc => ?_)
    · have h := ha hc
      refine AW.bipush (pc := 60) dX12_term_60 (by decide) ?_
      exact AW.iret (st := []) (pc := 62) dX12_term_62 rfl ⟨_, rfl, h⟩
    · have h := hb hc
      refine AW.iload (pc := 46) (x := r24) dX12_term_46 rfl ?_
      refine AW.bipush (pc := 48) dX12_term_48 (by decide) ?_
      obtain ⟨o, ha, hb⟩ := h
      refine AW.icmp_eq (pc := 50) (tgt := 60) dX12_term_50 (by decide) o (by decide) (fun hc => ?_) (fun hc => ?_)
      · have h := ha hc
        refine AW.bipush (pc := 60) dX12_term_60 (by decide) ?_
        exact AW.iret (st := []) (pc := 62) dX12_term_62 rfl ⟨_, rfl, h⟩
      · have h := hb hc
        refine AW.iload (pc := 53) (x := r34) dX12_term_53 rfl ?_
        refine AW.bipush (pc := 55) dX12_term_55 (by decide) ?_
        obtain ⟨o, ha, hb⟩ := h
        refine AW.icmp_ne (pc := 57) (tgt := 63) dX12_term_57 (by decide) o (by decide) (fun hc => ?_) (fun hc => ?_)
        · have h := ha hc
          refine AW.iload (pc := 63) (x := r15) dX12_term_63 rfl ?_
          obtain ⟨o, ha, hb⟩ := h
          refine AW.if_ne (pc := 65) (tgt := 78) dX12_term_65 (by decide) o (fun hc => ?_) (fun hc => ?_)
          · have h := ha hc
            refine AW.bipush (pc := 78) dX12_term_78 (by decide) ?_
            exact AW.iret (st := []) (pc := 80) dX12_term_80 rfl ⟨_, rfl, h⟩
          · have h := hb hc
            refine AW.iload (pc := 68) (x := r24) dX12_term_68 rfl ?_
            obtain ⟨o, ha, hb⟩ := h
            refine AW.if_ne (pc := 70) (tgt := 78) dX12_term_70 (by decide) o (fun hc => ?_) (fun hc => ?_)
            · have h := ha hc
              refine AW.bipush (pc := 78) dX12_term_78 (by decide) ?_
              exact AW.iret (st := []) (pc := 80) dX12_term_80 rfl ⟨_, rfl, h⟩
            · have h := hb hc
              refine AW.iload (pc := 73) (x := r34) dX12_term_73 rfl ?_
              obtain ⟨o, ha, hb⟩ := h
              refine AW.if_eq (pc := 75) (tgt := 81) dX12_term_75 (by decide) o (fun hc => ?_) (fun hc => ?_)
              · have h := ha hc
                refine AW.aload_n (pc := 81) (x := 50) dX12_term_81 rfl ?_
                refine AW.getI (pc := 82) dX12_term_82 fg_X12_124 kd_50 hl_50 rfl ?_
                refine AW.bipush (pc := 85) dX12_term_85 (by decide) ?_
                obtain ⟨o, ha, hb⟩ := h
                refine AW.icmp_ne (pc := 87) (tgt := 95) dX12_term_87 (by decide) o (by decide) (fun hc => ?_) (fun hc => ?_)
                · have h := ha hc
                  refine AW.aload_n (pc := 95) (x := 50) dX12_term_95 rfl ?_
                  refine AW.iload_n (pc := 96) (x := v1) dX12_term_96 rfl ?_
                  refine AW.aload_n (pc := 97) (x := 50) dX12_term_97 rfl ?_
                  refine AW.getR (pc := 98) (h2 := 51) dX12_term_98 fg_X12_7 kd_50 hl_50 rfl ?_
                  refine AW.iload_n (pc := 101) (x := v1) dX12_term_101 rfl ?_
                  obtain ⟨o, h⟩ := h
                  refine AW.iald (pc := 102) dX12_term_102 kd_51 hl_51 o ?_
                  refine AW.iload_n (pc := 103) (x := v2) dX12_term_103 rfl ?_
                  refine AW.iload_n (pc := 104) (x := v3) dX12_term_104 rfl ?_
                  refine AW.iload (pc := 105) (x := v4) dX12_term_105 rfl ?_
                  refine AW.callV (pc := 107) (As := [vI v1, vI (M34 51 v1), vI v2, vI v3, vI v4]) (st := []) dX12_term_107 cl_X12_189 kd_50 hl_50 ⟨Nat.le_of_ble_eq_true rfl, Nat.le_of_ble_eq_true rfl⟩ (Nat.le_of_ble_eq_true rfl) (Nat.le_of_ble_eq_true rfl) h ?_
                  rintro _ M107 ⟨r107, rfl, h⟩
                  show AW mX12_term 110 [some (vR 50), some (vI v1), some (vI v2), some (vI v3), some (vI v4), some (vI r15), some (vI r24), some (vI r34)] [vI r107] M107 (QI K)
                  exact AW.iret (st := []) (pc := 110) dX12_term_110 rfl ⟨_, rfl, h⟩
                · have h := hb hc
                  refine AW.bipush (pc := 90) dX12_term_90 (by decide) ?_
                  refine AW.goto (pc := 92) (tgt := 110) dX12_term_92 (by decide) ?_
                  exact AW.iret (st := []) (pc := 110) dX12_term_110 rfl ⟨_, rfl, h⟩
              · have h := hb hc
                refine AW.bipush (pc := 78) dX12_term_78 (by decide) ?_
                exact AW.iret (st := []) (pc := 80) dX12_term_80 rfl ⟨_, rfl, h⟩
        · have h := hb hc
          refine AW.bipush (pc := 60) dX12_term_60 (by decide) ?_
          exact AW.iret (st := []) (pc := 62) dX12_term_62 rfl ⟨_, rfl, h⟩
  · have h := hb hc
    refine AW.bipush (pc := 8) dX12_term_8 (by decide) ?_
    exact AW.iret (st := []) (pc := 10) dX12_term_10 rfl ⟨_, rfl, h⟩

set_option maxRecDepth 20000 in
theorem en_X12_unbindAll {M : Mem} {K : Int → Mem → Prop} 
    (h : CI mX12_boundCount [vR 50] M (fun r1 M1 => AW mX12_unbindAll 7 [some (vR 50), some (vI r1), some (vI 0)] [] M1 (QI K))) :
    CI mX12_unbindAll [vR 50] M K := by
  show AW mX12_unbindAll 0 [some (vR 50), none, none] [] M (QI K)
  refine AW.aload_n (pc := 0) (x := 50) dX12_unbindAll_0 rfl ?_
  refine AW.callV (pc := 1) (As := []) (st := []) dX12_unbindAll_1 cl_X12_245 kd_50 hl_50 ⟨Nat.le_of_ble_eq_true rfl, Nat.le_of_ble_eq_true rfl⟩ (Nat.le_of_ble_eq_true rfl) (Nat.le_of_ble_eq_true rfl) h ?_
  rintro _ M1 ⟨r1, rfl, h⟩
  show AW mX12_unbindAll 4 [some (vR 50), none, none] [vI r1] M1 (QI K)
  refine AW.istore_n (pc := 4) (ls2 := [some (vR 50), some (vI r1), none]) dX12_unbindAll_4 (by decide) rfl ?_
  refine AW.iconst (pc := 5) dX12_unbindAll_5 ?_
  refine AW.istore_n (pc := 6) (ls2 := [some (vR 50), some (vI r1), some (vI 0)]) dX12_unbindAll_6 (by decide) rfl ?_
  exact h

set_option maxRecDepth 20000 in
theorem sg_X12_unbindAll_7 {M : Mem} {K : Int → Mem → Prop} {v1 v2 : Int} 
    (h : (InR v2 ∧ InR (M 50 5)) ∧ (v2 ≥ (M 50 5) → (K v1 M)) ∧ (¬ (v2 ≥ (M 50 5)) → ((0 ≤ v2 ∧ v2 < 100) ∧ AW mX12_unbindAll 7 [some (vR 50), some (vI v1), some (vI (v2 + 1))] [] (up M 57 v2 (-13)) (QI K)))) :
    AW mX12_unbindAll 7 [some (vR 50), some (vI v1), some (vI v2)] [] M (QI K) := by
  refine AW.iload_n (pc := 7) (x := v2) dX12_unbindAll_7 rfl ?_
  refine AW.aload_n (pc := 8) (x := 50) dX12_unbindAll_8 rfl ?_
  refine AW.getI (pc := 9) dX12_unbindAll_9 fg_X12_124 kd_50 hl_50 rfl ?_
  obtain ⟨o, ha, hb⟩ := h
  refine AW.icmp_ge (pc := 12) (tgt := 29) dX12_unbindAll_12 (by decide) o.1 o.2 (fun hc => ?_) (fun hc => ?_)
  · have h := ha hc
    refine AW.iload_n (pc := 29) (x := v1) dX12_unbindAll_29 rfl ?_
    exact AW.iret (st := []) (pc := 30) dX12_unbindAll_30 rfl ⟨_, rfl, h⟩
  · have h := hb hc
    refine AW.aload_n (pc := 15) (x := 50) dX12_unbindAll_15 rfl ?_
    refine AW.getR (pc := 16) (h2 := 57) dX12_unbindAll_16 fg_X12_28 kd_50 hl_50 rfl ?_
    refine AW.iload_n (pc := 19) (x := v2) dX12_unbindAll_19 rfl ?_
    refine AW.bipush (pc := 20) dX12_unbindAll_20 (by decide) ?_
    obtain ⟨o, h⟩ := h
    refine AW.iast (pc := 22) dX12_unbindAll_22 kd_57 hl_57 o ?_
    refine AW.iinc (pc := 23) (x := v2) (ls2 := [some (vR 50), some (vI v1), some (vI (v2 + 1))]) dX12_unbindAll_23 rfl (by decide) rfl ?_
    refine AW.goto (pc := 26) (tgt := 7) dX12_unbindAll_26 (by decide) ?_
    exact h

set_option maxRecDepth 20000 in
theorem en_X12_uncovered {M : Mem} {K : Int → Mem → Prop} {v1 : Int} 
    (h : InR (M 50 13) ∧ ((M 50 13) ≠ 0 → (CI mX12_in [vI v1, vI 1, vI 8] M (fun r14 M14 => InR r14 ∧ (r14 ≠ 0 → (CV mX12_layCounts [vR 50] M14 (fun M24 => CI mX12_subject [vR 50] M24 (fun r29 M29 => CI mX12_countOf [vR 50, vI r29, vI v1] M29 (fun r33 M33 => InR r33 ∧ (r33 ≤ 2000 → (CI mX12_countMatched [vR 50, vI (-13), vI v1] M33 (fun r51 M51 => K r51 M51))) ∧ (¬ (r33 ≤ 2000) → (K (-10) M33))))))) ∧ (¬ (r14 ≠ 0) → (K (-4) M14))))) ∧ (¬ ((M 50 13) ≠ 0) → (K (-11) M))) :
    CI mX12_uncovered [vR 50, vI v1] M K := by
  show AW mX12_uncovered 0 [some (vR 50), some (vI v1)] [] M (QI K)
  refine AW.aload_n (pc := 0) (x := 50) dX12_uncovered_0 rfl ?_
  refine AW.getI (pc := 1) dX12_uncovered_1 fg_X12_251 kd_50 hl_50 rfl ?_
  obtain ⟨o, ha, hb⟩ := h
  refine AW.if_ne (pc := 4) (tgt := 10) dX12_uncovered_4 (by decide) o (fun hc => ?_) (fun hc => ?_)
  · have h := ha hc
    refine AW.iload_n (pc := 10) (x := v1) dX12_uncovered_10 rfl ?_
    refine AW.iconst (pc := 11) dX12_uncovered_11 ?_
    refine AW.bipush (pc := 12) dX12_uncovered_12 (by decide) ?_
    refine AW.callS (pc := 14) (As := [vI v1, vI 1, vI 8]) (st := []) dX12_uncovered_14 cl_X12_117 ⟨Nat.le_of_ble_eq_true rfl, Nat.le_of_ble_eq_true rfl⟩ (Nat.le_of_ble_eq_true rfl) (Nat.le_of_ble_eq_true rfl) h ?_
    rintro _ M14 ⟨r14, rfl, h⟩
    show AW mX12_uncovered 17 [some (vR 50), some (vI v1)] [vI r14] M14 (QI K)
    obtain ⟨o, ha, hb⟩ := h
    refine AW.if_ne (pc := 17) (tgt := 23) dX12_uncovered_17 (by decide) o (fun hc => ?_) (fun hc => ?_)
    · have h := ha hc
      refine AW.aload_n (pc := 23) (x := 50) dX12_uncovered_23 rfl ?_
      refine AW.callV (pc := 24) (As := []) (st := []) dX12_uncovered_24 cl_X12_172 kd_50 hl_50 ⟨Nat.le_of_ble_eq_true rfl, Nat.le_of_ble_eq_true rfl⟩ (Nat.le_of_ble_eq_true rfl) (Nat.le_of_ble_eq_true rfl) h ?_
      rintro _ M24 ⟨rfl, h⟩
      show AW mX12_uncovered 27 [some (vR 50), some (vI v1)] [] M24 (QI K)
      refine AW.aload_n (pc := 27) (x := 50) dX12_uncovered_27 rfl ?_
      refine AW.aload_n (pc := 28) (x := 50) dX12_uncovered_28 rfl ?_
      refine AW.callV (pc := 29) (As := []) (st := [vR 50]) dX12_uncovered_29 cl_X12_267 kd_50 hl_50 ⟨Nat.le_of_ble_eq_true rfl, Nat.le_of_ble_eq_true rfl⟩ (Nat.le_of_ble_eq_true rfl) (Nat.le_of_ble_eq_true rfl) h ?_
      rintro _ M29 ⟨r29, rfl, h⟩
      show AW mX12_uncovered 32 [some (vR 50), some (vI v1)] [vI r29, vR 50] M29 (QI K)
      refine AW.iload_n (pc := 32) (x := v1) dX12_uncovered_32 rfl ?_
      refine AW.callV (pc := 33) (As := [vI r29, vI v1]) (st := []) dX12_uncovered_33 cl_X12_164 kd_50 hl_50 ⟨Nat.le_of_ble_eq_true rfl, Nat.le_of_ble_eq_true rfl⟩ (Nat.le_of_ble_eq_true rfl) (Nat.le_of_ble_eq_true rfl) h ?_
      rintro _ M33 ⟨r33, rfl, h⟩
      show AW mX12_uncovered 36 [some (vR 50), some (vI v1)] [vI r33] M33 (QI K)
      refine AW.sipush (pc := 36) dX12_uncovered_36 (by decide) ?_
      obtain ⟨o, ha, hb⟩ := h
      refine AW.icmp_le (pc := 39) (tgt := 47) dX12_uncovered_39 (by decide) o (by decide) (fun hc => ?_) (fun hc => ?_)
      · have h := ha hc
        refine AW.aload_n (pc := 47) (x := 50) dX12_uncovered_47 rfl ?_
        refine AW.bipush (pc := 48) dX12_uncovered_48 (by decide) ?_
        refine AW.iload_n (pc := 50) (x := v1) dX12_uncovered_50 rfl ?_
        refine AW.callV (pc := 51) (As := [vI (-13), vI v1]) (st := []) dX12_uncovered_51 cl_X12_270 kd_50 hl_50 ⟨Nat.le_of_ble_eq_true rfl, Nat.le_of_ble_eq_true rfl⟩ (Nat.le_of_ble_eq_true rfl) (Nat.le_of_ble_eq_true rfl) h ?_
        rintro _ M51 ⟨r51, rfl, h⟩
        show AW mX12_uncovered 54 [some (vR 50), some (vI v1)] [vI r51] M51 (QI K)
        exact AW.iret (st := []) (pc := 54) dX12_uncovered_54 rfl ⟨_, rfl, h⟩
      · have h := hb hc
        refine AW.bipush (pc := 42) dX12_uncovered_42 (by decide) ?_
        refine AW.goto (pc := 44) (tgt := 54) dX12_uncovered_44 (by decide) ?_
        exact AW.iret (st := []) (pc := 54) dX12_uncovered_54 rfl ⟨_, rfl, h⟩
    · have h := hb hc
      refine AW.bipush (pc := 20) dX12_uncovered_20 (by decide) ?_
      exact AW.iret (st := []) (pc := 22) dX12_uncovered_22 rfl ⟨_, rfl, h⟩
  · have h := hb hc
    refine AW.bipush (pc := 7) dX12_uncovered_7 (by decide) ?_
    exact AW.iret (st := []) (pc := 9) dX12_uncovered_9 rfl ⟨_, rfl, h⟩

set_option maxRecDepth 20000 in
theorem en_X12_unify {M : Mem} {K : Int → Mem → Prop} {v1 v2 : Int} 
    (h : CI mX12_isNode [vR 50, vI v1] M (fun r2 M2 => InR r2 ∧ (r2 = 0 → (K (-3) M2)) ∧ (¬ (r2 = 0) → (CI mX12_isNode [vR 50, vI v2] M2 (fun r10 M10 => InR r10 ∧ (r10 ≠ 0 → ((0 ≤ v1 ∧ v1 < 100) ∧ (0 ≤ v2 ∧ v2 < 100) ∧ (InR (M10 55 v1) ∧ InR (M10 55 v2)) ∧ ((M10 55 v1) = (M10 55 v2) → (CV mX12_beginPairs [vR 50, vI v1, vI v2] M10 (fun M40 => AW mX12_unify 48 [some (vR 50), some (vI v1), some (vI v2), none, none, none, none] [] (up M40 50 37 0) (QI K)))) ∧ (¬ ((M10 55 v1) = (M10 55 v2)) → (K (-5) M10)))) ∧ (¬ (r10 ≠ 0) → (K (-3) M10))))))) :
    CI mX12_unify [vR 50, vI v1, vI v2] M K := by
  show AW mX12_unify 0 [some (vR 50), some (vI v1), some (vI v2), none, none, none, none] [] M (QI K)
  refine AW.aload_n (pc := 0) (x := 50) dX12_unify_0 rfl ?_
  refine AW.iload_n (pc := 1) (x := v1) dX12_unify_1 rfl ?_
  refine AW.callV (pc := 2) (As := [vI v1]) (st := []) dX12_unify_2 cl_X12_199 kd_50 hl_50 ⟨Nat.le_of_ble_eq_true rfl, Nat.le_of_ble_eq_true rfl⟩ (Nat.le_of_ble_eq_true rfl) (Nat.le_of_ble_eq_true rfl) h ?_
  rintro _ M2 ⟨r2, rfl, h⟩
  show AW mX12_unify 5 [some (vR 50), some (vI v1), some (vI v2), none, none, none, none] [vI r2] M2 (QI K)
  obtain ⟨o, ha, hb⟩ := h
  refine AW.if_eq (pc := 5) (tgt := 16) dX12_unify_5 (by decide) o (fun hc => ?_) (fun hc => ?_)
  · have h := ha hc
    refine AW.bipush (pc := 16) dX12_unify_16 (by decide) ?_
    exact AW.iret (st := []) (pc := 18) dX12_unify_18 rfl ⟨_, rfl, h⟩
  · have h := hb hc
    refine AW.aload_n (pc := 8) (x := 50) dX12_unify_8 rfl ?_
    refine AW.iload_n (pc := 9) (x := v2) dX12_unify_9 rfl ?_
    refine AW.callV (pc := 10) (As := [vI v2]) (st := []) dX12_unify_10 cl_X12_199 kd_50 hl_50 ⟨Nat.le_of_ble_eq_true rfl, Nat.le_of_ble_eq_true rfl⟩ (Nat.le_of_ble_eq_true rfl) (Nat.le_of_ble_eq_true rfl) h ?_
    rintro _ M10 ⟨r10, rfl, h⟩
    show AW mX12_unify 13 [some (vR 50), some (vI v1), some (vI v2), none, none, none, none] [vI r10] M10 (QI K)
    obtain ⟨o, ha, hb⟩ := h
    refine AW.if_ne (pc := 13) (tgt := 19) dX12_unify_13 (by decide) o (fun hc => ?_) (fun hc => ?_)
    · have h := ha hc
      refine AW.aload_n (pc := 19) (x := 50) dX12_unify_19 rfl ?_
      refine AW.getR (pc := 20) (h2 := 55) dX12_unify_20 fg_X12_22 kd_50 hl_50 rfl ?_
      refine AW.iload_n (pc := 23) (x := v1) dX12_unify_23 rfl ?_
      obtain ⟨o, h⟩ := h
      refine AW.iald (pc := 24) dX12_unify_24 kd_55 hl_55 o ?_
      refine AW.aload_n (pc := 25) (x := 50) dX12_unify_25 rfl ?_
      refine AW.getR (pc := 26) (h2 := 55) dX12_unify_26 fg_X12_22 kd_50 hl_50 rfl ?_
      refine AW.iload_n (pc := 29) (x := v2) dX12_unify_29 rfl ?_
      obtain ⟨o, h⟩ := h
      refine AW.iald (pc := 30) dX12_unify_30 kd_55 hl_55 o ?_
      obtain ⟨o, ha, hb⟩ := h
      refine AW.icmp_eq (pc := 31) (tgt := 37) dX12_unify_31 (by decide) o.1 o.2 (fun hc => ?_) (fun hc => ?_)
      · have h := ha hc
        refine AW.aload_n (pc := 37) (x := 50) dX12_unify_37 rfl ?_
        refine AW.iload_n (pc := 38) (x := v1) dX12_unify_38 rfl ?_
        refine AW.iload_n (pc := 39) (x := v2) dX12_unify_39 rfl ?_
        refine AW.callV (pc := 40) (As := [vI v1, vI v2]) (st := []) dX12_unify_40 cl_X12_226 kd_50 hl_50 ⟨Nat.le_of_ble_eq_true rfl, Nat.le_of_ble_eq_true rfl⟩ (Nat.le_of_ble_eq_true rfl) (Nat.le_of_ble_eq_true rfl) h ?_
        rintro _ M40 ⟨rfl, h⟩
        show AW mX12_unify 43 [some (vR 50), some (vI v1), some (vI v2), none, none, none, none] [] M40 (QI K)
        refine AW.aload_n (pc := 43) (x := 50) dX12_unify_43 rfl ?_
        refine AW.iconst (pc := 44) dX12_unify_44 ?_
        refine AW.put (pc := 45) dX12_unify_45 fp_X12_232 kd_50 hl_50 rfl ?_
        exact h
      · have h := hb hc
        refine AW.bipush (pc := 34) dX12_unify_34 (by decide) ?_
        exact AW.iret (st := []) (pc := 36) dX12_unify_36 rfl ⟨_, rfl, h⟩
    · have h := hb hc
      refine AW.bipush (pc := 16) dX12_unify_16 (by decide) ?_
      exact AW.iret (st := []) (pc := 18) dX12_unify_18 rfl ⟨_, rfl, h⟩

set_option maxRecDepth 20000 in
theorem sg_X12_unify_48 {M : Mem} {K : Int → Mem → Prop} {v1 v2 : Int} 
    (h : InR (M 50 34) ∧ ((M 50 34) ≤ 0 → (K 1 M)) ∧ (¬ ((M 50 34) ≤ 0) → ((0 ≤ ((M 50 34) - 1) ∧ ((M 50 34) - 1) < 31000) ∧ CI mX12_resolved [vR 50, vI (M 77 ((M 50 34) - 1))] (up M 50 34 ((M 50 34) - 1)) (fun r75 M75 => (0 ≤ (M75 50 34) ∧ (M75 50 34) < 31000) ∧ CI mX12_resolved [vR 50, vI (M75 78 (M75 50 34))] M75 (fun r89 M89 => (InR r75 ∧ InR r89) ∧ (r75 ≠ r89 → (CI mX12_unifyNow [vR 50, vI r75, vI r89] M89 (fun r108 M108 => InR r108 ∧ (r108 = 0 → (AW mX12_unify 48 [some (vR 50), some (vI v1), some (vI v2), none, none, none, none] [] M108 (QI K))) ∧ (¬ (r108 = 0) → (AW mX12_unify 121 [some (vR 50), some (vI v1), some (vI v2), some (vI r75), some (vI r89), some (vI r108), some (vI 0)] [] M108 (QI K)))))) ∧ (¬ (r75 ≠ r89) → (AW mX12_unify 48 [some (vR 50), some (vI v1), some (vI v2), none, none, none, none] [] M89 (QI K)))))))) :
    AW mX12_unify 48 [some (vR 50), some (vI v1), some (vI v2), none, none, none, none] [] M (QI K) := by
  refine AW.aload_n (pc := 48) (x := 50) dX12_unify_48 rfl ?_
  refine AW.getI (pc := 49) dX12_unify_49 fg_X12_223 kd_50 hl_50 rfl ?_
  obtain ⟨o, ha, hb⟩ := h
  refine AW.if_le (pc := 52) (tgt := 156) dX12_unify_52 (by decide) o (fun hc => ?_) (fun hc => ?_)
  · have h := ha hc
    refine AW.iconst (pc := 156) dX12_unify_156 ?_
    exact AW.iret (st := []) (pc := 157) dX12_unify_157 rfl ⟨_, rfl, h⟩
  · have h := hb hc
    refine AW.aload_n (pc := 55) (x := 50) dX12_unify_55 rfl ?_
    refine AW.dup (pc := 56) dX12_unify_56 rfl ?_
    refine AW.getI (pc := 57) dX12_unify_57 fg_X12_223 kd_50 hl_50 rfl ?_
    refine AW.iconst (pc := 60) dX12_unify_60 ?_
    refine AW.isub (pc := 61) dX12_unify_61 ?_
    refine AW.put (pc := 62) dX12_unify_62 fp_X12_223 kd_50 hl_50 rfl ?_
    refine AW.aload_n (pc := 65) (x := 50) dX12_unify_65 rfl ?_
    refine AW.aload_n (pc := 66) (x := 50) dX12_unify_66 rfl ?_
    refine AW.getR (pc := 67) (h2 := 77) dX12_unify_67 fg_X12_89 kd_50 hl_50 rfl ?_
    refine AW.aload_n (pc := 70) (x := 50) dX12_unify_70 rfl ?_
    refine AW.getI (pc := 71) dX12_unify_71 fg_X12_223 kd_50 hl_50 rfl ?_
    obtain ⟨o, h⟩ := h
    refine AW.iald (pc := 74) dX12_unify_74 kd_77 hl_77 o ?_
    refine AW.callV (pc := 75) (As := [vI (M 77 ((M 50 34) - 1))]) (st := []) dX12_unify_75 cl_X12_205 kd_50 hl_50 ⟨Nat.le_of_ble_eq_true rfl, Nat.le_of_ble_eq_true rfl⟩ (Nat.le_of_ble_eq_true rfl) (Nat.le_of_ble_eq_true rfl) h ?_
    rintro _ M75 ⟨r75, rfl, h⟩
    show AW mX12_unify 78 [some (vR 50), some (vI v1), some (vI v2), none, none, none, none] [vI r75] M75 (QI K)
    refine AW.istore_n (pc := 78) (ls2 := [some (vR 50), some (vI v1), some (vI v2), some (vI r75), none, none, none]) dX12_unify_78 (by decide) rfl ?_
    refine AW.aload_n (pc := 79) (x := 50) dX12_unify_79 rfl ?_
    refine AW.aload_n (pc := 80) (x := 50) dX12_unify_80 rfl ?_
    refine AW.getR (pc := 81) (h2 := 78) dX12_unify_81 fg_X12_92 kd_50 hl_50 rfl ?_
    refine AW.aload_n (pc := 84) (x := 50) dX12_unify_84 rfl ?_
    refine AW.getI (pc := 85) dX12_unify_85 fg_X12_223 kd_50 hl_50 rfl ?_
    obtain ⟨o, h⟩ := h
    refine AW.iald (pc := 88) dX12_unify_88 kd_78 hl_78 o ?_
    refine AW.callV (pc := 89) (As := [vI (M75 78 (M75 50 34))]) (st := []) dX12_unify_89 cl_X12_205 kd_50 hl_50 ⟨Nat.le_of_ble_eq_true rfl, Nat.le_of_ble_eq_true rfl⟩ (Nat.le_of_ble_eq_true rfl) (Nat.le_of_ble_eq_true rfl) h ?_
    rintro _ M89 ⟨r89, rfl, h⟩
    show AW mX12_unify 92 [some (vR 50), some (vI v1), some (vI v2), some (vI r75), none, none, none] [vI r89] M89 (QI K)
    refine AW.istore (pc := 92) (ls2 := [some (vR 50), some (vI v1), some (vI v2), some (vI r75), some (vI r89), none, none]) dX12_unify_92 (by decide) rfl ?_
    refine AW.iload_n (pc := 94) (x := r75) dX12_unify_94 rfl ?_
    refine AW.iload (pc := 95) (x := r89) dX12_unify_95 rfl ?_
    obtain ⟨o, ha, hb⟩ := h
    refine AW.icmp_ne (pc := 97) (tgt := 104) dX12_unify_97 (by decide) o.1 o.2 (fun hc => ?_) (fun hc => ?_)
    · have h := ha hc
      refine AW.aload_n (pc := 104) (x := 50) dX12_unify_104 rfl ?_
      refine AW.iload_n (pc := 105) (x := r75) dX12_unify_105 rfl ?_
      refine AW.iload (pc := 106) (x := r89) dX12_unify_106 rfl ?_
      refine AW.callV (pc := 108) (As := [vI r75, vI r89]) (st := []) dX12_unify_108 cl_X12_242 kd_50 hl_50 ⟨Nat.le_of_ble_eq_true rfl, Nat.le_of_ble_eq_true rfl⟩ (Nat.le_of_ble_eq_true rfl) (Nat.le_of_ble_eq_true rfl) h ?_
      rintro _ M108 ⟨r108, rfl, h⟩
      show AW mX12_unify 111 [some (vR 50), some (vI v1), some (vI v2), some (vI r75), some (vI r89), none, none] [vI r108] M108 (QI K)
      refine AW.istore (pc := 111) (ls2 := [some (vR 50), some (vI v1), some (vI v2), some (vI r75), some (vI r89), some (vI r108), none]) dX12_unify_111 (by decide) rfl ?_
      refine AW.iload (pc := 113) (x := r108) dX12_unify_113 rfl ?_
      obtain ⟨o, ha, hb⟩ := h
      refine AW.if_eq (pc := 115) (tgt := 153) dX12_unify_115 (by decide) o (fun hc => ?_) (fun hc => ?_)
      · have h := ha hc
        refine AW.goto (pc := 153) (tgt := 48) dX12_unify_153 (by decide) ?_
        exact AW.weak (ls2 := [some (vR 50), some (vI v1), some (vI v2), none, none, none, none]) (by simp [lsub]) h
      · have h := hb hc
        refine AW.iconst (pc := 118) dX12_unify_118 ?_
        refine AW.istore (pc := 119) (ls2 := [some (vR 50), some (vI v1), some (vI v2), some (vI r75), some (vI r89), some (vI r108), some (vI 0)]) dX12_unify_119 (by decide) rfl ?_
        exact h
    · have h := hb hc
      refine AW.iconst (pc := 100) dX12_unify_100 ?_
      refine AW.goto (pc := 101) (tgt := 111) dX12_unify_101 (by decide) ?_
      refine AW.istore (pc := 111) (ls2 := [some (vR 50), some (vI v1), some (vI v2), some (vI r75), some (vI r89), some (vI 0), none]) dX12_unify_111 (by decide) rfl ?_
      refine AW.iload (pc := 113) (x := 0) dX12_unify_113 rfl ?_
      refine AW.if_eq (pc := 115) (tgt := 153) dX12_unify_115 (by decide) (by decide) (fun _ => ?_) (fun hc => absurd (by decide) hc)
      refine AW.goto (pc := 153) (tgt := 48) dX12_unify_153 (by decide) ?_
      exact AW.weak (ls2 := [some (vR 50), some (vI v1), some (vI v2), none, none, none, none]) (by simp [lsub]) h

set_option maxRecDepth 20000 in
theorem sg_X12_unify_121 {M : Mem} {K : Int → Mem → Prop} {v1 v2 v3 v4 v5 v6 : Int} 
    (h : (InR v6 ∧ InR (M 50 37)) ∧ (v6 ≥ (M 50 37) → (K v5 M)) ∧ (¬ (v6 ≥ (M 50 37)) → ((0 ≤ v6 ∧ v6 < 100) ∧ (0 ≤ (M 80 v6) ∧ (M 80 v6) < 100) ∧ AW mX12_unify 121 [some (vR 50), some (vI v1), some (vI v2), some (vI v3), some (vI v4), some (vI v5), some (vI (v6 + 1))] [] (up M 57 (M 80 v6) (-13)) (QI K)))) :
    AW mX12_unify 121 [some (vR 50), some (vI v1), some (vI v2), some (vI v3), some (vI v4), some (vI v5), some (vI v6)] [] M (QI K) := by
  refine AW.iload (pc := 121) (x := v6) dX12_unify_121 rfl ?_
  refine AW.aload_n (pc := 123) (x := 50) dX12_unify_123 rfl ?_
  refine AW.getI (pc := 124) dX12_unify_124 fg_X12_232 kd_50 hl_50 rfl ?_
  obtain ⟨o, ha, hb⟩ := h
  refine AW.icmp_ge (pc := 127) (tgt := 150) dX12_unify_127 (by decide) o.1 o.2 (fun hc => ?_) (fun hc => ?_)
  · have h := ha hc
    refine AW.iload (pc := 150) (x := v5) dX12_unify_150 rfl ?_
    exact AW.iret (st := []) (pc := 152) dX12_unify_152 rfl ⟨_, rfl, h⟩
  · have h := hb hc
    refine AW.aload_n (pc := 130) (x := 50) dX12_unify_130 rfl ?_
    refine AW.getR (pc := 131) (h2 := 57) dX12_unify_131 fg_X12_28 kd_50 hl_50 rfl ?_
    refine AW.aload_n (pc := 134) (x := 50) dX12_unify_134 rfl ?_
    refine AW.getR (pc := 135) (h2 := 80) dX12_unify_135 fg_X12_98 kd_50 hl_50 rfl ?_
    refine AW.iload (pc := 138) (x := v6) dX12_unify_138 rfl ?_
    obtain ⟨o, h⟩ := h
    refine AW.iald (pc := 140) dX12_unify_140 kd_80 hl_80 o ?_
    refine AW.bipush (pc := 141) dX12_unify_141 (by decide) ?_
    obtain ⟨o, h⟩ := h
    refine AW.iast (pc := 143) dX12_unify_143 kd_57 hl_57 o ?_
    refine AW.iinc (pc := 144) (x := v6) (ls2 := [some (vR 50), some (vI v1), some (vI v2), some (vI v3), some (vI v4), some (vI v5), some (vI (v6 + 1))]) dX12_unify_144 rfl (by decide) rfl ?_
    refine AW.goto (pc := 147) (tgt := 121) dX12_unify_147 (by decide) ?_
    exact h

set_option maxRecDepth 20000 in
theorem en_X12_unifyNow {M : Mem} {K : Int → Mem → Prop} {v1 v2 : Int} 
    (h : (0 ≤ v1 ∧ v1 < 100) ∧ InR (M 54 v1) ∧ ((M 54 v1) ≥ 0 → ((0 ≤ v2 ∧ v2 < 100) ∧ InR (M 54 v2) ∧ ((M 54 v2) ≥ 0 → (AW mX12_unifyNow 66 [some (vR 50), some (vI v1), some (vI v2), some (vI 0), some (vI 0), none, none] [] M (QI K))) ∧ (¬ ((M 54 v2) ≥ 0) → (AW mX12_unifyNow 66 [some (vR 50), some (vI v1), some (vI v2), some (vI 0), some (vI 1), none, none] [] M (QI K))))) ∧ (¬ ((M 54 v1) ≥ 0) → ((0 ≤ v2 ∧ v2 < 100) ∧ InR (M 54 v2) ∧ ((M 54 v2) ≥ 0 → (AW mX12_unifyNow 66 [some (vR 50), some (vI v1), some (vI v2), some (vI 1), some (vI 0), none, none] [] M (QI K))) ∧ (¬ ((M 54 v2) ≥ 0) → ((InR v1 ∧ InR v2) ∧ (v1 ≤ v2 → ((InR v1 ∧ InR v2) ∧ (v1 ≤ v2 → (CV mX12_bind [vR 50, vI v2, vI v1] M (fun M61 => K 0 M61))) ∧ (¬ (v1 ≤ v2) → (CV mX12_bind [vR 50, vI v2, vI v2] M (fun M61 => K 0 M61))))) ∧ (¬ (v1 ≤ v2) → ((InR v1 ∧ InR v2) ∧ (v1 ≤ v2 → (CV mX12_bind [vR 50, vI v1, vI v1] M (fun M61 => K 0 M61))) ∧ (¬ (v1 ≤ v2) → (CV mX12_bind [vR 50, vI v1, vI v2] M (fun M61 => K 0 M61)))))))))) :
    CI mX12_unifyNow [vR 50, vI v1, vI v2] M K := by
  show AW mX12_unifyNow 0 [some (vR 50), some (vI v1), some (vI v2), none, none, none, none] [] M (QI K)
  refine AW.aload_n (pc := 0) (x := 50) dX12_unifyNow_0 rfl ?_
  refine AW.getR (pc := 1) (h2 := 54) dX12_unifyNow_1 fg_X12_19 kd_50 hl_50 rfl ?_
  refine AW.iload_n (pc := 4) (x := v1) dX12_unifyNow_4 rfl ?_
  obtain ⟨o, h⟩ := h
  refine AW.iald (pc := 5) dX12_unifyNow_5 kd_54 hl_54 o ?_
  obtain ⟨o, ha, hb⟩ := h
  refine AW.if_ge (pc := 6) (tgt := 13) dX12_unifyNow_6 (by decide) o (fun hc => ?_) (fun hc => ?_)
  · have h := ha hc
    refine AW.iconst (pc := 13) dX12_unifyNow_13 ?_
    refine AW.istore_n (pc := 14) (ls2 := [some (vR 50), some (vI v1), some (vI v2), some (vI 0), none, none, none]) dX12_unifyNow_14 (by decide) rfl ?_
    refine AW.aload_n (pc := 15) (x := 50) dX12_unifyNow_15 rfl ?_
    refine AW.getR (pc := 16) (h2 := 54) dX12_unifyNow_16 fg_X12_19 kd_50 hl_50 rfl ?_
    refine AW.iload_n (pc := 19) (x := v2) dX12_unifyNow_19 rfl ?_
    obtain ⟨o, h⟩ := h
    refine AW.iald (pc := 20) dX12_unifyNow_20 kd_54 hl_54 o ?_
    obtain ⟨o, ha, hb⟩ := h
    refine AW.if_ge (pc := 21) (tgt := 28) dX12_unifyNow_21 (by decide) o (fun hc => ?_) (fun hc => ?_)
    · have h := ha hc
      refine AW.iconst (pc := 28) dX12_unifyNow_28 ?_
      refine AW.istore (pc := 29) (ls2 := [some (vR 50), some (vI v1), some (vI v2), some (vI 0), some (vI 0), none, none]) dX12_unifyNow_29 (by decide) rfl ?_
      refine AW.iload_n (pc := 31) (x := 0) dX12_unifyNow_31 rfl ?_
      refine AW.if_eq (pc := 32) (tgt := 66) dX12_unifyNow_32 (by decide) (by decide) (fun _ => ?_) (fun hc => absurd (by decide) hc)
      exact h
    · have h := hb hc
      refine AW.iconst (pc := 24) dX12_unifyNow_24 ?_
      refine AW.goto (pc := 25) (tgt := 29) dX12_unifyNow_25 (by decide) ?_
      refine AW.istore (pc := 29) (ls2 := [some (vR 50), some (vI v1), some (vI v2), some (vI 0), some (vI 1), none, none]) dX12_unifyNow_29 (by decide) rfl ?_
      refine AW.iload_n (pc := 31) (x := 0) dX12_unifyNow_31 rfl ?_
      refine AW.if_eq (pc := 32) (tgt := 66) dX12_unifyNow_32 (by decide) (by decide) (fun _ => ?_) (fun hc => absurd (by decide) hc)
      exact h
  · have h := hb hc
    refine AW.iconst (pc := 9) dX12_unifyNow_9 ?_
    refine AW.goto (pc := 10) (tgt := 14) dX12_unifyNow_10 (by decide) ?_
    refine AW.istore_n (pc := 14) (ls2 := [some (vR 50), some (vI v1), some (vI v2), some (vI 1), none, none, none]) dX12_unifyNow_14 (by decide) rfl ?_
    refine AW.aload_n (pc := 15) (x := 50) dX12_unifyNow_15 rfl ?_
    refine AW.getR (pc := 16) (h2 := 54) dX12_unifyNow_16 fg_X12_19 kd_50 hl_50 rfl ?_
    refine AW.iload_n (pc := 19) (x := v2) dX12_unifyNow_19 rfl ?_
    obtain ⟨o, h⟩ := h
    refine AW.iald (pc := 20) dX12_unifyNow_20 kd_54 hl_54 o ?_
    obtain ⟨o, ha, hb⟩ := h
    refine AW.if_ge (pc := 21) (tgt := 28) dX12_unifyNow_21 (by decide) o (fun hc => ?_) (fun hc => ?_)
    · have h := ha hc
      refine AW.iconst (pc := 28) dX12_unifyNow_28 ?_
      refine AW.istore (pc := 29) (ls2 := [some (vR 50), some (vI v1), some (vI v2), some (vI 1), some (vI 0), none, none]) dX12_unifyNow_29 (by decide) rfl ?_
      refine AW.iload_n (pc := 31) (x := 1) dX12_unifyNow_31 rfl ?_
      refine AW.if_eq (pc := 32) (tgt := 66) dX12_unifyNow_32 (by decide) (by decide) (fun hc => absurd hc (by decide)) (fun _ => ?_)
      refine AW.iload (pc := 35) (x := 0) dX12_unifyNow_35 rfl ?_
      refine AW.if_eq (pc := 37) (tgt := 66) dX12_unifyNow_37 (by decide) (by decide) (fun _ => ?_) (fun hc => absurd (by decide) hc)
      exact h
    · have h := hb hc
      refine AW.iconst (pc := 24) dX12_unifyNow_24 ?_
      refine AW.goto (pc := 25) (tgt := 29) dX12_unifyNow_25 (by decide) ?_
      refine AW.istore (pc := 29) (ls2 := [some (vR 50), some (vI v1), some (vI v2), some (vI 1), some (vI 1), none, none]) dX12_unifyNow_29 (by decide) rfl ?_
      refine AW.iload_n (pc := 31) (x := 1) dX12_unifyNow_31 rfl ?_
      refine AW.if_eq (pc := 32) (tgt := 66) dX12_unifyNow_32 (by decide) (by decide) (fun hc => absurd hc (by decide)) (fun _ => ?_)
      refine AW.iload (pc := 35) (x := 1) dX12_unifyNow_35 rfl ?_
      refine AW.if_eq (pc := 37) (tgt := 66) dX12_unifyNow_37 (by decide) (by decide) (fun hc => absurd hc (by decide)) (fun _ => ?_)
      refine AW.aload_n (pc := 40) (x := 50) dX12_unifyNow_40 rfl ?_
      refine AW.iload_n (pc := 41) (x := v1) dX12_unifyNow_41 rfl ?_
      refine AW.iload_n (pc := 42) (x := v2) dX12_unifyNow_42 rfl ?_
      obtain ⟨o, ha, hb⟩ := h
      refine AW.icmp_le (pc := 43) (tgt := 50) dX12_unifyNow_43 (by decide) o.1 o.2 (fun hc => ?_) (fun hc => ?_)
      · have h := ha hc
        refine AW.iload_n (pc := 50) (x := v2) dX12_unifyNow_50 rfl ?_
        refine AW.iload_n (pc := 51) (x := v1) dX12_unifyNow_51 rfl ?_
        refine AW.iload_n (pc := 52) (x := v2) dX12_unifyNow_52 rfl ?_
        obtain ⟨o, ha, hb⟩ := h
        refine AW.icmp_le (pc := 53) (tgt := 60) dX12_unifyNow_53 (by decide) o.1 o.2 (fun hc => ?_) (fun hc => ?_)
        · have h := ha hc
          refine AW.iload_n (pc := 60) (x := v1) dX12_unifyNow_60 rfl ?_
          refine AW.callV (pc := 61) (As := [vI v2, vI v1]) (st := []) dX12_unifyNow_61 cl_X12_235 kd_50 hl_50 ⟨Nat.le_of_ble_eq_true rfl, Nat.le_of_ble_eq_true rfl⟩ (Nat.le_of_ble_eq_true rfl) (Nat.le_of_ble_eq_true rfl) h ?_
          rintro _ M61 ⟨rfl, h⟩
          show AW mX12_unifyNow 64 [some (vR 50), some (vI v1), some (vI v2), some (vI 1), some (vI 1), none, none] [] M61 (QI K)
          refine AW.iconst (pc := 64) dX12_unifyNow_64 ?_
          exact AW.iret (st := []) (pc := 65) dX12_unifyNow_65 rfl ⟨_, rfl, h⟩
        · have h := hb hc
          refine AW.iload_n (pc := 56) (x := v2) dX12_unifyNow_56 rfl ?_
          refine AW.goto (pc := 57) (tgt := 61) dX12_unifyNow_57 (by decide) ?_
          refine AW.callV (pc := 61) (As := [vI v2, vI v2]) (st := []) dX12_unifyNow_61 cl_X12_235 kd_50 hl_50 ⟨Nat.le_of_ble_eq_true rfl, Nat.le_of_ble_eq_true rfl⟩ (Nat.le_of_ble_eq_true rfl) (Nat.le_of_ble_eq_true rfl) h ?_
          rintro _ M61 ⟨rfl, h⟩
          show AW mX12_unifyNow 64 [some (vR 50), some (vI v1), some (vI v2), some (vI 1), some (vI 1), none, none] [] M61 (QI K)
          refine AW.iconst (pc := 64) dX12_unifyNow_64 ?_
          exact AW.iret (st := []) (pc := 65) dX12_unifyNow_65 rfl ⟨_, rfl, h⟩
      · have h := hb hc
        refine AW.iload_n (pc := 46) (x := v1) dX12_unifyNow_46 rfl ?_
        refine AW.goto (pc := 47) (tgt := 51) dX12_unifyNow_47 (by decide) ?_
        refine AW.iload_n (pc := 51) (x := v1) dX12_unifyNow_51 rfl ?_
        refine AW.iload_n (pc := 52) (x := v2) dX12_unifyNow_52 rfl ?_
        obtain ⟨o, ha, hb⟩ := h
        refine AW.icmp_le (pc := 53) (tgt := 60) dX12_unifyNow_53 (by decide) o.1 o.2 (fun hc => ?_) (fun hc => ?_)
        · have h := ha hc
          refine AW.iload_n (pc := 60) (x := v1) dX12_unifyNow_60 rfl ?_
          refine AW.callV (pc := 61) (As := [vI v1, vI v1]) (st := []) dX12_unifyNow_61 cl_X12_235 kd_50 hl_50 ⟨Nat.le_of_ble_eq_true rfl, Nat.le_of_ble_eq_true rfl⟩ (Nat.le_of_ble_eq_true rfl) (Nat.le_of_ble_eq_true rfl) h ?_
          rintro _ M61 ⟨rfl, h⟩
          show AW mX12_unifyNow 64 [some (vR 50), some (vI v1), some (vI v2), some (vI 1), some (vI 1), none, none] [] M61 (QI K)
          refine AW.iconst (pc := 64) dX12_unifyNow_64 ?_
          exact AW.iret (st := []) (pc := 65) dX12_unifyNow_65 rfl ⟨_, rfl, h⟩
        · have h := hb hc
          refine AW.iload_n (pc := 56) (x := v2) dX12_unifyNow_56 rfl ?_
          refine AW.goto (pc := 57) (tgt := 61) dX12_unifyNow_57 (by decide) ?_
          refine AW.callV (pc := 61) (As := [vI v1, vI v2]) (st := []) dX12_unifyNow_61 cl_X12_235 kd_50 hl_50 ⟨Nat.le_of_ble_eq_true rfl, Nat.le_of_ble_eq_true rfl⟩ (Nat.le_of_ble_eq_true rfl) (Nat.le_of_ble_eq_true rfl) h ?_
          rintro _ M61 ⟨rfl, h⟩
          show AW mX12_unifyNow 64 [some (vR 50), some (vI v1), some (vI v2), some (vI 1), some (vI 1), none, none] [] M61 (QI K)
          refine AW.iconst (pc := 64) dX12_unifyNow_64 ?_
          exact AW.iret (st := []) (pc := 65) dX12_unifyNow_65 rfl ⟨_, rfl, h⟩

set_option maxRecDepth 20000 in
theorem sg_X12_unifyNow_66 {M : Mem} {K : Int → Mem → Prop} {v1 v2 v3 v4 : Int} 
    (h : InR v3 ∧ (v3 ≠ 0 → (AW mX12_unifyNow 75 [some (vR 50), some (vI v1), some (vI v2), some (vI v3), some (vI v4), none, none] [] M (QI K))) ∧ (¬ (v3 ≠ 0) → (InR v4 ∧ (v4 = 0 → ((0 ≤ v1 ∧ v1 < 100) ∧ (0 ≤ v2 ∧ v2 < 100) ∧ (InR (M 54 v1) ∧ InR (M 54 v2)) ∧ ((M 54 v1) = (M 54 v2) → ((0 ≤ ((100 * v1) + v2) ∧ ((100 * v1) + v2) < 10000) ∧ InR (M 79 ((100 * v1) + v2)) ∧ ((M 79 ((100 * v1) + v2)) ≠ 0 → (K 0 M)) ∧ (¬ ((M 79 ((100 * v1) + v2)) ≠ 0) → ((0 ≤ ((100 * v1) + v2) ∧ ((100 * v1) + v2) < 10000) ∧ CV mX12_pushChildren [vR 50, vI v1, vI v2] (up M 79 ((100 * v1) + v2) 1) (fun M168 => K 0 M168))))) ∧ (¬ ((M 54 v1) = (M 54 v2)) → (K (-7) M)))) ∧ (¬ (v4 = 0) → (AW mX12_unifyNow 75 [some (vR 50), some (vI v1), some (vI v2), some (vI v3), some (vI v4), none, none] [] M (QI K)))))) :
    AW mX12_unifyNow 66 [some (vR 50), some (vI v1), some (vI v2), some (vI v3), some (vI v4), none, none] [] M (QI K) := by
  refine AW.iload_n (pc := 66) (x := v3) dX12_unifyNow_66 rfl ?_
  obtain ⟨o, ha, hb⟩ := h
  refine AW.if_ne (pc := 67) (tgt := 75) dX12_unifyNow_67 (by decide) o (fun hc => ?_) (fun hc => ?_)
  · have h := ha hc
    exact h
  · have h := hb hc
    refine AW.iload (pc := 70) (x := v4) dX12_unifyNow_70 rfl ?_
    obtain ⟨o, ha, hb⟩ := h
    refine AW.if_eq (pc := 72) (tgt := 121) dX12_unifyNow_72 (by decide) o (fun hc => ?_) (fun hc => ?_)
    · have h := ha hc
      refine AW.aload_n (pc := 121) (x := 50) dX12_unifyNow_121 rfl ?_
      refine AW.getR (pc := 122) (h2 := 54) dX12_unifyNow_122 fg_X12_19 kd_50 hl_50 rfl ?_
      refine AW.iload_n (pc := 125) (x := v1) dX12_unifyNow_125 rfl ?_
      obtain ⟨o, h⟩ := h
      refine AW.iald (pc := 126) dX12_unifyNow_126 kd_54 hl_54 o ?_
      refine AW.aload_n (pc := 127) (x := 50) dX12_unifyNow_127 rfl ?_
      refine AW.getR (pc := 128) (h2 := 54) dX12_unifyNow_128 fg_X12_19 kd_50 hl_50 rfl ?_
      refine AW.iload_n (pc := 131) (x := v2) dX12_unifyNow_131 rfl ?_
      obtain ⟨o, h⟩ := h
      refine AW.iald (pc := 132) dX12_unifyNow_132 kd_54 hl_54 o ?_
      obtain ⟨o, ha, hb⟩ := h
      refine AW.icmp_eq (pc := 133) (tgt := 139) dX12_unifyNow_133 (by decide) o.1 o.2 (fun hc => ?_) (fun hc => ?_)
      · have h := ha hc
        refine AW.aload_n (pc := 139) (x := 50) dX12_unifyNow_139 rfl ?_
        refine AW.getR (pc := 140) (h2 := 79) dX12_unifyNow_140 fg_X12_95 kd_50 hl_50 rfl ?_
        refine AW.bipush (pc := 143) dX12_unifyNow_143 (by decide) ?_
        refine AW.iload_n (pc := 145) (x := v1) dX12_unifyNow_145 rfl ?_
        refine AW.imul (pc := 146) dX12_unifyNow_146 ?_
        refine AW.iload_n (pc := 147) (x := v2) dX12_unifyNow_147 rfl ?_
        refine AW.iadd (pc := 148) dX12_unifyNow_148 ?_
        obtain ⟨o, h⟩ := h
        refine AW.zald (pc := 149) dX12_unifyNow_149 kd_79 hl_79 o ?_
        obtain ⟨o, ha, hb⟩ := h
        refine AW.if_ne (pc := 150) (tgt := 171) dX12_unifyNow_150 (by decide) o (fun hc => ?_) (fun hc => ?_)
        · have h := ha hc
          refine AW.iconst (pc := 171) dX12_unifyNow_171 ?_
          exact AW.iret (st := []) (pc := 172) dX12_unifyNow_172 rfl ⟨_, rfl, h⟩
        · have h := hb hc
          refine AW.aload_n (pc := 153) (x := 50) dX12_unifyNow_153 rfl ?_
          refine AW.getR (pc := 154) (h2 := 79) dX12_unifyNow_154 fg_X12_95 kd_50 hl_50 rfl ?_
          refine AW.bipush (pc := 157) dX12_unifyNow_157 (by decide) ?_
          refine AW.iload_n (pc := 159) (x := v1) dX12_unifyNow_159 rfl ?_
          refine AW.imul (pc := 160) dX12_unifyNow_160 ?_
          refine AW.iload_n (pc := 161) (x := v2) dX12_unifyNow_161 rfl ?_
          refine AW.iadd (pc := 162) dX12_unifyNow_162 ?_
          refine AW.iconst (pc := 163) dX12_unifyNow_163 ?_
          obtain ⟨o, h⟩ := h
          refine AW.zast (pc := 164) dX12_unifyNow_164 kd_79 hl_79 o (by decide) ?_
          refine AW.aload_n (pc := 165) (x := 50) dX12_unifyNow_165 rfl ?_
          refine AW.iload_n (pc := 166) (x := v1) dX12_unifyNow_166 rfl ?_
          refine AW.iload_n (pc := 167) (x := v2) dX12_unifyNow_167 rfl ?_
          refine AW.callV (pc := 168) (As := [vI v1, vI v2]) (st := []) dX12_unifyNow_168 cl_X12_229 kd_50 hl_50 ⟨Nat.le_of_ble_eq_true rfl, Nat.le_of_ble_eq_true rfl⟩ (Nat.le_of_ble_eq_true rfl) (Nat.le_of_ble_eq_true rfl) h ?_
          rintro _ M168 ⟨rfl, h⟩
          show AW mX12_unifyNow 171 [some (vR 50), some (vI v1), some (vI v2), some (vI v3), some (vI v4), none, none] [] M168 (QI K)
          refine AW.iconst (pc := 171) dX12_unifyNow_171 ?_
          exact AW.iret (st := []) (pc := 172) dX12_unifyNow_172 rfl ⟨_, rfl, h⟩
      · have h := hb hc
        refine AW.bipush (pc := 136) dX12_unifyNow_136 (by decide) ?_
        exact AW.iret (st := []) (pc := 138) dX12_unifyNow_138 rfl ⟨_, rfl, h⟩
    · have h := hb hc
      exact h

set_option maxRecDepth 20000 in
theorem sg_X12_unifyNow_75 {M : Mem} {K : Int → Mem → Prop} {v1 v2 v3 v4 : Int} 
    (h : InR v3 ∧ (v3 = 0 → (InR v3 ∧ (v3 = 0 → (CI mX12_occurs [vR 50, vI v2, vI v1] M (fun r102 M102 => InR r102 ∧ (r102 = 0 → (CV mX12_bind [vR 50, vI v2, vI v1] M102 (fun M116 => K 0 M116))) ∧ (¬ (r102 = 0) → (K (-8) M102))))) ∧ (¬ (v3 = 0) → (CI mX12_occurs [vR 50, vI v2, vI v2] M (fun r102 M102 => InR r102 ∧ (r102 = 0 → (CV mX12_bind [vR 50, vI v2, vI v2] M102 (fun M116 => K 0 M116))) ∧ (¬ (r102 = 0) → (K (-8) M102))))))) ∧ (¬ (v3 = 0) → (InR v3 ∧ (v3 = 0 → (CI mX12_occurs [vR 50, vI v1, vI v1] M (fun r102 M102 => InR r102 ∧ (r102 = 0 → (CV mX12_bind [vR 50, vI v1, vI v1] M102 (fun M116 => K 0 M116))) ∧ (¬ (r102 = 0) → (K (-8) M102))))) ∧ (¬ (v3 = 0) → (CI mX12_occurs [vR 50, vI v1, vI v2] M (fun r102 M102 => InR r102 ∧ (r102 = 0 → (CV mX12_bind [vR 50, vI v1, vI v2] M102 (fun M116 => K 0 M116))) ∧ (¬ (r102 = 0) → (K (-8) M102)))))))) :
    AW mX12_unifyNow 75 [some (vR 50), some (vI v1), some (vI v2), some (vI v3), some (vI v4), none, none] [] M (QI K) := by
  refine AW.iload_n (pc := 75) (x := v3) dX12_unifyNow_75 rfl ?_
  obtain ⟨o, ha, hb⟩ := h
  refine AW.if_eq (pc := 76) (tgt := 83) dX12_unifyNow_76 (by decide) o (fun hc => ?_) (fun hc => ?_)
  · have h := ha hc
    refine AW.iload_n (pc := 83) (x := v2) dX12_unifyNow_83 rfl ?_
    refine AW.istore (pc := 84) (ls2 := [some (vR 50), some (vI v1), some (vI v2), some (vI v3), some (vI v4), some (vI v2), none]) dX12_unifyNow_84 (by decide) rfl ?_
    refine AW.iload_n (pc := 86) (x := v3) dX12_unifyNow_86 rfl ?_
    obtain ⟨o, ha, hb⟩ := h
    refine AW.if_eq (pc := 87) (tgt := 94) dX12_unifyNow_87 (by decide) o (fun hc => ?_) (fun hc => ?_)
    · have h := ha hc
      refine AW.iload_n (pc := 94) (x := v1) dX12_unifyNow_94 rfl ?_
      refine AW.istore (pc := 95) (ls2 := [some (vR 50), some (vI v1), some (vI v2), some (vI v3), some (vI v4), some (vI v2), some (vI v1)]) dX12_unifyNow_95 (by decide) rfl ?_
      refine AW.aload_n (pc := 97) (x := 50) dX12_unifyNow_97 rfl ?_
      refine AW.iload (pc := 98) (x := v2) dX12_unifyNow_98 rfl ?_
      refine AW.iload (pc := 100) (x := v1) dX12_unifyNow_100 rfl ?_
      refine AW.callV (pc := 102) (As := [vI v2, vI v1]) (st := []) dX12_unifyNow_102 cl_X12_238 kd_50 hl_50 ⟨Nat.le_of_ble_eq_true rfl, Nat.le_of_ble_eq_true rfl⟩ (Nat.le_of_ble_eq_true rfl) (Nat.le_of_ble_eq_true rfl) h ?_
      rintro _ M102 ⟨r102, rfl, h⟩
      show AW mX12_unifyNow 105 [some (vR 50), some (vI v1), some (vI v2), some (vI v3), some (vI v4), some (vI v2), some (vI v1)] [vI r102] M102 (QI K)
      obtain ⟨o, ha, hb⟩ := h
      refine AW.if_eq (pc := 105) (tgt := 111) dX12_unifyNow_105 (by decide) o (fun hc => ?_) (fun hc => ?_)
      · have h := ha hc
        refine AW.aload_n (pc := 111) (x := 50) dX12_unifyNow_111 rfl ?_
        refine AW.iload (pc := 112) (x := v2) dX12_unifyNow_112 rfl ?_
        refine AW.iload (pc := 114) (x := v1) dX12_unifyNow_114 rfl ?_
        refine AW.callV (pc := 116) (As := [vI v2, vI v1]) (st := []) dX12_unifyNow_116 cl_X12_235 kd_50 hl_50 ⟨Nat.le_of_ble_eq_true rfl, Nat.le_of_ble_eq_true rfl⟩ (Nat.le_of_ble_eq_true rfl) (Nat.le_of_ble_eq_true rfl) h ?_
        rintro _ M116 ⟨rfl, h⟩
        show AW mX12_unifyNow 119 [some (vR 50), some (vI v1), some (vI v2), some (vI v3), some (vI v4), some (vI v2), some (vI v1)] [] M116 (QI K)
        refine AW.iconst (pc := 119) dX12_unifyNow_119 ?_
        exact AW.iret (st := []) (pc := 120) dX12_unifyNow_120 rfl ⟨_, rfl, h⟩
      · have h := hb hc
        refine AW.bipush (pc := 108) dX12_unifyNow_108 (by decide) ?_
        exact AW.iret (st := []) (pc := 110) dX12_unifyNow_110 rfl ⟨_, rfl, h⟩
    · have h := hb hc
      refine AW.iload_n (pc := 90) (x := v2) dX12_unifyNow_90 rfl ?_
      refine AW.goto (pc := 91) (tgt := 95) dX12_unifyNow_91 (by decide) ?_
      refine AW.istore (pc := 95) (ls2 := [some (vR 50), some (vI v1), some (vI v2), some (vI v3), some (vI v4), some (vI v2), some (vI v2)]) dX12_unifyNow_95 (by decide) rfl ?_
      refine AW.aload_n (pc := 97) (x := 50) dX12_unifyNow_97 rfl ?_
      refine AW.iload (pc := 98) (x := v2) dX12_unifyNow_98 rfl ?_
      refine AW.iload (pc := 100) (x := v2) dX12_unifyNow_100 rfl ?_
      refine AW.callV (pc := 102) (As := [vI v2, vI v2]) (st := []) dX12_unifyNow_102 cl_X12_238 kd_50 hl_50 ⟨Nat.le_of_ble_eq_true rfl, Nat.le_of_ble_eq_true rfl⟩ (Nat.le_of_ble_eq_true rfl) (Nat.le_of_ble_eq_true rfl) h ?_
      rintro _ M102 ⟨r102, rfl, h⟩
      show AW mX12_unifyNow 105 [some (vR 50), some (vI v1), some (vI v2), some (vI v3), some (vI v4), some (vI v2), some (vI v2)] [vI r102] M102 (QI K)
      obtain ⟨o, ha, hb⟩ := h
      refine AW.if_eq (pc := 105) (tgt := 111) dX12_unifyNow_105 (by decide) o (fun hc => ?_) (fun hc => ?_)
      · have h := ha hc
        refine AW.aload_n (pc := 111) (x := 50) dX12_unifyNow_111 rfl ?_
        refine AW.iload (pc := 112) (x := v2) dX12_unifyNow_112 rfl ?_
        refine AW.iload (pc := 114) (x := v2) dX12_unifyNow_114 rfl ?_
        refine AW.callV (pc := 116) (As := [vI v2, vI v2]) (st := []) dX12_unifyNow_116 cl_X12_235 kd_50 hl_50 ⟨Nat.le_of_ble_eq_true rfl, Nat.le_of_ble_eq_true rfl⟩ (Nat.le_of_ble_eq_true rfl) (Nat.le_of_ble_eq_true rfl) h ?_
        rintro _ M116 ⟨rfl, h⟩
        show AW mX12_unifyNow 119 [some (vR 50), some (vI v1), some (vI v2), some (vI v3), some (vI v4), some (vI v2), some (vI v2)] [] M116 (QI K)
        refine AW.iconst (pc := 119) dX12_unifyNow_119 ?_
        exact AW.iret (st := []) (pc := 120) dX12_unifyNow_120 rfl ⟨_, rfl, h⟩
      · have h := hb hc
        refine AW.bipush (pc := 108) dX12_unifyNow_108 (by decide) ?_
        exact AW.iret (st := []) (pc := 110) dX12_unifyNow_110 rfl ⟨_, rfl, h⟩
  · have h := hb hc
    refine AW.iload_n (pc := 79) (x := v1) dX12_unifyNow_79 rfl ?_
    refine AW.goto (pc := 80) (tgt := 84) dX12_unifyNow_80 (by decide) ?_
    refine AW.istore (pc := 84) (ls2 := [some (vR 50), some (vI v1), some (vI v2), some (vI v3), some (vI v4), some (vI v1), none]) dX12_unifyNow_84 (by decide) rfl ?_
    refine AW.iload_n (pc := 86) (x := v3) dX12_unifyNow_86 rfl ?_
    obtain ⟨o, ha, hb⟩ := h
    refine AW.if_eq (pc := 87) (tgt := 94) dX12_unifyNow_87 (by decide) o (fun hc => ?_) (fun hc => ?_)
    · have h := ha hc
      refine AW.iload_n (pc := 94) (x := v1) dX12_unifyNow_94 rfl ?_
      refine AW.istore (pc := 95) (ls2 := [some (vR 50), some (vI v1), some (vI v2), some (vI v3), some (vI v4), some (vI v1), some (vI v1)]) dX12_unifyNow_95 (by decide) rfl ?_
      refine AW.aload_n (pc := 97) (x := 50) dX12_unifyNow_97 rfl ?_
      refine AW.iload (pc := 98) (x := v1) dX12_unifyNow_98 rfl ?_
      refine AW.iload (pc := 100) (x := v1) dX12_unifyNow_100 rfl ?_
      refine AW.callV (pc := 102) (As := [vI v1, vI v1]) (st := []) dX12_unifyNow_102 cl_X12_238 kd_50 hl_50 ⟨Nat.le_of_ble_eq_true rfl, Nat.le_of_ble_eq_true rfl⟩ (Nat.le_of_ble_eq_true rfl) (Nat.le_of_ble_eq_true rfl) h ?_
      rintro _ M102 ⟨r102, rfl, h⟩
      show AW mX12_unifyNow 105 [some (vR 50), some (vI v1), some (vI v2), some (vI v3), some (vI v4), some (vI v1), some (vI v1)] [vI r102] M102 (QI K)
      obtain ⟨o, ha, hb⟩ := h
      refine AW.if_eq (pc := 105) (tgt := 111) dX12_unifyNow_105 (by decide) o (fun hc => ?_) (fun hc => ?_)
      · have h := ha hc
        refine AW.aload_n (pc := 111) (x := 50) dX12_unifyNow_111 rfl ?_
        refine AW.iload (pc := 112) (x := v1) dX12_unifyNow_112 rfl ?_
        refine AW.iload (pc := 114) (x := v1) dX12_unifyNow_114 rfl ?_
        refine AW.callV (pc := 116) (As := [vI v1, vI v1]) (st := []) dX12_unifyNow_116 cl_X12_235 kd_50 hl_50 ⟨Nat.le_of_ble_eq_true rfl, Nat.le_of_ble_eq_true rfl⟩ (Nat.le_of_ble_eq_true rfl) (Nat.le_of_ble_eq_true rfl) h ?_
        rintro _ M116 ⟨rfl, h⟩
        show AW mX12_unifyNow 119 [some (vR 50), some (vI v1), some (vI v2), some (vI v3), some (vI v4), some (vI v1), some (vI v1)] [] M116 (QI K)
        refine AW.iconst (pc := 119) dX12_unifyNow_119 ?_
        exact AW.iret (st := []) (pc := 120) dX12_unifyNow_120 rfl ⟨_, rfl, h⟩
      · have h := hb hc
        refine AW.bipush (pc := 108) dX12_unifyNow_108 (by decide) ?_
        exact AW.iret (st := []) (pc := 110) dX12_unifyNow_110 rfl ⟨_, rfl, h⟩
    · have h := hb hc
      refine AW.iload_n (pc := 90) (x := v2) dX12_unifyNow_90 rfl ?_
      refine AW.goto (pc := 91) (tgt := 95) dX12_unifyNow_91 (by decide) ?_
      refine AW.istore (pc := 95) (ls2 := [some (vR 50), some (vI v1), some (vI v2), some (vI v3), some (vI v4), some (vI v1), some (vI v2)]) dX12_unifyNow_95 (by decide) rfl ?_
      refine AW.aload_n (pc := 97) (x := 50) dX12_unifyNow_97 rfl ?_
      refine AW.iload (pc := 98) (x := v1) dX12_unifyNow_98 rfl ?_
      refine AW.iload (pc := 100) (x := v2) dX12_unifyNow_100 rfl ?_
      refine AW.callV (pc := 102) (As := [vI v1, vI v2]) (st := []) dX12_unifyNow_102 cl_X12_238 kd_50 hl_50 ⟨Nat.le_of_ble_eq_true rfl, Nat.le_of_ble_eq_true rfl⟩ (Nat.le_of_ble_eq_true rfl) (Nat.le_of_ble_eq_true rfl) h ?_
      rintro _ M102 ⟨r102, rfl, h⟩
      show AW mX12_unifyNow 105 [some (vR 50), some (vI v1), some (vI v2), some (vI v3), some (vI v4), some (vI v1), some (vI v2)] [vI r102] M102 (QI K)
      obtain ⟨o, ha, hb⟩ := h
      refine AW.if_eq (pc := 105) (tgt := 111) dX12_unifyNow_105 (by decide) o (fun hc => ?_) (fun hc => ?_)
      · have h := ha hc
        refine AW.aload_n (pc := 111) (x := 50) dX12_unifyNow_111 rfl ?_
        refine AW.iload (pc := 112) (x := v1) dX12_unifyNow_112 rfl ?_
        refine AW.iload (pc := 114) (x := v2) dX12_unifyNow_114 rfl ?_
        refine AW.callV (pc := 116) (As := [vI v1, vI v2]) (st := []) dX12_unifyNow_116 cl_X12_235 kd_50 hl_50 ⟨Nat.le_of_ble_eq_true rfl, Nat.le_of_ble_eq_true rfl⟩ (Nat.le_of_ble_eq_true rfl) (Nat.le_of_ble_eq_true rfl) h ?_
        rintro _ M116 ⟨rfl, h⟩
        show AW mX12_unifyNow 119 [some (vR 50), some (vI v1), some (vI v2), some (vI v3), some (vI v4), some (vI v1), some (vI v2)] [] M116 (QI K)
        refine AW.iconst (pc := 119) dX12_unifyNow_119 ?_
        exact AW.iret (st := []) (pc := 120) dX12_unifyNow_120 rfl ⟨_, rfl, h⟩
      · have h := hb hc
        refine AW.bipush (pc := 108) dX12_unifyNow_108 (by decide) ?_
        exact AW.iret (st := []) (pc := 110) dX12_unifyNow_110 rfl ⟨_, rfl, h⟩

set_option maxRecDepth 20000 in
theorem en_X12_value {M : Mem} {K : Int → Mem → Prop} {v1 v2 v3 : Int} 
    (h : CI mX12_isType [vR 50, vI v1] M (fun r2 M2 => InR r2 ∧ (r2 ≠ 0 → (CI mX12_in [vI v2, vI 1, vI 12] M2 (fun r14 M14 => InR r14 ∧ (r14 ≠ 0 → (CV mX12_layCounts [vR 50] M14 (fun M24 => CI mX12_countOf [vR 50, vI v1, vI v2] M24 (fun r32 M32 => CI mX12_in [vI v3, vI 0, vI (r32 - 1)] M32 (fun r37 M37 => InR r37 ∧ (r37 ≠ 0 → (InR ((M37 50 5) + v2) ∧ (((M37 50 5) + v2) ≤ 100 → (CV mX12_layValue [vR 50, vI v1, vI v2, vI v3] M37 (fun M64 => CI mX12_makeNodes [vR 50] M64 (fun r68 M68 => K r68 M68)))) ∧ (¬ (((M37 50 5) + v2) ≤ 100) → (K (-6) M37)))) ∧ (¬ (r37 ≠ 0) → (K (-13) M37))))))) ∧ (¬ (r14 ≠ 0) → (K (-4) M14))))) ∧ (¬ (r2 ≠ 0) → (K (-1) M2)))) :
    CI mX12_value [vR 50, vI v1, vI v2, vI v3] M K := by
  show AW mX12_value 0 [some (vR 50), some (vI v1), some (vI v2), some (vI v3)] [] M (QI K)
  refine AW.aload_n (pc := 0) (x := 50) dX12_value_0 rfl ?_
  refine AW.iload_n (pc := 1) (x := v1) dX12_value_1 rfl ?_
  refine AW.callV (pc := 2) (As := [vI v1]) (st := []) dX12_value_2 cl_X12_130 kd_50 hl_50 ⟨Nat.le_of_ble_eq_true rfl, Nat.le_of_ble_eq_true rfl⟩ (Nat.le_of_ble_eq_true rfl) (Nat.le_of_ble_eq_true rfl) h ?_
  rintro _ M2 ⟨r2, rfl, h⟩
  show AW mX12_value 5 [some (vR 50), some (vI v1), some (vI v2), some (vI v3)] [vI r2] M2 (QI K)
  obtain ⟨o, ha, hb⟩ := h
  refine AW.if_ne (pc := 5) (tgt := 10) dX12_value_5 (by decide) o (fun hc => ?_) (fun hc => ?_)
  · have h := ha hc
    refine AW.iload_n (pc := 10) (x := v2) dX12_value_10 rfl ?_
    refine AW.iconst (pc := 11) dX12_value_11 ?_
    refine AW.bipush (pc := 12) dX12_value_12 (by decide) ?_
    refine AW.callS (pc := 14) (As := [vI v2, vI 1, vI 12]) (st := []) dX12_value_14 cl_X12_117 ⟨Nat.le_of_ble_eq_true rfl, Nat.le_of_ble_eq_true rfl⟩ (Nat.le_of_ble_eq_true rfl) (Nat.le_of_ble_eq_true rfl) h ?_
    rintro _ M14 ⟨r14, rfl, h⟩
    show AW mX12_value 17 [some (vR 50), some (vI v1), some (vI v2), some (vI v3)] [vI r14] M14 (QI K)
    obtain ⟨o, ha, hb⟩ := h
    refine AW.if_ne (pc := 17) (tgt := 23) dX12_value_17 (by decide) o (fun hc => ?_) (fun hc => ?_)
    · have h := ha hc
      refine AW.aload_n (pc := 23) (x := 50) dX12_value_23 rfl ?_
      refine AW.callV (pc := 24) (As := []) (st := []) dX12_value_24 cl_X12_172 kd_50 hl_50 ⟨Nat.le_of_ble_eq_true rfl, Nat.le_of_ble_eq_true rfl⟩ (Nat.le_of_ble_eq_true rfl) (Nat.le_of_ble_eq_true rfl) h ?_
      rintro _ M24 ⟨rfl, h⟩
      show AW mX12_value 27 [some (vR 50), some (vI v1), some (vI v2), some (vI v3)] [] M24 (QI K)
      refine AW.iload_n (pc := 27) (x := v3) dX12_value_27 rfl ?_
      refine AW.iconst (pc := 28) dX12_value_28 ?_
      refine AW.aload_n (pc := 29) (x := 50) dX12_value_29 rfl ?_
      refine AW.iload_n (pc := 30) (x := v1) dX12_value_30 rfl ?_
      refine AW.iload_n (pc := 31) (x := v2) dX12_value_31 rfl ?_
      refine AW.callV (pc := 32) (As := [vI v1, vI v2]) (st := [vI 0, vI v3]) dX12_value_32 cl_X12_164 kd_50 hl_50 ⟨Nat.le_of_ble_eq_true rfl, Nat.le_of_ble_eq_true rfl⟩ (Nat.le_of_ble_eq_true rfl) (Nat.le_of_ble_eq_true rfl) h ?_
      rintro _ M32 ⟨r32, rfl, h⟩
      show AW mX12_value 35 [some (vR 50), some (vI v1), some (vI v2), some (vI v3)] [vI r32, vI 0, vI v3] M32 (QI K)
      refine AW.iconst (pc := 35) dX12_value_35 ?_
      refine AW.isub (pc := 36) dX12_value_36 ?_
      refine AW.callS (pc := 37) (As := [vI v3, vI 0, vI (r32 - 1)]) (st := []) dX12_value_37 cl_X12_117 ⟨Nat.le_of_ble_eq_true rfl, Nat.le_of_ble_eq_true rfl⟩ (Nat.le_of_ble_eq_true rfl) (Nat.le_of_ble_eq_true rfl) h ?_
      rintro _ M37 ⟨r37, rfl, h⟩
      show AW mX12_value 40 [some (vR 50), some (vI v1), some (vI v2), some (vI v3)] [vI r37] M37 (QI K)
      obtain ⟨o, ha, hb⟩ := h
      refine AW.if_ne (pc := 40) (tgt := 46) dX12_value_40 (by decide) o (fun hc => ?_) (fun hc => ?_)
      · have h := ha hc
        refine AW.aload_n (pc := 46) (x := 50) dX12_value_46 rfl ?_
        refine AW.getI (pc := 47) dX12_value_47 fg_X12_124 kd_50 hl_50 rfl ?_
        refine AW.iload_n (pc := 50) (x := v2) dX12_value_50 rfl ?_
        refine AW.iadd (pc := 51) dX12_value_51 ?_
        refine AW.bipush (pc := 52) dX12_value_52 (by decide) ?_
        obtain ⟨o, ha, hb⟩ := h
        refine AW.icmp_le (pc := 54) (tgt := 60) dX12_value_54 (by decide) o (by decide) (fun hc => ?_) (fun hc => ?_)
        · have h := ha hc
          refine AW.aload_n (pc := 60) (x := 50) dX12_value_60 rfl ?_
          refine AW.iload_n (pc := 61) (x := v1) dX12_value_61 rfl ?_
          refine AW.iload_n (pc := 62) (x := v2) dX12_value_62 rfl ?_
          refine AW.iload_n (pc := 63) (x := v3) dX12_value_63 rfl ?_
          refine AW.callV (pc := 64) (As := [vI v1, vI v2, vI v3]) (st := []) dX12_value_64 cl_X12_192 kd_50 hl_50 ⟨Nat.le_of_ble_eq_true rfl, Nat.le_of_ble_eq_true rfl⟩ (Nat.le_of_ble_eq_true rfl) (Nat.le_of_ble_eq_true rfl) h ?_
          rintro _ M64 ⟨rfl, h⟩
          show AW mX12_value 67 [some (vR 50), some (vI v1), some (vI v2), some (vI v3)] [] M64 (QI K)
          refine AW.aload_n (pc := 67) (x := 50) dX12_value_67 rfl ?_
          refine AW.callV (pc := 68) (As := []) (st := []) dX12_value_68 cl_X12_195 kd_50 hl_50 ⟨Nat.le_of_ble_eq_true rfl, Nat.le_of_ble_eq_true rfl⟩ (Nat.le_of_ble_eq_true rfl) (Nat.le_of_ble_eq_true rfl) h ?_
          rintro _ M68 ⟨r68, rfl, h⟩
          show AW mX12_value 71 [some (vR 50), some (vI v1), some (vI v2), some (vI v3)] [vI r68] M68 (QI K)
          exact AW.iret (st := []) (pc := 71) dX12_value_71 rfl ⟨_, rfl, h⟩
        · have h := hb hc
          refine AW.bipush (pc := 57) dX12_value_57 (by decide) ?_
          exact AW.iret (st := []) (pc := 59) dX12_value_59 rfl ⟨_, rfl, h⟩
      · have h := hb hc
        refine AW.bipush (pc := 43) dX12_value_43 (by decide) ?_
        exact AW.iret (st := []) (pc := 45) dX12_value_45 rfl ⟨_, rfl, h⟩
    · have h := hb hc
      refine AW.bipush (pc := 20) dX12_value_20 (by decide) ?_
      exact AW.iret (st := []) (pc := 22) dX12_value_22 rfl ⟨_, rfl, h⟩
  · have h := hb hc
    refine AW.iconst (pc := 8) dX12_value_8 ?_
    exact AW.iret (st := []) (pc := 9) dX12_value_9 rfl ⟨_, rfl, h⟩

set_option maxRecDepth 20000 in
theorem en_X12_variable {M : Mem} {K : Int → Mem → Prop} {v1 : Int} 
    (h : CI mX12_isType [vR 50, vI v1] M (fun r2 M2 => InR r2 ∧ (r2 ≠ 0 → (InR (M2 50 5) ∧ ((M2 50 5) ≠ 100 → (CI mX12_addNode [vR 50, vI (-13), vI v1, vI (-13), vI (-13), vI (-13)] M2 (fun r34 M34 => K r34 M34))) ∧ (¬ ((M2 50 5) ≠ 100) → (K (-6) M2)))) ∧ (¬ (r2 ≠ 0) → (K (-1) M2)))) :
    CI mX12_variable [vR 50, vI v1] M K := by
  show AW mX12_variable 0 [some (vR 50), some (vI v1)] [] M (QI K)
  refine AW.aload_n (pc := 0) (x := 50) dX12_variable_0 rfl ?_
  refine AW.iload_n (pc := 1) (x := v1) dX12_variable_1 rfl ?_
  refine AW.callV (pc := 2) (As := [vI v1]) (st := []) dX12_variable_2 cl_X12_130 kd_50 hl_50 ⟨Nat.le_of_ble_eq_true rfl, Nat.le_of_ble_eq_true rfl⟩ (Nat.le_of_ble_eq_true rfl) (Nat.le_of_ble_eq_true rfl) h ?_
  rintro _ M2 ⟨r2, rfl, h⟩
  show AW mX12_variable 5 [some (vR 50), some (vI v1)] [vI r2] M2 (QI K)
  obtain ⟨o, ha, hb⟩ := h
  refine AW.if_ne (pc := 5) (tgt := 10) dX12_variable_5 (by decide) o (fun hc => ?_) (fun hc => ?_)
  · have h := ha hc
    refine AW.aload_n (pc := 10) (x := 50) dX12_variable_10 rfl ?_
    refine AW.getI (pc := 11) dX12_variable_11 fg_X12_124 kd_50 hl_50 rfl ?_
    refine AW.bipush (pc := 14) dX12_variable_14 (by decide) ?_
    obtain ⟨o, ha, hb⟩ := h
    refine AW.icmp_ne (pc := 16) (tgt := 24) dX12_variable_16 (by decide) o (by decide) (fun hc => ?_) (fun hc => ?_)
    · have h := ha hc
      refine AW.aload_n (pc := 24) (x := 50) dX12_variable_24 rfl ?_
      refine AW.bipush (pc := 25) dX12_variable_25 (by decide) ?_
      refine AW.iload_n (pc := 27) (x := v1) dX12_variable_27 rfl ?_
      refine AW.bipush (pc := 28) dX12_variable_28 (by decide) ?_
      refine AW.bipush (pc := 30) dX12_variable_30 (by decide) ?_
      refine AW.bipush (pc := 32) dX12_variable_32 (by decide) ?_
      refine AW.callV (pc := 34) (As := [vI (-13), vI v1, vI (-13), vI (-13), vI (-13)]) (st := []) dX12_variable_34 cl_X12_189 kd_50 hl_50 ⟨Nat.le_of_ble_eq_true rfl, Nat.le_of_ble_eq_true rfl⟩ (Nat.le_of_ble_eq_true rfl) (Nat.le_of_ble_eq_true rfl) h ?_
      rintro _ M34 ⟨r34, rfl, h⟩
      show AW mX12_variable 37 [some (vR 50), some (vI v1)] [vI r34] M34 (QI K)
      exact AW.iret (st := []) (pc := 37) dX12_variable_37 rfl ⟨_, rfl, h⟩
    · have h := hb hc
      refine AW.bipush (pc := 19) dX12_variable_19 (by decide) ?_
      refine AW.goto (pc := 21) (tgt := 37) dX12_variable_21 (by decide) ?_
      exact AW.iret (st := []) (pc := 37) dX12_variable_37 rfl ⟨_, rfl, h⟩
  · have h := hb hc
    refine AW.iconst (pc := 8) dX12_variable_8 ?_
    exact AW.iret (st := []) (pc := 9) dX12_variable_9 rfl ⟨_, rfl, h⟩

set_option maxRecDepth 20000 in
theorem en_X12_way {M : Mem} {K : Int → Mem → Prop} {v0 v1 v2 : Int} 
    (h : K ((((4 * v0) + v1) * 13) + v2) M) :
    CI mX12_way [vI v0, vI v1, vI v2] M K := by
  show AW mX12_way 0 [some (vI v0), some (vI v1), some (vI v2)] [] M (QI K)
  refine AW.iconst (pc := 0) dX12_way_0 ?_
  refine AW.iload_n (pc := 1) (x := v0) dX12_way_1 rfl ?_
  refine AW.imul (pc := 2) dX12_way_2 ?_
  refine AW.iload_n (pc := 3) (x := v1) dX12_way_3 rfl ?_
  refine AW.iadd (pc := 4) dX12_way_4 ?_
  refine AW.bipush (pc := 5) dX12_way_5 (by decide) ?_
  refine AW.imul (pc := 7) dX12_way_7 ?_
  refine AW.iload_n (pc := 8) (x := v2) dX12_way_8 rfl ?_
  refine AW.iadd (pc := 9) dX12_way_9 ?_
  exact AW.iret (st := []) (pc := 10) dX12_way_10 rfl ⟨_, rfl, h⟩

set_option maxRecDepth 20000 in
theorem en_X12_wrongChild {M : Mem} {K : Int → Mem → Prop} {v1 v2 v3 : Int} 
    (h : (0 ≤ v1 ∧ v1 < 12) ∧ (InR v2 ∧ InR (M 52 v1)) ∧ (v2 < (M 52 v1) → (CI mX12_isNode [vR 50, vI v3] M (fun r14 M14 => InR r14 ∧ (r14 = 0 → (K (-3) M14)) ∧ (¬ (r14 = 0) → ((0 ≤ v3 ∧ v3 < 100) ∧ (0 ≤ ((3 * v1) + v2) ∧ ((3 * v1) + v2) < 36) ∧ (InR (M14 55 v3) ∧ InR (M14 53 ((3 * v1) + v2))) ∧ ((M14 55 v3) ≠ (M14 53 ((3 * v1) + v2)) → (K (-5) M14)) ∧ (¬ ((M14 55 v3) ≠ (M14 53 ((3 * v1) + v2))) → (K 0 M14))))))) ∧ (¬ (v2 < (M 52 v1)) → (K 0 M))) :
    CI mX12_wrongChild [vR 50, vI v1, vI v2, vI v3] M K := by
  show AW mX12_wrongChild 0 [some (vR 50), some (vI v1), some (vI v2), some (vI v3)] [] M (QI K)
  refine AW.iload_n (pc := 0) (x := v2) dX12_wrongChild_0 rfl ?_
  refine AW.aload_n (pc := 1) (x := 50) dX12_wrongChild_1 rfl ?_
  refine AW.getR (pc := 2) (h2 := 52) dX12_wrongChild_2 fg_X12_13 kd_50 hl_50 rfl ?_
  refine AW.iload_n (pc := 5) (x := v1) dX12_wrongChild_5 rfl ?_
  obtain ⟨o, h⟩ := h
  refine AW.iald (pc := 6) dX12_wrongChild_6 kd_52 hl_52 o ?_
  obtain ⟨o, ha, hb⟩ := h
  refine AW.icmp_lt (pc := 7) (tgt := 12) dX12_wrongChild_7 (by decide) o.1 o.2 (fun hc => ?_) (fun hc => ?_)
  · have h := ha hc
    refine AW.aload_n (pc := 12) (x := 50) dX12_wrongChild_12 rfl ?_
    refine AW.iload_n (pc := 13) (x := v3) dX12_wrongChild_13 rfl ?_
    refine AW.callV (pc := 14) (As := [vI v3]) (st := []) dX12_wrongChild_14 cl_X12_199 kd_50 hl_50 ⟨Nat.le_of_ble_eq_true rfl, Nat.le_of_ble_eq_true rfl⟩ (Nat.le_of_ble_eq_true rfl) (Nat.le_of_ble_eq_true rfl) h ?_
    rintro _ M14 ⟨r14, rfl, h⟩
    show AW mX12_wrongChild 17 [some (vR 50), some (vI v1), some (vI v2), some (vI v3)] [vI r14] M14 (QI K)
    obtain ⟨o, ha, hb⟩ := h
    refine AW.if_eq (pc := 17) (tgt := 48) dX12_wrongChild_17 (by decide) o (fun hc => ?_) (fun hc => ?_)
    · have h := ha hc
      refine AW.bipush (pc := 48) dX12_wrongChild_48 (by decide) ?_
      exact AW.iret (st := []) (pc := 50) dX12_wrongChild_50 rfl ⟨_, rfl, h⟩
    · have h := hb hc
      refine AW.aload_n (pc := 20) (x := 50) dX12_wrongChild_20 rfl ?_
      refine AW.getR (pc := 21) (h2 := 55) dX12_wrongChild_21 fg_X12_22 kd_50 hl_50 rfl ?_
      refine AW.iload_n (pc := 24) (x := v3) dX12_wrongChild_24 rfl ?_
      obtain ⟨o, h⟩ := h
      refine AW.iald (pc := 25) dX12_wrongChild_25 kd_55 hl_55 o ?_
      refine AW.aload_n (pc := 26) (x := 50) dX12_wrongChild_26 rfl ?_
      refine AW.getR (pc := 27) (h2 := 53) dX12_wrongChild_27 fg_X12_16 kd_50 hl_50 rfl ?_
      refine AW.iconst (pc := 30) dX12_wrongChild_30 ?_
      refine AW.iload_n (pc := 31) (x := v1) dX12_wrongChild_31 rfl ?_
      refine AW.imul (pc := 32) dX12_wrongChild_32 ?_
      refine AW.iload_n (pc := 33) (x := v2) dX12_wrongChild_33 rfl ?_
      refine AW.iadd (pc := 34) dX12_wrongChild_34 ?_
      obtain ⟨o, h⟩ := h
      refine AW.iald (pc := 35) dX12_wrongChild_35 kd_53 hl_53 o ?_
      obtain ⟨o, ha, hb⟩ := h
      refine AW.icmp_ne (pc := 36) (tgt := 43) dX12_wrongChild_36 (by decide) o.1 o.2 (fun hc => ?_) (fun hc => ?_)
      · have h := ha hc
        refine AW.bipush (pc := 43) dX12_wrongChild_43 (by decide) ?_
        refine AW.goto (pc := 45) (tgt := 50) dX12_wrongChild_45 (by decide) ?_
        exact AW.iret (st := []) (pc := 50) dX12_wrongChild_50 rfl ⟨_, rfl, h⟩
      · have h := hb hc
        refine AW.iconst (pc := 39) dX12_wrongChild_39 ?_
        refine AW.goto (pc := 40) (tgt := 50) dX12_wrongChild_40 (by decide) ?_
        exact AW.iret (st := []) (pc := 50) dX12_wrongChild_50 rfl ⟨_, rfl, h⟩
  · have h := hb hc
    refine AW.iconst (pc := 10) dX12_wrongChild_10 ?_
    exact AW.iret (st := []) (pc := 11) dX12_wrongChild_11 rfl ⟨_, rfl, h⟩

