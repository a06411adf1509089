set_option maxRecDepth 20000 in
theorem en_X12_isInfinite {M : Mem} {K : Int → Mem → Prop} {v1 : Int} 
    (h : (0 ≤ (5 * v1) ∧ (5 * v1) < 16) ∧ AW mX12_isInfinite 11 [some (vR 50), some (vI v1), some (vI (M 62 (5 * v1))), some (vI 0)] [] M (QI K)) :
    CI mX12_isInfinite [vR 50, vI v1] M K := by
  show AW mX12_isInfinite 0 [some (vR 50), some (vI v1), none, none] [] M (QI K)
  refine AW.aload_n (pc := 0) (x := 50) dX12_isInfinite_0 rfl ?_
  refine AW.getR (pc := 1) (h2 := 62) dX12_isInfinite_1 fg_X12_43 kd_50 hl_50 rfl ?_
  refine AW.iconst (pc := 4) dX12_isInfinite_4 ?_
  refine AW.iload_n (pc := 5) (x := v1) dX12_isInfinite_5 rfl ?_
  refine AW.imul (pc := 6) dX12_isInfinite_6 ?_
  obtain ⟨o, h⟩ := h
  refine AW.zald (pc := 7) dX12_isInfinite_7 kd_62 hl_62 o ?_
  refine AW.istore_n (pc := 8) (ls2 := [some (vR 50), some (vI v1), some (vI (M 62 (5 * v1))), none]) dX12_isInfinite_8 (by decide) rfl ?_
  refine AW.iconst (pc := 9) dX12_isInfinite_9 ?_
  refine AW.istore_n (pc := 10) (ls2 := [some (vR 50), some (vI v1), some (vI (M 62 (5 * v1))), some (vI 0)]) dX12_isInfinite_10 (by decide) rfl ?_
  exact h

set_option maxRecDepth 20000 in
theorem sg_X12_isInfinite_11 {M : Mem} {K : Int → Mem → Prop} {v1 v2 v3 : Int} 
    (h : InR v3 ∧ (v3 ≥ 4 → (((v2 = 0 ∨ v2 = 1) ∧ K v2 M))) ∧ (¬ (v3 ≥ 4) → (InR v2 ∧ (v2 ≠ 0 → (AW mX12_isInfinite 44 [some (vR 50), some (vI v1), some (vI v2), some (vI v3)] [] M (QI K))) ∧ (¬ (v2 ≠ 0) → ((0 ≤ ((4 * v1) + v3) ∧ ((4 * v1) + v3) < 16) ∧ InR (M 62 ((4 * v1) + v3)) ∧ ((M 62 ((4 * v1) + v3)) = 0 → (AW mX12_isInfinite 48 [some (vR 50), some (vI v1), some (vI v2), some (vI v3)] [] M (QI K))) ∧ (¬ ((M 62 ((4 * v1) + v3)) = 0) → ((0 ≤ (5 * v3) ∧ (5 * v3) < 16) ∧ InR (M 62 (5 * v3)) ∧ ((M 62 (5 * v3)) = 0 → (AW mX12_isInfinite 48 [some (vR 50), some (vI v1), some (vI v2), some (vI v3)] [] M (QI K))) ∧ (¬ ((M 62 (5 * v3)) = 0) → (AW mX12_isInfinite 44 [some (vR 50), some (vI v1), some (vI v2), some (vI v3)] [] M (QI K)))))))))) :
    AW mX12_isInfinite 11 [some (vR 50), some (vI v1), some (vI v2), some (vI v3)] [] M (QI K) := by
  refine AW.iload_n (pc := 11) (x := v3) dX12_isInfinite_11 rfl ?_
  refine AW.iconst (pc := 12) dX12_isInfinite_12 ?_
  obtain ⟨o, ha, hb⟩ := h
  refine AW.icmp_ge (pc := 13) (tgt := 56) dX12_isInfinite_13 (by decide) o (by decide) (fun hc => ?_) (fun hc => ?_)
  · have h := ha hc
    refine AW.iload_n (pc := 56) (x := v2) dX12_isInfinite_56 rfl ?_
    exact AW.zret (st := []) (pc := 57) dX12_isInfinite_57 rfl h.1 ⟨_, rfl, h.2⟩
  · have h := hb hc
    refine AW.iload_n (pc := 16) (x := v2) dX12_isInfinite_16 rfl ?_
    obtain ⟨o, ha, hb⟩ := h
    refine AW.if_ne (pc := 17) (tgt := 44) dX12_isInfinite_17 (by decide) o (fun hc => ?_) (fun hc => ?_)
    · have h := ha hc
      exact h
    · have h := hb hc
      refine AW.aload_n (pc := 20) (x := 50) dX12_isInfinite_20 rfl ?_
      refine AW.getR (pc := 21) (h2 := 62) dX12_isInfinite_21 fg_X12_43 kd_50 hl_50 rfl ?_
      refine AW.iconst (pc := 24) dX12_isInfinite_24 ?_
      refine AW.iload_n (pc := 25) (x := v1) dX12_isInfinite_25 rfl ?_
      refine AW.imul (pc := 26) dX12_isInfinite_26 ?_
      refine AW.iload_n (pc := 27) (x := v3) dX12_isInfinite_27 rfl ?_
      refine AW.iadd (pc := 28) dX12_isInfinite_28 ?_
      obtain ⟨o, h⟩ := h
      refine AW.zald (pc := 29) dX12_isInfinite_29 kd_62 hl_62 o ?_
      obtain ⟨o, ha, hb⟩ := h
      refine AW.if_eq (pc := 30) (tgt := 48) dX12_isInfinite_30 (by decide) o (fun hc => ?_) (fun hc => ?_)
      · have h := ha hc
        exact h
      · have h := hb hc
        refine AW.aload_n (pc := 33) (x := 50) dX12_isInfinite_33 rfl ?_
        refine AW.getR (pc := 34) (h2 := 62) dX12_isInfinite_34 fg_X12_43 kd_50 hl_50 rfl ?_
        refine AW.iconst (pc := 37) dX12_isInfinite_37 ?_
        refine AW.iload_n (pc := 38) (x := v3) dX12_isInfinite_38 rfl ?_
        refine AW.imul (pc := 39) dX12_isInfinite_39 ?_
        obtain ⟨o, h⟩ := h
        refine AW.zald (pc := 40) dX12_isInfinite_40 kd_62 hl_62 o ?_
        obtain ⟨o, ha, hb⟩ := h
        refine AW.if_eq (pc := 41) (tgt := 48) dX12_isInfinite_41 (by decide) o (fun hc => ?_) (fun hc => ?_)
        · have h := ha hc
          exact h
        · have h := hb hc
          exact h

set_option maxRecDepth 20000 in
theorem sg_X12_isInfinite_44 {M : Mem} {K : Int → Mem → Prop} {v1 v2 v3 : Int} 
    (h : AW mX12_isInfinite 11 [some (vR 50), some (vI v1), some (vI 1), some (vI (v3 + 1))] [] M (QI K)) :
    AW mX12_isInfinite 44 [some (vR 50), some (vI v1), some (vI v2), some (vI v3)] [] M (QI K) := by
  refine AW.iconst (pc := 44) dX12_isInfinite_44 ?_
  refine AW.goto (pc := 45) (tgt := 49) dX12_isInfinite_45 (by decide) ?_
  refine AW.istore_n (pc := 49) (ls2 := [some (vR 50), some (vI v1), some (vI 1), some (vI v3)]) dX12_isInfinite_49 (by decide) rfl ?_
  refine AW.iinc (pc := 50) (x := v3) (ls2 := [some (vR 50), some (vI v1), some (vI 1), some (vI (v3 + 1))]) dX12_isInfinite_50 rfl (by decide) rfl ?_
  refine AW.goto (pc := 53) (tgt := 11) dX12_isInfinite_53 (by decide) ?_
  exact h

set_option maxRecDepth 20000 in
theorem sg_X12_isInfinite_48 {M : Mem} {K : Int → Mem → Prop} {v1 v2 v3 : Int} 
    (h : AW mX12_isInfinite 11 [some (vR 50), some (vI v1), some (vI 0), some (vI (v3 + 1))] [] M (QI K)) :
    AW mX12_isInfinite 48 [some (vR 50), some (vI v1), some (vI v2), some (vI v3)] [] M (QI K) := by
  refine AW.iconst (pc := 48) dX12_isInfinite_48 ?_
  refine AW.istore_n (pc := 49) (ls2 := [some (vR 50), some (vI v1), some (vI 0), some (vI v3)]) dX12_isInfinite_49 (by decide) rfl ?_
  refine AW.iinc (pc := 50) (x := v3) (ls2 := [some (vR 50), some (vI v1), some (vI 0), some (vI (v3 + 1))]) dX12_isInfinite_50 rfl (by decide) rfl ?_
  refine AW.goto (pc := 53) (tgt := 11) dX12_isInfinite_53 (by decide) ?_
  exact h

set_option maxRecDepth 20000 in
theorem en_X12_isNode {M : Mem} {K : Int → Mem → Prop} {v1 : Int} 
    (h : CI mX12_in [vI v1, vI 0, vI ((M 50 5) - 1)] M (fun r8 M8 => ((r8 = 0 ∨ r8 = 1) ∧ K r8 M8))) :
    CI mX12_isNode [vR 50, vI v1] M K := by
  show AW mX12_isNode 0 [some (vR 50), some (vI v1)] [] M (QI K)
  refine AW.iload_n (pc := 0) (x := v1) dX12_isNode_0 rfl ?_
  refine AW.iconst (pc := 1) dX12_isNode_1 ?_
  refine AW.aload_n (pc := 2) (x := 50) dX12_isNode_2 rfl ?_
  refine AW.getI (pc := 3) dX12_isNode_3 fg_X12_124 kd_50 hl_50 rfl ?_
  refine AW.iconst (pc := 6) dX12_isNode_6 ?_
  refine AW.isub (pc := 7) dX12_isNode_7 ?_
  refine AW.callS (pc := 8) (As := [vI v1, vI 0, vI ((M 50 5) - 1)]) (st := []) dX12_isNode_8 cl_X12_117 ⟨Nat.le_of_ble_eq_true rfl, Nat.le_of_ble_eq_true rfl⟩ (Nat.le_of_ble_eq_true rfl) (Nat.le_of_ble_eq_true rfl) h ?_
  rintro _ M8 ⟨r8, rfl, h⟩
  show AW mX12_isNode 11 [some (vR 50), some (vI v1)] [vI r8] M8 (QI K)
  exact AW.zret (st := []) (pc := 11) dX12_isNode_11 rfl h.1 ⟨_, rfl, h.2⟩

set_option maxRecDepth 20000 in
theorem en_X12_isType {M : Mem} {K : Int → Mem → Prop} {v1 : Int} 
    (h : CI mX12_in [vI v1, vI 0, vI ((M 50 0) - 1)] M (fun r8 M8 => ((r8 = 0 ∨ r8 = 1) ∧ K r8 M8))) :
    CI mX12_isType [vR 50, vI v1] M K := by
  show AW mX12_isType 0 [some (vR 50), some (vI v1)] [] M (QI K)
  refine AW.iload_n (pc := 0) (x := v1) dX12_isType_0 rfl ?_
  refine AW.iconst (pc := 1) dX12_isType_1 ?_
  refine AW.aload_n (pc := 2) (x := 50) dX12_isType_2 rfl ?_
  refine AW.getI (pc := 3) dX12_isType_3 fg_X12_113 kd_50 hl_50 rfl ?_
  refine AW.iconst (pc := 6) dX12_isType_6 ?_
  refine AW.isub (pc := 7) dX12_isType_7 ?_
  refine AW.callS (pc := 8) (As := [vI v1, vI 0, vI ((M 50 0) - 1)]) (st := []) dX12_isType_8 cl_X12_117 ⟨Nat.le_of_ble_eq_true rfl, Nat.le_of_ble_eq_true rfl⟩ (Nat.le_of_ble_eq_true rfl) (Nat.le_of_ble_eq_true rfl) h ?_
  rintro _ M8 ⟨r8, rfl, h⟩
  show AW mX12_isType 11 [some (vR 50), some (vI v1)] [vI r8] M8 (QI K)
  exact AW.zret (st := []) (pc := 11) dX12_isType_11 rfl h.1 ⟨_, rfl, h.2⟩

set_option maxRecDepth 20000 in
theorem en_X12_layAll {M : Mem} {K : Mem → Prop} 
    (h : AW mX12_layAll 2 [some (vR 50), some (vI 0), none, none, none, none] [] M (QV K)) :
    CV mX12_layAll [vR 50] M K := by
  show AW mX12_layAll 0 [some (vR 50), none, none, none, none, none] [] M (QV K)
  refine AW.iconst (pc := 0) dX12_layAll_0 ?_
  refine AW.istore_n (pc := 1) (ls2 := [some (vR 50), some (vI 0), none, none, none, none]) dX12_layAll_1 (by decide) rfl ?_
  exact h

set_option maxRecDepth 20000 in
theorem sg_X12_layAll_2 {M : Mem} {K : Mem → Prop} {v1 : Int} 
    (h : InR v1 ∧ (v1 ≥ 4 → (AW mX12_layAll 22 [some (vR 50), some (vI 0), none, none, none, none] [] M (QV K))) ∧ (¬ (v1 ≥ 4) → ((0 ≤ v1 ∧ v1 < 4) ∧ AW mX12_layAll 2 [some (vR 50), some (vI (v1 + 1)), none, none, none, none] [] (up M 61 v1 0) (QV K)))) :
    AW mX12_layAll 2 [some (vR 50), some (vI v1), none, none, none, none] [] M (QV K) := by
  refine AW.iload_n (pc := 2) (x := v1) dX12_layAll_2 rfl ?_
  refine AW.iconst (pc := 3) dX12_layAll_3 ?_
  obtain ⟨o, ha, hb⟩ := h
  refine AW.icmp_ge (pc := 4) (tgt := 20) dX12_layAll_4 (by decide) o (by decide) (fun hc => ?_) (fun hc => ?_)
  · have h := ha hc
    refine AW.iconst (pc := 20) dX12_layAll_20 ?_
    refine AW.istore_n (pc := 21) (ls2 := [some (vR 50), some (vI 0), none, none, none, none]) dX12_layAll_21 (by decide) rfl ?_
    exact h
  · have h := hb hc
    refine AW.aload_n (pc := 7) (x := 50) dX12_layAll_7 rfl ?_
    refine AW.getR (pc := 8) (h2 := 61) dX12_layAll_8 fg_X12_40 kd_50 hl_50 rfl ?_
    refine AW.iload_n (pc := 11) (x := v1) dX12_layAll_11 rfl ?_
    refine AW.iconst (pc := 12) dX12_layAll_12 ?_
    obtain ⟨o, h⟩ := h
    refine AW.iast (pc := 13) dX12_layAll_13 kd_61 hl_61 o ?_
    refine AW.iinc (pc := 14) (x := v1) (ls2 := [some (vR 50), some (vI (v1 + 1)), none, none, none, none]) dX12_layAll_14 rfl (by decide) rfl ?_
    refine AW.goto (pc := 17) (tgt := 2) dX12_layAll_17 (by decide) ?_
    exact h

set_option maxRecDepth 20000 in
theorem sg_X12_layAll_22 {M : Mem} {K : Mem → Prop} {v1 : Int} 
    (h : InR v1 ∧ (v1 ≥ 4 → (K M)) ∧ (¬ (v1 ≥ 4) → (AW mX12_layAll 29 [some (vR 50), some (vI v1), some (vI 0), none, none, none] [] M (QV K)))) :
    AW mX12_layAll 22 [some (vR 50), some (vI v1), none, none, none, none] [] M (QV K) := by
  refine AW.iload_n (pc := 22) (x := v1) dX12_layAll_22 rfl ?_
  refine AW.iconst (pc := 23) dX12_layAll_23 ?_
  obtain ⟨o, ha, hb⟩ := h
  refine AW.icmp_ge (pc := 24) (tgt := 104) dX12_layAll_24 (by decide) o (by decide) (fun hc => ?_) (fun hc => ?_)
  · have h := ha hc
    exact AW.vret (st := []) (pc := 104) dX12_layAll_104 rfl ⟨rfl, h⟩
  · have h := hb hc
    refine AW.iconst (pc := 27) dX12_layAll_27 ?_
    refine AW.istore_n (pc := 28) (ls2 := [some (vR 50), some (vI v1), some (vI 0), none, none, none]) dX12_layAll_28 (by decide) rfl ?_
    exact h

set_option maxRecDepth 20000 in
theorem sg_X12_layAll_29 {M : Mem} {K : Mem → Prop} {v1 v2 : Int} 
    (h : (InR v2 ∧ InR (M 50 0)) ∧ (v2 ≥ (M 50 0) → (AW mX12_layAll 22 [some (vR 50), some (vI (v1 + 1)), none, none, none, none] [] M (QV K))) ∧ (¬ (v2 ≥ (M 50 0)) → (AW mX12_layAll 42 [some (vR 50), some (vI v1), some (vI v2), some (vL 0), none, some (vI 0)] [] M (QV K)))) :
    AW mX12_layAll 29 [some (vR 50), some (vI v1), some (vI v2), none, none, none] [] M (QV K) := by
  refine AW.iload_n (pc := 29) (x := v2) dX12_layAll_29 rfl ?_
  refine AW.aload_n (pc := 30) (x := 50) dX12_layAll_30 rfl ?_
  refine AW.getI (pc := 31) dX12_layAll_31 fg_X12_113 kd_50 hl_50 rfl ?_
  obtain ⟨o, ha, hb⟩ := h
  refine AW.icmp_ge (pc := 34) (tgt := 98) dX12_layAll_34 (by decide) o.1 o.2 (fun hc => ?_) (fun hc => ?_)
  · have h := ha hc
    refine AW.iinc (pc := 98) (x := v1) (ls2 := [some (vR 50), some (vI (v1 + 1)), some (vI v2), none, none, none]) dX12_layAll_98 rfl (by decide) rfl ?_
    refine AW.goto (pc := 101) (tgt := 22) dX12_layAll_101 (by decide) ?_
    exact AW.weak (ls2 := [some (vR 50), some (vI (v1 + 1)), none, none, none, none]) (by simp [lsub]) h
  · have h := hb hc
    refine AW.lconst (pc := 37) (n := 0) dX12_layAll_37 (by decide) ?_
    refine AW.lstore_n (pc := 38) (ls2 := [some (vR 50), some (vI v1), some (vI v2), some (vL 0), none, none]) dX12_layAll_38 (by decide) rfl ?_
    refine AW.iconst (pc := 39) dX12_layAll_39 ?_
    refine AW.istore (pc := 40) (ls2 := [some (vR 50), some (vI v1), some (vI v2), some (vL 0), none, some (vI 0)]) dX12_layAll_40 (by decide) rfl ?_
    exact h

set_option maxRecDepth 20000 in
theorem sg_X12_layAll_42 {M : Mem} {K : Mem → Prop} {v1 v2 v3 v5 : Int} 
    (h : (InR v5 ∧ InR (M 50 1)) ∧ (v5 ≥ (M 50 1) → (CI mX12_capped [vL v3] M (fun r88 M88 => (0 ≤ v2 ∧ v2 < 4) ∧ AW mX12_layAll 29 [some (vR 50), some (vI v1), some (vI (v2 + 1)), none, none, none] [] (up M88 61 v2 r88) (QV K)))) ∧ (¬ (v5 ≥ (M 50 1)) → ((0 ≤ v5 ∧ v5 < 12) ∧ (InR (M 51 v5) ∧ InR v2) ∧ ((M 51 v5) ≠ v2 → (AW mX12_layAll 42 [some (vR 50), some (vI v1), some (vI v2), some (vL (v3 + 0)), none, some (vI (v5 + 1))] [] M (QV K))) ∧ (¬ ((M 51 v5) ≠ v2) → (CI mX12_allBy [vR 50, vI v5] M (fun r66 M66 => InR r66 ∧ AW mX12_layAll 42 [some (vR 50), some (vI v1), some (vI v2), some (vL (v3 + r66)), none, some (vI (v5 + 1))] [] M66 (QV K))))))) :
    AW mX12_layAll 42 [some (vR 50), some (vI v1), some (vI v2), some (vL v3), none, some (vI v5)] [] M (QV K) := by
  refine AW.iload (pc := 42) (x := v5) dX12_layAll_42 rfl ?_
  refine AW.aload_n (pc := 44) (x := 50) dX12_layAll_44 rfl ?_
  refine AW.getI (pc := 45) dX12_layAll_45 fg_X12_121 kd_50 hl_50 rfl ?_
  obtain ⟨o, ha, hb⟩ := h
  refine AW.icmp_ge (pc := 48) (tgt := 82) dX12_layAll_48 (by decide) o.1 o.2 (fun hc => ?_) (fun hc => ?_)
  · have h := ha hc
    refine AW.aload_n (pc := 82) (x := 50) dX12_layAll_82 rfl ?_
    refine AW.getR (pc := 83) (h2 := 61) dX12_layAll_83 fg_X12_40 kd_50 hl_50 rfl ?_
    refine AW.iload_n (pc := 86) (x := v2) dX12_layAll_86 rfl ?_
    refine AW.lload_n (pc := 87) (x := v3) dX12_layAll_87 rfl ?_
    refine AW.callS (pc := 88) (As := [vL v3]) (st := [vI v2, vR 61]) dX12_layAll_88 cl_X12_147 ⟨Nat.le_of_ble_eq_true rfl, Nat.le_of_ble_eq_true rfl⟩ (Nat.le_of_ble_eq_true rfl) (Nat.le_of_ble_eq_true rfl) h ?_
    rintro _ M88 ⟨r88, rfl, h⟩
    show AW mX12_layAll 91 [some (vR 50), some (vI v1), some (vI v2), some (vL v3), none, some (vI v5)] [vI r88, vI v2, vR 61] M88 (QV K)
    obtain ⟨o, h⟩ := h
    refine AW.iast (pc := 91) dX12_layAll_91 kd_61 hl_61 o ?_
    refine AW.iinc (pc := 92) (x := v2) (ls2 := [some (vR 50), some (vI v1), some (vI (v2 + 1)), some (vL v3), none, some (vI v5)]) dX12_layAll_92 rfl (by decide) rfl ?_
    refine AW.goto (pc := 95) (tgt := 29) dX12_layAll_95 (by decide) ?_
    exact AW.weak (ls2 := [some (vR 50), some (vI v1), some (vI (v2 + 1)), none, none, none]) (by simp [lsub]) h
  · have h := hb hc
    refine AW.lload_n (pc := 51) (x := v3) dX12_layAll_51 rfl ?_
    refine AW.aload_n (pc := 52) (x := 50) dX12_layAll_52 rfl ?_
    refine AW.getR (pc := 53) (h2 := 51) dX12_layAll_53 fg_X12_7 kd_50 hl_50 rfl ?_
    refine AW.iload (pc := 56) (x := v5) dX12_layAll_56 rfl ?_
    obtain ⟨o, h⟩ := h
    refine AW.iald (pc := 58) dX12_layAll_58 kd_51 hl_51 o ?_
    refine AW.iload_n (pc := 59) (x := v2) dX12_layAll_59 rfl ?_
    obtain ⟨o, ha, hb⟩ := h
    refine AW.icmp_ne (pc := 60) (tgt := 73) dX12_layAll_60 (by decide) o.1 o.2 (fun hc => ?_) (fun hc => ?_)
    · have h := ha hc
      refine AW.lconst (pc := 73) (n := 0) dX12_layAll_73 (by decide) ?_
      refine AW.ladd (pc := 74) dX12_layAll_74 ?_
      refine AW.lstore_n (pc := 75) (ls2 := [some (vR 50), some (vI v1), some (vI v2), some (vL (v3 + 0)), none, some (vI v5)]) dX12_layAll_75 (by decide) rfl ?_
      refine AW.iinc (pc := 76) (x := v5) (ls2 := [some (vR 50), some (vI v1), some (vI v2), some (vL (v3 + 0)), none, some (vI (v5 + 1))]) dX12_layAll_76 rfl (by decide) rfl ?_
      refine AW.goto (pc := 79) (tgt := 42) dX12_layAll_79 (by decide) ?_
      exact h
    · have h := hb hc
      refine AW.aload_n (pc := 63) (x := 50) dX12_layAll_63 rfl ?_
      refine AW.iload (pc := 64) (x := v5) dX12_layAll_64 rfl ?_
      refine AW.callV (pc := 66) (As := [vI v5]) (st := [vL v3]) dX12_layAll_66 cl_X12_144 kd_50 hl_50 ⟨Nat.le_of_ble_eq_true rfl, Nat.le_of_ble_eq_true rfl⟩ (Nat.le_of_ble_eq_true rfl) (Nat.le_of_ble_eq_true rfl) h ?_
      rintro _ M66 ⟨r66, rfl, h⟩
      show AW mX12_layAll 69 [some (vR 50), some (vI v1), some (vI v2), some (vL v3), none, some (vI v5)] [vI r66, vL v3] M66 (QV K)
      obtain ⟨o, h⟩ := h
      refine AW.i2l (pc := 69) dX12_layAll_69 o ?_
      refine AW.goto (pc := 70) (tgt := 74) dX12_layAll_70 (by decide) ?_
      refine AW.ladd (pc := 74) dX12_layAll_74 ?_
      refine AW.lstore_n (pc := 75) (ls2 := [some (vR 50), some (vI v1), some (vI v2), some (vL (v3 + r66)), none, some (vI v5)]) dX12_layAll_75 (by decide) rfl ?_
      refine AW.iinc (pc := 76) (x := v5) (ls2 := [some (vR 50), some (vI v1), some (vI v2), some (vL (v3 + r66)), none, some (vI (v5 + 1))]) dX12_layAll_76 rfl (by decide) rfl ?_
      refine AW.goto (pc := 79) (tgt := 42) dX12_layAll_79 (by decide) ?_
      exact h

set_option maxRecDepth 20000 in
theorem en_X12_layCounts {M : Mem} {K : Mem → Prop} 
    (h : AW mX12_layCounts 2 [some (vR 50), some (vI 0), none, none] [] M (QV K)) :
    CV mX12_layCounts [vR 50] M K := by
  show AW mX12_layCounts 0 [some (vR 50), none, none, none] [] M (QV K)
  refine AW.iconst (pc := 0) dX12_layCounts_0 ?_
  refine AW.istore_n (pc := 1) (ls2 := [some (vR 50), some (vI 0), none, none]) dX12_layCounts_1 (by decide) rfl ?_
  exact h

set_option maxRecDepth 20000 in
theorem sg_X12_layCounts_2 {M : Mem} {K : Mem → Prop} {v1 : Int} 
    (h : InR v1 ∧ (v1 ≥ 52 → (AW mX12_layCounts 23 [some (vR 50), some (vI 1), none, none] [] M (QV K))) ∧ (¬ (v1 ≥ 52) → ((0 ≤ v1 ∧ v1 < 52) ∧ AW mX12_layCounts 2 [some (vR 50), some (vI (v1 + 1)), none, none] [] (up M 63 v1 0) (QV K)))) :
    AW mX12_layCounts 2 [some (vR 50), some (vI v1), none, none] [] M (QV K) := by
  refine AW.iload_n (pc := 2) (x := v1) dX12_layCounts_2 rfl ?_
  refine AW.bipush (pc := 3) dX12_layCounts_3 (by decide) ?_
  obtain ⟨o, ha, hb⟩ := h
  refine AW.icmp_ge (pc := 5) (tgt := 21) dX12_layCounts_5 (by decide) o (by decide) (fun hc => ?_) (fun hc => ?_)
  · have h := ha hc
    refine AW.iconst (pc := 21) dX12_layCounts_21 ?_
    refine AW.istore_n (pc := 22) (ls2 := [some (vR 50), some (vI 1), none, none]) dX12_layCounts_22 (by decide) rfl ?_
    exact h
  · have h := hb hc
    refine AW.aload_n (pc := 8) (x := 50) dX12_layCounts_8 rfl ?_
    refine AW.getR (pc := 9) (h2 := 63) dX12_layCounts_9 fg_X12_47 kd_50 hl_50 rfl ?_
    refine AW.iload_n (pc := 12) (x := v1) dX12_layCounts_12 rfl ?_
    refine AW.iconst (pc := 13) dX12_layCounts_13 ?_
    obtain ⟨o, h⟩ := h
    refine AW.iast (pc := 14) dX12_layCounts_14 kd_63 hl_63 o ?_
    refine AW.iinc (pc := 15) (x := v1) (ls2 := [some (vR 50), some (vI (v1 + 1)), none, none]) dX12_layCounts_15 rfl (by decide) rfl ?_
    refine AW.goto (pc := 18) (tgt := 2) dX12_layCounts_18 (by decide) ?_
    exact h

set_option maxRecDepth 20000 in
theorem sg_X12_layCounts_23 {M : Mem} {K : Mem → Prop} {v1 : Int} 
    (h : InR v1 ∧ (v1 > 12 → (K M)) ∧ (¬ (v1 > 12) → (AW mX12_layCounts 31 [some (vR 50), some (vI v1), some (vI 0), none] [] M (QV K)))) :
    AW mX12_layCounts 23 [some (vR 50), some (vI v1), none, none] [] M (QV K) := by
  refine AW.iload_n (pc := 23) (x := v1) dX12_layCounts_23 rfl ?_
  refine AW.bipush (pc := 24) dX12_layCounts_24 (by decide) ?_
  obtain ⟨o, ha, hb⟩ := h
  refine AW.icmp_gt (pc := 26) (tgt := 118) dX12_layCounts_26 (by decide) o (by decide) (fun hc => ?_) (fun hc => ?_)
  · have h := ha hc
    exact AW.vret (st := []) (pc := 118) dX12_layCounts_118 rfl ⟨rfl, h⟩
  · have h := hb hc
    refine AW.iconst (pc := 29) dX12_layCounts_29 ?_
    refine AW.istore_n (pc := 30) (ls2 := [some (vR 50), some (vI v1), some (vI 0), none]) dX12_layCounts_30 (by decide) rfl ?_
    exact h

set_option maxRecDepth 20000 in
theorem sg_X12_layCounts_31 {M : Mem} {K : Mem → Prop} {v1 v2 : Int} 
    (h : (InR v2 ∧ InR (M 50 1)) ∧ (v2 ≥ (M 50 1) → (AW mX12_layCounts 55 [some (vR 50), some (vI v1), some (vI 0), none] [] M (QV K))) ∧ (¬ (v2 ≥ (M 50 1)) → (CV mX12_layWays [vR 50, vI v2, vI (v1 - 1)] M (fun M44 => AW mX12_layCounts 31 [some (vR 50), some (vI v1), some (vI (v2 + 1)), none] [] M44 (QV K))))) :
    AW mX12_layCounts 31 [some (vR 50), some (vI v1), some (vI v2), none] [] M (QV K) := by
  refine AW.iload_n (pc := 31) (x := v2) dX12_layCounts_31 rfl ?_
  refine AW.aload_n (pc := 32) (x := 50) dX12_layCounts_32 rfl ?_
  refine AW.getI (pc := 33) dX12_layCounts_33 fg_X12_121 kd_50 hl_50 rfl ?_
  obtain ⟨o, ha, hb⟩ := h
  refine AW.icmp_ge (pc := 36) (tgt := 53) dX12_layCounts_36 (by decide) o.1 o.2 (fun hc => ?_) (fun hc => ?_)
  · have h := ha hc
    refine AW.iconst (pc := 53) dX12_layCounts_53 ?_
    refine AW.istore_n (pc := 54) (ls2 := [some (vR 50), some (vI v1), some (vI 0), none]) dX12_layCounts_54 (by decide) rfl ?_
    exact h
  · have h := hb hc
    refine AW.aload_n (pc := 39) (x := 50) dX12_layCounts_39 rfl ?_
    refine AW.iload_n (pc := 40) (x := v2) dX12_layCounts_40 rfl ?_
    refine AW.iload_n (pc := 41) (x := v1) dX12_layCounts_41 rfl ?_
    refine AW.iconst (pc := 42) dX12_layCounts_42 ?_
    refine AW.isub (pc := 43) dX12_layCounts_43 ?_
    refine AW.callV (pc := 44) (As := [vI v2, vI (v1 - 1)]) (st := []) dX12_layCounts_44 cl_X12_168 kd_50 hl_50 ⟨Nat.le_of_ble_eq_true rfl, Nat.le_of_ble_eq_true rfl⟩ (Nat.le_of_ble_eq_true rfl) (Nat.le_of_ble_eq_true rfl) h ?_
    rintro _ M44 ⟨rfl, h⟩
    show AW mX12_layCounts 47 [some (vR 50), some (vI v1), some (vI v2), none] [] M44 (QV K)
    refine AW.iinc (pc := 47) (x := v2) (ls2 := [some (vR 50), some (vI v1), some (vI (v2 + 1)), none]) dX12_layCounts_47 rfl (by decide) rfl ?_
    refine AW.goto (pc := 50) (tgt := 31) dX12_layCounts_50 (by decide) ?_
    exact h

set_option maxRecDepth 20000 in
theorem sg_X12_layCounts_55 {M : Mem} {K : Mem → Prop} {v1 v2 : Int} 
    (h : (InR v2 ∧ InR (M 50 1)) ∧ (v2 ≥ (M 50 1) → (AW mX12_layCounts 23 [some (vR 50), some (vI (v1 + 1)), none, none] [] M (QV K))) ∧ (¬ (v2 ≥ (M 50 1)) → ((0 ≤ v2 ∧ v2 < 12) ∧ (0 ≤ ((13 * (M 51 v2)) + v1) ∧ ((13 * (M 51 v2)) + v1) < 52) ∧ InR (M 63 ((13 * (M 51 v2)) + v1)) ∧ CI mX12_way [vI v2, vI 0, vI (v1 - 1)] M (fun r96 M96 => (0 ≤ r96 ∧ r96 < 624) ∧ InR (M96 64 r96) ∧ CI mX12_capped [vL ((M 63 ((13 * (M 51 v2)) + v1)) + (M96 64 r96))] M96 (fun r102 M102 => (0 ≤ ((13 * (M 51 v2)) + v1) ∧ ((13 * (M 51 v2)) + v1) < 52) ∧ AW mX12_layCounts 55 [some (vR 50), some (vI v1), some (vI (v2 + 1)), none] [] (up M102 63 ((13 * (M 51 v2)) + v1) r102) (QV K)))))) :
    AW mX12_layCounts 55 [some (vR 50), some (vI v1), some (vI v2), none] [] M (QV K) := by
  refine AW.iload_n (pc := 55) (x := v2) dX12_layCounts_55 rfl ?_
  refine AW.aload_n (pc := 56) (x := 50) dX12_layCounts_56 rfl ?_
  refine AW.getI (pc := 57) dX12_layCounts_57 fg_X12_121 kd_50 hl_50 rfl ?_
  obtain ⟨o, ha, hb⟩ := h
  refine AW.icmp_ge (pc := 60) (tgt := 112) dX12_layCounts_60 (by decide) o.1 o.2 (fun hc => ?_) (fun hc => ?_)
  · have h := ha hc
    refine AW.iinc (pc := 112) (x := v1) (ls2 := [some (vR 50), some (vI (v1 + 1)), some (vI v2), none]) dX12_layCounts_112 rfl (by decide) rfl ?_
    refine AW.goto (pc := 115) (tgt := 23) dX12_layCounts_115 (by decide) ?_
    exact AW.weak (ls2 := [some (vR 50), some (vI (v1 + 1)), none, none]) (by simp [lsub]) h
  · have h := hb hc
    refine AW.bipush (pc := 63) dX12_layCounts_63 (by decide) ?_
    refine AW.aload_n (pc := 65) (x := 50) dX12_layCounts_65 rfl ?_
    refine AW.getR (pc := 66) (h2 := 51) dX12_layCounts_66 fg_X12_7 kd_50 hl_50 rfl ?_
    refine AW.iload_n (pc := 69) (x := v2) dX12_layCounts_69 rfl ?_
    obtain ⟨o, h⟩ := h
    refine AW.iald (pc := 70) dX12_layCounts_70 kd_51 hl_51 o ?_
    refine AW.imul (pc := 71) dX12_layCounts_71 ?_
    refine AW.iload_n (pc := 72) (x := v1) dX12_layCounts_72 rfl ?_
    refine AW.iadd (pc := 73) dX12_layCounts_73 ?_
    refine AW.istore_n (pc := 74) (ls2 := [some (vR 50), some (vI v1), some (vI v2), some (vI ((13 * (M 51 v2)) + v1))]) dX12_layCounts_74 (by decide) rfl ?_
    refine AW.aload_n (pc := 75) (x := 50) dX12_layCounts_75 rfl ?_
    refine AW.getR (pc := 76) (h2 := 63) dX12_layCounts_76 fg_X12_47 kd_50 hl_50 rfl ?_
    refine AW.iload_n (pc := 79) (x := ((13 * (M 51 v2)) + v1)) dX12_layCounts_79 rfl ?_
    refine AW.aload_n (pc := 80) (x := 50) dX12_layCounts_80 rfl ?_
    refine AW.getR (pc := 81) (h2 := 63) dX12_layCounts_81 fg_X12_47 kd_50 hl_50 rfl ?_
    refine AW.iload_n (pc := 84) (x := ((13 * (M 51 v2)) + v1)) dX12_layCounts_84 rfl ?_
    obtain ⟨o, h⟩ := h
    refine AW.iald (pc := 85) dX12_layCounts_85 kd_63 hl_63 o ?_
    obtain ⟨o, h⟩ := h
    refine AW.i2l (pc := 86) dX12_layCounts_86 o ?_
    refine AW.aload_n (pc := 87) (x := 50) dX12_layCounts_87 rfl ?_
    refine AW.getR (pc := 88) (h2 := 64) dX12_layCounts_88 fg_X12_50 kd_50 hl_50 rfl ?_
    refine AW.iload_n (pc := 91) (x := v2) dX12_layCounts_91 rfl ?_
    refine AW.iconst (pc := 92) dX12_layCounts_92 ?_
    refine AW.iload_n (pc := 93) (x := v1) dX12_layCounts_93 rfl ?_
    refine AW.iconst (pc := 94) dX12_layCounts_94 ?_
    refine AW.isub (pc := 95) dX12_layCounts_95 ?_
    refine AW.callS (pc := 96) (As := [vI v2, vI 0, vI (v1 - 1)]) (st := [vR 64, vL (M 63 ((13 * (M 51 v2)) + v1)), vI ((13 * (M 51 v2)) + v1), vR 63]) dX12_layCounts_96 cl_X12_160 ⟨Nat.le_of_ble_eq_true rfl, Nat.le_of_ble_eq_true rfl⟩ (Nat.le_of_ble_eq_true rfl) (Nat.le_of_ble_eq_true rfl) h ?_
    rintro _ M96 ⟨r96, rfl, h⟩
    show AW mX12_layCounts 99 [some (vR 50), some (vI v1), some (vI v2), some (vI ((13 * (M 51 v2)) + v1))] [vI r96, vR 64, vL (M 63 ((13 * (M 51 v2)) + v1)), vI ((13 * (M 51 v2)) + v1), vR 63] M96 (QV K)
    obtain ⟨o, h⟩ := h
    refine AW.iald (pc := 99) dX12_layCounts_99 kd_64 hl_64 o ?_
    obtain ⟨o, h⟩ := h
    refine AW.i2l (pc := 100) dX12_layCounts_100 o ?_
    refine AW.ladd (pc := 101) dX12_layCounts_101 ?_
    refine AW.callS (pc := 102) (As := [vL ((M 63 ((13 * (M 51 v2)) + v1)) + (M96 64 r96))]) (st := [vI ((13 * (M 51 v2)) + v1), vR 63]) dX12_layCounts_102 cl_X12_147 ⟨Nat.le_of_ble_eq_true rfl, Nat.le_of_ble_eq_true rfl⟩ (Nat.le_of_ble_eq_true rfl) (Nat.le_of_ble_eq_true rfl) h ?_
    rintro _ M102 ⟨r102, rfl, h⟩
    show AW mX12_layCounts 105 [some (vR 50), some (vI v1), some (vI v2), some (vI ((13 * (M 51 v2)) + v1))] [vI r102, vI ((13 * (M 51 v2)) + v1), vR 63] M102 (QV K)
    obtain ⟨o, h⟩ := h
    refine AW.iast (pc := 105) dX12_layCounts_105 kd_63 hl_63 o ?_
    refine AW.iinc (pc := 106) (x := v2) (ls2 := [some (vR 50), some (vI v1), some (vI (v2 + 1)), some (vI ((13 * (M 51 v2)) + v1))]) dX12_layCounts_106 rfl (by decide) rfl ?_
    refine AW.goto (pc := 109) (tgt := 55) dX12_layCounts_109 (by decide) ?_
    exact AW.weak (ls2 := [some (vR 50), some (vI v1), some (vI (v2 + 1)), none]) (by simp [lsub]) h

set_option maxRecDepth 20000 in
theorem en_X12_layParts {M : Mem} {K : Mem → Prop} 
    (h : AW mX12_layParts 7 [some (vR 50), some (vI ((M 50 21) - 1)), none, none] [] M (QV K)) :
    CV mX12_layParts [vR 50] M K := by
  show AW mX12_layParts 0 [some (vR 50), none, none, none] [] M (QV K)
  refine AW.aload_n (pc := 0) (x := 50) dX12_layParts_0 rfl ?_
  refine AW.getI (pc := 1) dX12_layParts_1 fg_X12_179 kd_50 hl_50 rfl ?_
  refine AW.iconst (pc := 4) dX12_layParts_4 ?_
  refine AW.isub (pc := 5) dX12_layParts_5 ?_
  refine AW.istore_n (pc := 6) (ls2 := [some (vR 50), some (vI ((M 50 21) - 1)), none, none]) dX12_layParts_6 (by decide) rfl ?_
  exact h

set_option maxRecDepth 20000 in
theorem sg_X12_layParts_7 {M : Mem} {K : Mem → Prop} {v1 : Int} 
    (h : InR v1 ∧ (v1 < 0 → (K M)) ∧ (¬ (v1 < 0) → (AW mX12_layParts 17 [some (vR 50), some (vI v1), some (vI (v1 + 1)), some (vI 0)] [] M (QV K)))) :
    AW mX12_layParts 7 [some (vR 50), some (vI v1), none, none] [] M (QV K) := by
  refine AW.iload_n (pc := 7) (x := v1) dX12_layParts_7 rfl ?_
  obtain ⟨o, ha, hb⟩ := h
  refine AW.if_lt (pc := 8) (tgt := 62) dX12_layParts_8 (by decide) o (fun hc => ?_) (fun hc => ?_)
  · have h := ha hc
    exact AW.vret (st := []) (pc := 62) dX12_layParts_62 rfl ⟨rfl, h⟩
  · have h := hb hc
    refine AW.iload_n (pc := 11) (x := v1) dX12_layParts_11 rfl ?_
    refine AW.iconst (pc := 12) dX12_layParts_12 ?_
    refine AW.iadd (pc := 13) dX12_layParts_13 ?_
    refine AW.istore_n (pc := 14) (ls2 := [some (vR 50), some (vI v1), some (vI (v1 + 1)), none]) dX12_layParts_14 (by decide) rfl ?_
    refine AW.iconst (pc := 15) dX12_layParts_15 ?_
    refine AW.istore_n (pc := 16) (ls2 := [some (vR 50), some (vI v1), some (vI (v1 + 1)), some (vI 0)]) dX12_layParts_16 (by decide) rfl ?_
    exact h

set_option maxRecDepth 20000 in
theorem sg_X12_layParts_17 {M : Mem} {K : Mem → Prop} {v1 v2 v3 : Int} 
    (h : (0 ≤ v1 ∧ v1 < 64) ∧ (0 ≤ (M 65 v1) ∧ (M 65 v1) < 12) ∧ (InR v3 ∧ InR (M 52 (M 65 v1))) ∧ (v3 ≥ (M 52 (M 65 v1)) → ((0 ≤ v1 ∧ v1 < 64) ∧ AW mX12_layParts 7 [some (vR 50), some (vI (v1 + (-1))), none, none] [] (up M 66 v1 (v2 - v1)) (QV K))) ∧ (¬ (v3 ≥ (M 52 (M 65 v1))) → ((0 ≤ v2 ∧ v2 < 64) ∧ AW mX12_layParts 17 [some (vR 50), some (vI v1), some (vI (v2 + (M 66 v2))), some (vI (v3 + 1))] [] M (QV K)))) :
    AW mX12_layParts 17 [some (vR 50), some (vI v1), some (vI v2), some (vI v3)] [] M (QV K) := by
  refine AW.iload_n (pc := 17) (x := v3) dX12_layParts_17 rfl ?_
  refine AW.aload_n (pc := 18) (x := 50) dX12_layParts_18 rfl ?_
  refine AW.getR (pc := 19) (h2 := 52) dX12_layParts_19 fg_X12_13 kd_50 hl_50 rfl ?_
  refine AW.aload_n (pc := 22) (x := 50) dX12_layParts_22 rfl ?_
  refine AW.getR (pc := 23) (h2 := 65) dX12_layParts_23 fg_X12_53 kd_50 hl_50 rfl ?_
  refine AW.iload_n (pc := 26) (x := v1) dX12_layParts_26 rfl ?_
  obtain ⟨o, h⟩ := h
  refine AW.iald (pc := 27) dX12_layParts_27 kd_65 hl_65 o ?_
  obtain ⟨o, h⟩ := h
  refine AW.iald (pc := 28) dX12_layParts_28 kd_52 hl_52 o ?_
  obtain ⟨o, ha, hb⟩ := h
  refine AW.icmp_ge (pc := 29) (tgt := 47) dX12_layParts_29 (by decide) o.1 o.2 (fun hc => ?_) (fun hc => ?_)
  · have h := ha hc
    refine AW.aload_n (pc := 47) (x := 50) dX12_layParts_47 rfl ?_
    refine AW.getR (pc := 48) (h2 := 66) dX12_layParts_48 fg_X12_56 kd_50 hl_50 rfl ?_
    refine AW.iload_n (pc := 51) (x := v1) dX12_layParts_51 rfl ?_
    refine AW.iload_n (pc := 52) (x := v2) dX12_layParts_52 rfl ?_
    refine AW.iload_n (pc := 53) (x := v1) dX12_layParts_53 rfl ?_
    refine AW.isub (pc := 54) dX12_layParts_54 ?_
    obtain ⟨o, h⟩ := h
    refine AW.iast (pc := 55) dX12_layParts_55 kd_66 hl_66 o ?_
    refine AW.iinc (pc := 56) (x := v1) (ls2 := [some (vR 50), some (vI (v1 + (-1))), some (vI v2), some (vI v3)]) dX12_layParts_56 rfl (by decide) rfl ?_
    refine AW.goto (pc := 59) (tgt := 7) dX12_layParts_59 (by decide) ?_
    exact AW.weak (ls2 := [some (vR 50), some (vI (v1 + (-1))), none, none]) (by simp [lsub]) h
  · have h := hb hc
    refine AW.iload_n (pc := 32) (x := v2) dX12_layParts_32 rfl ?_
    refine AW.aload_n (pc := 33) (x := 50) dX12_layParts_33 rfl ?_
    refine AW.getR (pc := 34) (h2 := 66) dX12_layParts_34 fg_X12_56 kd_50 hl_50 rfl ?_
    refine AW.iload_n (pc := 37) (x := v2) dX12_layParts_37 rfl ?_
    obtain ⟨o, h⟩ := h
    refine AW.iald (pc := 38) dX12_layParts_38 kd_66 hl_66 o ?_
    refine AW.iadd (pc := 39) dX12_layParts_39 ?_
    refine AW.istore_n (pc := 40) (ls2 := [some (vR 50), some (vI v1), some (vI (v2 + (M 66 v2))), some (vI v3)]) dX12_layParts_40 (by decide) rfl ?_
    refine AW.iinc (pc := 41) (x := v3) (ls2 := [some (vR 50), some (vI v1), some (vI (v2 + (M 66 v2))), some (vI (v3 + 1))]) dX12_layParts_41 rfl (by decide) rfl ?_
    refine AW.goto (pc := 44) (tgt := 17) dX12_layParts_44 (by decide) ?_
    exact h

set_option maxRecDepth 20000 in
theorem en_X12_layRanks {M : Mem} {K : Mem → Prop} 
    (h : CV mX12_layCounts [vR 50] M (fun M1 => AW mX12_layRanks 6 [some (vR 50), some (vI 1), none] [] M1 (QV K))) :
    CV mX12_layRanks [vR 50] M K := by
  show AW mX12_layRanks 0 [some (vR 50), none, none] [] M (QV K)
  refine AW.aload_n (pc := 0) (x := 50) dX12_layRanks_0 rfl ?_
  refine AW.callV (pc := 1) (As := []) (st := []) dX12_layRanks_1 cl_X12_172 kd_50 hl_50 ⟨Nat.le_of_ble_eq_true rfl, Nat.le_of_ble_eq_true rfl⟩ (Nat.le_of_ble_eq_true rfl) (Nat.le_of_ble_eq_true rfl) h ?_
  rintro _ M1 ⟨rfl, h⟩
  show AW mX12_layRanks 4 [some (vR 50), none, none] [] M1 (QV K)
  refine AW.iconst (pc := 4) dX12_layRanks_4 ?_
  refine AW.istore_n (pc := 5) (ls2 := [some (vR 50), some (vI 1), none]) dX12_layRanks_5 (by decide) rfl ?_
  exact h

set_option maxRecDepth 20000 in
theorem sg_X12_layRanks_6 {M : Mem} {K : Mem → Prop} {v1 : Int} 
    (h : InR v1 ∧ (v1 > 12 → (K M)) ∧ (¬ (v1 > 12) → (AW mX12_layRanks 14 [some (vR 50), some (vI v1), some (vI 0)] [] M (QV K)))) :
    AW mX12_layRanks 6 [some (vR 50), some (vI v1), none] [] M (QV K) := by
  refine AW.iload_n (pc := 6) (x := v1) dX12_layRanks_6 rfl ?_
  refine AW.bipush (pc := 7) dX12_layRanks_7 (by decide) ?_
  obtain ⟨o, ha, hb⟩ := h
  refine AW.icmp_gt (pc := 9) (tgt := 59) dX12_layRanks_9 (by decide) o (by decide) (fun hc => ?_) (fun hc => ?_)
  · have h := ha hc
    exact AW.vret (st := []) (pc := 59) dX12_layRanks_59 rfl ⟨rfl, h⟩
  · have h := hb hc
    refine AW.iconst (pc := 12) dX12_layRanks_12 ?_
    refine AW.istore_n (pc := 13) (ls2 := [some (vR 50), some (vI v1), some (vI 0)]) dX12_layRanks_13 (by decide) rfl ?_
    exact h

set_option maxRecDepth 20000 in
theorem sg_X12_layRanks_14 {M : Mem} {K : Mem → Prop} {v1 v2 : Int} 
    (h : (InR v2 ∧ InR (M 50 5)) ∧ (v2 ≥ (M 50 5) → (AW mX12_layRanks 6 [some (vR 50), some (vI (v1 + 1)), none] [] M (QV K))) ∧ (¬ (v2 ≥ (M 50 5)) → ((0 ≤ v2 ∧ v2 < 100) ∧ (InR (M 75 v2) ∧ InR v1) ∧ ((M 75 v2) ≠ v1 → (AW mX12_layRanks 47 [some (vR 50), some (vI v1), some (vI v2)] [] M (QV K))) ∧ (¬ ((M 75 v2) ≠ v1) → (CI mX12_resolved [vR 50, vI v2] M (fun r40 M40 => CI mX12_rankNow [vR 50, vI r40] M40 (fun r43 M43 => (0 ≤ v2 ∧ v2 < 100) ∧ AW mX12_layRanks 47 [some (vR 50), some (vI v1), some (vI v2)] [] (up M43 76 v2 r43) (QV K)))))))) :
    AW mX12_layRanks 14 [some (vR 50), some (vI v1), some (vI v2)] [] M (QV K) := by
  refine AW.iload_n (pc := 14) (x := v2) dX12_layRanks_14 rfl ?_
  refine AW.aload_n (pc := 15) (x := 50) dX12_layRanks_15 rfl ?_
  refine AW.getI (pc := 16) dX12_layRanks_16 fg_X12_124 kd_50 hl_50 rfl ?_
  obtain ⟨o, ha, hb⟩ := h
  refine AW.icmp_ge (pc := 19) (tgt := 53) dX12_layRanks_19 (by decide) o.1 o.2 (fun hc => ?_) (fun hc => ?_)
  · have h := ha hc
    refine AW.iinc (pc := 53) (x := v1) (ls2 := [some (vR 50), some (vI (v1 + 1)), some (vI v2)]) dX12_layRanks_53 rfl (by decide) rfl ?_
    refine AW.goto (pc := 56) (tgt := 6) dX12_layRanks_56 (by decide) ?_
    exact AW.weak (ls2 := [some (vR 50), some (vI (v1 + 1)), none]) (by simp [lsub]) h
  · have h := hb hc
    refine AW.aload_n (pc := 22) (x := 50) dX12_layRanks_22 rfl ?_
    refine AW.getR (pc := 23) (h2 := 75) dX12_layRanks_23 fg_X12_83 kd_50 hl_50 rfl ?_
    refine AW.iload_n (pc := 26) (x := v2) dX12_layRanks_26 rfl ?_
    obtain ⟨o, h⟩ := h
    refine AW.iald (pc := 27) dX12_layRanks_27 kd_75 hl_75 o ?_
    refine AW.iload_n (pc := 28) (x := v1) dX12_layRanks_28 rfl ?_
    obtain ⟨o, ha, hb⟩ := h
    refine AW.icmp_ne (pc := 29) (tgt := 47) dX12_layRanks_29 (by decide) o.1 o.2 (fun hc => ?_) (fun hc => ?_)
    · have h := ha hc
      exact h
    · have h := hb hc
      refine AW.aload_n (pc := 32) (x := 50) dX12_layRanks_32 rfl ?_
      refine AW.getR (pc := 33) (h2 := 76) dX12_layRanks_33 fg_X12_86 kd_50 hl_50 rfl ?_
      refine AW.iload_n (pc := 36) (x := v2) dX12_layRanks_36 rfl ?_
      refine AW.aload_n (pc := 37) (x := 50) dX12_layRanks_37 rfl ?_
      refine AW.aload_n (pc := 38) (x := 50) dX12_layRanks_38 rfl ?_
      refine AW.iload_n (pc := 39) (x := v2) dX12_layRanks_39 rfl ?_
      refine AW.callV (pc := 40) (As := [vI v2]) (st := [vR 50, vI v2, vR 76]) dX12_layRanks_40 cl_X12_205 kd_50 hl_50 ⟨Nat.le_of_ble_eq_true rfl, Nat.le_of_ble_eq_true rfl⟩ (Nat.le_of_ble_eq_true rfl) (Nat.le_of_ble_eq_true rfl) h ?_
      rintro _ M40 ⟨r40, rfl, h⟩
      show AW mX12_layRanks 43 [some (vR 50), some (vI v1), some (vI v2)] [vI r40, vR 50, vI v2, vR 76] M40 (QV K)
      refine AW.callV (pc := 43) (As := [vI r40]) (st := [vI v2, vR 76]) dX12_layRanks_43 cl_X12_217 kd_50 hl_50 ⟨Nat.le_of_ble_eq_true rfl, Nat.le_of_ble_eq_true rfl⟩ (Nat.le_of_ble_eq_true rfl) (Nat.le_of_ble_eq_true rfl) h ?_
      rintro _ M43 ⟨r43, rfl, h⟩
      show AW mX12_layRanks 46 [some (vR 50), some (vI v1), some (vI v2)] [vI r43, vI v2, vR 76] M43 (QV K)
      obtain ⟨o, h⟩ := h
      refine AW.iast (pc := 46) dX12_layRanks_46 kd_76 hl_76 o ?_
      exact h

set_option maxRecDepth 20000 in
theorem sg_X12_layRanks_47 {M : Mem} {K : Mem → Prop} {v1 v2 : Int} 
    (h : AW mX12_layRanks 14 [some (vR 50), some (vI v1), some (vI (v2 + 1))] [] M (QV K)) :
    AW mX12_layRanks 47 [some (vR 50), some (vI v1), some (vI v2)] [] M (QV K) := by
  refine AW.iinc (pc := 47) (x := v2) (ls2 := [some (vR 50), some (vI v1), some (vI (v2 + 1))]) dX12_layRanks_47 rfl (by decide) rfl ?_
  refine AW.goto (pc := 50) (tgt := 14) dX12_layRanks_50 (by decide) ?_
  exact h

set_option maxRecDepth 20000 in
theorem en_X12_laySizes {M : Mem} {K : Mem → Prop} 
    (h : AW mX12_laySizes 2 [some (vR 50), some (vI 0), none] [] M (QV K)) :
    CV mX12_laySizes [vR 50] M K := by
  show AW mX12_laySizes 0 [some (vR 50), none, none] [] M (QV K)
  refine AW.iconst (pc := 0) dX12_laySizes_0 ?_
  refine AW.istore_n (pc := 1) (ls2 := [some (vR 50), some (vI 0), none]) dX12_laySizes_1 (by decide) rfl ?_
  exact h

set_option maxRecDepth 20000 in
theorem sg_X12_laySizes_2 {M : Mem} {K : Mem → Prop} {v1 : Int} 
    (h : (InR v1 ∧ InR (M 50 5)) ∧ (v1 ≥ (M 50 5) → (AW mX12_laySizes 25 [some (vR 50), some (vI 1), none] [] M (QV K))) ∧ (¬ (v1 ≥ (M 50 5)) → ((0 ≤ v1 ∧ v1 < 100) ∧ AW mX12_laySizes 2 [some (vR 50), some (vI (v1 + 1)), none] [] (up M 75 v1 0) (QV K)))) :
    AW mX12_laySizes 2 [some (vR 50), some (vI v1), none] [] M (QV K) := by
  refine AW.iload_n (pc := 2) (x := v1) dX12_laySizes_2 rfl ?_
  refine AW.aload_n (pc := 3) (x := 50) dX12_laySizes_3 rfl ?_
  refine AW.getI (pc := 4) dX12_laySizes_4 fg_X12_124 kd_50 hl_50 rfl ?_
  obtain ⟨o, ha, hb⟩ := h
  refine AW.icmp_ge (pc := 7) (tgt := 23) dX12_laySizes_7 (by decide) o.1 o.2 (fun hc => ?_) (fun hc => ?_)
  · have h := ha hc
    refine AW.iconst (pc := 23) dX12_laySizes_23 ?_
    refine AW.istore_n (pc := 24) (ls2 := [some (vR 50), some (vI 1), none]) dX12_laySizes_24 (by decide) rfl ?_
    exact h
  · have h := hb hc
    refine AW.aload_n (pc := 10) (x := 50) dX12_laySizes_10 rfl ?_
    refine AW.getR (pc := 11) (h2 := 75) dX12_laySizes_11 fg_X12_83 kd_50 hl_50 rfl ?_
    refine AW.iload_n (pc := 14) (x := v1) dX12_laySizes_14 rfl ?_
    refine AW.iconst (pc := 15) dX12_laySizes_15 ?_
    obtain ⟨o, h⟩ := h
    refine AW.iast (pc := 16) dX12_laySizes_16 kd_75 hl_75 o ?_
    refine AW.iinc (pc := 17) (x := v1) (ls2 := [some (vR 50), some (vI (v1 + 1)), none]) dX12_laySizes_17 rfl (by decide) rfl ?_
    refine AW.goto (pc := 20) (tgt := 2) dX12_laySizes_20 (by decide) ?_
    exact h

set_option maxRecDepth 20000 in
theorem sg_X12_laySizes_25 {M : Mem} {K : Mem → Prop} {v1 : Int} 
    (h : InR v1 ∧ (v1 = 0 → (K M)) ∧ (¬ (v1 = 0) → (AW mX12_laySizes 33 [some (vR 50), some (vI 0), some (vI 0)] [] M (QV K)))) :
    AW mX12_laySizes 25 [some (vR 50), some (vI v1), none] [] M (QV K) := by
  refine AW.iload_n (pc := 25) (x := v1) dX12_laySizes_25 rfl ?_
  obtain ⟨o, ha, hb⟩ := h
  refine AW.if_eq (pc := 26) (tgt := 93) dX12_laySizes_26 (by decide) o (fun hc => ?_) (fun hc => ?_)
  · have h := ha hc
    exact AW.vret (st := []) (pc := 93) dX12_laySizes_93 rfl ⟨rfl, h⟩
  · have h := hb hc
    refine AW.iconst (pc := 29) dX12_laySizes_29 ?_
    refine AW.istore_n (pc := 30) (ls2 := [some (vR 50), some (vI 0), none]) dX12_laySizes_30 (by decide) rfl ?_
    refine AW.iconst (pc := 31) dX12_laySizes_31 ?_
    refine AW.istore_n (pc := 32) (ls2 := [some (vR 50), some (vI 0), some (vI 0)]) dX12_laySizes_32 (by decide) rfl ?_
    exact h

set_option maxRecDepth 20000 in
theorem sg_X12_laySizes_33 {M : Mem} {K : Mem → Prop} {v1 v2 : Int} 
    (h : (InR v2 ∧ InR (M 50 5)) ∧ (v2 ≥ (M 50 5) → (AW mX12_laySizes 25 [some (vR 50), some (vI v1), none] [] M (QV K))) ∧ (¬ (v2 ≥ (M 50 5)) → ((0 ≤ v2 ∧ v2 < 100) ∧ InR (M 75 v2) ∧ ((M 75 v2) ≠ 0 → (AW mX12_laySizes 84 [some (vR 50), some (vI v1), some (vI v2)] [] M (QV K))) ∧ (¬ ((M 75 v2) ≠ 0) → (CI mX12_resolved [vR 50, vI v2] M (fun r58 M58 => CI mX12_sizeNow [vR 50, vI r58] M58 (fun r61 M61 => (0 ≤ v2 ∧ v2 < 100) ∧ InR v1 ∧ (v1 ≠ 0 → (AW mX12_laySizes 78 [some (vR 50), some (vI v1), some (vI v2)] [] (up M61 75 v2 r61) (QV K))) ∧ (¬ (v1 ≠ 0) → ((0 ≤ v2 ∧ v2 < 100) ∧ InR ((up M61 75 v2 r61) 75 v2) ∧ (((up M61 75 v2 r61) 75 v2) = 0 → (AW mX12_laySizes 84 [some (vR 50), some (vI 0), some (vI v2)] [] (up M61 75 v2 r61) (QV K))) ∧ (¬ (((up M61 75 v2 r61) 75 v2) = 0) → (AW mX12_laySizes 78 [some (vR 50), some (vI v1), some (vI v2)] [] (up M61 75 v2 r61) (QV K)))))))))))) :
    AW mX12_laySizes 33 [some (vR 50), some (vI v1), some (vI v2)] [] M (QV K) := by
  refine AW.iload_n (pc := 33) (x := v2) dX12_laySizes_33 rfl ?_
  refine AW.aload_n (pc := 34) (x := 50) dX12_laySizes_34 rfl ?_
  refine AW.getI (pc := 35) dX12_laySizes_35 fg_X12_124 kd_50 hl_50 rfl ?_
  obtain ⟨o, ha, hb⟩ := h
  refine AW.icmp_ge (pc := 38) (tgt := 90) dX12_laySizes_38 (by decide) o.1 o.2 (fun hc => ?_) (fun hc => ?_)
  · have h := ha hc
    refine AW.goto (pc := 90) (tgt := 25) dX12_laySizes_90 (by decide) ?_
    exact AW.weak (ls2 := [some (vR 50), some (vI v1), none]) (by simp [lsub]) h
  · have h := hb hc
    refine AW.aload_n (pc := 41) (x := 50) dX12_laySizes_41 rfl ?_
    refine AW.getR (pc := 42) (h2 := 75) dX12_laySizes_42 fg_X12_83 kd_50 hl_50 rfl ?_
    refine AW.iload_n (pc := 45) (x := v2) dX12_laySizes_45 rfl ?_
    obtain ⟨o, h⟩ := h
    refine AW.iald (pc := 46) dX12_laySizes_46 kd_75 hl_75 o ?_
    obtain ⟨o, ha, hb⟩ := h
    refine AW.if_ne (pc := 47) (tgt := 84) dX12_laySizes_47 (by decide) o (fun hc => ?_) (fun hc => ?_)
    · have h := ha hc
      exact h
    · have h := hb hc
      refine AW.aload_n (pc := 50) (x := 50) dX12_laySizes_50 rfl ?_
      refine AW.getR (pc := 51) (h2 := 75) dX12_laySizes_51 fg_X12_83 kd_50 hl_50 rfl ?_
      refine AW.iload_n (pc := 54) (x := v2) dX12_laySizes_54 rfl ?_
      refine AW.aload_n (pc := 55) (x := 50) dX12_laySizes_55 rfl ?_
      refine AW.aload_n (pc := 56) (x := 50) dX12_laySizes_56 rfl ?_
      refine AW.iload_n (pc := 57) (x := v2) dX12_laySizes_57 rfl ?_
      refine AW.callV (pc := 58) (As := [vI v2]) (st := [vR 50, vI v2, vR 75]) dX12_laySizes_58 cl_X12_205 kd_50 hl_50 ⟨Nat.le_of_ble_eq_true rfl, Nat.le_of_ble_eq_true rfl⟩ (Nat.le_of_ble_eq_true rfl) (Nat.le_of_ble_eq_true rfl) h ?_
      rintro _ M58 ⟨r58, rfl, h⟩
      show AW mX12_laySizes 61 [some (vR 50), some (vI v1), some (vI v2)] [vI r58, vR 50, vI v2, vR 75] M58 (QV K)
      refine AW.callV (pc := 61) (As := [vI r58]) (st := [vI v2, vR 75]) dX12_laySizes_61 cl_X12_211 kd_50 hl_50 ⟨Nat.le_of_ble_eq_true rfl, Nat.le_of_ble_eq_true rfl⟩ (Nat.le_of_ble_eq_true rfl) (Nat.le_of_ble_eq_true rfl) h ?_
      rintro _ M61 ⟨r61, rfl, h⟩
      show AW mX12_laySizes 64 [some (vR 50), some (vI v1), some (vI v2)] [vI r61, vI v2, vR 75] M61 (QV K)
      obtain ⟨o, h⟩ := h
      refine AW.iast (pc := 64) dX12_laySizes_64 kd_75 hl_75 o ?_
      refine AW.iload_n (pc := 65) (x := v1) dX12_laySizes_65 rfl ?_
      obtain ⟨o, ha, hb⟩ := h
      refine AW.if_ne (pc := 66) (tgt := 78) dX12_laySizes_66 (by decide) o (fun hc => ?_) (fun hc => ?_)
      · have h := ha hc
        exact h
      · have h := hb hc
        refine AW.aload_n (pc := 69) (x := 50) dX12_laySizes_69 rfl ?_
        refine AW.getR (pc := 70) (h2 := 75) dX12_laySizes_70 fg_X12_83 kd_50 hl_50 rfl ?_
        refine AW.iload_n (pc := 73) (x := v2) dX12_laySizes_73 rfl ?_
        obtain ⟨o, h⟩ := h
        refine AW.iald (pc := 74) dX12_laySizes_74 kd_75 hl_75 o ?_
        obtain ⟨o, ha, hb⟩ := h
        refine AW.if_eq (pc := 75) (tgt := 82) dX12_laySizes_75 (by decide) o (fun hc => ?_) (fun hc => ?_)
        · have h := ha hc
          refine AW.iconst (pc := 82) dX12_laySizes_82 ?_
          refine AW.istore_n (pc := 83) (ls2 := [some (vR 50), some (vI 0), some (vI v2)]) dX12_laySizes_83 (by decide) rfl ?_
          exact h
        · have h := hb hc
          exact h

set_option maxRecDepth 20000 in
theorem sg_X12_laySizes_78 {M : Mem} {K : Mem → Prop} {v1 v2 : Int} 
    (h : AW mX12_laySizes 84 [some (vR 50), some (vI 1), some (vI v2)] [] M (QV K)) :
    AW mX12_laySizes 78 [some (vR 50), some (vI v1), some (vI v2)] [] M (QV K) := by
  refine AW.iconst (pc := 78) dX12_laySizes_78 ?_
  refine AW.goto (pc := 79) (tgt := 83) dX12_laySizes_79 (by decide) ?_
  refine AW.istore_n (pc := 83) (ls2 := [some (vR 50), some (vI 1), some (vI v2)]) dX12_laySizes_83 (by decide) rfl ?_
  exact h

set_option maxRecDepth 20000 in
theorem sg_X12_laySizes_84 {M : Mem} {K : Mem → Prop} {v1 v2 : Int} 
    (h : AW mX12_laySizes 33 [some (vR 50), some (vI v1), some (vI (v2 + 1))] [] M (QV K)) :
    AW mX12_laySizes 84 [some (vR 50), some (vI v1), some (vI v2)] [] M (QV K) := by
  refine AW.iinc (pc := 84) (x := v2) (ls2 := [some (vR 50), some (vI v1), some (vI (v2 + 1))]) dX12_laySizes_84 rfl (by decide) rfl ?_
  refine AW.goto (pc := 87) (tgt := 33) dX12_laySizes_87 (by decide) ?_
  exact h

set_option maxRecDepth 20000 in
theorem en_X12_laySmallest {M : Mem} {K : Mem → Prop} 
    (h : AW mX12_laySmallest 2 [some (vR 50), some (vI 0), none, none, none] [] M (QV K)) :
    CV mX12_laySmallest [vR 50] M K := by
  show AW mX12_laySmallest 0 [some (vR 50), none, none, none, none] [] M (QV K)
  refine AW.iconst (pc := 0) dX12_laySmallest_0 ?_
  refine AW.istore_n (pc := 1) (ls2 := [some (vR 50), some (vI 0), none, none, none]) dX12_laySmallest_1 (by decide) rfl ?_
  exact h

set_option maxRecDepth 20000 in
theorem sg_X12_laySmallest_2 {M : Mem} {K : Mem → Prop} {v1 : Int} 
    (h : InR v1 ∧ (v1 ≥ 4 → (AW mX12_laySmallest 23 [some (vR 50), some (vI 1), none, none, none] [] M (QV K))) ∧ (¬ (v1 ≥ 4) → ((0 ≤ v1 ∧ v1 < 4) ∧ AW mX12_laySmallest 2 [some (vR 50), some (vI (v1 + 1)), none, none, none] [] (up M 60 v1 (-13)) (QV K)))) :
    AW mX12_laySmallest 2 [some (vR 50), some (vI v1), none, none, none] [] M (QV K) := by
  refine AW.iload_n (pc := 2) (x := v1) dX12_laySmallest_2 rfl ?_
  refine AW.iconst (pc := 3) dX12_laySmallest_3 ?_
  obtain ⟨o, ha, hb⟩ := h
  refine AW.icmp_ge (pc := 4) (tgt := 21) dX12_laySmallest_4 (by decide) o (by decide) (fun hc => ?_) (fun hc => ?_)
  · have h := ha hc
    refine AW.iconst (pc := 21) dX12_laySmallest_21 ?_
    refine AW.istore_n (pc := 22) (ls2 := [some (vR 50), some (vI 1), none, none, none]) dX12_laySmallest_22 (by decide) rfl ?_
    exact h
  · have h := hb hc
    refine AW.aload_n (pc := 7) (x := 50) dX12_laySmallest_7 rfl ?_
    refine AW.getR (pc := 8) (h2 := 60) dX12_laySmallest_8 fg_X12_37 kd_50 hl_50 rfl ?_
    refine AW.iload_n (pc := 11) (x := v1) dX12_laySmallest_11 rfl ?_
    refine AW.bipush (pc := 12) dX12_laySmallest_12 (by decide) ?_
    obtain ⟨o, h⟩ := h
    refine AW.iast (pc := 14) dX12_laySmallest_14 kd_60 hl_60 o ?_
    refine AW.iinc (pc := 15) (x := v1) (ls2 := [some (vR 50), some (vI (v1 + 1)), none, none, none]) dX12_laySmallest_15 rfl (by decide) rfl ?_
    refine AW.goto (pc := 18) (tgt := 2) dX12_laySmallest_18 (by decide) ?_
    exact h

set_option maxRecDepth 20000 in
theorem sg_X12_laySmallest_23 {M : Mem} {K : Mem → Prop} {v1 : Int} 
    (h : InR v1 ∧ (v1 = 0 → (K M)) ∧ (¬ (v1 = 0) → (AW mX12_laySmallest 31 [some (vR 50), some (vI 0), some (vI 0), none, none] [] M (QV K)))) :
    AW mX12_laySmallest 23 [some (vR 50), some (vI v1), none, none, none] [] M (QV K) := by
  refine AW.iload_n (pc := 23) (x := v1) dX12_laySmallest_23 rfl ?_
  obtain ⟨o, ha, hb⟩ := h
  refine AW.if_eq (pc := 24) (tgt := 97) dX12_laySmallest_24 (by decide) o (fun hc => ?_) (fun hc => ?_)
  · have h := ha hc
    exact AW.vret (st := []) (pc := 97) dX12_laySmallest_97 rfl ⟨rfl, h⟩
  · have h := hb hc
    refine AW.iconst (pc := 27) dX12_laySmallest_27 ?_
    refine AW.istore_n (pc := 28) (ls2 := [some (vR 50), some (vI 0), none, none, none]) dX12_laySmallest_28 (by decide) rfl ?_
    refine AW.iconst (pc := 29) dX12_laySmallest_29 ?_
    refine AW.istore_n (pc := 30) (ls2 := [some (vR 50), some (vI 0), some (vI 0), none, none]) dX12_laySmallest_30 (by decide) rfl ?_
    exact h

set_option maxRecDepth 20000 in
theorem sg_X12_laySmallest_31 {M : Mem} {K : Mem → Prop} {v1 v2 : Int} 
    (h : (InR v2 ∧ InR (M 50 1)) ∧ (v2 ≥ (M 50 1) → (AW mX12_laySmallest 23 [some (vR 50), some (vI v1), none, none, none] [] M (QV K))) ∧ (¬ (v2 ≥ (M 50 1)) → (CI mX12_sizeBy [vR 50, vI v2] M (fun r41 M41 => (0 ≤ v2 ∧ v2 < 12) ∧ InR r41 ∧ (r41 ≤ 0 → (AW mX12_laySmallest 88 [some (vR 50), some (vI v1), some (vI v2), some (vI r41), some (vI (M41 51 v2))] [] M41 (QV K))) ∧ (¬ (r41 ≤ 0) → ((0 ≤ (M41 51 v2) ∧ (M41 51 v2) < 4) ∧ InR (M41 60 (M41 51 v2)) ∧ ((M41 60 (M41 51 v2)) < 0 → (AW mX12_laySmallest 78 [some (vR 50), some (vI v1), some (vI v2), some (vI r41), some (vI (M41 51 v2))] [] M41 (QV K))) ∧ (¬ ((M41 60 (M41 51 v2)) < 0) → ((0 ≤ (M41 51 v2) ∧ (M41 51 v2) < 4) ∧ (InR r41 ∧ InR (M41 60 (M41 51 v2))) ∧ (r41 ≥ (M41 60 (M41 51 v2)) → (AW mX12_laySmallest 88 [some (vR 50), some (vI v1), some (vI v2), some (vI r41), some (vI (M41 51 v2))] [] M41 (QV K))) ∧ (¬ (r41 ≥ (M41 60 (M41 51 v2))) → (AW mX12_laySmallest 78 [some (vR 50), some (vI v1), some (vI v2), some (vI r41), some (vI (M41 51 v2))] [] M41 (QV K))))))))))) :
    AW mX12_laySmallest 31 [some (vR 50), some (vI v1), some (vI v2), none, none] [] M (QV K) := by
  refine AW.iload_n (pc := 31) (x := v2) dX12_laySmallest_31 rfl ?_
  refine AW.aload_n (pc := 32) (x := 50) dX12_laySmallest_32 rfl ?_
  refine AW.getI (pc := 33) dX12_laySmallest_33 fg_X12_121 kd_50 hl_50 rfl ?_
  obtain ⟨o, ha, hb⟩ := h
  refine AW.icmp_ge (pc := 36) (tgt := 94) dX12_laySmallest_36 (by decide) o.1 o.2 (fun hc => ?_) (fun hc => ?_)
  · have h := ha hc
    refine AW.goto (pc := 94) (tgt := 23) dX12_laySmallest_94 (by decide) ?_
    exact AW.weak (ls2 := [some (vR 50), some (vI v1), none, none, none]) (by simp [lsub]) h
  · have h := hb hc
    refine AW.aload_n (pc := 39) (x := 50) dX12_laySmallest_39 rfl ?_
    refine AW.iload_n (pc := 40) (x := v2) dX12_laySmallest_40 rfl ?_
    refine AW.callV (pc := 41) (As := [vI v2]) (st := []) dX12_laySmallest_41 cl_X12_137 kd_50 hl_50 ⟨Nat.le_of_ble_eq_true rfl, Nat.le_of_ble_eq_true rfl⟩ (Nat.le_of_ble_eq_true rfl) (Nat.le_of_ble_eq_true rfl) h ?_
    rintro _ M41 ⟨r41, rfl, h⟩
    show AW mX12_laySmallest 44 [some (vR 50), some (vI v1), some (vI v2), none, none] [vI r41] M41 (QV K)
    refine AW.istore_n (pc := 44) (ls2 := [some (vR 50), some (vI v1), some (vI v2), some (vI r41), none]) dX12_laySmallest_44 (by decide) rfl ?_
    refine AW.aload_n (pc := 45) (x := 50) dX12_laySmallest_45 rfl ?_
    refine AW.getR (pc := 46) (h2 := 51) dX12_laySmallest_46 fg_X12_7 kd_50 hl_50 rfl ?_
    refine AW.iload_n (pc := 49) (x := v2) dX12_laySmallest_49 rfl ?_
    obtain ⟨o, h⟩ := h
    refine AW.iald (pc := 50) dX12_laySmallest_50 kd_51 hl_51 o ?_
    refine AW.istore (pc := 51) (ls2 := [some (vR 50), some (vI v1), some (vI v2), some (vI r41), some (vI (M41 51 v2))]) dX12_laySmallest_51 (by decide) rfl ?_
    refine AW.iload_n (pc := 53) (x := r41) dX12_laySmallest_53 rfl ?_
    obtain ⟨o, ha, hb⟩ := h
    refine AW.if_le (pc := 54) (tgt := 88) dX12_laySmallest_54 (by decide) o (fun hc => ?_) (fun hc => ?_)
    · have h := ha hc
      exact h
    · have h := hb hc
      refine AW.aload_n (pc := 57) (x := 50) dX12_laySmallest_57 rfl ?_
      refine AW.getR (pc := 58) (h2 := 60) dX12_laySmallest_58 fg_X12_37 kd_50 hl_50 rfl ?_
      refine AW.iload (pc := 61) (x := (M41 51 v2)) dX12_laySmallest_61 rfl ?_
      obtain ⟨o, h⟩ := h
      refine AW.iald (pc := 63) dX12_laySmallest_63 kd_60 hl_60 o ?_
      obtain ⟨o, ha, hb⟩ := h
      refine AW.if_lt (pc := 64) (tgt := 78) dX12_laySmallest_64 (by decide) o (fun hc => ?_) (fun hc => ?_)
      · have h := ha hc
        exact h
      · have h := hb hc
        refine AW.iload_n (pc := 67) (x := r41) dX12_laySmallest_67 rfl ?_
        refine AW.aload_n (pc := 68) (x := 50) dX12_laySmallest_68 rfl ?_
        refine AW.getR (pc := 69) (h2 := 60) dX12_laySmallest_69 fg_X12_37 kd_50 hl_50 rfl ?_
        refine AW.iload (pc := 72) (x := (M41 51 v2)) dX12_laySmallest_72 rfl ?_
        obtain ⟨o, h⟩ := h
        refine AW.iald (pc := 74) dX12_laySmallest_74 kd_60 hl_60 o ?_
        obtain ⟨o, ha, hb⟩ := h
        refine AW.icmp_ge (pc := 75) (tgt := 88) dX12_laySmallest_75 (by decide) o.1 o.2 (fun hc => ?_) (fun hc => ?_)
        · have h := ha hc
          exact h
        · have h := hb hc
          exact h

set_option maxRecDepth 20000 in
theorem sg_X12_laySmallest_78 {M : Mem} {K : Mem → Prop} {v1 v2 v3 v4 : Int} 
    (h : (0 ≤ v4 ∧ v4 < 4) ∧ AW mX12_laySmallest 88 [some (vR 50), some (vI 1), some (vI v2), some (vI v3), some (vI v4)] [] (up M 60 v4 v3) (QV K)) :
    AW mX12_laySmallest 78 [some (vR 50), some (vI v1), some (vI v2), some (vI v3), some (vI v4)] [] M (QV K) := by
  refine AW.aload_n (pc := 78) (x := 50) dX12_laySmallest_78 rfl ?_
  refine AW.getR (pc := 79) (h2 := 60) dX12_laySmallest_79 fg_X12_37 kd_50 hl_50 rfl ?_
  refine AW.iload (pc := 82) (x := v4) dX12_laySmallest_82 rfl ?_
  refine AW.iload_n (pc := 84) (x := v3) dX12_laySmallest_84 rfl ?_
  obtain ⟨o, h⟩ := h
  refine AW.iast (pc := 85) dX12_laySmallest_85 kd_60 hl_60 o ?_
  refine AW.iconst (pc := 86) dX12_laySmallest_86 ?_
  refine AW.istore_n (pc := 87) (ls2 := [some (vR 50), some (vI 1), some (vI v2), some (vI v3), some (vI v4)]) dX12_laySmallest_87 (by decide) rfl ?_
  exact h

set_option maxRecDepth 20000 in
theorem sg_X12_laySmallest_88 {M : Mem} {K : Mem → Prop} {v1 v2 v3 v4 : Int} 
    (h : AW mX12_laySmallest 31 [some (vR 50), some (vI v1), some (vI (v2 + 1)), none, none] [] M (QV K)) :
    AW mX12_laySmallest 88 [some (vR 50), some (vI v1), some (vI v2), some (vI v3), some (vI v4)] [] M (QV K) := by
  refine AW.iinc (pc := 88) (x := v2) (ls2 := [some (vR 50), some (vI v1), some (vI (v2 + 1)), some (vI v3), some (vI v4)]) dX12_laySmallest_88 rfl (by decide) rfl ?_
  refine AW.goto (pc := 91) (tgt := 31) dX12_laySmallest_91 (by decide) ?_
  exact AW.weak (ls2 := [some (vR 50), some (vI v1), some (vI (v2 + 1)), none, none]) (by simp [lsub]) h

set_option maxRecDepth 20000 in
theorem en_X12_layTerm {M : Mem} {K : Mem → Prop} {v1 : Int} 
    (h : AW mX12_layTerm 14 [some (vR 50), some (vI v1), some (vI 1), none, none] [] (up (up M 50 21 0) 84 0 v1) (QV K)) :
    CV mX12_layTerm [vR 50, vI v1] M K := by
  show AW mX12_layTerm 0 [some (vR 50), some (vI v1), none, none, none] [] M (QV K)
  refine AW.aload_n (pc := 0) (x := 50) dX12_layTerm_0 rfl ?_
  refine AW.iconst (pc := 1) dX12_layTerm_1 ?_
  refine AW.put (pc := 2) dX12_layTerm_2 fp_X12_179 kd_50 hl_50 rfl ?_
  refine AW.iconst (pc := 5) dX12_layTerm_5 ?_
  refine AW.istore_n (pc := 6) (ls2 := [some (vR 50), some (vI v1), some (vI 1), none, none]) dX12_layTerm_6 (by decide) rfl ?_
  refine AW.aload_n (pc := 7) (x := 50) dX12_layTerm_7 rfl ?_
  refine AW.getR (pc := 8) (h2 := 84) dX12_layTerm_8 fg_X12_110 kd_50 hl_50 rfl ?_
  refine AW.iconst (pc := 11) dX12_layTerm_11 ?_
  refine AW.iload_n (pc := 12) (x := v1) dX12_layTerm_12 rfl ?_
  refine AW.iast (pc := 13) dX12_layTerm_13 kd_84 hl_84 (by decide) ?_
  exact h

set_option maxRecDepth 20000 in
theorem sg_X12_layTerm_14 {M : Mem} {K : Mem → Prop} {v1 v2 : Int} 
    (h : InR v2 ∧ (v2 ≤ 0 → (CV mX12_layParts [vR 50] M (fun M101 => K M101))) ∧ (¬ (v2 ≤ 0) → ((0 ≤ (v2 + (-1)) ∧ (v2 + (-1)) < 256) ∧ CI mX12_resolved [vR 50, vI (M 84 (v2 + (-1)))] M (fun r28 M28 => (0 ≤ r28 ∧ r28 < 100) ∧ (0 ≤ (M28 50 21) ∧ (M28 50 21) < 64) ∧ CI mX12_manyOf [vR 50, vI r28] (up (up M28 65 (M28 50 21) (M28 54 r28)) 50 21 ((M28 50 21) + 1)) (fun r59 M59 => AW mX12_layTerm 66 [some (vR 50), some (vI v1), some (vI (v2 + (-1))), some (vI r28), some (vI (r59 - 1))] [] M59 (QV K)))))) :
    AW mX12_layTerm 14 [some (vR 50), some (vI v1), some (vI v2), none, none] [] M (QV K) := by
  refine AW.iload_n (pc := 14) (x := v2) dX12_layTerm_14 rfl ?_
  obtain ⟨o, ha, hb⟩ := h
  refine AW.if_le (pc := 15) (tgt := 100) dX12_layTerm_15 (by decide) o (fun hc => ?_) (fun hc => ?_)
  · have h := ha hc
    refine AW.aload_n (pc := 100) (x := 50) dX12_layTerm_100 rfl ?_
    refine AW.callV (pc := 101) (As := []) (st := []) dX12_layTerm_101 cl_X12_186 kd_50 hl_50 ⟨Nat.le_of_ble_eq_true rfl, Nat.le_of_ble_eq_true rfl⟩ (Nat.le_of_ble_eq_true rfl) (Nat.le_of_ble_eq_true rfl) h ?_
    rintro _ M101 ⟨rfl, h⟩
    show AW mX12_layTerm 104 [some (vR 50), some (vI v1), some (vI v2), none, none] [] M101 (QV K)
    exact AW.vret (st := []) (pc := 104) dX12_layTerm_104 rfl ⟨rfl, h⟩
  · have h := hb hc
    refine AW.iinc (pc := 18) (x := v2) (ls2 := [some (vR 50), some (vI v1), some (vI (v2 + (-1))), none, none]) dX12_layTerm_18 rfl (by decide) rfl ?_
    refine AW.aload_n (pc := 21) (x := 50) dX12_layTerm_21 rfl ?_
    refine AW.aload_n (pc := 22) (x := 50) dX12_layTerm_22 rfl ?_
    refine AW.getR (pc := 23) (h2 := 84) dX12_layTerm_23 fg_X12_110 kd_50 hl_50 rfl ?_
    refine AW.iload_n (pc := 26) (x := (v2 + (-1))) dX12_layTerm_26 rfl ?_
    obtain ⟨o, h⟩ := h
    refine AW.iald (pc := 27) dX12_layTerm_27 kd_84 hl_84 o ?_
    refine AW.callV (pc := 28) (As := [vI (M 84 (v2 + (-1)))]) (st := []) dX12_layTerm_28 cl_X12_205 kd_50 hl_50 ⟨Nat.le_of_ble_eq_true rfl, Nat.le_of_ble_eq_true rfl⟩ (Nat.le_of_ble_eq_true rfl) (Nat.le_of_ble_eq_true rfl) h ?_
    rintro _ M28 ⟨r28, rfl, h⟩
    show AW mX12_layTerm 31 [some (vR 50), some (vI v1), some (vI (v2 + (-1))), none, none] [vI r28] M28 (QV K)
    refine AW.istore_n (pc := 31) (ls2 := [some (vR 50), some (vI v1), some (vI (v2 + (-1))), some (vI r28), none]) dX12_layTerm_31 (by decide) rfl ?_
    refine AW.aload_n (pc := 32) (x := 50) dX12_layTerm_32 rfl ?_
    refine AW.getR (pc := 33) (h2 := 65) dX12_layTerm_33 fg_X12_53 kd_50 hl_50 rfl ?_
    refine AW.aload_n (pc := 36) (x := 50) dX12_layTerm_36 rfl ?_
    refine AW.getI (pc := 37) dX12_layTerm_37 fg_X12_179 kd_50 hl_50 rfl ?_
    refine AW.aload_n (pc := 40) (x := 50) dX12_layTerm_40 rfl ?_
    refine AW.getR (pc := 41) (h2 := 54) dX12_layTerm_41 fg_X12_19 kd_50 hl_50 rfl ?_
    refine AW.iload_n (pc := 44) (x := r28) dX12_layTerm_44 rfl ?_
    obtain ⟨o, h⟩ := h
    refine AW.iald (pc := 45) dX12_layTerm_45 kd_54 hl_54 o ?_
    obtain ⟨o, h⟩ := h
    refine AW.iast (pc := 46) dX12_layTerm_46 kd_65 hl_65 o ?_
    refine AW.aload_n (pc := 47) (x := 50) dX12_layTerm_47 rfl ?_
    refine AW.dup (pc := 48) dX12_layTerm_48 rfl ?_
    refine AW.getI (pc := 49) dX12_layTerm_49 fg_X12_179 kd_50 hl_50 rfl ?_
    refine AW.iconst (pc := 52) dX12_layTerm_52 ?_
    refine AW.iadd (pc := 53) dX12_layTerm_53 ?_
    refine AW.put (pc := 54) dX12_layTerm_54 fp_X12_179 kd_50 hl_50 rfl ?_
    refine AW.aload_n (pc := 57) (x := 50) dX12_layTerm_57 rfl ?_
    refine AW.iload_n (pc := 58) (x := r28) dX12_layTerm_58 rfl ?_
    refine AW.callV (pc := 59) (As := [vI r28]) (st := []) dX12_layTerm_59 cl_X12_208 kd_50 hl_50 ⟨Nat.le_of_ble_eq_true rfl, Nat.le_of_ble_eq_true rfl⟩ (Nat.le_of_ble_eq_true rfl) (Nat.le_of_ble_eq_true rfl) h ?_
    rintro _ M59 ⟨r59, rfl, h⟩
    show AW mX12_layTerm 62 [some (vR 50), some (vI v1), some (vI (v2 + (-1))), some (vI r28), none] [vI r59] M59 (QV K)
    refine AW.iconst (pc := 62) dX12_layTerm_62 ?_
    refine AW.isub (pc := 63) dX12_layTerm_63 ?_
    refine AW.istore (pc := 64) (ls2 := [some (vR 50), some (vI v1), some (vI (v2 + (-1))), some (vI r28), some (vI (r59 - 1))]) dX12_layTerm_64 (by decide) rfl ?_
    exact h

set_option maxRecDepth 20000 in
theorem sg_X12_layTerm_66 {M : Mem} {K : Mem → Prop} {v1 v2 v3 v4 : Int} 
    (h : InR v4 ∧ (v4 < 0 → (AW mX12_layTerm 14 [some (vR 50), some (vI v1), some (vI v2), none, none] [] M (QV K))) ∧ (¬ (v4 < 0) → ((0 ≤ ((3 * v3) + v4) ∧ ((3 * v3) + v4) < 300) ∧ (0 ≤ v2 ∧ v2 < 256) ∧ AW mX12_layTerm 66 [some (vR 50), some (vI v1), some (vI (v2 + 1)), some (vI v3), some (vI (v4 + (-1)))] [] (up M 84 v2 (M 56 ((3 * v3) + v4))) (QV K)))) :
    AW mX12_layTerm 66 [some (vR 50), some (vI v1), some (vI v2), some (vI v3), some (vI v4)] [] M (QV K) := by
  refine AW.iload (pc := 66) (x := v4) dX12_layTerm_66 rfl ?_
  obtain ⟨o, ha, hb⟩ := h
  refine AW.if_lt (pc := 68) (tgt := 97) dX12_layTerm_68 (by decide) o (fun hc => ?_) (fun hc => ?_)
  · have h := ha hc
    refine AW.goto (pc := 97) (tgt := 14) dX12_layTerm_97 (by decide) ?_
    exact AW.weak (ls2 := [some (vR 50), some (vI v1), some (vI v2), none, none]) (by simp [lsub]) h
  · have h := hb hc
    refine AW.aload_n (pc := 71) (x := 50) dX12_layTerm_71 rfl ?_
    refine AW.getR (pc := 72) (h2 := 84) dX12_layTerm_72 fg_X12_110 kd_50 hl_50 rfl ?_
    refine AW.iload_n (pc := 75) (x := v2) dX12_layTerm_75 rfl ?_
    refine AW.aload_n (pc := 76) (x := 50) dX12_layTerm_76 rfl ?_
    refine AW.getR (pc := 77) (h2 := 56) dX12_layTerm_77 fg_X12_25 kd_50 hl_50 rfl ?_
    refine AW.iconst (pc := 80) dX12_layTerm_80 ?_
    refine AW.iload_n (pc := 81) (x := v3) dX12_layTerm_81 rfl ?_
    refine AW.imul (pc := 82) dX12_layTerm_82 ?_
    refine AW.iload (pc := 83) (x := v4) dX12_layTerm_83 rfl ?_
    refine AW.iadd (pc := 85) dX12_layTerm_85 ?_
    obtain ⟨o, h⟩ := h
    refine AW.iald (pc := 86) dX12_layTerm_86 kd_56 hl_56 o ?_
    obtain ⟨o, h⟩ := h
    refine AW.iast (pc := 87) dX12_layTerm_87 kd_84 hl_84 o ?_
    refine AW.iinc (pc := 88) (x := v2) (ls2 := [some (vR 50), some (vI v1), some (vI (v2 + 1)), some (vI v3), some (vI v4)]) dX12_layTerm_88 rfl (by decide) rfl ?_
    refine AW.iinc (pc := 91) (x := v4) (ls2 := [some (vR 50), some (vI v1), some (vI (v2 + 1)), some (vI v3), some (vI (v4 + (-1)))]) dX12_layTerm_91 rfl (by decide) rfl ?_
    refine AW.goto (pc := 94) (tgt := 66) dX12_layTerm_94 (by decide) ?_
    exact h

set_option maxRecDepth 20000 in
theorem en_X12_layValue {M : Mem} {K : Mem → Prop} {v1 v2 v3 : Int} 
    (h : AW mX12_layValue 29 [some (vR 50), some (vI v1), some (vI v2), some (vI v3), some (vI 1), none, none, none, none, none] [] (up (up (up (up M 50 21 0) 67 0 v1) 68 0 v2) 69 0 v3) (QV K)) :
    CV mX12_layValue [vR 50, vI v1, vI v2, vI v3] M K := by
  show AW mX12_layValue 0 [some (vR 50), some (vI v1), some (vI v2), some (vI v3), none, none, none, none, none, none] [] M (QV K)
  refine AW.aload_n (pc := 0) (x := 50) dX12_layValue_0 rfl ?_
  refine AW.iconst (pc := 1) dX12_layValue_1 ?_
  refine AW.put (pc := 2) dX12_layValue_2 fp_X12_179 kd_50 hl_50 rfl ?_
  refine AW.aload_n (pc := 5) (x := 50) dX12_layValue_5 rfl ?_
  refine AW.getR (pc := 6) (h2 := 67) dX12_layValue_6 fg_X12_59 kd_50 hl_50 rfl ?_
  refine AW.iconst (pc := 9) dX12_layValue_9 ?_
  refine AW.iload_n (pc := 10) (x := v1) dX12_layValue_10 rfl ?_
  refine AW.iast (pc := 11) dX12_layValue_11 kd_67 hl_67 (by decide) ?_
  refine AW.aload_n (pc := 12) (x := 50) dX12_layValue_12 rfl ?_
  refine AW.getR (pc := 13) (h2 := 68) dX12_layValue_13 fg_X12_62 kd_50 hl_50 rfl ?_
  refine AW.iconst (pc := 16) dX12_layValue_16 ?_
  refine AW.iload_n (pc := 17) (x := v2) dX12_layValue_17 rfl ?_
  refine AW.iast (pc := 18) dX12_layValue_18 kd_68 hl_68 (by decide) ?_
  refine AW.aload_n (pc := 19) (x := 50) dX12_layValue_19 rfl ?_
  refine AW.getR (pc := 20) (h2 := 69) dX12_layValue_20 fg_X12_65 kd_50 hl_50 rfl ?_
  refine AW.iconst (pc := 23) dX12_layValue_23 ?_
  refine AW.iload_n (pc := 24) (x := v3) dX12_layValue_24 rfl ?_
  refine AW.iast (pc := 25) dX12_layValue_25 kd_69 hl_69 (by decide) ?_
  refine AW.iconst (pc := 26) dX12_layValue_26 ?_
  refine AW.istore (pc := 27) (ls2 := [some (vR 50), some (vI v1), some (vI v2), some (vI v3), some (vI 1), none, none, none, none, none]) dX12_layValue_27 (by decide) rfl ?_
  exact h

set_option maxRecDepth 20000 in
theorem sg_X12_layValue_29 {M : Mem} {K : Mem → Prop} {v1 v2 v3 v4 : Int} 
    (h : InR v4 ∧ (v4 ≤ 0 → (CV mX12_layParts [vR 50] M (fun M248 => K M248))) ∧ (¬ (v4 ≤ 0) → ((0 ≤ (v4 + (-1)) ∧ (v4 + (-1)) < 64) ∧ (0 ≤ (v4 + (-1)) ∧ (v4 + (-1)) < 64) ∧ (0 ≤ (v4 + (-1)) ∧ (v4 + (-1)) < 64) ∧ AW mX12_layValue 67 [some (vR 50), some (vI v1), some (vI v2), some (vI v3), some (vI (v4 + (-1))), some (vI (M 67 (v4 + (-1)))), some (vI (M 68 (v4 + (-1)))), some (vI (M 69 (v4 + (-1)))), some (vI 0), none] [] M (QV K)))) :
    AW mX12_layValue 29 [some (vR 50), some (vI v1), some (vI v2), some (vI v3), some (vI v4), none, none, none, none, none] [] M (QV K) := by
  refine AW.iload (pc := 29) (x := v4) dX12_layValue_29 rfl ?_
  obtain ⟨o, ha, hb⟩ := h
  refine AW.if_le (pc := 31) (tgt := 247) dX12_layValue_31 (by decide) o (fun hc => ?_) (fun hc => ?_)
  · have h := ha hc
    refine AW.aload_n (pc := 247) (x := 50) dX12_layValue_247 rfl ?_
    refine AW.callV (pc := 248) (As := []) (st := []) dX12_layValue_248 cl_X12_186 kd_50 hl_50 ⟨Nat.le_of_ble_eq_true rfl, Nat.le_of_ble_eq_true rfl⟩ (Nat.le_of_ble_eq_true rfl) (Nat.le_of_ble_eq_true rfl) h ?_
    rintro _ M248 ⟨rfl, h⟩
    show AW mX12_layValue 251 [some (vR 50), some (vI v1), some (vI v2), some (vI v3), some (vI v4), none, none, none, none, none] [] M248 (QV K)
    exact AW.vret (st := []) (pc := 251) dX12_layValue_251 rfl ⟨rfl, h⟩
  · have h := hb hc
    refine AW.iinc (pc := 34) (x := v4) (ls2 := [some (vR 50), some (vI v1), some (vI v2), some (vI v3), some (vI (v4 + (-1))), none, none, none, none, none]) dX12_layValue_34 rfl (by decide) rfl ?_
    refine AW.aload_n (pc := 37) (x := 50) dX12_layValue_37 rfl ?_
    refine AW.getR (pc := 38) (h2 := 67) dX12_layValue_38 fg_X12_59 kd_50 hl_50 rfl ?_
    refine AW.iload (pc := 41) (x := (v4 + (-1))) dX12_layValue_41 rfl ?_
    obtain ⟨o, h⟩ := h
    refine AW.iald (pc := 43) dX12_layValue_43 kd_67 hl_67 o ?_
    refine AW.istore (pc := 44) (ls2 := [some (vR 50), some (vI v1), some (vI v2), some (vI v3), some (vI (v4 + (-1))), some (vI (M 67 (v4 + (-1)))), none, none, none, none]) dX12_layValue_44 (by decide) rfl ?_
    refine AW.aload_n (pc := 46) (x := 50) dX12_layValue_46 rfl ?_
    refine AW.getR (pc := 47) (h2 := 68) dX12_layValue_47 fg_X12_62 kd_50 hl_50 rfl ?_
    refine AW.iload (pc := 50) (x := (v4 + (-1))) dX12_layValue_50 rfl ?_
    obtain ⟨o, h⟩ := h
    refine AW.iald (pc := 52) dX12_layValue_52 kd_68 hl_68 o ?_
    refine AW.istore (pc := 53) (ls2 := [some (vR 50), some (vI v1), some (vI v2), some (vI v3), some (vI (v4 + (-1))), some (vI (M 67 (v4 + (-1)))), some (vI (M 68 (v4 + (-1)))), none, none, none]) dX12_layValue_53 (by decide) rfl ?_
    refine AW.aload_n (pc := 55) (x := 50) dX12_layValue_55 rfl ?_
    refine AW.getR (pc := 56) (h2 := 69) dX12_layValue_56 fg_X12_65 kd_50 hl_50 rfl ?_
    refine AW.iload (pc := 59) (x := (v4 + (-1))) dX12_layValue_59 rfl ?_
    obtain ⟨o, h⟩ := h
    refine AW.iald (pc := 61) dX12_layValue_61 kd_69 hl_69 o ?_
    refine AW.istore (pc := 62) (ls2 := [some (vR 50), some (vI v1), some (vI v2), some (vI v3), some (vI (v4 + (-1))), some (vI (M 67 (v4 + (-1)))), some (vI (M 68 (v4 + (-1)))), some (vI (M 69 (v4 + (-1)))), none, none]) dX12_layValue_62 (by decide) rfl ?_
    refine AW.iconst (pc := 64) dX12_layValue_64 ?_
    refine AW.istore (pc := 65) (ls2 := [some (vR 50), some (vI v1), some (vI v2), some (vI v3), some (vI (v4 + (-1))), some (vI (M 67 (v4 + (-1)))), some (vI (M 68 (v4 + (-1)))), some (vI (M 69 (v4 + (-1)))), some (vI 0), none]) dX12_layValue_65 (by decide) rfl ?_
    exact h

set_option maxRecDepth 20000 in
theorem sg_X12_layValue_67 {M : Mem} {K : Mem → Prop} {v1 v2 v3 v4 v5 v6 v7 v8 : Int} 
    (h : (0 ≤ v8 ∧ v8 < 12) ∧ (InR (M 51 v8) ∧ InR v5) ∧ ((M 51 v8) ≠ v5 → (AW mX12_layValue 99 [some (vR 50), some (vI v1), some (vI v2), some (vI v3), some (vI v4), some (vI v5), some (vI v6), some (vI v7), some (vI v8), none] [] M (QV K))) ∧ (¬ ((M 51 v8) ≠ v5) → (CI mX12_way [vI v8, vI 0, vI (v6 - 1)] M (fun r92 M92 => (0 ≤ r92 ∧ r92 < 624) ∧ (InR v7 ∧ InR (M92 64 r92)) ∧ (v7 < (M92 64 r92) → ((0 ≤ (M92 50 21) ∧ (M92 50 21) < 64) ∧ CV mX12_share [vR 50, vI v8, vI v6, vI v7] (up (up M92 65 (M92 50 21) v8) 50 21 ((M92 50 21) + 1)) (fun M169 => (0 ≤ v8 ∧ v8 < 12) ∧ AW mX12_layValue 183 [some (vR 50), some (vI v1), some (vI v2), some (vI v3), some (vI v4), some (vI v5), some (vI v6), some (vI v7), some (vI v8), some (vI ((M169 52 v8) - 1))] [] M169 (QV K)))) ∧ (¬ (v7 < (M92 64 r92)) → (AW mX12_layValue 99 [some (vR 50), some (vI v1), some (vI v2), some (vI v3), some (vI v4), some (vI v5), some (vI v6), some (vI v7), some (vI v8), none] [] M92 (QV K))))))) :
    AW mX12_layValue 67 [some (vR 50), some (vI v1), some (vI v2), some (vI v3), some (vI v4), some (vI v5), some (vI v6), some (vI v7), some (vI v8), none] [] M (QV K) := by
  refine AW.aload_n (pc := 67) (x := 50) dX12_layValue_67 rfl ?_
  refine AW.getR (pc := 68) (h2 := 51) dX12_layValue_68 fg_X12_7 kd_50 hl_50 rfl ?_
  refine AW.iload (pc := 71) (x := v8) dX12_layValue_71 rfl ?_
  obtain ⟨o, h⟩ := h
  refine AW.iald (pc := 73) dX12_layValue_73 kd_51 hl_51 o ?_
  refine AW.iload (pc := 74) (x := v5) dX12_layValue_74 rfl ?_
  obtain ⟨o, ha, hb⟩ := h
  refine AW.icmp_ne (pc := 76) (tgt := 99) dX12_layValue_76 (by decide) o.1 o.2 (fun hc => ?_) (fun hc => ?_)
  · have h := ha hc
    exact h
  · have h := hb hc
    refine AW.iload (pc := 79) (x := v7) dX12_layValue_79 rfl ?_
    refine AW.aload_n (pc := 81) (x := 50) dX12_layValue_81 rfl ?_
    refine AW.getR (pc := 82) (h2 := 64) dX12_layValue_82 fg_X12_50 kd_50 hl_50 rfl ?_
    refine AW.iload (pc := 85) (x := v8) dX12_layValue_85 rfl ?_
    refine AW.iconst (pc := 87) dX12_layValue_87 ?_
    refine AW.iload (pc := 88) (x := v6) dX12_layValue_88 rfl ?_
    refine AW.iconst (pc := 90) dX12_layValue_90 ?_
    refine AW.isub (pc := 91) dX12_layValue_91 ?_
    refine AW.callS (pc := 92) (As := [vI v8, vI 0, vI (v6 - 1)]) (st := [vR 64, vI v7]) dX12_layValue_92 cl_X12_160 ⟨Nat.le_of_ble_eq_true rfl, Nat.le_of_ble_eq_true rfl⟩ (Nat.le_of_ble_eq_true rfl) (Nat.le_of_ble_eq_true rfl) h ?_
    rintro _ M92 ⟨r92, rfl, h⟩
    show AW mX12_layValue 95 [some (vR 50), some (vI v1), some (vI v2), some (vI v3), some (vI v4), some (vI v5), some (vI v6), some (vI v7), some (vI v8), none] [vI r92, vR 64, vI v7] M92 (QV K)
    obtain ⟨o, h⟩ := h
    refine AW.iald (pc := 95) dX12_layValue_95 kd_64 hl_64 o ?_
    obtain ⟨o, ha, hb⟩ := h
    refine AW.icmp_lt (pc := 96) (tgt := 141) dX12_layValue_96 (by decide) o.1 o.2 (fun hc => ?_) (fun hc => ?_)
    · have h := ha hc
      refine AW.aload_n (pc := 141) (x := 50) dX12_layValue_141 rfl ?_
      refine AW.getR (pc := 142) (h2 := 65) dX12_layValue_142 fg_X12_53 kd_50 hl_50 rfl ?_
      refine AW.aload_n (pc := 145) (x := 50) dX12_layValue_145 rfl ?_
      refine AW.getI (pc := 146) dX12_layValue_146 fg_X12_179 kd_50 hl_50 rfl ?_
      refine AW.iload (pc := 149) (x := v8) dX12_layValue_149 rfl ?_
      obtain ⟨o, h⟩ := h
      refine AW.iast (pc := 151) dX12_layValue_151 kd_65 hl_65 o ?_
      refine AW.aload_n (pc := 152) (x := 50) dX12_layValue_152 rfl ?_
      refine AW.dup (pc := 153) dX12_layValue_153 rfl ?_
      refine AW.getI (pc := 154) dX12_layValue_154 fg_X12_179 kd_50 hl_50 rfl ?_
      refine AW.iconst (pc := 157) dX12_layValue_157 ?_
      refine AW.iadd (pc := 158) dX12_layValue_158 ?_
      refine AW.put (pc := 159) dX12_layValue_159 fp_X12_179 kd_50 hl_50 rfl ?_
      refine AW.aload_n (pc := 162) (x := 50) dX12_layValue_162 rfl ?_
      refine AW.iload (pc := 163) (x := v8) dX12_layValue_163 rfl ?_
      refine AW.iload (pc := 165) (x := v6) dX12_layValue_165 rfl ?_
      refine AW.iload (pc := 167) (x := v7) dX12_layValue_167 rfl ?_
      refine AW.callV (pc := 169) (As := [vI v8, vI v6, vI v7]) (st := []) dX12_layValue_169 cl_X12_182 kd_50 hl_50 ⟨Nat.le_of_ble_eq_true rfl, Nat.le_of_ble_eq_true rfl⟩ (Nat.le_of_ble_eq_true rfl) (Nat.le_of_ble_eq_true rfl) h ?_
      rintro _ M169 ⟨rfl, h⟩
      show AW mX12_layValue 172 [some (vR 50), some (vI v1), some (vI v2), some (vI v3), some (vI v4), some (vI v5), some (vI v6), some (vI v7), some (vI v8), none] [] M169 (QV K)
      refine AW.aload_n (pc := 172) (x := 50) dX12_layValue_172 rfl ?_
      refine AW.getR (pc := 173) (h2 := 52) dX12_layValue_173 fg_X12_13 kd_50 hl_50 rfl ?_
      refine AW.iload (pc := 176) (x := v8) dX12_layValue_176 rfl ?_
      obtain ⟨o, h⟩ := h
      refine AW.iald (pc := 178) dX12_layValue_178 kd_52 hl_52 o ?_
      refine AW.iconst (pc := 179) dX12_layValue_179 ?_
      refine AW.isub (pc := 180) dX12_layValue_180 ?_
      refine AW.istore (pc := 181) (ls2 := [some (vR 50), some (vI v1), some (vI v2), some (vI v3), some (vI v4), some (vI v5), some (vI v6), some (vI v7), some (vI v8), some (vI ((M169 52 v8) - 1))]) dX12_layValue_181 (by decide) rfl ?_
      exact h
    · have h := hb hc
      exact h

set_option maxRecDepth 20000 in
theorem sg_X12_layValue_99 {M : Mem} {K : Mem → Prop} {v1 v2 v3 v4 v5 v6 v7 v8 : Int} 
    (h : (0 ≤ v8 ∧ v8 < 12) ∧ (InR (M 51 v8) ∧ InR v5) ∧ ((M 51 v8) ≠ v5 → (AW mX12_layValue 67 [some (vR 50), some (vI v1), some (vI v2), some (vI v3), some (vI v4), some (vI v5), some (vI v6), some (vI (v7 - 0)), some (vI (v8 + 1)), none] [] M (QV K))) ∧ (¬ ((M 51 v8) ≠ v5) → (CI mX12_way [vI v8, vI 0, vI (v6 - 1)] M (fun r124 M124 => (0 ≤ r124 ∧ r124 < 624) ∧ AW mX12_layValue 67 [some (vR 50), some (vI v1), some (vI v2), some (vI v3), some (vI v4), some (vI v5), some (vI v6), some (vI (v7 - (M124 64 r124))), some (vI (v8 + 1)), none] [] M124 (QV K))))) :
    AW mX12_layValue 99 [some (vR 50), some (vI v1), some (vI v2), some (vI v3), some (vI v4), some (vI v5), some (vI v6), some (vI v7), some (vI v8), none] [] M (QV K) := by
  refine AW.iload (pc := 99) (x := v7) dX12_layValue_99 rfl ?_
  refine AW.aload_n (pc := 101) (x := 50) dX12_layValue_101 rfl ?_
  refine AW.getR (pc := 102) (h2 := 51) dX12_layValue_102 fg_X12_7 kd_50 hl_50 rfl ?_
  refine AW.iload (pc := 105) (x := v8) dX12_layValue_105 rfl ?_
  obtain ⟨o, h⟩ := h
  refine AW.iald (pc := 107) dX12_layValue_107 kd_51 hl_51 o ?_
  refine AW.iload (pc := 108) (x := v5) dX12_layValue_108 rfl ?_
  obtain ⟨o, ha, hb⟩ := h
  refine AW.icmp_ne (pc := 110) (tgt := 131) dX12_layValue_110 (by decide) o.1 o.2 (fun hc => ?_) (fun hc => ?_)
  · have h := ha hc
    refine AW.iconst (pc := 131) dX12_layValue_131 ?_
    refine AW.isub (pc := 132) dX12_layValue_132 ?_
    refine AW.istore (pc := 133) (ls2 := [some (vR 50), some (vI v1), some (vI v2), some (vI v3), some (vI v4), some (vI v5), some (vI v6), some (vI (v7 - 0)), some (vI v8), none]) dX12_layValue_133 (by decide) rfl ?_
    refine AW.iinc (pc := 135) (x := v8) (ls2 := [some (vR 50), some (vI v1), some (vI v2), some (vI v3), some (vI v4), some (vI v5), some (vI v6), some (vI (v7 - 0)), some (vI (v8 + 1)), none]) dX12_layValue_135 rfl (by decide) rfl ?_
    refine AW.goto (pc := 138) (tgt := 67) dX12_layValue_138 (by decide) ?_
    exact h
  · have h := hb hc
    refine AW.aload_n (pc := 113) (x := 50) dX12_layValue_113 rfl ?_
    refine AW.getR (pc := 114) (h2 := 64) dX12_layValue_114 fg_X12_50 kd_50 hl_50 rfl ?_
    refine AW.iload (pc := 117) (x := v8) dX12_layValue_117 rfl ?_
    refine AW.iconst (pc := 119) dX12_layValue_119 ?_
    refine AW.iload (pc := 120) (x := v6) dX12_layValue_120 rfl ?_
    refine AW.iconst (pc := 122) dX12_layValue_122 ?_
    refine AW.isub (pc := 123) dX12_layValue_123 ?_
    refine AW.callS (pc := 124) (As := [vI v8, vI 0, vI (v6 - 1)]) (st := [vR 64, vI v7]) dX12_layValue_124 cl_X12_160 ⟨Nat.le_of_ble_eq_true rfl, Nat.le_of_ble_eq_true rfl⟩ (Nat.le_of_ble_eq_true rfl) (Nat.le_of_ble_eq_true rfl) h ?_
    rintro _ M124 ⟨r124, rfl, h⟩
    show AW mX12_layValue 127 [some (vR 50), some (vI v1), some (vI v2), some (vI v3), some (vI v4), some (vI v5), some (vI v6), some (vI v7), some (vI v8), none] [vI r124, vR 64, vI v7] M124 (QV K)
    obtain ⟨o, h⟩ := h
    refine AW.iald (pc := 127) dX12_layValue_127 kd_64 hl_64 o ?_
    refine AW.goto (pc := 128) (tgt := 132) dX12_layValue_128 (by decide) ?_
    refine AW.isub (pc := 132) dX12_layValue_132 ?_
    refine AW.istore (pc := 133) (ls2 := [some (vR 50), some (vI v1), some (vI v2), some (vI v3), some (vI v4), some (vI v5), some (vI v6), some (vI (v7 - (M124 64 r124))), some (vI v8), none]) dX12_layValue_133 (by decide) rfl ?_
    refine AW.iinc (pc := 135) (x := v8) (ls2 := [some (vR 50), some (vI v1), some (vI v2), some (vI v3), some (vI v4), some (vI v5), some (vI v6), some (vI (v7 - (M124 64 r124))), some (vI (v8 + 1)), none]) dX12_layValue_135 rfl (by decide) rfl ?_
    refine AW.goto (pc := 138) (tgt := 67) dX12_layValue_138 (by decide) ?_
    exact h

set_option maxRecDepth 20000 in
theorem sg_X12_layValue_183 {M : Mem} {K : Mem → Prop} {v1 v2 v3 v4 v5 v6 v7 v8 v9 : Int} 
    (h : InR v9 ∧ (v9 < 0 → (AW mX12_layValue 29 [some (vR 50), some (vI v1), some (vI v2), some (vI v3), some (vI v4), none, none, none, none, none] [] M (QV K))) ∧ (¬ (v9 < 0) → ((0 ≤ ((3 * v8) + v9) ∧ ((3 * v8) + v9) < 36) ∧ (0 ≤ v4 ∧ v4 < 64) ∧ (0 ≤ v9 ∧ v9 < 3) ∧ (0 ≤ v4 ∧ v4 < 64) ∧ (0 ≤ v9 ∧ v9 < 3) ∧ (0 ≤ v4 ∧ v4 < 64) ∧ AW mX12_layValue 183 [some (vR 50), some (vI v1), some (vI v2), some (vI v3), some (vI (v4 + 1)), some (vI v5), some (vI v6), some (vI v7), some (vI v8), some (vI (v9 + (-1)))] [] (up (up (up M 67 v4 (M 53 ((3 * v8) + v9))) 68 v4 (M 70 v9)) 69 v4 (M 71 v9)) (QV K)))) :
    AW mX12_layValue 183 [some (vR 50), some (vI v1), some (vI v2), some (vI v3), some (vI v4), some (vI v5), some (vI v6), some (vI v7), some (vI v8), some (vI v9)] [] M (QV K) := by
  refine AW.iload (pc := 183) (x := v9) dX12_layValue_183 rfl ?_
  obtain ⟨o, ha, hb⟩ := h
  refine AW.if_lt (pc := 185) (tgt := 244) dX12_layValue_185 (by decide) o (fun hc => ?_) (fun hc => ?_)
  · have h := ha hc
    refine AW.goto (pc := 244) (tgt := 29) dX12_layValue_244 (by decide) ?_
    exact AW.weak (ls2 := [some (vR 50), some (vI v1), some (vI v2), some (vI v3), some (vI v4), none, none, none, none, none]) (by simp [lsub]) h
  · have h := hb hc
    refine AW.aload_n (pc := 188) (x := 50) dX12_layValue_188 rfl ?_
    refine AW.getR (pc := 189) (h2 := 67) dX12_layValue_189 fg_X12_59 kd_50 hl_50 rfl ?_
    refine AW.iload (pc := 192) (x := v4) dX12_layValue_192 rfl ?_
    refine AW.aload_n (pc := 194) (x := 50) dX12_layValue_194 rfl ?_
    refine AW.getR (pc := 195) (h2 := 53) dX12_layValue_195 fg_X12_16 kd_50 hl_50 rfl ?_
    refine AW.iconst (pc := 198) dX12_layValue_198 ?_
    refine AW.iload (pc := 199) (x := v8) dX12_layValue_199 rfl ?_
    refine AW.imul (pc := 201) dX12_layValue_201 ?_
    refine AW.iload (pc := 202) (x := v9) dX12_layValue_202 rfl ?_
    refine AW.iadd (pc := 204) dX12_layValue_204 ?_
    obtain ⟨o, h⟩ := h
    refine AW.iald (pc := 205) dX12_layValue_205 kd_53 hl_53 o ?_
    obtain ⟨o, h⟩ := h
    refine AW.iast (pc := 206) dX12_layValue_206 kd_67 hl_67 o ?_
    refine AW.aload_n (pc := 207) (x := 50) dX12_layValue_207 rfl ?_
    refine AW.getR (pc := 208) (h2 := 68) dX12_layValue_208 fg_X12_62 kd_50 hl_50 rfl ?_
    refine AW.iload (pc := 211) (x := v4) dX12_layValue_211 rfl ?_
    refine AW.aload_n (pc := 213) (x := 50) dX12_layValue_213 rfl ?_
    refine AW.getR (pc := 214) (h2 := 70) dX12_layValue_214 fg_X12_68 kd_50 hl_50 rfl ?_
    refine AW.iload (pc := 217) (x := v9) dX12_layValue_217 rfl ?_
    obtain ⟨o, h⟩ := h
    refine AW.iald (pc := 219) dX12_layValue_219 kd_70 hl_70 o ?_
    obtain ⟨o, h⟩ := h
    refine AW.iast (pc := 220) dX12_layValue_220 kd_68 hl_68 o ?_
    refine AW.aload_n (pc := 221) (x := 50) dX12_layValue_221 rfl ?_
    refine AW.getR (pc := 222) (h2 := 69) dX12_layValue_222 fg_X12_65 kd_50 hl_50 rfl ?_
    refine AW.iload (pc := 225) (x := v4) dX12_layValue_225 rfl ?_
    refine AW.aload_n (pc := 227) (x := 50) dX12_layValue_227 rfl ?_
    refine AW.getR (pc := 228) (h2 := 71) dX12_layValue_228 fg_X12_71 kd_50 hl_50 rfl ?_
    refine AW.iload (pc := 231) (x := v9) dX12_layValue_231 rfl ?_
    obtain ⟨o, h⟩ := h
    refine AW.iald (pc := 233) dX12_layValue_233 kd_71 hl_71 o ?_
    obtain ⟨o, h⟩ := h
    refine AW.iast (pc := 234) dX12_layValue_234 kd_69 hl_69 o ?_
    refine AW.iinc (pc := 235) (x := v4) (ls2 := [some (vR 50), some (vI v1), some (vI v2), some (vI v3), some (vI (v4 + 1)), some (vI v5), some (vI v6), some (vI v7), some (vI v8), some (vI v9)]) dX12_layValue_235 rfl (by decide) rfl ?_
    refine AW.iinc (pc := 238) (x := v9) (ls2 := [some (vR 50), some (vI v1), some (vI v2), some (vI v3), some (vI (v4 + 1)), some (vI v5), some (vI v6), some (vI v7), some (vI v8), some (vI (v9 + (-1)))]) dX12_layValue_238 rfl (by decide) rfl ?_
    refine AW.goto (pc := 241) (tgt := 183) dX12_layValue_241 (by decide) ?_
    exact h

set_option maxRecDepth 20000 in
theorem en_X12_layWays {M : Mem} {K : Mem → Prop} {v1 v2 : Int} 
    (h : (0 ≤ v1 ∧ v1 < 12) ∧ CI mX12_way [vI v1, vI (M 52 v1), vI v2] M (fun r14 M14 => InR v2 ∧ (v2 ≠ 0 → ((0 ≤ r14 ∧ r14 < 624) ∧ AW mX12_layWays 32 [some (vR 50), some (vI v1), some (vI v2), some (vI (M 52 v1)), some (vI ((M 52 v1) - 1)), none, none, none] [] (up M14 64 r14 0) (QV K))) ∧ (¬ (v2 ≠ 0) → ((0 ≤ r14 ∧ r14 < 624) ∧ AW mX12_layWays 32 [some (vR 50), some (vI v1), some (vI v2), some (vI (M 52 v1)), some (vI ((M 52 v1) - 1)), none, none, none] [] (up M14 64 r14 1) (QV K))))) :
    CV mX12_layWays [vR 50, vI v1, vI v2] M K := by
  show AW mX12_layWays 0 [some (vR 50), some (vI v1), some (vI v2), none, none, none, none, none] [] M (QV K)
  refine AW.aload_n (pc := 0) (x := 50) dX12_layWays_0 rfl ?_
  refine AW.getR (pc := 1) (h2 := 52) dX12_layWays_1 fg_X12_13 kd_50 hl_50 rfl ?_
  refine AW.iload_n (pc := 4) (x := v1) dX12_layWays_4 rfl ?_
  obtain ⟨o, h⟩ := h
  refine AW.iald (pc := 5) dX12_layWays_5 kd_52 hl_52 o ?_
  refine AW.istore_n (pc := 6) (ls2 := [some (vR 50), some (vI v1), some (vI v2), some (vI (M 52 v1)), none, none, none, none]) dX12_layWays_6 (by decide) rfl ?_
  refine AW.aload_n (pc := 7) (x := 50) dX12_layWays_7 rfl ?_
  refine AW.getR (pc := 8) (h2 := 64) dX12_layWays_8 fg_X12_50 kd_50 hl_50 rfl ?_
  refine AW.iload_n (pc := 11) (x := v1) dX12_layWays_11 rfl ?_
  refine AW.iload_n (pc := 12) (x := (M 52 v1)) dX12_layWays_12 rfl ?_
  refine AW.iload_n (pc := 13) (x := v2) dX12_layWays_13 rfl ?_
  refine AW.callS (pc := 14) (As := [vI v1, vI (M 52 v1), vI v2]) (st := [vR 64]) dX12_layWays_14 cl_X12_160 ⟨Nat.le_of_ble_eq_true rfl, Nat.le_of_ble_eq_true rfl⟩ (Nat.le_of_ble_eq_true rfl) (Nat.le_of_ble_eq_true rfl) h ?_
  rintro _ M14 ⟨r14, rfl, h⟩
  show AW mX12_layWays 17 [some (vR 50), some (vI v1), some (vI v2), some (vI (M 52 v1)), none, none, none, none] [vI r14, vR 64] M14 (QV K)
  refine AW.iload_n (pc := 17) (x := v2) dX12_layWays_17 rfl ?_
  obtain ⟨o, ha, hb⟩ := h
  refine AW.if_ne (pc := 18) (tgt := 25) dX12_layWays_18 (by decide) o (fun hc => ?_) (fun hc => ?_)
  · have h := ha hc
    refine AW.iconst (pc := 25) dX12_layWays_25 ?_
    obtain ⟨o, h⟩ := h
    refine AW.iast (pc := 26) dX12_layWays_26 kd_64 hl_64 o ?_
    refine AW.iload_n (pc := 27) (x := (M 52 v1)) dX12_layWays_27 rfl ?_
    refine AW.iconst (pc := 28) dX12_layWays_28 ?_
    refine AW.isub (pc := 29) dX12_layWays_29 ?_
    refine AW.istore (pc := 30) (ls2 := [some (vR 50), some (vI v1), some (vI v2), some (vI (M 52 v1)), some (vI ((M 52 v1) - 1)), none, none, none]) dX12_layWays_30 (by decide) rfl ?_
    exact h
  · have h := hb hc
    refine AW.iconst (pc := 21) dX12_layWays_21 ?_
    refine AW.goto (pc := 22) (tgt := 26) dX12_layWays_22 (by decide) ?_
    obtain ⟨o, h⟩ := h
    refine AW.iast (pc := 26) dX12_layWays_26 kd_64 hl_64 o ?_
    refine AW.iload_n (pc := 27) (x := (M 52 v1)) dX12_layWays_27 rfl ?_
    refine AW.iconst (pc := 28) dX12_layWays_28 ?_
    refine AW.isub (pc := 29) dX12_layWays_29 ?_
    refine AW.istore (pc := 30) (ls2 := [some (vR 50), some (vI v1), some (vI v2), some (vI (M 52 v1)), some (vI ((M 52 v1) - 1)), none, none, none]) dX12_layWays_30 (by decide) rfl ?_
    exact h

set_option maxRecDepth 20000 in
theorem sg_X12_layWays_32 {M : Mem} {K : Mem → Prop} {v1 v2 v3 v4 : Int} 
    (h : InR v4 ∧ (v4 < 0 → (K M)) ∧ (¬ (v4 < 0) → (AW mX12_layWays 43 [some (vR 50), some (vI v1), some (vI v2), some (vI v3), some (vI v4), some (vL 0), none, some (vI 1)] [] M (QV K)))) :
    AW mX12_layWays 32 [some (vR 50), some (vI v1), some (vI v2), some (vI v3), some (vI v4), none, none, none] [] M (QV K) := by
  refine AW.iload (pc := 32) (x := v4) dX12_layWays_32 rfl ?_
  obtain ⟨o, ha, hb⟩ := h
  refine AW.if_lt (pc := 34) (tgt := 126) dX12_layWays_34 (by decide) o (fun hc => ?_) (fun hc => ?_)
  · have h := ha hc
    exact AW.vret (st := []) (pc := 126) dX12_layWays_126 rfl ⟨rfl, h⟩
  · have h := hb hc
    refine AW.lconst (pc := 37) (n := 0) dX12_layWays_37 (by decide) ?_
    refine AW.lstore (pc := 38) (ls2 := [some (vR 50), some (vI v1), some (vI v2), some (vI v3), some (vI v4), some (vL 0), none, none]) dX12_layWays_38 (by decide) rfl ?_
    refine AW.iconst (pc := 40) dX12_layWays_40 ?_
    refine AW.istore (pc := 41) (ls2 := [some (vR 50), some (vI v1), some (vI v2), some (vI v3), some (vI v4), some (vL 0), none, some (vI 1)]) dX12_layWays_41 (by decide) rfl ?_
    exact h

set_option maxRecDepth 20000 in
theorem sg_X12_layWays_43 {M : Mem} {K : Mem → Prop} {v1 v2 v3 v4 v5 v7 : Int} 
    (h : (InR v7 ∧ InR v2) ∧ (v7 > v2 → (CI mX12_way [vI v1, vI v4, vI v2] M (fun r113 M113 => (0 ≤ r113 ∧ r113 < 624) ∧ AW mX12_layWays 32 [some (vR 50), some (vI v1), some (vI v2), some (vI v3), some (vI (v4 + (-1))), none, none, none] [] (up M113 64 r113 v5) (QV K)))) ∧ (¬ (v7 > v2) → ((0 ≤ ((3 * v1) + v4) ∧ ((3 * v1) + v4) < 36) ∧ CI mX12_countOf [vR 50, vI (M 53 ((3 * v1) + v4)), vI v7] M (fun r65 M65 => InR r65 ∧ CI mX12_way [vI v1, vI (v4 + 1), vI (v2 - v7)] M65 (fun r82 M82 => (0 ≤ r82 ∧ r82 < 624) ∧ InR (M82 64 r82) ∧ CI mX12_capped [vL (v5 + (r65 * (M82 64 r82)))] M82 (fun r93 M93 => InR r93 ∧ AW mX12_layWays 43 [some (vR 50), some (vI v1), some (vI v2), some (vI v3), some (vI v4), some (vL r93), none, some (vI (v7 + 1))] [] M93 (QV K))))))) :
    AW mX12_layWays 43 [some (vR 50), some (vI v1), some (vI v2), some (vI v3), some (vI v4), some (vL v5), none, some (vI v7)] [] M (QV K) := by
  refine AW.iload (pc := 43) (x := v7) dX12_layWays_43 rfl ?_
  refine AW.iload_n (pc := 45) (x := v2) dX12_layWays_45 rfl ?_
  obtain ⟨o, ha, hb⟩ := h
  refine AW.icmp_gt (pc := 46) (tgt := 105) dX12_layWays_46 (by decide) o.1 o.2 (fun hc => ?_) (fun hc => ?_)
  · have h := ha hc
    refine AW.aload_n (pc := 105) (x := 50) dX12_layWays_105 rfl ?_
    refine AW.getR (pc := 106) (h2 := 64) dX12_layWays_106 fg_X12_50 kd_50 hl_50 rfl ?_
    refine AW.iload_n (pc := 109) (x := v1) dX12_layWays_109 rfl ?_
    refine AW.iload (pc := 110) (x := v4) dX12_layWays_110 rfl ?_
    refine AW.iload_n (pc := 112) (x := v2) dX12_layWays_112 rfl ?_
    refine AW.callS (pc := 113) (As := [vI v1, vI v4, vI v2]) (st := [vR 64]) dX12_layWays_113 cl_X12_160 ⟨Nat.le_of_ble_eq_true rfl, Nat.le_of_ble_eq_true rfl⟩ (Nat.le_of_ble_eq_true rfl) (Nat.le_of_ble_eq_true rfl) h ?_
    rintro _ M113 ⟨r113, rfl, h⟩
    show AW mX12_layWays 116 [some (vR 50), some (vI v1), some (vI v2), some (vI v3), some (vI v4), some (vL v5), none, some (vI v7)] [vI r113, vR 64] M113 (QV K)
    refine AW.lload (pc := 116) (x := v5) dX12_layWays_116 rfl ?_
    refine AW.l2i (pc := 118) dX12_layWays_118 ?_
    obtain ⟨o, h⟩ := h
    refine AW.iast (pc := 119) dX12_layWays_119 kd_64 hl_64 o ?_
    refine AW.iinc (pc := 120) (x := v4) (ls2 := [some (vR 50), some (vI v1), some (vI v2), some (vI v3), some (vI (v4 + (-1))), some (vL v5), none, some (vI v7)]) dX12_layWays_120 rfl (by decide) rfl ?_
    refine AW.goto (pc := 123) (tgt := 32) dX12_layWays_123 (by decide) ?_
    exact AW.weak (ls2 := [some (vR 50), some (vI v1), some (vI v2), some (vI v3), some (vI (v4 + (-1))), none, none, none]) (by simp [lsub]) h
  · have h := hb hc
    refine AW.lload (pc := 49) (x := v5) dX12_layWays_49 rfl ?_
    refine AW.aload_n (pc := 51) (x := 50) dX12_layWays_51 rfl ?_
    refine AW.aload_n (pc := 52) (x := 50) dX12_layWays_52 rfl ?_
    refine AW.getR (pc := 53) (h2 := 53) dX12_layWays_53 fg_X12_16 kd_50 hl_50 rfl ?_
    refine AW.iconst (pc := 56) dX12_layWays_56 ?_
    refine AW.iload_n (pc := 57) (x := v1) dX12_layWays_57 rfl ?_
    refine AW.imul (pc := 58) dX12_layWays_58 ?_
    refine AW.iload (pc := 59) (x := v4) dX12_layWays_59 rfl ?_
    refine AW.iadd (pc := 61) dX12_layWays_61 ?_
    obtain ⟨o, h⟩ := h
    refine AW.iald (pc := 62) dX12_layWays_62 kd_53 hl_53 o ?_
    refine AW.iload (pc := 63) (x := v7) dX12_layWays_63 rfl ?_
    refine AW.callV (pc := 65) (As := [vI (M 53 ((3 * v1) + v4)), vI v7]) (st := [vL v5]) dX12_layWays_65 cl_X12_164 kd_50 hl_50 ⟨Nat.le_of_ble_eq_true rfl, Nat.le_of_ble_eq_true rfl⟩ (Nat.le_of_ble_eq_true rfl) (Nat.le_of_ble_eq_true rfl) h ?_
    rintro _ M65 ⟨r65, rfl, h⟩
    show AW mX12_layWays 68 [some (vR 50), some (vI v1), some (vI v2), some (vI v3), some (vI v4), some (vL v5), none, some (vI v7)] [vI r65, vL v5] M65 (QV K)
    obtain ⟨o, h⟩ := h
    refine AW.i2l (pc := 68) dX12_layWays_68 o ?_
    refine AW.aload_n (pc := 69) (x := 50) dX12_layWays_69 rfl ?_
    refine AW.getR (pc := 70) (h2 := 64) dX12_layWays_70 fg_X12_50 kd_50 hl_50 rfl ?_
    refine AW.iload_n (pc := 73) (x := v1) dX12_layWays_73 rfl ?_
    refine AW.iload (pc := 74) (x := v4) dX12_layWays_74 rfl ?_
    refine AW.iconst (pc := 76) dX12_layWays_76 ?_
    refine AW.iadd (pc := 77) dX12_layWays_77 ?_
    refine AW.iload_n (pc := 78) (x := v2) dX12_layWays_78 rfl ?_
    refine AW.iload (pc := 79) (x := v7) dX12_layWays_79 rfl ?_
    refine AW.isub (pc := 81) dX12_layWays_81 ?_
    refine AW.callS (pc := 82) (As := [vI v1, vI (v4 + 1), vI (v2 - v7)]) (st := [vR 64, vL r65, vL v5]) dX12_layWays_82 cl_X12_160 ⟨Nat.le_of_ble_eq_true rfl, Nat.le_of_ble_eq_true rfl⟩ (Nat.le_of_ble_eq_true rfl) (Nat.le_of_ble_eq_true rfl) h ?_
    rintro _ M82 ⟨r82, rfl, h⟩
    show AW mX12_layWays 85 [some (vR 50), some (vI v1), some (vI v2), some (vI v3), some (vI v4), some (vL v5), none, some (vI v7)] [vI r82, vR 64, vL r65, vL v5] M82 (QV K)
    obtain ⟨o, h⟩ := h
    refine AW.iald (pc := 85) dX12_layWays_85 kd_64 hl_64 o ?_
    obtain ⟨o, h⟩ := h
    refine AW.i2l (pc := 86) dX12_layWays_86 o ?_
    refine AW.lmul (pc := 87) dX12_layWays_87 ?_
    refine AW.ladd (pc := 88) dX12_layWays_88 ?_
    refine AW.lstore (pc := 89) (ls2 := [some (vR 50), some (vI v1), some (vI v2), some (vI v3), some (vI v4), some (vL (v5 + (r65 * (M82 64 r82)))), none, some (vI v7)]) dX12_layWays_89 (by decide) rfl ?_
    refine AW.lload (pc := 91) (x := (v5 + (r65 * (M82 64 r82)))) dX12_layWays_91 rfl ?_
    refine AW.callS (pc := 93) (As := [vL (v5 + (r65 * (M82 64 r82)))]) (st := []) dX12_layWays_93 cl_X12_147 ⟨Nat.le_of_ble_eq_true rfl, Nat.le_of_ble_eq_true rfl⟩ (Nat.le_of_ble_eq_true rfl) (Nat.le_of_ble_eq_true rfl) h ?_
    rintro _ M93 ⟨r93, rfl, h⟩
    show AW mX12_layWays 96 [some (vR 50), some (vI v1), some (vI v2), some (vI v3), some (vI v4), some (vL (v5 + (r65 * (M82 64 r82)))), none, some (vI v7)] [vI r93] M93 (QV K)
    obtain ⟨o, h⟩ := h
    refine AW.i2l (pc := 96) dX12_layWays_96 o ?_
    refine AW.lstore (pc := 97) (ls2 := [some (vR 50), some (vI v1), some (vI v2), some (vI v3), some (vI v4), some (vL r93), none, some (vI v7)]) dX12_layWays_97 (by decide) rfl ?_
    refine AW.iinc (pc := 99) (x := v7) (ls2 := [some (vR 50), some (vI v1), some (vI v2), some (vI v3), some (vI v4), some (vL r93), none, some (vI (v7 + 1))]) dX12_layWays_99 rfl (by decide) rfl ?_
    refine AW.goto (pc := 102) (tgt := 43) dX12_layWays_102 (by decide) ?_
    exact h

set_option maxRecDepth 20000 in
theorem en_X12_layWithin {M : Mem} {K : Mem → Prop} 
    (h : CV mX12_laySmallest [vR 50] M (fun M1 => AW mX12_layWithin 6 [some (vR 50), some (vI 0), none, none] [] M1 (QV K))) :
    CV mX12_layWithin [vR 50] M K := by
  show AW mX12_layWithin 0 [some (vR 50), none, none, none] [] M (QV K)
  refine AW.aload_n (pc := 0) (x := 50) dX12_layWithin_0 rfl ?_
  refine AW.callV (pc := 1) (As := []) (st := []) dX12_layWithin_1 cl_X12_141 kd_50 hl_50 ⟨Nat.le_of_ble_eq_true rfl, Nat.le_of_ble_eq_true rfl⟩ (Nat.le_of_ble_eq_true rfl) (Nat.le_of_ble_eq_true rfl) h ?_
  rintro _ M1 ⟨rfl, h⟩
  show AW mX12_layWithin 4 [some (vR 50), none, none, none] [] M1 (QV K)
  refine AW.iconst (pc := 4) dX12_layWithin_4 ?_
  refine AW.istore_n (pc := 5) (ls2 := [some (vR 50), some (vI 0), none, none]) dX12_layWithin_5 (by decide) rfl ?_
  exact h

set_option maxRecDepth 20000 in
theorem sg_X12_layWithin_6 {M : Mem} {K : Mem → Prop} {v1 : Int} 
    (h : InR v1 ∧ (v1 ≥ 16 → (AW mX12_layWithin 27 [some (vR 50), some (vI 0), none, none] [] M (QV K))) ∧ (¬ (v1 ≥ 16) → ((0 ≤ v1 ∧ v1 < 16) ∧ AW mX12_layWithin 6 [some (vR 50), some (vI (v1 + 1)), none, none] [] (up M 62 v1 0) (QV K)))) :
    AW mX12_layWithin 6 [some (vR 50), some (vI v1), none, none] [] M (QV K) := by
  refine AW.iload_n (pc := 6) (x := v1) dX12_layWithin_6 rfl ?_
  refine AW.bipush (pc := 7) dX12_layWithin_7 (by decide) ?_
  obtain ⟨o, ha, hb⟩ := h
  refine AW.icmp_ge (pc := 9) (tgt := 25) dX12_layWithin_9 (by decide) o (by decide) (fun hc => ?_) (fun hc => ?_)
  · have h := ha hc
    refine AW.iconst (pc := 25) dX12_layWithin_25 ?_
    refine AW.istore_n (pc := 26) (ls2 := [some (vR 50), some (vI 0), none, none]) dX12_layWithin_26 (by decide) rfl ?_
    exact h
  · have h := hb hc
    refine AW.aload_n (pc := 12) (x := 50) dX12_layWithin_12 rfl ?_
    refine AW.getR (pc := 13) (h2 := 62) dX12_layWithin_13 fg_X12_43 kd_50 hl_50 rfl ?_
    refine AW.iload_n (pc := 16) (x := v1) dX12_layWithin_16 rfl ?_
    refine AW.iconst (pc := 17) dX12_layWithin_17 ?_
    obtain ⟨o, h⟩ := h
    refine AW.zast (pc := 18) dX12_layWithin_18 kd_62 hl_62 o (by decide) ?_
    refine AW.iinc (pc := 19) (x := v1) (ls2 := [some (vR 50), some (vI (v1 + 1)), none, none]) dX12_layWithin_19 rfl (by decide) rfl ?_
    refine AW.goto (pc := 22) (tgt := 6) dX12_layWithin_22 (by decide) ?_
    exact h

set_option maxRecDepth 20000 in
theorem sg_X12_layWithin_27 {M : Mem} {K : Mem → Prop} {v1 : Int} 
    (h : (InR v1 ∧ InR (M 50 1)) ∧ (v1 ≥ (M 50 1) → (AW mX12_layWithin 94 [some (vR 50), some (vI 0), none, none] [] M (QV K))) ∧ (¬ (v1 ≥ (M 50 1)) → (AW mX12_layWithin 37 [some (vR 50), some (vI v1), some (vI 0), none] [] M (QV K)))) :
    AW mX12_layWithin 27 [some (vR 50), some (vI v1), none, none] [] M (QV K) := by
  refine AW.iload_n (pc := 27) (x := v1) dX12_layWithin_27 rfl ?_
  refine AW.aload_n (pc := 28) (x := 50) dX12_layWithin_28 rfl ?_
  refine AW.getI (pc := 29) dX12_layWithin_29 fg_X12_121 kd_50 hl_50 rfl ?_
  obtain ⟨o, ha, hb⟩ := h
  refine AW.icmp_ge (pc := 32) (tgt := 92) dX12_layWithin_32 (by decide) o.1 o.2 (fun hc => ?_) (fun hc => ?_)
  · have h := ha hc
    refine AW.iconst (pc := 92) dX12_layWithin_92 ?_
    refine AW.istore_n (pc := 93) (ls2 := [some (vR 50), some (vI 0), none, none]) dX12_layWithin_93 (by decide) rfl ?_
    exact h
  · have h := hb hc
    refine AW.iconst (pc := 35) dX12_layWithin_35 ?_
    refine AW.istore_n (pc := 36) (ls2 := [some (vR 50), some (vI v1), some (vI 0), none]) dX12_layWithin_36 (by decide) rfl ?_
    exact h

set_option maxRecDepth 20000 in
theorem sg_X12_layWithin_37 {M : Mem} {K : Mem → Prop} {v1 v2 : Int} 
    (h : (0 ≤ v1 ∧ v1 < 12) ∧ (InR v2 ∧ InR (M 52 v1)) ∧ (v2 ≥ (M 52 v1) → (AW mX12_layWithin 86 [some (vR 50), some (vI v1), some (vI v2), none] [] M (QV K))) ∧ (¬ (v2 ≥ (M 52 v1)) → (CI mX12_sizeBy [vR 50, vI v1] M (fun r49 M49 => InR r49 ∧ (r49 ≤ 0 → (AW mX12_layWithin 86 [some (vR 50), some (vI v1), some (vI v2), none] [] M49 (QV K))) ∧ (¬ (r49 ≤ 0) → ((0 ≤ v1 ∧ v1 < 12) ∧ (0 ≤ ((3 * v1) + v2) ∧ ((3 * v1) + v2) < 36) ∧ (0 ≤ ((4 * (M49 51 v1)) + (M49 53 ((3 * v1) + v2))) ∧ ((4 * (M49 51 v1)) + (M49 53 ((3 * v1) + v2))) < 16) ∧ AW mX12_layWithin 37 [some (vR 50), some (vI v1), some (vI (v2 + 1)), none] [] (up M49 62 ((4 * (M49 51 v1)) + (M49 53 ((3 * v1) + v2))) 1) (QV K))))))) :
    AW mX12_layWithin 37 [some (vR 50), some (vI v1), some (vI v2), none] [] M (QV K) := by
  refine AW.iload_n (pc := 37) (x := v2) dX12_layWithin_37 rfl ?_
  refine AW.aload_n (pc := 38) (x := 50) dX12_layWithin_38 rfl ?_
  refine AW.getR (pc := 39) (h2 := 52) dX12_layWithin_39 fg_X12_13 kd_50 hl_50 rfl ?_
  refine AW.iload_n (pc := 42) (x := v1) dX12_layWithin_42 rfl ?_
  obtain ⟨o, h⟩ := h
  refine AW.iald (pc := 43) dX12_layWithin_43 kd_52 hl_52 o ?_
  obtain ⟨o, ha, hb⟩ := h
  refine AW.icmp_ge (pc := 44) (tgt := 86) dX12_layWithin_44 (by decide) o.1 o.2 (fun hc => ?_) (fun hc => ?_)
  · have h := ha hc
    exact h
  · have h := hb hc
    refine AW.aload_n (pc := 47) (x := 50) dX12_layWithin_47 rfl ?_
    refine AW.iload_n (pc := 48) (x := v1) dX12_layWithin_48 rfl ?_
    refine AW.callV (pc := 49) (As := [vI v1]) (st := []) dX12_layWithin_49 cl_X12_137 kd_50 hl_50 ⟨Nat.le_of_ble_eq_true rfl, Nat.le_of_ble_eq_true rfl⟩ (Nat.le_of_ble_eq_true rfl) (Nat.le_of_ble_eq_true rfl) h ?_
    rintro _ M49 ⟨r49, rfl, h⟩
    show AW mX12_layWithin 52 [some (vR 50), some (vI v1), some (vI v2), none] [vI r49] M49 (QV K)
    obtain ⟨o, ha, hb⟩ := h
    refine AW.if_le (pc := 52) (tgt := 86) dX12_layWithin_52 (by decide) o (fun hc => ?_) (fun hc => ?_)
    · have h := ha hc
      exact h
    · have h := hb hc
      refine AW.aload_n (pc := 55) (x := 50) dX12_layWithin_55 rfl ?_
      refine AW.getR (pc := 56) (h2 := 62) dX12_layWithin_56 fg_X12_43 kd_50 hl_50 rfl ?_
      refine AW.iconst (pc := 59) dX12_layWithin_59 ?_
      refine AW.aload_n (pc := 60) (x := 50) dX12_layWithin_60 rfl ?_
      refine AW.getR (pc := 61) (h2 := 51) dX12_layWithin_61 fg_X12_7 kd_50 hl_50 rfl ?_
      refine AW.iload_n (pc := 64) (x := v1) dX12_layWithin_64 rfl ?_
      obtain ⟨o, h⟩ := h
      refine AW.iald (pc := 65) dX12_layWithin_65 kd_51 hl_51 o ?_
      refine AW.imul (pc := 66) dX12_layWithin_66 ?_
      refine AW.aload_n (pc := 67) (x := 50) dX12_layWithin_67 rfl ?_
      refine AW.getR (pc := 68) (h2 := 53) dX12_layWithin_68 fg_X12_16 kd_50 hl_50 rfl ?_
      refine AW.iconst (pc := 71) dX12_layWithin_71 ?_
      refine AW.iload_n (pc := 72) (x := v1) dX12_layWithin_72 rfl ?_
      refine AW.imul (pc := 73) dX12_layWithin_73 ?_
      refine AW.iload_n (pc := 74) (x := v2) dX12_layWithin_74 rfl ?_
      refine AW.iadd (pc := 75) dX12_layWithin_75 ?_
      obtain ⟨o, h⟩ := h
      refine AW.iald (pc := 76) dX12_layWithin_76 kd_53 hl_53 o ?_
      refine AW.iadd (pc := 77) dX12_layWithin_77 ?_
      refine AW.iconst (pc := 78) dX12_layWithin_78 ?_
      obtain ⟨o, h⟩ := h
      refine AW.zast (pc := 79) dX12_layWithin_79 kd_62 hl_62 o (by decide) ?_
      refine AW.iinc (pc := 80) (x := v2) (ls2 := [some (vR 50), some (vI v1), some (vI (v2 + 1)), none]) dX12_layWithin_80 rfl (by decide) rfl ?_
      refine AW.goto (pc := 83) (tgt := 37) dX12_layWithin_83 (by decide) ?_
      exact h

set_option maxRecDepth 20000 in
theorem sg_X12_layWithin_86 {M : Mem} {K : Mem → Prop} {v1 v2 : Int} 
    (h : AW mX12_layWithin 27 [some (vR 50), some (vI (v1 + 1)), none, none] [] M (QV K)) :
    AW mX12_layWithin 86 [some (vR 50), some (vI v1), some (vI v2), none] [] M (QV K) := by
  refine AW.iinc (pc := 86) (x := v1) (ls2 := [some (vR 50), some (vI (v1 + 1)), some (vI v2), none]) dX12_layWithin_86 rfl (by decide) rfl ?_
  refine AW.goto (pc := 89) (tgt := 27) dX12_layWithin_89 (by decide) ?_
  exact AW.weak (ls2 := [some (vR 50), some (vI (v1 + 1)), none, none]) (by simp [lsub]) h

set_option maxRecDepth 20000 in
theorem sg_X12_layWithin_94 {M : Mem} {K : Mem → Prop} {v1 : Int} 
    (h : InR v1 ∧ (v1 ≥ 4 → (K M)) ∧ (¬ (v1 ≥ 4) → (AW mX12_layWithin 101 [some (vR 50), some (vI v1), some (vI 0), none] [] M (QV K)))) :
    AW mX12_layWithin 94 [some (vR 50), some (vI v1), none, none] [] M (QV K) := by
  refine AW.iload_n (pc := 94) (x := v1) dX12_layWithin_94 rfl ?_
  refine AW.iconst (pc := 95) dX12_layWithin_95 ?_
  obtain ⟨o, ha, hb⟩ := h
  refine AW.icmp_ge (pc := 96) (tgt := 185) dX12_layWithin_96 (by decide) o (by decide) (fun hc => ?_) (fun hc => ?_)
  · have h := ha hc
    exact AW.vret (st := []) (pc := 185) dX12_layWithin_185 rfl ⟨rfl, h⟩
  · have h := hb hc
    refine AW.iconst (pc := 99) dX12_layWithin_99 ?_
    refine AW.istore_n (pc := 100) (ls2 := [some (vR 50), some (vI v1), some (vI 0), none]) dX12_layWithin_100 (by decide) rfl ?_
    exact h

set_option maxRecDepth 20000 in
theorem sg_X12_layWithin_101 {M : Mem} {K : Mem → Prop} {v1 v2 : Int} 
    (h : InR v2 ∧ (v2 ≥ 4 → (AW mX12_layWithin 94 [some (vR 50), some (vI (v1 + 1)), none, none] [] M (QV K))) ∧ (¬ (v2 ≥ 4) → (AW mX12_layWithin 108 [some (vR 50), some (vI v1), some (vI v2), some (vI 0)] [] M (QV K)))) :
    AW mX12_layWithin 101 [some (vR 50), some (vI v1), some (vI v2), none] [] M (QV K) := by
  refine AW.iload_n (pc := 101) (x := v2) dX12_layWithin_101 rfl ?_
  refine AW.iconst (pc := 102) dX12_layWithin_102 ?_
  obtain ⟨o, ha, hb⟩ := h
  refine AW.icmp_ge (pc := 103) (tgt := 179) dX12_layWithin_103 (by decide) o (by decide) (fun hc => ?_) (fun hc => ?_)
  · have h := ha hc
    refine AW.iinc (pc := 179) (x := v1) (ls2 := [some (vR 50), some (vI (v1 + 1)), some (vI v2), none]) dX12_layWithin_179 rfl (by decide) rfl ?_
    refine AW.goto (pc := 182) (tgt := 94) dX12_layWithin_182 (by decide) ?_
    exact AW.weak (ls2 := [some (vR 50), some (vI (v1 + 1)), none, none]) (by simp [lsub]) h
  · have h := hb hc
    refine AW.iconst (pc := 106) dX12_layWithin_106 ?_
    refine AW.istore_n (pc := 107) (ls2 := [some (vR 50), some (vI v1), some (vI v2), some (vI 0)]) dX12_layWithin_107 (by decide) rfl ?_
    exact h

set_option maxRecDepth 20000 in
theorem sg_X12_layWithin_108 {M : Mem} {K : Mem → Prop} {v1 v2 v3 : Int} 
    (h : InR v3 ∧ (v3 ≥ 4 → (AW mX12_layWithin 101 [some (vR 50), some (vI v1), some (vI (v2 + 1)), none] [] M (QV K))) ∧ (¬ (v3 ≥ 4) → ((0 ≤ ((4 * v2) + v3) ∧ ((4 * v2) + v3) < 16) ∧ InR (M 62 ((4 * v2) + v3)) ∧ ((M 62 ((4 * v2) + v3)) ≠ 0 → ((0 ≤ ((4 * v2) + v3) ∧ ((4 * v2) + v3) < 16) ∧ AW mX12_layWithin 108 [some (vR 50), some (vI v1), some (vI v2), some (vI (v3 + 1))] [] (up M 62 ((4 * v2) + v3) 1) (QV K))) ∧ (¬ ((M 62 ((4 * v2) + v3)) ≠ 0) → ((0 ≤ ((4 * v2) + v1) ∧ ((4 * v2) + v1) < 16) ∧ InR (M 62 ((4 * v2) + v1)) ∧ ((M 62 ((4 * v2) + v1)) = 0 → ((0 ≤ ((4 * v2) + v3) ∧ ((4 * v2) + v3) < 16) ∧ AW mX12_layWithin 108 [some (vR 50), some (vI v1), some (vI v2), some (vI (v3 + 1))] [] (up M 62 ((4 * v2) + v3) 0) (QV K))) ∧ (¬ ((M 62 ((4 * v2) + v1)) = 0) → ((0 ≤ ((4 * v1) + v3) ∧ ((4 * v1) + v3) < 16) ∧ InR (M 62 ((4 * v1) + v3)) ∧ ((M 62 ((4 * v1) + v3)) = 0 → ((0 ≤ ((4 * v2) + v3) ∧ ((4 * v2) + v3) < 16) ∧ AW mX12_layWithin 108 [some (vR 50), some (vI v1), some (vI v2), some (vI (v3 + 1))] [] (up M 62 ((4 * v2) + v3) 0) (QV K))) ∧ (¬ ((M 62 ((4 * v1) + v3)) = 0) → ((0 ≤ ((4 * v2) + v3) ∧ ((4 * v2) + v3) < 16) ∧ AW mX12_layWithin 108 [some (vR 50), some (vI v1), some (vI v2), some (vI (v3 + 1))] [] (up M 62 ((4 * v2) + v3) 1) (QV K)))))))))) :
    AW mX12_layWithin 108 [some (vR 50), some (vI v1), some (vI v2), some (vI v3)] [] M (QV K) := by
  refine AW.iload_n (pc := 108) (x := v3) dX12_layWithin_108 rfl ?_
  refine AW.iconst (pc := 109) dX12_layWithin_109 ?_
  obtain ⟨o, ha, hb⟩ := h
  refine AW.icmp_ge (pc := 110) (tgt := 173) dX12_layWithin_110 (by decide) o (by decide) (fun hc => ?_) (fun hc => ?_)
  · have h := ha hc
    refine AW.iinc (pc := 173) (x := v2) (ls2 := [some (vR 50), some (vI v1), some (vI (v2 + 1)), some (vI v3)]) dX12_layWithin_173 rfl (by decide) rfl ?_
    refine AW.goto (pc := 176) (tgt := 101) dX12_layWithin_176 (by decide) ?_
    exact AW.weak (ls2 := [some (vR 50), some (vI v1), some (vI (v2 + 1)), none]) (by simp [lsub]) h
  · have h := hb hc
    refine AW.aload_n (pc := 113) (x := 50) dX12_layWithin_113 rfl ?_
    refine AW.getR (pc := 114) (h2 := 62) dX12_layWithin_114 fg_X12_43 kd_50 hl_50 rfl ?_
    refine AW.iconst (pc := 117) dX12_layWithin_117 ?_
    refine AW.iload_n (pc := 118) (x := v2) dX12_layWithin_118 rfl ?_
    refine AW.imul (pc := 119) dX12_layWithin_119 ?_
    refine AW.iload_n (pc := 120) (x := v3) dX12_layWithin_120 rfl ?_
    refine AW.iadd (pc := 121) dX12_layWithin_121 ?_
    refine AW.aload_n (pc := 122) (x := 50) dX12_layWithin_122 rfl ?_
    refine AW.getR (pc := 123) (h2 := 62) dX12_layWithin_123 fg_X12_43 kd_50 hl_50 rfl ?_
    refine AW.iconst (pc := 126) dX12_layWithin_126 ?_
    refine AW.iload_n (pc := 127) (x := v2) dX12_layWithin_127 rfl ?_
    refine AW.imul (pc := 128) dX12_layWithin_128 ?_
    refine AW.iload_n (pc := 129) (x := v3) dX12_layWithin_129 rfl ?_
    refine AW.iadd (pc := 130) dX12_layWithin_130 ?_
    obtain ⟨o, h⟩ := h
    refine AW.zald (pc := 131) dX12_layWithin_131 kd_62 hl_62 o ?_
    obtain ⟨o, ha, hb⟩ := h
    refine AW.if_ne (pc := 132) (tgt := 161) dX12_layWithin_132 (by decide) o (fun hc => ?_) (fun hc => ?_)
    · have h := ha hc
      refine AW.iconst (pc := 161) dX12_layWithin_161 ?_
      refine AW.goto (pc := 162) (tgt := 166) dX12_layWithin_162 (by decide) ?_
      obtain ⟨o, h⟩ := h
      refine AW.zast (pc := 166) dX12_layWithin_166 kd_62 hl_62 o (by decide) ?_
      refine AW.iinc (pc := 167) (x := v3) (ls2 := [some (vR 50), some (vI v1), some (vI v2), some (vI (v3 + 1))]) dX12_layWithin_167 rfl (by decide) rfl ?_
      refine AW.goto (pc := 170) (tgt := 108) dX12_layWithin_170 (by decide) ?_
      exact h
    · have h := hb hc
      refine AW.aload_n (pc := 135) (x := 50) dX12_layWithin_135 rfl ?_
      refine AW.getR (pc := 136) (h2 := 62) dX12_layWithin_136 fg_X12_43 kd_50 hl_50 rfl ?_
      refine AW.iconst (pc := 139) dX12_layWithin_139 ?_
      refine AW.iload_n (pc := 140) (x := v2) dX12_layWithin_140 rfl ?_
      refine AW.imul (pc := 141) dX12_layWithin_141 ?_
      refine AW.iload_n (pc := 142) (x := v1) dX12_layWithin_142 rfl ?_
      refine AW.iadd (pc := 143) dX12_layWithin_143 ?_
      obtain ⟨o, h⟩ := h
      refine AW.zald (pc := 144) dX12_layWithin_144 kd_62 hl_62 o ?_
      obtain ⟨o, ha, hb⟩ := h
      refine AW.if_eq (pc := 145) (tgt := 165) dX12_layWithin_145 (by decide) o (fun hc => ?_) (fun hc => ?_)
      · have h := ha hc
        refine AW.iconst (pc := 165) dX12_layWithin_165 ?_
        obtain ⟨o, h⟩ := h
        refine AW.zast (pc := 166) dX12_layWithin_166 kd_62 hl_62 o (by decide) ?_
        refine AW.iinc (pc := 167) (x := v3) (ls2 := [some (vR 50), some (vI v1), some (vI v2), some (vI (v3 + 1))]) dX12_layWithin_167 rfl (by decide) rfl ?_
        refine AW.goto (pc := 170) (tgt := 108) dX12_layWithin_170 (by decide) ?_
        exact h
      · have h := hb hc
        refine AW.aload_n (pc := 148) (x := 50) dX12_layWithin_148 rfl ?_
        refine AW.getR (pc := 149) (h2 := 62) dX12_layWithin_149 fg_X12_43 kd_50 hl_50 rfl ?_
        refine AW.iconst (pc := 152) dX12_layWithin_152 ?_
        refine AW.iload_n (pc := 153) (x := v1) dX12_layWithin_153 rfl ?_
        refine AW.imul (pc := 154) dX12_layWithin_154 ?_
        refine AW.iload_n (pc := 155) (x := v3) dX12_layWithin_155 rfl ?_
        refine AW.iadd (pc := 156) dX12_layWithin_156 ?_
        obtain ⟨o, h⟩ := h
        refine AW.zald (pc := 157) dX12_layWithin_157 kd_62 hl_62 o ?_
        obtain ⟨o, ha, hb⟩ := h
        refine AW.if_eq (pc := 158) (tgt := 165) dX12_layWithin_158 (by decide) o (fun hc => ?_) (fun hc => ?_)
        · have h := ha hc
          refine AW.iconst (pc := 165) dX12_layWithin_165 ?_
          obtain ⟨o, h⟩ := h
          refine AW.zast (pc := 166) dX12_layWithin_166 kd_62 hl_62 o (by decide) ?_
          refine AW.iinc (pc := 167) (x := v3) (ls2 := [some (vR 50), some (vI v1), some (vI v2), some (vI (v3 + 1))]) dX12_layWithin_167 rfl (by decide) rfl ?_
          refine AW.goto (pc := 170) (tgt := 108) dX12_layWithin_170 (by decide) ?_
          exact h
        · have h := hb hc
          refine AW.iconst (pc := 161) dX12_layWithin_161 ?_
          refine AW.goto (pc := 162) (tgt := 166) dX12_layWithin_162 (by decide) ?_
          obtain ⟨o, h⟩ := h
          refine AW.zast (pc := 166) dX12_layWithin_166 kd_62 hl_62 o (by decide) ?_
          refine AW.iinc (pc := 167) (x := v3) (ls2 := [some (vR 50), some (vI v1), some (vI v2), some (vI (v3 + 1))]) dX12_layWithin_167 rfl (by decide) rfl ?_
          refine AW.goto (pc := 170) (tgt := 108) dX12_layWithin_170 (by decide) ?_
          exact h

