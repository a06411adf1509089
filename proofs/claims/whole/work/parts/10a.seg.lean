set_option maxRecDepth 20000 in
theorem en_J7_fill_53178 {M : Mem} {K : Mem → Prop} {v1 : Int} 
    (h : AW mJ7_fill_53178 5 [some (vR 16), some (vI v1), some (vI 0), some (vI 100)] [] M (QV K)) :
    CV mJ7_fill_53178 [vR 16, vI v1] M K := by
  show AW mJ7_fill_53178 0 [some (vR 16), some (vI v1), none, none] [] M (QV K)
  refine AW.iconst (pc := 0) dJ7_fill_53178_0 ?_
  refine AW.istore_n (pc := 1) (ls2 := [some (vR 16), some (vI v1), some (vI 0), none]) dJ7_fill_53178_1 (by decide) rfl ?_
  refine AW.aload_n (pc := 2) (x := 16) dJ7_fill_53178_2 rfl ?_
  refine AW.alen (pc := 3) dJ7_fill_53178_3 kd_16 (by decide) hl_16 ?_
  refine AW.istore_n (pc := 4) (ls2 := [some (vR 16), some (vI v1), some (vI 0), some (vI 100)]) dJ7_fill_53178_4 (by decide) rfl ?_
  exact h

set_option maxRecDepth 20000 in
theorem sg_J7_fill_53178_5 {M : Mem} {K : Mem → Prop} {v1 v2 v3 : Int} 
    (h : (InR v2 ∧ InR v3) ∧ (v2 ≥ v3 → (K M)) ∧ (¬ (v2 ≥ v3) → ((0 ≤ v2 ∧ v2 < 100) ∧ AW mJ7_fill_53178 5 [some (vR 16), some (vI v1), some (vI (v2 + 1)), some (vI v3)] [] (up M 16 v2 v1) (QV K)))) :
    AW mJ7_fill_53178 5 [some (vR 16), some (vI v1), some (vI v2), some (vI v3)] [] M (QV K) := by
  refine AW.iload_n (pc := 5) (x := v2) dJ7_fill_53178_5 rfl ?_
  refine AW.iload_n (pc := 6) (x := v3) dJ7_fill_53178_6 rfl ?_
  obtain ⟨o, ha, hb⟩ := h
  refine AW.icmp_ge (pc := 7) (tgt := 20) dJ7_fill_53178_7 (by decide) o.1 o.2 (fun hc => ?_) (fun hc => ?_)
  · have h := ha hc
    exact AW.vret (st := []) (pc := 20) dJ7_fill_53178_20 rfl ⟨rfl, h⟩
  · have h := hb hc
    refine AW.aload_n (pc := 10) (x := 16) dJ7_fill_53178_10 rfl ?_
    refine AW.iload_n (pc := 11) (x := v2) dJ7_fill_53178_11 rfl ?_
    refine AW.iload_n (pc := 12) (x := v1) dJ7_fill_53178_12 rfl ?_
    obtain ⟨o, h⟩ := h
    refine AW.iast (pc := 13) dJ7_fill_53178_13 kd_16 hl_16 o ?_
    refine AW.iinc (pc := 14) (x := v2) (ls2 := [some (vR 16), some (vI v1), some (vI (v2 + 1)), some (vI v3)]) dJ7_fill_53178_14 rfl (by decide) rfl ?_
    refine AW.goto (pc := 17) (tgt := 5) dJ7_fill_53178_17 (by decide) ?_
    exact h

set_option maxRecDepth 20000 in
theorem en_J7_fill_53178_b {M : Mem} {K : Mem → Prop} {v1 : Int} 
    (h : AW mJ7_fill_53178 5 [some (vR 9), some (vI v1), some (vI 0), some (vI 52)] [] M (QV K)) :
    CV mJ7_fill_53178 [vR 9, vI v1] M K := by
  show AW mJ7_fill_53178 0 [some (vR 9), some (vI v1), none, none] [] M (QV K)
  refine AW.iconst (pc := 0) dJ7_fill_53178_0 ?_
  refine AW.istore_n (pc := 1) (ls2 := [some (vR 9), some (vI v1), some (vI 0), none]) dJ7_fill_53178_1 (by decide) rfl ?_
  refine AW.aload_n (pc := 2) (x := 9) dJ7_fill_53178_2 rfl ?_
  refine AW.alen (pc := 3) dJ7_fill_53178_3 kd_9 (by decide) hl_9 ?_
  refine AW.istore_n (pc := 4) (ls2 := [some (vR 9), some (vI v1), some (vI 0), some (vI 52)]) dJ7_fill_53178_4 (by decide) rfl ?_
  exact h

set_option maxRecDepth 20000 in
theorem sg_J7_fill_53178_b_5 {M : Mem} {K : Mem → Prop} {v1 v2 v3 : Int} 
    (h : (InR v2 ∧ InR v3) ∧ (v2 ≥ v3 → (K M)) ∧ (¬ (v2 ≥ v3) → ((0 ≤ v2 ∧ v2 < 52) ∧ AW mJ7_fill_53178 5 [some (vR 9), some (vI v1), some (vI (v2 + 1)), some (vI v3)] [] (up M 9 v2 v1) (QV K)))) :
    AW mJ7_fill_53178 5 [some (vR 9), some (vI v1), some (vI v2), some (vI v3)] [] M (QV K) := by
  refine AW.iload_n (pc := 5) (x := v2) dJ7_fill_53178_5 rfl ?_
  refine AW.iload_n (pc := 6) (x := v3) dJ7_fill_53178_6 rfl ?_
  obtain ⟨o, ha, hb⟩ := h
  refine AW.icmp_ge (pc := 7) (tgt := 20) dJ7_fill_53178_7 (by decide) o.1 o.2 (fun hc => ?_) (fun hc => ?_)
  · have h := ha hc
    exact AW.vret (st := []) (pc := 20) dJ7_fill_53178_20 rfl ⟨rfl, h⟩
  · have h := hb hc
    refine AW.aload_n (pc := 10) (x := 9) dJ7_fill_53178_10 rfl ?_
    refine AW.iload_n (pc := 11) (x := v2) dJ7_fill_53178_11 rfl ?_
    refine AW.iload_n (pc := 12) (x := v1) dJ7_fill_53178_12 rfl ?_
    obtain ⟨o, h⟩ := h
    refine AW.iast (pc := 13) dJ7_fill_53178_13 kd_9 hl_9 o ?_
    refine AW.iinc (pc := 14) (x := v2) (ls2 := [some (vR 9), some (vI v1), some (vI (v2 + 1)), some (vI v3)]) dJ7_fill_53178_14 rfl (by decide) rfl ?_
    refine AW.goto (pc := 17) (tgt := 5) dJ7_fill_53178_17 (by decide) ?_
    exact h

set_option maxRecDepth 20000 in
theorem en_J7_fill_53178_c {M : Mem} {K : Mem → Prop} {v1 : Int} 
    (h : AW mJ7_fill_53178 5 [some (vR 6), some (vI v1), some (vI 0), some (vI 4)] [] M (QV K)) :
    CV mJ7_fill_53178 [vR 6, vI v1] M K := by
  show AW mJ7_fill_53178 0 [some (vR 6), some (vI v1), none, none] [] M (QV K)
  refine AW.iconst (pc := 0) dJ7_fill_53178_0 ?_
  refine AW.istore_n (pc := 1) (ls2 := [some (vR 6), some (vI v1), some (vI 0), none]) dJ7_fill_53178_1 (by decide) rfl ?_
  refine AW.aload_n (pc := 2) (x := 6) dJ7_fill_53178_2 rfl ?_
  refine AW.alen (pc := 3) dJ7_fill_53178_3 kd_6 (by decide) hl_6 ?_
  refine AW.istore_n (pc := 4) (ls2 := [some (vR 6), some (vI v1), some (vI 0), some (vI 4)]) dJ7_fill_53178_4 (by decide) rfl ?_
  exact h

set_option maxRecDepth 20000 in
theorem sg_J7_fill_53178_c_5 {M : Mem} {K : Mem → Prop} {v1 v2 v3 : Int} 
    (h : (InR v2 ∧ InR v3) ∧ (v2 ≥ v3 → (K M)) ∧ (¬ (v2 ≥ v3) → ((0 ≤ v2 ∧ v2 < 4) ∧ AW mJ7_fill_53178 5 [some (vR 6), some (vI v1), some (vI (v2 + 1)), some (vI v3)] [] (up M 6 v2 v1) (QV K)))) :
    AW mJ7_fill_53178 5 [some (vR 6), some (vI v1), some (vI v2), some (vI v3)] [] M (QV K) := by
  refine AW.iload_n (pc := 5) (x := v2) dJ7_fill_53178_5 rfl ?_
  refine AW.iload_n (pc := 6) (x := v3) dJ7_fill_53178_6 rfl ?_
  obtain ⟨o, ha, hb⟩ := h
  refine AW.icmp_ge (pc := 7) (tgt := 20) dJ7_fill_53178_7 (by decide) o.1 o.2 (fun hc => ?_) (fun hc => ?_)
  · have h := ha hc
    exact AW.vret (st := []) (pc := 20) dJ7_fill_53178_20 rfl ⟨rfl, h⟩
  · have h := hb hc
    refine AW.aload_n (pc := 10) (x := 6) dJ7_fill_53178_10 rfl ?_
    refine AW.iload_n (pc := 11) (x := v2) dJ7_fill_53178_11 rfl ?_
    refine AW.iload_n (pc := 12) (x := v1) dJ7_fill_53178_12 rfl ?_
    obtain ⟨o, h⟩ := h
    refine AW.iast (pc := 13) dJ7_fill_53178_13 kd_6 hl_6 o ?_
    refine AW.iinc (pc := 14) (x := v2) (ls2 := [some (vR 6), some (vI v1), some (vI (v2 + 1)), some (vI v3)]) dJ7_fill_53178_14 rfl (by decide) rfl ?_
    refine AW.goto (pc := 17) (tgt := 5) dJ7_fill_53178_17 (by decide) ?_
    exact h

set_option maxRecDepth 20000 in
theorem en_J7_fill_53178_d {M : Mem} {K : Mem → Prop} {v1 : Int} 
    (h : AW mJ7_fill_53178 5 [some (vR 7), some (vI v1), some (vI 0), some (vI 4)] [] M (QV K)) :
    CV mJ7_fill_53178 [vR 7, vI v1] M K := by
  show AW mJ7_fill_53178 0 [some (vR 7), some (vI v1), none, none] [] M (QV K)
  refine AW.iconst (pc := 0) dJ7_fill_53178_0 ?_
  refine AW.istore_n (pc := 1) (ls2 := [some (vR 7), some (vI v1), some (vI 0), none]) dJ7_fill_53178_1 (by decide) rfl ?_
  refine AW.aload_n (pc := 2) (x := 7) dJ7_fill_53178_2 rfl ?_
  refine AW.alen (pc := 3) dJ7_fill_53178_3 kd_7 (by decide) hl_7 ?_
  refine AW.istore_n (pc := 4) (ls2 := [some (vR 7), some (vI v1), some (vI 0), some (vI 4)]) dJ7_fill_53178_4 (by decide) rfl ?_
  exact h

set_option maxRecDepth 20000 in
theorem sg_J7_fill_53178_d_5 {M : Mem} {K : Mem → Prop} {v1 v2 v3 : Int} 
    (h : (InR v2 ∧ InR v3) ∧ (v2 ≥ v3 → (K M)) ∧ (¬ (v2 ≥ v3) → ((0 ≤ v2 ∧ v2 < 4) ∧ AW mJ7_fill_53178 5 [some (vR 7), some (vI v1), some (vI (v2 + 1)), some (vI v3)] [] (up M 7 v2 v1) (QV K)))) :
    AW mJ7_fill_53178 5 [some (vR 7), some (vI v1), some (vI v2), some (vI v3)] [] M (QV K) := by
  refine AW.iload_n (pc := 5) (x := v2) dJ7_fill_53178_5 rfl ?_
  refine AW.iload_n (pc := 6) (x := v3) dJ7_fill_53178_6 rfl ?_
  obtain ⟨o, ha, hb⟩ := h
  refine AW.icmp_ge (pc := 7) (tgt := 20) dJ7_fill_53178_7 (by decide) o.1 o.2 (fun hc => ?_) (fun hc => ?_)
  · have h := ha hc
    exact AW.vret (st := []) (pc := 20) dJ7_fill_53178_20 rfl ⟨rfl, h⟩
  · have h := hb hc
    refine AW.aload_n (pc := 10) (x := 7) dJ7_fill_53178_10 rfl ?_
    refine AW.iload_n (pc := 11) (x := v2) dJ7_fill_53178_11 rfl ?_
    refine AW.iload_n (pc := 12) (x := v1) dJ7_fill_53178_12 rfl ?_
    obtain ⟨o, h⟩ := h
    refine AW.iast (pc := 13) dJ7_fill_53178_13 kd_7 hl_7 o ?_
    refine AW.iinc (pc := 14) (x := v2) (ls2 := [some (vR 7), some (vI v1), some (vI (v2 + 1)), some (vI v3)]) dJ7_fill_53178_14 rfl (by decide) rfl ?_
    refine AW.goto (pc := 17) (tgt := 5) dJ7_fill_53178_17 (by decide) ?_
    exact h

set_option maxRecDepth 20000 in
theorem en_J7_fill_d0a16 {M : Mem} {K : Mem → Prop} {v1 : Int} 
    (h : AW mJ7_fill_d0a16 6 [some (vR 36), some (vL v1), none, some (vI 0), some (vI 157)] [] M (QV K)) :
    CV mJ7_fill_d0a16 [vR 36, vL v1] M K := by
  show AW mJ7_fill_d0a16 0 [some (vR 36), some (vL v1), none, none, none] [] M (QV K)
  refine AW.iconst (pc := 0) dJ7_fill_d0a16_0 ?_
  refine AW.istore_n (pc := 1) (ls2 := [some (vR 36), some (vL v1), none, some (vI 0), none]) dJ7_fill_d0a16_1 (by decide) rfl ?_
  refine AW.aload_n (pc := 2) (x := 36) dJ7_fill_d0a16_2 rfl ?_
  refine AW.alen (pc := 3) dJ7_fill_d0a16_3 kd_36 (by decide) hl_36 ?_
  refine AW.istore (pc := 4) (ls2 := [some (vR 36), some (vL v1), none, some (vI 0), some (vI 157)]) dJ7_fill_d0a16_4 (by decide) rfl ?_
  exact h

set_option maxRecDepth 20000 in
theorem sg_J7_fill_d0a16_6 {M : Mem} {K : Mem → Prop} {v1 v3 v4 : Int} 
    (h : (InR v3 ∧ InR v4) ∧ (v3 ≥ v4 → (K M)) ∧ (¬ (v3 ≥ v4) → ((0 ≤ v3 ∧ v3 < 157) ∧ AW mJ7_fill_d0a16 6 [some (vR 36), some (vL v1), none, some (vI (v3 + 1)), some (vI v4)] [] (up M 36 v3 v1) (QV K)))) :
    AW mJ7_fill_d0a16 6 [some (vR 36), some (vL v1), none, some (vI v3), some (vI v4)] [] M (QV K) := by
  refine AW.iload_n (pc := 6) (x := v3) dJ7_fill_d0a16_6 rfl ?_
  refine AW.iload (pc := 7) (x := v4) dJ7_fill_d0a16_7 rfl ?_
  obtain ⟨o, ha, hb⟩ := h
  refine AW.icmp_ge (pc := 9) (tgt := 22) dJ7_fill_d0a16_9 (by decide) o.1 o.2 (fun hc => ?_) (fun hc => ?_)
  · have h := ha hc
    exact AW.vret (st := []) (pc := 22) dJ7_fill_d0a16_22 rfl ⟨rfl, h⟩
  · have h := hb hc
    refine AW.aload_n (pc := 12) (x := 36) dJ7_fill_d0a16_12 rfl ?_
    refine AW.iload_n (pc := 13) (x := v3) dJ7_fill_d0a16_13 rfl ?_
    refine AW.lload_n (pc := 14) (x := v1) dJ7_fill_d0a16_14 rfl ?_
    obtain ⟨o, h⟩ := h
    refine AW.last (pc := 15) dJ7_fill_d0a16_15 kd_36 hl_36 o ?_
    refine AW.iinc (pc := 16) (x := v3) (ls2 := [some (vR 36), some (vL v1), none, some (vI (v3 + 1)), some (vI v4)]) dJ7_fill_d0a16_16 rfl (by decide) rfl ?_
    refine AW.goto (pc := 19) (tgt := 6) dJ7_fill_d0a16_19 (by decide) ?_
    exact h

set_option maxRecDepth 20000 in
theorem en_X0_addConstructed {M : Mem} {K : Int → Mem → Prop} {v1 v2 v3 v4 : Int} 
    (h : CV mX0_fill [vR 12, vI (M 12 1), vI v1] M (fun M10 => (0 ≤ ((M 12 1) * 3) ∧ ((M 12 1) * 3) < 300) ∧ (0 ≤ (((M 12 1) * 3) + 1) ∧ (((M 12 1) * 3) + 1) < 300) ∧ (0 ≤ (((M 12 1) * 3) + 2) ∧ (((M 12 1) * 3) + 2) < 300) ∧ K (M 12 1) (up (up (up (up M10 15 ((M 12 1) * 3) v2) 15 (((M 12 1) * 3) + 1) v3) 15 (((M 12 1) * 3) + 2) v4) 12 1 ((M10 12 1) + 1)))) :
    CI mX0_addConstructed [vR 12, vI v1, vI v2, vI v3, vI v4] M K := by
  show AW mX0_addConstructed 0 [some (vR 12), some (vI v1), some (vI v2), some (vI v3), some (vI v4), none] [] M (QI K)
  refine AW.aload_n (pc := 0) (x := 12) dX0_addConstructed_0 rfl ?_
  refine AW.getI (pc := 1) dX0_addConstructed_1 fg_X0_34 kd_12 hl_12 rfl ?_
  refine AW.istore (pc := 4) (ls2 := [some (vR 12), some (vI v1), some (vI v2), some (vI v3), some (vI v4), some (vI (M 12 1))]) dX0_addConstructed_4 (by decide) rfl ?_
  refine AW.aload_n (pc := 6) (x := 12) dX0_addConstructed_6 rfl ?_
  refine AW.iload (pc := 7) (x := (M 12 1)) dX0_addConstructed_7 rfl ?_
  refine AW.iload_n (pc := 9) (x := v1) dX0_addConstructed_9 rfl ?_
  refine AW.callV (pc := 10) (As := [vI (M 12 1), vI v1]) (st := []) dX0_addConstructed_10 cl_X0_38 kd_12 hl_12 ⟨Nat.le_of_ble_eq_true rfl, Nat.le_of_ble_eq_true rfl⟩ (Nat.le_of_ble_eq_true rfl) (Nat.le_of_ble_eq_true rfl) h ?_
  rintro _ M10 ⟨rfl, h⟩
  show AW mX0_addConstructed 13 [some (vR 12), some (vI v1), some (vI v2), some (vI v3), some (vI v4), some (vI (M 12 1))] [] M10 (QI K)
  refine AW.aload_n (pc := 13) (x := 12) dX0_addConstructed_13 rfl ?_
  refine AW.getR (pc := 14) (h2 := 15) dX0_addConstructed_14 fg_X0_18 kd_12 hl_12 rfl ?_
  refine AW.iload (pc := 17) (x := (M 12 1)) dX0_addConstructed_17 rfl ?_
  refine AW.iconst (pc := 19) dX0_addConstructed_19 ?_
  refine AW.imul (pc := 20) dX0_addConstructed_20 ?_
  refine AW.iload_n (pc := 21) (x := v2) dX0_addConstructed_21 rfl ?_
  obtain ⟨o, h⟩ := h
  refine AW.iast (pc := 22) dX0_addConstructed_22 kd_15 hl_15 o ?_
  refine AW.aload_n (pc := 23) (x := 12) dX0_addConstructed_23 rfl ?_
  refine AW.getR (pc := 24) (h2 := 15) dX0_addConstructed_24 fg_X0_18 kd_12 hl_12 rfl ?_
  refine AW.iload (pc := 27) (x := (M 12 1)) dX0_addConstructed_27 rfl ?_
  refine AW.iconst (pc := 29) dX0_addConstructed_29 ?_
  refine AW.imul (pc := 30) dX0_addConstructed_30 ?_
  refine AW.iconst (pc := 31) dX0_addConstructed_31 ?_
  refine AW.iadd (pc := 32) dX0_addConstructed_32 ?_
  refine AW.iload_n (pc := 33) (x := v3) dX0_addConstructed_33 rfl ?_
  obtain ⟨o, h⟩ := h
  refine AW.iast (pc := 34) dX0_addConstructed_34 kd_15 hl_15 o ?_
  refine AW.aload_n (pc := 35) (x := 12) dX0_addConstructed_35 rfl ?_
  refine AW.getR (pc := 36) (h2 := 15) dX0_addConstructed_36 fg_X0_18 kd_12 hl_12 rfl ?_
  refine AW.iload (pc := 39) (x := (M 12 1)) dX0_addConstructed_39 rfl ?_
  refine AW.iconst (pc := 41) dX0_addConstructed_41 ?_
  refine AW.imul (pc := 42) dX0_addConstructed_42 ?_
  refine AW.iconst (pc := 43) dX0_addConstructed_43 ?_
  refine AW.iadd (pc := 44) dX0_addConstructed_44 ?_
  refine AW.iload (pc := 45) (x := v4) dX0_addConstructed_45 rfl ?_
  obtain ⟨o, h⟩ := h
  refine AW.iast (pc := 47) dX0_addConstructed_47 kd_15 hl_15 o ?_
  refine AW.aload_n (pc := 48) (x := 12) dX0_addConstructed_48 rfl ?_
  refine AW.dup (pc := 49) dX0_addConstructed_49 rfl ?_
  refine AW.getI (pc := 50) dX0_addConstructed_50 fg_X0_34 kd_12 hl_12 rfl ?_
  refine AW.iconst (pc := 53) dX0_addConstructed_53 ?_
  refine AW.iadd (pc := 54) dX0_addConstructed_54 ?_
  refine AW.put (pc := 55) dX0_addConstructed_55 fp_X0_34 kd_12 hl_12 rfl ?_
  refine AW.iload (pc := 58) (x := (M 12 1)) dX0_addConstructed_58 rfl ?_
  exact AW.iret (st := []) (pc := 60) dX0_addConstructed_60 rfl ⟨_, rfl, h⟩

set_option maxRecDepth 20000 in
theorem en_X0_addVariable {M : Mem} {K : Int → Mem → Prop} {v1 : Int} 
    (h : (0 ≤ (M 12 1) ∧ (M 12 1) < 100) ∧ (0 ≤ (M 12 1) ∧ (M 12 1) < 100) ∧ K (M 12 1) (up (up (up M 13 (M 12 1) v1) 14 (M 12 1) (-1)) 12 1 ((M 12 1) + 1))) :
    CI mX0_addVariable [vR 12, vI v1] M K := by
  show AW mX0_addVariable 0 [some (vR 12), some (vI v1), none] [] M (QI K)
  refine AW.aload_n (pc := 0) (x := 12) dX0_addVariable_0 rfl ?_
  refine AW.getI (pc := 1) dX0_addVariable_1 fg_X0_34 kd_12 hl_12 rfl ?_
  refine AW.istore_n (pc := 4) (ls2 := [some (vR 12), some (vI v1), some (vI (M 12 1))]) dX0_addVariable_4 (by decide) rfl ?_
  refine AW.aload_n (pc := 5) (x := 12) dX0_addVariable_5 rfl ?_
  refine AW.getR (pc := 6) (h2 := 13) dX0_addVariable_6 fg_X0_9 kd_12 hl_12 rfl ?_
  refine AW.iload_n (pc := 9) (x := (M 12 1)) dX0_addVariable_9 rfl ?_
  refine AW.iload_n (pc := 10) (x := v1) dX0_addVariable_10 rfl ?_
  obtain ⟨o, h⟩ := h
  refine AW.iast (pc := 11) dX0_addVariable_11 kd_13 hl_13 o ?_
  refine AW.aload_n (pc := 12) (x := 12) dX0_addVariable_12 rfl ?_
  refine AW.getR (pc := 13) (h2 := 14) dX0_addVariable_13 fg_X0_15 kd_12 hl_12 rfl ?_
  refine AW.iload_n (pc := 16) (x := (M 12 1)) dX0_addVariable_16 rfl ?_
  refine AW.iconst (pc := 17) dX0_addVariable_17 ?_
  obtain ⟨o, h⟩ := h
  refine AW.iast (pc := 18) dX0_addVariable_18 kd_14 hl_14 o ?_
  refine AW.aload_n (pc := 19) (x := 12) dX0_addVariable_19 rfl ?_
  refine AW.dup (pc := 20) dX0_addVariable_20 rfl ?_
  refine AW.getI (pc := 21) dX0_addVariable_21 fg_X0_34 kd_12 hl_12 rfl ?_
  refine AW.iconst (pc := 24) dX0_addVariable_24 ?_
  refine AW.iadd (pc := 25) dX0_addVariable_25 ?_
  refine AW.put (pc := 26) dX0_addVariable_26 fp_X0_34 kd_12 hl_12 rfl ?_
  refine AW.iload_n (pc := 29) (x := (M 12 1)) dX0_addVariable_29 rfl ?_
  exact AW.iret (st := []) (pc := 30) dX0_addVariable_30 rfl ⟨_, rfl, h⟩

set_option maxRecDepth 20000 in
theorem en_X0_contains {M : Mem} {K : Int → Mem → Prop} {v1 : Int} 
    (h : InR v1 ∧ (v1 < 0 → (K 0 M)) ∧ (¬ (v1 < 0) → ((InR v1 ∧ InR (M 12 1)) ∧ (v1 ≥ (M 12 1) → (K 0 M)) ∧ (¬ (v1 ≥ (M 12 1)) → (K 1 M))))) :
    CI mX0_contains [vR 12, vI v1] M K := by
  show AW mX0_contains 0 [some (vR 12), some (vI v1)] [] M (QI K)
  refine AW.iload_n (pc := 0) (x := v1) dX0_contains_0 rfl ?_
  obtain ⟨o, ha, hb⟩ := h
  refine AW.if_lt (pc := 1) (tgt := 16) dX0_contains_1 (by decide) o (fun hc => ?_) (fun hc => ?_)
  · have h := ha hc
    refine AW.iconst (pc := 16) dX0_contains_16 ?_
    exact AW.zret (st := []) (pc := 17) dX0_contains_17 rfl (by decide) ⟨_, rfl, h⟩
  · have h := hb hc
    refine AW.iload_n (pc := 4) (x := v1) dX0_contains_4 rfl ?_
    refine AW.aload_n (pc := 5) (x := 12) dX0_contains_5 rfl ?_
    refine AW.getI (pc := 6) dX0_contains_6 fg_X0_34 kd_12 hl_12 rfl ?_
    obtain ⟨o, ha, hb⟩ := h
    refine AW.icmp_ge (pc := 9) (tgt := 16) dX0_contains_9 (by decide) o.1 o.2 (fun hc => ?_) (fun hc => ?_)
    · have h := ha hc
      refine AW.iconst (pc := 16) dX0_contains_16 ?_
      exact AW.zret (st := []) (pc := 17) dX0_contains_17 rfl (by decide) ⟨_, rfl, h⟩
    · have h := hb hc
      refine AW.iconst (pc := 12) dX0_contains_12 ?_
      refine AW.goto (pc := 13) (tgt := 17) dX0_contains_13 (by decide) ?_
      exact AW.zret (st := []) (pc := 17) dX0_contains_17 rfl (by decide) ⟨_, rfl, h⟩

set_option maxRecDepth 20000 in
theorem en_X0_countBound {M : Mem} {K : Int → Mem → Prop} 
    (h : AW mX0_countBound 4 [some (vR 12), some (vI 0), some (vI 0)] [] M (QI K)) :
    CI mX0_countBound [vR 12] M K := by
  show AW mX0_countBound 0 [some (vR 12), none, none] [] M (QI K)
  refine AW.iconst (pc := 0) dX0_countBound_0 ?_
  refine AW.istore_n (pc := 1) (ls2 := [some (vR 12), some (vI 0), none]) dX0_countBound_1 (by decide) rfl ?_
  refine AW.iconst (pc := 2) dX0_countBound_2 ?_
  refine AW.istore_n (pc := 3) (ls2 := [some (vR 12), some (vI 0), some (vI 0)]) dX0_countBound_3 (by decide) rfl ?_
  exact h

set_option maxRecDepth 20000 in
theorem sg_X0_countBound_4 {M : Mem} {K : Int → Mem → Prop} {v1 v2 : Int} 
    (h : (InR v2 ∧ InR (M 12 1)) ∧ (v2 ≥ (M 12 1) → (K v1 M)) ∧ (¬ (v2 ≥ (M 12 1)) → ((0 ≤ v2 ∧ v2 < 100) ∧ InR (M 16 v2) ∧ ((M 16 v2) = (-1) → (AW mX0_countBound 25 [some (vR 12), some (vI v1), some (vI v2)] [] M (QI K))) ∧ (¬ ((M 16 v2) = (-1)) → (AW mX0_countBound 25 [some (vR 12), some (vI (v1 + 1)), some (vI v2)] [] M (QI K)))))) :
    AW mX0_countBound 4 [some (vR 12), some (vI v1), some (vI v2)] [] M (QI K) := by
  refine AW.iload_n (pc := 4) (x := v2) dX0_countBound_4 rfl ?_
  refine AW.aload_n (pc := 5) (x := 12) dX0_countBound_5 rfl ?_
  refine AW.getI (pc := 6) dX0_countBound_6 fg_X0_34 kd_12 hl_12 rfl ?_
  obtain ⟨o, ha, hb⟩ := h
  refine AW.icmp_ge (pc := 9) (tgt := 31) dX0_countBound_9 (by decide) o.1 o.2 (fun hc => ?_) (fun hc => ?_)
  · have h := ha hc
    refine AW.iload_n (pc := 31) (x := v1) dX0_countBound_31 rfl ?_
    exact AW.iret (st := []) (pc := 32) dX0_countBound_32 rfl ⟨_, rfl, h⟩
  · have h := hb hc
    refine AW.aload_n (pc := 12) (x := 12) dX0_countBound_12 rfl ?_
    refine AW.getR (pc := 13) (h2 := 16) dX0_countBound_13 fg_X0_21 kd_12 hl_12 rfl ?_
    refine AW.iload_n (pc := 16) (x := v2) dX0_countBound_16 rfl ?_
    obtain ⟨o, h⟩ := h
    refine AW.iald (pc := 17) dX0_countBound_17 kd_16 hl_16 o ?_
    refine AW.iconst (pc := 18) dX0_countBound_18 ?_
    obtain ⟨o, ha, hb⟩ := h
    refine AW.icmp_eq (pc := 19) (tgt := 25) dX0_countBound_19 (by decide) o (by decide) (fun hc => ?_) (fun hc => ?_)
    · have h := ha hc
      exact h
    · have h := hb hc
      refine AW.iinc (pc := 22) (x := v1) (ls2 := [some (vR 12), some (vI (v1 + 1)), some (vI v2)]) dX0_countBound_22 rfl (by decide) rfl ?_
      exact h

set_option maxRecDepth 20000 in
theorem sg_X0_countBound_25 {M : Mem} {K : Int → Mem → Prop} {v1 v2 : Int} 
    (h : AW mX0_countBound 4 [some (vR 12), some (vI v1), some (vI (v2 + 1))] [] M (QI K)) :
    AW mX0_countBound 25 [some (vR 12), some (vI v1), some (vI v2)] [] M (QI K) := by
  refine AW.iinc (pc := 25) (x := v2) (ls2 := [some (vR 12), some (vI v1), some (vI (v2 + 1))]) dX0_countBound_25 rfl (by decide) rfl ?_
  refine AW.goto (pc := 28) (tgt := 4) dX0_countBound_28 (by decide) ?_
  exact h

set_option maxRecDepth 20000 in
theorem en_X0_fill {M : Mem} {K : Mem → Prop} {v1 v2 : Int} 
    (h : (0 ≤ v2 ∧ v2 < 12) ∧ (0 ≤ v1 ∧ v1 < 100) ∧ (0 ≤ v1 ∧ v1 < 100) ∧ K (up (up M 13 v1 (M 2 v2)) 14 v1 v2)) :
    CV mX0_fill [vR 12, vI v1, vI v2] M K := by
  show AW mX0_fill 0 [some (vR 12), some (vI v1), some (vI v2)] [] M (QV K)
  refine AW.aload_n (pc := 0) (x := 12) dX0_fill_0 rfl ?_
  refine AW.getR (pc := 1) (h2 := 13) dX0_fill_1 fg_X0_9 kd_12 hl_12 rfl ?_
  refine AW.iload_n (pc := 4) (x := v1) dX0_fill_4 rfl ?_
  refine AW.aload_n (pc := 5) (x := 12) dX0_fill_5 rfl ?_
  refine AW.getR (pc := 6) (h2 := 1) dX0_fill_6 fg_X0_24 kd_12 hl_12 rfl ?_
  refine AW.getR (pc := 9) (h2 := 2) dX0_fill_9 fg_X0_41 kd_1 hl_1 rfl ?_
  refine AW.iload_n (pc := 12) (x := v2) dX0_fill_12 rfl ?_
  obtain ⟨o, h⟩ := h
  refine AW.iald (pc := 13) dX0_fill_13 kd_2 hl_2 o ?_
  obtain ⟨o, h⟩ := h
  refine AW.iast (pc := 14) dX0_fill_14 kd_13 hl_13 o ?_
  refine AW.aload_n (pc := 15) (x := 12) dX0_fill_15 rfl ?_
  refine AW.getR (pc := 16) (h2 := 14) dX0_fill_16 fg_X0_15 kd_12 hl_12 rfl ?_
  refine AW.iload_n (pc := 19) (x := v1) dX0_fill_19 rfl ?_
  refine AW.iload_n (pc := 20) (x := v2) dX0_fill_20 rfl ?_
  obtain ⟨o, h⟩ := h
  refine AW.iast (pc := 21) dX0_fill_21 kd_14 hl_14 o ?_
  exact AW.vret (st := []) (pc := 22) dX0_fill_22 rfl ⟨rfl, h⟩

set_option maxRecDepth 20000 in
theorem en_X0_isVariable {M : Mem} {K : Int → Mem → Prop} {v1 : Int} 
    (h : (0 ≤ v1 ∧ v1 < 100) ∧ InR (M 14 v1) ∧ ((M 14 v1) ≠ (-1) → (K 0 M)) ∧ (¬ ((M 14 v1) ≠ (-1)) → (K 1 M))) :
    CI mX0_isVariable [vR 12, vI v1] M K := by
  show AW mX0_isVariable 0 [some (vR 12), some (vI v1)] [] M (QI K)
  refine AW.aload_n (pc := 0) (x := 12) dX0_isVariable_0 rfl ?_
  refine AW.getR (pc := 1) (h2 := 14) dX0_isVariable_1 fg_X0_15 kd_12 hl_12 rfl ?_
  refine AW.iload_n (pc := 4) (x := v1) dX0_isVariable_4 rfl ?_
  obtain ⟨o, h⟩ := h
  refine AW.iald (pc := 5) dX0_isVariable_5 kd_14 hl_14 o ?_
  refine AW.iconst (pc := 6) dX0_isVariable_6 ?_
  obtain ⟨o, ha, hb⟩ := h
  refine AW.icmp_ne (pc := 7) (tgt := 14) dX0_isVariable_7 (by decide) o (by decide) (fun hc => ?_) (fun hc => ?_)
  · have h := ha hc
    refine AW.iconst (pc := 14) dX0_isVariable_14 ?_
    exact AW.zret (st := []) (pc := 15) dX0_isVariable_15 rfl (by decide) ⟨_, rfl, h⟩
  · have h := hb hc
    refine AW.iconst (pc := 10) dX0_isVariable_10 ?_
    refine AW.goto (pc := 11) (tgt := 15) dX0_isVariable_11 (by decide) ?_
    exact AW.zret (st := []) (pc := 15) dX0_isVariable_15 rfl (by decide) ⟨_, rfl, h⟩

set_option maxRecDepth 20000 in
theorem en_X0_partTotal {M : Mem} {K : Int → Mem → Prop} {v1 : Int} 
    (h : CI mX0_isVariable [vR 12, vI v1] M (fun r2 M2 => InR r2 ∧ (r2 = 0 → ((0 ≤ v1 ∧ v1 < 100) ∧ (0 ≤ (M2 14 v1) ∧ (M2 14 v1) < 12) ∧ K (M2 3 (M2 14 v1)) M2)) ∧ (¬ (r2 = 0) → (K 0 M2)))) :
    CI mX0_partTotal [vR 12, vI v1] M K := by
  show AW mX0_partTotal 0 [some (vR 12), some (vI v1)] [] M (QI K)
  refine AW.aload_n (pc := 0) (x := 12) dX0_partTotal_0 rfl ?_
  refine AW.iload_n (pc := 1) (x := v1) dX0_partTotal_1 rfl ?_
  refine AW.callV (pc := 2) (As := [vI v1]) (st := []) dX0_partTotal_2 cl_X0_46 kd_12 hl_12 ⟨Nat.le_of_ble_eq_true rfl, Nat.le_of_ble_eq_true rfl⟩ (Nat.le_of_ble_eq_true rfl) (Nat.le_of_ble_eq_true rfl) h ?_
  rintro _ M2 ⟨r2, rfl, h⟩
  show AW mX0_partTotal 5 [some (vR 12), some (vI v1)] [vI r2] M2 (QI K)
  obtain ⟨o, ha, hb⟩ := h
  refine AW.if_eq (pc := 5) (tgt := 12) dX0_partTotal_5 (by decide) o (fun hc => ?_) (fun hc => ?_)
  · have h := ha hc
    refine AW.aload_n (pc := 12) (x := 12) dX0_partTotal_12 rfl ?_
    refine AW.getR (pc := 13) (h2 := 1) dX0_partTotal_13 fg_X0_24 kd_12 hl_12 rfl ?_
    refine AW.getR (pc := 16) (h2 := 3) dX0_partTotal_16 fg_X0_50 kd_1 hl_1 rfl ?_
    refine AW.aload_n (pc := 19) (x := 12) dX0_partTotal_19 rfl ?_
    refine AW.getR (pc := 20) (h2 := 14) dX0_partTotal_20 fg_X0_15 kd_12 hl_12 rfl ?_
    refine AW.iload_n (pc := 23) (x := v1) dX0_partTotal_23 rfl ?_
    obtain ⟨o, h⟩ := h
    refine AW.iald (pc := 24) dX0_partTotal_24 kd_14 hl_14 o ?_
    obtain ⟨o, h⟩ := h
    refine AW.iald (pc := 25) dX0_partTotal_25 kd_3 hl_3 o ?_
    exact AW.iret (st := []) (pc := 26) dX0_partTotal_26 rfl ⟨_, rfl, h⟩
  · have h := hb hc
    refine AW.iconst (pc := 8) dX0_partTotal_8 ?_
    refine AW.goto (pc := 9) (tgt := 26) dX0_partTotal_9 (by decide) ?_
    exact AW.iret (st := []) (pc := 26) dX0_partTotal_26 rfl ⟨_, rfl, h⟩

set_option maxRecDepth 20000 in
theorem en_X0_resolve {M : Mem} {K : Int → Mem → Prop} {v1 : Int} 
    (h : AW mX0_resolve 4 [some (vR 12), some (vI v1), some (vI v1), some (vI 0)] [] M (QI K)) :
    CI mX0_resolve [vR 12, vI v1] M K := by
  show AW mX0_resolve 0 [some (vR 12), some (vI v1), none, none] [] M (QI K)
  refine AW.iload_n (pc := 0) (x := v1) dX0_resolve_0 rfl ?_
  refine AW.istore_n (pc := 1) (ls2 := [some (vR 12), some (vI v1), some (vI v1), none]) dX0_resolve_1 (by decide) rfl ?_
  refine AW.iconst (pc := 2) dX0_resolve_2 ?_
  refine AW.istore_n (pc := 3) (ls2 := [some (vR 12), some (vI v1), some (vI v1), some (vI 0)]) dX0_resolve_3 (by decide) rfl ?_
  exact h

set_option maxRecDepth 20000 in
theorem sg_X0_resolve_4 {M : Mem} {K : Int → Mem → Prop} {v1 v2 v3 : Int} 
    (h : InR v3 ∧ (v3 ≥ 100 → (K v2 M)) ∧ (¬ (v3 ≥ 100) → ((0 ≤ v2 ∧ v2 < 100) ∧ InR (M 16 v2) ∧ ((M 16 v2) = (-1) → (K v2 M)) ∧ (¬ ((M 16 v2) = (-1)) → ((0 ≤ v2 ∧ v2 < 100) ∧ AW mX0_resolve 4 [some (vR 12), some (vI v1), some (vI (M 16 v2)), some (vI (v3 + 1))] [] M (QI K)))))) :
    AW mX0_resolve 4 [some (vR 12), some (vI v1), some (vI v2), some (vI v3)] [] M (QI K) := by
  refine AW.iload_n (pc := 4) (x := v3) dX0_resolve_4 rfl ?_
  refine AW.bipush (pc := 5) dX0_resolve_5 (by decide) ?_
  obtain ⟨o, ha, hb⟩ := h
  refine AW.icmp_ge (pc := 7) (tgt := 33) dX0_resolve_7 (by decide) o (by decide) (fun hc => ?_) (fun hc => ?_)
  · have h := ha hc
    refine AW.iload_n (pc := 33) (x := v2) dX0_resolve_33 rfl ?_
    exact AW.iret (st := []) (pc := 34) dX0_resolve_34 rfl ⟨_, rfl, h⟩
  · have h := hb hc
    refine AW.aload_n (pc := 10) (x := 12) dX0_resolve_10 rfl ?_
    refine AW.getR (pc := 11) (h2 := 16) dX0_resolve_11 fg_X0_21 kd_12 hl_12 rfl ?_
    refine AW.iload_n (pc := 14) (x := v2) dX0_resolve_14 rfl ?_
    obtain ⟨o, h⟩ := h
    refine AW.iald (pc := 15) dX0_resolve_15 kd_16 hl_16 o ?_
    refine AW.iconst (pc := 16) dX0_resolve_16 ?_
    obtain ⟨o, ha, hb⟩ := h
    refine AW.icmp_eq (pc := 17) (tgt := 33) dX0_resolve_17 (by decide) o (by decide) (fun hc => ?_) (fun hc => ?_)
    · have h := ha hc
      refine AW.iload_n (pc := 33) (x := v2) dX0_resolve_33 rfl ?_
      exact AW.iret (st := []) (pc := 34) dX0_resolve_34 rfl ⟨_, rfl, h⟩
    · have h := hb hc
      refine AW.aload_n (pc := 20) (x := 12) dX0_resolve_20 rfl ?_
      refine AW.getR (pc := 21) (h2 := 16) dX0_resolve_21 fg_X0_21 kd_12 hl_12 rfl ?_
      refine AW.iload_n (pc := 24) (x := v2) dX0_resolve_24 rfl ?_
      obtain ⟨o, h⟩ := h
      refine AW.iald (pc := 25) dX0_resolve_25 kd_16 hl_16 o ?_
      refine AW.istore_n (pc := 26) (ls2 := [some (vR 12), some (vI v1), some (vI (M 16 v2)), some (vI v3)]) dX0_resolve_26 (by decide) rfl ?_
      refine AW.iinc (pc := 27) (x := v3) (ls2 := [some (vR 12), some (vI v1), some (vI (M 16 v2)), some (vI (v3 + 1))]) dX0_resolve_27 rfl (by decide) rfl ?_
      refine AW.goto (pc := 30) (tgt := 4) dX0_resolve_30 (by decide) ?_
      exact h

set_option maxRecDepth 20000 in
theorem en_X0_resolvedPart {M : Mem} {K : Int → Mem → Prop} {v1 v2 : Int} 
    (h : (0 ≤ ((v1 * 3) + v2) ∧ ((v1 * 3) + v2) < 300) ∧ CI mX0_resolve [vR 12, vI (M 15 ((v1 * 3) + v2))] M (fun r11 M11 => K r11 M11)) :
    CI mX0_resolvedPart [vR 12, vI v1, vI v2] M K := by
  show AW mX0_resolvedPart 0 [some (vR 12), some (vI v1), some (vI v2)] [] M (QI K)
  refine AW.aload_n (pc := 0) (x := 12) dX0_resolvedPart_0 rfl ?_
  refine AW.aload_n (pc := 1) (x := 12) dX0_resolvedPart_1 rfl ?_
  refine AW.getR (pc := 2) (h2 := 15) dX0_resolvedPart_2 fg_X0_18 kd_12 hl_12 rfl ?_
  refine AW.iload_n (pc := 5) (x := v1) dX0_resolvedPart_5 rfl ?_
  refine AW.iconst (pc := 6) dX0_resolvedPart_6 ?_
  refine AW.imul (pc := 7) dX0_resolvedPart_7 ?_
  refine AW.iload_n (pc := 8) (x := v2) dX0_resolvedPart_8 rfl ?_
  refine AW.iadd (pc := 9) dX0_resolvedPart_9 ?_
  obtain ⟨o, h⟩ := h
  refine AW.iald (pc := 10) dX0_resolvedPart_10 kd_15 hl_15 o ?_
  refine AW.callV (pc := 11) (As := [vI (M 15 ((v1 * 3) + v2))]) (st := []) dX0_resolvedPart_11 cl_X0_53 kd_12 hl_12 ⟨Nat.le_of_ble_eq_true rfl, Nat.le_of_ble_eq_true rfl⟩ (Nat.le_of_ble_eq_true rfl) (Nat.le_of_ble_eq_true rfl) h ?_
  rintro _ M11 ⟨r11, rfl, h⟩
  show AW mX0_resolvedPart 14 [some (vR 12), some (vI v1), some (vI v2)] [vI r11] M11 (QI K)
  exact AW.iret (st := []) (pc := 14) dX0_resolvedPart_14 rfl ⟨_, rfl, h⟩

set_option maxRecDepth 20000 in
theorem en_X10_begin {M : Mem} {K : Mem → Prop} 
    (h : K (up (up M 28 3 ((M 28 3) + 1)) 28 2 0)) :
    CV mX10_begin [vR 28] M K := by
  show AW mX10_begin 0 [some (vR 28)] [] M (QV K)
  refine AW.aload_n (pc := 0) (x := 28) dX10_begin_0 rfl ?_
  refine AW.dup (pc := 1) dX10_begin_1 rfl ?_
  refine AW.getI (pc := 2) dX10_begin_2 fg_X10_25 kd_28 hl_28 rfl ?_
  refine AW.iconst (pc := 5) dX10_begin_5 ?_
  refine AW.iadd (pc := 6) dX10_begin_6 ?_
  refine AW.put (pc := 7) dX10_begin_7 fp_X10_25 kd_28 hl_28 rfl ?_
  refine AW.aload_n (pc := 10) (x := 28) dX10_begin_10 rfl ?_
  refine AW.iconst (pc := 11) dX10_begin_11 ?_
  refine AW.put (pc := 12) dX10_begin_12 fp_X10_29 kd_28 hl_28 rfl ?_
  exact AW.vret (st := []) (pc := 15) dX10_begin_15 rfl ⟨rfl, h⟩

set_option maxRecDepth 20000 in
theorem en_X10_begin_b {M : Mem} {K : Mem → Prop} 
    (h : K (up (up M 37 3 ((M 37 3) + 1)) 37 2 0)) :
    CV mX10_begin [vR 37] M K := by
  show AW mX10_begin 0 [some (vR 37)] [] M (QV K)
  refine AW.aload_n (pc := 0) (x := 37) dX10_begin_0 rfl ?_
  refine AW.dup (pc := 1) dX10_begin_1 rfl ?_
  refine AW.getI (pc := 2) dX10_begin_2 fg_X10_25 kd_37 hl_37 rfl ?_
  refine AW.iconst (pc := 5) dX10_begin_5 ?_
  refine AW.iadd (pc := 6) dX10_begin_6 ?_
  refine AW.put (pc := 7) dX10_begin_7 fp_X10_25 kd_37 hl_37 rfl ?_
  refine AW.aload_n (pc := 10) (x := 37) dX10_begin_10 rfl ?_
  refine AW.iconst (pc := 11) dX10_begin_11 ?_
  refine AW.put (pc := 12) dX10_begin_12 fp_X10_29 kd_37 hl_37 rfl ?_
  exact AW.vret (st := []) (pc := 15) dX10_begin_15 rfl ⟨rfl, h⟩

set_option maxRecDepth 20000 in
theorem en_X10_hasListed {M : Mem} {K : Int → Mem → Prop} {v1 : Int} 
    (h : (0 ≤ v1 ∧ v1 < 100) ∧ (InR (M 30 v1) ∧ InR (M 28 3)) ∧ ((M 30 v1) ≠ (M 28 3) → (K 0 M)) ∧ (¬ ((M 30 v1) ≠ (M 28 3)) → (K 1 M))) :
    CI mX10_hasListed [vR 28, vI v1] M K := by
  show AW mX10_hasListed 0 [some (vR 28), some (vI v1)] [] M (QI K)
  refine AW.aload_n (pc := 0) (x := 28) dX10_hasListed_0 rfl ?_
  refine AW.getR (pc := 1) (h2 := 30) dX10_hasListed_1 fg_X10_15 kd_28 hl_28 rfl ?_
  refine AW.iload_n (pc := 4) (x := v1) dX10_hasListed_4 rfl ?_
  obtain ⟨o, h⟩ := h
  refine AW.iald (pc := 5) dX10_hasListed_5 kd_30 hl_30 o ?_
  refine AW.aload_n (pc := 6) (x := 28) dX10_hasListed_6 rfl ?_
  refine AW.getI (pc := 7) dX10_hasListed_7 fg_X10_25 kd_28 hl_28 rfl ?_
  obtain ⟨o, ha, hb⟩ := h
  refine AW.icmp_ne (pc := 10) (tgt := 17) dX10_hasListed_10 (by decide) o.1 o.2 (fun hc => ?_) (fun hc => ?_)
  · have h := ha hc
    refine AW.iconst (pc := 17) dX10_hasListed_17 ?_
    exact AW.zret (st := []) (pc := 18) dX10_hasListed_18 rfl (by decide) ⟨_, rfl, h⟩
  · have h := hb hc
    refine AW.iconst (pc := 13) dX10_hasListed_13 ?_
    refine AW.goto (pc := 14) (tgt := 18) dX10_hasListed_14 (by decide) ?_
    exact AW.zret (st := []) (pc := 18) dX10_hasListed_18 rfl (by decide) ⟨_, rfl, h⟩

set_option maxRecDepth 20000 in
theorem en_X10_hasListed_b {M : Mem} {K : Int → Mem → Prop} {v1 : Int} 
    (h : (0 ≤ v1 ∧ v1 < 100) ∧ (InR (M 39 v1) ∧ InR (M 37 3)) ∧ ((M 39 v1) ≠ (M 37 3) → (K 0 M)) ∧ (¬ ((M 39 v1) ≠ (M 37 3)) → (K 1 M))) :
    CI mX10_hasListed [vR 37, vI v1] M K := by
  show AW mX10_hasListed 0 [some (vR 37), some (vI v1)] [] M (QI K)
  refine AW.aload_n (pc := 0) (x := 37) dX10_hasListed_0 rfl ?_
  refine AW.getR (pc := 1) (h2 := 39) dX10_hasListed_1 fg_X10_15 kd_37 hl_37 rfl ?_
  refine AW.iload_n (pc := 4) (x := v1) dX10_hasListed_4 rfl ?_
  obtain ⟨o, h⟩ := h
  refine AW.iald (pc := 5) dX10_hasListed_5 kd_39 hl_39 o ?_
  refine AW.aload_n (pc := 6) (x := 37) dX10_hasListed_6 rfl ?_
  refine AW.getI (pc := 7) dX10_hasListed_7 fg_X10_25 kd_37 hl_37 rfl ?_
  obtain ⟨o, ha, hb⟩ := h
  refine AW.icmp_ne (pc := 10) (tgt := 17) dX10_hasListed_10 (by decide) o.1 o.2 (fun hc => ?_) (fun hc => ?_)
  · have h := ha hc
    refine AW.iconst (pc := 17) dX10_hasListed_17 ?_
    exact AW.zret (st := []) (pc := 18) dX10_hasListed_18 rfl (by decide) ⟨_, rfl, h⟩
  · have h := hb hc
    refine AW.iconst (pc := 13) dX10_hasListed_13 ?_
    refine AW.goto (pc := 14) (tgt := 18) dX10_hasListed_14 (by decide) ?_
    exact AW.zret (st := []) (pc := 18) dX10_hasListed_18 rfl (by decide) ⟨_, rfl, h⟩

set_option maxRecDepth 20000 in
theorem en_X10_list {M : Mem} {K : Mem → Prop} {v1 : Int} 
    (h : InR (M 28 2) ∧ ((M 28 2) ≥ 100 → (K M)) ∧ (¬ ((M 28 2) ≥ 100) → ((0 ≤ v1 ∧ v1 < 100) ∧ (0 ≤ (M 28 2) ∧ (M 28 2) < 100) ∧ K (up (up (up M 30 v1 (M 28 3)) 29 (M 28 2) v1) 28 2 ((M 28 2) + 1))))) :
    CV mX10_list [vR 28, vI v1] M K := by
  show AW mX10_list 0 [some (vR 28), some (vI v1)] [] M (QV K)
  refine AW.aload_n (pc := 0) (x := 28) dX10_list_0 rfl ?_
  refine AW.getI (pc := 1) dX10_list_1 fg_X10_29 kd_28 hl_28 rfl ?_
  refine AW.bipush (pc := 4) dX10_list_4 (by decide) ?_
  obtain ⟨o, ha, hb⟩ := h
  refine AW.icmp_ge (pc := 6) (tgt := 39) dX10_list_6 (by decide) o (by decide) (fun hc => ?_) (fun hc => ?_)
  · have h := ha hc
    exact AW.vret (st := []) (pc := 39) dX10_list_39 rfl ⟨rfl, h⟩
  · have h := hb hc
    refine AW.aload_n (pc := 9) (x := 28) dX10_list_9 rfl ?_
    refine AW.getR (pc := 10) (h2 := 30) dX10_list_10 fg_X10_15 kd_28 hl_28 rfl ?_
    refine AW.iload_n (pc := 13) (x := v1) dX10_list_13 rfl ?_
    refine AW.aload_n (pc := 14) (x := 28) dX10_list_14 rfl ?_
    refine AW.getI (pc := 15) dX10_list_15 fg_X10_25 kd_28 hl_28 rfl ?_
    obtain ⟨o, h⟩ := h
    refine AW.iast (pc := 18) dX10_list_18 kd_30 hl_30 o ?_
    refine AW.aload_n (pc := 19) (x := 28) dX10_list_19 rfl ?_
    refine AW.getR (pc := 20) (h2 := 29) dX10_list_20 fg_X10_9 kd_28 hl_28 rfl ?_
    refine AW.aload_n (pc := 23) (x := 28) dX10_list_23 rfl ?_
    refine AW.getI (pc := 24) dX10_list_24 fg_X10_29 kd_28 hl_28 rfl ?_
    refine AW.iload_n (pc := 27) (x := v1) dX10_list_27 rfl ?_
    obtain ⟨o, h⟩ := h
    refine AW.iast (pc := 28) dX10_list_28 kd_29 hl_29 o ?_
    refine AW.aload_n (pc := 29) (x := 28) dX10_list_29 rfl ?_
    refine AW.dup (pc := 30) dX10_list_30 rfl ?_
    refine AW.getI (pc := 31) dX10_list_31 fg_X10_29 kd_28 hl_28 rfl ?_
    refine AW.iconst (pc := 34) dX10_list_34 ?_
    refine AW.iadd (pc := 35) dX10_list_35 ?_
    refine AW.put (pc := 36) dX10_list_36 fp_X10_29 kd_28 hl_28 rfl ?_
    exact AW.vret (st := []) (pc := 39) dX10_list_39 rfl ⟨rfl, h⟩

set_option maxRecDepth 20000 in
theorem en_X10_list_b {M : Mem} {K : Mem → Prop} {v1 : Int} 
    (h : InR (M 37 2) ∧ ((M 37 2) ≥ 100 → (K M)) ∧ (¬ ((M 37 2) ≥ 100) → ((0 ≤ v1 ∧ v1 < 100) ∧ (0 ≤ (M 37 2) ∧ (M 37 2) < 100) ∧ K (up (up (up M 39 v1 (M 37 3)) 38 (M 37 2) v1) 37 2 ((M 37 2) + 1))))) :
    CV mX10_list [vR 37, vI v1] M K := by
  show AW mX10_list 0 [some (vR 37), some (vI v1)] [] M (QV K)
  refine AW.aload_n (pc := 0) (x := 37) dX10_list_0 rfl ?_
  refine AW.getI (pc := 1) dX10_list_1 fg_X10_29 kd_37 hl_37 rfl ?_
  refine AW.bipush (pc := 4) dX10_list_4 (by decide) ?_
  obtain ⟨o, ha, hb⟩ := h
  refine AW.icmp_ge (pc := 6) (tgt := 39) dX10_list_6 (by decide) o (by decide) (fun hc => ?_) (fun hc => ?_)
  · have h := ha hc
    exact AW.vret (st := []) (pc := 39) dX10_list_39 rfl ⟨rfl, h⟩
  · have h := hb hc
    refine AW.aload_n (pc := 9) (x := 37) dX10_list_9 rfl ?_
    refine AW.getR (pc := 10) (h2 := 39) dX10_list_10 fg_X10_15 kd_37 hl_37 rfl ?_
    refine AW.iload_n (pc := 13) (x := v1) dX10_list_13 rfl ?_
    refine AW.aload_n (pc := 14) (x := 37) dX10_list_14 rfl ?_
    refine AW.getI (pc := 15) dX10_list_15 fg_X10_25 kd_37 hl_37 rfl ?_
    obtain ⟨o, h⟩ := h
    refine AW.iast (pc := 18) dX10_list_18 kd_39 hl_39 o ?_
    refine AW.aload_n (pc := 19) (x := 37) dX10_list_19 rfl ?_
    refine AW.getR (pc := 20) (h2 := 38) dX10_list_20 fg_X10_9 kd_37 hl_37 rfl ?_
    refine AW.aload_n (pc := 23) (x := 37) dX10_list_23 rfl ?_
    refine AW.getI (pc := 24) dX10_list_24 fg_X10_29 kd_37 hl_37 rfl ?_
    refine AW.iload_n (pc := 27) (x := v1) dX10_list_27 rfl ?_
    obtain ⟨o, h⟩ := h
    refine AW.iast (pc := 28) dX10_list_28 kd_38 hl_38 o ?_
    refine AW.aload_n (pc := 29) (x := 37) dX10_list_29 rfl ?_
    refine AW.dup (pc := 30) dX10_list_30 rfl ?_
    refine AW.getI (pc := 31) dX10_list_31 fg_X10_29 kd_37 hl_37 rfl ?_
    refine AW.iconst (pc := 34) dX10_list_34 ?_
    refine AW.iadd (pc := 35) dX10_list_35 ?_
    refine AW.put (pc := 36) dX10_list_36 fp_X10_29 kd_37 hl_37 rfl ?_
    exact AW.vret (st := []) (pc := 39) dX10_list_39 rfl ⟨rfl, h⟩

set_option maxRecDepth 20000 in
theorem en_X10_unlistedPart {M : Mem} {K : Int → Mem → Prop} {v1 : Int} 
    (h : AW mX10_unlistedPart 2 [some (vR 28), some (vI v1), some (vI 0), none] [] M (QI K)) :
    CI mX10_unlistedPart [vR 28, vI v1] M K := by
  show AW mX10_unlistedPart 0 [some (vR 28), some (vI v1), none, none] [] M (QI K)
  refine AW.iconst (pc := 0) dX10_unlistedPart_0 ?_
  refine AW.istore_n (pc := 1) (ls2 := [some (vR 28), some (vI v1), some (vI 0), none]) dX10_unlistedPart_1 (by decide) rfl ?_
  exact h

set_option maxRecDepth 20000 in
theorem sg_X10_unlistedPart_2 {M : Mem} {K : Int → Mem → Prop} {v1 v2 : Int} 
    (h : CI mX0_partTotal [vR 12, vI v1] M (fun r8 M8 => (InR v2 ∧ InR r8) ∧ (v2 ≥ r8 → (K (-13) M8)) ∧ (¬ (v2 ≥ r8) → (CI mX0_resolvedPart [vR 12, vI v1, vI v2] M8 (fun r20 M20 => CI mX10_hasListed [vR 28, vI r20] M20 (fun r26 M26 => InR r26 ∧ (r26 ≠ 0 → (AW mX10_unlistedPart 2 [some (vR 28), some (vI v1), some (vI (v2 + 1)), none] [] M26 (QI K))) ∧ (¬ (r26 ≠ 0) → (K r20 M26)))))))) :
    AW mX10_unlistedPart 2 [some (vR 28), some (vI v1), some (vI v2), none] [] M (QI K) := by
  refine AW.iload_n (pc := 2) (x := v2) dX10_unlistedPart_2 rfl ?_
  refine AW.aload_n (pc := 3) (x := 28) dX10_unlistedPart_3 rfl ?_
  refine AW.getR (pc := 4) (h2 := 12) dX10_unlistedPart_4 fg_X10_21 kd_28 hl_28 rfl ?_
  refine AW.iload_n (pc := 7) (x := v1) dX10_unlistedPart_7 rfl ?_
  refine AW.callV (pc := 8) (As := [vI v1]) (st := [vI v2]) dX10_unlistedPart_8 cl_X10_50 kd_12 hl_12 ⟨Nat.le_of_ble_eq_true rfl, Nat.le_of_ble_eq_true rfl⟩ (Nat.le_of_ble_eq_true rfl) (Nat.le_of_ble_eq_true rfl) h ?_
  rintro _ M8 ⟨r8, rfl, h⟩
  show AW mX10_unlistedPart 11 [some (vR 28), some (vI v1), some (vI v2), none] [vI r8, vI v2] M8 (QI K)
  obtain ⟨o, ha, hb⟩ := h
  refine AW.icmp_ge (pc := 11) (tgt := 40) dX10_unlistedPart_11 (by decide) o.1 o.2 (fun hc => ?_) (fun hc => ?_)
  · have h := ha hc
    refine AW.bipush (pc := 40) dX10_unlistedPart_40 (by decide) ?_
    exact AW.iret (st := []) (pc := 42) dX10_unlistedPart_42 rfl ⟨_, rfl, h⟩
  · have h := hb hc
    refine AW.aload_n (pc := 14) (x := 28) dX10_unlistedPart_14 rfl ?_
    refine AW.getR (pc := 15) (h2 := 12) dX10_unlistedPart_15 fg_X10_21 kd_28 hl_28 rfl ?_
    refine AW.iload_n (pc := 18) (x := v1) dX10_unlistedPart_18 rfl ?_
    refine AW.iload_n (pc := 19) (x := v2) dX10_unlistedPart_19 rfl ?_
    refine AW.callV (pc := 20) (As := [vI v1, vI v2]) (st := []) dX10_unlistedPart_20 cl_X10_53 kd_12 hl_12 ⟨Nat.le_of_ble_eq_true rfl, Nat.le_of_ble_eq_true rfl⟩ (Nat.le_of_ble_eq_true rfl) (Nat.le_of_ble_eq_true rfl) h ?_
    rintro _ M20 ⟨r20, rfl, h⟩
    show AW mX10_unlistedPart 23 [some (vR 28), some (vI v1), some (vI v2), none] [vI r20] M20 (QI K)
    refine AW.istore_n (pc := 23) (ls2 := [some (vR 28), some (vI v1), some (vI v2), some (vI r20)]) dX10_unlistedPart_23 (by decide) rfl ?_
    refine AW.aload_n (pc := 24) (x := 28) dX10_unlistedPart_24 rfl ?_
    refine AW.iload_n (pc := 25) (x := r20) dX10_unlistedPart_25 rfl ?_
    refine AW.callV (pc := 26) (As := [vI r20]) (st := []) dX10_unlistedPart_26 cl_X10_38 kd_28 hl_28 ⟨Nat.le_of_ble_eq_true rfl, Nat.le_of_ble_eq_true rfl⟩ (Nat.le_of_ble_eq_true rfl) (Nat.le_of_ble_eq_true rfl) h ?_
    rintro _ M26 ⟨r26, rfl, h⟩
    show AW mX10_unlistedPart 29 [some (vR 28), some (vI v1), some (vI v2), some (vI r20)] [vI r26] M26 (QI K)
    obtain ⟨o, ha, hb⟩ := h
    refine AW.if_ne (pc := 29) (tgt := 34) dX10_unlistedPart_29 (by decide) o (fun hc => ?_) (fun hc => ?_)
    · have h := ha hc
      refine AW.iinc (pc := 34) (x := v2) (ls2 := [some (vR 28), some (vI v1), some (vI (v2 + 1)), some (vI r20)]) dX10_unlistedPart_34 rfl (by decide) rfl ?_
      refine AW.goto (pc := 37) (tgt := 2) dX10_unlistedPart_37 (by decide) ?_
      exact AW.weak (ls2 := [some (vR 28), some (vI v1), some (vI (v2 + 1)), none]) (by simp [lsub]) h
    · have h := hb hc
      refine AW.iload_n (pc := 32) (x := r20) dX10_unlistedPart_32 rfl ?_
      exact AW.iret (st := []) (pc := 33) dX10_unlistedPart_33 rfl ⟨_, rfl, h⟩

set_option maxRecDepth 20000 in
theorem en_X10_unlistedPart_b {M : Mem} {K : Int → Mem → Prop} {v1 : Int} 
    (h : AW mX10_unlistedPart 2 [some (vR 37), some (vI v1), some (vI 0), none] [] M (QI K)) :
    CI mX10_unlistedPart [vR 37, vI v1] M K := by
  show AW mX10_unlistedPart 0 [some (vR 37), some (vI v1), none, none] [] M (QI K)
  refine AW.iconst (pc := 0) dX10_unlistedPart_0 ?_
  refine AW.istore_n (pc := 1) (ls2 := [some (vR 37), some (vI v1), some (vI 0), none]) dX10_unlistedPart_1 (by decide) rfl ?_
  exact h

set_option maxRecDepth 20000 in
theorem sg_X10_unlistedPart_b_2 {M : Mem} {K : Int → Mem → Prop} {v1 v2 : Int} 
    (h : CI mX0_partTotal [vR 12, vI v1] M (fun r8 M8 => (InR v2 ∧ InR r8) ∧ (v2 ≥ r8 → (K (-13) M8)) ∧ (¬ (v2 ≥ r8) → (CI mX0_resolvedPart [vR 12, vI v1, vI v2] M8 (fun r20 M20 => CI mX10_hasListed [vR 37, vI r20] M20 (fun r26 M26 => InR r26 ∧ (r26 ≠ 0 → (AW mX10_unlistedPart 2 [some (vR 37), some (vI v1), some (vI (v2 + 1)), none] [] M26 (QI K))) ∧ (¬ (r26 ≠ 0) → (K r20 M26)))))))) :
    AW mX10_unlistedPart 2 [some (vR 37), some (vI v1), some (vI v2), none] [] M (QI K) := by
  refine AW.iload_n (pc := 2) (x := v2) dX10_unlistedPart_2 rfl ?_
  refine AW.aload_n (pc := 3) (x := 37) dX10_unlistedPart_3 rfl ?_
  refine AW.getR (pc := 4) (h2 := 12) dX10_unlistedPart_4 fg_X10_21 kd_37 hl_37 rfl ?_
  refine AW.iload_n (pc := 7) (x := v1) dX10_unlistedPart_7 rfl ?_
  refine AW.callV (pc := 8) (As := [vI v1]) (st := [vI v2]) dX10_unlistedPart_8 cl_X10_50 kd_12 hl_12 ⟨Nat.le_of_ble_eq_true rfl, Nat.le_of_ble_eq_true rfl⟩ (Nat.le_of_ble_eq_true rfl) (Nat.le_of_ble_eq_true rfl) h ?_
  rintro _ M8 ⟨r8, rfl, h⟩
  show AW mX10_unlistedPart 11 [some (vR 37), some (vI v1), some (vI v2), none] [vI r8, vI v2] M8 (QI K)
  obtain ⟨o, ha, hb⟩ := h
  refine AW.icmp_ge (pc := 11) (tgt := 40) dX10_unlistedPart_11 (by decide) o.1 o.2 (fun hc => ?_) (fun hc => ?_)
  · have h := ha hc
    refine AW.bipush (pc := 40) dX10_unlistedPart_40 (by decide) ?_
    exact AW.iret (st := []) (pc := 42) dX10_unlistedPart_42 rfl ⟨_, rfl, h⟩
  · have h := hb hc
    refine AW.aload_n (pc := 14) (x := 37) dX10_unlistedPart_14 rfl ?_
    refine AW.getR (pc := 15) (h2 := 12) dX10_unlistedPart_15 fg_X10_21 kd_37 hl_37 rfl ?_
    refine AW.iload_n (pc := 18) (x := v1) dX10_unlistedPart_18 rfl ?_
    refine AW.iload_n (pc := 19) (x := v2) dX10_unlistedPart_19 rfl ?_
    refine AW.callV (pc := 20) (As := [vI v1, vI v2]) (st := []) dX10_unlistedPart_20 cl_X10_53 kd_12 hl_12 ⟨Nat.le_of_ble_eq_true rfl, Nat.le_of_ble_eq_true rfl⟩ (Nat.le_of_ble_eq_true rfl) (Nat.le_of_ble_eq_true rfl) h ?_
    rintro _ M20 ⟨r20, rfl, h⟩
    show AW mX10_unlistedPart 23 [some (vR 37), some (vI v1), some (vI v2), none] [vI r20] M20 (QI K)
    refine AW.istore_n (pc := 23) (ls2 := [some (vR 37), some (vI v1), some (vI v2), some (vI r20)]) dX10_unlistedPart_23 (by decide) rfl ?_
    refine AW.aload_n (pc := 24) (x := 37) dX10_unlistedPart_24 rfl ?_
    refine AW.iload_n (pc := 25) (x := r20) dX10_unlistedPart_25 rfl ?_
    refine AW.callV (pc := 26) (As := [vI r20]) (st := []) dX10_unlistedPart_26 cl_X10_38 kd_37 hl_37 ⟨Nat.le_of_ble_eq_true rfl, Nat.le_of_ble_eq_true rfl⟩ (Nat.le_of_ble_eq_true rfl) (Nat.le_of_ble_eq_true rfl) h ?_
    rintro _ M26 ⟨r26, rfl, h⟩
    show AW mX10_unlistedPart 29 [some (vR 37), some (vI v1), some (vI v2), some (vI r20)] [vI r26] M26 (QI K)
    obtain ⟨o, ha, hb⟩ := h
    refine AW.if_ne (pc := 29) (tgt := 34) dX10_unlistedPart_29 (by decide) o (fun hc => ?_) (fun hc => ?_)
    · have h := ha hc
      refine AW.iinc (pc := 34) (x := v2) (ls2 := [some (vR 37), some (vI v1), some (vI (v2 + 1)), some (vI r20)]) dX10_unlistedPart_34 rfl (by decide) rfl ?_
      refine AW.goto (pc := 37) (tgt := 2) dX10_unlistedPart_37 (by decide) ?_
      exact AW.weak (ls2 := [some (vR 37), some (vI v1), some (vI (v2 + 1)), none]) (by simp [lsub]) h
    · have h := hb hc
      refine AW.iload_n (pc := 32) (x := r20) dX10_unlistedPart_32 rfl ?_
      exact AW.iret (st := []) (pc := 33) dX10_unlistedPart_33 rfl ⟨_, rfl, h⟩

set_option maxRecDepth 20000 in
theorem en_X10_visit {M : Mem} {K : Mem → Prop} {v1 : Int} 
    (h : CI mX0_resolve [vR 12, vI v1] M (fun r5 M5 => CI mX10_hasListed [vR 28, vI r5] M5 (fun r11 M11 => InR r11 ∧ (r11 = 0 → (AW mX10_visit 30 [some (vR 28), some (vI v1), some (vI r5), some (vI 1), some (vI 0), none, none] [] (up M11 31 0 r5) (QV K))) ∧ (¬ (r11 = 0) → (K M11))))) :
    CV mX10_visit [vR 28, vI v1] M K := by
  show AW mX10_visit 0 [some (vR 28), some (vI v1), none, none, none, none, none] [] M (QV K)
  refine AW.aload_n (pc := 0) (x := 28) dX10_visit_0 rfl ?_
  refine AW.getR (pc := 1) (h2 := 12) dX10_visit_1 fg_X10_21 kd_28 hl_28 rfl ?_
  refine AW.iload_n (pc := 4) (x := v1) dX10_visit_4 rfl ?_
  refine AW.callV (pc := 5) (As := [vI v1]) (st := []) dX10_visit_5 cl_X10_32 kd_12 hl_12 ⟨Nat.le_of_ble_eq_true rfl, Nat.le_of_ble_eq_true rfl⟩ (Nat.le_of_ble_eq_true rfl) (Nat.le_of_ble_eq_true rfl) h ?_
  rintro _ M5 ⟨r5, rfl, h⟩
  show AW mX10_visit 8 [some (vR 28), some (vI v1), none, none, none, none, none] [vI r5] M5 (QV K)
  refine AW.istore_n (pc := 8) (ls2 := [some (vR 28), some (vI v1), some (vI r5), none, none, none, none]) dX10_visit_8 (by decide) rfl ?_
  refine AW.aload_n (pc := 9) (x := 28) dX10_visit_9 rfl ?_
  refine AW.iload_n (pc := 10) (x := r5) dX10_visit_10 rfl ?_
  refine AW.callV (pc := 11) (As := [vI r5]) (st := []) dX10_visit_11 cl_X10_38 kd_28 hl_28 ⟨Nat.le_of_ble_eq_true rfl, Nat.le_of_ble_eq_true rfl⟩ (Nat.le_of_ble_eq_true rfl) (Nat.le_of_ble_eq_true rfl) h ?_
  rintro _ M11 ⟨r11, rfl, h⟩
  show AW mX10_visit 14 [some (vR 28), some (vI v1), some (vI r5), none, none, none, none] [vI r11] M11 (QV K)
  obtain ⟨o, ha, hb⟩ := h
  refine AW.if_eq (pc := 14) (tgt := 18) dX10_visit_14 (by decide) o (fun hc => ?_) (fun hc => ?_)
  · have h := ha hc
    refine AW.aload_n (pc := 18) (x := 28) dX10_visit_18 rfl ?_
    refine AW.getR (pc := 19) (h2 := 31) dX10_visit_19 fg_X10_18 kd_28 hl_28 rfl ?_
    refine AW.iconst (pc := 22) dX10_visit_22 ?_
    refine AW.iload_n (pc := 23) (x := r5) dX10_visit_23 rfl ?_
    refine AW.iast (pc := 24) dX10_visit_24 kd_31 hl_31 (by decide) ?_
    refine AW.iconst (pc := 25) dX10_visit_25 ?_
    refine AW.istore_n (pc := 26) (ls2 := [some (vR 28), some (vI v1), some (vI r5), some (vI 1), none, none, none]) dX10_visit_26 (by decide) rfl ?_
    refine AW.iconst (pc := 27) dX10_visit_27 ?_
    refine AW.istore (pc := 28) (ls2 := [some (vR 28), some (vI v1), some (vI r5), some (vI 1), some (vI 0), none, none]) dX10_visit_28 (by decide) rfl ?_
    exact h
  · have h := hb hc
    exact AW.vret (st := []) (pc := 17) dX10_visit_17 rfl ⟨rfl, h⟩

set_option maxRecDepth 20000 in
theorem sg_X10_visit_30 {M : Mem} {K : Mem → Prop} {v1 v2 v3 v4 : Int} 
    (h : InR v3 ∧ (v3 ≤ 0 → (K M)) ∧ (¬ (v3 ≤ 0) → (InR v4 ∧ (v4 ≥ 1000000 → (K M)) ∧ (¬ (v4 ≥ 1000000) → ((0 ≤ (v3 - 1) ∧ (v3 - 1) < 100) ∧ CI mX10_unlistedPart [vR 28, vI (M 31 (v3 - 1))] M (fun r54 M54 => InR r54 ∧ (r54 = (-13) → (AW mX10_visit 86 [some (vR 28), some (vI v1), some (vI v2), some (vI v3), some (vI v4), some (vI (M 31 (v3 - 1))), some (vI r54)] [] M54 (QV K))) ∧ (¬ (r54 = (-13)) → (InR v3 ∧ (v3 ≥ 100 → (AW mX10_visit 86 [some (vR 28), some (vI v1), some (vI v2), some (vI v3), some (vI v4), some (vI (M 31 (v3 - 1))), some (vI r54)] [] M54 (QV K))) ∧ (¬ (v3 ≥ 100) → ((0 ≤ v3 ∧ v3 < 100) ∧ AW mX10_visit 95 [some (vR 28), some (vI v1), some (vI v2), some (vI (v3 + 1)), some (vI v4), some (vI (M 31 (v3 - 1))), some (vI r54)] [] (up M54 31 v3 r54) (QV K))))))))))) :
    AW mX10_visit 30 [some (vR 28), some (vI v1), some (vI v2), some (vI v3), some (vI v4), none, none] [] M (QV K) := by
  refine AW.iload_n (pc := 30) (x := v3) dX10_visit_30 rfl ?_
  obtain ⟨o, ha, hb⟩ := h
  refine AW.if_le (pc := 31) (tgt := 101) dX10_visit_31 (by decide) o (fun hc => ?_) (fun hc => ?_)
  · have h := ha hc
    exact AW.vret (st := []) (pc := 101) dX10_visit_101 rfl ⟨rfl, h⟩
  · have h := hb hc
    refine AW.iload (pc := 34) (x := v4) dX10_visit_34 rfl ?_
    refine AW.ldc (pc := 36) (n := 1000000) dX10_visit_36 k_X10_42 ?_
    obtain ⟨o, ha, hb⟩ := h
    refine AW.icmp_ge (pc := 38) (tgt := 101) dX10_visit_38 (by decide) o (by decide) (fun hc => ?_) (fun hc => ?_)
    · have h := ha hc
      exact AW.vret (st := []) (pc := 101) dX10_visit_101 rfl ⟨rfl, h⟩
    · have h := hb hc
      refine AW.aload_n (pc := 41) (x := 28) dX10_visit_41 rfl ?_
      refine AW.getR (pc := 42) (h2 := 31) dX10_visit_42 fg_X10_18 kd_28 hl_28 rfl ?_
      refine AW.iload_n (pc := 45) (x := v3) dX10_visit_45 rfl ?_
      refine AW.iconst (pc := 46) dX10_visit_46 ?_
      refine AW.isub (pc := 47) dX10_visit_47 ?_
      obtain ⟨o, h⟩ := h
      refine AW.iald (pc := 48) dX10_visit_48 kd_31 hl_31 o ?_
      refine AW.istore (pc := 49) (ls2 := [some (vR 28), some (vI v1), some (vI v2), some (vI v3), some (vI v4), some (vI (M 31 (v3 - 1))), none]) dX10_visit_49 (by decide) rfl ?_
      refine AW.aload_n (pc := 51) (x := 28) dX10_visit_51 rfl ?_
      refine AW.iload (pc := 52) (x := (M 31 (v3 - 1))) dX10_visit_52 rfl ?_
      refine AW.callV (pc := 54) (As := [vI (M 31 (v3 - 1))]) (st := []) dX10_visit_54 cl_X10_43 kd_28 hl_28 ⟨Nat.le_of_ble_eq_true rfl, Nat.le_of_ble_eq_true rfl⟩ (Nat.le_of_ble_eq_true rfl) (Nat.le_of_ble_eq_true rfl) h ?_
      rintro _ M54 ⟨r54, rfl, h⟩
      show AW mX10_visit 57 [some (vR 28), some (vI v1), some (vI v2), some (vI v3), some (vI v4), some (vI (M 31 (v3 - 1))), none] [vI r54] M54 (QV K)
      refine AW.istore (pc := 57) (ls2 := [some (vR 28), some (vI v1), some (vI v2), some (vI v3), some (vI v4), some (vI (M 31 (v3 - 1))), some (vI r54)]) dX10_visit_57 (by decide) rfl ?_
      refine AW.iload (pc := 59) (x := r54) dX10_visit_59 rfl ?_
      refine AW.bipush (pc := 61) dX10_visit_61 (by decide) ?_
      obtain ⟨o, ha, hb⟩ := h
      refine AW.icmp_eq (pc := 63) (tgt := 86) dX10_visit_63 (by decide) o (by decide) (fun hc => ?_) (fun hc => ?_)
      · have h := ha hc
        exact h
      · have h := hb hc
        refine AW.iload_n (pc := 66) (x := v3) dX10_visit_66 rfl ?_
        refine AW.bipush (pc := 67) dX10_visit_67 (by decide) ?_
        obtain ⟨o, ha, hb⟩ := h
        refine AW.icmp_ge (pc := 69) (tgt := 86) dX10_visit_69 (by decide) o (by decide) (fun hc => ?_) (fun hc => ?_)
        · have h := ha hc
          exact h
        · have h := hb hc
          refine AW.aload_n (pc := 72) (x := 28) dX10_visit_72 rfl ?_
          refine AW.getR (pc := 73) (h2 := 31) dX10_visit_73 fg_X10_18 kd_28 hl_28 rfl ?_
          refine AW.iload_n (pc := 76) (x := v3) dX10_visit_76 rfl ?_
          refine AW.iload (pc := 77) (x := r54) dX10_visit_77 rfl ?_
          obtain ⟨o, h⟩ := h
          refine AW.iast (pc := 79) dX10_visit_79 kd_31 hl_31 o ?_
          refine AW.iinc (pc := 80) (x := v3) (ls2 := [some (vR 28), some (vI v1), some (vI v2), some (vI (v3 + 1)), some (vI v4), some (vI (M 31 (v3 - 1))), some (vI r54)]) dX10_visit_80 rfl (by decide) rfl ?_
          refine AW.goto (pc := 83) (tgt := 95) dX10_visit_83 (by decide) ?_
          exact h

set_option maxRecDepth 20000 in
theorem sg_X10_visit_86 {M : Mem} {K : Mem → Prop} {v1 v2 v3 v4 v5 v6 : Int} 
    (h : CV mX10_list [vR 28, vI v5] M (fun M89 => AW mX10_visit 95 [some (vR 28), some (vI v1), some (vI v2), some (vI (v3 + (-1))), some (vI v4), some (vI v5), some (vI v6)] [] M89 (QV K))) :
    AW mX10_visit 86 [some (vR 28), some (vI v1), some (vI v2), some (vI v3), some (vI v4), some (vI v5), some (vI v6)] [] M (QV K) := by
  refine AW.aload_n (pc := 86) (x := 28) dX10_visit_86 rfl ?_
  refine AW.iload (pc := 87) (x := v5) dX10_visit_87 rfl ?_
  refine AW.callV (pc := 89) (As := [vI v5]) (st := []) dX10_visit_89 cl_X10_46 kd_28 hl_28 ⟨Nat.le_of_ble_eq_true rfl, Nat.le_of_ble_eq_true rfl⟩ (Nat.le_of_ble_eq_true rfl) (Nat.le_of_ble_eq_true rfl) h ?_
  rintro _ M89 ⟨rfl, h⟩
  show AW mX10_visit 92 [some (vR 28), some (vI v1), some (vI v2), some (vI v3), some (vI v4), some (vI v5), some (vI v6)] [] M89 (QV K)
  refine AW.iinc (pc := 92) (x := v3) (ls2 := [some (vR 28), some (vI v1), some (vI v2), some (vI (v3 + (-1))), some (vI v4), some (vI v5), some (vI v6)]) dX10_visit_92 rfl (by decide) rfl ?_
  exact h

set_option maxRecDepth 20000 in
theorem sg_X10_visit_95 {M : Mem} {K : Mem → Prop} {v1 v2 v3 v4 v5 v6 : Int} 
    (h : AW mX10_visit 30 [some (vR 28), some (vI v1), some (vI v2), some (vI v3), some (vI (v4 + 1)), none, none] [] M (QV K)) :
    AW mX10_visit 95 [some (vR 28), some (vI v1), some (vI v2), some (vI v3), some (vI v4), some (vI v5), some (vI v6)] [] M (QV K) := by
  refine AW.iinc (pc := 95) (x := v4) (ls2 := [some (vR 28), some (vI v1), some (vI v2), some (vI v3), some (vI (v4 + 1)), some (vI v5), some (vI v6)]) dX10_visit_95 rfl (by decide) rfl ?_
  refine AW.goto (pc := 98) (tgt := 30) dX10_visit_98 (by decide) ?_
  exact AW.weak (ls2 := [some (vR 28), some (vI v1), some (vI v2), some (vI v3), some (vI (v4 + 1)), none, none]) (by simp [lsub]) h

set_option maxRecDepth 20000 in
theorem en_X10_visit_b {M : Mem} {K : Mem → Prop} {v1 : Int} 
    (h : CI mX0_resolve [vR 12, vI v1] M (fun r5 M5 => CI mX10_hasListed [vR 37, vI r5] M5 (fun r11 M11 => InR r11 ∧ (r11 = 0 → (AW mX10_visit 30 [some (vR 37), some (vI v1), some (vI r5), some (vI 1), some (vI 0), none, none] [] (up M11 40 0 r5) (QV K))) ∧ (¬ (r11 = 0) → (K M11))))) :
    CV mX10_visit [vR 37, vI v1] M K := by
  show AW mX10_visit 0 [some (vR 37), some (vI v1), none, none, none, none, none] [] M (QV K)
  refine AW.aload_n (pc := 0) (x := 37) dX10_visit_0 rfl ?_
  refine AW.getR (pc := 1) (h2 := 12) dX10_visit_1 fg_X10_21 kd_37 hl_37 rfl ?_
  refine AW.iload_n (pc := 4) (x := v1) dX10_visit_4 rfl ?_
  refine AW.callV (pc := 5) (As := [vI v1]) (st := []) dX10_visit_5 cl_X10_32 kd_12 hl_12 ⟨Nat.le_of_ble_eq_true rfl, Nat.le_of_ble_eq_true rfl⟩ (Nat.le_of_ble_eq_true rfl) (Nat.le_of_ble_eq_true rfl) h ?_
  rintro _ M5 ⟨r5, rfl, h⟩
  show AW mX10_visit 8 [some (vR 37), some (vI v1), none, none, none, none, none] [vI r5] M5 (QV K)
  refine AW.istore_n (pc := 8) (ls2 := [some (vR 37), some (vI v1), some (vI r5), none, none, none, none]) dX10_visit_8 (by decide) rfl ?_
  refine AW.aload_n (pc := 9) (x := 37) dX10_visit_9 rfl ?_
  refine AW.iload_n (pc := 10) (x := r5) dX10_visit_10 rfl ?_
  refine AW.callV (pc := 11) (As := [vI r5]) (st := []) dX10_visit_11 cl_X10_38 kd_37 hl_37 ⟨Nat.le_of_ble_eq_true rfl, Nat.le_of_ble_eq_true rfl⟩ (Nat.le_of_ble_eq_true rfl) (Nat.le_of_ble_eq_true rfl) h ?_
  rintro _ M11 ⟨r11, rfl, h⟩
  show AW mX10_visit 14 [some (vR 37), some (vI v1), some (vI r5), none, none, none, none] [vI r11] M11 (QV K)
  obtain ⟨o, ha, hb⟩ := h
  refine AW.if_eq (pc := 14) (tgt := 18) dX10_visit_14 (by decide) o (fun hc => ?_) (fun hc => ?_)
  · have h := ha hc
    refine AW.aload_n (pc := 18) (x := 37) dX10_visit_18 rfl ?_
    refine AW.getR (pc := 19) (h2 := 40) dX10_visit_19 fg_X10_18 kd_37 hl_37 rfl ?_
    refine AW.iconst (pc := 22) dX10_visit_22 ?_
    refine AW.iload_n (pc := 23) (x := r5) dX10_visit_23 rfl ?_
    refine AW.iast (pc := 24) dX10_visit_24 kd_40 hl_40 (by decide) ?_
    refine AW.iconst (pc := 25) dX10_visit_25 ?_
    refine AW.istore_n (pc := 26) (ls2 := [some (vR 37), some (vI v1), some (vI r5), some (vI 1), none, none, none]) dX10_visit_26 (by decide) rfl ?_
    refine AW.iconst (pc := 27) dX10_visit_27 ?_
    refine AW.istore (pc := 28) (ls2 := [some (vR 37), some (vI v1), some (vI r5), some (vI 1), some (vI 0), none, none]) dX10_visit_28 (by decide) rfl ?_
    exact h
  · have h := hb hc
    exact AW.vret (st := []) (pc := 17) dX10_visit_17 rfl ⟨rfl, h⟩

set_option maxRecDepth 20000 in
theorem sg_X10_visit_b_30 {M : Mem} {K : Mem → Prop} {v1 v2 v3 v4 : Int} 
    (h : InR v3 ∧ (v3 ≤ 0 → (K M)) ∧ (¬ (v3 ≤ 0) → (InR v4 ∧ (v4 ≥ 1000000 → (K M)) ∧ (¬ (v4 ≥ 1000000) → ((0 ≤ (v3 - 1) ∧ (v3 - 1) < 100) ∧ CI mX10_unlistedPart [vR 37, vI (M 40 (v3 - 1))] M (fun r54 M54 => InR r54 ∧ (r54 = (-13) → (AW mX10_visit 86 [some (vR 37), some (vI v1), some (vI v2), some (vI v3), some (vI v4), some (vI (M 40 (v3 - 1))), some (vI r54)] [] M54 (QV K))) ∧ (¬ (r54 = (-13)) → (InR v3 ∧ (v3 ≥ 100 → (AW mX10_visit 86 [some (vR 37), some (vI v1), some (vI v2), some (vI v3), some (vI v4), some (vI (M 40 (v3 - 1))), some (vI r54)] [] M54 (QV K))) ∧ (¬ (v3 ≥ 100) → ((0 ≤ v3 ∧ v3 < 100) ∧ AW mX10_visit 95 [some (vR 37), some (vI v1), some (vI v2), some (vI (v3 + 1)), some (vI v4), some (vI (M 40 (v3 - 1))), some (vI r54)] [] (up M54 40 v3 r54) (QV K))))))))))) :
    AW mX10_visit 30 [some (vR 37), some (vI v1), some (vI v2), some (vI v3), some (vI v4), none, none] [] M (QV K) := by
  refine AW.iload_n (pc := 30) (x := v3) dX10_visit_30 rfl ?_
  obtain ⟨o, ha, hb⟩ := h
  refine AW.if_le (pc := 31) (tgt := 101) dX10_visit_31 (by decide) o (fun hc => ?_) (fun hc => ?_)
  · have h := ha hc
    exact AW.vret (st := []) (pc := 101) dX10_visit_101 rfl ⟨rfl, h⟩
  · have h := hb hc
    refine AW.iload (pc := 34) (x := v4) dX10_visit_34 rfl ?_
    refine AW.ldc (pc := 36) (n := 1000000) dX10_visit_36 k_X10_42 ?_
    obtain ⟨o, ha, hb⟩ := h
    refine AW.icmp_ge (pc := 38) (tgt := 101) dX10_visit_38 (by decide) o (by decide) (fun hc => ?_) (fun hc => ?_)
    · have h := ha hc
      exact AW.vret (st := []) (pc := 101) dX10_visit_101 rfl ⟨rfl, h⟩
    · have h := hb hc
      refine AW.aload_n (pc := 41) (x := 37) dX10_visit_41 rfl ?_
      refine AW.getR (pc := 42) (h2 := 40) dX10_visit_42 fg_X10_18 kd_37 hl_37 rfl ?_
      refine AW.iload_n (pc := 45) (x := v3) dX10_visit_45 rfl ?_
      refine AW.iconst (pc := 46) dX10_visit_46 ?_
      refine AW.isub (pc := 47) dX10_visit_47 ?_
      obtain ⟨o, h⟩ := h
      refine AW.iald (pc := 48) dX10_visit_48 kd_40 hl_40 o ?_
      refine AW.istore (pc := 49) (ls2 := [some (vR 37), some (vI v1), some (vI v2), some (vI v3), some (vI v4), some (vI (M 40 (v3 - 1))), none]) dX10_visit_49 (by decide) rfl ?_
      refine AW.aload_n (pc := 51) (x := 37) dX10_visit_51 rfl ?_
      refine AW.iload (pc := 52) (x := (M 40 (v3 - 1))) dX10_visit_52 rfl ?_
      refine AW.callV (pc := 54) (As := [vI (M 40 (v3 - 1))]) (st := []) dX10_visit_54 cl_X10_43 kd_37 hl_37 ⟨Nat.le_of_ble_eq_true rfl, Nat.le_of_ble_eq_true rfl⟩ (Nat.le_of_ble_eq_true rfl) (Nat.le_of_ble_eq_true rfl) h ?_
      rintro _ M54 ⟨r54, rfl, h⟩
      show AW mX10_visit 57 [some (vR 37), some (vI v1), some (vI v2), some (vI v3), some (vI v4), some (vI (M 40 (v3 - 1))), none] [vI r54] M54 (QV K)
      refine AW.istore (pc := 57) (ls2 := [some (vR 37), some (vI v1), some (vI v2), some (vI v3), some (vI v4), some (vI (M 40 (v3 - 1))), some (vI r54)]) dX10_visit_57 (by decide) rfl ?_
      refine AW.iload (pc := 59) (x := r54) dX10_visit_59 rfl ?_
      refine AW.bipush (pc := 61) dX10_visit_61 (by decide) ?_
      obtain ⟨o, ha, hb⟩ := h
      refine AW.icmp_eq (pc := 63) (tgt := 86) dX10_visit_63 (by decide) o (by decide) (fun hc => ?_) (fun hc => ?_)
      · have h := ha hc
        exact h
      · have h := hb hc
        refine AW.iload_n (pc := 66) (x := v3) dX10_visit_66 rfl ?_
        refine AW.bipush (pc := 67) dX10_visit_67 (by decide) ?_
        obtain ⟨o, ha, hb⟩ := h
        refine AW.icmp_ge (pc := 69) (tgt := 86) dX10_visit_69 (by decide) o (by decide) (fun hc => ?_) (fun hc => ?_)
        · have h := ha hc
          exact h
        · have h := hb hc
          refine AW.aload_n (pc := 72) (x := 37) dX10_visit_72 rfl ?_
          refine AW.getR (pc := 73) (h2 := 40) dX10_visit_73 fg_X10_18 kd_37 hl_37 rfl ?_
          refine AW.iload_n (pc := 76) (x := v3) dX10_visit_76 rfl ?_
          refine AW.iload (pc := 77) (x := r54) dX10_visit_77 rfl ?_
          obtain ⟨o, h⟩ := h
          refine AW.iast (pc := 79) dX10_visit_79 kd_40 hl_40 o ?_
          refine AW.iinc (pc := 80) (x := v3) (ls2 := [some (vR 37), some (vI v1), some (vI v2), some (vI (v3 + 1)), some (vI v4), some (vI (M 40 (v3 - 1))), some (vI r54)]) dX10_visit_80 rfl (by decide) rfl ?_
          refine AW.goto (pc := 83) (tgt := 95) dX10_visit_83 (by decide) ?_
          exact h

set_option maxRecDepth 20000 in
theorem sg_X10_visit_b_86 {M : Mem} {K : Mem → Prop} {v1 v2 v3 v4 v5 v6 : Int} 
    (h : CV mX10_list [vR 37, vI v5] M (fun M89 => AW mX10_visit 95 [some (vR 37), some (vI v1), some (vI v2), some (vI (v3 + (-1))), some (vI v4), some (vI v5), some (vI v6)] [] M89 (QV K))) :
    AW mX10_visit 86 [some (vR 37), some (vI v1), some (vI v2), some (vI v3), some (vI v4), some (vI v5), some (vI v6)] [] M (QV K) := by
  refine AW.aload_n (pc := 86) (x := 37) dX10_visit_86 rfl ?_
  refine AW.iload (pc := 87) (x := v5) dX10_visit_87 rfl ?_
  refine AW.callV (pc := 89) (As := [vI v5]) (st := []) dX10_visit_89 cl_X10_46 kd_37 hl_37 ⟨Nat.le_of_ble_eq_true rfl, Nat.le_of_ble_eq_true rfl⟩ (Nat.le_of_ble_eq_true rfl) (Nat.le_of_ble_eq_true rfl) h ?_
  rintro _ M89 ⟨rfl, h⟩
  show AW mX10_visit 92 [some (vR 37), some (vI v1), some (vI v2), some (vI v3), some (vI v4), some (vI v5), some (vI v6)] [] M89 (QV K)
  refine AW.iinc (pc := 92) (x := v3) (ls2 := [some (vR 37), some (vI v1), some (vI v2), some (vI (v3 + (-1))), some (vI v4), some (vI v5), some (vI v6)]) dX10_visit_92 rfl (by decide) rfl ?_
  exact h

set_option maxRecDepth 20000 in
theorem sg_X10_visit_b_95 {M : Mem} {K : Mem → Prop} {v1 v2 v3 v4 v5 v6 : Int} 
    (h : AW mX10_visit 30 [some (vR 37), some (vI v1), some (vI v2), some (vI v3), some (vI (v4 + 1)), none, none] [] M (QV K)) :
    AW mX10_visit 95 [some (vR 37), some (vI v1), some (vI v2), some (vI v3), some (vI v4), some (vI v5), some (vI v6)] [] M (QV K) := by
  refine AW.iinc (pc := 95) (x := v4) (ls2 := [some (vR 37), some (vI v1), some (vI v2), some (vI v3), some (vI (v4 + 1)), some (vI v5), some (vI v6)]) dX10_visit_95 rfl (by decide) rfl ?_
  refine AW.goto (pc := 98) (tgt := 30) dX10_visit_98 (by decide) ?_
  exact AW.weak (ls2 := [some (vR 37), some (vI v1), some (vI v2), some (vI v3), some (vI (v4 + 1)), none, none]) (by simp [lsub]) h

set_option maxRecDepth 20000 in
theorem en_X11_addConstructor {M : Mem} {K : Int → Mem → Prop} {v1 v2 v3 v4 v5 : Int} 
    (h : InR v2 ∧ (v2 < 0 → (K (-4) M)) ∧ (¬ (v2 < 0) → (InR v2 ∧ (v2 ≤ 3 → (CI mX4_hasType [vR 1, vI v1] M (fun r17 M17 => InR r17 ∧ (r17 = 0 → (K (-1) M17)) ∧ (¬ (r17 = 0) → (InR v2 ∧ (v2 ≤ 0 → (AW mX11_addConstructor 38 [some (vR 0), some (vI v1), some (vI v2), some (vI v3), some (vI v4), some (vI v5), none] [] M17 (QI K))) ∧ (¬ (v2 ≤ 0) → (CI mX4_hasType [vR 1, vI v3] M17 (fun r32 M32 => InR r32 ∧ (r32 = 0 → (K (-1) M32)) ∧ (¬ (r32 = 0) → (AW mX11_addConstructor 38 [some (vR 0), some (vI v1), some (vI v2), some (vI v3), some (vI v4), some (vI v5), none] [] M32 (QI K))))))))))) ∧ (¬ (v2 ≤ 3) → (K (-4) M))))) :
    CI mX11_addConstructor [vR 0, vI v1, vI v2, vI v3, vI v4, vI v5] M K := by
  show AW mX11_addConstructor 0 [some (vR 0), some (vI v1), some (vI v2), some (vI v3), some (vI v4), some (vI v5), none] [] M (QI K)
  refine AW.iload_n (pc := 0) (x := v2) dX11_addConstructor_0 rfl ?_
  obtain ⟨o, ha, hb⟩ := h
  refine AW.if_lt (pc := 1) (tgt := 9) dX11_addConstructor_1 (by decide) o (fun hc => ?_) (fun hc => ?_)
  · have h := ha hc
    refine AW.bipush (pc := 9) dX11_addConstructor_9 (by decide) ?_
    exact AW.iret (st := []) (pc := 11) dX11_addConstructor_11 rfl ⟨_, rfl, h⟩
  · have h := hb hc
    refine AW.iload_n (pc := 4) (x := v2) dX11_addConstructor_4 rfl ?_
    refine AW.iconst (pc := 5) dX11_addConstructor_5 ?_
    obtain ⟨o, ha, hb⟩ := h
    refine AW.icmp_le (pc := 6) (tgt := 12) dX11_addConstructor_6 (by decide) o (by decide) (fun hc => ?_) (fun hc => ?_)
    · have h := ha hc
      refine AW.aload_n (pc := 12) (x := 0) dX11_addConstructor_12 rfl ?_
      refine AW.getR (pc := 13) (h2 := 1) dX11_addConstructor_13 fg_X11_12 kd_0 hl_0 rfl ?_
      refine AW.iload_n (pc := 16) (x := v1) dX11_addConstructor_16 rfl ?_
      refine AW.callV (pc := 17) (As := [vI v1]) (st := []) dX11_addConstructor_17 cl_X11_84 kd_1 hl_1 ⟨Nat.le_of_ble_eq_true rfl, Nat.le_of_ble_eq_true rfl⟩ (Nat.le_of_ble_eq_true rfl) (Nat.le_of_ble_eq_true rfl) h ?_
      rintro _ M17 ⟨r17, rfl, h⟩
      show AW mX11_addConstructor 20 [some (vR 0), some (vI v1), some (vI v2), some (vI v3), some (vI v4), some (vI v5), none] [vI r17] M17 (QI K)
      obtain ⟨o, ha, hb⟩ := h
      refine AW.if_eq (pc := 20) (tgt := 72) dX11_addConstructor_20 (by decide) o (fun hc => ?_) (fun hc => ?_)
      · have h := ha hc
        refine AW.iconst (pc := 72) dX11_addConstructor_72 ?_
        exact AW.iret (st := []) (pc := 73) dX11_addConstructor_73 rfl ⟨_, rfl, h⟩
      · have h := hb hc
        refine AW.iload_n (pc := 23) (x := v2) dX11_addConstructor_23 rfl ?_
        obtain ⟨o, ha, hb⟩ := h
        refine AW.if_le (pc := 24) (tgt := 38) dX11_addConstructor_24 (by decide) o (fun hc => ?_) (fun hc => ?_)
        · have h := ha hc
          exact h
        · have h := hb hc
          refine AW.aload_n (pc := 27) (x := 0) dX11_addConstructor_27 rfl ?_
          refine AW.getR (pc := 28) (h2 := 1) dX11_addConstructor_28 fg_X11_12 kd_0 hl_0 rfl ?_
          refine AW.iload_n (pc := 31) (x := v3) dX11_addConstructor_31 rfl ?_
          refine AW.callV (pc := 32) (As := [vI v3]) (st := []) dX11_addConstructor_32 cl_X11_84 kd_1 hl_1 ⟨Nat.le_of_ble_eq_true rfl, Nat.le_of_ble_eq_true rfl⟩ (Nat.le_of_ble_eq_true rfl) (Nat.le_of_ble_eq_true rfl) h ?_
          rintro _ M32 ⟨r32, rfl, h⟩
          show AW mX11_addConstructor 35 [some (vR 0), some (vI v1), some (vI v2), some (vI v3), some (vI v4), some (vI v5), none] [vI r32] M32 (QI K)
          obtain ⟨o, ha, hb⟩ := h
          refine AW.if_eq (pc := 35) (tgt := 72) dX11_addConstructor_35 (by decide) o (fun hc => ?_) (fun hc => ?_)
          · have h := ha hc
            refine AW.iconst (pc := 72) dX11_addConstructor_72 ?_
            exact AW.iret (st := []) (pc := 73) dX11_addConstructor_73 rfl ⟨_, rfl, h⟩
          · have h := hb hc
            exact h
    · have h := hb hc
      refine AW.bipush (pc := 9) dX11_addConstructor_9 (by decide) ?_
      exact AW.iret (st := []) (pc := 11) dX11_addConstructor_11 rfl ⟨_, rfl, h⟩

set_option maxRecDepth 20000 in
theorem sg_X11_addConstructor_38 {M : Mem} {K : Int → Mem → Prop} {v1 v2 v3 v4 v5 : Int} 
    (h : InR v2 ∧ (v2 ≤ 1 → (AW mX11_addConstructor 55 [some (vR 0), some (vI v1), some (vI v2), some (vI v3), some (vI v4), some (vI v5), none] [] M (QI K))) ∧ (¬ (v2 ≤ 1) → (CI mX4_hasType [vR 1, vI v4] M (fun r49 M49 => InR r49 ∧ (r49 = 0 → (K (-1) M49)) ∧ (¬ (r49 = 0) → (AW mX11_addConstructor 55 [some (vR 0), some (vI v1), some (vI v2), some (vI v3), some (vI v4), some (vI v5), none] [] M49 (QI K))))))) :
    AW mX11_addConstructor 38 [some (vR 0), some (vI v1), some (vI v2), some (vI v3), some (vI v4), some (vI v5), none] [] M (QI K) := by
  refine AW.iload_n (pc := 38) (x := v2) dX11_addConstructor_38 rfl ?_
  refine AW.iconst (pc := 39) dX11_addConstructor_39 ?_
  obtain ⟨o, ha, hb⟩ := h
  refine AW.icmp_le (pc := 40) (tgt := 55) dX11_addConstructor_40 (by decide) o (by decide) (fun hc => ?_) (fun hc => ?_)
  · have h := ha hc
    exact h
  · have h := hb hc
    refine AW.aload_n (pc := 43) (x := 0) dX11_addConstructor_43 rfl ?_
    refine AW.getR (pc := 44) (h2 := 1) dX11_addConstructor_44 fg_X11_12 kd_0 hl_0 rfl ?_
    refine AW.iload (pc := 47) (x := v4) dX11_addConstructor_47 rfl ?_
    refine AW.callV (pc := 49) (As := [vI v4]) (st := []) dX11_addConstructor_49 cl_X11_84 kd_1 hl_1 ⟨Nat.le_of_ble_eq_true rfl, Nat.le_of_ble_eq_true rfl⟩ (Nat.le_of_ble_eq_true rfl) (Nat.le_of_ble_eq_true rfl) h ?_
    rintro _ M49 ⟨r49, rfl, h⟩
    show AW mX11_addConstructor 52 [some (vR 0), some (vI v1), some (vI v2), some (vI v3), some (vI v4), some (vI v5), none] [vI r49] M49 (QI K)
    obtain ⟨o, ha, hb⟩ := h
    refine AW.if_eq (pc := 52) (tgt := 72) dX11_addConstructor_52 (by decide) o (fun hc => ?_) (fun hc => ?_)
    · have h := ha hc
      refine AW.iconst (pc := 72) dX11_addConstructor_72 ?_
      exact AW.iret (st := []) (pc := 73) dX11_addConstructor_73 rfl ⟨_, rfl, h⟩
    · have h := hb hc
      exact h

set_option maxRecDepth 20000 in
theorem sg_X11_addConstructor_55 {M : Mem} {K : Int → Mem → Prop} {v1 v2 v3 v4 v5 : Int} 
    (h : InR v2 ∧ (v2 ≤ 2 → (AW mX11_addConstructor 74 [some (vR 0), some (vI v1), some (vI v2), some (vI v3), some (vI v4), some (vI v5), none] [] M (QI K))) ∧ (¬ (v2 ≤ 2) → (CI mX4_hasType [vR 1, vI v5] M (fun r66 M66 => InR r66 ∧ (r66 ≠ 0 → (AW mX11_addConstructor 74 [some (vR 0), some (vI v1), some (vI v2), some (vI v3), some (vI v4), some (vI v5), none] [] M66 (QI K))) ∧ (¬ (r66 ≠ 0) → (K (-1) M66)))))) :
    AW mX11_addConstructor 55 [some (vR 0), some (vI v1), some (vI v2), some (vI v3), some (vI v4), some (vI v5), none] [] M (QI K) := by
  refine AW.iload_n (pc := 55) (x := v2) dX11_addConstructor_55 rfl ?_
  refine AW.iconst (pc := 56) dX11_addConstructor_56 ?_
  obtain ⟨o, ha, hb⟩ := h
  refine AW.icmp_le (pc := 57) (tgt := 74) dX11_addConstructor_57 (by decide) o (by decide) (fun hc => ?_) (fun hc => ?_)
  · have h := ha hc
    exact h
  · have h := hb hc
    refine AW.aload_n (pc := 60) (x := 0) dX11_addConstructor_60 rfl ?_
    refine AW.getR (pc := 61) (h2 := 1) dX11_addConstructor_61 fg_X11_12 kd_0 hl_0 rfl ?_
    refine AW.iload (pc := 64) (x := v5) dX11_addConstructor_64 rfl ?_
    refine AW.callV (pc := 66) (As := [vI v5]) (st := []) dX11_addConstructor_66 cl_X11_84 kd_1 hl_1 ⟨Nat.le_of_ble_eq_true rfl, Nat.le_of_ble_eq_true rfl⟩ (Nat.le_of_ble_eq_true rfl) (Nat.le_of_ble_eq_true rfl) h ?_
    rintro _ M66 ⟨r66, rfl, h⟩
    show AW mX11_addConstructor 69 [some (vR 0), some (vI v1), some (vI v2), some (vI v3), some (vI v4), some (vI v5), none] [vI r66] M66 (QI K)
    obtain ⟨o, ha, hb⟩ := h
    refine AW.if_ne (pc := 69) (tgt := 74) dX11_addConstructor_69 (by decide) o (fun hc => ?_) (fun hc => ?_)
    · have h := ha hc
      exact h
    · have h := hb hc
      refine AW.iconst (pc := 72) dX11_addConstructor_72 ?_
      exact AW.iret (st := []) (pc := 73) dX11_addConstructor_73 rfl ⟨_, rfl, h⟩

set_option maxRecDepth 20000 in
theorem sg_X11_addConstructor_74 {M : Mem} {K : Int → Mem → Prop} {v1 v2 v3 v4 v5 : Int} 
    (h : InR (M 1 1) ∧ ((M 1 1) < 12 → (CI mX4_define [vR 1, vI v1, vI v2, vI v3, vI v4, vI v5] M (fun r100 M100 => CV mX1_recompute [vR 5] M100 (fun M109 => CV mX8_recompute [vR 8] M109 (fun M116 => K r100 M116))))) ∧ (¬ ((M 1 1) < 12) → (K (-6) M))) :
    AW mX11_addConstructor 74 [some (vR 0), some (vI v1), some (vI v2), some (vI v3), some (vI v4), some (vI v5), none] [] M (QI K) := by
  refine AW.aload_n (pc := 74) (x := 0) dX11_addConstructor_74 rfl ?_
  refine AW.getR (pc := 75) (h2 := 1) dX11_addConstructor_75 fg_X11_12 kd_0 hl_0 rfl ?_
  refine AW.getI (pc := 78) dX11_addConstructor_78 fg_X11_88 kd_1 hl_1 rfl ?_
  refine AW.bipush (pc := 81) dX11_addConstructor_81 (by decide) ?_
  obtain ⟨o, ha, hb⟩ := h
  refine AW.icmp_lt (pc := 83) (tgt := 89) dX11_addConstructor_83 (by decide) o (by decide) (fun hc => ?_) (fun hc => ?_)
  · have h := ha hc
    refine AW.aload_n (pc := 89) (x := 0) dX11_addConstructor_89 rfl ?_
    refine AW.getR (pc := 90) (h2 := 1) dX11_addConstructor_90 fg_X11_12 kd_0 hl_0 rfl ?_
    refine AW.iload_n (pc := 93) (x := v1) dX11_addConstructor_93 rfl ?_
    refine AW.iload_n (pc := 94) (x := v2) dX11_addConstructor_94 rfl ?_
    refine AW.iload_n (pc := 95) (x := v3) dX11_addConstructor_95 rfl ?_
    refine AW.iload (pc := 96) (x := v4) dX11_addConstructor_96 rfl ?_
    refine AW.iload (pc := 98) (x := v5) dX11_addConstructor_98 rfl ?_
    refine AW.callV (pc := 100) (As := [vI v1, vI v2, vI v3, vI v4, vI v5]) (st := []) dX11_addConstructor_100 cl_X11_91 kd_1 hl_1 ⟨Nat.le_of_ble_eq_true rfl, Nat.le_of_ble_eq_true rfl⟩ (Nat.le_of_ble_eq_true rfl) (Nat.le_of_ble_eq_true rfl) h ?_
    rintro _ M100 ⟨r100, rfl, h⟩
    show AW mX11_addConstructor 103 [some (vR 0), some (vI v1), some (vI v2), some (vI v3), some (vI v4), some (vI v5), none] [vI r100] M100 (QI K)
    refine AW.istore (pc := 103) (ls2 := [some (vR 0), some (vI v1), some (vI v2), some (vI v3), some (vI v4), some (vI v5), some (vI r100)]) dX11_addConstructor_103 (by decide) rfl ?_
    refine AW.aload_n (pc := 105) (x := 0) dX11_addConstructor_105 rfl ?_
    refine AW.getR (pc := 106) (h2 := 5) dX11_addConstructor_106 fg_X11_21 kd_0 hl_0 rfl ?_
    refine AW.callV (pc := 109) (As := []) (st := []) dX11_addConstructor_109 cl_X11_95 kd_5 hl_5 ⟨Nat.le_of_ble_eq_true rfl, Nat.le_of_ble_eq_true rfl⟩ (Nat.le_of_ble_eq_true rfl) (Nat.le_of_ble_eq_true rfl) h ?_
    rintro _ M109 ⟨rfl, h⟩
    show AW mX11_addConstructor 112 [some (vR 0), some (vI v1), some (vI v2), some (vI v3), some (vI v4), some (vI v5), some (vI r100)] [] M109 (QI K)
    refine AW.aload_n (pc := 112) (x := 0) dX11_addConstructor_112 rfl ?_
    refine AW.getR (pc := 113) (h2 := 8) dX11_addConstructor_113 fg_X11_28 kd_0 hl_0 rfl ?_
    refine AW.callV (pc := 116) (As := []) (st := []) dX11_addConstructor_116 cl_X11_98 kd_8 hl_8 ⟨Nat.le_of_ble_eq_true rfl, Nat.le_of_ble_eq_true rfl⟩ (Nat.le_of_ble_eq_true rfl) (Nat.le_of_ble_eq_true rfl) h ?_
    rintro _ M116 ⟨rfl, h⟩
    show AW mX11_addConstructor 119 [some (vR 0), some (vI v1), some (vI v2), some (vI v3), some (vI v4), some (vI v5), some (vI r100)] [] M116 (QI K)
    refine AW.iload (pc := 119) (x := r100) dX11_addConstructor_119 rfl ?_
    exact AW.iret (st := []) (pc := 121) dX11_addConstructor_121 rfl ⟨_, rfl, h⟩
  · have h := hb hc
    refine AW.bipush (pc := 86) dX11_addConstructor_86 (by decide) ?_
    exact AW.iret (st := []) (pc := 88) dX11_addConstructor_88 rfl ⟨_, rfl, h⟩

set_option maxRecDepth 20000 in
theorem en_X11_addRow {M : Mem} {K : Int → Mem → Prop} {v1 : Int} 
    (h : CI mX0_contains [vR 12, vI v1] M (fun r5 M5 => InR r5 ∧ (r5 ≠ 0 → (InR (M5 43 1) ∧ ((M5 43 1) ≤ 0 → (InR (M5 43 1) ∧ ((M5 43 1) < 8 → (CI mX2_append [vR 43, vI v1] M5 (fun r66 M66 => K r66 M66))) ∧ (¬ ((M5 43 1) < 8) → (K (-6) M5)))) ∧ (¬ ((M5 43 1) ≤ 0) → ((0 ≤ v1 ∧ v1 < 100) ∧ CI mX2_subjectType [vR 43] M5 (fun r37 M37 => (InR (M5 13 v1) ∧ InR r37) ∧ ((M5 13 v1) = r37 → (InR (M37 43 1) ∧ ((M37 43 1) < 8 → (CI mX2_append [vR 43, vI v1] M37 (fun r66 M66 => K r66 M66))) ∧ (¬ ((M37 43 1) < 8) → (K (-6) M37)))) ∧ (¬ ((M5 13 v1) = r37) → (K (-5) M37))))))) ∧ (¬ (r5 ≠ 0) → (K (-3) M5)))) :
    CI mX11_addRow [vR 0, vI v1] M K := by
  show AW mX11_addRow 0 [some (vR 0), some (vI v1)] [] M (QI K)
  refine AW.aload_n (pc := 0) (x := 0) dX11_addRow_0 rfl ?_
  refine AW.getR (pc := 1) (h2 := 12) dX11_addRow_1 fg_X11_35 kd_0 hl_0 rfl ?_
  refine AW.iload_n (pc := 4) (x := v1) dX11_addRow_4 rfl ?_
  refine AW.callV (pc := 5) (As := [vI v1]) (st := []) dX11_addRow_5 cl_X11_133 kd_12 hl_12 ⟨Nat.le_of_ble_eq_true rfl, Nat.le_of_ble_eq_true rfl⟩ (Nat.le_of_ble_eq_true rfl) (Nat.le_of_ble_eq_true rfl) h ?_
  rintro _ M5 ⟨r5, rfl, h⟩
  show AW mX11_addRow 8 [some (vR 0), some (vI v1)] [vI r5] M5 (QI K)
  obtain ⟨o, ha, hb⟩ := h
  refine AW.if_ne (pc := 8) (tgt := 14) dX11_addRow_8 (by decide) o (fun hc => ?_) (fun hc => ?_)
  · have h := ha hc
    refine AW.aload_n (pc := 14) (x := 0) dX11_addRow_14 rfl ?_
    refine AW.getR (pc := 15) (h2 := 43) dX11_addRow_15 fg_X11_76 kd_0 hl_0 rfl ?_
    refine AW.getI (pc := 18) dX11_addRow_18 fg_X11_193 kd_43 hl_43 rfl ?_
    obtain ⟨o, ha, hb⟩ := h
    refine AW.if_le (pc := 21) (tgt := 46) dX11_addRow_21 (by decide) o (fun hc => ?_) (fun hc => ?_)
    · have h := ha hc
      refine AW.aload_n (pc := 46) (x := 0) dX11_addRow_46 rfl ?_
      refine AW.getR (pc := 47) (h2 := 43) dX11_addRow_47 fg_X11_76 kd_0 hl_0 rfl ?_
      refine AW.getI (pc := 50) dX11_addRow_50 fg_X11_193 kd_43 hl_43 rfl ?_
      refine AW.bipush (pc := 53) dX11_addRow_53 (by decide) ?_
      obtain ⟨o, ha, hb⟩ := h
      refine AW.icmp_lt (pc := 55) (tgt := 61) dX11_addRow_55 (by decide) o (by decide) (fun hc => ?_) (fun hc => ?_)
      · have h := ha hc
        refine AW.aload_n (pc := 61) (x := 0) dX11_addRow_61 rfl ?_
        refine AW.getR (pc := 62) (h2 := 43) dX11_addRow_62 fg_X11_76 kd_0 hl_0 rfl ?_
        refine AW.iload_n (pc := 65) (x := v1) dX11_addRow_65 rfl ?_
        refine AW.callV (pc := 66) (As := [vI v1]) (st := []) dX11_addRow_66 cl_X11_197 kd_43 hl_43 ⟨Nat.le_of_ble_eq_true rfl, Nat.le_of_ble_eq_true rfl⟩ (Nat.le_of_ble_eq_true rfl) (Nat.le_of_ble_eq_true rfl) h ?_
        rintro _ M66 ⟨r66, rfl, h⟩
        show AW mX11_addRow 69 [some (vR 0), some (vI v1)] [vI r66] M66 (QI K)
        exact AW.iret (st := []) (pc := 69) dX11_addRow_69 rfl ⟨_, rfl, h⟩
      · have h := hb hc
        refine AW.bipush (pc := 58) dX11_addRow_58 (by decide) ?_
        exact AW.iret (st := []) (pc := 60) dX11_addRow_60 rfl ⟨_, rfl, h⟩
    · have h := hb hc
      refine AW.aload_n (pc := 24) (x := 0) dX11_addRow_24 rfl ?_
      refine AW.getR (pc := 25) (h2 := 12) dX11_addRow_25 fg_X11_35 kd_0 hl_0 rfl ?_
      refine AW.getR (pc := 28) (h2 := 13) dX11_addRow_28 fg_X11_136 kd_12 hl_12 rfl ?_
      refine AW.iload_n (pc := 31) (x := v1) dX11_addRow_31 rfl ?_
      obtain ⟨o, h⟩ := h
      refine AW.iald (pc := 32) dX11_addRow_32 kd_13 hl_13 o ?_
      refine AW.aload_n (pc := 33) (x := 0) dX11_addRow_33 rfl ?_
      refine AW.getR (pc := 34) (h2 := 43) dX11_addRow_34 fg_X11_76 kd_0 hl_0 rfl ?_
      refine AW.callV (pc := 37) (As := []) (st := [vI (M5 13 v1)]) dX11_addRow_37 cl_X11_194 kd_43 hl_43 ⟨Nat.le_of_ble_eq_true rfl, Nat.le_of_ble_eq_true rfl⟩ (Nat.le_of_ble_eq_true rfl) (Nat.le_of_ble_eq_true rfl) h ?_
      rintro _ M37 ⟨r37, rfl, h⟩
      show AW mX11_addRow 40 [some (vR 0), some (vI v1)] [vI r37, vI (M5 13 v1)] M37 (QI K)
      obtain ⟨o, ha, hb⟩ := h
      refine AW.icmp_eq (pc := 40) (tgt := 46) dX11_addRow_40 (by decide) o.1 o.2 (fun hc => ?_) (fun hc => ?_)
      · have h := ha hc
        refine AW.aload_n (pc := 46) (x := 0) dX11_addRow_46 rfl ?_
        refine AW.getR (pc := 47) (h2 := 43) dX11_addRow_47 fg_X11_76 kd_0 hl_0 rfl ?_
        refine AW.getI (pc := 50) dX11_addRow_50 fg_X11_193 kd_43 hl_43 rfl ?_
        refine AW.bipush (pc := 53) dX11_addRow_53 (by decide) ?_
        obtain ⟨o, ha, hb⟩ := h
        refine AW.icmp_lt (pc := 55) (tgt := 61) dX11_addRow_55 (by decide) o (by decide) (fun hc => ?_) (fun hc => ?_)
        · have h := ha hc
          refine AW.aload_n (pc := 61) (x := 0) dX11_addRow_61 rfl ?_
          refine AW.getR (pc := 62) (h2 := 43) dX11_addRow_62 fg_X11_76 kd_0 hl_0 rfl ?_
          refine AW.iload_n (pc := 65) (x := v1) dX11_addRow_65 rfl ?_
          refine AW.callV (pc := 66) (As := [vI v1]) (st := []) dX11_addRow_66 cl_X11_197 kd_43 hl_43 ⟨Nat.le_of_ble_eq_true rfl, Nat.le_of_ble_eq_true rfl⟩ (Nat.le_of_ble_eq_true rfl) (Nat.le_of_ble_eq_true rfl) h ?_
          rintro _ M66 ⟨r66, rfl, h⟩
          show AW mX11_addRow 69 [some (vR 0), some (vI v1)] [vI r66] M66 (QI K)
          exact AW.iret (st := []) (pc := 69) dX11_addRow_69 rfl ⟨_, rfl, h⟩
        · have h := hb hc
          refine AW.bipush (pc := 58) dX11_addRow_58 (by decide) ?_
          exact AW.iret (st := []) (pc := 60) dX11_addRow_60 rfl ⟨_, rfl, h⟩
      · have h := hb hc
        refine AW.bipush (pc := 43) dX11_addRow_43 (by decide) ?_
        exact AW.iret (st := []) (pc := 45) dX11_addRow_45 rfl ⟨_, rfl, h⟩
  · have h := hb hc
    refine AW.bipush (pc := 11) dX11_addRow_11 (by decide) ?_
    exact AW.iret (st := []) (pc := 13) dX11_addRow_13 rfl ⟨_, rfl, h⟩

set_option maxRecDepth 20000 in
theorem en_X11_addType {M : Mem} {K : Int → Mem → Prop} 
    (h : InR (M 1 0) ∧ ((M 1 0) < 4 → (K (M 1 0) (up M 1 0 ((M 1 0) + 1)))) ∧ (¬ ((M 1 0) < 4) → (K (-6) M))) :
    CI mX11_addType [vR 0] M K := by
  show AW mX11_addType 0 [some (vR 0), none] [] M (QI K)
  refine AW.aload_n (pc := 0) (x := 0) dX11_addType_0 rfl ?_
  refine AW.getR (pc := 1) (h2 := 1) dX11_addType_1 fg_X11_12 kd_0 hl_0 rfl ?_
  refine AW.getI (pc := 4) dX11_addType_4 fg_X11_80 kd_1 hl_1 rfl ?_
  refine AW.iconst (pc := 7) dX11_addType_7 ?_
  obtain ⟨o, ha, hb⟩ := h
  refine AW.icmp_lt (pc := 8) (tgt := 14) dX11_addType_8 (by decide) o (by decide) (fun hc => ?_) (fun hc => ?_)
  · have h := ha hc
    refine AW.aload_n (pc := 14) (x := 0) dX11_addType_14 rfl ?_
    refine AW.getR (pc := 15) (h2 := 1) dX11_addType_15 fg_X11_12 kd_0 hl_0 rfl ?_
    refine AW.getI (pc := 18) dX11_addType_18 fg_X11_80 kd_1 hl_1 rfl ?_
    refine AW.istore_n (pc := 21) (ls2 := [some (vR 0), some (vI (M 1 0))]) dX11_addType_21 (by decide) rfl ?_
    refine AW.aload_n (pc := 22) (x := 0) dX11_addType_22 rfl ?_
    refine AW.getR (pc := 23) (h2 := 1) dX11_addType_23 fg_X11_12 kd_0 hl_0 rfl ?_
    refine AW.dup (pc := 26) dX11_addType_26 rfl ?_
    refine AW.getI (pc := 27) dX11_addType_27 fg_X11_80 kd_1 hl_1 rfl ?_
    refine AW.iconst (pc := 30) dX11_addType_30 ?_
    refine AW.iadd (pc := 31) dX11_addType_31 ?_
    refine AW.put (pc := 32) dX11_addType_32 fp_X11_80 kd_1 hl_1 rfl ?_
    refine AW.iload_n (pc := 35) (x := (M 1 0)) dX11_addType_35 rfl ?_
    exact AW.iret (st := []) (pc := 36) dX11_addType_36 rfl ⟨_, rfl, h⟩
  · have h := hb hc
    refine AW.bipush (pc := 11) dX11_addType_11 (by decide) ?_
    exact AW.iret (st := []) (pc := 13) dX11_addType_13 rfl ⟨_, rfl, h⟩

set_option maxRecDepth 20000 in
theorem en_X11_argumentType {M : Mem} {K : Int → Mem → Prop} {v1 v2 : Int} 
    (h : CI mX4_hasConstructor [vR 1, vI v1] M (fun r5 M5 => InR r5 ∧ (r5 ≠ 0 → (InR v2 ∧ (v2 < 0 → (K (-13) M5)) ∧ (¬ (v2 < 0) → ((0 ≤ v1 ∧ v1 < 12) ∧ (InR v2 ∧ InR (M5 3 v1)) ∧ (v2 < (M5 3 v1) → (CI mX4_typeOfArgument [vR 1, vI v1, vI v2] M5 (fun r40 M40 => K r40 M40))) ∧ (¬ (v2 < (M5 3 v1)) → (K (-13) M5)))))) ∧ (¬ (r5 ≠ 0) → (K (-2) M5)))) :
    CI mX11_argumentType [vR 0, vI v1, vI v2] M K := by
  show AW mX11_argumentType 0 [some (vR 0), some (vI v1), some (vI v2)] [] M (QI K)
  refine AW.aload_n (pc := 0) (x := 0) dX11_argumentType_0 rfl ?_
  refine AW.getR (pc := 1) (h2 := 1) dX11_argumentType_1 fg_X11_12 kd_0 hl_0 rfl ?_
  refine AW.iload_n (pc := 4) (x := v1) dX11_argumentType_4 rfl ?_
  refine AW.callV (pc := 5) (As := [vI v1]) (st := []) dX11_argumentType_5 cl_X11_99 kd_1 hl_1 ⟨Nat.le_of_ble_eq_true rfl, Nat.le_of_ble_eq_true rfl⟩ (Nat.le_of_ble_eq_true rfl) (Nat.le_of_ble_eq_true rfl) h ?_
  rintro _ M5 ⟨r5, rfl, h⟩
  show AW mX11_argumentType 8 [some (vR 0), some (vI v1), some (vI v2)] [vI r5] M5 (QI K)
  obtain ⟨o, ha, hb⟩ := h
  refine AW.if_ne (pc := 8) (tgt := 14) dX11_argumentType_8 (by decide) o (fun hc => ?_) (fun hc => ?_)
  · have h := ha hc
    refine AW.iload_n (pc := 14) (x := v2) dX11_argumentType_14 rfl ?_
    obtain ⟨o, ha, hb⟩ := h
    refine AW.if_lt (pc := 15) (tgt := 31) dX11_argumentType_15 (by decide) o (fun hc => ?_) (fun hc => ?_)
    · have h := ha hc
      refine AW.bipush (pc := 31) dX11_argumentType_31 (by decide) ?_
      exact AW.iret (st := []) (pc := 33) dX11_argumentType_33 rfl ⟨_, rfl, h⟩
    · have h := hb hc
      refine AW.iload_n (pc := 18) (x := v2) dX11_argumentType_18 rfl ?_
      refine AW.aload_n (pc := 19) (x := 0) dX11_argumentType_19 rfl ?_
      refine AW.getR (pc := 20) (h2 := 1) dX11_argumentType_20 fg_X11_12 kd_0 hl_0 rfl ?_
      refine AW.getR (pc := 23) (h2 := 3) dX11_argumentType_23 fg_X11_106 kd_1 hl_1 rfl ?_
      refine AW.iload_n (pc := 26) (x := v1) dX11_argumentType_26 rfl ?_
      obtain ⟨o, h⟩ := h
      refine AW.iald (pc := 27) dX11_argumentType_27 kd_3 hl_3 o ?_
      obtain ⟨o, ha, hb⟩ := h
      refine AW.icmp_lt (pc := 28) (tgt := 34) dX11_argumentType_28 (by decide) o.1 o.2 (fun hc => ?_) (fun hc => ?_)
      · have h := ha hc
        refine AW.aload_n (pc := 34) (x := 0) dX11_argumentType_34 rfl ?_
        refine AW.getR (pc := 35) (h2 := 1) dX11_argumentType_35 fg_X11_12 kd_0 hl_0 rfl ?_
        refine AW.iload_n (pc := 38) (x := v1) dX11_argumentType_38 rfl ?_
        refine AW.iload_n (pc := 39) (x := v2) dX11_argumentType_39 rfl ?_
        refine AW.callV (pc := 40) (As := [vI v1, vI v2]) (st := []) dX11_argumentType_40 cl_X11_109 kd_1 hl_1 ⟨Nat.le_of_ble_eq_true rfl, Nat.le_of_ble_eq_true rfl⟩ (Nat.le_of_ble_eq_true rfl) (Nat.le_of_ble_eq_true rfl) h ?_
        rintro _ M40 ⟨r40, rfl, h⟩
        show AW mX11_argumentType 43 [some (vR 0), some (vI v1), some (vI v2)] [vI r40] M40 (QI K)
        exact AW.iret (st := []) (pc := 43) dX11_argumentType_43 rfl ⟨_, rfl, h⟩
      · have h := hb hc
        refine AW.bipush (pc := 31) dX11_argumentType_31 (by decide) ?_
        exact AW.iret (st := []) (pc := 33) dX11_argumentType_33 rfl ⟨_, rfl, h⟩
  · have h := hb hc
    refine AW.bipush (pc := 11) dX11_argumentType_11 (by decide) ?_
    exact AW.iret (st := []) (pc := 13) dX11_argumentType_13 rfl ⟨_, rfl, h⟩

set_option maxRecDepth 20000 in
theorem en_X11_arity {M : Mem} {K : Int → Mem → Prop} {v1 : Int} 
    (h : CI mX4_hasConstructor [vR 1, vI v1] M (fun r5 M5 => InR r5 ∧ (r5 ≠ 0 → ((0 ≤ v1 ∧ v1 < 12) ∧ K (M5 3 v1) M5)) ∧ (¬ (r5 ≠ 0) → (K (-2) M5)))) :
    CI mX11_arity [vR 0, vI v1] M K := by
  show AW mX11_arity 0 [some (vR 0), some (vI v1)] [] M (QI K)
  refine AW.aload_n (pc := 0) (x := 0) dX11_arity_0 rfl ?_
  refine AW.getR (pc := 1) (h2 := 1) dX11_arity_1 fg_X11_12 kd_0 hl_0 rfl ?_
  refine AW.iload_n (pc := 4) (x := v1) dX11_arity_4 rfl ?_
  refine AW.callV (pc := 5) (As := [vI v1]) (st := []) dX11_arity_5 cl_X11_99 kd_1 hl_1 ⟨Nat.le_of_ble_eq_true rfl, Nat.le_of_ble_eq_true rfl⟩ (Nat.le_of_ble_eq_true rfl) (Nat.le_of_ble_eq_true rfl) h ?_
  rintro _ M5 ⟨r5, rfl, h⟩
  show AW mX11_arity 8 [some (vR 0), some (vI v1)] [vI r5] M5 (QI K)
  obtain ⟨o, ha, hb⟩ := h
  refine AW.if_ne (pc := 8) (tgt := 14) dX11_arity_8 (by decide) o (fun hc => ?_) (fun hc => ?_)
  · have h := ha hc
    refine AW.aload_n (pc := 14) (x := 0) dX11_arity_14 rfl ?_
    refine AW.getR (pc := 15) (h2 := 1) dX11_arity_15 fg_X11_12 kd_0 hl_0 rfl ?_
    refine AW.getR (pc := 18) (h2 := 3) dX11_arity_18 fg_X11_106 kd_1 hl_1 rfl ?_
    refine AW.iload_n (pc := 21) (x := v1) dX11_arity_21 rfl ?_
    obtain ⟨o, h⟩ := h
    refine AW.iald (pc := 22) dX11_arity_22 kd_3 hl_3 o ?_
    exact AW.iret (st := []) (pc := 23) dX11_arity_23 rfl ⟨_, rfl, h⟩
  · have h := hb hc
    refine AW.bipush (pc := 11) dX11_arity_11 (by decide) ?_
    exact AW.iret (st := []) (pc := 13) dX11_arity_13 rfl ⟨_, rfl, h⟩

set_option maxRecDepth 20000 in
theorem en_X11_binding {M : Mem} {K : Int → Mem → Prop} {v1 : Int} 
    (h : CI mX0_contains [vR 12, vI v1] M (fun r5 M5 => InR r5 ∧ (r5 ≠ 0 → ((0 ≤ v1 ∧ v1 < 100) ∧ InR (M5 16 v1) ∧ ((M5 16 v1) ≠ (-1) → ((0 ≤ v1 ∧ v1 < 100) ∧ K (M5 16 v1) M5)) ∧ (¬ ((M5 16 v1) ≠ (-1)) → (K (-13) M5)))) ∧ (¬ (r5 ≠ 0) → (K (-3) M5)))) :
    CI mX11_binding [vR 0, vI v1] M K := by
  show AW mX11_binding 0 [some (vR 0), some (vI v1)] [] M (QI K)
  refine AW.aload_n (pc := 0) (x := 0) dX11_binding_0 rfl ?_
  refine AW.getR (pc := 1) (h2 := 12) dX11_binding_1 fg_X11_35 kd_0 hl_0 rfl ?_
  refine AW.iload_n (pc := 4) (x := v1) dX11_binding_4 rfl ?_
  refine AW.callV (pc := 5) (As := [vI v1]) (st := []) dX11_binding_5 cl_X11_133 kd_12 hl_12 ⟨Nat.le_of_ble_eq_true rfl, Nat.le_of_ble_eq_true rfl⟩ (Nat.le_of_ble_eq_true rfl) (Nat.le_of_ble_eq_true rfl) h ?_
  rintro _ M5 ⟨r5, rfl, h⟩
  show AW mX11_binding 8 [some (vR 0), some (vI v1)] [vI r5] M5 (QI K)
  obtain ⟨o, ha, hb⟩ := h
  refine AW.if_ne (pc := 8) (tgt := 14) dX11_binding_8 (by decide) o (fun hc => ?_) (fun hc => ?_)
  · have h := ha hc
    refine AW.aload_n (pc := 14) (x := 0) dX11_binding_14 rfl ?_
    refine AW.getR (pc := 15) (h2 := 12) dX11_binding_15 fg_X11_35 kd_0 hl_0 rfl ?_
    refine AW.getR (pc := 18) (h2 := 16) dX11_binding_18 fg_X11_158 kd_12 hl_12 rfl ?_
    refine AW.iload_n (pc := 21) (x := v1) dX11_binding_21 rfl ?_
    obtain ⟨o, h⟩ := h
    refine AW.iald (pc := 22) dX11_binding_22 kd_16 hl_16 o ?_
    refine AW.iconst (pc := 23) dX11_binding_23 ?_
    obtain ⟨o, ha, hb⟩ := h
    refine AW.icmp_ne (pc := 24) (tgt := 32) dX11_binding_24 (by decide) o (by decide) (fun hc => ?_) (fun hc => ?_)
    · have h := ha hc
      refine AW.aload_n (pc := 32) (x := 0) dX11_binding_32 rfl ?_
      refine AW.getR (pc := 33) (h2 := 12) dX11_binding_33 fg_X11_35 kd_0 hl_0 rfl ?_
      refine AW.getR (pc := 36) (h2 := 16) dX11_binding_36 fg_X11_158 kd_12 hl_12 rfl ?_
      refine AW.iload_n (pc := 39) (x := v1) dX11_binding_39 rfl ?_
      obtain ⟨o, h⟩ := h
      refine AW.iald (pc := 40) dX11_binding_40 kd_16 hl_16 o ?_
      exact AW.iret (st := []) (pc := 41) dX11_binding_41 rfl ⟨_, rfl, h⟩
    · have h := hb hc
      refine AW.bipush (pc := 27) dX11_binding_27 (by decide) ?_
      refine AW.goto (pc := 29) (tgt := 41) dX11_binding_29 (by decide) ?_
      exact AW.iret (st := []) (pc := 41) dX11_binding_41 rfl ⟨_, rfl, h⟩
  · have h := hb hc
    refine AW.bipush (pc := 11) dX11_binding_11 (by decide) ?_
    exact AW.iret (st := []) (pc := 13) dX11_binding_13 rfl ⟨_, rfl, h⟩

set_option maxRecDepth 20000 in
theorem en_X11_boundCount {M : Mem} {K : Int → Mem → Prop} 
    (h : CI mX0_countBound [vR 12] M (fun r4 M4 => K r4 M4)) :
    CI mX11_boundCount [vR 0] M K := by
  show AW mX11_boundCount 0 [some (vR 0)] [] M (QI K)
  refine AW.aload_n (pc := 0) (x := 0) dX11_boundCount_0 rfl ?_
  refine AW.getR (pc := 1) (h2 := 12) dX11_boundCount_1 fg_X11_35 kd_0 hl_0 rfl ?_
  refine AW.callV (pc := 4) (As := []) (st := []) dX11_boundCount_4 cl_X11_175 kd_12 hl_12 ⟨Nat.le_of_ble_eq_true rfl, Nat.le_of_ble_eq_true rfl⟩ (Nat.le_of_ble_eq_true rfl) (Nat.le_of_ble_eq_true rfl) h ?_
  rintro _ M4 ⟨r4, rfl, h⟩
  show AW mX11_boundCount 7 [some (vR 0)] [vI r4] M4 (QI K)
  exact AW.iret (st := []) (pc := 7) dX11_boundCount_7 rfl ⟨_, rfl, h⟩

set_option maxRecDepth 20000 in
theorem en_X11_cardinality {M : Mem} {K : Int → Mem → Prop} {v1 : Int} 
    (h : CI mX4_hasType [vR 1, vI v1] M (fun r5 M5 => InR r5 ∧ (r5 ≠ 0 → ((0 ≤ v1 ∧ v1 < 4) ∧ K (M5 7 v1) M5)) ∧ (¬ (r5 ≠ 0) → (K (-1) M5)))) :
    CI mX11_cardinality [vR 0, vI v1] M K := by
  show AW mX11_cardinality 0 [some (vR 0), some (vI v1)] [] M (QI K)
  refine AW.aload_n (pc := 0) (x := 0) dX11_cardinality_0 rfl ?_
  refine AW.getR (pc := 1) (h2 := 1) dX11_cardinality_1 fg_X11_12 kd_0 hl_0 rfl ?_
  refine AW.iload_n (pc := 4) (x := v1) dX11_cardinality_4 rfl ?_
  refine AW.callV (pc := 5) (As := [vI v1]) (st := []) dX11_cardinality_5 cl_X11_84 kd_1 hl_1 ⟨Nat.le_of_ble_eq_true rfl, Nat.le_of_ble_eq_true rfl⟩ (Nat.le_of_ble_eq_true rfl) (Nat.le_of_ble_eq_true rfl) h ?_
  rintro _ M5 ⟨r5, rfl, h⟩
  show AW mX11_cardinality 8 [some (vR 0), some (vI v1)] [vI r5] M5 (QI K)
  obtain ⟨o, ha, hb⟩ := h
  refine AW.if_ne (pc := 8) (tgt := 13) dX11_cardinality_8 (by decide) o (fun hc => ?_) (fun hc => ?_)
  · have h := ha hc
    refine AW.aload_n (pc := 13) (x := 0) dX11_cardinality_13 rfl ?_
    refine AW.getR (pc := 14) (h2 := 5) dX11_cardinality_14 fg_X11_21 kd_0 hl_0 rfl ?_
    refine AW.getR (pc := 17) (h2 := 7) dX11_cardinality_17 fg_X11_113 kd_5 hl_5 rfl ?_
    refine AW.iload_n (pc := 20) (x := v1) dX11_cardinality_20 rfl ?_
    obtain ⟨o, h⟩ := h
    refine AW.iald (pc := 21) dX11_cardinality_21 kd_7 hl_7 o ?_
    exact AW.iret (st := []) (pc := 22) dX11_cardinality_22 rfl ⟨_, rfl, h⟩
  · have h := hb hc
    refine AW.iconst (pc := 11) dX11_cardinality_11 ?_
    exact AW.iret (st := []) (pc := 12) dX11_cardinality_12 rfl ⟨_, rfl, h⟩

set_option maxRecDepth 20000 in
theorem en_X11_child {M : Mem} {K : Int → Mem → Prop} {v1 v2 : Int} 
    (h : CI mX0_contains [vR 12, vI v1] M (fun r5 M5 => InR r5 ∧ (r5 ≠ 0 → (CI mX0_resolve [vR 12, vI v1] M5 (fun r19 M19 => InR v2 ∧ (v2 < 0 → (K (-13) M19)) ∧ (¬ (v2 < 0) → (CI mX0_partTotal [vR 12, vI r19] M19 (fun r33 M33 => (InR v2 ∧ InR r33) ∧ (v2 < r33 → ((0 ≤ ((r19 * 3) + v2) ∧ ((r19 * 3) + v2) < 300) ∧ K (M33 15 ((r19 * 3) + v2)) M33)) ∧ (¬ (v2 < r33) → (K (-13) M33)))))))) ∧ (¬ (r5 ≠ 0) → (K (-3) M5)))) :
    CI mX11_child [vR 0, vI v1, vI v2] M K := by
  show AW mX11_child 0 [some (vR 0), some (vI v1), some (vI v2), none] [] M (QI K)
  refine AW.aload_n (pc := 0) (x := 0) dX11_child_0 rfl ?_
  refine AW.getR (pc := 1) (h2 := 12) dX11_child_1 fg_X11_35 kd_0 hl_0 rfl ?_
  refine AW.iload_n (pc := 4) (x := v1) dX11_child_4 rfl ?_
  refine AW.callV (pc := 5) (As := [vI v1]) (st := []) dX11_child_5 cl_X11_133 kd_12 hl_12 ⟨Nat.le_of_ble_eq_true rfl, Nat.le_of_ble_eq_true rfl⟩ (Nat.le_of_ble_eq_true rfl) (Nat.le_of_ble_eq_true rfl) h ?_
  rintro _ M5 ⟨r5, rfl, h⟩
  show AW mX11_child 8 [some (vR 0), some (vI v1), some (vI v2), none] [vI r5] M5 (QI K)
  obtain ⟨o, ha, hb⟩ := h
  refine AW.if_ne (pc := 8) (tgt := 14) dX11_child_8 (by decide) o (fun hc => ?_) (fun hc => ?_)
  · have h := ha hc
    refine AW.aload_n (pc := 14) (x := 0) dX11_child_14 rfl ?_
    refine AW.getR (pc := 15) (h2 := 12) dX11_child_15 fg_X11_35 kd_0 hl_0 rfl ?_
    refine AW.iload_n (pc := 18) (x := v1) dX11_child_18 rfl ?_
    refine AW.callV (pc := 19) (As := [vI v1]) (st := []) dX11_child_19 cl_X11_143 kd_12 hl_12 ⟨Nat.le_of_ble_eq_true rfl, Nat.le_of_ble_eq_true rfl⟩ (Nat.le_of_ble_eq_true rfl) (Nat.le_of_ble_eq_true rfl) h ?_
    rintro _ M19 ⟨r19, rfl, h⟩
    show AW mX11_child 22 [some (vR 0), some (vI v1), some (vI v2), none] [vI r19] M19 (QI K)
    refine AW.istore_n (pc := 22) (ls2 := [some (vR 0), some (vI v1), some (vI v2), some (vI r19)]) dX11_child_22 (by decide) rfl ?_
    refine AW.iload_n (pc := 23) (x := v2) dX11_child_23 rfl ?_
    obtain ⟨o, ha, hb⟩ := h
    refine AW.if_lt (pc := 24) (tgt := 39) dX11_child_24 (by decide) o (fun hc => ?_) (fun hc => ?_)
    · have h := ha hc
      refine AW.bipush (pc := 39) dX11_child_39 (by decide) ?_
      exact AW.iret (st := []) (pc := 41) dX11_child_41 rfl ⟨_, rfl, h⟩
    · have h := hb hc
      refine AW.iload_n (pc := 27) (x := v2) dX11_child_27 rfl ?_
      refine AW.aload_n (pc := 28) (x := 0) dX11_child_28 rfl ?_
      refine AW.getR (pc := 29) (h2 := 12) dX11_child_29 fg_X11_35 kd_0 hl_0 rfl ?_
      refine AW.iload_n (pc := 32) (x := r19) dX11_child_32 rfl ?_
      refine AW.callV (pc := 33) (As := [vI r19]) (st := [vI v2]) dX11_child_33 cl_X11_152 kd_12 hl_12 ⟨Nat.le_of_ble_eq_true rfl, Nat.le_of_ble_eq_true rfl⟩ (Nat.le_of_ble_eq_true rfl) (Nat.le_of_ble_eq_true rfl) h ?_
      rintro _ M33 ⟨r33, rfl, h⟩
      show AW mX11_child 36 [some (vR 0), some (vI v1), some (vI v2), some (vI r19)] [vI r33, vI v2] M33 (QI K)
      obtain ⟨o, ha, hb⟩ := h
      refine AW.icmp_lt (pc := 36) (tgt := 42) dX11_child_36 (by decide) o.1 o.2 (fun hc => ?_) (fun hc => ?_)
      · have h := ha hc
        refine AW.aload_n (pc := 42) (x := 0) dX11_child_42 rfl ?_
        refine AW.getR (pc := 43) (h2 := 12) dX11_child_43 fg_X11_35 kd_0 hl_0 rfl ?_
        refine AW.getR (pc := 46) (h2 := 15) dX11_child_46 fg_X11_155 kd_12 hl_12 rfl ?_
        refine AW.iload_n (pc := 49) (x := r19) dX11_child_49 rfl ?_
        refine AW.iconst (pc := 50) dX11_child_50 ?_
        refine AW.imul (pc := 51) dX11_child_51 ?_
        refine AW.iload_n (pc := 52) (x := v2) dX11_child_52 rfl ?_
        refine AW.iadd (pc := 53) dX11_child_53 ?_
        obtain ⟨o, h⟩ := h
        refine AW.iald (pc := 54) dX11_child_54 kd_15 hl_15 o ?_
        exact AW.iret (st := []) (pc := 55) dX11_child_55 rfl ⟨_, rfl, h⟩
      · have h := hb hc
        refine AW.bipush (pc := 39) dX11_child_39 (by decide) ?_
        exact AW.iret (st := []) (pc := 41) dX11_child_41 rfl ⟨_, rfl, h⟩
  · have h := hb hc
    refine AW.bipush (pc := 11) dX11_child_11 (by decide) ?_
    exact AW.iret (st := []) (pc := 13) dX11_child_13 rfl ⟨_, rfl, h⟩

set_option maxRecDepth 20000 in
theorem en_X11_clearRows {M : Mem} {K : Int → Mem → Prop} 
    (h : K (M 43 1) (up M 43 1 0)) :
    CI mX11_clearRows [vR 0] M K := by
  show AW mX11_clearRows 0 [some (vR 0), none] [] M (QI K)
  refine AW.aload_n (pc := 0) (x := 0) dX11_clearRows_0 rfl ?_
  refine AW.getR (pc := 1) (h2 := 43) dX11_clearRows_1 fg_X11_76 kd_0 hl_0 rfl ?_
  refine AW.getI (pc := 4) dX11_clearRows_4 fg_X11_193 kd_43 hl_43 rfl ?_
  refine AW.istore_n (pc := 7) (ls2 := [some (vR 0), some (vI (M 43 1))]) dX11_clearRows_7 (by decide) rfl ?_
  refine AW.aload_n (pc := 8) (x := 0) dX11_clearRows_8 rfl ?_
  refine AW.getR (pc := 9) (h2 := 43) dX11_clearRows_9 fg_X11_76 kd_0 hl_0 rfl ?_
  refine AW.iconst (pc := 12) dX11_clearRows_12 ?_
  refine AW.put (pc := 13) dX11_clearRows_13 fp_X11_193 kd_43 hl_43 rfl ?_
  refine AW.iload_n (pc := 16) (x := (M 43 1)) dX11_clearRows_16 rfl ?_
  exact AW.iret (st := []) (pc := 17) dX11_clearRows_17 rfl ⟨_, rfl, h⟩

set_option maxRecDepth 20000 in
theorem en_X11_count {M : Mem} {K : Int → Mem → Prop} {v1 v2 : Int} 
    (h : CI mX4_hasType [vR 1, vI v1] M (fun r5 M5 => InR r5 ∧ (r5 ≠ 0 → (InR v2 ∧ (v2 < 1 → (K (-4) M5)) ∧ (¬ (v2 < 1) → (InR v2 ∧ (v2 ≤ 12 → (CI mX8_countOf [vR 8, vI v1, vI v2] M5 (fun r33 M33 => K r33 M33))) ∧ (¬ (v2 ≤ 12) → (K (-4) M5)))))) ∧ (¬ (r5 ≠ 0) → (K (-1) M5)))) :
    CI mX11_count [vR 0, vI v1, vI v2] M K := by
  show AW mX11_count 0 [some (vR 0), some (vI v1), some (vI v2)] [] M (QI K)
  refine AW.aload_n (pc := 0) (x := 0) dX11_count_0 rfl ?_
  refine AW.getR (pc := 1) (h2 := 1) dX11_count_1 fg_X11_12 kd_0 hl_0 rfl ?_
  refine AW.iload_n (pc := 4) (x := v1) dX11_count_4 rfl ?_
  refine AW.callV (pc := 5) (As := [vI v1]) (st := []) dX11_count_5 cl_X11_84 kd_1 hl_1 ⟨Nat.le_of_ble_eq_true rfl, Nat.le_of_ble_eq_true rfl⟩ (Nat.le_of_ble_eq_true rfl) (Nat.le_of_ble_eq_true rfl) h ?_
  rintro _ M5 ⟨r5, rfl, h⟩
  show AW mX11_count 8 [some (vR 0), some (vI v1), some (vI v2)] [vI r5] M5 (QI K)
  obtain ⟨o, ha, hb⟩ := h
  refine AW.if_ne (pc := 8) (tgt := 13) dX11_count_8 (by decide) o (fun hc => ?_) (fun hc => ?_)
  · have h := ha hc
    refine AW.iload_n (pc := 13) (x := v2) dX11_count_13 rfl ?_
    refine AW.iconst (pc := 14) dX11_count_14 ?_
    obtain ⟨o, ha, hb⟩ := h
    refine AW.icmp_lt (pc := 15) (tgt := 24) dX11_count_15 (by decide) o (by decide) (fun hc => ?_) (fun hc => ?_)
    · have h := ha hc
      refine AW.bipush (pc := 24) dX11_count_24 (by decide) ?_
      exact AW.iret (st := []) (pc := 26) dX11_count_26 rfl ⟨_, rfl, h⟩
    · have h := hb hc
      refine AW.iload_n (pc := 18) (x := v2) dX11_count_18 rfl ?_
      refine AW.bipush (pc := 19) dX11_count_19 (by decide) ?_
      obtain ⟨o, ha, hb⟩ := h
      refine AW.icmp_le (pc := 21) (tgt := 27) dX11_count_21 (by decide) o (by decide) (fun hc => ?_) (fun hc => ?_)
      · have h := ha hc
        refine AW.aload_n (pc := 27) (x := 0) dX11_count_27 rfl ?_
        refine AW.getR (pc := 28) (h2 := 8) dX11_count_28 fg_X11_28 kd_0 hl_0 rfl ?_
        refine AW.iload_n (pc := 31) (x := v1) dX11_count_31 rfl ?_
        refine AW.iload_n (pc := 32) (x := v2) dX11_count_32 rfl ?_
        refine AW.callV (pc := 33) (As := [vI v1, vI v2]) (st := []) dX11_count_33 cl_X11_119 kd_8 hl_8 ⟨Nat.le_of_ble_eq_true rfl, Nat.le_of_ble_eq_true rfl⟩ (Nat.le_of_ble_eq_true rfl) (Nat.le_of_ble_eq_true rfl) h ?_
        rintro _ M33 ⟨r33, rfl, h⟩
        show AW mX11_count 36 [some (vR 0), some (vI v1), some (vI v2)] [vI r33] M33 (QI K)
        exact AW.iret (st := []) (pc := 36) dX11_count_36 rfl ⟨_, rfl, h⟩
      · have h := hb hc
        refine AW.bipush (pc := 24) dX11_count_24 (by decide) ?_
        exact AW.iret (st := []) (pc := 26) dX11_count_26 rfl ⟨_, rfl, h⟩
  · have h := hb hc
    refine AW.iconst (pc := 11) dX11_count_11 ?_
    exact AW.iret (st := []) (pc := 12) dX11_count_12 rfl ⟨_, rfl, h⟩

set_option maxRecDepth 20000 in
theorem en_X11_countFirstFitting {M : Mem} {K : Int → Mem → Prop} {v1 v2 : Int} 
    (h : InR v2 ∧ (v2 < 1 → (K (-4) M)) ∧ (¬ (v2 < 1) → (InR v2 ∧ (v2 ≤ 8 → (CI mX2_subjectType [vR 43] M (fun r22 M22 => CI mX8_countOf [vR 8, vI r22, vI v2] M22 (fun r26 M26 => InR r26 ∧ (r26 ≤ 2000 → (AW mX11_countFirstFitting 46 [some (vR 0), some (vI v1), some (vI v2), some (vI r26), some (vI 0), some (vI 0)] [] M26 (QI K))) ∧ (¬ (r26 ≤ 2000) → (K (-10) M26)))))) ∧ (¬ (v2 ≤ 8) → (K (-4) M))))) :
    CI mX11_countFirstFitting [vR 0, vI v1, vI v2] M K := by
  show AW mX11_countFirstFitting 0 [some (vR 0), some (vI v1), some (vI v2), none, none, none] [] M (QI K)
  refine AW.iload_n (pc := 0) (x := v2) dX11_countFirstFitting_0 rfl ?_
  refine AW.iconst (pc := 1) dX11_countFirstFitting_1 ?_
  obtain ⟨o, ha, hb⟩ := h
  refine AW.icmp_lt (pc := 2) (tgt := 11) dX11_countFirstFitting_2 (by decide) o (by decide) (fun hc => ?_) (fun hc => ?_)
  · have h := ha hc
    refine AW.bipush (pc := 11) dX11_countFirstFitting_11 (by decide) ?_
    exact AW.iret (st := []) (pc := 13) dX11_countFirstFitting_13 rfl ⟨_, rfl, h⟩
  · have h := hb hc
    refine AW.iload_n (pc := 5) (x := v2) dX11_countFirstFitting_5 rfl ?_
    refine AW.bipush (pc := 6) dX11_countFirstFitting_6 (by decide) ?_
    obtain ⟨o, ha, hb⟩ := h
    refine AW.icmp_le (pc := 8) (tgt := 14) dX11_countFirstFitting_8 (by decide) o (by decide) (fun hc => ?_) (fun hc => ?_)
    · have h := ha hc
      refine AW.aload_n (pc := 14) (x := 0) dX11_countFirstFitting_14 rfl ?_
      refine AW.getR (pc := 15) (h2 := 8) dX11_countFirstFitting_15 fg_X11_28 kd_0 hl_0 rfl ?_
      refine AW.aload_n (pc := 18) (x := 0) dX11_countFirstFitting_18 rfl ?_
      refine AW.getR (pc := 19) (h2 := 43) dX11_countFirstFitting_19 fg_X11_76 kd_0 hl_0 rfl ?_
      refine AW.callV (pc := 22) (As := []) (st := [vR 8]) dX11_countFirstFitting_22 cl_X11_194 kd_43 hl_43 ⟨Nat.le_of_ble_eq_true rfl, Nat.le_of_ble_eq_true rfl⟩ (Nat.le_of_ble_eq_true rfl) (Nat.le_of_ble_eq_true rfl) h ?_
      rintro _ M22 ⟨r22, rfl, h⟩
      show AW mX11_countFirstFitting 25 [some (vR 0), some (vI v1), some (vI v2), none, none, none] [vI r22, vR 8] M22 (QI K)
      refine AW.iload_n (pc := 25) (x := v2) dX11_countFirstFitting_25 rfl ?_
      refine AW.callV (pc := 26) (As := [vI r22, vI v2]) (st := []) dX11_countFirstFitting_26 cl_X11_119 kd_8 hl_8 ⟨Nat.le_of_ble_eq_true rfl, Nat.le_of_ble_eq_true rfl⟩ (Nat.le_of_ble_eq_true rfl) (Nat.le_of_ble_eq_true rfl) h ?_
      rintro _ M26 ⟨r26, rfl, h⟩
      show AW mX11_countFirstFitting 29 [some (vR 0), some (vI v1), some (vI v2), none, none, none] [vI r26] M26 (QI K)
      refine AW.istore_n (pc := 29) (ls2 := [some (vR 0), some (vI v1), some (vI v2), some (vI r26), none, none]) dX11_countFirstFitting_29 (by decide) rfl ?_
      refine AW.iload_n (pc := 30) (x := r26) dX11_countFirstFitting_30 rfl ?_
      refine AW.sipush (pc := 31) dX11_countFirstFitting_31 (by decide) ?_
      obtain ⟨o, ha, hb⟩ := h
      refine AW.icmp_le (pc := 34) (tgt := 40) dX11_countFirstFitting_34 (by decide) o (by decide) (fun hc => ?_) (fun hc => ?_)
      · have h := ha hc
        refine AW.iconst (pc := 40) dX11_countFirstFitting_40 ?_
        refine AW.istore (pc := 41) (ls2 := [some (vR 0), some (vI v1), some (vI v2), some (vI r26), some (vI 0), none]) dX11_countFirstFitting_41 (by decide) rfl ?_
        refine AW.iconst (pc := 43) dX11_countFirstFitting_43 ?_
        refine AW.istore (pc := 44) (ls2 := [some (vR 0), some (vI v1), some (vI v2), some (vI r26), some (vI 0), some (vI 0)]) dX11_countFirstFitting_44 (by decide) rfl ?_
        exact h
      · have h := hb hc
        refine AW.bipush (pc := 37) dX11_countFirstFitting_37 (by decide) ?_
        exact AW.iret (st := []) (pc := 39) dX11_countFirstFitting_39 rfl ⟨_, rfl, h⟩
    · have h := hb hc
      refine AW.bipush (pc := 11) dX11_countFirstFitting_11 (by decide) ?_
      exact AW.iret (st := []) (pc := 13) dX11_countFirstFitting_13 rfl ⟨_, rfl, h⟩

set_option maxRecDepth 20000 in
theorem sg_X11_countFirstFitting_46 {M : Mem} {K : Int → Mem → Prop} {v1 v2 v3 v4 v5 : Int} 
    (h : (InR v5 ∧ InR v3) ∧ (v5 ≥ v3 → (K v4 M)) ∧ (¬ (v5 ≥ v3) → (CI mX8_keyOf [vI v2, vI v5] M (fun r63 M63 => CI mX2_firstFitting [vR 43, vR 8, vI r63] M63 (fun r66 M66 => (InR r66 ∧ InR v1) ∧ (r66 ≠ v1 → (AW mX11_countFirstFitting 76 [some (vR 0), some (vI v1), some (vI v2), some (vI v3), some (vI v4), some (vI v5)] [] M66 (QI K))) ∧ (¬ (r66 ≠ v1) → (AW mX11_countFirstFitting 76 [some (vR 0), some (vI v1), some (vI v2), some (vI v3), some (vI (v4 + 1)), some (vI v5)] [] M66 (QI K)))))))) :
    AW mX11_countFirstFitting 46 [some (vR 0), some (vI v1), some (vI v2), some (vI v3), some (vI v4), some (vI v5)] [] M (QI K) := by
  refine AW.iload (pc := 46) (x := v5) dX11_countFirstFitting_46 rfl ?_
  refine AW.iload_n (pc := 48) (x := v3) dX11_countFirstFitting_48 rfl ?_
  obtain ⟨o, ha, hb⟩ := h
  refine AW.icmp_ge (pc := 49) (tgt := 82) dX11_countFirstFitting_49 (by decide) o.1 o.2 (fun hc => ?_) (fun hc => ?_)
  · have h := ha hc
    refine AW.iload (pc := 82) (x := v4) dX11_countFirstFitting_82 rfl ?_
    exact AW.iret (st := []) (pc := 84) dX11_countFirstFitting_84 rfl ⟨_, rfl, h⟩
  · have h := hb hc
    refine AW.aload_n (pc := 52) (x := 0) dX11_countFirstFitting_52 rfl ?_
    refine AW.getR (pc := 53) (h2 := 43) dX11_countFirstFitting_53 fg_X11_76 kd_0 hl_0 rfl ?_
    refine AW.aload_n (pc := 56) (x := 0) dX11_countFirstFitting_56 rfl ?_
    refine AW.getR (pc := 57) (h2 := 8) dX11_countFirstFitting_57 fg_X11_28 kd_0 hl_0 rfl ?_
    refine AW.iload_n (pc := 60) (x := v2) dX11_countFirstFitting_60 rfl ?_
    refine AW.iload (pc := 61) (x := v5) dX11_countFirstFitting_61 rfl ?_
    refine AW.callS (pc := 63) (As := [vI v2, vI v5]) (st := [vR 8, vR 43]) dX11_countFirstFitting_63 cl_X11_213 ⟨Nat.le_of_ble_eq_true rfl, Nat.le_of_ble_eq_true rfl⟩ (Nat.le_of_ble_eq_true rfl) (Nat.le_of_ble_eq_true rfl) h ?_
    rintro _ M63 ⟨r63, rfl, h⟩
    show AW mX11_countFirstFitting 66 [some (vR 0), some (vI v1), some (vI v2), some (vI v3), some (vI v4), some (vI v5)] [vI r63, vR 8, vR 43] M63 (QI K)
    refine AW.callV (pc := 66) (As := [vR 8, vI r63]) (st := []) dX11_countFirstFitting_66 cl_X11_203 kd_43 hl_43 ⟨Nat.le_of_ble_eq_true rfl, Nat.le_of_ble_eq_true rfl⟩ (Nat.le_of_ble_eq_true rfl) (Nat.le_of_ble_eq_true rfl) h ?_
    rintro _ M66 ⟨r66, rfl, h⟩
    show AW mX11_countFirstFitting 69 [some (vR 0), some (vI v1), some (vI v2), some (vI v3), some (vI v4), some (vI v5)] [vI r66] M66 (QI K)
    refine AW.iload_n (pc := 69) (x := v1) dX11_countFirstFitting_69 rfl ?_
    obtain ⟨o, ha, hb⟩ := h
    refine AW.icmp_ne (pc := 70) (tgt := 76) dX11_countFirstFitting_70 (by decide) o.1 o.2 (fun hc => ?_) (fun hc => ?_)
    · have h := ha hc
      exact h
    · have h := hb hc
      refine AW.iinc (pc := 73) (x := v4) (ls2 := [some (vR 0), some (vI v1), some (vI v2), some (vI v3), some (vI (v4 + 1)), some (vI v5)]) dX11_countFirstFitting_73 rfl (by decide) rfl ?_
      exact h

set_option maxRecDepth 20000 in
theorem sg_X11_countFirstFitting_76 {M : Mem} {K : Int → Mem → Prop} {v1 v2 v3 v4 v5 : Int} 
    (h : AW mX11_countFirstFitting 46 [some (vR 0), some (vI v1), some (vI v2), some (vI v3), some (vI v4), some (vI (v5 + 1))] [] M (QI K)) :
    AW mX11_countFirstFitting 76 [some (vR 0), some (vI v1), some (vI v2), some (vI v3), some (vI v4), some (vI v5)] [] M (QI K) := by
  refine AW.iinc (pc := 76) (x := v5) (ls2 := [some (vR 0), some (vI v1), some (vI v2), some (vI v3), some (vI v4), some (vI (v5 + 1))]) dX11_countFirstFitting_76 rfl (by decide) rfl ?_
  refine AW.goto (pc := 79) (tgt := 46) dX11_countFirstFitting_79 (by decide) ?_
  exact h

set_option maxRecDepth 20000 in
theorem en_X11_coveredBy {M : Mem} {K : Int → Mem → Prop} {v1 v2 : Int} 
    (h : InR (M 43 1) ∧ ((M 43 1) ≠ 0 → (InR v1 ∧ (v1 < 0 → (K (-4) M)) ∧ (¬ (v1 < 0) → ((InR v1 ∧ InR (M 43 1)) ∧ (v1 < (M 43 1) → (CI mX11_countFirstFitting [vR 0, vI v1, vI v2] M (fun r34 M34 => K r34 M34))) ∧ (¬ (v1 < (M 43 1)) → (K (-4) M)))))) ∧ (¬ ((M 43 1) ≠ 0) → (K (-11) M))) :
    CI mX11_coveredBy [vR 0, vI v1, vI v2] M K := by
  show AW mX11_coveredBy 0 [some (vR 0), some (vI v1), some (vI v2)] [] M (QI K)
  refine AW.aload_n (pc := 0) (x := 0) dX11_coveredBy_0 rfl ?_
  refine AW.getR (pc := 1) (h2 := 43) dX11_coveredBy_1 fg_X11_76 kd_0 hl_0 rfl ?_
  refine AW.getI (pc := 4) dX11_coveredBy_4 fg_X11_193 kd_43 hl_43 rfl ?_
  obtain ⟨o, ha, hb⟩ := h
  refine AW.if_ne (pc := 7) (tgt := 13) dX11_coveredBy_7 (by decide) o (fun hc => ?_) (fun hc => ?_)
  · have h := ha hc
    refine AW.iload_n (pc := 13) (x := v1) dX11_coveredBy_13 rfl ?_
    obtain ⟨o, ha, hb⟩ := h
    refine AW.if_lt (pc := 14) (tgt := 28) dX11_coveredBy_14 (by decide) o (fun hc => ?_) (fun hc => ?_)
    · have h := ha hc
      refine AW.bipush (pc := 28) dX11_coveredBy_28 (by decide) ?_
      exact AW.iret (st := []) (pc := 30) dX11_coveredBy_30 rfl ⟨_, rfl, h⟩
    · have h := hb hc
      refine AW.iload_n (pc := 17) (x := v1) dX11_coveredBy_17 rfl ?_
      refine AW.aload_n (pc := 18) (x := 0) dX11_coveredBy_18 rfl ?_
      refine AW.getR (pc := 19) (h2 := 43) dX11_coveredBy_19 fg_X11_76 kd_0 hl_0 rfl ?_
      refine AW.getI (pc := 22) dX11_coveredBy_22 fg_X11_193 kd_43 hl_43 rfl ?_
      obtain ⟨o, ha, hb⟩ := h
      refine AW.icmp_lt (pc := 25) (tgt := 31) dX11_coveredBy_25 (by decide) o.1 o.2 (fun hc => ?_) (fun hc => ?_)
      · have h := ha hc
        refine AW.aload_n (pc := 31) (x := 0) dX11_coveredBy_31 rfl ?_
        refine AW.iload_n (pc := 32) (x := v1) dX11_coveredBy_32 rfl ?_
        refine AW.iload_n (pc := 33) (x := v2) dX11_coveredBy_33 rfl ?_
        refine AW.callV (pc := 34) (As := [vI v1, vI v2]) (st := []) dX11_coveredBy_34 cl_X11_207 kd_0 hl_0 ⟨Nat.le_of_ble_eq_true rfl, Nat.le_of_ble_eq_true rfl⟩ (Nat.le_of_ble_eq_true rfl) (Nat.le_of_ble_eq_true rfl) h ?_
        rintro _ M34 ⟨r34, rfl, h⟩
        show AW mX11_coveredBy 37 [some (vR 0), some (vI v1), some (vI v2)] [vI r34] M34 (QI K)
        exact AW.iret (st := []) (pc := 37) dX11_coveredBy_37 rfl ⟨_, rfl, h⟩
      · have h := hb hc
        refine AW.bipush (pc := 28) dX11_coveredBy_28 (by decide) ?_
        exact AW.iret (st := []) (pc := 30) dX11_coveredBy_30 rfl ⟨_, rfl, h⟩
  · have h := hb hc
    refine AW.bipush (pc := 10) dX11_coveredBy_10 (by decide) ?_
    exact AW.iret (st := []) (pc := 12) dX11_coveredBy_12 rfl ⟨_, rfl, h⟩

