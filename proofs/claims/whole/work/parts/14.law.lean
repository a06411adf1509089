set_option maxRecDepth 20000 in
set_option maxHeartbeats 4000000 in
theorem sg_L_law_16 {M : Mem} {n : Nat} {xs : Nat → Int} {K : Int → Mem → Prop} 
    (h : AW (mL_law n xs) 18 [some (vR 85), some (vR 0), some (vR 50), some (vI 0)] [] M (QI K)) :
    AW (mL_law n xs) 16 [some (vR 85), some (vR 0), some (vR 50), none] [] M (QI K) := by
  refine AW.iconst (pc := 16) dL_law_16 ?_
  refine AW.istore_n (pc := 17) (ls2 := [some (vR 85), some (vR 0), some (vR 50), some (vI 0)]) dL_law_17 (Nat.le_of_ble_eq_true rfl) rfl ?_
  exact h

set_option maxRecDepth 20000 in
set_option maxHeartbeats 4000000 in
theorem sg_L_law_18 {M : Mem} {n : Nat} {xs : Nat → Int} {K : Int → Mem → Prop} {v3 : Int} 
    (h : (InR v3 ∧ InR ((n : Int) - 6)) ∧ (v3 > ((n : Int) - 6) → (K 1 M)) ∧ (¬ (v3 > ((n : Int) - 6)) → ((0 ≤ v3 ∧ v3 < (n : Int)) ∧ InR (Int32.ofInt (xs (v3).toNat) &&& Int32.ofInt 31).toInt ∧ ((Int32.ofInt (xs (v3).toNat) &&& Int32.ofInt 31).toInt = 0 → (CI mX11_addType [vR 0] M (fun r169 M169 => CI mX12_addType [vR 50] M169 (fun r173 M173 => (InR r169 ∧ InR r173) ∧ (r169 = r173 → (AW (mL_law n xs) 938 [some (vR 85), some (vR 0), some (vR 50), some (vI v3)] [] M173 (QI K))) ∧ (¬ (r169 = r173) → (K 0 M173)))))) ∧ ((Int32.ofInt (xs (v3).toNat) &&& Int32.ofInt 31).toInt = 1 → ((0 ≤ (v3 + 1) ∧ (v3 + 1) < (n : Int)) ∧ (0 ≤ (v3 + 2) ∧ (v3 + 2) < (n : Int)) ∧ (0 ≤ (v3 + 3) ∧ (v3 + 3) < (n : Int)) ∧ (0 ≤ (v3 + 4) ∧ (v3 + 4) < (n : Int)) ∧ (0 ≤ (v3 + 5) ∧ (v3 + 5) < (n : Int)) ∧ CI mX11_addConstructor [vR 0, vI (xs ((v3 + 1)).toNat), vI (xs ((v3 + 2)).toNat), vI (xs ((v3 + 3)).toNat), vI (xs ((v3 + 4)).toNat), vI (xs ((v3 + 5)).toNat)] M (fun r207 M207 => (0 ≤ (v3 + 1) ∧ (v3 + 1) < (n : Int)) ∧ (0 ≤ (v3 + 2) ∧ (v3 + 2) < (n : Int)) ∧ (0 ≤ (v3 + 3) ∧ (v3 + 3) < (n : Int)) ∧ (0 ≤ (v3 + 4) ∧ (v3 + 4) < (n : Int)) ∧ (0 ≤ (v3 + 5) ∧ (v3 + 5) < (n : Int)) ∧ CI mX12_addConstructor [vR 50, vI (xs ((v3 + 1)).toNat), vI (xs ((v3 + 2)).toNat), vI (xs ((v3 + 3)).toNat), vI (xs ((v3 + 4)).toNat), vI (xs ((v3 + 5)).toNat)] M207 (fun r236 M236 => (InR r207 ∧ InR r236) ∧ (r207 = r236 → (AW (mL_law n xs) 938 [some (vR 85), some (vR 0), some (vR 50), some (vI v3)] [] M236 (QI K))) ∧ (¬ (r207 = r236) → (K 0 M236)))))) ∧ ((Int32.ofInt (xs (v3).toNat) &&& Int32.ofInt 31).toInt = 2 → ((0 ≤ (v3 + 1) ∧ (v3 + 1) < (n : Int)) ∧ CI mX11_resultType [vR 0, vI (xs ((v3 + 1)).toNat)] M (fun r250 M250 => (0 ≤ (v3 + 1) ∧ (v3 + 1) < (n : Int)) ∧ CI mX12_resultType [vR 50, vI (xs ((v3 + 1)).toNat)] M250 (fun r259 M259 => (InR r250 ∧ InR r259) ∧ (r250 = r259 → (AW (mL_law n xs) 938 [some (vR 85), some (vR 0), some (vR 50), some (vI v3)] [] M259 (QI K))) ∧ (¬ (r250 = r259) → (K 0 M259)))))) ∧ ((Int32.ofInt (xs (v3).toNat) &&& Int32.ofInt 31).toInt = 3 → ((0 ≤ (v3 + 1) ∧ (v3 + 1) < (n : Int)) ∧ CI mX11_arity [vR 0, vI (xs ((v3 + 1)).toNat)] M (fun r273 M273 => (0 ≤ (v3 + 1) ∧ (v3 + 1) < (n : Int)) ∧ CI mX12_arity [vR 50, vI (xs ((v3 + 1)).toNat)] M273 (fun r282 M282 => (InR r273 ∧ InR r282) ∧ (r273 = r282 → (AW (mL_law n xs) 938 [some (vR 85), some (vR 0), some (vR 50), some (vI v3)] [] M282 (QI K))) ∧ (¬ (r273 = r282) → (K 0 M282)))))) ∧ ((Int32.ofInt (xs (v3).toNat) &&& Int32.ofInt 31).toInt = 4 → ((0 ≤ (v3 + 1) ∧ (v3 + 1) < (n : Int)) ∧ (0 ≤ (v3 + 2) ∧ (v3 + 2) < (n : Int)) ∧ CI mX11_argumentType [vR 0, vI (xs ((v3 + 1)).toNat), vI (xs ((v3 + 2)).toNat)] M (fun r301 M301 => (0 ≤ (v3 + 1) ∧ (v3 + 1) < (n : Int)) ∧ (0 ≤ (v3 + 2) ∧ (v3 + 2) < (n : Int)) ∧ CI mX12_argumentType [vR 50, vI (xs ((v3 + 1)).toNat), vI (xs ((v3 + 2)).toNat)] M301 (fun r315 M315 => (InR r301 ∧ InR r315) ∧ (r301 = r315 → (AW (mL_law n xs) 938 [some (vR 85), some (vR 0), some (vR 50), some (vI v3)] [] M315 (QI K))) ∧ (¬ (r301 = r315) → (K 0 M315)))))) ∧ ((Int32.ofInt (xs (v3).toNat) &&& Int32.ofInt 31).toInt = 5 → ((0 ≤ (v3 + 1) ∧ (v3 + 1) < (n : Int)) ∧ CI mX11_cardinality [vR 0, vI (xs ((v3 + 1)).toNat)] M (fun r329 M329 => (0 ≤ (v3 + 1) ∧ (v3 + 1) < (n : Int)) ∧ CI mX12_cardinality [vR 50, vI (xs ((v3 + 1)).toNat)] M329 (fun r338 M338 => (InR r329 ∧ InR r338) ∧ (r329 = r338 → (AW (mL_law n xs) 938 [some (vR 85), some (vR 0), some (vR 50), some (vI v3)] [] M338 (QI K))) ∧ (¬ (r329 = r338) → (K 0 M338)))))) ∧ ((Int32.ofInt (xs (v3).toNat) &&& Int32.ofInt 31).toInt = 6 → ((0 ≤ (v3 + 1) ∧ (v3 + 1) < (n : Int)) ∧ CI mX11_smallestSize [vR 0, vI (xs ((v3 + 1)).toNat)] M (fun r352 M352 => (0 ≤ (v3 + 1) ∧ (v3 + 1) < (n : Int)) ∧ CI mX12_smallestSize [vR 50, vI (xs ((v3 + 1)).toNat)] M352 (fun r361 M361 => (InR r352 ∧ InR r361) ∧ (r352 = r361 → (AW (mL_law n xs) 938 [some (vR 85), some (vR 0), some (vR 50), some (vI v3)] [] M361 (QI K))) ∧ (¬ (r352 = r361) → (K 0 M361)))))) ∧ ((Int32.ofInt (xs (v3).toNat) &&& Int32.ofInt 31).toInt = 7 → ((0 ≤ (v3 + 1) ∧ (v3 + 1) < (n : Int)) ∧ (0 ≤ (v3 + 2) ∧ (v3 + 2) < (n : Int)) ∧ CI mX11_count [vR 0, vI (xs ((v3 + 1)).toNat), vI (xs ((v3 + 2)).toNat)] M (fun r380 M380 => (0 ≤ (v3 + 1) ∧ (v3 + 1) < (n : Int)) ∧ (0 ≤ (v3 + 2) ∧ (v3 + 2) < (n : Int)) ∧ CI mX12_count [vR 50, vI (xs ((v3 + 1)).toNat), vI (xs ((v3 + 2)).toNat)] M380 (fun r394 M394 => (InR r380 ∧ InR r394) ∧ (r380 = r394 → (AW (mL_law n xs) 938 [some (vR 85), some (vR 0), some (vR 50), some (vI v3)] [] M394 (QI K))) ∧ (¬ (r380 = r394) → (K 0 M394)))))) ∧ ((Int32.ofInt (xs (v3).toNat) &&& Int32.ofInt 31).toInt = 8 → ((0 ≤ (v3 + 1) ∧ (v3 + 1) < (n : Int)) ∧ (0 ≤ (v3 + 2) ∧ (v3 + 2) < (n : Int)) ∧ (0 ≤ (v3 + 3) ∧ (v3 + 3) < (n : Int)) ∧ CI mX11_value [vR 0, vI (xs ((v3 + 1)).toNat), vI (xs ((v3 + 2)).toNat), vI (xs ((v3 + 3)).toNat)] M (fun r418 M418 => (0 ≤ (v3 + 1) ∧ (v3 + 1) < (n : Int)) ∧ (0 ≤ (v3 + 2) ∧ (v3 + 2) < (n : Int)) ∧ (0 ≤ (v3 + 3) ∧ (v3 + 3) < (n : Int)) ∧ CI mX12_value [vR 50, vI (xs ((v3 + 1)).toNat), vI (xs ((v3 + 2)).toNat), vI (xs ((v3 + 3)).toNat)] M418 (fun r437 M437 => (InR r418 ∧ InR r437) ∧ (r418 = r437 → (AW (mL_law n xs) 938 [some (vR 85), some (vR 0), some (vR 50), some (vI v3)] [] M437 (QI K))) ∧ (¬ (r418 = r437) → (K 0 M437)))))) ∧ ((Int32.ofInt (xs (v3).toNat) &&& Int32.ofInt 31).toInt = 9 → ((0 ≤ (v3 + 1) ∧ (v3 + 1) < (n : Int)) ∧ CI mX11_variable [vR 0, vI (xs ((v3 + 1)).toNat)] M (fun r451 M451 => (0 ≤ (v3 + 1) ∧ (v3 + 1) < (n : Int)) ∧ CI mX12_variable [vR 50, vI (xs ((v3 + 1)).toNat)] M451 (fun r460 M460 => (InR r451 ∧ InR r460) ∧ (r451 = r460 → (AW (mL_law n xs) 938 [some (vR 85), some (vR 0), some (vR 50), some (vI v3)] [] M460 (QI K))) ∧ (¬ (r451 = r460) → (K 0 M460)))))) ∧ ((Int32.ofInt (xs (v3).toNat) &&& Int32.ofInt 31).toInt = 10 → ((0 ≤ (v3 + 1) ∧ (v3 + 1) < (n : Int)) ∧ (0 ≤ (v3 + 2) ∧ (v3 + 2) < (n : Int)) ∧ (0 ≤ (v3 + 3) ∧ (v3 + 3) < (n : Int)) ∧ (0 ≤ (v3 + 4) ∧ (v3 + 4) < (n : Int)) ∧ CI mX11_term [vR 0, vI (xs ((v3 + 1)).toNat), vI (xs ((v3 + 2)).toNat), vI (xs ((v3 + 3)).toNat), vI (xs ((v3 + 4)).toNat)] M (fun r489 M489 => (0 ≤ (v3 + 1) ∧ (v3 + 1) < (n : Int)) ∧ (0 ≤ (v3 + 2) ∧ (v3 + 2) < (n : Int)) ∧ (0 ≤ (v3 + 3) ∧ (v3 + 3) < (n : Int)) ∧ (0 ≤ (v3 + 4) ∧ (v3 + 4) < (n : Int)) ∧ CI mX12_term [vR 50, vI (xs ((v3 + 1)).toNat), vI (xs ((v3 + 2)).toNat), vI (xs ((v3 + 3)).toNat), vI (xs ((v3 + 4)).toNat)] M489 (fun r513 M513 => (InR r489 ∧ InR r513) ∧ (r489 = r513 → (AW (mL_law n xs) 938 [some (vR 85), some (vR 0), some (vR 50), some (vI v3)] [] M513 (QI K))) ∧ (¬ (r489 = r513) → (K 0 M513)))))) ∧ ((Int32.ofInt (xs (v3).toNat) &&& Int32.ofInt 31).toInt = 11 → (CI mX11_nodeCount [vR 0] M (fun r522 M522 => CI mX12_nodeCount [vR 50] M522 (fun r526 M526 => (InR r522 ∧ InR r526) ∧ (r522 = r526 → (AW (mL_law n xs) 938 [some (vR 85), some (vR 0), some (vR 50), some (vI v3)] [] M526 (QI K))) ∧ (¬ (r522 = r526) → (K 0 M526)))))) ∧ ((Int32.ofInt (xs (v3).toNat) &&& Int32.ofInt 31).toInt = 12 → ((0 ≤ (v3 + 1) ∧ (v3 + 1) < (n : Int)) ∧ CI mX11_nodeType [vR 0, vI (xs ((v3 + 1)).toNat)] M (fun r540 M540 => (0 ≤ (v3 + 1) ∧ (v3 + 1) < (n : Int)) ∧ CI mX12_nodeType [vR 50, vI (xs ((v3 + 1)).toNat)] M540 (fun r549 M549 => (InR r540 ∧ InR r549) ∧ (r540 = r549 → (AW (mL_law n xs) 938 [some (vR 85), some (vR 0), some (vR 50), some (vI v3)] [] M549 (QI K))) ∧ (¬ (r540 = r549) → (K 0 M549)))))) ∧ ((Int32.ofInt (xs (v3).toNat) &&& Int32.ofInt 31).toInt = 13 → ((0 ≤ (v3 + 1) ∧ (v3 + 1) < (n : Int)) ∧ CI mX11_head [vR 0, vI (xs ((v3 + 1)).toNat)] M (fun r563 M563 => (0 ≤ (v3 + 1) ∧ (v3 + 1) < (n : Int)) ∧ CI mX12_head [vR 50, vI (xs ((v3 + 1)).toNat)] M563 (fun r572 M572 => (InR r563 ∧ InR r572) ∧ (r563 = r572 → (AW (mL_law n xs) 938 [some (vR 85), some (vR 0), some (vR 50), some (vI v3)] [] M572 (QI K))) ∧ (¬ (r563 = r572) → (K 0 M572)))))) ∧ ((Int32.ofInt (xs (v3).toNat) &&& Int32.ofInt 31).toInt = 14 → ((0 ≤ (v3 + 1) ∧ (v3 + 1) < (n : Int)) ∧ (0 ≤ (v3 + 2) ∧ (v3 + 2) < (n : Int)) ∧ CI mX11_child [vR 0, vI (xs ((v3 + 1)).toNat), vI (xs ((v3 + 2)).toNat)] M (fun r591 M591 => (0 ≤ (v3 + 1) ∧ (v3 + 1) < (n : Int)) ∧ (0 ≤ (v3 + 2) ∧ (v3 + 2) < (n : Int)) ∧ CI mX12_child [vR 50, vI (xs ((v3 + 1)).toNat), vI (xs ((v3 + 2)).toNat)] M591 (fun r605 M605 => (InR r591 ∧ InR r605) ∧ (r591 = r605 → (AW (mL_law n xs) 938 [some (vR 85), some (vR 0), some (vR 50), some (vI v3)] [] M605 (QI K))) ∧ (¬ (r591 = r605) → (K 0 M605)))))) ∧ ((Int32.ofInt (xs (v3).toNat) &&& Int32.ofInt 31).toInt = 15 → ((0 ≤ (v3 + 1) ∧ (v3 + 1) < (n : Int)) ∧ CI mX11_binding [vR 0, vI (xs ((v3 + 1)).toNat)] M (fun r619 M619 => (0 ≤ (v3 + 1) ∧ (v3 + 1) < (n : Int)) ∧ CI mX12_binding [vR 50, vI (xs ((v3 + 1)).toNat)] M619 (fun r628 M628 => (InR r619 ∧ InR r628) ∧ (r619 = r628 → (AW (mL_law n xs) 938 [some (vR 85), some (vR 0), some (vR 50), some (vI v3)] [] M628 (QI K))) ∧ (¬ (r619 = r628) → (K 0 M628)))))) ∧ ((Int32.ofInt (xs (v3).toNat) &&& Int32.ofInt 31).toInt = 16 → ((0 ≤ (v3 + 1) ∧ (v3 + 1) < (n : Int)) ∧ CI mX11_size [vR 0, vI (xs ((v3 + 1)).toNat)] M (fun r642 M642 => (0 ≤ (v3 + 1) ∧ (v3 + 1) < (n : Int)) ∧ CI mX12_size [vR 50, vI (xs ((v3 + 1)).toNat)] M642 (fun r651 M651 => (InR r642 ∧ InR r651) ∧ (r642 = r651 → (AW (mL_law n xs) 938 [some (vR 85), some (vR 0), some (vR 50), some (vI v3)] [] M651 (QI K))) ∧ (¬ (r642 = r651) → (K 0 M651)))))) ∧ ((Int32.ofInt (xs (v3).toNat) &&& Int32.ofInt 31).toInt = 17 → ((0 ≤ (v3 + 1) ∧ (v3 + 1) < (n : Int)) ∧ CI mX11_rank [vR 0, vI (xs ((v3 + 1)).toNat)] M (fun r665 M665 => (0 ≤ (v3 + 1) ∧ (v3 + 1) < (n : Int)) ∧ CI mX12_rank [vR 50, vI (xs ((v3 + 1)).toNat)] M665 (fun r674 M674 => (InR r665 ∧ InR r674) ∧ (r665 = r674 → (AW (mL_law n xs) 938 [some (vR 85), some (vR 0), some (vR 50), some (vI v3)] [] M674 (QI K))) ∧ (¬ (r665 = r674) → (K 0 M674)))))) ∧ ((Int32.ofInt (xs (v3).toNat) &&& Int32.ofInt 31).toInt = 18 → ((0 ≤ (v3 + 1) ∧ (v3 + 1) < (n : Int)) ∧ (0 ≤ (v3 + 2) ∧ (v3 + 2) < (n : Int)) ∧ CI mX11_equal [vR 0, vI (xs ((v3 + 1)).toNat), vI (xs ((v3 + 2)).toNat)] M (fun r693 M693 => (0 ≤ (v3 + 1) ∧ (v3 + 1) < (n : Int)) ∧ (0 ≤ (v3 + 2) ∧ (v3 + 2) < (n : Int)) ∧ CI mX12_equal [vR 50, vI (xs ((v3 + 1)).toNat), vI (xs ((v3 + 2)).toNat)] M693 (fun r707 M707 => (InR r693 ∧ InR r707) ∧ (r693 = r707 → (AW (mL_law n xs) 938 [some (vR 85), some (vR 0), some (vR 50), some (vI v3)] [] M707 (QI K))) ∧ (¬ (r693 = r707) → (K 0 M707)))))) ∧ ((Int32.ofInt (xs (v3).toNat) &&& Int32.ofInt 31).toInt = 19 → ((0 ≤ (v3 + 1) ∧ (v3 + 1) < (n : Int)) ∧ (0 ≤ (v3 + 2) ∧ (v3 + 2) < (n : Int)) ∧ CI mX11_unify [vR 0, vI (xs ((v3 + 1)).toNat), vI (xs ((v3 + 2)).toNat)] M (fun r726 M726 => (0 ≤ (v3 + 1) ∧ (v3 + 1) < (n : Int)) ∧ (0 ≤ (v3 + 2) ∧ (v3 + 2) < (n : Int)) ∧ CI mX12_unify [vR 50, vI (xs ((v3 + 1)).toNat), vI (xs ((v3 + 2)).toNat)] M726 (fun r740 M740 => (InR r726 ∧ InR r740) ∧ (r726 = r740 → (AW (mL_law n xs) 938 [some (vR 85), some (vR 0), some (vR 50), some (vI v3)] [] M740 (QI K))) ∧ (¬ (r726 = r740) → (K 0 M740)))))) ∧ ((Int32.ofInt (xs (v3).toNat) &&& Int32.ofInt 31).toInt = 20 → (CI mX11_boundCount [vR 0] M (fun r749 M749 => CI mX12_boundCount [vR 50] M749 (fun r753 M753 => (InR r749 ∧ InR r753) ∧ (r749 = r753 → (AW (mL_law n xs) 938 [some (vR 85), some (vR 0), some (vR 50), some (vI v3)] [] M753 (QI K))) ∧ (¬ (r749 = r753) → (K 0 M753)))))) ∧ ((Int32.ofInt (xs (v3).toNat) &&& Int32.ofInt 31).toInt = 21 → (CI mX11_unbindAll [vR 0] M (fun r762 M762 => CI mX12_unbindAll [vR 50] M762 (fun r766 M766 => (InR r762 ∧ InR r766) ∧ (r762 = r766 → (AW (mL_law n xs) 938 [some (vR 85), some (vR 0), some (vR 50), some (vI v3)] [] M766 (QI K))) ∧ (¬ (r762 = r766) → (K 0 M766)))))) ∧ ((Int32.ofInt (xs (v3).toNat) &&& Int32.ofInt 31).toInt = 22 → (CI mX11_push [vR 0] M (fun r775 M775 => CI mX12_push [vR 50] M775 (fun r779 M779 => (InR r775 ∧ InR r779) ∧ (r775 = r779 → (AW (mL_law n xs) 938 [some (vR 85), some (vR 0), some (vR 50), some (vI v3)] [] M779 (QI K))) ∧ (¬ (r775 = r779) → (K 0 M779)))))) ∧ ((Int32.ofInt (xs (v3).toNat) &&& Int32.ofInt 31).toInt = 23 → (CI mX11_pop [vR 0] M (fun r788 M788 => CI mX12_pop [vR 50] M788 (fun r792 M792 => (InR r788 ∧ InR r792) ∧ (r788 = r792 → (AW (mL_law n xs) 938 [some (vR 85), some (vR 0), some (vR 50), some (vI v3)] [] M792 (QI K))) ∧ (¬ (r788 = r792) → (K 0 M792)))))) ∧ ((Int32.ofInt (xs (v3).toNat) &&& Int32.ofInt 31).toInt = 24 → ((0 ≤ (v3 + 1) ∧ (v3 + 1) < (n : Int)) ∧ CI mX11_addRow [vR 0, vI (xs ((v3 + 1)).toNat)] M (fun r806 M806 => (0 ≤ (v3 + 1) ∧ (v3 + 1) < (n : Int)) ∧ CI mX12_addRow [vR 50, vI (xs ((v3 + 1)).toNat)] M806 (fun r815 M815 => (InR r806 ∧ InR r815) ∧ (r806 = r815 → (AW (mL_law n xs) 938 [some (vR 85), some (vR 0), some (vR 50), some (vI v3)] [] M815 (QI K))) ∧ (¬ (r806 = r815) → (K 0 M815)))))) ∧ ((Int32.ofInt (xs (v3).toNat) &&& Int32.ofInt 31).toInt = 25 → (CI mX11_clearRows [vR 0] M (fun r824 M824 => CI mX12_clearRows [vR 50] M824 (fun r828 M828 => (InR r824 ∧ InR r828) ∧ (r824 = r828 → (AW (mL_law n xs) 938 [some (vR 85), some (vR 0), some (vR 50), some (vI v3)] [] M828 (QI K))) ∧ (¬ (r824 = r828) → (K 0 M828)))))) ∧ ((Int32.ofInt (xs (v3).toNat) &&& Int32.ofInt 31).toInt = 26 → ((0 ≤ (v3 + 1) ∧ (v3 + 1) < (n : Int)) ∧ CI mX11_firstMatch [vR 0, vI (xs ((v3 + 1)).toNat)] M (fun r842 M842 => (0 ≤ (v3 + 1) ∧ (v3 + 1) < (n : Int)) ∧ CI mX12_firstMatch [vR 50, vI (xs ((v3 + 1)).toNat)] M842 (fun r851 M851 => (InR r842 ∧ InR r851) ∧ (r842 = r851 → (AW (mL_law n xs) 938 [some (vR 85), some (vR 0), some (vR 50), some (vI v3)] [] M851 (QI K))) ∧ (¬ (r842 = r851) → (K 0 M851)))))) ∧ ((Int32.ofInt (xs (v3).toNat) &&& Int32.ofInt 31).toInt = 27 → ((0 ≤ (v3 + 1) ∧ (v3 + 1) < (n : Int)) ∧ CI mX11_uncovered [vR 0, vI (xs ((v3 + 1)).toNat)] M (fun r865 M865 => (0 ≤ (v3 + 1) ∧ (v3 + 1) < (n : Int)) ∧ CI mX12_uncovered [vR 50, vI (xs ((v3 + 1)).toNat)] M865 (fun r874 M874 => (InR r865 ∧ InR r874) ∧ (r865 = r874 → (AW (mL_law n xs) 938 [some (vR 85), some (vR 0), some (vR 50), some (vI v3)] [] M874 (QI K))) ∧ (¬ (r865 = r874) → (K 0 M874)))))) ∧ ((Int32.ofInt (xs (v3).toNat) &&& Int32.ofInt 31).toInt = 28 → ((0 ≤ (v3 + 1) ∧ (v3 + 1) < (n : Int)) ∧ CI mX11_firstUncovered [vR 0, vI (xs ((v3 + 1)).toNat)] M (fun r888 M888 => (0 ≤ (v3 + 1) ∧ (v3 + 1) < (n : Int)) ∧ CI mX12_firstUncovered [vR 50, vI (xs ((v3 + 1)).toNat)] M888 (fun r897 M897 => (InR r888 ∧ InR r897) ∧ (r888 = r897 → (AW (mL_law n xs) 938 [some (vR 85), some (vR 0), some (vR 50), some (vI v3)] [] M897 (QI K))) ∧ (¬ (r888 = r897) → (K 0 M897)))))) ∧ ((Int32.ofInt (xs (v3).toNat) &&& Int32.ofInt 31).toInt = 29 → ((0 ≤ (v3 + 1) ∧ (v3 + 1) < (n : Int)) ∧ (0 ≤ (v3 + 2) ∧ (v3 + 2) < (n : Int)) ∧ CI mX11_coveredBy [vR 0, vI (xs ((v3 + 1)).toNat), vI (xs ((v3 + 2)).toNat)] M (fun r916 M916 => (0 ≤ (v3 + 1) ∧ (v3 + 1) < (n : Int)) ∧ (0 ≤ (v3 + 2) ∧ (v3 + 2) < (n : Int)) ∧ CI mX12_coveredBy [vR 50, vI (xs ((v3 + 1)).toNat), vI (xs ((v3 + 2)).toNat)] M916 (fun r930 M930 => (InR r916 ∧ InR r930) ∧ (r916 = r930 → (AW (mL_law n xs) 938 [some (vR 85), some (vR 0), some (vR 50), some (vI v3)] [] M930 (QI K))) ∧ (¬ (r916 = r930) → (K 0 M930)))))) ∧ (((Int32.ofInt (xs (v3).toNat) &&& Int32.ofInt 31).toInt < 0 ∨ 29 < (Int32.ofInt (xs (v3).toNat) &&& Int32.ofInt 31).toInt) → (AW (mL_law n xs) 938 [some (vR 85), some (vR 0), some (vR 50), some (vI v3)] [] M (QI K)))))) :
    AW (mL_law n xs) 18 [some (vR 85), some (vR 0), some (vR 50), some (vI v3)] [] M (QI K) := by
  refine AW.iload_n (pc := 18) (x := v3) dL_law_18 rfl ?_
  refine AW.aload_n (pc := 19) (x := 85) dL_law_19 rfl ?_
  refine AW.slen (pc := 20) dL_law_20 rfl ?_
  refine AW.bipush (pc := 21) dL_law_21 (by decide) ?_
  refine AW.isub (pc := 23) dL_law_23 ?_
  obtain ⟨o, ha, hb⟩ := h
  refine AW.icmp_gt (pc := 24) (tgt := 944) dL_law_24 (by decide) o.1 o.2 (fun hc => ?_) (fun hc => ?_)
  · have h := ha hc
    refine AW.iconst (pc := 944) dL_law_944 ?_
    exact AW.zret (st := []) (pc := 945) dL_law_945 rfl (by decide) ⟨_, rfl, h⟩
  · have h := hb hc
    refine AW.aload_n (pc := 27) (x := 85) dL_law_27 rfl ?_
    refine AW.iload_n (pc := 28) (x := v3) dL_law_28 rfl ?_
    obtain ⟨o, h⟩ := h
    refine AW.sald (pc := 29) dL_law_29 rfl o ?_
    refine AW.bipush (pc := 30) dL_law_30 (by decide) ?_
    refine AW.iand (pc := 32) dL_law_32 ?_
    obtain ⟨o, h⟩ := h
    by_cases hc0 : (Int32.ofInt (xs (v3).toNat) &&& Int32.ofInt 31).toInt = 0
    · have h := h.1 hc0
      refine AW.tblI (pc := 33) (x := (Int32.ofInt (xs (v3).toNat) &&& Int32.ofInt 31).toInt) (tgt := 168) dL_law_33 o (by omega) (by omega) (off := 135) (by rw [hc0]; rfl) (by decide) ?_
      refine AW.aload_n (pc := 168) (x := 0) dL_law_168 rfl ?_
      refine AW.callV (pc := 169) (As := []) (st := []) dL_law_169 cl_L_13 kd_0 hl_0 ⟨Nat.le_of_ble_eq_true rfl, Nat.le_of_ble_eq_true rfl⟩ (Nat.le_of_ble_eq_true rfl) (Nat.le_of_ble_eq_true rfl) h ?_
      rintro _ M169 ⟨r169, rfl, h⟩
      show AW (mL_law n xs) 172 [some (vR 85), some (vR 0), some (vR 50), some (vI v3)] [vI r169] M169 (QI K)
      refine AW.aload_n (pc := 172) (x := 50) dL_law_172 rfl ?_
      refine AW.callV (pc := 173) (As := []) (st := [vI r169]) dL_law_173 cl_L_17 kd_50 hl_50 ⟨Nat.le_of_ble_eq_true rfl, Nat.le_of_ble_eq_true rfl⟩ (Nat.le_of_ble_eq_true rfl) (Nat.le_of_ble_eq_true rfl) h ?_
      rintro _ M173 ⟨r173, rfl, h⟩
      show AW (mL_law n xs) 176 [some (vR 85), some (vR 0), some (vR 50), some (vI v3)] [vI r173, vI r169] M173 (QI K)
      obtain ⟨o, ha, hb⟩ := h
      refine AW.icmp_eq (pc := 176) (tgt := 938) dL_law_176 (by decide) o.1 o.2 (fun hc => ?_) (fun hc => ?_)
      · have h := ha hc
        exact h
      · have h := hb hc
        refine AW.iconst (pc := 179) dL_law_179 ?_
        exact AW.zret (st := []) (pc := 180) dL_law_180 rfl (by decide) ⟨_, rfl, h⟩
    by_cases hc1 : (Int32.ofInt (xs (v3).toNat) &&& Int32.ofInt 31).toInt = 1
    · have h := h.2.1 hc1
      refine AW.tblI (pc := 33) (x := (Int32.ofInt (xs (v3).toNat) &&& Int32.ofInt 31).toInt) (tgt := 181) dL_law_33 o (by omega) (by omega) (off := 148) (by rw [hc1]; rfl) (by decide) ?_
      refine AW.aload_n (pc := 181) (x := 0) dL_law_181 rfl ?_
      refine AW.aload_n (pc := 182) (x := 85) dL_law_182 rfl ?_
      refine AW.iload_n (pc := 183) (x := v3) dL_law_183 rfl ?_
      refine AW.iconst (pc := 184) dL_law_184 ?_
      refine AW.iadd (pc := 185) dL_law_185 ?_
      obtain ⟨o, h⟩ := h
      refine AW.sald (pc := 186) dL_law_186 rfl o ?_
      refine AW.aload_n (pc := 187) (x := 85) dL_law_187 rfl ?_
      refine AW.iload_n (pc := 188) (x := v3) dL_law_188 rfl ?_
      refine AW.iconst (pc := 189) dL_law_189 ?_
      refine AW.iadd (pc := 190) dL_law_190 ?_
      obtain ⟨o, h⟩ := h
      refine AW.sald (pc := 191) dL_law_191 rfl o ?_
      refine AW.aload_n (pc := 192) (x := 85) dL_law_192 rfl ?_
      refine AW.iload_n (pc := 193) (x := v3) dL_law_193 rfl ?_
      refine AW.iconst (pc := 194) dL_law_194 ?_
      refine AW.iadd (pc := 195) dL_law_195 ?_
      obtain ⟨o, h⟩ := h
      refine AW.sald (pc := 196) dL_law_196 rfl o ?_
      refine AW.aload_n (pc := 197) (x := 85) dL_law_197 rfl ?_
      refine AW.iload_n (pc := 198) (x := v3) dL_law_198 rfl ?_
      refine AW.iconst (pc := 199) dL_law_199 ?_
      refine AW.iadd (pc := 200) dL_law_200 ?_
      obtain ⟨o, h⟩ := h
      refine AW.sald (pc := 201) dL_law_201 rfl o ?_
      refine AW.aload_n (pc := 202) (x := 85) dL_law_202 rfl ?_
      refine AW.iload_n (pc := 203) (x := v3) dL_law_203 rfl ?_
      refine AW.iconst (pc := 204) dL_law_204 ?_
      refine AW.iadd (pc := 205) dL_law_205 ?_
      obtain ⟨o, h⟩ := h
      refine AW.sald (pc := 206) dL_law_206 rfl o ?_
      refine AW.callV (pc := 207) (As := [vI (xs ((v3 + 1)).toNat), vI (xs ((v3 + 2)).toNat), vI (xs ((v3 + 3)).toNat), vI (xs ((v3 + 4)).toNat), vI (xs ((v3 + 5)).toNat)]) (st := []) dL_law_207 cl_L_18 kd_0 hl_0 ⟨Nat.le_of_ble_eq_true rfl, Nat.le_of_ble_eq_true rfl⟩ (Nat.le_of_ble_eq_true rfl) (Nat.le_of_ble_eq_true rfl) h ?_
      rintro _ M207 ⟨r207, rfl, h⟩
      show AW (mL_law n xs) 210 [some (vR 85), some (vR 0), some (vR 50), some (vI v3)] [vI r207] M207 (QI K)
      refine AW.aload_n (pc := 210) (x := 50) dL_law_210 rfl ?_
      refine AW.aload_n (pc := 211) (x := 85) dL_law_211 rfl ?_
      refine AW.iload_n (pc := 212) (x := v3) dL_law_212 rfl ?_
      refine AW.iconst (pc := 213) dL_law_213 ?_
      refine AW.iadd (pc := 214) dL_law_214 ?_
      obtain ⟨o, h⟩ := h
      refine AW.sald (pc := 215) dL_law_215 rfl o ?_
      refine AW.aload_n (pc := 216) (x := 85) dL_law_216 rfl ?_
      refine AW.iload_n (pc := 217) (x := v3) dL_law_217 rfl ?_
      refine AW.iconst (pc := 218) dL_law_218 ?_
      refine AW.iadd (pc := 219) dL_law_219 ?_
      obtain ⟨o, h⟩ := h
      refine AW.sald (pc := 220) dL_law_220 rfl o ?_
      refine AW.aload_n (pc := 221) (x := 85) dL_law_221 rfl ?_
      refine AW.iload_n (pc := 222) (x := v3) dL_law_222 rfl ?_
      refine AW.iconst (pc := 223) dL_law_223 ?_
      refine AW.iadd (pc := 224) dL_law_224 ?_
      obtain ⟨o, h⟩ := h
      refine AW.sald (pc := 225) dL_law_225 rfl o ?_
      refine AW.aload_n (pc := 226) (x := 85) dL_law_226 rfl ?_
      refine AW.iload_n (pc := 227) (x := v3) dL_law_227 rfl ?_
      refine AW.iconst (pc := 228) dL_law_228 ?_
      refine AW.iadd (pc := 229) dL_law_229 ?_
      obtain ⟨o, h⟩ := h
      refine AW.sald (pc := 230) dL_law_230 rfl o ?_
      refine AW.aload_n (pc := 231) (x := 85) dL_law_231 rfl ?_
      refine AW.iload_n (pc := 232) (x := v3) dL_law_232 rfl ?_
      refine AW.iconst (pc := 233) dL_law_233 ?_
      refine AW.iadd (pc := 234) dL_law_234 ?_
      obtain ⟨o, h⟩ := h
      refine AW.sald (pc := 235) dL_law_235 rfl o ?_
      refine AW.callV (pc := 236) (As := [vI (xs ((v3 + 1)).toNat), vI (xs ((v3 + 2)).toNat), vI (xs ((v3 + 3)).toNat), vI (xs ((v3 + 4)).toNat), vI (xs ((v3 + 5)).toNat)]) (st := [vI r207]) dL_law_236 cl_L_22 kd_50 hl_50 ⟨Nat.le_of_ble_eq_true rfl, Nat.le_of_ble_eq_true rfl⟩ (Nat.le_of_ble_eq_true rfl) (Nat.le_of_ble_eq_true rfl) h ?_
      rintro _ M236 ⟨r236, rfl, h⟩
      show AW (mL_law n xs) 239 [some (vR 85), some (vR 0), some (vR 50), some (vI v3)] [vI r236, vI r207] M236 (QI K)
      obtain ⟨o, ha, hb⟩ := h
      refine AW.icmp_eq (pc := 239) (tgt := 938) dL_law_239 (by decide) o.1 o.2 (fun hc => ?_) (fun hc => ?_)
      · have h := ha hc
        exact h
      · have h := hb hc
        refine AW.iconst (pc := 242) dL_law_242 ?_
        exact AW.zret (st := []) (pc := 243) dL_law_243 rfl (by decide) ⟨_, rfl, h⟩
    by_cases hc2 : (Int32.ofInt (xs (v3).toNat) &&& Int32.ofInt 31).toInt = 2
    · have h := h.2.2.1 hc2
      refine AW.tblI (pc := 33) (x := (Int32.ofInt (xs (v3).toNat) &&& Int32.ofInt 31).toInt) (tgt := 244) dL_law_33 o (by omega) (by omega) (off := 211) (by rw [hc2]; rfl) (by decide) ?_
      refine AW.aload_n (pc := 244) (x := 0) dL_law_244 rfl ?_
      refine AW.aload_n (pc := 245) (x := 85) dL_law_245 rfl ?_
      refine AW.iload_n (pc := 246) (x := v3) dL_law_246 rfl ?_
      refine AW.iconst (pc := 247) dL_law_247 ?_
      refine AW.iadd (pc := 248) dL_law_248 ?_
      obtain ⟨o, h⟩ := h
      refine AW.sald (pc := 249) dL_law_249 rfl o ?_
      refine AW.callV (pc := 250) (As := [vI (xs ((v3 + 1)).toNat)]) (st := []) dL_law_250 cl_L_23 kd_0 hl_0 ⟨Nat.le_of_ble_eq_true rfl, Nat.le_of_ble_eq_true rfl⟩ (Nat.le_of_ble_eq_true rfl) (Nat.le_of_ble_eq_true rfl) h ?_
      rintro _ M250 ⟨r250, rfl, h⟩
      show AW (mL_law n xs) 253 [some (vR 85), some (vR 0), some (vR 50), some (vI v3)] [vI r250] M250 (QI K)
      refine AW.aload_n (pc := 253) (x := 50) dL_law_253 rfl ?_
      refine AW.aload_n (pc := 254) (x := 85) dL_law_254 rfl ?_
      refine AW.iload_n (pc := 255) (x := v3) dL_law_255 rfl ?_
      refine AW.iconst (pc := 256) dL_law_256 ?_
      refine AW.iadd (pc := 257) dL_law_257 ?_
      obtain ⟨o, h⟩ := h
      refine AW.sald (pc := 258) dL_law_258 rfl o ?_
      refine AW.callV (pc := 259) (As := [vI (xs ((v3 + 1)).toNat)]) (st := [vI r250]) dL_law_259 cl_L_27 kd_50 hl_50 ⟨Nat.le_of_ble_eq_true rfl, Nat.le_of_ble_eq_true rfl⟩ (Nat.le_of_ble_eq_true rfl) (Nat.le_of_ble_eq_true rfl) h ?_
      rintro _ M259 ⟨r259, rfl, h⟩
      show AW (mL_law n xs) 262 [some (vR 85), some (vR 0), some (vR 50), some (vI v3)] [vI r259, vI r250] M259 (QI K)
      obtain ⟨o, ha, hb⟩ := h
      refine AW.icmp_eq (pc := 262) (tgt := 938) dL_law_262 (by decide) o.1 o.2 (fun hc => ?_) (fun hc => ?_)
      · have h := ha hc
        exact h
      · have h := hb hc
        refine AW.iconst (pc := 265) dL_law_265 ?_
        exact AW.zret (st := []) (pc := 266) dL_law_266 rfl (by decide) ⟨_, rfl, h⟩
    by_cases hc3 : (Int32.ofInt (xs (v3).toNat) &&& Int32.ofInt 31).toInt = 3
    · have h := h.2.2.2.1 hc3
      refine AW.tblI (pc := 33) (x := (Int32.ofInt (xs (v3).toNat) &&& Int32.ofInt 31).toInt) (tgt := 267) dL_law_33 o (by omega) (by omega) (off := 234) (by rw [hc3]; rfl) (by decide) ?_
      refine AW.aload_n (pc := 267) (x := 0) dL_law_267 rfl ?_
      refine AW.aload_n (pc := 268) (x := 85) dL_law_268 rfl ?_
      refine AW.iload_n (pc := 269) (x := v3) dL_law_269 rfl ?_
      refine AW.iconst (pc := 270) dL_law_270 ?_
      refine AW.iadd (pc := 271) dL_law_271 ?_
      obtain ⟨o, h⟩ := h
      refine AW.sald (pc := 272) dL_law_272 rfl o ?_
      refine AW.callV (pc := 273) (As := [vI (xs ((v3 + 1)).toNat)]) (st := []) dL_law_273 cl_L_28 kd_0 hl_0 ⟨Nat.le_of_ble_eq_true rfl, Nat.le_of_ble_eq_true rfl⟩ (Nat.le_of_ble_eq_true rfl) (Nat.le_of_ble_eq_true rfl) h ?_
      rintro _ M273 ⟨r273, rfl, h⟩
      show AW (mL_law n xs) 276 [some (vR 85), some (vR 0), some (vR 50), some (vI v3)] [vI r273] M273 (QI K)
      refine AW.aload_n (pc := 276) (x := 50) dL_law_276 rfl ?_
      refine AW.aload_n (pc := 277) (x := 85) dL_law_277 rfl ?_
      refine AW.iload_n (pc := 278) (x := v3) dL_law_278 rfl ?_
      refine AW.iconst (pc := 279) dL_law_279 ?_
      refine AW.iadd (pc := 280) dL_law_280 ?_
      obtain ⟨o, h⟩ := h
      refine AW.sald (pc := 281) dL_law_281 rfl o ?_
      refine AW.callV (pc := 282) (As := [vI (xs ((v3 + 1)).toNat)]) (st := [vI r273]) dL_law_282 cl_L_31 kd_50 hl_50 ⟨Nat.le_of_ble_eq_true rfl, Nat.le_of_ble_eq_true rfl⟩ (Nat.le_of_ble_eq_true rfl) (Nat.le_of_ble_eq_true rfl) h ?_
      rintro _ M282 ⟨r282, rfl, h⟩
      show AW (mL_law n xs) 285 [some (vR 85), some (vR 0), some (vR 50), some (vI v3)] [vI r282, vI r273] M282 (QI K)
      obtain ⟨o, ha, hb⟩ := h
      refine AW.icmp_eq (pc := 285) (tgt := 938) dL_law_285 (by decide) o.1 o.2 (fun hc => ?_) (fun hc => ?_)
      · have h := ha hc
        exact h
      · have h := hb hc
        refine AW.iconst (pc := 288) dL_law_288 ?_
        exact AW.zret (st := []) (pc := 289) dL_law_289 rfl (by decide) ⟨_, rfl, h⟩
    by_cases hc4 : (Int32.ofInt (xs (v3).toNat) &&& Int32.ofInt 31).toInt = 4
    · have h := h.2.2.2.2.1 hc4
      refine AW.tblI (pc := 33) (x := (Int32.ofInt (xs (v3).toNat) &&& Int32.ofInt 31).toInt) (tgt := 290) dL_law_33 o (by omega) (by omega) (off := 257) (by rw [hc4]; rfl) (by decide) ?_
      refine AW.aload_n (pc := 290) (x := 0) dL_law_290 rfl ?_
      refine AW.aload_n (pc := 291) (x := 85) dL_law_291 rfl ?_
      refine AW.iload_n (pc := 292) (x := v3) dL_law_292 rfl ?_
      refine AW.iconst (pc := 293) dL_law_293 ?_
      refine AW.iadd (pc := 294) dL_law_294 ?_
      obtain ⟨o, h⟩ := h
      refine AW.sald (pc := 295) dL_law_295 rfl o ?_
      refine AW.aload_n (pc := 296) (x := 85) dL_law_296 rfl ?_
      refine AW.iload_n (pc := 297) (x := v3) dL_law_297 rfl ?_
      refine AW.iconst (pc := 298) dL_law_298 ?_
      refine AW.iadd (pc := 299) dL_law_299 ?_
      obtain ⟨o, h⟩ := h
      refine AW.sald (pc := 300) dL_law_300 rfl o ?_
      refine AW.callV (pc := 301) (As := [vI (xs ((v3 + 1)).toNat), vI (xs ((v3 + 2)).toNat)]) (st := []) dL_law_301 cl_L_32 kd_0 hl_0 ⟨Nat.le_of_ble_eq_true rfl, Nat.le_of_ble_eq_true rfl⟩ (Nat.le_of_ble_eq_true rfl) (Nat.le_of_ble_eq_true rfl) h ?_
      rintro _ M301 ⟨r301, rfl, h⟩
      show AW (mL_law n xs) 304 [some (vR 85), some (vR 0), some (vR 50), some (vI v3)] [vI r301] M301 (QI K)
      refine AW.aload_n (pc := 304) (x := 50) dL_law_304 rfl ?_
      refine AW.aload_n (pc := 305) (x := 85) dL_law_305 rfl ?_
      refine AW.iload_n (pc := 306) (x := v3) dL_law_306 rfl ?_
      refine AW.iconst (pc := 307) dL_law_307 ?_
      refine AW.iadd (pc := 308) dL_law_308 ?_
      obtain ⟨o, h⟩ := h
      refine AW.sald (pc := 309) dL_law_309 rfl o ?_
      refine AW.aload_n (pc := 310) (x := 85) dL_law_310 rfl ?_
      refine AW.iload_n (pc := 311) (x := v3) dL_law_311 rfl ?_
      refine AW.iconst (pc := 312) dL_law_312 ?_
      refine AW.iadd (pc := 313) dL_law_313 ?_
      obtain ⟨o, h⟩ := h
      refine AW.sald (pc := 314) dL_law_314 rfl o ?_
      refine AW.callV (pc := 315) (As := [vI (xs ((v3 + 1)).toNat), vI (xs ((v3 + 2)).toNat)]) (st := [vI r301]) dL_law_315 cl_L_36 kd_50 hl_50 ⟨Nat.le_of_ble_eq_true rfl, Nat.le_of_ble_eq_true rfl⟩ (Nat.le_of_ble_eq_true rfl) (Nat.le_of_ble_eq_true rfl) h ?_
      rintro _ M315 ⟨r315, rfl, h⟩
      show AW (mL_law n xs) 318 [some (vR 85), some (vR 0), some (vR 50), some (vI v3)] [vI r315, vI r301] M315 (QI K)
      obtain ⟨o, ha, hb⟩ := h
      refine AW.icmp_eq (pc := 318) (tgt := 938) dL_law_318 (by decide) o.1 o.2 (fun hc => ?_) (fun hc => ?_)
      · have h := ha hc
        exact h
      · have h := hb hc
        refine AW.iconst (pc := 321) dL_law_321 ?_
        exact AW.zret (st := []) (pc := 322) dL_law_322 rfl (by decide) ⟨_, rfl, h⟩
    by_cases hc5 : (Int32.ofInt (xs (v3).toNat) &&& Int32.ofInt 31).toInt = 5
    · have h := h.2.2.2.2.2.1 hc5
      refine AW.tblI (pc := 33) (x := (Int32.ofInt (xs (v3).toNat) &&& Int32.ofInt 31).toInt) (tgt := 323) dL_law_33 o (by omega) (by omega) (off := 290) (by rw [hc5]; rfl) (by decide) ?_
      refine AW.aload_n (pc := 323) (x := 0) dL_law_323 rfl ?_
      refine AW.aload_n (pc := 324) (x := 85) dL_law_324 rfl ?_
      refine AW.iload_n (pc := 325) (x := v3) dL_law_325 rfl ?_
      refine AW.iconst (pc := 326) dL_law_326 ?_
      refine AW.iadd (pc := 327) dL_law_327 ?_
      obtain ⟨o, h⟩ := h
      refine AW.sald (pc := 328) dL_law_328 rfl o ?_
      refine AW.callV (pc := 329) (As := [vI (xs ((v3 + 1)).toNat)]) (st := []) dL_law_329 cl_L_37 kd_0 hl_0 ⟨Nat.le_of_ble_eq_true rfl, Nat.le_of_ble_eq_true rfl⟩ (Nat.le_of_ble_eq_true rfl) (Nat.le_of_ble_eq_true rfl) h ?_
      rintro _ M329 ⟨r329, rfl, h⟩
      show AW (mL_law n xs) 332 [some (vR 85), some (vR 0), some (vR 50), some (vI v3)] [vI r329] M329 (QI K)
      refine AW.aload_n (pc := 332) (x := 50) dL_law_332 rfl ?_
      refine AW.aload_n (pc := 333) (x := 85) dL_law_333 rfl ?_
      refine AW.iload_n (pc := 334) (x := v3) dL_law_334 rfl ?_
      refine AW.iconst (pc := 335) dL_law_335 ?_
      refine AW.iadd (pc := 336) dL_law_336 ?_
      obtain ⟨o, h⟩ := h
      refine AW.sald (pc := 337) dL_law_337 rfl o ?_
      refine AW.callV (pc := 338) (As := [vI (xs ((v3 + 1)).toNat)]) (st := [vI r329]) dL_law_338 cl_L_40 kd_50 hl_50 ⟨Nat.le_of_ble_eq_true rfl, Nat.le_of_ble_eq_true rfl⟩ (Nat.le_of_ble_eq_true rfl) (Nat.le_of_ble_eq_true rfl) h ?_
      rintro _ M338 ⟨r338, rfl, h⟩
      show AW (mL_law n xs) 341 [some (vR 85), some (vR 0), some (vR 50), some (vI v3)] [vI r338, vI r329] M338 (QI K)
      obtain ⟨o, ha, hb⟩ := h
      refine AW.icmp_eq (pc := 341) (tgt := 938) dL_law_341 (by decide) o.1 o.2 (fun hc => ?_) (fun hc => ?_)
      · have h := ha hc
        exact h
      · have h := hb hc
        refine AW.iconst (pc := 344) dL_law_344 ?_
        exact AW.zret (st := []) (pc := 345) dL_law_345 rfl (by decide) ⟨_, rfl, h⟩
    by_cases hc6 : (Int32.ofInt (xs (v3).toNat) &&& Int32.ofInt 31).toInt = 6
    · have h := h.2.2.2.2.2.2.1 hc6
      refine AW.tblI (pc := 33) (x := (Int32.ofInt (xs (v3).toNat) &&& Int32.ofInt 31).toInt) (tgt := 346) dL_law_33 o (by omega) (by omega) (off := 313) (by rw [hc6]; rfl) (by decide) ?_
      refine AW.aload_n (pc := 346) (x := 0) dL_law_346 rfl ?_
      refine AW.aload_n (pc := 347) (x := 85) dL_law_347 rfl ?_
      refine AW.iload_n (pc := 348) (x := v3) dL_law_348 rfl ?_
      refine AW.iconst (pc := 349) dL_law_349 ?_
      refine AW.iadd (pc := 350) dL_law_350 ?_
      obtain ⟨o, h⟩ := h
      refine AW.sald (pc := 351) dL_law_351 rfl o ?_
      refine AW.callV (pc := 352) (As := [vI (xs ((v3 + 1)).toNat)]) (st := []) dL_law_352 cl_L_41 kd_0 hl_0 ⟨Nat.le_of_ble_eq_true rfl, Nat.le_of_ble_eq_true rfl⟩ (Nat.le_of_ble_eq_true rfl) (Nat.le_of_ble_eq_true rfl) h ?_
      rintro _ M352 ⟨r352, rfl, h⟩
      show AW (mL_law n xs) 355 [some (vR 85), some (vR 0), some (vR 50), some (vI v3)] [vI r352] M352 (QI K)
      refine AW.aload_n (pc := 355) (x := 50) dL_law_355 rfl ?_
      refine AW.aload_n (pc := 356) (x := 85) dL_law_356 rfl ?_
      refine AW.iload_n (pc := 357) (x := v3) dL_law_357 rfl ?_
      refine AW.iconst (pc := 358) dL_law_358 ?_
      refine AW.iadd (pc := 359) dL_law_359 ?_
      obtain ⟨o, h⟩ := h
      refine AW.sald (pc := 360) dL_law_360 rfl o ?_
      refine AW.callV (pc := 361) (As := [vI (xs ((v3 + 1)).toNat)]) (st := [vI r352]) dL_law_361 cl_L_44 kd_50 hl_50 ⟨Nat.le_of_ble_eq_true rfl, Nat.le_of_ble_eq_true rfl⟩ (Nat.le_of_ble_eq_true rfl) (Nat.le_of_ble_eq_true rfl) h ?_
      rintro _ M361 ⟨r361, rfl, h⟩
      show AW (mL_law n xs) 364 [some (vR 85), some (vR 0), some (vR 50), some (vI v3)] [vI r361, vI r352] M361 (QI K)
      obtain ⟨o, ha, hb⟩ := h
      refine AW.icmp_eq (pc := 364) (tgt := 938) dL_law_364 (by decide) o.1 o.2 (fun hc => ?_) (fun hc => ?_)
      · have h := ha hc
        exact h
      · have h := hb hc
        refine AW.iconst (pc := 367) dL_law_367 ?_
        exact AW.zret (st := []) (pc := 368) dL_law_368 rfl (by decide) ⟨_, rfl, h⟩
    by_cases hc7 : (Int32.ofInt (xs (v3).toNat) &&& Int32.ofInt 31).toInt = 7
    · have h := h.2.2.2.2.2.2.2.1 hc7
      refine AW.tblI (pc := 33) (x := (Int32.ofInt (xs (v3).toNat) &&& Int32.ofInt 31).toInt) (tgt := 369) dL_law_33 o (by omega) (by omega) (off := 336) (by rw [hc7]; rfl) (by decide) ?_
      refine AW.aload_n (pc := 369) (x := 0) dL_law_369 rfl ?_
      refine AW.aload_n (pc := 370) (x := 85) dL_law_370 rfl ?_
      refine AW.iload_n (pc := 371) (x := v3) dL_law_371 rfl ?_
      refine AW.iconst (pc := 372) dL_law_372 ?_
      refine AW.iadd (pc := 373) dL_law_373 ?_
      obtain ⟨o, h⟩ := h
      refine AW.sald (pc := 374) dL_law_374 rfl o ?_
      refine AW.aload_n (pc := 375) (x := 85) dL_law_375 rfl ?_
      refine AW.iload_n (pc := 376) (x := v3) dL_law_376 rfl ?_
      refine AW.iconst (pc := 377) dL_law_377 ?_
      refine AW.iadd (pc := 378) dL_law_378 ?_
      obtain ⟨o, h⟩ := h
      refine AW.sald (pc := 379) dL_law_379 rfl o ?_
      refine AW.callV (pc := 380) (As := [vI (xs ((v3 + 1)).toNat), vI (xs ((v3 + 2)).toNat)]) (st := []) dL_law_380 cl_L_45 kd_0 hl_0 ⟨Nat.le_of_ble_eq_true rfl, Nat.le_of_ble_eq_true rfl⟩ (Nat.le_of_ble_eq_true rfl) (Nat.le_of_ble_eq_true rfl) h ?_
      rintro _ M380 ⟨r380, rfl, h⟩
      show AW (mL_law n xs) 383 [some (vR 85), some (vR 0), some (vR 50), some (vI v3)] [vI r380] M380 (QI K)
      refine AW.aload_n (pc := 383) (x := 50) dL_law_383 rfl ?_
      refine AW.aload_n (pc := 384) (x := 85) dL_law_384 rfl ?_
      refine AW.iload_n (pc := 385) (x := v3) dL_law_385 rfl ?_
      refine AW.iconst (pc := 386) dL_law_386 ?_
      refine AW.iadd (pc := 387) dL_law_387 ?_
      obtain ⟨o, h⟩ := h
      refine AW.sald (pc := 388) dL_law_388 rfl o ?_
      refine AW.aload_n (pc := 389) (x := 85) dL_law_389 rfl ?_
      refine AW.iload_n (pc := 390) (x := v3) dL_law_390 rfl ?_
      refine AW.iconst (pc := 391) dL_law_391 ?_
      refine AW.iadd (pc := 392) dL_law_392 ?_
      obtain ⟨o, h⟩ := h
      refine AW.sald (pc := 393) dL_law_393 rfl o ?_
      refine AW.callV (pc := 394) (As := [vI (xs ((v3 + 1)).toNat), vI (xs ((v3 + 2)).toNat)]) (st := [vI r380]) dL_law_394 cl_L_48 kd_50 hl_50 ⟨Nat.le_of_ble_eq_true rfl, Nat.le_of_ble_eq_true rfl⟩ (Nat.le_of_ble_eq_true rfl) (Nat.le_of_ble_eq_true rfl) h ?_
      rintro _ M394 ⟨r394, rfl, h⟩
      show AW (mL_law n xs) 397 [some (vR 85), some (vR 0), some (vR 50), some (vI v3)] [vI r394, vI r380] M394 (QI K)
      obtain ⟨o, ha, hb⟩ := h
      refine AW.icmp_eq (pc := 397) (tgt := 938) dL_law_397 (by decide) o.1 o.2 (fun hc => ?_) (fun hc => ?_)
      · have h := ha hc
        exact h
      · have h := hb hc
        refine AW.iconst (pc := 400) dL_law_400 ?_
        exact AW.zret (st := []) (pc := 401) dL_law_401 rfl (by decide) ⟨_, rfl, h⟩
    by_cases hc8 : (Int32.ofInt (xs (v3).toNat) &&& Int32.ofInt 31).toInt = 8
    · have h := h.2.2.2.2.2.2.2.2.1 hc8
      refine AW.tblI (pc := 33) (x := (Int32.ofInt (xs (v3).toNat) &&& Int32.ofInt 31).toInt) (tgt := 402) dL_law_33 o (by omega) (by omega) (off := 369) (by rw [hc8]; rfl) (by decide) ?_
      refine AW.aload_n (pc := 402) (x := 0) dL_law_402 rfl ?_
      refine AW.aload_n (pc := 403) (x := 85) dL_law_403 rfl ?_
      refine AW.iload_n (pc := 404) (x := v3) dL_law_404 rfl ?_
      refine AW.iconst (pc := 405) dL_law_405 ?_
      refine AW.iadd (pc := 406) dL_law_406 ?_
      obtain ⟨o, h⟩ := h
      refine AW.sald (pc := 407) dL_law_407 rfl o ?_
      refine AW.aload_n (pc := 408) (x := 85) dL_law_408 rfl ?_
      refine AW.iload_n (pc := 409) (x := v3) dL_law_409 rfl ?_
      refine AW.iconst (pc := 410) dL_law_410 ?_
      refine AW.iadd (pc := 411) dL_law_411 ?_
      obtain ⟨o, h⟩ := h
      refine AW.sald (pc := 412) dL_law_412 rfl o ?_
      refine AW.aload_n (pc := 413) (x := 85) dL_law_413 rfl ?_
      refine AW.iload_n (pc := 414) (x := v3) dL_law_414 rfl ?_
      refine AW.iconst (pc := 415) dL_law_415 ?_
      refine AW.iadd (pc := 416) dL_law_416 ?_
      obtain ⟨o, h⟩ := h
      refine AW.sald (pc := 417) dL_law_417 rfl o ?_
      refine AW.callV (pc := 418) (As := [vI (xs ((v3 + 1)).toNat), vI (xs ((v3 + 2)).toNat), vI (xs ((v3 + 3)).toNat)]) (st := []) dL_law_418 cl_L_49 kd_0 hl_0 ⟨Nat.le_of_ble_eq_true rfl, Nat.le_of_ble_eq_true rfl⟩ (Nat.le_of_ble_eq_true rfl) (Nat.le_of_ble_eq_true rfl) h ?_
      rintro _ M418 ⟨r418, rfl, h⟩
      show AW (mL_law n xs) 421 [some (vR 85), some (vR 0), some (vR 50), some (vI v3)] [vI r418] M418 (QI K)
      refine AW.aload_n (pc := 421) (x := 50) dL_law_421 rfl ?_
      refine AW.aload_n (pc := 422) (x := 85) dL_law_422 rfl ?_
      refine AW.iload_n (pc := 423) (x := v3) dL_law_423 rfl ?_
      refine AW.iconst (pc := 424) dL_law_424 ?_
      refine AW.iadd (pc := 425) dL_law_425 ?_
      obtain ⟨o, h⟩ := h
      refine AW.sald (pc := 426) dL_law_426 rfl o ?_
      refine AW.aload_n (pc := 427) (x := 85) dL_law_427 rfl ?_
      refine AW.iload_n (pc := 428) (x := v3) dL_law_428 rfl ?_
      refine AW.iconst (pc := 429) dL_law_429 ?_
      refine AW.iadd (pc := 430) dL_law_430 ?_
      obtain ⟨o, h⟩ := h
      refine AW.sald (pc := 431) dL_law_431 rfl o ?_
      refine AW.aload_n (pc := 432) (x := 85) dL_law_432 rfl ?_
      refine AW.iload_n (pc := 433) (x := v3) dL_law_433 rfl ?_
      refine AW.iconst (pc := 434) dL_law_434 ?_
      refine AW.iadd (pc := 435) dL_law_435 ?_
      obtain ⟨o, h⟩ := h
      refine AW.sald (pc := 436) dL_law_436 rfl o ?_
      refine AW.callV (pc := 437) (As := [vI (xs ((v3 + 1)).toNat), vI (xs ((v3 + 2)).toNat), vI (xs ((v3 + 3)).toNat)]) (st := [vI r418]) dL_law_437 cl_L_53 kd_50 hl_50 ⟨Nat.le_of_ble_eq_true rfl, Nat.le_of_ble_eq_true rfl⟩ (Nat.le_of_ble_eq_true rfl) (Nat.le_of_ble_eq_true rfl) h ?_
      rintro _ M437 ⟨r437, rfl, h⟩
      show AW (mL_law n xs) 440 [some (vR 85), some (vR 0), some (vR 50), some (vI v3)] [vI r437, vI r418] M437 (QI K)
      obtain ⟨o, ha, hb⟩ := h
      refine AW.icmp_eq (pc := 440) (tgt := 938) dL_law_440 (by decide) o.1 o.2 (fun hc => ?_) (fun hc => ?_)
      · have h := ha hc
        exact h
      · have h := hb hc
        refine AW.iconst (pc := 443) dL_law_443 ?_
        exact AW.zret (st := []) (pc := 444) dL_law_444 rfl (by decide) ⟨_, rfl, h⟩
    by_cases hc9 : (Int32.ofInt (xs (v3).toNat) &&& Int32.ofInt 31).toInt = 9
    · have h := h.2.2.2.2.2.2.2.2.2.1 hc9
      refine AW.tblI (pc := 33) (x := (Int32.ofInt (xs (v3).toNat) &&& Int32.ofInt 31).toInt) (tgt := 445) dL_law_33 o (by omega) (by omega) (off := 412) (by rw [hc9]; rfl) (by decide) ?_
      refine AW.aload_n (pc := 445) (x := 0) dL_law_445 rfl ?_
      refine AW.aload_n (pc := 446) (x := 85) dL_law_446 rfl ?_
      refine AW.iload_n (pc := 447) (x := v3) dL_law_447 rfl ?_
      refine AW.iconst (pc := 448) dL_law_448 ?_
      refine AW.iadd (pc := 449) dL_law_449 ?_
      obtain ⟨o, h⟩ := h
      refine AW.sald (pc := 450) dL_law_450 rfl o ?_
      refine AW.callV (pc := 451) (As := [vI (xs ((v3 + 1)).toNat)]) (st := []) dL_law_451 cl_L_54 kd_0 hl_0 ⟨Nat.le_of_ble_eq_true rfl, Nat.le_of_ble_eq_true rfl⟩ (Nat.le_of_ble_eq_true rfl) (Nat.le_of_ble_eq_true rfl) h ?_
      rintro _ M451 ⟨r451, rfl, h⟩
      show AW (mL_law n xs) 454 [some (vR 85), some (vR 0), some (vR 50), some (vI v3)] [vI r451] M451 (QI K)
      refine AW.aload_n (pc := 454) (x := 50) dL_law_454 rfl ?_
      refine AW.aload_n (pc := 455) (x := 85) dL_law_455 rfl ?_
      refine AW.iload_n (pc := 456) (x := v3) dL_law_456 rfl ?_
      refine AW.iconst (pc := 457) dL_law_457 ?_
      refine AW.iadd (pc := 458) dL_law_458 ?_
      obtain ⟨o, h⟩ := h
      refine AW.sald (pc := 459) dL_law_459 rfl o ?_
      refine AW.callV (pc := 460) (As := [vI (xs ((v3 + 1)).toNat)]) (st := [vI r451]) dL_law_460 cl_L_57 kd_50 hl_50 ⟨Nat.le_of_ble_eq_true rfl, Nat.le_of_ble_eq_true rfl⟩ (Nat.le_of_ble_eq_true rfl) (Nat.le_of_ble_eq_true rfl) h ?_
      rintro _ M460 ⟨r460, rfl, h⟩
      show AW (mL_law n xs) 463 [some (vR 85), some (vR 0), some (vR 50), some (vI v3)] [vI r460, vI r451] M460 (QI K)
      obtain ⟨o, ha, hb⟩ := h
      refine AW.icmp_eq (pc := 463) (tgt := 938) dL_law_463 (by decide) o.1 o.2 (fun hc => ?_) (fun hc => ?_)
      · have h := ha hc
        exact h
      · have h := hb hc
        refine AW.iconst (pc := 466) dL_law_466 ?_
        exact AW.zret (st := []) (pc := 467) dL_law_467 rfl (by decide) ⟨_, rfl, h⟩
    by_cases hc10 : (Int32.ofInt (xs (v3).toNat) &&& Int32.ofInt 31).toInt = 10
    · have h := h.2.2.2.2.2.2.2.2.2.2.1 hc10
      refine AW.tblI (pc := 33) (x := (Int32.ofInt (xs (v3).toNat) &&& Int32.ofInt 31).toInt) (tgt := 468) dL_law_33 o (by omega) (by omega) (off := 435) (by rw [hc10]; rfl) (by decide) ?_
      refine AW.aload_n (pc := 468) (x := 0) dL_law_468 rfl ?_
      refine AW.aload_n (pc := 469) (x := 85) dL_law_469 rfl ?_
      refine AW.iload_n (pc := 470) (x := v3) dL_law_470 rfl ?_
      refine AW.iconst (pc := 471) dL_law_471 ?_
      refine AW.iadd (pc := 472) dL_law_472 ?_
      obtain ⟨o, h⟩ := h
      refine AW.sald (pc := 473) dL_law_473 rfl o ?_
      refine AW.aload_n (pc := 474) (x := 85) dL_law_474 rfl ?_
      refine AW.iload_n (pc := 475) (x := v3) dL_law_475 rfl ?_
      refine AW.iconst (pc := 476) dL_law_476 ?_
      refine AW.iadd (pc := 477) dL_law_477 ?_
      obtain ⟨o, h⟩ := h
      refine AW.sald (pc := 478) dL_law_478 rfl o ?_
      refine AW.aload_n (pc := 479) (x := 85) dL_law_479 rfl ?_
      refine AW.iload_n (pc := 480) (x := v3) dL_law_480 rfl ?_
      refine AW.iconst (pc := 481) dL_law_481 ?_
      refine AW.iadd (pc := 482) dL_law_482 ?_
      obtain ⟨o, h⟩ := h
      refine AW.sald (pc := 483) dL_law_483 rfl o ?_
      refine AW.aload_n (pc := 484) (x := 85) dL_law_484 rfl ?_
      refine AW.iload_n (pc := 485) (x := v3) dL_law_485 rfl ?_
      refine AW.iconst (pc := 486) dL_law_486 ?_
      refine AW.iadd (pc := 487) dL_law_487 ?_
      obtain ⟨o, h⟩ := h
      refine AW.sald (pc := 488) dL_law_488 rfl o ?_
      refine AW.callV (pc := 489) (As := [vI (xs ((v3 + 1)).toNat), vI (xs ((v3 + 2)).toNat), vI (xs ((v3 + 3)).toNat), vI (xs ((v3 + 4)).toNat)]) (st := []) dL_law_489 cl_L_58 kd_0 hl_0 ⟨Nat.le_of_ble_eq_true rfl, Nat.le_of_ble_eq_true rfl⟩ (Nat.le_of_ble_eq_true rfl) (Nat.le_of_ble_eq_true rfl) h ?_
      rintro _ M489 ⟨r489, rfl, h⟩
      show AW (mL_law n xs) 492 [some (vR 85), some (vR 0), some (vR 50), some (vI v3)] [vI r489] M489 (QI K)
      refine AW.aload_n (pc := 492) (x := 50) dL_law_492 rfl ?_
      refine AW.aload_n (pc := 493) (x := 85) dL_law_493 rfl ?_
      refine AW.iload_n (pc := 494) (x := v3) dL_law_494 rfl ?_
      refine AW.iconst (pc := 495) dL_law_495 ?_
      refine AW.iadd (pc := 496) dL_law_496 ?_
      obtain ⟨o, h⟩ := h
      refine AW.sald (pc := 497) dL_law_497 rfl o ?_
      refine AW.aload_n (pc := 498) (x := 85) dL_law_498 rfl ?_
      refine AW.iload_n (pc := 499) (x := v3) dL_law_499 rfl ?_
      refine AW.iconst (pc := 500) dL_law_500 ?_
      refine AW.iadd (pc := 501) dL_law_501 ?_
      obtain ⟨o, h⟩ := h
      refine AW.sald (pc := 502) dL_law_502 rfl o ?_
      refine AW.aload_n (pc := 503) (x := 85) dL_law_503 rfl ?_
      refine AW.iload_n (pc := 504) (x := v3) dL_law_504 rfl ?_
      refine AW.iconst (pc := 505) dL_law_505 ?_
      refine AW.iadd (pc := 506) dL_law_506 ?_
      obtain ⟨o, h⟩ := h
      refine AW.sald (pc := 507) dL_law_507 rfl o ?_
      refine AW.aload_n (pc := 508) (x := 85) dL_law_508 rfl ?_
      refine AW.iload_n (pc := 509) (x := v3) dL_law_509 rfl ?_
      refine AW.iconst (pc := 510) dL_law_510 ?_
      refine AW.iadd (pc := 511) dL_law_511 ?_
      obtain ⟨o, h⟩ := h
      refine AW.sald (pc := 512) dL_law_512 rfl o ?_
      refine AW.callV (pc := 513) (As := [vI (xs ((v3 + 1)).toNat), vI (xs ((v3 + 2)).toNat), vI (xs ((v3 + 3)).toNat), vI (xs ((v3 + 4)).toNat)]) (st := [vI r489]) dL_law_513 cl_L_62 kd_50 hl_50 ⟨Nat.le_of_ble_eq_true rfl, Nat.le_of_ble_eq_true rfl⟩ (Nat.le_of_ble_eq_true rfl) (Nat.le_of_ble_eq_true rfl) h ?_
      rintro _ M513 ⟨r513, rfl, h⟩
      show AW (mL_law n xs) 516 [some (vR 85), some (vR 0), some (vR 50), some (vI v3)] [vI r513, vI r489] M513 (QI K)
      obtain ⟨o, ha, hb⟩ := h
      refine AW.icmp_eq (pc := 516) (tgt := 938) dL_law_516 (by decide) o.1 o.2 (fun hc => ?_) (fun hc => ?_)
      · have h := ha hc
        exact h
      · have h := hb hc
        refine AW.iconst (pc := 519) dL_law_519 ?_
        exact AW.zret (st := []) (pc := 520) dL_law_520 rfl (by decide) ⟨_, rfl, h⟩
    by_cases hc11 : (Int32.ofInt (xs (v3).toNat) &&& Int32.ofInt 31).toInt = 11
    · have h := h.2.2.2.2.2.2.2.2.2.2.2.1 hc11
      refine AW.tblI (pc := 33) (x := (Int32.ofInt (xs (v3).toNat) &&& Int32.ofInt 31).toInt) (tgt := 521) dL_law_33 o (by omega) (by omega) (off := 488) (by rw [hc11]; rfl) (by decide) ?_
      refine AW.aload_n (pc := 521) (x := 0) dL_law_521 rfl ?_
      refine AW.callV (pc := 522) (As := []) (st := []) dL_law_522 cl_L_63 kd_0 hl_0 ⟨Nat.le_of_ble_eq_true rfl, Nat.le_of_ble_eq_true rfl⟩ (Nat.le_of_ble_eq_true rfl) (Nat.le_of_ble_eq_true rfl) h ?_
      rintro _ M522 ⟨r522, rfl, h⟩
      show AW (mL_law n xs) 525 [some (vR 85), some (vR 0), some (vR 50), some (vI v3)] [vI r522] M522 (QI K)
      refine AW.aload_n (pc := 525) (x := 50) dL_law_525 rfl ?_
      refine AW.callV (pc := 526) (As := []) (st := [vI r522]) dL_law_526 cl_L_66 kd_50 hl_50 ⟨Nat.le_of_ble_eq_true rfl, Nat.le_of_ble_eq_true rfl⟩ (Nat.le_of_ble_eq_true rfl) (Nat.le_of_ble_eq_true rfl) h ?_
      rintro _ M526 ⟨r526, rfl, h⟩
      show AW (mL_law n xs) 529 [some (vR 85), some (vR 0), some (vR 50), some (vI v3)] [vI r526, vI r522] M526 (QI K)
      obtain ⟨o, ha, hb⟩ := h
      refine AW.icmp_eq (pc := 529) (tgt := 938) dL_law_529 (by decide) o.1 o.2 (fun hc => ?_) (fun hc => ?_)
      · have h := ha hc
        exact h
      · have h := hb hc
        refine AW.iconst (pc := 532) dL_law_532 ?_
        exact AW.zret (st := []) (pc := 533) dL_law_533 rfl (by decide) ⟨_, rfl, h⟩
    by_cases hc12 : (Int32.ofInt (xs (v3).toNat) &&& Int32.ofInt 31).toInt = 12
    · have h := h.2.2.2.2.2.2.2.2.2.2.2.2.1 hc12
      refine AW.tblI (pc := 33) (x := (Int32.ofInt (xs (v3).toNat) &&& Int32.ofInt 31).toInt) (tgt := 534) dL_law_33 o (by omega) (by omega) (off := 501) (by rw [hc12]; rfl) (by decide) ?_
      refine AW.aload_n (pc := 534) (x := 0) dL_law_534 rfl ?_
      refine AW.aload_n (pc := 535) (x := 85) dL_law_535 rfl ?_
      refine AW.iload_n (pc := 536) (x := v3) dL_law_536 rfl ?_
      refine AW.iconst (pc := 537) dL_law_537 ?_
      refine AW.iadd (pc := 538) dL_law_538 ?_
      obtain ⟨o, h⟩ := h
      refine AW.sald (pc := 539) dL_law_539 rfl o ?_
      refine AW.callV (pc := 540) (As := [vI (xs ((v3 + 1)).toNat)]) (st := []) dL_law_540 cl_L_67 kd_0 hl_0 ⟨Nat.le_of_ble_eq_true rfl, Nat.le_of_ble_eq_true rfl⟩ (Nat.le_of_ble_eq_true rfl) (Nat.le_of_ble_eq_true rfl) h ?_
      rintro _ M540 ⟨r540, rfl, h⟩
      show AW (mL_law n xs) 543 [some (vR 85), some (vR 0), some (vR 50), some (vI v3)] [vI r540] M540 (QI K)
      refine AW.aload_n (pc := 543) (x := 50) dL_law_543 rfl ?_
      refine AW.aload_n (pc := 544) (x := 85) dL_law_544 rfl ?_
      refine AW.iload_n (pc := 545) (x := v3) dL_law_545 rfl ?_
      refine AW.iconst (pc := 546) dL_law_546 ?_
      refine AW.iadd (pc := 547) dL_law_547 ?_
      obtain ⟨o, h⟩ := h
      refine AW.sald (pc := 548) dL_law_548 rfl o ?_
      refine AW.callV (pc := 549) (As := [vI (xs ((v3 + 1)).toNat)]) (st := [vI r540]) dL_law_549 cl_L_70 kd_50 hl_50 ⟨Nat.le_of_ble_eq_true rfl, Nat.le_of_ble_eq_true rfl⟩ (Nat.le_of_ble_eq_true rfl) (Nat.le_of_ble_eq_true rfl) h ?_
      rintro _ M549 ⟨r549, rfl, h⟩
      show AW (mL_law n xs) 552 [some (vR 85), some (vR 0), some (vR 50), some (vI v3)] [vI r549, vI r540] M549 (QI K)
      obtain ⟨o, ha, hb⟩ := h
      refine AW.icmp_eq (pc := 552) (tgt := 938) dL_law_552 (by decide) o.1 o.2 (fun hc => ?_) (fun hc => ?_)
      · have h := ha hc
        exact h
      · have h := hb hc
        refine AW.iconst (pc := 555) dL_law_555 ?_
        exact AW.zret (st := []) (pc := 556) dL_law_556 rfl (by decide) ⟨_, rfl, h⟩
    by_cases hc13 : (Int32.ofInt (xs (v3).toNat) &&& Int32.ofInt 31).toInt = 13
    · have h := h.2.2.2.2.2.2.2.2.2.2.2.2.2.1 hc13
      refine AW.tblI (pc := 33) (x := (Int32.ofInt (xs (v3).toNat) &&& Int32.ofInt 31).toInt) (tgt := 557) dL_law_33 o (by omega) (by omega) (off := 524) (by rw [hc13]; rfl) (by decide) ?_
      refine AW.aload_n (pc := 557) (x := 0) dL_law_557 rfl ?_
      refine AW.aload_n (pc := 558) (x := 85) dL_law_558 rfl ?_
      refine AW.iload_n (pc := 559) (x := v3) dL_law_559 rfl ?_
      refine AW.iconst (pc := 560) dL_law_560 ?_
      refine AW.iadd (pc := 561) dL_law_561 ?_
      obtain ⟨o, h⟩ := h
      refine AW.sald (pc := 562) dL_law_562 rfl o ?_
      refine AW.callV (pc := 563) (As := [vI (xs ((v3 + 1)).toNat)]) (st := []) dL_law_563 cl_L_71 kd_0 hl_0 ⟨Nat.le_of_ble_eq_true rfl, Nat.le_of_ble_eq_true rfl⟩ (Nat.le_of_ble_eq_true rfl) (Nat.le_of_ble_eq_true rfl) h ?_
      rintro _ M563 ⟨r563, rfl, h⟩
      show AW (mL_law n xs) 566 [some (vR 85), some (vR 0), some (vR 50), some (vI v3)] [vI r563] M563 (QI K)
      refine AW.aload_n (pc := 566) (x := 50) dL_law_566 rfl ?_
      refine AW.aload_n (pc := 567) (x := 85) dL_law_567 rfl ?_
      refine AW.iload_n (pc := 568) (x := v3) dL_law_568 rfl ?_
      refine AW.iconst (pc := 569) dL_law_569 ?_
      refine AW.iadd (pc := 570) dL_law_570 ?_
      obtain ⟨o, h⟩ := h
      refine AW.sald (pc := 571) dL_law_571 rfl o ?_
      refine AW.callV (pc := 572) (As := [vI (xs ((v3 + 1)).toNat)]) (st := [vI r563]) dL_law_572 cl_L_74 kd_50 hl_50 ⟨Nat.le_of_ble_eq_true rfl, Nat.le_of_ble_eq_true rfl⟩ (Nat.le_of_ble_eq_true rfl) (Nat.le_of_ble_eq_true rfl) h ?_
      rintro _ M572 ⟨r572, rfl, h⟩
      show AW (mL_law n xs) 575 [some (vR 85), some (vR 0), some (vR 50), some (vI v3)] [vI r572, vI r563] M572 (QI K)
      obtain ⟨o, ha, hb⟩ := h
      refine AW.icmp_eq (pc := 575) (tgt := 938) dL_law_575 (by decide) o.1 o.2 (fun hc => ?_) (fun hc => ?_)
      · have h := ha hc
        exact h
      · have h := hb hc
        refine AW.iconst (pc := 578) dL_law_578 ?_
        exact AW.zret (st := []) (pc := 579) dL_law_579 rfl (by decide) ⟨_, rfl, h⟩
    by_cases hc14 : (Int32.ofInt (xs (v3).toNat) &&& Int32.ofInt 31).toInt = 14
    · have h := h.2.2.2.2.2.2.2.2.2.2.2.2.2.2.1 hc14
      refine AW.tblI (pc := 33) (x := (Int32.ofInt (xs (v3).toNat) &&& Int32.ofInt 31).toInt) (tgt := 580) dL_law_33 o (by omega) (by omega) (off := 547) (by rw [hc14]; rfl) (by decide) ?_
      refine AW.aload_n (pc := 580) (x := 0) dL_law_580 rfl ?_
      refine AW.aload_n (pc := 581) (x := 85) dL_law_581 rfl ?_
      refine AW.iload_n (pc := 582) (x := v3) dL_law_582 rfl ?_
      refine AW.iconst (pc := 583) dL_law_583 ?_
      refine AW.iadd (pc := 584) dL_law_584 ?_
      obtain ⟨o, h⟩ := h
      refine AW.sald (pc := 585) dL_law_585 rfl o ?_
      refine AW.aload_n (pc := 586) (x := 85) dL_law_586 rfl ?_
      refine AW.iload_n (pc := 587) (x := v3) dL_law_587 rfl ?_
      refine AW.iconst (pc := 588) dL_law_588 ?_
      refine AW.iadd (pc := 589) dL_law_589 ?_
      obtain ⟨o, h⟩ := h
      refine AW.sald (pc := 590) dL_law_590 rfl o ?_
      refine AW.callV (pc := 591) (As := [vI (xs ((v3 + 1)).toNat), vI (xs ((v3 + 2)).toNat)]) (st := []) dL_law_591 cl_L_75 kd_0 hl_0 ⟨Nat.le_of_ble_eq_true rfl, Nat.le_of_ble_eq_true rfl⟩ (Nat.le_of_ble_eq_true rfl) (Nat.le_of_ble_eq_true rfl) h ?_
      rintro _ M591 ⟨r591, rfl, h⟩
      show AW (mL_law n xs) 594 [some (vR 85), some (vR 0), some (vR 50), some (vI v3)] [vI r591] M591 (QI K)
      refine AW.aload_n (pc := 594) (x := 50) dL_law_594 rfl ?_
      refine AW.aload_n (pc := 595) (x := 85) dL_law_595 rfl ?_
      refine AW.iload_n (pc := 596) (x := v3) dL_law_596 rfl ?_
      refine AW.iconst (pc := 597) dL_law_597 ?_
      refine AW.iadd (pc := 598) dL_law_598 ?_
      obtain ⟨o, h⟩ := h
      refine AW.sald (pc := 599) dL_law_599 rfl o ?_
      refine AW.aload_n (pc := 600) (x := 85) dL_law_600 rfl ?_
      refine AW.iload_n (pc := 601) (x := v3) dL_law_601 rfl ?_
      refine AW.iconst (pc := 602) dL_law_602 ?_
      refine AW.iadd (pc := 603) dL_law_603 ?_
      obtain ⟨o, h⟩ := h
      refine AW.sald (pc := 604) dL_law_604 rfl o ?_
      refine AW.callV (pc := 605) (As := [vI (xs ((v3 + 1)).toNat), vI (xs ((v3 + 2)).toNat)]) (st := [vI r591]) dL_law_605 cl_L_78 kd_50 hl_50 ⟨Nat.le_of_ble_eq_true rfl, Nat.le_of_ble_eq_true rfl⟩ (Nat.le_of_ble_eq_true rfl) (Nat.le_of_ble_eq_true rfl) h ?_
      rintro _ M605 ⟨r605, rfl, h⟩
      show AW (mL_law n xs) 608 [some (vR 85), some (vR 0), some (vR 50), some (vI v3)] [vI r605, vI r591] M605 (QI K)
      obtain ⟨o, ha, hb⟩ := h
      refine AW.icmp_eq (pc := 608) (tgt := 938) dL_law_608 (by decide) o.1 o.2 (fun hc => ?_) (fun hc => ?_)
      · have h := ha hc
        exact h
      · have h := hb hc
        refine AW.iconst (pc := 611) dL_law_611 ?_
        exact AW.zret (st := []) (pc := 612) dL_law_612 rfl (by decide) ⟨_, rfl, h⟩
    by_cases hc15 : (Int32.ofInt (xs (v3).toNat) &&& Int32.ofInt 31).toInt = 15
    · have h := h.2.2.2.2.2.2.2.2.2.2.2.2.2.2.2.1 hc15
      refine AW.tblI (pc := 33) (x := (Int32.ofInt (xs (v3).toNat) &&& Int32.ofInt 31).toInt) (tgt := 613) dL_law_33 o (by omega) (by omega) (off := 580) (by rw [hc15]; rfl) (by decide) ?_
      refine AW.aload_n (pc := 613) (x := 0) dL_law_613 rfl ?_
      refine AW.aload_n (pc := 614) (x := 85) dL_law_614 rfl ?_
      refine AW.iload_n (pc := 615) (x := v3) dL_law_615 rfl ?_
      refine AW.iconst (pc := 616) dL_law_616 ?_
      refine AW.iadd (pc := 617) dL_law_617 ?_
      obtain ⟨o, h⟩ := h
      refine AW.sald (pc := 618) dL_law_618 rfl o ?_
      refine AW.callV (pc := 619) (As := [vI (xs ((v3 + 1)).toNat)]) (st := []) dL_law_619 cl_L_79 kd_0 hl_0 ⟨Nat.le_of_ble_eq_true rfl, Nat.le_of_ble_eq_true rfl⟩ (Nat.le_of_ble_eq_true rfl) (Nat.le_of_ble_eq_true rfl) h ?_
      rintro _ M619 ⟨r619, rfl, h⟩
      show AW (mL_law n xs) 622 [some (vR 85), some (vR 0), some (vR 50), some (vI v3)] [vI r619] M619 (QI K)
      refine AW.aload_n (pc := 622) (x := 50) dL_law_622 rfl ?_
      refine AW.aload_n (pc := 623) (x := 85) dL_law_623 rfl ?_
      refine AW.iload_n (pc := 624) (x := v3) dL_law_624 rfl ?_
      refine AW.iconst (pc := 625) dL_law_625 ?_
      refine AW.iadd (pc := 626) dL_law_626 ?_
      obtain ⟨o, h⟩ := h
      refine AW.sald (pc := 627) dL_law_627 rfl o ?_
      refine AW.callV (pc := 628) (As := [vI (xs ((v3 + 1)).toNat)]) (st := [vI r619]) dL_law_628 cl_L_82 kd_50 hl_50 ⟨Nat.le_of_ble_eq_true rfl, Nat.le_of_ble_eq_true rfl⟩ (Nat.le_of_ble_eq_true rfl) (Nat.le_of_ble_eq_true rfl) h ?_
      rintro _ M628 ⟨r628, rfl, h⟩
      show AW (mL_law n xs) 631 [some (vR 85), some (vR 0), some (vR 50), some (vI v3)] [vI r628, vI r619] M628 (QI K)
      obtain ⟨o, ha, hb⟩ := h
      refine AW.icmp_eq (pc := 631) (tgt := 938) dL_law_631 (by decide) o.1 o.2 (fun hc => ?_) (fun hc => ?_)
      · have h := ha hc
        exact h
      · have h := hb hc
        refine AW.iconst (pc := 634) dL_law_634 ?_
        exact AW.zret (st := []) (pc := 635) dL_law_635 rfl (by decide) ⟨_, rfl, h⟩
    by_cases hc16 : (Int32.ofInt (xs (v3).toNat) &&& Int32.ofInt 31).toInt = 16
    · have h := h.2.2.2.2.2.2.2.2.2.2.2.2.2.2.2.2.1 hc16
      refine AW.tblI (pc := 33) (x := (Int32.ofInt (xs (v3).toNat) &&& Int32.ofInt 31).toInt) (tgt := 636) dL_law_33 o (by omega) (by omega) (off := 603) (by rw [hc16]; rfl) (by decide) ?_
      refine AW.aload_n (pc := 636) (x := 0) dL_law_636 rfl ?_
      refine AW.aload_n (pc := 637) (x := 85) dL_law_637 rfl ?_
      refine AW.iload_n (pc := 638) (x := v3) dL_law_638 rfl ?_
      refine AW.iconst (pc := 639) dL_law_639 ?_
      refine AW.iadd (pc := 640) dL_law_640 ?_
      obtain ⟨o, h⟩ := h
      refine AW.sald (pc := 641) dL_law_641 rfl o ?_
      refine AW.callV (pc := 642) (As := [vI (xs ((v3 + 1)).toNat)]) (st := []) dL_law_642 cl_L_83 kd_0 hl_0 ⟨Nat.le_of_ble_eq_true rfl, Nat.le_of_ble_eq_true rfl⟩ (Nat.le_of_ble_eq_true rfl) (Nat.le_of_ble_eq_true rfl) h ?_
      rintro _ M642 ⟨r642, rfl, h⟩
      show AW (mL_law n xs) 645 [some (vR 85), some (vR 0), some (vR 50), some (vI v3)] [vI r642] M642 (QI K)
      refine AW.aload_n (pc := 645) (x := 50) dL_law_645 rfl ?_
      refine AW.aload_n (pc := 646) (x := 85) dL_law_646 rfl ?_
      refine AW.iload_n (pc := 647) (x := v3) dL_law_647 rfl ?_
      refine AW.iconst (pc := 648) dL_law_648 ?_
      refine AW.iadd (pc := 649) dL_law_649 ?_
      obtain ⟨o, h⟩ := h
      refine AW.sald (pc := 650) dL_law_650 rfl o ?_
      refine AW.callV (pc := 651) (As := [vI (xs ((v3 + 1)).toNat)]) (st := [vI r642]) dL_law_651 cl_L_86 kd_50 hl_50 ⟨Nat.le_of_ble_eq_true rfl, Nat.le_of_ble_eq_true rfl⟩ (Nat.le_of_ble_eq_true rfl) (Nat.le_of_ble_eq_true rfl) h ?_
      rintro _ M651 ⟨r651, rfl, h⟩
      show AW (mL_law n xs) 654 [some (vR 85), some (vR 0), some (vR 50), some (vI v3)] [vI r651, vI r642] M651 (QI K)
      obtain ⟨o, ha, hb⟩ := h
      refine AW.icmp_eq (pc := 654) (tgt := 938) dL_law_654 (by decide) o.1 o.2 (fun hc => ?_) (fun hc => ?_)
      · have h := ha hc
        exact h
      · have h := hb hc
        refine AW.iconst (pc := 657) dL_law_657 ?_
        exact AW.zret (st := []) (pc := 658) dL_law_658 rfl (by decide) ⟨_, rfl, h⟩
    by_cases hc17 : (Int32.ofInt (xs (v3).toNat) &&& Int32.ofInt 31).toInt = 17
    · have h := h.2.2.2.2.2.2.2.2.2.2.2.2.2.2.2.2.2.1 hc17
      refine AW.tblI (pc := 33) (x := (Int32.ofInt (xs (v3).toNat) &&& Int32.ofInt 31).toInt) (tgt := 659) dL_law_33 o (by omega) (by omega) (off := 626) (by rw [hc17]; rfl) (by decide) ?_
      refine AW.aload_n (pc := 659) (x := 0) dL_law_659 rfl ?_
      refine AW.aload_n (pc := 660) (x := 85) dL_law_660 rfl ?_
      refine AW.iload_n (pc := 661) (x := v3) dL_law_661 rfl ?_
      refine AW.iconst (pc := 662) dL_law_662 ?_
      refine AW.iadd (pc := 663) dL_law_663 ?_
      obtain ⟨o, h⟩ := h
      refine AW.sald (pc := 664) dL_law_664 rfl o ?_
      refine AW.callV (pc := 665) (As := [vI (xs ((v3 + 1)).toNat)]) (st := []) dL_law_665 cl_L_87 kd_0 hl_0 ⟨Nat.le_of_ble_eq_true rfl, Nat.le_of_ble_eq_true rfl⟩ (Nat.le_of_ble_eq_true rfl) (Nat.le_of_ble_eq_true rfl) h ?_
      rintro _ M665 ⟨r665, rfl, h⟩
      show AW (mL_law n xs) 668 [some (vR 85), some (vR 0), some (vR 50), some (vI v3)] [vI r665] M665 (QI K)
      refine AW.aload_n (pc := 668) (x := 50) dL_law_668 rfl ?_
      refine AW.aload_n (pc := 669) (x := 85) dL_law_669 rfl ?_
      refine AW.iload_n (pc := 670) (x := v3) dL_law_670 rfl ?_
      refine AW.iconst (pc := 671) dL_law_671 ?_
      refine AW.iadd (pc := 672) dL_law_672 ?_
      obtain ⟨o, h⟩ := h
      refine AW.sald (pc := 673) dL_law_673 rfl o ?_
      refine AW.callV (pc := 674) (As := [vI (xs ((v3 + 1)).toNat)]) (st := [vI r665]) dL_law_674 cl_L_90 kd_50 hl_50 ⟨Nat.le_of_ble_eq_true rfl, Nat.le_of_ble_eq_true rfl⟩ (Nat.le_of_ble_eq_true rfl) (Nat.le_of_ble_eq_true rfl) h ?_
      rintro _ M674 ⟨r674, rfl, h⟩
      show AW (mL_law n xs) 677 [some (vR 85), some (vR 0), some (vR 50), some (vI v3)] [vI r674, vI r665] M674 (QI K)
      obtain ⟨o, ha, hb⟩ := h
      refine AW.icmp_eq (pc := 677) (tgt := 938) dL_law_677 (by decide) o.1 o.2 (fun hc => ?_) (fun hc => ?_)
      · have h := ha hc
        exact h
      · have h := hb hc
        refine AW.iconst (pc := 680) dL_law_680 ?_
        exact AW.zret (st := []) (pc := 681) dL_law_681 rfl (by decide) ⟨_, rfl, h⟩
    by_cases hc18 : (Int32.ofInt (xs (v3).toNat) &&& Int32.ofInt 31).toInt = 18
    · have h := h.2.2.2.2.2.2.2.2.2.2.2.2.2.2.2.2.2.2.1 hc18
      refine AW.tblI (pc := 33) (x := (Int32.ofInt (xs (v3).toNat) &&& Int32.ofInt 31).toInt) (tgt := 682) dL_law_33 o (by omega) (by omega) (off := 649) (by rw [hc18]; rfl) (by decide) ?_
      refine AW.aload_n (pc := 682) (x := 0) dL_law_682 rfl ?_
      refine AW.aload_n (pc := 683) (x := 85) dL_law_683 rfl ?_
      refine AW.iload_n (pc := 684) (x := v3) dL_law_684 rfl ?_
      refine AW.iconst (pc := 685) dL_law_685 ?_
      refine AW.iadd (pc := 686) dL_law_686 ?_
      obtain ⟨o, h⟩ := h
      refine AW.sald (pc := 687) dL_law_687 rfl o ?_
      refine AW.aload_n (pc := 688) (x := 85) dL_law_688 rfl ?_
      refine AW.iload_n (pc := 689) (x := v3) dL_law_689 rfl ?_
      refine AW.iconst (pc := 690) dL_law_690 ?_
      refine AW.iadd (pc := 691) dL_law_691 ?_
      obtain ⟨o, h⟩ := h
      refine AW.sald (pc := 692) dL_law_692 rfl o ?_
      refine AW.callV (pc := 693) (As := [vI (xs ((v3 + 1)).toNat), vI (xs ((v3 + 2)).toNat)]) (st := []) dL_law_693 cl_L_91 kd_0 hl_0 ⟨Nat.le_of_ble_eq_true rfl, Nat.le_of_ble_eq_true rfl⟩ (Nat.le_of_ble_eq_true rfl) (Nat.le_of_ble_eq_true rfl) h ?_
      rintro _ M693 ⟨r693, rfl, h⟩
      show AW (mL_law n xs) 696 [some (vR 85), some (vR 0), some (vR 50), some (vI v3)] [vI r693] M693 (QI K)
      refine AW.aload_n (pc := 696) (x := 50) dL_law_696 rfl ?_
      refine AW.aload_n (pc := 697) (x := 85) dL_law_697 rfl ?_
      refine AW.iload_n (pc := 698) (x := v3) dL_law_698 rfl ?_
      refine AW.iconst (pc := 699) dL_law_699 ?_
      refine AW.iadd (pc := 700) dL_law_700 ?_
      obtain ⟨o, h⟩ := h
      refine AW.sald (pc := 701) dL_law_701 rfl o ?_
      refine AW.aload_n (pc := 702) (x := 85) dL_law_702 rfl ?_
      refine AW.iload_n (pc := 703) (x := v3) dL_law_703 rfl ?_
      refine AW.iconst (pc := 704) dL_law_704 ?_
      refine AW.iadd (pc := 705) dL_law_705 ?_
      obtain ⟨o, h⟩ := h
      refine AW.sald (pc := 706) dL_law_706 rfl o ?_
      refine AW.callV (pc := 707) (As := [vI (xs ((v3 + 1)).toNat), vI (xs ((v3 + 2)).toNat)]) (st := [vI r693]) dL_law_707 cl_L_94 kd_50 hl_50 ⟨Nat.le_of_ble_eq_true rfl, Nat.le_of_ble_eq_true rfl⟩ (Nat.le_of_ble_eq_true rfl) (Nat.le_of_ble_eq_true rfl) h ?_
      rintro _ M707 ⟨r707, rfl, h⟩
      show AW (mL_law n xs) 710 [some (vR 85), some (vR 0), some (vR 50), some (vI v3)] [vI r707, vI r693] M707 (QI K)
      obtain ⟨o, ha, hb⟩ := h
      refine AW.icmp_eq (pc := 710) (tgt := 938) dL_law_710 (by decide) o.1 o.2 (fun hc => ?_) (fun hc => ?_)
      · have h := ha hc
        exact h
      · have h := hb hc
        refine AW.iconst (pc := 713) dL_law_713 ?_
        exact AW.zret (st := []) (pc := 714) dL_law_714 rfl (by decide) ⟨_, rfl, h⟩
    by_cases hc19 : (Int32.ofInt (xs (v3).toNat) &&& Int32.ofInt 31).toInt = 19
    · have h := h.2.2.2.2.2.2.2.2.2.2.2.2.2.2.2.2.2.2.2.1 hc19
      refine AW.tblI (pc := 33) (x := (Int32.ofInt (xs (v3).toNat) &&& Int32.ofInt 31).toInt) (tgt := 715) dL_law_33 o (by omega) (by omega) (off := 682) (by rw [hc19]; rfl) (by decide) ?_
      refine AW.aload_n (pc := 715) (x := 0) dL_law_715 rfl ?_
      refine AW.aload_n (pc := 716) (x := 85) dL_law_716 rfl ?_
      refine AW.iload_n (pc := 717) (x := v3) dL_law_717 rfl ?_
      refine AW.iconst (pc := 718) dL_law_718 ?_
      refine AW.iadd (pc := 719) dL_law_719 ?_
      obtain ⟨o, h⟩ := h
      refine AW.sald (pc := 720) dL_law_720 rfl o ?_
      refine AW.aload_n (pc := 721) (x := 85) dL_law_721 rfl ?_
      refine AW.iload_n (pc := 722) (x := v3) dL_law_722 rfl ?_
      refine AW.iconst (pc := 723) dL_law_723 ?_
      refine AW.iadd (pc := 724) dL_law_724 ?_
      obtain ⟨o, h⟩ := h
      refine AW.sald (pc := 725) dL_law_725 rfl o ?_
      refine AW.callV (pc := 726) (As := [vI (xs ((v3 + 1)).toNat), vI (xs ((v3 + 2)).toNat)]) (st := []) dL_law_726 cl_L_95 kd_0 hl_0 ⟨Nat.le_of_ble_eq_true rfl, Nat.le_of_ble_eq_true rfl⟩ (Nat.le_of_ble_eq_true rfl) (Nat.le_of_ble_eq_true rfl) h ?_
      rintro _ M726 ⟨r726, rfl, h⟩
      show AW (mL_law n xs) 729 [some (vR 85), some (vR 0), some (vR 50), some (vI v3)] [vI r726] M726 (QI K)
      refine AW.aload_n (pc := 729) (x := 50) dL_law_729 rfl ?_
      refine AW.aload_n (pc := 730) (x := 85) dL_law_730 rfl ?_
      refine AW.iload_n (pc := 731) (x := v3) dL_law_731 rfl ?_
      refine AW.iconst (pc := 732) dL_law_732 ?_
      refine AW.iadd (pc := 733) dL_law_733 ?_
      obtain ⟨o, h⟩ := h
      refine AW.sald (pc := 734) dL_law_734 rfl o ?_
      refine AW.aload_n (pc := 735) (x := 85) dL_law_735 rfl ?_
      refine AW.iload_n (pc := 736) (x := v3) dL_law_736 rfl ?_
      refine AW.iconst (pc := 737) dL_law_737 ?_
      refine AW.iadd (pc := 738) dL_law_738 ?_
      obtain ⟨o, h⟩ := h
      refine AW.sald (pc := 739) dL_law_739 rfl o ?_
      refine AW.callV (pc := 740) (As := [vI (xs ((v3 + 1)).toNat), vI (xs ((v3 + 2)).toNat)]) (st := [vI r726]) dL_law_740 cl_L_98 kd_50 hl_50 ⟨Nat.le_of_ble_eq_true rfl, Nat.le_of_ble_eq_true rfl⟩ (Nat.le_of_ble_eq_true rfl) (Nat.le_of_ble_eq_true rfl) h ?_
      rintro _ M740 ⟨r740, rfl, h⟩
      show AW (mL_law n xs) 743 [some (vR 85), some (vR 0), some (vR 50), some (vI v3)] [vI r740, vI r726] M740 (QI K)
      obtain ⟨o, ha, hb⟩ := h
      refine AW.icmp_eq (pc := 743) (tgt := 938) dL_law_743 (by decide) o.1 o.2 (fun hc => ?_) (fun hc => ?_)
      · have h := ha hc
        exact h
      · have h := hb hc
        refine AW.iconst (pc := 746) dL_law_746 ?_
        exact AW.zret (st := []) (pc := 747) dL_law_747 rfl (by decide) ⟨_, rfl, h⟩
    by_cases hc20 : (Int32.ofInt (xs (v3).toNat) &&& Int32.ofInt 31).toInt = 20
    · have h := h.2.2.2.2.2.2.2.2.2.2.2.2.2.2.2.2.2.2.2.2.1 hc20
      refine AW.tblI (pc := 33) (x := (Int32.ofInt (xs (v3).toNat) &&& Int32.ofInt 31).toInt) (tgt := 748) dL_law_33 o (by omega) (by omega) (off := 715) (by rw [hc20]; rfl) (by decide) ?_
      refine AW.aload_n (pc := 748) (x := 0) dL_law_748 rfl ?_
      refine AW.callV (pc := 749) (As := []) (st := []) dL_law_749 cl_L_99 kd_0 hl_0 ⟨Nat.le_of_ble_eq_true rfl, Nat.le_of_ble_eq_true rfl⟩ (Nat.le_of_ble_eq_true rfl) (Nat.le_of_ble_eq_true rfl) h ?_
      rintro _ M749 ⟨r749, rfl, h⟩
      show AW (mL_law n xs) 752 [some (vR 85), some (vR 0), some (vR 50), some (vI v3)] [vI r749] M749 (QI K)
      refine AW.aload_n (pc := 752) (x := 50) dL_law_752 rfl ?_
      refine AW.callV (pc := 753) (As := []) (st := [vI r749]) dL_law_753 cl_L_102 kd_50 hl_50 ⟨Nat.le_of_ble_eq_true rfl, Nat.le_of_ble_eq_true rfl⟩ (Nat.le_of_ble_eq_true rfl) (Nat.le_of_ble_eq_true rfl) h ?_
      rintro _ M753 ⟨r753, rfl, h⟩
      show AW (mL_law n xs) 756 [some (vR 85), some (vR 0), some (vR 50), some (vI v3)] [vI r753, vI r749] M753 (QI K)
      obtain ⟨o, ha, hb⟩ := h
      refine AW.icmp_eq (pc := 756) (tgt := 938) dL_law_756 (by decide) o.1 o.2 (fun hc => ?_) (fun hc => ?_)
      · have h := ha hc
        exact h
      · have h := hb hc
        refine AW.iconst (pc := 759) dL_law_759 ?_
        exact AW.zret (st := []) (pc := 760) dL_law_760 rfl (by decide) ⟨_, rfl, h⟩
    by_cases hc21 : (Int32.ofInt (xs (v3).toNat) &&& Int32.ofInt 31).toInt = 21
    · have h := h.2.2.2.2.2.2.2.2.2.2.2.2.2.2.2.2.2.2.2.2.2.1 hc21
      refine AW.tblI (pc := 33) (x := (Int32.ofInt (xs (v3).toNat) &&& Int32.ofInt 31).toInt) (tgt := 761) dL_law_33 o (by omega) (by omega) (off := 728) (by rw [hc21]; rfl) (by decide) ?_
      refine AW.aload_n (pc := 761) (x := 0) dL_law_761 rfl ?_
      refine AW.callV (pc := 762) (As := []) (st := []) dL_law_762 cl_L_103 kd_0 hl_0 ⟨Nat.le_of_ble_eq_true rfl, Nat.le_of_ble_eq_true rfl⟩ (Nat.le_of_ble_eq_true rfl) (Nat.le_of_ble_eq_true rfl) h ?_
      rintro _ M762 ⟨r762, rfl, h⟩
      show AW (mL_law n xs) 765 [some (vR 85), some (vR 0), some (vR 50), some (vI v3)] [vI r762] M762 (QI K)
      refine AW.aload_n (pc := 765) (x := 50) dL_law_765 rfl ?_
      refine AW.callV (pc := 766) (As := []) (st := [vI r762]) dL_law_766 cl_L_106 kd_50 hl_50 ⟨Nat.le_of_ble_eq_true rfl, Nat.le_of_ble_eq_true rfl⟩ (Nat.le_of_ble_eq_true rfl) (Nat.le_of_ble_eq_true rfl) h ?_
      rintro _ M766 ⟨r766, rfl, h⟩
      show AW (mL_law n xs) 769 [some (vR 85), some (vR 0), some (vR 50), some (vI v3)] [vI r766, vI r762] M766 (QI K)
      obtain ⟨o, ha, hb⟩ := h
      refine AW.icmp_eq (pc := 769) (tgt := 938) dL_law_769 (by decide) o.1 o.2 (fun hc => ?_) (fun hc => ?_)
      · have h := ha hc
        exact h
      · have h := hb hc
        refine AW.iconst (pc := 772) dL_law_772 ?_
        exact AW.zret (st := []) (pc := 773) dL_law_773 rfl (by decide) ⟨_, rfl, h⟩
    by_cases hc22 : (Int32.ofInt (xs (v3).toNat) &&& Int32.ofInt 31).toInt = 22
    · have h := h.2.2.2.2.2.2.2.2.2.2.2.2.2.2.2.2.2.2.2.2.2.2.1 hc22
      refine AW.tblI (pc := 33) (x := (Int32.ofInt (xs (v3).toNat) &&& Int32.ofInt 31).toInt) (tgt := 774) dL_law_33 o (by omega) (by omega) (off := 741) (by rw [hc22]; rfl) (by decide) ?_
      refine AW.aload_n (pc := 774) (x := 0) dL_law_774 rfl ?_
      refine AW.callV (pc := 775) (As := []) (st := []) dL_law_775 cl_L_107 kd_0 hl_0 ⟨Nat.le_of_ble_eq_true rfl, Nat.le_of_ble_eq_true rfl⟩ (Nat.le_of_ble_eq_true rfl) (Nat.le_of_ble_eq_true rfl) h ?_
      rintro _ M775 ⟨r775, rfl, h⟩
      show AW (mL_law n xs) 778 [some (vR 85), some (vR 0), some (vR 50), some (vI v3)] [vI r775] M775 (QI K)
      refine AW.aload_n (pc := 778) (x := 50) dL_law_778 rfl ?_
      refine AW.callV (pc := 779) (As := []) (st := [vI r775]) dL_law_779 cl_L_110 kd_50 hl_50 ⟨Nat.le_of_ble_eq_true rfl, Nat.le_of_ble_eq_true rfl⟩ (Nat.le_of_ble_eq_true rfl) (Nat.le_of_ble_eq_true rfl) h ?_
      rintro _ M779 ⟨r779, rfl, h⟩
      show AW (mL_law n xs) 782 [some (vR 85), some (vR 0), some (vR 50), some (vI v3)] [vI r779, vI r775] M779 (QI K)
      obtain ⟨o, ha, hb⟩ := h
      refine AW.icmp_eq (pc := 782) (tgt := 938) dL_law_782 (by decide) o.1 o.2 (fun hc => ?_) (fun hc => ?_)
      · have h := ha hc
        exact h
      · have h := hb hc
        refine AW.iconst (pc := 785) dL_law_785 ?_
        exact AW.zret (st := []) (pc := 786) dL_law_786 rfl (by decide) ⟨_, rfl, h⟩
    by_cases hc23 : (Int32.ofInt (xs (v3).toNat) &&& Int32.ofInt 31).toInt = 23
    · have h := h.2.2.2.2.2.2.2.2.2.2.2.2.2.2.2.2.2.2.2.2.2.2.2.1 hc23
      refine AW.tblI (pc := 33) (x := (Int32.ofInt (xs (v3).toNat) &&& Int32.ofInt 31).toInt) (tgt := 787) dL_law_33 o (by omega) (by omega) (off := 754) (by rw [hc23]; rfl) (by decide) ?_
      refine AW.aload_n (pc := 787) (x := 0) dL_law_787 rfl ?_
      refine AW.callV (pc := 788) (As := []) (st := []) dL_law_788 cl_L_111 kd_0 hl_0 ⟨Nat.le_of_ble_eq_true rfl, Nat.le_of_ble_eq_true rfl⟩ (Nat.le_of_ble_eq_true rfl) (Nat.le_of_ble_eq_true rfl) h ?_
      rintro _ M788 ⟨r788, rfl, h⟩
      show AW (mL_law n xs) 791 [some (vR 85), some (vR 0), some (vR 50), some (vI v3)] [vI r788] M788 (QI K)
      refine AW.aload_n (pc := 791) (x := 50) dL_law_791 rfl ?_
      refine AW.callV (pc := 792) (As := []) (st := [vI r788]) dL_law_792 cl_L_114 kd_50 hl_50 ⟨Nat.le_of_ble_eq_true rfl, Nat.le_of_ble_eq_true rfl⟩ (Nat.le_of_ble_eq_true rfl) (Nat.le_of_ble_eq_true rfl) h ?_
      rintro _ M792 ⟨r792, rfl, h⟩
      show AW (mL_law n xs) 795 [some (vR 85), some (vR 0), some (vR 50), some (vI v3)] [vI r792, vI r788] M792 (QI K)
      obtain ⟨o, ha, hb⟩ := h
      refine AW.icmp_eq (pc := 795) (tgt := 938) dL_law_795 (by decide) o.1 o.2 (fun hc => ?_) (fun hc => ?_)
      · have h := ha hc
        exact h
      · have h := hb hc
        refine AW.iconst (pc := 798) dL_law_798 ?_
        exact AW.zret (st := []) (pc := 799) dL_law_799 rfl (by decide) ⟨_, rfl, h⟩
    by_cases hc24 : (Int32.ofInt (xs (v3).toNat) &&& Int32.ofInt 31).toInt = 24
    · have h := h.2.2.2.2.2.2.2.2.2.2.2.2.2.2.2.2.2.2.2.2.2.2.2.2.1 hc24
      refine AW.tblI (pc := 33) (x := (Int32.ofInt (xs (v3).toNat) &&& Int32.ofInt 31).toInt) (tgt := 800) dL_law_33 o (by omega) (by omega) (off := 767) (by rw [hc24]; rfl) (by decide) ?_
      refine AW.aload_n (pc := 800) (x := 0) dL_law_800 rfl ?_
      refine AW.aload_n (pc := 801) (x := 85) dL_law_801 rfl ?_
      refine AW.iload_n (pc := 802) (x := v3) dL_law_802 rfl ?_
      refine AW.iconst (pc := 803) dL_law_803 ?_
      refine AW.iadd (pc := 804) dL_law_804 ?_
      obtain ⟨o, h⟩ := h
      refine AW.sald (pc := 805) dL_law_805 rfl o ?_
      refine AW.callV (pc := 806) (As := [vI (xs ((v3 + 1)).toNat)]) (st := []) dL_law_806 cl_L_115 kd_0 hl_0 ⟨Nat.le_of_ble_eq_true rfl, Nat.le_of_ble_eq_true rfl⟩ (Nat.le_of_ble_eq_true rfl) (Nat.le_of_ble_eq_true rfl) h ?_
      rintro _ M806 ⟨r806, rfl, h⟩
      show AW (mL_law n xs) 809 [some (vR 85), some (vR 0), some (vR 50), some (vI v3)] [vI r806] M806 (QI K)
      refine AW.aload_n (pc := 809) (x := 50) dL_law_809 rfl ?_
      refine AW.aload_n (pc := 810) (x := 85) dL_law_810 rfl ?_
      refine AW.iload_n (pc := 811) (x := v3) dL_law_811 rfl ?_
      refine AW.iconst (pc := 812) dL_law_812 ?_
      refine AW.iadd (pc := 813) dL_law_813 ?_
      obtain ⟨o, h⟩ := h
      refine AW.sald (pc := 814) dL_law_814 rfl o ?_
      refine AW.callV (pc := 815) (As := [vI (xs ((v3 + 1)).toNat)]) (st := [vI r806]) dL_law_815 cl_L_118 kd_50 hl_50 ⟨Nat.le_of_ble_eq_true rfl, Nat.le_of_ble_eq_true rfl⟩ (Nat.le_of_ble_eq_true rfl) (Nat.le_of_ble_eq_true rfl) h ?_
      rintro _ M815 ⟨r815, rfl, h⟩
      show AW (mL_law n xs) 818 [some (vR 85), some (vR 0), some (vR 50), some (vI v3)] [vI r815, vI r806] M815 (QI K)
      obtain ⟨o, ha, hb⟩ := h
      refine AW.icmp_eq (pc := 818) (tgt := 938) dL_law_818 (by decide) o.1 o.2 (fun hc => ?_) (fun hc => ?_)
      · have h := ha hc
        exact h
      · have h := hb hc
        refine AW.iconst (pc := 821) dL_law_821 ?_
        exact AW.zret (st := []) (pc := 822) dL_law_822 rfl (by decide) ⟨_, rfl, h⟩
    by_cases hc25 : (Int32.ofInt (xs (v3).toNat) &&& Int32.ofInt 31).toInt = 25
    · have h := h.2.2.2.2.2.2.2.2.2.2.2.2.2.2.2.2.2.2.2.2.2.2.2.2.2.1 hc25
      refine AW.tblI (pc := 33) (x := (Int32.ofInt (xs (v3).toNat) &&& Int32.ofInt 31).toInt) (tgt := 823) dL_law_33 o (by omega) (by omega) (off := 790) (by rw [hc25]; rfl) (by decide) ?_
      refine AW.aload_n (pc := 823) (x := 0) dL_law_823 rfl ?_
      refine AW.callV (pc := 824) (As := []) (st := []) dL_law_824 cl_L_119 kd_0 hl_0 ⟨Nat.le_of_ble_eq_true rfl, Nat.le_of_ble_eq_true rfl⟩ (Nat.le_of_ble_eq_true rfl) (Nat.le_of_ble_eq_true rfl) h ?_
      rintro _ M824 ⟨r824, rfl, h⟩
      show AW (mL_law n xs) 827 [some (vR 85), some (vR 0), some (vR 50), some (vI v3)] [vI r824] M824 (QI K)
      refine AW.aload_n (pc := 827) (x := 50) dL_law_827 rfl ?_
      refine AW.callV (pc := 828) (As := []) (st := [vI r824]) dL_law_828 cl_L_122 kd_50 hl_50 ⟨Nat.le_of_ble_eq_true rfl, Nat.le_of_ble_eq_true rfl⟩ (Nat.le_of_ble_eq_true rfl) (Nat.le_of_ble_eq_true rfl) h ?_
      rintro _ M828 ⟨r828, rfl, h⟩
      show AW (mL_law n xs) 831 [some (vR 85), some (vR 0), some (vR 50), some (vI v3)] [vI r828, vI r824] M828 (QI K)
      obtain ⟨o, ha, hb⟩ := h
      refine AW.icmp_eq (pc := 831) (tgt := 938) dL_law_831 (by decide) o.1 o.2 (fun hc => ?_) (fun hc => ?_)
      · have h := ha hc
        exact h
      · have h := hb hc
        refine AW.iconst (pc := 834) dL_law_834 ?_
        exact AW.zret (st := []) (pc := 835) dL_law_835 rfl (by decide) ⟨_, rfl, h⟩
    by_cases hc26 : (Int32.ofInt (xs (v3).toNat) &&& Int32.ofInt 31).toInt = 26
    · have h := h.2.2.2.2.2.2.2.2.2.2.2.2.2.2.2.2.2.2.2.2.2.2.2.2.2.2.1 hc26
      refine AW.tblI (pc := 33) (x := (Int32.ofInt (xs (v3).toNat) &&& Int32.ofInt 31).toInt) (tgt := 836) dL_law_33 o (by omega) (by omega) (off := 803) (by rw [hc26]; rfl) (by decide) ?_
      refine AW.aload_n (pc := 836) (x := 0) dL_law_836 rfl ?_
      refine AW.aload_n (pc := 837) (x := 85) dL_law_837 rfl ?_
      refine AW.iload_n (pc := 838) (x := v3) dL_law_838 rfl ?_
      refine AW.iconst (pc := 839) dL_law_839 ?_
      refine AW.iadd (pc := 840) dL_law_840 ?_
      obtain ⟨o, h⟩ := h
      refine AW.sald (pc := 841) dL_law_841 rfl o ?_
      refine AW.callV (pc := 842) (As := [vI (xs ((v3 + 1)).toNat)]) (st := []) dL_law_842 cl_L_123 kd_0 hl_0 ⟨Nat.le_of_ble_eq_true rfl, Nat.le_of_ble_eq_true rfl⟩ (Nat.le_of_ble_eq_true rfl) (Nat.le_of_ble_eq_true rfl) h ?_
      rintro _ M842 ⟨r842, rfl, h⟩
      show AW (mL_law n xs) 845 [some (vR 85), some (vR 0), some (vR 50), some (vI v3)] [vI r842] M842 (QI K)
      refine AW.aload_n (pc := 845) (x := 50) dL_law_845 rfl ?_
      refine AW.aload_n (pc := 846) (x := 85) dL_law_846 rfl ?_
      refine AW.iload_n (pc := 847) (x := v3) dL_law_847 rfl ?_
      refine AW.iconst (pc := 848) dL_law_848 ?_
      refine AW.iadd (pc := 849) dL_law_849 ?_
      obtain ⟨o, h⟩ := h
      refine AW.sald (pc := 850) dL_law_850 rfl o ?_
      refine AW.callV (pc := 851) (As := [vI (xs ((v3 + 1)).toNat)]) (st := [vI r842]) dL_law_851 cl_L_126 kd_50 hl_50 ⟨Nat.le_of_ble_eq_true rfl, Nat.le_of_ble_eq_true rfl⟩ (Nat.le_of_ble_eq_true rfl) (Nat.le_of_ble_eq_true rfl) h ?_
      rintro _ M851 ⟨r851, rfl, h⟩
      show AW (mL_law n xs) 854 [some (vR 85), some (vR 0), some (vR 50), some (vI v3)] [vI r851, vI r842] M851 (QI K)
      obtain ⟨o, ha, hb⟩ := h
      refine AW.icmp_eq (pc := 854) (tgt := 938) dL_law_854 (by decide) o.1 o.2 (fun hc => ?_) (fun hc => ?_)
      · have h := ha hc
        exact h
      · have h := hb hc
        refine AW.iconst (pc := 857) dL_law_857 ?_
        exact AW.zret (st := []) (pc := 858) dL_law_858 rfl (by decide) ⟨_, rfl, h⟩
    by_cases hc27 : (Int32.ofInt (xs (v3).toNat) &&& Int32.ofInt 31).toInt = 27
    · have h := h.2.2.2.2.2.2.2.2.2.2.2.2.2.2.2.2.2.2.2.2.2.2.2.2.2.2.2.1 hc27
      refine AW.tblI (pc := 33) (x := (Int32.ofInt (xs (v3).toNat) &&& Int32.ofInt 31).toInt) (tgt := 859) dL_law_33 o (by omega) (by omega) (off := 826) (by rw [hc27]; rfl) (by decide) ?_
      refine AW.aload_n (pc := 859) (x := 0) dL_law_859 rfl ?_
      refine AW.aload_n (pc := 860) (x := 85) dL_law_860 rfl ?_
      refine AW.iload_n (pc := 861) (x := v3) dL_law_861 rfl ?_
      refine AW.iconst (pc := 862) dL_law_862 ?_
      refine AW.iadd (pc := 863) dL_law_863 ?_
      obtain ⟨o, h⟩ := h
      refine AW.sald (pc := 864) dL_law_864 rfl o ?_
      refine AW.callV (pc := 865) (As := [vI (xs ((v3 + 1)).toNat)]) (st := []) dL_law_865 cl_L_127 kd_0 hl_0 ⟨Nat.le_of_ble_eq_true rfl, Nat.le_of_ble_eq_true rfl⟩ (Nat.le_of_ble_eq_true rfl) (Nat.le_of_ble_eq_true rfl) h ?_
      rintro _ M865 ⟨r865, rfl, h⟩
      show AW (mL_law n xs) 868 [some (vR 85), some (vR 0), some (vR 50), some (vI v3)] [vI r865] M865 (QI K)
      refine AW.aload_n (pc := 868) (x := 50) dL_law_868 rfl ?_
      refine AW.aload_n (pc := 869) (x := 85) dL_law_869 rfl ?_
      refine AW.iload_n (pc := 870) (x := v3) dL_law_870 rfl ?_
      refine AW.iconst (pc := 871) dL_law_871 ?_
      refine AW.iadd (pc := 872) dL_law_872 ?_
      obtain ⟨o, h⟩ := h
      refine AW.sald (pc := 873) dL_law_873 rfl o ?_
      refine AW.callV (pc := 874) (As := [vI (xs ((v3 + 1)).toNat)]) (st := [vI r865]) dL_law_874 cl_L_130 kd_50 hl_50 ⟨Nat.le_of_ble_eq_true rfl, Nat.le_of_ble_eq_true rfl⟩ (Nat.le_of_ble_eq_true rfl) (Nat.le_of_ble_eq_true rfl) h ?_
      rintro _ M874 ⟨r874, rfl, h⟩
      show AW (mL_law n xs) 877 [some (vR 85), some (vR 0), some (vR 50), some (vI v3)] [vI r874, vI r865] M874 (QI K)
      obtain ⟨o, ha, hb⟩ := h
      refine AW.icmp_eq (pc := 877) (tgt := 938) dL_law_877 (by decide) o.1 o.2 (fun hc => ?_) (fun hc => ?_)
      · have h := ha hc
        exact h
      · have h := hb hc
        refine AW.iconst (pc := 880) dL_law_880 ?_
        exact AW.zret (st := []) (pc := 881) dL_law_881 rfl (by decide) ⟨_, rfl, h⟩
    by_cases hc28 : (Int32.ofInt (xs (v3).toNat) &&& Int32.ofInt 31).toInt = 28
    · have h := h.2.2.2.2.2.2.2.2.2.2.2.2.2.2.2.2.2.2.2.2.2.2.2.2.2.2.2.2.1 hc28
      refine AW.tblI (pc := 33) (x := (Int32.ofInt (xs (v3).toNat) &&& Int32.ofInt 31).toInt) (tgt := 882) dL_law_33 o (by omega) (by omega) (off := 849) (by rw [hc28]; rfl) (by decide) ?_
      refine AW.aload_n (pc := 882) (x := 0) dL_law_882 rfl ?_
      refine AW.aload_n (pc := 883) (x := 85) dL_law_883 rfl ?_
      refine AW.iload_n (pc := 884) (x := v3) dL_law_884 rfl ?_
      refine AW.iconst (pc := 885) dL_law_885 ?_
      refine AW.iadd (pc := 886) dL_law_886 ?_
      obtain ⟨o, h⟩ := h
      refine AW.sald (pc := 887) dL_law_887 rfl o ?_
      refine AW.callV (pc := 888) (As := [vI (xs ((v3 + 1)).toNat)]) (st := []) dL_law_888 cl_L_131 kd_0 hl_0 ⟨Nat.le_of_ble_eq_true rfl, Nat.le_of_ble_eq_true rfl⟩ (Nat.le_of_ble_eq_true rfl) (Nat.le_of_ble_eq_true rfl) h ?_
      rintro _ M888 ⟨r888, rfl, h⟩
      show AW (mL_law n xs) 891 [some (vR 85), some (vR 0), some (vR 50), some (vI v3)] [vI r888] M888 (QI K)
      refine AW.aload_n (pc := 891) (x := 50) dL_law_891 rfl ?_
      refine AW.aload_n (pc := 892) (x := 85) dL_law_892 rfl ?_
      refine AW.iload_n (pc := 893) (x := v3) dL_law_893 rfl ?_
      refine AW.iconst (pc := 894) dL_law_894 ?_
      refine AW.iadd (pc := 895) dL_law_895 ?_
      obtain ⟨o, h⟩ := h
      refine AW.sald (pc := 896) dL_law_896 rfl o ?_
      refine AW.callV (pc := 897) (As := [vI (xs ((v3 + 1)).toNat)]) (st := [vI r888]) dL_law_897 cl_L_134 kd_50 hl_50 ⟨Nat.le_of_ble_eq_true rfl, Nat.le_of_ble_eq_true rfl⟩ (Nat.le_of_ble_eq_true rfl) (Nat.le_of_ble_eq_true rfl) h ?_
      rintro _ M897 ⟨r897, rfl, h⟩
      show AW (mL_law n xs) 900 [some (vR 85), some (vR 0), some (vR 50), some (vI v3)] [vI r897, vI r888] M897 (QI K)
      obtain ⟨o, ha, hb⟩ := h
      refine AW.icmp_eq (pc := 900) (tgt := 938) dL_law_900 (by decide) o.1 o.2 (fun hc => ?_) (fun hc => ?_)
      · have h := ha hc
        exact h
      · have h := hb hc
        refine AW.iconst (pc := 903) dL_law_903 ?_
        exact AW.zret (st := []) (pc := 904) dL_law_904 rfl (by decide) ⟨_, rfl, h⟩
    by_cases hc29 : (Int32.ofInt (xs (v3).toNat) &&& Int32.ofInt 31).toInt = 29
    · have h := h.2.2.2.2.2.2.2.2.2.2.2.2.2.2.2.2.2.2.2.2.2.2.2.2.2.2.2.2.2.1 hc29
      refine AW.tblI (pc := 33) (x := (Int32.ofInt (xs (v3).toNat) &&& Int32.ofInt 31).toInt) (tgt := 905) dL_law_33 o (by omega) (by omega) (off := 872) (by rw [hc29]; rfl) (by decide) ?_
      refine AW.aload_n (pc := 905) (x := 0) dL_law_905 rfl ?_
      refine AW.aload_n (pc := 906) (x := 85) dL_law_906 rfl ?_
      refine AW.iload_n (pc := 907) (x := v3) dL_law_907 rfl ?_
      refine AW.iconst (pc := 908) dL_law_908 ?_
      refine AW.iadd (pc := 909) dL_law_909 ?_
      obtain ⟨o, h⟩ := h
      refine AW.sald (pc := 910) dL_law_910 rfl o ?_
      refine AW.aload_n (pc := 911) (x := 85) dL_law_911 rfl ?_
      refine AW.iload_n (pc := 912) (x := v3) dL_law_912 rfl ?_
      refine AW.iconst (pc := 913) dL_law_913 ?_
      refine AW.iadd (pc := 914) dL_law_914 ?_
      obtain ⟨o, h⟩ := h
      refine AW.sald (pc := 915) dL_law_915 rfl o ?_
      refine AW.callV (pc := 916) (As := [vI (xs ((v3 + 1)).toNat), vI (xs ((v3 + 2)).toNat)]) (st := []) dL_law_916 cl_L_135 kd_0 hl_0 ⟨Nat.le_of_ble_eq_true rfl, Nat.le_of_ble_eq_true rfl⟩ (Nat.le_of_ble_eq_true rfl) (Nat.le_of_ble_eq_true rfl) h ?_
      rintro _ M916 ⟨r916, rfl, h⟩
      show AW (mL_law n xs) 919 [some (vR 85), some (vR 0), some (vR 50), some (vI v3)] [vI r916] M916 (QI K)
      refine AW.aload_n (pc := 919) (x := 50) dL_law_919 rfl ?_
      refine AW.aload_n (pc := 920) (x := 85) dL_law_920 rfl ?_
      refine AW.iload_n (pc := 921) (x := v3) dL_law_921 rfl ?_
      refine AW.iconst (pc := 922) dL_law_922 ?_
      refine AW.iadd (pc := 923) dL_law_923 ?_
      obtain ⟨o, h⟩ := h
      refine AW.sald (pc := 924) dL_law_924 rfl o ?_
      refine AW.aload_n (pc := 925) (x := 85) dL_law_925 rfl ?_
      refine AW.iload_n (pc := 926) (x := v3) dL_law_926 rfl ?_
      refine AW.iconst (pc := 927) dL_law_927 ?_
      refine AW.iadd (pc := 928) dL_law_928 ?_
      obtain ⟨o, h⟩ := h
      refine AW.sald (pc := 929) dL_law_929 rfl o ?_
      refine AW.callV (pc := 930) (As := [vI (xs ((v3 + 1)).toNat), vI (xs ((v3 + 2)).toNat)]) (st := [vI r916]) dL_law_930 cl_L_138 kd_50 hl_50 ⟨Nat.le_of_ble_eq_true rfl, Nat.le_of_ble_eq_true rfl⟩ (Nat.le_of_ble_eq_true rfl) (Nat.le_of_ble_eq_true rfl) h ?_
      rintro _ M930 ⟨r930, rfl, h⟩
      show AW (mL_law n xs) 933 [some (vR 85), some (vR 0), some (vR 50), some (vI v3)] [vI r930, vI r916] M930 (QI K)
      obtain ⟨o, ha, hb⟩ := h
      refine AW.icmp_eq (pc := 933) (tgt := 938) dL_law_933 (by decide) o.1 o.2 (fun hc => ?_) (fun hc => ?_)
      · have h := ha hc
        exact h
      · have h := hb hc
        refine AW.iconst (pc := 936) dL_law_936 ?_
        exact AW.zret (st := []) (pc := 937) dL_law_937 rfl (by decide) ⟨_, rfl, h⟩
    have h := h.2.2.2.2.2.2.2.2.2.2.2.2.2.2.2.2.2.2.2.2.2.2.2.2.2.2.2.2.2.2 (by omega)
    refine AW.tblO (pc := 33) (x := (Int32.ofInt (xs (v3).toNat) &&& Int32.ofInt 31).toInt) (tgt := 938) dL_law_33 o (by omega) (by decide) ?_
    exact h

set_option maxRecDepth 20000 in
set_option maxHeartbeats 4000000 in
theorem sg_L_law_938 {M : Mem} {n : Nat} {xs : Nat → Int} {K : Int → Mem → Prop} {v3 : Int} 
    (h : AW (mL_law n xs) 18 [some (vR 85), some (vR 0), some (vR 50), some (vI (v3 + 6))] [] M (QI K)) :
    AW (mL_law n xs) 938 [some (vR 85), some (vR 0), some (vR 50), some (vI v3)] [] M (QI K) := by
  refine AW.iinc (pc := 938) (x := v3) (ls2 := [some (vR 85), some (vR 0), some (vR 50), some (vI (v3 + 6))]) dL_law_938 rfl (Nat.le_of_ble_eq_true rfl) rfl ?_
  refine AW.goto (pc := 941) (tgt := 18) dL_law_941 (by decide) ?_
  exact h

