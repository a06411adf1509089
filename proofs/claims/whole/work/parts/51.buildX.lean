/-! the class: a value's nodes, all in all -/
section
variable {g : Sg} {d : Nd}
theorem c_build {M : Mem} {K : Int → Mem → Prop} (hg : SgOK g) (hX : XSig g M) (hO : XCnt g M) {t s i : Int} (hv : Vd g t s i) (h12 : M 12 1 = nN d) (hn : 0 ≤ nN d ∧ nN d + s ≤ 100)
    (kk : ∀ M', Fr [12, 13, 14, 15, 17, 18, 19, 20, 21] M M' → M' 12 1 = nN d + s → (∀ n, (n < nN d ∨ nN d + s ≤ n) → M' 13 n = M 13 n ∧ M' 14 n = M 14 n) → (∀ x, (x < nN d * 3 ∨ (nN d + s) * 3 ≤ x) → M' 15 x = M 15 x) → Bt g (M' 13) (M' 14) (M' 15) s.toNat (nN d) t s i → K (nN d + s - 1) M') : CI mX7_build [vR 17, vI t, vI s, vI i] M K := by
  have hs := hv.2.1
  have hi := hv.2.2
  have bC := Cs_bd (g := g) t s
  refine en_X7_build (c_keyOf (en_X7_await ?_))
  have e6 : up M 17 6 0 17 6 = 0 := up_same
  rw [e6]
  refine ⟨by decide, fun z => absurd z (by decide), fun _ => ⟨by decide, by decide, by decide, ?_⟩⟩
  generalize hM1 : up (up (up (up (up M 17 6 0) 18 0 t) 19 0 (s * 1000000 + i)) 20 0 (-13)) 17 6 (0 + 1) = M1
  have F1 : Fr [17, 18, 19, 20] M M1 := by
    rw [← hM1]
    exact (((((Fr.refl _ M).up (by decide)).up (by decide)).up (by decide)).up (by decide)).up (by decide)
  have a17 : M1 17 6 = 1 := by rw [← hM1]; rfl
  have a18 : M1 18 0 = t := by rw [← hM1]; rfl
  have a19 : M1 19 0 = s * 1000000 + i := by rw [← hM1]; rfl
  have a20 : M1 20 0 = -13 := by rw [← hM1]; rfl
  clear hM1 e6
  rw [h12]
  refine c_buildLoop hg hn.1 _ M1 (nN d + s - 1) (fun _ => s) (fun _ => i) (fun e => if e < 0 then nN d - 1 else nN d + s - 1) 1 rfl (by omega) (by omega) (by omega) (hX.fr F1 (by decide)) (hO.fr F1 (by decide)) ⟨⟨by decide, a17⟩, rfl, rfl, fun e e0 e1 => ?_, fun e e2 e0 e1 e3 => by omega⟩ (fun M' hF' u1 u2 u3 => ?_)
  · have e : e = 0 := by omega
    subst e
    rw [a18, a19, a20]
    refine ⟨hv, rfl, ?_, Or.inl rfl⟩
    show nN d + s - 1 = nN d - 1 + s
    omega
  · have q := (u3 0 (by omega) (by omega)).1
    rw [a18] at q
    have q : Bt g (M' 13) (M' 14) (M' 15) s.toNat (nN d - 1 + 1) t s i := q
    rw [show nN d - 1 + 1 = nN d by omega] at q
    have e12 : M' 12 1 = nN d := by rw [hF' 12 (by decide), F1 12 (by decide)]; exact h12
    rw [e12]
    refine kk _ (((F1.mono (by decide)).trans (hF'.mono (by decide))).up (by decide)) up_same (fun n hn2 => ?_) (fun x hx => ?_) q
    · have y := u1 n (by omega)
      rw [up_ne (by decide), up_ne (by decide), y.1, y.2, F1 13 (by decide), F1 14 (by decide)]
      exact ⟨rfl, rfl⟩
    · rw [up_ne (by decide), u2 x ?_, F1 15 (by decide)]
      rcases hx with z | z
      · exact Or.inl z
      · refine Or.inr ⟨by omega, fun e e0 e1 => ?_⟩
        have e : e = 0 := by omega
        rw [e, a20]
        omega
end
