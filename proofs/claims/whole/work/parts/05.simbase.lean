/-! THE ABSTRACT MACHINE'S WORLD ON THE REAL HEAP -/
def ce (ad : Nat → Nat) (cs : ClassId × ClassId × ClassId) (M : Mem) (h : Nat) : va_E :=
  if (kd h).1 = 0 then .inl (cs.1, (kd h).2.1, .inl (fun j => Int32.ofInt (M h j)))
  else if (kd h).1 = 1 then .inl (cs.2.1, (kd h).2.1, .inl (fun j => Int32.ofInt (M h j)))
  else if (kd h).1 = 2 then .inl (cs.2.2, (kd h).2.1, .inr (.inl (fun j => Int64.ofInt (M h j))))
  else .inr ((kd h).2.1, (kd h).2.2.mapIdx (fun k o => match o with | some h2 => .ref (ad h2) | none => .int (Int32.ofInt (M h k))))
def wsOf (ad : Nat → Nat) (cs : ClassId × ClassId × ClassId) (M : Mem) : va_W := (List.range nH).map (fun h => (ad h, ce ad cs M h))
theorem wsOf_get {ad : Nat → Nat} {cs : ClassId × ClassId × ClassId} {M : Mem} {h : Nat} (hh : h < nH) : (wsOf ad cs M)[h]? = some (ad h, ce ad cs M h) := by
  simp [wsOf, hh]
theorem ce_congr {ad : Nat → Nat} {cs : ClassId × ClassId × ClassId} {M M' : Mem} {h : Nat} (e : M' h = M h) : ce ad cs M' h = ce ad cs M h := by
  unfold ce
  rw [e]
theorem wsOf_set {ad : Nat → Nat} {cs : ClassId × ClassId × ClassId} {M M' : Mem} {h : Nat} {e : va_E} (hh : h < nH) (hne : ∀ h', h' ≠ h → M' h' = M h') (he : ce ad cs M' h = e) : (wsOf ad cs M).set h (ad h, e) = wsOf ad cs M' := by
  have hl : h < (wsOf ad cs M).length := by simp [wsOf, hh]
  apply List.ext_getElem?
  intro k
  by_cases hk : k = h
  · subst hk
    rw [List.getElem?_set_self hl, wsOf_get hh, he]
  · rw [List.getElem?_set_ne (Ne.symm hk)]
    by_cases hkn : k < nH
    · rw [wsOf_get hkn, wsOf_get hkn, ce_congr (hne k hk)]
    · rw [List.getElem?_eq_none (by simp [wsOf]; omega), List.getElem?_eq_none (by simp [wsOf]; omega)]
theorem ce_0 {ad : Nat → Nat} {cs : ClassId × ClassId × ClassId} {M : Mem} {h n : Nat} (hk : kd h = (0, n, [])) : ce ad cs M h = .inl (cs.1, n, .inl (fun j => Int32.ofInt (M h j))) := by simp [ce, hk]
theorem ce_1 {ad : Nat → Nat} {cs : ClassId × ClassId × ClassId} {M : Mem} {h n : Nat} (hk : kd h = (1, n, [])) : ce ad cs M h = .inl (cs.2.1, n, .inl (fun j => Int32.ofInt (M h j))) := by simp [ce, hk]
theorem ce_2 {ad : Nat → Nat} {cs : ClassId × ClassId × ClassId} {M : Mem} {h n : Nat} (hk : kd h = (2, n, [])) : ce ad cs M h = .inl (cs.2.2, n, .inr (.inl (fun j => Int64.ofInt (M h j)))) := by simp [ce, hk]
abbrev fv (ad : Nat → Nat) (M : Mem) (h : Nat) (fs : List (Option Nat)) : List Value := fs.mapIdx (fun k o => match o with | some h2 => .ref (ad h2) | none => .int (Int32.ofInt (M h k)))
theorem ce_3 {ad : Nat → Nat} {cs : ClassId × ClassId × ClassId} {M : Mem} {h ci : Nat} {fs : List (Option Nat)} (hk : kd h = (3, ci, fs)) : ce ad cs M h = .inr (ci, fv ad M h fs) := by simp [ce, hk]
theorem kd_small : ∀ h, (kd h).2.1 < 2147483648 := by
  intro h
  by_cases hh : h < 85
  · revert h
    decide +kernel
  · have hl : kdT.length = 85 := by decide +kernel
    have e : kd h = (9, 0, []) := by
      unfold kd
      rw [List.getD_eq_getElem?_getD, List.getElem?_eq_none (by omega)]
      rfl
    rw [e]
    decide
theorem kd_n {h t n : Nat} {fs : List (Option Nat)} (hk : kd h = (t, n, fs)) : n < 2147483648 := by
  have := kd_small h
  rw [hk] at this
  exact this
def DA (ad : Nat → Nat) (A : Nat → Prop) : Prop := (∀ i j, i < nH → j < nH → ad i = ad j → i = j) ∧ ∀ h, h < nH → A (ad h)
theorem DA.D {ad : Nat → Nat} {A : Nat → Prop} (h : DA ad A) {cs : ClassId × ClassId × ClassId} {M : Mem} : va_D A (wsOf ad cs M) := by
  have key : ∀ (k : Nat) (q : Nat × va_E), (wsOf ad cs M)[k]? = some q → k < nH ∧ q.1 = ad k := by
    intro k q hk
    have hl : k < nH := by
      have := (List.getElem?_eq_some_iff.mp hk).1
      simpa [wsOf] using this
    rw [wsOf_get hl] at hk
    cases hk
    exact ⟨hl, rfl⟩
  refine ⟨fun i j p q hi hj hpq => ?_, fun k q hk => ?_⟩
  · obtain ⟨a1, a2⟩ := key i p hi
    obtain ⟨b1, b2⟩ := key j q hj
    exact h.1 i j a1 b1 (by rw [← a2, ← b2]; exact hpq)
  · obtain ⟨a1, a2⟩ := key k q hk
    rw [a2]
    exact h.2 k a1
def tysOf (cs : ClassId × ClassId × ClassId) : List (ClassId × FieldType) := [(cs.1, .int), (cs.2.1, .boolean), (cs.2.2, .long)]
/-- what of the tables a world holds -/
def Wo (Dd : va_G) (cs : ClassId × ClassId × ClassId) (U : State) : Prop := va_K Dd classes (tysOf cs) U ∧ (∀ w ∈ NWs, va_Nw (.methodLinkNest w.1 w.2.1 w.2.2 nHost) U) ∧ ∀ f ∈ FWs, va_Fw f.1 f.2.1 f.2.2 U
theorem FWs_ok : ∀ f ∈ FWs, f.2.1.cls ≠ "java/lang/invoke/MethodHandle" ∧ f.2.1.cls ≠ "java/lang/invoke/VarHandle" := by decide +kernel
theorem Wo.warm {Dd : va_G} {cs : ClassId × ClassId × ClassId} {s U : State} (hW : s.WarmedH U.vm) (h : Wo Dd cs s) : Wo Dd cs U :=
  ⟨va_K.moved hW.alike h.1, fun w hw => va_Nw.warmM hW (h.2.1 w hw), fun f hf => va_Fw.moved (FWs_ok f hf) hW.alike (h.2.2 f hf)⟩
theorem Wo.same {Dd : va_G} {cs : ClassId × ClassId × ClassId} {s U : State} (e : s.vm = U.vm) (h : Wo Dd cs s) : Wo Dd cs U :=
  ⟨va_K.moved (e ▸ Vm.Alike.refl s.vm) h.1, fun w hw => va_Nw.same rfl e (h.2.1 w hw), fun f hf => va_Fw.moved (FWs_ok f hf) (e ▸ Vm.Alike.refl s.vm) (h.2.2 f hf)⟩
/-! locals -/
def LR (ad : Nat → Nat) (la : Array Slot) (n : Nat) (ls : Ls) : Prop := la.size = n ∧ lv_wf la ∧ ∀ (i : Nat) (v : AV), ls[i]? = some (some v) → la[i]? = some (.val (cv ad v))
def asc (ad : Nat → Nat) (ls : Ls) : List (Nat × Value) := (List.range ls.length).filterMap (fun i => match ls[i]? with | some (some v) => some (i, cv ad v) | _ => none)
theorem asc_mem {ad : Nat → Nat} {ls : Ls} {i : Nat} {v : AV} (h : ls[i]? = some (some v)) : (i, cv ad v) ∈ asc ad ls := by
  refine List.mem_filterMap.mpr ⟨i, List.mem_range.mpr (List.getElem?_eq_some_iff.mp h).1, ?_⟩
  rw [h]
theorem asc_of {ad : Nat → Nat} {ls : Ls} {q : Nat × Value} (h : q ∈ asc ad ls) : ∃ v : AV, ls[q.1]? = some (some v) ∧ q.2 = cv ad v := by
  obtain ⟨i, -, h2⟩ := List.mem_filterMap.mp h
  cases e : ls[i]? with
  | none => rw [e] at h2; cases h2
  | some o =>
    cases o with
    | none => rw [e] at h2; cases h2
    | some v => rw [e] at h2; cases h2; exact ⟨v, e, rfl⟩
theorem LR.has {ad : Nat → Nat} {la : Array Slot} {n : Nat} {ls : Ls} (h : LR ad la n ls) : lv_has la n (asc ad ls) := ⟨h.1, h.2.1, fun q hq => by
  obtain ⟨v, h1, h2⟩ := asc_of hq
  rw [h2]
  exact h.2.2 _ _ h1⟩
theorem cat_cv (ad : Nat → Nat) (v : AV) : (cv ad v).category = if cat1 v then 1 else 2 := by
  rcases v with x | x | h <;> rfl
theorem setL_get (ls : Ls) : ∀ (i j : Nat) (v : Option AV) (w : AV), (setL ls i v)[j]? = some (some w) → (j = i ∧ v = some w) ∨ (j ≠ i ∧ ls[j]? = some (some w) ∧ ¬ (j + 1 = i ∧ cat1 w = false)) := by
  induction ls with
  | nil => intro i j v w h; cases i <;> simp [setL] at h
  | cons a t ih =>
    intro i j v w h
    match i with
    | 0 =>
      simp only [setL] at h
      cases j with
      | zero => simp at h; exact Or.inl ⟨rfl, h⟩
      | succ j => rw [List.getElem?_cons_succ] at h ⊢; exact Or.inr ⟨by omega, h, by omega⟩
    | 1 =>
      simp only [setL] at h
      cases j with
      | zero =>
        rw [List.getElem?_cons_zero] at h
        refine Or.inr ⟨by omega, ?_, ?_⟩
        · rw [List.getElem?_cons_zero]
          revert h
          split
          · intro h; cases h
          · exact id
        · rintro ⟨-, hw⟩
          revert h
          split
          · intro h; cases h
          · rename_i hn
            intro h
            cases h
            rcases w with x | x | x
            · cases hw
            · exact hn x rfl
            · cases hw
      | succ j =>
        rw [List.getElem?_cons_succ] at h ⊢
        rcases ih 0 j v w h with ⟨h1, h2⟩ | ⟨h1, h2, h3⟩
        · exact Or.inl ⟨by omega, h2⟩
        · exact Or.inr ⟨by omega, h2, by omega⟩
    | i + 2 =>
      simp only [setL] at h
      cases j with
      | zero => rw [List.getElem?_cons_zero] at h ⊢; exact Or.inr ⟨by omega, h, by omega⟩
      | succ j =>
        rw [List.getElem?_cons_succ] at h ⊢
        rcases ih (i + 1) j v w h with ⟨h1, h2⟩ | ⟨h1, h2, h3⟩
        · exact Or.inl ⟨by omega, h2⟩
        · exact Or.inr ⟨by omega, h2, fun q => h3 ⟨by omega, q.2⟩⟩
theorem LR.store {ad : Nat → Nat} {la : Array Slot} {n i : Nat} {ls : Ls} {v : AV} (h : lv_has la n ((i, cv ad v) :: (asc ad ls).filter (fun q => !(q.1 == i) && !(q.1 + 1 == i && q.2.category == 2)))) : LR ad la n (setL ls i (some v)) := by
  refine ⟨h.1, h.2.1, fun j w hw => ?_⟩
  rcases setL_get ls i j (some v) w hw with ⟨h1, h2⟩ | ⟨h1, h2, h3⟩
  · subst h1
    cases h2
    exact h.2.2 (j, cv ad v) List.mem_cons_self
  · refine h.2.2 (j, cv ad w) (List.mem_cons_of_mem _ (List.mem_filter.mpr ⟨asc_mem h2, ?_⟩))
    simp only [Bool.and_eq_true, Bool.not_eq_true', beq_eq_false_iff_ne, Bool.and_eq_false_iff, cat_cv]
    refine ⟨h1, ?_⟩
    by_cases e : j + 1 = i
    · right
      cases hc : cat1 w
      · exact absurd ⟨e, hc⟩ h3
      · simp
    · left
      exact e
theorem LR.store2 {ad : Nat → Nat} {la : Array Slot} {n i : Nat} {ls : Ls} {v : AV} (h : lv_has la n ((i, cv ad v) :: (asc ad ls).filter (fun q => !(q.1 == i) && (!(q.1 == i + 1) && !(q.1 + 1 == i && q.2.category == 2))))) : LR ad la n (setL2 ls i (some v)) := by
  refine ⟨h.1, h.2.1, fun j w hw => ?_⟩
  rcases setL_get _ i j (some v) w hw with ⟨h1, h2⟩ | ⟨h1, h2, h3⟩
  · subst h1
    cases h2
    exact h.2.2 (j, cv ad v) List.mem_cons_self
  · rcases setL_get ls (i + 1) j none w h2 with ⟨g1, g2⟩ | ⟨g1, g2, g3⟩
    · cases g2
    · refine h.2.2 (j, cv ad w) (List.mem_cons_of_mem _ (List.mem_filter.mpr ⟨asc_mem g2, ?_⟩))
      simp only [Bool.and_eq_true, Bool.not_eq_true', beq_eq_false_iff_ne, Bool.and_eq_false_iff, cat_cv]
      refine ⟨h1, g1, ?_⟩
      by_cases e : j + 1 = i
      · right
        cases hc : cat1 w
        · exact absurd ⟨e, hc⟩ h3
        · simp
      · left
        exact e
theorem entS_sl (ad : Nat → Nat) (As : List AV) : (entS As).length = (lg_sl (As.map (cv ad))).length ∧ ∀ (i : Nat) (v : AV), (entS As)[i]? = some (some v) → (lg_sl (As.map (cv ad)))[i]? = some (.val (cv ad v)) := by
  induction As with
  | nil => exact ⟨rfl, fun i v h => by simp [entS] at h⟩
  | cons a t ih =>
    have e1 : entS (a :: t) = (if cat1 a then [some a] else [some a, none]) ++ entS t := by simp [entS]
    have e2 : lg_sl ((a :: t).map (cv ad)) = (if (cv ad a).category = 2 then [.val (cv ad a), .second] else [.val (cv ad a)]) ++ lg_sl (t.map (cv ad)) := by simp [lg_sl]
    rw [e1, e2, cat_cv]
    cases hc : cat1 a
    · simp only [Bool.false_eq_true, if_false, if_true]
      refine ⟨by simp [ih.1], fun i v h => ?_⟩
      match i with
      | 0 => simp at h ⊢; rw [h]
      | 1 => simp at h
      | i + 2 => simp at h ⊢; exact ih.2 i v h
    · simp only [if_true]
      refine ⟨by simp [ih.1], fun i v h => ?_⟩
      match i with
      | 0 => simp at h ⊢; rw [h]
      | i + 1 => simp at h ⊢; exact ih.2 i v h
theorem LR.entry {ad : Nat → Nat} {As : List AV} {n : Nat} (h : (entS As).length ≤ n) : LR ad ((lg_sl (As.map (cv ad)) ++ List.replicate (n - (lg_sl (As.map (cv ad))).length) Slot.unset).toArray) n (entL As n) := by
  obtain ⟨e1, e2⟩ := entS_sl ad As
  have hl := lv_entry (As.map (cv ad)) (n := n) (by rw [← e1]; exact h)
  refine ⟨hl.1, hl.2.1, fun i v hv => ?_⟩
  unfold entL at hv
  by_cases hi : i < (entS As).length
  · rw [List.getElem?_append_left hi] at hv
    have := e2 i v hv
    simp only [List.getElem?_toArray]
    rw [List.getElem?_append_left (by rw [← e1]; exact hi)]
    exact this
  · rw [List.getElem?_append_right (by omega)] at hv
    have hm := List.mem_of_getElem? hv
    rw [List.mem_replicate] at hm
    cases hm.2
theorem lsub_get : ∀ (a b : Ls), lsub a b → ∀ (i : Nat) (v : AV), a[i]? = some (some v) → b[i]? = some (some v)
  | [], _, _, i, v, h => by simp at h
  | none :: a, w :: b, hs, 0, v, h => by simp at h
  | none :: a, w :: b, hs, i + 1, v, h => by
    rw [List.getElem?_cons_succ] at h ⊢
    exact lsub_get a b hs i v h
  | none :: a, [], hs, 0, v, h => by simp at h
  | none :: a, [], hs, i + 1, v, h => by
    rw [List.getElem?_cons_succ] at h
    have := lsub_get a [] hs i v h
    simp at this
  | some u :: a, w :: b, hs, 0, v, h => by
    rw [List.getElem?_cons_zero] at h ⊢
    rw [hs.1]
    exact h
  | some u :: a, w :: b, hs, i + 1, v, h => by
    rw [List.getElem?_cons_succ] at h ⊢
    exact lsub_get a b hs.2 i v h
theorem good_all {ws : List Cond} (h : ∀ w ∈ ws, w ∈ lw_good) : GoodIn lw_good ws := fun w hw => ⟨h w hw, good_of_word (List.mem_filter.mp (h w hw)).2⟩
theorem cls_cn : ∀ ci, ci < 12 → ∃ (T : u_T) (N : Nat), classes[ci]? = some (cn ci, T, N) := by
  intro ci h
  match ci, h with
  | 0, _ => exact ⟨_, _, rfl⟩
  | 1, _ => exact ⟨_, _, rfl⟩
  | 2, _ => exact ⟨_, _, rfl⟩
  | 3, _ => exact ⟨_, _, rfl⟩
  | 4, _ => exact ⟨_, _, rfl⟩
  | 5, _ => exact ⟨_, _, rfl⟩
  | 6, _ => exact ⟨_, _, rfl⟩
  | 7, _ => exact ⟨_, _, rfl⟩
  | 8, _ => exact ⟨_, _, rfl⟩
  | 9, _ => exact ⟨_, _, rfl⟩
  | 10, _ => exact ⟨_, _, rfl⟩
  | 11, _ => exact ⟨_, _, rfl⟩
  | n + 12, h => omega
