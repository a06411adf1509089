/-! the sizes of the smallest values: four rounds are enough -/
def usf (g : Sg) (s : Int → Int) (c : Int) : Nat → Bool
  | 0 => true
  | k + 1 => usf g s c k && decide (0 ≤ s (gG g (c * 3 + (k : Int))))
def szk (g : Sg) (s : Int → Int) (c : Int) : Nat → Int
  | 0 => 1
  | k + 1 => szk g s c k + s (gG g (c * 3 + (k : Int)))
abbrev ari (g : Sg) (c : Int) : Nat := (gA g c).toNat
def im (g : Sg) (s : Int → Int) (c : Int) : Int → Int := if usf g s c (ari g c) = true ∧ (s (gR g c) < 0 ∨ szk g s c (ari g c) < s (gR g c)) then (fun t => if t = gR g c then szk g s c (ari g c) else s t) else s
def rdf (g : Sg) (s : Int → Int) : Nat → Int → Int
  | 0 => s
  | n + 1 => im g (rdf g s n) n
def rd (g : Sg) (s : Int → Int) : Int → Int := rdf g s (gN g).toNat
def rdn (g : Sg) : Nat → Int → Int
  | 0 => fun _ => -13
  | n + 1 => rd g (rdn g n)
def Sm (g : Sg) : Int → Int := rdn g 4
def p4 : Nat → Int
  | 0 => 1
  | n + 1 => 4 * p4 n
def st4 (s : Int → Int) : Nat := (if 0 ≤ s 0 then 1 else 0) + (if 0 ≤ s 1 then 1 else 0) + (if 0 ≤ s 2 then 1 else 0) + (if 0 ≤ s 3 then 1 else 0)
def Gd (s : Int → Int) : Prop := (∀ t, s t = -13 ∨ 1 ≤ s t) ∧ (∀ t, (t < 0 ∨ 4 ≤ t) → s t = -13) ∧ ∀ t, s t ≤ p4 (st4 s)
theorem p4_pos : ∀ n, 1 ≤ p4 n
  | 0 => by simp [p4]
  | n + 1 => by have := p4_pos n; simp only [p4]; omega
theorem st4_le (s : Int → Int) : st4 s ≤ 4 := by unfold st4; (repeat' split) <;> omega
theorem p4_st4 (s : Int → Int) : p4 (st4 s) ≤ 256 := by
  have := st4_le s
  rcases (show st4 s = 0 ∨ st4 s = 1 ∨ st4 s = 2 ∨ st4 s = 3 ∨ st4 s = 4 by omega) with h | h | h | h | h <;> rw [h] <;> decide
theorem Gd.bd {s : Int → Int} (h : Gd s) (t : Int) : -13 ≤ s t ∧ s t ≤ 256 := by
  have a := h.1 t
  have b := h.2.2 t
  have c := p4_st4 s
  omega
theorem usf_iff {g : Sg} {s : Int → Int} {c : Int} : ∀ (n : Nat), usf g s c n = true ↔ ∀ k : Nat, k < n → 0 ≤ s (gG g (c * 3 + (k : Int)))
  | 0 => by simp [usf]
  | n + 1 => by
    simp only [usf, Bool.and_eq_true, decide_eq_true_eq, usf_iff n]
    constructor
    · intro h k hk
      by_cases e : k = n
      · rw [e]; exact h.2
      · exact h.1 k (by omega)
    · intro h
      exact ⟨fun k hk => h k (by omega), h n (by omega)⟩
theorem szk_bd {g : Sg} {s : Int → Int} {c : Int} (hs : Gd s) : ∀ (n : Nat), usf g s c n = true → 1 + (n : Int) ≤ szk g s c n ∧ szk g s c n ≤ 1 + n * p4 (st4 s)
  | 0, _ => by simp [szk]
  | n + 1, h => by
    have h2 := (usf_iff (n + 1)).mp h
    have a := szk_bd hs n ((usf_iff n).mpr (fun k hk => h2 k (by omega)))
    have b := h2 n (by omega)
    have b1 := hs.1 (gG g (c * 3 + (n : Int)))
    have b2 := hs.2.2 (gG g (c * 3 + (n : Int)))
    simp only [szk]
    have e : ((n + 1 : Nat) : Int) * p4 (st4 s) = n * p4 (st4 s) + p4 (st4 s) := by
      rw [Int.natCast_add, Int.add_mul]
      simp
    rw [e]
    omega
/-- a part's size is less than the whole's -/
theorem szk_arg {g : Sg} {s : Int → Int} {c : Int} (hs : Gd s) : ∀ (n : Nat), usf g s c n = true → ∀ k : Nat, k < n → s (gG g (c * 3 + (k : Int))) < szk g s c n
  | 0, _, k, hk => by omega
  | n + 1, h, k, hk => by
    have h2 := (usf_iff (n + 1)).mp h
    have hn := (usf_iff n).mpr (fun k hk => h2 k (by omega))
    have b := h2 n (by omega)
    have a := (szk_bd hs n hn).1
    simp only [szk]
    by_cases e : k = n
    · rw [e]; omega
    · have := szk_arg hs n hn k (by omega)
      omega
def ev (x : Int) : Int := if x < 0 then 1000000000 else x
def LeS (a b : Int → Int) : Prop := ∀ t, ev (a t) ≤ ev (b t)
theorem LeS.rf (a : Int → Int) : LeS a a := fun _ => Int.le_refl _
theorem LeS.tr {a b c : Int → Int} (h : LeS a b) (k : LeS b c) : LeS a c := fun t => Int.le_trans (h t) (k t)
theorem LeS.eq {a b : Int → Int} (ha : Gd a) (hb : Gd b) {t : Int} (h1 : ev (a t) ≤ ev (b t)) (h2 : ev (b t) ≤ ev (a t)) : a t = b t := by
  have := ha.1 t
  have := hb.1 t
  have := ha.bd t
  have := hb.bd t
  unfold ev at h1 h2
  split at h1 <;> split at h1 <;> omega
theorem LeS.fin {a b : Int → Int} (hb : Gd b) (h : LeS a b) {t : Int} (hf : 0 ≤ b t) : 0 ≤ a t ∧ a t ≤ b t := by
  have h1 := h t
  have := hb.bd t
  unfold ev at h1
  split at h1 <;> split at h1 <;> omega
theorem usf_le {g : Sg} {a b : Int → Int} {c : Int} (hb : Gd b) (h : LeS a b) {n : Nat} (hu : usf g b c n = true) : usf g a c n = true :=
  (usf_iff n).mpr (fun k hk => (h.fin hb ((usf_iff n).mp hu k hk)).1)
theorem szk_le {g : Sg} {a b : Int → Int} {c : Int} (hb : Gd b) (h : LeS a b) : ∀ (n : Nat), usf g b c n = true → szk g a c n ≤ szk g b c n
  | 0, _ => Int.le_refl _
  | n + 1, hu => by
    have h2 := (usf_iff (n + 1)).mp hu
    have a1 := szk_le hb h n ((usf_iff n).mpr (fun k hk => h2 k (by omega)))
    have a2 := (h.fin hb (h2 n (by omega))).2
    simp only [szk]
    omega
theorem im_gd {g : Sg} (hg : SgOK g) {s : Int → Int} (hs : Gd s) {c : Int} (h0 : 0 ≤ c) (h1 : c < gN g) : Gd (im g s c) := by
  unfold im
  split
  · rename_i h
    have hr := hg.r h0 h1
    have ha := hg.a h0 h1
    have hz := szk_bd hs (ari g c) h.1
    have hp := p4_pos (st4 s)
    have hsz : szk g s c (ari g c) ≤ 4 * p4 (st4 s) := by
      have e : ((ari g c : Nat) : Int) * p4 (st4 s) ≤ 3 * p4 (st4 s) := Int.mul_le_mul_of_nonneg_right (by unfold ari; omega) (by omega)
      omega
    have key : st4 (fun t => if t = gR g c then szk g s c (ari g c) else s t) = if s (gR g c) < 0 then st4 s + 1 else st4 s := by
      have hzp : 0 ≤ szk g s c (ari g c) := by omega
      unfold st4
      rcases (show gR g c = 0 ∨ gR g c = 1 ∨ gR g c = 2 ∨ gR g c = 3 by omega) with e | e | e | e <;> rw [e] <;> simp [hzp] <;> (repeat' split) <;> omega
    refine ⟨fun t => ?_, fun t ht => ?_, fun t => ?_⟩
    · by_cases e : t = gR g c
      · simp only [e, if_true]; right; omega
      · simp only [e, if_false]; exact hs.1 t
    · have e : t ≠ gR g c := by omega
      simp only [e, if_false]
      exact hs.2.1 t ht
    · rw [key]
      by_cases q : s (gR g c) < 0
      · rw [if_pos q]
        simp only [p4]
        by_cases e : t = gR g c
        · simp only [e, if_true]; exact hsz
        · simp only [e, if_false]
          have := hs.2.2 t
          omega
      · rw [if_neg q]
        by_cases e : t = gR g c
        · simp only [e, if_true]
          have := hs.2.2 (gR g c)
          omega
        · simp only [e, if_false]
          exact hs.2.2 t
  · exact hs
theorem szk_sm {g : Sg} (hg : SgOK g) {s : Int → Int} (hs : Gd s) {c : Int} (h0 : 0 ≤ c) (h1 : c < gN g) (hu : usf g s c (ari g c) = true) : 1 ≤ szk g s c (ari g c) ∧ szk g s c (ari g c) ≤ 1000 := by
  have ha := hg.a h0 h1
  have hz := szk_bd hs (ari g c) hu
  have hp := p4_st4 s
  have hp1 := p4_pos (st4 s)
  have e : ((ari g c : Nat) : Int) * p4 (st4 s) ≤ 3 * p4 (st4 s) := Int.mul_le_mul_of_nonneg_right (by unfold ari; omega) (by omega)
  omega
theorem im_le {g : Sg} (hg : SgOK g) {s : Int → Int} (hs : Gd s) {c : Int} (h0 : 0 ≤ c) (h1 : c < gN g) : LeS (im g s c) s := by
  intro t
  unfold im
  split
  · rename_i h
    by_cases e : t = gR g c
    · simp only [e, if_true]
      have hz := szk_sm hg hs h0 h1 h.1
      have hb := hs.bd (gR g c)
      unfold ev
      split
      · omega
      · split
        · omega
        · rcases h.2 with q | q <;> omega
    · simp only [e, if_false]
      exact Int.le_refl _
  · exact Int.le_refl _
theorem rdf_gd {g : Sg} (hg : SgOK g) {s : Int → Int} (hs : Gd s) : ∀ n : Nat, (n : Int) ≤ gN g → Gd (rdf g s n)
  | 0, _ => hs
  | n + 1, h => im_gd hg (rdf_gd hg hs n (by omega)) (by omega) (by omega)
theorem rdf_le {g : Sg} (hg : SgOK g) {s : Int → Int} (hs : Gd s) : ∀ n : Nat, (n : Int) ≤ gN g → LeS (rdf g s n) s
  | 0, _ => LeS.rf s
  | n + 1, h => (im_le hg (rdf_gd hg hs n (by omega)) (by omega) (by omega)).tr (rdf_le hg hs n (by omega))
theorem rdf_mono {g : Sg} (hg : SgOK g) {s : Int → Int} (hs : Gd s) (n : Nat) : ∀ m : Nat, n ≤ m → (m : Int) ≤ gN g → LeS (rdf g s m) (rdf g s n) := by
  intro m hm
  induction m with
  | zero =>
    intro _
    rw [show n = 0 by omega]
    exact LeS.rf _
  | succ m ih =>
    intro h
    by_cases e : n = m + 1
    · rw [e]; exact LeS.rf _
    · exact (im_le hg (rdf_gd hg hs m (by omega)) (by omega) (by omega)).tr (ih (by omega) (by omega))
theorem rd_gd {g : Sg} (hg : SgOK g) {s : Int → Int} (hs : Gd s) : Gd (rd g s) := rdf_gd hg hs _ (by have := hg.n; omega)
theorem rd_le {g : Sg} (hg : SgOK g) {s : Int → Int} (hs : Gd s) : LeS (rd g s) s := rdf_le hg hs _ (by have := hg.n; omega)
theorem rdn_gd {g : Sg} (hg : SgOK g) : ∀ n, Gd (rdn g n)
  | 0 => ⟨fun _ => Or.inl rfl, fun _ _ => rfl, fun _ => by have := p4_pos (st4 fun _ => -13); simp only [rdn]; omega⟩
  | n + 1 => rd_gd hg (rdn_gd hg n)
def mu4 (s : Int → Int) : Nat := (ev (s 0) + ev (s 1) + ev (s 2) + ev (s 3)).toNat
theorem ev_nn (x : Int) : 0 ≤ ev x := by unfold ev; split <;> omega
theorem mu4_lt {a b : Int → Int} (ha : Gd a) (hb : Gd b) (h : LeS a b) : a = b ∨ mu4 a < mu4 b := by
  by_cases e : a = b
  · exact Or.inl e
  · right
    have : ∃ t, a t ≠ b t := Classical.byContradiction (fun q => e (funext (fun t => Classical.byContradiction (fun z => q ⟨t, z⟩))))
    obtain ⟨t, ht⟩ := this
    have hlt : ev (a t) < ev (b t) := by
      rcases Int.lt_or_le (ev (a t)) (ev (b t)) with q | q
      · exact q
      · exact absurd (LeS.eq ha hb (h t) q) ht
    have hr : 0 ≤ t ∧ t < 4 := by
      rcases Classical.em (0 ≤ t ∧ t < 4) with q | q
      · exact q
      · exact absurd ((ha.2.1 t (by omega)).trans (hb.2.1 t (by omega)).symm) ht
    have h0 := h 0
    have h1 := h 1
    have h2 := h 2
    have h3 := h 3
    have n0 := ev_nn (a 0)
    have n1 := ev_nn (a 1)
    have n2 := ev_nn (a 2)
    have n3 := ev_nn (a 3)
    unfold mu4
    rcases (show t = 0 ∨ t = 1 ∨ t = 2 ∨ t = 3 by omega) with e | e | e | e <;> rw [e] at hlt <;> omega
/-- a lower bound that no constructor betters -/
def Cl (g : Sg) (L : Int → Int) : Prop := ∀ c, 0 ≤ c → c < gN g → usf g L c (ari g c) = true → 0 ≤ L (gR g c) ∧ L (gR g c) ≤ szk g L c (ari g c)
/-- each size is one of a constructor -/
def Att (g : Sg) (s : Int → Int) : Prop := ∀ t, 0 ≤ s t → ∃ c, (0 ≤ c ∧ c < gN g) ∧ gR g c = t ∧ usf g s c (ari g c) = true ∧ szk g s c (ari g c) ≤ s t
theorem im_low {g : Sg} {L s : Int → Int} (hs : Gd s) (hL : Gd L) (hC : Cl g L) (h : LeS L s) {c : Int} (h0 : 0 ≤ c) (h1 : c < gN g) : LeS L (im g s c) := by
  intro t
  unfold im
  split
  · rename_i q
    by_cases e : t = gR g c
    · simp only [e, if_true]
      have u := usf_le hs h q.1
      have z := szk_le hs h _ q.1
      have l := hC c h0 h1 u
      unfold ev
      split <;> split <;> omega
    · simp only [e, if_false]
      exact h t
  · exact h t
theorem rdf_low {g : Sg} (hg : SgOK g) {L s : Int → Int} (hs : Gd s) (hL : Gd L) (hC : Cl g L) (h : LeS L s) : ∀ n : Nat, (n : Int) ≤ gN g → LeS L (rdf g s n)
  | 0, _ => h
  | n + 1, q => im_low (rdf_gd hg hs n (by omega)) hL hC (rdf_low hg hs hL hC h n (by omega)) (by omega) (by omega)
theorem im_att {g : Sg} (hg : SgOK g) {s : Int → Int} (hs : Gd s) (hA : Att g s) {c : Int} (h0 : 0 ≤ c) (h1 : c < gN g) : Att g (im g s c) := by
  have hle := im_le hg hs h0 h1
  intro t ht
  by_cases q : usf g s c (ari g c) = true ∧ (s (gR g c) < 0 ∨ szk g s c (ari g c) < s (gR g c))
  · by_cases e : t = gR g c
    · refine ⟨c, ⟨h0, h1⟩, e.symm, usf_le hs hle q.1, ?_⟩
      have e2 : im g s c t = szk g s c (ari g c) := by
        unfold im
        rw [if_pos q]
        simp [e]
      rw [e2]
      exact szk_le hs hle _ q.1
    · have e2 : im g s c t = s t := by
        unfold im
        rw [if_pos q]
        simp [e]
      rw [e2] at ht ⊢
      obtain ⟨c2, a1, a2, a3, a4⟩ := hA t ht
      exact ⟨c2, a1, a2, usf_le hs hle a3, Int.le_trans (szk_le hs hle _ a3) a4⟩
  · have e2 : im g s c = s := by unfold im; rw [if_neg q]
    rw [e2] at ht ⊢
    exact hA t ht
theorem rdf_att {g : Sg} (hg : SgOK g) {s : Int → Int} (hs : Gd s) (hA : Att g s) : ∀ n : Nat, (n : Int) ≤ gN g → Att g (rdf g s n)
  | 0, _ => hA
  | n + 1, q => im_att hg (rdf_gd hg hs n (by omega)) (rdf_att hg hs hA n (by omega)) (by omega) (by omega)
theorem rdn_att {g : Sg} (hg : SgOK g) : ∀ n, Att g (rdn g n)
  | 0 => fun t ht => by simp [rdn] at ht
  | n + 1 => rdf_att hg (rdn_gd hg n) (rdn_att hg n) _ (by have := hg.n; omega)
/-- where a round changes nothing, no constructor does -/
theorem rd_fix {g : Sg} (hg : SgOK g) {s : Int → Int} (hs : Gd s) (h : rd g s = s) {c : Int} (h0 : 0 ≤ c) (h1 : c < gN g) : im g s c = s := by
  have hn := hg.n
  have key : ∀ n : Nat, (n : Int) ≤ gN g → rdf g s n = s := by
    intro n hle
    have a := rdf_mono hg hs n (gN g).toNat (by omega) (by omega)
    have b := rdf_le hg hs n hle
    have e : rdf g s (gN g).toNat = s := h
    rw [e] at a
    exact funext (fun t => LeS.eq (rdf_gd hg hs n hle) hs (b t) (a t))
  have k1 := key (c.toNat + 1) (by omega)
  simp only [rdf] at k1
  rw [key c.toNat (by omega), show (c.toNat : Int) = c by omega] at k1
  exact k1
theorem fix_cl {g : Sg} (hg : SgOK g) {s : Int → Int} (hs : Gd s) (h : rd g s = s) : Cl g s := by
  intro c h0 h1 hu
  have e := rd_fix hg hs h h0 h1
  by_cases q : s (gR g c) < 0 ∨ szk g s c (ari g c) < s (gR g c)
  · have z := szk_sm hg hs h0 h1 hu
    have e2 : im g s c (gR g c) = szk g s c (ari g c) := by
      unfold im
      rw [if_pos ⟨hu, q⟩]
      simp
    rw [e] at e2
    omega
  · omega
theorem fix_ex {g : Sg} (hg : SgOK g) : ∀ (m n : Nat), mu4 (rdn g n) ≤ m → ∃ R, rd g (rdn g R) = rdn g R := by
  intro m
  induction m with
  | zero =>
    intro n hn
    rcases mu4_lt (rd_gd hg (rdn_gd hg n)) (rdn_gd hg n) (rd_le hg (rdn_gd hg n)) with q | q
    · exact ⟨n, q⟩
    · omega
  | succ m ih =>
    intro n hn
    rcases mu4_lt (rd_gd hg (rdn_gd hg n)) (rdn_gd hg n) (rd_le hg (rdn_gd hg n)) with q | q
    · exact ⟨n, q⟩
    · exact ih (n + 1) (by simp only [rdn]; omega)
theorem gain {g : Sg} (hg : SgOK g) {L s : Int → Int} (hs : Gd s) (hL : Gd L) (hC : Cl g L) (hA : Att g L) (h : LeS L s) : ∀ (m : Nat) (t : Int), (ev (L t)).toNat = m → s t ≠ L t → ∃ t2, s t2 ≠ L t2 ∧ rd g s t2 = L t2 := by
  intro m
  induction m using Nat.strongRecOn with
  | _ m ih =>
    intro t hm hne
    have hn := hg.n
    have hfin : 0 ≤ L t := by
      rcases hL.1 t with q | q
      · exfalso
        have a := h t
        have b := hs.bd t
        have b1 := hs.1 t
        rw [q] at a hne
        unfold ev at a
        split at a <;> split at a <;> omega
      · omega
    obtain ⟨c, hc, hr, hu, hz⟩ := hA t hfin
    have u2 := (usf_iff _).mp hu
    by_cases hall : ∀ k : Nat, k < ari g c → s (gG g (c * 3 + (k : Int))) = L (gG g (c * 3 + (k : Int)))
    · refine ⟨t, hne, ?_⟩
      have g1 := rdf_gd hg hs c.toNat (by omega)
      have l1 := rdf_low hg hs hL hC h c.toNat (by omega)
      have l2 := rdf_le hg hs c.toNat (by omega)
      have eqa : ∀ k : Nat, k < ari g c → rdf g s c.toNat (gG g (c * 3 + (k : Int))) = L (gG g (c * 3 + (k : Int))) := by
        intro k hk
        refine LeS.eq g1 hL ?_ (l1 _)
        rw [← hall k hk]
        exact l2 _
      have hus : usf g (rdf g s c.toNat) c (ari g c) = true := (usf_iff _).mpr (fun k hk => by rw [eqa k hk]; exact u2 k hk)
      have hsz : ∀ n : Nat, n ≤ ari g c → szk g (rdf g s c.toNat) c n = szk g L c n := by
        intro n
        induction n with
        | zero => intro _; rfl
        | succ n ihn =>
          intro q
          simp only [szk]
          rw [ihn (by omega), eqa n (by omega)]
      have hz1 := hsz (ari g c) (Nat.le_refl _)
      have hstep : ev (im g (rdf g s c.toNat) c t) ≤ ev (L t) := by
        have hzs := szk_sm hg hL hc.1 hc.2 hu
        unfold im
        split
        · dsimp only
          rw [if_pos hr.symm, hz1]
          unfold ev
          split <;> split <;> omega
        · rename_i q
          have q2 : ¬ (rdf g s c.toNat (gR g c) < 0 ∨ szk g (rdf g s c.toNat) c (ari g c) < rdf g s c.toNat (gR g c)) := fun z => q ⟨hus, z⟩
          rw [hr, hz1] at q2
          unfold ev
          split <;> split <;> omega
      have l3 := rdf_mono hg hs (c.toNat + 1) (gN g).toNat (by omega) (by omega) t
      have e3 : rdf g s (c.toNat + 1) = im g (rdf g s c.toNat) c := by
        simp only [rdf]
        rw [show (c.toNat : Int) = c by omega]
      rw [e3] at l3
      exact LeS.eq (rd_gd hg hs) hL (Int.le_trans l3 hstep) (rdf_low hg hs hL hC h _ (by omega) t)
    · have : ∃ k : Nat, k < ari g c ∧ s (gG g (c * 3 + (k : Int))) ≠ L (gG g (c * 3 + (k : Int))) := Classical.byContradiction (fun q => hall (fun k hk => Classical.byContradiction (fun z => q ⟨k, hk, z⟩)))
      obtain ⟨k, hk, hne2⟩ := this
      have a1 := szk_arg hL _ hu k hk
      have a2 := u2 k hk
      refine ih (ev (L (gG g (c * 3 + (k : Int))))).toNat ?_ _ rfl hne2
      rw [← hm]
      unfold ev
      split <;> split <;> omega
def df4 (a b : Int → Int) : Nat := (if a 0 = b 0 then 0 else 1) + (if a 1 = b 1 then 0 else 1) + (if a 2 = b 2 then 0 else 1) + (if a 3 = b 3 then 0 else 1)
/-- four rounds are enough -/
theorem Sm_fix {g : Sg} (hg : SgOK g) : rd g (Sm g) = Sm g := by
  obtain ⟨R, hR⟩ := fix_ex hg _ 0 (Nat.le_refl _)
  have hL := rdn_gd hg R
  have hC := fix_cl hg hL hR
  have hA := rdn_att hg R
  have low : ∀ n, LeS (rdn g R) (rdn g n) := by
    intro n
    induction n with
    | zero =>
      intro t
      have := hL.bd t
      simp only [rdn, ev]
      split <;> omega
    | succ n ih => exact rdf_low hg (rdn_gd hg n) hL hC ih _ (by have := hg.n; omega)
  have stay : ∀ n t, rdn g n t = rdn g R t → rdn g (n + 1) t = rdn g R t := by
    intro n t h
    refine LeS.eq (rdn_gd hg (n + 1)) hL ?_ (low (n + 1) t)
    rw [← h]
    exact rd_le hg (rdn_gd hg n) t
  have step : ∀ n, df4 (rdn g n) (rdn g R) = 0 ∨ df4 (rdn g (n + 1)) (rdn g R) < df4 (rdn g n) (rdn g R) := by
    intro n
    by_cases q : ∃ t, rdn g n t ≠ rdn g R t
    · right
      obtain ⟨t, ht⟩ := q
      obtain ⟨t2, h1, h2⟩ := gain hg (rdn_gd hg n) hL hC hA (low n) _ t rfl ht
      have hr : 0 ≤ t2 ∧ t2 < 4 := by
        rcases Classical.em (0 ≤ t2 ∧ t2 < 4) with q | q
        · exact q
        · exact absurd (((rdn_gd hg n).2.1 t2 (by omega)).trans (hL.2.1 t2 (by omega)).symm) h1
      have s0 := stay n 0
      have s1 := stay n 1
      have s2 := stay n 2
      have s3 := stay n 3
      have h2 : rdn g (n + 1) t2 = rdn g R t2 := h2
      unfold df4
      rcases (show t2 = 0 ∨ t2 = 1 ∨ t2 = 2 ∨ t2 = 3 by omega) with e | e | e | e <;> rw [e] at h1 h2 <;> rw [if_neg h1, if_pos h2] <;> (repeat' split) <;> simp_all <;> omega
    · left
      have q2 : ∀ t, rdn g n t = rdn g R t := fun t => Classical.byContradiction (fun z => q ⟨t, z⟩)
      unfold df4
      simp [q2]
  have keep : ∀ n, df4 (rdn g n) (rdn g R) = 0 → df4 (rdn g (n + 1)) (rdn g R) = 0 := by
    intro n h
    unfold df4 at h ⊢
    have s0 := stay n 0
    have s1 := stay n 1
    have s2 := stay n 2
    have s3 := stay n 3
    have a0 : rdn g n 0 = rdn g R 0 := Classical.byContradiction (fun z => by rw [if_neg z] at h; omega)
    have a1 : rdn g n 1 = rdn g R 1 := Classical.byContradiction (fun z => by rw [if_neg z] at h; omega)
    have a2 : rdn g n 2 = rdn g R 2 := Classical.byContradiction (fun z => by rw [if_neg z] at h; omega)
    have a3 : rdn g n 3 = rdn g R 3 := Classical.byContradiction (fun z => by rw [if_neg z] at h; omega)
    rw [if_pos (s0 a0), if_pos (s1 a1), if_pos (s2 a2), if_pos (s3 a3)]
  have d0 : df4 (rdn g 0) (rdn g R) ≤ 4 := by unfold df4; (repeat' split) <;> omega
  have d4 : df4 (rdn g 4) (rdn g R) = 0 := by
    have t0 : df4 (rdn g 0) (rdn g R) = 0 ∨ df4 (rdn g 1) (rdn g R) < df4 (rdn g 0) (rdn g R) := step 0
    have t1 : df4 (rdn g 1) (rdn g R) = 0 ∨ df4 (rdn g 2) (rdn g R) < df4 (rdn g 1) (rdn g R) := step 1
    have t2 : df4 (rdn g 2) (rdn g R) = 0 ∨ df4 (rdn g 3) (rdn g R) < df4 (rdn g 2) (rdn g R) := step 2
    have t3 : df4 (rdn g 3) (rdn g R) = 0 ∨ df4 (rdn g 4) (rdn g R) < df4 (rdn g 3) (rdn g R) := step 3
    have u0 : df4 (rdn g 0) (rdn g R) = 0 → df4 (rdn g 1) (rdn g R) = 0 := keep 0
    have u1 : df4 (rdn g 1) (rdn g R) = 0 → df4 (rdn g 2) (rdn g R) = 0 := keep 1
    have u2 : df4 (rdn g 2) (rdn g R) = 0 → df4 (rdn g 3) (rdn g R) = 0 := keep 2
    have u3 : df4 (rdn g 3) (rdn g R) = 0 → df4 (rdn g 4) (rdn g R) = 0 := keep 3
    omega
  have e : rdn g 4 = rdn g R := by
    funext t
    unfold df4 at d4
    rcases Classical.em (0 ≤ t ∧ t < 4) with q | q
    · rcases (show t = 0 ∨ t = 1 ∨ t = 2 ∨ t = 3 by omega) with e | e | e | e <;> rw [e] <;> exact Classical.byContradiction (fun z => by rw [if_neg z] at d4; omega)
    · exact ((rdn_gd hg 4).2.1 t (by omega)).trans (hL.2.1 t (by omega)).symm
  unfold Sm
  rw [e]
  exact hR
theorem rdn_after {g : Sg} (hg : SgOK g) : ∀ n, rdn g (4 + n) = Sm g
  | 0 => rfl
  | n + 1 => by
    show rd g (rdn g (4 + n)) = Sm g
    rw [rdn_after hg n, Sm_fix hg]
/-- a round that changes nothing is the last -/
theorem rdn_done {g : Sg} (hg : SgOK g) {n : Nat} (h : rd g (rdn g n) = rdn g n) : rdn g n = Sm g := by
  have key : ∀ k, rdn g (n + k) = rdn g n := by
    intro k
    induction k with
    | zero => rfl
    | succ k ih =>
      show rd g (rdn g (n + k)) = rdn g n
      rw [ih, h]
  have := key 4
  rw [Nat.add_comm, rdn_after hg n] at this
  exact this.symm
