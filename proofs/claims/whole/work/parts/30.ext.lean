/-! measures made small again; more nodes, more constructors -/
def cnt (p : Nat → Bool) : Nat → Nat
  | 0 => 0
  | n + 1 => cnt p n + (if p n = true then 1 else 0)
theorem cnt_le {p : Nat → Bool} : ∀ n, cnt p n ≤ n
  | 0 => Nat.le_refl _
  | n + 1 => by
    have := cnt_le (p := p) n
    simp only [cnt]
    split <;> omega
theorem cnt_mono {p q : Nat → Bool} : ∀ {n : Nat}, (∀ i, i < n → p i = true → q i = true) → cnt p n ≤ cnt q n
  | 0, _ => Nat.le_refl _
  | n + 1, h => by
    have a := cnt_mono (n := n) (fun i hi => h i (by omega))
    have b := h n (by omega)
    simp only [cnt]
    by_cases e : p n = true
    · rw [if_pos e, if_pos (b e)]; omega
    · rw [if_neg e]; omega
theorem cnt_lt {p q : Nat → Bool} : ∀ {n : Nat}, (∀ i, i < n → p i = true → q i = true) → ∀ i, i < n → q i = true → p i = false → cnt p n < cnt q n
  | 0, _, _, hi, _, _ => absurd hi (by omega)
  | n + 1, h, i, hi, hq, hp => by
    simp only [cnt]
    by_cases e : i = n
    · subst e
      have a := cnt_mono (n := i) (fun j hj => h j (by omega))
      rw [hp, hq]
      simp
      omega
    · have a := cnt_lt (n := n) (fun j hj => h j (by omega)) i (by omega) hq hp
      have b := h n (by omega)
      by_cases e2 : p n = true
      · rw [if_pos e2, if_pos (b e2)]; omega
      · rw [if_neg e2]; omega
theorem cnt_all : ∀ n, cnt (fun _ => true) n = n
  | 0 => rfl
  | n + 1 => by simp only [cnt, cnt_all n]; rfl
def rnm (d : Nd) (m : Int → Nat) (n : Int) : Nat := if 0 ≤ n ∧ n < nN d then cnt (fun i => decide (m i < m n)) (nN d).toNat else 0
theorem rnm_lt {d : Nd} {m : Int → Nat} {a b : Int} (a0 : 0 ≤ a) (a1 : a < nN d) (b0 : 0 ≤ b) (b1 : b < nN d) (h : m a < m b) : rnm d m a < rnm d m b := by
  unfold rnm
  rw [if_pos ⟨a0, a1⟩, if_pos ⟨b0, b1⟩]
  refine cnt_lt (fun i hi hp => ?_) a.toNat (by omega) ?_ ?_
  · have := of_decide_eq_true hp
    exact decide_eq_true (by omega)
  · rw [show ((a.toNat : Nat) : Int) = a by omega]
    exact decide_eq_true h
  · rw [show ((a.toNat : Nat) : Int) = a by omega]
    exact decide_eq_false (by omega)
theorem rnm_bd {d : Nd} (h : nN d ≤ 100) (m : Int → Nat) (n : Int) : rnm d m n < 100 := by
  unfold rnm
  split
  · rename_i q
    have := cnt_lt (p := fun i : Nat => decide (m i < m n)) (q := fun _ => true) (n := (nN d).toNat) (fun _ _ _ => rfl) n.toNat (by omega) rfl (by
      rw [show ((n.toNat : Nat) : Int) = n by omega]
      exact decide_eq_false (by omega))
    rw [cnt_all] at this
    omega
  · omega
theorem renorm {g : Sg} {d : Nd} {tg : Int → Int} {m : Int → Nat} (hN : NdOK g d) (hT : TgOK d tg) (h : Vm1 g d tg m) : ∃ r, Gr g d tg r := by
  refine ⟨rnm d m, ⟨fun n h0 h1 h2 => ?_, fun n h0 h1 h2 k k0 k1 => ?_⟩, fun n => rnm_bd hN.1.2 m n⟩
  · rcases hT.1 n h0 h1 with z | z
    · omega
    · exact rnm_lt z.2.1.1 z.2.1.2 h0 h1 (h.1 n h0 h1 h2)
  · have z := (hN.kid h0 h1 h2 ⟨k0, k1⟩).1
    exact rnm_lt z.1 (by omega) h0 h1 (h.2 n h0 h1 h2 k k0 k1)
/-- bindings that are in order -/
def TgG (g : Sg) (d : Nd) (tg : Int → Int) : Prop := TgOK d tg ∧ ∃ r, Gr g d tg r
/-- more nodes -/
def Ext (d d2 : Nd) : Prop := nN d ≤ nN d2 ∧ ∀ n, 0 ≤ n → n < nN d → nY d2 n = nY d n ∧ nC d2 n = nC d n ∧ ∀ k, 0 ≤ k → k < 3 → nK d2 (n * 3 + k) = nK d (n * 3 + k)
theorem TgG.ext {g : Sg} {d d2 : Nd} {tg : Int → Int} (hS : SgOK g) (hN : NdOK g d) (hN2 : NdOK g d2) (hE : Ext d d2) (h : TgG g d tg) : TgG g d2 tg := by
  obtain ⟨hT, r, hG⟩ := h
  have hT2 : TgOK d2 tg := by
    refine ⟨fun n h0 h1 => ?_, fun n h0 h1 => hT.2 n (by have := hE.1; omega) h1⟩
    by_cases e : n < nN d
    · rcases hT.1 n h0 e with z | z
      · exact Or.inl z
      · refine Or.inr ⟨by rw [(hE.2 n h0 e).2.1]; exact z.1, ⟨z.2.1.1, by have := hE.1; omega⟩, ?_⟩
        rw [(hE.2 n h0 e).1, (hE.2 _ z.2.1.1 z.2.1.2).1]
        exact z.2.2
    · exact Or.inl (hT.2 n (by omega) (by have := hN2.1; omega))
  refine ⟨hT2, renorm (m := fun n => if n < nN d then r n else 100 + n.toNat) hN2 hT2 ⟨fun n h0 h1 h2 => ?_, fun n h0 h1 h2 k k0 k1 => ?_⟩⟩
  · by_cases e : n < nN d
    · dsimp only
      rcases hT.1 n h0 e with z | z
      · omega
      · rw [if_pos e, if_pos z.2.1.2]
        exact hG.1.1 n h0 e h2
    · have := hT.2 n (by omega) (by have := hN2.1; omega)
      omega
  · dsimp only
    have z := (hN2.kid h0 h1 h2 ⟨k0, k1⟩).1
    by_cases e : n < nN d
    · have q := hE.2 n h0 e
      rw [q.2.1] at h2 k1
      have c := (hN.con h0 e h2).1
      have ha := hS.a h2 c
      rw [if_pos e, if_pos (by omega), q.2.2 k k0 (by omega)]
      exact hG.1.2 n h0 e h2 k k0 k1
    · rw [if_neg e]
      have b := hG.2 (nK d2 (n * 3 + k))
      split <;> omega
/-- a signature with more in it -/
def SgX (g g2 : Sg) : Prop := gT g ≤ gT g2 ∧ gN g ≤ gN g2 ∧ ∀ c, 0 ≤ c → c < gN g → gR g2 c = gR g c ∧ gA g2 c = gA g c ∧ ∀ k, 0 ≤ k → k < 3 → gG g2 (c * 3 + k) = gG g (c * 3 + k)
theorem NdOK.sgx {g g2 : Sg} {d : Nd} (hS : SgOK g) (hX : SgX g g2) (h : NdOK g d) : NdOK g2 d := by
  refine ⟨h.1, fun n h0 h1 => ?_⟩
  have q := h.2 n h0 h1
  refine ⟨⟨q.1.1, by have := hX.1; omega⟩, ?_⟩
  rcases q.2 with z | ⟨z1, z2, z3⟩
  · exact Or.inl z
  · have x := hX.2.2 (nC d n) z1.1 z1.2
    have ha := hS.a z1.1 z1.2
    refine Or.inr ⟨⟨z1.1, by have := hX.2.1; omega⟩, by rw [x.1]; exact z2, fun k k0 k1 => ?_⟩
    rw [x.2.1] at k1
    rw [x.2.2 k k0 (by omega)]
    exact z3 k k0 k1
theorem TgG.sgx {g g2 : Sg} {d : Nd} {tg : Int → Int} (hN : NdOK g d) (hX : SgX g g2) (h : TgG g d tg) : TgG g2 d tg := by
  obtain ⟨hT, r, hG⟩ := h
  refine ⟨hT, r, ⟨hG.1.1, fun n h0 h1 h2 k k0 k1 => ?_⟩, hG.2⟩
  have c := (hN.con h0 h1 h2).1
  rw [(hX.2.2 _ h2 c).2.1] at k1
  exact hG.1.2 n h0 h1 h2 k k0 k1
/-! what depends on constructors alone -/
section
variable {g : Sg} {x : Int}
theorem usf_T {s : Int → Int} {c : Int} : ∀ n, usf (x, g.2) s c n = usf g s c n
  | 0 => rfl
  | n + 1 => by simp only [usf, usf_T n]
theorem szk_T {s : Int → Int} {c : Int} : ∀ n, szk (x, g.2) s c n = szk g s c n
  | 0 => rfl
  | n + 1 => by simp only [szk, szk_T n]
theorem im_T {s : Int → Int} {c : Int} : im (x, g.2) s c = im g s c := by
  unfold im
  simp only [usf_T, szk_T]
theorem rdf_T {s : Int → Int} : ∀ n, rdf (x, g.2) s n = rdf g s n
  | 0 => rfl
  | n + 1 => by simp only [rdf, rdf_T n, im_T]
theorem rdn_T : ∀ n, rdn (x, g.2) n = rdn g n
  | 0 => rfl
  | n + 1 => by
    simp only [rdn, rdn_T n]
    unfold rd
    rw [rdf_T]
theorem Sm_T : Sm (x, g.2) = Sm g := rdn_T 4
theorem Us_T {c : Int} : Us (x, g.2) c ↔ Us g c := by
  show usf (x, g.2) (Sm (x, g.2)) c (ari g c) = true ↔ usf g (Sm g) c (ari g c) = true
  rw [Sm_T, usf_T]
theorem Fk_T : ∀ n t, Fk (x, g.2) n t ↔ Fk g n t
  | 0, _ => Iff.rfl
  | n + 1, t => by
    constructor
    · exact fun h c h0 h1 h2 h3 k k0 k1 => (Fk_T n _).mp (h c h0 h1 h2 (Us_T.mpr h3) k k0 k1)
    · exact fun h c h0 h1 h2 h3 k k0 k1 => (Fk_T n _).mpr (h c h0 h1 h2 (Us_T.mp h3) k k0 k1)
theorem prk_T {V : Int → Int} {c : Int} : ∀ n, prk V (x, g.2) c n = prk V g c n
  | 0 => rfl
  | n + 1 => by simp only [prk, prk_T n]
theorem Vk_T : ∀ n, Vk (x, g.2) n = Vk g n
  | 0 => rfl
  | n + 1 => by
    funext t
    simp only [Vk, Vk_T n, prk_T, Us_T]
theorem wsf_T {C : Int → Int → Int} {c : Int} : ∀ j tot, wsf C (x, g.2) c j tot = wsf C g c j tot
  | 0, _ => rfl
  | j + 1, tot => by simp only [wsf, wsf_T j]
theorem ctf_T : ∀ n, ctf (x, g.2) n = ctf g n
  | 0 => rfl
  | n + 1 => by
    funext t s
    simp only [ctf, ctf_T n, wsf_T]
theorem Cs_T : Cs (x, g.2) = Cs g := by
  funext t s
  unfold Cs
  rw [ctf_T]
theorem Ws_T {c k s : Int} : Ws (x, g.2) c k s = Ws g c k s := by
  unfold Ws
  rw [Cs_T, wsf_T]
theorem Ss_T {c s : Int} : Ss (x, g.2) c s = Ss g c s := by
  unfold Ss
  simp only [Ws_T]
end
