/-! how many values there are: one function, two tables -/
def csm (f : Nat → Int) : Nat → Int
  | 0 => 0
  | n + 1 => cap (csm f n + f n)
theorem csm_congr {f f2 : Nat → Int} : ∀ {n : Nat}, (∀ i, i < n → f i = f2 i) → csm f n = csm f2 n
  | 0, _ => rfl
  | n + 1, h => by
    simp only [csm]
    rw [csm_congr (n := n) (fun i hi => h i (by omega)), h n (by omega)]
theorem csm_bd {f : Nat → Int} : ∀ {n : Nat}, (∀ i, i < n → 0 ≤ f i) → 0 ≤ csm f n ∧ csm f n ≤ 1000000
  | 0, _ => by simp [csm]
  | n + 1, h => by
    have a := csm_bd (n := n) (fun i hi => h i (by omega))
    have b := h n (by omega)
    simp only [csm]
    exact ⟨cap_nn (by omega), cap_le _⟩
def wsf (C : Int → Int → Int) (g : Sg) (c : Int) : Nat → Int → Int
  | 0, tot => if tot = 0 then 1 else 0
  | j + 1, tot => csm (fun i => cap (C (gG g (c * 3 + (gA g c - (j + 1 : Nat)))) ((i : Int) + 1) * wsf C g c j (tot - ((i : Int) + 1)))) tot.toNat
def ctf (g : Sg) : Nat → Int → Int → Int
  | 0, _, _ => 0
  | n + 1, t, s => if s = (n + 1 : Nat) then csm (fun c => if gR g c = t then wsf (ctf g n) g c (gA g c).toNat n else 0) (gN g).toNat else ctf g n t s
def Cs (g : Sg) (t s : Int) : Int := ctf g 12 t s
def Ws (g : Sg) (c k tot : Int) : Int := wsf (Cs g) g c (gA g c - k).toNat tot
theorem wsf_congr {C C2 : Int → Int → Int} {g : Sg} {c : Int} : ∀ (j : Nat) (tot : Int), (∀ t s, 1 ≤ s → s ≤ tot → C t s = C2 t s) → wsf C g c j tot = wsf C2 g c j tot
  | 0, _, _ => rfl
  | j + 1, tot, h => by
    simp only [wsf]
    refine csm_congr (fun i hi => ?_)
    rw [h _ _ (by omega) (by omega), wsf_congr j (tot - ((i : Int) + 1)) (fun t s h1 h2 => h t s h1 (by omega))]
theorem wsf_bd {C : Int → Int → Int} {g : Sg} {c : Int} (hC : ∀ t s, 0 ≤ C t s) : ∀ (j : Nat) (tot : Int), 0 ≤ wsf C g c j tot ∧ wsf C g c j tot ≤ 1000000
  | 0, tot => by simp only [wsf]; split <;> omega
  | j + 1, tot => by
    simp only [wsf]
    exact csm_bd (fun i hi => cap_nn (Int.mul_nonneg (hC _ _) (wsf_bd hC j _).1))
theorem ctf_bd {g : Sg} : ∀ (n : Nat) (t s : Int), 0 ≤ ctf g n t s ∧ ctf g n t s ≤ 1000000
  | 0, t, s => by simp [ctf]
  | n + 1, t, s => by
    simp only [ctf]
    split
    · refine csm_bd (fun i hi => ?_)
      split
      · exact (wsf_bd (fun t s => (ctf_bd n t s).1) _ _).1
      · omega
    · exact ctf_bd n t s
theorem ctf_stable {g : Sg} {n : Nat} {t s : Int} (hs : s ≤ n) : ∀ m, n ≤ m → ctf g m t s = ctf g n t s := by
  intro m hm
  induction m with
  | zero =>
    have : n = 0 := by omega
    rw [this]
  | succ m ih =>
    by_cases e : n = m + 1
    · rw [e]
    · simp only [ctf]
      rw [if_neg (by omega)]
      exact ih (by omega)
theorem Cs_bd {g : Sg} (t s : Int) : 0 ≤ Cs g t s ∧ Cs g t s ≤ 1000000 := ctf_bd 12 t s
theorem Ws_bd {g : Sg} (c k tot : Int) : 0 ≤ Ws g c k tot ∧ Ws g c k tot ≤ 1000000 := wsf_bd (fun t s => (Cs_bd t s).1) _ _
theorem Cs_0 {g : Sg} (t : Int) : Cs g t 0 = 0 := by
  unfold Cs
  rw [ctf_stable (n := 0) (by omega) 12 (by omega)]
  rfl
theorem Cs_eq {g : Sg} {t s : Int} (h1 : 1 ≤ s) (h2 : s ≤ 12) : Cs g t s = csm (fun c => if gR g c = t then Ws g c 0 (s - 1) else 0) (gN g).toNat := by
  obtain ⟨n, rfl⟩ : ∃ n : Nat, s = (n + 1 : Nat) := ⟨(s - 1).toNat, by omega⟩
  unfold Cs
  rw [ctf_stable (n := n + 1) (by omega) 12 (by omega)]
  simp only [ctf, if_true]
  refine csm_congr (fun i hi => ?_)
  split
  · unfold Ws
    have e : ((n + 1 : Nat) : Int) - 1 = n := by omega
    rw [e, show (gA g i - 0).toNat = (gA g i).toNat by omega]
    refine wsf_congr _ _ (fun t s g1 g2 => ?_)
    unfold Cs
    rw [ctf_stable (n := n) g2 12 (by omega)]
  · rfl
theorem Ws_0 {g : Sg} {c k tot : Int} (h : k = gA g c) : Ws g c k tot = if tot = 0 then 1 else 0 := by
  unfold Ws
  rw [h, show (gA g c - gA g c).toNat = 0 by omega]
  rfl
theorem Ws_eq {g : Sg} {c k tot : Int} (h0 : 0 ≤ k) (h1 : k < gA g c) : Ws g c k tot = csm (fun i => cap (Cs g (gG g (c * 3 + k)) ((i : Int) + 1) * Ws g c (k + 1) (tot - ((i : Int) + 1)))) tot.toNat := by
  unfold Ws
  obtain ⟨j, hj⟩ : ∃ j : Nat, (gA g c - k).toNat = j + 1 := ⟨(gA g c - k).toNat - 1, by omega⟩
  rw [hj]
  simp only [wsf]
  refine csm_congr (fun i hi => ?_)
  rw [show gA g c - ((j + 1 : Nat) : Int) = k by omega, show (gA g c - (k + 1)).toNat = j by omega]
/-- how many values of a constructor's type and a size have a smaller constructor -/
def Ss (g : Sg) (c s : Int) : Int := csm (fun i => if gR g i = gR g c then Ws g i 0 (s - 1) else 0) c.toNat
theorem Ss_bd {g : Sg} (c s : Int) : 0 ≤ Ss g c s ∧ Ss g c s ≤ 1000000 := csm_bd (fun i hi => by
  split
  · exact (Ws_bd _ _ _).1
  · omega)
theorem XSig.fr {g : Sg} {S : List Nat} {M M' : Mem} (h : XSig g M) (f : Fr S M M') (hs : ∀ x ∈ [1, 2, 3, 4], x ∉ S) : XSig g M' := by
  obtain ⟨a1, a2, a3, a4, a5⟩ := h
  refine ⟨?_, ?_, ?_, ?_, ?_⟩
  · rw [f 1 (hs 1 (by simp))]; exact a1
  · rw [f 1 (hs 1 (by simp))]; exact a2
  · rw [f 2 (hs 2 (by simp))]; exact a3
  · rw [f 3 (hs 3 (by simp))]; exact a4
  · rw [f 4 (hs 4 (by simp))]; exact a5
theorem MSig.fr {g : Sg} {S : List Nat} {M M' : Mem} (h : MSig g M) (f : Fr S M M') (e50 : M' 50 0 = M 50 0 ∧ M' 50 1 = M 50 1) (hs : ∀ x ∈ [51, 52, 53], x ∉ S) : MSig g M' := by
  obtain ⟨a1, a2, a3⟩ := h
  refine ⟨by rw [e50.1]; exact a1, by rw [e50.2]; exact a2, ?_⟩
  rw [f 51 (hs 51 (by simp)), f 52 (hs 52 (by simp)), f 53 (hs 53 (by simp))]
  exact a3
theorem SgOK.r {g : Sg} (h : SgOK g) {c : Int} (h0 : 0 ≤ c) (h1 : c < gN g) : 0 ≤ gR g c ∧ gR g c < 4 := by
  have a := (h.2.2 c h0 h1).1
  have b := h.1
  omega
theorem SgOK.a {g : Sg} (h : SgOK g) {c : Int} (h0 : 0 ≤ c) (h1 : c < gN g) : 0 ≤ gA g c ∧ gA g c ≤ 3 := (h.2.2 c h0 h1).2.1
theorem SgOK.g {g : Sg} (h : SgOK g) {c k : Int} (h0 : 0 ≤ c) (h1 : c < gN g) (k0 : 0 ≤ k) (k1 : k < gA g c) : 0 ≤ gG g (c * 3 + k) ∧ gG g (c * 3 + k) < 4 := by
  have a := (h.2.2 c h0 h1).2.2 k k0 k1
  have b := h.1
  omega
theorem SgOK.n {g : Sg} (h : SgOK g) : 0 ≤ gN g ∧ gN g ≤ 12 := h.2.1
/-! the class's table -/
theorem c_waysOfSplit {g : Sg} {M : Mem} {K : Int → Mem → Prop} (hg : SgOK g) (hX : XSig g M) {c k f t : Int} (hc : 0 ≤ c ∧ c < gN g) (hk : 0 ≤ k ∧ k < gA g c) (hf : 1 ≤ f ∧ f ≤ t ∧ t ≤ 12) (b1 : 0 ≤ M 9 (gG g (c * 3 + k) * 13 + f) ∧ M 9 (gG g (c * 3 + k) * 13 + f) ≤ 1000000) (b2 : 0 ≤ M 11 ((c * 4 + (k + 1)) * 13 + (t - f)) ∧ M 11 ((c * 4 + (k + 1)) * 13 + (t - f)) ≤ 1000000) (kk : K (cap (M 9 (gG g (c * 3 + k) * 13 + f) * M 11 ((c * 4 + (k + 1)) * 13 + (t - f)))) M) : CI mX8_waysOfSplit [vR 8, vI c, vI k, vI f, vI t] M K := by
  have h1 := hg.n
  have h2 := hg.a hc.1 hc.2
  have h3 := hg.g hc.1 hc.2 hk.1 hk.2
  refine en_X8_waysOfSplit (c_typeOfArgument (by omega) (by omega) ?_)
  rw [hX.2.2.2.2]
  exact ⟨by omega, en_X8_wayPlace ⟨by omega, c_lprod b1 b2 kk⟩⟩
theorem c_fillWays {g : Sg} {M : Mem} {K : Mem → Prop} (hg : SgOK g) (hX : XSig g M) {c tot : Int} (hc : 0 ≤ c ∧ c < gN g) (ht : 0 ≤ tot ∧ tot ≤ 11)
    (hC : ∀ t s, 0 ≤ t → t < 4 → 1 ≤ s → s ≤ tot → M 9 (t * 13 + s) = Cs g t s)
    (hW : ∀ k s, 0 ≤ k → k ≤ gA g c → 0 ≤ s → s < tot → M 11 ((c * 4 + k) * 13 + s) = Ws g c k s)
    (kk : ∀ M', Fr [11] M M' → (∀ k, 0 ≤ k → k ≤ gA g c → M' 11 ((c * 4 + k) * 13 + tot) = Ws g c k tot) → (∀ i, (∀ k, 0 ≤ k → k ≤ gA g c → i ≠ (c * 4 + k) * 13 + tot) → M' 11 i = M 11 i) → K M') : CV mX8_fillWays [vR 8, vI c, vI tot] M K := by
  have h1 := hg.n
  have h2 := hg.a hc.1 hc.2
  have e3 : M 3 c = gA g c := by rw [hX.2.2.2.1]
  -- the inner loop
  have inner : ∀ (n : Nat) (M1 : Mem) (k v5 v6 : Int), (tot + 1 - v6).toNat = n → 0 ≤ k → k < gA g c → 1 ≤ v6 → v6 ≤ tot + 1 → Fr [11] M M1 → (∀ s, 0 ≤ s → s < tot → M1 11 ((c * 4 + (k + 1)) * 13 + s) = Ws g c (k + 1) s) → v5 = csm (fun i => cap (Cs g (gG g (c * 3 + k)) ((i : Int) + 1) * Ws g c (k + 1) (tot - ((i : Int) + 1)))) (v6 - 1).toNat →
      AW mX8_fillWays 35 [some (vR 8), some (vI c), some (vI tot), some (vI (gA g c)), some (vI (k + (-1))), none, none] [] (up M1 11 ((c * 4 + k) * 13 + tot) (Ws g c k tot)) (QV K) →
      AW mX8_fillWays 46 [some (vR 8), some (vI c), some (vI tot), some (vI (gA g c)), some (vI k), some (vI v5), some (vI v6)] [] M1 (QV K) := by
    intro n
    induction n with
    | zero =>
      intro M1 k v5 v6 hn k0 k1 v1 v2 hF hW1 e5 hk
      refine sg_X8_fillWays_46 ⟨by omega, fun _ => en_X8_wayPlace ⟨by omega, ?_⟩, fun q => by omega⟩
      have : v5 = Ws g c k tot := by rw [e5, Ws_eq k0 k1, show (v6 - 1).toNat = tot.toNat by omega]
      rw [this]
      exact hk
    | succ n ih =>
      intro M1 k v5 v6 hn k0 k1 v1 v2 hF hW1 e5 hk
      have h3 := hg.g hc.1 hc.2 k0 k1
      have e9 : M1 9 (gG g (c * 3 + k) * 13 + v6) = Cs g (gG g (c * 3 + k)) v6 := by rw [hF 9 (by decide)]; exact hC _ _ h3.1 h3.2 v1 (by omega)
      have e11 := hW1 (tot - v6) (by omega) (by omega)
      have bC := Cs_bd (g := g) (gG g (c * 3 + k)) v6
      have bW := Ws_bd (g := g) c (k + 1) (tot - v6)
      refine sg_X8_fillWays_46 ⟨by omega, fun q => by omega, fun _ => ?_⟩
      refine c_waysOfSplit hg (hX.fr hF (by decide)) hc ⟨k0, k1⟩ (by omega) (by rw [e9]; exact bC) (by rw [e11]; exact bW) ?_
      rw [e9, e11]
      have b5 : 0 ≤ v5 ∧ v5 ≤ 1000000 := by
        rw [e5]
        exact csm_bd (fun i hi => cap_nn (Int.mul_nonneg (Cs_bd _ _).1 (Ws_bd _ _ _).1))
      refine c_lsum b5 ⟨cap_nn (Int.mul_nonneg bC.1 bW.1), cap_le _⟩ ?_
      refine ih M1 k _ (v6 + 1) (by omega) k0 k1 (by omega) (by omega) hF hW1 ?_ hk
      rw [e5, show (v6 + 1 - 1).toNat = (v6 - 1).toNat + 1 by omega]
      simp only [csm]
      rw [show (((v6 - 1).toNat : Int) + 1) = v6 by omega]
  -- the outer loop
  have outer : ∀ (n : Nat) (M1 : Mem) (k : Int), (k + 1).toNat = n → -1 ≤ k → k < gA g c → Fr [11] M M1 → (∀ j, k < j → j ≤ gA g c → M1 11 ((c * 4 + j) * 13 + tot) = Ws g c j tot) → (∀ i, (∀ j, 0 ≤ j → j ≤ gA g c → i ≠ (c * 4 + j) * 13 + tot) → M1 11 i = M 11 i) →
      AW mX8_fillWays 35 [some (vR 8), some (vI c), some (vI tot), some (vI (gA g c)), some (vI k), none, none] [] M1 (QV K) := by
    intro n
    induction n with
    | zero =>
      intro M1 k hn k0 k1 hF hd hu
      refine sg_X8_fillWays_35 ⟨by omega, fun _ => kk M1 hF (fun j j0 j1 => hd j (by omega) j1) hu, fun q => by omega⟩
    | succ n ih =>
      intro M1 k hn k0 k1 hF hd hu
      refine sg_X8_fillWays_35 ⟨by omega, fun q => by omega, fun _ => ?_⟩
      refine inner _ M1 k 0 1 rfl (by omega) k1 (by omega) (by omega) hF (fun s s0 s1 => ?_) rfl ?_
      · rw [hu _ (fun j j0 j1 => by omega)]
        exact hW (k + 1) s (by omega) (by omega) s0 s1
      · refine ih _ (k + (-1)) (by omega) (by omega) (by omega) (hF.up (by decide)) (fun j j0 j1 => ?_) (fun i hi => ?_)
        · by_cases e : j = k
          · rw [e, up_same]
          · rw [up_other (by omega)]
            exact hd j (by omega) j1
        · rw [up_other (hi k (by omega) (by omega))]
          exact hu i hi
  refine en_X8_fillWays ⟨by omega, en_X8_wayPlace ⟨by omega, ?_, ?_⟩⟩
  · intro h0
    rw [e3]
    refine ⟨by omega, outer _ _ (gA g c - 1) rfl (by omega) (by omega) ((Fr.refl _ _).up (by decide)) (fun j j0 j1 => ?_) (fun i hi => ?_)⟩
    · have e : j = gA g c := by omega
      rw [e, up_same, Ws_0 rfl, if_neg h0]
    · rw [up_other (hi (gA g c) (by omega) (by omega))]
  · intro h0
    rw [e3]
    refine ⟨by omega, outer _ _ (gA g c - 1) rfl (by omega) (by omega) ((Fr.refl _ _).up (by decide)) (fun j j0 j1 => ?_) (fun i hi => ?_)⟩
    · have e : j = gA g c := by omega
      rw [e, up_same, Ws_0 rfl, if_pos (by omega)]
    · rw [up_other (hi (gA g c) (by omega) (by omega))]
