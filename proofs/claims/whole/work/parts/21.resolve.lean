/-! resolving -/
def rs (tg : Int → Int) : Nat → Int → Int
  | 0, n => n
  | f + 1, n => if tg n < 0 then n else rs tg f (tg n)
def re (tg : Int → Int) (n : Int) : Int := rs tg 100 n
theorem rs_free {tg : Int → Int} {n : Int} (h : tg n < 0) : ∀ f, rs tg f n = n
  | 0 => rfl
  | f + 1 => by simp [rs, h]
theorem rs_ok {g : Sg} {d : Nd} {tg : Int → Int} {r : Int → Nat} (hT : TgOK d tg) (hG : Gr g d tg r) : ∀ (f : Nat) (n : Int), 0 ≤ n → n < nN d → r n ≤ f → (0 ≤ rs tg f n ∧ rs tg f n < nN d) ∧ tg (rs tg f n) < 0 ∧ r (rs tg f n) ≤ r n ∧ nY d (rs tg f n) = nY d n ∧ ∀ f2, r n ≤ f2 → rs tg f2 n = rs tg f n := by
  intro f
  induction f with
  | zero =>
    intro n h0 h1 hr
    have hf : tg n < 0 := by
      rcases Int.lt_or_le (tg n) 0 with q | q
      · exact q
      · have := hG.1.1 n h0 h1 q
        omega
    exact ⟨⟨h0, h1⟩, hf, Nat.le_refl _, rfl, fun f2 _ => by rw [rs_free hf]; rfl⟩
  | succ f ih =>
    intro n h0 h1 hr
    by_cases hf : tg n < 0
    · rw [rs_free hf]
      exact ⟨⟨h0, h1⟩, hf, Nat.le_refl _, rfl, fun f2 _ => by rw [rs_free hf]⟩
    · have e : rs tg (f + 1) n = rs tg f (tg n) := by simp [rs, hf]
      have hl := hG.1.1 n h0 h1 (by omega)
      rcases hT.1 n h0 h1 with q | ⟨q1, q2, q3⟩
      · omega
      · obtain ⟨a1, a2, a3, a4, a5⟩ := ih (tg n) q2.1 q2.2 (by omega)
        rw [e]
        refine ⟨a1, a2, by omega, a4.trans q3, fun f2 h2 => ?_⟩
        cases f2 with
        | zero => omega
        | succ f2 =>
          have e2 : rs tg (f2 + 1) n = rs tg f2 (tg n) := by simp [rs, hf]
          rw [e2]
          exact a5 f2 (by omega)
section
variable {g : Sg} {d : Nd} {tg : Int → Int} {r : Int → Nat}
theorem re_in (hT : TgOK d tg) (hG : Gr g d tg r) {n : Int} (h0 : 0 ≤ n) (h1 : n < nN d) : 0 ≤ re tg n ∧ re tg n < nN d := (rs_ok hT hG 100 n h0 h1 (Nat.le_of_lt (hG.2 n))).1
theorem re_tg (hT : TgOK d tg) (hG : Gr g d tg r) {n : Int} (h0 : 0 ≤ n) (h1 : n < nN d) : tg (re tg n) < 0 := (rs_ok hT hG 100 n h0 h1 (Nat.le_of_lt (hG.2 n))).2.1
theorem re_le (hT : TgOK d tg) (hG : Gr g d tg r) {n : Int} (h0 : 0 ≤ n) (h1 : n < nN d) : r (re tg n) ≤ r n := (rs_ok hT hG 100 n h0 h1 (Nat.le_of_lt (hG.2 n))).2.2.1
theorem re_ty (hT : TgOK d tg) (hG : Gr g d tg r) {n : Int} (h0 : 0 ≤ n) (h1 : n < nN d) : nY d (re tg n) = nY d n := (rs_ok hT hG 100 n h0 h1 (Nat.le_of_lt (hG.2 n))).2.2.2.1
theorem re_free {n : Int} (h : tg n < 0) : re tg n = n := rs_free h 100
theorem re_bound (hT : TgOK d tg) (hG : Gr g d tg r) {n : Int} (h0 : 0 ≤ n) (h1 : n < nN d) (hb : 0 ≤ tg n) : re tg n = re tg (tg n) := by
  have hl := hG.1.1 n h0 h1 hb
  have h99 := hG.2 n
  rcases hT.1 n h0 h1 with q | ⟨q1, q2, q3⟩
  · omega
  · have a5 := (rs_ok hT hG 100 (tg n) q2.1 q2.2 (by omega)).2.2.2.2 99 (by omega)
    have e : rs tg (99 + 1) n = rs tg 99 (tg n) := by simp [rs, show ¬ tg n < 0 by omega]
    unfold re
    rw [← a5, ← e]
theorem re_re (hT : TgOK d tg) (hG : Gr g d tg r) {n : Int} (h0 : 0 ≤ n) (h1 : n < nN d) : re tg (re tg n) = re tg n := re_free (re_tg hT hG h0 h1)
theorem re_con (hT : TgOK d tg) {n : Int} (h0 : 0 ≤ n) (h1 : n < nN d) (hc : 0 ≤ nC d n) : tg n < 0 := by
  rcases hT.1 n h0 h1 with q | ⟨q1, q2, q3⟩ <;> omega
/-- a node's part, resolved -/
def kq (d : Nd) (tg : Int → Int) (n k : Int) : Int := re tg (nK d (n * 3 + k))
theorem NdOK.kid (h : NdOK g d) {n k : Int} (h0 : 0 ≤ n) (h1 : n < nN d) (hc : 0 ≤ nC d n) (hk : 0 ≤ k ∧ k < gA g (nC d n)) : (0 ≤ nK d (n * 3 + k) ∧ nK d (n * 3 + k) < n) ∧ nY d (nK d (n * 3 + k)) = gG g (nC d n * 3 + k) := by
  rcases (h.2 n h0 h1).2 with q | ⟨q1, q2, q3⟩
  · omega
  · exact q3 k hk.1 hk.2
theorem NdOK.con (h : NdOK g d) {n : Int} (h0 : 0 ≤ n) (h1 : n < nN d) (hc : 0 ≤ nC d n) : nC d n < gN g ∧ nY d n = gR g (nC d n) := by
  rcases (h.2 n h0 h1).2 with q | ⟨q1, q2, q3⟩
  · omega
  · exact ⟨q1.2, q2⟩
theorem NdOK.var (h : NdOK g d) {n : Int} (h0 : 0 ≤ n) (h1 : n < nN d) (hc : nC d n < 0) : nC d n = -1 := by
  rcases (h.2 n h0 h1).2 with q | ⟨q1, q2, q3⟩ <;> omega
theorem NdOK.cbd (h : NdOK g d) (hS : SgOK g) {n : Int} (h0 : 0 ≤ n) (h1 : n < nN d) : -1 ≤ nC d n ∧ nC d n < 12 := by
  have := hS.2.1
  rcases (h.2 n h0 h1).2 with q | ⟨q1, q2, q3⟩ <;> omega
theorem kq_in (hN : NdOK g d) (hT : TgOK d tg) (hG : Gr g d tg r) {n k : Int} (h0 : 0 ≤ n) (h1 : n < nN d) (hc : 0 ≤ nC d n) (hk : 0 ≤ k ∧ k < gA g (nC d n)) : (0 ≤ kq d tg n k ∧ kq d tg n k < nN d) ∧ tg (kq d tg n k) < 0 ∧ r (kq d tg n k) < r n ∧ nY d (kq d tg n k) = gG g (nC d n * 3 + k) := by
  obtain ⟨a1, a2⟩ := hN.kid h0 h1 hc hk
  have hl := hG.1.2 n h0 h1 hc k hk.1 hk.2
  have h3 : nK d (n * 3 + k) < nN d := by omega
  have b := re_le hT hG a1.1 h3
  exact ⟨re_in hT hG a1.1 h3, re_tg hT hG a1.1 h3, by unfold kq; omega, (re_ty hT hG a1.1 h3).trans a2⟩
end
/-! the methods -/
theorem c_resolve {g : Sg} {d : Nd} {tg : Int → Int} {M : Mem} {K : Int → Mem → Prop} (hS : StOK g d tg) (hX : XR g d tg M) {n : Int} (h0 : 0 ≤ n) (h1 : n < nN d) (k : K (re tg n) M) : CI mX0_resolve [vR 12, vI n] M K := by
  obtain ⟨hSg, hNd, hT, r, hG⟩ := hS
  have h16 : M 16 = tg := hX.2.2
  have hN := hNd.1
  refine en_X0_resolve ?_
  have key : ∀ (m : Nat) (v s : Int), r v = m → 0 ≤ v → v < nN d → 0 ≤ s → s + (r v : Int) ≤ 99 → re tg v = re tg n → AW mX0_resolve 4 [some (vR 12), some (vI n), some (vI v), some (vI s)] [] M (QI K) := by
    intro m
    induction m using Nat.strongRecOn with
    | _ m ih =>
      intro v s hm hv0 hv1 hs0 hs1 he
      refine sg_X0_resolve_4 ⟨by omega, fun h => by omega, fun _ => ⟨by omega, ?_⟩⟩
      rw [h16]
      rcases hT.1 v hv0 hv1 with q | ⟨q1, q2, q3⟩
      · refine ⟨by omega, fun _ => ?_, fun h => absurd q h⟩
        rw [← he, re_free (by omega)] at k
        exact k
      · have hl := hG.1.1 v hv0 hv1 q2.1
        refine ⟨by omega, fun h => by omega, fun _ => ⟨by omega, ?_⟩⟩
        exact ih (r (tg v)) (by omega) (tg v) (s + 1) rfl q2.1 q2.2 (by omega) (by omega) (by rw [← re_bound hT hG hv0 hv1 q2.1]; exact he)
  exact key (r n) n 0 rfl h0 h1 (by omega) (by have := hG.2 n; omega) rfl
theorem c_resolved {g : Sg} {d : Nd} {tg : Int → Int} {M : Mem} {K : Int → Mem → Prop} (hS : StOK g d tg) (hX : MMR g d tg M) {n : Int} (h0 : 0 ≤ n) (h1 : n < nN d) (k : K (re tg n) M) : CI mX12_resolved [vR 50, vI n] M K := by
  obtain ⟨hSg, hNd, hT, r, hG⟩ := hS
  have h57 := hX.2.2
  have hN := hNd.1
  refine en_X12_resolved ?_
  have key : ∀ (m : Nat) (v : Int), r v = m → 0 ≤ v → v < nN d → re tg v = re tg n → AW mX12_resolved 2 [some (vR 50), some (vI n), some (vI v)] [] M (QI K) := by
    intro m
    induction m using Nat.strongRecOn with
    | _ m ih =>
      intro v hm hv0 hv1 he
      refine sg_X12_resolved_2 ⟨by omega, ?_⟩
      rw [h57 v hv0 hv1]
      rcases hT.1 v hv0 hv1 with q | ⟨q1, q2, q3⟩
      · have e : nv (tg v) = -13 := by simp [nv, q]
        rw [e]
        refine ⟨by omega, fun _ => ?_, fun h => by omega⟩
        rw [← he, re_free (by omega)] at k
        exact k
      · have e : nv (tg v) = tg v := by simp [nv]; omega
        rw [e]
        have hl := hG.1.1 v hv0 hv1 q2.1
        refine ⟨by omega, fun h => by omega, fun _ => ⟨by omega, ?_⟩⟩
        exact ih (r (tg v)) (by omega) (tg v) rfl q2.1 q2.2 (by rw [← re_bound hT hG hv0 hv1 q2.1]; exact he)
  exact key (r n) n rfl h0 h1 rfl
/-- how many parts a node has -/
def pq (g : Sg) (d : Nd) (n : Int) : Int := if nC d n < 0 then 0 else gA g (nC d n)
theorem pq_bd {g : Sg} {d : Nd} (hS : SgOK g) (hN : NdOK g d) {n : Int} (h0 : 0 ≤ n) (h1 : n < nN d) : 0 ≤ pq g d n ∧ pq g d n ≤ 3 := by
  unfold pq
  split
  · omega
  · have := (hS.2.2 (nC d n) (by omega) (hN.con h0 h1 (by omega)).1).2.1
    omega
theorem pq_pos {g : Sg} {d : Nd} {n k : Int} (hk : 0 ≤ k ∧ k < pq g d n) : 0 ≤ nC d n ∧ k < gA g (nC d n) := by
  unfold pq at hk
  split at hk <;> omega
theorem c_partTotal {g : Sg} {d : Nd} {tg : Int → Int} {M : Mem} {K : Int → Mem → Prop} (hS : StOK g d tg) (hX : XR g d tg M) {n : Int} (h0 : 0 ≤ n) (h1 : n < nN d) (k : K (pq g d n) M) : CI mX0_partTotal [vR 12, vI n] M K := by
  obtain ⟨hSg, hNd, hT, r, hG⟩ := hS
  obtain ⟨⟨a1, a2, a3, a4, a5⟩, ⟨b1, b2, b3, b4⟩, c1⟩ := hX
  have hN := hNd.1
  have hb := hNd.cbd hSg h0 h1
  refine en_X0_partTotal (c_isVariable (by omega) (by rw [b3]; omega) (fun h => ⟨by decide, fun q => absurd q (by decide), fun _ => ?_⟩) (fun h => ⟨by decide, fun _ => ⟨by omega, ?_⟩, fun q => absurd rfl q⟩))
  · rw [b3] at h
    have e : pq g d n = 0 := by simp [pq, h]
    rw [e] at k
    exact k
  · rw [b3] at h
    rw [b3, a4]
    have e : pq g d n = gA g (nC d n) := by simp [pq]; omega
    rw [e] at k
    exact ⟨by omega, k⟩
theorem c_manyOf {g : Sg} {d : Nd} {tg : Int → Int} {M : Mem} {K : Int → Mem → Prop} (hS : StOK g d tg) (hX : MMR g d tg M) {n : Int} (h0 : 0 ≤ n) (h1 : n < nN d) (k : K (pq g d n) M) : CI mX12_manyOf [vR 50, vI n] M K := by
  obtain ⟨hSg, hNd, hT, r, hG⟩ := hS
  obtain ⟨⟨a1, a2, a3⟩, ⟨b1, b2⟩, c1⟩ := hX
  have hN := hNd.1
  have hb := hNd.cbd hSg h0 h1
  refine en_X12_manyOf ⟨by omega, ?_⟩
  rw [(b2 n h0 h1).2.1]
  by_cases hc : nC d n < 0
  · have e : nv (nC d n) = -13 := by simp [nv, hc]
    have e2 : pq g d n = 0 := by simp [pq, hc]
    rw [e]
    rw [e2] at k
    exact ⟨by omega, fun h => by omega, fun _ => k⟩
  · have e : nv (nC d n) = nC d n := by simp [nv, hc]
    have e2 : pq g d n = gA g (nC d n) := by simp [pq, hc]
    rw [e]
    rw [e2] at k
    refine ⟨by omega, fun _ => ⟨by omega, by omega, ?_⟩, fun h => by omega⟩
    rw [(a3 (nC d n) (by omega) (hNd.con h0 h1 (by omega)).1).2.1]
    exact k
theorem c_resolvedPart {g : Sg} {d : Nd} {tg : Int → Int} {M : Mem} {K : Int → Mem → Prop} (hS : StOK g d tg) (hX : XR g d tg M) {n k : Int} (h0 : 0 ≤ n) (h1 : n < nN d) (hk : 0 ≤ k ∧ k < pq g d n) (kk : K (kq d tg n k) M) : CI mX0_resolvedPart [vR 12, vI n, vI k] M K := by
  have hp := pq_pos hk
  have hb := pq_bd hS.1 hS.2.1 h0 h1
  have hN := hS.2.1.1
  obtain ⟨a1, a2⟩ := hS.2.1.kid h0 h1 hp.1 ⟨hk.1, hp.2⟩
  refine en_X0_resolvedPart ⟨by omega, ?_⟩
  rw [hX.2.1.2.2.2]
  exact c_resolve hS hX a1.1 (by omega) kk
