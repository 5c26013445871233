def linkK (K : KT) (q : Nat) : KT := ks_pr K (up1 (up1 (k_pr K) q (some (k_ny K - 1))) (k_ny K - 1) (some q))
def callOffK (K : KT) (n : Nat) : KT := ks_st (ks_pr K (up1 (match k_pr K n with | none => k_pr K | some q => up1 (k_pr K) q none) n none)) (up1 (k_st K) n 3)
section LINK
variable {g : GG} {d : Nat} {S : ShT} {D : DaT} {B : Nat} {K : KT}
theorem c_linkLast {q : Nat} (hL : BkL S B) (hW : WfK K) (hR : RepC D B K) (hq : q < k_ny K) (hs : k_st K q = 0) : EvM g (d + 2) mX0_linkLastTo 0 0 [.ref B, .int (nI q)] (md S D) (fun v M1 => ∃ D1, v = none ∧ M1 = md S D1 ∧ RepC D1 B (linkK K q) ∧ Out B (B + 139) D D1) := by
  have hb := hL.1
  have hc := hR.1
  have w3 := hW.2.2.1
  have hy1 := hL.2.2.2 q (by omega)
  have hy2 := hL.2.2.2 (k_ny K - 1) (by omega)
  have hpred : nI (k_ny K) - 1 = nI (k_ny K - 1) := by
    have := nI_pred (k_ny K - 1)
    rwa [show k_ny K - 1 + 1 = k_ny K by omega] at this
  have hR1 := hR.pr (n := q) (some (k_ny K - 1))
  have hO1 : Out B (B + 139) D (pfi D 165 (ya B q) (pE (some (k_ny K - 1)))) := Out.fi (by unfold ya; omega)
  obtain ⟨D1, e1, z1, -⟩ := wr_fi D 165 (ya B q) (nI (k_ny K - 1))
  rw [show pE (some (k_ny K - 1)) = nI (k_ny K - 1) from rfl, e1] at hR1 hO1
  have hR2 := hR1.pr (n := k_ny K - 1) (some q)
  have hO2 : Out B (B + 139) D1 (pfi D1 165 (ya B (k_ny K - 1)) (pE (some q))) := Out.fi (by unfold ya; omega)
  have hc1 : d_fi D1 5 B = nI (k_ny K) := hR1.1.2.2.1
  refine EvM.mk (by decide) (Nat.le_of_ble_eq_true rfl) ?_
  refine X_run rfl trivial ?_
  refine X_cV (args := [.int (nI q)]) rfl (by decide) hb.1 rfl rfl (Nat.le_of_ble_eq_true rfl) (c_isWaiting hL hW hR hq) ?_
  rintro _ _ ⟨rfl, rfl⟩
  rw [if_pos hs]
  refine X_if_eq rfl (fun c2 => absurd c2 (by decide)) (fun c2 => ?_)
  refine X_run rfl trivial ?_
  refine X_cV (args := [.int (nI q)]) rfl (by decide) hb.1 rfl rfl (Nat.le_of_ble_eq_true rfl) (c_paymentAt hL (show q < 60 by omega)) ?_
  rintro _ _ ⟨rfl, rfl⟩
  refine X_run rfl ?_ ?_
  · simp [md_s, md_w, rget, r_a, r_b, r_c, r_i, r_l, hb, hc, hy1, hpred, e1, hc1]
  try simp only [md_s, md_w, rget_some, r_a, r_b, r_c, r_i, r_l, r_nx, r_pc, Nat.reduceEqDiff, false_and, if_false, hb, hc, hy1, hpred, e1, hc1]
  refine X_cV (args := [.int (nI (k_ny K - 1))]) rfl (by decide) hb.1 rfl rfl (Nat.le_of_ble_eq_true rfl) (c_paymentAt hL (show k_ny K - 1 < 60 by omega)) ?_
  rintro _ _ ⟨rfl, rfl⟩
  refine X_run rfl ?_ ?_
  · simp [md_s, md_w, rget, r_a, r_b, r_c, r_i, r_l, hy2]
  try simp only [md_s, md_w, rget_some, r_a, r_b, r_c, r_i, r_l, r_nx, r_pc, Nat.reduceEqDiff, false_and, if_false, hy2]
  exact X_vret rfl rfl ⟨_, rfl, rfl, hR2, hO1.tr hO2⟩
theorem c_linkNo {x : Int32} (hL : BkL S B) (hW : WfK K) (hR : RepC D B K) (hn : ¬ ∃ n, n < k_ny K ∧ x = nI n) : EvM g (d + 2) mX0_linkLastTo 0 0 [.ref B, .int x] (md S D) (fun v M1 => v = none ∧ M1 = md S D) := by
  have hb := hL.1
  refine EvM.mk (by decide) (Nat.le_of_ble_eq_true rfl) ?_
  refine X_run rfl trivial ?_
  refine X_cV (args := [.int x]) rfl (by decide) hb.1 rfl rfl (Nat.le_of_ble_eq_true rfl) (c_isWaiting_no hL hW hR hn) ?_
  rintro _ _ ⟨rfl, rfl⟩
  refine X_if_eq rfl (fun c2 => ?_) (fun c2 => absurd rfl c2)
  exact X_vret rfl rfl ⟨rfl, rfl⟩
theorem c_callOff {n : Nat} (hL : BkL S B) (hW : WfK K) (hR : RepC D B K) (hn : n < k_ny K) : EvM g (d + 2) mX0_callOff 0 0 [.ref B, .ref (ya B n)] (md S D) (fun v M1 => ∃ D1, v = none ∧ M1 = md S D1 ∧ RepC D1 B (callOffK K n) ∧ Out B (B + 139) D D1) := by
  have hb := hL.1
  have w3 := hW.2.2.1
  have hy := hL.2.2.2 n (by omega)
  have tail : ∀ (K1 : KT) (D1 : DaT) (v2 : Value), (v2 = .null ∨ ∃ a, v2 = .ref a) → RepC D1 B K1 → ks_st (ks_pr K1 (up1 (k_pr K1) n none)) (up1 (k_st K1) n 3) = callOffK K n → Out B (B + 139) D D1 → Eg g (d + 2) mX0_callOff 0 0 (Zr g (fun v M1 => ∃ D1, v = none ∧ M1 = md S D1 ∧ RepC D1 B (callOffK K n) ∧ Out B (B + 139) D D1)) 15 [(0, .ref B), (1, .ref (ya B n)), (2, v2)] [] (md S D1) := by
    intro K1 D1 v2 hv2 hR1 hK hO
    have hR2 := (hR1.pr (n := n) none).st (n := n) 3
    have hO2 : Out B (B + 139) D1 (pfi (pfi D1 165 (ya B n) (-1)) 166 (ya B n) 3) := (Out.fi (by unfold ya; omega)).tr (Out.fi (by unfold ya; omega))
    refine X_run rfl ?_ ?_
    · simp [md_s, md_w, rget, r_a, r_b, r_c, r_i, r_l, hy]
    try simp only [md_s, md_w, rget_some, r_a, r_b, r_c, r_i, r_l, r_nx, r_pc, Nat.reduceEqDiff, false_and, if_false, hy]
    refine X_vret rfl rfl ⟨_, rfl, rfl, ?_, hO.tr hO2⟩
    rw [← hK]
    exact hR2
  refine EvM.mk (by decide) (Nat.le_of_ble_eq_true rfl) ?_
  refine X_run rfl trivial ?_
  refine X_cV (args := [.ref (ya B n)]) rfl (by decide) hb.1 rfl rfl (Nat.le_of_ble_eq_true rfl) (c_partnerOf hL hW hR hn) ?_
  rintro _ _ ⟨rfl, rfl⟩
  cases hp : k_pr K n with
  | none =>
    refine X_run rfl trivial ?_
    refine X_ifnullN rfl ?_
    refine tail K D .null (Or.inl rfl) hR ?_ Out.rf
    unfold callOffK
    rw [hp]
  | some q =>
    have hq := (hW.2.2.2 n hn).2.2.2 q hp
    have hyq := hL.2.2.2 q (by omega)
    refine X_run rfl trivial ?_
    refine X_ifnull rfl ?_
    have hR1 := hR.pr (n := q) none
    have hO1 : Out B (B + 139) D (pfi D 165 (ya B q) (-1)) := Out.fi (by unfold ya; omega)
    have hR3 := (hR1.pr (n := n) none).st (n := n) 3
    have hO3 : Out B (B + 139) (pfi D 165 (ya B q) (-1)) (pfi (pfi (pfi D 165 (ya B q) (-1)) 165 (ya B n) (-1)) 166 (ya B n) 3) := (Out.fi (by unfold ya; omega)).tr (Out.fi (by unfold ya; omega))
    refine X_run rfl ?_ ?_
    · simp [md_s, md_w, rget, r_a, r_b, r_c, r_i, r_l, hy, hyq]
    try simp only [md_s, md_w, rget_some, r_a, r_b, r_c, r_i, r_l, r_nx, r_pc, Nat.reduceEqDiff, false_and, if_false, hy, hyq]
    refine X_vret rfl rfl ⟨_, rfl, rfl, ?_, hO1.tr hO3⟩
    have e : callOffK K n = ks_st (ks_pr (ks_pr K (up1 (k_pr K) q none)) (up1 (up1 (k_pr K) q none) n none)) (up1 (k_st K) n 3) := by
      unfold callOffK
      rw [hp]
      rfl
    rw [e]
    exact hR3
theorem c_canBePartner {n : Nat} (hL : BkL S B) (hW : WfK K) (hR : RepC D B K) (hn : n < k_ny K) : EvM g (d + 2) mX0_canBePartner 0 0 [.ref B, .int (nI n)] (md S D) (fun v M1 => M1 = md S D ∧ v = some (.int (b2i (decide (k_st K n = 0) && (k_pr K n).isNone)))) := by
  have hb := hL.1
  have w3 := hW.2.2.1
  have hy := hL.2.2.2 n (by omega)
  have hv := hR.2.2.2 n hn
  refine EvM.mk (by decide) (Nat.le_of_ble_eq_true rfl) ?_
  refine X_run rfl trivial ?_
  refine X_cV (args := [.int (nI n)]) rfl (by decide) hb.1 rfl rfl (Nat.le_of_ble_eq_true rfl) (c_isWaiting hL hW hR hn) ?_
  rintro _ _ ⟨rfl, rfl⟩
  by_cases hs : k_st K n = 0
  · rw [if_pos hs]
    refine X_if_eq rfl (fun c2 => absurd c2 (by decide)) (fun c2 => ?_)
    refine X_run rfl trivial ?_
    refine X_cV (args := [.int (nI n)]) rfl (by decide) hb.1 rfl rfl (Nat.le_of_ble_eq_true rfl) (c_paymentAt hL (show n < 60 by omega)) ?_
    rintro _ _ ⟨rfl, rfl⟩
    refine X_run rfl ?_ ?_
    · simp [md_s, md_w, rget, r_a, r_b, r_c, r_i, r_l, hy, hv]
    try simp only [md_s, md_w, rget_some, r_a, r_b, r_c, r_i, r_l, r_nx, r_pc, Nat.reduceEqDiff, false_and, if_false, hy, hv]
    have hpn := pE_neg (o := k_pr K n) (fun q hq => by have := (hW.2.2.2 n hn).2.2.2 q hq; omega)
    refine X_icmp_ne rfl (fun c3 => ?_) (fun c3 => ?_)
    · refine X_run rfl trivial ?_
      refine X_zret rfl rfl (Or.inl rfl) ⟨rfl, ?_⟩
      cases hp : k_pr K n with
      | none => exact absurd (hpn.mpr hp) c3
      | some q => simp [b2i]
    · refine X_run rfl trivial ?_
      refine X_zret rfl rfl (Or.inr rfl) ⟨rfl, ?_⟩
      rw [hpn.mp c3]
      simp [hs, b2i]
  · rw [if_neg hs]
    refine X_if_eq rfl (fun c2 => ?_) (fun c2 => absurd rfl c2)
    refine X_run rfl trivial ?_
    refine X_zret rfl rfl (Or.inl rfl) ⟨rfl, ?_⟩
    simp [hs, b2i]
theorem c_canBePartner_no {x : Int32} (hL : BkL S B) (hW : WfK K) (hR : RepC D B K) (hn : ¬ ∃ n, n < k_ny K ∧ x = nI n) : EvM g (d + 2) mX0_canBePartner 0 0 [.ref B, .int x] (md S D) (fun v M1 => M1 = md S D ∧ v = some (.int 0)) := by
  have hb := hL.1
  refine EvM.mk (by decide) (Nat.le_of_ble_eq_true rfl) ?_
  refine X_run rfl trivial ?_
  refine X_cV (args := [.int x]) rfl (by decide) hb.1 rfl rfl (Nat.le_of_ble_eq_true rfl) (c_isWaiting_no hL hW hR hn) ?_
  rintro _ _ ⟨rfl, rfl⟩
  refine X_if_eq rfl (fun c2 => ?_) (fun c2 => absurd rfl c2)
  refine X_run rfl trivial ?_
  exact X_zret rfl rfl (Or.inl rfl) ⟨rfl, rfl⟩
theorem c_moveToCollateral {p m : Nat} {x : Int32} (hL : BkL S B) (hp : p < 10) (hm : m < 5) (hR : RepC D B K) (hpn : p < k_np K) : EvM g (d + 1) mX4_moveToCollateral 0 0 [.ref (pa B p), .int (nI m), .int x] (md S D) (fun v M1 => ∃ D1, v = none ∧ M1 = md S D1 ∧ RepC D1 B (ks_co (ks_ba K (up2n (k_ba K) p m (k_ba K p m + -x))) (up2n (k_co K) p m (k_co K p m + x))) ∧ Out B (B + 139) D D1) := by
  obtain ⟨hq, hr1, hr2, -⟩ := hL.2.1 p hp
  have hvb := (hR.2.1 p hpn).2 m hm
  refine EvM.mk (by decide) (Nat.le_of_ble_eq_true rfl) ?_
  refine X_run rfl ?_ ?_
  · simp [md_s, md_w, rget, r_a, r_b, r_c, r_i, r_l, hq]
  try simp only [md_s, md_w, rget_some, r_a, r_b, r_c, r_i, r_l, r_nx, r_pc, Nat.reduceEqDiff, false_and, if_false, hq]
  refine X_cV (args := [.int (nI m), .int (-x)]) rfl (by decide) hr1.1 rfl rfl (Nat.le_of_ble_eq_true rfl) (c_Row_add hr1 hm) ?_
  rintro _ _ ⟨rfl, rfl⟩
  refine X_run rfl ?_ ?_
  · simp [md_s, md_w, rget, r_a, r_b, r_c, r_i, r_l, hq]
  try simp only [md_s, md_w, rget_some, r_a, r_b, r_c, r_i, r_l, r_nx, r_pc, Nat.reduceEqDiff, false_and, if_false, hq]
  refine X_cV (args := [.int (nI m), .int x]) rfl (by decide) hr2.1 rfl rfl (Nat.le_of_ble_eq_true rfl) (c_Row_add hr2 hm) ?_
  rintro _ _ ⟨rfl, rfl⟩
  have h1 := hR.ba (p := p) (m := m) (k_ba K p m + -x)
  have h2 := h1.co (p := p) (m := m) (k_co K p m + x)
  refine X_run rfl trivial ?_
  refine X_vret rfl rfl ⟨_, rfl, rfl, ?_, (Out.ai (by unfold pa; omega)).tr (Out.ai (by unfold pa; omega))⟩
  rw [rd_ai, if_neg (by omega), hvb.1, hvb.2]
  exact h2
end LINK
