/-! calls of the reference that change the desk -/
def RoomOk (K : KT) : Prop := ∀ p, p < k_np K → ((room K p).toInt32 < 0 ↔ room K p < 0)
def CoK (K : KT) : Prop := ∀ p, p < k_np K → ∀ m, m < 5 → 0 ≤ (k_co K p m).toInt
section REFCHG
variable {g : GG} {d : Nat} {S : ShT} {D : DaT} {Y A A2 : Nat} {K : KT} {T P : List Nat} {e : Int32}
theorem c_MsetRate {m a : Int32} (hY : MoL S Y A A2) (hW : WfK K) (hM : RmR D Y A K T P e) : EvM g (d + 2) mX11_setRate 0 0 [.ref Y, .int m, .int a] (md S D) (RfP S D Y A 0 (ansK K (pSetRate K m a)) T P e [eB, eA] (ansV (pSetRate K m a))) := by
  obtain ⟨l1, l2, l3⟩ := hY.lo
  obtain ⟨hy, -, ⟨hL, hL2⟩, -⟩ := id hY
  obtain ⟨hs, ha, hb⟩ := hL.all
  obtain ⟨w1, w2, w3, w4⟩ := id hW
  obtain ⟨D1, e1, z1, y1⟩ := wr_fi D 352 Y 0
  have hM1 : RmR D1 Y A K T P e := e1 ▸ hM.thr (by omega) (by decide)
  have hR1 := hM1.1
  have hO1 : OutR S Y D D1 := e1 ▸ OutR.fi
  have t1 : d_fi D1 352 Y = 0 := by rw [z1, if_pos ⟨rfl, rfl⟩]
  refine EvM.mk (by decide) (Nat.le_of_ble_eq_true rfl) ?_
  refine X_run rfl ?_ ?_
  · simp [md_s, md_w, rget, r_a, r_b, r_c, r_i, r_l, hy, e1]
  try simp only [md_s, md_w, rget_some, r_a, r_b, r_c, r_i, r_l, r_nx, r_pc, Nat.reduceEqDiff, false_and, if_false, hy, e1]
  refine X_cV (args := [.int m]) rfl (by decide) hy.1 rfl rfl (Nat.le_of_ble_eq_true rfl) (c_RisMoney hY hR1) ?_
  rintro _ _ ⟨rfl, rfl⟩
  refine X_if_ne rfl (fun c1 => ?_) (fun c1 => ?_)
  · have c1 := b2i_nz c1
    obtain ⟨u, hu, rfl⟩ := (inB_iff (by omega)).mp c1
    refine X_run rfl trivial ?_
    refine X_cS (args := [.int a, .int 1, .int 1000]) rfl (by decide) rfl rfl (Nat.le_of_ble_eq_true rfl) c_isIn ?_
    rintro _ _ ⟨rfl, rfl⟩
    rw [if_inR]
    refine X_if_ne rfl (fun c2 => ?_) (fun c2 => ?_)
    · have c2 := b2i_nz c2
      have x5 := vx (show u < 5 by omega) (by decide)
      have v := hR1.2.2.1 u hu
      unfold RrM at v
      have e0 : pSetRate K (nI u) a = .ok (k_rt K u, ks_rt K (up1 (k_rt K) u a)) := by rw [pSetRate, if_pos c1, if_pos c2, iN_nI (by omega)]
      rw [e0]
      obtain ⟨D2, e2, z2, y2⟩ := wr_ai D1 (A + 5) u a
      have hR2 : RepR D2 A (ks_rt K (up1 (k_rt K) u a)) := e2 ▸ hR1.rt a
      have hO2 : Out A (A + 20) D1 D2 := e2 ▸ Out.ai (by omega)
      refine X_run rfl ?_ ?_
      · simp [md_s, md_w, rget, r_a, r_b, r_c, r_i, r_l, hy, hs, ha, x5, v, e2]
      try simp only [md_s, md_w, rget_some, r_a, r_b, r_c, r_i, r_l, r_nx, r_pc, Nat.reduceEqDiff, false_and, if_false, hy, hs, ha, x5, v, e2]
      exact X_iret rfl rfl (RfP.ok (hM1.state hR2 hO2 (by omega)) (hO1.tr (OutR.o hO2 (by omega))) (by rw [(hO2 Y (by omega)).1]; exact t1) rfl)
    · have e0 : pSetRate K (nI u) a = .error eA := by rw [pSetRate, if_pos c1, if_neg (nb2i c2)]
      rw [e0]
      refine X_run rfl trivial ?_
      refine X_cV (args := [.int 2]) rfl (by decide) hy.1 rfl rfl (Nat.le_of_ble_eq_true rfl) (c_no hY) ?_
      rintro _ _ ⟨rfl, rfl⟩
      refine X_run rfl trivial ?_
      exact X_iret rfl rfl (RfP.no hM1 hO1 (by omega) rfl (rfl))
  · have e0 : pSetRate K m a = .error eB := by rw [pSetRate, if_neg (nb2i c1)]
    rw [e0]
    refine X_run rfl trivial ?_
    refine X_cV (args := [.int 1]) rfl (by decide) hy.1 rfl rfl (Nat.le_of_ble_eq_true rfl) (c_no hY) ?_
    rintro _ _ ⟨rfl, rfl⟩
    refine X_run rfl trivial ?_
    exact X_iret rfl rfl (RfP.no hM1 hO1 (by omega) rfl (rfl))
theorem c_Mdeposit {x m a : Int32} (hY : MoL S Y A A2) (hW : WfK K) (hM : RmR D Y A K T P e) : EvM g (d + 2) mX11_deposit 0 0 [.ref Y, .int x, .int m, .int a] (md S D) (RfP S D Y A 0 (ansK K (pDeposit K x m a)) T P e [eB, eA] (ansV (pDeposit K x m a))) := by
  obtain ⟨l1, l2, l3⟩ := hY.lo
  obtain ⟨hy, -, ⟨hL, hL2⟩, -⟩ := id hY
  obtain ⟨hs, ha, hb⟩ := hL.all
  obtain ⟨w1, w2, w3, w4⟩ := id hW
  obtain ⟨D1, e1, z1, y1⟩ := wr_fi D 352 Y 0
  have hM1 : RmR D1 Y A K T P e := e1 ▸ hM.thr (by omega) (by decide)
  have hR1 := hM1.1
  have hO1 : OutR S Y D D1 := e1 ▸ OutR.fi
  have t1 : d_fi D1 352 Y = 0 := by rw [z1, if_pos ⟨rfl, rfl⟩]
  refine EvM.mk (by decide) (Nat.le_of_ble_eq_true rfl) ?_
  refine X_run rfl ?_ ?_
  · simp [md_s, md_w, rget, r_a, r_b, r_c, r_i, r_l, hy, e1]
  try simp only [md_s, md_w, rget_some, r_a, r_b, r_c, r_i, r_l, r_nx, r_pc, Nat.reduceEqDiff, false_and, if_false, hy, e1]
  have no : ¬ (inB x (k_np K) = true ∧ inB m (k_nm K) = true) → Eg g (d + 2) mX11_deposit 0 0 (Zr g (RfP S D Y A 0 (ansK K (pDeposit K x m a)) T P e [eB, eA] (ansV (pDeposit K x m a)))) 21 [(0, .ref Y)] [] (md S D1) := by
    intro c
    have e0 : pDeposit K x m a = .error eB := by rw [pDeposit, if_neg c]
    rw [e0]
    refine X_run rfl trivial ?_
    refine X_cV (args := [.int 1]) rfl (by decide) hy.1 rfl rfl (Nat.le_of_ble_eq_true rfl) (c_no hY) ?_
    rintro _ _ ⟨rfl, rfl⟩
    refine X_run rfl trivial ?_
    exact X_iret rfl rfl (RfP.no hM1 hO1 (by omega) rfl (rfl))
  refine X_cV (args := [.int x]) rfl (by decide) hy.1 rfl rfl (Nat.le_of_ble_eq_true rfl) (c_RisParty hY hR1) ?_
  rintro _ _ ⟨rfl, rfl⟩
  refine X_if_eq rfl (fun c1 => Eg.sub (no (nf c1)) ⟨rfl, trivial⟩) (fun c1 => ?_)
  have c1 := b2i_nz c1
  refine X_run rfl trivial ?_
  refine X_cV (args := [.int m]) rfl (by decide) hy.1 rfl rfl (Nat.le_of_ble_eq_true rfl) (c_RisMoney hY hR1) ?_
  rintro _ _ ⟨rfl, rfl⟩
  refine X_if_ne rfl (fun c2 => ?_) (fun c2 => Eg.sub (no (nf2 c2)) ⟨rfl, trivial⟩)
  have c2 := b2i_nz c2
  obtain ⟨j, hj, rfl⟩ := (inB_iff (by omega)).mp c1
  obtain ⟨u, hu, rfl⟩ := (inB_iff (by omega)).mp c2
  refine X_run rfl trivial ?_
  refine X_cS (args := [.int a, .int 1, .int 100000]) rfl (by decide) rfl rfl (Nat.le_of_ble_eq_true rfl) c_isIn ?_
  rintro _ _ ⟨rfl, rfl⟩
  rw [if_inR]
  refine X_if_ne rfl (fun c3 => ?_) (fun c3 => ?_)
  · have c3 := b2i_nz c3
    have x5 := vx (show 5 * j + u < 50 by omega) (by decide)
    have v := ((hR1.2.1 j hj).2.2.2 u (by omega)).1
    have e0 : pDeposit K (nI j) (nI u) a = .ok (k_ba K j u + a, ks_ba K (up2n (k_ba K) j u (k_ba K j u + a))) := by rw [pDeposit, if_pos ⟨c1, c2⟩, if_pos c3, iN_nI (by omega), iN_nI (by omega)]
    rw [e0]
    obtain ⟨D2, e2, z2, y2⟩ := wr_ai D1 (A + 7) (5 * j + u) (k_ba K j u + a)
    have hR2 : RepR D2 A (ks_ba K (up2n (k_ba K) j u (k_ba K j u + a))) := e2 ▸ hR1.ba (by omega) _
    have hO2 : Out A (A + 20) D1 D2 := e2 ▸ Out.ai (by omega)
    have f2 : d_ai D2 (A + 7) (5 * j + u) = k_ba K j u + a := by rw [z2, if_pos ⟨rfl, rfl⟩]
    refine X_run rfl ?_ ?_
    · simp [md_s, md_w, rget, r_a, r_b, r_c, r_i, r_l, hy, hs, ha, i5, x5, v, e2, f2]
    try simp only [md_s, md_w, rget_some, r_a, r_b, r_c, r_i, r_l, r_nx, r_pc, Nat.reduceEqDiff, false_and, if_false, hy, hs, ha, i5, x5, v, e2, f2]
    exact X_iret rfl rfl (RfP.ok (hM1.state hR2 hO2 (by omega)) (hO1.tr (OutR.o hO2 (by omega))) (by rw [(hO2 Y (by omega)).1]; exact t1) rfl)
  · have e0 : pDeposit K (nI j) (nI u) a = .error eA := by rw [pDeposit, if_pos ⟨c1, c2⟩, if_neg (nb2i c3)]
    rw [e0]
    refine X_run rfl trivial ?_
    refine X_cV (args := [.int 2]) rfl (by decide) hy.1 rfl rfl (Nat.le_of_ble_eq_true rfl) (c_no hY) ?_
    rintro _ _ ⟨rfl, rfl⟩
    refine X_run rfl trivial ?_
    exact X_iret rfl rfl (RfP.no hM1 hO1 (by omega) rfl (rfl))
theorem c_Mwithdraw {x m a : Int32} (hY : MoL S Y A A2) (hW : WfK K) (hM : RmR D Y A K T P e) : EvM g (d + 2) mX11_withdraw 0 0 [.ref Y, .int x, .int m, .int a] (md S D) (RfP S D Y A 0 (ansK K (pWithdraw K x m a)) T P e [eB, eA, eS] (ansV (pWithdraw K x m a))) := by
  obtain ⟨l1, l2, l3⟩ := hY.lo
  obtain ⟨hy, -, ⟨hL, hL2⟩, -⟩ := id hY
  obtain ⟨hs, ha, hb⟩ := hL.all
  obtain ⟨w1, w2, w3, w4⟩ := id hW
  obtain ⟨D1, e1, z1, y1⟩ := wr_fi D 352 Y 0
  have hM1 : RmR D1 Y A K T P e := e1 ▸ hM.thr (by omega) (by decide)
  have hR1 := hM1.1
  have hO1 : OutR S Y D D1 := e1 ▸ OutR.fi
  have t1 : d_fi D1 352 Y = 0 := by rw [z1, if_pos ⟨rfl, rfl⟩]
  refine EvM.mk (by decide) (Nat.le_of_ble_eq_true rfl) ?_
  refine X_run rfl ?_ ?_
  · simp [md_s, md_w, rget, r_a, r_b, r_c, r_i, r_l, hy, e1]
  try simp only [md_s, md_w, rget_some, r_a, r_b, r_c, r_i, r_l, r_nx, r_pc, Nat.reduceEqDiff, false_and, if_false, hy, e1]
  have no : ¬ (inB x (k_np K) = true ∧ inB m (k_nm K) = true) → Eg g (d + 2) mX11_withdraw 0 0 (Zr g (RfP S D Y A 0 (ansK K (pWithdraw K x m a)) T P e [eB, eA, eS] (ansV (pWithdraw K x m a)))) 21 [(0, .ref Y)] [] (md S D1) := by
    intro c
    have e0 : pWithdraw K x m a = .error eB := by rw [pWithdraw, if_neg c]
    rw [e0]
    refine X_run rfl trivial ?_
    refine X_cV (args := [.int 1]) rfl (by decide) hy.1 rfl rfl (Nat.le_of_ble_eq_true rfl) (c_no hY) ?_
    rintro _ _ ⟨rfl, rfl⟩
    refine X_run rfl trivial ?_
    exact X_iret rfl rfl (RfP.no hM1 hO1 (by omega) rfl (rfl))
  refine X_cV (args := [.int x]) rfl (by decide) hy.1 rfl rfl (Nat.le_of_ble_eq_true rfl) (c_RisParty hY hR1) ?_
  rintro _ _ ⟨rfl, rfl⟩
  refine X_if_eq rfl (fun c1 => Eg.sub (no (nf c1)) ⟨rfl, trivial⟩) (fun c1 => ?_)
  have c1 := b2i_nz c1
  refine X_run rfl trivial ?_
  refine X_cV (args := [.int m]) rfl (by decide) hy.1 rfl rfl (Nat.le_of_ble_eq_true rfl) (c_RisMoney hY hR1) ?_
  rintro _ _ ⟨rfl, rfl⟩
  refine X_if_ne rfl (fun c2 => ?_) (fun c2 => Eg.sub (no (nf2 c2)) ⟨rfl, trivial⟩)
  have c2 := b2i_nz c2
  obtain ⟨j, hj, rfl⟩ := (inB_iff (by omega)).mp c1
  obtain ⟨u, hu, rfl⟩ := (inB_iff (by omega)).mp c2
  refine X_run rfl trivial ?_
  refine X_cS (args := [.int a, .int 1, .int 100000]) rfl (by decide) rfl rfl (Nat.le_of_ble_eq_true rfl) c_isIn ?_
  rintro _ _ ⟨rfl, rfl⟩
  rw [if_inR]
  refine X_if_ne rfl (fun c3 => ?_) (fun c3 => ?_)
  · have c3 := b2i_nz c3
    have x5 := vx (show 5 * j + u < 50 by omega) (by decide)
    have v := ((hR1.2.1 j hj).2.2.2 u (by omega)).1
    refine X_run rfl ?_ ?_
    · simp [md_s, md_w, rget, r_a, r_b, r_c, r_i, r_l, hy, hs, ha, i5, x5, v]
    try simp only [md_s, md_w, rget_some, r_a, r_b, r_c, r_i, r_l, r_nx, r_pc, Nat.reduceEqDiff, false_and, if_false, hy, hs, ha, i5, x5, v]
    refine X_icmp_ge rfl (fun c4 => ?_) (fun c4 => ?_)
    · have e0 : pWithdraw K (nI j) (nI u) a = .ok (k_ba K j u - a, ks_ba K (up2n (k_ba K) j u (k_ba K j u - a))) := by rw [pWithdraw, if_pos ⟨c1, c2⟩, if_pos c3, iN_nI (by omega), iN_nI (by omega), if_pos c4, Int32.sub_eq_add_neg]
      rw [e0]
      obtain ⟨D2, e2, z2, y2⟩ := wr_ai D1 (A + 7) (5 * j + u) (k_ba K j u - a)
      have hR2 : RepR D2 A (ks_ba K (up2n (k_ba K) j u (k_ba K j u - a))) := e2 ▸ hR1.ba (by omega) _
      have hO2 : Out A (A + 20) D1 D2 := e2 ▸ Out.ai (by omega)
      have f2 : d_ai D2 (A + 7) (5 * j + u) = k_ba K j u - a := by rw [z2, if_pos ⟨rfl, rfl⟩]
      refine X_run rfl ?_ ?_
      · simp [md_s, md_w, rget, r_a, r_b, r_c, r_i, r_l, hy, hs, ha, i5, x5, v, e2, f2]
      try simp only [md_s, md_w, rget_some, r_a, r_b, r_c, r_i, r_l, r_nx, r_pc, Nat.reduceEqDiff, false_and, if_false, hy, hs, ha, i5, x5, v, e2, f2]
      exact X_iret rfl rfl (RfP.ok (hM1.state hR2 hO2 (by omega)) (hO1.tr (OutR.o hO2 (by omega))) (by rw [(hO2 Y (by omega)).1]; exact t1) rfl)
    · have e0 : pWithdraw K (nI j) (nI u) a = .error eS := by rw [pWithdraw, if_pos ⟨c1, c2⟩, if_pos c3, iN_nI (by omega), iN_nI (by omega), if_neg c4]
      rw [e0]
      refine X_run rfl trivial ?_
      refine X_cV (args := [.int 3]) rfl (by decide) hy.1 rfl rfl (Nat.le_of_ble_eq_true rfl) (c_no hY) ?_
      rintro _ _ ⟨rfl, rfl⟩
      refine X_run rfl trivial ?_
      exact X_iret rfl rfl (RfP.no hM1 hO1 (by omega) rfl (rfl))
  · have e0 : pWithdraw K (nI j) (nI u) a = .error eA := by rw [pWithdraw, if_pos ⟨c1, c2⟩, if_neg (nb2i c3)]
    rw [e0]
    refine X_run rfl trivial ?_
    refine X_cV (args := [.int 2]) rfl (by decide) hy.1 rfl rfl (Nat.le_of_ble_eq_true rfl) (c_no hY) ?_
    rintro _ _ ⟨rfl, rfl⟩
    refine X_run rfl trivial ?_
    exact X_iret rfl rfl (RfP.no hM1 hO1 (by omega) rfl (rfl))
theorem c_Mamend {n a : Int32} (hY : MoL S Y A A2) (hW : WfK K) (hM : RmR D Y A K T P e) : EvM g (d + 2) mX11_amend 0 0 [.ref Y, .int n, .int a] (md S D) (RfP S D Y A 0 (ansK K (pAmend K n a)) T P e [eB, eA, eS] (ansV (pAmend K n a))) := by
  obtain ⟨l1, l2, l3⟩ := hY.lo
  obtain ⟨hy, -, ⟨hL, hL2⟩, -⟩ := id hY
  obtain ⟨hs, ha, hb⟩ := hL.all
  obtain ⟨w1, w2, w3, w4⟩ := id hW
  obtain ⟨D1, e1, z1, y1⟩ := wr_fi D 352 Y 0
  have hM1 : RmR D1 Y A K T P e := e1 ▸ hM.thr (by omega) (by decide)
  have hR1 := hM1.1
  have hO1 : OutR S Y D D1 := e1 ▸ OutR.fi
  have t1 : d_fi D1 352 Y = 0 := by rw [z1, if_pos ⟨rfl, rfl⟩]
  refine EvM.mk (by decide) (Nat.le_of_ble_eq_true rfl) ?_
  refine X_run rfl ?_ ?_
  · simp [md_s, md_w, rget, r_a, r_b, r_c, r_i, r_l, hy, e1]
  try simp only [md_s, md_w, rget_some, r_a, r_b, r_c, r_i, r_l, r_nx, r_pc, Nat.reduceEqDiff, false_and, if_false, hy, e1]
  refine X_cV (args := [.int n]) rfl (by decide) hy.1 rfl rfl (Nat.le_of_ble_eq_true rfl) (c_RisPayment hY hR1) ?_
  rintro _ _ ⟨rfl, rfl⟩
  refine X_if_ne rfl (fun c1 => ?_) (fun c1 => ?_)
  · have c1 := b2i_nz c1
    obtain ⟨u, hu, rfl⟩ := (inB_iff (by omega)).mp c1
    refine X_run rfl trivial ?_
    refine X_cS (args := [.int a, .int 1, .int 100000]) rfl (by decide) rfl rfl (Nat.le_of_ble_eq_true rfl) c_isIn ?_
    rintro _ _ ⟨rfl, rfl⟩
    rw [if_inR]
    refine X_if_ne rfl (fun c2 => ?_) (fun c2 => ?_)
    · have c2 := b2i_nz c2
      have x5 := vx (show u < 60 by omega) (by decide)
      have v := hR1.2.2.2 u hu
      unfold RrY at v
      refine X_run rfl ?_ ?_
      · simp [md_s, md_w, rget, r_a, r_b, r_c, r_i, r_l, hy, hs, hb, x5, v]
      try simp only [md_s, md_w, rget_some, r_a, r_b, r_c, r_i, r_l, r_nx, r_pc, Nat.reduceEqDiff, false_and, if_false, hy, hs, hb, x5, v]
      refine X_if_eq rfl (fun c3 => ?_) (fun c3 => ?_)
      · have e0 : pAmend K (nI u) a = .ok (k_am K u, ks_am K (up1 (k_am K) u a)) := by rw [pAmend, if_pos c1, if_pos c2, iN_nI (by omega), if_pos c3]
        rw [e0]
        obtain ⟨D2, e2, z2, y2⟩ := wr_ai D1 (A + 11) u a
        have hR2 : RepR D2 A (ks_am K (up1 (k_am K) u a)) := e2 ▸ hR1.am a
        have hO2 : Out A (A + 20) D1 D2 := e2 ▸ Out.ai (by omega)
        refine X_run rfl ?_ ?_
        · simp [md_s, md_w, rget, r_a, r_b, r_c, r_i, r_l, hy, hs, hb, x5, v, e2]
        try simp only [md_s, md_w, rget_some, r_a, r_b, r_c, r_i, r_l, r_nx, r_pc, Nat.reduceEqDiff, false_and, if_false, hy, hs, hb, x5, v, e2]
        exact X_iret rfl rfl (RfP.ok (hM1.state hR2 hO2 (by omega)) (hO1.tr (OutR.o hO2 (by omega))) (by rw [(hO2 Y (by omega)).1]; exact t1) rfl)
      · have e0 : pAmend K (nI u) a = .error eS := by rw [pAmend, if_pos c1, if_pos c2, iN_nI (by omega), if_neg c3]
        rw [e0]
        refine X_run rfl trivial ?_
        refine X_cV (args := [.int 3]) rfl (by decide) hy.1 rfl rfl (Nat.le_of_ble_eq_true rfl) (c_no hY) ?_
        rintro _ _ ⟨rfl, rfl⟩
        refine X_run rfl trivial ?_
        exact X_iret rfl rfl (RfP.no hM1 hO1 (by omega) rfl (rfl))
    · have e0 : pAmend K (nI u) a = .error eA := by rw [pAmend, if_pos c1, if_neg (nb2i c2)]
      rw [e0]
      refine X_run rfl trivial ?_
      refine X_cV (args := [.int 2]) rfl (by decide) hy.1 rfl rfl (Nat.le_of_ble_eq_true rfl) (c_no hY) ?_
      rintro _ _ ⟨rfl, rfl⟩
      refine X_run rfl trivial ?_
      exact X_iret rfl rfl (RfP.no hM1 hO1 (by omega) rfl (rfl))
  · have e0 : pAmend K n a = .error eB := by rw [pAmend, if_neg (nb2i c1)]
    rw [e0]
    refine X_run rfl trivial ?_
    refine X_cV (args := [.int 1]) rfl (by decide) hy.1 rfl rfl (Nat.le_of_ble_eq_true rfl) (c_no hY) ?_
    rintro _ _ ⟨rfl, rfl⟩
    refine X_run rfl trivial ?_
    exact X_iret rfl rfl (RfP.no hM1 hO1 (by omega) rfl (rfl))
theorem c_MputOff {n a : Int32} (hY : MoL S Y A A2) (hW : WfK K) (hM : RmR D Y A K T P e) : EvM g (d + 2) mX11_putOff 0 0 [.ref Y, .int n, .int a] (md S D) (RfP S D Y A 0 (ansK K (pPutOff K n a)) T P e [eB, eA, eS] (ansV (pPutOff K n a))) := by
  obtain ⟨l1, l2, l3⟩ := hY.lo
  obtain ⟨hy, -, ⟨hL, hL2⟩, -⟩ := id hY
  obtain ⟨hs, ha, hb⟩ := hL.all
  obtain ⟨w1, w2, w3, w4⟩ := id hW
  obtain ⟨D1, e1, z1, y1⟩ := wr_fi D 352 Y 0
  have hM1 : RmR D1 Y A K T P e := e1 ▸ hM.thr (by omega) (by decide)
  have hR1 := hM1.1
  have hO1 : OutR S Y D D1 := e1 ▸ OutR.fi
  have t1 : d_fi D1 352 Y = 0 := by rw [z1, if_pos ⟨rfl, rfl⟩]
  refine EvM.mk (by decide) (Nat.le_of_ble_eq_true rfl) ?_
  refine X_run rfl ?_ ?_
  · simp [md_s, md_w, rget, r_a, r_b, r_c, r_i, r_l, hy, e1]
  try simp only [md_s, md_w, rget_some, r_a, r_b, r_c, r_i, r_l, r_nx, r_pc, Nat.reduceEqDiff, false_and, if_false, hy, e1]
  refine X_cV (args := [.int n]) rfl (by decide) hy.1 rfl rfl (Nat.le_of_ble_eq_true rfl) (c_RisPayment hY hR1) ?_
  rintro _ _ ⟨rfl, rfl⟩
  refine X_if_ne rfl (fun c1 => ?_) (fun c1 => ?_)
  · have c1 := b2i_nz c1
    obtain ⟨u, hu, rfl⟩ := (inB_iff (by omega)).mp c1
    refine X_run rfl trivial ?_
    refine X_cS (args := [.int a, .int 1, .int 30]) rfl (by decide) rfl rfl (Nat.le_of_ble_eq_true rfl) c_isIn ?_
    rintro _ _ ⟨rfl, rfl⟩
    rw [if_inR]
    refine X_if_ne rfl (fun c2 => ?_) (fun c2 => ?_)
    · have c2 := b2i_nz c2
      have x5 := vx (show u < 60 by omega) (by decide)
      have v := hR1.2.2.2 u hu
      unfold RrY at v
      refine X_run rfl ?_ ?_
      · simp [md_s, md_w, rget, r_a, r_b, r_c, r_i, r_l, hy, hs, hb, x5, v]
      try simp only [md_s, md_w, rget_some, r_a, r_b, r_c, r_i, r_l, r_nx, r_pc, Nat.reduceEqDiff, false_and, if_false, hy, hs, hb, x5, v]
      refine X_if_eq rfl (fun c3 => ?_) (fun c3 => ?_)
      · have e0 : pPutOff K (nI u) a = .ok (k_du K u + a, ks_du K (up1 (k_du K) u (k_du K u + a))) := by rw [pPutOff, if_pos c1, if_pos c2, iN_nI (by omega), if_pos c3]
        rw [e0]
        obtain ⟨D2, e2, z2, y2⟩ := wr_ai D1 (A + 13) u (k_du K u + a)
        have hR2 : RepR D2 A (ks_du K (up1 (k_du K) u (k_du K u + a))) := e2 ▸ hR1.du _
        have hO2 : Out A (A + 20) D1 D2 := e2 ▸ Out.ai (by omega)
        have f2 : d_ai D2 (A + 13) u = k_du K u + a := by rw [z2, if_pos ⟨rfl, rfl⟩]
        refine X_run rfl ?_ ?_
        · simp [md_s, md_w, rget, r_a, r_b, r_c, r_i, r_l, hy, hs, hb, x5, v, e2, f2]
        try simp only [md_s, md_w, rget_some, r_a, r_b, r_c, r_i, r_l, r_nx, r_pc, Nat.reduceEqDiff, false_and, if_false, hy, hs, hb, x5, v, e2, f2]
        exact X_iret rfl rfl (RfP.ok (hM1.state hR2 hO2 (by omega)) (hO1.tr (OutR.o hO2 (by omega))) (by rw [(hO2 Y (by omega)).1]; exact t1) rfl)
      · have e0 : pPutOff K (nI u) a = .error eS := by rw [pPutOff, if_pos c1, if_pos c2, iN_nI (by omega), if_neg c3]
        rw [e0]
        refine X_run rfl trivial ?_
        refine X_cV (args := [.int 3]) rfl (by decide) hy.1 rfl rfl (Nat.le_of_ble_eq_true rfl) (c_no hY) ?_
        rintro _ _ ⟨rfl, rfl⟩
        refine X_run rfl trivial ?_
        exact X_iret rfl rfl (RfP.no hM1 hO1 (by omega) rfl (rfl))
    · have e0 : pPutOff K (nI u) a = .error eA := by rw [pPutOff, if_pos c1, if_neg (nb2i c2)]
      rw [e0]
      refine X_run rfl trivial ?_
      refine X_cV (args := [.int 2]) rfl (by decide) hy.1 rfl rfl (Nat.le_of_ble_eq_true rfl) (c_no hY) ?_
      rintro _ _ ⟨rfl, rfl⟩
      refine X_run rfl trivial ?_
      exact X_iret rfl rfl (RfP.no hM1 hO1 (by omega) rfl (rfl))
  · have e0 : pPutOff K n a = .error eB := by rw [pPutOff, if_neg (nb2i c1)]
    rw [e0]
    refine X_run rfl trivial ?_
    refine X_cV (args := [.int 1]) rfl (by decide) hy.1 rfl rfl (Nat.le_of_ble_eq_true rfl) (c_no hY) ?_
    rintro _ _ ⟨rfl, rfl⟩
    refine X_run rfl trivial ?_
    exact X_iret rfl rfl (RfP.no hM1 hO1 (by omega) rfl (rfl))
theorem c_Mpledge {x m a : Int32} (hY : MoL S Y A A2) (hW : WfK K) (hC : CoK K) (hRm : ∀ j u, j < k_np K → u < k_nm K → inR a (-100000) 100000 = true → ((a ≤ k_ba K j u ∨ ¬ 0 < a) ∧ -a ≤ k_co K j u) → RoomOk (mvC K j u a)) (hM : RmR D Y A K T P e) : EvM g (d + 3) mX11_pledge 0 0 [.ref Y, .int x, .int m, .int a] (md S D) (RfP S D Y A 0 (ansK K (pPledge K x m a)) T P e [eB, eA, eS] (ansV (pPledge K x m a))) := by
  obtain ⟨l1, l2, l3⟩ := hY.lo
  obtain ⟨hy, -, ⟨hL, hL2⟩, -⟩ := id hY
  obtain ⟨hs, ha, hb⟩ := hL.all
  obtain ⟨w1, w2, w3, w4⟩ := id hW
  obtain ⟨D1, e1, z1, y1⟩ := wr_fi D 352 Y 0
  have hM1 : RmR D1 Y A K T P e := e1 ▸ hM.thr (by omega) (by decide)
  have hR1 := hM1.1
  have hO1 : OutR S Y D D1 := e1 ▸ OutR.fi
  have t1 : d_fi D1 352 Y = 0 := by rw [z1, if_pos ⟨rfl, rfl⟩]
  refine EvM.mk (by decide) (Nat.le_of_ble_eq_true rfl) ?_
  refine X_run rfl ?_ ?_
  · simp [md_s, md_w, rget, r_a, r_b, r_c, r_i, r_l, hy, e1]
  try simp only [md_s, md_w, rget_some, r_a, r_b, r_c, r_i, r_l, r_nx, r_pc, Nat.reduceEqDiff, false_and, if_false, hy, e1]
  have no : ¬ (inB x (k_np K) = true ∧ inB m (k_nm K) = true) → Eg g (d + 3) mX11_pledge 0 0 (Zr g (RfP S D Y A 0 (ansK K (pPledge K x m a)) T P e [eB, eA, eS] (ansV (pPledge K x m a)))) 21 [(0, .ref Y)] [] (md S D1) := by
    intro c
    have e0 : pPledge K x m a = .error eB := by rw [pPledge, if_neg c]
    rw [e0]
    refine X_run rfl trivial ?_
    refine X_cV (args := [.int 1]) rfl (by decide) hy.1 rfl rfl (Nat.le_of_ble_eq_true rfl) (c_no hY) ?_
    rintro _ _ ⟨rfl, rfl⟩
    refine X_run rfl trivial ?_
    exact X_iret rfl rfl (RfP.no hM1 hO1 (by omega) rfl (rfl))
  refine X_cV (args := [.int x]) rfl (by decide) hy.1 rfl rfl (Nat.le_of_ble_eq_true rfl) (c_RisParty hY hR1) ?_
  rintro _ _ ⟨rfl, rfl⟩
  refine X_if_eq rfl (fun c1 => Eg.sub (no (nf c1)) ⟨rfl, trivial⟩) (fun c1 => ?_)
  have c1 := b2i_nz c1
  refine X_run rfl trivial ?_
  refine X_cV (args := [.int m]) rfl (by decide) hy.1 rfl rfl (Nat.le_of_ble_eq_true rfl) (c_RisMoney hY hR1) ?_
  rintro _ _ ⟨rfl, rfl⟩
  refine X_if_ne rfl (fun c2 => ?_) (fun c2 => Eg.sub (no (nf2 c2)) ⟨rfl, trivial⟩)
  have c2 := b2i_nz c2
  obtain ⟨j, hj, rfl⟩ := (inB_iff (by omega)).mp c1
  obtain ⟨u, hu, rfl⟩ := (inB_iff (by omega)).mp c2
  have bad : ¬ (¬ a = 0 ∧ inR a (-100000) 100000 = true) → Eg g (d + 3) mX11_pledge 0 0 (Zr g (RfP S D Y A 0 (ansK K (pPledge K (nI j) (nI u) a)) T P e [eB, eA, eS] (ansV (pPledge K (nI j) (nI u) a)))) 42 [(0, .ref Y)] [] (md S D1) := by
    intro c
    have e0 : pPledge K (nI j) (nI u) a = .error eA := by rw [pPledge, if_pos ⟨c1, c2⟩, if_neg c]
    rw [e0]
    refine X_run rfl trivial ?_
    refine X_cV (args := [.int 2]) rfl (by decide) hy.1 rfl rfl (Nat.le_of_ble_eq_true rfl) (c_no hY) ?_
    rintro _ _ ⟨rfl, rfl⟩
    refine X_run rfl trivial ?_
    exact X_iret rfl rfl (RfP.no hM1 hO1 (by omega) rfl (rfl))
  refine X_run rfl trivial ?_
  refine X_if_eq rfl (fun c3 => Eg.sub (bad (fun z => z.1 c3)) ⟨rfl, trivial⟩) (fun c3 => ?_)
  refine X_run rfl trivial ?_
  refine X_cS (args := [.int a, .int (-100000), .int 100000]) rfl (by decide) rfl rfl (Nat.le_of_ble_eq_true rfl) c_isIn ?_
  rintro _ _ ⟨rfl, rfl⟩
  rw [if_inR]
  refine X_if_ne rfl (fun c4 => ?_) (fun c4 => Eg.sub (bad (nf2 c4)) ⟨rfl, trivial⟩)
  have c4 := b2i_nz c4
  have x5 := vx (show 5 * j + u < 50 by omega) (by decide)
  have v := (hR1.2.1 j hj).2.2.2 u (by omega)
  have hc0 := hC j hj u (by omega)
  have hin := of_decide_eq_true c4
  have ab : -100000 ≤ a.toInt ∧ a.toInt ≤ 100000 := ⟨Int32.le_iff_toInt_le.mp hin.1, Int32.le_iff_toInt_le.mp hin.2⟩
  have na : (-a).toInt = -a.toInt := t32_neg (by omega)
  have a0 : a.toInt ≠ 0 := fun z => c3 (Int32.toInt_inj.mp z)
  have few : ¬ ((a ≤ k_ba K j u ∨ ¬ 0 < a) ∧ -a ≤ k_co K j u) → Eg g (d + 3) mX11_pledge 0 0 (Zr g (RfP S D Y A 0 (ansK K (pPledge K (nI j) (nI u) a)) T P e [eB, eA, eS] (ansV (pPledge K (nI j) (nI u) a)))) 91 [(0, .ref Y)] [] (md S D1) := by
    intro c
    have e0 : pPledge K (nI j) (nI u) a = .error eS := by rw [pPledge, if_pos ⟨c1, c2⟩, if_pos ⟨c3, c4⟩, iN_nI (by omega), iN_nI (by omega), if_neg c]
    rw [e0]
    refine X_run rfl trivial ?_
    refine X_cV (args := [.int 3]) rfl (by decide) hy.1 rfl rfl (Nat.le_of_ble_eq_true rfl) (c_no hY) ?_
    rintro _ _ ⟨rfl, rfl⟩
    refine X_run rfl trivial ?_
    exact X_iret rfl rfl (RfP.no hM1 hO1 (by omega) rfl (rfl))
  have go : ((a ≤ k_ba K j u ∨ ¬ 0 < a) ∧ -a ≤ k_co K j u) → Eg g (d + 3) mX11_pledge 0 0 (Zr g (RfP S D Y A 0 (ansK K (pPledge K (nI j) (nI u) a)) T P e [eB, eA, eS] (ansV (pPledge K (nI j) (nI u) a)))) 97 [(0, .ref Y), (1, .int (nI j)), (2, .int (nI u)), (3, .int a), (4, .int (nI (5 * j + u)))] [] (md S D1) := by
    intro c
    obtain ⟨D2, e2, z2, y2⟩ := wr_ai D1 (A + 7) (5 * j + u) (k_ba K j u + -a)
    have hR2 : RepR D2 A (ks_ba K (up2n (k_ba K) j u (k_ba K j u + -a))) := e2 ▸ hR1.ba (by omega) _
    have hO2 : Out A (A + 20) D1 D2 := e2 ▸ Out.ai (by omega)
    have v2 : d_ai D2 (A + 8) (5 * j + u) = k_co K j u := ((hR2.2.1 j hj).2.2.2 u (by omega)).2
    obtain ⟨D3, e3, z3, y3⟩ := wr_ai D2 (A + 8) (5 * j + u) (k_co K j u + a)
    have hR3 : RepR D3 A (mvC K j u a) := e3 ▸ hR2.co (by omega) _
    have hO3 : Out A (A + 20) D1 D3 := hO2.tr (e3 ▸ Out.ai (by omega))
    have hrm := hRm j u hj hu c4 c j hj
    refine X_run rfl ?_ ?_
    · simp [md_s, md_w, rget, r_a, r_b, r_c, r_i, r_l, hy, hs, ha, x5, v, Int32.sub_eq_add_neg, e2, v2, e3]
    try simp only [md_s, md_w, rget_some, r_a, r_b, r_c, r_i, r_l, r_nx, r_pc, Nat.reduceEqDiff, false_and, if_false, hy, hs, ha, x5, v, Int32.sub_eq_add_neg, e2, v2, e3]
    refine X_cV (args := [.int (nI j)]) rfl (by decide) hs.1 rfl rfl (Nat.le_of_ble_eq_true rfl) (c_Rroom (K := mvC K j u a) hL hW hR3 hj) ?_
    rintro _ _ ⟨rfl, rfl⟩
    refine X_run rfl trivial ?_
    have fin : (0 ≤ a ∨ 0 ≤ (room (mvC K j u a) j).toInt32) → Eg g (d + 3) mX11_pledge 0 0 (Zr g (RfP S D Y A 0 (ansK K (pPledge K (nI j) (nI u) a)) T P e [eB, eA, eS] (ansV (pPledge K (nI j) (nI u) a)))) 146 [(5, .long (room (mvC K j u a) j))] [] (md S D3) := by
      intro cc
      have e0 : pPledge K (nI j) (nI u) a = .ok ((room (mvC K j u a) j).toInt32, mvC K j u a) := by rw [pPledge, if_pos ⟨c1, c2⟩, if_pos ⟨c3, c4⟩, iN_nI (by omega), iN_nI (by omega), if_pos c, if_pos cc]
      rw [e0]
      refine X_run rfl trivial ?_
      exact X_iret rfl rfl (RfP.ok (hM1.state hR3 hO3 (by omega)) (hO1.tr (OutR.o hO3 (by omega))) (by rw [(hO3 Y (by omega)).1]; exact t1) rfl)
    refine X_if_gt rfl (fun c5 => Eg.sub (fin (Or.inl (Int32.le_of_lt c5))) ⟨rfl, trivial⟩) (fun c5 => ?_)
    refine X_run rfl trivial ?_
    refine X_if_lt rfl (fun c6 => ?_) (fun c6 => ?_)
    · have c6 := (lg_cmp_lt _ _).mp c6
      have c7 : (room (mvC K j u a) j).toInt32 < 0 := hrm.mpr c6
      have e0 : pPledge K (nI j) (nI u) a = .error eS := by
        rw [pPledge, if_pos ⟨c1, c2⟩, if_pos ⟨c3, c4⟩, iN_nI (by omega), iN_nI (by omega), if_pos c, if_neg (fun z => ?_)]
        rcases z with z | z
        · exact c5 (Int32.lt_of_le_of_ne z (fun q => c3 q.symm))
        · exact absurd c7 (Int32.not_lt.mpr z)
      rw [e0]
      have v3 := (hR3.2.1 j hj).2.2.2 u (by omega)
      obtain ⟨D4, e4, z4, y4⟩ := wr_ai D3 (A + 7) (5 * j + u) (k_ba (mvC K j u a) j u + a)
      have hR4 : RepR D4 A (ks_ba (mvC K j u a) (up2n (k_ba (mvC K j u a)) j u (k_ba (mvC K j u a) j u + a))) := e4 ▸ hR3.ba (by omega) _
      have hO4 : Out A (A + 20) D1 D4 := hO3.tr (e4 ▸ Out.ai (by omega))
      have v4 : d_ai D4 (A + 8) (5 * j + u) = k_co (mvC K j u a) j u := ((hR4.2.1 j hj).2.2.2 u (by omega)).2
      obtain ⟨D5, e5, z5, y5⟩ := wr_ai D4 (A + 8) (5 * j + u) (k_co (mvC K j u a) j u + -a)
      have hR5 : RepR D5 A K := by
        have h5 := hR4.co (p := j) (m := u) (by omega) (k_co (mvC K j u a) j u + -a)
        rw [e5] at h5
        have e6 := mvC_undo (K := K) (p := j) (m := u) (x := a)
        have e7 : mvC (mvC K j u a) j u (-a) = ks_co (ks_ba (mvC K j u a) (up2n (k_ba (mvC K j u a)) j u (k_ba (mvC K j u a) j u + - -a))) (up2n (k_co (mvC K j u a)) j u (k_co (mvC K j u a) j u + -a)) := rfl
        rw [e7, Int32.neg_neg] at e6
        rw [← e6]
        exact h5
      have hO5 : Out A (A + 20) D1 D5 := hO4.tr (e5 ▸ Out.ai (by omega))
      have hM5 : RmR D5 Y A K T P e := hM1.state hR5 hO5 (by omega)
      have hOR : OutR S Y D D5 := hO1.tr (OutR.o hO5 (by omega))
      refine X_run rfl ?_ ?_
      · simp [md_s, md_w, rget, r_a, r_b, r_c, r_i, r_l, hy, hs, ha, x5, v3, Int32.sub_eq_add_neg, e4, v4, e5]
      try simp only [md_s, md_w, rget_some, r_a, r_b, r_c, r_i, r_l, r_nx, r_pc, Nat.reduceEqDiff, false_and, if_false, hy, hs, ha, x5, v3, Int32.sub_eq_add_neg, e4, v4, e5]
      refine X_cV (args := [.int 3]) rfl (by decide) hy.1 rfl rfl (Nat.le_of_ble_eq_true rfl) (c_no hY) ?_
      rintro _ _ ⟨rfl, rfl⟩
      refine X_run rfl trivial ?_
      exact X_iret rfl rfl (RfP.no hM5 hOR (by omega) rfl rfl)
    · refine Eg.sub (fin (Or.inr (Int32.not_lt.mp (fun z => c6 ((lg_cmp_lt _ _).mpr (hrm.mp z)))))) ⟨rfl, trivial⟩
  refine X_run rfl ?_ ?_
  · simp [md_s, md_w, rget, r_a, r_b, r_c, r_i, r_l, i5]
  try simp only [md_s, md_w, rget_some, r_a, r_b, r_c, r_i, r_l, r_nx, r_pc, Nat.reduceEqDiff, false_and, if_false, i5]
  refine X_if_le rfl (fun c5 => ?_) (fun c5 => ?_)
  · refine X_run rfl ?_ ?_
    · simp [md_s, md_w, rget, r_a, r_b, r_c, r_i, r_l, hy, hs, ha, x5, v]
    try simp only [md_s, md_w, rget_some, r_a, r_b, r_c, r_i, r_l, r_nx, r_pc, Nat.reduceEqDiff, false_and, if_false, hy, hs, ha, x5, v]
    refine X_icmp_ge rfl (fun c6 => Eg.sub (go ⟨Or.inr (Int32.not_lt.mpr c5), c6⟩) ⟨rfl, rfl, rfl, rfl, rfl, trivial⟩) (fun c6 => Eg.sub (few (fun z => c6 z.2)) ⟨rfl, trivial⟩)
  · have c5 := Int32.not_le.mp c5
    refine X_run rfl ?_ ?_
    · simp [md_s, md_w, rget, r_a, r_b, r_c, r_i, r_l, hy, hs, ha, x5, v]
    try simp only [md_s, md_w, rget_some, r_a, r_b, r_c, r_i, r_l, r_nx, r_pc, Nat.reduceEqDiff, false_and, if_false, hy, hs, ha, x5, v]
    refine X_icmp_ge rfl (fun c6 => Eg.sub (go ⟨Or.inl c6, ?_⟩) ⟨rfl, rfl, rfl, rfl, rfl, trivial⟩) (fun c6 => ?_)
    · rw [Int32.le_iff_toInt_le, na]
      have : (0 : Int32).toInt < a.toInt := Int32.lt_iff_toInt_lt.mp c5
      have h0 : ((0 : Int32)).toInt = 0 := rfl
      omega
    · have e0 : pPledge K (nI j) (nI u) a = .error eS := by rw [pPledge, if_pos ⟨c1, c2⟩, if_pos ⟨c3, c4⟩, iN_nI (by omega), iN_nI (by omega), if_neg (fun z => z.1.elim c6 (fun q => q c5))]
      rw [e0]
      refine X_run rfl trivial ?_
      refine X_cV (args := [.int 3]) rfl (by decide) hy.1 rfl rfl (Nat.le_of_ble_eq_true rfl) (c_no hY) ?_
      rintro _ _ ⟨rfl, rfl⟩
      refine X_run rfl trivial ?_
      exact X_iret rfl rfl (RfP.no hM1 hO1 (by omega) rfl (rfl))
end REFCHG
