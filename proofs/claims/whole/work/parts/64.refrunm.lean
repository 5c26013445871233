/-! hours and runs, asked of the reference -/
def mx0 (x : Int32) : Int32 := if 0 < x then x else 0
theorem worth_0 (K : KT) (m : Nat) : worth K 0 m = 0 := by
  unfold worth
  rw [show ((0 : Int32)).toInt64 = 0 from rfl, Int64.zero_mul]
  rfl
section REFRUNM
variable {g : GG} {d c : Nat} {S : ShT} {D : DaT} {Y A A2 : Nat} {K : KT} {T P : List Nat} {e : Int32}
theorem c_Mpass {x : Int32} (hY : MoL S Y A A2) (hK : InvK K c) (hM : RmR D Y A K T P e) : EvM g (d + 5) mX11_pass 0 0 [.ref Y, .int x] (md S D) (RfP S D Y A 0 (ansK K (pPass K x)) T P e [eA] (ansV (pPass K x))) := by
  have hW := hK.1
  obtain ⟨l1, l2, l3⟩ := hY.lo
  obtain ⟨hy, -, ⟨hL, hL2⟩, -⟩ := id hY
  obtain ⟨hs, ha, hb⟩ := hL.all
  obtain ⟨w1, w2, w3, w4⟩ := id hW
  obtain ⟨D1, e1, z1, y1⟩ := wr_fi D 352 Y 0
  have hM1 : RmR D1 Y A K T P e := e1 ▸ hM.thr (by omega) (by decide)
  have hR1 := hM1.1
  have hO1 : OutR S Y D D1 := e1 ▸ OutR.fi
  have t1 : d_fi D1 352 Y = 0 := by rw [z1, if_pos ⟨rfl, rfl⟩]
  refine EvM.mk (by decide) (Nat.le_of_ble_eq_true rfl) ?_
  refine X_run rfl ?_ ?_
  · simp [md_s, md_w, rget, r_a, r_b, r_c, r_i, r_l, hy, e1]
  try simp only [md_s, md_w, rget_some, r_a, r_b, r_c, r_i, r_l, r_nx, r_pc, Nat.reduceEqDiff, false_and, if_false, hy, e1]
  refine X_cS (args := [.int x, .int 1, .int 100]) rfl (by decide) rfl rfl (Nat.le_of_ble_eq_true rfl) c_isIn ?_
  rintro _ _ ⟨rfl, rfl⟩
  rw [if_inR]
  refine X_if_ne rfl (fun c1 => ?_) (fun c1 => ?_)
  · have c1 := b2i_nz c1
    obtain ⟨h, h1, h2, rfl⟩ := inR_ix (n := 100) (by decide) c1
    have e0 : pPass K (nI h) = .ok (iter passS h (0, K)) := by rw [pPass, if_pos c1, iN_nI (by omega)]
    rw [e0]
    refine X_run rfl trivial ?_
    refine Eg_up (α := DaT) (fun i D' => Eg g (d + 5) mX11_pass 0 0 (Zr g _) 25 [(0, .ref Y), (1, .int (nI h)), (2, .int (iter passS i (0, K)).1), (3, .int (nI i))] [] (md S D')) (fun i D' => RmR D' Y A (iter passS i (0, K)).2 T P e ∧ OutR S Y D D' ∧ d_fi D' 352 Y = 0) h (fun i D2 hi hI k => ?_) (fun D2 hI => ?_) D1 ⟨hM1, hO1, t1⟩
    · obtain ⟨hM2, hO2, t2⟩ := hI
      have hKi := inv_pass hK i
      refine X_run rfl trivial ?_
      refine X_icmp_ge rfl (fun c2 => no_le c2 hi (by omega)) (fun c2 => ?_)
      refine X_run rfl ?_ ?_
      · simp [md_s, md_w, rget, r_a, r_b, r_c, r_i, r_l, hy]
      try simp only [md_s, md_w, rget_some, r_a, r_b, r_c, r_i, r_l, r_nx, r_pc, Nat.reduceEqDiff, false_and, if_false, hy]
      refine X_cV (args := []) rfl (by decide) hs.1 rfl rfl (Nat.le_of_ble_eq_true rfl) (c_Rpass hL hKi.run (inv_zs hKi) hM2.1) ?_
      rintro _ _ ⟨D3, rfl, rfl, hR3, hO3⟩
      refine X_run rfl ?_ ?_
      · simp [md_s, md_w, rget, r_a, r_b, r_c, r_i, r_l, nI_s1]
      try simp only [md_s, md_w, rget_some, r_a, r_b, r_c, r_i, r_l, r_nx, r_pc, Nat.reduceEqDiff, false_and, if_false, nI_s1]
      have k2 := k D3 ⟨hM2.state hR3 hO3 (by omega), hO2.tr (OutR.o hO3 (by omega)), by rw [(hO3 Y (by omega)).1]; exact t2⟩
      rw [passS_1] at k2
      exact k2
    · obtain ⟨hM2, hO2, t2⟩ := hI
      refine X_run rfl trivial ?_
      refine X_icmp_ge rfl (fun c2 => ?_) (fun c2 => no_nle c2 (Nat.le_refl _) (by omega))
      refine X_run rfl trivial ?_
      exact X_iret rfl rfl (RfP.ok hM2 hO2 t2 rfl)
  · have e0 : pPass K x = .error eA := by rw [pPass, if_neg (nb2i c1)]
    rw [e0]
    refine X_run rfl trivial ?_
    refine X_cV (args := [.int 1]) rfl (by decide) hy.1 rfl rfl (Nat.le_of_ble_eq_true rfl) (c_no hY) ?_
    rintro _ _ ⟨rfl, rfl⟩
    refine X_run rfl trivial ?_
    exact X_iret rfl rfl (RfP.no hM1 hO1 (by omega) rfl (rfl))
theorem c_Msettles {n : Int32} (hY : MoL S Y A A2) (hK : InvK K c) (hM : RmR D Y A K T P e) : EvM g (d + 4) mX11_settles 0 0 [.ref Y, .int n] (md S D) (RfP S D Y A 0 K T P e [eB] (pSettles K n)) := by
  have hW := hK.1
  obtain ⟨l1, l2, l3⟩ := hY.lo
  obtain ⟨hy, -, ⟨hL, hL2⟩, -⟩ := id hY
  obtain ⟨hs, ha, hb⟩ := hL.all
  obtain ⟨w1, w2, w3, w4⟩ := id hW
  obtain ⟨D1, e1, z1, y1⟩ := wr_fi D 352 Y 0
  have hM1 : RmR D1 Y A K T P e := e1 ▸ hM.thr (by omega) (by decide)
  have hR1 := hM1.1
  have hO1 : OutR S Y D D1 := e1 ▸ OutR.fi
  have t1 : d_fi D1 352 Y = 0 := by rw [z1, if_pos ⟨rfl, rfl⟩]
  refine EvM.mk (by decide) (Nat.le_of_ble_eq_true rfl) ?_
  refine X_run rfl ?_ ?_
  · simp [md_s, md_w, rget, r_a, r_b, r_c, r_i, r_l, hy, e1]
  try simp only [md_s, md_w, rget_some, r_a, r_b, r_c, r_i, r_l, r_nx, r_pc, Nat.reduceEqDiff, false_and, if_false, hy, e1]
  have hs2 := hL2.all.1
  have hb2 := hL2.all.2.2
  refine X_cV (args := [.int n]) rfl (by decide) hy.1 rfl rfl (Nat.le_of_ble_eq_true rfl) (c_RisPayment hY hR1) ?_
  rintro _ _ ⟨rfl, rfl⟩
  refine X_if_ne rfl (fun c1 => ?_) (fun c1 => ?_)
  · have c1 := b2i_nz c1
    obtain ⟨u, hu, rfl⟩ := (inB_iff (by omega)).mp c1
    have x1 := vx (show u < 60 by omega) (by decide)
    refine X_run rfl ?_ ?_
    · simp [md_s, md_w, rget, r_a, r_b, r_c, r_i, r_l, hy]
    try simp only [md_s, md_w, rget_some, r_a, r_b, r_c, r_i, r_l, r_nx, r_pc, Nat.reduceEqDiff, false_and, if_false, hy]
    refine X_cV (args := [.ref A]) rfl (by decide) hs2.1 rfl rfl (Nat.le_of_ble_eq_true rfl) (c_become hL2 hL l3 hW hR1) ?_
    rintro _ _ ⟨D2, rfl, rfl, hR2, hO2⟩
    refine X_run rfl ?_ ?_
    · simp [md_s, md_w, rget, r_a, r_b, r_c, r_i, r_l, hy]
    try simp only [md_s, md_w, rget_some, r_a, r_b, r_c, r_i, r_l, r_nx, r_pc, Nat.reduceEqDiff, false_and, if_false, hy]
    refine X_cV (args := []) rfl (by decide) hs2.1 rfl rfl (Nat.le_of_ble_eq_true rfl) (c_Rbegin hL2 hW hR2) ?_
    rintro _ _ ⟨D3, rfl, rfl, hJ3, hO3⟩
    refine X_run rfl ?_ ?_
    · simp [md_s, md_w, rget, r_a, r_b, r_c, r_i, r_l, hy]
    try simp only [md_s, md_w, rget_some, r_a, r_b, r_c, r_i, r_l, r_nx, r_pc, Nat.reduceEqDiff, false_and, if_false, hy]
    refine X_cV (args := []) rfl (by decide) hs2.1 rfl rfl (Nat.le_of_ble_eq_true rfl) (c_Rgo hL2 hK.run hJ3 (net0_I hK.run.2.1 hK.run.2.2.2 w3)) ?_
    rintro _ _ ⟨D4, rfl, rfl, hJ4, hO4⟩
    have hin : d_ai D4 (A2 + 18) u = b2i ((outK K).1 u) := hJ4.2.1 u hu
    have hO5 : Out A2 (A2 + 20) D1 D4 := ((hO2.wide (Nat.le_refl _) (by omega)).tr (hO3.wide (by omega) (Nat.le_refl _))).tr (hO4.wide (by omega) (Nat.le_refl _))
    have hM4 : RmR D4 Y A K T P e := hM1.out hO5 (by omega) (Or.inl (by omega))
    have fin : RfP S D Y A 0 K T P e [eB] (pSettles K (nI u)) (some (.int (b2i ((outK K).1 u)))) (md S D4) := RfP.ok hM4 (hO1.tr (OutR.o hO5 (by omega))) (by rw [(hO5 Y (by omega)).1]; exact t1) (by rw [pSettles, if_pos c1, iN_nI (by omega)])
    refine X_run rfl ?_ ?_
    · simp [md_s, md_w, rget, r_a, r_b, r_c, r_i, r_l, hy, hs2, hb2, x1, hin]
    try simp only [md_s, md_w, rget_some, r_a, r_b, r_c, r_i, r_l, r_nx, r_pc, Nat.reduceEqDiff, false_and, if_false, hy, hs2, hb2, x1, hin]
    refine X_icmp_ne rfl (fun c2 => ?_) (fun c2 => ?_)
    · refine X_run rfl trivial ?_
      refine X_zret rfl rfl (Or.inl rfl) ?_
      cases hz : (outK K).1 u with
      | true => rw [hz] at c2; exact absurd rfl c2
      | false => rw [hz] at fin; exact fin
    · refine X_run rfl trivial ?_
      refine X_zret rfl rfl (Or.inr rfl) ?_
      rw [b2i_one.mp c2] at fin
      exact fin
  · refine X_run rfl trivial ?_
    refine X_cV (args := [.int 1]) rfl (by decide) hy.1 rfl rfl (Nat.le_of_ble_eq_true rfl) (c_no hY) ?_
    rintro _ _ ⟨rfl, rfl⟩
    refine X_if_eq rfl (fun _ => ?_) (fun c => absurd rfl c)
    refine X_run rfl trivial ?_
    exact X_zret rfl rfl (Or.inl rfl) (RfP.no hM1 hO1 (by omega) rfl (by rw [pSettles, if_neg (nb2i c1)]))
theorem c_Mwhen {n : Int32} (hY : MoL S Y A A2) (hK : InvK K c) (hM : RmR D Y A K T P e) : EvM g (d + 5) mX11_when 0 0 [.ref Y, .int n] (md S D) (RfP S D Y A 0 K T P e [eB] (pWhen K n)) := by
  have hW := hK.1
  obtain ⟨l1, l2, l3⟩ := hY.lo
  obtain ⟨hy, -, ⟨hL, hL2⟩, -⟩ := id hY
  obtain ⟨hs, ha, hb⟩ := hL.all
  obtain ⟨w1, w2, w3, w4⟩ := id hW
  obtain ⟨D1, e1, z1, y1⟩ := wr_fi D 352 Y 0
  have hM1 : RmR D1 Y A K T P e := e1 ▸ hM.thr (by omega) (by decide)
  have hR1 := hM1.1
  have hO1 : OutR S Y D D1 := e1 ▸ OutR.fi
  have t1 : d_fi D1 352 Y = 0 := by rw [z1, if_pos ⟨rfl, rfl⟩]
  refine EvM.mk (by decide) (Nat.le_of_ble_eq_true rfl) ?_
  refine X_run rfl ?_ ?_
  · simp [md_s, md_w, rget, r_a, r_b, r_c, r_i, r_l, hy, e1]
  try simp only [md_s, md_w, rget_some, r_a, r_b, r_c, r_i, r_l, r_nx, r_pc, Nat.reduceEqDiff, false_and, if_false, hy, e1]
  have hs2 := hL2.all.1
  have hb2 := hL2.all.2.2
  refine X_cV (args := [.int n]) rfl (by decide) hy.1 rfl rfl (Nat.le_of_ble_eq_true rfl) (c_RisPayment hY hR1) ?_
  rintro _ _ ⟨rfl, rfl⟩
  refine X_if_ne rfl (fun c1 => ?_) (fun c1 => ?_)
  · have c1 := b2i_nz c1
    obtain ⟨u, hu, rfl⟩ := (inB_iff (by omega)).mp c1
    have eu : iN (nI u) = u := iN_nI (by omega)
    have x1 := vx (show u < 60 by omega) (by decide)
    refine X_run rfl ?_ ?_
    · simp [md_s, md_w, rget, r_a, r_b, r_c, r_i, r_l, hy]
    try simp only [md_s, md_w, rget_some, r_a, r_b, r_c, r_i, r_l, r_nx, r_pc, Nat.reduceEqDiff, false_and, if_false, hy]
    refine X_cV (args := [.ref A]) rfl (by decide) hs2.1 rfl rfl (Nat.le_of_ble_eq_true rfl) (c_become hL2 hL l3 hW hR1) ?_
    rintro _ _ ⟨D2, rfl, rfl, hR2, hO2⟩
    refine X_run rfl trivial ?_
    have fin : ∀ i D', whenI K u = i → i ≤ 100 → RepR D' A2 (hrs K i) → Out A2 (A2 + 20) D1 D' → Eg g (d + 5) mX11_when 0 0 (Zr g (RfP S D Y A 0 K T P e [eB] (pWhen K (nI u)))) 64 [(0, .ref Y), (1, .int (nI u)), (2, .int (nI i))] [] (md S D') := fun i D' hi hi2 hR3 hO3 => by
      have hny : k_ny (hrs K i) = k_ny K := congrArg (fun z => z.2.2.1) (skel_hrs K i)
      have hv := hR3.2.2.2 u (by omega)
      unfold RrY at hv
      have hM4 : RmR D' Y A K T P e := hM1.out hO3 (by omega) (Or.inl (by omega))
      have hOR := hO1.tr (OutR.o (S := S) (Y := Y) hO3 (by omega))
      have t4 : d_fi D' 352 Y = 0 := by rw [(hO3 Y (by omega)).1]; exact t1
      refine X_run rfl ?_ ?_
      · simp [md_s, md_w, rget, r_a, r_b, r_c, r_i, r_l, hy, hs2, hb2, x1, hv]
      try simp only [md_s, md_w, rget_some, r_a, r_b, r_c, r_i, r_l, r_nx, r_pc, Nat.reduceEqDiff, false_and, if_false, hy, hs2, hb2, x1, hv]
      refine X_icmp_ne rfl (fun c2 => ?_) (fun c2 => ?_)
      · refine X_run rfl trivial ?_
        exact X_iret rfl rfl (RfP.ok hM4 hOR t4 (by rw [pWhen, if_pos c1, eu, hi, whenV, if_neg c2]))
      · refine X_run rfl trivial ?_
        exact X_iret rfl rfl (RfP.ok hM4 hOR t4 (by rw [pWhen, if_pos c1, eu, hi, whenV, if_pos c2]))
    refine Eg_find (E := fun i => ∀ D', RepR D' A2 (hrs K i) ∧ Out A2 (A2 + 20) D1 D' → Eg g (d + 5) mX11_when 0 0 (Zr g (RfP S D Y A 0 K T P e [eB] (pWhen K (nI u)))) 32 [(0, .ref Y), (1, .int (nI u)), (2, .int (nI i))] [] (md S D')) (c := whenC K u) 100 (fun i hi hf hc D' hI => ?_) (fun i hi hc k D' hI => ?_) (fun hf D' hI => ?_) D2 ⟨hR2, hO2.wide (Nat.le_refl _) (by omega)⟩
    · obtain ⟨hR3, hO3⟩ := hI
      have hny : k_ny (hrs K i) = k_ny K := congrArg (fun z => z.2.2.1) (skel_hrs K i)
      have hv := hR3.2.2.2 u (by omega)
      unfold RrY at hv
      refine X_run rfl trivial ?_
      refine X_icmp_ge rfl (fun c2 => no_le (b := i) (a := 100) c2 hi (by omega)) (fun c2 => ?_)
      refine X_run rfl ?_ ?_
      · simp [md_s, md_w, rget, r_a, r_b, r_c, r_i, r_l, hy, hs2, hb2, x1, hv]
      try simp only [md_s, md_w, rget_some, r_a, r_b, r_c, r_i, r_l, r_nx, r_pc, Nat.reduceEqDiff, false_and, if_false, hy, hs2, hb2, x1, hv]
      refine X_if_ne rfl (fun c3 => fin i D' (by rw [whenI, hf]; rfl) (by omega) hR3 hO3) (fun c3 => ?_)
      unfold whenC at hc
      rw [decide_eq_true c3] at hc
      cases hc
    · obtain ⟨hR3, hO3⟩ := hI
      have hny : k_ny (hrs K i) = k_ny K := congrArg (fun z => z.2.2.1) (skel_hrs K i)
      have hv := hR3.2.2.2 u (by omega)
      unfold RrY at hv
      have hKi := inv_hrs hK i
      refine X_run rfl trivial ?_
      refine X_icmp_ge rfl (fun c2 => no_le (b := i) (a := 100) c2 hi (by omega)) (fun c2 => ?_)
      refine X_run rfl ?_ ?_
      · simp [md_s, md_w, rget, r_a, r_b, r_c, r_i, r_l, hy, hs2, hb2, x1, hv]
      try simp only [md_s, md_w, rget_some, r_a, r_b, r_c, r_i, r_l, r_nx, r_pc, Nat.reduceEqDiff, false_and, if_false, hy, hs2, hb2, x1, hv]
      refine X_if_ne rfl (fun c3 => ?_) (fun c3 => ?_)
      · unfold whenC at hc
        rw [decide_eq_false c3] at hc
        cases hc
      refine X_run rfl ?_ ?_
      · simp [md_s, md_w, rget, r_a, r_b, r_c, r_i, r_l, hy]
      try simp only [md_s, md_w, rget_some, r_a, r_b, r_c, r_i, r_l, r_nx, r_pc, Nat.reduceEqDiff, false_and, if_false, hy]
      refine X_cV (args := []) rfl (by decide) hs2.1 rfl rfl (Nat.le_of_ble_eq_true rfl) (c_Rpass hL2 hKi.run (inv_zs hKi) hR3) ?_
      rintro _ _ ⟨D4, rfl, rfl, hR4, hO4⟩
      refine X_run rfl ?_ ?_
      · simp [md_s, md_w, rget, r_a, r_b, r_c, r_i, r_l, nI_s1]
      try simp only [md_s, md_w, rget_some, r_a, r_b, r_c, r_i, r_l, r_nx, r_pc, Nat.reduceEqDiff, false_and, if_false, nI_s1]
      exact k D4 ⟨by rw [hrs_1]; exact hR4, hO3.tr hO4⟩
    · obtain ⟨hR3, hO3⟩ := hI
      refine X_run rfl trivial ?_
      refine X_icmp_ge rfl (fun c2 => fin 100 D' (by rw [whenI, hf]; rfl) (by omega) hR3 hO3) (fun c2 => absurd (show (100 : Int32) ≤ nI 100 by decide) c2)
  · refine X_run rfl trivial ?_
    refine X_cV (args := [.int 1]) rfl (by decide) hy.1 rfl rfl (Nat.le_of_ble_eq_true rfl) (c_no hY) ?_
    rintro _ _ ⟨rfl, rfl⟩
    refine X_run rfl trivial ?_
    exact X_iret rfl rfl (RfP.no hM1 hO1 (by omega) rfl (by rw [pWhen, if_neg (nb2i c1)]))
theorem c_Mrun {x : Int32} (hY : MoL S Y A A2) (hK : InvK K c) (hM : RmR D Y A K T P e) : EvM g (d + 4) mX11_run 0 0 [.ref Y, .int x] (md S D) (RfP S D Y A 0 K T P e [eB] (pRun K x)) := by
  have hW := hK.1
  obtain ⟨l1, l2, l3⟩ := hY.lo
  obtain ⟨hy, -, ⟨hL, hL2⟩, -⟩ := id hY
  obtain ⟨hs, ha, hb⟩ := hL.all
  obtain ⟨w1, w2, w3, w4⟩ := id hW
  obtain ⟨D1, e1, z1, y1⟩ := wr_fi D 352 Y 0
  have hM1 : RmR D1 Y A K T P e := e1 ▸ hM.thr (by omega) (by decide)
  have hR1 := hM1.1
  have hO1 : OutR S Y D D1 := e1 ▸ OutR.fi
  have t1 : d_fi D1 352 Y = 0 := by rw [z1, if_pos ⟨rfl, rfl⟩]
  refine EvM.mk (by decide) (Nat.le_of_ble_eq_true rfl) ?_
  refine X_run rfl ?_ ?_
  · simp [md_s, md_w, rget, r_a, r_b, r_c, r_i, r_l, hy, e1]
  try simp only [md_s, md_w, rget_some, r_a, r_b, r_c, r_i, r_l, r_nx, r_pc, Nat.reduceEqDiff, false_and, if_false, hy, e1]
  obtain ⟨hs2, ha2, hb2⟩ := hL2.all
  refine X_cS (args := [.int x, .int 0, .int 4]) rfl (by decide) rfl rfl (Nat.le_of_ble_eq_true rfl) c_isIn ?_
  rintro _ _ ⟨rfl, rfl⟩
  rw [if_b2i, show decide (0 ≤ x ∧ x ≤ 4) = inB x 5 from rfl]
  refine X_if_ne rfl (fun c1 => ?_) (fun c1 => ?_)
  · have c1 := b2i_nz c1
    obtain ⟨w, hw, rfl⟩ := (inB_iff (by omega)).mp c1
    refine X_run rfl ?_ ?_
    · simp [md_s, md_w, rget, r_a, r_b, r_c, r_i, r_l, hy]
    try simp only [md_s, md_w, rget_some, r_a, r_b, r_c, r_i, r_l, r_nx, r_pc, Nat.reduceEqDiff, false_and, if_false, hy]
    refine X_cV (args := [.ref A]) rfl (by decide) hs2.1 rfl rfl (Nat.le_of_ble_eq_true rfl) (c_become hL2 hL l3 hW hR1) ?_
    rintro _ _ ⟨D2, rfl, rfl, hR2, hO2⟩
    refine X_run rfl ?_ ?_
    · simp [md_s, md_w, rget, r_a, r_b, r_c, r_i, r_l, hy]
    try simp only [md_s, md_w, rget_some, r_a, r_b, r_c, r_i, r_l, r_nx, r_pc, Nat.reduceEqDiff, false_and, if_false, hy]
    refine X_cV (args := []) rfl (by decide) hs2.1 rfl rfl (Nat.le_of_ble_eq_true rfl) (c_Rbegin hL2 hW hR2) ?_
    rintro _ _ ⟨D3, rfl, rfl, hJ3, hO3⟩
    have hNt := net0_I hK.run.2.1 hK.run.2.2.2 w3
    have hO4 : Out A2 (A2 + 20) D1 D3 := (hO2.wide (Nat.le_refl _) (by omega)).tr (hO3.wide (by omega) (Nat.le_refl _))
    have hM3 : RmR D3 Y A K T P e := hM1.out hO4 (by omega) (Or.inl (by omega))
    have hOR := hO1.tr (OutR.o (S := S) (Y := Y) hO4 (by omega))
    have t3 : d_fi D3 352 Y = 0 := by rw [(hO4 Y (by omega)).1]; exact t1
    have hc := hM3.1.1
    unfold RrC at hc
    have hR3 := hJ3.1
    refine X_run rfl trivial ?_
    refine Eg_iter (fun i (q : Int32 × Int64) => Eg g (d + 4) mX11_run 0 0 (Zr g _) 50 [(0, .ref Y), (1, .int (nI w)), (2, .int (cntT K (takes0 K))), (3, .int q.1), (4, .long 0), (6, .long q.2), (8, .int (nI i))] [] (md S D3)) (fun p q => ((if short K (net0 K (k_ny K)) p = true then q.1 + 1 else q.1), iter (wGain1 K (net0 K (k_ny K)) p) (k_nm K) q.2)) (k_np K) (0, 0) (fun p hp k => ?_) ?_
    · generalize iter (fun p (q : Int32 × Int64) => ((if short K (net0 K (k_ny K)) p = true then q.1 + 1 else q.1), iter (wGain1 K (net0 K (k_ny K)) p) (k_nm K) q.2)) p (0, 0) = q at k ⊢
      refine X_run rfl ?_ ?_
      · simp [md_s, md_w, rget, r_a, r_b, r_c, r_i, r_l, hy, hs, hc]
      try simp only [md_s, md_w, rget_some, r_a, r_b, r_c, r_i, r_l, r_nx, r_pc, Nat.reduceEqDiff, false_and, if_false, hy, hs, hc]
      refine X_icmp_ge rfl (fun c2 => no_le c2 hp (by omega)) (fun c2 => ?_)
      refine X_run rfl ?_ ?_
      · simp [md_s, md_w, rget, r_a, r_b, r_c, r_i, r_l, hy]
      try simp only [md_s, md_w, rget_some, r_a, r_b, r_c, r_i, r_l, r_nx, r_pc, Nat.reduceEqDiff, false_and, if_false, hy]
      refine X_cV (args := [.int (nI p)]) rfl (by decide) hs2.1 rfl rfl (Nat.le_of_ble_eq_true rfl) (c_RisShort hL2 hW hR3 hp hJ3.2.2 (fun m hm => nt64 hK.run hNt hp hm)) ?_
      rintro _ _ ⟨rfl, rfl⟩
      have inner : ∀ n, n = (if short K (net0 K (k_ny K)) p = true then q.1 + 1 else q.1) → Eg g (d + 4) mX11_run 0 0 (Zr g (RfP S D Y A 0 K T P e [eB] (pRun K (nI w)))) 85 [(0, .ref Y), (1, .int (nI w)), (2, .int (cntT K (takes0 K))), (3, .int n), (4, .long 0), (6, .long q.2), (8, .int (nI p)), (9, .int 0)] [] (md S D3) := by
        intro n hn
        refine Eg_iter (fun m (z : Int64) => Eg g (d + 4) mX11_run 0 0 (Zr g _) 85 [(0, .ref Y), (1, .int (nI w)), (2, .int (cntT K (takes0 K))), (3, .int n), (4, .long 0), (6, .long z), (8, .int (nI p)), (9, .int (nI m))] [] (md S D3)) (wGain1 K (net0 K (k_ny K)) p) (k_nm K) q.2 (fun m hm k2 => ?_) ?_
        · generalize iter (wGain1 K (net0 K (k_ny K)) p) m q.2 = z at k2 ⊢
          have hmo := hJ3.2.2 p hp m (by omega)
          refine X_run rfl ?_ ?_
          · simp [md_s, md_w, rget, r_a, r_b, r_c, r_i, r_l, hy, hs, hc]
          try simp only [md_s, md_w, rget_some, r_a, r_b, r_c, r_i, r_l, r_nx, r_pc, Nat.reduceEqDiff, false_and, if_false, hy, hs, hc]
          refine X_icmp_ge rfl (fun c3 => no_le c3 hm (by omega)) (fun c3 => ?_)
          refine X_run rfl ?_ ?_
          · simp [md_s, md_w, rget, r_a, r_b, r_c, r_i, r_l, hy, hs2, hb2, i5, vx (show 5 * p + m < 50 by omega) (by decide), hmo]
          try simp only [md_s, md_w, rget_some, r_a, r_b, r_c, r_i, r_l, r_nx, r_pc, Nat.reduceEqDiff, false_and, if_false, hy, hs2, hb2, i5, vx (show 5 * p + m < 50 by omega) (by decide), hmo]
          refine X_max rfl (Nat.le_of_ble_eq_true rfl) ?_
          refine X_run rfl trivial ?_
          refine X_cV (args := [.long (if 0 < net0 K (k_ny K) p m - k_ba K p m then net0 K (k_ny K) p m - k_ba K p m else 0).toInt64, .int (nI m)]) rfl (by decide) hs2.1 rfl rfl (Nat.le_of_ble_eq_true rfl) (c_Rworth hL2 hW hR3 hm) ?_
          rintro _ _ ⟨rfl, rfl⟩
          refine X_run rfl ?_ ?_
          · simp [md_s, md_w, rget, r_a, r_b, r_c, r_i, r_l, nI_s1]
          try simp only [md_s, md_w, rget_some, r_a, r_b, r_c, r_i, r_l, r_nx, r_pc, Nat.reduceEqDiff, false_and, if_false, nI_s1]
          rw [show (if 0 < net0 K (k_ny K) p m - k_ba K p m then net0 K (k_ny K) p m - k_ba K p m else 0).toInt64 * (k_rt K m).toInt64 / 100 = worth K (if 0 < net0 K (k_ny K) p m - k_ba K p m then net0 K (k_ny K) p m - k_ba K p m else 0) m from rfl]
          unfold wGain1 at k2
          by_cases c4 : 0 < net0 K (k_ny K) p m - k_ba K p m
          · rw [if_pos c4] at k2 ⊢
            exact k2
          · rw [if_neg c4] at k2 ⊢
            rw [worth_0, Int64.add_zero]
            exact k2
        · refine X_run rfl ?_ ?_
          · simp [md_s, md_w, rget, r_a, r_b, r_c, r_i, r_l, hy, hs, hc]
          try simp only [md_s, md_w, rget_some, r_a, r_b, r_c, r_i, r_l, r_nx, r_pc, Nat.reduceEqDiff, false_and, if_false, hy, hs, hc]
          refine X_icmp_ge rfl (fun c3 => ?_) (fun c3 => no_nle c3 (Nat.le_refl _) (by omega))
          refine X_run rfl ?_ ?_
          · simp [md_s, md_w, rget, r_a, r_b, r_c, r_i, r_l, nI_s1]
          try simp only [md_s, md_w, rget_some, r_a, r_b, r_c, r_i, r_l, r_nx, r_pc, Nat.reduceEqDiff, false_and, if_false, nI_s1]
          rw [hn]
          exact Eg.sub k ⟨rfl, rfl, rfl, rfl, rfl, rfl, rfl, trivial⟩
      refine X_if_eq rfl (fun c3 => ?_) (fun c3 => ?_)
      · refine X_run rfl trivial ?_
        rw [Int32.add_zero]
        exact Eg.sub (inner q.1 (by rw [if_neg (nb2i c3)])) ⟨rfl, rfl, rfl, rfl, rfl, rfl, rfl, rfl, trivial⟩
      · refine X_run rfl trivial ?_
        exact Eg.sub (inner (q.1 + 1) (by rw [if_pos (b2i_nz c3)])) ⟨rfl, rfl, rfl, rfl, rfl, rfl, rfl, rfl, trivial⟩
    · have ecn : iter (fun p (q : Int32 × Int64) => ((if short K (net0 K (k_ny K)) p = true then q.1 + 1 else q.1), iter (wGain1 K (net0 K (k_ny K)) p) (k_nm K) q.2)) (k_np K) (0, 0) = (cntS K (short K (net0 K (k_ny K))), wGain K (net0 K (k_ny K))) := by
        have : ∀ n, iter (fun p (q : Int32 × Int64) => ((if short K (net0 K (k_ny K)) p = true then q.1 + 1 else q.1), iter (wGain1 K (net0 K (k_ny K)) p) (k_nm K) q.2)) n (0, 0) = (iter (fun i acc => if short K (net0 K (k_ny K)) i = true then acc + 1 else acc) n 0, iter (fun p acc => iter (wGain1 K (net0 K (k_ny K)) p) (k_nm K) acc) n 0) := by
          intro n
          induction n with
          | zero => rfl
          | succ n ih => simp only [iter]; rw [ih]
        exact this _
      rw [ecn]
      refine X_run rfl ?_ ?_
      · simp [md_s, md_w, rget, r_a, r_b, r_c, r_i, r_l, hy, hs, hc]
      try simp only [md_s, md_w, rget_some, r_a, r_b, r_c, r_i, r_l, r_nx, r_pc, Nat.reduceEqDiff, false_and, if_false, hy, hs, hc]
      refine X_icmp_ge rfl (fun c2 => ?_) (fun c2 => no_nle c2 (Nat.le_refl _) (by omega))
      refine X_run rfl trivial ?_
      refine Eg.sub (ls' := [(0, .ref Y), (1, .int (nI w)), (2, .int (cntT K (takes0 K))), (3, .int (cntS K (short K (net0 K (k_ny K))))), (4, .long 0), (6, .long (wGain K (net0 K (k_ny K)))), (8, .int 0)]) ?_ ⟨rfl, rfl, rfl, rfl, rfl, rfl, rfl, trivial⟩
      refine Eg_iter (fun i (z : Int64) => Eg g (d + 4) mX11_run 0 0 (Zr g _) 146 [(0, .ref Y), (1, .int (nI w)), (2, .int (cntT K (takes0 K))), (3, .int (cntS K (short K (net0 K (k_ny K))))), (4, .long z), (6, .long (wGain K (net0 K (k_ny K)))), (8, .int (nI i))] [] (md S D3)) (fun i acc => if takes0 K i = true then acc + worth K (k_am K i) (k_mo K i) else acc) (k_ny K) 0 (fun i hi k => ?_) ?_
      · generalize iter (fun i acc => if takes0 K i = true then acc + worth K (k_am K i) (k_mo K i) else acc) i (0 : Int64) = z at k ⊢
        have hin : d_ai D3 (A2 + 18) i = b2i (takes0 K i) := hJ3.2.1 i hi
        have hv := hM3.1.2.2.2 i hi
        unfold RrY at hv
        have x1 := vx (show i < 60 by omega) (by decide)
        refine X_run rfl ?_ ?_
        · simp [md_s, md_w, rget, r_a, r_b, r_c, r_i, r_l, hy, hs, hc]
        try simp only [md_s, md_w, rget_some, r_a, r_b, r_c, r_i, r_l, r_nx, r_pc, Nat.reduceEqDiff, false_and, if_false, hy, hs, hc]
        refine X_icmp_ge rfl (fun c2 => no_le c2 hi (by omega)) (fun c2 => ?_)
        refine X_run rfl ?_ ?_
        · simp [md_s, md_w, rget, r_a, r_b, r_c, r_i, r_l, hy, hs2, hb2, x1, hin]
        try simp only [md_s, md_w, rget_some, r_a, r_b, r_c, r_i, r_l, r_nx, r_pc, Nat.reduceEqDiff, false_and, if_false, hy, hs2, hb2, x1, hin]
        refine X_icmp_ne rfl (fun c3 => ?_) (fun c3 => ?_)
        · refine X_run rfl ?_ ?_
          · simp [md_s, md_w, rget, r_a, r_b, r_c, r_i, r_l, nI_s1]
          try simp only [md_s, md_w, rget_some, r_a, r_b, r_c, r_i, r_l, r_nx, r_pc, Nat.reduceEqDiff, false_and, if_false, nI_s1]
          rw [Int64.add_zero]
          rw [if_neg (fun z => c3 (by rw [z]; rfl))] at k
          exact k
        · have c4 := b2i_one.mp c3
          refine X_run rfl ?_ ?_
          · simp [md_s, md_w, rget, r_a, r_b, r_c, r_i, r_l, hy, hs, hb, hs2, x1, hv]
          try simp only [md_s, md_w, rget_some, r_a, r_b, r_c, r_i, r_l, r_nx, r_pc, Nat.reduceEqDiff, false_and, if_false, hy, hs, hb, hs2, x1, hv]
          refine X_cV (args := [.long (k_am K i).toInt64, .int (nI (k_mo K i))]) rfl (by decide) hs2.1 rfl rfl (Nat.le_of_ble_eq_true rfl) (c_Rworth hL2 hW hR3 (w4 i hi).2.2.1) ?_
          rintro _ _ ⟨rfl, rfl⟩
          refine X_run rfl ?_ ?_
          · simp [md_s, md_w, rget, r_a, r_b, r_c, r_i, r_l, nI_s1]
          try simp only [md_s, md_w, rget_some, r_a, r_b, r_c, r_i, r_l, r_nx, r_pc, Nat.reduceEqDiff, false_and, if_false, nI_s1]
          rw [if_pos c4] at k
          exact k
      · rw [show iter (fun i acc => if takes0 K i = true then acc + worth K (k_am K i) (k_mo K i) else acc) (k_ny K) (0 : Int64) = wTake K (takes0 K) from rfl]
        refine X_run rfl ?_ ?_
        · simp [md_s, md_w, rget, r_a, r_b, r_c, r_i, r_l, hy, hs, hc]
        try simp only [md_s, md_w, rget_some, r_a, r_b, r_c, r_i, r_l, r_nx, r_pc, Nat.reduceEqDiff, false_and, if_false, hy, hs, hc]
        refine X_icmp_ge rfl (fun c2 => ?_) (fun c2 => no_nle c2 (Nat.le_refl _) (by omega))
        refine X_run rfl trivial ?_
        have done : ∀ r, runV K w = r → RfP S D Y A 0 K T P e [eB] (pRun K (nI w)) (some (.int r)) (md S D3) := fun r hr => RfP.ok hM3 hOR t3 (by rw [pRun, if_pos c1, iN_nI (by omega), hr])
        rcases (show w = 0 ∨ w = 1 ∨ w = 2 ∨ w = 3 ∨ w = 4 by omega) with rfl | rfl | rfl | rfl | rfl
        · refine X_if_ne rfl (fun c => absurd rfl c) (fun _ => ?_)
          refine X_run rfl trivial ?_
          exact X_iret rfl rfl (done _ rfl)
        · refine X_if_ne rfl (fun _ => ?_) (fun c => absurd c (by decide))
          refine X_run rfl trivial ?_
          refine X_icmp_ne rfl (fun c => absurd rfl c) (fun _ => ?_)
          refine X_run rfl ?_ ?_
          · simp [md_s, md_w, rget, r_a, r_b, r_c, r_i, r_l, hy]
          try simp only [md_s, md_w, rget_some, r_a, r_b, r_c, r_i, r_l, r_nx, r_pc, Nat.reduceEqDiff, false_and, if_false, hy]
          refine X_cV (args := []) rfl (by decide) hs2.1 rfl rfl (Nat.le_of_ble_eq_true rfl) (c_Rgo hL2 hK.run hJ3 hNt) ?_
          rintro _ _ ⟨D5, rfl, rfl, hJ5, hO5⟩
          have hM5 : RmR D5 Y A K T P e := hM3.out hO5 (by omega) (Or.inl (by omega))
          refine X_run rfl trivial ?_
          exact X_iret rfl rfl (RfP.ok hM5 (hOR.tr (OutR.o hO5 (by omega))) (by rw [(hO5 Y (by omega)).1]; exact t3) (by rw [pRun, if_pos c1]; rfl))
        · refine X_if_ne rfl (fun _ => ?_) (fun c => absurd c (by decide))
          refine X_run rfl trivial ?_
          refine X_icmp_ne rfl (fun _ => ?_) (fun c => absurd c (by decide))
          refine X_run rfl trivial ?_
          refine X_icmp_ne rfl (fun c => absurd rfl c) (fun _ => ?_)
          refine X_run rfl trivial ?_
          exact X_iret rfl rfl (done _ rfl)
        · refine X_if_ne rfl (fun _ => ?_) (fun c => absurd c (by decide))
          refine X_run rfl trivial ?_
          refine X_icmp_ne rfl (fun _ => ?_) (fun c => absurd c (by decide))
          refine X_run rfl trivial ?_
          refine X_icmp_ne rfl (fun _ => ?_) (fun c => absurd c (by decide))
          refine X_run rfl trivial ?_
          refine X_icmp_ne rfl (fun c => absurd rfl c) (fun _ => ?_)
          refine X_run rfl trivial ?_
          exact X_iret rfl rfl (done _ rfl)
        · refine X_if_ne rfl (fun _ => ?_) (fun c => absurd c (by decide))
          refine X_run rfl trivial ?_
          refine X_icmp_ne rfl (fun _ => ?_) (fun c => absurd c (by decide))
          refine X_run rfl trivial ?_
          refine X_icmp_ne rfl (fun _ => ?_) (fun c => absurd c (by decide))
          refine X_run rfl trivial ?_
          refine X_icmp_ne rfl (fun _ => ?_) (fun c => absurd c (by decide))
          refine X_run rfl trivial ?_
          exact X_iret rfl rfl (done _ rfl)
  · refine X_run rfl trivial ?_
    refine X_cV (args := [.int 1]) rfl (by decide) hy.1 rfl rfl (Nat.le_of_ble_eq_true rfl) (c_no hY) ?_
    rintro _ _ ⟨rfl, rfl⟩
    refine X_run rfl trivial ?_
    exact X_iret rfl rfl (RfP.no hM1 hO1 (by omega) rfl (by rw [pRun, if_neg (nb2i c1)]))
end REFRUNM
