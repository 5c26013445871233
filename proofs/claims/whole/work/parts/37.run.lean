/-! asking methods that write what nobody reads behind them -/
def Da (S : ShT) (D : DaT) (X : Nat) (K : KT) (a : Except String Int32) : Option Value → Mem → Prop := fun v M1 => ∃ D1 r, a = .ok r ∧ v = some (.int r) ∧ M1 = md S D1 ∧ RepC D1 (X + 11) K ∧ Out (X + 10) (X + 292) D D1
theorem RowO.out {D D1 : DaT} {a lo hi : Nat} (h : RowO D D1 a) (h1 : lo ≤ a ∧ a < hi) : Out lo hi D D1 := fun x hx => ⟨fun k => by rw [h.1], fun k => by rw [h.2.1], h.2.2.2 x (by omega), by rw [h.2.2.1]⟩
def hourK (K : KT) : KT := endK (settleK K)
theorem skel_failAll (K : KT) : skel (failAll K) = skel K := skel_iter skel_failStep _
theorem skel_endK (K : KT) : skel (endK K) = skel K := by
  unfold endK
  split
  · rw [skel_failAll]; rfl
  · rw [skel_failAll]; rfl
theorem skel_settleK (K : KT) : skel (settleK K) = skel K := by
  unfold settleK
  rw [kd_B.2.2, kd_S.2.2]
theorem skel_hourK (K : KT) : skel (hourK K) = skel K := (skel_endK _).trans (skel_settleK K)
def passS : Nat → Int32 × KT → Int32 × KT := fun _ s => (s.1 + cntT s.2 (outK s.2).1, hourK s.2)
theorem passS_1 (i : Nat) (s : Int32 × KT) : iter passS (i + 1) s = ((iter passS i s).1 + cntT (iter passS i s).2 (outK (iter passS i s).2).1, hourK (iter passS i s).2) := rfl
theorem skel_pass (K : KT) : ∀ i, skel (iter passS i (0, K)).2 = skel K
  | 0 => rfl
  | i + 1 => by rw [passS_1]; exact (skel_hourK _).trans (skel_pass K i)
def pPass (K : KT) (x : Int32) : Except String (Int32 × KT) := if inR x 1 100 = true then .ok (iter passS (iN x) (0, K)) else .error eA
def pOwes (K : KT) (a b m : Int32) : Except String Int32 := if (inB a (k_np K) = true ∧ inB b (k_np K) = true) ∧ inB m (k_nm K) = true then .ok (dbt K (iN m) (iN a * 10 + iN b)) else .error eB
def runV (K : KT) : Nat → Int32
  | 0 => cntT K (takes0 K) | 1 => cntT K (outK K).1 | 2 => cntS K (short K (net0 K (k_ny K))) | 3 => (wTake K (takes0 K)).toInt32 | _ => (wGain K (net0 K (k_ny K))).toInt32
def pRun (K : KT) (x : Int32) : Except String Int32 := if inB x 5 = true then .ok (runV K (iN x)) else .error eB
def pSettles (K : KT) (n : Int32) : Except String Int32 := if inB n (k_ny K) = true then .ok (b2i ((outK K).1 (iN n))) else .error eB
section RUNM
variable {g : GG} {d : Nat} {S : ShT} {D : DaT} {X : Nat} {K : KT}
theorem c_owes {a b m : Int32} (hX : DkL S X) (hW : WfK K) (hR : RepC D (X + 11) K) : EvX g (d + 6) mX9_owes 1 6 [.ref X, .int a, .int b, .int m] (md S D) (Da S D X K (pOwes K a b m)) (AskX (md S D) (pOwes K a b m)) := by
  obtain ⟨hx, -⟩ := id hX
  obtain ⟨w1, w2, w3, -⟩ := id hW
  have no : ¬ ((inB a (k_np K) = true ∧ inB b (k_np K) = true) ∧ inB m (k_nm K) = true) → Eg g (d + 6) mX9_owes 1 6 (Zx g (Da S D X K (pOwes K a b m)) (AskX (md S D) (pOwes K a b m))) 24 [] [] (md S D) := fun hz =>
    X_throw ⟨rfl, rfl, rfl, rfl, rfl⟩ (by decide) rfl i_eB s_209 (Nat.zero_le _) (fun k => ⟨by rw [pOwes, if_neg hz], k, rfl⟩)
  refine EvX.mk (by decide) (Nat.le_of_ble_eq_true rfl) ?_
  refine X_run rfl trivial ?_
  refine X_cV (args := [.int a]) rfl (by decide) hx.1 rfl rfl (Nat.le_of_ble_eq_true rfl) (c_isParty hX hR) ?_
  rintro _ _ ⟨rfl, rfl⟩
  refine X_if_eq rfl (fun c1 => Eg.sub (no (fun z => nb2i c1 z.1.1)) trivial) (fun c1 => ?_)
  have c1 := b2i_nz c1
  refine X_run rfl trivial ?_
  refine X_cV (args := [.int b]) rfl (by decide) hx.1 rfl rfl (Nat.le_of_ble_eq_true rfl) (c_isParty hX hR) ?_
  rintro _ _ ⟨rfl, rfl⟩
  refine X_if_eq rfl (fun c2 => Eg.sub (no (fun z => nb2i c2 z.1.2)) trivial) (fun c2 => ?_)
  have c2 := b2i_nz c2
  refine X_run rfl trivial ?_
  refine X_cV (args := [.int m]) rfl (by decide) hx.1 rfl rfl (Nat.le_of_ble_eq_true rfl) (c_isMoney hX hR) ?_
  rintro _ _ ⟨rfl, rfl⟩
  refine X_if_ne rfl (fun c3 => ?_) (fun c3 => Eg.sub (no (fun z => nb2i c3 z.2)) trivial)
  have c3 := b2i_nz c3
  obtain ⟨j, hj, rfl⟩ := (inB_iff (by omega)).mp c1
  obtain ⟨u, hu, rfl⟩ := (inB_iff (by omega)).mp c2
  obtain ⟨q, hq, rfl⟩ := (inB_iff (by omega)).mp c3
  refine X_run rfl trivial ?_
  refine X_cV (args := [.int (nI q)]) rfl (by decide) hx.1 rfl rfl (Nat.le_of_ble_eq_true rfl) (c_fillDebts hX hW hR hq) ?_
  rintro _ _ ⟨D1, rfl, rfl, hR1, hv, hO⟩
  refine X_run rfl trivial ?_
  refine X_cV (args := [.int (nI j), .int (nI u)]) rfl (by decide) hx.1 rfl rfl (Nat.le_of_ble_eq_true rfl) (c_debt hX (show j < 10 by omega) (show u < 10 by omega)) ?_
  rintro _ _ ⟨rfl, rfl⟩
  refine X_run rfl trivial ?_
  refine Eg.zx ?_
  refine X_iret rfl rfl ⟨D1, _, ?_, rfl, rfl, hR1, hO.out (by omega)⟩
  rw [pOwes, if_pos ⟨⟨c1, c2⟩, c3⟩, iN_nI (by omega), iN_nI (by omega), iN_nI (by omega), hv _ (by omega)]
theorem inR_ix {x : Int32} {n : Nat} (hn : n < 2 ^ 31) (h : inR x 1 (nI n) = true) : ∃ h, 1 ≤ h ∧ h ≤ n ∧ x = nI h := by
  have h2 := of_decide_eq_true h
  have e1 : (1 : Int32) = nI 1 := rfl
  rw [e1] at h2
  have h3 : ¬ x < 0 := fun z => by
    have := Int32.lt_iff_toInt_lt.mp z
    have h4 := Int32.le_iff_toInt_le.mp h2.1
    rw [nI_toInt (by omega)] at h4
    have h5 : (0 : Int32).toInt = 0 := rfl
    omega
  obtain ⟨j, hj, rfl⟩ := nI_of h3
  exact ⟨j, (nI_leI (by omega) hj).mp h2.1, (nI_leI hj hn).mp h2.2, rfl⟩
theorem c_pass {x : Int32} (hX : DkL S X) (hW : WfK K) (hR : RepC D (X + 11) K) : EvX g (d + 7) mX9_pass 1 6 [.ref X, .int x] (md S D) (Do S D X (pPass K x)) (DoX S D X K (pPass K x)) := by
  obtain ⟨hx, -, -, hN, hL, -⟩ := id hX
  refine EvX.mk (by decide) (Nat.le_of_ble_eq_true rfl) ?_
  refine X_run rfl trivial ?_
  refine X_cS (args := [.int x, .int 1, .int 100]) rfl (by decide) rfl rfl (Nat.le_of_ble_eq_true rfl) c_isFrom ?_
  rintro _ _ ⟨rfl, rfl⟩
  rw [if_b2i, show decide (1 ≤ x ∧ x ≤ 100) = inR x 1 100 from rfl]
  refine X_if_ne rfl (fun c1 => ?_) (fun c1 => X_throwW ⟨rfl, rfl, rfl, rfl, rfl⟩ (by decide) rfl i_eA s_290 (Nat.zero_le _) (fun k => ⟨by rw [pPass, if_neg (nb2i c1)], D, k, rfl, hR, Out.rf⟩))
  have c1 := b2i_nz c1
  obtain ⟨h, -, hh, rfl⟩ := inR_ix (n := 100) (by omega) c1
  have eh : iN (nI h) = h := iN_nI (by omega)
  refine X_run rfl trivial ?_
  refine Eg_up (α := DaT) (fun i D' => Eg g (d + 7) mX9_pass 1 6 (Zx g _ _) 25 [(0, .ref X), (1, .int (nI h)), (2, .int (iter passS i (0, K)).1), (3, .int (nI i))] [] (md S D')) (fun i D' => RepC D' (X + 11) (iter passS i (0, K)).2 ∧ Out (X + 11) (X + 150) D D') h (fun i D1 hi hI k => ?_) (fun D1 hI => ?_) D ⟨hR, Out.rf⟩
  · obtain ⟨hR1, hO1⟩ := hI
    have hW1 := skel_wf (skel_pass K i) hW
    generalize hs : iter passS i (0, K) = s at hR1 hW1 k ⊢
    refine X_run rfl trivial ?_
    refine X_icmp_ge rfl (fun c2 => no_le c2 hi (by omega)) (fun c2 => ?_)
    refine X_run rfl ?_ ?_
    · simp [md_s, md_w, rget, r_a, r_b, r_c, r_i, r_l, hx]
    try simp only [md_s, md_w, rget_some, r_a, r_b, r_c, r_i, r_l, r_nx, r_pc, Nat.reduceEqDiff, false_and, if_false, hx]
    refine X_cV rfl (by decide) hN.1 rfl rfl (Nat.le_of_ble_eq_true rfl) (c_settle hN hL hW1 hR1) ?_
    rintro _ _ ⟨D2, rfl, rfl, hR2, hO2⟩
    have hW2 := skel_wf (skel_settleK s.2) hW1
    refine X_run rfl ?_ ?_
    · simp [md_s, md_w, rget, r_a, r_b, r_c, r_i, r_l, hx]
    try simp only [md_s, md_w, rget_some, r_a, r_b, r_c, r_i, r_l, r_nx, r_pc, Nat.reduceEqDiff, false_and, if_false, hx]
    refine X_cV rfl (by decide) hL.1.1 rfl rfl (Nat.le_of_ble_eq_true rfl) (c_endHour hL hW2 hR2) ?_
    rintro _ _ ⟨D3, rfl, rfl, hR3, hO3⟩
    refine X_run rfl ?_ ?_
    · simp [md_s, md_w, rget, r_a, r_b, r_c, r_i, r_l, nI_s1]
    try simp only [md_s, md_w, rget_some, r_a, r_b, r_c, r_i, r_l, r_nx, r_pc, Nat.reduceEqDiff, false_and, if_false, nI_s1]
    refine Eg.sub (k D3 ⟨?_, (hO1.tr (hO2.wide (by omega) (by omega))).tr (hO3.wide (by omega) (by omega))⟩) ⟨rfl, rfl, ?_, rfl, trivial⟩
    · rw [passS_1, hs]; exact hR3
    · rw [passS_1, hs]; rfl
  · refine X_run rfl trivial ?_
    refine X_icmp_ge rfl (fun c2 => ?_) (fun c2 => no_nle c2 (Nat.le_refl _) (by omega))
    refine X_run rfl trivial ?_
    refine Eg.zx ?_
    refine X_iret rfl rfl ⟨D1, _, (iter passS h (0, K)).2, ?_, rfl, rfl, hI.1, hI.2⟩
    rw [pPass, if_pos c1, eh]
theorem c_run {x : Int32} (hX : DkL S X) (hW : WfK K) (hR : RepC D (X + 11) K) : EvX g (d + 6) mX9_run 1 6 [.ref X, .int x] (md S D) (Da S D X K (pRun K x)) (AskX (md S D) (pRun K x)) := by
  obtain ⟨hx, -, -, hN, hL, -⟩ := id hX
  refine EvX.mk (by decide) (Nat.le_of_ble_eq_true rfl) ?_
  refine X_run rfl trivial ?_
  refine X_cS (args := [.int x, .int 0, .int 4]) rfl (by decide) rfl rfl (Nat.le_of_ble_eq_true rfl) c_isFrom ?_
  rintro _ _ ⟨rfl, rfl⟩
  rw [if_b2i, show decide (0 ≤ x ∧ x ≤ 4) = inB x 5 from rfl]
  refine X_if_ne rfl (fun c1 => ?_) (fun c1 => X_throwW ⟨rfl, rfl, rfl, rfl, rfl⟩ (by decide) rfl i_eB s_298 (Nat.zero_le _) (fun k => ⟨by rw [pRun, if_neg (nb2i c1)], k, rfl⟩))
  have c1 := b2i_nz c1
  obtain ⟨w, hw, rfl⟩ := (inB_iff (by omega)).mp c1
  have ew : iN (nI w) = w := iN_nI (by omega)
  refine X_run rfl ?_ ?_
  · simp [md_s, md_w, rget, r_a, r_b, r_c, r_i, r_l, hx]
  try simp only [md_s, md_w, rget_some, r_a, r_b, r_c, r_i, r_l, r_nx, r_pc, Nat.reduceEqDiff, false_and, if_false, hx]
  refine X_cV rfl (by decide) hN.1 rfl rfl (Nat.le_of_ble_eq_true rfl) (c_begin hN hL hW hR) ?_
  rintro _ _ ⟨D1, rfl, rfl, hR1, hU, hO1⟩
  obtain ⟨hT, hS, -, hSh⟩ := id hU
  have hO1' : Out (X + 10) (X + 292) D D1 := hO1.wide (by omega) (by omega)
  have fin : ∀ r, r = runV K w → Da S D X K (pRun K (nI w)) (some (.int r)) (md S D1) := fun r e => ⟨D1, r, by rw [pRun, if_pos c1, ew, e], rfl, rfl, hR1, hO1'⟩
  refine X_run rfl trivial ?_
  have : w = 0 ∨ w = 1 ∨ w = 2 ∨ w = 3 ∨ w = 4 := by omega
  rcases this with rfl | rfl | rfl | rfl | rfl
  · refine X_tsw (t := 60) (k0 := 0) rfl (by decide) (by decide) rfl rfl ?_
    refine X_run rfl ?_ ?_
    · simp [md_s, md_w, rget, r_a, r_b, r_c, r_i, r_l, hx]
    try simp only [md_s, md_w, rget_some, r_a, r_b, r_c, r_i, r_l, r_nx, r_pc, Nat.reduceEqDiff, false_and, if_false, hx]
    refine X_cV rfl (by decide) hN.1 rfl rfl (Nat.le_of_ble_eq_true rfl) (c_cntT hN hL hW hR1 hT) ?_
    rintro _ _ ⟨rfl, rfl⟩
    refine X_run rfl trivial ?_
    exact Eg.zx (X_iret rfl rfl (fin _ rfl))
  · refine X_tsw (t := 68) (k0 := 1) rfl (by decide) (by decide) rfl rfl ?_
    refine X_run rfl ?_ ?_
    · simp [md_s, md_w, rget, r_a, r_b, r_c, r_i, r_l, hx]
    try simp only [md_s, md_w, rget_some, r_a, r_b, r_c, r_i, r_l, r_nx, r_pc, Nat.reduceEqDiff, false_and, if_false, hx]
    refine X_cV rfl (by decide) hN.1 rfl rfl (Nat.le_of_ble_eq_true rfl) (c_leaveOutAll (r := (takes0 K, net0 K (k_ny K))) hN hL hW hR1 hU) ?_
    rintro _ _ ⟨D2, rfl, rfl, hR2, hU2, hO2⟩
    refine X_run rfl ?_ ?_
    · simp [md_s, md_w, rget, r_a, r_b, r_c, r_i, r_l, hx]
    try simp only [md_s, md_w, rget_some, r_a, r_b, r_c, r_i, r_l, r_nx, r_pc, Nat.reduceEqDiff, false_and, if_false, hx]
    refine X_cV rfl (by decide) hN.1 rfl rfl (Nat.le_of_ble_eq_true rfl) (c_cntT (tk := (outK K).1) hN hL hW hR2 hU2.1) ?_
    rintro _ _ ⟨rfl, rfl⟩
    refine X_run rfl trivial ?_
    exact Eg.zx (X_iret rfl rfl ⟨D2, _, by rw [pRun, if_pos c1, ew, runV], rfl, rfl, hR2, hO1'.tr (hO2.wide (by omega) (by omega))⟩)
  · refine X_tsw (t := 83) (k0 := 2) rfl (by decide) (by decide) rfl rfl ?_
    refine X_run rfl ?_ ?_
    · simp [md_s, md_w, rget, r_a, r_b, r_c, r_i, r_l, hx]
    try simp only [md_s, md_w, rget_some, r_a, r_b, r_c, r_i, r_l, r_nx, r_pc, Nat.reduceEqDiff, false_and, if_false, hx]
    refine X_cV rfl (by decide) hN.1 rfl rfl (Nat.le_of_ble_eq_true rfl) (c_cntS hN hL hW hR1 hSh) ?_
    rintro _ _ ⟨rfl, rfl⟩
    refine X_run rfl trivial ?_
    exact Eg.zx (X_iret rfl rfl (fin _ rfl))
  · refine X_tsw (t := 91) (k0 := 3) rfl (by decide) (by decide) rfl rfl ?_
    refine X_run rfl ?_ ?_
    · simp [md_s, md_w, rget, r_a, r_b, r_c, r_i, r_l, hx]
    try simp only [md_s, md_w, rget_some, r_a, r_b, r_c, r_i, r_l, r_nx, r_pc, Nat.reduceEqDiff, false_and, if_false, hx]
    refine X_cV rfl (by decide) hN.1 rfl rfl (Nat.le_of_ble_eq_true rfl) (c_wTake hN hL hW hR1 hT) ?_
    rintro _ _ ⟨rfl, rfl⟩
    refine X_run rfl trivial ?_
    exact Eg.zx (X_iret rfl rfl (fin _ rfl))
  · refine X_tswD (t := 100) rfl (Or.inr (by decide)) rfl ?_
    refine X_run rfl ?_ ?_
    · simp [md_s, md_w, rget, r_a, r_b, r_c, r_i, r_l, hx]
    try simp only [md_s, md_w, rget_some, r_a, r_b, r_c, r_i, r_l, r_nx, r_pc, Nat.reduceEqDiff, false_and, if_false, hx]
    refine X_cV rfl (by decide) hN.1 rfl rfl (Nat.le_of_ble_eq_true rfl) (c_wGain hN hL hW hR1 hS) ?_
    rintro _ _ ⟨rfl, rfl⟩
    refine X_run rfl trivial ?_
    exact Eg.zx (X_iret rfl rfl (fin _ rfl))
theorem c_settles {n : Int32} (hX : DkL S X) (hW : WfK K) (hR : RepC D (X + 11) K) : EvX g (d + 6) mX9_settles 1 6 [.ref X, .int n] (md S D) (Da S D X K (pSettles K n)) (AskX (md S D) (pSettles K n)) := by
  obtain ⟨hx, -, -, hN, hL, -⟩ := id hX
  obtain ⟨w1, w2, w3, -⟩ := id hW
  refine EvX.mk (by decide) (Nat.le_of_ble_eq_true rfl) ?_
  refine X_run rfl trivial ?_
  refine X_cV (args := [.int n]) rfl (by decide) hx.1 rfl rfl (Nat.le_of_ble_eq_true rfl) (c_isPayment hX hR) ?_
  rintro _ _ ⟨rfl, rfl⟩
  refine X_if_ne rfl (fun c1 => ?_) (fun c1 => X_throwW ⟨rfl, rfl, rfl, rfl, rfl⟩ (by decide) rfl i_eB s_275 (Nat.zero_le _) (fun k => ⟨by rw [pSettles, if_neg (nb2i c1)], k, rfl⟩))
  have c1 := b2i_nz c1
  obtain ⟨u, hu, rfl⟩ := (inB_iff (by omega)).mp c1
  have eu : iN (nI u) = u := iN_nI (by omega)
  have hu2 : u < 60 := by omega
  have hy := hL.2.2.2 u hu2
  refine X_run rfl ?_ ?_
  · simp [md_s, md_w, rget, r_a, r_b, r_c, r_i, r_l, hx]
  try simp only [md_s, md_w, rget_some, r_a, r_b, r_c, r_i, r_l, r_nx, r_pc, Nat.reduceEqDiff, false_and, if_false, hx]
  refine X_cV rfl (by decide) hN.1 rfl rfl (Nat.le_of_ble_eq_true rfl) (c_begin hN hL hW hR) ?_
  rintro _ _ ⟨D1, rfl, rfl, hR1, hU, hO1⟩
  refine X_run rfl ?_ ?_
  · simp [md_s, md_w, rget, r_a, r_b, r_c, r_i, r_l, hx]
  try simp only [md_s, md_w, rget_some, r_a, r_b, r_c, r_i, r_l, r_nx, r_pc, Nat.reduceEqDiff, false_and, if_false, hx]
  refine X_cV rfl (by decide) hN.1 rfl rfl (Nat.le_of_ble_eq_true rfl) (c_leaveOutAll (r := (takes0 K, net0 K (k_ny K))) hN hL hW hR1 hU) ?_
  rintro _ _ ⟨D2, rfl, rfl, hR2, hU2, hO2⟩
  have hv := hU2.1 u hu
  change d_fi D2 169 (ya (X + 11) u) = b2i ((outK K).1 u) at hv
  refine X_run rfl ?_ ?_
  · simp [md_s, md_w, rget, r_a, r_b, r_c, r_i, r_l, hx]
  try simp only [md_s, md_w, rget_some, r_a, r_b, r_c, r_i, r_l, r_nx, r_pc, Nat.reduceEqDiff, false_and, if_false, hx]
  refine X_cV (args := [.int (nI u)]) rfl (by decide) hL.1.1 rfl rfl (Nat.le_of_ble_eq_true rfl) (c_paymentAt hL hu2) ?_
  rintro _ _ ⟨rfl, rfl⟩
  refine X_run rfl ?_ ?_
  · simp [md_s, md_w, rget, r_a, r_b, r_c, r_i, r_l, hy, hv]
  try simp only [md_s, md_w, rget_some, r_a, r_b, r_c, r_i, r_l, r_nx, r_pc, Nat.reduceEqDiff, false_and, if_false, hy, hv]
  exact Eg.zx (X_zret rfl rfl (b2i_01 _) ⟨D2, _, by rw [pSettles, if_pos c1, eu], rfl, rfl, hR2, (hO1.tr hO2).wide (by omega) (by omega)⟩)
end RUNM
