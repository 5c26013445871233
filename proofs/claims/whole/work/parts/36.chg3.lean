def pWithdraw (K : KT) (x m a : Int32) : Except String (Int32 × KT) :=
  if inB x (k_np K) = true ∧ inB m (k_nm K) = true then
    (if inR a 1 100000 = true then
      (if a ≤ k_ba K (iN x) (iN m) then .ok (k_ba K (iN x) (iN m) + -a, ks_ba K (up2n (k_ba K) (iN x) (iN m) (k_ba K (iN x) (iN m) + -a))) else .error eS) else .error eA) else .error eB
def mvC (K : KT) (p m : Nat) (x : Int32) : KT := ks_co (ks_ba K (up2n (k_ba K) p m (k_ba K p m + -x))) (up2n (k_co K) p m (k_co K p m + x))
theorem up2n_self {f : Nat → Nat → Int32} {p m : Nat} {v : Int32} : up2n f p m v p m = v := if_pos ⟨rfl, rfl⟩
theorem up2n_undo {f : Nat → Nat → Int32} {p m : Nat} {v w : Int32} (h : w = f p m) : up2n (up2n f p m v) p m w = f := by
  funext p' m'
  unfold up2n
  by_cases hz : p' = p ∧ m' = m
  · rw [if_pos hz, h, hz.1, hz.2]
  · rw [if_neg hz, if_neg hz]
theorem mvC_ba {K : KT} {p m : Nat} {x : Int32} : k_ba (mvC K p m x) = up2n (k_ba K) p m (k_ba K p m + -x) := rfl
theorem mvC_co {K : KT} {p m : Nat} {x : Int32} : k_co (mvC K p m x) = up2n (k_co K) p m (k_co K p m + x) := rfl
theorem ks_bc (K : KT) (f f' h h' : Nat → Nat → Int32) : ks_co (ks_ba (ks_co (ks_ba K f) h) f') h' = ks_co (ks_ba K f') h' := rfl
theorem ks_bc_id (K : KT) : ks_co (ks_ba K (k_ba K)) (k_co K) = K := rfl
theorem mvC_undo {K : KT} {p m : Nat} {x : Int32} : mvC (mvC K p m x) p m (-x) = K := by
  have e : mvC (mvC K p m x) p m (-x) = ks_co (ks_ba (mvC K p m x) (up2n (k_ba (mvC K p m x)) p m (k_ba (mvC K p m x) p m + - -x))) (up2n (k_co (mvC K p m x)) p m (k_co (mvC K p m x) p m + -x)) := rfl
  rw [e, mvC_ba, mvC_co, up2n_self, up2n_self, up2n_undo (by rw [Int32.neg_neg, Int32.add_assoc, Int32.add_left_neg, Int32.add_zero]), up2n_undo (by rw [Int32.add_assoc, Int32.add_right_neg, Int32.add_zero])]
  unfold mvC
  rw [ks_bc, ks_bc_id]
theorem mvC_skel {K : KT} {p m : Nat} {x : Int32} : skel (mvC K p m x) = skel K := rfl
def pPledge (K : KT) (x m a : Int32) : Except String (Int32 × KT) :=
  if inB x (k_np K) = true ∧ inB m (k_nm K) = true then
    (if ¬ a = 0 ∧ inR a (-100000) 100000 = true then
      (if (a ≤ k_ba K (iN x) (iN m) ∨ ¬ 0 < a) ∧ -a ≤ k_co K (iN x) (iN m) then
        (if 0 ≤ a ∨ 0 ≤ (room (mvC K (iN x) (iN m) a) (iN x)).toInt32 then .ok ((room (mvC K (iN x) (iN m) a) (iN x)).toInt32, mvC K (iN x) (iN m) a) else .error eS)
      else .error eS) else .error eA) else .error eB
def pAmend (K : KT) (n a : Int32) : Except String (Int32 × KT) :=
  if inB n (k_ny K) = true then
    (if inR a 1 100000 = true then
      (if k_st K (iN n) = 0 then .ok (k_am K (iN n), ks_am K (up1 (k_am K) (iN n) a)) else .error eS) else .error eA) else .error eB
def pPutOff (K : KT) (n a : Int32) : Except String (Int32 × KT) :=
  if inB n (k_ny K) = true then
    (if inR a 1 30 = true then
      (if k_st K (iN n) = 0 then .ok (k_du K (iN n) + a, ks_du K (up1 (k_du K) (iN n) (k_du K (iN n) + a))) else .error eS) else .error eA) else .error eB
theorem nb2i {b : Bool} (h : b2i b = 0) : ¬ b = true := fun z => by rw [b2i_zero.mp h] at z; exact absurd z (by decide)
section CHG3
variable {g : GG} {d : Nat} {S : ShT} {D : DaT} {X : Nat} {K : KT}
theorem c_withdraw {x m a : Int32} (hX : DkL S X) (hW : WfK K) (hR : RepC D (X + 11) K) : EvX g (d + 6) mX9_withdraw 1 6 [.ref X, .int x, .int m, .int a] (md S D) (Do S D X (pWithdraw K x m a)) (DoX S D X K (pWithdraw K x m a)) := by
  obtain ⟨hx, -, -, -, hL, -⟩ := id hX
  obtain ⟨w1, w2, w3, -⟩ := id hW
  have hb := hL.1
  have no : ¬ (inB x (k_np K) = true ∧ inB m (k_nm K) = true) → Eg g (d + 6) mX9_withdraw 1 6 (Zx g (Do S D X (pWithdraw K x m a)) (DoX S D X K (pWithdraw K x m a))) 16 [] [] (md S D) := fun hz =>
    X_throw ⟨rfl, rfl, rfl, rfl, rfl⟩ (by decide) rfl i_eB s_209 (Nat.zero_le _) (fun k => ⟨by rw [pWithdraw, if_neg hz], D, k, rfl, hR, Out.rf⟩)
  refine EvX.mk (by decide) (Nat.le_of_ble_eq_true rfl) ?_
  refine X_run rfl trivial ?_
  refine X_cV (args := [.int x]) rfl (by decide) hx.1 rfl rfl (Nat.le_of_ble_eq_true rfl) (c_isParty hX hR) ?_
  rintro _ _ ⟨rfl, rfl⟩
  refine X_if_eq rfl (fun c1 => Eg.sub (no (fun z => nb2i c1 z.1)) trivial) (fun c1 => ?_)
  have c1 := b2i_nz c1
  refine X_run rfl trivial ?_
  refine X_cV (args := [.int m]) rfl (by decide) hx.1 rfl rfl (Nat.le_of_ble_eq_true rfl) (c_isMoney hX hR) ?_
  rintro _ _ ⟨rfl, rfl⟩
  refine X_if_ne rfl (fun c2 => ?_) (fun c2 => Eg.sub (no (fun z => nb2i c2 z.2)) trivial)
  have c2 := b2i_nz c2
  obtain ⟨j, hj, rfl⟩ := (inB_iff (by omega)).mp c1
  obtain ⟨u, hu, rfl⟩ := (inB_iff (by omega)).mp c2
  have ej : iN (nI j) = j := iN_nI (by omega)
  have eu : iN (nI u) = u := iN_nI (by omega)
  refine X_run rfl trivial ?_
  refine X_cS (args := [.int a, .int 1, .int 100000]) rfl (by decide) rfl rfl (Nat.le_of_ble_eq_true rfl) c_isFrom ?_
  rintro _ _ ⟨rfl, rfl⟩
  rw [if_b2i, show decide (1 ≤ a ∧ a ≤ 100000) = inR a 1 100000 from rfl]
  refine X_if_ne rfl (fun c3 => ?_) (fun c3 => X_throw ⟨rfl, rfl, rfl, rfl, rfl⟩ (by decide) rfl i_eA s_218 (Nat.zero_le _) (fun k => ⟨by rw [pWithdraw, if_pos ⟨c1, c2⟩, if_neg (nb2i c3)], D, k, rfl, hR, Out.rf⟩))
  have c3 := b2i_nz c3
  have hj2 : j < 10 := by omega
  have hu2 : u < 5 := by omega
  obtain ⟨hq, hr1, hr2, -⟩ := hL.2.1 j hj2
  have hvb := (hR.2.1 j hj).2 u hu2
  refine X_run rfl ?_ ?_
  · simp [md_s, md_w, rget, r_a, r_b, r_c, r_i, r_l, hx, hb]
  try simp only [md_s, md_w, rget_some, r_a, r_b, r_c, r_i, r_l, r_nx, r_pc, Nat.reduceEqDiff, false_and, if_false, hx, hb]
  refine X_cV (args := [.int (nI j)]) rfl (by decide) hb.1 rfl rfl (Nat.le_of_ble_eq_true rfl) (c_partyAt hL hj2) ?_
  rintro _ _ ⟨rfl, rfl⟩
  refine X_run rfl ?_ ?_
  · simp [md_s, md_w, rget, r_a, r_b, r_c, r_i, r_l, hq]
  try simp only [md_s, md_w, rget_some, r_a, r_b, r_c, r_i, r_l, r_nx, r_pc, Nat.reduceEqDiff, false_and, if_false, hq]
  refine X_cV (args := [.int (nI u)]) rfl (by decide) hr1.1 rfl rfl (Nat.le_of_ble_eq_true rfl) (c_Row_at hr1 hu2) ?_
  rintro _ _ ⟨rfl, rfl⟩
  rw [hvb.1]
  refine X_run rfl trivial ?_
  refine X_icmp_ge rfl (fun c4 => ?_) (fun c4 => X_throw ⟨rfl, rfl, rfl, rfl, rfl⟩ (by decide) rfl i_eS s_224 (Nat.zero_le _) (fun k => ⟨by rw [pWithdraw, if_pos ⟨c1, c2⟩, if_pos c3, ej, eu, if_neg c4], D, k, rfl, hR, Out.rf⟩))
  refine X_run rfl trivial ?_
  refine X_cV (args := [.int (nI u), .int (-a)]) rfl (by decide) hr1.1 rfl rfl (Nat.le_of_ble_eq_true rfl) (c_Row_add hr1 hu2) ?_
  rintro _ _ ⟨rfl, rfl⟩
  rw [hvb.1]
  have hR1 := hR.ba (p := j) (m := u) (k_ba K j u + -a)
  have hv1 : d_ai (pai D (pa (X + 11) j + 2) u (k_ba K j u + -a)) (pa (X + 11) j + 2) u = k_ba K j u + -a := by rw [rd_ai, if_pos ⟨rfl, rfl⟩]
  have hO1 : Out (X + 11) (X + 150) D (pai D (pa (X + 11) j + 2) u (k_ba K j u + -a)) := Out.ai (by unfold pa; omega)
  generalize pai D (pa (X + 11) j + 2) u (k_ba K j u + -a) = D1 at hR1 hv1 hO1 ⊢
  refine X_run rfl trivial ?_
  refine X_cV (args := [.int (nI u)]) rfl (by decide) hr1.1 rfl rfl (Nat.le_of_ble_eq_true rfl) (c_Row_at hr1 hu2) ?_
  rintro _ _ ⟨rfl, rfl⟩
  rw [hv1]
  refine X_run rfl trivial ?_
  refine Eg.zx ?_
  refine X_iret rfl rfl ⟨D1, _, _, ?_, rfl, rfl, hR1, hO1⟩
  rw [pWithdraw, if_pos ⟨c1, c2⟩, if_pos c3, ej, eu, if_pos c4]
theorem c_pledge {x m a : Int32} (hX : DkL S X) (hW : WfK K) (hR : RepC D (X + 11) K) : EvX g (d + 6) mX9_pledge 1 6 [.ref X, .int x, .int m, .int a] (md S D) (Do S D X (pPledge K x m a)) (DoX S D X K (pPledge K x m a)) := by
  obtain ⟨hx, -, -, -, hL, -⟩ := id hX
  obtain ⟨w1, w2, w3, -⟩ := id hW
  have hb := hL.1
  have no : ¬ (inB x (k_np K) = true ∧ inB m (k_nm K) = true) → Eg g (d + 6) mX9_pledge 1 6 (Zx g (Do S D X (pPledge K x m a)) (DoX S D X K (pPledge K x m a))) 16 [] [] (md S D) := fun hz =>
    X_throw ⟨rfl, rfl, rfl, rfl, rfl⟩ (by decide) rfl i_eB s_209 (Nat.zero_le _) (fun k => ⟨by rw [pPledge, if_neg hz], D, k, rfl, hR, Out.rf⟩)
  refine EvX.mk (by decide) (Nat.le_of_ble_eq_true rfl) ?_
  refine X_run rfl trivial ?_
  refine X_cV (args := [.int x]) rfl (by decide) hx.1 rfl rfl (Nat.le_of_ble_eq_true rfl) (c_isParty hX hR) ?_
  rintro _ _ ⟨rfl, rfl⟩
  refine X_if_eq rfl (fun c1 => Eg.sub (no (fun z => nb2i c1 z.1)) trivial) (fun c1 => ?_)
  have c1 := b2i_nz c1
  refine X_run rfl trivial ?_
  refine X_cV (args := [.int m]) rfl (by decide) hx.1 rfl rfl (Nat.le_of_ble_eq_true rfl) (c_isMoney hX hR) ?_
  rintro _ _ ⟨rfl, rfl⟩
  refine X_if_ne rfl (fun c2 => ?_) (fun c2 => Eg.sub (no (fun z => nb2i c2 z.2)) trivial)
  have c2 := b2i_nz c2
  have no2 : ¬ (¬ a = 0 ∧ inR a (-100000) 100000 = true) → Eg g (d + 6) mX9_pledge 1 6 (Zx g (Do S D X (pPledge K x m a)) (DoX S D X K (pPledge K x m a))) 41 [] [] (md S D) := fun hz =>
    X_throw ⟨rfl, rfl, rfl, rfl, rfl⟩ (by decide) rfl i_eA s_218 (Nat.zero_le _) (fun k => ⟨by rw [pPledge, if_pos ⟨c1, c2⟩, if_neg hz], D, k, rfl, hR, Out.rf⟩)
  have no3 : ¬ a = 0 ∧ inR a (-100000) 100000 = true → ¬ ((a ≤ k_ba K (iN x) (iN m) ∨ ¬ 0 < a) ∧ -a ≤ k_co K (iN x) (iN m)) → Eg g (d + 6) mX9_pledge 1 6 (Zx g (Do S D X (pPledge K x m a)) (DoX S D X K (pPledge K x m a))) 92 [] [] (md S D) := fun h3 hz =>
    X_throw ⟨rfl, rfl, rfl, rfl, rfl⟩ (by decide) rfl i_eS s_227 (Nat.zero_le _) (fun k => ⟨by rw [pPledge, if_pos ⟨c1, c2⟩, if_pos h3, if_neg hz], D, k, rfl, hR, Out.rf⟩)
  obtain ⟨j, hj, rfl⟩ := (inB_iff (by omega)).mp c1
  obtain ⟨u, hu, rfl⟩ := (inB_iff (by omega)).mp c2
  have ej : iN (nI j) = j := iN_nI (by omega)
  have eu : iN (nI u) = u := iN_nI (by omega)
  rw [ej, eu] at no3
  refine X_run rfl trivial ?_
  refine X_if_eq rfl (fun c3 => Eg.sub (no2 (fun z => z.1 c3)) trivial) (fun c3 => ?_)
  refine X_run rfl trivial ?_
  refine X_cS (args := [.int a, .int (-100000), .int 100000]) rfl (by decide) rfl rfl (Nat.le_of_ble_eq_true rfl) c_isFrom ?_
  rintro _ _ ⟨rfl, rfl⟩
  rw [if_b2i, show decide (-100000 ≤ a ∧ a ≤ 100000) = inR a (-100000) 100000 from rfl]
  refine X_if_ne rfl (fun c4 => ?_) (fun c4 => Eg.sub (no2 (fun z => nb2i c4 z.2)) trivial)
  have c4 := b2i_nz c4
  have no3 := no3 ⟨c3, c4⟩
  have hj2 : j < 10 := by omega
  have hu2 : u < 5 := by omega
  obtain ⟨hq, hr1, hr2, -⟩ := hL.2.1 j hj2
  have hvb := (hR.2.1 j hj).2 u hu2
  refine X_run rfl ?_ ?_
  · simp [md_s, md_w, rget, r_a, r_b, r_c, r_i, r_l, hx, hb]
  try simp only [md_s, md_w, rget_some, r_a, r_b, r_c, r_i, r_l, r_nx, r_pc, Nat.reduceEqDiff, false_and, if_false, hx, hb]
  refine X_cV (args := [.int (nI j)]) rfl (by decide) hb.1 rfl rfl (Nat.le_of_ble_eq_true rfl) (c_partyAt hL hj2) ?_
  rintro _ _ ⟨rfl, rfl⟩
  refine X_run rfl ?_ ?_
  · simp [md_s, md_w, rget, r_a, r_b, r_c, r_i, r_l, hq]
  try simp only [md_s, md_w, rget_some, r_a, r_b, r_c, r_i, r_l, r_nx, r_pc, Nat.reduceEqDiff, false_and, if_false, hq]
  refine X_cV (args := [.int (nI u)]) rfl (by decide) hr1.1 rfl rfl (Nat.le_of_ble_eq_true rfl) (c_Row_at hr1 hu2) ?_
  rintro _ _ ⟨rfl, rfl⟩
  rw [hvb.1]
  have tail : (a ≤ k_ba K j u ∨ ¬ 0 < a) → Eg g (d + 6) mX9_pledge 1 6 (Zx g (Do S D X (pPledge K (nI j) (nI u) a)) (DoX S D X K (pPledge K (nI j) (nI u) a))) 78 [(0, .ref X), (1, .int (nI j)), (2, .int (nI u)), (3, .int a), (4, .ref (pa (X + 11) j))] [] (md S D) := fun h5 => by
    refine X_run rfl ?_ ?_
    · simp [md_s, md_w, rget, r_a, r_b, r_c, r_i, r_l, hq]
    try simp only [md_s, md_w, rget_some, r_a, r_b, r_c, r_i, r_l, r_nx, r_pc, Nat.reduceEqDiff, false_and, if_false, hq]
    refine X_cV (args := [.int (nI u)]) rfl (by decide) hr2.1 rfl rfl (Nat.le_of_ble_eq_true rfl) (c_Row_at hr2 hu2) ?_
    rintro _ _ ⟨rfl, rfl⟩
    rw [hvb.2]
    refine X_run rfl trivial ?_
    refine X_icmp_ge rfl (fun c6 => ?_) (fun c6 => Eg.sub (no3 (fun z => c6 z.2)) trivial)
    refine X_run rfl trivial ?_
    refine X_cV (args := [.int (nI u), .int a]) rfl (by decide) hq.2.1 rfl rfl (Nat.le_of_ble_eq_true rfl) (c_moveToCollateral hL hj2 hu2 hR hj) ?_
    rintro _ _ ⟨D1, rfl, rfl, hR1, hO1⟩
    change RepC D1 (X + 11) (mvC K j u a) at hR1
    have hW1 := skel_wf (mvC_skel (K := K) (p := j) (m := u) (x := a)) hW
    refine X_run rfl ?_ ?_
    · simp [md_s, md_w, rget, r_a, r_b, r_c, r_i, r_l, hx, hb]
    try simp only [md_s, md_w, rget_some, r_a, r_b, r_c, r_i, r_l, r_nx, r_pc, Nat.reduceEqDiff, false_and, if_false, hx, hb]
    refine X_cV (args := [.ref (pa (X + 11) j)]) rfl (by decide) hb.1 rfl rfl (Nat.le_of_ble_eq_true rfl) (c_roomOf hL hW1 hR1 hj) ?_
    rintro _ _ ⟨rfl, rfl⟩
    refine X_run rfl trivial ?_
    have fin : (0 ≤ a ∨ 0 ≤ (room (mvC K j u a) j).toInt32) → Eg g (d + 6) mX9_pledge 1 6 (Zx g (Do S D X (pPledge K (nI j) (nI u) a)) (DoX S D X K (pPledge K (nI j) (nI u) a))) 148 [(5, .int (room (mvC K j u a) j).toInt32)] [] (md S D1) := fun h7 => by
      refine X_run rfl trivial ?_
      refine Eg.zx ?_
      refine X_iret rfl rfl ⟨D1, _, _, ?_, rfl, rfl, hR1, hO1.wide (Nat.le_refl _) (by omega)⟩
      rw [pPledge, if_pos ⟨c1, c2⟩, if_pos ⟨c3, c4⟩, ej, eu, if_pos ⟨h5, c6⟩, if_pos h7]
    refine X_if_ge rfl (fun c7 => Eg.sub (fin (Or.inl c7)) ⟨rfl, trivial⟩) (fun c7 => ?_)
    refine X_run rfl trivial ?_
    refine X_if_ge rfl (fun c8 => Eg.sub (fin (Or.inr c8)) ⟨rfl, trivial⟩) (fun c8 => ?_)
    refine X_run rfl trivial ?_
    refine X_cV (args := [.int (nI u), .int (-a)]) rfl (by decide) hq.2.1 rfl rfl (Nat.le_of_ble_eq_true rfl) (c_moveToCollateral hL hj2 hu2 hR1 hj) ?_
    rintro _ _ ⟨D2, rfl, rfl, hR2, hO2⟩
    change RepC D2 (X + 11) (mvC (mvC K j u a) j u (-a)) at hR2
    rw [mvC_undo] at hR2
    exact X_throw ⟨rfl, rfl, rfl, rfl, rfl⟩ (by decide) rfl i_eS s_232 (Nat.zero_le _) (fun k => ⟨by rw [pPledge, if_pos ⟨c1, c2⟩, if_pos ⟨c3, c4⟩, ej, eu, if_pos ⟨h5, c6⟩, if_neg (fun z => z.elim c7 c8)], D2, k, rfl, hR2, (hO1.tr hO2).wide (Nat.le_refl _) (by omega)⟩)
  refine X_run rfl trivial ?_
  refine X_icmp_ge rfl (fun c5 => tail (Or.inl c5)) (fun c5 => ?_)
  refine X_run rfl trivial ?_
  refine X_if_gt rfl (fun c6 => Eg.sub (no3 (fun z => z.1.elim c5 (fun z => z c6))) trivial) (fun c6 => tail (Or.inr c6))
theorem c_amend {n a : Int32} (hX : DkL S X) (hW : WfK K) (hR : RepC D (X + 11) K) : EvX g (d + 6) mX9_amend 1 6 [.ref X, .int n, .int a] (md S D) (Do S D X (pAmend K n a)) (DoX S D X K (pAmend K n a)) := by
  obtain ⟨hx, -, -, -, hL, -⟩ := id hX
  obtain ⟨w1, w2, w3, -⟩ := id hW
  have hb := hL.1
  refine EvX.mk (by decide) (Nat.le_of_ble_eq_true rfl) ?_
  refine X_run rfl trivial ?_
  refine X_cV (args := [.int n]) rfl (by decide) hx.1 rfl rfl (Nat.le_of_ble_eq_true rfl) (c_isPayment hX hR) ?_
  rintro _ _ ⟨rfl, rfl⟩
  refine X_if_ne rfl (fun c1 => ?_) (fun c1 => X_throwW ⟨rfl, rfl, rfl, rfl, rfl⟩ (by decide) rfl i_eB s_275 (Nat.zero_le _) (fun k => ⟨by rw [pAmend, if_neg (nb2i c1)], D, k, rfl, hR, Out.rf⟩))
  have c1 := b2i_nz c1
  obtain ⟨u, hu, rfl⟩ := (inB_iff (by omega)).mp c1
  have hu2 : u < 60 := by omega
  have eu : iN (nI u) = u := iN_nI (by omega)
  have hy := hL.2.2.2 u hu2
  have hv := hR.2.2.2 u hu
  refine X_run rfl trivial ?_
  refine X_cS (args := [.int a, .int 1, .int 100000]) rfl (by decide) rfl rfl (Nat.le_of_ble_eq_true rfl) c_isFrom ?_
  rintro _ _ ⟨rfl, rfl⟩
  rw [if_b2i, show decide (1 ≤ a ∧ a ≤ 100000) = inR a 1 100000 from rfl]
  refine X_if_ne rfl (fun c3 => ?_) (fun c3 => X_throw ⟨rfl, rfl, rfl, rfl, rfl⟩ (by decide) rfl i_eA s_218 (Nat.zero_le _) (fun k => ⟨by rw [pAmend, if_pos c1, if_neg (nb2i c3)], D, k, rfl, hR, Out.rf⟩))
  have c3 := b2i_nz c3
  refine X_run rfl ?_ ?_
  · simp [md_s, md_w, rget, r_a, r_b, r_c, r_i, r_l, hx, hb]
  try simp only [md_s, md_w, rget_some, r_a, r_b, r_c, r_i, r_l, r_nx, r_pc, Nat.reduceEqDiff, false_and, if_false, hx, hb]
  refine X_cV (args := [.int (nI u)]) rfl (by decide) hb.1 rfl rfl (Nat.le_of_ble_eq_true rfl) (c_paymentAt hL hu2) ?_
  rintro _ _ ⟨rfl, rfl⟩
  refine X_run rfl ?_ ?_
  · simp [md_s, md_w, rget, r_a, r_b, r_c, r_i, r_l, hy, hv]
  try simp only [md_s, md_w, rget_some, r_a, r_b, r_c, r_i, r_l, r_nx, r_pc, Nat.reduceEqDiff, false_and, if_false, hy, hv]
  refine X_if_eq rfl (fun c4 => ?_) (fun c4 => X_throwW ⟨rfl, rfl, rfl, rfl, rfl⟩ (by decide) rfl i_eS s_277 (Nat.zero_le _) (fun k => ⟨by rw [pAmend, if_pos c1, if_pos c3, eu, if_neg c4], D, k, rfl, hR, Out.rf⟩))
  refine X_run rfl ?_ ?_
  · simp [md_s, md_w, rget, r_a, r_b, r_c, r_i, r_l, hy, hv]
  try simp only [md_s, md_w, rget_some, r_a, r_b, r_c, r_i, r_l, r_nx, r_pc, Nat.reduceEqDiff, false_and, if_false, hy, hv]
  refine Eg.zx ?_
  refine X_iret rfl rfl ⟨_, _, _, ?_, rfl, rfl, hR.am (n := u) a, Out.fi (by unfold ya; omega)⟩
  rw [pAmend, if_pos c1, if_pos c3, eu, if_pos c4]
theorem c_putOff {n a : Int32} (hX : DkL S X) (hW : WfK K) (hR : RepC D (X + 11) K) : EvX g (d + 6) mX9_putOff 1 6 [.ref X, .int n, .int a] (md S D) (Do S D X (pPutOff K n a)) (DoX S D X K (pPutOff K n a)) := by
  obtain ⟨hx, -, -, -, hL, -⟩ := id hX
  obtain ⟨w1, w2, w3, -⟩ := id hW
  have hb := hL.1
  refine EvX.mk (by decide) (Nat.le_of_ble_eq_true rfl) ?_
  refine X_run rfl trivial ?_
  refine X_cV (args := [.int n]) rfl (by decide) hx.1 rfl rfl (Nat.le_of_ble_eq_true rfl) (c_isPayment hX hR) ?_
  rintro _ _ ⟨rfl, rfl⟩
  refine X_if_ne rfl (fun c1 => ?_) (fun c1 => X_throwW ⟨rfl, rfl, rfl, rfl, rfl⟩ (by decide) rfl i_eB s_275 (Nat.zero_le _) (fun k => ⟨by rw [pPutOff, if_neg (nb2i c1)], D, k, rfl, hR, Out.rf⟩))
  have c1 := b2i_nz c1
  obtain ⟨u, hu, rfl⟩ := (inB_iff (by omega)).mp c1
  have hu2 : u < 60 := by omega
  have eu : iN (nI u) = u := iN_nI (by omega)
  have hy := hL.2.2.2 u hu2
  have hv := hR.2.2.2 u hu
  refine X_run rfl trivial ?_
  refine X_cS (args := [.int a, .int 1, .int 30]) rfl (by decide) rfl rfl (Nat.le_of_ble_eq_true rfl) c_isFrom ?_
  rintro _ _ ⟨rfl, rfl⟩
  rw [if_b2i, show decide (1 ≤ a ∧ a ≤ 30) = inR a 1 30 from rfl]
  refine X_if_ne rfl (fun c3 => ?_) (fun c3 => X_throwW ⟨rfl, rfl, rfl, rfl, rfl⟩ (by decide) rfl i_eA s_279 (Nat.zero_le _) (fun k => ⟨by rw [pPutOff, if_pos c1, if_neg (nb2i c3)], D, k, rfl, hR, Out.rf⟩))
  have c3 := b2i_nz c3
  refine X_run rfl ?_ ?_
  · simp [md_s, md_w, rget, r_a, r_b, r_c, r_i, r_l, hx, hb]
  try simp only [md_s, md_w, rget_some, r_a, r_b, r_c, r_i, r_l, r_nx, r_pc, Nat.reduceEqDiff, false_and, if_false, hx, hb]
  refine X_cV (args := [.int (nI u)]) rfl (by decide) hb.1 rfl rfl (Nat.le_of_ble_eq_true rfl) (c_paymentAt hL hu2) ?_
  rintro _ _ ⟨rfl, rfl⟩
  refine X_run rfl ?_ ?_
  · simp [md_s, md_w, rget, r_a, r_b, r_c, r_i, r_l, hy, hv]
  try simp only [md_s, md_w, rget_some, r_a, r_b, r_c, r_i, r_l, r_nx, r_pc, Nat.reduceEqDiff, false_and, if_false, hy, hv]
  refine X_if_eq rfl (fun c4 => ?_) (fun c4 => X_throwW ⟨rfl, rfl, rfl, rfl, rfl⟩ (by decide) rfl i_eS s_277 (Nat.zero_le _) (fun k => ⟨by rw [pPutOff, if_pos c1, if_pos c3, eu, if_neg c4], D, k, rfl, hR, Out.rf⟩))
  refine X_run rfl ?_ ?_
  · simp [md_s, md_w, rget, r_a, r_b, r_c, r_i, r_l, hy, hv, rd_fi]
  try simp only [md_s, md_w, rget_some, r_a, r_b, r_c, r_i, r_l, r_nx, r_pc, Nat.reduceEqDiff, false_and, if_false, hy, hv, rd_fi]
  refine Eg.zx ?_
  refine X_iret rfl rfl ⟨_, _, _, ?_, rfl, rfl, hR.du (n := u) (k_du K u + a), Out.fi (by unfold ya; omega)⟩
  rw [pPutOff, if_pos c1, if_pos c3, eu, if_pos c4]
  simp
end CHG3
