def pSetRate (K : KT) (m a : Int32) : Except String (Int32 × KT) :=
  if inB m (k_nm K) = true then
    (if inR a 1 1000 = true then .ok (k_rt K (iN m), ks_rt K (up1 (k_rt K) (iN m) a)) else .error eA) else .error eB
section CHG2
variable {g : GG} {d : Nat} {S : ShT} {D : DaT} {X : Nat} {K : KT}
theorem c_setRate {m a : Int32} (hX : DkL S X) (hW : WfK K) (hR : RepC D (X + 11) K) : EvX g (d + 6) mX9_setRate 1 6 [.ref X, .int m, .int a] (md S D) (Do S D X (pSetRate K m a)) (DoX S D X K (pSetRate K m a)) := by
  obtain ⟨hx, -, -, -, hL, -⟩ := id hX
  obtain ⟨w1, w2, w3, -⟩ := id hW
  have hb := hL.1
  refine EvX.mk (by decide) (Nat.le_of_ble_eq_true rfl) ?_
  refine X_run rfl trivial ?_
  refine X_cV (args := [.int m]) rfl (by decide) hx.1 rfl rfl (Nat.le_of_ble_eq_true rfl) (c_isMoney hX hR) ?_
  rintro _ _ ⟨rfl, rfl⟩
  refine X_if_ne rfl (fun c1 => ?_) (fun c1 => X_throw ⟨rfl, rfl, rfl, rfl, rfl⟩ (by decide) rfl i_eB s_205 (Nat.zero_le _) (fun k => ⟨by rw [pSetRate, if_neg (fun z => by rw [b2i_zero.mp c1] at z; exact absurd z (by decide))], D, k, rfl, hR, Out.rf⟩))
  have c1 := b2i_nz c1
  obtain ⟨u, hu, rfl⟩ := (inB_iff (by omega)).mp c1
  have hu2 : u < 5 := by omega
  have hq := hL.2.2.1 u hu2
  have hv := hR.2.2.1 u hu
  refine X_run rfl trivial ?_
  refine X_cS (args := [.int a, .int 1, .int 1000]) rfl (by decide) rfl rfl (Nat.le_of_ble_eq_true rfl) c_isFrom ?_
  rintro _ _ ⟨rfl, rfl⟩
  rw [if_b2i, show decide (1 ≤ a ∧ a ≤ 1000) = inR a 1 1000 from rfl]
  refine X_if_ne rfl (fun c3 => ?_) (fun c3 => X_throw ⟨rfl, rfl, rfl, rfl, rfl⟩ (by decide) rfl i_eA s_207 (Nat.zero_le _) (fun k => ⟨by rw [pSetRate, if_pos c1, if_neg (fun z => by rw [b2i_zero.mp c3] at z; exact absurd z (by decide))], D, k, rfl, hR, Out.rf⟩))
  have c3 := b2i_nz c3
  refine X_run rfl ?_ ?_
  · simp [md_s, md_w, rget, r_a, r_b, r_c, r_i, r_l, hx, hb]
  try simp only [md_s, md_w, rget_some, r_a, r_b, r_c, r_i, r_l, r_nx, r_pc, Nat.reduceEqDiff, false_and, if_false, hx, hb]
  refine X_cV (args := [.int (nI u)]) rfl (by decide) hb.1 rfl rfl (Nat.le_of_ble_eq_true rfl) (c_moneyAt hL hu2) ?_
  rintro _ _ ⟨rfl, rfl⟩
  refine X_run rfl ?_ ?_
  · simp [md_s, md_w, rget, r_a, r_b, r_c, r_i, r_l, hx, hb, hq, hv]
  try simp only [md_s, md_w, rget_some, r_a, r_b, r_c, r_i, r_l, r_nx, r_pc, Nat.reduceEqDiff, false_and, if_false, hx, hb, hq, hv]
  refine X_cV (args := [.int (nI u)]) rfl (by decide) hb.1 rfl rfl (Nat.le_of_ble_eq_true rfl) (c_moneyAt hL hu2) ?_
  rintro _ _ ⟨rfl, rfl⟩
  refine X_run rfl ?_ ?_
  · simp [md_s, md_w, rget, r_a, r_b, r_c, r_i, r_l, hq]
  try simp only [md_s, md_w, rget_some, r_a, r_b, r_c, r_i, r_l, r_nx, r_pc, Nat.reduceEqDiff, false_and, if_false, hq]
  refine Eg.zx ?_
  refine X_iret rfl rfl ⟨_, _, _, ?_, rfl, rfl, hR.rt (p := u) a, Out.fi (by unfold ma; omega)⟩
  rw [pSetRate, if_pos c1, if_pos c3, iN_nI (by omega)]
end CHG2
