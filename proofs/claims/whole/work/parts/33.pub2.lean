section PUB2
variable {g : GG} {d : Nat} {S : ShT} {D : DaT} {X : Nat} {K : KT}
theorem c_party {x w : Int32} (hX : DkL S X) (hW : WfK K) (hR : RepC D (X + 11) K) : EvX g (d + 6) mX9_party 1 6 [.ref X, .int x, .int w] (md S D) (Ask (md S D) (pParty K x w)) (AskX (md S D) (pParty K x w)) := by
  obtain ⟨hx, -⟩ := id hX
  obtain ⟨w1, w2, w3, -⟩ := id hW
  have no : ¬ (inB x (k_np K) = true ∧ inB w 7 = true) → Eg g (d + 6) mX9_party 1 6 (Zx g (Ask (md S D) (pParty K x w)) (AskX (md S D) (pParty K x w))) 18 [] [] (md S D) := fun hz =>
    X_throw ⟨rfl, rfl, rfl, rfl, rfl⟩ (by decide) rfl i_eB s_143 (Nat.zero_le _) (fun k => ⟨by rw [pParty, if_neg hz], k, rfl⟩)
  refine EvX.mk (by decide) (Nat.le_of_ble_eq_true rfl) ?_
  refine X_run rfl trivial ?_
  refine X_cV (args := [.int x]) rfl (by decide) hx.1 rfl rfl (Nat.le_of_ble_eq_true rfl) (c_isParty hX hR) ?_
  rintro _ _ ⟨rfl, rfl⟩
  refine X_if_eq rfl (fun c1 => ?_) (fun c1 => ?_)
  · exact Eg.sub (no (fun z => by rw [b2i_zero.mp c1] at z; exact absurd z.1 (by decide))) trivial
  have c1 := b2i_nz c1
  refine X_run rfl trivial ?_
  refine X_cS (args := [.int w, .int 0, .int 6]) rfl (by decide) rfl rfl (Nat.le_of_ble_eq_true rfl) c_isFrom ?_
  rintro _ _ ⟨rfl, rfl⟩
  rw [if_b2i, show decide (0 ≤ w ∧ w ≤ 6) = inB w 7 from rfl]
  refine X_if_ne rfl (fun c2 => ?_) (fun c2 => ?_)
  · have c2 := b2i_nz c2
    obtain ⟨j, hj, rfl⟩ := (inB_iff (by omega)).mp c1
    obtain ⟨u, hu, rfl⟩ := (inB_iff (by omega)).mp c2
    refine X_run rfl trivial ?_
    refine X_cV (args := [.int (nI j), .int (nI u)]) rfl (by decide) hx.1 rfl rfl (Nat.le_of_ble_eq_true rfl) (c_toldP hX hW hR hj (by omega)) ?_
    rintro _ _ ⟨rfl, rfl⟩
    refine X_run rfl trivial ?_
    refine Eg.zx ?_
    refine X_iret rfl rfl ⟨rfl, _, ?_, rfl⟩
    rw [pParty, if_pos ⟨c1, c2⟩, iN_nI (by omega), iN_nI (by omega)]
  · exact Eg.sub (no (fun z => by rw [b2i_zero.mp c2] at z; exact absurd z.2 (by decide))) trivial
theorem c_money {x w : Int32} (hX : DkL S X) (hW : WfK K) (hR : RepC D (X + 11) K) : EvX g (d + 6) mX9_money 1 6 [.ref X, .int x, .int w] (md S D) (Ask (md S D) (pMoney K x w)) (AskX (md S D) (pMoney K x w)) := by
  obtain ⟨hx, -⟩ := id hX
  obtain ⟨w1, w2, w3, -⟩ := id hW
  have no : ¬ (inB x (k_nm K) = true ∧ inB w 4 = true) → Eg g (d + 6) mX9_money 1 6 (Zx g (Ask (md S D) (pMoney K x w)) (AskX (md S D) (pMoney K x w))) 17 [] [] (md S D) := fun hz =>
    X_throw ⟨rfl, rfl, rfl, rfl, rfl⟩ (by decide) rfl i_eB s_185 (Nat.zero_le _) (fun k => ⟨by rw [pMoney, if_neg hz], k, rfl⟩)
  refine EvX.mk (by decide) (Nat.le_of_ble_eq_true rfl) ?_
  refine X_run rfl trivial ?_
  refine X_cV (args := [.int x]) rfl (by decide) hx.1 rfl rfl (Nat.le_of_ble_eq_true rfl) (c_isMoney hX hR) ?_
  rintro _ _ ⟨rfl, rfl⟩
  refine X_if_eq rfl (fun c1 => ?_) (fun c1 => ?_)
  · exact Eg.sub (no (fun z => by rw [b2i_zero.mp c1] at z; exact absurd z.1 (by decide))) trivial
  have c1 := b2i_nz c1
  refine X_run rfl trivial ?_
  refine X_cS (args := [.int w, .int 0, .int 3]) rfl (by decide) rfl rfl (Nat.le_of_ble_eq_true rfl) c_isFrom ?_
  rintro _ _ ⟨rfl, rfl⟩
  rw [if_b2i, show decide (0 ≤ w ∧ w ≤ 3) = inB w 4 from rfl]
  refine X_if_ne rfl (fun c2 => ?_) (fun c2 => ?_)
  · have c2 := b2i_nz c2
    obtain ⟨j, hj, rfl⟩ := (inB_iff (by omega)).mp c1
    obtain ⟨u, hu, rfl⟩ := (inB_iff (by omega)).mp c2
    refine X_run rfl trivial ?_
    refine X_cV (args := [.int (nI j), .int (nI u)]) rfl (by decide) hx.1 rfl rfl (Nat.le_of_ble_eq_true rfl) (c_toldM hX hW hR hj (by omega)) ?_
    rintro _ _ ⟨rfl, rfl⟩
    refine X_run rfl trivial ?_
    refine Eg.zx ?_
    refine X_iret rfl rfl ⟨rfl, _, ?_, rfl⟩
    rw [pMoney, if_pos ⟨c1, c2⟩, iN_nI (by omega), iN_nI (by omega)]
  · exact Eg.sub (no (fun z => by rw [b2i_zero.mp c2] at z; exact absurd z.2 (by decide))) trivial
theorem c_payment {x w : Int32} (hX : DkL S X) (hW : WfK K) (hR : RepC D (X + 11) K) : EvX g (d + 6) mX9_payment 1 6 [.ref X, .int x, .int w] (md S D) (Ask (md S D) (pPayment K x w)) (AskX (md S D) (pPayment K x w)) := by
  obtain ⟨hx, -⟩ := id hX
  obtain ⟨w1, w2, w3, -⟩ := id hW
  have no : ¬ (inB x (k_ny K) = true ∧ inB w 9 = true) → Eg g (d + 6) mX9_payment 1 6 (Zx g (Ask (md S D) (pPayment K x w)) (AskX (md S D) (pPayment K x w))) 18 [] [] (md S D) := fun hz =>
    X_throw ⟨rfl, rfl, rfl, rfl, rfl⟩ (by decide) rfl i_eB s_237 (Nat.zero_le _) (fun k => ⟨by rw [pPayment, if_neg hz], k, rfl⟩)
  refine EvX.mk (by decide) (Nat.le_of_ble_eq_true rfl) ?_
  refine X_run rfl trivial ?_
  refine X_cV (args := [.int x]) rfl (by decide) hx.1 rfl rfl (Nat.le_of_ble_eq_true rfl) (c_isPayment hX hR) ?_
  rintro _ _ ⟨rfl, rfl⟩
  refine X_if_eq rfl (fun c1 => ?_) (fun c1 => ?_)
  · exact Eg.sub (no (fun z => by rw [b2i_zero.mp c1] at z; exact absurd z.1 (by decide))) trivial
  have c1 := b2i_nz c1
  refine X_run rfl trivial ?_
  refine X_cS (args := [.int w, .int 0, .int 8]) rfl (by decide) rfl rfl (Nat.le_of_ble_eq_true rfl) c_isFrom ?_
  rintro _ _ ⟨rfl, rfl⟩
  rw [if_b2i, show decide (0 ≤ w ∧ w ≤ 8) = inB w 9 from rfl]
  refine X_if_ne rfl (fun c2 => ?_) (fun c2 => ?_)
  · have c2 := b2i_nz c2
    obtain ⟨j, hj, rfl⟩ := (inB_iff (by omega)).mp c1
    obtain ⟨u, hu, rfl⟩ := (inB_iff (by omega)).mp c2
    refine X_run rfl trivial ?_
    refine X_cV (args := [.int (nI j), .int (nI u)]) rfl (by decide) hx.1 rfl rfl (Nat.le_of_ble_eq_true rfl) (c_toldY hX hW hR hj (by omega)) ?_
    rintro _ _ ⟨rfl, rfl⟩
    refine X_run rfl trivial ?_
    refine Eg.zx ?_
    refine X_iret rfl rfl ⟨rfl, _, ?_, rfl⟩
    rw [pPayment, if_pos ⟨c1, c2⟩, iN_nI (by omega), iN_nI (by omega)]
  · exact Eg.sub (no (fun z => by rw [b2i_zero.mp c2] at z; exact absurd z.2 (by decide))) trivial
def pHas (K : KT) (x m z : Int32) : Except String Int32 := if inB x (k_np K) = true ∧ inB m (k_nm K) = true then .ok (if z = 0 then k_ba K (iN x) (iN m) else k_co K (iN x) (iN m)) else .error eB
theorem c_has {x m z : Int32} (hX : DkL S X) (hW : WfK K) (hR : RepC D (X + 11) K) : EvX g (d + 6) mX9_has 1 6 [.ref X, .int x, .int m, .int z] (md S D) (Ask (md S D) (pHas K x m z)) (AskX (md S D) (pHas K x m z)) := by
  obtain ⟨hx, -, -, -, hL, -⟩ := id hX
  obtain ⟨w1, w2, w3, -⟩ := id hW
  have hb := hL.1
  have no : ¬ (inB x (k_np K) = true ∧ inB m (k_nm K) = true) → Eg g (d + 6) mX9_has 1 6 (Zx g (Ask (md S D) (pHas K x m z)) (AskX (md S D) (pHas K x m z))) 16 [] [] (md S D) := fun hz =>
    X_throw ⟨rfl, rfl, rfl, rfl, rfl⟩ (by decide) rfl i_eB s_209 (Nat.zero_le _) (fun k => ⟨by rw [pHas, if_neg hz], k, rfl⟩)
  refine EvX.mk (by decide) (Nat.le_of_ble_eq_true rfl) ?_
  refine X_run rfl trivial ?_
  refine X_cV (args := [.int x]) rfl (by decide) hx.1 rfl rfl (Nat.le_of_ble_eq_true rfl) (c_isParty hX hR) ?_
  rintro _ _ ⟨rfl, rfl⟩
  refine X_if_eq rfl (fun c1 => ?_) (fun c1 => ?_)
  · exact Eg.sub (no (fun z => by rw [b2i_zero.mp c1] at z; exact absurd z.1 (by decide))) trivial
  have c1 := b2i_nz c1
  refine X_run rfl trivial ?_
  refine X_cV (args := [.int m]) rfl (by decide) hx.1 rfl rfl (Nat.le_of_ble_eq_true rfl) (c_isMoney hX hR) ?_
  rintro _ _ ⟨rfl, rfl⟩
  refine X_if_ne rfl (fun c2 => ?_) (fun c2 => ?_)
  · have c2 := b2i_nz c2
    obtain ⟨j, hj, rfl⟩ := (inB_iff (by omega)).mp c1
    obtain ⟨u, hu, rfl⟩ := (inB_iff (by omega)).mp c2
    have hj2 : j < 10 := by omega
    have hu2 : u < 5 := by omega
    obtain ⟨hq, hr1, hr2, -⟩ := hL.2.1 j hj2
    have hvb := (hR.2.1 j hj).2 u hu2
    refine X_run rfl ?_ ?_
    · simp [md_s, md_w, rget, r_a, r_b, r_c, r_i, r_l, hx, hb]
    try simp only [md_s, md_w, rget_some, r_a, r_b, r_c, r_i, r_l, r_nx, r_pc, Nat.reduceEqDiff, false_and, if_false, hx, hb]
    refine X_cV (args := [.int (nI j)]) rfl (by decide) hb.1 rfl rfl (Nat.le_of_ble_eq_true rfl) (c_partyAt hL hj2) ?_
    rintro _ _ ⟨rfl, rfl⟩
    refine X_run rfl trivial ?_
    refine X_if_eq rfl (fun c3 => ?_) (fun c3 => ?_)
    · refine X_run rfl ?_ ?_
      · simp [md_s, md_w, rget, r_a, r_b, r_c, r_i, r_l, hq]
      try simp only [md_s, md_w, rget_some, r_a, r_b, r_c, r_i, r_l, r_nx, r_pc, Nat.reduceEqDiff, false_and, if_false, hq]
      refine X_cV (args := [.int (nI u)]) rfl (by decide) hr1.1 rfl rfl (Nat.le_of_ble_eq_true rfl) (c_Row_at hr1 hu2) ?_
      rintro _ _ ⟨rfl, rfl⟩
      refine X_run rfl trivial ?_
      refine Eg.zx ?_
      refine X_iret rfl rfl ⟨rfl, _, ?_, rfl⟩
      rw [pHas, if_pos ⟨c1, c2⟩, iN_nI (by omega), iN_nI (by omega), if_pos c3, hvb.1]
    · refine X_run rfl ?_ ?_
      · simp [md_s, md_w, rget, r_a, r_b, r_c, r_i, r_l, hq]
      try simp only [md_s, md_w, rget_some, r_a, r_b, r_c, r_i, r_l, r_nx, r_pc, Nat.reduceEqDiff, false_and, if_false, hq]
      refine X_cV (args := [.int (nI u)]) rfl (by decide) hr2.1 rfl rfl (Nat.le_of_ble_eq_true rfl) (c_Row_at hr2 hu2) ?_
      rintro _ _ ⟨rfl, rfl⟩
      refine X_run rfl trivial ?_
      refine Eg.zx ?_
      refine X_iret rfl rfl ⟨rfl, _, ?_, rfl⟩
      rw [pHas, if_pos ⟨c1, c2⟩, iN_nI (by omega), iN_nI (by omega), if_neg c3, hvb.2]
  · exact Eg.sub (no (fun z => by rw [b2i_zero.mp c2] at z; exact absurd z.2 (by decide))) trivial
end PUB2
