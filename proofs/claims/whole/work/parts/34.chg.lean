/-! methods that change the desk -/
def Do (S : ShT) (D : DaT) (X : Nat) (a : Except String (Int32 × KT)) : Option Value → Mem → Prop := fun v M1 => ∃ D1 r K1, a = .ok (r, K1) ∧ v = some (.int r) ∧ M1 = md S D1 ∧ RepC D1 (X + 11) K1 ∧ Out (X + 11) (X + 150) D D1
def DoX (S : ShT) (D : DaT) (X : Nat) (K : KT) (a : Except String (Int32 × KT)) : String → Mem → Prop := fun E M1 => a = .error E ∧ ∃ D1 k, M1 = w_opq (md S D1) k ∧ RepC D1 (X + 11) K ∧ Out (X + 11) (X + 150) D D1
def inR (x lo hi : Int32) : Bool := decide (lo ≤ x ∧ x ≤ hi)
def pDeposit (K : KT) (x m a : Int32) : Except String (Int32 × KT) :=
  if inB x (k_np K) = true ∧ inB m (k_nm K) = true then
    (if inR a 1 100000 = true then .ok (k_ba K (iN x) (iN m) + a, ks_ba K (up2n (k_ba K) (iN x) (iN m) (k_ba K (iN x) (iN m) + a))) else .error eA) else .error eB
section CHG
variable {g : GG} {d : Nat} {S : ShT} {D : DaT} {X : Nat} {K : KT}
theorem c_deposit {x m a : Int32} (hX : DkL S X) (hW : WfK K) (hR : RepC D (X + 11) K) : EvX g (d + 6) mX9_deposit 1 6 [.ref X, .int x, .int m, .int a] (md S D) (Do S D X (pDeposit K x m a)) (DoX S D X K (pDeposit K x m a)) := by
  obtain ⟨hx, -, -, -, hL, -⟩ := id hX
  obtain ⟨w1, w2, w3, -⟩ := id hW
  have hb := hL.1
  have no : ¬ (inB x (k_np K) = true ∧ inB m (k_nm K) = true) → Eg g (d + 6) mX9_deposit 1 6 (Zx g (Do S D X (pDeposit K x m a)) (DoX S D X K (pDeposit K x m a))) 16 [] [] (md S D) := fun hz =>
    X_throw ⟨rfl, rfl, rfl, rfl, rfl⟩ (by decide) rfl i_eB s_209 (Nat.zero_le _) (fun k => ⟨by rw [pDeposit, if_neg hz], D, k, rfl, hR, Out.rf⟩)
  refine EvX.mk (by decide) (Nat.le_of_ble_eq_true rfl) ?_
  refine X_run rfl trivial ?_
  refine X_cV (args := [.int x]) rfl (by decide) hx.1 rfl rfl (Nat.le_of_ble_eq_true rfl) (c_isParty hX hR) ?_
  rintro _ _ ⟨rfl, rfl⟩
  refine X_if_eq rfl (fun c1 => ?_) (fun c1 => ?_)
  · exact Eg.sub (no (fun z => by rw [b2i_zero.mp c1] at z; exact absurd z.1 (by decide))) trivial
  have c1 := b2i_nz c1
  refine X_run rfl trivial ?_
  refine X_cV (args := [.int m]) rfl (by decide) hx.1 rfl rfl (Nat.le_of_ble_eq_true rfl) (c_isMoney hX hR) ?_
  rintro _ _ ⟨rfl, rfl⟩
  refine X_if_ne rfl (fun c2 => ?_) (fun c2 => Eg.sub (no (fun z => by rw [b2i_zero.mp c2] at z; exact absurd z.2 (by decide))) trivial)
  have c2 := b2i_nz c2
  obtain ⟨j, hj, rfl⟩ := (inB_iff (by omega)).mp c1
  obtain ⟨u, hu, rfl⟩ := (inB_iff (by omega)).mp c2
  refine X_run rfl trivial ?_
  refine X_cS (args := [.int a, .int 1, .int 100000]) rfl (by decide) rfl rfl (Nat.le_of_ble_eq_true rfl) c_isFrom ?_
  rintro _ _ ⟨rfl, rfl⟩
  rw [if_b2i, show decide (1 ≤ a ∧ a ≤ 100000) = inR a 1 100000 from rfl]
  refine X_if_ne rfl (fun c3 => ?_) (fun c3 => ?_)
  · have c3 := b2i_nz c3
    have hj2 : j < 10 := by omega
    have hu2 : u < 5 := by omega
    obtain ⟨hq, hr1, hr2, -⟩ := hL.2.1 j hj2
    have hvb := (hR.2.1 j hj).2 u hu2
    refine X_run rfl ?_ ?_
    · simp [md_s, md_w, rget, r_a, r_b, r_c, r_i, r_l, hx, hb]
    try simp only [md_s, md_w, rget_some, r_a, r_b, r_c, r_i, r_l, r_nx, r_pc, Nat.reduceEqDiff, false_and, if_false, hx, hb]
    refine X_cV (args := [.int (nI j)]) rfl (by decide) hb.1 rfl rfl (Nat.le_of_ble_eq_true rfl) (c_partyAt hL hj2) ?_
    rintro _ _ ⟨rfl, rfl⟩
    refine X_run rfl ?_ ?_
    · simp [md_s, md_w, rget, r_a, r_b, r_c, r_i, r_l, hq]
    try simp only [md_s, md_w, rget_some, r_a, r_b, r_c, r_i, r_l, r_nx, r_pc, Nat.reduceEqDiff, false_and, if_false, hq]
    refine X_cV (args := [.int (nI u), .int a]) rfl (by decide) hr1.1 rfl rfl (Nat.le_of_ble_eq_true rfl) (c_Row_add hr1 hu2) ?_
    rintro _ _ ⟨rfl, rfl⟩
    rw [hvb.1]
    have hR1 := hR.ba (p := j) (m := u) (k_ba K j u + a)
    have hv1 : d_ai (pai D (pa (X + 11) j + 2) u (k_ba K j u + a)) (pa (X + 11) j + 2) u = k_ba K j u + a := by rw [rd_ai, if_pos ⟨rfl, rfl⟩]
    have hO1 : Out (X + 11) (X + 150) D (pai D (pa (X + 11) j + 2) u (k_ba K j u + a)) := Out.ai (by unfold pa; omega)
    generalize pai D (pa (X + 11) j + 2) u (k_ba K j u + a) = D1 at hR1 hv1 hO1 ⊢
    refine X_run rfl trivial ?_
    refine X_cV (args := [.int (nI u)]) rfl (by decide) hr1.1 rfl rfl (Nat.le_of_ble_eq_true rfl) (c_Row_at hr1 hu2) ?_
    rintro _ _ ⟨rfl, rfl⟩
    rw [hv1]
    refine X_run rfl trivial ?_
    refine Eg.zx ?_
    refine X_iret rfl rfl ⟨D1, _, _, ?_, rfl, rfl, hR1, hO1⟩
    rw [pDeposit, if_pos ⟨c1, c2⟩, if_pos c3, iN_nI (by omega), iN_nI (by omega)]
  · exact X_throw ⟨rfl, rfl, rfl, rfl, rfl⟩ (by decide) rfl i_eA s_218 (Nat.zero_le _) (fun k => ⟨by rw [pDeposit, if_pos ⟨c1, c2⟩, if_neg (fun z => by rw [b2i_zero.mp c3] at z; exact absurd z (by decide))], D, k, rfl, hR, Out.rf⟩)
end CHG
