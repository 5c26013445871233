/-! calls of the reference -/
def OutR (S : ShT) (Y : Nat) (D D1 : DaT) : Prop := ∀ a, a < s_sz S → (a < Y ∨ Y + 48 ≤ a) → Same D D1 a
theorem OutR.rf {S : ShT} {Y : Nat} {D : DaT} : OutR S Y D D := fun _ _ _ => ⟨fun _ => rfl, fun _ => rfl, rfl, rfl⟩
theorem OutR.tr {S : ShT} {Y : Nat} {D D1 D2 : DaT} (h : OutR S Y D D1) (h2 : OutR S Y D1 D2) : OutR S Y D D2 := fun a h3 h4 => (h a h3 h4).tr (h2 a h3 h4)
theorem OutR.o {S : ShT} {Y lo hi : Nat} {D D1 : DaT} (h : Out lo hi D D1) (h1 : Y ≤ lo ∧ hi ≤ Y + 48 ∨ s_sz S ≤ lo) : OutR S Y D D1 := fun a h3 h4 => h a (by omega)
theorem OutR.fi {S : ShT} {Y k : Nat} {D : DaT} {v : Int32} : OutR S Y D (pfi D k Y v) := OutR.o (Out.fi (lo := Y) (hi := Y + 1) (by omega)) (Or.inl ⟨Nat.le_refl _, by omega⟩)
def RfP (S : ShT) (D : DaT) (Y A n : Nat) (K : KT) (T P : List Nat) (e : Int32) (L : List String) (p : Except String Int32) : Option Value → Mem → Prop := fun v M1 => ∃ S1 D1 k, k ≤ n ∧ M1 = md S1 D1 ∧ Gro S S1 k ∧ OutR S Y D D1 ∧ RmR D1 Y A K T P e ∧ RAns D1 Y L v p
theorem RfP.no {S : ShT} {D D1 : DaT} {Y A n : Nat} {K : KT} {T P : List Nat} {e x : Int32} {L : List String} {p : Except String Int32} {E : String} (hM : RmR D1 Y A K T P e) (ho : OutR S Y D D1) (hA : Y < A) (hx : x = cod L E) (hp : p = .error E) : RfP S D Y A n K T P e L p (some (.int 0)) (md S (pfi D1 352 Y x)) := by
  refine ⟨S, _, 0, Nat.zero_le _, rfl, Gro.rf, ho.tr OutR.fi, hM.thr hA (by decide), ?_⟩
  rw [hp]
  exact ⟨by rw [rd_fi, if_pos ⟨rfl, rfl⟩, hx], rfl⟩
theorem RfP.ok {S : ShT} {D D1 : DaT} {Y A n : Nat} {K : KT} {T P : List Nat} {e r : Int32} {L : List String} {p : Except String Int32} (hM : RmR D1 Y A K T P e) (ho : OutR S Y D D1) (ht : d_fi D1 352 Y = 0) (hp : p = .ok r) : RfP S D Y A n K T P e L p (some (.int r)) (md S D1) := by
  refine ⟨S, _, 0, Nat.zero_le _, rfl, Gro.rf, ho, hM, ?_⟩
  rw [hp]
  exact ⟨ht, rfl⟩
/-- a new row beside -/
theorem RfP.okN {S S1 : ShT} {D D1 D2 : DaT} {Y A n k : Nat} {K : KT} {T P : List Nat} {e r : Int32} {L : List String} {p : Except String Int32} (hM : RmR D1 Y A K T P e) (ho : OutR S Y D D1) (ht : d_fi D1 352 Y = 0) (hk : k ≤ n) (hG : Gro S S1 k) (ho2 : Out (s_sz S) (s_sz S + 1) D1 D2) (hz : Y + 48 ≤ s_sz S) (hA : A + 20 ≤ s_sz S) (hp : p = .ok r) : RfP S D Y A n K T P e L p (some (.int r)) (md S1 D2) := by
  refine ⟨S1, _, k, hk, rfl, hG, ho.tr (OutR.o ho2 (Or.inr (Nat.le_refl _))), hM.out ho2 (Or.inr (by omega)) (Or.inl (by omega)), ?_⟩
  rw [hp]
  exact ⟨by rw [(ho2 Y (by omega)).1]; exact ht, rfl⟩
def ansV (p : Except String (Int32 × KT)) : Except String Int32 := match p with | .ok (r, _) => .ok r | .error E => .error E
def ansK (K : KT) (p : Except String (Int32 × KT)) : KT := match p with | .ok (_, K1) => K1 | .error _ => K
theorem b2f {b : Bool} (h : b2i b = 0) : b = false := b2i_zero.mp h
theorem nf {b : Bool} {P : Prop} (h : b2i b = 0) : ¬ (b = true ∧ P) := fun z => by rw [b2i_zero.mp h] at z; exact absurd z.1 (by decide)
theorem nf2 {b : Bool} {P : Prop} (h : b2i b = 0) : ¬ (P ∧ b = true) := fun z => by rw [b2i_zero.mp h] at z; exact absurd z.2 (by decide)
theorem if_inR (x lo hi : Int32) : (if lo ≤ x ∧ x ≤ hi then (1 : Int32) else 0) = b2i (inR x lo hi) := if_b2i _
section REFASK
variable {g : GG} {d : Nat} {S : ShT} {D : DaT} {Y A A2 : Nat} {K : KT} {T P : List Nat} {e : Int32}
theorem c_Mcount {x : Int32} (hY : MoL S Y A A2) (hz : Y + 48 ≤ s_sz S) (hW : WfK K) (hM : RmR D Y A K T P e) : EvM g (d + 2) mX11_count 1 12 [.ref Y, .int x] (md S D) (RfP S D Y A 1 K T P e [eB] (pCount K (nI T.length) (nI P.length) x)) := by
  obtain ⟨l1, l2, l3⟩ := hY.lo
  obtain ⟨hy, -, ⟨hL, hL2⟩, -⟩ := id hY
  obtain ⟨hs, ha, hb⟩ := hL.all
  obtain ⟨w1, w2, w3, w4⟩ := id hW
  obtain ⟨D1, e1, z1, y1⟩ := wr_fi D 352 Y 0
  have hM1 : RmR D1 Y A K T P e := e1 ▸ hM.thr (by omega) (by decide)
  have hR1 := hM1.1
  have hO1 : OutR S Y D D1 := e1 ▸ OutR.fi
  have t1 : d_fi D1 352 Y = 0 := by rw [z1, if_pos ⟨rfl, rfl⟩]
  refine EvM.mk (by decide) (Nat.le_of_ble_eq_true rfl) ?_
  refine X_run rfl ?_ ?_
  · simp [md_s, md_w, rget, r_a, r_b, r_c, r_i, r_l, hy, e1]
  try simp only [md_s, md_w, rget_some, r_a, r_b, r_c, r_i, r_l, r_nx, r_pc, Nat.reduceEqDiff, false_and, if_false, hy, e1]
  refine X_cS (args := [.int x, .int 0, .int 11]) rfl (by decide) rfl rfl (Nat.le_of_ble_eq_true rfl) c_isIn ?_
  rintro _ _ ⟨rfl, rfl⟩
  rw [if_b2i, show decide (0 ≤ x ∧ x ≤ 11) = inB x 12 from rfl]
  refine X_if_eq rfl (fun c1 => ?_) (fun c1 => ?_)
  · refine X_run rfl trivial ?_
    refine X_cV (args := [.int 1]) rfl (by decide) hy.1 rfl rfl (Nat.le_of_ble_eq_true rfl) (c_no hY) ?_
    rintro _ _ ⟨rfl, rfl⟩
    refine X_run rfl trivial ?_
    exact X_iret rfl rfl (RfP.no hM1 hO1 (by omega) rfl (by rw [pCount, if_neg (nb2i c1)]))
  · have c1 := b2i_nz c1
    obtain ⟨w, hw, rfl⟩ := (inB_iff (by omega)).mp c1
    refine X_run rfl trivial ?_
    refine X_callV (args := [.int (nI w)]) (bc := 0) (bs := 0) (bc1 := 1) (bs1 := 12) rfl (by decide) hy.1 rfl rfl (Nat.le_of_ble_eq_true rfl) (c_Rcounted hY hz hW hR1 hM1.2.1.1 hM1.2.2.1.1 (by omega)) ?_
    rintro _ _ ⟨S1, D2, rfl, rfl, hG, hO2⟩
    refine X_run rfl trivial ?_
    refine X_iret rfl rfl (RfP.okN hM1 hO1 t1 (Nat.le_refl _) hG hO2 hz (by omega) ?_)
    rw [pCount, if_pos c1, iN_nI (by omega)]
theorem c_Mparty {x w : Int32} (hY : MoL S Y A A2) (hW : WfK K) (hM : RmR D Y A K T P e) : EvM g (d + 4) mX11_party 0 0 [.ref Y, .int x, .int w] (md S D) (RfP S D Y A 0 K T P e [eB] (pParty K x w)) := by
  obtain ⟨l1, l2, l3⟩ := hY.lo
  obtain ⟨hy, -, ⟨hL, hL2⟩, -⟩ := id hY
  obtain ⟨hs, ha, hb⟩ := hL.all
  obtain ⟨w1, w2, w3, w4⟩ := id hW
  obtain ⟨D1, e1, z1, y1⟩ := wr_fi D 352 Y 0
  have hM1 : RmR D1 Y A K T P e := e1 ▸ hM.thr (by omega) (by decide)
  have hR1 := hM1.1
  have hO1 : OutR S Y D D1 := e1 ▸ OutR.fi
  have t1 : d_fi D1 352 Y = 0 := by rw [z1, if_pos ⟨rfl, rfl⟩]
  refine EvM.mk (by decide) (Nat.le_of_ble_eq_true rfl) ?_
  refine X_run rfl ?_ ?_
  · simp [md_s, md_w, rget, r_a, r_b, r_c, r_i, r_l, hy, e1]
  try simp only [md_s, md_w, rget_some, r_a, r_b, r_c, r_i, r_l, r_nx, r_pc, Nat.reduceEqDiff, false_and, if_false, hy, e1]
  refine X_cV (args := [.int x]) rfl (by decide) hy.1 rfl rfl (Nat.le_of_ble_eq_true rfl) (c_RisParty hY hR1) ?_
  rintro _ _ ⟨rfl, rfl⟩
  refine X_if_eq rfl (fun c1 => ?_) (fun c1 => ?_)
  · refine X_run rfl trivial ?_
    refine X_cV (args := [.int 1]) rfl (by decide) hy.1 rfl rfl (Nat.le_of_ble_eq_true rfl) (c_no hY) ?_
    rintro _ _ ⟨rfl, rfl⟩
    refine X_run rfl trivial ?_
    exact X_iret rfl rfl (RfP.no hM1 hO1 (by omega) rfl (by rw [pParty, if_neg (nf c1)]))
  have c1 := b2i_nz c1
  refine X_run rfl trivial ?_
  refine X_cS (args := [.int w, .int 0, .int 6]) rfl (by decide) rfl rfl (Nat.le_of_ble_eq_true rfl) c_isIn ?_
  rintro _ _ ⟨rfl, rfl⟩
  rw [if_b2i, show decide (0 ≤ w ∧ w ≤ 6) = inB w 7 from rfl]
  refine X_if_eq rfl (fun c2 => ?_) (fun c2 => ?_)
  · refine X_run rfl trivial ?_
    refine X_cV (args := [.int 1]) rfl (by decide) hy.1 rfl rfl (Nat.le_of_ble_eq_true rfl) (c_no hY) ?_
    rintro _ _ ⟨rfl, rfl⟩
    refine X_run rfl trivial ?_
    exact X_iret rfl rfl (RfP.no hM1 hO1 (by omega) rfl (by rw [pParty, if_neg (nf2 c2)]))
  have c2 := b2i_nz c2
  obtain ⟨j, hj, rfl⟩ := (inB_iff (by omega)).mp c1
  obtain ⟨u, hu, rfl⟩ := (inB_iff (by omega)).mp c2
  refine X_run rfl trivial ?_
  refine X_cV (args := [.int (nI j), .int (nI u)]) rfl (by decide) hy.1 rfl rfl (Nat.le_of_ble_eq_true rfl) (c_RpartyTold hY hW hR1 hj (by omega)) ?_
  rintro _ _ ⟨rfl, rfl⟩
  refine X_run rfl trivial ?_
  refine X_iret rfl rfl (RfP.ok hM1 hO1 t1 ?_)
  rw [pParty, if_pos ⟨c1, c2⟩, iN_nI (by omega), iN_nI (by omega)]
theorem c_Mmoney {x w : Int32} (hY : MoL S Y A A2) (hW : WfK K) (hM : RmR D Y A K T P e) : EvM g (d + 2) mX11_money 0 0 [.ref Y, .int x, .int w] (md S D) (RfP S D Y A 0 K T P e [eB] (pMoney K x w)) := by
  obtain ⟨l1, l2, l3⟩ := hY.lo
  obtain ⟨hy, -, ⟨hL, hL2⟩, -⟩ := id hY
  obtain ⟨hs, ha, hb⟩ := hL.all
  obtain ⟨w1, w2, w3, w4⟩ := id hW
  obtain ⟨D1, e1, z1, y1⟩ := wr_fi D 352 Y 0
  have hM1 : RmR D1 Y A K T P e := e1 ▸ hM.thr (by omega) (by decide)
  have hR1 := hM1.1
  have hO1 : OutR S Y D D1 := e1 ▸ OutR.fi
  have t1 : d_fi D1 352 Y = 0 := by rw [z1, if_pos ⟨rfl, rfl⟩]
  refine EvM.mk (by decide) (Nat.le_of_ble_eq_true rfl) ?_
  refine X_run rfl ?_ ?_
  · simp [md_s, md_w, rget, r_a, r_b, r_c, r_i, r_l, hy, e1]
  try simp only [md_s, md_w, rget_some, r_a, r_b, r_c, r_i, r_l, r_nx, r_pc, Nat.reduceEqDiff, false_and, if_false, hy, e1]
  refine X_cV (args := [.int x]) rfl (by decide) hy.1 rfl rfl (Nat.le_of_ble_eq_true rfl) (c_RisMoney hY hR1) ?_
  rintro _ _ ⟨rfl, rfl⟩
  refine X_if_eq rfl (fun c1 => ?_) (fun c1 => ?_)
  · refine X_run rfl trivial ?_
    refine X_cV (args := [.int 1]) rfl (by decide) hy.1 rfl rfl (Nat.le_of_ble_eq_true rfl) (c_no hY) ?_
    rintro _ _ ⟨rfl, rfl⟩
    refine X_run rfl trivial ?_
    exact X_iret rfl rfl (RfP.no hM1 hO1 (by omega) rfl (by rw [pMoney, if_neg (nf c1)]))
  have c1 := b2i_nz c1
  refine X_run rfl trivial ?_
  refine X_cS (args := [.int w, .int 0, .int 3]) rfl (by decide) rfl rfl (Nat.le_of_ble_eq_true rfl) c_isIn ?_
  rintro _ _ ⟨rfl, rfl⟩
  rw [if_b2i, show decide (0 ≤ w ∧ w ≤ 3) = inB w 4 from rfl]
  refine X_if_eq rfl (fun c2 => ?_) (fun c2 => ?_)
  · refine X_run rfl trivial ?_
    refine X_cV (args := [.int 1]) rfl (by decide) hy.1 rfl rfl (Nat.le_of_ble_eq_true rfl) (c_no hY) ?_
    rintro _ _ ⟨rfl, rfl⟩
    refine X_run rfl trivial ?_
    exact X_iret rfl rfl (RfP.no hM1 hO1 (by omega) rfl (by rw [pMoney, if_neg (nf2 c2)]))
  have c2 := b2i_nz c2
  obtain ⟨j, hj, rfl⟩ := (inB_iff (by omega)).mp c1
  obtain ⟨u, hu, rfl⟩ := (inB_iff (by omega)).mp c2
  refine X_run rfl trivial ?_
  refine X_cV (args := [.int (nI j), .int (nI u)]) rfl (by decide) hy.1 rfl rfl (Nat.le_of_ble_eq_true rfl) (c_RmoneyTold hY hW hR1 hj (by omega)) ?_
  rintro _ _ ⟨rfl, rfl⟩
  refine X_run rfl trivial ?_
  refine X_iret rfl rfl (RfP.ok hM1 hO1 t1 ?_)
  rw [pMoney, if_pos ⟨c1, c2⟩, iN_nI (by omega), iN_nI (by omega)]
theorem c_Mpayment {x w : Int32} (hY : MoL S Y A A2) (hz : Y + 48 ≤ s_sz S) (hW : WfK K) (hM : RmR D Y A K T P e) : EvM g (d + 2) mX11_payment 1 9 [.ref Y, .int x, .int w] (md S D) (RfP S D Y A 1 K T P e [eB] (pPayment K x w)) := by
  obtain ⟨l1, l2, l3⟩ := hY.lo
  obtain ⟨hy, -, ⟨hL, hL2⟩, -⟩ := id hY
  obtain ⟨hs, ha, hb⟩ := hL.all
  obtain ⟨w1, w2, w3, w4⟩ := id hW
  obtain ⟨D1, e1, z1, y1⟩ := wr_fi D 352 Y 0
  have hM1 : RmR D1 Y A K T P e := e1 ▸ hM.thr (by omega) (by decide)
  have hR1 := hM1.1
  have hO1 : OutR S Y D D1 := e1 ▸ OutR.fi
  have t1 : d_fi D1 352 Y = 0 := by rw [z1, if_pos ⟨rfl, rfl⟩]
  refine EvM.mk (by decide) (Nat.le_of_ble_eq_true rfl) ?_
  refine X_run rfl ?_ ?_
  · simp [md_s, md_w, rget, r_a, r_b, r_c, r_i, r_l, hy, e1]
  try simp only [md_s, md_w, rget_some, r_a, r_b, r_c, r_i, r_l, r_nx, r_pc, Nat.reduceEqDiff, false_and, if_false, hy, e1]
  refine X_cV (args := [.int x]) rfl (by decide) hy.1 rfl rfl (Nat.le_of_ble_eq_true rfl) (c_RisPayment hY hR1) ?_
  rintro _ _ ⟨rfl, rfl⟩
  refine X_if_eq rfl (fun c1 => ?_) (fun c1 => ?_)
  · refine X_run rfl trivial ?_
    refine X_cV (args := [.int 1]) rfl (by decide) hy.1 rfl rfl (Nat.le_of_ble_eq_true rfl) (c_no hY) ?_
    rintro _ _ ⟨rfl, rfl⟩
    refine X_run rfl trivial ?_
    exact X_iret rfl rfl (RfP.no hM1 hO1 (by omega) rfl (by rw [pPayment, if_neg (nf c1)]))
  have c1 := b2i_nz c1
  refine X_run rfl trivial ?_
  refine X_cS (args := [.int w, .int 0, .int 8]) rfl (by decide) rfl rfl (Nat.le_of_ble_eq_true rfl) c_isIn ?_
  rintro _ _ ⟨rfl, rfl⟩
  rw [if_b2i, show decide (0 ≤ w ∧ w ≤ 8) = inB w 9 from rfl]
  refine X_if_eq rfl (fun c2 => ?_) (fun c2 => ?_)
  · refine X_run rfl trivial ?_
    refine X_cV (args := [.int 1]) rfl (by decide) hy.1 rfl rfl (Nat.le_of_ble_eq_true rfl) (c_no hY) ?_
    rintro _ _ ⟨rfl, rfl⟩
    refine X_run rfl trivial ?_
    exact X_iret rfl rfl (RfP.no hM1 hO1 (by omega) rfl (by rw [pPayment, if_neg (nf2 c2)]))
  have c2 := b2i_nz c2
  obtain ⟨j, hj, rfl⟩ := (inB_iff (by omega)).mp c1
  obtain ⟨u, hu, rfl⟩ := (inB_iff (by omega)).mp c2
  refine X_run rfl trivial ?_
  refine X_callV (args := [.int (nI j), .int (nI u)]) (bc := 0) (bs := 0) (bc1 := 1) (bs1 := 9) rfl (by decide) hy.1 rfl rfl (Nat.le_of_ble_eq_true rfl) (c_RpaymentTold hY hz hW hR1 hj (by omega)) ?_
  rintro _ _ ⟨S1, D2, rfl, rfl, hG, hO2⟩
  refine X_run rfl trivial ?_
  refine X_iret rfl rfl (RfP.okN hM1 hO1 t1 (Nat.le_refl _) hG hO2 hz (by omega) ?_)
  rw [pPayment, if_pos ⟨c1, c2⟩, iN_nI (by omega), iN_nI (by omega)]
theorem c_Mhas {x m z : Int32} (hY : MoL S Y A A2) (hW : WfK K) (hM : RmR D Y A K T P e) : EvM g (d + 2) mX11_has 0 0 [.ref Y, .int x, .int m, .int z] (md S D) (RfP S D Y A 0 K T P e [eB] (pHas K x m z)) := by
  obtain ⟨l1, l2, l3⟩ := hY.lo
  obtain ⟨hy, -, ⟨hL, hL2⟩, -⟩ := id hY
  obtain ⟨hs, ha, hb⟩ := hL.all
  obtain ⟨w1, w2, w3, w4⟩ := id hW
  obtain ⟨D1, e1, z1, y1⟩ := wr_fi D 352 Y 0
  have hM1 : RmR D1 Y A K T P e := e1 ▸ hM.thr (by omega) (by decide)
  have hR1 := hM1.1
  have hO1 : OutR S Y D D1 := e1 ▸ OutR.fi
  have t1 : d_fi D1 352 Y = 0 := by rw [z1, if_pos ⟨rfl, rfl⟩]
  refine EvM.mk (by decide) (Nat.le_of_ble_eq_true rfl) ?_
  refine X_run rfl ?_ ?_
  · simp [md_s, md_w, rget, r_a, r_b, r_c, r_i, r_l, hy, e1]
  try simp only [md_s, md_w, rget_some, r_a, r_b, r_c, r_i, r_l, r_nx, r_pc, Nat.reduceEqDiff, false_and, if_false, hy, e1]
  refine X_cV (args := [.int x]) rfl (by decide) hy.1 rfl rfl (Nat.le_of_ble_eq_true rfl) (c_RisParty hY hR1) ?_
  rintro _ _ ⟨rfl, rfl⟩
  refine X_if_eq rfl (fun c1 => ?_) (fun c1 => ?_)
  · refine X_run rfl trivial ?_
    refine X_cV (args := [.int 1]) rfl (by decide) hy.1 rfl rfl (Nat.le_of_ble_eq_true rfl) (c_no hY) ?_
    rintro _ _ ⟨rfl, rfl⟩
    refine X_run rfl trivial ?_
    exact X_iret rfl rfl (RfP.no hM1 hO1 (by omega) rfl (by rw [pHas, if_neg (nf c1)]))
  have c1 := b2i_nz c1
  refine X_run rfl trivial ?_
  refine X_cV (args := [.int m]) rfl (by decide) hy.1 rfl rfl (Nat.le_of_ble_eq_true rfl) (c_RisMoney hY hR1) ?_
  rintro _ _ ⟨rfl, rfl⟩
  refine X_if_ne rfl (fun c2 => ?_) (fun c2 => ?_)
  · have c2 := b2i_nz c2
    obtain ⟨j, hj, rfl⟩ := (inB_iff (by omega)).mp c1
    obtain ⟨u, hu, rfl⟩ := (inB_iff (by omega)).mp c2
    have x5 := vx (show 5 * j + u < 50 by omega) (by decide)
    have v := (hR1.2.1 j hj).2.2.2 u (by omega)
    refine X_run rfl trivial ?_
    refine X_if_eq rfl (fun c3 => ?_) (fun c3 => ?_)
    · refine X_run rfl ?_ ?_
      · simp [md_s, md_w, rget, r_a, r_b, r_c, r_i, r_l, hy, hs, ha, i5, x5, v]
      try simp only [md_s, md_w, rget_some, r_a, r_b, r_c, r_i, r_l, r_nx, r_pc, Nat.reduceEqDiff, false_and, if_false, hy, hs, ha, i5, x5, v]
      refine X_iret rfl rfl (RfP.ok hM1 hO1 t1 ?_)
      rw [pHas, if_pos ⟨c1, c2⟩, if_pos c3, iN_nI (by omega), iN_nI (by omega)]
    · refine X_run rfl ?_ ?_
      · simp [md_s, md_w, rget, r_a, r_b, r_c, r_i, r_l, hy, hs, ha, i5, x5, v]
      try simp only [md_s, md_w, rget_some, r_a, r_b, r_c, r_i, r_l, r_nx, r_pc, Nat.reduceEqDiff, false_and, if_false, hy, hs, ha, i5, x5, v]
      refine X_iret rfl rfl (RfP.ok hM1 hO1 t1 ?_)
      rw [pHas, if_pos ⟨c1, c2⟩, if_neg c3, iN_nI (by omega), iN_nI (by omega)]
  · refine X_run rfl trivial ?_
    refine X_cV (args := [.int 1]) rfl (by decide) hy.1 rfl rfl (Nat.le_of_ble_eq_true rfl) (c_no hY) ?_
    rintro _ _ ⟨rfl, rfl⟩
    refine X_run rfl trivial ?_
    exact X_iret rfl rfl (RfP.no hM1 hO1 (by omega) rfl (by rw [pHas, if_neg (nf2 c2)]))
theorem c_Mowes {a b m : Int32} (hY : MoL S Y A A2) (hW : WfK K) (hM : RmR D Y A K T P e) : EvM g (d + 2) mX11_owes 0 0 [.ref Y, .int a, .int b, .int m] (md S D) (RfP S D Y A 0 K T P e [eB] (if (inB a (k_np K) = true ∧ inB b (k_np K) = true) ∧ inB m (k_nm K) = true then .ok (owesK K a b m) else .error eB)) := by
  obtain ⟨l1, l2, l3⟩ := hY.lo
  obtain ⟨hy, -, ⟨hL, hL2⟩, -⟩ := id hY
  obtain ⟨hs, ha, hb⟩ := hL.all
  obtain ⟨w1, w2, w3, w4⟩ := id hW
  obtain ⟨D1, e1, z1, y1⟩ := wr_fi D 352 Y 0
  have hM1 : RmR D1 Y A K T P e := e1 ▸ hM.thr (by omega) (by decide)
  have hR1 := hM1.1
  have hO1 : OutR S Y D D1 := e1 ▸ OutR.fi
  have t1 : d_fi D1 352 Y = 0 := by rw [z1, if_pos ⟨rfl, rfl⟩]
  refine EvM.mk (by decide) (Nat.le_of_ble_eq_true rfl) ?_
  refine X_run rfl ?_ ?_
  · simp [md_s, md_w, rget, r_a, r_b, r_c, r_i, r_l, hy, e1]
  try simp only [md_s, md_w, rget_some, r_a, r_b, r_c, r_i, r_l, r_nx, r_pc, Nat.reduceEqDiff, false_and, if_false, hy, e1]
  refine X_cV (args := [.int a]) rfl (by decide) hy.1 rfl rfl (Nat.le_of_ble_eq_true rfl) (c_RisParty hY hR1) ?_
  rintro _ _ ⟨rfl, rfl⟩
  refine X_if_eq rfl (fun c1 => ?_) (fun c1 => ?_)
  · refine X_run rfl trivial ?_
    refine X_cV (args := [.int 1]) rfl (by decide) hy.1 rfl rfl (Nat.le_of_ble_eq_true rfl) (c_no hY) ?_
    rintro _ _ ⟨rfl, rfl⟩
    refine X_run rfl trivial ?_
    exact X_iret rfl rfl (RfP.no hM1 hO1 (by omega) rfl (if_neg (fun z => nb2i c1 z.1.1)))
  refine X_run rfl trivial ?_
  refine X_cV (args := [.int b]) rfl (by decide) hy.1 rfl rfl (Nat.le_of_ble_eq_true rfl) (c_RisParty hY hR1) ?_
  rintro _ _ ⟨rfl, rfl⟩
  refine X_if_eq rfl (fun c2 => ?_) (fun c2 => ?_)
  · refine X_run rfl trivial ?_
    refine X_cV (args := [.int 1]) rfl (by decide) hy.1 rfl rfl (Nat.le_of_ble_eq_true rfl) (c_no hY) ?_
    rintro _ _ ⟨rfl, rfl⟩
    refine X_run rfl trivial ?_
    exact X_iret rfl rfl (RfP.no hM1 hO1 (by omega) rfl (if_neg (fun z => nb2i c2 z.1.2)))
  refine X_run rfl trivial ?_
  refine X_cV (args := [.int m]) rfl (by decide) hy.1 rfl rfl (Nat.le_of_ble_eq_true rfl) (c_RisMoney hY hR1) ?_
  rintro _ _ ⟨rfl, rfl⟩
  refine X_if_eq rfl (fun c3 => ?_) (fun c3 => ?_)
  · refine X_run rfl trivial ?_
    refine X_cV (args := [.int 1]) rfl (by decide) hy.1 rfl rfl (Nat.le_of_ble_eq_true rfl) (c_no hY) ?_
    rintro _ _ ⟨rfl, rfl⟩
    refine X_run rfl trivial ?_
    exact X_iret rfl rfl (RfP.no hM1 hO1 (by omega) rfl (if_neg (fun z => nb2i c3 z.2)))
  refine X_run rfl ?_ ?_
  · simp [md_s, md_w, rget, r_a, r_b, r_c, r_i, r_l, hy]
  try simp only [md_s, md_w, rget_some, r_a, r_b, r_c, r_i, r_l, r_nx, r_pc, Nat.reduceEqDiff, false_and, if_false, hy]
  refine X_cV (args := [.int a, .int b, .int m]) rfl (by decide) hs.1 rfl rfl (Nat.le_of_ble_eq_true rfl) (c_Rowes hL hW hR1) ?_
  rintro _ _ ⟨rfl, rfl⟩
  refine X_run rfl trivial ?_
  exact X_iret rfl rfl (RfP.ok hM1 hO1 t1 (if_pos ⟨⟨b2i_nz c1, b2i_nz c2⟩, b2i_nz c3⟩))
theorem c_MerrorAt (hY : MoL S Y A A2) (hW : WfK K) (hM : RmR D Y A K T P e) : EvM g d mX11_errorAt 0 0 [.ref Y] (md S D) (fun v M1 => ∃ D1, v = some (.int e) ∧ M1 = md S D1 ∧ OutR S Y D D1 ∧ RmR D1 Y A K T P e) := by
  obtain ⟨l1, l2, l3⟩ := hY.lo
  obtain ⟨hy, -⟩ := id hY
  obtain ⟨D1, e1, z1, y1⟩ := wr_fi D 352 Y 0
  have hM1 : RmR D1 Y A K T P e := e1 ▸ hM.thr (by omega) (by decide)
  have f1 : d_fi D1 355 Y = e := hM1.2.2.2.2
  refine EvM.mk (by decide) (Nat.le_of_ble_eq_true rfl) ?_
  refine X_run rfl ?_ ?_
  · simp [md_s, md_w, rget, r_a, r_b, r_c, r_i, r_l, hy, e1, f1]
  try simp only [md_s, md_w, rget_some, r_a, r_b, r_c, r_i, r_l, r_nx, r_pc, Nat.reduceEqDiff, false_and, if_false, hy, e1, f1]
  exact X_iret rfl rfl ⟨D1, rfl, rfl, e1 ▸ OutR.fi, hM1⟩
end REFASK
