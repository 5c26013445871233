/-! what the reference tells out of a new row -/
def AryR (D : DaT) (a : Nat) (vs : List Int32) : Prop := ∀ j, j < vs.length → d_ai D a j = vs.getD j 0
theorem AryR.put {D D1 : DaT} {a n : Nat} {v : Int32} {vs : List Int32} (h : AryR D a vs) (hn : vs.length = n) (e : pai D a n v = D1) : AryR D1 a (vs ++ [v]) := by
  subst e
  intro j hj
  rw [List.length_append] at hj
  have hj : j < vs.length + 1 := hj
  rw [rd_ai]
  by_cases c : j = n
  · subst c
    rw [if_pos ⟨rfl, rfl⟩, ← hn, List.getD_eq_getElem?_getD, List.getElem?_append_right (Nat.le_refl _), Nat.sub_self]
    rfl
  · rw [if_neg (fun z => c z.2), h j (by omega), List.getD_eq_getElem?_getD, List.getD_eq_getElem?_getD, List.getElem?_append_left (by omega)]
theorem MoL.lo {S : ShT} {Y A A2 : Nat} (h : MoL S Y A A2) : (Y + 8 ≤ A ∧ A + 20 ≤ Y + 48) ∧ (Y + 8 ≤ A2 ∧ A2 + 20 ≤ Y + 48) ∧ (A + 20 ≤ A2 ∨ A2 + 20 ≤ A) := by
  obtain ⟨-, -, -, h⟩ := h
  omega
theorem li {i n : Nat} (x : Int32) (e : x = nI i) (h : i < n) (hn : n < 2 ^ 31) : x.toNatClampNeg = i ∧ vp_in x n := e ▸ vx h hn
section TOLD
variable {g : GG} {d : Nat} {S : ShT} {D : DaT} {Y A A2 : Nat} {K : KT}
theorem c_Rcounted {w : Nat} {tl pl : Int32} (hY : MoL S Y A A2) (hz : Y + 48 ≤ s_sz S) (hW : WfK K) (hR : RepR D A K) (ht : d_fi D 354 Y = tl) (hp : d_fi D 357 Y = pl) (hw : w ≤ 11) : EvM g (d + 1) mX11_counted 1 12 [.ref Y, .int (nI w)] (md S D) (fun v M1 => ∃ S1 D1, v = some (.int (cnts K tl pl w)) ∧ M1 = md S1 D1 ∧ Gro S S1 1 ∧ Out (s_sz S) (s_sz S + 1) D D1) := by
  obtain ⟨l1, l2, l3⟩ := hY.lo
  obtain ⟨hy, -, ⟨hL, -⟩, -⟩ := id hY
  obtain ⟨hs, ha, hb⟩ := hL.all
  obtain ⟨w1, w2, w3, -⟩ := id hW
  have hc := hR.1
  unfold RrC at hc
  refine EvM.mk (by decide) (Nat.le_of_ble_eq_true rfl) ?_
  refine X_run rfl trivial ?_
  refine Eg_iter (fun i (x : Int32) => Eg g (d + 1) mX11_counted 1 12 (Zr g _) 4 [(0, .ref Y), (1, .int (nI w)), (2, .int x), (3, .int (nI i))] [] (md S D)) (fun i acc => if k_df K i = true then acc + 1 else acc) (k_np K) 0 (fun i hi k => ?_) ?_
  · have hv := (hR.2.1 i hi).2.2.1
    have x1 := vx (show i < 10 by omega) (by decide)
    refine X_run rfl ?_ ?_
    · simp [md_s, md_w, rget, r_a, r_b, r_c, r_i, r_l, hy, hs, hc]
    try simp only [md_s, md_w, rget_some, r_a, r_b, r_c, r_i, r_l, r_nx, r_pc, Nat.reduceEqDiff, false_and, if_false, hy, hs, hc]
    refine X_icmp_ge rfl (fun c1 => no_le c1 hi (by omega)) (fun c1 => ?_)
    refine X_run rfl ?_ ?_
    · simp [md_s, md_w, rget, r_a, r_b, r_c, r_i, r_l, hy, hs, ha, x1, hv, nI_s1, b2i_add]
    try simp only [md_s, md_w, rget_some, r_a, r_b, r_c, r_i, r_l, r_nx, r_pc, Nat.reduceEqDiff, false_and, if_false, hy, hs, ha, x1, hv, nI_s1, b2i_add]
    exact k
  rw [show iter (fun i acc => if k_df K i = true then acc + 1 else acc) (k_np K) (0 : Int32) = cntD K from rfl]
  refine X_run rfl ?_ ?_
  · simp [md_s, md_w, rget, r_a, r_b, r_c, r_i, r_l, hy, hs, hc]
  try simp only [md_s, md_w, rget_some, r_a, r_b, r_c, r_i, r_l, r_nx, r_pc, Nat.reduceEqDiff, false_and, if_false, hy, hs, hc]
  refine X_icmp_ge rfl (fun c1 => ?_) (fun c1 => no_nle c1 (Nat.le_refl _) (by omega))
  refine X_run rfl trivial ?_
  refine X_newarray (N := 12) rfl (by decide) rfl (by decide) ?_
  obtain ⟨S1, D1, e1, hG, hn, hO1, hz1, -⟩ := new_md S D 20 12
  rw [show w_new (md S D) (0 + 20) 12 = md S1 D1 from e1]
  have hY1 := hY.gro hG hz
  obtain ⟨hy1, -, ⟨hL1, -⟩, -⟩ := id hY1
  have hs1 := hL1.all.1
  have fA : ∀ k, d_fi D1 k A = d_fi D k A := fun k => (hO1 A (by omega)).1 k
  have fY : ∀ k, d_fi D1 k Y = d_fi D k Y := fun k => (hO1 Y (by omega)).1 k
  have a1 : AryR D1 (s_sz S) [] := fun j hj => absurd hj (Nat.not_lt_zero _)
  have i0 := li (n := 12) (0 : Int32) rfl (show 0 < 12 by decide) (by decide)
  obtain ⟨D2, e2, z2, y2⟩ := wr_ai D1 (s_sz S) 0 (nI (k_np K))
  have a2 := a1.put rfl e2
  have hO2 : Out (s_sz S) (s_sz S + 1) D D2 := hO1.tr (e2 ▸ Out.ai (by omega))
  have i1 := li (n := 12) (1 : Int32) rfl (show 1 < 12 by decide) (by decide)
  obtain ⟨D3, e3, z3, y3⟩ := wr_ai D2 (s_sz S) 1 (nI (k_nm K))
  have a3 := a2.put rfl e3
  have hO3 : Out (s_sz S) (s_sz S + 1) D D3 := hO2.tr (e3 ▸ Out.ai (by omega))
  have i2 := li (n := 12) (2 : Int32) rfl (show 2 < 12 by decide) (by decide)
  obtain ⟨D4, e4, z4, y4⟩ := wr_ai D3 (s_sz S) 2 (nI (k_ny K))
  have a4 := a3.put rfl e4
  have hO4 : Out (s_sz S) (s_sz S + 1) D D4 := hO3.tr (e4 ▸ Out.ai (by omega))
  have i3 := li (n := 12) (3 : Int32) rfl (show 3 < 12 by decide) (by decide)
  obtain ⟨D5, e5, z5, y5⟩ := wr_ai D4 (s_sz S) 3 (cntI K 0)
  have a5 := a4.put rfl e5
  have hO5 : Out (s_sz S) (s_sz S + 1) D D5 := hO4.tr (e5 ▸ Out.ai (by omega))
  have i4 := li (n := 12) (4 : Int32) rfl (show 4 < 12 by decide) (by decide)
  obtain ⟨D6, e6, z6, y6⟩ := wr_ai D5 (s_sz S) 4 (cntI K 1)
  have a6 := a5.put rfl e6
  have hO6 : Out (s_sz S) (s_sz S + 1) D D6 := hO5.tr (e6 ▸ Out.ai (by omega))
  have i5 := li (n := 12) (5 : Int32) rfl (show 5 < 12 by decide) (by decide)
  obtain ⟨D7, e7, z7, y7⟩ := wr_ai D6 (s_sz S) 5 (cntI K 2)
  have a7 := a6.put rfl e7
  have hO7 : Out (s_sz S) (s_sz S + 1) D D7 := hO6.tr (e7 ▸ Out.ai (by omega))
  have i6 := li (n := 12) (6 : Int32) rfl (show 6 < 12 by decide) (by decide)
  obtain ⟨D8, e8, z8, y8⟩ := wr_ai D7 (s_sz S) 6 (cntI K 3)
  have a8 := a7.put rfl e8
  have hO8 : Out (s_sz S) (s_sz S + 1) D D8 := hO7.tr (e8 ▸ Out.ai (by omega))
  have i7 := li (n := 12) (7 : Int32) rfl (show 7 < 12 by decide) (by decide)
  obtain ⟨D9, e9, z9, y9⟩ := wr_ai D8 (s_sz S) 7 (k_day K)
  have a9 := a8.put rfl e9
  have hO9 : Out (s_sz S) (s_sz S + 1) D D9 := hO8.tr (e9 ▸ Out.ai (by omega))
  have i8 := li (n := 12) (8 : Int32) rfl (show 8 < 12 by decide) (by decide)
  obtain ⟨D10, e10, z10, y10⟩ := wr_ai D9 (s_sz S) 8 (k_hr K)
  have a10 := a9.put rfl e10
  have hO10 : Out (s_sz S) (s_sz S + 1) D D10 := hO9.tr (e10 ▸ Out.ai (by omega))
  have i9 := li (n := 12) (9 : Int32) rfl (show 9 < 12 by decide) (by decide)
  obtain ⟨D11, e11, z11, y11⟩ := wr_ai D10 (s_sz S) 9 (cntD K)
  have a11 := a10.put rfl e11
  have hO11 : Out (s_sz S) (s_sz S + 1) D D11 := hO10.tr (e11 ▸ Out.ai (by omega))
  have i10 := li (n := 12) (10 : Int32) rfl (show 10 < 12 by decide) (by decide)
  obtain ⟨D12, e12, z12, y12⟩ := wr_ai D11 (s_sz S) 10 (tl)
  have a12 := a11.put rfl e12
  have hO12 : Out (s_sz S) (s_sz S + 1) D D12 := hO11.tr (e12 ▸ Out.ai (by omega))
  have i11 := li (n := 12) (11 : Int32) rfl (show 11 < 12 by decide) (by decide)
  obtain ⟨D13, e13, z13, y13⟩ := wr_ai D12 (s_sz S) 11 (pl)
  have a13 := a12.put rfl e13
  have hO13 : Out (s_sz S) (s_sz S + 1) D D13 := hO12.tr (e13 ▸ Out.ai (by omega))
  have x1 := vx (show w < 12 by omega) (by decide)
  have rd : d_ai D13 (s_sz S) w = cnts K tl pl w := by
    have := a13 w (by show w < 12; omega)
    rw [this]
    rcases (show w = 0 ∨ w = 1 ∨ w = 2 ∨ w = 3 ∨ w = 4 ∨ w = 5 ∨ w = 6 ∨ w = 7 ∨ w = 8 ∨ w = 9 ∨ w = 10 ∨ w = 11 by omega) with rfl | rfl | rfl | rfl | rfl | rfl | rfl | rfl | rfl | rfl | rfl | rfl <;> rfl
  refine X_run rfl ?_ ?_
  · simp [md_s, md_w, rget, r_a, r_b, r_c, r_i, r_l, md_s, hn, hy1, hs1, fA, fY, hc, ht, hp, i0, e2, y2.1, i1, e3, y3.1, i2, e4, y4.1, i3, e5, y5.1, i4, e6, y6.1, i5, e7, y7.1, i6, e8, y8.1, i7, e9, y9.1, i8, e10, y10.1, i9, e11, y11.1, i10, e12, y12.1, i11, e13, y13.1]
  try simp only [md_s, md_w, rget_some, r_a, r_b, r_c, r_i, r_l, r_nx, r_pc, Nat.reduceEqDiff, false_and, if_false, md_s, hn, hy1, hs1, fA, fY, hc, ht, hp, i0, e2, y2.1, i1, e3, y3.1, i2, e4, y4.1, i3, e5, y5.1, i4, e6, y6.1, i5, e7, y7.1, i6, e8, y8.1, i7, e9, y9.1, i8, e10, y10.1, i9, e11, y11.1, i10, e12, y12.1, i11, e13, y13.1]
  refine X_cV (args := [.int 0]) rfl (by decide) hy1.1 rfl rfl (Nat.le_of_ble_eq_true rfl) (c_with (x := 0) hY1 hW (hR.out hO4 (by omega))) ?_
  rintro _ _ ⟨rfl, rfl⟩
  refine X_run rfl ?_ ?_
  · simp [md_s, md_w, rget, r_a, r_b, r_c, r_i, r_l, md_s, hn, hy1, hs1, fA, fY, hc, ht, hp, i0, e2, y2.1, i1, e3, y3.1, i2, e4, y4.1, i3, e5, y5.1, i4, e6, y6.1, i5, e7, y7.1, i6, e8, y8.1, i7, e9, y9.1, i8, e10, y10.1, i9, e11, y11.1, i10, e12, y12.1, i11, e13, y13.1]
  try simp only [md_s, md_w, rget_some, r_a, r_b, r_c, r_i, r_l, r_nx, r_pc, Nat.reduceEqDiff, false_and, if_false, md_s, hn, hy1, hs1, fA, fY, hc, ht, hp, i0, e2, y2.1, i1, e3, y3.1, i2, e4, y4.1, i3, e5, y5.1, i4, e6, y6.1, i5, e7, y7.1, i6, e8, y8.1, i7, e9, y9.1, i8, e10, y10.1, i9, e11, y11.1, i10, e12, y12.1, i11, e13, y13.1]
  refine X_cV (args := [.int 1]) rfl (by decide) hy1.1 rfl rfl (Nat.le_of_ble_eq_true rfl) (c_with (x := 1) hY1 hW (hR.out hO5 (by omega))) ?_
  rintro _ _ ⟨rfl, rfl⟩
  refine X_run rfl ?_ ?_
  · simp [md_s, md_w, rget, r_a, r_b, r_c, r_i, r_l, md_s, hn, hy1, hs1, fA, fY, hc, ht, hp, i0, e2, y2.1, i1, e3, y3.1, i2, e4, y4.1, i3, e5, y5.1, i4, e6, y6.1, i5, e7, y7.1, i6, e8, y8.1, i7, e9, y9.1, i8, e10, y10.1, i9, e11, y11.1, i10, e12, y12.1, i11, e13, y13.1]
  try simp only [md_s, md_w, rget_some, r_a, r_b, r_c, r_i, r_l, r_nx, r_pc, Nat.reduceEqDiff, false_and, if_false, md_s, hn, hy1, hs1, fA, fY, hc, ht, hp, i0, e2, y2.1, i1, e3, y3.1, i2, e4, y4.1, i3, e5, y5.1, i4, e6, y6.1, i5, e7, y7.1, i6, e8, y8.1, i7, e9, y9.1, i8, e10, y10.1, i9, e11, y11.1, i10, e12, y12.1, i11, e13, y13.1]
  refine X_cV (args := [.int 2]) rfl (by decide) hy1.1 rfl rfl (Nat.le_of_ble_eq_true rfl) (c_with (x := 2) hY1 hW (hR.out hO6 (by omega))) ?_
  rintro _ _ ⟨rfl, rfl⟩
  refine X_run rfl ?_ ?_
  · simp [md_s, md_w, rget, r_a, r_b, r_c, r_i, r_l, md_s, hn, hy1, hs1, fA, fY, hc, ht, hp, i0, e2, y2.1, i1, e3, y3.1, i2, e4, y4.1, i3, e5, y5.1, i4, e6, y6.1, i5, e7, y7.1, i6, e8, y8.1, i7, e9, y9.1, i8, e10, y10.1, i9, e11, y11.1, i10, e12, y12.1, i11, e13, y13.1]
  try simp only [md_s, md_w, rget_some, r_a, r_b, r_c, r_i, r_l, r_nx, r_pc, Nat.reduceEqDiff, false_and, if_false, md_s, hn, hy1, hs1, fA, fY, hc, ht, hp, i0, e2, y2.1, i1, e3, y3.1, i2, e4, y4.1, i3, e5, y5.1, i4, e6, y6.1, i5, e7, y7.1, i6, e8, y8.1, i7, e9, y9.1, i8, e10, y10.1, i9, e11, y11.1, i10, e12, y12.1, i11, e13, y13.1]
  refine X_cV (args := [.int 3]) rfl (by decide) hy1.1 rfl rfl (Nat.le_of_ble_eq_true rfl) (c_with (x := 3) hY1 hW (hR.out hO7 (by omega))) ?_
  rintro _ _ ⟨rfl, rfl⟩
  refine X_run rfl ?_ ?_
  · simp [md_s, md_w, rget, r_a, r_b, r_c, r_i, r_l, md_s, hn, hy1, hs1, fA, fY, hc, ht, hp, i0, e2, y2.1, i1, e3, y3.1, i2, e4, y4.1, i3, e5, y5.1, i4, e6, y6.1, i5, e7, y7.1, i6, e8, y8.1, i7, e9, y9.1, i8, e10, y10.1, i9, e11, y11.1, i10, e12, y12.1, i11, e13, y13.1, x1, rd]
  try simp only [md_s, md_w, rget_some, r_a, r_b, r_c, r_i, r_l, r_nx, r_pc, Nat.reduceEqDiff, false_and, if_false, md_s, hn, hy1, hs1, fA, fY, hc, ht, hp, i0, e2, y2.1, i1, e3, y3.1, i2, e4, y4.1, i3, e5, y5.1, i4, e6, y6.1, i5, e7, y7.1, i6, e8, y8.1, i7, e9, y9.1, i8, e10, y10.1, i9, e11, y11.1, i10, e12, y12.1, i11, e13, y13.1, x1, rd]
  exact X_iret rfl rfl ⟨S1, D13, rfl, rfl, hG, hO13⟩
theorem c_RpaymentTold {n w : Nat} (hY : MoL S Y A A2) (hz : Y + 48 ≤ s_sz S) (hW : WfK K) (hR : RepR D A K) (hn : n < k_ny K) (hw : w ≤ 8) : EvM g d mX11_paymentTold 1 9 [.ref Y, .int (nI n), .int (nI w)] (md S D) (fun v M1 => ∃ S1 D1, v = some (.int (toldY K n w)) ∧ M1 = md S1 D1 ∧ Gro S S1 1 ∧ Out (s_sz S) (s_sz S + 1) D D1) := by
  obtain ⟨l1, l2, l3⟩ := hY.lo
  obtain ⟨w1, w2, w3, -⟩ := id hW
  have x2 := vx (show n < 60 by omega) (by decide)
  refine EvM.mk (by decide) (Nat.le_of_ble_eq_true rfl) ?_
  refine X_run rfl trivial ?_
  refine X_newarray (N := 9) rfl (by decide) rfl (by decide) ?_
  obtain ⟨S1, D1, e1, hG, hnw, hO1, hz1, -⟩ := new_md S D 20 9
  rw [show w_new (md S D) (0 + 20) 9 = md S1 D1 from e1]
  have hY1 := hY.gro hG hz
  obtain ⟨hy1, -, ⟨hL1, -⟩, -⟩ := id hY1
  obtain ⟨hs1, ha1, hb1⟩ := hL1.all
  have a1 : AryR D1 (s_sz S) [] := fun j hj => absurd hj (Nat.not_lt_zero _)
  have v1 := (hR.out hO1 (by omega)).2.2.2 n hn
  unfold RrY at v1
  have i0 := li (n := 9) (0 : Int32) rfl (show 0 < 9 by decide) (by decide)
  obtain ⟨D2, e2, z2, y2⟩ := wr_ai D1 (s_sz S) 0 (nI (k_fr K n))
  have a2 := a1.put rfl e2
  have hO2 : Out (s_sz S) (s_sz S + 1) D D2 := hO1.tr (e2 ▸ Out.ai (by omega))
  have v2 := (hR.out hO2 (by omega)).2.2.2 n hn
  unfold RrY at v2
  have i1 := li (n := 9) (1 : Int32) rfl (show 1 < 9 by decide) (by decide)
  obtain ⟨D3, e3, z3, y3⟩ := wr_ai D2 (s_sz S) 1 (nI (k_to K n))
  have a3 := a2.put rfl e3
  have hO3 : Out (s_sz S) (s_sz S + 1) D D3 := hO2.tr (e3 ▸ Out.ai (by omega))
  have v3 := (hR.out hO3 (by omega)).2.2.2 n hn
  unfold RrY at v3
  have i2 := li (n := 9) (2 : Int32) rfl (show 2 < 9 by decide) (by decide)
  obtain ⟨D4, e4, z4, y4⟩ := wr_ai D3 (s_sz S) 2 (k_am K n)
  have a4 := a3.put rfl e4
  have hO4 : Out (s_sz S) (s_sz S + 1) D D4 := hO3.tr (e4 ▸ Out.ai (by omega))
  have v4 := (hR.out hO4 (by omega)).2.2.2 n hn
  unfold RrY at v4
  have i3 := li (n := 9) (3 : Int32) rfl (show 3 < 9 by decide) (by decide)
  obtain ⟨D5, e5, z5, y5⟩ := wr_ai D4 (s_sz S) 3 (nI (k_mo K n))
  have a5 := a4.put rfl e5
  have hO5 : Out (s_sz S) (s_sz S + 1) D D5 := hO4.tr (e5 ▸ Out.ai (by omega))
  have v5 := (hR.out hO5 (by omega)).2.2.2 n hn
  unfold RrY at v5
  have i4 := li (n := 9) (4 : Int32) rfl (show 4 < 9 by decide) (by decide)
  obtain ⟨D6, e6, z6, y6⟩ := wr_ai D5 (s_sz S) 4 (k_du K n)
  have a6 := a5.put rfl e6
  have hO6 : Out (s_sz S) (s_sz S + 1) D D6 := hO5.tr (e6 ▸ Out.ai (by omega))
  have v6 := (hR.out hO6 (by omega)).2.2.2 n hn
  unfold RrY at v6
  have i5 := li (n := 9) (5 : Int32) rfl (show 5 < 9 by decide) (by decide)
  obtain ⟨D7, e7, z7, y7⟩ := wr_ai D6 (s_sz S) 5 (pE (k_pr K n))
  have a7 := a6.put rfl e7
  have hO7 : Out (s_sz S) (s_sz S + 1) D D7 := hO6.tr (e7 ▸ Out.ai (by omega))
  have v7 := (hR.out hO7 (by omega)).2.2.2 n hn
  unfold RrY at v7
  have i6 := li (n := 9) (6 : Int32) rfl (show 6 < 9 by decide) (by decide)
  obtain ⟨D8, e8, z8, y8⟩ := wr_ai D7 (s_sz S) 6 (k_st K n)
  have a8 := a7.put rfl e8
  have hO8 : Out (s_sz S) (s_sz S + 1) D D8 := hO7.tr (e8 ▸ Out.ai (by omega))
  have v8 := (hR.out hO8 (by omega)).2.2.2 n hn
  unfold RrY at v8
  have i7 := li (n := 9) (7 : Int32) rfl (show 7 < 9 by decide) (by decide)
  obtain ⟨D9, e9, z9, y9⟩ := wr_ai D8 (s_sz S) 7 (b2i (k_he K n))
  have a9 := a8.put rfl e9
  have hO9 : Out (s_sz S) (s_sz S + 1) D D9 := hO8.tr (e9 ▸ Out.ai (by omega))
  have v9 := (hR.out hO9 (by omega)).2.2.2 n hn
  unfold RrY at v9
  have i8 := li (n := 9) (8 : Int32) rfl (show 8 < 9 by decide) (by decide)
  obtain ⟨D10, e10, z10, y10⟩ := wr_ai D9 (s_sz S) 8 (k_se K n)
  have a10 := a9.put rfl e10
  have hO10 : Out (s_sz S) (s_sz S + 1) D D10 := hO9.tr (e10 ▸ Out.ai (by omega))
  have v10 := (hR.out hO10 (by omega)).2.2.2 n hn
  unfold RrY at v10
  have x1 := vx (show w < 9 by omega) (by decide)
  have rd : d_ai D10 (s_sz S) w = toldY K n w := by
    have := a10 w (by show w < 9; omega)
    rw [this]
    rcases (show w = 0 ∨ w = 1 ∨ w = 2 ∨ w = 3 ∨ w = 4 ∨ w = 5 ∨ w = 6 ∨ w = 7 ∨ w = 8 by omega) with rfl | rfl | rfl | rfl | rfl | rfl | rfl | rfl | rfl <;> rfl
  refine X_run rfl ?_ ?_
  · simp [md_s, md_w, rget, r_a, r_b, r_c, r_i, r_l, md_s, hnw, hy1, hs1, hb1, x2, x1, rd, v1, i0, e2, v2, i1, e3, v3, i2, e4, v4, i3, e5, v5, i4, e6, v6, i5, e7, v7, i6, e8, v8, i7, e9, v9, i8, e10, v10]
  try simp only [md_s, md_w, rget_some, r_a, r_b, r_c, r_i, r_l, r_nx, r_pc, Nat.reduceEqDiff, false_and, if_false, md_s, hnw, hy1, hs1, hb1, x2, x1, rd, v1, i0, e2, v2, i1, e3, v3, i2, e4, v4, i3, e5, v5, i4, e6, v6, i5, e7, v7, i6, e8, v8, i7, e9, v9, i8, e10, v10]
  exact X_iret rfl rfl ⟨S1, D10, rfl, rfl, hG, hO10⟩
end TOLD
