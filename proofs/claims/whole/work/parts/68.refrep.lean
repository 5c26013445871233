/-! report and feed of the reference -/
theorem wOk.ch {w : List Nat} (h : wOk w) : ∀ b ∈ w, wCh b := h.2.2
/-- four bytes, shifted with the sign -/
theorem shl4 (x : Int32) : ∀ r, r < 4 → (x >>> ((24 - 8 * nI r) &&& 31)) &&& 255 = nI ((b4 x).getD r 0) := by
  have key : ∀ s : Nat, s ≤ 24 → ∀ y : Int32, y.toBitVec.smod 32 = BitVec.ofNat 32 s → (x >>> y) &&& 255 = nI (x.toBitVec.toNat / 2 ^ s % 256) := by
    intro s hs y hy
    rw [lo8_and]
    congr 1
    unfold lo8
    have e : (x >>> y).toBitVec = x.toBitVec.sshiftRight s := by
      show x.toBitVec.sshiftRight' (y.toBitVec.smod 32) = _
      rw [hy]
      unfold BitVec.sshiftRight'
      rw [BitVec.toNat_ofNat, Nat.mod_eq_of_lt (by omega)]
    rw [e]
    apply Nat.eq_of_testBit_eq
    intro i
    rw [show (256 : Nat) = 2 ^ 8 from rfl, Nat.testBit_mod_two_pow, Nat.testBit_mod_two_pow, Nat.testBit_div_two_pow, BitVec.testBit_toNat, BitVec.testBit_toNat, BitVec.getLsbD_sshiftRight]
    by_cases c : i < 8
    · have h1 : ¬ 32 ≤ i := by omega
      have h2 : s + i < 32 := by omega
      simp [c, h1, h2, Nat.add_comm]
    · simp [c]
  intro r hr
  rcases (show r = 0 ∨ r = 1 ∨ r = 2 ∨ r = 3 by omega) with rfl | rfl | rfl | rfl
  · exact key 24 (by decide) _ (by decide)
  · exact key 16 (by decide) _ (by decide)
  · exact key 8 (by decide) _ (by decide)
  · have := key 0 (by decide) ((24 - 8 * nI 3) &&& 31) (by decide)
    rw [this]
    show nI (_ / 2 ^ 0 % 256) = nI (x.toBitVec.toNat % 256)
    rw [Nat.pow_zero, Nat.div_one]
theorem b4_lt (x : Int32) : ∀ b ∈ b4 x, b < 256 := by
  intro b hb
  unfold b4 at hb
  simp only [List.mem_cons, List.not_mem_nil, or_false] at hb
  omega
def fed (a b c e f : Int32) : List Nat := b4 a ++ (b4 b ++ (b4 c ++ (b4 e ++ b4 f)))
theorem fed_at {a b c e f : Int32} : ∀ i, i < 20 → (fed a b c e f).getD i 0 = (b4 ([a, b, c, e, f].getD (i / 4) 0)).getD (i % 4) 0 := by
  intro i hi
  rcases (show i = 0 ∨ i = 1 ∨ i = 2 ∨ i = 3 ∨ i = 4 ∨ i = 5 ∨ i = 6 ∨ i = 7 ∨ i = 8 ∨ i = 9 ∨ i = 10 ∨ i = 11 ∨ i = 12 ∨ i = 13 ∨ i = 14 ∨ i = 15 ∨ i = 16 ∨ i = 17 ∨ i = 18 ∨ i = 19 by omega) with rfl | rfl | rfl | rfl | rfl | rfl | rfl | rfl | rfl | rfl | rfl | rfl | rfl | rfl | rfl | rfl | rfl | rfl | rfl | rfl <;> rfl
theorem fed_len {a b c e f : Int32} : (fed a b c e f).length = 20 := rfl
theorem fed_lt {a b c e f : Int32} : ∀ x ∈ fed a b c e f, x < 256 := by
  intro x hx
  unfold fed at hx
  simp only [List.mem_append] at hx
  rcases hx with h | h | h | h | h <;> exact b4_lt _ x h
section REFREP
variable {g : GG} {d c : Nat} {S : ShT} {D : DaT} {Y A A2 : Nat} {K : KT} {T P : List Nat} {e : Int32}
theorem c_putW {w : List Nat} (hY : MoL S Y A A2) (hw : wOk w) (hP : PapR D Y P) (hl : P.length + w.length ≤ 2160) : EvM g (d + 8) mX11_putWord 0 0 [.ref Y, .long (c37 w)] (md S D) (fun v M1 => ∃ D1, v = none ∧ M1 = md S D1 ∧ PapR D1 Y (P ++ w) ∧ PapO Y D D1) := by
  have := c_putWord (g := g) hY w (d + (8 - w.length)) hw.ch hw.2.1 hP hl
  rw [show d + (8 - w.length) + w.length = d + 8 by have := hw.2.1; omega] at this
  exact this
theorem c_Mreport {x : Int32} (hY : MoL S Y A A2) (hW : WfK K) (hWr : WrK K) (hM : RmR D Y A K T P e) : EvM g (d + 9) mX11_report 0 0 [.ref Y, .int x] (md S D) (RfP S D Y A 0 K T (if 0 ≤ x then repL K x else P) e [eA] (if 0 ≤ x then .ok (nI (repL K x).length) else .error eA)) := by
  obtain ⟨l1, l2, l3⟩ := hY.lo
  obtain ⟨hy, -, ⟨hL, hL2⟩, -⟩ := id hY
  obtain ⟨hs, ha, hb⟩ := hL.all
  obtain ⟨w1, w2, w3, w4⟩ := id hW
  obtain ⟨D1, e1, z1, y1⟩ := wr_fi D 352 Y 0
  have hM1 : RmR D1 Y A K T P e := e1 ▸ hM.thr (by omega) (by decide)
  have hR1 := hM1.1
  have hO1 : OutR S Y D D1 := e1 ▸ OutR.fi
  have t1 : d_fi D1 352 Y = 0 := by rw [z1, if_pos ⟨rfl, rfl⟩]
  refine EvM.mk (by decide) (Nat.le_of_ble_eq_true rfl) ?_
  refine X_run rfl ?_ ?_
  · simp [md_s, md_w, rget, r_a, r_b, r_c, r_i, r_l, hy, e1]
  try simp only [md_s, md_w, rget_some, r_a, r_b, r_c, r_i, r_l, r_nx, r_pc, Nat.reduceEqDiff, false_and, if_false, hy, e1]
  refine X_if_ge rfl (fun c1 => ?_) (fun c1 => ?_)
  · rw [if_pos c1, if_pos c1]
    obtain ⟨D2, e2, z2, y2⟩ := wr_fi D1 357 Y 0
    have hO2 : PapO Y D1 D2 := ⟨fun a h3 _ => ⟨fun k => by rw [z2, if_neg (fun z => h3 z.2)], fun k => by rw [y2.1], by rw [y2.2.1], by rw [y2.2.2]⟩, fun k hk => by rw [z2, if_neg (fun z => hk z.1)]⟩
    have hP2 : PapR D2 Y [] := ⟨by rw [z2, if_pos ⟨rfl, rfl⟩]; rfl, fun i hi => absurd hi (Nat.not_lt_zero _), Nat.zero_le _, fun b hb => by cases hb⟩
    have hM2 := hM1.pap hO2 hP2 (by omega)
    refine X_run rfl ?_ ?_
    · simp [md_s, md_w, rget, r_a, r_b, r_c, r_i, r_l, hy, e2]
    try simp only [md_s, md_w, rget_some, r_a, r_b, r_c, r_i, r_l, r_nx, r_pc, Nat.reduceEqDiff, false_and, if_false, hy, e2]
    refine Eg_up (α := DaT) (fun i D' => Eg g (d + 9) mX11_report 0 0 (Zr g _) 22 [(0, .ref Y), (1, .int x), (2, .int (nI i))] [] (md S D')) (fun i D' => RmR D' Y A K T (iter (repS K x) i []) e ∧ OutR S Y D D' ∧ d_fi D' 352 Y = 0) (k_ny K) (fun n D3 hn hI k => ?_) (fun D3 hI => ?_) D2 ⟨hM2, hO1.tr hO2.outR, by rw [hO2.2 352 (by decide)]; exact t1⟩
    · obtain ⟨hM3, hO3, t3⟩ := hI
      have hlen := repL_len (x := x) hWr hW n (by omega)
      have k : ∀ D', RmR D' Y A K T (repS K x n (iter (repS K x) n [])) e ∧ OutR S Y D D' ∧ d_fi D' 352 Y = 0 → Eg g (d + 9) mX11_report 0 0 (Zr g _) 22 [(0, .ref Y), (1, .int x), (2, .int (nI (n + 1)))] [] (md S D') := k
      generalize iter (repS K x) n [] = Q at hM3 hlen k
      obtain ⟨v5, v6, v7, -⟩ := w4 n hn
      have x1 := vx (show n < 60 by omega) (by decide)
      have x2 := vx (show k_fr K n < 10 by omega) (by decide)
      have x3 := vx (show k_to K n < 10 by omega) (by decide)
      have x4 := vx (show k_mo K n < 5 by omega) (by decide)
      have rd : ∀ D', RepR D' A K → (d_ai D' (A + 9) n = nI (k_fr K n) ∧ d_ai D' (A + 10) n = nI (k_to K n) ∧ d_ai D' (A + 11) n = k_am K n ∧ d_ai D' (A + 12) n = nI (k_mo K n) ∧ d_ai D' (A + 15) n = k_st K n) ∧ d_al D' (A + 1) (k_fr K n) = c37 (k_pn K (k_fr K n)) ∧ d_al D' (A + 1) (k_to K n) = c37 (k_pn K (k_to K n)) ∧ d_al D' (A + 4) (k_mo K n) = c37 (k_mn K (k_mo K n)) := fun D' h => by
        have hv := h.2.2.2 n hn
        unfold RrY at hv
        exact ⟨⟨hv.1, hv.2.1, hv.2.2.1, hv.2.2.2.1, hv.2.2.2.2.2.2.1⟩, (h.2.1 _ v5).1, (h.2.1 _ v6).1, (h.2.2.1 _ v7).1⟩
      have hc := hM3.1.1
      unfold RrC at hc
      have hdu := hM3.1.2.2.2 n hn
      unfold RrY at hdu
      refine X_run rfl ?_ ?_
      · simp [md_s, md_w, rget, r_a, r_b, r_c, r_i, r_l, hy, hs, hc]
      try simp only [md_s, md_w, rget_some, r_a, r_b, r_c, r_i, r_l, r_nx, r_pc, Nat.reduceEqDiff, false_and, if_false, hy, hs, hc]
      refine X_icmp_ge rfl (fun c2 => no_le c2 hn (by omega)) (fun c2 => ?_)
      refine X_run rfl ?_ ?_
      · simp [md_s, md_w, rget, r_a, r_b, r_c, r_i, r_l, hy, hs, hb, x1, hdu]
      try simp only [md_s, md_w, rget_some, r_a, r_b, r_c, r_i, r_l, r_nx, r_pc, Nat.reduceEqDiff, false_and, if_false, hy, hs, hb, x1, hdu]
      refine (fun (kf : ¬ k_du K n = x → _) (kt : k_du K n = x → _) => X_icmp_eq rfl kt kf) (fun c3 => ?_) (fun c3 => ?_)
      · refine X_run rfl ?_ ?_
        · simp [md_s, md_w, rget, r_a, r_b, r_c, r_i, r_l, nI_s1]
        try simp only [md_s, md_w, rget_some, r_a, r_b, r_c, r_i, r_l, r_nx, r_pc, Nat.reduceEqDiff, false_and, if_false, nI_s1]
        exact k D3 ⟨by unfold repS; rw [if_neg c3]; exact hM3, hO3, t3⟩
      have hw1 := hWr.1 _ v5
      have hw2 := hWr.1 _ v6
      have hw3 := hWr.2.1 _ v7
      obtain ⟨am, ha1, ha2, ham⟩ := hWr.2.2 n hn
      have hdl := decs_len am 6
      have q1 := rd D3 hM3.1
      rw [ham] at q1
      refine X_run rfl ?_ ?_
      · simp [md_s, md_w, rget, r_a, r_b, r_c, r_i, r_l, hy, hs, ha, hb, x1, x2, q1]
      try simp only [md_s, md_w, rget_some, r_a, r_b, r_c, r_i, r_l, r_nx, r_pc, Nat.reduceEqDiff, false_and, if_false, hy, hs, ha, hb, x1, x2, q1]
      refine X_cV (args := [.long (c37 (k_pn K (k_fr K n)))]) rfl (by decide) hy.1 rfl rfl (Nat.le_of_ble_eq_true rfl) (c_putW hY hw1 hM3.2.2.1 (by have := hw1.2.1; omega)) ?_
      rintro _ _ ⟨D4, rfl, rfl, hP4, hO4⟩
      have hM4 := hM3.pap hO4 hP4 (by omega)
      refine X_run rfl trivial ?_
      refine X_cV (args := [.int (nI 32)]) rfl (by decide) hy.1 rfl rfl (Nat.le_of_ble_eq_true rfl) (c_put (b := 32) hY hP4 (by simp; have := hw1.2.1; omega) (by decide)) ?_
      rintro _ _ ⟨D5, rfl, rfl, hP5, hO5⟩
      have hM5 := hM4.pap hO5 hP5 (by omega)
      have q5 := rd D5 hM5.1
      refine X_run rfl ?_ ?_
      · simp [md_s, md_w, rget, r_a, r_b, r_c, r_i, r_l, hy, hs, ha, hb, x1, x3, q5]
      try simp only [md_s, md_w, rget_some, r_a, r_b, r_c, r_i, r_l, r_nx, r_pc, Nat.reduceEqDiff, false_and, if_false, hy, hs, ha, hb, x1, x3, q5]
      refine X_cV (args := [.long (c37 (k_pn K (k_to K n)))]) rfl (by decide) hy.1 rfl rfl (Nat.le_of_ble_eq_true rfl) (c_putW hY hw2 hP5 (by simp; have := hw1.2.1; have := hw2.2.1; omega)) ?_
      rintro _ _ ⟨D6, rfl, rfl, hP6, hO6⟩
      have hM6 := hM5.pap hO6 hP6 (by omega)
      refine X_run rfl trivial ?_
      refine X_cV (args := [.int (nI 32)]) rfl (by decide) hy.1 rfl rfl (Nat.le_of_ble_eq_true rfl) (c_put (b := 32) hY hP6 (by simp; have := hw1.2.1; have := hw2.2.1; omega) (by decide)) ?_
      rintro _ _ ⟨D7, rfl, rfl, hP7, hO7⟩
      have hM7 := hM6.pap hO7 hP7 (by omega)
      have q7 := rd D7 hM7.1
      rw [ham] at q7
      refine X_run rfl ?_ ?_
      · simp [md_s, md_w, rget, r_a, r_b, r_c, r_i, r_l, hy, hs, ha, hb, x1, q7]
      try simp only [md_s, md_w, rget_some, r_a, r_b, r_c, r_i, r_l, r_nx, r_pc, Nat.reduceEqDiff, false_and, if_false, hy, hs, ha, hb, x1, q7]
      refine X_cV (args := [.int (nI am)]) rfl (by decide) hy.1 rfl rfl (Nat.le_of_ble_eq_true rfl) (c_putNumber (d := d + 7) hY hP7 (by simp; have := hw1.2.1; have := hw2.2.1; omega) ⟨ha1, ha2⟩) ?_
      rintro _ _ ⟨D8, rfl, rfl, hP8, hO8⟩
      have hM8 := hM7.pap hO8 hP8 (by omega)
      refine X_run rfl trivial ?_
      refine X_cV (args := [.int (nI 32)]) rfl (by decide) hy.1 rfl rfl (Nat.le_of_ble_eq_true rfl) (c_put (b := 32) hY hP8 (by simp; have := hw1.2.1; have := hw2.2.1; omega) (by decide)) ?_
      rintro _ _ ⟨D9, rfl, rfl, hP9, hO9⟩
      have hM9 := hM8.pap hO9 hP9 (by omega)
      have q9 := rd D9 hM9.1
      refine X_run rfl ?_ ?_
      · simp [md_s, md_w, rget, r_a, r_b, r_c, r_i, r_l, hy, hs, ha, hb, x1, x4, q9]
      try simp only [md_s, md_w, rget_some, r_a, r_b, r_c, r_i, r_l, r_nx, r_pc, Nat.reduceEqDiff, false_and, if_false, hy, hs, ha, hb, x1, x4, q9]
      refine X_cV (args := [.long (c37 (k_mn K (k_mo K n)))]) rfl (by decide) hy.1 rfl rfl (Nat.le_of_ble_eq_true rfl) (c_putW hY hw3 hP9 (by simp; have := hw1.2.1; have := hw2.2.1; have := hw3.2.1; omega)) ?_
      rintro _ _ ⟨D10, rfl, rfl, hP10, hO10⟩
      have hM10 := hM9.pap hO10 hP10 (by omega)
      refine X_run rfl trivial ?_
      refine X_cV (args := [.int (nI 32)]) rfl (by decide) hy.1 rfl rfl (Nat.le_of_ble_eq_true rfl) (c_put (b := 32) hY hP10 (by simp; have := hw1.2.1; have := hw2.2.1; have := hw3.2.1; omega) (by decide)) ?_
      rintro _ _ ⟨D11, rfl, rfl, hP11, hO11⟩
      have hM11 := hM10.pap hO11 hP11 (by omega)
      have q11 := rd D11 hM11.1
      have hO11' : PapO Y D3 D11 := ((((((hO4.tr hO5).tr hO6).tr hO7).tr hO8).tr hO9).tr hO10).tr hO11
      have hlet : lett (k_st K n) < 256 := by unfold lett; split <;> (try split) <;> (try split) <;> decide
      have fin : Eg g (d + 9) mX11_report 0 0 (Zr g (RfP S D Y A 0 K T (repL K x) e [eA] (.ok (nI (repL K x).length)))) 205 [(0, .ref Y), (1, .int x), (2, .int (nI n))] [.int (nI (lett (k_st K n))), .ref Y] (md S D11) := by
        refine X_cV (args := [.int (nI (lett (k_st K n)))]) rfl (by decide) hy.1 rfl rfl (Nat.le_of_ble_eq_true rfl) (c_put (b := lett (k_st K n)) hY hP11 (by simp; have := hw1.2.1; have := hw2.2.1; have := hw3.2.1; omega) hlet) ?_
        rintro _ _ ⟨D12, rfl, rfl, hP12, hO12⟩
        have hM12 := hM11.pap hO12 hP12 (by omega)
        refine X_run rfl trivial ?_
        refine X_cV (args := [.int (nI 10)]) rfl (by decide) hy.1 rfl rfl (Nat.le_of_ble_eq_true rfl) (c_put (b := 10) hY hP12 (by simp; have := hw1.2.1; have := hw2.2.1; have := hw3.2.1; omega) (by decide)) ?_
        rintro _ _ ⟨D13, rfl, rfl, hP13, hO13⟩
        have hM13 := hM12.pap hO13 hP13 (by omega)
        have hO13' : PapO Y D3 D13 := (hO11'.tr hO12).tr hO13
        refine X_run rfl ?_ ?_
        · simp [md_s, md_w, rget, r_a, r_b, r_c, r_i, r_l, nI_s1]
        try simp only [md_s, md_w, rget_some, r_a, r_b, r_c, r_i, r_l, r_nx, r_pc, Nat.reduceEqDiff, false_and, if_false, nI_s1]
        refine k D13 ⟨?_, hO3.tr hO13'.outR, by rw [hO13'.2 352 (by decide)]; exact t3⟩
        have eq : repS K x n Q = Q ++ k_pn K (k_fr K n) ++ [32] ++ k_pn K (k_to K n) ++ [32] ++ decs am 6 ++ [32] ++ k_mn K (k_mo K n) ++ [32] ++ [lett (k_st K n)] ++ [10] := by
          unfold repS lineY
          rw [if_pos c3, ham, iN_nI (by omega)]
          simp only [List.append_assoc]
        rw [eq]
        exact hM13
      generalize hst : k_st K n = st at q11 fin
      refine X_run rfl ?_ ?_
      · simp [md_s, md_w, rget, r_a, r_b, r_c, r_i, r_l, hy, hs, hb, x1, q11]
      try simp only [md_s, md_w, rget_some, r_a, r_b, r_c, r_i, r_l, r_nx, r_pc, Nat.reduceEqDiff, false_and, if_false, hy, hs, hb, x1, q11]
      refine X_if_ne rfl (fun c4 => ?_) (fun c4 => ?_)
      · refine X_run rfl ?_ ?_
        · simp [md_s, md_w, rget, r_a, r_b, r_c, r_i, r_l, hy, hs, hb, x1, q11]
        try simp only [md_s, md_w, rget_some, r_a, r_b, r_c, r_i, r_l, r_nx, r_pc, Nat.reduceEqDiff, false_and, if_false, hy, hs, hb, x1, q11]
        refine X_icmp_ne rfl (fun c5 => ?_) (fun c5 => ?_)
        · refine X_run rfl ?_ ?_
          · simp [md_s, md_w, rget, r_a, r_b, r_c, r_i, r_l, hy, hs, hb, x1, q11]
          try simp only [md_s, md_w, rget_some, r_a, r_b, r_c, r_i, r_l, r_nx, r_pc, Nat.reduceEqDiff, false_and, if_false, hy, hs, hb, x1, q11]
          refine X_icmp_ne rfl (fun c6 => ?_) (fun c6 => ?_)
          · refine X_run rfl trivial ?_
            rw [show lett st = 99 by unfold lett; rw [if_neg c4, if_neg c5, if_neg c6]] at fin
            exact fin
          · refine X_run rfl trivial ?_
            rw [show lett st = 102 by rw [c6]; rfl] at fin
            exact fin
        · refine X_run rfl trivial ?_
          rw [show lett st = 115 by rw [c5]; rfl] at fin
          exact fin
      · refine X_run rfl trivial ?_
        rw [show lett st = 119 by rw [c4]; rfl] at fin
        exact fin
    · obtain ⟨hM3, hO3, t3⟩ := hI
      have hc := hM3.1.1
      unfold RrC at hc
      have hp := hM3.2.2.1.1
      rw [show iter (repS K x) (k_ny K) [] = repL K x from rfl] at hM3 hp
      refine X_run rfl ?_ ?_
      · simp [md_s, md_w, rget, r_a, r_b, r_c, r_i, r_l, hy, hs, hc]
      try simp only [md_s, md_w, rget_some, r_a, r_b, r_c, r_i, r_l, r_nx, r_pc, Nat.reduceEqDiff, false_and, if_false, hy, hs, hc]
      refine X_icmp_ge rfl (fun c2 => ?_) (fun c2 => no_nle c2 (Nat.le_refl _) (by omega))
      refine X_run rfl ?_ ?_
      · simp [md_s, md_w, rget, r_a, r_b, r_c, r_i, r_l, hy, hp]
      try simp only [md_s, md_w, rget_some, r_a, r_b, r_c, r_i, r_l, r_nx, r_pc, Nat.reduceEqDiff, false_and, if_false, hy, hp]
      exact X_iret rfl rfl (RfP.ok hM3 hO3 t3 rfl)
  · rw [if_neg c1, if_neg c1]
    refine X_run rfl trivial ?_
    refine X_cV (args := [.int 1]) rfl (by decide) hy.1 rfl rfl (Nat.le_of_ble_eq_true rfl) (c_no hY) ?_
    rintro _ _ ⟨rfl, rfl⟩
    refine X_run rfl trivial ?_
    exact X_iret rfl rfl (RfP.no hM1 hO1 (by omega) rfl (rfl))
theorem c_Mfeed {a b c0 f h : Int32} (hY : MoL S Y A A2) (hz : Y + 48 ≤ s_sz S) (hW : WfK K) (hM : RmR D Y A K T P e) : EvM g (d + 2) mX11_feed 1 5 [.ref Y, .int a, .int b, .int c0, .int f, .int h] (md S D) (RfP S D Y A 1 K (if T.length + 20 ≤ 2000 then T ++ fed a b c0 f h else T) P e [eS] (if T.length + 20 ≤ 2000 then .ok (nI (T.length + 20)) else .error eS)) := by
  obtain ⟨l1, l2, l3⟩ := hY.lo
  obtain ⟨hy, hzz, ⟨hL, hL2⟩, -⟩ := id hY
  obtain ⟨D1, e1, z1, y1⟩ := wr_fi D 352 Y 0
  have hM1 : RmR D1 Y A K T P e := e1 ▸ hM.thr (by omega) (by decide)
  have hO1 : OutR S Y D D1 := e1 ▸ OutR.fi
  have t1 : d_fi D1 352 Y = 0 := by rw [z1, if_pos ⟨rfl, rfl⟩]
  obtain ⟨q1, q2, q3, q4⟩ := hM1.2.1
  refine EvM.mk (by decide) (Nat.le_of_ble_eq_true rfl) ?_
  refine X_run rfl ?_ ?_
  · simp [md_s, md_w, rget, r_a, r_b, r_c, r_i, r_l, hy, e1, q1, show (20 : Int32) = nI 20 from rfl, nI_add]
  try simp only [md_s, md_w, rget_some, r_a, r_b, r_c, r_i, r_l, r_nx, r_pc, Nat.reduceEqDiff, false_and, if_false, hy, e1, q1, show (20 : Int32) = nI 20 from rfl, nI_add]
  refine X_icmp_le rfl (fun c1 => ?_) (fun c1 => ?_)
  · have c1 : T.length + 20 ≤ 2000 := (nI_leI (b := 2000) (by omega) (by decide)).mp c1
    rw [if_pos c1, if_pos c1]
    refine X_run rfl trivial ?_
    refine X_newarray (N := 5) rfl (by decide) rfl (by decide) ?_
    obtain ⟨S1, D2, e2, hG, hnw, hO2, hz1, -⟩ := new_md S D1 20 5
    rw [show w_new (md S D1) (0 + 20) 5 = md S1 D2 from e2]
    have hY1 := hY.gro hG hz
    obtain ⟨hy1, hzz1, -⟩ := id hY1
    have a2 : AryR D2 (s_sz S) [] := fun j hj => absurd hj (Nat.not_lt_zero _)
    have i0 := li (n := 5) (0 : Int32) rfl (show 0 < 5 by decide) (by decide)
    have i1 := li (n := 5) (1 : Int32) rfl (show 1 < 5 by decide) (by decide)
    have i2 := li (n := 5) (2 : Int32) rfl (show 2 < 5 by decide) (by decide)
    have i3 := li (n := 5) (3 : Int32) rfl (show 3 < 5 by decide) (by decide)
    have i4 := li (n := 5) (4 : Int32) rfl (show 4 < 5 by decide) (by decide)
    obtain ⟨D3, e3, -⟩ := wr_ai D2 (s_sz S) 0 a
    obtain ⟨D4, e4, -⟩ := wr_ai D3 (s_sz S) 1 b
    obtain ⟨D5, e5, -⟩ := wr_ai D4 (s_sz S) 2 c0
    obtain ⟨D6, e6, -⟩ := wr_ai D5 (s_sz S) 3 f
    obtain ⟨D7, e7, -⟩ := wr_ai D6 (s_sz S) 4 h
    have a7 := ((((a2.put rfl e3).put rfl e4).put rfl e5).put rfl e6).put rfl e7
    have hO7 : Out (s_sz S) (s_sz S + 1) D1 D7 := ((((hO2.tr (e3 ▸ Out.ai (by omega))).tr (e4 ▸ Out.ai (by omega))).tr (e5 ▸ Out.ai (by omega))).tr (e6 ▸ Out.ai (by omega))).tr (e7 ▸ Out.ai (by omega))
    have hM7 : RmR D7 Y A K T P e := hM1.out hO7 (Or.inr (by omega)) (Or.inl (by omega))
    have t7 : d_fi D7 352 Y = 0 := by rw [(hO7 Y (by omega)).1]; exact t1
    have hOR7 : OutR S Y D D7 := hO1.tr (OutR.o hO7 (Or.inr (Nat.le_refl _)))
    obtain ⟨b1, b2, b3, b4'⟩ := hM7.2.1
    refine X_run rfl ?_ ?_
    · simp [md_s, md_w, rget, r_a, r_b, r_c, r_i, r_l, md_s, hnw, i0, i1, i2, i3, i4, e3, e4, e5, e6, e7]
    try simp only [md_s, md_w, rget_some, r_a, r_b, r_c, r_i, r_l, r_nx, r_pc, Nat.reduceEqDiff, false_and, if_false, md_s, hnw, i0, i1, i2, i3, i4, e3, e4, e5, e6, e7]
    refine Eg_up (α := DaT) (fun i D' => Eg g (d + 2) mX11_feed 0 0 (Zr g _) 54 [(0, .ref Y), (1, .int a), (2, .int b), (3, .int c0), (4, .int f), (5, .int h), (6, .ref (s_sz S)), (7, .int (nI i))] [] (md S1 D')) (fun i D' => Out (Y + 1) (Y + 2) D7 D' ∧ ∀ j, j < T.length + i → d_ai D' (Y + 1) j = nI ((T ++ fed a b c0 f h).getD j 0)) 20 (fun i D8 hi hI k => ?_) (fun D8 hI => ?_) D7 ⟨Out.rf, fun j hj => by rw [gD_l (by omega)]; exact b2 j (by omega)⟩
    · obtain ⟨hO8, hv8⟩ := hI
      have f8 : d_fi D8 354 Y = nI T.length := by rw [(hO8 Y (by omega)).1]; exact b1
      have hq : i / 4 < 5 := by omega
      have hr : i % 4 < 4 := by omega
      have a8 : d_ai D8 (s_sz S) (i / 4) = [a, b, c0, f, h].getD (i / 4) 0 := by
        rw [(hO8 (s_sz S) (by omega)).2.2.1]
        exact a7 (i / 4) hq
      have x1 := vx (show i / 4 < 5 by omega) (by decide)
      have x2 := vx (show T.length + i < 2000 by omega) (by decide)
      have n4 : ¬ nI 4 = 0 := by decide
      have d4 : nI i / nI 4 = nI (i / 4) := pk_div (by omega) (by decide) (by decide)
      have r4 : nI i - nI (i / 4) * nI 4 = nI (i % 4) := by rw [← d4]; exact pk_rem (by omega) (by decide) (by decide)
      have sh := shl4 ([a, b, c0, f, h].getD (i / 4) 0) (i % 4) hr
      rw [← fed_at i hi] at sh
      obtain ⟨D9, e9, z9, y9⟩ := wr_ai D8 (Y + 1) (T.length + i) (nI ((fed a b c0 f h).getD i 0))
      refine X_run rfl trivial ?_
      refine X_icmp_ge rfl (fun c2 => no_le (a := 20) c2 hi (by omega)) (fun c2 => ?_)
      refine X_run rfl ?_ ?_
      · simp [md_s, md_w, rget, r_a, r_b, r_c, r_i, r_l, md_s, hnw, hy1, hzz1, f8, nI_add, x1, x2, show (4 : Int32) = nI 4 from rfl, n4, d4, r4, a8, sh, e9, nI_s1]
      try simp only [md_s, md_w, rget_some, r_a, r_b, r_c, r_i, r_l, r_nx, r_pc, Nat.reduceEqDiff, false_and, if_false, md_s, hnw, hy1, hzz1, f8, nI_add, x1, x2, show (4 : Int32) = nI 4 from rfl, n4, d4, r4, a8, sh, e9, nI_s1]
      refine k D9 ⟨hO8.tr (e9 ▸ Out.ai (by omega)), fun j hj => ?_⟩
      rw [z9]
      by_cases cc : j = T.length + i
      · subst cc
        rw [if_pos ⟨rfl, rfl⟩, gD_r (by omega), Nat.add_sub_cancel_left]
      · rw [if_neg (fun z => cc z.2)]
        exact hv8 j (by omega)
    · obtain ⟨hO8, hv8⟩ := hI
      have f8 : d_fi D8 354 Y = nI T.length := by rw [(hO8 Y (by omega)).1]; exact b1
      obtain ⟨D9, e9, z9, y9⟩ := wr_fi D8 354 Y (nI (T.length + 20))
      have f9 : d_fi D9 354 Y = nI (T.length + 20) := by rw [z9, if_pos ⟨rfl, rfl⟩]
      have hl : (T ++ fed a b c0 f h).length = T.length + 20 := by rw [List.length_append, fed_len]
      have hM9 : RmR D9 Y A K (T ++ fed a b c0 f h) P e := by
        obtain ⟨r1, r2, r3, r4, r5⟩ := hM7
        refine ⟨(r1.out hO8 (by omega)).out (e9 ▸ Out.fi (lo := Y) (hi := Y + 1) (by omega)) (by omega), ⟨by rw [hl]; exact f9, fun i hi => ?_, by omega, fun x hx => ?_⟩, ⟨?_, ?_, r3.2.2⟩, ?_, ?_⟩
        · rw [y9.2.1]; exact hv8 i (by omega)
        · rcases List.mem_append.mp hx with z | z
          · exact q4 x z
          · exact fed_lt x z
        · rw [z9, if_neg (by omega), (hO8 Y (by omega)).1]; exact r3.1
        · rw [y9.2.1, (hO8 (Y + 2) (by omega)).2.2.1]; exact r3.2.1
        · unfold KwR
          rw [y9.2.2, (hO8 (Y + 3) (by omega)).2.2.2]; exact r4
        · rw [z9, if_neg (by omega), (hO8 Y (by omega)).1]; exact r5
      refine X_run rfl trivial ?_
      refine X_icmp_ge rfl (fun c2 => ?_) (fun c2 => absurd (show (20 : Int32) ≤ nI 20 by decide) c2)
      refine X_run rfl ?_ ?_
      · simp [md_s, md_w, rget, r_a, r_b, r_c, r_i, r_l, md_s, hy1, f8, show (20 : Int32) = nI 20 from rfl, nI_add, e9, f9]
      try simp only [md_s, md_w, rget_some, r_a, r_b, r_c, r_i, r_l, r_nx, r_pc, Nat.reduceEqDiff, false_and, if_false, md_s, hy1, f8, show (20 : Int32) = nI 20 from rfl, nI_add, e9, f9]
      refine X_iret rfl rfl ⟨S1, D9, 1, Nat.le_refl _, rfl, hG, (hOR7.tr (OutR.o hO8 (by omega))).tr (e9 ▸ OutR.fi), hM9, ?_⟩
      exact ⟨by rw [z9, if_neg (by omega), (hO8 Y (by omega)).1]; exact t7, rfl⟩
  · have c1 : ¬ T.length + 20 ≤ 2000 := fun z => c1 ((nI_leI (b := 2000) (by omega) (by decide)).mpr z)
    rw [if_neg c1, if_neg c1]
    have hs := hL
    refine X_run rfl trivial ?_
    refine X_cV (args := [.int 1]) rfl (by decide) hy.1 rfl rfl (Nat.le_of_ble_eq_true rfl) (c_no hY) ?_
    rintro _ _ ⟨rfl, rfl⟩
    refine X_run rfl trivial ?_
    exact X_iret rfl rfl (RfP.no hM1 hO1 (by omega) rfl (rfl))
end REFREP
