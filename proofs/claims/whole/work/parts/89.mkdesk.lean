/-! making the desk -/
theorem X_runN (n : Nat) {g : GG} {d m bc bs pc pc' : Nat} {Z : ZT} {ls ls' : LsT} {st st' : List Value} {M M' : Mem} {o : Prop} (h : xr n (gKa g) m pc (dropTo (tb_rows m) pc) false ls st M True = (pc', ls', st', M', o)) (ho : o) (k : Eg g d m bc bs Z pc' ls' st' M') : Eg g d m bc bs Z pc ls st M := by
  by_cases hm : m < tb_n
  · exact (xr_ok hm _ _ _ _ _ _ _ _ dropTo_sub _ _ _ _ _ h ho).2 k
  · exact Eg.vac hm
theorem eg_mem {g : GG} {d m bc bs pc : Nat} {Z : ZT} {ls : LsT} {st : List Value} {M M' : Mem} (k : Eg g d m bc bs Z pc ls st M') (e : M = M') : Eg g d m bc bs Z pc ls st M := e ▸ k
section MKDESK
variable {g : GG} {d : Nat} {S : ShT} {D : DaT} {o : Nat}
set_option maxRecDepth 20000 in
theorem c_mk9 (ht : s_tg S o = 10) (hz : s_sz S = o + 1) : EvM g (d + 6) mX9_init 291 7420 [.ref o] (md S D) (fun v M1 => ∃ S1 D1, v = none ∧ M1 = md S1 (pfi D1 297 o (-1)) ∧ Acc S S1 D D1 o 291 ∧ DkL S1 o ∧ TlL S1 (o + 1) ∧ TxL S1 (o + 2)) := by
  refine EvM.mk (by decide) (Nat.le_of_ble_eq_true rfl) ?_
  refine X_run rfl trivial ?_
  refine X_obj (a := 0) rfl (Nat.le_of_ble_eq_true rfl) ?_
  obtain ⟨S0, eS0⟩ : ∃ S0, S0 = S := ⟨_, rfl⟩
  obtain ⟨D0, eD0⟩ : ∃ D0, D0 = D := ⟨_, rfl⟩
  have A0 : Acc S S0 D D0 o 0 := by rw [eS0, eD0]; exact Acc.rf
  have t0 : s_tg S0 o = 10 := by rw [eS0]; exact ht
  have z0 : s_sz S0 = o + 1 := by rw [eS0]; exact hz
  rw [show md S D = md S0 D0 from by rw [eS0, eD0]]
  clear eS0 eD0
  refine X_run rfl ?_ ?_
  · simp [md_s, md_w, rget, r_a, r_b, r_c, r_i, r_l, t0]
  try simp only [md_s, md_w, rget_some, r_a, r_b, r_c, r_i, r_l, r_nx, r_pc, Nat.reduceEqDiff, false_and, if_false, t0]
  refine X_new (n := 0) (N := 4) rfl (by decide) (fun q hq => by cases hq; rfl) ?_
  obtain ⟨Sa, Da, ea, hGa, hsa, hna, -, hAa⟩ := newA S0 D0 8 0
  rw [show w_new (md S0 D0) (7 + 1) 0 = md Sa Da from ea]
  refine X_run rfl trivial ?_
  refine X_callI (bc1 := 6) (bs1 := 3215) (args := []) rfl (by decide) rfl rfl (Nat.le_of_ble_eq_true rfl) (c_mk7 hna.1 (by show s_sz Sa = s_sz S0 + 1; omega)) ?_
  rintro _ _ ⟨Sb, Db, rfl, rfl, hAb, hRb⟩
  have tb : s_tg Sb o = 10 := (hAb.tg (by omega)).trans ((hAa.tg (by omega)).trans t0)
  refine X_runN 1 rfl ?_ ?_
  · simp [md_s, md_w, rget, r_a, r_b, r_c, r_i, r_l, tb, w_fr_md]
  try simp only [md_s, md_w, rget_some, r_a, r_b, r_c, r_i, r_l, r_nx, r_pc, Nat.reduceEqDiff, false_and, if_false, tb, w_fr_md]
  have hRb : TlL Sb (s_sz S0) ∧ TxL Sb ((s_sz S0) + 1) := hRb
  have ez : s_sz S0 = o + 1 := by omega
  rw [ez] at hRb
  refine eg_mem (M' := md (pfr Sb 288 o (some (o + 1))) Db) ?_ (by rw [← ez])
  obtain ⟨y1, y2, y3, y4, y5⟩ := subStep (k := 288) (v := some (o + 1)) (o := o) (by omega) hAa hAb rfl
  have zb := hAb.1
  have A1 := A0.call' y2 (Or.inl rfl)
  have z1 := y1
  rw [z0] at z1
  have t1 := y5.trans t0
  have f288_1 := y4
  have Tl_1 : TlL (pfr Sb 288 o (some (o + 1))) (o + 1) := hRb.1.sam (sam_pfr (by omega))
  have Tx_1 : TxL (pfr Sb 288 o (some (o + 1))) (o + 2) := (show TxL Sb (o + 2) from hRb.2).sam (sam_pfr (by omega))
  clear y1 y2 y3 y4 y5
  clear zb ez hGa hsa hna hAa hAb hRb ea tb
  generalize pfr Sb 288 o (some (o + 1)) = S1 at *
  generalize Db = D1 at *
  refine X_runN 5 rfl ?_ ?_
  · simp [md_s, md_w, rget, r_a, r_b, r_c, r_i, r_l, t1, w_fr_md, f288_1, Tl_1.1, Tl_1.2]
  try simp only [md_s, md_w, rget_some, r_a, r_b, r_c, r_i, r_l, r_nx, r_pc, Nat.reduceEqDiff, false_and, if_false, t1, w_fr_md, f288_1, Tl_1.1, Tl_1.2]
  refine eg_mem (M' := md (pfr S1 289 o (some (o + 2))) D1) ?_ rfl
  obtain ⟨y1, y2, y3, y4, y5⟩ := putStep (Si := S1) (Di := D1) (k := 289) (v := some (o + 2)) (o := o)
  have A2 := A1.call' y2 (Or.inl rfl)
  have z2 := y1
  rw [z1] at z2
  have t2 := y5.trans t1
  have f288_2 := (y3 288 (by decide)).trans f288_1
  have f289_2 := y4
  have Tl_2 := Tl_1.sam (y2.sam (by omega) (by omega))
  have Tx_2 := Tx_1.sam (y2.sam (by omega) (by omega))
  clear y1 y2 y3 y4 y5
  generalize pfr S1 289 o (some (o + 2)) = S2 at *
  generalize D1 = D2 at *
  refine X_runN 5 rfl ?_ ?_
  · simp [md_s, md_w, rget, r_a, r_b, r_c, r_i, r_l, t2, w_fr_md, f289_2, Tx_2.1.1, Tx_2.1.2.1]
  try simp only [md_s, md_w, rget_some, r_a, r_b, r_c, r_i, r_l, r_nx, r_pc, Nat.reduceEqDiff, false_and, if_false, t2, w_fr_md, f289_2, Tx_2.1.1, Tx_2.1.2.1]
  refine eg_mem (M' := md (pfr S2 290 o (some (o + 3))) D2) ?_ rfl
  obtain ⟨y1, y2, y3, y4, y5⟩ := putStep (Si := S2) (Di := D2) (k := 290) (v := some (o + 3)) (o := o)
  have A3 := A2.call' y2 (Or.inl rfl)
  have z3 := y1
  rw [z2] at z3
  have t3 := y5.trans t2
  have f288_3 := (y3 288 (by decide)).trans f288_2
  have f289_3 := (y3 289 (by decide)).trans f289_2
  have f290_3 := y4
  have Tl_3 := Tl_2.sam (y2.sam (by omega) (by omega))
  have Tx_3 := Tx_2.sam (y2.sam (by omega) (by omega))
  clear y1 y2 y3 y4 y5
  generalize pfr S2 290 o (some (o + 3)) = S3 at *
  generalize D2 = D3 at *
  refine X_run rfl ?_ ?_
  · simp [md_s, md_w, rget, r_a, r_b, r_c, r_i, r_l, t3]
  try simp only [md_s, md_w, rget_some, r_a, r_b, r_c, r_i, r_l, r_nx, r_pc, Nat.reduceEqDiff, false_and, if_false, t3]
  refine X_new (n := 0) (N := 2) rfl (by decide) (fun q hq => by cases hq; rfl) ?_
  obtain ⟨Sa, Da, ea, hGa, hsa, hna, -, hAa⟩ := newA S3 D3 2 0
  rw [show w_new (md S3 D3) (1 + 1) 0 = md Sa Da from ea]
  refine X_run rfl trivial ?_
  refine X_callI (bc1 := 1) (bs1 := 2160) (args := [.int (nI 2160)]) rfl (by decide) rfl rfl (Nat.le_of_ble_eq_true rfl) (c_mkBr (n := 2160) hna.1 (by show s_sz S3 < s_sz Sa; omega) (by decide)) ?_
  rintro _ _ ⟨Sb, Db, rfl, rfl, hAb, hRb⟩
  have tb : s_tg Sb o = 10 := (hAb.tg (by omega)).trans ((hAa.tg (by omega)).trans t3)
  refine X_runN 1 rfl ?_ ?_
  · simp [md_s, md_w, rget, r_a, r_b, r_c, r_i, r_l, tb, w_fr_md]
  try simp only [md_s, md_w, rget_some, r_a, r_b, r_c, r_i, r_l, r_nx, r_pc, Nat.reduceEqDiff, false_and, if_false, tb, w_fr_md]
  have hRb : BrL Sb (s_sz S3) (s_sz Sa) 2160 := hRb
  have ez : s_sz S3 = o + 8 := by omega
  rw [hsa] at hRb
  rw [ez] at hRb
  refine eg_mem (M' := md (pfr Sb 291 o (some (o + 8))) Db) ?_ (by rw [← ez])
  obtain ⟨y1, y2, y3, y4, y5⟩ := subStep (k := 291) (v := some (o + 8)) (o := o) (by omega) hAa hAb rfl
  have zb := hAb.1
  have A4 := A3.call' y2 (Or.inl rfl)
  have z4 := y1
  rw [z3] at z4
  have t4 := y5.trans t3
  have f288_4 := (y3 288 (by decide)).trans f288_3
  have f289_4 := (y3 289 (by decide)).trans f289_3
  have f290_4 := (y3 290 (by decide)).trans f290_3
  have f291_4 := y4
  have Tl_4 := Tl_3.sam (y2.sam (by omega) (by omega))
  have Tx_4 := Tx_3.sam (y2.sam (by omega) (by omega))
  have Br_4 : BrL (pfr Sb 291 o (some (o + 8))) (o + 8) (o + 9) 2160 := (show BrL Sb (o + 8) (o + 9) 2160 from hRb).sam (sam_pfr (by omega)) (sam_pfr (by omega))
  clear y1 y2 y3 y4 y5
  clear zb ez hGa hsa hna hAa hAb hRb ea tb
  generalize pfr Sb 291 o (some (o + 8)) = S4 at *
  generalize Db = D4 at *
  refine X_run rfl ?_ ?_
  · simp [md_s, md_w, rget, r_a, r_b, r_c, r_i, r_l, t4]
  try simp only [md_s, md_w, rget_some, r_a, r_b, r_c, r_i, r_l, r_nx, r_pc, Nat.reduceEqDiff, false_and, if_false, t4]
  refine X_new (n := 0) (N := 1) rfl (by decide) (fun q hq => by cases hq; rfl) ?_
  obtain ⟨Sa, Da, ea, hGa, hsa, hna, -, hAa⟩ := newA S4 D4 4 0
  rw [show w_new (md S4 D4) (3 + 1) 0 = md Sa Da from ea]
  refine X_run rfl trivial ?_
  refine X_callI (bc1 := 139) (bs1 := 968) (args := []) rfl (by decide) rfl rfl (Nat.le_of_ble_eq_true rfl) (c_mk3 hna.1 (by show s_sz Sa = s_sz S4 + 1; omega)) ?_
  rintro _ _ ⟨Sb, Db, rfl, rfl, hAb, hRb⟩
  have tb : s_tg Sb o = 10 := (hAb.tg (by omega)).trans ((hAa.tg (by omega)).trans t4)
  refine X_runN 1 rfl ?_ ?_
  · simp [md_s, md_w, rget, r_a, r_b, r_c, r_i, r_l, tb, w_fr_md]
  try simp only [md_s, md_w, rget_some, r_a, r_b, r_c, r_i, r_l, r_nx, r_pc, Nat.reduceEqDiff, false_and, if_false, tb, w_fr_md]
  have hRb : NtL Sb (s_sz S4) ((s_sz S4) + 1) ∧ BkL Sb ((s_sz S4) + 1) := hRb
  have ez : s_sz S4 = o + 10 := by omega
  rw [ez] at hRb
  refine eg_mem (M' := md (pfr Sb 292 o (some (o + 10))) Db) ?_ (by rw [← ez])
  obtain ⟨y1, y2, y3, y4, y5⟩ := subStep (k := 292) (v := some (o + 10)) (o := o) (by omega) hAa hAb rfl
  have zb := hAb.1
  have A5 := A4.call' y2 (Or.inl rfl)
  have z5 := y1
  rw [z4] at z5
  have t5 := y5.trans t4
  have f288_5 := (y3 288 (by decide)).trans f288_4
  have f289_5 := (y3 289 (by decide)).trans f289_4
  have f290_5 := (y3 290 (by decide)).trans f290_4
  have f291_5 := (y3 291 (by decide)).trans f291_4
  have f292_5 := y4
  have Tl_5 := Tl_4.sam (y2.sam (by omega) (by omega))
  have Tx_5 := Tx_4.sam (y2.sam (by omega) (by omega))
  have Br_5 := Br_4.acc y2 (by omega) (by omega)
  have Nt_5 : NtL (pfr Sb 292 o (some (o + 10))) (o + 10) (o + 11) := (show NtL Sb (o + 10) (o + 11) from hRb.1).sam (sam_pfr (by omega))
  have Bk_5 : BkL (pfr Sb 292 o (some (o + 10))) (o + 11) := (show BkL Sb (o + 11) from hRb.2).sam (sam_pfr (by omega))
  clear y1 y2 y3 y4 y5
  clear zb ez hGa hsa hna hAa hAb hRb ea tb
  generalize pfr Sb 292 o (some (o + 10)) = S5 at *
  generalize Db = D5 at *
  refine X_runN 5 rfl ?_ ?_
  · simp [md_s, md_w, rget, r_a, r_b, r_c, r_i, r_l, t5, w_fr_md, f292_5, Nt_5.1, Nt_5.2]
  try simp only [md_s, md_w, rget_some, r_a, r_b, r_c, r_i, r_l, r_nx, r_pc, Nat.reduceEqDiff, false_and, if_false, t5, w_fr_md, f292_5, Nt_5.1, Nt_5.2]
  refine eg_mem (M' := md (pfr S5 293 o (some (o + 11))) D5) ?_ rfl
  obtain ⟨y1, y2, y3, y4, y5⟩ := putStep (Si := S5) (Di := D5) (k := 293) (v := some (o + 11)) (o := o)
  have A6 := A5.call' y2 (Or.inl rfl)
  have z6 := y1
  rw [z5] at z6
  have t6 := y5.trans t5
  have f288_6 := (y3 288 (by decide)).trans f288_5
  have f289_6 := (y3 289 (by decide)).trans f289_5
  have f290_6 := (y3 290 (by decide)).trans f290_5
  have f291_6 := (y3 291 (by decide)).trans f291_5
  have f292_6 := (y3 292 (by decide)).trans f292_5
  have f293_6 := y4
  have Tl_6 := Tl_5.sam (y2.sam (by omega) (by omega))
  have Tx_6 := Tx_5.sam (y2.sam (by omega) (by omega))
  have Br_6 := Br_5.acc y2 (by omega) (by omega)
  have Nt_6 := Nt_5.sam (y2.sam (by omega) (by omega))
  have Bk_6 := Bk_5.sam (y2.sam (by omega) (by omega))
  clear y1 y2 y3 y4 y5
  generalize pfr S5 293 o (some (o + 11)) = S6 at *
  generalize D5 = D6 at *
  refine X_run rfl ?_ ?_
  · simp [md_s, md_w, rget, r_a, r_b, r_c, r_i, r_l, t6]
  try simp only [md_s, md_w, rget_some, r_a, r_b, r_c, r_i, r_l, r_nx, r_pc, Nat.reduceEqDiff, false_and, if_false, t6]
  refine X_new (n := 0) (N := 1) rfl (by decide) (fun q hq => by cases hq; rfl) ?_
  obtain ⟨Sa, Da, ea, hGa, hsa, hna, -, hAa⟩ := newA S6 D6 4 0
  rw [show w_new (md S6 D6) (3 + 1) 0 = md Sa Da from ea]
  refine X_run rfl trivial ?_
  refine X_callI (bc1 := 139) (bs1 := 968) (args := []) rfl (by decide) rfl rfl (Nat.le_of_ble_eq_true rfl) (c_mk3 hna.1 (by show s_sz Sa = s_sz S6 + 1; omega)) ?_
  rintro _ _ ⟨Sb, Db, rfl, rfl, hAb, hRb⟩
  have tb : s_tg Sb o = 10 := (hAb.tg (by omega)).trans ((hAa.tg (by omega)).trans t6)
  refine X_runN 1 rfl ?_ ?_
  · simp [md_s, md_w, rget, r_a, r_b, r_c, r_i, r_l, tb, w_fr_md]
  try simp only [md_s, md_w, rget_some, r_a, r_b, r_c, r_i, r_l, r_nx, r_pc, Nat.reduceEqDiff, false_and, if_false, tb, w_fr_md]
  have hRb : NtL Sb (s_sz S6) ((s_sz S6) + 1) ∧ BkL Sb ((s_sz S6) + 1) := hRb
  have ez : s_sz S6 = o + 150 := by omega
  rw [ez] at hRb
  refine eg_mem (M' := md (pfr Sb 294 o (some (o + 150))) Db) ?_ (by rw [← ez])
  obtain ⟨y1, y2, y3, y4, y5⟩ := subStep (k := 294) (v := some (o + 150)) (o := o) (by omega) hAa hAb rfl
  have zb := hAb.1
  have A7 := A6.call' y2 (Or.inl rfl)
  have z7 := y1
  rw [z6] at z7
  have t7 := y5.trans t6
  have f288_7 := (y3 288 (by decide)).trans f288_6
  have f289_7 := (y3 289 (by decide)).trans f289_6
  have f290_7 := (y3 290 (by decide)).trans f290_6
  have f291_7 := (y3 291 (by decide)).trans f291_6
  have f292_7 := (y3 292 (by decide)).trans f292_6
  have f293_7 := (y3 293 (by decide)).trans f293_6
  have f294_7 := y4
  have Tl_7 := Tl_6.sam (y2.sam (by omega) (by omega))
  have Tx_7 := Tx_6.sam (y2.sam (by omega) (by omega))
  have Br_7 := Br_6.acc y2 (by omega) (by omega)
  have Nt_7 := Nt_6.sam (y2.sam (by omega) (by omega))
  have Bk_7 := Bk_6.sam (y2.sam (by omega) (by omega))
  have Nd_7 : NtL (pfr Sb 294 o (some (o + 150))) (o + 150) (o + 151) := (show NtL Sb (o + 150) (o + 151) from hRb.1).sam (sam_pfr (by omega))
  have Bd_7 : BkL (pfr Sb 294 o (some (o + 150))) (o + 151) := (show BkL Sb (o + 151) from hRb.2).sam (sam_pfr (by omega))
  clear y1 y2 y3 y4 y5
  clear zb ez hGa hsa hna hAa hAb hRb ea tb
  generalize pfr Sb 294 o (some (o + 150)) = S7 at *
  generalize Db = D7 at *
  refine X_runN 5 rfl ?_ ?_
  · simp [md_s, md_w, rget, r_a, r_b, r_c, r_i, r_l, t7, w_fr_md, f294_7, Nd_7.1, Nd_7.2]
  try simp only [md_s, md_w, rget_some, r_a, r_b, r_c, r_i, r_l, r_nx, r_pc, Nat.reduceEqDiff, false_and, if_false, t7, w_fr_md, f294_7, Nd_7.1, Nd_7.2]
  refine eg_mem (M' := md (pfr S7 295 o (some (o + 151))) D7) ?_ rfl
  obtain ⟨y1, y2, y3, y4, y5⟩ := putStep (Si := S7) (Di := D7) (k := 295) (v := some (o + 151)) (o := o)
  have A8 := A7.call' y2 (Or.inl rfl)
  have z8 := y1
  rw [z7] at z8
  have t8 := y5.trans t7
  have f288_8 := (y3 288 (by decide)).trans f288_7
  have f289_8 := (y3 289 (by decide)).trans f289_7
  have f290_8 := (y3 290 (by decide)).trans f290_7
  have f291_8 := (y3 291 (by decide)).trans f291_7
  have f292_8 := (y3 292 (by decide)).trans f292_7
  have f293_8 := (y3 293 (by decide)).trans f293_7
  have f294_8 := (y3 294 (by decide)).trans f294_7
  have f295_8 := y4
  have Tl_8 := Tl_7.sam (y2.sam (by omega) (by omega))
  have Tx_8 := Tx_7.sam (y2.sam (by omega) (by omega))
  have Br_8 := Br_7.acc y2 (by omega) (by omega)
  have Nt_8 := Nt_7.sam (y2.sam (by omega) (by omega))
  have Bk_8 := Bk_7.sam (y2.sam (by omega) (by omega))
  have Nd_8 := Nd_7.sam (y2.sam (by omega) (by omega))
  have Bd_8 := Bd_7.sam (y2.sam (by omega) (by omega))
  clear y1 y2 y3 y4 y5
  generalize pfr S7 295 o (some (o + 151)) = S8 at *
  generalize D7 = D8 at *
  refine X_run rfl ?_ ?_
  · simp [md_s, md_w, rget, r_a, r_b, r_c, r_i, r_l, t8]
  try simp only [md_s, md_w, rget_some, r_a, r_b, r_c, r_i, r_l, r_nx, r_pc, Nat.reduceEqDiff, false_and, if_false, t8]
  refine X_new (n := 0) (N := 1) rfl (by decide) (fun q hq => by cases hq; rfl) ?_
  obtain ⟨Sa, Da, ea, hGa, hsa, hna, -, hAa⟩ := newA S8 D8 7 0
  rw [show w_new (md S8 D8) (6 + 1) 0 = md Sa Da from ea]
  refine X_run rfl trivial ?_
  refine X_callI (bc1 := 1) (bs1 := 100) (args := [.int (nI 100)]) rfl (by decide) rfl rfl (Nat.le_of_ble_eq_true rfl) (c_mkRow (n := 100) hna.1 (by show s_sz S8 < s_sz Sa; omega) (by decide)) ?_
  rintro _ _ ⟨Sb, Db, rfl, rfl, hAb, hRb⟩
  have tb : s_tg Sb o = 10 := (hAb.tg (by omega)).trans ((hAa.tg (by omega)).trans t8)
  refine X_runN 1 rfl ?_ ?_
  · simp [md_s, md_w, rget, r_a, r_b, r_c, r_i, r_l, tb, w_fr_md]
  try simp only [md_s, md_w, rget_some, r_a, r_b, r_c, r_i, r_l, r_nx, r_pc, Nat.reduceEqDiff, false_and, if_false, tb, w_fr_md]
  have hRb : RowL Sb (s_sz S8) (s_sz Sa) 100 := hRb
  have ez : s_sz S8 = o + 290 := by omega
  rw [hsa] at hRb
  rw [ez] at hRb
  refine eg_mem (M' := md (pfr Sb 296 o (some (o + 290))) Db) ?_ (by rw [← ez])
  obtain ⟨y1, y2, y3, y4, y5⟩ := subStep (k := 296) (v := some (o + 290)) (o := o) (by omega) hAa hAb rfl
  have zb := hAb.1
  have A9 := A8.call' y2 (Or.inl rfl)
  have z9 := y1
  rw [z8] at z9
  have t9 := y5.trans t8
  have f288_9 := (y3 288 (by decide)).trans f288_8
  have f289_9 := (y3 289 (by decide)).trans f289_8
  have f290_9 := (y3 290 (by decide)).trans f290_8
  have f291_9 := (y3 291 (by decide)).trans f291_8
  have f292_9 := (y3 292 (by decide)).trans f292_8
  have f293_9 := (y3 293 (by decide)).trans f293_8
  have f294_9 := (y3 294 (by decide)).trans f294_8
  have f295_9 := (y3 295 (by decide)).trans f295_8
  have f296_9 := y4
  have Tl_9 := Tl_8.sam (y2.sam (by omega) (by omega))
  have Tx_9 := Tx_8.sam (y2.sam (by omega) (by omega))
  have Br_9 := Br_8.acc y2 (by omega) (by omega)
  have Nt_9 := Nt_8.sam (y2.sam (by omega) (by omega))
  have Bk_9 := Bk_8.sam (y2.sam (by omega) (by omega))
  have Nd_9 := Nd_8.sam (y2.sam (by omega) (by omega))
  have Bd_9 := Bd_8.sam (y2.sam (by omega) (by omega))
  have Rw_9 : RowL (pfr Sb 296 o (some (o + 290))) (o + 290) (o + 291) 100 := (show RowL Sb (o + 290) (o + 291) 100 from hRb).sam (sam_pfr (by omega)) (sam_pfr (by omega))
  clear y1 y2 y3 y4 y5
  clear zb ez hGa hsa hna hAa hAb hRb ea tb
  generalize pfr Sb 296 o (some (o + 290)) = S9 at *
  generalize Db = D9 at *
  refine X_run rfl ?_ ?_
  · simp [md_s, md_w, rget, r_a, r_b, r_c, r_i, r_l, t9]
  try simp only [md_s, md_w, rget_some, r_a, r_b, r_c, r_i, r_l, r_nx, r_pc, Nat.reduceEqDiff, false_and, if_false, t9]
  have hTb : BrL S9 (o + 3) (o + 4) 2000 := Tx_9.2
  exact X_vret rfl rfl ⟨S9, D9, rfl, rfl, A9.trans' rfl, ⟨⟨t9, f288_9, f289_9, f290_9, f291_9, f292_9, f293_9, f294_9, f295_9, f296_9⟩, hTb, Br_9, Nt_9, Bk_9, Nd_9, Bd_9, Rw_9⟩, Tl_9, Tx_9⟩
end MKDESK
