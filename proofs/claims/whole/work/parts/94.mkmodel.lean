/-! a text as a number; making the reference -/
section CODE
variable {g : GG} {d i : Nat} {M : Mem}
theorem jw_len : WvJ RX11 96 yJ0_length_8abf5 cJ0_length_8abf5 1 (some .int) 0 ∧ (Cond.instanceMethod yJ0_length_8abf5 ∈ T0 ∧ Cond.selects "java/lang/String" yJ0_length_8abf5 yJ0_length_8abf5 ∈ T0) := by
  have h : ∀ w ∈ [Cond.methodLink RX11 96 yJ0_length_8abf5, Cond.code yJ0_length_8abf5 cJ0_length_8abf5 1 (some .int), Cond.initialized yJ0_length_8abf5.cls, Cond.instanceMethod yJ0_length_8abf5, Cond.selects "java/lang/String" yJ0_length_8abf5 yJ0_length_8abf5], w ∈ T0 := inT0 (by decide +kernel)
  simp only [List.forall_mem_cons] at h
  exact ⟨⟨⟨h.1, h.2.1, h.2.2.1⟩, by decide, ⟨by decide, by decide⟩, by decide +kernel⟩, h.2.2.2.1, h.2.2.2.2.1⟩
theorem jw_chr : WvJ RX11 102 yJ0_charAt_5068e cJ0_charAt_5068e 2 (some .char) 1 ∧ (Cond.instanceMethod yJ0_charAt_5068e ∈ T0 ∧ Cond.selects "java/lang/String" yJ0_charAt_5068e yJ0_charAt_5068e ∈ T0) := by
  have h : ∀ w ∈ [Cond.methodLink RX11 102 yJ0_charAt_5068e, Cond.code yJ0_charAt_5068e cJ0_charAt_5068e 2 (some .char), Cond.initialized yJ0_charAt_5068e.cls, Cond.instanceMethod yJ0_charAt_5068e, Cond.selects "java/lang/String" yJ0_charAt_5068e yJ0_charAt_5068e], w ∈ T0 := inT0 (by decide +kernel)
  simp only [List.forall_mem_cons] at h
  exact ⟨⟨⟨h.1, h.2.1, h.2.2.1⟩, by decide, ⟨by decide, by decide⟩, by decide +kernel⟩, h.2.2.2.1, h.2.2.2.2.1⟩
set_option maxRecDepth 20000 in
theorem c_code (hi : i < 11) : EvM g (d + 5) mX11_code 0 0 [.ref (gSk g i)] M (fun v M1 => M1 = M ∧ v = some (.long (c37 (kwW i)))) := by
  obtain ⟨⟨l1, l2, -⟩, l3⟩ := sm_all i hi
  refine EvM.mk (by decide) (Nat.le_of_ble_eq_true rfl) ?_
  refine X_run rfl trivial ?_
  have key : ∀ r j, j + r = smL.getD i 0 → Eg g (d + 5) mX11_code 0 0 (Zr g (fun v M1 => M1 = M ∧ v = some (.long (c37 (kwW i))))) 4 [(0, .ref (gSk g i)), (1, .long (c37 ((kwW i).take j))), (3, .int (nI j))] [] M := by
    intro r
    induction r with
    | zero =>
      intro j hj
      refine X_run rfl trivial ?_
      refine X_callStr (args := []) (rest := [.int (nI j)]) hi jw_len.1 jw_len.2 rfl (Nat.le_of_ble_eq_true rfl) (fun h => row_in (i := .invokevirtual 96) rfl rfl h) (j_length hi) ?_
      rintro _ _ ⟨rfl, rfl⟩
      refine X_icmp_ge rfl (fun _ => ?_) (fun z => absurd (by rw [← hj]; exact Int32.le_iff_toInt_le.mpr (Int.le_refl _)) z)
      refine X_run rfl trivial ?_
      refine X_lret rfl rfl ⟨rfl, ?_⟩
      rw [List.take_of_length_le (by omega)]
    | succ r ih =>
      intro j hj
      obtain ⟨-, -, c3, c4⟩ := l3 j (by omega)
      refine X_run rfl trivial ?_
      refine X_callStr (args := []) (rest := [.int (nI j)]) hi jw_len.1 jw_len.2 rfl (Nat.le_of_ble_eq_true rfl) (fun h => row_in (i := .invokevirtual 96) rfl rfl h) (j_length hi) ?_
      rintro _ _ ⟨rfl, rfl⟩
      refine X_icmp_ge rfl (fun z => ?_) (fun _ => ?_)
      · rw [Int32.le_iff_toInt_le, nI_toInt (by omega), nI_toInt (by omega)] at z
        omega
      refine X_run rfl trivial ?_
      refine X_callStr (args := [.int (nI j)]) (rest := [.long (c37 ((kwW i).take j))]) hi jw_chr.1 jw_chr.2 rfl (Nat.le_of_ble_eq_true rfl) (fun h => row_in (i := .invokevirtual 102) rfl rfl h) (j_charAt (d := d + 1) hi (show j < smL.getD i 0 by omega)) ?_
      rintro _ _ ⟨rfl, rfl⟩
      rw [c3]
      refine X_cS (args := [.long (c37 ((kwW i).take j)), .int (nI ((kwW i).getD j 0))]) rfl (by decide) rfl rfl (Nat.le_of_ble_eq_true rfl) (c_next c4) ?_
      rintro _ _ ⟨rfl, rfl⟩
      refine X_run rfl trivial ?_
      have e : c37 ((kwW i).take (j + 1)) = c37 ((kwW i).take j) * 37 + (if isLet ((kwW i).getD j 0) = true then nI ((kwW i).getD j 0) - 97 + 1 else nI ((kwW i).getD j 0) - 48 + 27).toInt64 := by
        rw [← c37_snoc, List.take_succ, List.getD_eq_getElem?_getD]
        have hl : j < (kwW i).length := by omega
        rw [List.getElem?_eq_getElem hl]
        rfl
      refine Eg.sub (ih (j + 1) (by omega)) ⟨rfl, congrArg (fun x => some (Value.long x)) e.symm, congrArg (fun x => some (Value.int x)) (nI_plus j 1).symm, trivial⟩
  exact Eg.sub (key _ 0 (Nat.zero_add _)) ⟨rfl, rfl, rfl, trivial⟩
end CODE
theorem Acc.fiO {S0 S : ShT} {D0 D : DaT} {o n k : Nat} {v : Int32} (h : Acc S0 S D0 D o n) (ho : o < s_sz S0) : Acc S0 S (pfi D0 k o v) (pfi D k o v) o n := by
  obtain ⟨h1, h2, h3, h4⟩ := h
  refine ⟨h1, h2, fun a ha => ⟨fun q => ?_, (h3 a ha).2.1, (h3 a ha).2.2.1, (h3 a ha).2.2.2⟩, fun a h5 h6 q => ?_⟩
  · rw [rd_fi, rd_fi, (h3 a ha).1 q]
  · rw [rd_fi, if_neg (by omega)]
    exact h4 a h5 h6 q
theorem Acc.alN {S0 S : ShT} {D0 D : DaT} {o n z k : Nat} {v : Int64} (h : Acc S0 S D0 D o n) (hz : s_sz S0 ≤ z) : Acc S0 S D0 (pal D z k v) o n := by
  obtain ⟨h1, h2, h3, h4⟩ := h
  refine ⟨h1, h2, fun a ha => (h3 a ha).tr (Out.al (lo := z) (hi := z + 1) (by omega) a (by omega)), fun a h5 h6 q => h4 a h5 h6 q⟩
section MKMODEL
variable {g : GG} {d : Nat} {S : ShT} {D : DaT} {Y : Nat}
/-- one keyword more -/
theorem kw_step {D D1 : DaT} {z k : Nat} (h : ∀ j, j < k → d_al D z j = c37 (kwW j)) (e : D1 = pal D z k (c37 (kwW k))) : ∀ j, j < k + 1 → d_al D1 z j = c37 (kwW j) := by
  intro j hj
  subst e
  by_cases c : j = k
  · subst c
    simp [pal, d_al, up2]
  · have := h j (by omega)
    simp only [pal, d_al, up2] at this ⊢
    rw [if_neg (by omega)]
    exact this
set_option maxRecDepth 20000 in
theorem c_mk11 (ht : s_tg S Y = 12) (hz : s_sz S = Y + 1) : EvM g (d + 6) mX11_init 47 7659 [.ref Y] (md S D) (fun v M1 => ∃ S1 D1, v = none ∧ M1 = md S1 D1 ∧ Acc S S1 (pfi D 355 Y (-1)) D1 Y 47 ∧ MoL S1 Y (Y + 8) (Y + 28) ∧ KwR D1 Y) := by
  refine EvM.mk (by decide) (Nat.le_of_ble_eq_true rfl) ?_
  refine X_run rfl trivial ?_
  refine X_obj (a := 0) rfl (Nat.le_of_ble_eq_true rfl) ?_
  obtain ⟨S0, eS0⟩ : ∃ S0, S0 = S := ⟨_, rfl⟩
  obtain ⟨D0, eD0⟩ : ∃ D0, D0 = D := ⟨_, rfl⟩
  have A0 : Acc S S0 D D0 Y 0 := by rw [eS0, eD0]; exact Acc.rf
  have t0 : s_tg S0 Y = 12 := by rw [eS0]; exact ht
  have z0 : s_sz S0 = Y + 1 := by rw [eS0]; exact hz
  refine eg_mem (M' := md S0 D0) ?_ (by rw [eS0, eD0])
  clear eS0 eD0
  refine X_runN 2 rfl ?_ ?_
  · simp [md_s, md_w, rget, r_a, r_b, r_c, r_i, r_l, t0]
  try simp only [md_s, md_w, rget_some, r_a, r_b, r_c, r_i, r_l, r_nx, r_pc, Nat.reduceEqDiff, false_and, if_false, t0]
  refine X_newarray (a := 0) (N := 2000) rfl (by decide) rfl (by decide) ?_
  obtain ⟨Sa, Da, ea, hGa, hsa, hna, -, hAa⟩ := newA S0 D0 20 2000
  rw [show w_new (md S0 D0) (0 + 20) 2000 = md Sa Da from ea]
  have tb : s_tg Sa Y = 12 := (hAa.tg (by omega)).trans t0
  refine X_runN 1 rfl ?_ ?_
  · simp [md_s, md_w, rget, r_a, r_b, r_c, r_i, r_l, tb, w_fr_md]
  try simp only [md_s, md_w, rget_some, r_a, r_b, r_c, r_i, r_l, r_nx, r_pc, Nat.reduceEqDiff, false_and, if_false, tb, w_fr_md]
  have ez : s_sz S0 = Y + 1 := by omega
  refine eg_mem (M' := md (pfr Sa 353 Y (some (Y + 1))) Da) ?_ (by rw [← ez])
  obtain ⟨y1, y2, y3, y4, y5⟩ := subStep (k := 353) (v := some (Y + 1)) (o := Y) (by omega) hAa (Acc.rf (S := Sa) (D := Da) (o := s_sz S0)) rfl
  rw [ez] at hna
  have A1 := A0.call' y2 (Or.inl rfl)
  have z1 := y1
  rw [z0] at z1
  have t1 := y5.trans t0
  have f353_1 := y4
  have Ta_1 : AtL (pfr Sa 353 Y (some (Y + 1))) (Y + 1) 20 2000 := hna
  clear y1 y2 y3 y4 y5
  clear ez hGa hsa hna hAa ea tb
  generalize pfr Sa 353 Y (some (Y + 1)) = S1 at *
  generalize Da = D1 at *
  refine X_runN 3 rfl ?_ ?_
  · simp [md_s, md_w, rget, r_a, r_b, r_c, r_i, r_l, t1]
  try simp only [md_s, md_w, rget_some, r_a, r_b, r_c, r_i, r_l, r_nx, r_pc, Nat.reduceEqDiff, false_and, if_false, t1]
  have A1b := A1.fiO (k := 355) (v := -1) (by omega)
  obtain ⟨D1z, eDz⟩ : ∃ DD, DD = pfi D1 355 Y (-1) := ⟨_, rfl⟩
  rw [← eDz] at A1b
  refine eg_mem (M' := md S1 D1z) ?_ (by rw [eDz])
  clear eDz A1
  have A1 := A1b
  clear A1b
  refine X_runN 2 rfl ?_ ?_
  · simp [md_s, md_w, rget, r_a, r_b, r_c, r_i, r_l, t1]
  try simp only [md_s, md_w, rget_some, r_a, r_b, r_c, r_i, r_l, r_nx, r_pc, Nat.reduceEqDiff, false_and, if_false, t1]
  refine X_newarray (a := 0) (N := 2400) rfl (by decide) rfl (by decide) ?_
  obtain ⟨Sa, Da, ea, hGa, hsa, hna, -, hAa⟩ := newA S1 D1z 20 2400
  rw [show w_new (md S1 D1z) (0 + 20) 2400 = md Sa Da from ea]
  have tb : s_tg Sa Y = 12 := (hAa.tg (by omega)).trans t1
  refine X_runN 1 rfl ?_ ?_
  · simp [md_s, md_w, rget, r_a, r_b, r_c, r_i, r_l, tb, w_fr_md]
  try simp only [md_s, md_w, rget_some, r_a, r_b, r_c, r_i, r_l, r_nx, r_pc, Nat.reduceEqDiff, false_and, if_false, tb, w_fr_md]
  have ez : s_sz S1 = Y + 2 := by omega
  refine eg_mem (M' := md (pfr Sa 356 Y (some (Y + 2))) Da) ?_ (by rw [← ez])
  obtain ⟨y1, y2, y3, y4, y5⟩ := subStep (k := 356) (v := some (Y + 2)) (o := Y) (by omega) hAa (Acc.rf (S := Sa) (D := Da) (o := s_sz S1)) rfl
  rw [ez] at hna
  have A2 := A1.call' y2 (Or.inl rfl)
  have z2 := y1
  rw [z1] at z2
  have t2 := y5.trans t1
  have f353_2 := (y3 353 (by decide)).trans f353_1
  have f356_2 := y4
  have Ta_2 := Ta_1.acc y2 (by omega)
  have Pa_2 : AtL (pfr Sa 356 Y (some (Y + 2))) (Y + 2) 20 2400 := hna
  clear y1 y2 y3 y4 y5
  clear ez hGa hsa hna hAa ea tb
  generalize pfr Sa 356 Y (some (Y + 2)) = S2 at *
  generalize Da = D2 at *
  refine X_runN 2 rfl ?_ ?_
  · simp [md_s, md_w, rget, r_a, r_b, r_c, r_i, r_l, t2]
  try simp only [md_s, md_w, rget_some, r_a, r_b, r_c, r_i, r_l, r_nx, r_pc, Nat.reduceEqDiff, false_and, if_false, t2]
  refine X_newarray (a := 1) (N := 11) rfl (by decide) rfl (by decide) ?_
  obtain ⟨Sa, Da, ea, hGa, hsa, hna, -, hAa⟩ := newA S2 D2 21 11
  rw [show w_new (md S2 D2) (1 + 20) 11 = md Sa Da from ea]
  have tb : s_tg Sa Y = 12 := (hAa.tg (by omega)).trans t2
  have ez : s_sz S2 = Y + 3 := by omega
  rw [ez] at hna
  have hAk := Acc.rf (S := Sa) (D := Da) (o := Y + 3)
  refine eg_mem (M' := md Sa Da) ?_ rfl
  have k0 : ∀ j, j < 0 → d_al Da (Y + 3) j = c37 (kwW j) := fun j hj => absurd hj (Nat.not_lt_zero _)
  rw [show m_sz (md S2 D2) = Y + 3 from ez]
  refine X_runN 2 rfl ?_ ?_
  · simp [md_s, md_w, rget, r_a, r_b, r_c, r_i, r_l]
  try simp only [md_s, md_w, rget_some, r_a, r_b, r_c, r_i, r_l, r_nx, r_pc, Nat.reduceEqDiff, false_and, if_false]
  refine X_ldcS (i := 0) (by decide) rfl rfl ?_
  refine X_cS (args := [.ref (gSk g 0)]) rfl (by decide) rfl rfl (Nat.le_of_ble_eq_true rfl) (c_code (d := d) (by decide)) ?_
  rintro _ _ ⟨rfl, rfl⟩
  have x0 := li (n := 11) (0 : Int32) rfl (show 0 < 11 by decide) (by decide)
  refine X_runN 1 rfl ?_ ?_
  · simp [md_s, md_w, rget, r_a, r_b, r_c, r_i, r_l, hna.1, hna.2, x0]
  try simp only [md_s, md_w, rget_some, r_a, r_b, r_c, r_i, r_l, r_nx, r_pc, Nat.reduceEqDiff, false_and, if_false, hna.1, hna.2, x0]
  obtain ⟨K1, eK1⟩ : ∃ KK, KK = pal Da (Y + 3) 0 (c37 (kwW 0)) := ⟨_, rfl⟩
  have k1 := kw_step k0 eK1
  skip
  refine eg_mem (M' := md Sa K1) ?_ (by rw [eK1])
  refine X_runN 2 rfl ?_ ?_
  · simp [md_s, md_w, rget, r_a, r_b, r_c, r_i, r_l]
  try simp only [md_s, md_w, rget_some, r_a, r_b, r_c, r_i, r_l, r_nx, r_pc, Nat.reduceEqDiff, false_and, if_false]
  refine X_ldcS (i := 1) (by decide) rfl rfl ?_
  refine X_cS (args := [.ref (gSk g 1)]) rfl (by decide) rfl rfl (Nat.le_of_ble_eq_true rfl) (c_code (d := d) (by decide)) ?_
  rintro _ _ ⟨rfl, rfl⟩
  have x1 := li (n := 11) (1 : Int32) rfl (show 1 < 11 by decide) (by decide)
  refine X_runN 1 rfl ?_ ?_
  · simp [md_s, md_w, rget, r_a, r_b, r_c, r_i, r_l, hna.1, hna.2, x1]
  try simp only [md_s, md_w, rget_some, r_a, r_b, r_c, r_i, r_l, r_nx, r_pc, Nat.reduceEqDiff, false_and, if_false, hna.1, hna.2, x1]
  obtain ⟨K2, eK2⟩ : ∃ KK, KK = pal K1 (Y + 3) 1 (c37 (kwW 1)) := ⟨_, rfl⟩
  have k2 := kw_step k1 eK2
  skip
  refine eg_mem (M' := md Sa K2) ?_ (by rw [eK2])
  refine X_runN 2 rfl ?_ ?_
  · simp [md_s, md_w, rget, r_a, r_b, r_c, r_i, r_l]
  try simp only [md_s, md_w, rget_some, r_a, r_b, r_c, r_i, r_l, r_nx, r_pc, Nat.reduceEqDiff, false_and, if_false]
  refine X_ldcS (i := 2) (by decide) rfl rfl ?_
  refine X_cS (args := [.ref (gSk g 2)]) rfl (by decide) rfl rfl (Nat.le_of_ble_eq_true rfl) (c_code (d := d) (by decide)) ?_
  rintro _ _ ⟨rfl, rfl⟩
  have x2 := li (n := 11) (2 : Int32) rfl (show 2 < 11 by decide) (by decide)
  refine X_runN 1 rfl ?_ ?_
  · simp [md_s, md_w, rget, r_a, r_b, r_c, r_i, r_l, hna.1, hna.2, x2]
  try simp only [md_s, md_w, rget_some, r_a, r_b, r_c, r_i, r_l, r_nx, r_pc, Nat.reduceEqDiff, false_and, if_false, hna.1, hna.2, x2]
  obtain ⟨K3, eK3⟩ : ∃ KK, KK = pal K2 (Y + 3) 2 (c37 (kwW 2)) := ⟨_, rfl⟩
  have k3 := kw_step k2 eK3
  skip
  refine eg_mem (M' := md Sa K3) ?_ (by rw [eK3])
  refine X_runN 2 rfl ?_ ?_
  · simp [md_s, md_w, rget, r_a, r_b, r_c, r_i, r_l]
  try simp only [md_s, md_w, rget_some, r_a, r_b, r_c, r_i, r_l, r_nx, r_pc, Nat.reduceEqDiff, false_and, if_false]
  refine X_ldcS (i := 3) (by decide) rfl rfl ?_
  refine X_cS (args := [.ref (gSk g 3)]) rfl (by decide) rfl rfl (Nat.le_of_ble_eq_true rfl) (c_code (d := d) (by decide)) ?_
  rintro _ _ ⟨rfl, rfl⟩
  have x3 := li (n := 11) (3 : Int32) rfl (show 3 < 11 by decide) (by decide)
  refine X_runN 1 rfl ?_ ?_
  · simp [md_s, md_w, rget, r_a, r_b, r_c, r_i, r_l, hna.1, hna.2, x3]
  try simp only [md_s, md_w, rget_some, r_a, r_b, r_c, r_i, r_l, r_nx, r_pc, Nat.reduceEqDiff, false_and, if_false, hna.1, hna.2, x3]
  obtain ⟨K4, eK4⟩ : ∃ KK, KK = pal K3 (Y + 3) 3 (c37 (kwW 3)) := ⟨_, rfl⟩
  have k4 := kw_step k3 eK4
  skip
  refine eg_mem (M' := md Sa K4) ?_ (by rw [eK4])
  refine X_runN 2 rfl ?_ ?_
  · simp [md_s, md_w, rget, r_a, r_b, r_c, r_i, r_l]
  try simp only [md_s, md_w, rget_some, r_a, r_b, r_c, r_i, r_l, r_nx, r_pc, Nat.reduceEqDiff, false_and, if_false]
  refine X_ldcS (i := 4) (by decide) rfl rfl ?_
  refine X_cS (args := [.ref (gSk g 4)]) rfl (by decide) rfl rfl (Nat.le_of_ble_eq_true rfl) (c_code (d := d) (by decide)) ?_
  rintro _ _ ⟨rfl, rfl⟩
  have x4 := li (n := 11) (4 : Int32) rfl (show 4 < 11 by decide) (by decide)
  refine X_runN 1 rfl ?_ ?_
  · simp [md_s, md_w, rget, r_a, r_b, r_c, r_i, r_l, hna.1, hna.2, x4]
  try simp only [md_s, md_w, rget_some, r_a, r_b, r_c, r_i, r_l, r_nx, r_pc, Nat.reduceEqDiff, false_and, if_false, hna.1, hna.2, x4]
  obtain ⟨K5, eK5⟩ : ∃ KK, KK = pal K4 (Y + 3) 4 (c37 (kwW 4)) := ⟨_, rfl⟩
  have k5 := kw_step k4 eK5
  skip
  refine eg_mem (M' := md Sa K5) ?_ (by rw [eK5])
  refine X_runN 2 rfl ?_ ?_
  · simp [md_s, md_w, rget, r_a, r_b, r_c, r_i, r_l]
  try simp only [md_s, md_w, rget_some, r_a, r_b, r_c, r_i, r_l, r_nx, r_pc, Nat.reduceEqDiff, false_and, if_false]
  refine X_ldcS (i := 5) (by decide) rfl rfl ?_
  refine X_cS (args := [.ref (gSk g 5)]) rfl (by decide) rfl rfl (Nat.le_of_ble_eq_true rfl) (c_code (d := d) (by decide)) ?_
  rintro _ _ ⟨rfl, rfl⟩
  have x5 := li (n := 11) (5 : Int32) rfl (show 5 < 11 by decide) (by decide)
  refine X_runN 1 rfl ?_ ?_
  · simp [md_s, md_w, rget, r_a, r_b, r_c, r_i, r_l, hna.1, hna.2, x5]
  try simp only [md_s, md_w, rget_some, r_a, r_b, r_c, r_i, r_l, r_nx, r_pc, Nat.reduceEqDiff, false_and, if_false, hna.1, hna.2, x5]
  obtain ⟨K6, eK6⟩ : ∃ KK, KK = pal K5 (Y + 3) 5 (c37 (kwW 5)) := ⟨_, rfl⟩
  have k6 := kw_step k5 eK6
  skip
  refine eg_mem (M' := md Sa K6) ?_ (by rw [eK6])
  refine X_runN 2 rfl ?_ ?_
  · simp [md_s, md_w, rget, r_a, r_b, r_c, r_i, r_l]
  try simp only [md_s, md_w, rget_some, r_a, r_b, r_c, r_i, r_l, r_nx, r_pc, Nat.reduceEqDiff, false_and, if_false]
  refine X_ldcS (i := 6) (by decide) rfl rfl ?_
  refine X_cS (args := [.ref (gSk g 6)]) rfl (by decide) rfl rfl (Nat.le_of_ble_eq_true rfl) (c_code (d := d) (by decide)) ?_
  rintro _ _ ⟨rfl, rfl⟩
  have x6 := li (n := 11) (6 : Int32) rfl (show 6 < 11 by decide) (by decide)
  refine X_runN 1 rfl ?_ ?_
  · simp [md_s, md_w, rget, r_a, r_b, r_c, r_i, r_l, hna.1, hna.2, x6]
  try simp only [md_s, md_w, rget_some, r_a, r_b, r_c, r_i, r_l, r_nx, r_pc, Nat.reduceEqDiff, false_and, if_false, hna.1, hna.2, x6]
  obtain ⟨K7, eK7⟩ : ∃ KK, KK = pal K6 (Y + 3) 6 (c37 (kwW 6)) := ⟨_, rfl⟩
  have k7 := kw_step k6 eK7
  skip
  refine eg_mem (M' := md Sa K7) ?_ (by rw [eK7])
  refine X_runN 2 rfl ?_ ?_
  · simp [md_s, md_w, rget, r_a, r_b, r_c, r_i, r_l]
  try simp only [md_s, md_w, rget_some, r_a, r_b, r_c, r_i, r_l, r_nx, r_pc, Nat.reduceEqDiff, false_and, if_false]
  refine X_ldcS (i := 7) (by decide) rfl rfl ?_
  refine X_cS (args := [.ref (gSk g 7)]) rfl (by decide) rfl rfl (Nat.le_of_ble_eq_true rfl) (c_code (d := d) (by decide)) ?_
  rintro _ _ ⟨rfl, rfl⟩
  have x7 := li (n := 11) (7 : Int32) rfl (show 7 < 11 by decide) (by decide)
  refine X_runN 1 rfl ?_ ?_
  · simp [md_s, md_w, rget, r_a, r_b, r_c, r_i, r_l, hna.1, hna.2, x7]
  try simp only [md_s, md_w, rget_some, r_a, r_b, r_c, r_i, r_l, r_nx, r_pc, Nat.reduceEqDiff, false_and, if_false, hna.1, hna.2, x7]
  obtain ⟨K8, eK8⟩ : ∃ KK, KK = pal K7 (Y + 3) 7 (c37 (kwW 7)) := ⟨_, rfl⟩
  have k8 := kw_step k7 eK8
  skip
  refine eg_mem (M' := md Sa K8) ?_ (by rw [eK8])
  refine X_runN 2 rfl ?_ ?_
  · simp [md_s, md_w, rget, r_a, r_b, r_c, r_i, r_l]
  try simp only [md_s, md_w, rget_some, r_a, r_b, r_c, r_i, r_l, r_nx, r_pc, Nat.reduceEqDiff, false_and, if_false]
  refine X_ldcS (i := 8) (by decide) rfl rfl ?_
  refine X_cS (args := [.ref (gSk g 8)]) rfl (by decide) rfl rfl (Nat.le_of_ble_eq_true rfl) (c_code (d := d) (by decide)) ?_
  rintro _ _ ⟨rfl, rfl⟩
  have x8 := li (n := 11) (8 : Int32) rfl (show 8 < 11 by decide) (by decide)
  refine X_runN 1 rfl ?_ ?_
  · simp [md_s, md_w, rget, r_a, r_b, r_c, r_i, r_l, hna.1, hna.2, x8]
  try simp only [md_s, md_w, rget_some, r_a, r_b, r_c, r_i, r_l, r_nx, r_pc, Nat.reduceEqDiff, false_and, if_false, hna.1, hna.2, x8]
  obtain ⟨K9, eK9⟩ : ∃ KK, KK = pal K8 (Y + 3) 8 (c37 (kwW 8)) := ⟨_, rfl⟩
  have k9 := kw_step k8 eK9
  skip
  refine eg_mem (M' := md Sa K9) ?_ (by rw [eK9])
  refine X_runN 2 rfl ?_ ?_
  · simp [md_s, md_w, rget, r_a, r_b, r_c, r_i, r_l]
  try simp only [md_s, md_w, rget_some, r_a, r_b, r_c, r_i, r_l, r_nx, r_pc, Nat.reduceEqDiff, false_and, if_false]
  refine X_ldcS (i := 9) (by decide) rfl rfl ?_
  refine X_cS (args := [.ref (gSk g 9)]) rfl (by decide) rfl rfl (Nat.le_of_ble_eq_true rfl) (c_code (d := d) (by decide)) ?_
  rintro _ _ ⟨rfl, rfl⟩
  have x9 := li (n := 11) (9 : Int32) rfl (show 9 < 11 by decide) (by decide)
  refine X_runN 1 rfl ?_ ?_
  · simp [md_s, md_w, rget, r_a, r_b, r_c, r_i, r_l, hna.1, hna.2, x9]
  try simp only [md_s, md_w, rget_some, r_a, r_b, r_c, r_i, r_l, r_nx, r_pc, Nat.reduceEqDiff, false_and, if_false, hna.1, hna.2, x9]
  obtain ⟨K10, eK10⟩ : ∃ KK, KK = pal K9 (Y + 3) 9 (c37 (kwW 9)) := ⟨_, rfl⟩
  have k10 := kw_step k9 eK10
  skip
  refine eg_mem (M' := md Sa K10) ?_ (by rw [eK10])
  refine X_runN 2 rfl ?_ ?_
  · simp [md_s, md_w, rget, r_a, r_b, r_c, r_i, r_l]
  try simp only [md_s, md_w, rget_some, r_a, r_b, r_c, r_i, r_l, r_nx, r_pc, Nat.reduceEqDiff, false_and, if_false]
  refine X_ldcS (i := 10) (by decide) rfl rfl ?_
  refine X_cS (args := [.ref (gSk g 10)]) rfl (by decide) rfl rfl (Nat.le_of_ble_eq_true rfl) (c_code (d := d) (by decide)) ?_
  rintro _ _ ⟨rfl, rfl⟩
  have x10 := li (n := 11) (10 : Int32) rfl (show 10 < 11 by decide) (by decide)
  refine X_runN 1 rfl ?_ ?_
  · simp [md_s, md_w, rget, r_a, r_b, r_c, r_i, r_l, hna.1, hna.2, x10]
  try simp only [md_s, md_w, rget_some, r_a, r_b, r_c, r_i, r_l, r_nx, r_pc, Nat.reduceEqDiff, false_and, if_false, hna.1, hna.2, x10]
  obtain ⟨K11, eK11⟩ : ∃ KK, KK = pal K10 (Y + 3) 10 (c37 (kwW 10)) := ⟨_, rfl⟩
  have k11 := kw_step k10 eK11
  skip
  refine eg_mem (M' := md Sa K11) ?_ (by rw [eK11])
  have hAn : Acc S2 Sa D2 K11 (s_sz S2) 1 := by
    rw [eK11, eK10, eK9, eK8, eK7, eK6, eK5, eK4, eK3, eK2, eK1]
    exact ((((((((((hAa.alN (by omega)).alN (by omega)).alN (by omega)).alN (by omega)).alN (by omega)).alN (by omega)).alN (by omega)).alN (by omega)).alN (by omega)).alN (by omega)).alN (by omega)
  clear eK1 eK2 eK3 eK4 eK5 eK6 eK7 eK8 eK9 eK10 eK11 k0 k1 k2 k3 k4 k5 k6 k7 k8 k9 k10 x0 x1 x2 x3 x4 x5 x6 x7 x8 x9 x10
  refine X_runN 1 rfl ?_ ?_
  · simp [md_s, md_w, rget, r_a, r_b, r_c, r_i, r_l, tb, w_fr_md]
  try simp only [md_s, md_w, rget_some, r_a, r_b, r_c, r_i, r_l, r_nx, r_pc, Nat.reduceEqDiff, false_and, if_false, tb, w_fr_md]
  obtain ⟨y1, y2, y3, y4, y5⟩ := subStep (k := 358) (v := some (Y + 3)) (o := Y) (by omega) hAn (Acc.rf (S := Sa) (D := K11) (o := s_sz S2)) rfl
  refine eg_mem (M' := md (pfr Sa 358 Y (some (Y + 3))) K11) ?_ rfl
  have A3 := A2.call' y2 (Or.inl rfl)
  have z3 := y1
  rw [z2] at z3
  have t3 := y5.trans t2
  have f353_3 := (y3 353 (by decide)).trans f353_2
  have f356_3 := (y3 356 (by decide)).trans f356_2
  have f358_3 := y4
  have Ta_3 := Ta_2.acc y2 (by omega)
  have Pa_3 := Pa_2.acc y2 (by omega)
  have Ka_3 : AtL (pfr Sa 358 Y (some (Y + 3))) (Y + 3) 21 11 := hna
  clear y1 y2 y3 y4 y5
  have kw_3 := k11
  clear ez hGa hsa hna hAa hAn hAk ea tb k11 
  generalize pfr Sa 358 Y (some (Y + 3)) = S3 at *
  generalize K11 = D3 at *
  refine X_runN 2 rfl ?_ ?_
  · simp [md_s, md_w, rget, r_a, r_b, r_c, r_i, r_l, t3]
  try simp only [md_s, md_w, rget_some, r_a, r_b, r_c, r_i, r_l, r_nx, r_pc, Nat.reduceEqDiff, false_and, if_false, t3]
  refine X_newarray (a := 0) (N := 402) rfl (by decide) rfl (by decide) ?_
  obtain ⟨Sa, Da, ea, hGa, hsa, hna, -, hAa⟩ := newA S3 D3 20 402
  rw [show w_new (md S3 D3) (0 + 20) 402 = md Sa Da from ea]
  have tb : s_tg Sa Y = 12 := (hAa.tg (by omega)).trans t3
  refine X_runN 1 rfl ?_ ?_
  · simp [md_s, md_w, rget, r_a, r_b, r_c, r_i, r_l, tb, w_fr_md]
  try simp only [md_s, md_w, rget_some, r_a, r_b, r_c, r_i, r_l, r_nx, r_pc, Nat.reduceEqDiff, false_and, if_false, tb, w_fr_md]
  have ez : s_sz S3 = Y + 4 := by omega
  refine eg_mem (M' := md (pfr Sa 360 Y (some (Y + 4))) Da) ?_ (by rw [← ez])
  obtain ⟨y1, y2, y3, y4, y5⟩ := subStep (k := 360) (v := some (Y + 4)) (o := Y) (by omega) hAa (Acc.rf (S := Sa) (D := Da) (o := s_sz S3)) rfl
  rw [ez] at hna
  have A4 := A3.call' y2 (Or.inl rfl)
  have z4 := y1
  rw [z3] at z4
  have t4 := y5.trans t3
  have f353_4 := (y3 353 (by decide)).trans f353_3
  have f356_4 := (y3 356 (by decide)).trans f356_3
  have f358_4 := (y3 358 (by decide)).trans f358_3
  have f360_4 := y4
  have Ta_4 := Ta_3.acc y2 (by omega)
  have Pa_4 := Pa_3.acc y2 (by omega)
  have Ka_4 := Ka_3.acc y2 (by omega)
  have B4_4 : AtL (pfr Sa 360 Y (some (Y + 4))) (Y + 4) 20 402 := hna
  have kw_4 : ∀ j, j < 11 → d_al Da (Y + 3) j = c37 (kwW j) := fun j hj => by rw [(y2.2.2.1 (Y + 3) (by omega)).2.2.2]; exact kw_3 j hj
  clear y1 y2 y3 y4 y5
  clear ez hGa hsa hna hAa ea tb
  generalize pfr Sa 360 Y (some (Y + 4)) = S4 at *
  generalize Da = D4 at *
  refine X_runN 2 rfl ?_ ?_
  · simp [md_s, md_w, rget, r_a, r_b, r_c, r_i, r_l, t4]
  try simp only [md_s, md_w, rget_some, r_a, r_b, r_c, r_i, r_l, r_nx, r_pc, Nat.reduceEqDiff, false_and, if_false, t4]
  refine X_newarray (a := 0) (N := 402) rfl (by decide) rfl (by decide) ?_
  obtain ⟨Sa, Da, ea, hGa, hsa, hna, -, hAa⟩ := newA S4 D4 20 402
  rw [show w_new (md S4 D4) (0 + 20) 402 = md Sa Da from ea]
  have tb : s_tg Sa Y = 12 := (hAa.tg (by omega)).trans t4
  refine X_runN 1 rfl ?_ ?_
  · simp [md_s, md_w, rget, r_a, r_b, r_c, r_i, r_l, tb, w_fr_md]
  try simp only [md_s, md_w, rget_some, r_a, r_b, r_c, r_i, r_l, r_nx, r_pc, Nat.reduceEqDiff, false_and, if_false, tb, w_fr_md]
  have ez : s_sz S4 = Y + 5 := by omega
  refine eg_mem (M' := md (pfr Sa 361 Y (some (Y + 5))) Da) ?_ (by rw [← ez])
  obtain ⟨y1, y2, y3, y4, y5⟩ := subStep (k := 361) (v := some (Y + 5)) (o := Y) (by omega) hAa (Acc.rf (S := Sa) (D := Da) (o := s_sz S4)) rfl
  rw [ez] at hna
  have A5 := A4.call' y2 (Or.inl rfl)
  have z5 := y1
  rw [z4] at z5
  have t5 := y5.trans t4
  have f353_5 := (y3 353 (by decide)).trans f353_4
  have f356_5 := (y3 356 (by decide)).trans f356_4
  have f358_5 := (y3 358 (by decide)).trans f358_4
  have f360_5 := (y3 360 (by decide)).trans f360_4
  have f361_5 := y4
  have Ta_5 := Ta_4.acc y2 (by omega)
  have Pa_5 := Pa_4.acc y2 (by omega)
  have Ka_5 := Ka_4.acc y2 (by omega)
  have B4_5 := B4_4.acc y2 (by omega)
  have B5_5 : AtL (pfr Sa 361 Y (some (Y + 5))) (Y + 5) 20 402 := hna
  have kw_5 : ∀ j, j < 11 → d_al Da (Y + 3) j = c37 (kwW j) := fun j hj => by rw [(y2.2.2.1 (Y + 3) (by omega)).2.2.2]; exact kw_4 j hj
  clear y1 y2 y3 y4 y5
  clear ez hGa hsa hna hAa ea tb
  generalize pfr Sa 361 Y (some (Y + 5)) = S5 at *
  generalize Da = D5 at *
  refine X_runN 2 rfl ?_ ?_
  · simp [md_s, md_w, rget, r_a, r_b, r_c, r_i, r_l, t5]
  try simp only [md_s, md_w, rget_some, r_a, r_b, r_c, r_i, r_l, r_nx, r_pc, Nat.reduceEqDiff, false_and, if_false, t5]
  refine X_newarray (a := 0) (N := 402) rfl (by decide) rfl (by decide) ?_
  obtain ⟨Sa, Da, ea, hGa, hsa, hna, -, hAa⟩ := newA S5 D5 20 402
  rw [show w_new (md S5 D5) (0 + 20) 402 = md Sa Da from ea]
  have tb : s_tg Sa Y = 12 := (hAa.tg (by omega)).trans t5
  refine X_runN 1 rfl ?_ ?_
  · simp [md_s, md_w, rget, r_a, r_b, r_c, r_i, r_l, tb, w_fr_md]
  try simp only [md_s, md_w, rget_some, r_a, r_b, r_c, r_i, r_l, r_nx, r_pc, Nat.reduceEqDiff, false_and, if_false, tb, w_fr_md]
  have ez : s_sz S5 = Y + 6 := by omega
  refine eg_mem (M' := md (pfr Sa 362 Y (some (Y + 6))) Da) ?_ (by rw [← ez])
  obtain ⟨y1, y2, y3, y4, y5⟩ := subStep (k := 362) (v := some (Y + 6)) (o := Y) (by omega) hAa (Acc.rf (S := Sa) (D := Da) (o := s_sz S5)) rfl
  rw [ez] at hna
  have A6 := A5.call' y2 (Or.inl rfl)
  have z6 := y1
  rw [z5] at z6
  have t6 := y5.trans t5
  have f353_6 := (y3 353 (by decide)).trans f353_5
  have f356_6 := (y3 356 (by decide)).trans f356_5
  have f358_6 := (y3 358 (by decide)).trans f358_5
  have f360_6 := (y3 360 (by decide)).trans f360_5
  have f361_6 := (y3 361 (by decide)).trans f361_5
  have f362_6 := y4
  have Ta_6 := Ta_5.acc y2 (by omega)
  have Pa_6 := Pa_5.acc y2 (by omega)
  have Ka_6 := Ka_5.acc y2 (by omega)
  have B4_6 := B4_5.acc y2 (by omega)
  have B5_6 := B5_5.acc y2 (by omega)
  have B6_6 : AtL (pfr Sa 362 Y (some (Y + 6))) (Y + 6) 20 402 := hna
  have kw_6 : ∀ j, j < 11 → d_al Da (Y + 3) j = c37 (kwW j) := fun j hj => by rw [(y2.2.2.1 (Y + 3) (by omega)).2.2.2]; exact kw_5 j hj
  clear y1 y2 y3 y4 y5
  clear ez hGa hsa hna hAa ea tb
  generalize pfr Sa 362 Y (some (Y + 6)) = S6 at *
  generalize Da = D6 at *
  refine X_runN 2 rfl ?_ ?_
  · simp [md_s, md_w, rget, r_a, r_b, r_c, r_i, r_l, t6]
  try simp only [md_s, md_w, rget_some, r_a, r_b, r_c, r_i, r_l, r_nx, r_pc, Nat.reduceEqDiff, false_and, if_false, t6]
  refine X_newarray (a := 1) (N := 402) rfl (by decide) rfl (by decide) ?_
  obtain ⟨Sa, Da, ea, hGa, hsa, hna, -, hAa⟩ := newA S6 D6 21 402
  rw [show w_new (md S6 D6) (1 + 20) 402 = md Sa Da from ea]
  have tb : s_tg Sa Y = 12 := (hAa.tg (by omega)).trans t6
  refine X_runN 1 rfl ?_ ?_
  · simp [md_s, md_w, rget, r_a, r_b, r_c, r_i, r_l, tb, w_fr_md]
  try simp only [md_s, md_w, rget_some, r_a, r_b, r_c, r_i, r_l, r_nx, r_pc, Nat.reduceEqDiff, false_and, if_false, tb, w_fr_md]
  have ez : s_sz S6 = Y + 7 := by omega
  refine eg_mem (M' := md (pfr Sa 363 Y (some (Y + 7))) Da) ?_ (by rw [← ez])
  obtain ⟨y1, y2, y3, y4, y5⟩ := subStep (k := 363) (v := some (Y + 7)) (o := Y) (by omega) hAa (Acc.rf (S := Sa) (D := Da) (o := s_sz S6)) rfl
  rw [ez] at hna
  have A7 := A6.call' y2 (Or.inl rfl)
  have z7 := y1
  rw [z6] at z7
  have t7 := y5.trans t6
  have f353_7 := (y3 353 (by decide)).trans f353_6
  have f356_7 := (y3 356 (by decide)).trans f356_6
  have f358_7 := (y3 358 (by decide)).trans f358_6
  have f360_7 := (y3 360 (by decide)).trans f360_6
  have f361_7 := (y3 361 (by decide)).trans f361_6
  have f362_7 := (y3 362 (by decide)).trans f362_6
  have f363_7 := y4
  have Ta_7 := Ta_6.acc y2 (by omega)
  have Pa_7 := Pa_6.acc y2 (by omega)
  have Ka_7 := Ka_6.acc y2 (by omega)
  have B4_7 := B4_6.acc y2 (by omega)
  have B5_7 := B5_6.acc y2 (by omega)
  have B6_7 := B6_6.acc y2 (by omega)
  have B7_7 : AtL (pfr Sa 363 Y (some (Y + 7))) (Y + 7) 21 402 := hna
  have kw_7 : ∀ j, j < 11 → d_al Da (Y + 3) j = c37 (kwW j) := fun j hj => by rw [(y2.2.2.1 (Y + 3) (by omega)).2.2.2]; exact kw_6 j hj
  clear y1 y2 y3 y4 y5
  clear ez hGa hsa hna hAa ea tb
  generalize pfr Sa 363 Y (some (Y + 7)) = S7 at *
  generalize Da = D7 at *
  refine X_runN 1 rfl ?_ ?_
  · simp [md_s, md_w, rget, r_a, r_b, r_c, r_i, r_l, t7]
  try simp only [md_s, md_w, rget_some, r_a, r_b, r_c, r_i, r_l, r_nx, r_pc, Nat.reduceEqDiff, false_and, if_false, t7]
  refine X_new (n := 0) (N := 25) rfl (by decide) (fun q hq => by cases hq; rfl) ?_
  obtain ⟨Sa, Da, ea, hGa, hsa, hna, -, hAa⟩ := newA S7 D7 11 0
  rw [show w_new (md S7 D7) (10 + 1) 0 = md Sa Da from ea]
  refine X_run rfl trivial ?_
  refine X_callI (bc1 := 19) (bs1 := 795) (args := [.ref Y]) rfl (by decide) rfl rfl (Nat.le_of_ble_eq_true rfl) (c_mk10 hna.1 (by show s_sz Sa = s_sz S7 + 1; omega)) ?_
  rintro _ _ ⟨Sb, Db, rfl, rfl, hAb, hRb⟩
  have tb : s_tg Sb Y = 12 := (hAb.tg (by omega)).trans ((hAa.tg (by omega)).trans t7)
  refine X_runN 1 rfl ?_ ?_
  · simp [md_s, md_w, rget, r_a, r_b, r_c, r_i, r_l, tb, w_fr_md]
  try simp only [md_s, md_w, rget_some, r_a, r_b, r_c, r_i, r_l, r_nx, r_pc, Nat.reduceEqDiff, false_and, if_false, tb, w_fr_md]
  have hRb : StL Sb (s_sz S7) := hRb
  have ez : s_sz S7 = Y + 8 := by omega
  rw [ez] at hRb
  refine eg_mem (M' := md (pfr Sb 365 Y (some (Y + 8))) Db) ?_ (by rw [← ez])
  obtain ⟨y1, y2, y3, y4, y5⟩ := subStep (k := 365) (v := some (Y + 8)) (o := Y) (by omega) hAa hAb rfl
  have A8 := A7.call' y2 (Or.inl rfl)
  have z8 := y1
  rw [z7] at z8
  have t8 := y5.trans t7
  have f353_8 := (y3 353 (by decide)).trans f353_7
  have f356_8 := (y3 356 (by decide)).trans f356_7
  have f358_8 := (y3 358 (by decide)).trans f358_7
  have f360_8 := (y3 360 (by decide)).trans f360_7
  have f361_8 := (y3 361 (by decide)).trans f361_7
  have f362_8 := (y3 362 (by decide)).trans f362_7
  have f363_8 := (y3 363 (by decide)).trans f363_7
  have f365_8 := y4
  have Ta_8 := Ta_7.acc y2 (by omega)
  have Pa_8 := Pa_7.acc y2 (by omega)
  have Ka_8 := Ka_7.acc y2 (by omega)
  have B4_8 := B4_7.acc y2 (by omega)
  have B5_8 := B5_7.acc y2 (by omega)
  have B6_8 := B6_7.acc y2 (by omega)
  have B7_8 := B7_7.acc y2 (by omega)
  have C1_8 : StL (pfr Sb 365 Y (some (Y + 8))) (Y + 8) := hRb.sam (sam_pfr (by omega))
  have kw_8 : ∀ j, j < 11 → d_al Db (Y + 3) j = c37 (kwW j) := fun j hj => by rw [(y2.2.2.1 (Y + 3) (by omega)).2.2.2]; exact kw_7 j hj
  clear y1 y2 y3 y4 y5
  clear ez hGa hsa hna hAa hAb hRb ea tb
  generalize pfr Sb 365 Y (some (Y + 8)) = S8 at *
  generalize Db = D8 at *
  refine X_runN 1 rfl ?_ ?_
  · simp [md_s, md_w, rget, r_a, r_b, r_c, r_i, r_l, t8]
  try simp only [md_s, md_w, rget_some, r_a, r_b, r_c, r_i, r_l, r_nx, r_pc, Nat.reduceEqDiff, false_and, if_false, t8]
  refine X_new (n := 0) (N := 25) rfl (by decide) (fun q hq => by cases hq; rfl) ?_
  obtain ⟨Sa, Da, ea, hGa, hsa, hna, -, hAa⟩ := newA S8 D8 11 0
  rw [show w_new (md S8 D8) (10 + 1) 0 = md Sa Da from ea]
  refine X_run rfl trivial ?_
  refine X_callI (bc1 := 19) (bs1 := 795) (args := [.ref Y]) rfl (by decide) rfl rfl (Nat.le_of_ble_eq_true rfl) (c_mk10 hna.1 (by show s_sz Sa = s_sz S8 + 1; omega)) ?_
  rintro _ _ ⟨Sb, Db, rfl, rfl, hAb, hRb⟩
  have tb : s_tg Sb Y = 12 := (hAb.tg (by omega)).trans ((hAa.tg (by omega)).trans t8)
  refine X_runN 1 rfl ?_ ?_
  · simp [md_s, md_w, rget, r_a, r_b, r_c, r_i, r_l, tb, w_fr_md]
  try simp only [md_s, md_w, rget_some, r_a, r_b, r_c, r_i, r_l, r_nx, r_pc, Nat.reduceEqDiff, false_and, if_false, tb, w_fr_md]
  have hRb : StL Sb (s_sz S8) := hRb
  have ez : s_sz S8 = Y + 28 := by omega
  rw [ez] at hRb
  refine eg_mem (M' := md (pfr Sb 366 Y (some (Y + 28))) Db) ?_ (by rw [← ez])
  obtain ⟨y1, y2, y3, y4, y5⟩ := subStep (k := 366) (v := some (Y + 28)) (o := Y) (by omega) hAa hAb rfl
  have A9 := A8.call' y2 (Or.inl rfl)
  have z9 := y1
  rw [z8] at z9
  have t9 := y5.trans t8
  have f353_9 := (y3 353 (by decide)).trans f353_8
  have f356_9 := (y3 356 (by decide)).trans f356_8
  have f358_9 := (y3 358 (by decide)).trans f358_8
  have f360_9 := (y3 360 (by decide)).trans f360_8
  have f361_9 := (y3 361 (by decide)).trans f361_8
  have f362_9 := (y3 362 (by decide)).trans f362_8
  have f363_9 := (y3 363 (by decide)).trans f363_8
  have f365_9 := (y3 365 (by decide)).trans f365_8
  have f366_9 := y4
  have Ta_9 := Ta_8.acc y2 (by omega)
  have Pa_9 := Pa_8.acc y2 (by omega)
  have Ka_9 := Ka_8.acc y2 (by omega)
  have B4_9 := B4_8.acc y2 (by omega)
  have B5_9 := B5_8.acc y2 (by omega)
  have B6_9 := B6_8.acc y2 (by omega)
  have B7_9 := B7_8.acc y2 (by omega)
  have C1_9 := C1_8.sam (y2.sam (by omega) (by omega))
  have C2_9 : StL (pfr Sb 366 Y (some (Y + 28))) (Y + 28) := hRb.sam (sam_pfr (by omega))
  have kw_9 : ∀ j, j < 11 → d_al Db (Y + 3) j = c37 (kwW j) := fun j hj => by rw [(y2.2.2.1 (Y + 3) (by omega)).2.2.2]; exact kw_8 j hj
  clear y1 y2 y3 y4 y5
  clear ez hGa hsa hna hAa hAb hRb ea tb
  generalize pfr Sb 366 Y (some (Y + 28)) = S9 at *
  generalize Db = D9 at *
  exact X_vret rfl rfl ⟨S9, D9, rfl, rfl, A9.trans' rfl, ⟨⟨t9, f353_9, f356_9, f358_9, f360_9, f361_9, f362_9, f363_9, f365_9, f366_9⟩, ⟨Ta_9, Pa_9, Ka_9, B4_9, B5_9, B6_9, B7_9⟩, ⟨C1_9, C2_9⟩, Or.inl ⟨rfl, rfl⟩⟩, kw_9⟩
end MKMODEL
