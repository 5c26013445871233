/-! making a state of the reference -/
def stT : Nat → Nat
  | 0 => 21 | 3 => 21 | _ => 20
def stN : Nat → Nat
  | 0 => 10 | 1 => 10 | 2 => 10 | 3 => 5 | 4 => 5 | 5 => 5 | 6 => 50 | 7 => 50 | 18 => 50 | _ => 60
theorem stStep {S Si Sa : ShT} {D Di Da : DaT} {A i k : Nat} (hk : k = 325 + i) (hz : s_sz S = A + 1) (hA : Acc S Si D Di A i) (hf : ∀ j, j < i → s_fr Si (325 + j) A = some (A + (1 + j))) (hT : ∀ j, j < i → AtL Si (A + (1 + j)) (stT j) (stN j)) (ht : s_tg Si A = 11) (hAa : Acc Si Sa Di Da (s_sz Si) 1) (hn : AtL Sa (s_sz Si) (stT i) (stN i)) :
    Acc S (pfr Sa k A (some (s_sz Si))) D Da A (i + 1) ∧ (∀ j, j < i + 1 → s_fr (pfr Sa k A (some (s_sz Si))) (325 + j) A = some (A + (1 + j))) ∧ (∀ j, j < i + 1 → AtL (pfr Sa k A (some (s_sz Si))) (A + (1 + j)) (stT j) (stN j)) ∧ s_tg (pfr Sa k A (some (s_sz Si))) A = 11 := by
  subst hk
  have hs := hA.1
  have ez : s_sz Si = A + (1 + i) := by omega
  refine ⟨(hA.call hAa (by omega)).put (Or.inl rfl), fun j hj => ?_, fun j hj => ?_, (hAa.tg (by omega)).trans ht⟩
  · rw [rd_fr]
    by_cases c : j = i
    · subst c
      rw [if_pos ⟨rfl, rfl⟩, ez]
    · rw [if_neg (by omega), hAa.fr (by omega) (by omega)]
      exact hf j (by omega)
  · by_cases c : j = i
    · subst c
      rw [← ez]
      exact hn
    · have h9 : AtL Sa (A + (1 + j)) (stT j) (stN j) := (hT j (by omega)).acc hAa (by omega)
      exact h9
section MKSTATE
variable {g : GG} {d : Nat} {S : ShT} {D : DaT} {A : Nat}
set_option maxRecDepth 20000 in
theorem c_mk10 {Y : Nat} (ht : s_tg S A = 11) (hz : s_sz S = A + 1) : EvM g (d + 1) mX10_init 19 795 [.ref A, .ref Y] (md S D) (fun v M1 => ∃ S1 D1, v = none ∧ M1 = md S1 D1 ∧ Acc S S1 D D1 A 19 ∧ StL S1 A) := by
  refine EvM.mk (by decide) (Nat.le_of_ble_eq_true rfl) ?_
  refine X_run rfl ?_ ?_
  · simp [md_s, md_w, rget, r_a, r_b, r_c, r_i, r_l, ht, w_fr_md]
  try simp only [md_s, md_w, rget_some, r_a, r_b, r_c, r_i, r_l, r_nx, r_pc, Nat.reduceEqDiff, false_and, if_false, ht, w_fr_md]
  have A0 : Acc S (pfr S 344 A (some Y)) D D A 0 := Acc.rf.put (Or.inl rfl)
  have t0 : s_tg (pfr S 344 A (some Y)) A = 11 := ht
  have F0 : ∀ j, j < 0 → s_fr (pfr S 344 A (some Y)) (325 + j) A = some (A + (1 + j)) := fun j hj => absurd hj (Nat.not_lt_zero _)
  have T0' : ∀ j, j < 0 → AtL (pfr S 344 A (some Y)) (A + (1 + j)) (stT j) (stN j) := fun j hj => absurd hj (Nat.not_lt_zero _)
  generalize pfr S 344 A (some Y) = S0 at *
  obtain ⟨D0, eD0⟩ : ∃ D0, D0 = D := ⟨_, rfl⟩
  refine eg_mem (M' := md S0 D0) ?_ (by rw [eD0])
  have A0 : Acc S S0 D D0 A 0 := by rw [eD0]; exact A0
  clear eD0
  refine X_obj (a := 0) rfl (Nat.le_of_ble_eq_true rfl) ?_
  refine X_run rfl trivial ?_
  refine X_newarray (a := 1) (N := 10) rfl (by decide) rfl (by decide) ?_
  obtain ⟨Sa, Da, ea, -, hsa, hna, -, hAa⟩ := newA S0 D0 21 10
  rw [show w_new (md S0 D0) (1 + 20) 10 = md Sa Da from ea]
  have zi := A0.1
  have tb : s_tg Sa A = 11 := (hAa.tg (by omega)).trans t0
  refine X_run rfl ?_ ?_
  · simp [md_s, md_w, rget, r_a, r_b, r_c, r_i, r_l, tb, w_fr_md]
  try simp only [md_s, md_w, rget_some, r_a, r_b, r_c, r_i, r_l, r_nx, r_pc, Nat.reduceEqDiff, false_and, if_false, tb, w_fr_md]
  obtain ⟨A1, F1, T1', t1⟩ := stStep (i := 0) (k := 325) rfl hz A0 F0 T0' t0 hAa hna
  clear zi tb hna hAa hsa ea
  generalize pfr Sa 325 A (some (s_sz S0)) = S1 at *
  generalize Da = D1 at *
  refine X_newarray (a := 0) (N := 10) rfl (by decide) rfl (by decide) ?_
  obtain ⟨Sa, Da, ea, -, hsa, hna, -, hAa⟩ := newA S1 D1 20 10
  rw [show w_new (md S1 D1) (0 + 20) 10 = md Sa Da from ea]
  have zi := A1.1
  have tb : s_tg Sa A = 11 := (hAa.tg (by omega)).trans t1
  refine X_run rfl ?_ ?_
  · simp [md_s, md_w, rget, r_a, r_b, r_c, r_i, r_l, tb, w_fr_md]
  try simp only [md_s, md_w, rget_some, r_a, r_b, r_c, r_i, r_l, r_nx, r_pc, Nat.reduceEqDiff, false_and, if_false, tb, w_fr_md]
  obtain ⟨A2, F2, T2', t2⟩ := stStep (i := 1) (k := 326) rfl hz A1 F1 T1' t1 hAa hna
  clear zi tb hna hAa hsa ea
  generalize pfr Sa 326 A (some (s_sz S1)) = S2 at *
  generalize Da = D2 at *
  refine X_newarray (a := 0) (N := 10) rfl (by decide) rfl (by decide) ?_
  obtain ⟨Sa, Da, ea, -, hsa, hna, -, hAa⟩ := newA S2 D2 20 10
  rw [show w_new (md S2 D2) (0 + 20) 10 = md Sa Da from ea]
  have zi := A2.1
  have tb : s_tg Sa A = 11 := (hAa.tg (by omega)).trans t2
  refine X_run rfl ?_ ?_
  · simp [md_s, md_w, rget, r_a, r_b, r_c, r_i, r_l, tb, w_fr_md]
  try simp only [md_s, md_w, rget_some, r_a, r_b, r_c, r_i, r_l, r_nx, r_pc, Nat.reduceEqDiff, false_and, if_false, tb, w_fr_md]
  obtain ⟨A3, F3, T3', t3⟩ := stStep (i := 2) (k := 327) rfl hz A2 F2 T2' t2 hAa hna
  clear zi tb hna hAa hsa ea
  generalize pfr Sa 327 A (some (s_sz S2)) = S3 at *
  generalize Da = D3 at *
  refine X_newarray (a := 1) (N := 5) rfl (by decide) rfl (by decide) ?_
  obtain ⟨Sa, Da, ea, -, hsa, hna, -, hAa⟩ := newA S3 D3 21 5
  rw [show w_new (md S3 D3) (1 + 20) 5 = md Sa Da from ea]
  have zi := A3.1
  have tb : s_tg Sa A = 11 := (hAa.tg (by omega)).trans t3
  refine X_run rfl ?_ ?_
  · simp [md_s, md_w, rget, r_a, r_b, r_c, r_i, r_l, tb, w_fr_md]
  try simp only [md_s, md_w, rget_some, r_a, r_b, r_c, r_i, r_l, r_nx, r_pc, Nat.reduceEqDiff, false_and, if_false, tb, w_fr_md]
  obtain ⟨A4, F4, T4', t4⟩ := stStep (i := 3) (k := 328) rfl hz A3 F3 T3' t3 hAa hna
  clear zi tb hna hAa hsa ea
  generalize pfr Sa 328 A (some (s_sz S3)) = S4 at *
  generalize Da = D4 at *
  refine X_newarray (a := 0) (N := 5) rfl (by decide) rfl (by decide) ?_
  obtain ⟨Sa, Da, ea, -, hsa, hna, -, hAa⟩ := newA S4 D4 20 5
  rw [show w_new (md S4 D4) (0 + 20) 5 = md Sa Da from ea]
  have zi := A4.1
  have tb : s_tg Sa A = 11 := (hAa.tg (by omega)).trans t4
  refine X_run rfl ?_ ?_
  · simp [md_s, md_w, rget, r_a, r_b, r_c, r_i, r_l, tb, w_fr_md]
  try simp only [md_s, md_w, rget_some, r_a, r_b, r_c, r_i, r_l, r_nx, r_pc, Nat.reduceEqDiff, false_and, if_false, tb, w_fr_md]
  obtain ⟨A5, F5, T5', t5⟩ := stStep (i := 4) (k := 329) rfl hz A4 F4 T4' t4 hAa hna
  clear zi tb hna hAa hsa ea
  generalize pfr Sa 329 A (some (s_sz S4)) = S5 at *
  generalize Da = D5 at *
  refine X_newarray (a := 0) (N := 5) rfl (by decide) rfl (by decide) ?_
  obtain ⟨Sa, Da, ea, -, hsa, hna, -, hAa⟩ := newA S5 D5 20 5
  rw [show w_new (md S5 D5) (0 + 20) 5 = md Sa Da from ea]
  have zi := A5.1
  have tb : s_tg Sa A = 11 := (hAa.tg (by omega)).trans t5
  refine X_run rfl ?_ ?_
  · simp [md_s, md_w, rget, r_a, r_b, r_c, r_i, r_l, tb, w_fr_md]
  try simp only [md_s, md_w, rget_some, r_a, r_b, r_c, r_i, r_l, r_nx, r_pc, Nat.reduceEqDiff, false_and, if_false, tb, w_fr_md]
  obtain ⟨A6, F6, T6', t6⟩ := stStep (i := 5) (k := 330) rfl hz A5 F5 T5' t5 hAa hna
  clear zi tb hna hAa hsa ea
  generalize pfr Sa 330 A (some (s_sz S5)) = S6 at *
  generalize Da = D6 at *
  refine X_newarray (a := 0) (N := 50) rfl (by decide) rfl (by decide) ?_
  obtain ⟨Sa, Da, ea, -, hsa, hna, -, hAa⟩ := newA S6 D6 20 50
  rw [show w_new (md S6 D6) (0 + 20) 50 = md Sa Da from ea]
  have zi := A6.1
  have tb : s_tg Sa A = 11 := (hAa.tg (by omega)).trans t6
  refine X_run rfl ?_ ?_
  · simp [md_s, md_w, rget, r_a, r_b, r_c, r_i, r_l, tb, w_fr_md]
  try simp only [md_s, md_w, rget_some, r_a, r_b, r_c, r_i, r_l, r_nx, r_pc, Nat.reduceEqDiff, false_and, if_false, tb, w_fr_md]
  obtain ⟨A7, F7, T7', t7⟩ := stStep (i := 6) (k := 331) rfl hz A6 F6 T6' t6 hAa hna
  clear zi tb hna hAa hsa ea
  generalize pfr Sa 331 A (some (s_sz S6)) = S7 at *
  generalize Da = D7 at *
  refine X_newarray (a := 0) (N := 50) rfl (by decide) rfl (by decide) ?_
  obtain ⟨Sa, Da, ea, -, hsa, hna, -, hAa⟩ := newA S7 D7 20 50
  rw [show w_new (md S7 D7) (0 + 20) 50 = md Sa Da from ea]
  have zi := A7.1
  have tb : s_tg Sa A = 11 := (hAa.tg (by omega)).trans t7
  refine X_run rfl ?_ ?_
  · simp [md_s, md_w, rget, r_a, r_b, r_c, r_i, r_l, tb, w_fr_md]
  try simp only [md_s, md_w, rget_some, r_a, r_b, r_c, r_i, r_l, r_nx, r_pc, Nat.reduceEqDiff, false_and, if_false, tb, w_fr_md]
  obtain ⟨A8, F8, T8', t8⟩ := stStep (i := 7) (k := 332) rfl hz A7 F7 T7' t7 hAa hna
  clear zi tb hna hAa hsa ea
  generalize pfr Sa 332 A (some (s_sz S7)) = S8 at *
  generalize Da = D8 at *
  refine X_newarray (a := 0) (N := 60) rfl (by decide) rfl (by decide) ?_
  obtain ⟨Sa, Da, ea, -, hsa, hna, -, hAa⟩ := newA S8 D8 20 60
  rw [show w_new (md S8 D8) (0 + 20) 60 = md Sa Da from ea]
  have zi := A8.1
  have tb : s_tg Sa A = 11 := (hAa.tg (by omega)).trans t8
  refine X_run rfl ?_ ?_
  · simp [md_s, md_w, rget, r_a, r_b, r_c, r_i, r_l, tb, w_fr_md]
  try simp only [md_s, md_w, rget_some, r_a, r_b, r_c, r_i, r_l, r_nx, r_pc, Nat.reduceEqDiff, false_and, if_false, tb, w_fr_md]
  obtain ⟨A9, F9, T9', t9⟩ := stStep (i := 8) (k := 333) rfl hz A8 F8 T8' t8 hAa hna
  clear zi tb hna hAa hsa ea
  generalize pfr Sa 333 A (some (s_sz S8)) = S9 at *
  generalize Da = D9 at *
  refine X_newarray (a := 0) (N := 60) rfl (by decide) rfl (by decide) ?_
  obtain ⟨Sa, Da, ea, -, hsa, hna, -, hAa⟩ := newA S9 D9 20 60
  rw [show w_new (md S9 D9) (0 + 20) 60 = md Sa Da from ea]
  have zi := A9.1
  have tb : s_tg Sa A = 11 := (hAa.tg (by omega)).trans t9
  refine X_run rfl ?_ ?_
  · simp [md_s, md_w, rget, r_a, r_b, r_c, r_i, r_l, tb, w_fr_md]
  try simp only [md_s, md_w, rget_some, r_a, r_b, r_c, r_i, r_l, r_nx, r_pc, Nat.reduceEqDiff, false_and, if_false, tb, w_fr_md]
  obtain ⟨A10, F10, T10', t10⟩ := stStep (i := 9) (k := 334) rfl hz A9 F9 T9' t9 hAa hna
  clear zi tb hna hAa hsa ea
  generalize pfr Sa 334 A (some (s_sz S9)) = S10 at *
  generalize Da = D10 at *
  refine X_newarray (a := 0) (N := 60) rfl (by decide) rfl (by decide) ?_
  obtain ⟨Sa, Da, ea, -, hsa, hna, -, hAa⟩ := newA S10 D10 20 60
  rw [show w_new (md S10 D10) (0 + 20) 60 = md Sa Da from ea]
  have zi := A10.1
  have tb : s_tg Sa A = 11 := (hAa.tg (by omega)).trans t10
  refine X_run rfl ?_ ?_
  · simp [md_s, md_w, rget, r_a, r_b, r_c, r_i, r_l, tb, w_fr_md]
  try simp only [md_s, md_w, rget_some, r_a, r_b, r_c, r_i, r_l, r_nx, r_pc, Nat.reduceEqDiff, false_and, if_false, tb, w_fr_md]
  obtain ⟨A11, F11, T11', t11⟩ := stStep (i := 10) (k := 335) rfl hz A10 F10 T10' t10 hAa hna
  clear zi tb hna hAa hsa ea
  generalize pfr Sa 335 A (some (s_sz S10)) = S11 at *
  generalize Da = D11 at *
  refine X_newarray (a := 0) (N := 60) rfl (by decide) rfl (by decide) ?_
  obtain ⟨Sa, Da, ea, -, hsa, hna, -, hAa⟩ := newA S11 D11 20 60
  rw [show w_new (md S11 D11) (0 + 20) 60 = md Sa Da from ea]
  have zi := A11.1
  have tb : s_tg Sa A = 11 := (hAa.tg (by omega)).trans t11
  refine X_run rfl ?_ ?_
  · simp [md_s, md_w, rget, r_a, r_b, r_c, r_i, r_l, tb, w_fr_md]
  try simp only [md_s, md_w, rget_some, r_a, r_b, r_c, r_i, r_l, r_nx, r_pc, Nat.reduceEqDiff, false_and, if_false, tb, w_fr_md]
  obtain ⟨A12, F12, T12', t12⟩ := stStep (i := 11) (k := 336) rfl hz A11 F11 T11' t11 hAa hna
  clear zi tb hna hAa hsa ea
  generalize pfr Sa 336 A (some (s_sz S11)) = S12 at *
  generalize Da = D12 at *
  refine X_newarray (a := 0) (N := 60) rfl (by decide) rfl (by decide) ?_
  obtain ⟨Sa, Da, ea, -, hsa, hna, -, hAa⟩ := newA S12 D12 20 60
  rw [show w_new (md S12 D12) (0 + 20) 60 = md Sa Da from ea]
  have zi := A12.1
  have tb : s_tg Sa A = 11 := (hAa.tg (by omega)).trans t12
  refine X_run rfl ?_ ?_
  · simp [md_s, md_w, rget, r_a, r_b, r_c, r_i, r_l, tb, w_fr_md]
  try simp only [md_s, md_w, rget_some, r_a, r_b, r_c, r_i, r_l, r_nx, r_pc, Nat.reduceEqDiff, false_and, if_false, tb, w_fr_md]
  obtain ⟨A13, F13, T13', t13⟩ := stStep (i := 12) (k := 337) rfl hz A12 F12 T12' t12 hAa hna
  clear zi tb hna hAa hsa ea
  generalize pfr Sa 337 A (some (s_sz S12)) = S13 at *
  generalize Da = D13 at *
  refine X_newarray (a := 0) (N := 60) rfl (by decide) rfl (by decide) ?_
  obtain ⟨Sa, Da, ea, -, hsa, hna, -, hAa⟩ := newA S13 D13 20 60
  rw [show w_new (md S13 D13) (0 + 20) 60 = md Sa Da from ea]
  have zi := A13.1
  have tb : s_tg Sa A = 11 := (hAa.tg (by omega)).trans t13
  refine X_run rfl ?_ ?_
  · simp [md_s, md_w, rget, r_a, r_b, r_c, r_i, r_l, tb, w_fr_md]
  try simp only [md_s, md_w, rget_some, r_a, r_b, r_c, r_i, r_l, r_nx, r_pc, Nat.reduceEqDiff, false_and, if_false, tb, w_fr_md]
  obtain ⟨A14, F14, T14', t14⟩ := stStep (i := 13) (k := 338) rfl hz A13 F13 T13' t13 hAa hna
  clear zi tb hna hAa hsa ea
  generalize pfr Sa 338 A (some (s_sz S13)) = S14 at *
  generalize Da = D14 at *
  refine X_newarray (a := 0) (N := 60) rfl (by decide) rfl (by decide) ?_
  obtain ⟨Sa, Da, ea, -, hsa, hna, -, hAa⟩ := newA S14 D14 20 60
  rw [show w_new (md S14 D14) (0 + 20) 60 = md Sa Da from ea]
  have zi := A14.1
  have tb : s_tg Sa A = 11 := (hAa.tg (by omega)).trans t14
  refine X_run rfl ?_ ?_
  · simp [md_s, md_w, rget, r_a, r_b, r_c, r_i, r_l, tb, w_fr_md]
  try simp only [md_s, md_w, rget_some, r_a, r_b, r_c, r_i, r_l, r_nx, r_pc, Nat.reduceEqDiff, false_and, if_false, tb, w_fr_md]
  obtain ⟨A15, F15, T15', t15⟩ := stStep (i := 14) (k := 339) rfl hz A14 F14 T14' t14 hAa hna
  clear zi tb hna hAa hsa ea
  generalize pfr Sa 339 A (some (s_sz S14)) = S15 at *
  generalize Da = D15 at *
  refine X_newarray (a := 0) (N := 60) rfl (by decide) rfl (by decide) ?_
  obtain ⟨Sa, Da, ea, -, hsa, hna, -, hAa⟩ := newA S15 D15 20 60
  rw [show w_new (md S15 D15) (0 + 20) 60 = md Sa Da from ea]
  have zi := A15.1
  have tb : s_tg Sa A = 11 := (hAa.tg (by omega)).trans t15
  refine X_run rfl ?_ ?_
  · simp [md_s, md_w, rget, r_a, r_b, r_c, r_i, r_l, tb, w_fr_md]
  try simp only [md_s, md_w, rget_some, r_a, r_b, r_c, r_i, r_l, r_nx, r_pc, Nat.reduceEqDiff, false_and, if_false, tb, w_fr_md]
  obtain ⟨A16, F16, T16', t16⟩ := stStep (i := 15) (k := 340) rfl hz A15 F15 T15' t15 hAa hna
  clear zi tb hna hAa hsa ea
  generalize pfr Sa 340 A (some (s_sz S15)) = S16 at *
  generalize Da = D16 at *
  refine X_newarray (a := 0) (N := 60) rfl (by decide) rfl (by decide) ?_
  obtain ⟨Sa, Da, ea, -, hsa, hna, -, hAa⟩ := newA S16 D16 20 60
  rw [show w_new (md S16 D16) (0 + 20) 60 = md Sa Da from ea]
  have zi := A16.1
  have tb : s_tg Sa A = 11 := (hAa.tg (by omega)).trans t16
  refine X_run rfl ?_ ?_
  · simp [md_s, md_w, rget, r_a, r_b, r_c, r_i, r_l, tb, w_fr_md]
  try simp only [md_s, md_w, rget_some, r_a, r_b, r_c, r_i, r_l, r_nx, r_pc, Nat.reduceEqDiff, false_and, if_false, tb, w_fr_md]
  obtain ⟨A17, F17, T17', t17⟩ := stStep (i := 16) (k := 341) rfl hz A16 F16 T16' t16 hAa hna
  clear zi tb hna hAa hsa ea
  generalize pfr Sa 341 A (some (s_sz S16)) = S17 at *
  generalize Da = D17 at *
  refine X_newarray (a := 0) (N := 60) rfl (by decide) rfl (by decide) ?_
  obtain ⟨Sa, Da, ea, -, hsa, hna, -, hAa⟩ := newA S17 D17 20 60
  rw [show w_new (md S17 D17) (0 + 20) 60 = md Sa Da from ea]
  have zi := A17.1
  have tb : s_tg Sa A = 11 := (hAa.tg (by omega)).trans t17
  refine X_run rfl ?_ ?_
  · simp [md_s, md_w, rget, r_a, r_b, r_c, r_i, r_l, tb, w_fr_md]
  try simp only [md_s, md_w, rget_some, r_a, r_b, r_c, r_i, r_l, r_nx, r_pc, Nat.reduceEqDiff, false_and, if_false, tb, w_fr_md]
  obtain ⟨A18, F18, T18', t18⟩ := stStep (i := 17) (k := 342) rfl hz A17 F17 T17' t17 hAa hna
  clear zi tb hna hAa hsa ea
  generalize pfr Sa 342 A (some (s_sz S17)) = S18 at *
  generalize Da = D18 at *
  refine X_newarray (a := 0) (N := 50) rfl (by decide) rfl (by decide) ?_
  obtain ⟨Sa, Da, ea, -, hsa, hna, -, hAa⟩ := newA S18 D18 20 50
  rw [show w_new (md S18 D18) (0 + 20) 50 = md Sa Da from ea]
  have zi := A18.1
  have tb : s_tg Sa A = 11 := (hAa.tg (by omega)).trans t18
  refine X_run rfl ?_ ?_
  · simp [md_s, md_w, rget, r_a, r_b, r_c, r_i, r_l, tb, w_fr_md]
  try simp only [md_s, md_w, rget_some, r_a, r_b, r_c, r_i, r_l, r_nx, r_pc, Nat.reduceEqDiff, false_and, if_false, tb, w_fr_md]
  obtain ⟨A19, F19, T19', t19⟩ := stStep (i := 18) (k := 343) rfl hz A18 F18 T18' t18 hAa hna
  clear zi tb hna hAa hsa ea
  generalize pfr Sa 343 A (some (s_sz S18)) = S19 at *
  generalize Da = D19 at *
  refine X_vret rfl rfl ⟨S19, D19, rfl, rfl, A19, t19, F19, T19' 0 (by decide), T19' 1 (by decide), T19' 2 (by decide), T19' 3 (by decide), T19' 4 (by decide), T19' 5 (by decide), T19' 6 (by decide), T19' 7 (by decide), fun i hi => ?_, T19' 18 (by decide)⟩
  have h := T19' (8 + i) (by omega)
  rw [show A + (1 + (8 + i)) = A + (9 + i) by omega] at h
  match i, hi with
  | 0, _ => exact h
  | 1, _ => exact h
  | 2, _ => exact h
  | 3, _ => exact h
  | 4, _ => exact h
  | 5, _ => exact h
  | 6, _ => exact h
  | 7, _ => exact h
  | 8, _ => exact h
  | 9, _ => exact h
  | n + 10, hi => exact absurd hi (by omega)
end MKSTATE
