/-! making: the constructors without loops -/
theorem subStep {Si Sa Sb : ShT} {Di Da Db : DaT} {o k j n : Nat} {v : Option Nat} (hz : o < s_sz Si) (hAa : Acc Si Sa Di Da (s_sz Si) 1) (hAb : Acc Sa Sb Da Db (s_sz Si) j) (e : n = 1 + j) :
    s_sz (pfr Sb k o v) = s_sz Si + n ∧ Acc Si (pfr Sb k o v) Di Db o n ∧ (∀ q, q ≠ k → s_fr (pfr Sb k o v) q o = s_fr Si q o) ∧ s_fr (pfr Sb k o v) k o = v ∧ s_tg (pfr Sb k o v) o = s_tg Si o := by
  subst e
  have hA : Acc Si Sb Di Db o (1 + j) := ((Acc.rf.call hAa (Nat.le_refl _)).call hAb (Nat.le_refl _)).trans' (by omega)
  have h1 := hAa.1
  refine ⟨hA.1, hA.put (Or.inl rfl), fun q hq => ?_, by rw [rd_fr, if_pos ⟨rfl, rfl⟩], (hA.tg hz)⟩
  rw [rd_fr, if_neg (fun z => hq z.1), hAb.fr (by omega) (by omega), hAa.fr hz (by omega)]
theorem putStep {Si : ShT} {Di : DaT} {o k : Nat} {v : Option Nat} : s_sz (pfr Si k o v) = s_sz Si ∧ Acc Si (pfr Si k o v) Di Di o 0 ∧ (∀ q, q ≠ k → s_fr (pfr Si k o v) q o = s_fr Si q o) ∧ s_fr (pfr Si k o v) k o = v ∧ s_tg (pfr Si k o v) o = s_tg Si o :=
  ⟨rfl, Acc.rf.put (Or.inl rfl), fun q hq => by rw [rd_fr, if_neg (fun z => hq z.1)], by rw [rd_fr, if_pos ⟨rfl, rfl⟩], rfl⟩
theorem RowL.acc {S S1 : ShT} {D D1 : DaT} {o k r a n : Nat} (h : RowL S r a n) (hA : Acc S S1 D D1 o k) (h1 : r < s_sz S ∧ a < s_sz S) (h2 : o ≠ r ∧ o ≠ a) : RowL S1 r a n := h.sam (hA.sam (by omega) (by omega)) (hA.sam (by omega) (by omega))
theorem BrL.acc {S S1 : ShT} {D D1 : DaT} {o k r a n : Nat} (h : BrL S r a n) (hA : Acc S S1 D D1 o k) (h1 : r < s_sz S ∧ a < s_sz S) (h2 : o ≠ r ∧ o ≠ a) : BrL S1 r a n := h.sam (hA.sam (by omega) (by omega)) (hA.sam (by omega) (by omega))
/-- a plain cell's tag and length -/
def AtL (S : ShT) (a t n : Nat) : Prop := s_tg S a = t ∧ s_ln S a = n
theorem AtL.acc {S S1 : ShT} {D D1 : DaT} {o k a t n : Nat} (h : AtL S a t n) (hA : Acc S S1 D D1 o k) (h1 : a < s_sz S) : AtL S1 a t n := ⟨(hA.tg h1).trans h.1, (hA.ln h1).trans h.2⟩
section MKOBJ
variable {g : GG} {d : Nat} {S : ShT} {D : DaT} {o : Nat}
theorem Acc.call' {S0 S S1 : ShT} {D0 D D1 : DaT} {o o' n k : Nat} (h : Acc S0 S D0 D o n) (h' : Acc S S1 D D1 o' k) (ho : o' = o ∨ s_sz S0 ≤ o') : Acc S0 S1 D0 D1 o (n + k) := by
  rcases ho with rfl | ho
  · obtain ⟨h1, h2, h3, h4⟩ := h
    obtain ⟨g1, g2, g3, g4⟩ := h'
    refine ⟨by omega, fun a ha => ?_, fun a ha => (h3 a ha).tr (g3 a (by omega)), fun a h5 h6 q => ?_⟩
    · obtain ⟨⟨q1, q2, q3⟩, q4⟩ := g2 a (by omega)
      obtain ⟨⟨p1, p2, p3⟩, p4⟩ := h2 a ha
      exact ⟨⟨q1.trans p1, q2.trans p2, q3.trans p3⟩, fun hne q => (q4 hne q).trans (p4 hne q)⟩
    · by_cases c : a < s_sz S
      · rw [(g3 a c).1 q]
        exact h4 a h5 c q
      · exact g4 a (by omega) h6 q
  · exact h.call h' ho
set_option maxRecDepth 20000 in
theorem c_mk4 (ht : s_tg S o = 5) (hz : o < s_sz S) : EvM g (d + 2) mX4_init 6 18 [.ref o] (md S D) (fun v M1 => ∃ S1 D1, v = none ∧ M1 = md S1 D1 ∧ Acc S S1 D D1 o 6 ∧ (s_fr S1 131 o = some (s_sz S) ∧ s_fr S1 132 o = some (s_sz S + 2) ∧ s_fr S1 133 o = some (s_sz S + 4)) ∧ RowL S1 (s_sz S) (s_sz S + 1) 5 ∧ RowL S1 (s_sz S + 2) (s_sz S + 3) 5 ∧ RowL S1 (s_sz S + 4) (s_sz S + 5) 5) := by
  refine EvM.mk (by decide) (Nat.le_of_ble_eq_true rfl) ?_
  refine X_run rfl trivial ?_
  refine X_obj (a := 0) rfl (Nat.le_of_ble_eq_true rfl) ?_
  obtain ⟨S0, eS0⟩ : ∃ S0, S0 = S := ⟨_, rfl⟩
  obtain ⟨D0, eD0⟩ : ∃ D0, D0 = D := ⟨_, rfl⟩
  have A0 : Acc S S0 D D0 o 0 := by rw [eS0, eD0]; exact Acc.rf
  have t0 : s_tg S0 o = 5 := by rw [eS0]; exact ht
  have z0 : s_sz S0 = s_sz S + 0 := by rw [eS0]; rfl
  rw [show md S D = md S0 D0 from by rw [eS0, eD0]]
  clear eS0 eD0
  refine X_run rfl ?_ ?_
  · simp [md_s, md_w, rget, r_a, r_b, r_c, r_i, r_l, t0]
  try simp only [md_s, md_w, rget_some, r_a, r_b, r_c, r_i, r_l, r_nx, r_pc, Nat.reduceEqDiff, false_and, if_false, t0]
  refine X_new (n := 0) (N := 1) rfl (by decide) (fun q hq => by cases hq; rfl) ?_
  obtain ⟨Sa, Da, ea, hGa, hsa, hna, -, hAa⟩ := newA S0 D0 7 0
  rw [show w_new (md S0 D0) (6 + 1) 0 = md Sa Da from ea]
  refine X_run rfl trivial ?_
  refine X_callI (bc1 := 1) (bs1 := 5) (args := [.int (nI 5)]) rfl (by decide) rfl rfl (Nat.le_of_ble_eq_true rfl) (c_mkRow (n := 5) hna.1 (by show s_sz S0 < s_sz Sa; omega) (by decide)) ?_
  rintro _ _ ⟨Sb, Db, rfl, rfl, hAb, hRb⟩
  have tb : s_tg Sb o = 5 := (hAb.tg (by omega)).trans ((hAa.tg (by omega)).trans t0)
  refine X_run rfl ?_ ?_
  · simp [md_s, md_w, rget, r_a, r_b, r_c, r_i, r_l, tb, w_fr_md]
  try simp only [md_s, md_w, rget_some, r_a, r_b, r_c, r_i, r_l, r_nx, r_pc, Nat.reduceEqDiff, false_and, if_false, tb, w_fr_md]
  skip
  have zi := z0
  obtain ⟨y1, y2, y3, y4, y5⟩ := subStep (k := 131) (v := some (s_sz S0)) (o := o) (by omega) hAa hAb rfl
  have R0q : RowL (pfr Sb 131 o (some (s_sz S0))) (s_sz S0) (s_sz S0 + 1) 5 := (hsa ▸ hRb : RowL Sb (s_sz S0) (s_sz S0 + 1) 5).sam (sam_pfr (by omega)) (sam_pfr (by omega))
  have A1 := A0.call' y2 (Or.inl rfl)
  have z1 : s_sz (pfr Sb 131 o (some (s_sz S0))) = s_sz S + 2 := by rw [y1, z0]
  have t1 := y5.trans t0
  have f131_1 := y4
  have R0_1 := R0q
  clear R0q
  clear y1 y2 y3 y4 y5
  generalize pfr Sb 131 o (some (s_sz S0)) = S1 at *
  generalize Db = D1 at *
  clear zi hGa hsa hna hAa hAb hRb ea tb
  rw [z0] at R0_1 f131_1
  refine X_run rfl ?_ ?_
  · simp [md_s, md_w, rget, r_a, r_b, r_c, r_i, r_l, t1]
  try simp only [md_s, md_w, rget_some, r_a, r_b, r_c, r_i, r_l, r_nx, r_pc, Nat.reduceEqDiff, false_and, if_false, t1]
  refine X_new (n := 0) (N := 1) rfl (by decide) (fun q hq => by cases hq; rfl) ?_
  obtain ⟨Sa, Da, ea, hGa, hsa, hna, -, hAa⟩ := newA S1 D1 7 0
  rw [show w_new (md S1 D1) (6 + 1) 0 = md Sa Da from ea]
  refine X_run rfl trivial ?_
  refine X_callI (bc1 := 1) (bs1 := 5) (args := [.int (nI 5)]) rfl (by decide) rfl rfl (Nat.le_of_ble_eq_true rfl) (c_mkRow (n := 5) hna.1 (by show s_sz S1 < s_sz Sa; omega) (by decide)) ?_
  rintro _ _ ⟨Sb, Db, rfl, rfl, hAb, hRb⟩
  have tb : s_tg Sb o = 5 := (hAb.tg (by omega)).trans ((hAa.tg (by omega)).trans t1)
  refine X_run rfl ?_ ?_
  · simp [md_s, md_w, rget, r_a, r_b, r_c, r_i, r_l, tb, w_fr_md]
  try simp only [md_s, md_w, rget_some, r_a, r_b, r_c, r_i, r_l, r_nx, r_pc, Nat.reduceEqDiff, false_and, if_false, tb, w_fr_md]
  skip
  have zi := z1
  obtain ⟨y1, y2, y3, y4, y5⟩ := subStep (k := 132) (v := some (s_sz S1)) (o := o) (by omega) hAa hAb rfl
  have R1q : RowL (pfr Sb 132 o (some (s_sz S1))) (s_sz S1) (s_sz S1 + 1) 5 := (hsa ▸ hRb : RowL Sb (s_sz S1) (s_sz S1 + 1) 5).sam (sam_pfr (by omega)) (sam_pfr (by omega))
  have A2 := A1.call' y2 (Or.inl rfl)
  have z2 : s_sz (pfr Sb 132 o (some (s_sz S1))) = s_sz S + 4 := by rw [y1, z1]
  have t2 := y5.trans t1
  have f131_2 := (y3 131 (by decide)).trans f131_1
  have f132_2 := y4
  have R0_2 := R0_1.acc y2 (by omega) (by omega)
  have R1_2 := R1q
  clear R1q
  clear y1 y2 y3 y4 y5
  generalize pfr Sb 132 o (some (s_sz S1)) = S2 at *
  generalize Db = D2 at *
  clear zi hGa hsa hna hAa hAb hRb ea tb
  rw [z1] at R1_2 f132_2
  refine X_run rfl ?_ ?_
  · simp [md_s, md_w, rget, r_a, r_b, r_c, r_i, r_l, t2]
  try simp only [md_s, md_w, rget_some, r_a, r_b, r_c, r_i, r_l, r_nx, r_pc, Nat.reduceEqDiff, false_and, if_false, t2]
  refine X_new (n := 0) (N := 1) rfl (by decide) (fun q hq => by cases hq; rfl) ?_
  obtain ⟨Sa, Da, ea, hGa, hsa, hna, -, hAa⟩ := newA S2 D2 7 0
  rw [show w_new (md S2 D2) (6 + 1) 0 = md Sa Da from ea]
  refine X_run rfl trivial ?_
  refine X_callI (bc1 := 1) (bs1 := 5) (args := [.int (nI 5)]) rfl (by decide) rfl rfl (Nat.le_of_ble_eq_true rfl) (c_mkRow (n := 5) hna.1 (by show s_sz S2 < s_sz Sa; omega) (by decide)) ?_
  rintro _ _ ⟨Sb, Db, rfl, rfl, hAb, hRb⟩
  have tb : s_tg Sb o = 5 := (hAb.tg (by omega)).trans ((hAa.tg (by omega)).trans t2)
  refine X_run rfl ?_ ?_
  · simp [md_s, md_w, rget, r_a, r_b, r_c, r_i, r_l, tb, w_fr_md]
  try simp only [md_s, md_w, rget_some, r_a, r_b, r_c, r_i, r_l, r_nx, r_pc, Nat.reduceEqDiff, false_and, if_false, tb, w_fr_md]
  skip
  have zi := z2
  obtain ⟨y1, y2, y3, y4, y5⟩ := subStep (k := 133) (v := some (s_sz S2)) (o := o) (by omega) hAa hAb rfl
  have R2q : RowL (pfr Sb 133 o (some (s_sz S2))) (s_sz S2) (s_sz S2 + 1) 5 := (hsa ▸ hRb : RowL Sb (s_sz S2) (s_sz S2 + 1) 5).sam (sam_pfr (by omega)) (sam_pfr (by omega))
  have A3 := A2.call' y2 (Or.inl rfl)
  have z3 : s_sz (pfr Sb 133 o (some (s_sz S2))) = s_sz S + 6 := by rw [y1, z2]
  have t3 := y5.trans t2
  have f131_3 := (y3 131 (by decide)).trans f131_2
  have f132_3 := (y3 132 (by decide)).trans f132_2
  have f133_3 := y4
  have R0_3 := R0_2.acc y2 (by omega) (by omega)
  have R1_3 := R1_2.acc y2 (by omega) (by omega)
  have R2_3 := R2q
  clear R2q
  clear y1 y2 y3 y4 y5
  generalize pfr Sb 133 o (some (s_sz S2)) = S3 at *
  generalize Db = D3 at *
  clear zi hGa hsa hna hAa hAb hRb ea tb
  rw [z2] at R2_3 f133_3
  refine X_run rfl trivial ?_
  exact X_vret rfl rfl ⟨S3, D3, rfl, rfl, A3.trans' rfl, ⟨f131_3, f132_3, f133_3⟩, R0_3, R1_3, R2_3⟩
set_option maxRecDepth 20000 in
theorem c_mk8 (ht : s_tg S o = 9) (hz : s_sz S = o + 1) : EvM g (d + 2) mX8_init 5 3205 [.ref o] (md S D) (fun v M1 => ∃ S1 D1, v = none ∧ M1 = md S1 D1 ∧ Acc S S1 D D1 o 5 ∧ TxL S1 o) := by
  refine EvM.mk (by decide) (Nat.le_of_ble_eq_true rfl) ?_
  refine X_run rfl trivial ?_
  refine X_obj (a := 0) rfl (Nat.le_of_ble_eq_true rfl) ?_
  obtain ⟨S0, eS0⟩ : ∃ S0, S0 = S := ⟨_, rfl⟩
  obtain ⟨D0, eD0⟩ : ∃ D0, D0 = D := ⟨_, rfl⟩
  have A0 : Acc S S0 D D0 o 0 := by rw [eS0, eD0]; exact Acc.rf
  have t0 : s_tg S0 o = 9 := by rw [eS0]; exact ht
  have z0 : s_sz S0 = s_sz S + 0 := by rw [eS0]; rfl
  rw [show md S D = md S0 D0 from by rw [eS0, eD0]]
  clear eS0 eD0
  refine X_run rfl ?_ ?_
  · simp [md_s, md_w, rget, r_a, r_b, r_c, r_i, r_l, t0]
  try simp only [md_s, md_w, rget_some, r_a, r_b, r_c, r_i, r_l, r_nx, r_pc, Nat.reduceEqDiff, false_and, if_false, t0]
  refine X_new (n := 0) (N := 2) rfl (by decide) (fun q hq => by cases hq; rfl) ?_
  obtain ⟨Sa, Da, ea, hGa, hsa, hna, -, hAa⟩ := newA S0 D0 2 0
  rw [show w_new (md S0 D0) (1 + 1) 0 = md Sa Da from ea]
  refine X_run rfl trivial ?_
  refine X_callI (bc1 := 1) (bs1 := 2000) (args := [.int (nI 2000)]) rfl (by decide) rfl rfl (Nat.le_of_ble_eq_true rfl) (c_mkBr (n := 2000) hna.1 (by show s_sz S0 < s_sz Sa; omega) (by decide)) ?_
  rintro _ _ ⟨Sb, Db, rfl, rfl, hAb, hRb⟩
  have tb : s_tg Sb o = 9 := (hAb.tg (by omega)).trans ((hAa.tg (by omega)).trans t0)
  refine X_run rfl ?_ ?_
  · simp [md_s, md_w, rget, r_a, r_b, r_c, r_i, r_l, tb, w_fr_md]
  try simp only [md_s, md_w, rget_some, r_a, r_b, r_c, r_i, r_l, r_nx, r_pc, Nat.reduceEqDiff, false_and, if_false, tb, w_fr_md]
  skip
  have zi := z0
  obtain ⟨y1, y2, y3, y4, y5⟩ := subStep (k := 256) (v := some (s_sz S0)) (o := o) (by omega) hAa hAb rfl
  have Rq : BrL (pfr Sb 256 o (some (s_sz S0))) (s_sz S0) (s_sz S0 + 1) 2000 := (hsa ▸ hRb : BrL Sb (s_sz S0) (s_sz S0 + 1) 2000).sam (sam_pfr (by omega)) (sam_pfr (by omega))
  have A1 := A0.call' y2 (Or.inl rfl)
  have z1 : s_sz (pfr Sb 256 o (some (s_sz S0))) = s_sz S + 2 := by rw [y1, z0]
  have t1 := y5.trans t0
  have f256_1 := y4
  have R_1 := Rq
  clear Rq
  clear y1 y2 y3 y4 y5
  generalize pfr Sb 256 o (some (s_sz S0)) = S1 at *
  generalize Db = D1 at *
  clear zi hGa hsa hna hAa hAb hRb ea tb
  rw [z0] at R_1 f256_1
  refine X_run rfl ?_ ?_
  · simp [md_s, md_w, rget, r_a, r_b, r_c, r_i, r_l, t1]
  try simp only [md_s, md_w, rget_some, r_a, r_b, r_c, r_i, r_l, r_nx, r_pc, Nat.reduceEqDiff, false_and, if_false, t1]
  refine X_newarray (a := 0) (N := 401) rfl (by decide) rfl (by decide) ?_
  obtain ⟨Sa, Da, ea, hGa, hsa, hna, -, hAa⟩ := newA S1 D1 20 401
  rw [show w_new (md S1 D1) (0 + 20) 401 = md Sa Da from ea]
  have tb : s_tg Sa o = 9 := (hAa.tg (by omega)).trans t1
  refine X_run rfl ?_ ?_
  · simp [md_s, md_w, rget, r_a, r_b, r_c, r_i, r_l, tb, w_fr_md]
  try simp only [md_s, md_w, rget_some, r_a, r_b, r_c, r_i, r_l, r_nx, r_pc, Nat.reduceEqDiff, false_and, if_false, tb, w_fr_md]
  have hAb := Acc.rf (S := Sa) (D := Da) (o := s_sz S1)
  have zi := z1
  obtain ⟨y1, y2, y3, y4, y5⟩ := subStep (k := 257) (v := some (s_sz S1)) (o := o) (by omega) hAa hAb rfl
  have K0q : AtL (pfr Sa 257 o (some (s_sz S1))) (s_sz S1) 20 401 := hna
  have A2 := A1.call' y2 (Or.inl rfl)
  have z2 : s_sz (pfr Sa 257 o (some (s_sz S1))) = s_sz S + 3 := by rw [y1, z1]
  have t2 := y5.trans t1
  have f256_2 := (y3 256 (by decide)).trans f256_1
  have f257_2 := y4
  have R_2 := R_1.acc y2 (by omega) (by omega)
  have K0_2 := K0q
  clear K0q
  clear y1 y2 y3 y4 y5
  generalize pfr Sa 257 o (some (s_sz S1)) = S2 at *
  generalize Da = D2 at *
  clear zi hGa hsa hna hAa hAb ea tb
  rw [z1] at K0_2 f257_2
  refine X_run rfl ?_ ?_
  · simp [md_s, md_w, rget, r_a, r_b, r_c, r_i, r_l, t2]
  try simp only [md_s, md_w, rget_some, r_a, r_b, r_c, r_i, r_l, r_nx, r_pc, Nat.reduceEqDiff, false_and, if_false, t2]
  refine X_newarray (a := 0) (N := 401) rfl (by decide) rfl (by decide) ?_
  obtain ⟨Sa, Da, ea, hGa, hsa, hna, -, hAa⟩ := newA S2 D2 20 401
  rw [show w_new (md S2 D2) (0 + 20) 401 = md Sa Da from ea]
  have tb : s_tg Sa o = 9 := (hAa.tg (by omega)).trans t2
  refine X_run rfl ?_ ?_
  · simp [md_s, md_w, rget, r_a, r_b, r_c, r_i, r_l, tb, w_fr_md]
  try simp only [md_s, md_w, rget_some, r_a, r_b, r_c, r_i, r_l, r_nx, r_pc, Nat.reduceEqDiff, false_and, if_false, tb, w_fr_md]
  have hAb := Acc.rf (S := Sa) (D := Da) (o := s_sz S2)
  have zi := z2
  obtain ⟨y1, y2, y3, y4, y5⟩ := subStep (k := 258) (v := some (s_sz S2)) (o := o) (by omega) hAa hAb rfl
  have K1q : AtL (pfr Sa 258 o (some (s_sz S2))) (s_sz S2) 20 401 := hna
  have A3 := A2.call' y2 (Or.inl rfl)
  have z3 : s_sz (pfr Sa 258 o (some (s_sz S2))) = s_sz S + 4 := by rw [y1, z2]
  have t3 := y5.trans t2
  have f256_3 := (y3 256 (by decide)).trans f256_2
  have f257_3 := (y3 257 (by decide)).trans f257_2
  have f258_3 := y4
  have R_3 := R_2.acc y2 (by omega) (by omega)
  have K0_3 := K0_2.acc y2 (by omega)
  have K1_3 := K1q
  clear K1q
  clear y1 y2 y3 y4 y5
  generalize pfr Sa 258 o (some (s_sz S2)) = S3 at *
  generalize Da = D3 at *
  clear zi hGa hsa hna hAa hAb ea tb
  rw [z2] at K1_3 f258_3
  refine X_run rfl ?_ ?_
  · simp [md_s, md_w, rget, r_a, r_b, r_c, r_i, r_l, t3]
  try simp only [md_s, md_w, rget_some, r_a, r_b, r_c, r_i, r_l, r_nx, r_pc, Nat.reduceEqDiff, false_and, if_false, t3]
  refine X_newarray (a := 1) (N := 401) rfl (by decide) rfl (by decide) ?_
  obtain ⟨Sa, Da, ea, hGa, hsa, hna, -, hAa⟩ := newA S3 D3 21 401
  rw [show w_new (md S3 D3) (1 + 20) 401 = md Sa Da from ea]
  have tb : s_tg Sa o = 9 := (hAa.tg (by omega)).trans t3
  refine X_run rfl ?_ ?_
  · simp [md_s, md_w, rget, r_a, r_b, r_c, r_i, r_l, tb, w_fr_md]
  try simp only [md_s, md_w, rget_some, r_a, r_b, r_c, r_i, r_l, r_nx, r_pc, Nat.reduceEqDiff, false_and, if_false, tb, w_fr_md]
  have hAb := Acc.rf (S := Sa) (D := Da) (o := s_sz S3)
  have zi := z3
  obtain ⟨y1, y2, y3, y4, y5⟩ := subStep (k := 259) (v := some (s_sz S3)) (o := o) (by omega) hAa hAb rfl
  have K2q : AtL (pfr Sa 259 o (some (s_sz S3))) (s_sz S3) 21 401 := hna
  have A4 := A3.call' y2 (Or.inl rfl)
  have z4 : s_sz (pfr Sa 259 o (some (s_sz S3))) = s_sz S + 5 := by rw [y1, z3]
  have t4 := y5.trans t3
  have f256_4 := (y3 256 (by decide)).trans f256_3
  have f257_4 := (y3 257 (by decide)).trans f257_3
  have f258_4 := (y3 258 (by decide)).trans f258_3
  have f259_4 := y4
  have R_4 := R_3.acc y2 (by omega) (by omega)
  have K0_4 := K0_3.acc y2 (by omega)
  have K1_4 := K1_3.acc y2 (by omega)
  have K2_4 := K2q
  clear K2q
  clear y1 y2 y3 y4 y5
  generalize pfr Sa 259 o (some (s_sz S3)) = S4 at *
  generalize Da = D4 at *
  clear zi hGa hsa hna hAa hAb ea tb
  rw [z3] at K2_4 f259_4
  refine X_run rfl trivial ?_
  have e1 : s_sz S + 0 = o + 1 := by omega
  have e2 : s_sz S + (0 + (1 + 1)) = o + 3 := by omega
  have e3 : s_sz S + 3 = o + 4 := by omega
  have e4 : s_sz S + 4 = o + 5 := by omega
  rw [hz] at R_4 K0_4 K1_4 K2_4 f256_4 f257_4 f258_4 f259_4
  exact X_vret rfl rfl ⟨S4, D4, rfl, rfl, A4.trans' rfl, ⟨t4, f256_4, f257_4, f258_4, f259_4, K0_4.1, K0_4.2, K1_4.1, K1_4.2, K2_4.1, K2_4.2⟩, R_4⟩
set_option maxRecDepth 20000 in
theorem c_mk7 (ht : s_tg S o = 8) (hz : s_sz S = o + 1) : EvM g (d + 3) mX7_init 6 3215 [.ref o] (md S D) (fun v M1 => ∃ S1 D1, v = none ∧ M1 = md S1 D1 ∧ Acc S S1 D D1 o 6 ∧ TlL S1 o ∧ TxL S1 (o + 1)) := by
  refine EvM.mk (by decide) (Nat.le_of_ble_eq_true rfl) ?_
  refine X_run rfl trivial ?_
  refine X_obj (a := 0) rfl (Nat.le_of_ble_eq_true rfl) ?_
  obtain ⟨S0, eS0⟩ : ∃ S0, S0 = S := ⟨_, rfl⟩
  obtain ⟨D0, eD0⟩ : ∃ D0, D0 = D := ⟨_, rfl⟩
  have A0 : Acc S S0 D D0 o 0 := by rw [eS0, eD0]; exact Acc.rf
  have t0 : s_tg S0 o = 8 := by rw [eS0]; exact ht
  have z0 : s_sz S0 = s_sz S + 0 := by rw [eS0]; rfl
  rw [show md S D = md S0 D0 from by rw [eS0, eD0]]
  clear eS0 eD0
  refine X_run rfl ?_ ?_
  · simp [md_s, md_w, rget, r_a, r_b, r_c, r_i, r_l, t0]
  try simp only [md_s, md_w, rget_some, r_a, r_b, r_c, r_i, r_l, r_nx, r_pc, Nat.reduceEqDiff, false_and, if_false, t0]
  refine X_new (n := 0) (N := 10) rfl (by decide) (fun q hq => by cases hq; rfl) ?_
  obtain ⟨Sa, Da, ea, hGa, hsa, hna, -, hAa⟩ := newA S0 D0 9 0
  rw [show w_new (md S0 D0) (8 + 1) 0 = md Sa Da from ea]
  refine X_run rfl trivial ?_
  refine X_callI (bc1 := 5) (bs1 := 3205) (args := []) rfl (by decide) rfl rfl (Nat.le_of_ble_eq_true rfl) (c_mk8 hna.1 (by show s_sz Sa = s_sz S0 + 1; omega)) ?_
  rintro _ _ ⟨Sb, Db, rfl, rfl, hAb, hRb⟩
  have tb : s_tg Sb o = 8 := (hAb.tg (by omega)).trans ((hAa.tg (by omega)).trans t0)
  refine X_run rfl ?_ ?_
  · simp [md_s, md_w, rget, r_a, r_b, r_c, r_i, r_l, tb, w_fr_md]
  try simp only [md_s, md_w, rget_some, r_a, r_b, r_c, r_i, r_l, r_nx, r_pc, Nat.reduceEqDiff, false_and, if_false, tb, w_fr_md]
  skip
  have zi := z0
  obtain ⟨y1, y2, y3, y4, y5⟩ := subStep (k := 224) (v := some (s_sz S0)) (o := o) (by omega) hAa hAb rfl
  have Rq : TxL (pfr Sb 224 o (some (s_sz S0))) (s_sz S0) := (show TxL Sb (s_sz S0) from hRb).sam (sam_pfr (by omega))
  have A1 := A0.call' y2 (Or.inl rfl)
  have z1 : s_sz (pfr Sb 224 o (some (s_sz S0))) = s_sz S + 6 := by rw [y1, z0]
  have t1 := y5.trans t0
  have f224_1 := y4
  have R_1 := Rq
  clear Rq
  clear y1 y2 y3 y4 y5
  generalize pfr Sb 224 o (some (s_sz S0)) = S1 at *
  generalize Db = D1 at *
  clear zi hGa hsa hna hAa hAb hRb ea tb
  rw [z0, hz] at R_1 f224_1
  refine X_run rfl trivial ?_
  exact X_vret rfl rfl ⟨S1, D1, rfl, rfl, A1.trans' rfl, ⟨t1, f224_1⟩, R_1⟩
end MKOBJ
