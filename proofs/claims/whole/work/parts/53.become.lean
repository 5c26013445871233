/-! a state becomes another one; what is told goes into it -/
def lnR (r : Nat) : Nat := if r ≤ 3 then 10 else if r ≤ 6 then 5 else if r ≤ 8 then 50 else 60
def CpR (D D' : DaT) (A A2 : Nat) (rs : List Nat) : Prop := d_fi D' = d_fi D ∧ d_fl D' = d_fl D ∧ (∀ x, (∀ r ∈ rs, x ≠ A + r) → d_ai D' x = d_ai D x ∧ d_al D' x = d_al D x) ∧ (∀ r ∈ rs, r < 20 ∧ (if r = 1 ∨ r = 4 then ∀ j, j < lnR r → d_al D' (A + r) j = d_al D (A2 + r) j else ∀ j, j < lnR r → d_ai D' (A + r) j = d_ai D (A2 + r) j))
theorem CpR.nil {D : DaT} {A A2 : Nat} : CpR D D A A2 [] := ⟨rfl, rfl, fun _ _ => ⟨rfl, rfl⟩, fun r hr => by cases hr⟩
theorem CpR.i {D D' : DaT} {A A2 r : Nat} {rs : List Nat} (h : CpR D D' A A2 rs) (hd : A2 + 20 ≤ A ∨ A + 20 ≤ A2) (h1 : r ≠ 1) (h4 : r ≠ 4) (hr : r < 20) (hn : ∀ q ∈ rs, q ≠ r) : CpR D (pAi D' (A + r) (fun j => if j < lnR r then d_ai D' (A2 + r) j else d_ai D' (A + r) j)) A A2 (r :: rs) := by
  obtain ⟨f1, f2, f3, f4⟩ := h
  refine ⟨f1, f2, fun x hx => ?_, fun q hq => ?_⟩
  · obtain ⟨g1, g2⟩ := f3 x (fun q hq => hx q (List.mem_cons_of_mem _ hq))
    exact ⟨(u1_no (hx r List.mem_cons_self)).trans g1, g2⟩
  · rcases List.mem_cons.mp hq with rfl | hq
    · refine ⟨hr, ?_⟩
      rw [if_neg (by omega)]
      intro j hj
      have e : d_ai (pAi D' (A + q) (fun j => if j < lnR q then d_ai D' (A2 + q) j else d_ai D' (A + q) j)) (A + q) j = if j < lnR q then d_ai D' (A2 + q) j else d_ai D' (A + q) j := congrFun u1_eq j
      rw [e, if_pos hj, (f3 (A2 + q) (fun q' hq' => by have := (f4 q' hq').1; omega)).1]
    · obtain ⟨g0, g⟩ := f4 q hq
      refine ⟨g0, ?_⟩
      split at g
      · rename_i c
        rw [if_pos c]
        exact g
      · rename_i c
        rw [if_neg c]
        intro j hj
        have e : d_ai (pAi D' (A + r) (fun j => if j < lnR r then d_ai D' (A2 + r) j else d_ai D' (A + r) j)) (A + q) = d_ai D' (A + q) := u1_no (by have := hn q hq; omega)
        rw [e]
        exact g j hj
theorem CpR.l {D D' : DaT} {A A2 r : Nat} {rs : List Nat} (h : CpR D D' A A2 rs) (hd : A2 + 20 ≤ A ∨ A + 20 ≤ A2) (h1 : r = 1 ∨ r = 4) (hn : ∀ q ∈ rs, q ≠ r) : CpR D (pAl D' (A + r) (fun j => if j < lnR r then d_al D' (A2 + r) j else d_al D' (A + r) j)) A A2 (r :: rs) := by
  obtain ⟨f1, f2, f3, f4⟩ := h
  refine ⟨f1, f2, fun x hx => ?_, fun q hq => ?_⟩
  · obtain ⟨g1, g2⟩ := f3 x (fun q hq => hx q (List.mem_cons_of_mem _ hq))
    exact ⟨g1, (u1_no (hx r List.mem_cons_self)).trans g2⟩
  · rcases List.mem_cons.mp hq with rfl | hq
    · refine ⟨by omega, ?_⟩
      rw [if_pos h1]
      intro j hj
      have e : d_al (pAl D' (A + q) (fun j => if j < lnR q then d_al D' (A2 + q) j else d_al D' (A + q) j)) (A + q) j = if j < lnR q then d_al D' (A2 + q) j else d_al D' (A + q) j := congrFun u1_eq j
      rw [e, if_pos hj, (f3 (A2 + q) (fun q' hq' => by have := (f4 q' hq').1; omega)).2]
    · obtain ⟨g0, g⟩ := f4 q hq
      refine ⟨g0, ?_⟩
      split at g
      · rename_i c
        rw [if_pos c]
        intro j hj
        have e : d_al (pAl D' (A + r) (fun j => if j < lnR r then d_al D' (A2 + r) j else d_al D' (A + r) j)) (A + q) = d_al D' (A + q) := u1_no (by have := hn q hq; omega)
        rw [e]
        exact g j hj
      · rename_i c
        rw [if_neg c]
        exact g
theorem CpR.rep {D D' : DaT} {A A2 : Nat} {K : KT} {rs : List Nat} (h : CpR D D' A A2 rs) (hall : ∀ r, 1 ≤ r → r < 18 → r ∈ rs) (hR : RepR D A2 K) (hC : RrC D A K) (hW : WfK K) : RepR D' A K := by
  obtain ⟨f1, f2, f3, f4⟩ := h
  obtain ⟨w1, w2, w3, -⟩ := hW
  have gi : ∀ r j, 1 ≤ r → r < 18 → r ≠ 1 → r ≠ 4 → j < lnR r → d_ai D' (A + r) j = d_ai D (A2 + r) j := fun r j h1 h2 h3 h4 hj => by
    have := (f4 r (hall r h1 h2)).2
    rw [if_neg (by omega)] at this
    exact this j hj
  have gl : ∀ r j, r = 1 ∨ r = 4 → j < lnR r → d_al D' (A + r) j = d_al D (A2 + r) j := fun r j h1 hj => by
    have := (f4 r (hall r (by omega) (by omega))).2
    rw [if_pos h1] at this
    exact this j hj
  have l10 : lnR 1 = 10 ∧ lnR 2 = 10 ∧ lnR 3 = 10 ∧ lnR 4 = 5 ∧ lnR 5 = 5 ∧ lnR 6 = 5 ∧ lnR 7 = 50 ∧ lnR 8 = 50 ∧ lnR 9 = 60 ∧ lnR 10 = 60 ∧ lnR 11 = 60 ∧ lnR 12 = 60 ∧ lnR 13 = 60 ∧ lnR 14 = 60 ∧ lnR 15 = 60 ∧ lnR 16 = 60 ∧ lnR 17 = 60 := by decide
  obtain ⟨m1, m2, m3, m4, m5, m6, m7, m8, m9, m10, m11, m12, m13, m14, m15, m16, m17⟩ := l10
  obtain ⟨-, hp, hm, hy⟩ := hR
  refine ⟨?_, fun p hpp => ?_, fun m hmm => ?_, fun n hn => ?_⟩
  · unfold RrC at hC ⊢
    rw [f1]
    exact hC
  · obtain ⟨x1, x2, x3, x4⟩ := hp p hpp
    refine ⟨(gl 1 p (by decide) (by omega)).trans x1, (gi 2 p (by decide) (by decide) (by decide) (by decide) (by omega)).trans x2, (gi 3 p (by decide) (by decide) (by decide) (by decide) (by omega)).trans x3, fun m hm' => ?_⟩
    obtain ⟨x5, x6⟩ := x4 m hm'
    exact ⟨(gi 7 _ (by decide) (by decide) (by decide) (by decide) (by omega)).trans x5, (gi 8 _ (by decide) (by decide) (by decide) (by decide) (by omega)).trans x6⟩
  · obtain ⟨x1, x2, x3⟩ := hm m hmm
    exact ⟨(gl 4 m (by decide) (by omega)).trans x1, (gi 5 m (by decide) (by decide) (by decide) (by decide) (by omega)).trans x2, (gi 6 m (by decide) (by decide) (by decide) (by decide) (by omega)).trans x3⟩
  · obtain ⟨x1, x2, x3, x4, x5, x6, x7, x8, x9⟩ := hy n hn
    exact ⟨(gi 9 n (by decide) (by decide) (by decide) (by decide) (by omega)).trans x1, (gi 10 n (by decide) (by decide) (by decide) (by decide) (by omega)).trans x2, (gi 11 n (by decide) (by decide) (by decide) (by decide) (by omega)).trans x3, (gi 12 n (by decide) (by decide) (by decide) (by decide) (by omega)).trans x4, (gi 13 n (by decide) (by decide) (by decide) (by decide) (by omega)).trans x5, (gi 14 n (by decide) (by decide) (by decide) (by decide) (by omega)).trans x6, (gi 15 n (by decide) (by decide) (by decide) (by decide) (by omega)).trans x7, (gi 16 n (by decide) (by decide) (by decide) (by decide) (by omega)).trans x8, (gi 17 n (by decide) (by decide) (by decide) (by decide) (by omega)).trans x9⟩
section BECOME
variable {g : GG} {d : Nat} {S : ShT} {D : DaT} {A A2 : Nat} {K : KT}
theorem c_Rcopy {a0 a N : Nat} (h0 : s_tg S a0 = 20 ∧ s_ln S a0 = N) (h1 : s_tg S a = 20 ∧ s_ln S a = N) (hN : N < 2 ^ 31) : EvM g (d + 1) mX10_copy 0 0 [.ref A, .ref a0, .ref a] (md S D) (fun v M1 => ∃ D1, v = none ∧ M1 = md S D1 ∧ pAi D a (fun j => if j < N then d_ai D a0 j else d_ai D a j) = D1) := by
  refine EvM.mk (by decide) (Nat.le_of_ble_eq_true rfl) ?_
  refine X_run rfl ?_ ?_
  · simp [md_s, md_w, rget, r_a, r_b, r_c, r_i, r_l, h0]
  try simp only [md_s, md_w, rget_some, r_a, r_b, r_c, r_i, r_l, r_nx, r_pc, Nat.reduceEqDiff, false_and, if_false, h0]
  refine X_copyI (N := N) rfl h0 h1 hN (Nat.zero_le _) ?_
  refine X_run rfl trivial ?_
  exact X_vret rfl rfl ⟨_, rfl, rfl, rfl⟩
theorem c_become (hL : StL S A) (hL2 : StL S A2) (hd : A2 + 20 ≤ A ∨ A + 20 ≤ A2) (hW : WfK K) (hR : RepR D A2 K) : EvM g (d + 2) mX10_become 0 0 [.ref A, .ref A2] (md S D) (fun v M1 => ∃ D1, v = none ∧ M1 = md S D1 ∧ RepR D1 A K ∧ Out A (A + 18) D D1) := by
  obtain ⟨hs, ha, hb⟩ := hL.all
  obtain ⟨hs2, ha2, hb2⟩ := hL2.all
  have hc := hR.1
  unfold RrC at hc
  have hne : ¬ A2 = A := by omega
  obtain ⟨D1, e1, z1, y1⟩ := wr_fi D 320 A (k_day K)
  obtain ⟨D2, e2, z2, y2⟩ := wr_fi D1 321 A (k_hr K)
  obtain ⟨D3, e3, z3, y3⟩ := wr_fi D2 322 A (nI (k_np K))
  obtain ⟨D4, e4, z4, y4⟩ := wr_fi D3 323 A (nI (k_nm K))
  obtain ⟨D5, e5, z5, y5⟩ := wr_fi D4 324 A (nI (k_ny K))
  have oo : ∀ {D D' : DaT} {k : Nat} {v : Int32}, pfi D k A v = D' → Out A (A + 18) D D' := fun e => e ▸ Out.fi (by omega)
  have o5 : Out A (A + 18) D D5 := ((((oo e1).tr (oo e2)).tr (oo e3)).tr (oo e4)).tr (oo e5)
  have hR5 : RepR D5 A2 K := hR.out o5 (by omega)
  have c5 : RrC D5 A K := by
    unfold RrC
    simp [z1, z2, z3, z4, z5]
  have f1 : d_fi D1 321 A2 = k_hr K := by rw [z1, if_neg (fun z => hne z.2)]; exact hc.2.1
  have f2 : d_fi D2 322 A2 = nI (k_np K) := by rw [z2, if_neg (fun z => hne z.2), z1, if_neg (fun z => hne z.2)]; exact hc.2.2.1
  have f3 : d_fi D3 323 A2 = nI (k_nm K) := by rw [z3, if_neg (fun z => hne z.2), z2, if_neg (fun z => hne z.2), z1, if_neg (fun z => hne z.2)]; exact hc.2.2.2.1
  have f4 : d_fi D4 324 A2 = nI (k_ny K) := by rw [z4, if_neg (fun z => hne z.2), z3, if_neg (fun z => hne z.2), z2, if_neg (fun z => hne z.2), z1, if_neg (fun z => hne z.2)]; exact hc.2.2.2.2
  refine EvM.mk (by decide) (Nat.le_of_ble_eq_true rfl) ?_
  refine X_run rfl ?_ ?_
  · simp [md_s, md_w, rget, r_a, r_b, r_c, r_i, r_l, hs, hs2, hc, e1, e2, e3, e4, e5, f1, f2, f3, f4]
  try simp only [md_s, md_w, rget_some, r_a, r_b, r_c, r_i, r_l, r_nx, r_pc, Nat.reduceEqDiff, false_and, if_false, hs, hs2, hc, e1, e2, e3, e4, e5, f1, f2, f3, f4]
  have p0 : CpR D5 D5 A A2 [] := CpR.nil
  obtain ⟨E1, g1⟩ : ∃ E, pAl D5 (A + 1) (fun j => if j < 10 then d_al D5 (A2 + 1) j else d_al D5 (A + 1) j) = E := ⟨_, rfl⟩
  refine X_copyL (N := 10) rfl ha2.1 ha.1 (by decide) (Nat.zero_le _) ?_
  rw [g1]
  have p1 : CpR D5 E1 A A2 [1] := by
    rw [← g1]
    exact p0.l (r := 1) hd (by decide) (by decide)
  clear g1
  refine Eg.cst (st' := []) rfl (Eg.sub (ls' := [(0, .ref A), (1, .ref A2)]) ?_ ⟨rfl, rfl, trivial⟩)
  refine X_run rfl ?_ ?_
  · simp [md_s, md_w, rget, r_a, r_b, r_c, r_i, r_l, hs, hs2]
  try simp only [md_s, md_w, rget_some, r_a, r_b, r_c, r_i, r_l, r_nx, r_pc, Nat.reduceEqDiff, false_and, if_false, hs, hs2]
  obtain ⟨E4, g4⟩ : ∃ E, pAl E1 (A + 4) (fun j => if j < 5 then d_al E1 (A2 + 4) j else d_al E1 (A + 4) j) = E := ⟨_, rfl⟩
  refine X_copyL (N := 5) rfl ha2.2.2.2.1 ha.2.2.2.1 (by decide) (Nat.zero_le _) ?_
  rw [g4]
  have p2 : CpR D5 E4 A A2 [4, 1] := by
    rw [← g4]
    exact p1.l (r := 4) hd (by decide) (by decide)
  clear g4
  refine Eg.cst (st' := []) rfl (Eg.sub (ls' := [(0, .ref A), (1, .ref A2)]) ?_ ⟨rfl, rfl, trivial⟩)
  refine X_run rfl ?_ ?_
  · simp [md_s, md_w, rget, r_a, r_b, r_c, r_i, r_l, hs, hs2]
  try simp only [md_s, md_w, rget_some, r_a, r_b, r_c, r_i, r_l, r_nx, r_pc, Nat.reduceEqDiff, false_and, if_false, hs, hs2]
  refine X_cV (args := [.ref (A2 + 2), .ref (A + 2)]) rfl (by decide) hs.1 rfl rfl (Nat.zero_le _) (c_Rcopy (N := 10) ha2.2.1 ha.2.1 (by decide)) ?_
  rintro _ _ ⟨E2, rfl, rfl, g2⟩
  have p3 : CpR D5 E2 A A2 [2, 4, 1] := by
    rw [← g2]
    exact p2.i (r := 2) hd (by decide) (by decide) (by decide) (by decide)
  clear g2
  refine Eg.cst (st' := []) rfl (Eg.sub (ls' := [(0, .ref A), (1, .ref A2)]) ?_ ⟨rfl, rfl, trivial⟩)
  refine X_run rfl ?_ ?_
  · simp [md_s, md_w, rget, r_a, r_b, r_c, r_i, r_l, hs, hs2]
  try simp only [md_s, md_w, rget_some, r_a, r_b, r_c, r_i, r_l, r_nx, r_pc, Nat.reduceEqDiff, false_and, if_false, hs, hs2]
  refine X_cV (args := [.ref (A2 + 3), .ref (A + 3)]) rfl (by decide) hs.1 rfl rfl (Nat.zero_le _) (c_Rcopy (N := 10) ha2.2.2.1 ha.2.2.1 (by decide)) ?_
  rintro _ _ ⟨E3, rfl, rfl, g3⟩
  have p4 : CpR D5 E3 A A2 [3, 2, 4, 1] := by
    rw [← g3]
    exact p3.i (r := 3) hd (by decide) (by decide) (by decide) (by decide)
  clear g3
  refine Eg.cst (st' := []) rfl (Eg.sub (ls' := [(0, .ref A), (1, .ref A2)]) ?_ ⟨rfl, rfl, trivial⟩)
  refine X_run rfl ?_ ?_
  · simp [md_s, md_w, rget, r_a, r_b, r_c, r_i, r_l, hs, hs2]
  try simp only [md_s, md_w, rget_some, r_a, r_b, r_c, r_i, r_l, r_nx, r_pc, Nat.reduceEqDiff, false_and, if_false, hs, hs2]
  refine X_cV (args := [.ref (A2 + 5), .ref (A + 5)]) rfl (by decide) hs.1 rfl rfl (Nat.zero_le _) (c_Rcopy (N := 5) ha2.2.2.2.2.1 ha.2.2.2.2.1 (by decide)) ?_
  rintro _ _ ⟨E5, rfl, rfl, g5⟩
  have p5 : CpR D5 E5 A A2 [5, 3, 2, 4, 1] := by
    rw [← g5]
    exact p4.i (r := 5) hd (by decide) (by decide) (by decide) (by decide)
  clear g5
  refine Eg.cst (st' := []) rfl (Eg.sub (ls' := [(0, .ref A), (1, .ref A2)]) ?_ ⟨rfl, rfl, trivial⟩)
  refine X_run rfl ?_ ?_
  · simp [md_s, md_w, rget, r_a, r_b, r_c, r_i, r_l, hs, hs2]
  try simp only [md_s, md_w, rget_some, r_a, r_b, r_c, r_i, r_l, r_nx, r_pc, Nat.reduceEqDiff, false_and, if_false, hs, hs2]
  refine X_cV (args := [.ref (A2 + 6), .ref (A + 6)]) rfl (by decide) hs.1 rfl rfl (Nat.zero_le _) (c_Rcopy (N := 5) ha2.2.2.2.2.2.1 ha.2.2.2.2.2.1 (by decide)) ?_
  rintro _ _ ⟨E6, rfl, rfl, g6⟩
  have p6 : CpR D5 E6 A A2 [6, 5, 3, 2, 4, 1] := by
    rw [← g6]
    exact p5.i (r := 6) hd (by decide) (by decide) (by decide) (by decide)
  clear g6
  refine Eg.cst (st' := []) rfl (Eg.sub (ls' := [(0, .ref A), (1, .ref A2)]) ?_ ⟨rfl, rfl, trivial⟩)
  refine X_run rfl ?_ ?_
  · simp [md_s, md_w, rget, r_a, r_b, r_c, r_i, r_l, hs, hs2]
  try simp only [md_s, md_w, rget_some, r_a, r_b, r_c, r_i, r_l, r_nx, r_pc, Nat.reduceEqDiff, false_and, if_false, hs, hs2]
  refine X_cV (args := [.ref (A2 + 7), .ref (A + 7)]) rfl (by decide) hs.1 rfl rfl (Nat.zero_le _) (c_Rcopy (N := 50) ha2.2.2.2.2.2.2.1 ha.2.2.2.2.2.2.1 (by decide)) ?_
  rintro _ _ ⟨E7, rfl, rfl, g7⟩
  have p7 : CpR D5 E7 A A2 [7, 6, 5, 3, 2, 4, 1] := by
    rw [← g7]
    exact p6.i (r := 7) hd (by decide) (by decide) (by decide) (by decide)
  clear g7
  refine Eg.cst (st' := []) rfl (Eg.sub (ls' := [(0, .ref A), (1, .ref A2)]) ?_ ⟨rfl, rfl, trivial⟩)
  refine X_run rfl ?_ ?_
  · simp [md_s, md_w, rget, r_a, r_b, r_c, r_i, r_l, hs, hs2]
  try simp only [md_s, md_w, rget_some, r_a, r_b, r_c, r_i, r_l, r_nx, r_pc, Nat.reduceEqDiff, false_and, if_false, hs, hs2]
  refine X_cV (args := [.ref (A2 + 8), .ref (A + 8)]) rfl (by decide) hs.1 rfl rfl (Nat.zero_le _) (c_Rcopy (N := 50) ha2.2.2.2.2.2.2.2 ha.2.2.2.2.2.2.2 (by decide)) ?_
  rintro _ _ ⟨E8, rfl, rfl, g8⟩
  have p8 : CpR D5 E8 A A2 [8, 7, 6, 5, 3, 2, 4, 1] := by
    rw [← g8]
    exact p7.i (r := 8) hd (by decide) (by decide) (by decide) (by decide)
  clear g8
  refine Eg.cst (st' := []) rfl (Eg.sub (ls' := [(0, .ref A), (1, .ref A2)]) ?_ ⟨rfl, rfl, trivial⟩)
  refine X_run rfl ?_ ?_
  · simp [md_s, md_w, rget, r_a, r_b, r_c, r_i, r_l, hs, hs2]
  try simp only [md_s, md_w, rget_some, r_a, r_b, r_c, r_i, r_l, r_nx, r_pc, Nat.reduceEqDiff, false_and, if_false, hs, hs2]
  refine X_cV (args := [.ref (A2 + 9), .ref (A + 9)]) rfl (by decide) hs.1 rfl rfl (Nat.zero_le _) (c_Rcopy (N := 60) hb2.1 hb.1 (by decide)) ?_
  rintro _ _ ⟨E9, rfl, rfl, g9⟩
  have p9 : CpR D5 E9 A A2 [9, 8, 7, 6, 5, 3, 2, 4, 1] := by
    rw [← g9]
    exact p8.i (r := 9) hd (by decide) (by decide) (by decide) (by decide)
  clear g9
  refine Eg.cst (st' := []) rfl (Eg.sub (ls' := [(0, .ref A), (1, .ref A2)]) ?_ ⟨rfl, rfl, trivial⟩)
  refine X_run rfl ?_ ?_
  · simp [md_s, md_w, rget, r_a, r_b, r_c, r_i, r_l, hs, hs2]
  try simp only [md_s, md_w, rget_some, r_a, r_b, r_c, r_i, r_l, r_nx, r_pc, Nat.reduceEqDiff, false_and, if_false, hs, hs2]
  refine X_cV (args := [.ref (A2 + 10), .ref (A + 10)]) rfl (by decide) hs.1 rfl rfl (Nat.zero_le _) (c_Rcopy (N := 60) hb2.2.1 hb.2.1 (by decide)) ?_
  rintro _ _ ⟨E10, rfl, rfl, g10⟩
  have p10 : CpR D5 E10 A A2 [10, 9, 8, 7, 6, 5, 3, 2, 4, 1] := by
    rw [← g10]
    exact p9.i (r := 10) hd (by decide) (by decide) (by decide) (by decide)
  clear g10
  refine Eg.cst (st' := []) rfl (Eg.sub (ls' := [(0, .ref A), (1, .ref A2)]) ?_ ⟨rfl, rfl, trivial⟩)
  refine X_run rfl ?_ ?_
  · simp [md_s, md_w, rget, r_a, r_b, r_c, r_i, r_l, hs, hs2]
  try simp only [md_s, md_w, rget_some, r_a, r_b, r_c, r_i, r_l, r_nx, r_pc, Nat.reduceEqDiff, false_and, if_false, hs, hs2]
  refine X_cV (args := [.ref (A2 + 11), .ref (A + 11)]) rfl (by decide) hs.1 rfl rfl (Nat.zero_le _) (c_Rcopy (N := 60) hb2.2.2.1 hb.2.2.1 (by decide)) ?_
  rintro _ _ ⟨E11, rfl, rfl, g11⟩
  have p11 : CpR D5 E11 A A2 [11, 10, 9, 8, 7, 6, 5, 3, 2, 4, 1] := by
    rw [← g11]
    exact p10.i (r := 11) hd (by decide) (by decide) (by decide) (by decide)
  clear g11
  refine Eg.cst (st' := []) rfl (Eg.sub (ls' := [(0, .ref A), (1, .ref A2)]) ?_ ⟨rfl, rfl, trivial⟩)
  refine X_run rfl ?_ ?_
  · simp [md_s, md_w, rget, r_a, r_b, r_c, r_i, r_l, hs, hs2]
  try simp only [md_s, md_w, rget_some, r_a, r_b, r_c, r_i, r_l, r_nx, r_pc, Nat.reduceEqDiff, false_and, if_false, hs, hs2]
  refine X_cV (args := [.ref (A2 + 12), .ref (A + 12)]) rfl (by decide) hs.1 rfl rfl (Nat.zero_le _) (c_Rcopy (N := 60) hb2.2.2.2.1 hb.2.2.2.1 (by decide)) ?_
  rintro _ _ ⟨E12, rfl, rfl, g12⟩
  have p12 : CpR D5 E12 A A2 [12, 11, 10, 9, 8, 7, 6, 5, 3, 2, 4, 1] := by
    rw [← g12]
    exact p11.i (r := 12) hd (by decide) (by decide) (by decide) (by decide)
  clear g12
  refine Eg.cst (st' := []) rfl (Eg.sub (ls' := [(0, .ref A), (1, .ref A2)]) ?_ ⟨rfl, rfl, trivial⟩)
  refine X_run rfl ?_ ?_
  · simp [md_s, md_w, rget, r_a, r_b, r_c, r_i, r_l, hs, hs2]
  try simp only [md_s, md_w, rget_some, r_a, r_b, r_c, r_i, r_l, r_nx, r_pc, Nat.reduceEqDiff, false_and, if_false, hs, hs2]
  refine X_cV (args := [.ref (A2 + 13), .ref (A + 13)]) rfl (by decide) hs.1 rfl rfl (Nat.zero_le _) (c_Rcopy (N := 60) hb2.2.2.2.2.1 hb.2.2.2.2.1 (by decide)) ?_
  rintro _ _ ⟨E13, rfl, rfl, g13⟩
  have p13 : CpR D5 E13 A A2 [13, 12, 11, 10, 9, 8, 7, 6, 5, 3, 2, 4, 1] := by
    rw [← g13]
    exact p12.i (r := 13) hd (by decide) (by decide) (by decide) (by decide)
  clear g13
  refine Eg.cst (st' := []) rfl (Eg.sub (ls' := [(0, .ref A), (1, .ref A2)]) ?_ ⟨rfl, rfl, trivial⟩)
  refine X_run rfl ?_ ?_
  · simp [md_s, md_w, rget, r_a, r_b, r_c, r_i, r_l, hs, hs2]
  try simp only [md_s, md_w, rget_some, r_a, r_b, r_c, r_i, r_l, r_nx, r_pc, Nat.reduceEqDiff, false_and, if_false, hs, hs2]
  refine X_cV (args := [.ref (A2 + 14), .ref (A + 14)]) rfl (by decide) hs.1 rfl rfl (Nat.zero_le _) (c_Rcopy (N := 60) hb2.2.2.2.2.2.1 hb.2.2.2.2.2.1 (by decide)) ?_
  rintro _ _ ⟨E14, rfl, rfl, g14⟩
  have p14 : CpR D5 E14 A A2 [14, 13, 12, 11, 10, 9, 8, 7, 6, 5, 3, 2, 4, 1] := by
    rw [← g14]
    exact p13.i (r := 14) hd (by decide) (by decide) (by decide) (by decide)
  clear g14
  refine Eg.cst (st' := []) rfl (Eg.sub (ls' := [(0, .ref A), (1, .ref A2)]) ?_ ⟨rfl, rfl, trivial⟩)
  refine X_run rfl ?_ ?_
  · simp [md_s, md_w, rget, r_a, r_b, r_c, r_i, r_l, hs, hs2]
  try simp only [md_s, md_w, rget_some, r_a, r_b, r_c, r_i, r_l, r_nx, r_pc, Nat.reduceEqDiff, false_and, if_false, hs, hs2]
  refine X_cV (args := [.ref (A2 + 15), .ref (A + 15)]) rfl (by decide) hs.1 rfl rfl (Nat.zero_le _) (c_Rcopy (N := 60) hb2.2.2.2.2.2.2.1 hb.2.2.2.2.2.2.1 (by decide)) ?_
  rintro _ _ ⟨E15, rfl, rfl, g15⟩
  have p15 : CpR D5 E15 A A2 [15, 14, 13, 12, 11, 10, 9, 8, 7, 6, 5, 3, 2, 4, 1] := by
    rw [← g15]
    exact p14.i (r := 15) hd (by decide) (by decide) (by decide) (by decide)
  clear g15
  refine Eg.cst (st' := []) rfl (Eg.sub (ls' := [(0, .ref A), (1, .ref A2)]) ?_ ⟨rfl, rfl, trivial⟩)
  refine X_run rfl ?_ ?_
  · simp [md_s, md_w, rget, r_a, r_b, r_c, r_i, r_l, hs, hs2]
  try simp only [md_s, md_w, rget_some, r_a, r_b, r_c, r_i, r_l, r_nx, r_pc, Nat.reduceEqDiff, false_and, if_false, hs, hs2]
  refine X_cV (args := [.ref (A2 + 16), .ref (A + 16)]) rfl (by decide) hs.1 rfl rfl (Nat.zero_le _) (c_Rcopy (N := 60) hb2.2.2.2.2.2.2.2.1 hb.2.2.2.2.2.2.2.1 (by decide)) ?_
  rintro _ _ ⟨E16, rfl, rfl, g16⟩
  have p16 : CpR D5 E16 A A2 [16, 15, 14, 13, 12, 11, 10, 9, 8, 7, 6, 5, 3, 2, 4, 1] := by
    rw [← g16]
    exact p15.i (r := 16) hd (by decide) (by decide) (by decide) (by decide)
  clear g16
  refine Eg.cst (st' := []) rfl (Eg.sub (ls' := [(0, .ref A), (1, .ref A2)]) ?_ ⟨rfl, rfl, trivial⟩)
  refine X_run rfl ?_ ?_
  · simp [md_s, md_w, rget, r_a, r_b, r_c, r_i, r_l, hs, hs2]
  try simp only [md_s, md_w, rget_some, r_a, r_b, r_c, r_i, r_l, r_nx, r_pc, Nat.reduceEqDiff, false_and, if_false, hs, hs2]
  refine X_cV (args := [.ref (A2 + 17), .ref (A + 17)]) rfl (by decide) hs.1 rfl rfl (Nat.zero_le _) (c_Rcopy (N := 60) hb2.2.2.2.2.2.2.2.2.1 hb.2.2.2.2.2.2.2.2.1 (by decide)) ?_
  rintro _ _ ⟨E17, rfl, rfl, g17⟩
  have p17 : CpR D5 E17 A A2 [17, 16, 15, 14, 13, 12, 11, 10, 9, 8, 7, 6, 5, 3, 2, 4, 1] := by
    rw [← g17]
    exact p16.i (r := 17) hd (by decide) (by decide) (by decide) (by decide)
  clear g17
  refine Eg.cst (st' := []) rfl (Eg.sub (ls' := [(0, .ref A), (1, .ref A2)]) ?_ ⟨rfl, rfl, trivial⟩)
  refine X_run rfl trivial ?_
  have hall : ∀ r, 1 ≤ r → r < 18 → r ∈ [17, 16, 15, 14, 13, 12, 11, 10, 9, 8, 7, 6, 5, 3, 2, 4, 1] := by
    intro r h1 h2
    simp only [List.mem_cons, List.not_mem_nil, or_false]
    omega
  refine X_vret rfl rfl ⟨_, rfl, rfl, p17.rep hall hR5 c5 hW, o5.tr (fun x hx => ?_)⟩
  obtain ⟨g1, g2, g3, -⟩ := p17
  have g4 := g3 x (fun r hr => by
    simp only [List.mem_cons, List.not_mem_nil, or_false] at hr
    omega)
  exact ⟨fun k => by rw [g1], fun k => by rw [g2], g4.1, g4.2⟩
end BECOME
