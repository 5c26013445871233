/-! making a book: moneys, payments, all of it; a netting -/
section MKBOOK2
variable {g : GG} {d : Nat} {S : ShT} {D : DaT} {B : Nat} {Z : ZT}
set_option maxRecDepth 20000 in
theorem bk_l2 (hz : s_sz S = B + 1) (k : ∀ S' D', InvB S S' D D' B 10 5 0 → Eg g (d + 3) mX0_init 60 600 Z 90 [(0, .ref B)] [] (md S' D')) : ∀ (r i : Nat) (S1 : ShT) (D1 : DaT), i + r = 5 → InvB S S1 D D1 B 10 i 0 → Eg g (d + 3) mX0_init (1 * r + 60) (3 * r + 600) Z 62 [(0, .ref B), (1, .int (nI i))] [] (md S1 D1) := by
  intro r
  induction r with
  | zero =>
    intro i S1 D1 hi h
    obtain ⟨hA, hH, hp, hm, hy⟩ := id h
    have hh := hH
    unfold BkH at hh
    have hi : i = 5 := by omega
    subst hi
    refine X_run rfl ?_ ?_
    · simp [md_s, md_w, rget, r_a, r_b, r_c, r_i, r_l, hh]
    try simp only [md_s, md_w, rget_some, r_a, r_b, r_c, r_i, r_l, r_nx, r_pc, Nat.reduceEqDiff, false_and, if_false, hh]
    refine X_icmp_ge rfl (fun _ => ?_) (fun z => absurd (Int32.le_iff_toInt_le.mpr (Int.le_refl _)) z)
    exact Eg.sub (k _ _ h) ⟨rfl, trivial⟩
  | succ r ih =>
    intro i S1 D1 hi h
    obtain ⟨hA, hH, hp, hm, hy⟩ := id h
    have hh := hH
    unfold BkH at hh
    have hs := hA.1
    have x1 := vx (show i < 5 by omega) (by decide)
    refine X_run rfl ?_ ?_
    · simp [md_s, md_w, rget, r_a, r_b, r_c, r_i, r_l, hh]
    try simp only [md_s, md_w, rget_some, r_a, r_b, r_c, r_i, r_l, r_nx, r_pc, Nat.reduceEqDiff, false_and, if_false, hh]
    refine X_icmp_ge rfl (fun z => ?_) (fun _ => ?_)
    · rw [Int32.le_iff_toInt_le, nI_toInt (by omega), nI_toInt (by omega)] at z
      omega
    refine X_run rfl ?_ ?_
    · simp [md_s, md_w, rget, r_a, r_b, r_c, r_i, r_l, hh]
    try simp only [md_s, md_w, rget_some, r_a, r_b, r_c, r_i, r_l, r_nx, r_pc, Nat.reduceEqDiff, false_and, if_false, hh]
    refine Eg.cost (bc := 1 * r + 60 + 1) (bs := 3 * r + 600 + 3) ?_ (by omega) (by omega)
    refine X_new (n := 0) (N := 3) rfl (by decide) (fun q hq => by cases hq; rfl) ?_
    obtain ⟨Sa, Da, ea, hGa, hsa, hna, -, hAa⟩ := newA S1 D1 3 0
    rw [show w_new (md S1 D1) (3 - 1 + 1) 0 = md Sa Da from ea]
    refine X_run rfl trivial ?_
    refine X_cI (args := []) rfl (by decide) rfl rfl (Nat.le_of_ble_eq_true rfl) c_mk2 ?_
    rintro _ _ ⟨rfl, rfl⟩
    have hHb := hH.acc hAa (by omega) (by omega)
    have tz := hna.1
    have hhb := hHb
    unfold BkH at hhb
    refine X_run rfl ?_ ?_
    · simp [md_s, md_w, rget, r_a, r_b, r_c, r_i, r_l, hhb, tz, x1, w_ar_md]
    try simp only [md_s, md_w, rget_some, r_a, r_b, r_c, r_i, r_l, r_nx, r_pc, Nat.reduceEqDiff, false_and, if_false, hhb, tz, x1, w_ar_md]
    have hI : InvB S (par Sa (B + 2) i (some (s_sz S1))) D Da B 10 (i + 1) 0 := by
      refine ⟨((hA.call hAa (by omega)).par (by omega)).trans' (by omega), hHb, fun p hpp => ((hp p hpp).acc hAa (by unfold pa; omega) (by unfold pa; omega)).par (Or.inl (by omega)), fun m hmm => ?_, fun q hq => absurd hq (Nat.not_lt_zero _)⟩
      by_cases c : m = i
      · subst c
        have ez : s_sz S1 = ma B m := by unfold ma; omega
        rw [ez] at tz ⊢
        exact ⟨by rw [rd_ar, if_pos ⟨rfl, rfl⟩], tz⟩
      · exact ((hm m (by omega)).acc hAa (by unfold ma; omega)).par (Or.inr (by omega))
    exact Eg.sub (ih (i + 1) _ _ (by omega) hI) ⟨rfl, congrArg (fun x => some (Value.int x)) (nI_plus i 1).symm, trivial⟩
set_option maxRecDepth 20000 in
theorem bk_l3 (hz : s_sz S = B + 1) (k : ∀ S' D', InvB S S' D D' B 10 5 60 → Eg g (d + 3) mX0_init 0 0 Z 120 [(0, .ref B)] [] (md S' D')) : ∀ (r i : Nat) (S1 : ShT) (D1 : DaT), i + r = 60 → InvB S S1 D D1 B 10 5 i → Eg g (d + 3) mX0_init (1 * r + 0) (10 * r + 0) Z 92 [(0, .ref B), (1, .int (nI i))] [] (md S1 D1) := by
  intro r
  induction r with
  | zero =>
    intro i S1 D1 hi h
    obtain ⟨hA, hH, hp, hm, hy⟩ := id h
    have hh := hH
    unfold BkH at hh
    have hi : i = 60 := by omega
    subst hi
    refine X_run rfl ?_ ?_
    · simp [md_s, md_w, rget, r_a, r_b, r_c, r_i, r_l, hh]
    try simp only [md_s, md_w, rget_some, r_a, r_b, r_c, r_i, r_l, r_nx, r_pc, Nat.reduceEqDiff, false_and, if_false, hh]
    refine X_icmp_ge rfl (fun _ => ?_) (fun z => absurd (Int32.le_iff_toInt_le.mpr (Int.le_refl _)) z)
    exact Eg.sub (k _ _ h) ⟨rfl, trivial⟩
  | succ r ih =>
    intro i S1 D1 hi h
    obtain ⟨hA, hH, hp, hm, hy⟩ := id h
    have hh := hH
    unfold BkH at hh
    have hs := hA.1
    have x1 := vx (show i < 60 by omega) (by decide)
    refine X_run rfl ?_ ?_
    · simp [md_s, md_w, rget, r_a, r_b, r_c, r_i, r_l, hh]
    try simp only [md_s, md_w, rget_some, r_a, r_b, r_c, r_i, r_l, r_nx, r_pc, Nat.reduceEqDiff, false_and, if_false, hh]
    refine X_icmp_ge rfl (fun z => ?_) (fun _ => ?_)
    · rw [Int32.le_iff_toInt_le, nI_toInt (by omega), nI_toInt (by omega)] at z
      omega
    refine X_run rfl ?_ ?_
    · simp [md_s, md_w, rget, r_a, r_b, r_c, r_i, r_l, hh]
    try simp only [md_s, md_w, rget_some, r_a, r_b, r_c, r_i, r_l, r_nx, r_pc, Nat.reduceEqDiff, false_and, if_false, hh]
    refine Eg.cost (bc := 1 * r + 0 + 1) (bs := 10 * r + 0 + 10) ?_ (by omega) (by omega)
    refine X_new (n := 0) (N := 10) rfl (by decide) (fun q hq => by cases hq; rfl) ?_
    obtain ⟨Sa, Da, ea, hGa, hsa, hna, -, hAa⟩ := newA S1 D1 6 0
    rw [show w_new (md S1 D1) (6 - 1 + 1) 0 = md Sa Da from ea]
    refine X_run rfl trivial ?_
    refine X_cI (args := []) rfl (by decide) rfl rfl (Nat.le_of_ble_eq_true rfl) c_mk5 ?_
    rintro _ _ ⟨rfl, rfl⟩
    have hHb := hH.acc hAa (by omega) (by omega)
    have tz := hna.1
    have hhb := hHb
    unfold BkH at hhb
    refine X_run rfl ?_ ?_
    · simp [md_s, md_w, rget, r_a, r_b, r_c, r_i, r_l, hhb, tz, x1, w_ar_md]
    try simp only [md_s, md_w, rget_some, r_a, r_b, r_c, r_i, r_l, r_nx, r_pc, Nat.reduceEqDiff, false_and, if_false, hhb, tz, x1, w_ar_md]
    have hI : InvB S (par Sa (B + 3) i (some (s_sz S1))) D Da B 10 5 (i + 1) := by
      refine ⟨((hA.call hAa (by omega)).par (by omega)).trans' (by omega), hHb, fun p hpp => ((hp p hpp).acc hAa (by unfold pa; omega) (by unfold pa; omega)).par (Or.inl (by omega)), fun m hmm => ((hm m hmm).acc hAa (by unfold ma; omega)).par (Or.inl (by omega)), fun q hq => ?_⟩
      by_cases c : q = i
      · subst c
        have ez : s_sz S1 = ya B q := by unfold ya; omega
        rw [ez] at tz ⊢
        exact ⟨by rw [rd_ar, if_pos ⟨rfl, rfl⟩], tz⟩
      · exact ((hy q (by omega)).acc hAa (by unfold ya; omega)).par (Or.inr (by omega))
    exact Eg.sub (ih (i + 1) _ _ (by omega) hI) ⟨rfl, congrArg (fun x => some (Value.int x)) (nI_plus i 1).symm, trivial⟩
set_option maxRecDepth 20000 in
theorem c_mk0 (ht : s_tg S B = 1) (hz : s_sz S = B + 1) : EvM g (d + 3) mX0_init 138 960 [.ref B] (md S D) (fun v M1 => ∃ S1 D1, v = none ∧ M1 = md S1 D1 ∧ Acc S S1 D D1 B 138 ∧ BkL S1 B) := by
  refine EvM.mk (by decide) (Nat.le_of_ble_eq_true rfl) ?_
  refine X_run rfl trivial ?_
  refine X_obj (a := 0) rfl (Nat.le_of_ble_eq_true rfl) ?_
  refine X_run rfl trivial ?_
  refine X_anewarray (a := 3) (N := 10) rfl (by decide) rfl (by decide) ?_
  obtain ⟨Sa, Da, ea, hGa, hsa, hna, -, hAa⟩ := newA S D 23 10
  rw [show w_new (md S D) (3 + 20) 10 = md Sa Da from ea]
  have ta : s_tg Sa B = 1 := (hAa.tg (by omega)).trans ht
  refine X_run rfl ?_ ?_
  · simp [md_s, md_w, rget, r_a, r_b, r_c, r_i, r_l, ta, w_fr_md]
  try simp only [md_s, md_w, rget_some, r_a, r_b, r_c, r_i, r_l, r_nx, r_pc, Nat.reduceEqDiff, false_and, if_false, ta, w_fr_md]
  obtain ⟨y1, y2, y3, y4, y5⟩ := subStep (k := 0) (v := some (s_sz S)) (o := B) (by omega) hAa (Acc.rf (S := Sa) (D := Da) (o := s_sz S)) rfl
  have k1 : AtL (pfr Sa 0 B (some (s_sz S))) (s_sz S) 23 10 := hna
  generalize pfr Sa 0 B (some (s_sz S)) = S1 at *
  generalize Da = D1 at *
  clear hGa hsa hna hAa ea ta
  have t1 := y5.trans ht
  have A1 := y2
  refine X_run rfl ?_ ?_
  · simp [md_s, md_w, rget, r_a, r_b, r_c, r_i, r_l, t1]
  try simp only [md_s, md_w, rget_some, r_a, r_b, r_c, r_i, r_l, r_nx, r_pc, Nat.reduceEqDiff, false_and, if_false, t1]
  refine X_anewarray (a := 4) (N := 5) rfl (by decide) rfl (by decide) ?_
  obtain ⟨Sa, Da, ea, hGa, hsa, hna, -, hAa⟩ := newA S1 D1 24 5
  rw [show w_new (md S1 D1) (4 + 20) 5 = md Sa Da from ea]
  have ta : s_tg Sa B = 1 := (hAa.tg (by omega)).trans t1
  refine X_run rfl ?_ ?_
  · simp [md_s, md_w, rget, r_a, r_b, r_c, r_i, r_l, ta, w_fr_md]
  try simp only [md_s, md_w, rget_some, r_a, r_b, r_c, r_i, r_l, r_nx, r_pc, Nat.reduceEqDiff, false_and, if_false, ta, w_fr_md]
  obtain ⟨u1, u2, u3, u4, u5⟩ := subStep (k := 1) (v := some (s_sz S1)) (o := B) (by omega) hAa (Acc.rf (S := Sa) (D := Da) (o := s_sz S1)) rfl
  have k2 : AtL (pfr Sa 1 B (some (s_sz S1))) (s_sz S1) 24 5 := hna
  generalize pfr Sa 1 B (some (s_sz S1)) = S2 at *
  generalize Da = D2 at *
  clear hGa hsa hna hAa ea ta
  have t2 := u5.trans t1
  have A2 := A1.call' u2 (Or.inl rfl)
  have k12 := k1.acc u2 (by omega)
  have f02 := (u3 0 (by decide)).trans y4
  refine X_run rfl ?_ ?_
  · simp [md_s, md_w, rget, r_a, r_b, r_c, r_i, r_l, t2]
  try simp only [md_s, md_w, rget_some, r_a, r_b, r_c, r_i, r_l, r_nx, r_pc, Nat.reduceEqDiff, false_and, if_false, t2]
  refine X_anewarray (a := 5) (N := 60) rfl (by decide) rfl (by decide) ?_
  obtain ⟨Sa, Da, ea, hGa, hsa, hna, -, hAa⟩ := newA S2 D2 25 60
  rw [show w_new (md S2 D2) (5 + 20) 60 = md Sa Da from ea]
  have ta : s_tg Sa B = 1 := (hAa.tg (by omega)).trans t2
  refine X_run rfl ?_ ?_
  · simp [md_s, md_w, rget, r_a, r_b, r_c, r_i, r_l, ta, w_fr_md]
  try simp only [md_s, md_w, rget_some, r_a, r_b, r_c, r_i, r_l, r_nx, r_pc, Nat.reduceEqDiff, false_and, if_false, ta, w_fr_md]
  obtain ⟨w1, w2, w3, w4, w5⟩ := subStep (k := 2) (v := some (s_sz S2)) (o := B) (by omega) hAa (Acc.rf (S := Sa) (D := Da) (o := s_sz S2)) rfl
  have k3 : AtL (pfr Sa 2 B (some (s_sz S2))) (s_sz S2) 25 60 := hna
  generalize pfr Sa 2 B (some (s_sz S2)) = S3 at *
  generalize Da = D3 at *
  clear hGa hsa hna hAa ea ta
  have t3 := w5.trans t2
  have A3 := A2.call' w2 (Or.inl rfl)
  have k13 := k12.acc w2 (by omega)
  have k23 := k2.acc w2 (by omega)
  have f03 := (w3 0 (by decide)).trans f02
  have f13 := (w3 1 (by decide)).trans u4
  have e1 : s_sz S = B + 1 := hz
  have e2 : s_sz S1 = B + 2 := by omega
  have e3 : s_sz S2 = B + 3 := by omega
  rw [e1] at k13 f03
  rw [e2] at k23 f13
  rw [e3] at k3 w4
  have hI : InvB S S3 D D3 B 0 0 0 := ⟨A3.trans' rfl, ⟨t3, f03, f13, w4, k13.1, k13.2, k23.1, k23.2, k3.1, k3.2⟩, fun p hp => absurd hp (Nat.not_lt_zero _), fun p hp => absurd hp (Nat.not_lt_zero _), fun p hp => absurd hp (Nat.not_lt_zero _)⟩
  refine bk_l1 hz (fun S4 D4 h4 => ?_) 10 0 S3 D3 rfl hI
  refine X_run rfl trivial ?_
  refine bk_l2 hz (fun S5 D5 h5 => ?_) 5 0 S4 D4 rfl h4
  refine X_run rfl trivial ?_
  refine bk_l3 hz (fun S6 D6 h6 => ?_) 60 0 S5 D5 rfl h5
  obtain ⟨hA, hH, hp, hm, hy⟩ := h6
  exact X_vret rfl rfl ⟨S6, D6, rfl, rfl, hA.trans' rfl, hH, hp, hm, hy⟩
set_option maxRecDepth 20000 in
theorem c_mk3 {o : Nat} (ht : s_tg S o = 4) (hz : s_sz S = o + 1) : EvM g (d + 4) mX3_init 139 968 [.ref o] (md S D) (fun v M1 => ∃ S1 D1, v = none ∧ M1 = md S1 D1 ∧ Acc S S1 D D1 o 139 ∧ NtL S1 o (o + 1) ∧ BkL S1 (o + 1)) := by
  refine EvM.mk (by decide) (Nat.le_of_ble_eq_true rfl) ?_
  refine X_run rfl trivial ?_
  refine X_obj (a := 0) rfl (Nat.le_of_ble_eq_true rfl) ?_
  refine X_run rfl trivial ?_
  refine X_new (n := 0) (N := 8) rfl (by decide) (fun q hq => by cases hq; rfl) ?_
  obtain ⟨Sa, Da, ea, hGa, hsa, hna, -, hAa⟩ := newA S D 1 0
  rw [show w_new (md S D) (0 + 1) 0 = md Sa Da from ea]
  refine X_run rfl trivial ?_
  refine X_callI (bc1 := 138) (bs1 := 960) (args := []) rfl (by decide) rfl rfl (Nat.le_of_ble_eq_true rfl) (c_mk0 hna.1 (by show s_sz Sa = s_sz S + 1; omega)) ?_
  rintro _ _ ⟨Sb, Db, rfl, rfl, hAb, hRb⟩
  have hRb : BkL Sb (s_sz S) := hRb
  have tb : s_tg Sb o = 4 := (hAb.tg (by omega)).trans ((hAa.tg (by omega)).trans ht)
  refine X_run rfl ?_ ?_
  · simp [md_s, md_w, rget, r_a, r_b, r_c, r_i, r_l, tb, w_fr_md]
  try simp only [md_s, md_w, rget_some, r_a, r_b, r_c, r_i, r_l, r_nx, r_pc, Nat.reduceEqDiff, false_and, if_false, tb, w_fr_md]
  obtain ⟨y1, y2, y3, y4, y5⟩ := subStep (k := 96) (v := some (s_sz S)) (o := o) (by omega) hAa hAb rfl
  have hR2 := hRb.sam (sam_pfr (k := 96) (o := o) (v := some (s_sz S)) (by omega))
  rw [hz] at hR2
  exact X_vret rfl rfl ⟨_, _, rfl, rfl, y2.trans' rfl, ⟨y5.trans ht, y4.trans (congrArg some hz)⟩, by rw [hz]; exact hR2⟩
end MKBOOK2
