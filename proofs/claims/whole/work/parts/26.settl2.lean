section SETTL2
variable {g : GG} {d : Nat} {S : ShT} {D : DaT} {B N : Nat} {K : KT}
theorem setB_0 {K : KT} {nt : Nat → Nat → Int32} : setB K nt 0 = K := by
  unfold setB
  simp only [Nat.not_lt_zero, if_false]
  rfl
theorem setS_0 {K : KT} {tk : Nat → Bool} : setS K tk 0 = K := by
  unfold setS
  simp only [Nat.not_lt_zero, false_and, if_false]
  rfl
theorem k_se_st {K : KT} {f : Nat → Int32} : k_se (ks_st K f) = k_se K := rfl
theorem kd_st {K : KT} {f : Nat → Int32} : k_day (ks_st K f) = k_day K ∧ k_hr (ks_st K f) = k_hr K ∧ skel (ks_st K f) = skel K := ⟨rfl, rfl, rfl⟩
theorem kd_se {K : KT} {f : Nat → Int32} : k_day (ks_se K f) = k_day K ∧ k_hr (ks_se K f) = k_hr K ∧ skel (ks_se K f) = skel K := ⟨rfl, rfl, rfl⟩
theorem kd_ba {K : KT} {f : Nat → Nat → Int32} : k_day (ks_ba K f) = k_day K ∧ k_hr (ks_ba K f) = k_hr K ∧ skel (ks_ba K f) = skel K := ⟨rfl, rfl, rfl⟩
theorem kd_S {K : KT} {tk : Nat → Bool} {i : Nat} : k_day (setS K tk i) = k_day K ∧ k_hr (setS K tk i) = k_hr K ∧ skel (setS K tk i) = skel K := by
  unfold setS
  rw [kd_se.1, kd_se.2.1, kd_se.2.2, kd_st.1, kd_st.2.1, kd_st.2.2]
  exact ⟨rfl, rfl, rfl⟩
theorem kd_B {K : KT} {nt : Nat → Nat → Int32} {i : Nat} : k_day (setB K nt i) = k_day K ∧ k_hr (setB K nt i) = k_hr K ∧ skel (setB K nt i) = skel K := by
  unfold setB
  rw [kd_ba.1, kd_ba.2.1, kd_ba.2.2]
  exact ⟨rfl, rfl, rfl⟩
theorem c_settle (hN : NtL S N B) (hL : BkL S B) (hW : WfK K) (hR : RepC D B K) : EvM g (d + 6) mX3_settle 0 0 [.ref N] (md S D) (fun v M1 => ∃ D1, v = some (.int (cntT K (outK K).1)) ∧ M1 = md S D1 ∧ RepC D1 B (settleK K) ∧ Out B (B + 139) D D1) := by
  have hb := hL.1
  have hn0 := hN
  unfold NtL at hn0
  obtain ⟨w1, w2, w3, w4⟩ := id hW
  refine EvM.mk (by decide) (Nat.le_of_ble_eq_true rfl) ?_
  refine X_run rfl trivial ?_
  refine X_cV (args := []) rfl (by decide) hn0.1 rfl rfl (Nat.le_of_ble_eq_true rfl) (c_begin hN hL hW hR) ?_
  rintro _ _ ⟨D1, rfl, rfl, hR1, hU1, hO1⟩
  refine X_run rfl trivial ?_
  refine X_cV (args := []) rfl (by decide) hn0.1 rfl rfl (Nat.le_of_ble_eq_true rfl) (c_leaveOutAll (r := (takes0 K, net0 K (k_ny K))) hN hL hW hR1 hU1) ?_
  rintro _ _ ⟨D2, rfl, rfl, hR2, hU2, hO2⟩
  have hO2 := hO1.tr hO2
  have hU2 : Run D2 B K (outK K).1 (outK K).2 := hU2
  unfold settleK
  generalize outK K = r at hU2 ⊢
  obtain ⟨tk, nt⟩ := r
  obtain ⟨hT2, hS2, -, -⟩ := hU2
  replace hT2 : ScT D2 B tk (k_ny K) := hT2
  replace hS2 : ScN D2 B nt (k_np K) := hS2
  refine X_run rfl trivial ?_
  refine Eg_up (α := DaT) (fun i D' => Eg g (d + 6) mX3_settle 0 0 (Zr g _) 12 [(0, .ref N), (1, .int (iter (fun i acc => if tk i = true then acc + 1 else acc) i 0)), (2, .int (nI i))] [] (md S D')) (fun i D' => RepC D' B (setS K tk i) ∧ ScT D' B tk (k_ny K) ∧ ScN D' B nt (k_np K) ∧ Out B (B + 139) D D') (k_ny K) (fun n D3 hn hI k => ?_) (fun D3 hI => ?_) D2 ⟨by rw [setS_0]; exact hR2, hT2, hS2, hO2⟩
  · obtain ⟨hR3, hT3, hS3, hO3⟩ := hI
    have hc := hR3.cnt (K' := K) kd_S.2.2
    have hn2 : n < 60 := by omega
    have hy := hL.2.2.2 n hn2
    have ht := hT3 n hn
    refine X_run rfl ?_ ?_
    · simp [md_s, md_w, rget, r_a, r_b, r_c, r_i, r_l, hn0, hb, hc]
    try simp only [md_s, md_w, rget_some, r_a, r_b, r_c, r_i, r_l, r_nx, r_pc, Nat.reduceEqDiff, false_and, if_false, hn0, hb, hc]
    refine X_icmp_ge rfl (fun c1 => no_le c1 hn (by omega)) (fun c1 => ?_)
    refine X_run rfl ?_ ?_
    · simp [md_s, md_w, rget, r_a, r_b, r_c, r_i, r_l, hn0, hb]
    try simp only [md_s, md_w, rget_some, r_a, r_b, r_c, r_i, r_l, r_nx, r_pc, Nat.reduceEqDiff, false_and, if_false, hn0, hb]
    refine X_cV rfl (by decide) hb.1 rfl rfl (Nat.le_of_ble_eq_true rfl) (c_paymentAt hL hn2) ?_
    rintro _ _ ⟨rfl, rfl⟩
    refine X_run rfl ?_ ?_
    · simp [md_s, md_w, rget, r_a, r_b, r_c, r_i, r_l, hy, ht]
    try simp only [md_s, md_w, rget_some, r_a, r_b, r_c, r_i, r_l, r_nx, r_pc, Nat.reduceEqDiff, false_and, if_false, hy, ht]
    refine X_if_eq rfl (fun c2 => ?_) (fun c2 => ?_)
    · have c2 := b2i_zero.mp c2
      refine X_run rfl ?_ ?_
      · simp [md_s, md_w, rget, r_a, r_b, r_c, r_i, r_l, nI_s1]
      try simp only [md_s, md_w, rget_some, r_a, r_b, r_c, r_i, r_l, r_nx, r_pc, Nat.reduceEqDiff, false_and, if_false, nI_s1]
      refine Eg.sub (k _ ⟨by rw [setS_no c2]; exact hR3, hT3, hS3, hO3⟩) ⟨rfl, ?_, rfl, trivial⟩
      show _ = some (Value.int (if tk n = true then _ else _))
      rw [if_neg (by rw [c2]; decide)]
      rfl
    · have c2 := b2i_nz c2
      obtain ⟨D4, e4, z4, y4⟩ := wr_fi D3 166 (ya B n) 1
      obtain ⟨D5, e5, z5, y5⟩ := wr_fi D4 167 (ya B n) (24 * k_day K + k_hr K)
      have hR4 : RepC D4 B (ks_st (setS K tk n) (up1 (k_st (setS K tk n)) n 1)) := e4 ▸ hR3.st (n := n) 1
      have hR5 : RepC D5 B (setS K tk (n + 1)) := by
        rw [← setS_yes c2]
        have := hR4.se (n := n) (24 * k_day K + k_hr K)
        rw [k_se_st, e5] at this
        exact this
      have hd : d_fi D4 6 B = k_day K ∧ d_fi D4 7 B = k_hr K := by
        have := hR4.1
        rw [kd_st.1, kd_st.2.1, kd_S.1, kd_S.2.1] at this
        exact ⟨this.2.2.2.1, this.2.2.2.2⟩
      refine X_run rfl ?_ ?_
      · simp [md_s, md_w, rget, r_a, r_b, r_c, r_i, r_l, hn0, hb, hy, e4, hd, e5, nI_s1]
      try simp only [md_s, md_w, rget_some, r_a, r_b, r_c, r_i, r_l, r_nx, r_pc, Nat.reduceEqDiff, false_and, if_false, hn0, hb, hy, e4, hd, e5, nI_s1]
      refine Eg.sub (k _ ⟨hR5, (hT3.fi (fun a => by rw [z4, if_neg (by omega)])).fi (fun a => by rw [z5, if_neg (by omega)]), (hS3.fi y4.2.1).fi y5.2.1, (hO3.tr (e4 ▸ Out.fi (by unfold ya; omega))).tr (e5 ▸ Out.fi (by unfold ya; omega))⟩) ⟨rfl, ?_, rfl, trivial⟩
      show _ = some (Value.int (if tk n = true then _ else _))
      rw [if_pos c2]
      rfl
  · obtain ⟨hR3, hT3, hS3, hO3⟩ := hI
    have hc := hR3.cnt (K' := K) kd_S.2.2
    have hcn : iter (fun i acc => if tk i = true then acc + 1 else acc) (k_ny K) (0 : Int32) = cntT K tk := rfl
    rw [hcn]
    refine X_run rfl ?_ ?_
    · simp [md_s, md_w, rget, r_a, r_b, r_c, r_i, r_l, hn0, hb, hc]
    try simp only [md_s, md_w, rget_some, r_a, r_b, r_c, r_i, r_l, r_nx, r_pc, Nat.reduceEqDiff, false_and, if_false, hn0, hb, hc]
    refine X_icmp_ge rfl (fun c1 => ?_) (fun c1 => no_nle c1 (Nat.le_refl _) (by omega))
    refine X_run rfl trivial ?_
    refine Eg_up (α := DaT) (fun i D' => Eg g (d + 6) mX3_settle 0 0 (Zr g _) 77 [(0, .ref N), (1, .int (cntT K tk)), (2, .int (nI i))] [] (md S D')) (fun i D' => RepC D' B (setB (setS K tk (k_ny K)) nt i) ∧ ScN D' B nt (k_np K) ∧ Out B (B + 139) D D') (k_np K) (fun p D4 hp hI k => ?_) (fun D4 hI => ?_) D3 ⟨by rw [setB_0]; exact hR3, hS3, hO3⟩
    · obtain ⟨hR4, hS4, hO4⟩ := hI
      have hc4 := hR4.cnt (K' := K) (kd_B.2.2.trans kd_S.2.2)
      have hp2 : p < 10 := by omega
      obtain ⟨hq, hr1, hr2, hr3⟩ := hL.2.1 p hp2
      refine X_run rfl ?_ ?_
      · simp [md_s, md_w, rget, r_a, r_b, r_c, r_i, r_l, hn0, hb, hc4]
      try simp only [md_s, md_w, rget_some, r_a, r_b, r_c, r_i, r_l, r_nx, r_pc, Nat.reduceEqDiff, false_and, if_false, hn0, hb, hc4]
      refine X_icmp_ge rfl (fun c1 => no_le c1 hp (by omega)) (fun c1 => ?_)
      refine X_run rfl ?_ ?_
      · simp [md_s, md_w, rget, r_a, r_b, r_c, r_i, r_l, hn0, hb]
      try simp only [md_s, md_w, rget_some, r_a, r_b, r_c, r_i, r_l, r_nx, r_pc, Nat.reduceEqDiff, false_and, if_false, hn0, hb]
      refine X_cV rfl (by decide) hb.1 rfl rfl (Nat.le_of_ble_eq_true rfl) (c_partyAt hL hp2) ?_
      rintro _ _ ⟨rfl, rfl⟩
      refine X_run rfl ?_ ?_
      · simp [md_s, md_w, rget, r_a, r_b, r_c, r_i, r_l, hq]
      try simp only [md_s, md_w, rget_some, r_a, r_b, r_c, r_i, r_l, r_nx, r_pc, Nat.reduceEqDiff, false_and, if_false, hq]
      refine X_cV (args := [.ref (pa B p + 5)]) rfl (by decide) hr1.1 rfl rfl (Nat.le_of_ble_eq_true rfl) (c_copyRow hr1 hr3 (show pa B p + 6 ≠ pa B p + 2 by omega)) ?_
      rintro _ _ ⟨D5, rfl, rfl, f1, f2, f3, f4⟩
      have hrow : RowEq D4 D5 (pa B p + 2) 5 (nt p) := ⟨f1, f2, f3, fun a j => by
        rw [f4]
        by_cases hz : a = pa B p + 2 ∧ j < 5
        · rw [if_pos hz, if_pos hz]; exact hS4 p hp j hz.2
        · rw [if_neg hz, if_neg hz]⟩
      refine X_run rfl ?_ ?_
      · simp [md_s, md_w, rget, r_a, r_b, r_c, r_i, r_l, nI_s1]
      try simp only [md_s, md_w, rget_some, r_a, r_b, r_c, r_i, r_l, r_nx, r_pc, Nat.reduceEqDiff, false_and, if_false, nI_s1]
      refine Eg.sub (k _ ⟨hR4.bal hrow, fun p' hp' m hm => ?_, hO4.tr (hrow.out (by unfold pa; omega))⟩) ⟨rfl, rfl, rfl, trivial⟩
      rw [f4, if_neg (fun z => absurd z.1 (by unfold pa; omega))]
      exact hS4 p' hp' m hm
    · obtain ⟨hR4, hS4, hO4⟩ := hI
      have hc4 := hR4.cnt (K' := K) (kd_B.2.2.trans kd_S.2.2)
      refine X_run rfl ?_ ?_
      · simp [md_s, md_w, rget, r_a, r_b, r_c, r_i, r_l, hn0, hb, hc4]
      try simp only [md_s, md_w, rget_some, r_a, r_b, r_c, r_i, r_l, r_nx, r_pc, Nat.reduceEqDiff, false_and, if_false, hn0, hb, hc4]
      refine X_icmp_ge rfl (fun c1 => ?_) (fun c1 => no_nle c1 (Nat.le_refl _) (by omega))
      refine X_run rfl trivial ?_
      exact X_iret rfl rfl ⟨_, rfl, rfl, hR4, hO4⟩
theorem c_noneOf {x : Int32} {r : RuT} (hN : NtL S N B) (hL : BkL S B) (hW : WfK K) (hR : RepC D B K) (hU : Run D B K r.1 r.2) : EvM g (d + 5) mX3_leavesOutNoneOf 0 0 [.ref N, .int x] (md S D) (fun v M1 => ∃ D1, v = some (.int (b2i (noneOf K r x))) ∧ M1 = md S D1 ∧ RepC D1 B K ∧ Out B (B + 139) D D1) := by
  have hn0 := hN
  unfold NtL at hn0
  have key : ∀ a0 F, cntP K r.1 x = a0 → nones K x a0 60 r = F → EvM g (d + 5) mX3_leavesOutNoneOf 0 0 [.ref N, .int x] (md S D) (fun v M1 => ∃ D1, v = some (.int (b2i (decide (cntP K F.1 x = a0)))) ∧ M1 = md S D1 ∧ RepC D1 B K ∧ Out B (B + 139) D D1) := by
    intro a0 F hA hF
    refine EvM.mk (by decide) (Nat.le_of_ble_eq_true rfl) ?_
    refine X_run rfl trivial ?_
    refine X_cV (args := [.int x]) rfl (by decide) hn0.1 rfl rfl (Nat.le_of_ble_eq_true rfl) (c_cntP hN hL hW hR hU.1) ?_
    rintro _ _ ⟨rfl, rfl⟩
    rw [hA]
    refine X_run rfl trivial ?_
    have fin : ∀ D1, RepC D1 B K → Run D1 B K F.1 F.2 → Out B (B + 139) D D1 → Eg g (d + 5) mX3_leavesOutNoneOf 0 0 (Zr g (fun v M1 => ∃ D1, v = some (.int (b2i (decide (cntP K F.1 x = a0)))) ∧ M1 = md S D1 ∧ RepC D1 B K ∧ Out B (B + 139) D D1)) 36 [(0, .ref N), (1, .int x), (2, .int a0)] [] (md S D1) := by
      intro D1 hR1 hU1 hO1
      refine X_run rfl trivial ?_
      refine X_cV (args := [.int x]) rfl (by decide) hn0.1 rfl rfl (Nat.le_of_ble_eq_true rfl) (c_cntP hN hL hW hR1 hU1.1) ?_
      rintro _ _ ⟨rfl, rfl⟩
      refine X_run rfl trivial ?_
      refine X_icmp_ne rfl (fun c1 => ?_) (fun c1 => ?_)
      · refine X_run rfl trivial ?_
        refine X_zret rfl rfl (Or.inl rfl) ⟨_, ?_, rfl, hR1, hO1⟩
        rw [decide_eq_false c1]
        rfl
      · refine X_run rfl trivial ?_
        refine X_zret rfl rfl (Or.inr rfl) ⟨_, ?_, rfl, hR1, hO1⟩
        rw [decide_eq_true c1]
        rfl
    refine Eg_up (α := DaT) (fun i D' => Eg g (d + 5) mX3_leavesOutNoneOf 0 0 (Zr g _) 8 [(0, .ref N), (1, .int x), (2, .int a0), (3, .int (nI i))] [] (md S D')) (fun i D' => RepC D' B K ∧ (∃ r', nones K x a0 (60 - i) r' = F ∧ Run D' B K r'.1 r'.2) ∧ Out B (B + 139) D D') 60 (fun i D1 hi hI k => ?_) (fun D1 hI => ?_) D ⟨hR, ⟨r, hF, hU⟩, Out.rf⟩
    · obtain ⟨hR1, ⟨r1, e1, hU1⟩, hO1⟩ := hI
      rw [show 60 - i = 60 - (i + 1) + 1 by omega] at e1
      simp only [nones] at e1
      refine X_run rfl trivial ?_
      refine X_icmp_ge rfl (fun c1 => no_le (a := 60) c1 hi (by omega)) (fun c1 => ?_)
      refine X_run rfl trivial ?_
      refine X_cV (args := [.int x]) rfl (by decide) hn0.1 rfl rfl (Nat.le_of_ble_eq_true rfl) (c_cntP hN hL hW hR1 hU1.1) ?_
      rintro _ _ ⟨rfl, rfl⟩
      refine X_run rfl trivial ?_
      refine X_icmp_ne rfl (fun c1 => ?_) (fun c1 => ?_)
      · rw [if_neg c1] at e1
        exact Eg.sub (fin _ hR1 (by rw [← e1]; exact hU1) hO1) ⟨rfl, rfl, rfl, trivial⟩
      rw [if_pos c1] at e1
      refine X_run rfl trivial ?_
      refine X_cV (args := []) rfl (by decide) hn0.1 rfl rfl (Nat.le_of_ble_eq_true rfl) (c_leavesOne hN hL hW hR1 hU1) ?_
      rintro _ _ ⟨D2, rfl, rfl, hR2, hU2, hO2⟩
      cases hl : leaves K r1 with
      | none =>
        rw [hl] at e1 hU2
        refine X_if_eq rfl (fun c2 => ?_) (fun c2 => absurd rfl c2)
        exact Eg.sub (fin _ hR2 (by rw [← e1]; exact hU2) (hO1.tr hO2)) ⟨rfl, rfl, rfl, trivial⟩
      | some r2 =>
        rw [hl] at e1 hU2
        refine X_if_eq rfl (fun c2 => absurd (b2i_zero.mp c2) (by simp)) (fun c2 => ?_)
        refine X_run rfl ?_ ?_
        · simp [md_s, md_w, rget, r_a, r_b, r_c, r_i, r_l, nI_s1]
        try simp only [md_s, md_w, rget_some, r_a, r_b, r_c, r_i, r_l, r_nx, r_pc, Nat.reduceEqDiff, false_and, if_false, nI_s1]
        exact Eg.sub (k _ ⟨hR2, ⟨r2, e1, hU2⟩, hO1.tr hO2⟩) ⟨rfl, rfl, rfl, rfl, trivial⟩
    · obtain ⟨hR1, ⟨r1, e1, hU1⟩, hO1⟩ := hI
      refine X_run rfl trivial ?_
      refine X_icmp_ge rfl (fun c1 => ?_) (fun c1 => absurd (show (60 : Int32) ≤ nI 60 by decide) c1)
      exact Eg.sub (fin _ hR1 (by rw [← e1]; exact hU1) hO1) ⟨rfl, rfl, rfl, trivial⟩
  exact key _ _ rfl rfl
theorem c_wTake {tk : Nat → Bool} (hN : NtL S N B) (hL : BkL S B) (hW : WfK K) (hR : RepC D B K) (hT : ScT D B tk (k_ny K)) : EvM g (d + 2) mX3_worthTakingPart 0 0 [.ref N] (md S D) (fun v M1 => M1 = md S D ∧ v = some (.long (wTake K tk))) := by
  have hb := hL.1
  have hn0 := hN
  unfold NtL at hn0
  obtain ⟨w1, w2, w3, w4⟩ := id hW
  have hc := hR.1
  refine EvM.mk (by decide) (Nat.le_of_ble_eq_true rfl) ?_
  refine X_run rfl trivial ?_
  refine Eg_iter (fun i (a : Int64) => Eg g (d + 2) mX3_worthTakingPart 0 0 (Zr g _) 4 [(0, .ref N), (1, .long a), (3, .int (nI i))] [] (md S D)) (fun i acc => if tk i = true then acc + worth K (k_am K i) (k_mo K i) else acc) (k_ny K) 0 (fun i hi k => ?_) ?_
  · have hi2 : i < 60 := by omega
    have hy := hL.2.2.2 i hi2
    have hv := hR.2.2.2 i hi
    have ht := hT i hi
    refine X_run rfl ?_ ?_
    · simp [md_s, md_w, rget, r_a, r_b, r_c, r_i, r_l, hn0, hb, hc]
    try simp only [md_s, md_w, rget_some, r_a, r_b, r_c, r_i, r_l, r_nx, r_pc, Nat.reduceEqDiff, false_and, if_false, hn0, hb, hc]
    refine X_icmp_ge rfl (fun c1 => no_le c1 hi (by omega)) (fun c1 => ?_)
    refine X_run rfl ?_ ?_
    · simp [md_s, md_w, rget, r_a, r_b, r_c, r_i, r_l, hn0, hb]
    try simp only [md_s, md_w, rget_some, r_a, r_b, r_c, r_i, r_l, r_nx, r_pc, Nat.reduceEqDiff, false_and, if_false, hn0, hb]
    refine X_cV rfl (by decide) hb.1 rfl rfl (Nat.le_of_ble_eq_true rfl) (c_paymentAt hL hi2) ?_
    rintro _ _ ⟨rfl, rfl⟩
    refine X_run rfl ?_ ?_
    · simp [md_s, md_w, rget, r_a, r_b, r_c, r_i, r_l, hy, ht]
    try simp only [md_s, md_w, rget_some, r_a, r_b, r_c, r_i, r_l, r_nx, r_pc, Nat.reduceEqDiff, false_and, if_false, hy, ht]
    refine X_if_eq rfl (fun c2 => ?_) (fun c2 => ?_)
    · refine X_run rfl ?_ ?_
      · simp [md_s, md_w, rget, r_a, r_b, r_c, r_i, r_l, nI_s1]
      try simp only [md_s, md_w, rget_some, r_a, r_b, r_c, r_i, r_l, r_nx, r_pc, Nat.reduceEqDiff, false_and, if_false, nI_s1]
      rw [if_neg (by rw [b2i_zero.mp c2]; decide)] at k
      exact Eg.sub k ⟨rfl, rfl, rfl, trivial⟩
    · refine X_run rfl ?_ ?_
      · simp [md_s, md_w, rget, r_a, r_b, r_c, r_i, r_l, hn0, hb, hy, hv]
      try simp only [md_s, md_w, rget_some, r_a, r_b, r_c, r_i, r_l, r_nx, r_pc, Nat.reduceEqDiff, false_and, if_false, hn0, hb, hy, hv]
      refine X_cV (args := [.int (k_am K i), .int (nI (k_mo K i))]) rfl (by decide) hb.1 rfl rfl (Nat.le_of_ble_eq_true rfl) (c_worthOf hL hW hR (w4 i hi).2.2.1) ?_
      rintro _ _ ⟨rfl, rfl⟩
      refine X_run rfl ?_ ?_
      · simp [md_s, md_w, rget, r_a, r_b, r_c, r_i, r_l, nI_s1]
      try simp only [md_s, md_w, rget_some, r_a, r_b, r_c, r_i, r_l, r_nx, r_pc, Nat.reduceEqDiff, false_and, if_false, nI_s1]
      rw [if_pos (b2i_nz c2)] at k
      exact Eg.sub k ⟨rfl, rfl, rfl, trivial⟩
  · refine X_run rfl ?_ ?_
    · simp [md_s, md_w, rget, r_a, r_b, r_c, r_i, r_l, hn0, hb, hc]
    try simp only [md_s, md_w, rget_some, r_a, r_b, r_c, r_i, r_l, r_nx, r_pc, Nat.reduceEqDiff, false_and, if_false, hn0, hb, hc]
    refine X_icmp_ge rfl (fun c1 => ?_) (fun c1 => no_nle c1 (Nat.le_refl _) (by omega))
    refine X_run rfl trivial ?_
    exact X_lret rfl rfl ⟨rfl, rfl⟩
theorem c_wGain {nt : Nat → Nat → Int32} (hN : NtL S N B) (hL : BkL S B) (hW : WfK K) (hR : RepC D B K) (hS : ScN D B nt (k_np K)) : EvM g (d + 2) mX3_worthOfGains 0 0 [.ref N] (md S D) (fun v M1 => M1 = md S D ∧ v = some (.long (wGain K nt))) := by
  have hb := hL.1
  have hn0 := hN
  unfold NtL at hn0
  obtain ⟨w1, w2, w3, w4⟩ := id hW
  have hc := hR.1
  refine EvM.mk (by decide) (Nat.le_of_ble_eq_true rfl) ?_
  refine X_run rfl trivial ?_
  refine Eg_iter (fun i (a : Int64) => Eg g (d + 2) mX3_worthOfGains 0 0 (Zr g _) 4 [(0, .ref N), (1, .long a), (3, .int (nI i))] [] (md S D)) (fun p acc => iter (wGain1 K nt p) (k_nm K) acc) (k_np K) 0 (fun p hp k => ?_) ?_
  · have hp2 : p < 10 := by omega
    obtain ⟨hq, hr1, hr2, hr3⟩ := hL.2.1 p hp2
    have hvb := (hR.2.1 p hp).2
    refine X_run rfl ?_ ?_
    · simp [md_s, md_w, rget, r_a, r_b, r_c, r_i, r_l, hn0, hb, hc]
    try simp only [md_s, md_w, rget_some, r_a, r_b, r_c, r_i, r_l, r_nx, r_pc, Nat.reduceEqDiff, false_and, if_false, hn0, hb, hc]
    refine X_icmp_ge rfl (fun c1 => no_le c1 hp (by omega)) (fun c1 => ?_)
    refine X_run rfl ?_ ?_
    · simp [md_s, md_w, rget, r_a, r_b, r_c, r_i, r_l, hn0, hb]
    try simp only [md_s, md_w, rget_some, r_a, r_b, r_c, r_i, r_l, r_nx, r_pc, Nat.reduceEqDiff, false_and, if_false, hn0, hb]
    refine X_cV rfl (by decide) hb.1 rfl rfl (Nat.le_of_ble_eq_true rfl) (c_partyAt hL hp2) ?_
    rintro _ _ ⟨rfl, rfl⟩
    refine X_run rfl trivial ?_
    generalize iter (fun p acc => iter (wGain1 K nt p) (k_nm K) acc) p (0 : Int64) = a0 at k ⊢
    refine Eg_iter (fun i (a : Int64) => Eg g (d + 2) mX3_worthOfGains 0 0 (Zr g _) 28 [(0, .ref N), (1, .long a), (3, .int (nI p)), (4, .ref (pa B p)), (5, .int (nI i))] [] (md S D)) (wGain1 K nt p) (k_nm K) a0 (fun m hm k => ?_) ?_
    · have hm2 : m < 5 := by omega
      generalize iter (wGain1 K nt p) m a0 = a1 at k ⊢
      refine X_run rfl ?_ ?_
      · simp [md_s, md_w, rget, r_a, r_b, r_c, r_i, r_l, hn0, hb, hc]
      try simp only [md_s, md_w, rget_some, r_a, r_b, r_c, r_i, r_l, r_nx, r_pc, Nat.reduceEqDiff, false_and, if_false, hn0, hb, hc]
      refine X_icmp_ge rfl (fun c1 => no_le c1 hm (by omega)) (fun c1 => ?_)
      refine X_run rfl ?_ ?_
      · simp [md_s, md_w, rget, r_a, r_b, r_c, r_i, r_l, hq]
      try simp only [md_s, md_w, rget_some, r_a, r_b, r_c, r_i, r_l, r_nx, r_pc, Nat.reduceEqDiff, false_and, if_false, hq]
      refine X_cV (args := [.int (nI m)]) rfl (by decide) hr3.1 rfl rfl (Nat.le_of_ble_eq_true rfl) (c_Row_at hr3 hm2) ?_
      rintro _ _ ⟨rfl, rfl⟩
      rw [hS p hp m hm2]
      refine X_run rfl ?_ ?_
      · simp [md_s, md_w, rget, r_a, r_b, r_c, r_i, r_l, hq]
      try simp only [md_s, md_w, rget_some, r_a, r_b, r_c, r_i, r_l, r_nx, r_pc, Nat.reduceEqDiff, false_and, if_false, hq]
      refine X_cV (args := [.int (nI m)]) rfl (by decide) hr1.1 rfl rfl (Nat.le_of_ble_eq_true rfl) (c_Row_at hr1 hm2) ?_
      rintro _ _ ⟨rfl, rfl⟩
      rw [(hvb m hm2).1]
      refine X_run rfl trivial ?_
      refine X_if_le rfl (fun c2 => ?_) (fun c2 => ?_)
      · refine X_run rfl ?_ ?_
        · simp [md_s, md_w, rget, r_a, r_b, r_c, r_i, r_l, nI_s1]
        try simp only [md_s, md_w, rget_some, r_a, r_b, r_c, r_i, r_l, r_nx, r_pc, Nat.reduceEqDiff, false_and, if_false, nI_s1]
        rw [show wGain1 K nt p m a1 = a1 by unfold wGain1; rw [if_neg (Int32.not_lt.mpr c2)]] at k
        exact Eg.sub k ⟨rfl, rfl, rfl, rfl, rfl, trivial⟩
      · refine X_run rfl ?_ ?_
        · simp [md_s, md_w, rget, r_a, r_b, r_c, r_i, r_l, hn0, hb]
        try simp only [md_s, md_w, rget_some, r_a, r_b, r_c, r_i, r_l, r_nx, r_pc, Nat.reduceEqDiff, false_and, if_false, hn0, hb]
        refine X_cV (args := [.int (nt p m - k_ba K p m), .int (nI m)]) rfl (by decide) hb.1 rfl rfl (Nat.le_of_ble_eq_true rfl) (c_worthOf hL hW hR hm) ?_
        rintro _ _ ⟨rfl, rfl⟩
        refine X_run rfl ?_ ?_
        · simp [md_s, md_w, rget, r_a, r_b, r_c, r_i, r_l, nI_s1]
        try simp only [md_s, md_w, rget_some, r_a, r_b, r_c, r_i, r_l, r_nx, r_pc, Nat.reduceEqDiff, false_and, if_false, nI_s1]
        rw [show wGain1 K nt p m a1 = a1 + worth K (nt p m - k_ba K p m) m by unfold wGain1; rw [if_pos (Int32.not_le.mp c2)]] at k
        exact Eg.sub k ⟨rfl, rfl, rfl, rfl, rfl, trivial⟩
    · refine X_run rfl ?_ ?_
      · simp [md_s, md_w, rget, r_a, r_b, r_c, r_i, r_l, hn0, hb, hc]
      try simp only [md_s, md_w, rget_some, r_a, r_b, r_c, r_i, r_l, r_nx, r_pc, Nat.reduceEqDiff, false_and, if_false, hn0, hb, hc]
      refine X_icmp_ge rfl (fun c1 => ?_) (fun c1 => no_nle c1 (Nat.le_refl _) (by omega))
      refine X_run rfl ?_ ?_
      · simp [md_s, md_w, rget, r_a, r_b, r_c, r_i, r_l, nI_s1]
      try simp only [md_s, md_w, rget_some, r_a, r_b, r_c, r_i, r_l, r_nx, r_pc, Nat.reduceEqDiff, false_and, if_false, nI_s1]
      exact Eg.sub k ⟨rfl, rfl, rfl, trivial⟩
  · refine X_run rfl ?_ ?_
    · simp [md_s, md_w, rget, r_a, r_b, r_c, r_i, r_l, hn0, hb, hc]
    try simp only [md_s, md_w, rget_some, r_a, r_b, r_c, r_i, r_l, r_nx, r_pc, Nat.reduceEqDiff, false_and, if_false, hn0, hb, hc]
    refine X_icmp_ge rfl (fun c1 => ?_) (fun c1 => no_nle c1 (Nat.le_refl _) (by omega))
    refine X_run rfl trivial ?_
    exact X_lret rfl rfl ⟨rfl, rfl⟩
end SETTL2
