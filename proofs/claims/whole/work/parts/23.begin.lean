section BEGIN1
variable {g : GG} {d : Nat} {S : ShT} {D : DaT} {B N : Nat} {K : KT}
theorem ScN.fi {D D1 : DaT} {B i : Nat} {nt : Nat → Nat → Int32} (h : ScN D B nt i) (e : d_ai D1 = d_ai D) : ScN D1 B nt i := by unfold ScN; rw [e]; exact h
theorem ScL.fl {D D1 : DaT} {B i : Nat} {K : KT} (h : ScL D B K i) (e : d_fl D1 = d_fl D) : ScL D1 B K i := by unfold ScL; rw [e]; exact h
theorem ScT.fi {D D1 : DaT} {B i : Nat} {tk : Nat → Bool} (h : ScT D B tk i) (e : ∀ a, d_fi D1 169 a = d_fi D 169 a) : ScT D1 B tk i := fun n hn => by rw [e]; exact h n hn
theorem ScS.fi {D D1 : DaT} {B i : Nat} {sh : Nat → Bool} (h : ScS D B sh i) (e : ∀ a, d_fi D1 136 a = d_fi D 136 a) : ScS D1 B sh i := fun n hn => by rw [e]; exact h n hn
theorem b2i_nz {b : Bool} (h : b2i b ≠ 0) : b = true := by
  cases hz : b with
  | true => rfl
  | false => exact absurd (b2i_zero.mpr hz) h
theorem c_begin (hN : NtL S N B) (hL : BkL S B) (hW : WfK K) (hR : RepC D B K) : EvM g (d + 4) mX3_begin 0 0 [.ref N] (md S D) (fun v M1 => ∃ D1, v = none ∧ M1 = md S D1 ∧ RepC D1 B K ∧ Run D1 B K (takes0 K) (net0 K (k_ny K)) ∧ Out B (B + 139) D D1) := by
  have hb := hL.1
  have hn0 := hN
  unfold NtL at hn0
  obtain ⟨w1, w2, w3, w4⟩ := id hW
  refine EvM.mk (by decide) (Nat.le_of_ble_eq_true rfl) ?_
  refine X_run rfl trivial ?_
  refine Eg_up (α := DaT) (fun i D' => Eg g (d + 4) mX3_begin 0 0 (Zr g _) 2 [(0, .ref N), (1, .int (nI i))] [] (md S D')) (fun i D' => RepC D' B K ∧ ScN D' B (k_ba K) i ∧ ScL D' B K i ∧ Out B (B + 139) D D') (k_np K) (fun p D1 hp hI k => ?_) (fun D1 hI => ?_) D ⟨hR, fun p h => absurd h (Nat.not_lt_zero p), fun p h => absurd h (Nat.not_lt_zero p), Out.rf⟩
  · obtain ⟨hR1, hS1, hSL1, hO1⟩ := hI
    have hc := hR1.1
    have hp2 : p < 10 := by omega
    obtain ⟨hq, hr1, hr2, hr3⟩ := hL.2.1 p hp2
    refine X_run rfl ?_ ?_
    · simp [md_s, md_w, rget, r_a, r_b, r_c, r_i, r_l, hn0, hb, hc]
    try simp only [md_s, md_w, rget_some, r_a, r_b, r_c, r_i, r_l, r_nx, r_pc, Nat.reduceEqDiff, false_and, if_false, hn0, hb, hc]
    refine X_icmp_ge rfl (fun c1 => no_le c1 hp (by omega)) (fun c1 => ?_)
    refine X_run rfl ?_ ?_
    · simp [md_s, md_w, rget, r_a, r_b, r_c, r_i, r_l, hn0, hb]
    try simp only [md_s, md_w, rget_some, r_a, r_b, r_c, r_i, r_l, r_nx, r_pc, Nat.reduceEqDiff, false_and, if_false, hn0, hb]
    refine X_cV (args := [.int (nI p)]) rfl (by decide) hb.1 rfl rfl (Nat.le_of_ble_eq_true rfl) (c_partyAt hL hp2) ?_
    rintro _ _ ⟨rfl, rfl⟩
    refine X_run rfl ?_ ?_
    · simp [md_s, md_w, rget, r_a, r_b, r_c, r_i, r_l, hq]
    try simp only [md_s, md_w, rget_some, r_a, r_b, r_c, r_i, r_l, r_nx, r_pc, Nat.reduceEqDiff, false_and, if_false, hq]
    refine X_cV (args := [.ref (pa B p + 1)]) rfl (by decide) hr3.1 rfl rfl (Nat.le_of_ble_eq_true rfl) (c_copyRow hr3 hr1 (show pa B p + 2 ≠ pa B p + 6 by omega)) ?_
    rintro _ _ ⟨D2, rfl, rfl, f1, f2, f3, f4⟩
    have hrow : ∀ a, a ≠ pa B p + 6 → d_ai D2 a = d_ai D1 a := fun a ha => by
      funext j
      rw [f4, if_neg (fun z => ha z.1)]
    have hR2 : RepC D2 B K := hR1.sai f1 f2 (fun p' hp' => ⟨hrow _ (by unfold pa; omega), hrow _ (by unfold pa; omega)⟩)
    have hS2 : ScN D2 B (k_ba K) (p + 1) := by
      intro p' hp' m hm
      by_cases hz : p' = p
      · subst hz
        rw [f4, if_pos ⟨rfl, hm⟩]
        exact ((hR1.2.1 p' hp).2 m hm).1
      · rw [hrow _ (by unfold pa; omega)]
        exact hS1 p' (by omega) m hm
    have hO2 : Out B (B + 139) D1 D2 := RowEq.out (n := 5) ⟨f1, f2, f3, f4⟩ (by unfold pa; omega)
    refine X_run rfl ?_ ?_
    · simp [md_s, md_w, rget, r_a, r_b, r_c, r_i, r_l, hn0, hb, hq]
    try simp only [md_s, md_w, rget_some, r_a, r_b, r_c, r_i, r_l, r_nx, r_pc, Nat.reduceEqDiff, false_and, if_false, hn0, hb, hq]
    refine X_cV (args := [.ref (pa B p)]) rfl (by decide) hb.1 rfl rfl (Nat.le_of_ble_eq_true rfl) (c_limitOf hL hW hR2 hp) ?_
    rintro _ _ ⟨rfl, rfl⟩
    obtain ⟨D3, e3, z3, y3⟩ := wr_fl D2 134 (pa B p) (limit K p)
    have hR3 : RepC D3 B K := e3 ▸ hR2.sfl (Or.inl rfl)
    refine X_run rfl ?_ ?_
    · simp [md_s, md_w, rget, r_a, r_b, r_c, r_i, r_l, hn0, hb, hq, e3]
    try simp only [md_s, md_w, rget_some, r_a, r_b, r_c, r_i, r_l, r_nx, r_pc, Nat.reduceEqDiff, false_and, if_false, hn0, hb, hq, e3]
    refine X_cV (args := [.ref (pa B p + 1)]) rfl (by decide) hb.1 rfl rfl (Nat.le_of_ble_eq_true rfl) (c_exposureOf (f := k_ba K p) hL hW hR3 hr1 (fun m hm => ((hR3.2.1 p hp).2 m (by omega)).1)) ?_
    rintro _ _ ⟨rfl, rfl⟩
    obtain ⟨D4, e4, z4, y4⟩ := wr_fl D3 135 (pa B p) (expo K (k_ba K p))
    have hR4 : RepC D4 B K := e4 ▸ hR3.sfl (Or.inr rfl)
    refine X_run rfl ?_ ?_
    · simp [md_s, md_w, rget, r_a, r_b, r_c, r_i, r_l, hq, e4, nI_s1]
    try simp only [md_s, md_w, rget_some, r_a, r_b, r_c, r_i, r_l, r_nx, r_pc, Nat.reduceEqDiff, false_and, if_false, hq, e4, nI_s1]
    refine Eg.sub (k _ ⟨hR4, (hS2.fi y3.2.1).fi y4.2.1, fun p' hp' => ?_, ((hO1.tr hO2).tr (e3 ▸ Out.fl (by unfold pa; omega))).tr (e4 ▸ Out.fl (by unfold pa; omega))⟩) ⟨rfl, rfl, trivial⟩
    simp only [z4, z3, pa_inj]
    by_cases hz : p' = p
    · subst hz
      simp
    · simp only [hz, and_false, if_false, f2]
      exact hSL1 p' (by omega)
  · obtain ⟨hR1, hS1, hSL1, hO1⟩ := hI
    have hc := hR1.1
    refine X_run rfl ?_ ?_
    · simp [md_s, md_w, rget, r_a, r_b, r_c, r_i, r_l, hn0, hb, hc]
    try simp only [md_s, md_w, rget_some, r_a, r_b, r_c, r_i, r_l, r_nx, r_pc, Nat.reduceEqDiff, false_and, if_false, hn0, hb, hc]
    refine X_icmp_ge rfl (fun c1 => ?_) (fun c1 => no_nle c1 (Nat.le_refl _) (by omega))
    refine X_run rfl trivial ?_
    refine Eg_up (α := DaT) (fun i D' => Eg g (d + 4) mX3_begin 0 0 (Zr g _) 68 [(0, .ref N), (1, .int (nI i))] [] (md S D')) (fun i D' => RepC D' B K ∧ ScT D' B (takes0 K) i ∧ ScN D' B (net0 K i) (k_np K) ∧ ScL D' B K (k_np K) ∧ Out B (B + 139) D D') (k_ny K) (fun n D2 hn hI k => ?_) (fun D2 hI => ?_) D1 ⟨hR1, fun p h => absurd h (Nat.not_lt_zero p), hS1, hSL1, hO1⟩
    · obtain ⟨hR2, hT2, hS2, hSL2, hO2⟩ := hI
      have hc2 := hR2.1
      have hn2 : n < 60 := by omega
      have hy := hL.2.2.2 n hn2
      have hv := hR2.2.2.2 n hn
      have fin : ∀ (b : Bool), takes0 K n = b → ∀ D3, (pfi D2 169 (ya B n) (b2i b)) = D3 → (∀ k a, d_fi D3 k a = if k = 169 ∧ a = ya B n then b2i b else d_fi D2 k a) → d_fl D3 = d_fl D2 ∧ d_ai D3 = d_ai D2 ∧ d_al D3 = d_al D2 → Eg g (d + 4) mX3_begin 0 0 (Zr g (fun v M1 => ∃ D1, v = none ∧ M1 = md S D1 ∧ RepC D1 B K ∧ Run D1 B K (takes0 K) (net0 K (k_ny K)) ∧ Out B (B + 139) D D1)) 130 [(0, .ref N), (1, .int (nI n)), (2, .ref (ya B n))] [.int (b2i b)] (md S D3) := by
        intro b hbt D3 e3 z3 y3
        have hR3 : RepC D3 B K := e3 ▸ hR2.s169
        have hT3 : ScT D3 B (takes0 K) (n + 1) := by
          intro n' hn'
          rw [z3]
          simp only [true_and, ya_inj]
          by_cases hz : n' = n
          · subst hz
            rw [if_pos rfl, hbt]
          · rw [if_neg hz]
            exact hT2 n' (by omega)
        have hv3 := hR3.2.2.2 n hn
        have hO3 : Out B (B + 139) D2 D3 := e3 ▸ Out.fi (by unfold ya; omega)
        refine X_if_eq rfl (fun c2 => ?_) (fun c2 => ?_)
        · have c2 := b2i_zero.mp c2
          refine X_run rfl ?_ ?_
          · simp [md_s, md_w, rget, r_a, r_b, r_c, r_i, r_l, nI_s1]
          try simp only [md_s, md_w, rget_some, r_a, r_b, r_c, r_i, r_l, r_nx, r_pc, Nat.reduceEqDiff, false_and, if_false, nI_s1]
          refine Eg.sub (k _ ⟨hR3, hT3, ?_, hSL2.fl y3.1, hO2.tr hO3⟩) ⟨rfl, rfl, trivial⟩
          have : net0 K (n + 1) = net0 K n := by
            show (if takes0 K n = true then _ else _) = _
            rw [if_neg (by rw [hbt, c2]; decide)]
            rfl
          rw [this]
          exact hS2.fi y3.2.1
        · have c2 : b = true := by
            cases b with
            | true => rfl
            | false => exact absurd rfl c2
          refine X_run rfl ?_ ?_
          · simp [md_s, md_w, rget, r_a, r_b, r_c, r_i, r_l, hy, hv3]
          try simp only [md_s, md_w, rget_some, r_a, r_b, r_c, r_i, r_l, r_nx, r_pc, Nat.reduceEqDiff, false_and, if_false, hy, hv3]
          refine X_cV (args := [.ref (ya B n), .int (k_am K n)]) rfl (by decide) hn0.1 rfl rfl (Nat.le_of_ble_eq_true rfl) (c_moveNetted hN hL hW hR3 hn (hS2.fi y3.2.1)) ?_
          rintro _ _ ⟨D4, rfl, rfl, hR4, hS4, hfi, hfl, hO4⟩
          refine X_run rfl ?_ ?_
          · simp [md_s, md_w, rget, r_a, r_b, r_c, r_i, r_l, nI_s1]
          try simp only [md_s, md_w, rget_some, r_a, r_b, r_c, r_i, r_l, r_nx, r_pc, Nat.reduceEqDiff, false_and, if_false, nI_s1]
          refine Eg.sub (k _ ⟨hR4, hT3.fi (fun a => by rw [hfi]), ?_, (hSL2.fl y3.1).fl hfl, (hO2.tr hO3).tr hO4⟩) ⟨rfl, rfl, trivial⟩
          have : net0 K (n + 1) = mvN K (net0 K n) n (k_am K n) := by
            show (if takes0 K n = true then _ else _) = _
            rw [if_pos (by rw [hbt, c2])]
            rfl
          rw [this]
          exact hS4
      refine X_run rfl ?_ ?_
      · simp [md_s, md_w, rget, r_a, r_b, r_c, r_i, r_l, hn0, hb, hc2]
      try simp only [md_s, md_w, rget_some, r_a, r_b, r_c, r_i, r_l, r_nx, r_pc, Nat.reduceEqDiff, false_and, if_false, hn0, hb, hc2]
      refine X_icmp_ge rfl (fun c1 => no_le c1 hn (by omega)) (fun c1 => ?_)
      refine X_run rfl ?_ ?_
      · simp [md_s, md_w, rget, r_a, r_b, r_c, r_i, r_l, hn0, hb]
      try simp only [md_s, md_w, rget_some, r_a, r_b, r_c, r_i, r_l, r_nx, r_pc, Nat.reduceEqDiff, false_and, if_false, hn0, hb]
      refine X_cV (args := [.int (nI n)]) rfl (by decide) hb.1 rfl rfl (Nat.le_of_ble_eq_true rfl) (c_paymentAt hL hn2) ?_
      rintro _ _ ⟨rfl, rfl⟩
      refine X_run rfl ?_ ?_
      · simp [md_s, md_w, rget, r_a, r_b, r_c, r_i, r_l, hn0, hb]
      try simp only [md_s, md_w, rget_some, r_a, r_b, r_c, r_i, r_l, r_nx, r_pc, Nat.reduceEqDiff, false_and, if_false, hn0, hb]
      refine X_cV (args := [.ref (ya B n)]) rfl (by decide) hb.1 rfl rfl (Nat.le_of_ble_eq_true rfl) (c_partnerOf hL hW hR2 hn) ?_
      rintro _ _ ⟨rfl, rfl⟩
      have no : takes0 K n = false → Eg g (d + 4) mX3_begin 0 0 (Zr g (fun v M1 => ∃ D1, v = none ∧ M1 = md S D1 ∧ RepC D1 B K ∧ Run D1 B K (takes0 K) (net0 K (k_ny K)) ∧ Out B (B + 139) D D1)) 122 [(0, .ref N), (1, .int (nI n)), (2, .ref (ya B n))] [.ref (ya B n)] (md S D2) := by
        intro hz
        obtain ⟨D3, e3, z3, y3⟩ := wr_fi D2 169 (ya B n) 0
        refine X_run rfl ?_ ?_
        · simp [md_s, md_w, rget, r_a, r_b, r_c, r_i, r_l, hy, e3, z3]
        try simp only [md_s, md_w, rget_some, r_a, r_b, r_c, r_i, r_l, r_nx, r_pc, Nat.reduceEqDiff, false_and, if_false, hy, e3, z3]
        exact Eg.sub (fin false hz D3 e3 z3 y3) ⟨rfl, rfl, rfl, trivial⟩
      have yes : takes0 K n = true → Eg g (d + 4) mX3_begin 0 0 (Zr g (fun v M1 => ∃ D1, v = none ∧ M1 = md S D1 ∧ RepC D1 B K ∧ Run D1 B K (takes0 K) (net0 K (k_ny K)) ∧ Out B (B + 139) D D1)) 118 [(0, .ref N), (1, .int (nI n)), (2, .ref (ya B n))] [.ref (ya B n)] (md S D2) := by
        intro hz
        obtain ⟨D3, e3, z3, y3⟩ := wr_fi D2 169 (ya B n) 1
        refine X_run rfl ?_ ?_
        · simp [md_s, md_w, rget, r_a, r_b, r_c, r_i, r_l, hy, e3, z3]
        try simp only [md_s, md_w, rget_some, r_a, r_b, r_c, r_i, r_l, r_nx, r_pc, Nat.reduceEqDiff, false_and, if_false, hy, e3, z3]
        exact Eg.sub (fin true hz D3 e3 z3 y3) ⟨rfl, rfl, rfl, trivial⟩
      cases hp : k_pr K n with
      | none =>
        refine X_run rfl trivial ?_
        refine X_cV (args := [.ref (ya B n)]) rfl (by decide) hn0.1 rfl rfl (Nat.le_of_ble_eq_true rfl) (c_canTakePart hN hL hW hR2 hn) ?_
        rintro _ _ ⟨rfl, rfl⟩
        refine X_if_eq rfl (fun c2 => ?_) (fun c2 => ?_)
        · exact Eg.sub (no (by simp [takes0, b2i_zero.mp c2])) ⟨rfl, rfl, rfl, trivial⟩
        · have c2' := b2i_nz c2
          refine X_run rfl trivial ?_
          refine X_ifnullN rfl ?_
          exact Eg.sub (yes (by simp [takes0, c2', hp])) ⟨rfl, rfl, rfl, trivial⟩
      | some q =>
        refine X_run rfl trivial ?_
        refine X_cV (args := [.ref (ya B n)]) rfl (by decide) hn0.1 rfl rfl (Nat.le_of_ble_eq_true rfl) (c_canTakePart hN hL hW hR2 hn) ?_
        rintro _ _ ⟨rfl, rfl⟩
        refine X_if_eq rfl (fun c2 => ?_) (fun c2 => ?_)
        · exact Eg.sub (no (by simp [takes0, b2i_zero.mp c2])) ⟨rfl, rfl, rfl, trivial⟩
        · have c2' := b2i_nz c2
          obtain ⟨-, -, -, w5⟩ := w4 n hn
          refine X_run rfl trivial ?_
          refine X_ifnull rfl ?_
          refine X_run rfl trivial ?_
          refine X_cV (args := [.ref (ya B q)]) rfl (by decide) hn0.1 rfl rfl (Nat.le_of_ble_eq_true rfl) (c_canTakePart hN hL hW hR2 (w5 q hp)) ?_
          rintro _ _ ⟨rfl, rfl⟩
          refine X_if_eq rfl (fun c3 => ?_) (fun c3 => ?_)
          · exact Eg.sub (no (by simp [takes0, hp, b2i_zero.mp c3])) ⟨rfl, rfl, rfl, trivial⟩
          · exact Eg.sub (yes (by simp [takes0, c2', hp, b2i_nz c3])) ⟨rfl, rfl, rfl, trivial⟩
    · obtain ⟨hR2, hT2, hS2, hSL2, hO2⟩ := hI
      have hc2 := hR2.1
      refine X_run rfl ?_ ?_
      · simp [md_s, md_w, rget, r_a, r_b, r_c, r_i, r_l, hn0, hb, hc2]
      try simp only [md_s, md_w, rget_some, r_a, r_b, r_c, r_i, r_l, r_nx, r_pc, Nat.reduceEqDiff, false_and, if_false, hn0, hb, hc2]
      refine X_icmp_ge rfl (fun c1 => ?_) (fun c1 => no_nle c1 (Nat.le_refl _) (by omega))
      refine X_run rfl trivial ?_
      refine Eg_up (α := DaT) (fun i D' => Eg g (d + 4) mX3_begin 0 0 (Zr g _) 150 [(0, .ref N), (1, .int (nI i))] [] (md S D')) (fun i D' => RepC D' B K ∧ ScT D' B (takes0 K) (k_ny K) ∧ ScN D' B (net0 K (k_ny K)) (k_np K) ∧ ScL D' B K (k_np K) ∧ ScS D' B (short K (net0 K (k_ny K))) i ∧ Out B (B + 139) D D') (k_np K) (fun p D3 hp hI k => ?_) (fun D3 hI => ?_) D2 ⟨hR2, hT2, hS2, hSL2, fun p h => absurd h (Nat.not_lt_zero p), hO2⟩
      · obtain ⟨hR3, hT3, hS3, hSL3, hSS3, hO3⟩ := hI
        have hc3 := hR3.1
        have hp2 : p < 10 := by omega
        refine X_run rfl ?_ ?_
        · simp [md_s, md_w, rget, r_a, r_b, r_c, r_i, r_l, hn0, hb, hc3]
        try simp only [md_s, md_w, rget_some, r_a, r_b, r_c, r_i, r_l, r_nx, r_pc, Nat.reduceEqDiff, false_and, if_false, hn0, hb, hc3]
        refine X_icmp_ge rfl (fun c1 => no_le c1 hp (by omega)) (fun c1 => ?_)
        refine X_run rfl ?_ ?_
        · simp [md_s, md_w, rget, r_a, r_b, r_c, r_i, r_l, hn0, hb]
        try simp only [md_s, md_w, rget_some, r_a, r_b, r_c, r_i, r_l, r_nx, r_pc, Nat.reduceEqDiff, false_and, if_false, hn0, hb]
        refine X_cV (args := [.int (nI p)]) rfl (by decide) hb.1 rfl rfl (Nat.le_of_ble_eq_true rfl) (c_partyAt hL hp2) ?_
        rintro _ _ ⟨rfl, rfl⟩
        refine X_cV (args := [.ref (pa B p)]) rfl (by decide) hn0.1 rfl rfl (Nat.le_of_ble_eq_true rfl) (c_lookShort hN hL hW hR3 hp hS3 hSL3) ?_
        rintro _ _ ⟨rfl, rfl⟩
        obtain ⟨D4, e4, z4, y4⟩ := wr_fi D3 136 (pa B p) (b2i (short K (net0 K (k_ny K)) p))
        rw [e4]
        refine X_run rfl ?_ ?_
        · simp [md_s, md_w, rget, r_a, r_b, r_c, r_i, r_l, nI_s1]
        try simp only [md_s, md_w, rget_some, r_a, r_b, r_c, r_i, r_l, r_nx, r_pc, Nat.reduceEqDiff, false_and, if_false, nI_s1]
        refine Eg.sub (k _ ⟨e4 ▸ hR3.s136, hT3.fi (fun a => by rw [z4, if_neg (by omega)]), hS3.fi y4.2.1, hSL3.fl y4.1, fun p' hp' => ?_, hO3.tr (e4 ▸ Out.fi (by unfold pa; omega))⟩) ⟨rfl, rfl, trivial⟩
        rw [z4]
        simp only [true_and, pa_inj]
        by_cases hz : p' = p
        · subst hz
          rw [if_pos rfl]
        · rw [if_neg hz]
          exact hSS3 p' (by omega)
      · obtain ⟨hR3, hT3, hS3, hSL3, hSS3, hO3⟩ := hI
        have hc3 := hR3.1
        refine X_run rfl ?_ ?_
        · simp [md_s, md_w, rget, r_a, r_b, r_c, r_i, r_l, hn0, hb, hc3]
        try simp only [md_s, md_w, rget_some, r_a, r_b, r_c, r_i, r_l, r_nx, r_pc, Nat.reduceEqDiff, false_and, if_false, hn0, hb, hc3]
        refine X_icmp_ge rfl (fun c1 => ?_) (fun c1 => no_nle c1 (Nat.le_refl _) (by omega))
        refine X_run rfl trivial ?_
        exact X_vret rfl rfl ⟨_, rfl, rfl, hR3, ⟨hT3, hS3, hSL3, hSS3⟩, hO3⟩
end BEGIN1
