/-! an hour of the reference -/
def interN (b : Int32) : Int32 := if b < 0 ∧ -10000000 < b then (if -10000000 < b + b / 100 then b + b / 100 else -10000000) else b
theorem t32_div100 (b : Int32) : (b / 100).toInt = b.toInt.tdiv 100 := Int32.toInt_div_of_ne_right _ _ (by decide)
theorem inter_eq (b : Int32) : b + inter b = interN b := by
  have hx := b.toInt_lt
  have hy := b.le_toInt
  have e7 : ((-10000000 : Int32)).toInt = -10000000 := rfl
  have e0 : ((0 : Int32)).toInt = 0 := rfl
  unfold inter interN
  simp only [Int32.le_iff_toInt_le, Int32.lt_iff_toInt_lt, e7, e0]
  by_cases c1 : 0 ≤ b.toInt ∨ b.toInt < -10000000
  · rw [if_pos c1, if_neg (by omega), Int32.add_zero]
  · rw [if_neg c1]
    have hd : (b / 100).toInt = -((-b.toInt) / 100) := by
      rw [t32_div100, show b.toInt = -(-b.toInt) by omega, Int.neg_tdiv, Int.tdiv_eq_ediv_of_nonneg (by omega)]
      omega
    have e1 : (-10000000 - b).toInt = -10000000 - b.toInt := by rw [t32_sub (by rw [e7]; omega) (by rw [e7]; omega), e7]
    have e2 : (b + b / 100).toInt = b.toInt + -((-b.toInt) / 100) := by rw [t32_add (by rw [hd]; omega) (by rw [hd]; omega), hd]
    have e3 : b + (-10000000 - b) = -10000000 := by
      refine Int32.toInt_inj.mp ?_
      rw [t32_add (by rw [e1]; omega) (by rw [e1]; omega), e1, e7]
      omega
    rw [hd, e1, e2]
    by_cases c2 : b.toInt = -10000000
    · have c3 : b = -10000000 := Int32.toInt_inj.mp (by rw [c2, e7])
      subst c3
      decide
    · rw [if_pos (show b.toInt < 0 ∧ -10000000 < b.toInt by omega)]
      by_cases c4 : -(-b.toInt / 100) < -10000000 - b.toInt
      · rw [if_pos c4, if_neg (by omega), e3]
      · rw [if_neg c4]
        by_cases c5 : -10000000 < b.toInt + -(-b.toInt / 100)
        · rw [if_pos c5]
        · rw [if_neg c5]
          refine Int32.toInt_inj.mp ?_
          rw [e2, e7]
          omega
def ZrK (K : KT) : Prop := ∀ p, p < k_np K → ∀ m, k_nm K ≤ m → m < 5 → k_ba K p m = 0
theorem RepR.row7 {D D1 : DaT} {A : Nat} {K : KT} {f : Nat → Nat → Int32} (h : RepR D A K) (ho : RowO D D1 (A + 7)) (hf : ∀ p, p < k_np K → ∀ m, m < 5 → d_ai D1 (A + 7) (5 * p + m) = f p m) : RepR D1 A (ks_ba K f) := by
  obtain ⟨o1, o2, o3, o4⟩ := ho
  obtain ⟨c, hp, hm, hy⟩ := h
  have e : ∀ q, q ≠ 7 → d_ai D1 (A + q) = d_ai D (A + q) := fun q hq => o4 _ (by omega)
  refine ⟨?_, fun p hpp => ?_, fun m hmm => ?_, fun n hn => ?_⟩
  · unfold RrC at c ⊢
    rw [o1]
    exact c
  · obtain ⟨x1, x2, x3, x4⟩ := hp p hpp
    unfold RrP
    rw [o3, e 2 (by decide), e 3 (by decide), e 8 (by decide)]
    exact ⟨x1, x2, x3, fun m hm' => ⟨hf p hpp m hm', (x4 m hm').2⟩⟩
  · have := hm m hmm
    unfold RrM at this ⊢
    rw [o3, e 5 (by decide), e 6 (by decide)]
    exact this
  · have := hy n hn
    unfold RrY at this ⊢
    rw [e 9 (by decide), e 10 (by decide), e 11 (by decide), e 12 (by decide), e 13 (by decide), e 14 (by decide), e 15 (by decide), e 16 (by decide), e 17 (by decide)]
    exact this
/-- a row that is gone through, place by place -/
def MapI (D D' : DaT) (a i : Nat) (f : Nat → Int32 → Int32) : Prop := RowO D D' a ∧ ∀ j, d_ai D' a j = if j < i then f j (d_ai D a j) else d_ai D a j
theorem MapI.zero {D : DaT} {a : Nat} {f : Nat → Int32 → Int32} : MapI D D a 0 f := ⟨⟨rfl, rfl, rfl, fun _ _ => rfl⟩, fun j => by rw [if_neg (Nat.not_lt_zero _)]⟩
theorem MapI.put {D D1 : DaT} {a i : Nat} {f : Nat → Int32 → Int32} (h : MapI D D1 a i f) : MapI D (pai D1 a i (f i (d_ai D a i))) a (i + 1) f := by
  refine ⟨h.1.tr RowO.ai, fun j => ?_⟩
  rw [rd_ai, h.2 j]
  by_cases c : j = i
  · rw [if_pos ⟨rfl, c⟩, if_pos (by omega), c]
  · rw [if_neg (fun z => c z.2)]
    by_cases c2 : j < i
    · rw [if_pos c2, if_pos (by omega)]
    · rw [if_neg c2, if_neg (by omega)]
theorem MapI.pass {D D1 : DaT} {a i : Nat} {f : Nat → Int32 → Int32} (h : MapI D D1 a i f) (e : f i (d_ai D a i) = d_ai D a i) : MapI D D1 a (i + 1) f := by
  refine ⟨h.1, fun j => ?_⟩
  rw [h.2 j]
  by_cases c : j = i
  · subst c
    rw [if_neg (Nat.lt_irrefl _), if_pos (by omega), e]
  · by_cases c2 : j < i
    · rw [if_pos c2, if_pos (by omega)]
    · rw [if_neg c2, if_neg (by omega)]
theorem RowO.outA {D D1 : DaT} {A q : Nat} (h : RowO D D1 (A + q)) (hq : q < 20) : Out A (A + 20) D D1 := h.out (by omega)
theorem k_np_S {K : KT} {tk : Nat → Bool} {i : Nat} : k_np (setS K tk i) = k_np K := congrArg (fun z => z.1) (kd_S (K := K) (tk := tk) (i := i)).2.2
theorem k_ba_S {K : KT} {tk : Nat → Bool} {i : Nat} : k_ba (setS K tk i) = k_ba K := rfl
section REFPASS
variable {g : GG} {d : Nat} {S : ShT} {D : DaT} {A : Nat} {K : KT}
/-- what has taken part is settled -/
theorem Rset {tk : Nat → Bool} {nt : Nat → Nat → Int32} {Zq : ZT} {x : Int32} (hL : StL S A) (hW : WfK K) (hR : RepR D A K) (hI : InR D A tk (k_ny K)) (hM : MoR D A K nt)
    (k : ∀ D1, RepR D1 A (setB (setS K tk (k_ny K)) nt (k_np K)) → Out A (A + 20) D D1 → Eg g (d + 4) mX10_pass 0 0 Zq 92 [(0, .ref A), (1, .int x)] [] (md S D1)) : Eg g (d + 4) mX10_pass 0 0 Zq 12 [(0, .ref A), (1, .int x), (2, .int 0)] [] (md S D) := by
  obtain ⟨hs, ha, hb⟩ := hL.all
  obtain ⟨w1, w2, w3, w4⟩ := id hW
  refine Eg_up (α := DaT) (fun i D' => Eg g (d + 4) mX10_pass 0 0 Zq 12 [(0, .ref A), (1, .int x), (2, .int (nI i))] [] (md S D')) (fun i D' => RepR D' A (setS K tk i) ∧ InR D' A tk (k_ny K) ∧ MoR D' A K nt ∧ Out A (A + 20) D D') (k_ny K) (fun n D3 hn hI3 k2 => ?_) (fun D3 hI3 => ?_) D ⟨by rw [setS_0]; exact hR, hI, hM, Out.rf⟩
  · obtain ⟨hR3, hI3, hM3, hO3⟩ := hI3
    have hc := hR3.wf (K' := K) kd_S.2.2
    have hin := hI3 n hn
    have x1 := vx (show n < 60 by omega) (by decide)
    refine X_run rfl ?_ ?_
    · simp [md_s, md_w, rget, r_a, r_b, r_c, r_i, r_l, hs, hc]
    try simp only [md_s, md_w, rget_some, r_a, r_b, r_c, r_i, r_l, r_nx, r_pc, Nat.reduceEqDiff, false_and, if_false, hs, hc]
    refine X_icmp_ge rfl (fun c1 => no_le c1 hn (by omega)) (fun c1 => ?_)
    refine X_run rfl ?_ ?_
    · simp [md_s, md_w, rget, r_a, r_b, r_c, r_i, r_l, hs, hb, x1, hin]
    try simp only [md_s, md_w, rget_some, r_a, r_b, r_c, r_i, r_l, r_nx, r_pc, Nat.reduceEqDiff, false_and, if_false, hs, hb, x1, hin]
    refine X_if_ne rfl (fun c2 => ?_) (fun c2 => ?_)
    · have c2 := b2i_nz c2
      obtain ⟨D4, e4, z4, y4⟩ := wr_ai D3 (A + 15) n 1
      obtain ⟨D5, e5, z5, y5⟩ := wr_ai D4 (A + 17) n (24 * k_day K + k_hr K)
      have hR4 : RepR D4 A (ks_st (setS K tk n) (up1 (k_st (setS K tk n)) n 1)) := e4 ▸ hR3.st (n := n) 1
      have hR5 : RepR D5 A (setS K tk (n + 1)) := by
        rw [← setS_yes c2]
        have := hR4.se (n := n) (24 * k_day K + k_hr K)
        rw [k_se_st, e5] at this
        exact this
      have hd : d_fi D4 320 A = k_day K ∧ d_fi D4 321 A = k_hr K := by
        have := hR4.1
        unfold RrC at this
        rw [kd_st.1, kd_st.2.1, kd_S.1, kd_S.2.1] at this
        exact ⟨this.1, this.2.1⟩
      have hO4 : Out (A + 15) (A + 18) D3 D4 := e4 ▸ Out.ai (by omega)
      have hO5 : Out (A + 15) (A + 18) D4 D5 := e5 ▸ Out.ai (by omega)
      refine X_run rfl ?_ ?_
      · simp [md_s, md_w, rget, r_a, r_b, r_c, r_i, r_l, hs, hb, x1, e4, hd, e5, nI_s1]
      try simp only [md_s, md_w, rget_some, r_a, r_b, r_c, r_i, r_l, r_nx, r_pc, Nat.reduceEqDiff, false_and, if_false, hs, hb, x1, e4, hd, e5, nI_s1]
      exact k2 _ ⟨hR5, (hI3.out hO4 (by omega)).out hO5 (by omega), (hM3.out hO4 (by omega)).out hO5 (by omega), (hO3.tr (hO4.wide (by omega) (by omega))).tr (hO5.wide (by omega) (by omega))⟩
    · have c2 := b2i_zero.mp c2
      refine X_run rfl ?_ ?_
      · simp [md_s, md_w, rget, r_a, r_b, r_c, r_i, r_l, nI_s1]
      try simp only [md_s, md_w, rget_some, r_a, r_b, r_c, r_i, r_l, r_nx, r_pc, Nat.reduceEqDiff, false_and, if_false, nI_s1]
      exact k2 _ ⟨by rw [setS_no c2]; exact hR3, hI3, hM3, hO3⟩
  · obtain ⟨hR3, hI3, hM3, hO3⟩ := hI3
    have hc := hR3.wf (K' := K) kd_S.2.2
    refine X_run rfl ?_ ?_
    · simp [md_s, md_w, rget, r_a, r_b, r_c, r_i, r_l, hs, hc]
    try simp only [md_s, md_w, rget_some, r_a, r_b, r_c, r_i, r_l, r_nx, r_pc, Nat.reduceEqDiff, false_and, if_false, hs, hc]
    refine X_icmp_ge rfl (fun c1 => ?_) (fun c1 => no_nle c1 (Nat.le_refl _) (by omega))
    refine X_run rfl trivial ?_
    refine Eg_up (α := DaT) (fun i D' => Eg g (d + 4) mX10_pass 0 0 Zq 65 [(0, .ref A), (1, .int x), (2, .int (nI i))] [] (md S D')) (fun i D' => MapI D3 D' (A + 7) i (fun j v => v + d_ai D3 (A + 19) j)) 50 (fun i D4 hi hM4 k2 => ?_) (fun D4 hM4 => ?_) D3 MapI.zero
    · have x1 := vx (show i < 50 by omega) (by decide)
      have f1 : d_ai D4 (A + 7) i = d_ai D3 (A + 7) i := by rw [hM4.2, if_neg (Nat.lt_irrefl _)]
      have f2 : d_ai D4 (A + 19) = d_ai D3 (A + 19) := hM4.1.2.2.2 _ (by omega)
      refine X_run rfl trivial ?_
      refine X_icmp_ge rfl (fun c1 => no_le (a := 50) c1 hi (by omega)) (fun c1 => ?_)
      refine X_run rfl ?_ ?_
      · simp [md_s, md_w, rget, r_a, r_b, r_c, r_i, r_l, hs, ha, hb, x1, f1, f2, nI_s1]
      try simp only [md_s, md_w, rget_some, r_a, r_b, r_c, r_i, r_l, r_nx, r_pc, Nat.reduceEqDiff, false_and, if_false, hs, ha, hb, x1, f1, f2, nI_s1]
      exact k2 _ (hM4.put)
    · refine X_run rfl trivial ?_
      refine X_icmp_ge rfl (fun c1 => ?_) (fun c1 => absurd (show (50 : Int32) ≤ nI 50 by decide) c1)
      refine Eg.sub (k D4 ?_ (hO3.tr (hM4.1.outA (by decide)))) ⟨rfl, rfl, trivial⟩
      refine hR3.row7 hM4.1 (fun p hp m hm => ?_)
      rw [k_np_S] at hp
      rw [hM4.2, if_pos (by omega), ((hR3.2.1 p (by rw [k_np_S]; exact hp)).2.2.2 m hm).1, k_ba_S, if_pos hp]
      show k_ba K p m + d_ai D3 (A + 19) (5 * p + m) = _
      rw [hM3 p hp m hm, Int32.add_comm, Int32.sub_add_cancel]
theorem Rcharge {Zq : ZT} {x : Int32} (hL : StL S A) (hW : WfK K) (hZ : ZrK K) (hR : RepR D A K)
    (k : ∀ D1, RepR D1 A (chargeK K) → Out A (A + 20) D D1 → Eg g (d + 4) mX10_pass 0 0 Zq 187 [(0, .ref A), (1, .int x)] [] (md S D1)) : Eg g (d + 4) mX10_pass 0 0 Zq 128 [(0, .ref A), (1, .int x), (2, .int 0)] [] (md S D) := by
  obtain ⟨hs, ha, hb⟩ := hL.all
  obtain ⟨w1, w2, w3, w4⟩ := id hW
  refine Eg_up (α := DaT) (fun i D' => Eg g (d + 4) mX10_pass 0 0 Zq 128 [(0, .ref A), (1, .int x), (2, .int (nI i))] [] (md S D')) (fun i D' => MapI D D' (A + 7) i (fun _ v => interN v)) 50 (fun i D4 hi hM4 k2 => ?_) (fun D4 hM4 => ?_) D MapI.zero
  · have x1 := vx (show i < 50 by omega) (by decide)
    have f1 : d_ai D4 (A + 7) i = d_ai D (A + 7) i := by rw [hM4.2, if_neg (Nat.lt_irrefl _)]
    refine X_run rfl trivial ?_
    refine X_icmp_ge rfl (fun c1 => no_le (a := 50) c1 hi (by omega)) (fun c1 => ?_)
    refine X_run rfl ?_ ?_
    · simp [md_s, md_w, rget, r_a, r_b, r_c, r_i, r_l, hs, ha, x1, f1]
    try simp only [md_s, md_w, rget_some, r_a, r_b, r_c, r_i, r_l, r_nx, r_pc, Nat.reduceEqDiff, false_and, if_false, hs, ha, x1, f1]
    refine X_if_ge rfl (fun c2 => ?_) (fun c2 => ?_)
    · refine X_run rfl ?_ ?_
      · simp [md_s, md_w, rget, r_a, r_b, r_c, r_i, r_l, nI_s1]
      try simp only [md_s, md_w, rget_some, r_a, r_b, r_c, r_i, r_l, r_nx, r_pc, Nat.reduceEqDiff, false_and, if_false, nI_s1]
      exact k2 _ (hM4.pass (if_neg (fun z => absurd z.1 (Int32.not_lt.mpr c2))))
    have c2 := Int32.not_le.mp c2
    refine X_run rfl ?_ ?_
    · simp [md_s, md_w, rget, r_a, r_b, r_c, r_i, r_l, hs, ha, x1, f1]
    try simp only [md_s, md_w, rget_some, r_a, r_b, r_c, r_i, r_l, r_nx, r_pc, Nat.reduceEqDiff, false_and, if_false, hs, ha, x1, f1]
    refine X_icmp_le rfl (fun c3 => ?_) (fun c3 => ?_)
    · refine X_run rfl ?_ ?_
      · simp [md_s, md_w, rget, r_a, r_b, r_c, r_i, r_l, nI_s1]
      try simp only [md_s, md_w, rget_some, r_a, r_b, r_c, r_i, r_l, r_nx, r_pc, Nat.reduceEqDiff, false_and, if_false, nI_s1]
      exact k2 _ (hM4.pass (if_neg (fun z => absurd z.2 (Int32.not_lt.mpr c3))))
    have c3 := Int32.not_le.mp c3
    refine X_run rfl ?_ ?_
    · simp [md_s, md_w, rget, r_a, r_b, r_c, r_i, r_l, hs, ha, x1, f1]
    try simp only [md_s, md_w, rget_some, r_a, r_b, r_c, r_i, r_l, r_nx, r_pc, Nat.reduceEqDiff, false_and, if_false, hs, ha, x1, f1]
    refine X_max rfl (Nat.le_of_ble_eq_true rfl) ?_
    refine X_run rfl ?_ ?_
    · simp [md_s, md_w, rget, r_a, r_b, r_c, r_i, r_l, hs, ha, x1, nI_s1]
    try simp only [md_s, md_w, rget_some, r_a, r_b, r_c, r_i, r_l, r_nx, r_pc, Nat.reduceEqDiff, false_and, if_false, hs, ha, x1, nI_s1]
    have := hM4.put
    simp only [interN] at this
    rw [if_pos ⟨c2, c3⟩] at this
    exact k2 _ this
  · refine X_run rfl trivial ?_
    refine X_icmp_ge rfl (fun c1 => ?_) (fun c1 => absurd (show (50 : Int32) ≤ nI 50 by decide) c1)
    refine Eg.sub (k D4 ?_ (hM4.1.outA (by decide))) ⟨rfl, rfl, trivial⟩
    refine hR.row7 hM4.1 (fun p hp m hm => ?_)
    rw [hM4.2, if_pos (by omega), ((hR.2.1 p hp).2.2.2 m hm).1]
    unfold chg
    by_cases c : m < k_nm K
    · rw [if_pos ⟨c, Or.inl hp⟩, inter_eq]
    · rw [if_neg (fun z => c z.1), hZ p hp m (by omega) hm]
      show interN 0 = 0
      decide
theorem Rdefs {Zq : ZT} {x : Int32} (hL : StL S A) (hW : WfK K) (hR : RepR D A K)
    (k : ∀ D1, RepR D1 A (defK K) → Out A (A + 20) D D1 → Eg g (d + 4) mX10_pass 0 0 Zq 224 [(0, .ref A), (1, .int x)] [] (md S D1)) : Eg g (d + 4) mX10_pass 0 0 Zq 189 [(0, .ref A), (1, .int x), (2, .int 0)] [] (md S D) := by
  obtain ⟨hs, ha, hb⟩ := hL.all
  obtain ⟨w1, w2, w3, w4⟩ := id hW
  refine Eg_up (α := DaT) (fun i D' => Eg g (d + 4) mX10_pass 0 0 Zq 189 [(0, .ref A), (1, .int x), (2, .int (nI i))] [] (md S D')) (fun i D' => RepR D' A (ks_df K (dfi K i)) ∧ Out A (A + 20) D D') (k_np K) (fun p D1 hp hI k2 => ?_) (fun D1 hI => ?_) D ⟨?_, Out.rf⟩
  · obtain ⟨hR1, hO1⟩ := hI
    have hc := hR1.wf (K' := K) rfl
    have x1 := vx (show p < 10 by omega) (by decide)
    have fin : ∀ b : Bool, decide (room K p < 0) = b → ∀ D2, pai D1 (A + 3) p (b2i b) = D2 → Eg g (d + 4) mX10_pass 0 0 Zq 189 [(0, .ref A), (1, .int x), (2, .int (nI (p + 1)))] [] (md S D2) := by
      intro b hbb D2 e2
      refine k2 _ ⟨?_, hO1.tr (e2 ▸ Out.ai (by omega))⟩
      have := hR1.df (p := p) b
      rw [e2] at this
      have e : ks_df (ks_df K (dfi K p)) (up1 (k_df (ks_df K (dfi K p))) p b) = ks_df K (dfi K (p + 1)) := by
        show ks_df K (up1 (dfi K p) p b) = _
        congr 1
        funext p'
        unfold up1 dfi
        by_cases hz : p' = p
        · subst hz
          rw [if_pos rfl, if_pos (by omega), hbb]
        · rw [if_neg hz]
          by_cases hy : p' < p
          · rw [if_pos hy, if_pos (by omega)]
          · rw [if_neg hy, if_neg (by omega)]
      rw [e] at this
      exact this
    refine X_run rfl ?_ ?_
    · simp [md_s, md_w, rget, r_a, r_b, r_c, r_i, r_l, hs, hc]
    try simp only [md_s, md_w, rget_some, r_a, r_b, r_c, r_i, r_l, r_nx, r_pc, Nat.reduceEqDiff, false_and, if_false, hs, hc]
    refine X_icmp_ge rfl (fun c1 => no_le c1 hp (by omega)) (fun c1 => ?_)
    refine X_run rfl ?_ ?_
    · simp [md_s, md_w, rget, r_a, r_b, r_c, r_i, r_l, hs]
    try simp only [md_s, md_w, rget_some, r_a, r_b, r_c, r_i, r_l, r_nx, r_pc, Nat.reduceEqDiff, false_and, if_false, hs]
    refine X_cV (args := [.int (nI p)]) rfl (by decide) hs.1 rfl rfl (Nat.le_of_ble_eq_true rfl) (c_Rroom (K := ks_df K (dfi K p)) hL hW hR1 hp) ?_
    rintro _ _ ⟨rfl, rfl⟩
    rw [show room (ks_df K (dfi K p)) p = room K p from rfl]
    refine X_run rfl trivial ?_
    refine X_if_ge rfl (fun c2 => ?_) (fun c2 => ?_)
    · refine X_run rfl ?_ ?_
      · simp [md_s, md_w, rget, r_a, r_b, r_c, r_i, r_l, hs, ha, x1, nI_s1]
      try simp only [md_s, md_w, rget_some, r_a, r_b, r_c, r_i, r_l, r_nx, r_pc, Nat.reduceEqDiff, false_and, if_false, hs, ha, x1, nI_s1]
      exact fin false (decide_eq_false (by rw [Int64.not_lt]; exact (lg_cmp_ge _ _).mp c2)) _ rfl
    · refine X_run rfl ?_ ?_
      · simp [md_s, md_w, rget, r_a, r_b, r_c, r_i, r_l, hs, ha, x1, nI_s1]
      try simp only [md_s, md_w, rget_some, r_a, r_b, r_c, r_i, r_l, r_nx, r_pc, Nat.reduceEqDiff, false_and, if_false, hs, ha, x1, nI_s1]
      exact fin true (decide_eq_true (by rw [← Int64.not_le]; exact fun z => c2 ((lg_cmp_ge _ _).mpr z))) _ rfl
  · obtain ⟨hR1, hO1⟩ := hI
    have hc := hR1.wf (K' := K) rfl
    refine X_run rfl ?_ ?_
    · simp [md_s, md_w, rget, r_a, r_b, r_c, r_i, r_l, hs, hc]
    try simp only [md_s, md_w, rget_some, r_a, r_b, r_c, r_i, r_l, r_nx, r_pc, Nat.reduceEqDiff, false_and, if_false, hs, hc]
    refine X_icmp_ge rfl (fun c1 => ?_) (fun c1 => no_nle c1 (Nat.le_refl _) (by omega))
    exact Eg.sub (k D1 hR1 hO1) ⟨rfl, rfl, trivial⟩
  · have e : dfi K 0 = k_df K := by
      funext p'
      unfold dfi
      rw [if_neg (by omega)]
    rw [e]
    exact hR
theorem Rfails {Q : Option Value → Mem → Prop} {x : Int32} (hL : StL S A) (hW : WfK K) (hR : RepR D A K)
    (hq : ∀ D1, RepR D1 A (failAll K) → Out A (A + 20) D D1 → Q (some (.int x)) (md S D1)) : Eg g (d + 4) mX10_pass 0 0 (Zr g Q) 226 [(0, .ref A), (1, .int x), (2, .int 0)] [] (md S D) := by
  obtain ⟨hs, ha, hb⟩ := hL.all
  refine Eg_up (α := DaT) (fun i D' => Eg g (d + 4) mX10_pass 0 0 (Zr g Q) 226 [(0, .ref A), (1, .int x), (2, .int (nI i))] [] (md S D')) (fun i D' => RepR D' A (iter failStep i K) ∧ Out A (A + 20) D D') (k_ny K) (fun n D1 hn hI k => ?_) (fun D1 hI => ?_) D ⟨hR, Out.rf⟩
  · obtain ⟨hR1, hO1⟩ := hI
    have hsk := skel_iter (K := K) skel_failStep n
    have hW1 := skel_wf hsk hW
    have hnn : n < k_ny (iter failStep n K) := by
      have : k_ny (iter failStep n K) = k_ny K := congrArg (fun z => z.2.2.1) hsk
      omega
    have k : ∀ y, RepR y A (failStep n (iter failStep n K)) ∧ Out A (A + 20) D y → _ := k
    generalize iter failStep n K = K1 at *
    have hc := hR1.1
    unfold RrC at hc
    have hny := hW1.2.2.1
    obtain ⟨v5, v6, v7, v8⟩ := hW1.2.2.2 n hnn
    have v2 := hW1.2.1
    have hv := hR1.2.2.2 n hnn
    unfold RrY at hv
    have hm := hR1.2.2.1 _ v7
    unfold RrM at hm
    have x1 := vx (show n < 60 by omega) (by decide)
    have x2 := vx (show k_mo K1 n < 5 by omega) (by decide)
    have skip : ¬ (k_st K1 n = 0 ∧ late K1 n = true) → Eg g (d + 4) mX10_pass 0 0 (Zr g Q) 329 [(0, .ref A), (1, .int x), (2, .int (nI n))] [] (md S D1) := by
      intro c
      refine X_run rfl ?_ ?_
      · simp [md_s, md_w, rget, r_a, r_b, r_c, r_i, r_l, nI_s1]
      try simp only [md_s, md_w, rget_some, r_a, r_b, r_c, r_i, r_l, r_nx, r_pc, Nat.reduceEqDiff, false_and, if_false, nI_s1]
      exact k _ ⟨by rw [failStep, if_neg c]; exact hR1, hO1⟩
    have go : k_st K1 n = 0 → late K1 n = true → Eg g (d + 4) mX10_pass 0 0 (Zr g Q) 290 [(0, .ref A), (1, .int x), (2, .int (nI n))] [] (md S D1) := by
      intro c2 hlt
      have hst : failStep n K1 = (match k_pr K1 n with | none => failK K1 n | some q => if k_st (failK K1 n) q = 0 then failK (failK K1 n) q else failK K1 n) := by
        rw [failStep, if_pos ⟨c2, hlt⟩]
        rfl
      rw [hst] at k
      refine X_run rfl trivial ?_
      refine X_cV (args := [.int (nI n)]) rfl (by decide) hs.1 rfl rfl (Nat.le_of_ble_eq_true rfl) (c_Rfail hL hW1 hR1 hnn) ?_
      rintro _ _ ⟨D2, rfl, rfl, hR2, hO2⟩
      have hv2 := hR2.2.2.2 n hnn
      unfold RrY at hv2
      rw [show k_pr (failK K1 n) n = k_pr K1 n from rfl] at hv2
      refine X_run rfl ?_ ?_
      · simp [md_s, md_w, rget, r_a, r_b, r_c, r_i, r_l, hs, hb, x1, hv2]
      try simp only [md_s, md_w, rget_some, r_a, r_b, r_c, r_i, r_l, r_nx, r_pc, Nat.reduceEqDiff, false_and, if_false, hs, hb, x1, hv2]
      cases hp : k_pr K1 n with
      | none =>
        rw [hp] at k
        refine X_icmp_eq rfl (fun _ => ?_) (fun c => absurd rfl c)
        refine X_run rfl ?_ ?_
        · simp [md_s, md_w, rget, r_a, r_b, r_c, r_i, r_l, nI_s1]
        try simp only [md_s, md_w, rget_some, r_a, r_b, r_c, r_i, r_l, r_nx, r_pc, Nat.reduceEqDiff, false_and, if_false, nI_s1]
        exact k _ ⟨hR2, hO1.tr hO2⟩
      | some q =>
        rw [hp] at k
        have hq := v8 q hp
        have hvq := hR2.2.2.2 q hq
        unfold RrY at hvq
        have x3 := vx (show q < 60 by omega) (by decide)
        refine X_icmp_eq rfl (fun c => absurd ((pE_some (o := some q) (fun q' hq' => by cases hq'; exact hq) (show k_ny K1 < 2 ^ 31 by omega)).mp c) (by simp)) (fun _ => ?_)
        refine X_run rfl ?_ ?_
        · simp [md_s, md_w, rget, r_a, r_b, r_c, r_i, r_l, hs, hb, x1, hv2, hp, pE, x3, hvq]
        try simp only [md_s, md_w, rget_some, r_a, r_b, r_c, r_i, r_l, r_nx, r_pc, Nat.reduceEqDiff, false_and, if_false, hs, hb, x1, hv2, hp, pE, x3, hvq]
        refine X_if_ne rfl (fun c4 => ?_) (fun c4 => ?_)
        · refine X_run rfl ?_ ?_
          · simp [md_s, md_w, rget, r_a, r_b, r_c, r_i, r_l, nI_s1]
          try simp only [md_s, md_w, rget_some, r_a, r_b, r_c, r_i, r_l, r_nx, r_pc, Nat.reduceEqDiff, false_and, if_false, nI_s1]
          refine k _ ⟨?_, hO1.tr hO2⟩
          show RepR D2 A (if _ then _ else _)
          rw [if_neg c4]
          exact hR2
        · refine X_run rfl ?_ ?_
          · simp [md_s, md_w, rget, r_a, r_b, r_c, r_i, r_l, hs, hb, x1, hv2, hp, pE]
          try simp only [md_s, md_w, rget_some, r_a, r_b, r_c, r_i, r_l, r_nx, r_pc, Nat.reduceEqDiff, false_and, if_false, hs, hb, x1, hv2, hp, pE]
          refine X_cV (args := [.int (nI q)]) rfl (by decide) hs.1 rfl rfl (Nat.le_of_ble_eq_true rfl) (c_Rfail (K := failK K1 n) hL hW1 hR2 hq) ?_
          rintro _ _ ⟨D3, rfl, rfl, hR3, hO3⟩
          refine X_run rfl ?_ ?_
          · simp [md_s, md_w, rget, r_a, r_b, r_c, r_i, r_l, nI_s1]
          try simp only [md_s, md_w, rget_some, r_a, r_b, r_c, r_i, r_l, r_nx, r_pc, Nat.reduceEqDiff, false_and, if_false, nI_s1]
          refine k _ ⟨?_, (hO1.tr hO2).tr hO3⟩
          show RepR D3 A (if _ then _ else _)
          rw [if_pos c4]
          exact hR3
    refine X_run rfl ?_ ?_
    · simp [md_s, md_w, rget, r_a, r_b, r_c, r_i, r_l, hs, hc]
    try simp only [md_s, md_w, rget_some, r_a, r_b, r_c, r_i, r_l, r_nx, r_pc, Nat.reduceEqDiff, false_and, if_false, hs, hc]
    refine X_icmp_ge rfl (fun c1 => no_le c1 hnn (by omega)) (fun c1 => ?_)
    refine X_run rfl ?_ ?_
    · simp [md_s, md_w, rget, r_a, r_b, r_c, r_i, r_l, hs, hb, x1, hv]
    try simp only [md_s, md_w, rget_some, r_a, r_b, r_c, r_i, r_l, r_nx, r_pc, Nat.reduceEqDiff, false_and, if_false, hs, hb, x1, hv]
    refine X_if_ne rfl (fun c2 => skip (fun z => c2 z.1)) (fun c2 => ?_)
    refine X_run rfl ?_ ?_
    · simp [md_s, md_w, rget, r_a, r_b, r_c, r_i, r_l, hs, hb, x1, hv, hc]
    try simp only [md_s, md_w, rget_some, r_a, r_b, r_c, r_i, r_l, r_nx, r_pc, Nat.reduceEqDiff, false_and, if_false, hs, hb, x1, hv, hc]
    refine X_icmp_gt rfl (fun c3 => skip (fun z => ?_)) (fun c3 => ?_)
    · have h1 : ¬ k_du K1 n < k_day K1 := Int32.not_lt.mpr (Int32.le_of_lt c3)
      have h2 : ¬ k_du K1 n = k_day K1 := fun e => by rw [e] at c3; exact absurd c3 Int32.lt_irrefl
      have := z.2
      simp [late, h1, h2] at this
    have c3 := Int32.not_lt.mp c3
    refine X_run rfl ?_ ?_
    · simp [md_s, md_w, rget, r_a, r_b, r_c, r_i, r_l, hs, hb, x1, hv, hc]
    try simp only [md_s, md_w, rget_some, r_a, r_b, r_c, r_i, r_l, r_nx, r_pc, Nat.reduceEqDiff, false_and, if_false, hs, hb, x1, hv, hc]
    refine X_icmp_ne rfl (fun c4 => go c2 ?_) (fun c4 => ?_)
    · have : k_du K1 n < k_day K1 := Int32.lt_of_le_of_ne c3 c4
      simp [late, this]
    refine X_run rfl ?_ ?_
    · simp [md_s, md_w, rget, r_a, r_b, r_c, r_i, r_l, hs, ha, hb, x1, x2, hv, hm, hc]
    try simp only [md_s, md_w, rget_some, r_a, r_b, r_c, r_i, r_l, r_nx, r_pc, Nat.reduceEqDiff, false_and, if_false, hs, ha, hb, x1, x2, hv, hm, hc]
    refine X_icmp_le rfl (fun c5 => go c2 ?_) (fun c5 => ?_)
    · simp [late, c4, c5]
    · refine X_run rfl ?_ ?_
      · simp [md_s, md_w, rget, r_a, r_b, r_c, r_i, r_l, nI_s1]
      try simp only [md_s, md_w, rget_some, r_a, r_b, r_c, r_i, r_l, r_nx, r_pc, Nat.reduceEqDiff, false_and, if_false, nI_s1]
      refine k _ ⟨?_, hO1⟩
      rw [failStep, if_neg (fun z => ?_)]
      · exact hR1
      · have := z.2
        simp [late, c4, c5] at this
  · obtain ⟨hR1, hO1⟩ := hI
    have hc := hR1.wf (K' := K) (skel_iter (K := K) skel_failStep (k_ny K))
    have hny := hW.2.2.1
    refine X_run rfl ?_ ?_
    · simp [md_s, md_w, rget, r_a, r_b, r_c, r_i, r_l, hs, hc]
    try simp only [md_s, md_w, rget_some, r_a, r_b, r_c, r_i, r_l, r_nx, r_pc, Nat.reduceEqDiff, false_and, if_false, hs, hc]
    refine X_icmp_ge rfl (fun c1 => ?_) (fun c1 => no_nle c1 (Nat.le_refl _) (by omega))
    refine X_run rfl trivial ?_
    exact X_iret rfl rfl (hq D1 hR1 hO1)
end REFPASS
section REFPASS2
variable {g : GG} {d : Nat} {S : ShT} {D : DaT} {A : Nat} {K : KT}
theorem zr_settle {K : KT} (h : ZrK (settleK K)) : ZrK (ks_day (ks_hr (settleK K) 0) (k_day K + 1)) := h
theorem c_Rpass (hL : StL S A) (hK : RunK K) (hZ : ZrK (settleK K)) (hR : RepR D A K) : EvM g (d + 4) mX10_pass 0 0 [.ref A] (md S D) (fun v M1 => ∃ D1, v = some (.int (cntT K (outK K).1)) ∧ M1 = md S D1 ∧ RepR D1 A (hourK K) ∧ Out A (A + 20) D D1) := by
  obtain ⟨hs, ha, hb⟩ := hL.all
  have hW := hK.1
  have hWs : WfK (settleK K) := skel_wf (skel_settleK K) hW
  refine EvM.mk (by decide) (Nat.le_of_ble_eq_true rfl) ?_
  refine X_run rfl trivial ?_
  refine X_cV (args := []) rfl (by decide) hs.1 rfl rfl (Nat.le_of_ble_eq_true rfl) (c_Rbegin hL hW hR) ?_
  rintro _ _ ⟨D1, rfl, rfl, hJ1, hO1⟩
  refine X_run rfl trivial ?_
  refine X_cV (args := []) rfl (by decide) hs.1 rfl rfl (Nat.le_of_ble_eq_true rfl) (c_Rgo hL hK hJ1 (net0_I hK.2.1 hK.2.2.2 hK.1.2.2.1)) ?_
  rintro _ _ ⟨D2, rfl, rfl, hJ2, hO2⟩
  have hO2' : Out A (A + 20) D D2 := (hO1.tr hO2).wide (by omega) (by omega)
  refine X_run rfl trivial ?_
  refine Rset (tk := (outK K).1) (nt := (outK K).2) hL hW hJ2.1 hJ2.2.1 hJ2.2.2 (fun D3 hR3 hO3 => ?_)
  have hR3 : RepR D3 A (settleK K) := hR3
  have hO3 := hO2'.tr hO3
  have hday : k_day (settleK K) = k_day K := by unfold settleK; rw [kd_B.1, kd_S.1]
  have hhr : k_hr (settleK K) = k_hr K := by unfold settleK; rw [kd_B.2.1, kd_S.2.1]
  unfold hourK
  generalize settleK K = K1 at hR3 hWs hZ hday hhr ⊢
  have hc := hR3.1
  unfold RrC at hc
  obtain ⟨D4, e4, z4, y4⟩ := wr_fi D3 321 A (k_hr K1 + 1)
  have hR4 : RepR D4 A (ks_hr K1 (k_hr K1 + 1)) := e4 ▸ hR3.hr _
  have hO4 : Out A (A + 20) D D4 := hO3.tr (e4 ▸ Out.fi (by omega))
  have f4 : d_fi D4 321 A = k_hr K1 + 1 := by rw [z4, if_pos ⟨rfl, rfl⟩]
  refine X_run rfl ?_ ?_
  · simp [md_s, md_w, rget, r_a, r_b, r_c, r_i, r_l, hs, hc, e4, f4]
  try simp only [md_s, md_w, rget_some, r_a, r_b, r_c, r_i, r_l, r_nx, r_pc, Nat.reduceEqDiff, false_and, if_false, hs, hc, e4, f4]
  refine X_icmp_ne rfl (fun c1 => ?_) (fun c1 => ?_)
  · refine X_run rfl trivial ?_
    refine Rfails (K := ks_hr K1 (k_hr K1 + 1)) hL hWs hR4 (fun D5 hR5 hO5 => ⟨D5, rfl, rfl, ?_, hO4.tr hO5⟩)
    rw [endK, if_neg c1]
    exact hR5
  · have hR5 := hR4.hr 0
    obtain ⟨D5, e5, z5, y5⟩ := wr_fi D4 321 A 0
    rw [e5] at hR5
    have hO5 : Out A (A + 20) D D5 := hO4.tr (e5 ▸ Out.fi (by omega))
    have hc5 : d_fi D5 320 A = k_day K1 := hR5.1.1
    have hR6 := hR5.day (k_day K1 + 1)
    obtain ⟨D6, e6, z6, y6⟩ := wr_fi D5 320 A (k_day K1 + 1)
    rw [e6] at hR6
    have hO6 : Out A (A + 20) D D6 := hO5.tr (e6 ▸ Out.fi (by omega))
    refine X_run rfl ?_ ?_
    · simp [md_s, md_w, rget, r_a, r_b, r_c, r_i, r_l, hs, e5, hc5, e6]
    try simp only [md_s, md_w, rget_some, r_a, r_b, r_c, r_i, r_l, r_nx, r_pc, Nat.reduceEqDiff, false_and, if_false, hs, e5, hc5, e6]
    refine Rcharge (K := ks_day (ks_hr K1 0) (k_day K1 + 1)) hL hWs hZ hR6 (fun D7 hR7 hO7 => ?_)
    refine X_run rfl trivial ?_
    refine Eg.sub (Rdefs (K := chargeK (ks_day (ks_hr K1 0) (k_day K1 + 1))) hL hWs hR7 (fun D8 hR8 hO8 => ?_)) ⟨rfl, rfl, rfl, trivial⟩
    refine X_run rfl trivial ?_
    refine Eg.sub (Rfails (K := defK (chargeK (ks_day (ks_hr K1 0) (k_day K1 + 1)))) hL hWs hR8 (fun D9 hR9 hO9 => ⟨D9, rfl, rfl, ?_, ((hO6.tr hO7).tr hO8).tr hO9⟩)) ⟨rfl, rfl, rfl, trivial⟩
    rw [endK, if_pos c1]
    exact hR9
end REFPASS2
