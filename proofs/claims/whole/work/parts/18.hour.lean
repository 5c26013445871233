def inter (b : Int32) : Int32 := if 0 ≤ b ∨ b < -10000000 then 0 else if b / 100 < -10000000 - b then -10000000 - b else b / 100
def chg (K : KT) (p m : Nat) : Nat → Nat → Int32 := fun p' m' => if m' < k_nm K ∧ (p' < p ∨ (p' = p ∧ m' < m)) then k_ba K p' m' + inter (k_ba K p' m') else k_ba K p' m'
def chargeK (K : KT) : KT := ks_ba K (chg K (k_np K) 0)
def dfi (K : KT) (i : Nat) : Nat → Bool := fun p => if p < i then decide (room K p < 0) else k_df K p
def defK (K : KT) : KT := ks_df K (dfi K (k_np K))
def failStep (i : Nat) (K : KT) : KT := if k_st K i = 0 ∧ late K i = true then (match k_pr K i with | none => failK K i | some q => if k_st (failK K i) q = 0 then failK (failK K i) q else failK K i) else K
def failAll (K : KT) : KT := iter failStep (k_ny K) K
def endK (K : KT) : KT := if k_hr K + 1 = 24 then failAll (defK (chargeK (ks_day (ks_hr K 0) (k_day K + 1)))) else failAll (ks_hr K (k_hr K + 1))
theorem skel_failStep (i : Nat) (K : KT) : skel (failStep i K) = skel K := by
  unfold failStep
  split
  · split
    · rfl
    · split <;> rfl
  · rfl
theorem RepC.cnt {D : DaT} {B : Nat} {K K' : KT} (h : RepC D B K) (e : skel K = skel K') : d_fi D 3 B = nI (k_np K') ∧ d_fi D 4 B = nI (k_nm K') ∧ d_fi D 5 B = nI (k_ny K') := by
  have e1 : k_np K = k_np K' := congrArg (fun z => z.1) e
  have e2 : k_nm K = k_nm K' := congrArg (fun z => z.2.1) e
  have e3 : k_ny K = k_ny K' := congrArg (fun z => z.2.2.1) e
  rw [← e1, ← e2, ← e3]
  exact ⟨h.1.1, h.1.2.1, h.1.2.2.1⟩
section HOUR
variable {g : GG} {d : Nat} {S : ShT} {D : DaT} {B : Nat} {K : KT}
theorem c_interestOn {b : Int32} {M : Mem} : EvM g (d + 1) mX0_interestOn 0 0 [.int b] M (fun v M1 => M1 = M ∧ v = some (.int (inter b))) := by
  refine EvM.mk (by decide) (Nat.le_of_ble_eq_true rfl) ?_
  refine X_run rfl trivial ?_
  refine X_if_ge rfl (fun c0 => ?_) (fun c0 => ?_)
  · refine X_run rfl trivial ?_
    refine X_iret rfl rfl ⟨rfl, ?_⟩
    rw [inter, if_pos (Or.inl c0)]
  · refine X_run rfl trivial ?_
    refine X_icmp_ge rfl (fun c1 => ?_) (fun c1 => ?_)
    · have c1 : (-10000000 : Int32) ≤ b := c1
      refine X_run rfl ?_ ?_
      · simp [r_i]
      try simp only [r_i]
      refine X_max rfl (Nat.le_of_ble_eq_true rfl) ?_
      refine X_run rfl trivial ?_
      refine X_iret rfl rfl ⟨rfl, ?_⟩
      rw [inter, if_neg (show ¬ (0 ≤ b ∨ b < -10000000) from fun z => z.elim c0 (fun z => absurd z (Int32.not_lt.mpr c1)))]
    · have c1 : ¬ (-10000000 : Int32) ≤ b := c1
      refine X_run rfl trivial ?_
      refine X_iret rfl rfl ⟨rfl, ?_⟩
      rw [inter, if_pos (Or.inr (Int32.not_le.mp c1))]
theorem c_chargeInterest (hL : BkL S B) (hW : WfK K) (hR : RepC D B K) : EvM g (d + 2) mX0_chargeInterest 0 0 [.ref B] (md S D) (fun v M1 => ∃ D1, v = none ∧ M1 = md S D1 ∧ RepC D1 B (chargeK K) ∧ Out B (B + 139) D D1) := by
  have hb := hL.1
  have hW' := hW
  obtain ⟨w1, w2, w3, w4⟩ := hW
  refine EvM.mk (by decide) (Nat.le_of_ble_eq_true rfl) ?_
  refine X_run rfl trivial ?_
  refine Eg_up (α := DaT) (fun i D' => Eg g (d + 2) mX0_chargeInterest 0 0 (Zr g _) 2 [(0, .ref B), (1, .int (nI i))] [] (md S D')) (fun i D' => RepC D' B (ks_ba K (chg K i 0)) ∧ Out B (B + 139) D D') (k_np K) (fun p D1 hp hI k => ?_) (fun D1 hI => ?_) D ⟨?_, Out.rf⟩
  · obtain ⟨hR1, hO1⟩ := hI
    have hc := hR1.cnt (K' := K) rfl
    have hp2 : p < 10 := by omega
    obtain ⟨hq, hr1, -⟩ := hL.2.1 p hp2
    refine X_run rfl ?_ ?_
    · simp [md_s, md_w, rget, r_a, r_b, r_c, r_i, r_l, hb, hc]
    try simp only [md_s, md_w, rget_some, r_a, r_b, r_c, r_i, r_l, r_nx, r_pc, hb, hc]
    refine X_icmp_ge rfl (fun c1 => no_le c1 hp (by omega)) (fun c1 => ?_)
    refine X_run rfl ?_ ?_
    · simp [md_s, md_w, rget, r_a, r_b, r_c, r_i, r_l, hb]
    try simp only [md_s, md_w, rget_some, r_a, r_b, r_c, r_i, r_l, r_nx, r_pc, hb]
    refine X_cV (args := [.int (nI p)]) rfl (by decide) hb.1 rfl rfl (Nat.le_of_ble_eq_true rfl) (c_partyAt hL hp2) ?_
    rintro _ _ ⟨rfl, rfl⟩
    refine X_run rfl ?_ ?_
    · simp [md_s, md_w, rget, r_a, r_b, r_c, r_i, r_l, hq]
    try simp only [md_s, md_w, rget_some, r_a, r_b, r_c, r_i, r_l, r_nx, r_pc, hq]
    refine Eg_up (α := DaT) (fun m D' => Eg g (d + 2) mX0_chargeInterest 0 0 (Zr g _) 21 [(0, .ref B), (1, .int (nI p)), (2, .ref (pa B p + 1)), (3, .int (nI m))] [] (md S D')) (fun m D' => RepC D' B (ks_ba K (chg K p m)) ∧ Out B (B + 139) D D') (k_nm K) (fun m D2 hm hI2 k2 => ?_) (fun D2 hI2 => ?_) D1 ⟨hR1, hO1⟩
    · obtain ⟨hR2, hO2⟩ := hI2
      have hc2 := hR2.cnt (K' := K) rfl
      have hm2 : m < 5 := by omega
      have hval : d_ai D2 (pa B p + 2) m = k_ba K p m := by
        have e := ((hR2.2.1 p hp).2 m hm2).1
        rw [e]
        show chg K p m p m = _
        unfold chg
        rw [if_neg (by omega)]
      refine X_run rfl ?_ ?_
      · simp [md_s, md_w, rget, r_a, r_b, r_c, r_i, r_l, hb, hc2]
      try simp only [md_s, md_w, rget_some, r_a, r_b, r_c, r_i, r_l, r_nx, r_pc, hb, hc2]
      refine X_icmp_ge rfl (fun c1 => no_le c1 hm (by omega)) (fun c1 => ?_)
      refine X_run rfl trivial ?_
      refine X_cV (args := [.int (nI m)]) rfl (by decide) hr1.1 rfl rfl (Nat.le_of_ble_eq_true rfl) (c_Row_at hr1 hm2) ?_
      rintro _ _ ⟨rfl, rfl⟩
      refine X_cS (args := [.int (d_ai D2 (pa B p + 2) m)]) rfl (by decide) rfl rfl (Nat.le_of_ble_eq_true rfl) c_interestOn ?_
      rintro _ _ ⟨rfl, rfl⟩
      refine X_cV (args := [.int (nI m), .int (inter (d_ai D2 (pa B p + 2) m))]) rfl (by decide) hr1.1 rfl rfl (Nat.le_of_ble_eq_true rfl) (c_Row_add hr1 hm2) ?_
      rintro _ _ ⟨rfl, rfl⟩
      refine X_run rfl ?_ ?_
      · simp [md_s, md_w, rget, r_a, r_b, r_c, r_i, r_l, nI_s1]
      try simp only [md_s, md_w, rget_some, r_a, r_b, r_c, r_i, r_l, r_nx, r_pc, nI_s1]
      refine k2 _ ⟨?_, hO2.tr (Out.ai (by unfold pa; omega))⟩
      have := hR2.ba (p := p) (m := m) (d_ai D2 (pa B p + 2) m + inter (d_ai D2 (pa B p + 2) m))
      rw [hval] at this ⊢
      have e : ks_ba (ks_ba K (chg K p m)) (up2n (k_ba (ks_ba K (chg K p m))) p m (k_ba K p m + inter (k_ba K p m))) = ks_ba K (chg K p (m + 1)) := by
        show ks_ba K (up2n (chg K p m) p m _) = _
        congr 1
        funext p' m'
        unfold up2n chg
        by_cases hz : p' = p ∧ m' = m
        · obtain ⟨rfl, rfl⟩ := hz
          rw [if_pos ⟨rfl, rfl⟩, if_pos (by omega)]
        · rw [if_neg hz]
          by_cases hy : m' < k_nm K ∧ (p' < p ∨ (p' = p ∧ m' < m))
          · rw [if_pos hy, if_pos (by omega)]
          · rw [if_neg hy, if_neg (by omega)]
      rw [e] at this
      exact this
    · obtain ⟨hR2, hO2⟩ := hI2
      have hc2 := hR2.cnt (K' := K) rfl
      refine X_run rfl ?_ ?_
      · simp [md_s, md_w, rget, r_a, r_b, r_c, r_i, r_l, hb, hc2]
      try simp only [md_s, md_w, rget_some, r_a, r_b, r_c, r_i, r_l, r_nx, r_pc, hb, hc2]
      refine X_icmp_ge rfl (fun c1 => ?_) (fun c1 => no_nle c1 (Nat.le_refl _) (by omega))
      refine X_run rfl ?_ ?_
      · simp [md_s, md_w, rget, r_a, r_b, r_c, r_i, r_l, nI_s1]
      try simp only [md_s, md_w, rget_some, r_a, r_b, r_c, r_i, r_l, r_nx, r_pc, nI_s1]
      refine Eg.sub (k _ ⟨?_, hO2⟩) ⟨rfl, rfl, trivial⟩
      have e : chg K p (k_nm K) = chg K (p + 1) 0 := by
        funext p' m'
        unfold chg
        by_cases hy : m' < k_nm K ∧ (p' < p ∨ (p' = p ∧ m' < k_nm K))
        · rw [if_pos hy, if_pos (by omega)]
        · rw [if_neg hy, if_neg (by omega)]
      rw [← e]
      exact hR2
  · obtain ⟨hR1, hO1⟩ := hI
    have hc := hR1.cnt (K' := K) rfl
    refine X_run rfl ?_ ?_
    · simp [md_s, md_w, rget, r_a, r_b, r_c, r_i, r_l, hb, hc]
    try simp only [md_s, md_w, rget_some, r_a, r_b, r_c, r_i, r_l, r_nx, r_pc, hb, hc]
    refine X_icmp_ge rfl (fun c1 => ?_) (fun c1 => no_nle c1 (Nat.le_refl _) (by omega))
    exact X_vret rfl rfl ⟨_, rfl, rfl, hR1, hO1⟩
  · have e : chg K 0 0 = k_ba K := by
      funext p' m'
      unfold chg
      rw [if_neg (by omega)]
    rw [e]
    exact hR
theorem c_findDefaults (hL : BkL S B) (hW : WfK K) (hR : RepC D B K) : EvM g (d + 4) mX0_findDefaults 0 0 [.ref B] (md S D) (fun v M1 => ∃ D1, v = none ∧ M1 = md S D1 ∧ RepC D1 B (defK K) ∧ Out B (B + 139) D D1) := by
  have hb := hL.1
  have hW' := hW
  obtain ⟨w1, w2, w3, w4⟩ := hW
  refine EvM.mk (by decide) (Nat.le_of_ble_eq_true rfl) ?_
  refine X_run rfl trivial ?_
  refine Eg_up (α := DaT) (fun i D' => Eg g (d + 4) mX0_findDefaults 0 0 (Zr g _) 2 [(0, .ref B), (1, .int (nI i))] [] (md S D')) (fun i D' => RepC D' B (ks_df K (dfi K i)) ∧ Out B (B + 139) D D') (k_np K) (fun p D1 hp hI k => ?_) (fun D1 hI => ?_) D ⟨?_, Out.rf⟩
  · obtain ⟨hR1, hO1⟩ := hI
    have hc := hR1.cnt (K' := K) rfl
    have hp2 : p < 10 := by omega
    obtain ⟨hq, hr1, -⟩ := hL.2.1 p hp2
    have fin : ∀ b : Bool, decide (room K p < 0) = b → Eg g (d + 4) mX0_findDefaults 0 0 (Zr g (fun v M1 => ∃ D1, v = none ∧ M1 = md S D1 ∧ RepC D1 B (defK K) ∧ Out B (B + 139) D D1)) 2 [(0, .ref B), (1, .int (nI (p + 1)))] [] (md S (pfi D1 130 (pa B p) (b2i b))) := by
      intro b hbb
      refine k _ ⟨?_, hO1.tr (Out.fi (by unfold pa; omega))⟩
      have := hR1.df (p := p) b
      have e : ks_df (ks_df K (dfi K p)) (up1 (k_df (ks_df K (dfi K p))) p b) = ks_df K (dfi K (p + 1)) := by
        show ks_df K (up1 (dfi K p) p b) = _
        congr 1
        funext p'
        unfold up1 dfi
        by_cases hz : p' = p
        · subst hz
          rw [if_pos rfl, if_pos (by omega), hbb]
        · rw [if_neg hz]
          by_cases hy : p' < p
          · rw [if_pos hy, if_pos (by omega)]
          · rw [if_neg hy, if_neg (by omega)]
      rw [e] at this
      exact this
    refine X_run rfl ?_ ?_
    · simp [md_s, md_w, rget, r_a, r_b, r_c, r_i, r_l, hb, hc]
    try simp only [md_s, md_w, rget_some, r_a, r_b, r_c, r_i, r_l, r_nx, r_pc, hb, hc]
    refine X_icmp_ge rfl (fun c1 => no_le c1 hp (by omega)) (fun c1 => ?_)
    refine X_run rfl ?_ ?_
    · simp [md_s, md_w, rget, r_a, r_b, r_c, r_i, r_l, hb]
    try simp only [md_s, md_w, rget_some, r_a, r_b, r_c, r_i, r_l, r_nx, r_pc, hb]
    refine X_cV (args := [.int (nI p)]) rfl (by decide) hb.1 rfl rfl (Nat.le_of_ble_eq_true rfl) (c_partyAt hL hp2) ?_
    rintro _ _ ⟨rfl, rfl⟩
    refine X_run rfl ?_ ?_
    · simp [md_s, md_w, rget, r_a, r_b, r_c, r_i, r_l, hq]
    try simp only [md_s, md_w, rget_some, r_a, r_b, r_c, r_i, r_l, r_nx, r_pc, hq]
    refine X_cV (args := [.ref (pa B p)]) rfl (by decide) hb.1 rfl rfl (Nat.le_of_ble_eq_true rfl) (c_roomOf (K := ks_df K (dfi K p)) hL hW' hR1 hp) ?_
    rintro _ _ ⟨rfl, rfl⟩
    rw [show room (ks_df K (dfi K p)) p = room K p from rfl]
    refine X_run rfl trivial ?_
    refine X_if_ge rfl (fun c2 => ?_) (fun c2 => ?_)
    · refine X_run rfl ?_ ?_
      · simp [md_s, md_w, rget, r_a, r_b, r_c, r_i, r_l, hq, nI_s1]
      try simp only [md_s, md_w, rget_some, r_a, r_b, r_c, r_i, r_l, r_nx, r_pc, hq, nI_s1]
      refine Eg.sub (fin false (decide_eq_false ?_)) ⟨rfl, rfl, trivial⟩
      rw [Int64.not_lt]
      exact (lg_cmp_ge _ _).mp c2
    · refine X_run rfl ?_ ?_
      · simp [md_s, md_w, rget, r_a, r_b, r_c, r_i, r_l, hq, nI_s1]
      try simp only [md_s, md_w, rget_some, r_a, r_b, r_c, r_i, r_l, r_nx, r_pc, hq, nI_s1]
      refine Eg.sub (fin true (decide_eq_true ?_)) ⟨rfl, rfl, trivial⟩
      rw [← Int64.not_le]
      exact fun z => c2 ((lg_cmp_ge _ _).mpr z)
  · obtain ⟨hR1, hO1⟩ := hI
    have hc := hR1.cnt (K' := K) rfl
    refine X_run rfl ?_ ?_
    · simp [md_s, md_w, rget, r_a, r_b, r_c, r_i, r_l, hb, hc]
    try simp only [md_s, md_w, rget_some, r_a, r_b, r_c, r_i, r_l, r_nx, r_pc, hb, hc]
    refine X_icmp_ge rfl (fun c1 => ?_) (fun c1 => no_nle c1 (Nat.le_refl _) (by omega))
    exact X_vret rfl rfl ⟨_, rfl, rfl, hR1, hO1⟩
  · have e : dfi K 0 = k_df K := by
      funext p'
      unfold dfi
      rw [if_neg (by omega)]
    rw [e]
    exact hR
theorem c_failLate (hL : BkL S B) (hW : WfK K) (hR : RepC D B K) : EvM g (d + 2) mX0_failLatePayments 0 0 [.ref B] (md S D) (fun v M1 => ∃ D1, v = none ∧ M1 = md S D1 ∧ RepC D1 B (failAll K) ∧ Out B (B + 139) D D1) := by
  have hb := hL.1
  refine EvM.mk (by decide) (Nat.le_of_ble_eq_true rfl) ?_
  refine X_run rfl trivial ?_
  refine Eg_up (α := DaT) (fun i D' => Eg g (d + 2) mX0_failLatePayments 0 0 (Zr g _) 2 [(0, .ref B), (1, .int (nI i))] [] (md S D')) (fun i D' => RepC D' B (iter failStep i K) ∧ Out B (B + 139) D D') (k_ny K) (fun n D1 hn hI k => ?_) (fun D1 hI => ?_) D ⟨hR, Out.rf⟩
  · obtain ⟨hR1, hO1⟩ := hI
    have hsk := skel_iter (K := K) skel_failStep n
    have hW1 := skel_wf hsk hW
    have hnn : n < k_ny (iter failStep n K) := by
      have : k_ny (iter failStep n K) = k_ny K := congrArg (fun z => z.2.2.1) hsk
      omega
    have k : ∀ y, RepC y B (failStep n (iter failStep n K)) ∧ Out B (B + 139) D y → _ := k
    generalize iter failStep n K = K1 at *
    have hc := hR1.1
    have hn2 : n < 60 := by have := hW1.2.2.1; omega
    have hy := hL.2.2.2 n hn2
    have hv := hR1.2.2.2 n hnn
    have hny := hW1.2.2.1
    refine X_run rfl ?_ ?_
    · simp [md_s, md_w, rget, r_a, r_b, r_c, r_i, r_l, hb, hc]
    try simp only [md_s, md_w, rget_some, r_a, r_b, r_c, r_i, r_l, r_nx, r_pc, hb, hc]
    refine X_icmp_ge rfl (fun c1 => no_le c1 hnn (by omega)) (fun c1 => ?_)
    refine X_run rfl ?_ ?_
    · simp [md_s, md_w, rget, r_a, r_b, r_c, r_i, r_l, hb]
    try simp only [md_s, md_w, rget_some, r_a, r_b, r_c, r_i, r_l, r_nx, r_pc, hb]
    refine X_cV (args := [.int (nI n)]) rfl (by decide) hb.1 rfl rfl (Nat.le_of_ble_eq_true rfl) (c_paymentAt hL hn2) ?_
    rintro _ _ ⟨rfl, rfl⟩
    refine X_run rfl ?_ ?_
    · simp [md_s, md_w, rget, r_a, r_b, r_c, r_i, r_l, hy, hv]
    try simp only [md_s, md_w, rget_some, r_a, r_b, r_c, r_i, r_l, r_nx, r_pc, hy, hv]
    refine X_if_ne rfl (fun c2 => ?_) (fun c2 => ?_)
    · refine X_run rfl ?_ ?_
      · simp [md_s, md_w, rget, r_a, r_b, r_c, r_i, r_l, nI_s1]
      try simp only [md_s, md_w, rget_some, r_a, r_b, r_c, r_i, r_l, r_nx, r_pc, nI_s1]
      refine Eg.sub (k _ ⟨?_, hO1⟩) ⟨rfl, rfl, trivial⟩
      rw [failStep, if_neg (fun z => c2 z.1)]
      exact hR1
    · refine X_run rfl ?_ ?_
      · simp [md_s, md_w, rget, r_a, r_b, r_c, r_i, r_l, hb]
      try simp only [md_s, md_w, rget_some, r_a, r_b, r_c, r_i, r_l, r_nx, r_pc, hb]
      refine X_cV (args := [.ref (ya B n)]) rfl (by decide) hb.1 rfl rfl (Nat.le_of_ble_eq_true rfl) (c_isLate hL hW1 hR1 hnn) ?_
      rintro _ _ ⟨rfl, rfl⟩
      refine X_if_eq rfl (fun c3 => ?_) (fun c3 => ?_)
      · refine X_run rfl ?_ ?_
        · simp [md_s, md_w, rget, r_a, r_b, r_c, r_i, r_l, nI_s1]
        try simp only [md_s, md_w, rget_some, r_a, r_b, r_c, r_i, r_l, r_nx, r_pc, nI_s1]
        refine Eg.sub (k _ ⟨?_, hO1⟩) ⟨rfl, rfl, trivial⟩
        rw [failStep, if_neg (fun z => by rw [b2i_zero.mp c3] at z; exact absurd z.2 (by decide))]
        exact hR1
      · have hlt : late K1 n = true := by
          cases hz : late K1 n with
          | true => rfl
          | false => exact absurd (b2i_zero.mpr hz) c3
        have hst : failStep n K1 = (match k_pr K1 n with | none => failK K1 n | some q => if k_st (failK K1 n) q = 0 then failK (failK K1 n) q else failK K1 n) := by rw [failStep, if_pos ⟨c2, hlt⟩]
        rw [hst] at k
        refine X_run rfl trivial ?_
        refine X_cV (args := [.ref (ya B n)]) rfl (by decide) hb.1 rfl rfl (Nat.le_of_ble_eq_true rfl) (c_fail hL hW1 hR1 hnn) ?_
        rintro _ _ ⟨D2, rfl, rfl, hR2, hO2⟩
        refine X_run rfl trivial ?_
        refine X_cV (args := [.ref (ya B n)]) rfl (by decide) hb.1 rfl rfl (Nat.le_of_ble_eq_true rfl) (c_partnerOf (K := failK K1 n) hL hW1 hR2 hnn) ?_
        rintro _ _ ⟨rfl, rfl⟩
        rw [show k_pr (failK K1 n) n = k_pr K1 n from rfl]
        cases hp : k_pr K1 n with
        | none =>
          rw [hp] at k
          refine X_run rfl trivial ?_
          refine X_ifnullN rfl ?_
          refine X_run rfl ?_ ?_
          · simp [md_s, md_w, rget, r_a, r_b, r_c, r_i, r_l, nI_s1]
          try simp only [md_s, md_w, rget_some, r_a, r_b, r_c, r_i, r_l, r_nx, r_pc, nI_s1]
          exact Eg.sub (k _ ⟨hR2, hO1.tr hO2⟩) ⟨rfl, rfl, trivial⟩
        | some q =>
          rw [hp] at k
          have hq := (hW1.2.2.2 n hnn).2.2.2 q hp
          have hyq := hL.2.2.2 q (by omega)
          have hvq := hR2.2.2.2 q hq
          refine X_run rfl trivial ?_
          refine X_ifnull rfl ?_
          refine X_run rfl ?_ ?_
          · simp [md_s, md_w, rget, r_a, r_b, r_c, r_i, r_l, hyq, hvq]
          try simp only [md_s, md_w, rget_some, r_a, r_b, r_c, r_i, r_l, r_nx, r_pc, hyq, hvq]
          refine X_if_ne rfl (fun c4 => ?_) (fun c4 => ?_)
          · refine X_run rfl ?_ ?_
            · simp [md_s, md_w, rget, r_a, r_b, r_c, r_i, r_l, nI_s1]
            try simp only [md_s, md_w, rget_some, r_a, r_b, r_c, r_i, r_l, r_nx, r_pc, nI_s1]
            refine Eg.sub (k _ ⟨?_, hO1.tr hO2⟩) ⟨rfl, rfl, trivial⟩
            show RepC D2 B (if _ then _ else _)
            rw [if_neg c4]
            exact hR2
          · refine X_run rfl trivial ?_
            refine X_cV (args := [.ref (ya B q)]) rfl (by decide) hb.1 rfl rfl (Nat.le_of_ble_eq_true rfl) (c_fail (K := failK K1 n) hL hW1 hR2 hq) ?_
            rintro _ _ ⟨D3, rfl, rfl, hR3, hO3⟩
            refine X_run rfl ?_ ?_
            · simp [md_s, md_w, rget, r_a, r_b, r_c, r_i, r_l, nI_s1]
            try simp only [md_s, md_w, rget_some, r_a, r_b, r_c, r_i, r_l, r_nx, r_pc, nI_s1]
            refine Eg.sub (k _ ⟨?_, (hO1.tr hO2).tr hO3⟩) ⟨rfl, rfl, trivial⟩
            show RepC D3 B (if _ then _ else _)
            rw [if_pos c4]
            exact hR3
  · obtain ⟨hR1, hO1⟩ := hI
    have hc := hR1.cnt (K' := K) (skel_iter (K := K) skel_failStep (k_ny K))
    have hny := hW.2.2.1
    refine X_run rfl ?_ ?_
    · simp [md_s, md_w, rget, r_a, r_b, r_c, r_i, r_l, hb, hc]
    try simp only [md_s, md_w, rget_some, r_a, r_b, r_c, r_i, r_l, r_nx, r_pc, hb, hc]
    refine X_icmp_ge rfl (fun c1 => ?_) (fun c1 => no_nle c1 (Nat.le_refl _) (by omega))
    exact X_vret rfl rfl ⟨_, rfl, rfl, hR1, hO1⟩
theorem c_endHour (hL : BkL S B) (hW : WfK K) (hR : RepC D B K) : EvM g (d + 5) mX0_endHour 0 0 [.ref B] (md S D) (fun v M1 => ∃ D1, v = none ∧ M1 = md S D1 ∧ RepC D1 B (endK K) ∧ Out B (B + 139) D D1) := by
  have hb := hL.1
  have hc := hR.1
  have hR1 := hR.hr (k_hr K + 1)
  have hO1 : Out B (B + 139) D (pfi D 7 B (k_hr K + 1)) := Out.fi (by omega)
  obtain ⟨D1, hD1⟩ : ∃ D1, pfi D 7 B (k_hr K + 1) = D1 := ⟨_, rfl⟩
  rw [hD1] at hR1 hO1
  have hc1 : d_fi D1 7 B = k_hr K + 1 := hR1.1.2.2.2.2
  refine EvM.mk (by decide) (Nat.le_of_ble_eq_true rfl) ?_
  refine X_run rfl ?_ ?_
  · simp [md_s, md_w, rget, r_a, r_b, r_c, r_i, r_l, hb, hc, hD1, hc1]
  try simp only [md_s, md_w, rget_some, r_a, r_b, r_c, r_i, r_l, r_nx, r_pc, hb, hc, hD1, hc1]
  refine X_icmp_ne rfl (fun c1 => ?_) (fun c1 => ?_)
  · refine X_run rfl trivial ?_
    refine X_cV (args := []) rfl (by decide) hb.1 rfl rfl (Nat.le_of_ble_eq_true rfl) (c_failLate (K := ks_hr K (k_hr K + 1)) hL hW hR1) ?_
    rintro _ _ ⟨D2, rfl, rfl, hR2, hO2⟩
    refine X_run rfl trivial ?_
    refine X_vret rfl rfl ⟨_, rfl, rfl, ?_, hO1.tr hO2⟩
    rw [endK, if_neg c1]
    exact hR2
  · have hR2 := hR1.hr 0
    have hO2 : Out B (B + 139) D1 (pfi D1 7 B 0) := Out.fi (by omega)
    obtain ⟨D2, hD2⟩ : ∃ D2, pfi D1 7 B 0 = D2 := ⟨_, rfl⟩
    rw [hD2] at hR2 hO2
    have hc2 : d_fi D2 6 B = k_day K := hR2.1.2.2.2.1
    have hR3 := hR2.day (k_day K + 1)
    have hO3 : Out B (B + 139) D2 (pfi D2 6 B (k_day K + 1)) := Out.fi (by omega)
    obtain ⟨D3, hD3⟩ : ∃ D3, pfi D2 6 B (k_day K + 1) = D3 := ⟨_, rfl⟩
    rw [hD3] at hR3 hO3
    refine X_run rfl ?_ ?_
    · simp [md_s, md_w, rget, r_a, r_b, r_c, r_i, r_l, hb, hD2, hc2, hD3]
    try simp only [md_s, md_w, rget_some, r_a, r_b, r_c, r_i, r_l, r_nx, r_pc, hb, hD2, hc2, hD3]
    refine X_cV (args := []) rfl (by decide) hb.1 rfl rfl (Nat.le_of_ble_eq_true rfl) (c_chargeInterest (K := ks_day (ks_hr K 0) (k_day K + 1)) hL hW hR3) ?_
    rintro _ _ ⟨D4, rfl, rfl, hR4, hO4⟩
    refine X_run rfl trivial ?_
    refine X_cV (args := []) rfl (by decide) hb.1 rfl rfl (Nat.le_of_ble_eq_true rfl) (c_findDefaults (K := chargeK (ks_day (ks_hr K 0) (k_day K + 1))) hL hW hR4) ?_
    rintro _ _ ⟨D5, rfl, rfl, hR5, hO5⟩
    refine X_run rfl trivial ?_
    refine X_cV (args := []) rfl (by decide) hb.1 rfl rfl (Nat.le_of_ble_eq_true rfl) (c_failLate (K := defK (chargeK (ks_day (ks_hr K 0) (k_day K + 1)))) hL hW hR5) ?_
    rintro _ _ ⟨D6, rfl, rfl, hR6, hO6⟩
    refine X_run rfl trivial ?_
    refine X_vret rfl rfl ⟨_, rfl, rfl, ?_, ((((hO1.tr hO2).tr hO3).tr hO4).tr hO5).tr hO6⟩
    rw [endK, if_pos c1]
    exact hR6
end HOUR
