theorem b2i_01 (b : Bool) : b2i b = 0 ∨ b2i b = 1 := by cases b <;> simp [b2i]
theorem b2i_10 (b : Bool) : (b2i b = 0) = (b = false) ∧ (b2i b = 1) = (b = true) := by cases b <;> simp [b2i]
def RcP (D : DaT) (B : Nat) (K : KT) (p : Nat) : Prop := (d_fl D 128 (pa B p) = asc (k_pn K p) ∧ d_fi D 129 (pa B p) = k_li K p ∧ d_fi D 130 (pa B p) = b2i (k_df K p)) ∧ ∀ m, m < 5 → d_ai D (pa B p + 2) m = k_ba K p m ∧ d_ai D (pa B p + 4) m = k_co K p m
def RcM (D : DaT) (B : Nat) (K : KT) (m : Nat) : Prop := d_fl D 64 (ma B m) = asc (k_mn K m) ∧ d_fi D 65 (ma B m) = k_rt K m ∧ d_fi D 66 (ma B m) = k_ct K m
def RcY (D : DaT) (B : Nat) (K : KT) (n : Nat) : Prop := d_fi D 160 (ya B n) = nI (k_fr K n) ∧ d_fi D 161 (ya B n) = nI (k_to K n) ∧ d_fi D 162 (ya B n) = k_am K n ∧ d_fi D 163 (ya B n) = nI (k_mo K n) ∧ d_fi D 164 (ya B n) = k_du K n ∧ d_fi D 165 (ya B n) = pE (k_pr K n) ∧ d_fi D 166 (ya B n) = k_st K n ∧ d_fi D 167 (ya B n) = k_se K n ∧ d_fi D 168 (ya B n) = b2i (k_he K n)
def RcC (D : DaT) (B : Nat) (K : KT) : Prop := d_fi D 3 B = nI (k_np K) ∧ d_fi D 4 B = nI (k_nm K) ∧ d_fi D 5 B = nI (k_ny K) ∧ d_fi D 6 B = k_day K ∧ d_fi D 7 B = k_hr K
theorem RcP.out {D D1 : DaT} {B lo hi p : Nat} {K : KT} (h : RcP D B K p) (ho : Out lo hi D D1) (hd : hi ≤ pa B p ∨ pa B p + 7 ≤ lo) : RcP D1 B K p := by
  obtain ⟨e1, e2, -⟩ := ho (pa B p) (by omega)
  refine ⟨by simp only [e1, e2]; exact h.1, fun m hm => ?_⟩
  rw [(ho (pa B p + 2) (by omega)).2.2.1, (ho (pa B p + 4) (by omega)).2.2.1]
  exact h.2 m hm
theorem RcM.out {D D1 : DaT} {B lo hi m : Nat} {K : KT} (h : RcM D B K m) (ho : Out lo hi D D1) (hd : hi ≤ ma B m ∨ ma B m + 1 ≤ lo) : RcM D1 B K m := by
  obtain ⟨e1, e2, -⟩ := ho (ma B m) (by omega)
  unfold RcM
  simp only [e1, e2]
  exact h
theorem RcY.out {D D1 : DaT} {B lo hi n : Nat} {K : KT} (h : RcY D B K n) (ho : Out lo hi D D1) (hd : hi ≤ ya B n ∨ ya B n + 1 ≤ lo) : RcY D1 B K n := by
  obtain ⟨e1, e2, -⟩ := ho (ya B n) (by omega)
  unfold RcY
  simp only [e1]
  exact h
theorem RcC.out {D D1 : DaT} {B lo hi : Nat} {K : KT} (h : RcC D B K) (ho : Out lo hi D D1) (hd : hi ≤ B ∨ B + 1 ≤ lo) : RcC D1 B K := by
  obtain ⟨e1, e2, -⟩ := ho B (by omega)
  unfold RcC
  simp only [e1]
  exact h
section COPY
variable {g : GG} {d : Nat} {S : ShT} {D : DaT} {B B2 : Nat} {K : KT}
theorem c_copyParty {p : Nat} (hL : BkL S B) (hL2 : BkL S B2) (hp : p < 10) (hR : RcP D B2 K p) (hd : B2 + 139 ≤ B ∨ B + 139 ≤ B2) : EvM g (d + 2) mX4_copyFrom 0 0 [.ref (pa B p), .ref (pa B2 p)] (md S D) (fun v M1 => ∃ D1, v = none ∧ M1 = md S D1 ∧ RcP D1 B K p ∧ Out (pa B p) (pa B p + 7) D D1) := by
  obtain ⟨hq, hr1, hr2, -⟩ := hL.2.1 p hp
  obtain ⟨hq', hr1', hr2', -⟩ := hL2.2.1 p hp
  obtain ⟨hv, hvb⟩ := hR
  obtain ⟨D1, e1, z1, y1⟩ := wr_fl D 128 (pa B p) (asc (k_pn K p))
  obtain ⟨D2, e2, z2, y2⟩ := wr_fi D1 129 (pa B p) (k_li K p)
  obtain ⟨D3, e3, z3, y3⟩ := wr_fi D2 130 (pa B p) (b2i (k_df K p))
  refine EvM.mk (by decide) (Nat.le_of_ble_eq_true rfl) ?_
  refine X_run rfl ?_ ?_
  · simp [md_s, md_w, rget, r_a, r_b, r_c, r_i, r_l, hq, hq', hv, e1, z1, y1.1, e2, z2, e3, b2i_01]
  try simp only [md_s, md_w, rget_some, r_a, r_b, r_c, r_i, r_l, r_nx, r_pc, Nat.reduceEqDiff, false_and, if_false, hq, hq', hv, e1, z1, y1.1, e2, z2, e3, b2i_01]
  have hne : ∀ k, k < 7 → pa B2 p + k ≠ pa B p + k := fun k hk => by unfold pa; omega
  refine X_cV (args := [.ref (pa B2 p + 1)]) rfl (by decide) hr1.1 rfl rfl (Nat.le_of_ble_eq_true rfl) (c_copyRow hr1 hr1' (hne 2 (by omega))) ?_
  rintro _ _ ⟨D4, rfl, rfl, f1, f2, f3, f4⟩
  refine X_run rfl ?_ ?_
  · simp [md_s, md_w, rget, r_a, r_b, r_c, r_i, r_l, hq, hq']
  try simp only [md_s, md_w, rget_some, r_a, r_b, r_c, r_i, r_l, r_nx, r_pc, Nat.reduceEqDiff, false_and, if_false, hq, hq']
  refine X_cV (args := [.ref (pa B2 p + 3)]) rfl (by decide) hr2.1 rfl rfl (Nat.le_of_ble_eq_true rfl) (c_copyRow hr2 hr2' (hne 4 (by omega))) ?_
  rintro _ _ ⟨D5, rfl, rfl, g1, g2, g3, g4⟩
  refine X_run rfl trivial ?_
  refine X_vret rfl rfl ⟨_, rfl, rfl, ⟨?_, fun m hm => ⟨?_, ?_⟩⟩, ?_⟩
  · rw [g2, f2, y3.1, y2.1]
    simp [g1, f1, z3, z2, z1]
  · rw [g4, if_neg (by omega), f4, if_pos ⟨rfl, hm⟩, y3.2.1, y2.2.1, y1.2.1]
    exact (hvb m hm).1
  · rw [g4, if_pos ⟨rfl, hm⟩, f4, if_neg (by unfold pa; omega), y3.2.1, y2.2.1, y1.2.1]
    exact (hvb m hm).2
  · have o1 : Out (pa B p) (pa B p + 7) D D1 := e1 ▸ Out.fl (by omega)
    have o2 : Out (pa B p) (pa B p + 7) D1 D2 := e2 ▸ Out.fi (by omega)
    have o3 : Out (pa B p) (pa B p + 7) D2 D3 := e3 ▸ Out.fi (by omega)
    exact (((o1.tr o2).tr o3).tr (RowEq.out ⟨f1, f2, f3, f4⟩ (by omega))).tr (RowEq.out ⟨g1, g2, g3, g4⟩ (by omega))
theorem c_copyMoney {m : Nat} (hL : BkL S B) (hL2 : BkL S B2) (hm : m < 5) (hR : RcM D B2 K m) : EvM g d mX2_copyFrom 0 0 [.ref (ma B m), .ref (ma B2 m)] (md S D) (fun v M1 => ∃ D1, v = none ∧ M1 = md S D1 ∧ RcM D1 B K m ∧ Out (ma B m) (ma B m + 1) D D1) := by
  have hq := hL.2.2.1 m hm
  have hq' := hL2.2.2.1 m hm
  have hv := hR
  unfold RcM at hv
  obtain ⟨D1, e1, z1, y1⟩ := wr_fl D 64 (ma B m) (asc (k_mn K m))
  obtain ⟨D2, e2, z2, y2⟩ := wr_fi D1 65 (ma B m) (k_rt K m)
  obtain ⟨D3, e3, z3, y3⟩ := wr_fi D2 66 (ma B m) (k_ct K m)
  refine EvM.mk (by decide) (Nat.le_of_ble_eq_true rfl) ?_
  refine X_run rfl ?_ ?_
  · simp [md_s, md_w, rget, r_a, r_b, r_c, r_i, r_l, hq, hq', hv, e1, z1, y1.1, e2, z2, e3]
  try simp only [md_s, md_w, rget_some, r_a, r_b, r_c, r_i, r_l, r_nx, r_pc, Nat.reduceEqDiff, false_and, if_false, hq, hq', hv, e1, z1, y1.1, e2, z2, e3]
  refine X_vret rfl rfl ⟨_, rfl, rfl, ?_, ?_⟩
  · unfold RcM
    rw [y3.1, y2.1]
    simp [z3, z2, z1]
  · have o1 : Out (ma B m) (ma B m + 1) D D1 := e1 ▸ Out.fl (by omega)
    have o2 : Out (ma B m) (ma B m + 1) D1 D2 := e2 ▸ Out.fi (by omega)
    have o3 : Out (ma B m) (ma B m + 1) D2 D3 := e3 ▸ Out.fi (by omega)
    exact (o1.tr o2).tr o3
theorem c_copyPayment {n : Nat} (hL : BkL S B) (hL2 : BkL S B2) (hn : n < 60) (hR : RcY D B2 K n) : EvM g d mX5_copyFrom 0 0 [.ref (ya B n), .ref (ya B2 n)] (md S D) (fun v M1 => ∃ D1, v = none ∧ M1 = md S D1 ∧ RcY D1 B K n ∧ Out (ya B n) (ya B n + 1) D D1) := by
  have hq := hL.2.2.2 n hn
  have hq' := hL2.2.2.2 n hn
  have hv := hR
  unfold RcY at hv
  obtain ⟨D1, e1, z1, y1⟩ := wr_fi D 160 (ya B n) (nI (k_fr K n))
  obtain ⟨D2, e2, z2, y2⟩ := wr_fi D1 161 (ya B n) (nI (k_to K n))
  obtain ⟨D3, e3, z3, y3⟩ := wr_fi D2 162 (ya B n) (k_am K n)
  obtain ⟨D4, e4, z4, y4⟩ := wr_fi D3 163 (ya B n) (nI (k_mo K n))
  obtain ⟨D5, e5, z5, y5⟩ := wr_fi D4 164 (ya B n) (k_du K n)
  obtain ⟨D6, e6, z6, y6⟩ := wr_fi D5 165 (ya B n) (pE (k_pr K n))
  obtain ⟨D7, e7, z7, y7⟩ := wr_fi D6 166 (ya B n) (k_st K n)
  obtain ⟨D8, e8, z8, y8⟩ := wr_fi D7 167 (ya B n) (k_se K n)
  obtain ⟨D9, e9, z9, y9⟩ := wr_fi D8 168 (ya B n) (b2i (k_he K n))
  refine EvM.mk (by decide) (Nat.le_of_ble_eq_true rfl) ?_
  refine X_run rfl ?_ ?_
  · simp [md_s, md_w, rget, r_a, r_b, r_c, r_i, r_l, hq, hq', hv, e1, e2, e3, e4, e5, e6, e7, e8, e9, z1, z2, z3, z4, z5, z6, z7, z8, b2i_01]
  try simp only [md_s, md_w, rget_some, r_a, r_b, r_c, r_i, r_l, r_nx, r_pc, Nat.reduceEqDiff, false_and, if_false, hq, hq', hv, e1, e2, e3, e4, e5, e6, e7, e8, e9, z1, z2, z3, z4, z5, z6, z7, z8, b2i_01]
  refine X_vret rfl rfl ⟨_, rfl, rfl, ?_, ?_⟩
  · unfold RcY
    simp [z1, z2, z3, z4, z5, z6, z7, z8, z9]
  · have oo : ∀ {D D' : DaT} {k : Nat} {v : Int32}, pfi D k (ya B n) v = D' → Out (ya B n) (ya B n + 1) D D' := fun e => e ▸ Out.fi (by omega)
    exact ((((((((oo e1).tr (oo e2)).tr (oo e3)).tr (oo e4)).tr (oo e5)).tr (oo e6)).tr (oo e7)).tr (oo e8)).tr (oo e9)
theorem c_copyBook (hL : BkL S B) (hL2 : BkL S B2) (hW : WfK K) (hR : RepC D B2 K) (hd : B2 + 139 ≤ B ∨ B + 139 ≤ B2) : EvM g (d + 3) mX0_copyFrom 0 0 [.ref B, .ref B2] (md S D) (fun v M1 => ∃ D1, v = none ∧ M1 = md S D1 ∧ RepC D1 B K ∧ Out B (B + 139) D D1) := by
  have hb := hL.1
  have hb2 := hL2.1
  have hc := hR.1
  obtain ⟨w1, w2, w3, -⟩ := id hW
  obtain ⟨D1, e1, z1, y1⟩ := wr_fi D 3 B (nI (k_np K))
  obtain ⟨D2, e2, z2, y2⟩ := wr_fi D1 4 B (nI (k_nm K))
  obtain ⟨D3, e3, z3, y3⟩ := wr_fi D2 5 B (nI (k_ny K))
  obtain ⟨D4, e4, z4, y4⟩ := wr_fi D3 6 B (k_day K)
  obtain ⟨D5, e5, z5, y5⟩ := wr_fi D4 7 B (k_hr K)
  have o5 : Out B (B + 139) D D5 := by
    have oo : ∀ {D D' : DaT} {k : Nat} {v : Int32}, pfi D k B v = D' → Out B (B + 139) D D' := fun e => e ▸ Out.fi (by omega)
    exact ((((oo e1).tr (oo e2)).tr (oo e3)).tr (oo e4)).tr (oo e5)
  have c5 : RcC D5 B K := by
    unfold RcC
    simp [z1, z2, z3, z4, z5]
  refine EvM.mk (by decide) (Nat.le_of_ble_eq_true rfl) ?_
  refine X_run rfl ?_ ?_
  · simp [md_s, md_w, rget, r_a, r_b, r_c, r_i, r_l, hb, hb2, hc, e1, e2, e3, e4, e5, z1, z2, z3, z4]
  try simp only [md_s, md_w, rget_some, r_a, r_b, r_c, r_i, r_l, r_nx, r_pc, Nat.reduceEqDiff, false_and, if_false, hb, hb2, hc, e1, e2, e3, e4, e5, z1, z2, z3, z4]
  refine Eg_up (α := DaT) (fun i D' => Eg g (d + 3) mX0_copyFrom 0 0 (Zr g _) 42 [(0, .ref B), (1, .ref B2), (2, .int (nI i))] [] (md S D')) (fun i D' => RcC D' B K ∧ (∀ p, p < i → RcP D' B K p) ∧ Out B (B + 139) D D') (k_np K) (fun p D6 hp hI k => ?_) (fun D6 hI => ?_) D5 ⟨c5, fun p h => absurd h (Nat.not_lt_zero p), o5⟩
  · obtain ⟨hC, hI, hO⟩ := hI
    have hC' := hC
    unfold RcC at hC'
    have hp2 : p < 10 := by omega
    have hR6 := hR.out hW hO (by omega)
    refine X_run rfl ?_ ?_
    · simp [md_s, md_w, rget, r_a, r_b, r_c, r_i, r_l, hb, hC']
    try simp only [md_s, md_w, rget_some, r_a, r_b, r_c, r_i, r_l, r_nx, r_pc, Nat.reduceEqDiff, false_and, if_false, hb, hC']
    refine X_icmp_ge rfl (fun c1 => no_le c1 hp (by omega)) (fun c1 => ?_)
    refine X_run rfl ?_ ?_
    · simp [md_s, md_w, rget, r_a, r_b, r_c, r_i, r_l, hb]
    try simp only [md_s, md_w, rget_some, r_a, r_b, r_c, r_i, r_l, r_nx, r_pc, Nat.reduceEqDiff, false_and, if_false, hb]
    refine X_cV (args := [.int (nI p)]) rfl (by decide) hb.1 rfl rfl (Nat.le_of_ble_eq_true rfl) (c_partyAt hL hp2) ?_
    rintro _ _ ⟨rfl, rfl⟩
    refine X_run rfl trivial ?_
    refine X_cV (args := [.int (nI p)]) rfl (by decide) hb2.1 rfl rfl (Nat.le_of_ble_eq_true rfl) (c_partyAt hL2 hp2) ?_
    rintro _ _ ⟨rfl, rfl⟩
    refine X_run rfl trivial ?_
    refine X_cV (args := [.ref (pa B2 p)]) rfl (by decide) (hL.2.1 p hp2).1.2.1 rfl rfl (Nat.le_of_ble_eq_true rfl) (c_copyParty hL hL2 hp2 (hR6.2.1 p hp) hd) ?_
    rintro _ _ ⟨D7, rfl, rfl, hP7, hO7⟩
    refine X_run rfl ?_ ?_
    · simp [md_s, md_w, rget, r_a, r_b, r_c, r_i, r_l, nI_s1]
    try simp only [md_s, md_w, rget_some, r_a, r_b, r_c, r_i, r_l, r_nx, r_pc, Nat.reduceEqDiff, false_and, if_false, nI_s1]
    refine k _ ⟨hC.out hO7 (by unfold pa; omega), fun p' hp' => ?_, hO.tr (hO7.wide (by unfold pa; omega) (by unfold pa; omega))⟩
    by_cases hz : p' = p
    · subst hz; exact hP7
    · exact (hI p' (by omega)).out hO7 (by unfold pa; omega)
  · obtain ⟨hC, hIP, hO⟩ := hI
    have hC' := hC
    unfold RcC at hC'
    refine X_run rfl ?_ ?_
    · simp [md_s, md_w, rget, r_a, r_b, r_c, r_i, r_l, hb, hC']
    try simp only [md_s, md_w, rget_some, r_a, r_b, r_c, r_i, r_l, r_nx, r_pc, Nat.reduceEqDiff, false_and, if_false, hb, hC']
    refine X_icmp_ge rfl (fun c1 => ?_) (fun c1 => no_nle c1 (Nat.le_refl _) (by omega))
    refine X_run rfl trivial ?_
    refine Eg_up (α := DaT) (fun i D' => Eg g (d + 3) mX0_copyFrom 0 0 (Zr g _) 71 [(0, .ref B), (1, .ref B2), (2, .int (nI i))] [] (md S D')) (fun i D' => RcC D' B K ∧ (∀ p, p < k_np K → RcP D' B K p) ∧ (∀ m, m < i → RcM D' B K m) ∧ Out B (B + 139) D D') (k_nm K) (fun p D6 hp hI k => ?_) (fun D6 hI => ?_) D6 ⟨hC, hIP, fun p h => absurd h (Nat.not_lt_zero p), hO⟩
    · obtain ⟨hC, hIP, hI, hO⟩ := hI
      have hC' := hC
      unfold RcC at hC'
      have hp2 : p < 5 := by omega
      have hR6 := hR.out hW hO (by omega)
      refine X_run rfl ?_ ?_
      · simp [md_s, md_w, rget, r_a, r_b, r_c, r_i, r_l, hb, hC']
      try simp only [md_s, md_w, rget_some, r_a, r_b, r_c, r_i, r_l, r_nx, r_pc, Nat.reduceEqDiff, false_and, if_false, hb, hC']
      refine X_icmp_ge rfl (fun c1 => no_le c1 hp (by omega)) (fun c1 => ?_)
      refine X_run rfl ?_ ?_
      · simp [md_s, md_w, rget, r_a, r_b, r_c, r_i, r_l, hb]
      try simp only [md_s, md_w, rget_some, r_a, r_b, r_c, r_i, r_l, r_nx, r_pc, Nat.reduceEqDiff, false_and, if_false, hb]
      refine X_cV (args := [.int (nI p)]) rfl (by decide) hb.1 rfl rfl (Nat.le_of_ble_eq_true rfl) (c_moneyAt hL hp2) ?_
      rintro _ _ ⟨rfl, rfl⟩
      refine X_run rfl trivial ?_
      refine X_cV (args := [.int (nI p)]) rfl (by decide) hb2.1 rfl rfl (Nat.le_of_ble_eq_true rfl) (c_moneyAt hL2 hp2) ?_
      rintro _ _ ⟨rfl, rfl⟩
      refine X_run rfl trivial ?_
      refine X_cV (args := [.ref (ma B2 p)]) rfl (by decide) (hL.2.2.1 p hp2).2 rfl rfl (Nat.le_of_ble_eq_true rfl) (c_copyMoney hL hL2 hp2 (hR6.2.2.1 p hp)) ?_
      rintro _ _ ⟨D7, rfl, rfl, hP7, hO7⟩
      refine X_run rfl ?_ ?_
      · simp [md_s, md_w, rget, r_a, r_b, r_c, r_i, r_l, nI_s1]
      try simp only [md_s, md_w, rget_some, r_a, r_b, r_c, r_i, r_l, r_nx, r_pc, Nat.reduceEqDiff, false_and, if_false, nI_s1]
      refine k _ ⟨hC.out hO7 (by unfold ma; omega), fun p' hp' => (hIP p' hp').out hO7 (by unfold pa ma; omega), fun p' hp' => ?_, hO.tr (hO7.wide (by unfold ma; omega) (by unfold ma; omega))⟩
      by_cases hz : p' = p
      · subst hz; exact hP7
      · exact (hI p' (by omega)).out hO7 (by unfold ma; omega)
    · obtain ⟨hC, hIP, hIM, hO⟩ := hI
      have hC' := hC
      unfold RcC at hC'
      refine X_run rfl ?_ ?_
      · simp [md_s, md_w, rget, r_a, r_b, r_c, r_i, r_l, hb, hC']
      try simp only [md_s, md_w, rget_some, r_a, r_b, r_c, r_i, r_l, r_nx, r_pc, Nat.reduceEqDiff, false_and, if_false, hb, hC']
      refine X_icmp_ge rfl (fun c1 => ?_) (fun c1 => no_nle c1 (Nat.le_refl _) (by omega))
      refine X_run rfl trivial ?_
      refine Eg_up (α := DaT) (fun i D' => Eg g (d + 3) mX0_copyFrom 0 0 (Zr g _) 100 [(0, .ref B), (1, .ref B2), (2, .int (nI i))] [] (md S D')) (fun i D' => RcC D' B K ∧ (∀ p, p < k_np K → RcP D' B K p) ∧ (∀ m, m < k_nm K → RcM D' B K m) ∧ (∀ n, n < i → RcY D' B K n) ∧ Out B (B + 139) D D') (k_ny K) (fun p D6 hp hI k => ?_) (fun D6 hI => ?_) D6 ⟨hC, hIP, hIM, fun p h => absurd h (Nat.not_lt_zero p), hO⟩
      · obtain ⟨hC, hIP, hIM, hI, hO⟩ := hI
        have hC' := hC
        unfold RcC at hC'
        have hp2 : p < 60 := by omega
        have hR6 := hR.out hW hO (by omega)
        refine X_run rfl ?_ ?_
        · simp [md_s, md_w, rget, r_a, r_b, r_c, r_i, r_l, hb, hC']
        try simp only [md_s, md_w, rget_some, r_a, r_b, r_c, r_i, r_l, r_nx, r_pc, Nat.reduceEqDiff, false_and, if_false, hb, hC']
        refine X_icmp_ge rfl (fun c1 => no_le c1 hp (by omega)) (fun c1 => ?_)
        refine X_run rfl ?_ ?_
        · simp [md_s, md_w, rget, r_a, r_b, r_c, r_i, r_l, hb]
        try simp only [md_s, md_w, rget_some, r_a, r_b, r_c, r_i, r_l, r_nx, r_pc, Nat.reduceEqDiff, false_and, if_false, hb]
        refine X_cV (args := [.int (nI p)]) rfl (by decide) hb.1 rfl rfl (Nat.le_of_ble_eq_true rfl) (c_paymentAt hL hp2) ?_
        rintro _ _ ⟨rfl, rfl⟩
        refine X_run rfl trivial ?_
        refine X_cV (args := [.int (nI p)]) rfl (by decide) hb2.1 rfl rfl (Nat.le_of_ble_eq_true rfl) (c_paymentAt hL2 hp2) ?_
        rintro _ _ ⟨rfl, rfl⟩
        refine X_run rfl trivial ?_
        refine X_cV (args := [.ref (ya B2 p)]) rfl (by decide) (hL.2.2.2 p hp2).2 rfl rfl (Nat.le_of_ble_eq_true rfl) (c_copyPayment hL hL2 hp2 (hR6.2.2.2 p hp)) ?_
        rintro _ _ ⟨D7, rfl, rfl, hP7, hO7⟩
        refine X_run rfl ?_ ?_
        · simp [md_s, md_w, rget, r_a, r_b, r_c, r_i, r_l, nI_s1]
        try simp only [md_s, md_w, rget_some, r_a, r_b, r_c, r_i, r_l, r_nx, r_pc, Nat.reduceEqDiff, false_and, if_false, nI_s1]
        refine k _ ⟨hC.out hO7 (by unfold ya; omega), fun p' hp' => (hIP p' hp').out hO7 (by unfold pa ya; omega), fun p' hp' => (hIM p' hp').out hO7 (by unfold ma ya; omega), fun p' hp' => ?_, hO.tr (hO7.wide (by unfold ya; omega) (by unfold ya; omega))⟩
        by_cases hz : p' = p
        · subst hz; exact hP7
        · exact (hI p' (by omega)).out hO7 (by unfold ya; omega)
      · obtain ⟨hC, hIP, hIM, hIY, hO⟩ := hI
        have hC' := hC
        unfold RcC at hC'
        refine X_run rfl ?_ ?_
        · simp [md_s, md_w, rget, r_a, r_b, r_c, r_i, r_l, hb, hC']
        try simp only [md_s, md_w, rget_some, r_a, r_b, r_c, r_i, r_l, r_nx, r_pc, Nat.reduceEqDiff, false_and, if_false, hb, hC']
        refine X_icmp_ge rfl (fun c1 => ?_) (fun c1 => no_nle c1 (Nat.le_refl _) (by omega))
        exact X_vret rfl rfl ⟨_, rfl, rfl, ⟨hC, hIP, hIM, hIY⟩, hO⟩
end COPY
