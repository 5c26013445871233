/-! settling and counting, as numbers -/
def outK (K : KT) : RuT := outs K 60 (takes0 K, net0 K (k_ny K))
def cntT (K : KT) (tk : Nat → Bool) : Int32 := iter (fun i acc => if tk i = true then acc + 1 else acc) (k_ny K) 0
def cntP (K : KT) (tk : Nat → Bool) (x : Int32) : Int32 := iter (fun i acc => if tk i = true ∧ nI (k_fr K i) = x then acc + 1 else acc) (k_ny K) 0
def cntS (K : KT) (sh : Nat → Bool) : Int32 := iter (fun i acc => if sh i = true then acc + 1 else acc) (k_np K) 0
def nones (K : KT) (x a0 : Int32) : Nat → RuT → RuT
  | 0, r => r
  | k + 1, r => if cntP K r.1 x = a0 then (match leaves K r with | none => r | some r1 => nones K x a0 k r1) else r
def noneOf (K : KT) (r : RuT) (x : Int32) : Bool := decide (cntP K (nones K x (cntP K r.1 x) 60 r).1 x = cntP K r.1 x)
def wTake (K : KT) (tk : Nat → Bool) : Int64 := iter (fun i acc => if tk i = true then acc + worth K (k_am K i) (k_mo K i) else acc) (k_ny K) 0
def wGain1 (K : KT) (nt : Nat → Nat → Int32) (p : Nat) : Nat → Int64 → Int64 := fun m acc => if 0 < nt p m - k_ba K p m then acc + worth K (nt p m - k_ba K p m) m else acc
def wGain (K : KT) (nt : Nat → Nat → Int32) : Int64 := iter (fun p acc => iter (wGain1 K nt p) (k_nm K) acc) (k_np K) 0
def setS (K : KT) (tk : Nat → Bool) (i : Nat) : KT := ks_se (ks_st K (fun n => if n < i ∧ tk n = true then 1 else k_st K n)) (fun n => if n < i ∧ tk n = true then 24 * k_day K + k_hr K else k_se K n)
def setB (K : KT) (nt : Nat → Nat → Int32) (i : Nat) : KT := ks_ba K (fun p => if p < i then nt p else k_ba K p)
def settleK (K : KT) : KT := setB (setS K (outK K).1 (k_ny K)) (outK K).2 (k_np K)
theorem setS_no {K : KT} {tk : Nat → Bool} {i : Nat} (h : tk i = false) : setS K tk (i + 1) = setS K tk i := by
  have e : ∀ n, (n < i + 1 ∧ tk n = true) = (n < i ∧ tk n = true) := fun n => propext ⟨fun z => ⟨by
    by_cases hz : n = i
    · subst hz; rw [h] at z; exact absurd z.2 (by decide)
    · omega, z.2⟩, fun z => ⟨by omega, z.2⟩⟩
  unfold setS
  simp only [e]
theorem k_st_ss {K : KT} {f h : Nat → Int32} : k_st (ks_se (ks_st K f) h) = f := rfl
theorem k_se_ss {K : KT} {f h : Nat → Int32} : k_se (ks_se (ks_st K f) h) = h := rfl
theorem ss_ss {K : KT} {f h f' h' : Nat → Int32} : ks_se (ks_st (ks_se (ks_st K f) h) f') h' = ks_se (ks_st K f') h' := rfl
theorem setS_yes {K : KT} {tk : Nat → Bool} {i : Nat} (h : tk i = true) : ks_se (ks_st (setS K tk i) (up1 (k_st (setS K tk i)) i 1)) (up1 (k_se (setS K tk i)) i (24 * k_day K + k_hr K)) = setS K tk (i + 1) := by
  have e : ∀ (n : Nat) (f : Nat → Int32) (x : Int32), (if n = i then x else (if n < i ∧ tk n = true then x else f n)) = (if n < i + 1 ∧ tk n = true then x else f n) := fun n f x => by
    by_cases hz : n = i
    · subst hz; rw [if_pos rfl, if_pos ⟨by omega, h⟩]
    · rw [if_neg hz]
      by_cases hz2 : n < i ∧ tk n = true
      · rw [if_pos hz2, if_pos ⟨by omega, hz2.2⟩]
      · rw [if_neg hz2, if_neg (fun z => hz2 ⟨by omega, z.2⟩)]
  have e1 : up1 (fun n => if n < i ∧ tk n = true then 1 else k_st K n) i 1 = fun n => if n < i + 1 ∧ tk n = true then 1 else k_st K n := funext (fun n => e n (k_st K) 1)
  have e2 : ∀ x, up1 (fun n => if n < i ∧ tk n = true then x else k_se K n) i x = fun n => if n < i + 1 ∧ tk n = true then x else k_se K n := fun x => funext (fun n => e n (k_se K) x)
  unfold setS
  rw [k_st_ss, k_se_ss, ss_ss, e1, e2]
theorem RepC.bal {D D1 : DaT} {B p : Nat} {K : KT} {nt : Nat → Nat → Int32} (h : RepC D B (setB K nt p)) (hr : RowEq D D1 (pa B p + 2) 5 (nt p)) : RepC D1 B (setB K nt (p + 1)) := by
  obtain ⟨h0, hp, hm, hy⟩ := h
  obtain ⟨f1, f2, f3, f4⟩ := hr
  unfold RepC
  rw [f1, f2]
  refine ⟨h0, fun p' hpp => ⟨(hp p' hpp).1, fun m hmm => ?_⟩, hm, hy⟩
  have e := (hp p' hpp).2 m hmm
  have g4 : d_ai D1 (pa B p' + 4) m = d_ai D (pa B p' + 4) m := by rw [f4, if_neg (fun z => absurd z.1 (by unfold pa; omega))]
  refine ⟨?_, by rw [g4]; exact e.2⟩
  rw [f4]
  show _ = (if p' < p + 1 then nt p' else k_ba K p') m
  by_cases hz : p' = p
  · subst hz
    rw [if_pos ⟨rfl, hmm⟩, if_pos (by omega)]
  · rw [if_neg (fun z => hz (by have := z.1; unfold pa at this; omega))]
    have e1 : d_ai D (pa B p' + 2) m = (if p' < p then nt p' else k_ba K p') m := e.1
    rw [e1]
    by_cases hz2 : p' < p
    · rw [if_pos hz2, if_pos (by omega)]
    · rw [if_neg hz2, if_neg (by omega)]
section SETTLE
variable {g : GG} {d : Nat} {S : ShT} {D : DaT} {B N : Nat} {K : KT}
theorem c_leaveOutAll {r : RuT} (hN : NtL S N B) (hL : BkL S B) (hW : WfK K) (hR : RepC D B K) (hU : Run D B K r.1 r.2) : EvM g (d + 5) mX3_leaveOutAll 0 0 [.ref N] (md S D) (fun v M1 => ∃ D1, v = none ∧ M1 = md S D1 ∧ RepC D1 B K ∧ Run D1 B K (outs K 60 r).1 (outs K 60 r).2 ∧ Out B (B + 139) D D1) := by
  have hn0 := hN
  unfold NtL at hn0
  suffices key : ∀ F, outs K 60 r = F → EvM g (d + 5) mX3_leaveOutAll 0 0 [.ref N] (md S D) (fun v M1 => ∃ D1, v = none ∧ M1 = md S D1 ∧ RepC D1 B K ∧ Run D1 B K F.1 F.2 ∧ Out B (B + 139) D D1) by
    exact key _ rfl
  intro F hF
  refine EvM.mk (by decide) (Nat.le_of_ble_eq_true rfl) ?_
  refine X_run rfl trivial ?_
  refine Eg_up (α := DaT) (fun i D' => Eg g (d + 5) mX3_leaveOutAll 0 0 (Zr g _) 2 [(0, .ref N), (1, .int (nI i))] [] (md S D')) (fun i D' => RepC D' B K ∧ (∃ r', outs K (60 - i) r' = F ∧ Run D' B K r'.1 r'.2) ∧ Out B (B + 139) D D') 60 (fun i D1 hi hI k => ?_) (fun D1 hI => ?_) D ⟨hR, ⟨r, hF, hU⟩, Out.rf⟩
  · obtain ⟨hR1, ⟨r1, e1, hU1⟩, hO1⟩ := hI
    rw [show 60 - i = 60 - (i + 1) + 1 by omega] at e1
    simp only [outs] at e1
    refine X_run rfl trivial ?_
    refine X_icmp_ge rfl (fun c1 => no_le (a := 60) c1 hi (by omega)) (fun c1 => ?_)
    refine X_run rfl trivial ?_
    refine X_cV (args := []) rfl (by decide) hn0.1 rfl rfl (Nat.le_of_ble_eq_true rfl) (c_leavesOne hN hL hW hR1 hU1) ?_
    rintro _ _ ⟨D2, rfl, rfl, hR2, hU2, hO2⟩
    cases hl : leaves K r1 with
    | none =>
      rw [hl] at e1 hU2
      refine X_if_eq rfl (fun c2 => ?_) (fun c2 => absurd rfl c2)
      refine X_run rfl trivial ?_
      exact X_vret rfl rfl ⟨_, rfl, rfl, hR2, by rw [← e1]; exact hU2, hO1.tr hO2⟩
    | some r2 =>
      rw [hl] at e1 hU2
      refine X_if_eq rfl (fun c2 => absurd (b2i_zero.mp c2) (by simp)) (fun c2 => ?_)
      refine X_run rfl ?_ ?_
      · simp [md_s, md_w, rget, r_a, r_b, r_c, r_i, r_l, nI_s1]
      try simp only [md_s, md_w, rget_some, r_a, r_b, r_c, r_i, r_l, r_nx, r_pc, Nat.reduceEqDiff, false_and, if_false, nI_s1]
      exact Eg.sub (k _ ⟨hR2, ⟨r2, e1, hU2⟩, hO1.tr hO2⟩) ⟨rfl, rfl, trivial⟩
  · obtain ⟨hR1, ⟨r1, e1, hU1⟩, hO1⟩ := hI
    refine X_run rfl trivial ?_
    refine X_icmp_ge rfl (fun c1 => ?_) (fun c1 => absurd (show (60 : Int32) ≤ nI 60 by decide) c1)
    refine X_run rfl trivial ?_
    exact X_vret rfl rfl ⟨_, rfl, rfl, hR1, by rw [← e1]; exact hU1, hO1⟩
theorem c_cntT {tk : Nat → Bool} (hN : NtL S N B) (hL : BkL S B) (hW : WfK K) (hR : RepC D B K) (hT : ScT D B tk (k_ny K)) : EvM g (d + 1) mX3_countTakingPart 0 0 [.ref N] (md S D) (fun v M1 => M1 = md S D ∧ v = some (.int (cntT K tk))) := by
  have hb := hL.1
  have hn0 := hN
  unfold NtL at hn0
  obtain ⟨w1, w2, w3, -⟩ := hW
  have hc := hR.1
  refine EvM.mk (by decide) (Nat.le_of_ble_eq_true rfl) ?_
  refine X_run rfl trivial ?_
  refine Eg_iter (fun i (a : Int32) => Eg g (d + 1) mX3_countTakingPart 0 0 (Zr g _) 4 [(0, .ref N), (1, .int a), (2, .int (nI i))] [] (md S D)) (fun i acc => if tk i = true then acc + 1 else acc) (k_ny K) 0 (fun i hi k => ?_) ?_
  · have hi2 : i < 60 := by omega
    have hy := hL.2.2.2 i hi2
    have ht := hT i hi
    refine X_run rfl ?_ ?_
    · simp [md_s, md_w, rget, r_a, r_b, r_c, r_i, r_l, hn0, hb, hc]
    try simp only [md_s, md_w, rget_some, r_a, r_b, r_c, r_i, r_l, r_nx, r_pc, Nat.reduceEqDiff, false_and, if_false, hn0, hb, hc]
    refine X_icmp_ge rfl (fun c1 => no_le c1 hi (by omega)) (fun c1 => ?_)
    refine X_run rfl ?_ ?_
    · simp [md_s, md_w, rget, r_a, r_b, r_c, r_i, r_l, hn0, hb]
    try simp only [md_s, md_w, rget_some, r_a, r_b, r_c, r_i, r_l, r_nx, r_pc, Nat.reduceEqDiff, false_and, if_false, hn0, hb]
    refine X_cV rfl (by decide) hb.1 rfl rfl (Nat.le_of_ble_eq_true rfl) (c_paymentAt hL hi2) ?_
    rintro _ _ ⟨rfl, rfl⟩
    refine X_run rfl ?_ ?_
    · simp [md_s, md_w, rget, r_a, r_b, r_c, r_i, r_l, hy, ht]
    try simp only [md_s, md_w, rget_some, r_a, r_b, r_c, r_i, r_l, r_nx, r_pc, Nat.reduceEqDiff, false_and, if_false, hy, ht]
    refine X_if_eq rfl (fun c2 => ?_) (fun c2 => ?_)
    · refine X_run rfl ?_ ?_
      · simp [md_s, md_w, rget, r_a, r_b, r_c, r_i, r_l, nI_s1]
      try simp only [md_s, md_w, rget_some, r_a, r_b, r_c, r_i, r_l, r_nx, r_pc, Nat.reduceEqDiff, false_and, if_false, nI_s1]
      rw [if_neg (by rw [b2i_zero.mp c2]; decide)] at k
      exact k
    · refine X_run rfl ?_ ?_
      · simp [md_s, md_w, rget, r_a, r_b, r_c, r_i, r_l, nI_s1]
      try simp only [md_s, md_w, rget_some, r_a, r_b, r_c, r_i, r_l, r_nx, r_pc, Nat.reduceEqDiff, false_and, if_false, nI_s1]
      rw [if_pos (b2i_nz c2)] at k
      exact k
  · refine X_run rfl ?_ ?_
    · simp [md_s, md_w, rget, r_a, r_b, r_c, r_i, r_l, hn0, hb, hc]
    try simp only [md_s, md_w, rget_some, r_a, r_b, r_c, r_i, r_l, r_nx, r_pc, Nat.reduceEqDiff, false_and, if_false, hn0, hb, hc]
    refine X_icmp_ge rfl (fun c1 => ?_) (fun c1 => no_nle c1 (Nat.le_refl _) (by omega))
    refine X_run rfl trivial ?_
    exact X_iret rfl rfl ⟨rfl, rfl⟩
theorem c_cntS {sh : Nat → Bool} (hN : NtL S N B) (hL : BkL S B) (hW : WfK K) (hR : RepC D B K) (hS : ScS D B sh (k_np K)) : EvM g (d + 1) mX3_countShort 0 0 [.ref N] (md S D) (fun v M1 => M1 = md S D ∧ v = some (.int (cntS K sh))) := by
  have hb := hL.1
  have hn0 := hN
  unfold NtL at hn0
  obtain ⟨w1, w2, w3, -⟩ := hW
  have hc := hR.1
  refine EvM.mk (by decide) (Nat.le_of_ble_eq_true rfl) ?_
  refine X_run rfl trivial ?_
  refine Eg_iter (fun i (a : Int32) => Eg g (d + 1) mX3_countShort 0 0 (Zr g _) 4 [(0, .ref N), (1, .int a), (2, .int (nI i))] [] (md S D)) (fun i acc => if sh i = true then acc + 1 else acc) (k_np K) 0 (fun i hi k => ?_) ?_
  · have hi2 : i < 10 := by omega
    have hy := (hL.2.1 i hi2).1
    have ht := hS i hi
    refine X_run rfl ?_ ?_
    · simp [md_s, md_w, rget, r_a, r_b, r_c, r_i, r_l, hn0, hb, hc]
    try simp only [md_s, md_w, rget_some, r_a, r_b, r_c, r_i, r_l, r_nx, r_pc, Nat.reduceEqDiff, false_and, if_false, hn0, hb, hc]
    refine X_icmp_ge rfl (fun c1 => no_le c1 hi (by omega)) (fun c1 => ?_)
    refine X_run rfl ?_ ?_
    · simp [md_s, md_w, rget, r_a, r_b, r_c, r_i, r_l, hn0, hb]
    try simp only [md_s, md_w, rget_some, r_a, r_b, r_c, r_i, r_l, r_nx, r_pc, Nat.reduceEqDiff, false_and, if_false, hn0, hb]
    refine X_cV rfl (by decide) hb.1 rfl rfl (Nat.le_of_ble_eq_true rfl) (c_partyAt hL hi2) ?_
    rintro _ _ ⟨rfl, rfl⟩
    refine X_run rfl ?_ ?_
    · simp [md_s, md_w, rget, r_a, r_b, r_c, r_i, r_l, hy, ht]
    try simp only [md_s, md_w, rget_some, r_a, r_b, r_c, r_i, r_l, r_nx, r_pc, Nat.reduceEqDiff, false_and, if_false, hy, ht]
    refine X_if_eq rfl (fun c2 => ?_) (fun c2 => ?_)
    · refine X_run rfl ?_ ?_
      · simp [md_s, md_w, rget, r_a, r_b, r_c, r_i, r_l, nI_s1]
      try simp only [md_s, md_w, rget_some, r_a, r_b, r_c, r_i, r_l, r_nx, r_pc, Nat.reduceEqDiff, false_and, if_false, nI_s1]
      rw [if_neg (by rw [b2i_zero.mp c2]; decide)] at k
      exact k
    · refine X_run rfl ?_ ?_
      · simp [md_s, md_w, rget, r_a, r_b, r_c, r_i, r_l, nI_s1]
      try simp only [md_s, md_w, rget_some, r_a, r_b, r_c, r_i, r_l, r_nx, r_pc, Nat.reduceEqDiff, false_and, if_false, nI_s1]
      rw [if_pos (b2i_nz c2)] at k
      exact k
  · refine X_run rfl ?_ ?_
    · simp [md_s, md_w, rget, r_a, r_b, r_c, r_i, r_l, hn0, hb, hc]
    try simp only [md_s, md_w, rget_some, r_a, r_b, r_c, r_i, r_l, r_nx, r_pc, Nat.reduceEqDiff, false_and, if_false, hn0, hb, hc]
    refine X_icmp_ge rfl (fun c1 => ?_) (fun c1 => no_nle c1 (Nat.le_refl _) (by omega))
    refine X_run rfl trivial ?_
    exact X_iret rfl rfl ⟨rfl, rfl⟩
theorem c_cntP {tk : Nat → Bool} {x : Int32} (hN : NtL S N B) (hL : BkL S B) (hW : WfK K) (hR : RepC D B K) (hT : ScT D B tk (k_ny K)) : EvM g (d + 1) mX3_countTakingPartOf 0 0 [.ref N, .int x] (md S D) (fun v M1 => M1 = md S D ∧ v = some (.int (cntP K tk x))) := by
  have hb := hL.1
  have hn0 := hN
  unfold NtL at hn0
  obtain ⟨w1, w2, w3, -⟩ := hW
  have hc := hR.1
  refine EvM.mk (by decide) (Nat.le_of_ble_eq_true rfl) ?_
  refine X_run rfl trivial ?_
  refine Eg_iter (fun i (a : Int32) => Eg g (d + 1) mX3_countTakingPartOf 0 0 (Zr g _) 4 [(0, .ref N), (1, .int x), (2, .int a), (3, .int (nI i))] [] (md S D)) (fun i acc => if tk i = true ∧ nI (k_fr K i) = x then acc + 1 else acc) (k_ny K) 0 (fun i hi k => ?_) ?_
  · have hi2 : i < 60 := by omega
    have hy := hL.2.2.2 i hi2
    have hv := hR.2.2.2 i hi
    have ht := hT i hi
    refine X_run rfl ?_ ?_
    · simp [md_s, md_w, rget, r_a, r_b, r_c, r_i, r_l, hn0, hb, hc]
    try simp only [md_s, md_w, rget_some, r_a, r_b, r_c, r_i, r_l, r_nx, r_pc, Nat.reduceEqDiff, false_and, if_false, hn0, hb, hc]
    refine X_icmp_ge rfl (fun c1 => no_le c1 hi (by omega)) (fun c1 => ?_)
    refine X_run rfl ?_ ?_
    · simp [md_s, md_w, rget, r_a, r_b, r_c, r_i, r_l, hn0, hb]
    try simp only [md_s, md_w, rget_some, r_a, r_b, r_c, r_i, r_l, r_nx, r_pc, Nat.reduceEqDiff, false_and, if_false, hn0, hb]
    refine X_cV rfl (by decide) hb.1 rfl rfl (Nat.le_of_ble_eq_true rfl) (c_paymentAt hL hi2) ?_
    rintro _ _ ⟨rfl, rfl⟩
    refine X_run rfl ?_ ?_
    · simp [md_s, md_w, rget, r_a, r_b, r_c, r_i, r_l, hy, ht]
    try simp only [md_s, md_w, rget_some, r_a, r_b, r_c, r_i, r_l, r_nx, r_pc, Nat.reduceEqDiff, false_and, if_false, hy, ht]
    refine X_if_eq rfl (fun c2 => ?_) (fun c2 => ?_)
    · refine X_run rfl ?_ ?_
      · simp [md_s, md_w, rget, r_a, r_b, r_c, r_i, r_l, nI_s1]
      try simp only [md_s, md_w, rget_some, r_a, r_b, r_c, r_i, r_l, r_nx, r_pc, Nat.reduceEqDiff, false_and, if_false, nI_s1]
      rw [if_neg (fun z => by rw [b2i_zero.mp c2] at z; exact absurd z.1 (by decide))] at k
      exact k
    · refine X_run rfl ?_ ?_
      · simp [md_s, md_w, rget, r_a, r_b, r_c, r_i, r_l, hn0, hb]
      try simp only [md_s, md_w, rget_some, r_a, r_b, r_c, r_i, r_l, r_nx, r_pc, Nat.reduceEqDiff, false_and, if_false, hn0, hb]
      refine X_cV rfl (by decide) hb.1 rfl rfl (Nat.le_of_ble_eq_true rfl) (c_paymentAt hL hi2) ?_
      rintro _ _ ⟨rfl, rfl⟩
      refine X_run rfl ?_ ?_
      · simp [md_s, md_w, rget, r_a, r_b, r_c, r_i, r_l, hy, hv]
      try simp only [md_s, md_w, rget_some, r_a, r_b, r_c, r_i, r_l, r_nx, r_pc, Nat.reduceEqDiff, false_and, if_false, hy, hv]
      refine X_icmp_ne rfl (fun c3 => ?_) (fun c3 => ?_)
      · refine X_run rfl ?_ ?_
        · simp [md_s, md_w, rget, r_a, r_b, r_c, r_i, r_l, nI_s1]
        try simp only [md_s, md_w, rget_some, r_a, r_b, r_c, r_i, r_l, r_nx, r_pc, Nat.reduceEqDiff, false_and, if_false, nI_s1]
        rw [if_neg (fun z => c3 z.2)] at k
        exact k
      · refine X_run rfl ?_ ?_
        · simp [md_s, md_w, rget, r_a, r_b, r_c, r_i, r_l, nI_s1]
        try simp only [md_s, md_w, rget_some, r_a, r_b, r_c, r_i, r_l, r_nx, r_pc, Nat.reduceEqDiff, false_and, if_false, nI_s1]
        rw [if_pos ⟨b2i_nz c2, c3⟩] at k
        exact k
  · refine X_run rfl ?_ ?_
    · simp [md_s, md_w, rget, r_a, r_b, r_c, r_i, r_l, hn0, hb, hc]
    try simp only [md_s, md_w, rget_some, r_a, r_b, r_c, r_i, r_l, r_nx, r_pc, Nat.reduceEqDiff, false_and, if_false, hn0, hb, hc]
    refine X_icmp_ge rfl (fun c1 => ?_) (fun c1 => no_nle c1 (Nat.le_refl _) (by omega))
    refine X_run rfl trivial ?_
    exact X_iret rfl rfl ⟨rfl, rfl⟩
theorem c_countSettling (hN : NtL S N B) (hL : BkL S B) (hW : WfK K) (hR : RepC D B K) : EvM g (d + 6) mX3_countSettling 0 0 [.ref N] (md S D) (fun v M1 => ∃ D1, v = some (.int (cntT K (outK K).1)) ∧ M1 = md S D1 ∧ RepC D1 B K ∧ Out B (B + 139) D D1) := by
  have hn0 := hN
  unfold NtL at hn0
  refine EvM.mk (by decide) (Nat.le_of_ble_eq_true rfl) ?_
  refine X_run rfl trivial ?_
  refine X_cV (args := []) rfl (by decide) hn0.1 rfl rfl (Nat.le_of_ble_eq_true rfl) (c_begin hN hL hW hR) ?_
  rintro _ _ ⟨D1, rfl, rfl, hR1, hU1, hO1⟩
  refine X_run rfl trivial ?_
  refine X_cV (args := []) rfl (by decide) hn0.1 rfl rfl (Nat.le_of_ble_eq_true rfl) (c_leaveOutAll (r := (takes0 K, net0 K (k_ny K))) hN hL hW hR1 hU1) ?_
  rintro _ _ ⟨D2, rfl, rfl, hR2, hU2, hO2⟩
  refine X_run rfl trivial ?_
  refine X_cV (args := []) rfl (by decide) hn0.1 rfl rfl (Nat.le_of_ble_eq_true rfl) (c_cntT hN hL hW hR2 hU2.1) ?_
  rintro _ _ ⟨rfl, rfl⟩
  refine X_run rfl trivial ?_
  exact X_iret rfl rfl ⟨_, rfl, rfl, hR2, hO1.tr hO2⟩
end SETTLE
