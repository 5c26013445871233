/-! the desk: its places, and what it tells -/
def BrL (S : ShT) (r a n : Nat) : Prop := s_tg S r = 2 ∧ s_fr S 32 r = some a ∧ s_tg S a = 22 ∧ s_ln S a = n ∧ n < 2 ^ 31
def DkL (S : ShT) (X : Nat) : Prop :=
  (s_tg S X = 10 ∧ s_fr S 288 X = some (X + 1) ∧ s_fr S 289 X = some (X + 2) ∧ s_fr S 290 X = some (X + 3) ∧ s_fr S 291 X = some (X + 8) ∧ s_fr S 292 X = some (X + 10) ∧ s_fr S 293 X = some (X + 11) ∧ s_fr S 294 X = some (X + 150) ∧ s_fr S 295 X = some (X + 151) ∧ s_fr S 296 X = some (X + 290)) ∧
  BrL S (X + 3) (X + 4) 2000 ∧ BrL S (X + 8) (X + 9) 2160 ∧ NtL S (X + 10) (X + 11) ∧ BkL S (X + 11) ∧ NtL S (X + 150) (X + 151) ∧ BkL S (X + 151) ∧ RowL S (X + 290) (X + 291) 100
def cntI (K : KT) (x : Int32) : Int32 := iter (fun i acc => if k_st K i = x then acc + 1 else acc) (k_ny K) 0
def cntD (K : KT) : Int32 := iter (fun i acc => if k_df K i = true then acc + 1 else acc) (k_np K) 0
def cnts (K : KT) (tl pl : Int32) : Nat → Int32
  | 0 => nI (k_np K) | 1 => nI (k_nm K) | 2 => nI (k_ny K) | 3 => cntI K 0 | 4 => cntI K 1 | 5 => cntI K 2 | 6 => cntI K 3
  | 7 => k_day K | 8 => k_hr K | 9 => cntD K | 10 => tl | _ => pl
def toldP (K : KT) (p : Nat) : Nat → Int32
  | 0 => k_li K p | 1 => (limit K p).toInt32 | 2 => (expo K (k_ba K p)).toInt32 | 3 => (room K p).toInt32 | 4 => b2i (k_df K p)
  | 5 => cntW K (k_fr K) (nI p) | _ => cntW K (k_to K) (nI p)
def toldM (K : KT) (m : Nat) : Nat → Int32
  | 0 => k_rt K m | 1 => k_ct K m | 2 => b2i (decide (k_hr K < k_ct K m)) | _ => sumW K (nI m)
def toldY (K : KT) (n : Nat) : Nat → Int32
  | 0 => nI (k_fr K n) | 1 => nI (k_to K n) | 2 => k_am K n | 3 => nI (k_mo K n) | 4 => k_du K n | 5 => pE (k_pr K n) | 6 => k_st K n
  | 7 => b2i (k_he K n) | _ => k_se K n
def inB (x : Int32) (n : Nat) : Bool := decide (0 ≤ x ∧ x ≤ nI n - 1)
theorem inB_iff {x : Int32} {n : Nat} (hn : n < 2 ^ 31) : inB x n = true ↔ ∃ j, j < n ∧ x = nI j := by
  unfold inB
  rw [decide_eq_true_iff]
  exact ix_of hn
theorem if_b2i (c : Prop) [Decidable c] : (if c then (1 : Int32) else 0) = b2i (decide c) := by
  by_cases h : c <;> simp [b2i, h]
section DESKA
variable {g : GG} {d : Nat} {S : ShT} {D : DaT} {X : Nat} {K : KT}
theorem c_isParty {x : Int32} (hX : DkL S X) (hR : RepC D (X + 11) K) : EvM g (d + 1) mX9_isParty 0 0 [.ref X, .int x] (md S D) (fun v M1 => M1 = md S D ∧ v = some (.int (b2i (inB x (k_np K))))) := by
  obtain ⟨hx, -, -, -, hL, -⟩ := hX
  have hb := hL.1
  have hc := hR.1
  refine EvM.mk (by decide) (Nat.le_of_ble_eq_true rfl) ?_
  refine X_run rfl ?_ ?_
  · simp [md_s, md_w, rget, r_a, r_b, r_c, r_i, r_l, hx, hb, hc]
  try simp only [md_s, md_w, rget_some, r_a, r_b, r_c, r_i, r_l, r_nx, r_pc, Nat.reduceEqDiff, false_and, if_false, hx, hb, hc]
  refine X_cS (args := [.int x, .int 0, .int (nI (k_np K) - 1)]) rfl (by decide) rfl rfl (Nat.le_of_ble_eq_true rfl) c_isFrom ?_
  rintro _ _ ⟨rfl, rfl⟩
  rw [if_b2i]
  refine X_run rfl trivial ?_
  exact X_zret rfl rfl (b2i_01 _) ⟨rfl, rfl⟩
theorem c_isMoney {x : Int32} (hX : DkL S X) (hR : RepC D (X + 11) K) : EvM g (d + 1) mX9_isMoney 0 0 [.ref X, .int x] (md S D) (fun v M1 => M1 = md S D ∧ v = some (.int (b2i (inB x (k_nm K))))) := by
  obtain ⟨hx, -, -, -, hL, -⟩ := hX
  have hb := hL.1
  have hc := hR.1
  refine EvM.mk (by decide) (Nat.le_of_ble_eq_true rfl) ?_
  refine X_run rfl ?_ ?_
  · simp [md_s, md_w, rget, r_a, r_b, r_c, r_i, r_l, hx, hb, hc]
  try simp only [md_s, md_w, rget_some, r_a, r_b, r_c, r_i, r_l, r_nx, r_pc, Nat.reduceEqDiff, false_and, if_false, hx, hb, hc]
  refine X_cS (args := [.int x, .int 0, .int (nI (k_nm K) - 1)]) rfl (by decide) rfl rfl (Nat.le_of_ble_eq_true rfl) c_isFrom ?_
  rintro _ _ ⟨rfl, rfl⟩
  rw [if_b2i]
  refine X_run rfl trivial ?_
  exact X_zret rfl rfl (b2i_01 _) ⟨rfl, rfl⟩
theorem c_isPayment {x : Int32} (hX : DkL S X) (hR : RepC D (X + 11) K) : EvM g (d + 1) mX9_isPayment 0 0 [.ref X, .int x] (md S D) (fun v M1 => M1 = md S D ∧ v = some (.int (b2i (inB x (k_ny K))))) := by
  obtain ⟨hx, -, -, -, hL, -⟩ := hX
  have hb := hL.1
  have hc := hR.1
  refine EvM.mk (by decide) (Nat.le_of_ble_eq_true rfl) ?_
  refine X_run rfl ?_ ?_
  · simp [md_s, md_w, rget, r_a, r_b, r_c, r_i, r_l, hx, hb, hc]
  try simp only [md_s, md_w, rget_some, r_a, r_b, r_c, r_i, r_l, r_nx, r_pc, Nat.reduceEqDiff, false_and, if_false, hx, hb, hc]
  refine X_cS (args := [.int x, .int 0, .int (nI (k_ny K) - 1)]) rfl (by decide) rfl rfl (Nat.le_of_ble_eq_true rfl) c_isFrom ?_
  rintro _ _ ⟨rfl, rfl⟩
  rw [if_b2i]
  refine X_run rfl trivial ?_
  exact X_zret rfl rfl (b2i_01 _) ⟨rfl, rfl⟩
theorem c_toldM {m w : Nat} (hX : DkL S X) (hW : WfK K) (hR : RepC D (X + 11) K) (hm : m < k_nm K) (hw : w ≤ 3) : EvM g (d + 3) mX9_toldOfMoney 0 0 [.ref X, .int (nI m), .int (nI w)] (md S D) (fun v M1 => M1 = md S D ∧ v = some (.int (toldM K m w))) := by
  obtain ⟨hx, -, -, -, hL, -⟩ := hX
  have hb := hL.1
  have hc := hR.1
  obtain ⟨w1, w2, w3, -⟩ := id hW
  have hm2 : m < 5 := by omega
  have hq := hL.2.2.1 m hm2
  have hv := hR.2.2.1 m hm
  refine EvM.mk (by decide) (Nat.le_of_ble_eq_true rfl) ?_
  refine X_run rfl ?_ ?_
  · simp [md_s, md_w, rget, r_a, r_b, r_c, r_i, r_l, hx, hb]
  try simp only [md_s, md_w, rget_some, r_a, r_b, r_c, r_i, r_l, r_nx, r_pc, Nat.reduceEqDiff, false_and, if_false, hx, hb]
  refine X_cV (args := [.int (nI m)]) rfl (by decide) hb.1 rfl rfl (Nat.le_of_ble_eq_true rfl) (c_moneyAt hL hm2) ?_
  rintro _ _ ⟨rfl, rfl⟩
  refine X_run rfl trivial ?_
  have : w = 0 ∨ w = 1 ∨ w = 2 ∨ w = 3 := by omega
  rcases this with rfl | rfl | rfl | rfl
  · refine X_tsw (t := 36) (k0 := 0) rfl (by decide) (by decide) rfl rfl ?_
    refine X_run rfl ?_ ?_
    · simp [md_s, md_w, rget, r_a, r_b, r_c, r_i, r_l, hq, hv]
    try simp only [md_s, md_w, rget_some, r_a, r_b, r_c, r_i, r_l, r_nx, r_pc, Nat.reduceEqDiff, false_and, if_false, hq, hv]
    exact X_iret rfl rfl ⟨rfl, rfl⟩
  · refine X_tsw (t := 41) (k0 := 1) rfl (by decide) (by decide) rfl rfl ?_
    refine X_run rfl ?_ ?_
    · simp [md_s, md_w, rget, r_a, r_b, r_c, r_i, r_l, hq, hv]
    try simp only [md_s, md_w, rget_some, r_a, r_b, r_c, r_i, r_l, r_nx, r_pc, Nat.reduceEqDiff, false_and, if_false, hq, hv]
    exact X_iret rfl rfl ⟨rfl, rfl⟩
  · refine X_tsw (t := 46) (k0 := 2) rfl (by decide) (by decide) rfl rfl ?_
    refine X_run rfl ?_ ?_
    · simp [md_s, md_w, rget, r_a, r_b, r_c, r_i, r_l, hx, hb, hc, hq, hv]
    try simp only [md_s, md_w, rget_some, r_a, r_b, r_c, r_i, r_l, r_nx, r_pc, Nat.reduceEqDiff, false_and, if_false, hx, hb, hc, hq, hv]
    refine X_icmp_le rfl (fun c1 => ?_) (fun c1 => ?_)
    · refine X_run rfl trivial ?_
      refine X_iret rfl rfl ⟨rfl, ?_⟩
      show _ = some (Value.int (b2i (decide (k_hr K < k_ct K m))))
      rw [decide_eq_false (Int32.not_lt.mpr c1)]
      rfl
    · refine X_run rfl trivial ?_
      refine X_iret rfl rfl ⟨rfl, ?_⟩
      show _ = some (Value.int (b2i (decide (k_hr K < k_ct K m))))
      rw [decide_eq_true (Int32.not_le.mp c1)]
      rfl
  · refine X_tswD (t := 66) rfl (Or.inr (by decide)) rfl ?_
    refine X_run rfl ?_ ?_
    · simp [md_s, md_w, rget, r_a, r_b, r_c, r_i, r_l, hx, hb]
    try simp only [md_s, md_w, rget_some, r_a, r_b, r_c, r_i, r_l, r_nx, r_pc, Nat.reduceEqDiff, false_and, if_false, hx, hb]
    refine X_cV (args := [.int (nI m)]) rfl (by decide) hb.1 rfl rfl (Nat.le_of_ble_eq_true rfl) (c_waitingAmountIn hL hW hR) ?_
    rintro _ _ ⟨rfl, rfl⟩
    refine X_run rfl trivial ?_
    exact X_iret rfl rfl ⟨rfl, rfl⟩
theorem c_toldP {p w : Nat} (hX : DkL S X) (hW : WfK K) (hR : RepC D (X + 11) K) (hp : p < k_np K) (hw : w ≤ 6) : EvM g (d + 4) mX9_toldOfParty 0 0 [.ref X, .int (nI p), .int (nI w)] (md S D) (fun v M1 => M1 = md S D ∧ v = some (.int (toldP K p w))) := by
  obtain ⟨hx, -, -, -, hL, -⟩ := hX
  have hb := hL.1
  have hc := hR.1
  obtain ⟨w1, w2, w3, -⟩ := id hW
  have hp2 : p < 10 := by omega
  obtain ⟨hq, hr1, hr2, hr3⟩ := hL.2.1 p hp2
  obtain ⟨hv, hvb⟩ := hR.2.1 p hp
  refine EvM.mk (by decide) (Nat.le_of_ble_eq_true rfl) ?_
  refine X_run rfl ?_ ?_
  · simp [md_s, md_w, rget, r_a, r_b, r_c, r_i, r_l, hx, hb]
  try simp only [md_s, md_w, rget_some, r_a, r_b, r_c, r_i, r_l, r_nx, r_pc, Nat.reduceEqDiff, false_and, if_false, hx, hb]
  refine X_cV (args := [.int (nI p)]) rfl (by decide) hb.1 rfl rfl (Nat.le_of_ble_eq_true rfl) (c_partyAt hL hp2) ?_
  rintro _ _ ⟨rfl, rfl⟩
  refine X_run rfl trivial ?_
  have : w = 0 ∨ w = 1 ∨ w = 2 ∨ w = 3 ∨ w = 4 ∨ w = 5 ∨ w = 6 := by omega
  rcases this with rfl | rfl | rfl | rfl | rfl | rfl | rfl
  · refine X_tsw (t := 48) (k0 := 0) rfl (by decide) (by decide) rfl rfl ?_
    refine X_run rfl ?_ ?_
    · simp [md_s, md_w, rget, r_a, r_b, r_c, r_i, r_l, hq, hv]
    try simp only [md_s, md_w, rget_some, r_a, r_b, r_c, r_i, r_l, r_nx, r_pc, Nat.reduceEqDiff, false_and, if_false, hq, hv]
    exact X_iret rfl rfl ⟨rfl, rfl⟩
  · refine X_tsw (t := 53) (k0 := 1) rfl (by decide) (by decide) rfl rfl ?_
    refine X_run rfl ?_ ?_
    · simp [md_s, md_w, rget, r_a, r_b, r_c, r_i, r_l, hx, hb]
    try simp only [md_s, md_w, rget_some, r_a, r_b, r_c, r_i, r_l, r_nx, r_pc, Nat.reduceEqDiff, false_and, if_false, hx, hb]
    refine X_cV (args := [.ref (pa (X + 11) p)]) rfl (by decide) hb.1 rfl rfl (Nat.le_of_ble_eq_true rfl) (c_limitOf hL hW hR hp) ?_
    rintro _ _ ⟨rfl, rfl⟩
    refine X_run rfl trivial ?_
    exact X_iret rfl rfl ⟨rfl, rfl⟩
  · refine X_tsw (t := 63) (k0 := 2) rfl (by decide) (by decide) rfl rfl ?_
    refine X_run rfl ?_ ?_
    · simp [md_s, md_w, rget, r_a, r_b, r_c, r_i, r_l, hx, hb, hq]
    try simp only [md_s, md_w, rget_some, r_a, r_b, r_c, r_i, r_l, r_nx, r_pc, Nat.reduceEqDiff, false_and, if_false, hx, hb, hq]
    refine X_cV (args := [.ref (pa (X + 11) p + 1)]) rfl (by decide) hb.1 rfl rfl (Nat.le_of_ble_eq_true rfl) (c_exposureOf (f := k_ba K p) hL hW hR hr1 (fun m hm => (hvb m (by omega)).1)) ?_
    rintro _ _ ⟨rfl, rfl⟩
    refine X_run rfl trivial ?_
    exact X_iret rfl rfl ⟨rfl, rfl⟩
  · refine X_tsw (t := 76) (k0 := 3) rfl (by decide) (by decide) rfl rfl ?_
    refine X_run rfl ?_ ?_
    · simp [md_s, md_w, rget, r_a, r_b, r_c, r_i, r_l, hx, hb]
    try simp only [md_s, md_w, rget_some, r_a, r_b, r_c, r_i, r_l, r_nx, r_pc, Nat.reduceEqDiff, false_and, if_false, hx, hb]
    refine X_cV (args := [.ref (pa (X + 11) p)]) rfl (by decide) hb.1 rfl rfl (Nat.le_of_ble_eq_true rfl) (c_roomOf hL hW hR hp) ?_
    rintro _ _ ⟨rfl, rfl⟩
    refine X_run rfl trivial ?_
    exact X_iret rfl rfl ⟨rfl, rfl⟩
  · refine X_tsw (t := 86) (k0 := 4) rfl (by decide) (by decide) rfl rfl ?_
    refine X_run rfl ?_ ?_
    · simp [md_s, md_w, rget, r_a, r_b, r_c, r_i, r_l, hq, hv]
    try simp only [md_s, md_w, rget_some, r_a, r_b, r_c, r_i, r_l, r_nx, r_pc, Nat.reduceEqDiff, false_and, if_false, hq, hv]
    refine X_if_eq rfl (fun c1 => ?_) (fun c1 => ?_)
    · refine X_run rfl trivial ?_
      refine X_iret rfl rfl ⟨rfl, ?_⟩
      show _ = some (Value.int (b2i (k_df K p)))
      rw [b2i_zero.mp c1]
      rfl
    · refine X_run rfl trivial ?_
      refine X_iret rfl rfl ⟨rfl, ?_⟩
      show _ = some (Value.int (b2i (k_df K p)))
      rw [b2i_nz c1]
      rfl
  · refine X_tsw (t := 99) (k0 := 5) rfl (by decide) (by decide) rfl rfl ?_
    refine X_run rfl ?_ ?_
    · simp [md_s, md_w, rget, r_a, r_b, r_c, r_i, r_l, hx, hb]
    try simp only [md_s, md_w, rget_some, r_a, r_b, r_c, r_i, r_l, r_nx, r_pc, Nat.reduceEqDiff, false_and, if_false, hx, hb]
    refine X_cV (args := [.int (nI p)]) rfl (by decide) hb.1 rfl rfl (Nat.le_of_ble_eq_true rfl) (c_countWaitingOf hL hW hR) ?_
    rintro _ _ ⟨rfl, rfl⟩
    refine X_run rfl trivial ?_
    exact X_iret rfl rfl ⟨rfl, rfl⟩
  · refine X_tswD (t := 108) rfl (Or.inr (by decide)) rfl ?_
    refine X_run rfl ?_ ?_
    · simp [md_s, md_w, rget, r_a, r_b, r_c, r_i, r_l, hx, hb]
    try simp only [md_s, md_w, rget_some, r_a, r_b, r_c, r_i, r_l, r_nx, r_pc, Nat.reduceEqDiff, false_and, if_false, hx, hb]
    refine X_cV (args := [.int (nI p)]) rfl (by decide) hb.1 rfl rfl (Nat.le_of_ble_eq_true rfl) (c_countWaitingTo hL hW hR) ?_
    rintro _ _ ⟨rfl, rfl⟩
    refine X_run rfl trivial ?_
    exact X_iret rfl rfl ⟨rfl, rfl⟩
theorem c_counted {w : Nat} (hX : DkL S X) (hW : WfK K) (hR : RepC D (X + 11) K) (hw : w ≤ 11) : EvM g (d + 2) mX9_counted 0 0 [.ref X, .int (nI w)] (md S D) (fun v M1 => M1 = md S D ∧ v = some (.int (cnts K (d_fi D 33 (X + 3)) (d_fi D 33 (X + 8)) w))) := by
  obtain ⟨hx, ht, hpp, -, hL, -⟩ := hX
  have hb := hL.1
  have hc := hR.1
  have ht1 := ht.1
  have hp1 := hpp.1
  refine EvM.mk (by decide) (Nat.le_of_ble_eq_true rfl) ?_
  refine X_run rfl trivial ?_
  have : w = 0 ∨ w = 1 ∨ w = 2 ∨ w = 3 ∨ w = 4 ∨ w = 5 ∨ w = 6 ∨ w = 7 ∨ w = 8 ∨ w = 9 ∨ w = 10 ∨ w = 11 := by omega
  rcases this with rfl | rfl | rfl | rfl | rfl | rfl | rfl | rfl | rfl | rfl | rfl | rfl
  · refine X_tsw (t := 60) (k0 := 0) rfl (by decide) (by decide) rfl rfl ?_
    refine X_run rfl ?_ ?_
    · simp [md_s, md_w, rget, r_a, r_b, r_c, r_i, r_l, hx, hb, hc]
    try simp only [md_s, md_w, rget_some, r_a, r_b, r_c, r_i, r_l, r_nx, r_pc, Nat.reduceEqDiff, false_and, if_false, hx, hb, hc]
    exact X_iret rfl rfl ⟨rfl, rfl⟩
  · refine X_tsw (t := 68) (k0 := 1) rfl (by decide) (by decide) rfl rfl ?_
    refine X_run rfl ?_ ?_
    · simp [md_s, md_w, rget, r_a, r_b, r_c, r_i, r_l, hx, hb, hc]
    try simp only [md_s, md_w, rget_some, r_a, r_b, r_c, r_i, r_l, r_nx, r_pc, Nat.reduceEqDiff, false_and, if_false, hx, hb, hc]
    exact X_iret rfl rfl ⟨rfl, rfl⟩
  · refine X_tsw (t := 76) (k0 := 2) rfl (by decide) (by decide) rfl rfl ?_
    refine X_run rfl ?_ ?_
    · simp [md_s, md_w, rget, r_a, r_b, r_c, r_i, r_l, hx, hb, hc]
    try simp only [md_s, md_w, rget_some, r_a, r_b, r_c, r_i, r_l, r_nx, r_pc, Nat.reduceEqDiff, false_and, if_false, hx, hb, hc]
    exact X_iret rfl rfl ⟨rfl, rfl⟩
  · refine X_tsw (t := 84) (k0 := 3) rfl (by decide) (by decide) rfl rfl ?_
    refine X_run rfl ?_ ?_
    · simp [md_s, md_w, rget, r_a, r_b, r_c, r_i, r_l, hx, hb]
    try simp only [md_s, md_w, rget_some, r_a, r_b, r_c, r_i, r_l, r_nx, r_pc, Nat.reduceEqDiff, false_and, if_false, hx, hb]
    refine X_cV (args := [.int 0]) rfl (by decide) hb.1 rfl rfl (Nat.le_of_ble_eq_true rfl) (c_countInState hL hW hR) ?_
    rintro _ _ ⟨rfl, rfl⟩
    refine X_run rfl trivial ?_
    exact X_iret rfl rfl ⟨rfl, rfl⟩
  · refine X_tsw (t := 93) (k0 := 4) rfl (by decide) (by decide) rfl rfl ?_
    refine X_run rfl ?_ ?_
    · simp [md_s, md_w, rget, r_a, r_b, r_c, r_i, r_l, hx, hb]
    try simp only [md_s, md_w, rget_some, r_a, r_b, r_c, r_i, r_l, r_nx, r_pc, Nat.reduceEqDiff, false_and, if_false, hx, hb]
    refine X_cV (args := [.int 1]) rfl (by decide) hb.1 rfl rfl (Nat.le_of_ble_eq_true rfl) (c_countInState hL hW hR) ?_
    rintro _ _ ⟨rfl, rfl⟩
    refine X_run rfl trivial ?_
    exact X_iret rfl rfl ⟨rfl, rfl⟩
  · refine X_tsw (t := 102) (k0 := 5) rfl (by decide) (by decide) rfl rfl ?_
    refine X_run rfl ?_ ?_
    · simp [md_s, md_w, rget, r_a, r_b, r_c, r_i, r_l, hx, hb]
    try simp only [md_s, md_w, rget_some, r_a, r_b, r_c, r_i, r_l, r_nx, r_pc, Nat.reduceEqDiff, false_and, if_false, hx, hb]
    refine X_cV (args := [.int 2]) rfl (by decide) hb.1 rfl rfl (Nat.le_of_ble_eq_true rfl) (c_countInState hL hW hR) ?_
    rintro _ _ ⟨rfl, rfl⟩
    refine X_run rfl trivial ?_
    exact X_iret rfl rfl ⟨rfl, rfl⟩
  · refine X_tsw (t := 111) (k0 := 6) rfl (by decide) (by decide) rfl rfl ?_
    refine X_run rfl ?_ ?_
    · simp [md_s, md_w, rget, r_a, r_b, r_c, r_i, r_l, hx, hb]
    try simp only [md_s, md_w, rget_some, r_a, r_b, r_c, r_i, r_l, r_nx, r_pc, Nat.reduceEqDiff, false_and, if_false, hx, hb]
    refine X_cV (args := [.int 3]) rfl (by decide) hb.1 rfl rfl (Nat.le_of_ble_eq_true rfl) (c_countInState hL hW hR) ?_
    rintro _ _ ⟨rfl, rfl⟩
    refine X_run rfl trivial ?_
    exact X_iret rfl rfl ⟨rfl, rfl⟩
  · refine X_tsw (t := 120) (k0 := 7) rfl (by decide) (by decide) rfl rfl ?_
    refine X_run rfl ?_ ?_
    · simp [md_s, md_w, rget, r_a, r_b, r_c, r_i, r_l, hx, hb, hc]
    try simp only [md_s, md_w, rget_some, r_a, r_b, r_c, r_i, r_l, r_nx, r_pc, Nat.reduceEqDiff, false_and, if_false, hx, hb, hc]
    exact X_iret rfl rfl ⟨rfl, rfl⟩
  · refine X_tsw (t := 128) (k0 := 8) rfl (by decide) (by decide) rfl rfl ?_
    refine X_run rfl ?_ ?_
    · simp [md_s, md_w, rget, r_a, r_b, r_c, r_i, r_l, hx, hb, hc]
    try simp only [md_s, md_w, rget_some, r_a, r_b, r_c, r_i, r_l, r_nx, r_pc, Nat.reduceEqDiff, false_and, if_false, hx, hb, hc]
    exact X_iret rfl rfl ⟨rfl, rfl⟩
  · refine X_tsw (t := 136) (k0 := 9) rfl (by decide) (by decide) rfl rfl ?_
    refine X_run rfl ?_ ?_
    · simp [md_s, md_w, rget, r_a, r_b, r_c, r_i, r_l, hx, hb]
    try simp only [md_s, md_w, rget_some, r_a, r_b, r_c, r_i, r_l, r_nx, r_pc, Nat.reduceEqDiff, false_and, if_false, hx, hb]
    refine X_cV (args := []) rfl (by decide) hb.1 rfl rfl (Nat.le_of_ble_eq_true rfl) (c_countInDefault hL hW hR) ?_
    rintro _ _ ⟨rfl, rfl⟩
    refine X_run rfl trivial ?_
    exact X_iret rfl rfl ⟨rfl, rfl⟩
  · refine X_tsw (t := 144) (k0 := 10) rfl (by decide) (by decide) rfl rfl ?_
    refine X_run rfl ?_ ?_
    · simp [md_s, md_w, rget, r_a, r_b, r_c, r_i, r_l, hx, ht1]
    try simp only [md_s, md_w, rget_some, r_a, r_b, r_c, r_i, r_l, r_nx, r_pc, Nat.reduceEqDiff, false_and, if_false, hx, ht1]
    exact X_iret rfl rfl ⟨rfl, rfl⟩
  · refine X_tswD (t := 152) rfl (Or.inr (by decide)) rfl ?_
    refine X_run rfl ?_ ?_
    · simp [md_s, md_w, rget, r_a, r_b, r_c, r_i, r_l, hx, hp1]
    try simp only [md_s, md_w, rget_some, r_a, r_b, r_c, r_i, r_l, r_nx, r_pc, Nat.reduceEqDiff, false_and, if_false, hx, hp1]
    exact X_iret rfl rfl ⟨rfl, rfl⟩
end DESKA
