section BOOKM
variable {g : GG} {d : Nat} {S : ShT} {D : DaT} {B : Nat} {K : KT}
theorem c_partyAt {p : Nat} (hL : BkL S B) (hp : p < 10) : EvM g d mX0_partyAt 0 0 [.ref B, .int (nI p)] (md S D) (fun v M1 => M1 = md S D ∧ v = some (.ref (pa B p))) := by
  obtain ⟨hb, hq, -, -⟩ := hL
  obtain ⟨⟨q1, q2, -⟩, -⟩ := hq p hp
  have hi2 : p < 2 ^ 31 := by omega
  refine EvM.mk (by decide) (Nat.le_of_ble_eq_true rfl) ?_
  refine X_run rfl ?_ ?_
  · simp [md_s, md_w, rget, r_a, r_b, r_c, r_i, r_l, hb]
  try simp only [md_s, md_w, rget_some, r_a, r_b, r_c, r_i, r_l, r_nx, r_pc, hb]
  refine X_if_lt rfl (fun c0 => no_neg c0 hi2) (fun c0 => ?_)
  refine X_run rfl ?_ ?_
  · simp [md_s, md_w, rget, r_a, r_b, r_c, r_i, r_l, hb]
  try simp only [md_s, md_w, rget_some, r_a, r_b, r_c, r_i, r_l, r_nx, r_pc, hb]
  refine X_icmp_ge rfl (fun c1 => no_le c1 hp (by decide)) (fun c1 => ?_)
  refine X_run rfl ?_ ?_
  · simp [md_s, md_w, rget, r_a, r_b, r_c, r_i, r_l, hb, nI_clamp hi2, vp_in_nI hp (by decide), q1]
  try simp only [md_s, md_w, rget_some, r_a, r_b, r_c, r_i, r_l, r_nx, r_pc, hb, nI_clamp hi2, vp_in_nI hp (by decide), q1]
  exact X_aret rfl rfl (Or.inr ⟨_, rfl⟩) ⟨rfl, rfl⟩
theorem c_moneyAt {p : Nat} (hL : BkL S B) (hp : p < 5) : EvM g d mX0_moneyAt 0 0 [.ref B, .int (nI p)] (md S D) (fun v M1 => M1 = md S D ∧ v = some (.ref (ma B p))) := by
  obtain ⟨hb, -, hq, -⟩ := hL
  obtain ⟨q1, q2⟩ := hq p hp
  have hi2 : p < 2 ^ 31 := by omega
  refine EvM.mk (by decide) (Nat.le_of_ble_eq_true rfl) ?_
  refine X_run rfl ?_ ?_
  · simp [md_s, md_w, rget, r_a, r_b, r_c, r_i, r_l, hb]
  try simp only [md_s, md_w, rget_some, r_a, r_b, r_c, r_i, r_l, r_nx, r_pc, hb]
  refine X_if_lt rfl (fun c0 => no_neg c0 hi2) (fun c0 => ?_)
  refine X_run rfl ?_ ?_
  · simp [md_s, md_w, rget, r_a, r_b, r_c, r_i, r_l, hb]
  try simp only [md_s, md_w, rget_some, r_a, r_b, r_c, r_i, r_l, r_nx, r_pc, hb]
  refine X_icmp_ge rfl (fun c1 => no_le c1 hp (by decide)) (fun c1 => ?_)
  refine X_run rfl ?_ ?_
  · simp [md_s, md_w, rget, r_a, r_b, r_c, r_i, r_l, hb, nI_clamp hi2, vp_in_nI hp (by decide), q1]
  try simp only [md_s, md_w, rget_some, r_a, r_b, r_c, r_i, r_l, r_nx, r_pc, hb, nI_clamp hi2, vp_in_nI hp (by decide), q1]
  exact X_aret rfl rfl (Or.inr ⟨_, rfl⟩) ⟨rfl, rfl⟩
theorem c_paymentAt {p : Nat} (hL : BkL S B) (hp : p < 60) : EvM g d mX0_paymentAt 0 0 [.ref B, .int (nI p)] (md S D) (fun v M1 => M1 = md S D ∧ v = some (.ref (ya B p))) := by
  obtain ⟨hb, -, -, hq⟩ := hL
  obtain ⟨q1, q2⟩ := hq p hp
  have hi2 : p < 2 ^ 31 := by omega
  refine EvM.mk (by decide) (Nat.le_of_ble_eq_true rfl) ?_
  refine X_run rfl ?_ ?_
  · simp [md_s, md_w, rget, r_a, r_b, r_c, r_i, r_l, hb]
  try simp only [md_s, md_w, rget_some, r_a, r_b, r_c, r_i, r_l, r_nx, r_pc, hb]
  refine X_if_lt rfl (fun c0 => no_neg c0 hi2) (fun c0 => ?_)
  refine X_run rfl ?_ ?_
  · simp [md_s, md_w, rget, r_a, r_b, r_c, r_i, r_l, hb]
  try simp only [md_s, md_w, rget_some, r_a, r_b, r_c, r_i, r_l, r_nx, r_pc, hb]
  refine X_icmp_ge rfl (fun c1 => no_le c1 hp (by decide)) (fun c1 => ?_)
  refine X_run rfl ?_ ?_
  · simp [md_s, md_w, rget, r_a, r_b, r_c, r_i, r_l, hb, nI_clamp hi2, vp_in_nI hp (by decide), q1]
  try simp only [md_s, md_w, rget_some, r_a, r_b, r_c, r_i, r_l, r_nx, r_pc, hb, nI_clamp hi2, vp_in_nI hp (by decide), q1]
  exact X_aret rfl rfl (Or.inr ⟨_, rfl⟩) ⟨rfl, rfl⟩
theorem c_countInState {x : Int32} (hL : BkL S B) (hW : WfK K) (hR : RepC D B K) : EvM g (d + 1) mX0_countInState 0 0 [.ref B, .int x] (md S D) (fun v M1 => M1 = md S D ∧ v = some (.int (iter (fun i acc => if k_st K i = x then acc + 1 else acc) (k_ny K) 0))) := by
  have hb := hL.1
  obtain ⟨w1, w2, w3, -⟩ := hW
  have hc := hR.1
  refine EvM.mk (by decide) (Nat.le_of_ble_eq_true rfl) ?_
  refine X_run rfl trivial ?_
  refine Eg_iter (fun i (a : Int32) => Eg g (d + 1) mX0_countInState 0 0 (Zr g _) 4 [(0, .ref B), (1, .int x), (2, .int a), (3, .int (nI i))] [] (md S D)) (fun i acc => if k_st K i = x then acc + 1 else acc) (k_ny K) 0 (fun i hi k => ?_) ?_
  · have hi2 : i < 60 := by omega
    have hy := hL.2.2.2 i hi2
    have hv := hR.2.2.2 i hi
    refine X_run rfl ?_ ?_
    · simp [md_s, md_w, rget, r_a, r_b, r_c, r_i, r_l, hb, hc]
    try simp only [md_s, md_w, rget_some, r_a, r_b, r_c, r_i, r_l, r_nx, r_pc, hb, hc]
    refine X_icmp_ge rfl (fun c1 => no_le c1 hi (by omega)) (fun c1 => ?_)
    refine X_run rfl ?_ ?_
    · simp [md_s, md_w, rget, r_a, r_b, r_c, r_i, r_l, hb]
    try simp only [md_s, md_w, rget_some, r_a, r_b, r_c, r_i, r_l, r_nx, r_pc, hb]
    refine X_cV rfl (by decide) hb.1 rfl rfl (Nat.le_of_ble_eq_true rfl) (c_paymentAt hL hi2) ?_
    rintro _ _ ⟨rfl, rfl⟩
    refine X_run rfl ?_ ?_
    · simp [md_s, md_w, rget, r_a, r_b, r_c, r_i, r_l, hy, hv]
    try simp only [md_s, md_w, rget_some, r_a, r_b, r_c, r_i, r_l, r_nx, r_pc, hy, hv]
    refine X_icmp_ne rfl (fun c2 => ?_) (fun c2 => ?_)
    · refine X_run rfl ?_ ?_
      · simp [md_s, md_w, rget, r_a, r_b, r_c, r_i, r_l, nI_s1]
      try simp only [md_s, md_w, rget_some, r_a, r_b, r_c, r_i, r_l, r_nx, r_pc, nI_s1]
      rw [if_neg c2] at k
      exact k
    · refine X_run rfl ?_ ?_
      · simp [md_s, md_w, rget, r_a, r_b, r_c, r_i, r_l, nI_s1]
      try simp only [md_s, md_w, rget_some, r_a, r_b, r_c, r_i, r_l, r_nx, r_pc, nI_s1]
      rw [if_pos c2] at k
      exact k
  · refine X_run rfl ?_ ?_
    · simp [md_s, md_w, rget, r_a, r_b, r_c, r_i, r_l, hb, hc]
    try simp only [md_s, md_w, rget_some, r_a, r_b, r_c, r_i, r_l, r_nx, r_pc, hb, hc]
    refine X_icmp_ge rfl (fun c1 => ?_) (fun c1 => no_nle c1 (Nat.le_refl _) (by omega))
    refine X_run rfl ?_ ?_
    · simp [md_s, md_w, rget, r_a, r_b, r_c, r_i, r_l, hb]
    try simp only [md_s, md_w, rget_some, r_a, r_b, r_c, r_i, r_l, r_nx, r_pc, hb]
    exact X_iret rfl rfl ⟨rfl, rfl⟩
theorem c_countInDefault (hL : BkL S B) (hW : WfK K) (hR : RepC D B K) : EvM g (d + 1) mX0_countInDefault 0 0 [.ref B] (md S D) (fun v M1 => M1 = md S D ∧ v = some (.int (iter (fun i acc => if k_df K i = true then acc + 1 else acc) (k_np K) 0))) := by
  have hb := hL.1
  obtain ⟨w1, w2, w3, -⟩ := hW
  have hc := hR.1
  refine EvM.mk (by decide) (Nat.le_of_ble_eq_true rfl) ?_
  refine X_run rfl trivial ?_
  refine Eg_iter (fun i (a : Int32) => Eg g (d + 1) mX0_countInDefault 0 0 (Zr g _) 4 [(0, .ref B), (1, .int a), (2, .int (nI i))] [] (md S D)) (fun i acc => if k_df K i = true then acc + 1 else acc) (k_np K) 0 (fun i hi k => ?_) ?_
  · have hi2 : i < 10 := by omega
    have hy := (hL.2.1 i hi2).1
    have hv := (hR.2.1 i hi).1
    refine X_run rfl ?_ ?_
    · simp [md_s, md_w, rget, r_a, r_b, r_c, r_i, r_l, hb, hc]
    try simp only [md_s, md_w, rget_some, r_a, r_b, r_c, r_i, r_l, r_nx, r_pc, hb, hc]
    refine X_icmp_ge rfl (fun c1 => no_le c1 hi (by omega)) (fun c1 => ?_)
    refine X_run rfl ?_ ?_
    · simp [md_s, md_w, rget, r_a, r_b, r_c, r_i, r_l, hb]
    try simp only [md_s, md_w, rget_some, r_a, r_b, r_c, r_i, r_l, r_nx, r_pc, hb]
    refine X_cV rfl (by decide) hb.1 rfl rfl (Nat.le_of_ble_eq_true rfl) (c_partyAt hL hi2) ?_
    rintro _ _ ⟨rfl, rfl⟩
    refine X_run rfl ?_ ?_
    · simp [md_s, md_w, rget, r_a, r_b, r_c, r_i, r_l, hy, hv]
    try simp only [md_s, md_w, rget_some, r_a, r_b, r_c, r_i, r_l, r_nx, r_pc, hy, hv]
    refine X_if_eq rfl (fun c2 => ?_) (fun c2 => ?_)
    · refine X_run rfl ?_ ?_
      · simp [md_s, md_w, rget, r_a, r_b, r_c, r_i, r_l, nI_s1]
      try simp only [md_s, md_w, rget_some, r_a, r_b, r_c, r_i, r_l, r_nx, r_pc, nI_s1]
      rw [if_neg (by rw [b2i_zero.mp c2]; decide)] at k
      exact k
    · refine X_run rfl ?_ ?_
      · simp [md_s, md_w, rget, r_a, r_b, r_c, r_i, r_l, nI_s1]
      try simp only [md_s, md_w, rget_some, r_a, r_b, r_c, r_i, r_l, r_nx, r_pc, nI_s1]
      rw [if_pos (by cases hz : k_df K i with | true => rfl | false => exact absurd (b2i_zero.mpr hz) c2)] at k
      exact k
  · refine X_run rfl ?_ ?_
    · simp [md_s, md_w, rget, r_a, r_b, r_c, r_i, r_l, hb, hc]
    try simp only [md_s, md_w, rget_some, r_a, r_b, r_c, r_i, r_l, r_nx, r_pc, hb, hc]
    refine X_icmp_ge rfl (fun c1 => ?_) (fun c1 => no_nle c1 (Nat.le_refl _) (by omega))
    refine X_run rfl ?_ ?_
    · simp [md_s, md_w, rget, r_a, r_b, r_c, r_i, r_l, hb]
    try simp only [md_s, md_w, rget_some, r_a, r_b, r_c, r_i, r_l, r_nx, r_pc, hb]
    exact X_iret rfl rfl ⟨rfl, rfl⟩
/-- whether a number is one of n, told of it as an index -/
theorem ix_of {x : Int32} {n : Nat} (hn : n < 2 ^ 31) : (0 ≤ x ∧ x ≤ nI n - 1) ↔ ∃ j, j < n ∧ x = nI j := by
  constructor
  · rintro ⟨h1, h2⟩
    obtain ⟨j, hj, rfl⟩ := nI_of (Int32.not_lt.mpr h1)
    refine ⟨j, ?_, rfl⟩
    rw [Int32.le_iff_toInt_le, nI_toInt hj] at h2
    cases n with
    | zero =>
      rw [show (nI 0 - 1 : Int32) = -1 from rfl] at h2
      have : ((-1 : Int32)).toInt = -1 := rfl
      omega
    | succ n =>
      rw [nI_pred, nI_toInt (by omega)] at h2
      omega
  · rintro ⟨j, hj, rfl⟩
    refine ⟨nI_pos' (by omega), ?_⟩
    cases n with
    | zero => omega
    | succ n =>
      rw [nI_pred, nI_leI (by omega) (by omega)]
      omega
theorem c_isWaiting {n : Nat} (hL : BkL S B) (hW : WfK K) (hR : RepC D B K) (hn : n < k_ny K) : EvM g (d + 1) mX0_isWaiting 0 0 [.ref B, .int (nI n)] (md S D) (fun v M1 => M1 = md S D ∧ v = some (.int (if k_st K n = 0 then 1 else 0))) := by
  have hb := hL.1
  obtain ⟨w1, w2, w3, -⟩ := hW
  have hc := hR.1
  have hi2 : n < 60 := by omega
  have hy := hL.2.2.2 n hi2
  have hv := hR.2.2.2 n hn
  have hin : 0 ≤ nI n ∧ nI n ≤ nI (k_ny K) - 1 := (ix_of (by omega)).mpr ⟨n, hn, rfl⟩
  refine EvM.mk (by decide) (Nat.le_of_ble_eq_true rfl) ?_
  refine X_run rfl ?_ ?_
  · simp [md_s, md_w, rget, r_a, r_b, r_c, r_i, r_l, hb, hc]
  try simp only [md_s, md_w, rget_some, r_a, r_b, r_c, r_i, r_l, r_nx, r_pc, hb, hc]
  refine X_cS (args := [.int (nI n), .int 0, .int (nI (k_ny K) - 1)]) rfl (by decide) rfl rfl (Nat.le_of_ble_eq_true rfl) c_isFrom ?_
  rintro _ _ ⟨rfl, rfl⟩
  rw [if_pos hin]
  refine X_if_eq rfl (fun c2 => absurd c2 (by decide)) (fun c2 => ?_)
  refine X_run rfl ?_ ?_
  · simp [md_s, md_w, rget, r_a, r_b, r_c, r_i, r_l, hb]
  try simp only [md_s, md_w, rget_some, r_a, r_b, r_c, r_i, r_l, r_nx, r_pc, hb]
  refine X_cV rfl (by decide) hb.1 rfl rfl (Nat.le_of_ble_eq_true rfl) (c_paymentAt hL hi2) ?_
  rintro _ _ ⟨rfl, rfl⟩
  refine X_run rfl ?_ ?_
  · simp [md_s, md_w, rget, r_a, r_b, r_c, r_i, r_l, hy, hv]
  try simp only [md_s, md_w, rget_some, r_a, r_b, r_c, r_i, r_l, r_nx, r_pc, hy, hv]
  refine X_if_ne rfl (fun c2 => ?_) (fun c2 => ?_)
  · refine X_run rfl trivial ?_
    rw [if_neg c2]
    exact X_zret rfl rfl (Or.inl rfl) ⟨rfl, rfl⟩
  · refine X_run rfl trivial ?_
    rw [if_pos c2]
    exact X_zret rfl rfl (Or.inr rfl) ⟨rfl, rfl⟩
theorem c_isWaiting_no {x : Int32} (hL : BkL S B) (hW : WfK K) (hR : RepC D B K) (hn : ¬ ∃ n, n < k_ny K ∧ x = nI n) : EvM g (d + 1) mX0_isWaiting 0 0 [.ref B, .int x] (md S D) (fun v M1 => M1 = md S D ∧ v = some (.int 0)) := by
  have hb := hL.1
  obtain ⟨w1, w2, w3, -⟩ := hW
  have hc := hR.1
  refine EvM.mk (by decide) (Nat.le_of_ble_eq_true rfl) ?_
  refine X_run rfl ?_ ?_
  · simp [md_s, md_w, rget, r_a, r_b, r_c, r_i, r_l, hb, hc]
  try simp only [md_s, md_w, rget_some, r_a, r_b, r_c, r_i, r_l, r_nx, r_pc, hb, hc]
  refine X_cS (args := [.int x, .int 0, .int (nI (k_ny K) - 1)]) rfl (by decide) rfl rfl (Nat.le_of_ble_eq_true rfl) c_isFrom ?_
  rintro _ _ ⟨rfl, rfl⟩
  rw [if_neg (fun z => hn ((ix_of (by omega)).mp z))]
  refine X_if_eq rfl (fun c2 => ?_) (fun c2 => absurd rfl c2)
  refine X_run rfl trivial ?_
  exact X_zret rfl rfl (Or.inl rfl) ⟨rfl, rfl⟩
theorem c_partnerOf {n : Nat} (hL : BkL S B) (hW : WfK K) (hR : RepC D B K) (hn : n < k_ny K) : EvM g (d + 1) mX0_partnerOf 0 0 [.ref B, .ref (ya B n)] (md S D) (fun v M1 => M1 = md S D ∧ v = some (match k_pr K n with | none => .null | some q => .ref (ya B q))) := by
  have hb := hL.1
  have hW' := hW
  obtain ⟨w1, w2, w3, w4⟩ := hW
  have hc := hR.1
  have hi2 : n < 60 := by omega
  have hy := hL.2.2.2 n hi2
  have hv := hR.2.2.2 n hn
  refine EvM.mk (by decide) (Nat.le_of_ble_eq_true rfl) ?_
  refine X_run rfl ?_ ?_
  · simp [md_s, md_w, rget, r_a, r_b, r_c, r_i, r_l, hb, hc, hy, hv]
  try simp only [md_s, md_w, rget_some, r_a, r_b, r_c, r_i, r_l, r_nx, r_pc, hb, hc, hy, hv]
  refine X_cS (args := [.int (pE (k_pr K n)), .int 0, .int (nI (k_ny K) - 1)]) rfl (by decide) rfl rfl (Nat.le_of_ble_eq_true rfl) c_isFrom ?_
  rintro _ _ ⟨rfl, rfl⟩
  cases hp : k_pr K n with
  | none =>
    rw [if_neg (fun z => absurd z.1 (by decide))]
    refine X_if_eq rfl (fun c2 => ?_) (fun c2 => absurd rfl c2)
    refine X_run rfl trivial ?_
    exact X_aret rfl rfl (Or.inl rfl) ⟨rfl, rfl⟩
  | some q =>
    have hq := (w4 n hn).2.2.2 q hp
    rw [if_pos (show 0 ≤ pE (some q) ∧ pE (some q) ≤ nI (k_ny K) - 1 from (ix_of (by omega)).mpr ⟨q, hq, rfl⟩)]
    refine X_if_eq rfl (fun c2 => absurd c2 (by decide)) (fun c2 => ?_)
    refine X_run rfl ?_ ?_
    · simp [md_s, md_w, rget, r_a, r_b, r_c, r_i, r_l, hb, hy, hv, hp, pE]
    try simp only [md_s, md_w, rget_some, r_a, r_b, r_c, r_i, r_l, r_nx, r_pc, hb, hy, hv, hp, pE]
    refine X_cV rfl (by decide) hb.1 rfl rfl (Nat.le_of_ble_eq_true rfl) (c_paymentAt hL (show q < 60 by omega)) ?_
    rintro _ _ ⟨rfl, rfl⟩
    refine X_run rfl trivial ?_
    exact X_aret rfl rfl (Or.inr ⟨_, rfl⟩) ⟨rfl, rfl⟩
end BOOKM
