/-! sums and worths -/
def worth (K : KT) (a : Int32) (m : Nat) : Int64 := a.toInt64 * (k_rt K m).toInt64 / 100
def limit (K : KT) (p : Nat) : Int64 := iter (fun m acc => acc + worth K (k_co K p m) m * 9 / 10) (k_nm K) (k_li K p).toInt64
def expo (K : KT) (f : Nat → Int32) : Int64 := iter (fun m acc => if f m < 0 then acc + (-(f m).toInt64 * (k_rt K m).toInt64 + 99) / 100 else acc) (k_nm K) 0
def room (K : KT) (p : Nat) : Int64 := limit K p - expo K (k_ba K p)
def cntW (K : KT) (f : Nat → Nat) (x : Int32) : Int32 := iter (fun i acc => if k_st K i = 0 ∧ nI (f i) = x then acc + 1 else acc) (k_ny K) 0
def sumW (K : KT) (x : Int32) : Int32 := iter (fun i acc => if k_st K i = 0 ∧ nI (k_mo K i) = x then acc + k_am K i else acc) (k_ny K) 0
section BOOKN
variable {g : GG} {d : Nat} {S : ShT} {D : DaT} {B : Nat} {K : KT}
theorem c_countWaitingOf {x : Int32} (hL : BkL S B) (hW : WfK K) (hR : RepC D B K) : EvM g (d + 2) mX0_countWaitingOf 0 0 [.ref B, .int x] (md S D) (fun v M1 => M1 = md S D ∧ v = some (.int (cntW K (k_fr K) x))) := by
  have hb := hL.1
  have hW' := hW
  obtain ⟨w1, w2, w3, -⟩ := hW
  have hc := hR.1
  refine EvM.mk (by decide) (Nat.le_of_ble_eq_true rfl) ?_
  refine X_run rfl trivial ?_
  refine Eg_iter (fun i (a : Int32) => Eg g (d + 2) mX0_countWaitingOf 0 0 (Zr g _) 4 [(0, .ref B), (1, .int x), (2, .int a), (3, .int (nI i))] [] (md S D)) (fun i acc => if k_st K i = 0 ∧ nI (k_fr K i) = x then acc + 1 else acc) (k_ny K) 0 (fun i hi k => ?_) ?_
  · have hi2 : i < 60 := by omega
    have hy := hL.2.2.2 i hi2
    have hv := hR.2.2.2 i hi
    refine X_run rfl ?_ ?_
    · simp [md_s, md_w, rget, r_a, r_b, r_c, r_i, r_l, hb, hc]
    try simp only [md_s, md_w, rget_some, r_a, r_b, r_c, r_i, r_l, r_nx, r_pc, hb, hc]
    refine X_icmp_ge rfl (fun c1 => no_le c1 hi (by omega)) (fun c1 => ?_)
    refine X_run rfl ?_ ?_
    · simp [md_s, md_w, rget, r_a, r_b, r_c, r_i, r_l, hb]
    try simp only [md_s, md_w, rget_some, r_a, r_b, r_c, r_i, r_l, r_nx, r_pc, hb]
    refine X_cV rfl (by decide) hb.1 rfl rfl (Nat.le_of_ble_eq_true rfl) (c_isWaiting hL hW' hR hi) ?_
    rintro _ _ ⟨rfl, rfl⟩
    by_cases hs : k_st K i = 0
    · rw [if_pos hs]
      refine X_if_eq rfl (fun c2 => absurd c2 (by decide)) (fun c2 => ?_)
      refine X_run rfl ?_ ?_
      · simp [md_s, md_w, rget, r_a, r_b, r_c, r_i, r_l, hb]
      try simp only [md_s, md_w, rget_some, r_a, r_b, r_c, r_i, r_l, r_nx, r_pc, hb]
      refine X_cV rfl (by decide) hb.1 rfl rfl (Nat.le_of_ble_eq_true rfl) (c_paymentAt hL hi2) ?_
      rintro _ _ ⟨rfl, rfl⟩
      refine X_run rfl ?_ ?_
      · simp [md_s, md_w, rget, r_a, r_b, r_c, r_i, r_l, hy, hv]
      try simp only [md_s, md_w, rget_some, r_a, r_b, r_c, r_i, r_l, r_nx, r_pc, hy, hv]
      refine X_icmp_ne rfl (fun c2 => ?_) (fun c2 => ?_)
      · refine X_run rfl ?_ ?_
        · simp [md_s, md_w, rget, r_a, r_b, r_c, r_i, r_l, nI_s1]
        try simp only [md_s, md_w, rget_some, r_a, r_b, r_c, r_i, r_l, r_nx, r_pc, nI_s1]
        rw [if_neg (fun z => c2 z.2)] at k
        exact k
      · refine X_run rfl ?_ ?_
        · simp [md_s, md_w, rget, r_a, r_b, r_c, r_i, r_l, nI_s1]
        try simp only [md_s, md_w, rget_some, r_a, r_b, r_c, r_i, r_l, r_nx, r_pc, nI_s1]
        rw [if_pos ⟨hs, c2⟩] at k
        exact k
    · rw [if_neg hs]
      refine X_if_eq rfl (fun c2 => ?_) (fun c2 => absurd rfl c2)
      refine X_run rfl ?_ ?_
      · simp [md_s, md_w, rget, r_a, r_b, r_c, r_i, r_l, nI_s1]
      try simp only [md_s, md_w, rget_some, r_a, r_b, r_c, r_i, r_l, r_nx, r_pc, nI_s1]
      rw [if_neg (fun z => hs z.1)] at k
      exact k
  · refine X_run rfl ?_ ?_
    · simp [md_s, md_w, rget, r_a, r_b, r_c, r_i, r_l, hb, hc]
    try simp only [md_s, md_w, rget_some, r_a, r_b, r_c, r_i, r_l, r_nx, r_pc, hb, hc]
    refine X_icmp_ge rfl (fun c1 => ?_) (fun c1 => no_nle c1 (Nat.le_refl _) (by omega))
    refine X_run rfl ?_ ?_
    · simp [md_s, md_w, rget, r_a, r_b, r_c, r_i, r_l, hb]
    try simp only [md_s, md_w, rget_some, r_a, r_b, r_c, r_i, r_l, r_nx, r_pc, hb]
    exact X_iret rfl rfl ⟨rfl, rfl⟩
theorem c_countWaitingTo {x : Int32} (hL : BkL S B) (hW : WfK K) (hR : RepC D B K) : EvM g (d + 2) mX0_countWaitingTo 0 0 [.ref B, .int x] (md S D) (fun v M1 => M1 = md S D ∧ v = some (.int (cntW K (k_to K) x))) := by
  have hb := hL.1
  have hW' := hW
  obtain ⟨w1, w2, w3, -⟩ := hW
  have hc := hR.1
  refine EvM.mk (by decide) (Nat.le_of_ble_eq_true rfl) ?_
  refine X_run rfl trivial ?_
  refine Eg_iter (fun i (a : Int32) => Eg g (d + 2) mX0_countWaitingTo 0 0 (Zr g _) 4 [(0, .ref B), (1, .int x), (2, .int a), (3, .int (nI i))] [] (md S D)) (fun i acc => if k_st K i = 0 ∧ nI (k_to K i) = x then acc + 1 else acc) (k_ny K) 0 (fun i hi k => ?_) ?_
  · have hi2 : i < 60 := by omega
    have hy := hL.2.2.2 i hi2
    have hv := hR.2.2.2 i hi
    refine X_run rfl ?_ ?_
    · simp [md_s, md_w, rget, r_a, r_b, r_c, r_i, r_l, hb, hc]
    try simp only [md_s, md_w, rget_some, r_a, r_b, r_c, r_i, r_l, r_nx, r_pc, hb, hc]
    refine X_icmp_ge rfl (fun c1 => no_le c1 hi (by omega)) (fun c1 => ?_)
    refine X_run rfl ?_ ?_
    · simp [md_s, md_w, rget, r_a, r_b, r_c, r_i, r_l, hb]
    try simp only [md_s, md_w, rget_some, r_a, r_b, r_c, r_i, r_l, r_nx, r_pc, hb]
    refine X_cV rfl (by decide) hb.1 rfl rfl (Nat.le_of_ble_eq_true rfl) (c_isWaiting hL hW' hR hi) ?_
    rintro _ _ ⟨rfl, rfl⟩
    by_cases hs : k_st K i = 0
    · rw [if_pos hs]
      refine X_if_eq rfl (fun c2 => absurd c2 (by decide)) (fun c2 => ?_)
      refine X_run rfl ?_ ?_
      · simp [md_s, md_w, rget, r_a, r_b, r_c, r_i, r_l, hb]
      try simp only [md_s, md_w, rget_some, r_a, r_b, r_c, r_i, r_l, r_nx, r_pc, hb]
      refine X_cV rfl (by decide) hb.1 rfl rfl (Nat.le_of_ble_eq_true rfl) (c_paymentAt hL hi2) ?_
      rintro _ _ ⟨rfl, rfl⟩
      refine X_run rfl ?_ ?_
      · simp [md_s, md_w, rget, r_a, r_b, r_c, r_i, r_l, hy, hv]
      try simp only [md_s, md_w, rget_some, r_a, r_b, r_c, r_i, r_l, r_nx, r_pc, hy, hv]
      refine X_icmp_ne rfl (fun c2 => ?_) (fun c2 => ?_)
      · refine X_run rfl ?_ ?_
        · simp [md_s, md_w, rget, r_a, r_b, r_c, r_i, r_l, nI_s1]
        try simp only [md_s, md_w, rget_some, r_a, r_b, r_c, r_i, r_l, r_nx, r_pc, nI_s1]
        rw [if_neg (fun z => c2 z.2)] at k
        exact k
      · refine X_run rfl ?_ ?_
        · simp [md_s, md_w, rget, r_a, r_b, r_c, r_i, r_l, nI_s1]
        try simp only [md_s, md_w, rget_some, r_a, r_b, r_c, r_i, r_l, r_nx, r_pc, nI_s1]
        rw [if_pos ⟨hs, c2⟩] at k
        exact k
    · rw [if_neg hs]
      refine X_if_eq rfl (fun c2 => ?_) (fun c2 => absurd rfl c2)
      refine X_run rfl ?_ ?_
      · simp [md_s, md_w, rget, r_a, r_b, r_c, r_i, r_l, nI_s1]
      try simp only [md_s, md_w, rget_some, r_a, r_b, r_c, r_i, r_l, r_nx, r_pc, nI_s1]
      rw [if_neg (fun z => hs z.1)] at k
      exact k
  · refine X_run rfl ?_ ?_
    · simp [md_s, md_w, rget, r_a, r_b, r_c, r_i, r_l, hb, hc]
    try simp only [md_s, md_w, rget_some, r_a, r_b, r_c, r_i, r_l, r_nx, r_pc, hb, hc]
    refine X_icmp_ge rfl (fun c1 => ?_) (fun c1 => no_nle c1 (Nat.le_refl _) (by omega))
    refine X_run rfl ?_ ?_
    · simp [md_s, md_w, rget, r_a, r_b, r_c, r_i, r_l, hb]
    try simp only [md_s, md_w, rget_some, r_a, r_b, r_c, r_i, r_l, r_nx, r_pc, hb]
    exact X_iret rfl rfl ⟨rfl, rfl⟩
theorem c_waitingAmountIn {x : Int32} (hL : BkL S B) (hW : WfK K) (hR : RepC D B K) : EvM g (d + 2) mX0_waitingAmountIn 0 0 [.ref B, .int x] (md S D) (fun v M1 => M1 = md S D ∧ v = some (.int (sumW K x))) := by
  have hb := hL.1
  have hW' := hW
  obtain ⟨w1, w2, w3, -⟩ := hW
  have hc := hR.1
  refine EvM.mk (by decide) (Nat.le_of_ble_eq_true rfl) ?_
  refine X_run rfl trivial ?_
  refine Eg_iter (fun i (a : Int32) => Eg g (d + 2) mX0_waitingAmountIn 0 0 (Zr g _) 4 [(0, .ref B), (1, .int x), (2, .int a), (3, .int (nI i))] [] (md S D)) (fun i acc => if k_st K i = 0 ∧ nI (k_mo K i) = x then acc + k_am K i else acc) (k_ny K) 0 (fun i hi k => ?_) ?_
  · have hi2 : i < 60 := by omega
    have hy := hL.2.2.2 i hi2
    have hv := hR.2.2.2 i hi
    refine X_run rfl ?_ ?_
    · simp [md_s, md_w, rget, r_a, r_b, r_c, r_i, r_l, hb, hc]
    try simp only [md_s, md_w, rget_some, r_a, r_b, r_c, r_i, r_l, r_nx, r_pc, hb, hc]
    refine X_icmp_ge rfl (fun c1 => no_le c1 hi (by omega)) (fun c1 => ?_)
    refine X_run rfl ?_ ?_
    · simp [md_s, md_w, rget, r_a, r_b, r_c, r_i, r_l, hb]
    try simp only [md_s, md_w, rget_some, r_a, r_b, r_c, r_i, r_l, r_nx, r_pc, hb]
    refine X_cV rfl (by decide) hb.1 rfl rfl (Nat.le_of_ble_eq_true rfl) (c_isWaiting hL hW' hR hi) ?_
    rintro _ _ ⟨rfl, rfl⟩
    by_cases hs : k_st K i = 0
    · rw [if_pos hs]
      refine X_if_eq rfl (fun c2 => absurd c2 (by decide)) (fun c2 => ?_)
      refine X_run rfl ?_ ?_
      · simp [md_s, md_w, rget, r_a, r_b, r_c, r_i, r_l, hb]
      try simp only [md_s, md_w, rget_some, r_a, r_b, r_c, r_i, r_l, r_nx, r_pc, hb]
      refine X_cV rfl (by decide) hb.1 rfl rfl (Nat.le_of_ble_eq_true rfl) (c_paymentAt hL hi2) ?_
      rintro _ _ ⟨rfl, rfl⟩
      refine X_run rfl ?_ ?_
      · simp [md_s, md_w, rget, r_a, r_b, r_c, r_i, r_l, hy, hv]
      try simp only [md_s, md_w, rget_some, r_a, r_b, r_c, r_i, r_l, r_nx, r_pc, hy, hv]
      refine X_icmp_ne rfl (fun c2 => ?_) (fun c2 => ?_)
      · refine X_run rfl ?_ ?_
        · simp [md_s, md_w, rget, r_a, r_b, r_c, r_i, r_l, nI_s1]
        try simp only [md_s, md_w, rget_some, r_a, r_b, r_c, r_i, r_l, r_nx, r_pc, nI_s1]
        rw [if_neg (fun z => c2 z.2)] at k
        exact k
      · refine X_run rfl ?_ ?_
        · simp [md_s, md_w, rget, r_a, r_b, r_c, r_i, r_l, hb]
        try simp only [md_s, md_w, rget_some, r_a, r_b, r_c, r_i, r_l, r_nx, r_pc, hb]
        refine X_cV rfl (by decide) hb.1 rfl rfl (Nat.le_of_ble_eq_true rfl) (c_paymentAt hL hi2) ?_
        rintro _ _ ⟨rfl, rfl⟩
        refine X_run rfl ?_ ?_
        · simp [md_s, md_w, rget, r_a, r_b, r_c, r_i, r_l, hy, hv, nI_s1]
        try simp only [md_s, md_w, rget_some, r_a, r_b, r_c, r_i, r_l, r_nx, r_pc, hy, hv, nI_s1]
        rw [if_pos ⟨hs, c2⟩] at k
        exact k
    · rw [if_neg hs]
      refine X_if_eq rfl (fun c2 => ?_) (fun c2 => absurd rfl c2)
      refine X_run rfl ?_ ?_
      · simp [md_s, md_w, rget, r_a, r_b, r_c, r_i, r_l, nI_s1]
      try simp only [md_s, md_w, rget_some, r_a, r_b, r_c, r_i, r_l, r_nx, r_pc, nI_s1]
      rw [if_neg (fun z => hs z.1)] at k
      exact k
  · refine X_run rfl ?_ ?_
    · simp [md_s, md_w, rget, r_a, r_b, r_c, r_i, r_l, hb, hc]
    try simp only [md_s, md_w, rget_some, r_a, r_b, r_c, r_i, r_l, r_nx, r_pc, hb, hc]
    refine X_icmp_ge rfl (fun c1 => ?_) (fun c1 => no_nle c1 (Nat.le_refl _) (by omega))
    refine X_run rfl ?_ ?_
    · simp [md_s, md_w, rget, r_a, r_b, r_c, r_i, r_l, hb]
    try simp only [md_s, md_w, rget_some, r_a, r_b, r_c, r_i, r_l, r_nx, r_pc, hb]
    exact X_iret rfl rfl ⟨rfl, rfl⟩
theorem c_worthOf {a : Int32} {m : Nat} (hL : BkL S B) (hW : WfK K) (hR : RepC D B K) (hm : m < k_nm K) : EvM g (d + 1) mX0_worthOf 0 0 [.ref B, .int a, .int (nI m)] (md S D) (fun v M1 => M1 = md S D ∧ v = some (.long (worth K a m))) := by
  have hb := hL.1
  obtain ⟨w1, w2, w3, -⟩ := hW
  have hm2 : m < 5 := by omega
  have hy := hL.2.2.1 m hm2
  have hv := hR.2.2.1 m hm
  refine EvM.mk (by decide) (Nat.le_of_ble_eq_true rfl) ?_
  refine X_run rfl ?_ ?_
  · simp [md_s, md_w, rget, r_a, r_b, r_c, r_i, r_l, hb]
  try simp only [md_s, md_w, rget_some, r_a, r_b, r_c, r_i, r_l, r_nx, r_pc, hb]
  refine X_cV rfl (by decide) hb.1 rfl rfl (Nat.le_of_ble_eq_true rfl) (c_moneyAt hL hm2) ?_
  rintro _ _ ⟨rfl, rfl⟩
  refine X_run rfl ?_ ?_
  · simp [md_s, md_w, rget, r_a, r_b, r_c, r_i, r_l, hy, hv]
  try simp only [md_s, md_w, rget_some, r_a, r_b, r_c, r_i, r_l, r_nx, r_pc, hy, hv]
  exact X_lret rfl rfl ⟨rfl, rfl⟩
theorem c_limitOf {p : Nat} (hL : BkL S B) (hW : WfK K) (hR : RepC D B K) (hp : p < k_np K) : EvM g (d + 2) mX0_limitOf 0 0 [.ref B, .ref (pa B p)] (md S D) (fun v M1 => M1 = md S D ∧ v = some (.long (limit K p))) := by
  have hb := hL.1
  have hW' := hW
  obtain ⟨w1, w2, w3, -⟩ := hW
  have hc := hR.1
  obtain ⟨hq, hr1, hr2, hr3⟩ := hL.2.1 p (by omega)
  obtain ⟨hv, hvb⟩ := hR.2.1 p hp
  refine EvM.mk (by decide) (Nat.le_of_ble_eq_true rfl) ?_
  refine X_run rfl ?_ ?_
  · simp [md_s, md_w, rget, r_a, r_b, r_c, r_i, r_l, hq, hv]
  try simp only [md_s, md_w, rget_some, r_a, r_b, r_c, r_i, r_l, r_nx, r_pc, hq, hv]
  refine Eg_iter (fun i (a : Int64) => Eg g (d + 2) mX0_limitOf 0 0 (Zr g _) 9 [(0, .ref B), (1, .ref (pa B p)), (2, .long a), (4, .int (nI i))] [] (md S D)) (fun m acc => acc + worth K (k_co K p m) m * 9 / 10) (k_nm K) (k_li K p).toInt64 (fun i hi k => ?_) ?_
  · have hi2 : i < 5 := by omega
    refine X_run rfl ?_ ?_
    · simp [md_s, md_w, rget, r_a, r_b, r_c, r_i, r_l, hb, hc]
    try simp only [md_s, md_w, rget_some, r_a, r_b, r_c, r_i, r_l, r_nx, r_pc, hb, hc]
    refine X_icmp_ge rfl (fun c1 => no_le c1 hi (by omega)) (fun c1 => ?_)
    refine X_run rfl ?_ ?_
    · simp [md_s, md_w, rget, r_a, r_b, r_c, r_i, r_l, hq]
    try simp only [md_s, md_w, rget_some, r_a, r_b, r_c, r_i, r_l, r_nx, r_pc, hq]
    refine X_cV rfl (by decide) hr2.1 rfl rfl (Nat.le_of_ble_eq_true rfl) (c_Row_at hr2 hi2) ?_
    rintro _ _ ⟨rfl, rfl⟩
    refine X_run rfl ?_ ?_
    · simp [md_s, md_w, rget, r_a, r_b, r_c, r_i, r_l, hb]
    try simp only [md_s, md_w, rget_some, r_a, r_b, r_c, r_i, r_l, r_nx, r_pc, hb]
    refine X_cV (args := [.int (d_ai D (pa B p + 4) i), .int (nI i)]) rfl (by decide) hb.1 rfl rfl (Nat.le_of_ble_eq_true rfl) (c_worthOf hL hW' hR hi) ?_
    rintro _ _ ⟨rfl, rfl⟩
    refine X_run rfl ?_ ?_
    · simp [md_s, md_w, rget, r_a, r_b, r_c, r_i, r_l, nI_s1, (hvb i hi2).2]
    try simp only [md_s, md_w, rget_some, r_a, r_b, r_c, r_i, r_l, r_nx, r_pc, nI_s1, (hvb i hi2).2]
    exact k
  · refine X_run rfl ?_ ?_
    · simp [md_s, md_w, rget, r_a, r_b, r_c, r_i, r_l, hb, hc]
    try simp only [md_s, md_w, rget_some, r_a, r_b, r_c, r_i, r_l, r_nx, r_pc, hb, hc]
    refine X_icmp_ge rfl (fun c1 => ?_) (fun c1 => no_nle c1 (Nat.le_refl _) (by omega))
    refine X_run rfl ?_ ?_
    · simp [md_s, md_w, rget, r_a, r_b, r_c, r_i, r_l, hb]
    try simp only [md_s, md_w, rget_some, r_a, r_b, r_c, r_i, r_l, r_nx, r_pc, hb]
    exact X_lret rfl rfl ⟨rfl, rfl⟩
theorem c_exposureOf {r a : Nat} {f : Nat → Int32} (hL : BkL S B) (hW : WfK K) (hR : RepC D B K) (hr : RowL S r a 5) (hf : ∀ m, m < k_nm K → d_ai D a m = f m) : EvM g d mX0_exposureOf 0 0 [.ref B, .ref r] (md S D) (fun v M1 => M1 = md S D ∧ v = some (.long (expo K f))) := by
  have hb := hL.1
  obtain ⟨w1, w2, w3, -⟩ := hW
  have hc := hR.1
  obtain ⟨h1, h2, h3, h4, h5⟩ := hr
  refine EvM.mk (by decide) (Nat.le_of_ble_eq_true rfl) ?_
  refine X_run rfl ?_ ?_
  · simp [md_s, md_w, rget, r_a, r_b, r_c, r_i, r_l, h1, h2, h3, h4]
  try simp only [md_s, md_w, rget_some, r_a, r_b, r_c, r_i, r_l, r_nx, r_pc, h1, h2, h3, h4]
  refine Eg_iter (fun i (x : Int64) => Eg g d mX0_exposureOf 0 0 (Zr g _) 11 [(0, .ref B), (1, .ref r), (2, .long x), (4, .ref a), (5, .int (nI i))] [] (md S D)) (fun m acc => if f m < 0 then acc + (-(f m).toInt64 * (k_rt K m).toInt64 + 99) / 100 else acc) (k_nm K) 0 (fun i hi k => ?_) ?_
  · have hi2 : i < 5 := by omega
    have hi3 : i < 2 ^ 31 := by omega
    have hy := hL.2.2.1 i hi2
    have hv := hR.2.2.1 i hi
    refine X_run rfl ?_ ?_
    · simp [md_s, md_w, rget, r_a, r_b, r_c, r_i, r_l, hb, hc]
    try simp only [md_s, md_w, rget_some, r_a, r_b, r_c, r_i, r_l, r_nx, r_pc, hb, hc]
    refine X_icmp_ge rfl (fun c1 => no_le c1 hi (by omega)) (fun c1 => ?_)
    refine X_run rfl ?_ ?_
    · simp [md_s, md_w, rget, r_a, r_b, r_c, r_i, r_l, h3, h4]
    try simp only [md_s, md_w, rget_some, r_a, r_b, r_c, r_i, r_l, r_nx, r_pc, h3, h4]
    refine X_icmp_ge rfl (fun c1 => no_le c1 hi2 (by omega)) (fun c1 => ?_)
    refine X_run rfl ?_ ?_
    · simp [md_s, md_w, rget, r_a, r_b, r_c, r_i, r_l, hb]
    try simp only [md_s, md_w, rget_some, r_a, r_b, r_c, r_i, r_l, r_nx, r_pc, hb]
    refine X_icmp_ge rfl (fun c1 => no_le c1 hi2 (by omega)) (fun c1 => ?_)
    refine X_run rfl ?_ ?_
    · simp [md_s, md_w, rget, r_a, r_b, r_c, r_i, r_l, h3, h4, nI_clamp hi3, vp_in_nI hi2 h5, hf i hi]
    try simp only [md_s, md_w, rget_some, r_a, r_b, r_c, r_i, r_l, r_nx, r_pc, h3, h4, nI_clamp hi3, vp_in_nI hi2 h5, hf i hi]
    refine X_if_ge rfl (fun c2 => ?_) (fun c2 => ?_)
    · refine X_run rfl ?_ ?_
      · simp [md_s, md_w, rget, r_a, r_b, r_c, r_i, r_l, nI_s1]
      try simp only [md_s, md_w, rget_some, r_a, r_b, r_c, r_i, r_l, r_nx, r_pc, nI_s1]
      rw [if_neg (Int32.not_lt.mpr c2)] at k
      exact k
    · refine X_run rfl ?_ ?_
      · simp [md_s, md_w, rget, r_a, r_b, r_c, r_i, r_l, h3, h4, nI_clamp hi3, vp_in_nI hi2 h5, hf i hi, hb, hy, hv, nI_s1]
      try simp only [md_s, md_w, rget_some, r_a, r_b, r_c, r_i, r_l, r_nx, r_pc, h3, h4, nI_clamp hi3, vp_in_nI hi2 h5, hf i hi, hb, hy, hv, nI_s1]
      rw [if_pos (Int32.not_le.mp c2)] at k
      exact k
  · refine X_run rfl ?_ ?_
    · simp [md_s, md_w, rget, r_a, r_b, r_c, r_i, r_l, hb, hc]
    try simp only [md_s, md_w, rget_some, r_a, r_b, r_c, r_i, r_l, r_nx, r_pc, hb, hc]
    refine X_icmp_ge rfl (fun c1 => ?_) (fun c1 => no_nle c1 (Nat.le_refl _) (by omega))
    refine X_run rfl ?_ ?_
    · simp [md_s, md_w, rget, r_a, r_b, r_c, r_i, r_l, hb]
    try simp only [md_s, md_w, rget_some, r_a, r_b, r_c, r_i, r_l, r_nx, r_pc, hb]
    exact X_lret rfl rfl ⟨rfl, rfl⟩
theorem c_roomOf {p : Nat} (hL : BkL S B) (hW : WfK K) (hR : RepC D B K) (hp : p < k_np K) : EvM g (d + 3) mX0_roomOf 0 0 [.ref B, .ref (pa B p)] (md S D) (fun v M1 => M1 = md S D ∧ v = some (.long (room K p))) := by
  have hb := hL.1
  have hW' := hW
  obtain ⟨w1, w2, w3, -⟩ := hW
  obtain ⟨hq, hr1, hr2, hr3⟩ := hL.2.1 p (by omega)
  obtain ⟨hv, hvb⟩ := hR.2.1 p hp
  refine EvM.mk (by decide) (Nat.le_of_ble_eq_true rfl) ?_
  refine X_run rfl ?_ ?_
  · simp [md_s, md_w, rget, r_a, r_b, r_c, r_i, r_l, hb]
  try simp only [md_s, md_w, rget_some, r_a, r_b, r_c, r_i, r_l, r_nx, r_pc, hb]
  refine X_cV rfl (by decide) hb.1 rfl rfl (Nat.le_of_ble_eq_true rfl) (c_limitOf hL hW' hR hp) ?_
  rintro _ _ ⟨rfl, rfl⟩
  refine X_run rfl ?_ ?_
  · simp [md_s, md_w, rget, r_a, r_b, r_c, r_i, r_l, hq]
  try simp only [md_s, md_w, rget_some, r_a, r_b, r_c, r_i, r_l, r_nx, r_pc, hq]
  refine X_cV rfl (by decide) hb.1 rfl rfl (Nat.le_of_ble_eq_true rfl) (c_exposureOf (f := k_ba K p) hL hW' hR hr1 (fun m hm => (hvb m (by omega)).1)) ?_
  rintro _ _ ⟨rfl, rfl⟩
  refine X_run rfl trivial ?_
  exact X_lret rfl rfl ⟨rfl, rfl⟩
end BOOKN
