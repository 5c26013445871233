theorem i5 (p m : Nat) : (5 : Int32) * nI p + nI m = nI (5 * p + m) := by
  rw [show (5 : Int32) = nI 5 from rfl]
  unfold nI
  rw [← Int32.ofNat_mul, ← Int32.ofNat_add]
/-- an index within a row: what a load or store of it needs -/
theorem vx {i n : Nat} (h : i < n) (hn : n < 2 ^ 31) : (nI i).toNatClampNeg = i ∧ vp_in (nI i) n := ⟨nI_clamp (by omega), vp_in_nI h hn⟩
def MoR (D : DaT) (A : Nat) (K : KT) (nt : Nat → Nat → Int32) : Prop := ∀ p, p < k_np K → ∀ m, m < 5 → d_ai D (A + 19) (5 * p + m) = nt p m - k_ba K p m
def InR (D : DaT) (A : Nat) (tk : Nat → Bool) (i : Nat) : Prop := ∀ n, n < i → d_ai D (A + 18) n = b2i (tk n)
def owesK (K : KT) (a b m : Int32) : Int32 := iter (fun n acc => if k_st K n = 0 ∧ nI (k_mo K n) = m then acc + (if nI (k_fr K n) = a ∧ nI (k_to K n) = b then k_am K n else 0) - (if nI (k_fr K n) = b ∧ nI (k_to K n) = a then k_am K n else 0) else acc) (k_ny K) 0
section REFM
variable {g : GG} {d : Nat} {S : ShT} {D : DaT} {A : Nat} {K : KT}
theorem c_isIn {x lo hi : Int32} {M : Mem} : EvM g d mX11_isIn 0 0 [.int x, .int lo, .int hi] M (fun v M1 => M1 = M ∧ v = some (.int (if lo ≤ x ∧ x ≤ hi then 1 else 0))) := by
  refine EvM.mk (by decide) (Nat.le_of_ble_eq_true rfl) ?_
  refine X_run rfl trivial ?_
  refine X_icmp_lt rfl (fun c0 => ?_) (fun c0 => ?_)
  · refine X_run rfl trivial ?_
    refine X_zret rfl rfl (Or.inl rfl) ⟨rfl, ?_⟩
    rw [if_neg (fun z => absurd c0 (Int32.not_lt.mpr z.1))]
  · refine X_run rfl trivial ?_
    refine X_icmp_gt rfl (fun c1 => ?_) (fun c1 => ?_)
    · refine X_run rfl trivial ?_
      refine X_zret rfl rfl (Or.inl rfl) ⟨rfl, ?_⟩
      rw [if_neg (fun z => absurd c1 (Int32.not_lt.mpr z.2))]
    · refine X_run rfl trivial ?_
      refine X_zret rfl rfl (Or.inr rfl) ⟨rfl, ?_⟩
      rw [if_pos ⟨Int32.not_lt.mp c0, Int32.not_lt.mp c1⟩]
theorem c_find {a n L : Nat} {w : Int64} {f : Nat → Int64} (ht : s_tg S a = 21) (hl : s_ln S a = L) (hL : L < 2 ^ 31) (hn : n ≤ L) (hf : ∀ i, i < n → d_al D a i = f i) : EvM g d mX10_find 0 0 [.ref A, .ref a, .int (nI n), .long w] (md S D) (fun v M1 => M1 = md S D ∧ v = some (.int (pE (firstIx n (fun k => decide (f k = w)))))) := by
  refine EvM.mk (by decide) (Nat.le_of_ble_eq_true rfl) ?_
  refine X_run rfl trivial ?_
  refine Eg_find (E := fun i => Eg g d mX10_find 0 0 (Zr g _) 3 [(0, .ref A), (1, .ref a), (2, .int (nI n)), (3, .long w), (5, .int (nI i))] [] (md S D)) (c := fun k => decide (f k = w)) n (fun i hi hc hz => ?_) (fun i hi hz k => ?_) (fun hc => ?_)
  · refine X_run rfl trivial ?_
    refine X_icmp_ge rfl (fun c1 => no_le c1 hi (by omega)) (fun c1 => ?_)
    refine X_run rfl ?_ ?_
    · simp [md_s, md_w, rget, r_a, r_b, r_c, r_i, r_l, ht, hl, vx (show i < L by omega) hL, hf i hi]
    try simp only [md_s, md_w, rget_some, r_a, r_b, r_c, r_i, r_l, r_nx, r_pc, Nat.reduceEqDiff, false_and, if_false, ht, hl, vx (show i < L by omega) hL, hf i hi]
    refine X_if_ne rfl (fun c2 => absurd ((lg_cmp_eq _ _).mpr (of_decide_eq_true hz)) c2) (fun c2 => ?_)
    refine X_run rfl trivial ?_
    exact X_iret rfl rfl ⟨rfl, by rw [hc]; rfl⟩
  · refine X_run rfl trivial ?_
    refine X_icmp_ge rfl (fun c1 => no_le c1 hi (by omega)) (fun c1 => ?_)
    refine X_run rfl ?_ ?_
    · simp [md_s, md_w, rget, r_a, r_b, r_c, r_i, r_l, ht, hl, vx (show i < L by omega) hL, hf i hi]
    try simp only [md_s, md_w, rget_some, r_a, r_b, r_c, r_i, r_l, r_nx, r_pc, Nat.reduceEqDiff, false_and, if_false, ht, hl, vx (show i < L by omega) hL, hf i hi]
    refine X_if_ne rfl (fun c2 => ?_) (fun c2 => absurd ((lg_cmp_eq _ _).mp c2) (of_decide_eq_false hz))
    refine X_run rfl ?_ ?_
    · simp [md_s, md_w, rget, r_a, r_b, r_c, r_i, r_l, nI_s1]
    try simp only [md_s, md_w, rget_some, r_a, r_b, r_c, r_i, r_l, r_nx, r_pc, Nat.reduceEqDiff, false_and, if_false, nI_s1]
    exact k
  · refine X_run rfl trivial ?_
    refine X_icmp_ge rfl (fun c1 => ?_) (fun c1 => no_nle c1 (Nat.le_refl _) (by omega))
    refine X_run rfl trivial ?_
    exact X_iret rfl rfl ⟨rfl, by rw [hc]; rfl⟩
theorem c_Rparty {w : Int64} (hL : StL S A) (hW : WfK K) (hR : RepR D A K) : EvM g (d + 1) mX10_party 0 0 [.ref A, .long w] (md S D) (fun v M1 => M1 = md S D ∧ v = some (.int (pE (firstIx (k_np K) (fun p => decide (c37 (k_pn K p) = w)))))) := by
  obtain ⟨hs, ha, hb⟩ := hL.all
  have hc := hR.1
  unfold RrC at hc
  obtain ⟨w1, -⟩ := hW
  refine EvM.mk (by decide) (Nat.le_of_ble_eq_true rfl) ?_
  refine X_run rfl ?_ ?_
  · simp [md_s, md_w, rget, r_a, r_b, r_c, r_i, r_l, hs, hc]
  try simp only [md_s, md_w, rget_some, r_a, r_b, r_c, r_i, r_l, r_nx, r_pc, Nat.reduceEqDiff, false_and, if_false, hs, hc]
  refine X_cV (args := [.ref (A + 1), .int (nI (k_np K)), .long w]) rfl (by decide) hs.1 rfl rfl (Nat.le_of_ble_eq_true rfl) (c_find (A := A) ha.1.1 ha.1.2 (by omega) w1 (fun i hi => (hR.2.1 i hi).1)) ?_
  rintro _ _ ⟨rfl, rfl⟩
  refine X_run rfl trivial ?_
  exact X_iret rfl rfl ⟨rfl, rfl⟩
theorem c_Rmoney {w : Int64} (hL : StL S A) (hW : WfK K) (hR : RepR D A K) : EvM g (d + 1) mX10_money 0 0 [.ref A, .long w] (md S D) (fun v M1 => M1 = md S D ∧ v = some (.int (pE (firstIx (k_nm K) (fun p => decide (c37 (k_mn K p) = w)))))) := by
  obtain ⟨hs, ha, hb⟩ := hL.all
  have hc := hR.1
  unfold RrC at hc
  obtain ⟨-, w2, -⟩ := hW
  refine EvM.mk (by decide) (Nat.le_of_ble_eq_true rfl) ?_
  refine X_run rfl ?_ ?_
  · simp [md_s, md_w, rget, r_a, r_b, r_c, r_i, r_l, hs, hc]
  try simp only [md_s, md_w, rget_some, r_a, r_b, r_c, r_i, r_l, r_nx, r_pc, Nat.reduceEqDiff, false_and, if_false, hs, hc]
  refine X_cV (args := [.ref (A + 4), .int (nI (k_nm K)), .long w]) rfl (by decide) hs.1 rfl rfl (Nat.le_of_ble_eq_true rfl) (c_find (A := A) ha.2.2.2.1.1 ha.2.2.2.1.2 (by omega) w2 (fun i hi => (hR.2.2.1 i hi).1)) ?_
  rintro _ _ ⟨rfl, rfl⟩
  refine X_run rfl trivial ?_
  exact X_iret rfl rfl ⟨rfl, rfl⟩
theorem c_RisWaiting {q : Nat} (hL : StL S A) (hW : WfK K) (hR : RepR D A K) (hq : q < 2 ^ 31) : EvM g (d + 1) mX10_isWaiting 0 0 [.ref A, .int (nI q)] (md S D) (fun v M1 => M1 = md S D ∧ v = some (.int (b2i (wtg K q)))) := by
  obtain ⟨hs, ha, hb⟩ := hL.all
  have hc := hR.1
  unfold RrC at hc
  obtain ⟨w1, w2, w3, -⟩ := hW
  refine EvM.mk (by decide) (Nat.le_of_ble_eq_true rfl) ?_
  refine X_run rfl ?_ ?_
  · simp [md_s, md_w, rget, r_a, r_b, r_c, r_i, r_l, hs, hc]
  try simp only [md_s, md_w, rget_some, r_a, r_b, r_c, r_i, r_l, r_nx, r_pc, Nat.reduceEqDiff, false_and, if_false, hs, hc]
  refine X_cS (args := [.int (nI q), .int 0, .int (nI (k_ny K) - 1)]) rfl (by decide) rfl rfl (Nat.le_of_ble_eq_true rfl) c_isIn ?_
  rintro _ _ ⟨rfl, rfl⟩
  by_cases c : q < k_ny K
  · have hv := hR.2.2.2 q c
    unfold RrY at hv
    rw [if_pos ((ix_of (by omega)).mpr ⟨q, c, rfl⟩)]
    refine X_if_eq rfl (fun c2 => absurd c2 (by decide)) (fun c2 => ?_)
    refine X_run rfl ?_ ?_
    · simp [md_s, md_w, rget, r_a, r_b, r_c, r_i, r_l, hs, hb, vx (show q < 60 by omega) (by decide), hv]
    try simp only [md_s, md_w, rget_some, r_a, r_b, r_c, r_i, r_l, r_nx, r_pc, Nat.reduceEqDiff, false_and, if_false, hs, hb, vx (show q < 60 by omega) (by decide), hv]
    unfold wtg
    rw [decide_eq_true c]
    refine X_if_ne rfl (fun c3 => ?_) (fun c3 => ?_)
    · refine X_run rfl trivial ?_
      exact X_zret rfl rfl (Or.inl rfl) ⟨rfl, by rw [decide_eq_false c3]; rfl⟩
    · refine X_run rfl trivial ?_
      exact X_zret rfl rfl (Or.inr rfl) ⟨rfl, by rw [decide_eq_true c3]; rfl⟩
  · rw [if_neg (fun z => by
      obtain ⟨n, z1, z2⟩ := (ix_of (by omega)).mp z
      rw [nI_eq hq (by omega)] at z2
      omega)]
    refine X_if_eq rfl (fun c2 => ?_) (fun c2 => absurd rfl c2)
    refine X_run rfl trivial ?_
    refine X_zret rfl rfl (Or.inl rfl) ⟨rfl, ?_⟩
    unfold wtg
    rw [decide_eq_false c]
    rfl
theorem c_Rworth {x : Int64} {m : Nat} (hL : StL S A) (hW : WfK K) (hR : RepR D A K) (hm : m < k_nm K) : EvM g d mX10_worth 0 0 [.ref A, .long x, .int (nI m)] (md S D) (fun v M1 => M1 = md S D ∧ v = some (.long (x * (k_rt K m).toInt64 / 100))) := by
  obtain ⟨hs, ha, hb⟩ := hL.all
  obtain ⟨w1, w2, w3, -⟩ := hW
  have hv := hR.2.2.1 m hm
  unfold RrM at hv
  refine EvM.mk (by decide) (Nat.le_of_ble_eq_true rfl) ?_
  refine X_run rfl ?_ ?_
  · simp [md_s, md_w, rget, r_a, r_b, r_c, r_i, r_l, hs, ha, vx (show m < 5 by omega) (by decide), hv]
  try simp only [md_s, md_w, rget_some, r_a, r_b, r_c, r_i, r_l, r_nx, r_pc, Nat.reduceEqDiff, false_and, if_false, hs, ha, vx (show m < 5 by omega) (by decide), hv]
  exact X_lret rfl rfl ⟨rfl, rfl⟩
theorem c_Rlimit {p : Nat} (hL : StL S A) (hW : WfK K) (hR : RepR D A K) (hp : p < k_np K) : EvM g (d + 1) mX10_limit 0 0 [.ref A, .int (nI p)] (md S D) (fun v M1 => M1 = md S D ∧ v = some (.long (limit K p))) := by
  obtain ⟨hs, ha, hb⟩ := hL.all
  have hW' := hW
  obtain ⟨w1, w2, w3, -⟩ := hW
  have hc := hR.1
  unfold RrC at hc
  obtain ⟨v1, v2, v3, v4⟩ := hR.2.1 p hp
  refine EvM.mk (by decide) (Nat.le_of_ble_eq_true rfl) ?_
  refine X_run rfl ?_ ?_
  · simp [md_s, md_w, rget, r_a, r_b, r_c, r_i, r_l, hs, ha, vx (show p < 10 by omega) (by decide), v2]
  try simp only [md_s, md_w, rget_some, r_a, r_b, r_c, r_i, r_l, r_nx, r_pc, Nat.reduceEqDiff, false_and, if_false, hs, ha, vx (show p < 10 by omega) (by decide), v2]
  refine Eg_iter (fun i (x : Int64) => Eg g (d + 1) mX10_limit 0 0 (Zr g _) 11 [(0, .ref A), (1, .int (nI p)), (2, .long x), (4, .int (nI i))] [] (md S D)) (fun m acc => acc + worth K (k_co K p m) m * 9 / 10) (k_nm K) (k_li K p).toInt64 (fun i hi k => ?_) ?_
  · have v5 := v4 i (by omega)
    refine X_run rfl ?_ ?_
    · simp [md_s, md_w, rget, r_a, r_b, r_c, r_i, r_l, hs, hc]
    try simp only [md_s, md_w, rget_some, r_a, r_b, r_c, r_i, r_l, r_nx, r_pc, Nat.reduceEqDiff, false_and, if_false, hs, hc]
    refine X_icmp_ge rfl (fun c1 => no_le c1 hi (by omega)) (fun c1 => ?_)
    refine X_run rfl ?_ ?_
    · simp [md_s, md_w, rget, r_a, r_b, r_c, r_i, r_l, hs, ha, i5, vx (show 5 * p + i < 50 by omega) (by decide), v5]
    try simp only [md_s, md_w, rget_some, r_a, r_b, r_c, r_i, r_l, r_nx, r_pc, Nat.reduceEqDiff, false_and, if_false, hs, ha, i5, vx (show 5 * p + i < 50 by omega) (by decide), v5]
    refine X_cV (args := [.long (k_co K p i).toInt64, .int (nI i)]) rfl (by decide) hs.1 rfl rfl (Nat.le_of_ble_eq_true rfl) (c_Rworth hL hW' hR hi) ?_
    rintro _ _ ⟨rfl, rfl⟩
    refine X_run rfl ?_ ?_
    · simp [md_s, md_w, rget, r_a, r_b, r_c, r_i, r_l, nI_s1]
    try simp only [md_s, md_w, rget_some, r_a, r_b, r_c, r_i, r_l, r_nx, r_pc, Nat.reduceEqDiff, false_and, if_false, nI_s1]
    exact k
  · refine X_run rfl ?_ ?_
    · simp [md_s, md_w, rget, r_a, r_b, r_c, r_i, r_l, hs, hc]
    try simp only [md_s, md_w, rget_some, r_a, r_b, r_c, r_i, r_l, r_nx, r_pc, Nat.reduceEqDiff, false_and, if_false, hs, hc]
    refine X_icmp_ge rfl (fun c1 => ?_) (fun c1 => no_nle c1 (Nat.le_refl _) (by omega))
    refine X_run rfl trivial ?_
    exact X_lret rfl rfl ⟨rfl, rfl⟩
theorem expo_eq (x r : Int64) : (99 - x * r) = (-x * r + 99) := by rw [Int64.sub_eq_add_neg, Int64.add_comm, Int64.neg_mul]
theorem i64_neg (x : Int32) : x.toInt64 < 0 ↔ x < 0 := by
  rw [Int64.lt_iff_toInt_lt, Int32.lt_iff_toInt_lt, Int32.toInt_toInt64]
  rfl
theorem c_Rexpo {p : Nat} {fl : Int32} {f : Nat → Int32} (hL : StL S A) (hW : WfK K) (hR : RepR D A K) (hp : p < k_np K) (hf : ∀ m, m < k_nm K → (k_ba K p m).toInt64 + (if fl = 0 then (0 : Int32) else d_ai D (A + 19) (5 * p + m)).toInt64 = (f m).toInt64) : EvM g d mX10_exposure 0 0 [.ref A, .int (nI p), .int fl] (md S D) (fun v M1 => M1 = md S D ∧ v = some (.long (expo K f))) := by
  obtain ⟨hs, ha, hb⟩ := hL.all
  obtain ⟨w1, w2, w3, -⟩ := hW
  have hc := hR.1
  unfold RrC at hc
  obtain ⟨v1, v2, v3, v4⟩ := hR.2.1 p hp
  refine EvM.mk (by decide) (Nat.le_of_ble_eq_true rfl) ?_
  refine X_run rfl trivial ?_
  refine Eg_iter (fun i (x : Int64) => Eg g d mX10_exposure 0 0 (Zr g _) 5 [(0, .ref A), (1, .int (nI p)), (2, .int fl), (3, .long x), (5, .int (nI i))] [] (md S D)) (fun m acc => if f m < 0 then acc + (-(f m).toInt64 * (k_rt K m).toInt64 + 99) / 100 else acc) (k_nm K) 0 (fun i hi k => ?_) ?_
  · have v5 := v4 i (by omega)
    have hv := hR.2.2.1 i hi
    unfold RrM at hv
    have hfi := hf i hi
    generalize iter (fun m acc => if f m < 0 then acc + (-(f m).toInt64 * (k_rt K m).toInt64 + 99) / 100 else acc) i (0 : Int64) = acc at k ⊢
    have tail : Eg g d mX10_exposure 0 0 (Zr g (fun v M1 => M1 = md S D ∧ v = some (.long (expo K f)))) 53 [(0, .ref A), (1, .int (nI p)), (2, .int fl), (3, .long acc), (5, .int (nI i)), (6, .long (f i).toInt64)] [.int (lg_cmp (f i).toInt64 0)] (md S D) := by
      refine X_if_ge rfl (fun c2 => ?_) (fun c2 => ?_)
      · have c2 : ¬ f i < 0 := fun z => absurd ((lg_cmp_ge _ _).mp c2) (Int64.not_le.mpr ((i64_neg _).mpr z))
        refine X_run rfl ?_ ?_
        · simp [md_s, md_w, rget, r_a, r_b, r_c, r_i, r_l, nI_s1]
        try simp only [md_s, md_w, rget_some, r_a, r_b, r_c, r_i, r_l, r_nx, r_pc, Nat.reduceEqDiff, false_and, if_false, nI_s1]
        rw [if_neg c2] at k
        exact Eg.sub k ⟨rfl, rfl, rfl, rfl, rfl, trivial⟩
      · have c2 : f i < 0 := (i64_neg _).mp (Int64.not_le.mp (fun z => c2 ((lg_cmp_ge _ _).mpr z)))
        rw [if_pos c2] at k
        refine X_run rfl ?_ ?_
        · simp [md_s, md_w, rget, r_a, r_b, r_c, r_i, r_l, hs, ha, vx (show i < 5 by omega) (by decide), hv, nI_s1, expo_eq]
        try simp only [md_s, md_w, rget_some, r_a, r_b, r_c, r_i, r_l, r_nx, r_pc, Nat.reduceEqDiff, false_and, if_false, hs, ha, vx (show i < 5 by omega) (by decide), hv, nI_s1, expo_eq]
        exact Eg.sub k ⟨rfl, rfl, rfl, rfl, rfl, trivial⟩
    refine X_run rfl ?_ ?_
    · simp [md_s, md_w, rget, r_a, r_b, r_c, r_i, r_l, hs, hc]
    try simp only [md_s, md_w, rget_some, r_a, r_b, r_c, r_i, r_l, r_nx, r_pc, Nat.reduceEqDiff, false_and, if_false, hs, hc]
    refine X_icmp_ge rfl (fun c1 => no_le c1 hi (by omega)) (fun c1 => ?_)
    refine X_run rfl ?_ ?_
    · simp [md_s, md_w, rget, r_a, r_b, r_c, r_i, r_l, hs, ha, i5, vx (show 5 * p + i < 50 by omega) (by decide), v5]
    try simp only [md_s, md_w, rget_some, r_a, r_b, r_c, r_i, r_l, r_nx, r_pc, Nat.reduceEqDiff, false_and, if_false, hs, ha, i5, vx (show 5 * p + i < 50 by omega) (by decide), v5]
    refine X_if_eq rfl (fun c2 => ?_) (fun c2 => ?_)
    · rw [if_pos c2] at hfi
      refine X_run rfl ?_ ?_
      · simp [md_s, md_w, rget, r_a, r_b, r_c, r_i, r_l, hfi]
      try simp only [md_s, md_w, rget_some, r_a, r_b, r_c, r_i, r_l, r_nx, r_pc, Nat.reduceEqDiff, false_and, if_false, hfi]
      exact tail
    · rw [if_neg c2] at hfi
      refine X_run rfl ?_ ?_
      · simp [md_s, md_w, rget, r_a, r_b, r_c, r_i, r_l, hs, hb, i5, vx (show 5 * p + i < 50 by omega) (by decide), hfi]
      try simp only [md_s, md_w, rget_some, r_a, r_b, r_c, r_i, r_l, r_nx, r_pc, Nat.reduceEqDiff, false_and, if_false, hs, hb, i5, vx (show 5 * p + i < 50 by omega) (by decide), hfi]
      exact tail
  · refine X_run rfl ?_ ?_
    · simp [md_s, md_w, rget, r_a, r_b, r_c, r_i, r_l, hs, hc]
    try simp only [md_s, md_w, rget_some, r_a, r_b, r_c, r_i, r_l, r_nx, r_pc, Nat.reduceEqDiff, false_and, if_false, hs, hc]
    refine X_icmp_ge rfl (fun c1 => ?_) (fun c1 => no_nle c1 (Nat.le_refl _) (by omega))
    refine X_run rfl trivial ?_
    exact X_lret rfl rfl ⟨rfl, rfl⟩
theorem add0_64 (x : Int32) : x.toInt64 + (0 : Int32).toInt64 = x.toInt64 := Int64.add_zero _
theorem c_Rexpo0 {p : Nat} (hL : StL S A) (hW : WfK K) (hR : RepR D A K) (hp : p < k_np K) : EvM g d mX10_exposure 0 0 [.ref A, .int (nI p), .int 0] (md S D) (fun v M1 => M1 = md S D ∧ v = some (.long (expo K (k_ba K p)))) :=
  c_Rexpo hL hW hR hp (fun m hm => by rw [if_pos rfl]; exact add0_64 _)
theorem c_Rroom {p : Nat} (hL : StL S A) (hW : WfK K) (hR : RepR D A K) (hp : p < k_np K) : EvM g (d + 2) mX10_room 0 0 [.ref A, .int (nI p)] (md S D) (fun v M1 => M1 = md S D ∧ v = some (.long (room K p))) := by
  obtain ⟨hs, -, -⟩ := hL.all
  refine EvM.mk (by decide) (Nat.le_of_ble_eq_true rfl) ?_
  refine X_run rfl trivial ?_
  refine X_cV (args := [.int (nI p)]) rfl (by decide) hs.1 rfl rfl (Nat.le_of_ble_eq_true rfl) (c_Rlimit hL hW hR hp) ?_
  rintro _ _ ⟨rfl, rfl⟩
  refine X_run rfl trivial ?_
  refine X_cV (args := [.int (nI p), .int 0]) rfl (by decide) hs.1 rfl rfl (Nat.le_of_ble_eq_true rfl) (c_Rexpo0 hL hW hR hp) ?_
  rintro _ _ ⟨rfl, rfl⟩
  refine X_run rfl trivial ?_
  exact X_lret rfl rfl ⟨rfl, rfl⟩
theorem c_isReady {n : Nat} (hL : StL S A) (hW : WfK K) (hR : RepR D A K) (hn : n < k_ny K) : EvM g d mX10_isReady 0 0 [.ref A, .int (nI n)] (md S D) (fun v M1 => M1 = md S D ∧ v = some (.int (b2i (ready K n)))) := by
  obtain ⟨hs, ha, hb⟩ := hL.all
  obtain ⟨w1, w2, w3, w4⟩ := hW
  obtain ⟨w5, w6, w7, -⟩ := w4 n hn
  have hc := hR.1
  unfold RrC at hc
  have hv := hR.2.2.2 n hn
  unfold RrY at hv
  have hm := hR.2.2.1 _ w7
  unfold RrM at hm
  have hp1 := (hR.2.1 _ w5).2.2.1
  have hp2 := (hR.2.1 _ w6).2.2.1
  have x1 := vx (show n < 60 by omega) (by decide)
  have x2 := vx (show k_mo K n < 5 by omega) (by decide)
  have x3 := vx (show k_fr K n < 10 by omega) (by decide)
  have x4 := vx (show k_to K n < 10 by omega) (by decide)
  have no : ready K n = false → Eg g d mX10_isReady 0 0 (Zr g (fun v M1 => M1 = md S D ∧ v = some (.int (b2i (ready K n))))) 81 [] [] (md S D) := by
    intro hz
    rw [hz]
    refine X_run rfl trivial ?_
    exact X_zret rfl rfl (Or.inl rfl) ⟨rfl, rfl⟩
  refine EvM.mk (by decide) (Nat.le_of_ble_eq_true rfl) ?_
  refine X_run rfl ?_ ?_
  · simp [md_s, md_w, rget, r_a, r_b, r_c, r_i, r_l, hs, hb, x1, hv]
  try simp only [md_s, md_w, rget_some, r_a, r_b, r_c, r_i, r_l, r_nx, r_pc, Nat.reduceEqDiff, false_and, if_false, hs, hb, x1, hv]
  refine X_if_ne rfl (fun c1 => Eg.sub (no (by simp [ready, c1])) trivial) (fun c1 => ?_)
  refine X_run rfl ?_ ?_
  · simp [md_s, md_w, rget, r_a, r_b, r_c, r_i, r_l, hs, hb, x1, hv, hc]
  try simp only [md_s, md_w, rget_some, r_a, r_b, r_c, r_i, r_l, r_nx, r_pc, Nat.reduceEqDiff, false_and, if_false, hs, hb, x1, hv, hc]
  refine X_icmp_ne rfl (fun c2 => Eg.sub (no (by simp [ready, c2])) trivial) (fun c2 => ?_)
  refine X_run rfl ?_ ?_
  · simp [md_s, md_w, rget, r_a, r_b, r_c, r_i, r_l, hs, hb, x1, hv, hc]
  try simp only [md_s, md_w, rget_some, r_a, r_b, r_c, r_i, r_l, r_nx, r_pc, Nat.reduceEqDiff, false_and, if_false, hs, hb, x1, hv, hc]
  refine X_if_ne rfl (fun c3 => Eg.sub (no (by simp [ready, b2i_nz c3])) trivial) (fun c3 => ?_)
  have c3 := b2i_zero.mp c3
  refine X_run rfl ?_ ?_
  · simp [md_s, md_w, rget, r_a, r_b, r_c, r_i, r_l, hs, ha, hb, x1, x2, hv, hc, hm]
  try simp only [md_s, md_w, rget_some, r_a, r_b, r_c, r_i, r_l, r_nx, r_pc, Nat.reduceEqDiff, false_and, if_false, hs, ha, hb, x1, x2, hv, hc, hm]
  refine X_icmp_le rfl (fun c4 => Eg.sub (no (by simp [ready, Int32.not_lt.mpr c4])) trivial) (fun c4 => ?_)
  have c4 := Int32.not_le.mp c4
  refine X_run rfl ?_ ?_
  · simp [md_s, md_w, rget, r_a, r_b, r_c, r_i, r_l, hs, ha, hb, x1, x3, hv, hp1]
  try simp only [md_s, md_w, rget_some, r_a, r_b, r_c, r_i, r_l, r_nx, r_pc, Nat.reduceEqDiff, false_and, if_false, hs, ha, hb, x1, x3, hv, hp1]
  refine X_if_ne rfl (fun c5 => Eg.sub (no (by simp [ready, b2i_nz c5])) trivial) (fun c5 => ?_)
  have c5 := b2i_zero.mp c5
  refine X_run rfl ?_ ?_
  · simp [md_s, md_w, rget, r_a, r_b, r_c, r_i, r_l, hs, ha, hb, x1, x4, hv, hp2]
  try simp only [md_s, md_w, rget_some, r_a, r_b, r_c, r_i, r_l, r_nx, r_pc, Nat.reduceEqDiff, false_and, if_false, hs, ha, hb, x1, x4, hv, hp2]
  refine X_if_ne rfl (fun c6 => Eg.sub (no (by simp [ready, b2i_nz c6])) trivial) (fun c6 => ?_)
  have c6 := b2i_zero.mp c6
  refine X_run rfl trivial ?_
  refine X_zret rfl rfl (Or.inr rfl) ⟨rfl, ?_⟩
  have : ready K n = true := by simp [ready, c1, c2, c3, c4, c5, c6]
  rw [this]
  rfl
theorem c_move {n : Nat} {sg : Int32} {nt : Nat → Nat → Int32} (hL : StL S A) (hW : WfK K) (hR : RepR D A K) (hn : n < k_ny K) (hM : MoR D A K nt) : EvM g d mX10_move 0 0 [.ref A, .int (nI n), .int sg] (md S D) (fun v M1 => ∃ D1, v = none ∧ M1 = md S D1 ∧ RepR D1 A K ∧ MoR D1 A K (mvN K nt n (sg * k_am K n)) ∧ Out (A + 19) (A + 20) D D1) := by
  obtain ⟨hs, ha, hb⟩ := hL.all
  obtain ⟨w1, w2, w3, w4⟩ := hW
  obtain ⟨w5, w6, w7, -⟩ := w4 n hn
  have hv := hR.2.2.2 n hn
  unfold RrY at hv
  have x1 := vx (show n < 60 by omega) (by decide)
  have x2 := vx (show 5 * k_fr K n + k_mo K n < 50 by omega) (by decide)
  have x3 := vx (show 5 * k_to K n + k_mo K n < 50 by omega) (by decide)
  obtain ⟨D1, e1, z1, y1⟩ := wr_ai D (A + 19) (5 * k_fr K n + k_mo K n) (d_ai D (A + 19) (5 * k_fr K n + k_mo K n) - sg * k_am K n)
  obtain ⟨D2, e2, z2, y2⟩ := wr_ai D1 (A + 19) (5 * k_to K n + k_mo K n) (d_ai D1 (A + 19) (5 * k_to K n + k_mo K n) + sg * k_am K n)
  have hR1 : RepR D1 A K := e1 ▸ hR.aux (by omega)
  have hR2 : RepR D2 A K := e2 ▸ hR1.aux (by omega)
  have hv1 := hR1.2.2.2 n hn
  unfold RrY at hv1
  have hm1 := hM (k_fr K n) w5 (k_mo K n) (by omega)
  refine EvM.mk (by decide) (Nat.le_of_ble_eq_true rfl) ?_
  refine X_run rfl ?_ ?_
  · simp [md_s, md_w, rget, r_a, r_b, r_c, r_i, r_l, hs, hb, x1, hv, i5, x2, e1, hv1, x3, e2]
  try simp only [md_s, md_w, rget_some, r_a, r_b, r_c, r_i, r_l, r_nx, r_pc, Nat.reduceEqDiff, false_and, if_false, hs, hb, x1, hv, i5, x2, e1, hv1, x3, e2]
  refine X_vret rfl rfl ⟨D2, rfl, rfl, hR2, fun p hp m hm => ?_, (e1 ▸ Out.ai (by omega) : Out (A + 19) (A + 20) D D1).tr (e2 ▸ Out.ai (by omega))⟩
  have hq := hM p hp m hm
  have hq2 := hM (k_to K n) w6 (k_mo K n) (by omega)
  unfold mvN up2n
  rw [z2, z1, z1]
  by_cases c1 : p = k_to K n ∧ m = k_mo K n
  · obtain ⟨rfl, rfl⟩ := c1
    rw [if_pos (show A + 19 = A + 19 ∧ 5 * k_to K n + k_mo K n = 5 * k_to K n + k_mo K n from ⟨rfl, rfl⟩), if_pos (show k_to K n = k_to K n ∧ k_mo K n = k_mo K n from ⟨rfl, rfl⟩)]
    by_cases c2 : k_to K n = k_fr K n
    · rw [if_pos (show A + 19 = A + 19 ∧ 5 * k_to K n + k_mo K n = 5 * k_fr K n + k_mo K n from ⟨rfl, by rw [c2]⟩), if_pos (show k_to K n = k_fr K n ∧ k_mo K n = k_mo K n from ⟨c2, rfl⟩), hm1, c2, Int32.sub_eq_add_neg, Int32.sub_eq_add_neg, Int32.sub_eq_add_neg]
      ac_rfl
    · rw [if_neg (show ¬ (A + 19 = A + 19 ∧ 5 * k_to K n + k_mo K n = 5 * k_fr K n + k_mo K n) from fun z => c2 (by have := z.2; omega)), if_neg (show ¬ (k_to K n = k_fr K n ∧ k_mo K n = k_mo K n) from fun z => c2 z.1), hq2, Int32.sub_eq_add_neg, Int32.sub_eq_add_neg]
      ac_rfl
  · rw [if_neg (fun z => c1 (by have := z.2; omega)), if_neg c1]
    by_cases c2 : p = k_fr K n ∧ m = k_mo K n
    · obtain ⟨rfl, rfl⟩ := c2
      rw [if_pos ⟨rfl, rfl⟩, if_pos ⟨rfl, rfl⟩, hm1, Int32.sub_eq_add_neg, Int32.sub_eq_add_neg, Int32.sub_eq_add_neg]
      ac_rfl
    · rw [if_neg (fun z => c2 (by have := z.2; omega)), if_neg c2, hq]
theorem c_Rfail {n : Nat} (hL : StL S A) (hW : WfK K) (hR : RepR D A K) (hn : n < k_ny K) : EvM g d mX10_fail 0 0 [.ref A, .int (nI n)] (md S D) (fun v M1 => ∃ D1, v = none ∧ M1 = md S D1 ∧ RepR D1 A (failK K n) ∧ Out A (A + 20) D D1) := by
  obtain ⟨hs, ha, hb⟩ := hL.all
  obtain ⟨w1, w2, w3, w4⟩ := hW
  obtain ⟨w5, w6, w7, -⟩ := w4 n hn
  have hv := hR.2.2.2 n hn
  have x1 := vx (show n < 60 by omega) (by decide)
  have x2 := vx (show 5 * k_fr K n + k_mo K n < 50 by omega) (by decide)
  have x3 := vx (show 5 * k_to K n + k_mo K n < 50 by omega) (by decide)
  obtain ⟨D1, e1, z1, y1⟩ := wr_ai D (A + 15) n 2
  have hR1 : RepR D1 A (ks_st K (up1 (k_st K) n 2)) := e1 ▸ hR.st (n := n) 2
  have hv1 := hR1.2.2.2 n hn
  have b1 := ((hR1.2.1 _ w5).2.2.2 (k_mo K n) (by omega)).1
  have hR2 := hR1.ba (p := k_fr K n) (m := k_mo K n) (by omega) (k_ba K (k_fr K n) (k_mo K n) + -(k_am K n / 100))
  obtain ⟨D2, e2, z2, y2⟩ := wr_ai D1 (A + 7) (5 * k_fr K n + k_mo K n) (k_ba K (k_fr K n) (k_mo K n) + -(k_am K n / 100))
  rw [e2] at hR2
  have hv2 := hR2.2.2.2 n hn
  have b2 := ((hR2.2.1 _ w6).2.2.2 (k_mo K n) (by omega)).1
  have hR3 := hR2.ba (p := k_to K n) (m := k_mo K n) (by omega) (up2n (k_ba K) (k_fr K n) (k_mo K n) (k_ba K (k_fr K n) (k_mo K n) + -(k_am K n / 100)) (k_to K n) (k_mo K n) + k_am K n / 100)
  change d_ai D1 (A + 7) _ = k_ba K (k_fr K n) (k_mo K n) at b1
  change d_ai D2 (A + 7) _ = up2n (k_ba K) (k_fr K n) (k_mo K n) (k_ba K (k_fr K n) (k_mo K n) + -(k_am K n / 100)) (k_to K n) (k_mo K n) at b2
  have f1 : d_ai D1 (A + 9) n = nI (k_fr K n) ∧ d_ai D1 (A + 11) n = k_am K n ∧ d_ai D1 (A + 12) n = nI (k_mo K n) := ⟨hv1.1, hv1.2.2.1, hv1.2.2.2.1⟩
  have f2 : d_ai D2 (A + 10) n = nI (k_to K n) ∧ d_ai D2 (A + 12) n = nI (k_mo K n) := ⟨hv2.2.1, hv2.2.2.2.1⟩
  have fs : ∀ x y : Int32, x - y = x + -y := fun x y => Int32.sub_eq_add_neg x y
  refine EvM.mk (by decide) (Nat.le_of_ble_eq_true rfl) ?_
  refine X_run rfl ?_ ?_
  · simp [md_s, md_w, rget, r_a, r_b, r_c, r_i, r_l, hs, ha, hb, x1, e1, f1, i5, x2, b1, fs, e2, f2, x3, b2]
  try simp only [md_s, md_w, rget_some, r_a, r_b, r_c, r_i, r_l, r_nx, r_pc, Nat.reduceEqDiff, false_and, if_false, hs, ha, hb, x1, e1, f1, i5, x2, b1, fs, e2, f2, x3, b2]
  refine X_vret rfl rfl ⟨_, rfl, rfl, hR3, ?_⟩
  exact ((e1 ▸ Out.ai (by omega) : Out A (A + 20) D D1).tr (e2 ▸ Out.ai (by omega))).tr (Out.ai (by omega))
theorem c_Rowes {a b m : Int32} (hL : StL S A) (hW : WfK K) (hR : RepR D A K) : EvM g d mX10_owes 0 0 [.ref A, .int a, .int b, .int m] (md S D) (fun v M1 => M1 = md S D ∧ v = some (.int (owesK K a b m))) := by
  obtain ⟨hs, ha, hb⟩ := hL.all
  obtain ⟨w1, w2, w3, -⟩ := hW
  have hc := hR.1
  unfold RrC at hc
  refine EvM.mk (by decide) (Nat.le_of_ble_eq_true rfl) ?_
  refine X_run rfl trivial ?_
  refine Eg_iter (fun i (x : Int32) => Eg g d mX10_owes 0 0 (Zr g _) 6 [(0, .ref A), (1, .int a), (2, .int b), (3, .int m), (4, .int x), (5, .int (nI i))] [] (md S D)) (fun n acc => if k_st K n = 0 ∧ nI (k_mo K n) = m then acc + (if nI (k_fr K n) = a ∧ nI (k_to K n) = b then k_am K n else 0) - (if nI (k_fr K n) = b ∧ nI (k_to K n) = a then k_am K n else 0) else acc) (k_ny K) 0 (fun i hi k => ?_) ?_
  · have hv := hR.2.2.2 i hi
    unfold RrY at hv
    have x1 := vx (show i < 60 by omega) (by decide)
    generalize iter (fun n acc => if k_st K n = 0 ∧ nI (k_mo K n) = m then acc + (if nI (k_fr K n) = a ∧ nI (k_to K n) = b then k_am K n else 0) - (if nI (k_fr K n) = b ∧ nI (k_to K n) = a then k_am K n else 0) else acc) i (0 : Int32) = acc at k ⊢
    refine X_run rfl ?_ ?_
    · simp [md_s, md_w, rget, r_a, r_b, r_c, r_i, r_l, hs, hc]
    try simp only [md_s, md_w, rget_some, r_a, r_b, r_c, r_i, r_l, r_nx, r_pc, Nat.reduceEqDiff, false_and, if_false, hs, hc]
    refine X_icmp_ge rfl (fun c1 => no_le c1 hi (by omega)) (fun c1 => ?_)
    refine X_run rfl ?_ ?_
    · simp [md_s, md_w, rget, r_a, r_b, r_c, r_i, r_l, hs, hb, x1, hv]
    try simp only [md_s, md_w, rget_some, r_a, r_b, r_c, r_i, r_l, r_nx, r_pc, Nat.reduceEqDiff, false_and, if_false, hs, hb, x1, hv]
    refine X_if_ne rfl (fun c2 => ?_) (fun c2 => ?_)
    · rw [if_neg (fun z => c2 z.1)] at k
      refine X_run rfl ?_ ?_
      · simp [md_s, md_w, rget, r_a, r_b, r_c, r_i, r_l, nI_s1]
      try simp only [md_s, md_w, rget_some, r_a, r_b, r_c, r_i, r_l, r_nx, r_pc, Nat.reduceEqDiff, false_and, if_false, nI_s1]
      exact Eg.sub k ⟨rfl, rfl, rfl, rfl, rfl, rfl, trivial⟩
    refine X_run rfl ?_ ?_
    · simp [md_s, md_w, rget, r_a, r_b, r_c, r_i, r_l, hs, hb, x1, hv]
    try simp only [md_s, md_w, rget_some, r_a, r_b, r_c, r_i, r_l, r_nx, r_pc, Nat.reduceEqDiff, false_and, if_false, hs, hb, x1, hv]
    refine (fun (kf : ¬ nI (k_mo K i) = m → _) (kt : nI (k_mo K i) = m → _) => X_icmp_eq rfl kt kf) (fun c3 => ?_) (fun c3 => ?_)
    · rw [if_neg (fun z => c3 z.2)] at k
      refine X_run rfl ?_ ?_
      · simp [md_s, md_w, rget, r_a, r_b, r_c, r_i, r_l, nI_s1]
      try simp only [md_s, md_w, rget_some, r_a, r_b, r_c, r_i, r_l, r_nx, r_pc, Nat.reduceEqDiff, false_and, if_false, nI_s1]
      exact Eg.sub k ⟨rfl, rfl, rfl, rfl, rfl, rfl, trivial⟩
    rw [if_pos ⟨c2, c3⟩] at k
    have second : ∀ x, x = acc + (if nI (k_fr K i) = a ∧ nI (k_to K i) = b then k_am K i else 0) → Eg g d mX10_owes 0 0 (Zr g (fun v M1 => M1 = md S D ∧ v = some (.int (owesK K a b m)))) 87 [(0, .ref A), (1, .int a), (2, .int b), (3, .int m), (4, .int x), (5, .int (nI i))] [.int b, .int (nI (k_fr K i)), .int x] (md S D) := fun x hx => by
      rw [← hx] at k
      refine X_icmp_ne rfl (fun c4 => ?_) (fun c4 => ?_)
      · rw [if_neg (fun z => c4 z.1)] at k
        refine X_run rfl ?_ ?_
        · simp [md_s, md_w, rget, r_a, r_b, r_c, r_i, r_l, nI_s1]
        try simp only [md_s, md_w, rget_some, r_a, r_b, r_c, r_i, r_l, r_nx, r_pc, Nat.reduceEqDiff, false_and, if_false, nI_s1]
        exact Eg.sub k ⟨rfl, rfl, rfl, rfl, rfl, rfl, trivial⟩
      · refine X_run rfl ?_ ?_
        · simp [md_s, md_w, rget, r_a, r_b, r_c, r_i, r_l, hs, hb, x1, hv]
        try simp only [md_s, md_w, rget_some, r_a, r_b, r_c, r_i, r_l, r_nx, r_pc, Nat.reduceEqDiff, false_and, if_false, hs, hb, x1, hv]
        refine X_icmp_ne rfl (fun c5 => ?_) (fun c5 => ?_)
        · rw [if_neg (fun z => c5 z.2)] at k
          refine X_run rfl ?_ ?_
          · simp [md_s, md_w, rget, r_a, r_b, r_c, r_i, r_l, nI_s1]
          try simp only [md_s, md_w, rget_some, r_a, r_b, r_c, r_i, r_l, r_nx, r_pc, Nat.reduceEqDiff, false_and, if_false, nI_s1]
          exact Eg.sub k ⟨rfl, rfl, rfl, rfl, rfl, rfl, trivial⟩
        · rw [if_pos ⟨c4, c5⟩] at k
          refine X_run rfl ?_ ?_
          · simp [md_s, md_w, rget, r_a, r_b, r_c, r_i, r_l, hs, hb, x1, hv, nI_s1]
          try simp only [md_s, md_w, rget_some, r_a, r_b, r_c, r_i, r_l, r_nx, r_pc, Nat.reduceEqDiff, false_and, if_false, hs, hb, x1, hv, nI_s1]
          exact Eg.sub k ⟨rfl, rfl, rfl, rfl, rfl, rfl, trivial⟩
    refine X_run rfl ?_ ?_
    · simp [md_s, md_w, rget, r_a, r_b, r_c, r_i, r_l, hs, hb, x1, hv]
    try simp only [md_s, md_w, rget_some, r_a, r_b, r_c, r_i, r_l, r_nx, r_pc, Nat.reduceEqDiff, false_and, if_false, hs, hb, x1, hv]
    refine X_icmp_ne rfl (fun c4 => ?_) (fun c4 => ?_)
    · refine X_run rfl ?_ ?_
      · simp [md_s, md_w, rget, r_a, r_b, r_c, r_i, r_l, hs, hb, x1, hv]
      try simp only [md_s, md_w, rget_some, r_a, r_b, r_c, r_i, r_l, r_nx, r_pc, Nat.reduceEqDiff, false_and, if_false, hs, hb, x1, hv]
      exact Eg.sub (second _ (by rw [if_neg (fun z => c4 z.1)])) ⟨rfl, rfl, rfl, rfl, rfl, rfl, trivial⟩
    · refine X_run rfl ?_ ?_
      · simp [md_s, md_w, rget, r_a, r_b, r_c, r_i, r_l, hs, hb, x1, hv]
      try simp only [md_s, md_w, rget_some, r_a, r_b, r_c, r_i, r_l, r_nx, r_pc, Nat.reduceEqDiff, false_and, if_false, hs, hb, x1, hv]
      refine X_icmp_ne rfl (fun c5 => ?_) (fun c5 => ?_)
      · refine X_run rfl ?_ ?_
        · simp [md_s, md_w, rget, r_a, r_b, r_c, r_i, r_l, hs, hb, x1, hv]
        try simp only [md_s, md_w, rget_some, r_a, r_b, r_c, r_i, r_l, r_nx, r_pc, Nat.reduceEqDiff, false_and, if_false, hs, hb, x1, hv]
        exact Eg.sub (second _ (by rw [if_neg (fun z => c5 z.2)])) ⟨rfl, rfl, rfl, rfl, rfl, rfl, trivial⟩
      · refine X_run rfl ?_ ?_
        · simp [md_s, md_w, rget, r_a, r_b, r_c, r_i, r_l, hs, hb, x1, hv]
        try simp only [md_s, md_w, rget_some, r_a, r_b, r_c, r_i, r_l, r_nx, r_pc, Nat.reduceEqDiff, false_and, if_false, hs, hb, x1, hv]
        exact Eg.sub (second _ (by rw [if_pos ⟨c4, c5⟩])) ⟨rfl, rfl, rfl, rfl, rfl, rfl, trivial⟩
  · refine X_run rfl ?_ ?_
    · simp [md_s, md_w, rget, r_a, r_b, r_c, r_i, r_l, hs, hc]
    try simp only [md_s, md_w, rget_some, r_a, r_b, r_c, r_i, r_l, r_nx, r_pc, Nat.reduceEqDiff, false_and, if_false, hs, hc]
    refine X_icmp_ge rfl (fun c1 => ?_) (fun c1 => no_nle c1 (Nat.le_refl _) (by omega))
    refine X_run rfl trivial ?_
    exact X_iret rfl rfl ⟨rfl, rfl⟩
end REFM
