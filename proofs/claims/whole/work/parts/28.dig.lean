/-! debts, rows of bytes, digests -/
theorem nI_lin (a b : Nat) : nI a * 10 + nI b = nI (a * 10 + b) := by
  unfold nI
  rw [Int32.ofNat_add, Int32.ofNat_mul]
  rfl
theorem nar_byte (x : Int32) : vp_nar .byte x.toInt8.toInt32 = x.toInt8.toInt32 := by simp [vp_nar, narrow]
def RowO (D D1 : DaT) (a : Nat) : Prop := d_fi D1 = d_fi D ∧ d_fl D1 = d_fl D ∧ d_al D1 = d_al D ∧ ∀ k, k ≠ a → d_ai D1 k = d_ai D k
theorem RowO.tr {D D1 D2 : DaT} {a : Nat} (h : RowO D D1 a) (h' : RowO D1 D2 a) : RowO D D2 a := ⟨h'.1.trans h.1, h'.2.1.trans h.2.1, h'.2.2.1.trans h.2.2.1, fun k hk => (h'.2.2.2 k hk).trans (h.2.2.2 k hk)⟩
theorem RowO.ai {D : DaT} {a i : Nat} {v : Int32} : RowO D (pai D a i v) a := ⟨rfl, rfl, rfl, fun k hk => by
  funext j
  rw [rd_ai, if_neg (fun z => hk z.1)]⟩
theorem RepC.ro {D D1 : DaT} {B a : Nat} {K : KT} (h : RepC D B K) (ho : RowO D D1 a) (hW : WfK K) (ha : a < B ∨ B + 139 ≤ a) : RepC D1 B K := h.sai ho.1 ho.2.1 (fun p hp => by
  obtain ⟨w1, -⟩ := hW
  exact ⟨ho.2.2.2 _ (by unfold pa; omega), ho.2.2.2 _ (by unfold pa; omega)⟩)
def dbt1 (K : KT) (m : Nat) : Nat → (Nat → Int32) → Nat → Int32 := fun n f => if k_st K n = 0 ∧ k_mo K n = m then up1 (up1 f (k_fr K n * 10 + k_to K n) (f (k_fr K n * 10 + k_to K n) + k_am K n)) (k_to K n * 10 + k_fr K n) (up1 f (k_fr K n * 10 + k_to K n) (f (k_fr K n * 10 + k_to K n) + k_am K n) (k_to K n * 10 + k_fr K n) + -k_am K n) else f
def dbt (K : KT) (m : Nat) : Nat → Int32 := iter (dbt1 K m) (k_ny K) (fun _ => 0)
def dgC (K : KT) (tl pl : Int32) (d0 : Int64) : Int64 := iter (fun w acc => acc * 31 + (cnts K tl pl w).toInt64) 12 d0
def dgP1 (K : KT) (p : Nat) (d0 : Int64) : Int64 := iter (fun m acc => (acc * 31 + (k_ba K p m).toInt64) * 31 + (k_co K p m).toInt64) (k_nm K) (iter (fun w acc => acc * 31 + (toldP K p w).toInt64) 7 d0)
def dgP (K : KT) (d0 : Int64) : Int64 := iter (dgP1 K) (k_np K) d0
def dgM (K : KT) (d0 : Int64) : Int64 := iter (fun m acc => iter (fun w acc => acc * 31 + (toldM K m w).toInt64) 4 acc) (k_nm K) d0
def dgY (K : KT) (d0 : Int64) : Int64 := iter (fun n acc => iter (fun w acc => acc * 31 + (toldY K n w).toInt64) 9 acc) (k_ny K) d0
def dgB (f : Nat → Int32) (l : Nat) (d0 : Int64) : Int64 := iter (fun i acc => acc * 31 + (f i &&& 255).toInt64) l d0
section DIG
variable {g : GG} {d : Nat} {S : ShT} {D : DaT} {X : Nat} {K : KT}
theorem c_toldY {n w : Nat} (hX : DkL S X) (hW : WfK K) (hR : RepC D (X + 11) K) (hn : n < k_ny K) (hw : w ≤ 8) : EvM g (d + 1) mX9_toldOfPayment 0 0 [.ref X, .int (nI n), .int (nI w)] (md S D) (fun v M1 => M1 = md S D ∧ v = some (.int (toldY K n w))) := by
  obtain ⟨hx, -, -, -, hL, -⟩ := hX
  have hb := hL.1
  obtain ⟨w1, w2, w3, -⟩ := id hW
  have hn2 : n < 60 := by omega
  have hq := hL.2.2.2 n hn2
  have hv := hR.2.2.2 n hn
  refine EvM.mk (by decide) (Nat.le_of_ble_eq_true rfl) ?_
  refine X_run rfl ?_ ?_
  · simp [md_s, md_w, rget, r_a, r_b, r_c, r_i, r_l, hx, hb]
  try simp only [md_s, md_w, rget_some, r_a, r_b, r_c, r_i, r_l, r_nx, r_pc, Nat.reduceEqDiff, false_and, if_false, hx, hb]
  refine X_cV (args := [.int (nI n)]) rfl (by decide) hb.1 rfl rfl (Nat.le_of_ble_eq_true rfl) (c_paymentAt hL hn2) ?_
  rintro _ _ ⟨rfl, rfl⟩
  refine X_run rfl trivial ?_
  have : w = 0 ∨ w = 1 ∨ w = 2 ∨ w = 3 ∨ w = 4 ∨ w = 5 ∨ w = 6 ∨ w = 7 ∨ w = 8 := by omega
  rcases this with rfl | rfl | rfl | rfl | rfl | rfl | rfl | rfl | rfl
  · refine X_tsw (t := 56) (k0 := 0) rfl (by decide) (by decide) rfl rfl ?_
    refine X_run rfl ?_ ?_
    · simp [md_s, md_w, rget, r_a, r_b, r_c, r_i, r_l, hq, hv]
    try simp only [md_s, md_w, rget_some, r_a, r_b, r_c, r_i, r_l, r_nx, r_pc, Nat.reduceEqDiff, false_and, if_false, hq, hv]
    exact X_iret rfl rfl ⟨rfl, rfl⟩
  · refine X_tsw (t := 61) (k0 := 1) rfl (by decide) (by decide) rfl rfl ?_
    refine X_run rfl ?_ ?_
    · simp [md_s, md_w, rget, r_a, r_b, r_c, r_i, r_l, hq, hv]
    try simp only [md_s, md_w, rget_some, r_a, r_b, r_c, r_i, r_l, r_nx, r_pc, Nat.reduceEqDiff, false_and, if_false, hq, hv]
    exact X_iret rfl rfl ⟨rfl, rfl⟩
  · refine X_tsw (t := 66) (k0 := 2) rfl (by decide) (by decide) rfl rfl ?_
    refine X_run rfl ?_ ?_
    · simp [md_s, md_w, rget, r_a, r_b, r_c, r_i, r_l, hq, hv]
    try simp only [md_s, md_w, rget_some, r_a, r_b, r_c, r_i, r_l, r_nx, r_pc, Nat.reduceEqDiff, false_and, if_false, hq, hv]
    exact X_iret rfl rfl ⟨rfl, rfl⟩
  · refine X_tsw (t := 71) (k0 := 3) rfl (by decide) (by decide) rfl rfl ?_
    refine X_run rfl ?_ ?_
    · simp [md_s, md_w, rget, r_a, r_b, r_c, r_i, r_l, hq, hv]
    try simp only [md_s, md_w, rget_some, r_a, r_b, r_c, r_i, r_l, r_nx, r_pc, Nat.reduceEqDiff, false_and, if_false, hq, hv]
    exact X_iret rfl rfl ⟨rfl, rfl⟩
  · refine X_tsw (t := 76) (k0 := 4) rfl (by decide) (by decide) rfl rfl ?_
    refine X_run rfl ?_ ?_
    · simp [md_s, md_w, rget, r_a, r_b, r_c, r_i, r_l, hq, hv]
    try simp only [md_s, md_w, rget_some, r_a, r_b, r_c, r_i, r_l, r_nx, r_pc, Nat.reduceEqDiff, false_and, if_false, hq, hv]
    exact X_iret rfl rfl ⟨rfl, rfl⟩
  · refine X_tsw (t := 81) (k0 := 5) rfl (by decide) (by decide) rfl rfl ?_
    refine X_run rfl ?_ ?_
    · simp [md_s, md_w, rget, r_a, r_b, r_c, r_i, r_l, hq, hv]
    try simp only [md_s, md_w, rget_some, r_a, r_b, r_c, r_i, r_l, r_nx, r_pc, Nat.reduceEqDiff, false_and, if_false, hq, hv]
    exact X_iret rfl rfl ⟨rfl, rfl⟩
  · refine X_tsw (t := 86) (k0 := 6) rfl (by decide) (by decide) rfl rfl ?_
    refine X_run rfl ?_ ?_
    · simp [md_s, md_w, rget, r_a, r_b, r_c, r_i, r_l, hq, hv]
    try simp only [md_s, md_w, rget_some, r_a, r_b, r_c, r_i, r_l, r_nx, r_pc, Nat.reduceEqDiff, false_and, if_false, hq, hv]
    exact X_iret rfl rfl ⟨rfl, rfl⟩
  · refine X_tsw (t := 91) (k0 := 7) rfl (by decide) (by decide) rfl rfl ?_
    refine X_run rfl ?_ ?_
    · simp [md_s, md_w, rget, r_a, r_b, r_c, r_i, r_l, hq, hv]
    try simp only [md_s, md_w, rget_some, r_a, r_b, r_c, r_i, r_l, r_nx, r_pc, Nat.reduceEqDiff, false_and, if_false, hq, hv]
    refine X_if_eq rfl (fun c1 => ?_) (fun c1 => ?_)
    · refine X_run rfl trivial ?_
      refine X_iret rfl rfl ⟨rfl, ?_⟩
      show _ = some (Value.int (b2i (k_he K n)))
      rw [b2i_zero.mp c1]
      rfl
    · refine X_run rfl trivial ?_
      refine X_iret rfl rfl ⟨rfl, ?_⟩
      show _ = some (Value.int (b2i (k_he K n)))
      rw [b2i_nz c1]
      rfl
  · refine X_tswD (t := 104) rfl (Or.inr (by decide)) rfl ?_
    refine X_run rfl ?_ ?_
    · simp [md_s, md_w, rget, r_a, r_b, r_c, r_i, r_l, hq, hv]
    try simp only [md_s, md_w, rget_some, r_a, r_b, r_c, r_i, r_l, r_nx, r_pc, Nat.reduceEqDiff, false_and, if_false, hq, hv]
    exact X_iret rfl rfl ⟨rfl, rfl⟩
theorem c_debt {a b : Nat} (hX : DkL S X) (ha : a < 10) (hb : b < 10) : EvM g (d + 1) mX9_debt 0 0 [.ref X, .int (nI a), .int (nI b)] (md S D) (fun v M1 => M1 = md S D ∧ v = some (.int (d_ai D (X + 291) (a * 10 + b)))) := by
  obtain ⟨hx, -, -, -, -, -, -, hd⟩ := hX
  refine EvM.mk (by decide) (Nat.le_of_ble_eq_true rfl) ?_
  refine X_run rfl ?_ ?_
  · simp [md_s, md_w, rget, r_a, r_b, r_c, r_i, r_l, hx, nI_lin]
  try simp only [md_s, md_w, rget_some, r_a, r_b, r_c, r_i, r_l, r_nx, r_pc, Nat.reduceEqDiff, false_and, if_false, hx, nI_lin]
  refine X_cV (args := [.int (nI (a * 10 + b))]) rfl (by decide) hd.1 rfl rfl (Nat.le_of_ble_eq_true rfl) (c_Row_at hd (show a * 10 + b < 100 by omega)) ?_
  rintro _ _ ⟨rfl, rfl⟩
  refine X_run rfl trivial ?_
  exact X_iret rfl rfl ⟨rfl, rfl⟩
theorem c_fillDebts {m : Nat} (hX : DkL S X) (hW : WfK K) (hR : RepC D (X + 11) K) (hm : m < k_nm K) : EvM g (d + 1) mX9_fillDebts 0 0 [.ref X, .int (nI m)] (md S D) (fun v M1 => ∃ D1, v = none ∧ M1 = md S D1 ∧ RepC D1 (X + 11) K ∧ (∀ i, i < 100 → d_ai D1 (X + 291) i = dbt K m i) ∧ RowO D D1 (X + 291)) := by
  obtain ⟨hx, -, -, -, hL, -, -, hd⟩ := hX
  have hb := hL.1
  obtain ⟨w1, w2, w3, w4⟩ := id hW
  refine EvM.mk (by decide) (Nat.le_of_ble_eq_true rfl) ?_
  refine X_run rfl ?_ ?_
  · simp [md_s, md_w, rget, r_a, r_b, r_c, r_i, r_l, hx]
  try simp only [md_s, md_w, rget_some, r_a, r_b, r_c, r_i, r_l, r_nx, r_pc, Nat.reduceEqDiff, false_and, if_false, hx]
  refine X_cV (args := []) rfl (by decide) hd.1 rfl rfl (Nat.le_of_ble_eq_true rfl) (c_clear hd) ?_
  rintro _ _ ⟨D1, rfl, rfl, f1, f2, f3, f4⟩
  have hO1 : RowO D D1 (X + 291) := ⟨f1, f2, f3, fun k hk => funext (fun j => by rw [f4, if_neg (fun z => hk z.1)])⟩
  refine X_run rfl trivial ?_
  refine Eg_up (α := DaT) (fun i D' => Eg g (d + 1) mX9_fillDebts 0 0 (Zr g _) 9 [(0, .ref X), (1, .int (nI m)), (2, .int (nI i))] [] (md S D')) (fun i D' => RepC D' (X + 11) K ∧ (∀ j, j < 100 → d_ai D' (X + 291) j = iter (dbt1 K m) i (fun _ => 0) j) ∧ RowO D D' (X + 291)) (k_ny K) (fun n D2 hn hI k => ?_) (fun D2 hI => ?_) D1 ⟨hR.ro hO1 hW (by omega), fun j hj => by rw [f4, if_pos ⟨rfl, hj⟩]; rfl, hO1⟩
  · obtain ⟨hR2, hJ2, hO2⟩ := hI
    have hc := hR2.1
    have hn2 : n < 60 := by omega
    have hy := hL.2.2.2 n hn2
    have hv := hR2.2.2.2 n hn
    obtain ⟨w5, w6, w7, -⟩ := w4 n hn
    have skip : dbt1 K m n (iter (dbt1 K m) n (fun _ => 0)) = iter (dbt1 K m) n (fun _ => 0) → Eg g (d + 1) mX9_fillDebts 0 0 (Zr g (fun v M1 => ∃ D1, v = none ∧ M1 = md S D1 ∧ RepC D1 (X + 11) K ∧ (∀ i, i < 100 → d_ai D1 (X + 291) i = dbt K m i) ∧ RowO D D1 (X + 291))) 91 [(0, .ref X), (1, .int (nI m)), (2, .int (nI n))] [] (md S D2) := by
      intro hz
      refine X_run rfl ?_ ?_
      · simp [md_s, md_w, rget, r_a, r_b, r_c, r_i, r_l, nI_s1]
      try simp only [md_s, md_w, rget_some, r_a, r_b, r_c, r_i, r_l, r_nx, r_pc, Nat.reduceEqDiff, false_and, if_false, nI_s1]
      refine k _ ⟨hR2, fun j hj => ?_, hO2⟩
      show _ = dbt1 K m n (iter (dbt1 K m) n (fun _ => 0)) j
      rw [hz]
      exact hJ2 j hj
    refine X_run rfl ?_ ?_
    · simp [md_s, md_w, rget, r_a, r_b, r_c, r_i, r_l, hx, hb, hc]
    try simp only [md_s, md_w, rget_some, r_a, r_b, r_c, r_i, r_l, r_nx, r_pc, Nat.reduceEqDiff, false_and, if_false, hx, hb, hc]
    refine X_icmp_ge rfl (fun c1 => no_le c1 hn (by omega)) (fun c1 => ?_)
    refine X_run rfl ?_ ?_
    · simp [md_s, md_w, rget, r_a, r_b, r_c, r_i, r_l, hx, hb]
    try simp only [md_s, md_w, rget_some, r_a, r_b, r_c, r_i, r_l, r_nx, r_pc, Nat.reduceEqDiff, false_and, if_false, hx, hb]
    refine X_cV (args := [.int (nI n)]) rfl (by decide) hb.1 rfl rfl (Nat.le_of_ble_eq_true rfl) (c_paymentAt hL hn2) ?_
    rintro _ _ ⟨rfl, rfl⟩
    refine X_run rfl ?_ ?_
    · simp [md_s, md_w, rget, r_a, r_b, r_c, r_i, r_l, hy, hv]
    try simp only [md_s, md_w, rget_some, r_a, r_b, r_c, r_i, r_l, r_nx, r_pc, Nat.reduceEqDiff, false_and, if_false, hy, hv]
    refine X_if_ne rfl (fun c2 => Eg.sub (skip (by show (if _ then _ else _) = _; rw [if_neg (fun z => c2 z.1)])) ⟨rfl, rfl, rfl, trivial⟩) (fun c2 => ?_)
    refine X_run rfl ?_ ?_
    · simp [md_s, md_w, rget, r_a, r_b, r_c, r_i, r_l, hy, hv]
    try simp only [md_s, md_w, rget_some, r_a, r_b, r_c, r_i, r_l, r_nx, r_pc, Nat.reduceEqDiff, false_and, if_false, hy, hv]
    refine X_icmp_ne rfl (fun c3 => Eg.sub (skip (by show (if _ then _ else _) = _; rw [if_neg (fun z => c3 (by rw [z.2]))])) ⟨rfl, rfl, rfl, trivial⟩) (fun c3 => ?_)
    have c3 : k_mo K n = m := nI_inj (by omega) (by omega) c3
    have hi1 : k_fr K n * 10 + k_to K n < 100 := by omega
    have hi2 : k_to K n * 10 + k_fr K n < 100 := by omega
    refine X_run rfl ?_ ?_
    · simp [md_s, md_w, rget, r_a, r_b, r_c, r_i, r_l, hx, hy, hv, nI_lin]
    try simp only [md_s, md_w, rget_some, r_a, r_b, r_c, r_i, r_l, r_nx, r_pc, Nat.reduceEqDiff, false_and, if_false, hx, hy, hv, nI_lin]
    refine X_cV (args := [.int (nI (k_fr K n * 10 + k_to K n)), .int (k_am K n)]) rfl (by decide) hd.1 rfl rfl (Nat.le_of_ble_eq_true rfl) (c_Row_add hd hi1) ?_
    rintro _ _ ⟨rfl, rfl⟩
    obtain ⟨D3, e3⟩ : ∃ D3, pai D2 (X + 291) (k_fr K n * 10 + k_to K n) (d_ai D2 (X + 291) (k_fr K n * 10 + k_to K n) + k_am K n) = D3 := ⟨_, rfl⟩
    have hO3 : RowO D2 D3 (X + 291) := e3 ▸ RowO.ai
    have hR3 : RepC D3 (X + 11) K := hR2.ro hO3 hW (by omega)
    have hJ3 : ∀ j, d_ai D3 (X + 291) j = if j = k_fr K n * 10 + k_to K n then d_ai D2 (X + 291) (k_fr K n * 10 + k_to K n) + k_am K n else d_ai D2 (X + 291) j := fun j => by
      rw [← e3, rd_ai]
      simp only [true_and]
    rw [e3]
    have hv3 := hR3.2.2.2 n hn
    refine X_run rfl ?_ ?_
    · simp [md_s, md_w, rget, r_a, r_b, r_c, r_i, r_l, hx, hy, hv3, nI_lin]
    try simp only [md_s, md_w, rget_some, r_a, r_b, r_c, r_i, r_l, r_nx, r_pc, Nat.reduceEqDiff, false_and, if_false, hx, hy, hv3, nI_lin]
    refine X_cV (args := [.int (nI (k_to K n * 10 + k_fr K n)), .int (-k_am K n)]) rfl (by decide) hd.1 rfl rfl (Nat.le_of_ble_eq_true rfl) (c_Row_add hd hi2) ?_
    rintro _ _ ⟨rfl, rfl⟩
    obtain ⟨D4, e4⟩ : ∃ D4, pai D3 (X + 291) (k_to K n * 10 + k_fr K n) (d_ai D3 (X + 291) (k_to K n * 10 + k_fr K n) + -k_am K n) = D4 := ⟨_, rfl⟩
    have hO4 : RowO D3 D4 (X + 291) := e4 ▸ RowO.ai
    have hR4 : RepC D4 (X + 11) K := hR3.ro hO4 hW (by omega)
    have hJ4 : ∀ j, d_ai D4 (X + 291) j = if j = k_to K n * 10 + k_fr K n then d_ai D3 (X + 291) (k_to K n * 10 + k_fr K n) + -k_am K n else d_ai D3 (X + 291) j := fun j => by
      rw [← e4, rd_ai]
      simp only [true_and]
    rw [e4]
    refine X_run rfl ?_ ?_
    · simp [md_s, md_w, rget, r_a, r_b, r_c, r_i, r_l, nI_s1]
    try simp only [md_s, md_w, rget_some, r_a, r_b, r_c, r_i, r_l, r_nx, r_pc, Nat.reduceEqDiff, false_and, if_false, nI_s1]
    refine Eg.sub (k _ ⟨hR4, fun j hj => ?_, (hO2.tr hO3).tr hO4⟩) ⟨rfl, rfl, rfl, trivial⟩
    show _ = (if _ then _ else _ : Nat → Int32) j
    rw [if_pos ⟨c2, c3⟩]
    unfold up1
    rw [hJ4, hJ3, hJ3, hJ2 _ hi1]
    by_cases hz : j = k_to K n * 10 + k_fr K n
    · rw [if_pos hz, if_pos hz]
      by_cases hz2 : k_to K n * 10 + k_fr K n = k_fr K n * 10 + k_to K n
      · rw [if_pos hz2, if_pos hz2]
      · rw [if_neg hz2, if_neg hz2, hJ2 _ hi2]
    · rw [if_neg hz, if_neg hz]
      by_cases hz2 : j = k_fr K n * 10 + k_to K n
      · rw [if_pos hz2, if_pos hz2]
      · rw [if_neg hz2, if_neg hz2, hJ2 _ hj]
  · obtain ⟨hR2, hJ2, hO2⟩ := hI
    have hc := hR2.1
    refine X_run rfl ?_ ?_
    · simp [md_s, md_w, rget, r_a, r_b, r_c, r_i, r_l, hx, hb, hc]
    try simp only [md_s, md_w, rget_some, r_a, r_b, r_c, r_i, r_l, r_nx, r_pc, Nat.reduceEqDiff, false_and, if_false, hx, hb, hc]
    refine X_icmp_ge rfl (fun c1 => ?_) (fun c1 => no_nle c1 (Nat.le_refl _) (by omega))
    refine X_run rfl trivial ?_
    exact X_vret rfl rfl ⟨_, rfl, rfl, hR2, hJ2, hO2⟩
theorem c_B_at {r a n l i : Nat} (h : BrL S r a n) (hl : d_fi D 33 r = nI l) (hn : l ≤ n) (hi : i < l) : EvM g d mX1_at 0 0 [.ref r, .int (nI i)] (md S D) (fun v M1 => M1 = md S D ∧ v = some (.int (d_ai D a i &&& 255))) := by
  obtain ⟨h1, h2, h3, h4, h5⟩ := h
  have hi2 : i < 2 ^ 31 := by omega
  refine EvM.mk (by decide) (Nat.le_of_ble_eq_true rfl) ?_
  refine X_run rfl trivial ?_
  refine X_if_lt rfl (fun c0 => no_neg c0 hi2) (fun c0 => ?_)
  refine X_run rfl ?_ ?_
  · simp [md_s, md_w, rget, r_a, r_b, r_c, r_i, r_l, h1, h2, h3, h4, hl]
  try simp only [md_s, md_w, rget_some, r_a, r_b, r_c, r_i, r_l, r_nx, r_pc, Nat.reduceEqDiff, false_and, if_false, h1, h2, h3, h4, hl]
  refine X_icmp_ge rfl (fun c1 => no_le c1 hi (by omega)) (fun c1 => ?_)
  refine X_run rfl ?_ ?_
  · simp [md_s, md_w, rget, r_a, r_b, r_c, r_i, r_l, h1, h2, h3, h4, hl]
  try simp only [md_s, md_w, rget_some, r_a, r_b, r_c, r_i, r_l, r_nx, r_pc, Nat.reduceEqDiff, false_and, if_false, h1, h2, h3, h4, hl]
  refine X_icmp_ge rfl (fun c1 => no_le c1 (show i < n by omega) h5) (fun c1 => ?_)
  refine X_run rfl ?_ ?_
  · simp [md_s, md_w, rget, r_a, r_b, r_c, r_i, r_l, h1, h2, h3, h4, nI_clamp hi2, vp_in_nI (show i < n by omega) h5]
  try simp only [md_s, md_w, rget_some, r_a, r_b, r_c, r_i, r_l, r_nx, r_pc, Nat.reduceEqDiff, false_and, if_false, h1, h2, h3, h4, nI_clamp hi2, vp_in_nI (show i < n by omega) h5]
  exact X_iret rfl rfl ⟨rfl, rfl⟩
theorem c_B_no {r a n l i : Nat} (h : BrL S r a n) (hl : d_fi D 33 r = nI l) (hi : l ≤ i) (hi2 : i < 2 ^ 31) : EvM g d mX1_at 0 0 [.ref r, .int (nI i)] (md S D) (fun v M1 => M1 = md S D ∧ v = some (.int (-1))) := by
  obtain ⟨h1, h2, h3, h4, h5⟩ := h
  refine EvM.mk (by decide) (Nat.le_of_ble_eq_true rfl) ?_
  refine X_run rfl trivial ?_
  refine X_if_lt rfl (fun c0 => no_neg c0 hi2) (fun c0 => ?_)
  refine X_run rfl ?_ ?_
  · simp [md_s, md_w, rget, r_a, r_b, r_c, r_i, r_l, h1, h2, h3, h4, hl]
  try simp only [md_s, md_w, rget_some, r_a, r_b, r_c, r_i, r_l, r_nx, r_pc, Nat.reduceEqDiff, false_and, if_false, h1, h2, h3, h4, hl]
  refine X_icmp_ge rfl (fun c1 => ?_) (fun c1 => no_nle c1 hi hi2)
  refine X_run rfl trivial ?_
  exact X_iret rfl rfl ⟨rfl, rfl⟩
theorem c_B_app {r a n l : Nat} {x : Int32} (h : BrL S r a n) (hl : d_fi D 33 r = nI l) (hn : l < n) : EvM g d mX1_append 0 0 [.ref r, .int x] (md S D) (fun v M1 => v = none ∧ M1 = md S (pfi (pai D a l x.toInt8.toInt32) 33 r (nI (l + 1)))) := by
  obtain ⟨h1, h2, h3, h4, h5⟩ := h
  have hi2 : l < 2 ^ 31 := by omega
  refine EvM.mk (by decide) (Nat.le_of_ble_eq_true rfl) ?_
  refine X_run rfl ?_ ?_
  · simp [md_s, md_w, rget, r_a, r_b, r_c, r_i, r_l, h1, h2, h3, h4, hl]
  try simp only [md_s, md_w, rget_some, r_a, r_b, r_c, r_i, r_l, r_nx, r_pc, Nat.reduceEqDiff, false_and, if_false, h1, h2, h3, h4, hl]
  refine X_if_lt rfl (fun c0 => no_neg c0 hi2) (fun c0 => ?_)
  refine X_run rfl ?_ ?_
  · simp [md_s, md_w, rget, r_a, r_b, r_c, r_i, r_l, h1, h2, h3, h4, hl]
  try simp only [md_s, md_w, rget_some, r_a, r_b, r_c, r_i, r_l, r_nx, r_pc, Nat.reduceEqDiff, false_and, if_false, h1, h2, h3, h4, hl]
  refine X_icmp_ge rfl (fun c1 => no_le c1 hn h5) (fun c1 => ?_)
  refine X_run rfl ?_ ?_
  · simp [md_s, md_w, rget, r_a, r_b, r_c, r_i, r_l, h1, h2, h3, h4, hl, nI_clamp hi2, vp_in_nI hn h5, nar_byte]
  try simp only [md_s, md_w, rget_some, r_a, r_b, r_c, r_i, r_l, r_nx, r_pc, Nat.reduceEqDiff, false_and, if_false, h1, h2, h3, h4, hl, nI_clamp hi2, vp_in_nI hn h5, nar_byte]
  refine X_vret rfl rfl ⟨rfl, ?_⟩
  rw [show d_fi (pai D a l x.toInt8.toInt32) 33 r = nI l from hl, nI_s1]
end DIG
