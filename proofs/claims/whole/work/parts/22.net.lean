/-! a run, as numbers -/
def ready (K : KT) (n : Nat) : Bool := decide (k_st K n = 0) && (decide (k_du K n = k_day K) && (!(k_he K n) && (decide (k_hr K < k_ct K (k_mo K n)) && (!(k_df K (k_fr K n)) && !(k_df K (k_to K n))))))
def takes0 (K : KT) (n : Nat) : Bool := ready K n && (match k_pr K n with | none => true | some q => ready K q)
def mvN (K : KT) (nt : Nat → Nat → Int32) (n : Nat) (x : Int32) : Nat → Nat → Int32 := up2n (up2n nt (k_fr K n) (k_mo K n) (nt (k_fr K n) (k_mo K n) + -x)) (k_to K n) (k_mo K n) (up2n nt (k_fr K n) (k_mo K n) (nt (k_fr K n) (k_mo K n) + -x) (k_to K n) (k_mo K n) + x)
def net0 (K : KT) (i : Nat) : Nat → Nat → Int32 := iter (fun n nt => if takes0 K n = true then mvN K nt n (k_am K n) else nt) i (k_ba K)
def short (K : KT) (nt : Nat → Nat → Int32) (p : Nat) : Bool := decide (limit K p < expo K (nt p)) && decide (expo K (k_ba K p) < expo K (nt p))
def ScT (D : DaT) (B : Nat) (tk : Nat → Bool) (i : Nat) : Prop := ∀ n, n < i → d_fi D 169 (ya B n) = b2i (tk n)
def ScN (D : DaT) (B : Nat) (nt : Nat → Nat → Int32) (i : Nat) : Prop := ∀ p, p < i → ∀ m, m < 5 → d_ai D (pa B p + 6) m = nt p m
def ScL (D : DaT) (B : Nat) (K : KT) (i : Nat) : Prop := ∀ p, p < i → d_fl D 134 (pa B p) = limit K p ∧ d_fl D 135 (pa B p) = expo K (k_ba K p)
def ScS (D : DaT) (B : Nat) (sh : Nat → Bool) (i : Nat) : Prop := ∀ p, p < i → d_fi D 136 (pa B p) = b2i (sh p)
def Run (D : DaT) (B : Nat) (K : KT) (tk : Nat → Bool) (nt : Nat → Nat → Int32) : Prop := ScT D B tk (k_ny K) ∧ ScN D B nt (k_np K) ∧ ScL D B K (k_np K) ∧ ScS D B (short K nt) (k_np K)
theorem RepC.s169 {D : DaT} {B n : Nat} {K : KT} {v : Int32} (h : RepC D B K) : RepC (pfi D 169 (ya B n) v) B K := by
  obtain ⟨h0, hp, hm, hy⟩ := h
  exact ⟨by simp [rd_fi]; exact h0, fun p' hpp => ⟨by simp [rd_fi]; exact (hp p' hpp).1, (hp p' hpp).2⟩, fun m hmm => by simp [rd_fi]; exact hm m hmm, fun n' hn' => by simp [rd_fi]; exact hy n' hn'⟩
theorem RepC.s136 {D : DaT} {B n : Nat} {K : KT} {v : Int32} (h : RepC D B K) : RepC (pfi D 136 (pa B n) v) B K := by
  obtain ⟨h0, hp, hm, hy⟩ := h
  exact ⟨by simp [rd_fi]; exact h0, fun p' hpp => ⟨by simp [rd_fi]; exact (hp p' hpp).1, (hp p' hpp).2⟩, fun m hmm => by simp [rd_fi]; exact hm m hmm, fun n' hn' => by simp [rd_fi]; exact hy n' hn'⟩
theorem RepC.sfl {D : DaT} {B n k : Nat} {K : KT} {v : Int64} (h : RepC D B K) (hk : k = 134 ∨ k = 135) : RepC (pfl D k (pa B n) v) B K := by
  obtain ⟨h0, hp, hm, hy⟩ := h
  refine ⟨h0, fun p' hpp => ⟨?_, (hp p' hpp).2⟩, fun m hmm => ?_, fun n' hn' => hy n' hn'⟩
  · rw [rd_fl, if_neg (by omega)]; exact (hp p' hpp).1
  · rw [rd_fl, if_neg (by omega)]; exact hm m hmm
theorem RepC.sai {D D1 : DaT} {B : Nat} {K : KT} (h : RepC D B K) (h1 : d_fi D1 = d_fi D) (h2 : d_fl D1 = d_fl D) (h3 : ∀ p, p < k_np K → d_ai D1 (pa B p + 2) = d_ai D (pa B p + 2) ∧ d_ai D1 (pa B p + 4) = d_ai D (pa B p + 4)) : RepC D1 B K := by
  obtain ⟨h0, hp, hm, hy⟩ := h
  unfold RepC
  rw [h1, h2]
  refine ⟨h0, fun p' hpp => ⟨(hp p' hpp).1, fun m hm => ?_⟩, hm, hy⟩
  rw [(h3 p' hpp).1, (h3 p' hpp).2]
  exact (hp p' hpp).2 m hm
def NtL (S : ShT) (N B : Nat) : Prop := s_tg S N = 4 ∧ s_fr S 96 N = some B
section NETA
variable {g : GG} {d : Nat} {S : ShT} {D : DaT} {B N : Nat} {K : KT}
theorem c_canTakePart {n : Nat} (hN : NtL S N B) (hL : BkL S B) (hW : WfK K) (hR : RepC D B K) (hn : n < k_ny K) : EvM g (d + 1) mX3_canTakePart 0 0 [.ref N, .ref (ya B n)] (md S D) (fun v M1 => M1 = md S D ∧ v = some (.int (b2i (ready K n)))) := by
  have hb := hL.1
  have hn0 := hN
  unfold NtL at hn0
  obtain ⟨w1, w2, w3, w4⟩ := hW
  have hc := hR.1
  obtain ⟨w5, w6, w7, -⟩ := w4 n hn
  have hy := hL.2.2.2 n (by omega)
  have hv := hR.2.2.2 n hn
  have hm := hL.2.2.1 (k_mo K n) (by omega)
  have hmv := hR.2.2.1 (k_mo K n) w7
  have hp1 := (hL.2.1 (k_fr K n) (by omega)).1
  have hp2 := (hL.2.1 (k_to K n) (by omega)).1
  have hv1 := (hR.2.1 (k_fr K n) w5).1
  have hv2 := (hR.2.1 (k_to K n) w6).1
  have no : ready K n = false → Eg g (d + 1) mX3_canTakePart 0 0 (Zr g (fun v M1 => M1 = md S D ∧ v = some (.int (b2i (ready K n))))) 90 [] [] (md S D) := by
    intro hz
    rw [hz]
    refine X_run rfl trivial ?_
    exact X_zret rfl rfl (Or.inl rfl) ⟨rfl, rfl⟩
  refine EvM.mk (by decide) (Nat.le_of_ble_eq_true rfl) ?_
  refine X_run rfl ?_ ?_
  · simp [md_s, md_w, rget, r_a, r_b, r_c, r_i, r_l, hy, hv]
  try simp only [md_s, md_w, rget_some, r_a, r_b, r_c, r_i, r_l, r_nx, r_pc, Nat.reduceEqDiff, false_and, if_false, hy, hv]
  refine X_if_ne rfl (fun c1 => Eg.sub (no (by simp [ready, c1])) trivial) (fun c1 => ?_)
  refine X_run rfl ?_ ?_
  · simp [md_s, md_w, rget, r_a, r_b, r_c, r_i, r_l, hn0, hb, hc, hy, hv]
  try simp only [md_s, md_w, rget_some, r_a, r_b, r_c, r_i, r_l, r_nx, r_pc, Nat.reduceEqDiff, false_and, if_false, hn0, hb, hc, hy, hv]
  refine X_icmp_ne rfl (fun c2 => Eg.sub (no (by simp [ready, c2])) trivial) (fun c2 => ?_)
  refine X_run rfl ?_ ?_
  · simp [md_s, md_w, rget, r_a, r_b, r_c, r_i, r_l, hn0, hb, hc, hy, hv]
  try simp only [md_s, md_w, rget_some, r_a, r_b, r_c, r_i, r_l, r_nx, r_pc, Nat.reduceEqDiff, false_and, if_false, hn0, hb, hc, hy, hv]
  refine X_if_ne rfl (fun c3 => Eg.sub (no (by cases hz : k_he K n with | true => simp [ready, hz] | false => exact absurd (b2i_zero.mpr hz) c3)) trivial) (fun c3 => ?_)
  have c3 := b2i_zero.mp c3
  refine X_run rfl ?_ ?_
  · simp [md_s, md_w, rget, r_a, r_b, r_c, r_i, r_l, hn0, hb, hy, hv]
  try simp only [md_s, md_w, rget_some, r_a, r_b, r_c, r_i, r_l, r_nx, r_pc, Nat.reduceEqDiff, false_and, if_false, hn0, hb, hy, hv]
  refine X_cV (args := [.int (nI (k_mo K n))]) rfl (by decide) hb.1 rfl rfl (Nat.le_of_ble_eq_true rfl) (c_moneyAt hL (show k_mo K n < 5 by omega)) ?_
  rintro _ _ ⟨rfl, rfl⟩
  refine X_run rfl ?_ ?_
  · simp [md_s, md_w, rget, r_a, r_b, r_c, r_i, r_l, hn0, hb, hc, hm, hmv]
  try simp only [md_s, md_w, rget_some, r_a, r_b, r_c, r_i, r_l, r_nx, r_pc, Nat.reduceEqDiff, false_and, if_false, hn0, hb, hc, hm, hmv]
  refine X_icmp_le rfl (fun c4 => Eg.sub (no (by simp [ready, Int32.not_lt.mpr c4])) trivial) (fun c4 => ?_)
  refine X_run rfl ?_ ?_
  · simp [md_s, md_w, rget, r_a, r_b, r_c, r_i, r_l, hn0, hb, hy, hv]
  try simp only [md_s, md_w, rget_some, r_a, r_b, r_c, r_i, r_l, r_nx, r_pc, Nat.reduceEqDiff, false_and, if_false, hn0, hb, hy, hv]
  refine X_cV (args := [.int (nI (k_fr K n))]) rfl (by decide) hb.1 rfl rfl (Nat.le_of_ble_eq_true rfl) (c_partyAt hL (show k_fr K n < 10 by omega)) ?_
  rintro _ _ ⟨rfl, rfl⟩
  refine X_run rfl ?_ ?_
  · simp [md_s, md_w, rget, r_a, r_b, r_c, r_i, r_l, hp1, hv1]
  try simp only [md_s, md_w, rget_some, r_a, r_b, r_c, r_i, r_l, r_nx, r_pc, Nat.reduceEqDiff, false_and, if_false, hp1, hv1]
  refine X_if_ne rfl (fun c5 => Eg.sub (no (by cases hz : k_df K (k_fr K n) with | true => simp [ready, hz] | false => exact absurd (b2i_zero.mpr hz) c5)) trivial) (fun c5 => ?_)
  have c5 := b2i_zero.mp c5
  refine X_run rfl ?_ ?_
  · simp [md_s, md_w, rget, r_a, r_b, r_c, r_i, r_l, hn0, hb, hy, hv]
  try simp only [md_s, md_w, rget_some, r_a, r_b, r_c, r_i, r_l, r_nx, r_pc, Nat.reduceEqDiff, false_and, if_false, hn0, hb, hy, hv]
  refine X_cV (args := [.int (nI (k_to K n))]) rfl (by decide) hb.1 rfl rfl (Nat.le_of_ble_eq_true rfl) (c_partyAt hL (show k_to K n < 10 by omega)) ?_
  rintro _ _ ⟨rfl, rfl⟩
  refine X_run rfl ?_ ?_
  · simp [md_s, md_w, rget, r_a, r_b, r_c, r_i, r_l, hp2, hv2]
  try simp only [md_s, md_w, rget_some, r_a, r_b, r_c, r_i, r_l, r_nx, r_pc, Nat.reduceEqDiff, false_and, if_false, hp2, hv2]
  refine X_if_ne rfl (fun c6 => Eg.sub (no (by cases hz : k_df K (k_to K n) with | true => simp [ready, hz] | false => exact absurd (b2i_zero.mpr hz) c6)) trivial) (fun c6 => ?_)
  have c6 := b2i_zero.mp c6
  refine X_run rfl trivial ?_
  refine X_zret rfl rfl (Or.inr rfl) ⟨rfl, ?_⟩
  rw [show ready K n = true by simp [ready, c1, c2, c3, Int32.not_le.mp c4, c5, c6]]
  rfl
theorem c_moveNetted {n : Nat} {x : Int32} {nt : Nat → Nat → Int32} (hN : NtL S N B) (hL : BkL S B) (hW : WfK K) (hR : RepC D B K) (hn : n < k_ny K) (hS : ScN D B nt (k_np K)) : EvM g (d + 1) mX3_moveNetted 0 0 [.ref N, .ref (ya B n), .int x] (md S D) (fun v M1 => ∃ D1, v = none ∧ M1 = md S D1 ∧ RepC D1 B K ∧ ScN D1 B (mvN K nt n x) (k_np K) ∧ d_fi D1 = d_fi D ∧ d_fl D1 = d_fl D ∧ Out B (B + 139) D D1) := by
  have hb := hL.1
  have hn0 := hN
  unfold NtL at hn0
  obtain ⟨w1, w2, w3, w4⟩ := hW
  obtain ⟨w5, w6, w7, -⟩ := w4 n hn
  have hy := hL.2.2.2 n (by omega)
  have hv := hR.2.2.2 n hn
  obtain ⟨hq1, -, -, hr1⟩ := hL.2.1 (k_fr K n) (by omega)
  obtain ⟨hq2, -, -, hr2⟩ := hL.2.1 (k_to K n) (by omega)
  have hm5 : k_mo K n < 5 := by omega
  have step : ∀ (D : DaT) (nt : Nat → Nat → Int32) (p : Nat) (y : Int32), p < k_np K → RepC D B K → ScN D B nt (k_np K) → RepC (pai D (pa B p + 6) (k_mo K n) (d_ai D (pa B p + 6) (k_mo K n) + y)) B K ∧ ScN (pai D (pa B p + 6) (k_mo K n) (d_ai D (pa B p + 6) (k_mo K n) + y)) B (up2n nt p (k_mo K n) (nt p (k_mo K n) + y)) (k_np K) ∧ Out B (B + 139) D (pai D (pa B p + 6) (k_mo K n) (d_ai D (pa B p + 6) (k_mo K n) + y)) := by
    intro D nt p y hp hR hS
    refine ⟨hR.sai rfl rfl (fun p' hp' => ⟨up2_ne (by unfold pa; omega), up2_ne (by unfold pa; omega)⟩), fun p' hp' m hm => ?_, Out.ai (by unfold pa; omega)⟩
    rw [rd_ai, hS p hp _ hm5]
    unfold up2n
    by_cases hz : p' = p ∧ m = k_mo K n
    · rw [if_pos ⟨by rw [hz.1], hz.2⟩, if_pos hz]
    · rw [if_neg (fun z => hz ⟨by have := z.1; unfold pa at this; omega, z.2⟩), if_neg hz]
      exact hS p' hp' m hm
  refine EvM.mk (by decide) (Nat.le_of_ble_eq_true rfl) ?_
  refine X_run rfl ?_ ?_
  · simp [md_s, md_w, rget, r_a, r_b, r_c, r_i, r_l, hn0, hb, hy, hv]
  try simp only [md_s, md_w, rget_some, r_a, r_b, r_c, r_i, r_l, r_nx, r_pc, Nat.reduceEqDiff, false_and, if_false, hn0, hb, hy, hv]
  refine X_cV (args := [.int (nI (k_fr K n))]) rfl (by decide) hb.1 rfl rfl (Nat.le_of_ble_eq_true rfl) (c_partyAt hL (show k_fr K n < 10 by omega)) ?_
  rintro _ _ ⟨rfl, rfl⟩
  refine X_run rfl ?_ ?_
  · simp [md_s, md_w, rget, r_a, r_b, r_c, r_i, r_l, hy, hq1, hv]
  try simp only [md_s, md_w, rget_some, r_a, r_b, r_c, r_i, r_l, r_nx, r_pc, Nat.reduceEqDiff, false_and, if_false, hy, hq1, hv]
  refine X_cV (args := [.int (nI (k_mo K n)), .int (-x)]) rfl (by decide) hr1.1 rfl rfl (Nat.le_of_ble_eq_true rfl) (c_Row_add hr1 hm5) ?_
  rintro _ _ ⟨rfl, rfl⟩
  obtain ⟨hR2, hS2, hO2⟩ := step D nt (k_fr K n) (-x) w5 hR hS
  obtain ⟨D2, hD2⟩ : ∃ D2, pai D (pa B (k_fr K n) + 6) (k_mo K n) (d_ai D (pa B (k_fr K n) + 6) (k_mo K n) + -x) = D2 := ⟨_, rfl⟩
  have hfi : d_fi D2 = d_fi D := by rw [← hD2]; rfl
  have hfl : d_fl D2 = d_fl D := by rw [← hD2]; rfl
  rw [hD2] at hR2 hS2 hO2 ⊢
  have hv2 := hR2.2.2.2 n hn
  refine X_run rfl ?_ ?_
  · simp [md_s, md_w, rget, r_a, r_b, r_c, r_i, r_l, hn0, hb, hy, hv2]
  try simp only [md_s, md_w, rget_some, r_a, r_b, r_c, r_i, r_l, r_nx, r_pc, Nat.reduceEqDiff, false_and, if_false, hn0, hb, hy, hv2]
  refine X_cV (args := [.int (nI (k_to K n))]) rfl (by decide) hb.1 rfl rfl (Nat.le_of_ble_eq_true rfl) (c_partyAt hL (show k_to K n < 10 by omega)) ?_
  rintro _ _ ⟨rfl, rfl⟩
  refine X_run rfl ?_ ?_
  · simp [md_s, md_w, rget, r_a, r_b, r_c, r_i, r_l, hy, hq2, hv2]
  try simp only [md_s, md_w, rget_some, r_a, r_b, r_c, r_i, r_l, r_nx, r_pc, Nat.reduceEqDiff, false_and, if_false, hy, hq2, hv2]
  refine X_cV (args := [.int (nI (k_mo K n)), .int x]) rfl (by decide) hr2.1 rfl rfl (Nat.le_of_ble_eq_true rfl) (c_Row_add hr2 hm5) ?_
  rintro _ _ ⟨rfl, rfl⟩
  obtain ⟨hR3, hS3, hO3⟩ := step D2 _ (k_to K n) x w6 hR2 hS2
  refine X_run rfl trivial ?_
  exact X_vret rfl rfl ⟨_, rfl, rfl, hR3, hS3, hfi, hfl, hO2.tr hO3⟩
theorem c_lookShort {p : Nat} {nt : Nat → Nat → Int32} (hN : NtL S N B) (hL : BkL S B) (hW : WfK K) (hR : RepC D B K) (hp : p < k_np K) (hS : ScN D B nt (k_np K)) (hSL : ScL D B K (k_np K)) : EvM g (d + 1) mX3_lookWhetherShort 0 0 [.ref N, .ref (pa B p)] (md S D) (fun v M1 => v = none ∧ M1 = md S (pfi D 136 (pa B p) (b2i (short K nt p)))) := by
  have hb := hL.1
  have hn0 := hN
  unfold NtL at hn0
  have hW' := hW
  obtain ⟨w1, w2, w3, w4⟩ := hW
  obtain ⟨hq, -, -, hr⟩ := hL.2.1 p (by omega)
  have hl := hSL p hp
  refine EvM.mk (by decide) (Nat.le_of_ble_eq_true rfl) ?_
  refine X_run rfl ?_ ?_
  · simp [md_s, md_w, rget, r_a, r_b, r_c, r_i, r_l, hn0, hb, hq]
  try simp only [md_s, md_w, rget_some, r_a, r_b, r_c, r_i, r_l, r_nx, r_pc, Nat.reduceEqDiff, false_and, if_false, hn0, hb, hq]
  refine X_cV (args := [.ref (pa B p + 5)]) rfl (by decide) hb.1 rfl rfl (Nat.le_of_ble_eq_true rfl) (c_exposureOf (f := nt p) hL hW' hR hr (fun m hm => hS p hp m (by omega))) ?_
  rintro _ _ ⟨rfl, rfl⟩
  refine X_run rfl ?_ ?_
  · simp [md_s, md_w, rget, r_a, r_b, r_c, r_i, r_l, hq, hl]
  try simp only [md_s, md_w, rget_some, r_a, r_b, r_c, r_i, r_l, r_nx, r_pc, Nat.reduceEqDiff, false_and, if_false, hq, hl]
  refine X_if_le rfl (fun c1 => ?_) (fun c1 => ?_)
  · refine X_run rfl ?_ ?_
    · simp [md_s, md_w, rget, r_a, r_b, r_c, r_i, r_l, hq]
    try simp only [md_s, md_w, rget_some, r_a, r_b, r_c, r_i, r_l, r_nx, r_pc, Nat.reduceEqDiff, false_and, if_false, hq]
    rw [show short K nt p = false by simp [short, Int64.not_lt.mpr ((lg_cmp_le _ _).mp c1)]]
    exact X_vret rfl rfl ⟨rfl, rfl⟩
  · have c1' : limit K p < expo K (nt p) := Int64.not_le.mp (fun z => c1 ((lg_cmp_le _ _).mpr z))
    refine X_run rfl ?_ ?_
    · simp [md_s, md_w, rget, r_a, r_b, r_c, r_i, r_l, hq, hl]
    try simp only [md_s, md_w, rget_some, r_a, r_b, r_c, r_i, r_l, r_nx, r_pc, Nat.reduceEqDiff, false_and, if_false, hq, hl]
    refine X_if_le rfl (fun c2 => ?_) (fun c2 => ?_)
    · refine X_run rfl ?_ ?_
      · simp [md_s, md_w, rget, r_a, r_b, r_c, r_i, r_l, hq]
      try simp only [md_s, md_w, rget_some, r_a, r_b, r_c, r_i, r_l, r_nx, r_pc, Nat.reduceEqDiff, false_and, if_false, hq]
      rw [show short K nt p = false by simp [short, Int64.not_lt.mpr ((lg_cmp_le _ _).mp c2)]]
      exact X_vret rfl rfl ⟨rfl, rfl⟩
    · have c2' : expo K (k_ba K p) < expo K (nt p) := Int64.not_le.mp (fun z => c2 ((lg_cmp_le _ _).mpr z))
      refine X_run rfl ?_ ?_
      · simp [md_s, md_w, rget, r_a, r_b, r_c, r_i, r_l, hq]
      try simp only [md_s, md_w, rget_some, r_a, r_b, r_c, r_i, r_l, r_nx, r_pc, Nat.reduceEqDiff, false_and, if_false, hq]
      rw [show short K nt p = true by simp [short, c1', c2']]
      exact X_vret rfl rfl ⟨rfl, rfl⟩
end NETA
