theorem Eg_up {α : Type} (E : Nat → α → Prop) (I : Nat → α → Prop) (n : Nat) (step : ∀ i x, i < n → I i x → (∀ y, I (i + 1) y → E (i + 1) y) → E i x) (fin : ∀ x, I n x → E n x) : ∀ x, I 0 x → E 0 x := by
  have key : ∀ k, k ≤ n → ∀ x, I (n - k) x → E (n - k) x := by
    intro k
    induction k with
    | zero => intro _ x h; exact fin x h
    | succ k ih =>
      intro hk x h
      have e : n - (k + 1) + 1 = n - k := by omega
      refine step _ x (by omega) h (fun y hy => ?_)
      rw [e] at hy ⊢
      exact ih (by omega) y hy
  have := key n (Nat.le_refl n)
  rwa [Nat.sub_self] at this
/-- the listed locals are among the others -/
def chk (ls : LsT) : LsT → Prop
  | [] => True
  | (k, v) :: t => ldv ls k = some v ∧ chk ls t
theorem chk_in {ls : LsT} : ∀ {ls' : LsT}, chk ls ls' → ∀ q ∈ ls', q ∈ ls
  | [], _, q, h => by cases h
  | (k, v) :: t, ⟨h1, h2⟩, q, h => by
    rcases List.mem_cons.mp h with rfl | h
    · exact ldv_mem h1
    · exact chk_in h2 q h
theorem Eg.sub {g : GG} {d m bc bs pc : Nat} {Z : ZT} {ls ls' : LsT} {st : List Value} {M : Mem} (k : Eg g d m bc bs Z pc ls' st M) (h : chk ls ls') : Eg g d m bc bs Z pc ls st M :=
  fun p e R s mi ar be me cd H lo ce sl lsA C h1 h2 h3 h4 hH hl hL => k p e R s mi ar be me cd H lo ce sl lsA C h1 h2 h3 h4 hH ⟨hl.1, hl.2.1, fun q hq => hl.2.2 q (chk_in h q hq)⟩ hL
/-! what does not change in a book but by telling -/
def skel (K : KT) : Nat × Nat × Nat × (Nat → Nat) × (Nat → Nat) × (Nat → Nat) × (Nat → Option Nat) := (k_np K, k_nm K, k_ny K, k_fr K, k_to K, k_mo K, k_pr K)
theorem skel_wf {K K' : KT} (h : skel K' = skel K) (hW : WfK K) : WfK K' := by
  simp only [skel, Prod.mk.injEq] at h
  obtain ⟨h1, h2, h3, h4, h5, h6, h7⟩ := h
  unfold WfK
  rw [h1, h2, h3, h4, h5, h6, h7]
  exact hW
theorem skel_iter {f : Nat → KT → KT} {K : KT} (hf : ∀ i K, skel (f i K) = skel K) : ∀ n, skel (iter f n K) = skel K := by
  intro n
  induction n with
  | zero => rfl
  | succ n ih => exact (hf n _).trans ih
theorem RepC.ba {D : DaT} {B p m : Nat} {K : KT} (h : RepC D B K) (v : Int32) : RepC (pai D (pa B p + 2) m v) B (ks_ba K (up2n (k_ba K) p m v)) := by
  obtain ⟨h0, hp, hm, hy⟩ := h
  refine ⟨h0, fun p' hpp => ⟨(hp p' hpp).1, fun m' hm' => ⟨?_, ?_⟩⟩, hm, hy⟩
  · rw [rd_ai]
    show _ = up2n (k_ba K) p m v p' m'
    unfold up2n
    by_cases hz : p' = p ∧ m' = m
    · rw [if_pos hz, if_pos ⟨by rw [hz.1], hz.2⟩]
    · rw [if_neg hz, if_neg (fun z => hz ⟨by have := z.1; unfold pa at this; omega, z.2⟩)]
      exact ((hp p' hpp).2 m' hm').1
  · rw [rd_ai, if_neg (by unfold pa; omega)]
    exact ((hp p' hpp).2 m' hm').2
theorem RepC.co {D : DaT} {B p m : Nat} {K : KT} (h : RepC D B K) (v : Int32) : RepC (pai D (pa B p + 4) m v) B (ks_co K (up2n (k_co K) p m v)) := by
  obtain ⟨h0, hp, hm, hy⟩ := h
  refine ⟨h0, fun p' hpp => ⟨(hp p' hpp).1, fun m' hm' => ⟨?_, ?_⟩⟩, hm, hy⟩
  · rw [rd_ai, if_neg (by unfold pa; omega)]
    exact ((hp p' hpp).2 m' hm').1
  · rw [rd_ai]
    show _ = up2n (k_co K) p m v p' m'
    unfold up2n
    by_cases hz : p' = p ∧ m' = m
    · rw [if_pos hz, if_pos ⟨by rw [hz.1], hz.2⟩]
    · rw [if_neg hz, if_neg (fun z => hz ⟨by have := z.1; unfold pa at this; omega, z.2⟩)]
      exact ((hp p' hpp).2 m' hm').2
theorem RepC.df {D : DaT} {B p : Nat} {K : KT} (h : RepC D B K) (v : Bool) : RepC (pfi D 130 (pa B p) (b2i v)) B (ks_df K (up1 (k_df K) p v)) := by
  obtain ⟨h0, hp, hm, hy⟩ := h
  refine ⟨by simp [rd_fi]; exact h0, fun p' hpp => ⟨?_, (hp p' hpp).2⟩, fun m hmm => by simp [rd_fi]; exact hm m hmm, fun n' hn' => by simp [rd_fi]; exact hy n' hn'⟩
  have e := (hp p' hpp).1
  have key : (if p' = p then b2i v else d_fi D 130 (pa B p')) = b2i (up1 (k_df K) p v p') := by
    unfold up1
    split
    · rfl
    · exact e.2.2
  simp only [rd_fi, pa_inj, true_and]
  simp [key]
  exact ⟨e.1, e.2.1, rfl⟩
theorem RepC.rt {D : DaT} {B p : Nat} {K : KT} (h : RepC D B K) (v : Int32) : RepC (pfi D 65 (ma B p) v) B (ks_rt K (up1 (k_rt K) p v)) := by
  obtain ⟨h0, hp, hm, hy⟩ := h
  refine ⟨by simp [rd_fi]; exact h0, fun p' hpp => ⟨by simp [rd_fi]; exact (hp p' hpp).1, (hp p' hpp).2⟩, fun m hmm => ?_, fun n' hn' => by simp [rd_fi]; exact hy n' hn'⟩
  have e := hm m hmm
  have key : (if m = p then v else d_fi D 65 (ma B m)) = up1 (k_rt K) p v m := by
    unfold up1
    split
    · rfl
    · exact e.2.1
  simp only [rd_fi, ma_inj, true_and]
  simp [key]
  exact ⟨e.1, rfl, e.2.2⟩
theorem RepC.day {D : DaT} {B : Nat} {K : KT} (h : RepC D B K) (v : Int32) : RepC (pfi D 6 B v) B (ks_day K v) := by
  obtain ⟨h0, hp, hm, hy⟩ := h
  refine ⟨by simp [rd_fi]; exact ⟨h0.1, h0.2.1, h0.2.2.1, rfl, h0.2.2.2.2⟩, fun p' hpp => ⟨by simp [rd_fi]; exact (hp p' hpp).1, (hp p' hpp).2⟩, fun m hmm => by simp [rd_fi]; exact hm m hmm, fun n' hn' => by simp [rd_fi]; exact hy n' hn'⟩
theorem RepC.hr {D : DaT} {B : Nat} {K : KT} (h : RepC D B K) (v : Int32) : RepC (pfi D 7 B v) B (ks_hr K v) := by
  obtain ⟨h0, hp, hm, hy⟩ := h
  refine ⟨by simp [rd_fi]; exact ⟨h0.1, h0.2.1, h0.2.2.1, h0.2.2.2.1, rfl⟩, fun p' hpp => ⟨by simp [rd_fi]; exact (hp p' hpp).1, (hp p' hpp).2⟩, fun m hmm => by simp [rd_fi]; exact hm m hmm, fun n' hn' => by simp [rd_fi]; exact hy n' hn'⟩
def late (K : KT) (n : Nat) : Bool := decide (k_du K n < k_day K) || (decide (k_du K n = k_day K) && decide (k_ct K (k_mo K n) ≤ k_hr K))
def failK (K : KT) (n : Nat) : KT := ks_ba (ks_st K (up1 (k_st K) n 2)) (up2n (up2n (k_ba K) (k_fr K n) (k_mo K n) (k_ba K (k_fr K n) (k_mo K n) + -(k_am K n / 100))) (k_to K n) (k_mo K n) (up2n (k_ba K) (k_fr K n) (k_mo K n) (k_ba K (k_fr K n) (k_mo K n) + -(k_am K n / 100)) (k_to K n) (k_mo K n) + k_am K n / 100))
section BOOKL
variable {g : GG} {d : Nat} {S : ShT} {D : DaT} {B : Nat} {K : KT}
theorem c_isLate {n : Nat} (hL : BkL S B) (hW : WfK K) (hR : RepC D B K) (hn : n < k_ny K) : EvM g (d + 1) mX0_isLate 0 0 [.ref B, .ref (ya B n)] (md S D) (fun v M1 => M1 = md S D ∧ v = some (.int (b2i (late K n)))) := by
  have hb := hL.1
  obtain ⟨w1, w2, w3, w4⟩ := hW
  have hc := hR.1
  obtain ⟨w5, w6, w7, -⟩ := w4 n hn
  have hy := hL.2.2.2 n (by omega)
  have hv := hR.2.2.2 n hn
  have hm := hL.2.2.1 (k_mo K n) (by omega)
  have hmv := hR.2.2.1 (k_mo K n) w7
  refine EvM.mk (by decide) (Nat.le_of_ble_eq_true rfl) ?_
  refine X_run rfl ?_ ?_
  · simp [md_s, md_w, rget, r_a, r_b, r_c, r_i, r_l, hb, hc, hy, hv]
  try simp only [md_s, md_w, rget_some, r_a, r_b, r_c, r_i, r_l, r_nx, r_pc, hb, hc, hy, hv]
  refine X_icmp_lt rfl (fun c1 => ?_) (fun c1 => ?_)
  · refine X_run rfl trivial ?_
    rw [show late K n = true by simp [late, c1]]
    exact X_zret rfl rfl (Or.inr rfl) ⟨rfl, rfl⟩
  · refine X_run rfl ?_ ?_
    · simp [md_s, md_w, rget, r_a, r_b, r_c, r_i, r_l, hb, hc, hy, hv]
    try simp only [md_s, md_w, rget_some, r_a, r_b, r_c, r_i, r_l, r_nx, r_pc, hb, hc, hy, hv]
    refine X_icmp_ne rfl (fun c2 => ?_) (fun c2 => ?_)
    · refine X_run rfl trivial ?_
      rw [show late K n = false by simp [late, c1, c2]]
      exact X_zret rfl rfl (Or.inl rfl) ⟨rfl, rfl⟩
    · refine X_run rfl ?_ ?_
      · simp [md_s, md_w, rget, r_a, r_b, r_c, r_i, r_l, hb, hc, hy, hv]
      try simp only [md_s, md_w, rget_some, r_a, r_b, r_c, r_i, r_l, r_nx, r_pc, hb, hc, hy, hv]
      refine X_cV (args := [.int (nI (k_mo K n))]) rfl (by decide) hb.1 rfl rfl (Nat.le_of_ble_eq_true rfl) (c_moneyAt hL (show k_mo K n < 5 by omega)) ?_
      rintro _ _ ⟨rfl, rfl⟩
      refine X_run rfl ?_ ?_
      · simp [md_s, md_w, rget, r_a, r_b, r_c, r_i, r_l, hb, hc, hm, hmv]
      try simp only [md_s, md_w, rget_some, r_a, r_b, r_c, r_i, r_l, r_nx, r_pc, hb, hc, hm, hmv]
      refine X_icmp_gt rfl (fun c3 => ?_) (fun c3 => ?_)
      · refine X_run rfl trivial ?_
        rw [show late K n = false by simp [late, c1, Int32.not_le.mpr c3]]
        exact X_zret rfl rfl (Or.inl rfl) ⟨rfl, rfl⟩
      · refine X_run rfl trivial ?_
        rw [show late K n = true by simp [late, c2, Int32.not_lt.mp c3]]
        exact X_zret rfl rfl (Or.inr rfl) ⟨rfl, rfl⟩
theorem c_fail {n : Nat} (hL : BkL S B) (hW : WfK K) (hR : RepC D B K) (hn : n < k_ny K) : EvM g (d + 1) mX0_fail 0 0 [.ref B, .ref (ya B n)] (md S D) (fun v M1 => ∃ D1, v = none ∧ M1 = md S D1 ∧ RepC D1 B (failK K n) ∧ Out B (B + 139) D D1) := by
  have hb := hL.1
  have hy := hL.2.2.2 n (by have := hW.2.2.1; omega)
  obtain ⟨D1, hD1⟩ : ∃ D1, pfi D 166 (ya B n) 2 = D1 := ⟨_, rfl⟩
  have hR1 := hR.st (n := n) 2
  have hO1 : Out B (B + 139) D (pfi D 166 (ya B n) 2) := Out.fi (by have := hW.2.2.1; unfold ya; omega)
  rw [hD1] at hR1 hO1
  obtain ⟨K1, hK1⟩ : ∃ K1, ks_st K (up1 (k_st K) n 2) = K1 := ⟨_, rfl⟩
  rw [hK1] at hR1
  have hW1 : WfK K1 := hK1 ▸ hW
  have hn1 : n < k_ny K1 := hK1 ▸ hn
  have hF : failK K n = ks_ba K1 (up2n (up2n (k_ba K1) (k_fr K1 n) (k_mo K1 n) (k_ba K1 (k_fr K1 n) (k_mo K1 n) + -(k_am K1 n / 100))) (k_to K1 n) (k_mo K1 n) (up2n (k_ba K1) (k_fr K1 n) (k_mo K1 n) (k_ba K1 (k_fr K1 n) (k_mo K1 n) + -(k_am K1 n / 100)) (k_to K1 n) (k_mo K1 n) + k_am K1 n / 100)) := by subst hK1; rfl
  rw [hF]
  obtain ⟨w1, w2, w3, w4⟩ := hW1
  obtain ⟨w5, w6, w7, -⟩ := w4 n hn1
  have hv := hR1.2.2.2 n hn1
  obtain ⟨hq1, hr1, -⟩ := hL.2.1 (k_fr K1 n) (by omega)
  obtain ⟨hq2, hr2, -⟩ := hL.2.1 (k_to K1 n) (by omega)
  have hm5 : k_mo K1 n < 5 := by omega
  refine EvM.mk (by decide) (Nat.le_of_ble_eq_true rfl) ?_
  refine X_run rfl ?_ ?_
  · simp [md_s, md_w, rget, r_a, r_b, r_c, r_i, r_l, hb, hy, hD1, hv]
  try simp only [md_s, md_w, rget_some, r_a, r_b, r_c, r_i, r_l, r_nx, r_pc, hb, hy, hD1, hv]
  refine X_cV (args := [.int (nI (k_fr K1 n))]) rfl (by decide) hb.1 rfl rfl (Nat.le_of_ble_eq_true rfl) (c_partyAt hL (show k_fr K1 n < 10 by omega)) ?_
  rintro _ _ ⟨rfl, rfl⟩
  refine X_run rfl ?_ ?_
  · simp [md_s, md_w, rget, r_a, r_b, r_c, r_i, r_l, hy, hq1, hv]
  try simp only [md_s, md_w, rget_some, r_a, r_b, r_c, r_i, r_l, r_nx, r_pc, hy, hq1, hv]
  refine X_cV (args := [.int (nI (k_mo K1 n)), .int (-(k_am K1 n / 100))]) rfl (by decide) hr1.1 rfl rfl (Nat.le_of_ble_eq_true rfl) (c_Row_add hr1 hm5) ?_
  rintro _ _ ⟨rfl, rfl⟩
  obtain ⟨D2, hD2⟩ : ∃ D2, pai D1 (pa B (k_fr K1 n) + 2) (k_mo K1 n) (d_ai D1 (pa B (k_fr K1 n) + 2) (k_mo K1 n) + -(k_am K1 n / 100)) = D2 := ⟨_, rfl⟩
  have hR2 := hR1.ba (p := k_fr K1 n) (m := k_mo K1 n) (d_ai D1 (pa B (k_fr K1 n) + 2) (k_mo K1 n) + -(k_am K1 n / 100))
  have hO2 : Out B (B + 139) D1 (pai D1 (pa B (k_fr K1 n) + 2) (k_mo K1 n) (d_ai D1 (pa B (k_fr K1 n) + 2) (k_mo K1 n) + -(k_am K1 n / 100))) := Out.ai (by unfold pa; omega)
  rw [hD2] at hR2 hO2
  rw [((hR1.2.1 (k_fr K1 n) w5).2 (k_mo K1 n) hm5).1] at hR2
  have hv2 := hR2.2.2.2 n hn1
  rw [hD2]
  refine X_run rfl ?_ ?_
  · simp [md_s, md_w, rget, r_a, r_b, r_c, r_i, r_l, hy, hb, hv2.2.1]
  try simp only [md_s, md_w, rget_some, r_a, r_b, r_c, r_i, r_l, r_nx, r_pc, hy, hb, hv2.2.1]
  refine X_cV (args := [.int (nI (k_to K1 n))]) rfl (by decide) hb.1 rfl rfl (Nat.le_of_ble_eq_true rfl) (c_partyAt hL (show k_to K1 n < 10 by omega)) ?_
  rintro _ _ ⟨rfl, rfl⟩
  refine X_run rfl ?_ ?_
  · simp [md_s, md_w, rget, r_a, r_b, r_c, r_i, r_l, hy, hq2, hv2.2.2.2.1]
  try simp only [md_s, md_w, rget_some, r_a, r_b, r_c, r_i, r_l, r_nx, r_pc, hy, hq2, hv2.2.2.2.1]
  refine X_cV (args := [.int (nI (k_mo K1 n)), .int (k_am K1 n / 100)]) rfl (by decide) hr2.1 rfl rfl (Nat.le_of_ble_eq_true rfl) (c_Row_add hr2 hm5) ?_
  rintro _ _ ⟨rfl, rfl⟩
  have hR3 := hR2.ba (p := k_to K1 n) (m := k_mo K1 n) (d_ai D2 (pa B (k_to K1 n) + 2) (k_mo K1 n) + k_am K1 n / 100)
  have hO3 : Out B (B + 139) D2 (pai D2 (pa B (k_to K1 n) + 2) (k_mo K1 n) (d_ai D2 (pa B (k_to K1 n) + 2) (k_mo K1 n) + k_am K1 n / 100)) := Out.ai (by unfold pa; omega)
  refine X_run rfl trivial ?_
  refine X_vret rfl rfl ⟨_, rfl, rfl, ?_, (hO1.tr hO2).tr hO3⟩
  rw [((hR2.2.1 (k_to K1 n) w6).2 (k_mo K1 n) hm5).1] at hR3 ⊢
  exact hR3
end BOOKL
