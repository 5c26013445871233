def addP (K : KT) (w : List Nat) (li : Int32) : KT := ((k_day K, k_hr K, k_np K + 1, k_nm K, k_ny K), (up1 (k_pn K) (k_np K) w, up1 (k_li K) (k_np K) li, up1 (k_df K) (k_np K) false, (fun p m => if p = k_np K then 0 else k_ba K p m), (fun p m => if p = k_np K then 0 else k_co K p m)), K.2.2)
def addM (K : KT) (w : List Nat) (r c : Int32) : KT := ((k_day K, k_hr K, k_np K, k_nm K + 1, k_ny K), K.2.1, (up1 (k_mn K) (k_nm K) w, up1 (k_rt K) (k_nm K) r, up1 (k_ct K) (k_nm K) c), K.2.2.2)
def addY (K : KT) (f t : Nat) (a : Int32) (m : Nat) (du : Int32) : KT := ((k_day K, k_hr K, k_np K, k_nm K, k_ny K + 1), K.2.1, K.2.2.1, (up1 (k_fr K) (k_ny K) f, up1 (k_to K) (k_ny K) t, up1 (k_am K) (k_ny K) a, up1 (k_mo K) (k_ny K) m, up1 (k_du K) (k_ny K) du, up1 (k_pr K) (k_ny K) none, up1 (k_st K) (k_ny K) 0, up1 (k_se K) (k_ny K) (-1), up1 (k_he K) (k_ny K) false))
theorem up1_same {α : Type} {f : Nat → α} {k : Nat} {v : α} : up1 f k v k = v := by simp [up1]
theorem up1_ne {α : Type} {f : Nat → α} {k j : Nat} {v : α} (h : j ≠ k) : up1 f k v j = f j := by simp [up1, h]
/-- a write, by what is read behind it -/
theorem wr_fi (D : DaT) (k a : Nat) (v : Int32) : ∃ D1 : DaT, pfi D k a v = D1 ∧ (∀ k' a', d_fi D1 k' a' = if k' = k ∧ a' = a then v else d_fi D k' a') ∧ d_fl D1 = d_fl D ∧ d_ai D1 = d_ai D ∧ d_al D1 = d_al D := ⟨_, rfl, fun _ _ => rfl, rfl, rfl, rfl⟩
theorem wr_fl (D : DaT) (k a : Nat) (v : Int64) : ∃ D1 : DaT, pfl D k a v = D1 ∧ (∀ k' a', d_fl D1 k' a' = if k' = k ∧ a' = a then v else d_fl D k' a') ∧ d_fi D1 = d_fi D ∧ d_ai D1 = d_ai D ∧ d_al D1 = d_al D := ⟨_, rfl, fun _ _ => rfl, rfl, rfl, rfl⟩
section ADDS
variable {g : GG} {d : Nat} {S : ShT} {D : DaT} {B : Nat} {K : KT}
theorem c_addParty {w : List Nat} {li : Int32} (hL : BkL S B) (hW : WfK K) (hR : RepC D B K) (hp : k_np K < 10) : EvM g (d + 1) mX0_addParty 0 0 [.ref B, .long (asc w), .int li] (md S D) (fun v M1 => ∃ D1, v = none ∧ M1 = md S D1 ∧ RepC D1 B (addP K w li) ∧ Out B (B + 139) D D1) := by
  have hb := hL.1
  have hc := hR.1
  obtain ⟨w1, w2, w3, -⟩ := hW
  obtain ⟨hq, hr1, hr2, -⟩ := hL.2.1 (k_np K) hp
  obtain ⟨D3, hD3⟩ : ∃ D3, pfi (pfi (pfl D 128 (pa B (k_np K)) (asc w)) 129 (pa B (k_np K)) li) 130 (pa B (k_np K)) 0 = D3 := ⟨_, rfl⟩
  refine EvM.mk (by decide) (Nat.le_of_ble_eq_true rfl) ?_
  refine X_run rfl ?_ ?_
  · simp [md_s, md_w, rget, r_a, r_b, r_c, r_i, r_l, hb, hc]
  try simp only [md_s, md_w, rget_some, r_a, r_b, r_c, r_i, r_l, r_nx, r_pc, hb, hc]
  refine X_cV (args := [.int (nI (k_np K))]) rfl (by decide) hb.1 rfl rfl (Nat.le_of_ble_eq_true rfl) (c_partyAt hL hp) ?_
  rintro _ _ ⟨rfl, rfl⟩
  refine X_run rfl ?_ ?_
  · simp [md_s, md_w, rget, r_a, r_b, r_c, r_i, r_l, hq, hD3]
  try simp only [md_s, md_w, rget_some, r_a, r_b, r_c, r_i, r_l, r_nx, r_pc, hq, hD3]
  refine X_cV (args := []) rfl (by decide) hr1.1 rfl rfl (Nat.le_of_ble_eq_true rfl) (c_clear hr1) ?_
  rintro _ _ ⟨D4, rfl, rfl, e1, e2, e3, e4⟩
  refine X_run rfl ?_ ?_
  · simp [md_s, md_w, rget, r_a, r_b, r_c, r_i, r_l, hq]
  try simp only [md_s, md_w, rget_some, r_a, r_b, r_c, r_i, r_l, r_nx, r_pc, hq]
  refine X_cV (args := []) rfl (by decide) hr2.1 rfl rfl (Nat.le_of_ble_eq_true rfl) (c_clear hr2) ?_
  rintro _ _ ⟨D5, rfl, rfl, f1, f2, f3, f4⟩
  have h3 : d_fi D5 3 B = nI (k_np K) := by
    rw [f1, e1, ← hD3]
    simp [rd_fi]
    exact hc.1
  refine X_run rfl ?_ ?_
  · simp [md_s, md_w, rget, r_a, r_b, r_c, r_i, r_l, hb, h3, nI_s1]
  try simp only [md_s, md_w, rget_some, r_a, r_b, r_c, r_i, r_l, r_nx, r_pc, hb, h3, nI_s1]
  refine X_vret rfl rfl ⟨_, rfl, rfl, ?_, ?_⟩
  · obtain ⟨h0, hpp, hm, hy⟩ := hR
    refine ⟨?_, fun p hpl => ⟨?_, fun m hm5 => ?_⟩, fun m hmm => ?_, fun n hn => ?_⟩
    · simp [rd_fi, f1, e1, ← hD3]
      exact ⟨rfl, h0.2⟩
    · show d_fl D5 128 (pa B p) = asc (up1 (k_pn K) (k_np K) w p) ∧ d_fi (pfi D5 3 B _) 129 (pa B p) = up1 (k_li K) (k_np K) li p ∧ d_fi (pfi D5 3 B _) 130 (pa B p) = b2i (up1 (k_df K) (k_np K) false p)
      rw [f2, e2]
      simp [rd_fi, f1, e1, ← hD3]
      show (d_fl (pfl D 128 (pa B (k_np K)) (asc w)) 128 (pa B p) = _) ∧ _
      rw [rd_fl]
      simp only [true_and, pa_inj]
      by_cases hz : p = k_np K
      · subst hz
        simp [up1_same]
        rfl
      · have hlt : p < k_np K := by have : p < k_np K + 1 := hpl; omega
        simp only [hz, if_false, up1_ne hz]
        exact (hpp p hlt).1
    · show d_ai D5 (pa B p + 2) m = (if p = k_np K then 0 else k_ba K p m) ∧ d_ai D5 (pa B p + 4) m = (if p = k_np K then 0 else k_co K p m)
      rw [f4, f4, e4, e4]
      by_cases hz : p = k_np K
      · subst hz
        rw [if_neg (by omega), if_pos ⟨rfl, hm5⟩, if_pos rfl, if_pos ⟨rfl, hm5⟩, if_pos rfl]
        exact ⟨rfl, rfl⟩
      · have hlt : p < k_np K := by have : p < k_np K + 1 := hpl; omega
        rw [if_neg (by unfold pa; omega), if_neg (by unfold pa; omega), if_neg hz, if_neg (by unfold pa; omega), if_neg (by unfold pa; omega), if_neg hz, ← hD3]
        exact (hpp p hlt).2 m hm5
    · show d_fl D5 64 (ma B m) = _ ∧ _
      rw [f2, e2]
      simp [rd_fi, f1, e1, ← hD3]
      show (d_fl (pfl D 128 (pa B (k_np K)) (asc w)) 64 (ma B m) = _) ∧ _
      rw [rd_fl, if_neg (by simp)]
      exact hm m hmm
    · simp [rd_fi, f1, e1, ← hD3]
      exact hy n hn
  · have o1 : Out B (B + 139) D D3 := by
      rw [← hD3]
      exact ((Out.fl (by unfold pa; omega)).tr (Out.fi (by unfold pa; omega))).tr (Out.fi (by unfold pa; omega))
    exact ((o1.tr (RowEq.out (n := 5) ⟨e1, e2, e3, e4⟩ (by unfold pa; omega))).tr (RowEq.out (n := 5) ⟨f1, f2, f3, f4⟩ (by unfold pa; omega))).tr (Out.fi (by omega))
theorem c_addMoney {w : List Nat} {r c : Int32} (hL : BkL S B) (hW : WfK K) (hR : RepC D B K) (hp : k_nm K < 5) : EvM g (d + 1) mX0_addMoney 0 0 [.ref B, .long (asc w), .int r, .int c] (md S D) (fun v M1 => ∃ D1, v = none ∧ M1 = md S D1 ∧ RepC D1 B (addM K w r c) ∧ Out B (B + 139) D D1) := by
  have hb := hL.1
  have hc := hR.1
  obtain ⟨w1, w2, w3, -⟩ := hW
  have hq := hL.2.2.1 (k_nm K) hp
  obtain ⟨D3, hD3⟩ : ∃ D3, pfi (pfi (pfl D 64 (ma B (k_nm K)) (asc w)) 65 (ma B (k_nm K)) r) 66 (ma B (k_nm K)) c = D3 := ⟨_, rfl⟩
  have h3 : d_fi D3 4 B = nI (k_nm K) := by
    rw [← hD3]
    simp [rd_fi]
    exact hc.2.1
  refine EvM.mk (by decide) (Nat.le_of_ble_eq_true rfl) ?_
  refine X_run rfl ?_ ?_
  · simp [md_s, md_w, rget, r_a, r_b, r_c, r_i, r_l, hb, hc]
  try simp only [md_s, md_w, rget_some, r_a, r_b, r_c, r_i, r_l, r_nx, r_pc, hb, hc]
  refine X_cV (args := [.int (nI (k_nm K))]) rfl (by decide) hb.1 rfl rfl (Nat.le_of_ble_eq_true rfl) (c_moneyAt hL hp) ?_
  rintro _ _ ⟨rfl, rfl⟩
  refine X_run rfl ?_ ?_
  · simp [md_s, md_w, rget, r_a, r_b, r_c, r_i, r_l, hq, hD3, hb, h3, nI_s1]
  try simp only [md_s, md_w, rget_some, r_a, r_b, r_c, r_i, r_l, r_nx, r_pc, hq, hD3, hb, h3, nI_s1]
  refine X_vret rfl rfl ⟨_, rfl, rfl, ?_, ?_⟩
  · obtain ⟨h0, hpp, hm, hy⟩ := hR
    refine ⟨?_, fun p hpl => ⟨?_, fun m hm5 => ?_⟩, fun m hmm => ?_, fun n hn => ?_⟩
    · simp [rd_fi, ← hD3]
      exact ⟨h0.1, rfl, h0.2.2⟩
    · rw [← hD3]
      show (d_fl (pfl D 64 (ma B (k_nm K)) (asc w)) 128 (pa B p) = _) ∧ _
      rw [rd_fl, if_neg (by simp)]
      simp [rd_fi]
      exact (hpp p hpl).1
    · rw [← hD3]
      exact (hpp p hpl).2 m hm5
    · rw [← hD3]
      show (d_fl (pfl D 64 (ma B (k_nm K)) (asc w)) 64 (ma B m) = asc (up1 (k_mn K) (k_nm K) w m)) ∧ d_fi _ 65 (ma B m) = up1 (k_rt K) (k_nm K) r m ∧ d_fi _ 66 (ma B m) = up1 (k_ct K) (k_nm K) c m
      simp [rd_fi, rd_fl, ma_inj]
      by_cases hz : m = k_nm K
      · subst hz
        simp [up1_same]
      · have hlt : m < k_nm K := by have : m < k_nm K + 1 := hmm; omega
        simp only [hz, if_false, up1_ne hz]
        exact hm m hlt
    · simp [rd_fi, ← hD3]
      exact hy n hn
  · have o1 : Out B (B + 139) D D3 := by
      rw [← hD3]
      exact ((Out.fl (by unfold ma; omega)).tr (Out.fi (by unfold ma; omega))).tr (Out.fi (by unfold ma; omega))
    exact o1.tr (Out.fi (by omega))
theorem c_addPayment {f t m : Nat} {a du : Int32} (hL : BkL S B) (hW : WfK K) (hR : RepC D B K) (hp : k_ny K < 60) : EvM g (d + 1) mX0_addPayment 0 0 [.ref B, .int (nI f), .int (nI t), .int a, .int (nI m), .int du] (md S D) (fun v M1 => ∃ D1, v = none ∧ M1 = md S D1 ∧ RepC D1 B (addY K f t a m du) ∧ Out B (B + 139) D D1) := by
  have hb := hL.1
  have hc := hR.1
  obtain ⟨w1, w2, w3, -⟩ := hW
  have hq := hL.2.2.2 (k_ny K) hp
  obtain ⟨D1, e1, z1, y1⟩ := wr_fi D 160 (ya B (k_ny K)) (nI f)
  obtain ⟨D2, e2, z2, y2⟩ := wr_fi D1 161 (ya B (k_ny K)) (nI t)
  obtain ⟨D3, e3, z3, y3⟩ := wr_fi D2 162 (ya B (k_ny K)) (a)
  obtain ⟨D4, e4, z4, y4⟩ := wr_fi D3 163 (ya B (k_ny K)) (nI m)
  obtain ⟨D5, e5, z5, y5⟩ := wr_fi D4 164 (ya B (k_ny K)) (du)
  obtain ⟨D6, e6, z6, y6⟩ := wr_fi D5 165 (ya B (k_ny K)) (-1)
  obtain ⟨D7, e7, z7, y7⟩ := wr_fi D6 166 (ya B (k_ny K)) (0)
  obtain ⟨D8, e8, z8, y8⟩ := wr_fi D7 167 (ya B (k_ny K)) (-1)
  obtain ⟨D9, e9, z9, y9⟩ := wr_fi D8 168 (ya B (k_ny K)) (0)
  obtain ⟨D10, e10, z10, y10⟩ := wr_fi D9 5 B (nI (k_ny K + 1))
  have h3 : d_fi D9 5 B = nI (k_ny K) := by
    simp [z1, z2, z3, z4, z5, z6, z7, z8, z9]
    exact hc.2.2.1
  refine EvM.mk (by decide) (Nat.le_of_ble_eq_true rfl) ?_
  refine X_run rfl ?_ ?_
  · simp [md_s, md_w, rget, r_a, r_b, r_c, r_i, r_l, hb, hc]
  try simp only [md_s, md_w, rget_some, r_a, r_b, r_c, r_i, r_l, r_nx, r_pc, hb, hc]
  refine X_cV (args := [.int (nI (k_ny K))]) rfl (by decide) hb.1 rfl rfl (Nat.le_of_ble_eq_true rfl) (c_paymentAt hL hp) ?_
  rintro _ _ ⟨rfl, rfl⟩
  refine X_run rfl ?_ ?_
  · simp [md_s, md_w, rget, r_a, r_b, r_c, r_i, r_l, hq, e1, e2, e3, e4, e5, e6, e7, e8, e9, hb, h3, nI_s1, e10]
  try simp only [md_s, md_w, rget_some, r_a, r_b, r_c, r_i, r_l, r_nx, r_pc, hq, e1, e2, e3, e4, e5, e6, e7, e8, e9, hb, h3, nI_s1, e10]
  refine X_vret rfl rfl ⟨_, rfl, rfl, ?_, ?_⟩
  · obtain ⟨h0, hpp, hm, hy⟩ := hR
    have hfl : d_fl D10 = d_fl D := by rw [y10.1, y9.1, y8.1, y7.1, y6.1, y5.1, y4.1, y3.1, y2.1, y1.1]
    have hai : d_ai D10 = d_ai D := by rw [y10.2.1, y9.2.1, y8.2.1, y7.2.1, y6.2.1, y5.2.1, y4.2.1, y3.2.1, y2.2.1, y1.2.1]
    refine ⟨?_, fun p hpl => ⟨?_, fun m hm5 => ?_⟩, fun m hmm => ?_, fun n hn => ?_⟩
    · simp [z1, z2, z3, z4, z5, z6, z7, z8, z9, z10]
      exact ⟨h0.1, h0.2.1, rfl, h0.2.2.2⟩
    · rw [hfl]
      simp [z1, z2, z3, z4, z5, z6, z7, z8, z9, z10]
      exact (hpp p hpl).1
    · rw [hai]
      exact (hpp p hpl).2 m hm5
    · rw [hfl]
      simp [z1, z2, z3, z4, z5, z6, z7, z8, z9, z10]
      exact hm m hmm
    · show d_fi D10 160 (ya B n) = nI (up1 (k_fr K) (k_ny K) f n) ∧ d_fi D10 161 (ya B n) = nI (up1 (k_to K) (k_ny K) t n) ∧ d_fi D10 162 (ya B n) = up1 (k_am K) (k_ny K) a n ∧ d_fi D10 163 (ya B n) = nI (up1 (k_mo K) (k_ny K) m n) ∧ d_fi D10 164 (ya B n) = up1 (k_du K) (k_ny K) du n ∧ d_fi D10 165 (ya B n) = pE (up1 (k_pr K) (k_ny K) none n) ∧ d_fi D10 166 (ya B n) = up1 (k_st K) (k_ny K) 0 n ∧ d_fi D10 167 (ya B n) = up1 (k_se K) (k_ny K) (-1) n ∧ d_fi D10 168 (ya B n) = b2i (up1 (k_he K) (k_ny K) false n)
      simp [z1, z2, z3, z4, z5, z6, z7, z8, z9, z10, ya_inj]
      by_cases hz : n = k_ny K
      · subst hz
        simp [up1_same, pE, b2i]
      · have hlt : n < k_ny K := by have : n < k_ny K + 1 := hn; omega
        simp only [hz, if_false, up1_ne hz]
        exact hy n hlt
  · have hh : B ≤ ya B (k_ny K) ∧ ya B (k_ny K) < B + 139 := by unfold ya; omega
    have oo : ∀ {D D' : DaT} {k : Nat} {v : Int32}, pfi D k (ya B (k_ny K)) v = D' → Out B (B + 139) D D' := fun e => e ▸ Out.fi hh
    exact ((((((((oo e1).tr (oo e2)).tr (oo e3)).tr (oo e4)).tr (oo e5)).tr (oo e6)).tr (oo e7)).tr (oo e8)).tr ((oo e9).tr (e10 ▸ Out.fi (by omega)))
end ADDS
