/-! telling, on the reference's state -/
theorem pE_n1 {o : Option Nat} : (none : Option Nat) = o → pE o = -1 := fun h => h ▸ rfl
section REFADD
variable {g : GG} {d : Nat} {S : ShT} {D : DaT} {A : Nat} {K : KT}
theorem c_RaddParty {w : List Nat} {li : Int32} (hL : StL S A) (hW : WfK K) (hR : RepR D A K) (hp : k_np K < 10) : EvM g d mX10_addParty 0 0 [.ref A, .long (c37 w), .int li] (md S D) (fun v M1 => ∃ D1, v = none ∧ M1 = md S D1 ∧ RepR D1 A (addP K w li) ∧ Out A (A + 20) D D1) := by
  obtain ⟨hs, ha, hb⟩ := hL.all
  have hc := hR.1
  unfold RrC at hc
  obtain ⟨w1, w2, w3, w4⟩ := hW
  have x1 := vx (show k_np K < 10 by omega) (by decide)
  obtain ⟨D1, e1, z1, y1⟩ := wr_al D (A + 1) (k_np K) (c37 w)
  obtain ⟨D2, e2, z2, y2⟩ := wr_ai D1 (A + 2) (k_np K) li
  obtain ⟨D3, e3, z3, y3⟩ := wr_ai D2 (A + 3) (k_np K) 0
  have f1 : d_fi D1 322 A = nI (k_np K) := by rw [y1.1]; exact hc.2.2.1
  have f2 : d_fi D2 322 A = nI (k_np K) := by rw [y2.1]; exact f1
  refine EvM.mk (by decide) (Nat.le_of_ble_eq_true rfl) ?_
  refine X_run rfl ?_ ?_
  · simp [md_s, md_w, rget, r_a, r_b, r_c, r_i, r_l, hs, ha, hc, x1, e1, e2, e3, f1, f2]
  try simp only [md_s, md_w, rget_some, r_a, r_b, r_c, r_i, r_l, r_nx, r_pc, Nat.reduceEqDiff, false_and, if_false, hs, ha, hc, x1, e1, e2, e3, f1, f2]
  refine Eg_up (α := DaT) (fun i D' => Eg g d mX10_addParty 0 0 (Zr g _) 33 [(0, .ref A), (1, .long (c37 w)), (3, .int li), (4, .int (nI i))] [] (md S D')) (fun i D' => d_fi D' = d_fi D3 ∧ d_fl D' = d_fl D3 ∧ d_al D' = d_al D3 ∧ ∀ x j, d_ai D' x j = if (x = A + 7 ∨ x = A + 8) ∧ 5 * k_np K ≤ j ∧ j < 5 * k_np K + i then 0 else d_ai D3 x j) 5 (fun i D4 hi hI k => ?_) (fun D4 hI => ?_) D3 ⟨rfl, rfl, rfl, fun x j => by rw [if_neg (by omega)]⟩
  · obtain ⟨g1, g2, g3, g4⟩ := hI
    have f4 : d_fi D4 322 A = nI (k_np K) := by rw [g1, y3.1]; exact f2
    have x2 := vx (show 5 * k_np K + i < 50 by omega) (by decide)
    obtain ⟨D5, e5, z5, y5⟩ := wr_ai D4 (A + 7) (5 * k_np K + i) 0
    obtain ⟨D6, e6, z6, y6⟩ := wr_ai D5 (A + 8) (5 * k_np K + i) 0
    have f5 : d_fi D5 322 A = nI (k_np K) := by rw [y5.1]; exact f4
    refine X_run rfl trivial ?_
    refine X_icmp_ge rfl (fun c1 => no_le (a := 5) c1 hi (by omega)) (fun c1 => ?_)
    refine X_run rfl ?_ ?_
    · simp [md_s, md_w, rget, r_a, r_b, r_c, r_i, r_l, hs, ha, f4, i5, x2, e5, f5, e6, nI_s1]
    try simp only [md_s, md_w, rget_some, r_a, r_b, r_c, r_i, r_l, r_nx, r_pc, Nat.reduceEqDiff, false_and, if_false, hs, ha, f4, i5, x2, e5, f5, e6, nI_s1]
    refine k D6 ⟨by rw [y6.1, y5.1, g1], by rw [y6.2.1, y5.2.1, g2], by rw [y6.2.2, y5.2.2, g3], fun x j => ?_⟩
    rw [z6, z5, g4]
    by_cases c2 : x = A + 8 ∧ j = 5 * k_np K + i
    · rw [if_pos c2, if_pos (by omega)]
    · rw [if_neg c2]
      by_cases c3 : x = A + 7 ∧ j = 5 * k_np K + i
      · rw [if_pos c3, if_pos (by omega)]
      · rw [if_neg c3]
        by_cases c4 : (x = A + 7 ∨ x = A + 8) ∧ 5 * k_np K ≤ j ∧ j < 5 * k_np K + i
        · rw [if_pos c4, if_pos (by omega)]
        · rw [if_neg c4, if_neg (by omega)]
  · obtain ⟨g1, g2, g3, g4⟩ := hI
    have f4 : d_fi D4 322 A = nI (k_np K) := by rw [g1, y3.1]; exact f2
    obtain ⟨D5, e5, z5, y5⟩ := wr_fi D4 322 A (nI (k_np K + 1))
    refine X_run rfl trivial ?_
    refine X_icmp_ge rfl (fun c1 => ?_) (fun c1 => absurd (show (5 : Int32) ≤ nI 5 by decide) c1)
    refine X_run rfl ?_ ?_
    · simp [md_s, md_w, rget, r_a, r_b, r_c, r_i, r_l, hs, f4, nI_s1, e5]
    try simp only [md_s, md_w, rget_some, r_a, r_b, r_c, r_i, r_l, r_nx, r_pc, Nat.reduceEqDiff, false_and, if_false, hs, f4, nI_s1, e5]
    have hai : ∀ q, q ≠ 2 → q ≠ 3 → q ≠ 7 → q ≠ 8 → d_ai D5 (A + q) = d_ai D (A + q) := fun q h2 h3 h7 h8 => by
      funext j
      rw [y5.2.1, g4, if_neg (by omega), z3, if_neg (by omega), z2, if_neg (by omega), y1.2.2]
    have hal : ∀ q j, d_al D5 (A + q) j = if q = 1 ∧ j = k_np K then c37 w else d_al D (A + q) j := fun q j => by
      rw [y5.2.2, g3, y3.2.2, y2.2.2, z1]
      by_cases c : q = 1 ∧ j = k_np K
      · rw [if_pos c, if_pos (by omega)]
      · rw [if_neg c, if_neg (by omega)]
    have h2 : ∀ p, d_ai D5 (A + 2) p = if p = k_np K then li else d_ai D (A + 2) p := fun p => by
      rw [y5.2.1, g4, if_neg (by omega), z3, if_neg (by omega), z2, y1.2.2]
      by_cases c : p = k_np K
      · rw [if_pos c, if_pos ⟨rfl, c⟩]
      · rw [if_neg c, if_neg (fun z => c z.2)]
    have h3 : ∀ p, d_ai D5 (A + 3) p = if p = k_np K then 0 else d_ai D (A + 3) p := fun p => by
      rw [y5.2.1, g4, if_neg (by omega), z3]
      by_cases c : p = k_np K
      · rw [if_pos c, if_pos ⟨rfl, c⟩]
      · rw [if_neg c, if_neg (fun z => c z.2), z2, if_neg (by omega), y1.2.2]
    have h78 : ∀ q, q = 7 ∨ q = 8 → ∀ p m, m < 5 → d_ai D5 (A + q) (5 * p + m) = if p = k_np K then 0 else d_ai D (A + q) (5 * p + m) := fun q hq p m hm => by
      rw [y5.2.1, g4]
      by_cases c : p = k_np K
      · rw [if_pos c, if_pos (by omega)]
      · rw [if_neg c, if_neg (by omega), z3, if_neg (by omega), z2, if_neg (by omega), y1.2.2]
    have hfi : ∀ k, d_fi D5 k A = if k = 322 then nI (k_np K + 1) else d_fi D k A := fun k => by
      rw [z5, g1, y3.1, y2.1, y1.1]
      by_cases c : k = 322
      · rw [if_pos c, if_pos ⟨c, rfl⟩]
      · rw [if_neg c, if_neg (fun z => c z.1)]
    obtain ⟨q0, q1, q2, q3⟩ := hR
    refine X_vret rfl rfl ⟨D5, rfl, rfl, ⟨?_, fun p hpl => ?_, fun m hm => ?_, fun n hn => ?_⟩, fun x hx => ⟨fun k => ?_, fun k => ?_, ?_, ?_⟩⟩
    · unfold RrC
      rw [hfi, hfi, hfi, hfi, hfi]
      exact ⟨hc.1, hc.2.1, rfl, hc.2.2.2.1, hc.2.2.2.2⟩
    · show d_al D5 (A + 1) p = c37 (up1 (k_pn K) (k_np K) w p) ∧ d_ai D5 (A + 2) p = up1 (k_li K) (k_np K) li p ∧ d_ai D5 (A + 3) p = b2i (up1 (k_df K) (k_np K) false p) ∧ ∀ m, m < 5 → d_ai D5 (A + 7) (5 * p + m) = (if p = k_np K then 0 else k_ba K p m) ∧ d_ai D5 (A + 8) (5 * p + m) = (if p = k_np K then 0 else k_co K p m)
      rw [hal, h2, h3]
      by_cases c : p = k_np K
      · subst c
        rw [u1_eq, u1_eq, u1_eq, if_pos ⟨rfl, rfl⟩, if_pos rfl, if_pos rfl]
        exact ⟨rfl, rfl, rfl, fun m hm => by rw [h78 7 (by decide) _ _ hm, h78 8 (by decide) _ _ hm]; simp only [if_true]; exact ⟨trivial, trivial⟩⟩
      · have hlt : p < k_np K := by have : p < k_np K + 1 := hpl; omega
        obtain ⟨v1, v2, v3, v4⟩ := q1 p hlt
        rw [u1_no c, u1_no c, u1_no c, if_neg (fun z => c z.2), if_neg c, if_neg c]
        exact ⟨v1, v2, v3, fun m hm => by rw [h78 7 (by decide) _ _ hm, h78 8 (by decide) _ _ hm, if_neg c, if_neg c, if_neg c, if_neg c]; exact v4 m hm⟩
    · have := q2 m hm
      unfold RrM at this ⊢
      rw [hal, if_neg (by omega), hai 5 (by decide) (by decide) (by decide) (by decide), hai 6 (by decide) (by decide) (by decide) (by decide)]
      exact this
    · have := q3 n hn
      unfold RrY at this ⊢
      rw [hai 9 (by decide) (by decide) (by decide) (by decide), hai 10 (by decide) (by decide) (by decide) (by decide), hai 11 (by decide) (by decide) (by decide) (by decide), hai 12 (by decide) (by decide) (by decide) (by decide), hai 13 (by decide) (by decide) (by decide) (by decide), hai 14 (by decide) (by decide) (by decide) (by decide), hai 15 (by decide) (by decide) (by decide) (by decide), hai 16 (by decide) (by decide) (by decide) (by decide), hai 17 (by decide) (by decide) (by decide) (by decide)]
      exact this
    · rw [z5, if_neg (by omega), g1, y3.1, y2.1, y1.1]
    · rw [y5.1, g2, y3.2.1, y2.2.1, y1.2.1]
    · funext j
      rw [y5.2.1, g4, if_neg (by omega), z3, if_neg (by omega), z2, if_neg (by omega), y1.2.2]
    · funext j
      rw [y5.2.2, g3, y3.2.2, y2.2.2, z1, if_neg (by omega)]
theorem c_RaddMoney {w : List Nat} {r c : Int32} (hL : StL S A) (hW : WfK K) (hR : RepR D A K) (hp : k_nm K < 5) : EvM g d mX10_addMoney 0 0 [.ref A, .long (c37 w), .int r, .int c] (md S D) (fun v M1 => ∃ D1, v = none ∧ M1 = md S D1 ∧ RepR D1 A (addM K w r c) ∧ Out A (A + 20) D D1) := by
  obtain ⟨hs, ha, hb⟩ := hL.all
  have hc := hR.1
  unfold RrC at hc
  have x1 := vx (show k_nm K < 5 by omega) (by decide)
  obtain ⟨D1, e1, z1, y1⟩ := wr_al D (A + 4) (k_nm K) (c37 w)
  obtain ⟨D2, e2, z2, y2⟩ := wr_ai D1 (A + 5) (k_nm K) r
  obtain ⟨D3, e3, z3, y3⟩ := wr_ai D2 (A + 6) (k_nm K) c
  have f1 : d_fi D1 323 A = nI (k_nm K) := by rw [y1.1]; exact hc.2.2.2.1
  have f2 : d_fi D2 323 A = nI (k_nm K) := by rw [y2.1]; exact f1
  have f3 : d_fi D3 323 A = nI (k_nm K) := by rw [y3.1]; exact f2
  obtain ⟨D4, e4, z4, y4⟩ := wr_fi D3 323 A (nI (k_nm K + 1))
  refine EvM.mk (by decide) (Nat.le_of_ble_eq_true rfl) ?_
  refine X_run rfl ?_ ?_
  · simp [md_s, md_w, rget, r_a, r_b, r_c, r_i, r_l, hs, ha, hc, x1, e1, e2, e3, f1, f2, f3, nI_s1, e4]
  try simp only [md_s, md_w, rget_some, r_a, r_b, r_c, r_i, r_l, r_nx, r_pc, Nat.reduceEqDiff, false_and, if_false, hs, ha, hc, x1, e1, e2, e3, f1, f2, f3, nI_s1, e4]
  have hai : ∀ q, q ≠ 5 → q ≠ 6 → d_ai D4 (A + q) = d_ai D (A + q) := fun q h5 h6 => by
    funext j
    rw [y4.2.1, z3, if_neg (by omega), z2, if_neg (by omega), y1.2.2]
  have hal : ∀ q j, d_al D4 (A + q) j = if q = 4 ∧ j = k_nm K then c37 w else d_al D (A + q) j := fun q j => by
    rw [y4.2.2, y3.2.2, y2.2.2, z1]
    by_cases c : q = 4 ∧ j = k_nm K
    · rw [if_pos c, if_pos (by omega)]
    · rw [if_neg c, if_neg (by omega)]
  have h5 : ∀ p, d_ai D4 (A + 5) p = if p = k_nm K then r else d_ai D (A + 5) p := fun p => by
    rw [y4.2.1, z3, if_neg (by omega), z2, y1.2.2]
    by_cases c : p = k_nm K
    · rw [if_pos c, if_pos ⟨rfl, c⟩]
    · rw [if_neg c, if_neg (fun z => c z.2)]
  have h6 : ∀ p, d_ai D4 (A + 6) p = if p = k_nm K then c else d_ai D (A + 6) p := fun p => by
    rw [y4.2.1, z3]
    by_cases c : p = k_nm K
    · rw [if_pos c, if_pos ⟨rfl, c⟩]
    · rw [if_neg c, if_neg (fun z => c z.2), z2, if_neg (by omega), y1.2.2]
  have hfi : ∀ k, d_fi D4 k A = if k = 323 then nI (k_nm K + 1) else d_fi D k A := fun k => by
    rw [z4, y3.1, y2.1, y1.1]
    by_cases c : k = 323
    · rw [if_pos c, if_pos ⟨c, rfl⟩]
    · rw [if_neg c, if_neg (fun z => c z.1)]
  obtain ⟨q0, q1, q2, q3⟩ := hR
  refine X_vret rfl rfl ⟨D4, rfl, rfl, ⟨?_, fun p hpl => ?_, fun m hm => ?_, fun n hn => ?_⟩, fun x hx => ⟨fun k => ?_, fun k => ?_, ?_, ?_⟩⟩
  · unfold RrC
    rw [hfi, hfi, hfi, hfi, hfi]
    exact ⟨hc.1, hc.2.1, hc.2.2.1, rfl, hc.2.2.2.2⟩
  · have := q1 p hpl
    unfold RrP at this ⊢
    rw [hal, if_neg (by omega), hai 2 (by decide) (by decide), hai 3 (by decide) (by decide), hai 7 (by decide) (by decide), hai 8 (by decide) (by decide)]
    exact this
  · show d_al D4 (A + 4) m = c37 (up1 (k_mn K) (k_nm K) w m) ∧ d_ai D4 (A + 5) m = up1 (k_rt K) (k_nm K) r m ∧ d_ai D4 (A + 6) m = up1 (k_ct K) (k_nm K) c m
    rw [hal, h5, h6]
    by_cases cc : m = k_nm K
    · subst cc
      rw [u1_eq, u1_eq, u1_eq, if_pos ⟨rfl, rfl⟩, if_pos rfl, if_pos rfl]
      exact ⟨rfl, rfl, rfl⟩
    · have hlt : m < k_nm K := by have : m < k_nm K + 1 := hm; omega
      rw [u1_no cc, u1_no cc, u1_no cc, if_neg (fun z => cc z.2), if_neg cc, if_neg cc]
      exact q2 m hlt
  · have := q3 n hn
    unfold RrY at this ⊢
    rw [hai 9 (by decide) (by decide), hai 10 (by decide) (by decide), hai 11 (by decide) (by decide), hai 12 (by decide) (by decide), hai 13 (by decide) (by decide), hai 14 (by decide) (by decide), hai 15 (by decide) (by decide), hai 16 (by decide) (by decide), hai 17 (by decide) (by decide)]
    exact this
  · rw [z4, if_neg (by omega), y3.1, y2.1, y1.1]
  · rw [y4.1, y3.2.1, y2.2.1, y1.2.1]
  · funext j
    rw [y4.2.1, z3, if_neg (by omega), z2, if_neg (by omega), y1.2.2]
  · funext j
    rw [y4.2.2, y3.2.2, y2.2.2, z1, if_neg (by omega)]
theorem add4_ne {A r q : Nat} (h : r ≠ q) : ¬ A + r = A + q := by omega
/-- what lies at a new payment's places -/
def NewY (D D' : DaT) (A n : Nat) (vs : List (Nat × Int32)) : Prop := d_fi D' = d_fi D ∧ d_fl D' = d_fl D ∧ d_al D' = d_al D ∧ ∀ x j, d_ai D' x j = match (if j = n then vs.find? (fun q => decide (A + q.1 = x)) else none) with
  | some q => q.2
  | none => d_ai D x j
theorem NewY.nil {D : DaT} {A n : Nat} : NewY D D A n [] := ⟨rfl, rfl, rfl, fun x j => by split <;> rename_i h <;> first | rfl | (split at h <;> cases h)⟩
theorem NewY.put {D D1 D2 : DaT} {A n r : Nat} {v : Int32} {vs : List (Nat × Int32)} (h : NewY D D1 A n vs) (e : pai D1 (A + r) n v = D2) : NewY D D2 A n ((r, v) :: vs) := by
  obtain ⟨f1, f2, f3, f4⟩ := h
  subst e
  refine ⟨f1, f2, f3, fun x j => ?_⟩
  rw [rd_ai]
  by_cases c : j = n
  · subst c
    rw [if_pos rfl, List.find?_cons]
    by_cases c2 : x = A + r
    · subst c2
      simp
    · rw [if_neg (fun z => c2 z.1), f4, if_pos rfl]
      simp [show ¬ A + r = x from fun z => c2 z.symm]
  · rw [if_neg (fun z => c z.2), if_neg c, f4, if_neg c]
theorem c_RaddPayment {f t m : Nat} {a du : Int32} {o : Option Nat} (hL : StL S A) (hW : WfK K) (hR : RepR D A K) (hp : k_ny K < 60) (ho : ∀ q, o = some q → q < k_ny K) : EvM g d mX10_addPayment 0 0 [.ref A, .int (nI f), .int (nI t), .int a, .int (nI m), .int du, .int (pE o)] (md S D) (fun v M1 => ∃ D1, v = none ∧ M1 = md S D1 ∧ RepR D1 A (match o with | none => addY K f t a m du | some q => linkK (addY K f t a m du) q) ∧ Out A (A + 20) D D1) := by
  obtain ⟨hs, ha, hb⟩ := hL.all
  have hc := hR.1
  unfold RrC at hc
  have x1 := vx (show k_ny K < 60 by omega) (by decide)
  have fi : ∀ D', d_fi D' = d_fi D → d_fi D' 324 A = nI (k_ny K) := fun D' e => by rw [e]; exact hc.2.2.2.2

  obtain ⟨D9, e9⟩ : ∃ D', pai D (A + 9) (k_ny K) (nI f) = D' := ⟨_, rfl⟩
  have n9 := NewY.nil (D := D) (A := A) (n := k_ny K).put e9
  have f9 := fi D9 n9.1
  obtain ⟨D10, e10⟩ : ∃ D', pai D9 (A + 10) (k_ny K) (nI t) = D' := ⟨_, rfl⟩
  have n10 := n9.put e10
  have f10 := fi D10 n10.1
  obtain ⟨D11, e11⟩ : ∃ D', pai D10 (A + 11) (k_ny K) (a) = D' := ⟨_, rfl⟩
  have n11 := n10.put e11
  have f11 := fi D11 n11.1
  obtain ⟨D12, e12⟩ : ∃ D', pai D11 (A + 12) (k_ny K) (nI m) = D' := ⟨_, rfl⟩
  have n12 := n11.put e12
  have f12 := fi D12 n12.1
  obtain ⟨D13, e13⟩ : ∃ D', pai D12 (A + 13) (k_ny K) (du) = D' := ⟨_, rfl⟩
  have n13 := n12.put e13
  have f13 := fi D13 n13.1
  obtain ⟨D14, e14⟩ : ∃ D', pai D13 (A + 14) (k_ny K) (pE o) = D' := ⟨_, rfl⟩
  have n14 := n13.put e14
  have f14 := fi D14 n14.1
  obtain ⟨D15, e15⟩ : ∃ D', pai D14 (A + 15) (k_ny K) (0) = D' := ⟨_, rfl⟩
  have n15 := n14.put e15
  have f15 := fi D15 n15.1
  obtain ⟨D16, e16⟩ : ∃ D', pai D15 (A + 16) (k_ny K) (0) = D' := ⟨_, rfl⟩
  have n16 := n15.put e16
  have f16 := fi D16 n16.1
  obtain ⟨D17, e17⟩ : ∃ D', pai D16 (A + 17) (k_ny K) (-1) = D' := ⟨_, rfl⟩
  have n17 := n16.put e17
  have f17 := fi D17 n17.1
  have rd : ∀ r, 9 ≤ r → r < 18 → ∀ j, d_ai D17 (A + r) j = if j = k_ny K then [nI f, nI t, a, nI m, du, pE o, 0, 0, -1].getD (r - 9) 0 else d_ai D (A + r) j := fun r h1 h2 j => by
    rw [n17.2.2.2]
    by_cases c : j = k_ny K
    · rw [if_pos c, if_pos c]
      rcases (show r = 9 ∨ r = 10 ∨ r = 11 ∨ r = 12 ∨ r = 13 ∨ r = 14 ∨ r = 15 ∨ r = 16 ∨ r = 17 by omega) with rfl | rfl | rfl | rfl | rfl | rfl | rfl | rfl | rfl <;> simp [List.find?_cons]
    · rw [if_neg c, if_neg c]
  have rd0 : ∀ r, r < 9 → d_ai D17 (A + r) = d_ai D (A + r) := fun r h1 => by
    funext j
    rw [n17.2.2.2]
    by_cases c : j = k_ny K
    · rw [if_pos c]
      rw [show List.find? (fun q : Nat × Int32 => decide (A + q.1 = A + r)) [(17, -1), (16, 0), (15, 0), (14, pE o), (13, du), (12, nI m), (11, a), (10, nI t), (9, nI f)] = none from by
        rw [List.find?_eq_none]
        intro q hq
        simp only [List.mem_cons, List.not_mem_nil, or_false] at hq
        rw [decide_eq_true_eq]
        rcases hq with rfl | rfl | rfl | rfl | rfl | rfl | rfl | rfl | rfl <;> (show ¬ A + _ = A + r) <;> simp only <;> omega]
    · rw [if_neg c]
  have rdO : ∀ x, x < A ∨ A + 20 ≤ x → d_ai D17 x = d_ai D x := fun x hx => by
    funext j
    rw [n17.2.2.2]
    by_cases c : j = k_ny K
    · rw [if_pos c]
      rw [show List.find? (fun q : Nat × Int32 => decide (A + q.1 = x)) [(17, -1), (16, 0), (15, 0), (14, pE o), (13, du), (12, nI m), (11, a), (10, nI t), (9, nI f)] = none from by
        rw [List.find?_eq_none]
        intro q hq
        simp only [List.mem_cons, List.not_mem_nil, or_false] at hq
        rw [decide_eq_true_eq]
        rcases hq with rfl | rfl | rfl | rfl | rfl | rfl | rfl | rfl | rfl <;> (show ¬ A + _ = x) <;> simp only <;> omega]
    · rw [if_neg c]
  /- all but the partner -/
  have base : ∀ D2 : DaT, d_fi D2 = d_fi D17 → d_al D2 = d_al D17 → (∀ r, r < 18 → r ≠ 14 → d_ai D2 (A + r) = d_ai D17 (A + r)) → ∀ fp : Nat → Option Nat, (∀ n, n < k_ny K + 1 → d_ai D2 (A + 14) n = pE (fp n)) → RepR (pfi D2 324 A (nI (k_ny K + 1))) A (ks_pr (addY K f t a m du) fp) := by
    intro D2 h1 h2 h3 fp h4
    obtain ⟨q0, q1, q2, q3⟩ := hR
    have hal : d_al D2 = d_al D := by rw [h2, n17.2.2.1]
    have hai : ∀ r, r < 9 → d_ai D2 (A + r) = d_ai D (A + r) := fun r hr => by rw [h3 r (by omega) (by omega), rd0 r hr]
    refine ⟨?_, fun p hpl => ?_, fun m hm => ?_, fun n hn => ?_⟩
    · unfold RrC
      simp only [rd_fi, h1, n17.1]
      exact ⟨hc.1, hc.2.1, hc.2.2.1, hc.2.2.2.1, rfl⟩
    · have := q1 p hpl
      unfold RrP at this ⊢
      show d_al D2 (A + 1) p = _ ∧ d_ai D2 (A + 2) p = _ ∧ d_ai D2 (A + 3) p = _ ∧ ∀ m, m < 5 → d_ai D2 (A + 7) (5 * p + m) = _ ∧ d_ai D2 (A + 8) (5 * p + m) = _
      rw [hal, hai 2 (by decide), hai 3 (by decide), hai 7 (by decide), hai 8 (by decide)]
      exact this
    · have := q2 m hm
      unfold RrM at this ⊢
      show d_al D2 (A + 4) m = _ ∧ d_ai D2 (A + 5) m = _ ∧ d_ai D2 (A + 6) m = _
      rw [hal, hai 5 (by decide), hai 6 (by decide)]
      exact this
    · have hn : n < k_ny K + 1 := hn
      show d_ai D2 (A + 9) n = nI (up1 (k_fr K) (k_ny K) f n) ∧ d_ai D2 (A + 10) n = nI (up1 (k_to K) (k_ny K) t n) ∧ d_ai D2 (A + 11) n = up1 (k_am K) (k_ny K) a n ∧ d_ai D2 (A + 12) n = nI (up1 (k_mo K) (k_ny K) m n) ∧ d_ai D2 (A + 13) n = up1 (k_du K) (k_ny K) du n ∧ d_ai D2 (A + 14) n = pE (fp n) ∧ d_ai D2 (A + 15) n = up1 (k_st K) (k_ny K) 0 n ∧ d_ai D2 (A + 16) n = b2i (up1 (k_he K) (k_ny K) false n) ∧ d_ai D2 (A + 17) n = up1 (k_se K) (k_ny K) (-1) n
      rw [h3 9 (by decide) (by decide), h3 10 (by decide) (by decide), h3 11 (by decide) (by decide), h3 12 (by decide) (by decide), h3 13 (by decide) (by decide), h3 15 (by decide) (by decide), h3 16 (by decide) (by decide), h3 17 (by decide) (by decide), h4 n hn, rd 9 (by decide) (by decide), rd 10 (by decide) (by decide), rd 11 (by decide) (by decide), rd 12 (by decide) (by decide), rd 13 (by decide) (by decide), rd 15 (by decide) (by decide), rd 16 (by decide) (by decide), rd 17 (by decide) (by decide)]
      by_cases c : n = k_ny K
      · subst c
        simp only [u1_eq, if_pos]
        exact ⟨rfl, rfl, rfl, rfl, rfl, trivial, rfl, rfl, rfl⟩
      · have hlt : n < k_ny K := by omega
        simp only [u1_no c, if_neg c]
        obtain ⟨y1, y2, y3, y4, y5, y6, y7, y8, y9⟩ := q3 n hlt
        exact ⟨y1, y2, y3, y4, y5, trivial, y7, y8, y9⟩
  have oD : Out A (A + 20) D D17 := fun x hx => ⟨fun k => by rw [n17.1], fun k => by rw [n17.2.1], rdO x hx, by rw [n17.2.2.1]⟩
  refine EvM.mk (by decide) (Nat.le_of_ble_eq_true rfl) ?_
  refine X_run rfl ?_ ?_
  · simp [md_s, md_w, rget, r_a, r_b, r_c, r_i, r_l, hs, hb, hc, x1, e9, f9, e10, f10, e11, f11, e12, f12, e13, f13, e14, f14, e15, f15, e16, f16, e17, f17]
  try simp only [md_s, md_w, rget_some, r_a, r_b, r_c, r_i, r_l, r_nx, r_pc, Nat.reduceEqDiff, false_and, if_false, hs, hb, hc, x1, e9, f9, e10, f10, e11, f11, e12, f12, e13, f13, e14, f14, e15, f15, e16, f16, e17, f17]
  cases o with
  | none =>
    refine X_icmp_eq rfl (fun _ => ?_) (fun c => absurd rfl c)
    refine X_run rfl ?_ ?_
    · simp [md_s, md_w, rget, r_a, r_b, r_c, r_i, r_l, hs, f17, nI_s1]
    try simp only [md_s, md_w, rget_some, r_a, r_b, r_c, r_i, r_l, r_nx, r_pc, Nat.reduceEqDiff, false_and, if_false, hs, f17, nI_s1]
    refine X_vret rfl rfl ⟨_, rfl, rfl, ?_, oD.tr (Out.fi (by omega))⟩
    have := base D17 rfl rfl (fun _ _ _ => rfl) (up1 (k_pr K) (k_ny K) none) (fun n hn => by
      rw [rd 14 (by decide) (by decide)]
      by_cases c : n = k_ny K
      · subst c; rw [u1_eq, if_pos rfl]; rfl
      · rw [u1_no c, if_neg c]; exact (hR.2.2.2 n (by omega)).2.2.2.2.2.1)
    exact this
  | some q =>
    have hq := ho q rfl
    have x2 := vx (show q < 60 by omega) (by decide)
    refine X_icmp_eq rfl (fun c => absurd ((pE_some (o := some q) (fun q' hq' => by cases hq'; exact hq) (by omega)).mp c) (by simp)) (fun _ => ?_)
    obtain ⟨D18, e18, z18, y18⟩ := wr_ai D17 (A + 14) q (nI (k_ny K))
    have f18 : d_fi D18 324 A = nI (k_ny K) := by rw [y18.1]; exact f17
    refine X_run rfl ?_ ?_
    · simp [md_s, md_w, rget, r_a, r_b, r_c, r_i, r_l, hs, hb, pE, x2, f17, e18, f18, nI_s1]
    try simp only [md_s, md_w, rget_some, r_a, r_b, r_c, r_i, r_l, r_nx, r_pc, Nat.reduceEqDiff, false_and, if_false, hs, hb, pE, x2, f17, e18, f18, nI_s1]
    refine X_vret rfl rfl ⟨_, rfl, rfl, ?_, (oD.tr (e18 ▸ Out.ai (by omega))).tr (Out.fi (by omega))⟩
    have := base D18 y18.1 y18.2.2 (fun r h1 h2 => by
      funext j
      rw [z18, if_neg (by omega)]) (up1 (up1 (up1 (k_pr K) (k_ny K) none) q (some (k_ny K))) (k_ny K) (some q)) (fun n hn => by
      rw [z18, rd 14 (by decide) (by decide)]
      by_cases c : n = k_ny K
      · subst c; rw [u1_eq, if_pos rfl, if_neg (by omega)]; rfl
      · rw [u1_no c, if_neg c]
        by_cases c2 : n = q
        · subst c2; rw [u1_eq, if_pos ⟨rfl, rfl⟩]; rfl
        · rw [u1_no c2, u1_no c, if_neg (fun z => c2 z.2)]
          exact (hR.2.2.2 n (by omega)).2.2.2.2.2.1)
    exact this
theorem c_Rcancel {n : Nat} (hL : StL S A) (hW : WfK K) (hR : RepR D A K) (hn : n < k_ny K) : EvM g d mX10_cancel 0 0 [.ref A, .int (nI n)] (md S D) (fun v M1 => ∃ D1, v = none ∧ M1 = md S D1 ∧ RepR D1 A (callOffK K n) ∧ Out A (A + 20) D D1) := by
  obtain ⟨hs, ha, hb⟩ := hL.all
  obtain ⟨w1, w2, w3, w4⟩ := hW
  have x1 := vx (show n < 60 by omega) (by decide)
  obtain ⟨D1, e1, z1, y1⟩ := wr_ai D (A + 15) n 3
  have hR1 : RepR D1 A (ks_st K (up1 (k_st K) n 3)) := e1 ▸ hR.st 3
  have hO1 : Out A (A + 20) D D1 := e1 ▸ Out.ai (by omega)
  have hv := hR1.2.2.2 n hn
  unfold RrY at hv
  rw [show k_pr (ks_st K (up1 (k_st K) n 3)) n = k_pr K n from rfl] at hv
  refine EvM.mk (by decide) (Nat.le_of_ble_eq_true rfl) ?_
  refine X_run rfl ?_ ?_
  · simp [md_s, md_w, rget, r_a, r_b, r_c, r_i, r_l, hs, hb, x1, e1, hv]
  try simp only [md_s, md_w, rget_some, r_a, r_b, r_c, r_i, r_l, r_nx, r_pc, Nat.reduceEqDiff, false_and, if_false, hs, hb, x1, e1, hv]
  cases hp : k_pr K n with
  | none =>
    refine X_icmp_eq rfl (fun _ => ?_) (fun c => absurd rfl c)
    refine X_run rfl ?_ ?_
    · simp [md_s, md_w, rget, r_a, r_b, r_c, r_i, r_l, hs, hb, x1]
    try simp only [md_s, md_w, rget_some, r_a, r_b, r_c, r_i, r_l, r_nx, r_pc, Nat.reduceEqDiff, false_and, if_false, hs, hb, x1]
    refine X_vret rfl rfl ⟨_, rfl, rfl, ?_, hO1.tr (Out.ai (by omega))⟩
    have := hR1.pr (n := n) none
    unfold callOffK
    rw [hp]
    exact this
  | some q =>
    have hq := (w4 n hn).2.2.2 q hp
    have x2 := vx (show q < 60 by omega) (by decide)
    refine X_icmp_eq rfl (fun c => absurd ((pE_some (o := some q) (fun q' hq' => by cases hq'; exact hq) (by omega)).mp c) (by simp)) (fun _ => ?_)
    obtain ⟨D2, e2, z2, y2⟩ := wr_ai D1 (A + 14) q (-1)
    have hR2 := hR1.pr (n := q) none
    rw [show pE none = -1 from rfl, e2] at hR2
    have hO2 : Out A (A + 20) D D2 := hO1.tr (e2 ▸ Out.ai (by omega))
    refine X_run rfl ?_ ?_
    · simp [md_s, md_w, rget, r_a, r_b, r_c, r_i, r_l, hs, hb, x1, hv, hp, pE, x2, e2]
    try simp only [md_s, md_w, rget_some, r_a, r_b, r_c, r_i, r_l, r_nx, r_pc, Nat.reduceEqDiff, false_and, if_false, hs, hb, x1, hv, hp, pE, x2, e2]
    refine X_vret rfl rfl ⟨_, rfl, rfl, ?_, hO2.tr (Out.ai (by omega))⟩
    have := hR2.pr (n := n) none
    unfold callOffK
    rw [hp]
    exact this
end REFADD
