/-! a row of numbers written from its beginning -/
def RowEq (D D1 : DaT) (a n : Nat) (w : Nat → Int32) : Prop := d_fi D1 = d_fi D ∧ d_fl D1 = d_fl D ∧ d_al D1 = d_al D ∧ ∀ k j, d_ai D1 k j = if k = a ∧ j < n then w j else d_ai D k j
theorem RowEq.of_iter {D : DaT} {a n : Nat} {f : Nat → DaT → Int32} {w : Nat → Int32} (h : ∀ i D1, i < n → RowEq D D1 a i w → f i D1 = w i) : RowEq D (iter (fun i D => pai D a i (f i D)) n D) a n w := by
  have := iter_inv (P := fun i D1 => RowEq D D1 a i w) (f := fun i D => pai D a i (f i D)) (n := n) (x0 := D) ⟨rfl, rfl, rfl, fun k j => by simp⟩ (fun i x hi hx => ?_) n (Nat.le_refl n)
  · exact this
  · obtain ⟨h1, h2, h3, h4⟩ := hx
    refine ⟨h1, h2, h3, fun k j => ?_⟩
    rw [rd_ai, h i x hi ⟨h1, h2, h3, h4⟩, h4]
    by_cases hk : k = a
    · subst hk
      by_cases hj : j = i
      · subst hj
        simp
      · simp only [hj, true_and, and_false, if_false]
        by_cases hl : j < i
        · rw [if_pos hl, if_pos (by omega)]
        · rw [if_neg hl, if_neg (by omega)]
    · simp [hk]
theorem RowEq.out {D D1 : DaT} {a n lo hi : Nat} {w : Nat → Int32} (h : RowEq D D1 a n w) (h1 : lo ≤ a ∧ a < hi) : Out lo hi D D1 := by
  intro x hx
  refine ⟨fun k => by rw [h.1], fun k => by rw [h.2.1], ?_, by rw [h.2.2.1]⟩
  funext j
  rw [h.2.2.2, if_neg (by omega)]
section BOOKW
variable {g : GG} {d : Nat} {S : ShT} {D : DaT} {B : Nat} {K : KT}
theorem c_clear {r a n : Nat} (h : RowL S r a n) : EvM g d mX6_clear 0 0 [.ref r] (md S D) (fun v M1 => ∃ D1, v = none ∧ M1 = md S D1 ∧ RowEq D D1 a n (fun _ => 0)) :=
  (c_Row_clear h).mono (fun v M1 h => ⟨_, h.1, h.2, RowEq.of_iter (fun _ _ _ _ => rfl)⟩)
theorem c_copyRow {r a n r2 a2 : Nat} (h : RowL S r a n) (h' : RowL S r2 a2 n) (hne : a2 ≠ a) : EvM g (d + 1) mX6_copyFrom 0 0 [.ref r, .ref r2] (md S D) (fun v M1 => ∃ D1, v = none ∧ M1 = md S D1 ∧ RowEq D D1 a n (d_ai D a2)) :=
  (c_Row_copy h h').mono (fun v M1 h => ⟨_, h.1, h.2, RowEq.of_iter (f := fun i D => d_ai D a2 i) (fun i D1 hi hx => by rw [hx.2.2.2, if_neg (fun z => hne z.1)])⟩)
/-- the first i below n of which c holds -/
def firstIx (n : Nat) (c : Nat → Bool) : Option Nat := (List.range n).find? c
theorem firstIx_some {n i : Nat} {c : Nat → Bool} (hi : i < n) (hm : ∀ j, j < i → c j = false) (hc : c i = true) : firstIx n c = some i := by
  unfold firstIx
  rw [List.find?_range_eq_some]
  exact ⟨hc, by simpa using hi, fun j hj => by simp [hm j hj]⟩
theorem firstIx_none {n : Nat} {c : Nat → Bool} (hm : ∀ j, j < n → c j = false) : firstIx n c = none := by
  unfold firstIx
  rw [List.find?_eq_none]
  intro j hj
  simp [hm j (List.mem_range.mp hj)]
theorem firstIx_spec {n i : Nat} {c : Nat → Bool} (h : firstIx n c = some i) : i < n ∧ c i = true ∧ ∀ j, j < i → c j = false := by
  unfold firstIx at h
  rw [List.find?_range_eq_some] at h
  exact ⟨by simpa using h.2.1, h.1, fun j hj => by simpa using h.2.2 j hj⟩
theorem Eg_find {E : Nat → Prop} {c : Nat → Bool} (n : Nat) (hit : ∀ i, i < n → firstIx n c = some i → c i = true → E i) (miss : ∀ i, i < n → c i = false → E (i + 1) → E i) (fin : firstIx n c = none → E n) : E 0 := by
  have key : ∀ k, k ≤ n → (∀ j, j < n - k → c j = false) → E (n - k) := by
    intro k
    induction k with
    | zero => intro _ h; exact fin (firstIx_none h)
    | succ k ih =>
      intro hk h
      have e : n - (k + 1) + 1 = n - k := by omega
      cases hc : c (n - (k + 1)) with
      | true => exact hit _ (by omega) (firstIx_some (by omega) h hc) hc
      | false =>
        refine miss _ (by omega) hc ?_
        rw [e]
        refine ih (by omega) (fun j hj => ?_)
        by_cases hj2 : j < n - (k + 1)
        · exact h j hj2
        · rw [show j = n - (k + 1) by omega]; exact hc
  have := key n (Nat.le_refl n) (fun j hj => by omega)
  rwa [Nat.sub_self] at this
theorem c_partyNamed {w : Int64} (hL : BkL S B) (hW : WfK K) (hR : RepC D B K) : EvM g (d + 1) mX0_partyNamed 0 0 [.ref B, .long w] (md S D) (fun v M1 => M1 = md S D ∧ v = some (.int (pE (firstIx (k_np K) (fun p => decide (asc (k_pn K p) = w)))))) := by
  have hb := hL.1
  obtain ⟨w1, w2, w3, -⟩ := hW
  have hc := hR.1
  refine EvM.mk (by decide) (Nat.le_of_ble_eq_true rfl) ?_
  refine X_run rfl trivial ?_
  refine Eg_find (E := fun i => Eg g (d + 1) mX0_partyNamed 0 0 (Zr g _) 2 [(0, .ref B), (1, .long w), (3, .int (nI i))] [] (md S D)) (c := fun p => decide (asc (k_pn K p) = w)) (k_np K) (fun i hi hf hz => ?_) (fun i hi hz k => ?_) (fun hf => ?_)
  · have hi2 : i < 10 := by omega
    have hy := (hL.2.1 i hi2).1
    have hv := (hR.2.1 i hi).1
    refine X_run rfl ?_ ?_
    · simp [md_s, md_w, rget, r_a, r_b, r_c, r_i, r_l, hb, hc]
    try simp only [md_s, md_w, rget_some, r_a, r_b, r_c, r_i, r_l, r_nx, r_pc, hb, hc]
    refine X_icmp_ge rfl (fun c1 => no_le c1 hi (by omega)) (fun c1 => ?_)
    refine X_run rfl ?_ ?_
    · simp [md_s, md_w, rget, r_a, r_b, r_c, r_i, r_l, hb]
    try simp only [md_s, md_w, rget_some, r_a, r_b, r_c, r_i, r_l, r_nx, r_pc, hb]
    refine X_cV rfl (by decide) hb.1 rfl rfl (Nat.le_of_ble_eq_true rfl) (c_partyAt hL hi2) ?_
    rintro _ _ ⟨rfl, rfl⟩
    refine X_run rfl ?_ ?_
    · simp [md_s, md_w, rget, r_a, r_b, r_c, r_i, r_l, hy, hv]
    try simp only [md_s, md_w, rget_some, r_a, r_b, r_c, r_i, r_l, r_nx, r_pc, hy, hv]
    refine X_if_ne rfl (fun c2 => absurd ((lg_cmp_eq _ _).mpr (of_decide_eq_true hz)) c2) (fun c2 => ?_)
    refine X_run rfl trivial ?_
    exact X_iret rfl rfl ⟨rfl, by rw [hf]; rfl⟩
  · have hi2 : i < 10 := by omega
    have hy := (hL.2.1 i hi2).1
    have hv := (hR.2.1 i hi).1
    refine X_run rfl ?_ ?_
    · simp [md_s, md_w, rget, r_a, r_b, r_c, r_i, r_l, hb, hc]
    try simp only [md_s, md_w, rget_some, r_a, r_b, r_c, r_i, r_l, r_nx, r_pc, hb, hc]
    refine X_icmp_ge rfl (fun c1 => no_le c1 hi (by omega)) (fun c1 => ?_)
    refine X_run rfl ?_ ?_
    · simp [md_s, md_w, rget, r_a, r_b, r_c, r_i, r_l, hb]
    try simp only [md_s, md_w, rget_some, r_a, r_b, r_c, r_i, r_l, r_nx, r_pc, hb]
    refine X_cV rfl (by decide) hb.1 rfl rfl (Nat.le_of_ble_eq_true rfl) (c_partyAt hL hi2) ?_
    rintro _ _ ⟨rfl, rfl⟩
    refine X_run rfl ?_ ?_
    · simp [md_s, md_w, rget, r_a, r_b, r_c, r_i, r_l, hy, hv]
    try simp only [md_s, md_w, rget_some, r_a, r_b, r_c, r_i, r_l, r_nx, r_pc, hy, hv]
    refine X_if_ne rfl (fun c2 => ?_) (fun c2 => absurd ((lg_cmp_eq _ _).mp c2) (of_decide_eq_false hz))
    refine X_run rfl ?_ ?_
    · simp [md_s, md_w, rget, r_a, r_b, r_c, r_i, r_l, nI_s1]
    try simp only [md_s, md_w, rget_some, r_a, r_b, r_c, r_i, r_l, r_nx, r_pc, nI_s1]
    exact k
  · refine X_run rfl ?_ ?_
    · simp [md_s, md_w, rget, r_a, r_b, r_c, r_i, r_l, hb, hc]
    try simp only [md_s, md_w, rget_some, r_a, r_b, r_c, r_i, r_l, r_nx, r_pc, hb, hc]
    refine X_icmp_ge rfl (fun c1 => ?_) (fun c1 => no_nle c1 (Nat.le_refl _) (by omega))
    refine X_run rfl trivial ?_
    exact X_iret rfl rfl ⟨rfl, by rw [hf]; rfl⟩
theorem c_moneyNamed {w : Int64} (hL : BkL S B) (hW : WfK K) (hR : RepC D B K) : EvM g (d + 1) mX0_moneyNamed 0 0 [.ref B, .long w] (md S D) (fun v M1 => M1 = md S D ∧ v = some (.int (pE (firstIx (k_nm K) (fun p => decide (asc (k_mn K p) = w)))))) := by
  have hb := hL.1
  obtain ⟨w1, w2, w3, -⟩ := hW
  have hc := hR.1
  refine EvM.mk (by decide) (Nat.le_of_ble_eq_true rfl) ?_
  refine X_run rfl trivial ?_
  refine Eg_find (E := fun i => Eg g (d + 1) mX0_moneyNamed 0 0 (Zr g _) 2 [(0, .ref B), (1, .long w), (3, .int (nI i))] [] (md S D)) (c := fun p => decide (asc (k_mn K p) = w)) (k_nm K) (fun i hi hf hz => ?_) (fun i hi hz k => ?_) (fun hf => ?_)
  · have hi2 : i < 5 := by omega
    have hy := hL.2.2.1 i hi2
    have hv := hR.2.2.1 i hi
    refine X_run rfl ?_ ?_
    · simp [md_s, md_w, rget, r_a, r_b, r_c, r_i, r_l, hb, hc]
    try simp only [md_s, md_w, rget_some, r_a, r_b, r_c, r_i, r_l, r_nx, r_pc, hb, hc]
    refine X_icmp_ge rfl (fun c1 => no_le c1 hi (by omega)) (fun c1 => ?_)
    refine X_run rfl ?_ ?_
    · simp [md_s, md_w, rget, r_a, r_b, r_c, r_i, r_l, hb]
    try simp only [md_s, md_w, rget_some, r_a, r_b, r_c, r_i, r_l, r_nx, r_pc, hb]
    refine X_cV rfl (by decide) hb.1 rfl rfl (Nat.le_of_ble_eq_true rfl) (c_moneyAt hL hi2) ?_
    rintro _ _ ⟨rfl, rfl⟩
    refine X_run rfl ?_ ?_
    · simp [md_s, md_w, rget, r_a, r_b, r_c, r_i, r_l, hy, hv]
    try simp only [md_s, md_w, rget_some, r_a, r_b, r_c, r_i, r_l, r_nx, r_pc, hy, hv]
    refine X_if_ne rfl (fun c2 => absurd ((lg_cmp_eq _ _).mpr (of_decide_eq_true hz)) c2) (fun c2 => ?_)
    refine X_run rfl trivial ?_
    exact X_iret rfl rfl ⟨rfl, by rw [hf]; rfl⟩
  · have hi2 : i < 5 := by omega
    have hy := hL.2.2.1 i hi2
    have hv := hR.2.2.1 i hi
    refine X_run rfl ?_ ?_
    · simp [md_s, md_w, rget, r_a, r_b, r_c, r_i, r_l, hb, hc]
    try simp only [md_s, md_w, rget_some, r_a, r_b, r_c, r_i, r_l, r_nx, r_pc, hb, hc]
    refine X_icmp_ge rfl (fun c1 => no_le c1 hi (by omega)) (fun c1 => ?_)
    refine X_run rfl ?_ ?_
    · simp [md_s, md_w, rget, r_a, r_b, r_c, r_i, r_l, hb]
    try simp only [md_s, md_w, rget_some, r_a, r_b, r_c, r_i, r_l, r_nx, r_pc, hb]
    refine X_cV rfl (by decide) hb.1 rfl rfl (Nat.le_of_ble_eq_true rfl) (c_moneyAt hL hi2) ?_
    rintro _ _ ⟨rfl, rfl⟩
    refine X_run rfl ?_ ?_
    · simp [md_s, md_w, rget, r_a, r_b, r_c, r_i, r_l, hy, hv]
    try simp only [md_s, md_w, rget_some, r_a, r_b, r_c, r_i, r_l, r_nx, r_pc, hy, hv]
    refine X_if_ne rfl (fun c2 => ?_) (fun c2 => absurd ((lg_cmp_eq _ _).mp c2) (of_decide_eq_false hz))
    refine X_run rfl ?_ ?_
    · simp [md_s, md_w, rget, r_a, r_b, r_c, r_i, r_l, nI_s1]
    try simp only [md_s, md_w, rget_some, r_a, r_b, r_c, r_i, r_l, r_nx, r_pc, nI_s1]
    exact k
  · refine X_run rfl ?_ ?_
    · simp [md_s, md_w, rget, r_a, r_b, r_c, r_i, r_l, hb, hc]
    try simp only [md_s, md_w, rget_some, r_a, r_b, r_c, r_i, r_l, r_nx, r_pc, hb, hc]
    refine X_icmp_ge rfl (fun c1 => ?_) (fun c1 => no_nle c1 (Nat.le_refl _) (by omega))
    refine X_run rfl trivial ?_
    exact X_iret rfl rfl ⟨rfl, by rw [hf]; rfl⟩
theorem pE_neg {o : Option Nat} (h : ∀ q, o = some q → q < 2 ^ 31) : pE o = -1 ↔ o = none := by
  cases o with
  | none => simp [pE]
  | some q =>
    simp only [pE, reduceCtorEq, iff_false]
    intro z
    have h1 := nI_toInt (h q rfl)
    rw [z] at h1
    have h2 : ((-1 : Int32)).toInt = -1 := rfl
    omega
def named (K : KT) (w : Int64) : Bool := (firstIx (k_np K) (fun p => decide (asc (k_pn K p) = w))).isSome || (firstIx (k_nm K) (fun p => decide (asc (k_mn K p) = w))).isSome
theorem c_isNamed {w : Int64} (hL : BkL S B) (hW : WfK K) (hR : RepC D B K) : EvM g (d + 2) mX0_isNamed 0 0 [.ref B, .long w] (md S D) (fun v M1 => M1 = md S D ∧ v = some (.int (b2i (named K w)))) := by
  have hb := hL.1
  have hW' := hW
  obtain ⟨w1, w2, w3, -⟩ := hW
  refine EvM.mk (by decide) (Nat.le_of_ble_eq_true rfl) ?_
  refine X_run rfl trivial ?_
  refine X_cV (args := [.long w]) rfl (by decide) hb.1 rfl rfl (Nat.le_of_ble_eq_true rfl) (c_partyNamed hL hW' hR) ?_
  rintro _ _ ⟨rfl, rfl⟩
  have hlt1 : ∀ q, firstIx (k_np K) (fun p => decide (asc (k_pn K p) = w)) = some q → q < 2 ^ 31 := fun q hq => by have := (firstIx_spec hq).1; omega
  have hlt2 : ∀ q, firstIx (k_nm K) (fun p => decide (asc (k_mn K p) = w)) = some q → q < 2 ^ 31 := fun q hq => by have := (firstIx_spec hq).1; omega
  refine X_run rfl trivial ?_
  refine X_icmp_ne rfl (fun c2 => ?_) (fun c2 => ?_)
  · have h1 : named K w = true := by
      unfold named
      cases hz : firstIx (k_np K) (fun p => decide (asc (k_pn K p) = w)) with
      | none => exact absurd ((pE_neg hlt1).mpr hz) c2
      | some q => simp
    refine X_run rfl trivial ?_
    rw [h1]
    exact X_zret rfl rfl (Or.inr rfl) ⟨rfl, rfl⟩
  · have h1 := (pE_neg hlt1).mp c2
    refine X_run rfl trivial ?_
    refine X_cV (args := [.long w]) rfl (by decide) hb.1 rfl rfl (Nat.le_of_ble_eq_true rfl) (c_moneyNamed hL hW' hR) ?_
    rintro _ _ ⟨rfl, rfl⟩
    refine X_run rfl trivial ?_
    refine X_icmp_eq rfl (fun c3 => ?_) (fun c3 => ?_)
    · have h2 := (pE_neg hlt2).mp c3
      refine X_run rfl trivial ?_
      rw [show named K w = false by simp [named, h1, h2]]
      exact X_zret rfl rfl (Or.inl rfl) ⟨rfl, rfl⟩
    · have h2 : named K w = true := by
        unfold named
        cases hz : firstIx (k_nm K) (fun p => decide (asc (k_mn K p) = w)) with
        | none => exact absurd ((pE_neg hlt2).mpr hz) c3
        | some q => simp
      refine X_run rfl trivial ?_
      rw [h2]
      exact X_zret rfl rfl (Or.inr rfl) ⟨rfl, rfl⟩
end BOOKW
