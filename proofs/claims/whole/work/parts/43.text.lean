/-! the class reads its tape -/
def TxL (S : ShT) (Z : Nat) : Prop := (s_tg S Z = 9 ∧ s_fr S 256 Z = some (Z + 1) ∧ s_fr S 257 Z = some (Z + 3) ∧ s_fr S 258 Z = some (Z + 4) ∧ s_fr S 259 Z = some (Z + 5) ∧ s_tg S (Z + 3) = 20 ∧ s_ln S (Z + 3) = 401 ∧ s_tg S (Z + 4) = 20 ∧ s_ln S (Z + 4) = 401 ∧ s_tg S (Z + 5) = 21 ∧ s_ln S (Z + 5) = 401) ∧ BrL S (Z + 1) (Z + 2) 2000
def TS (D : DaT) (Z : Nat) (c r k p b : Int32) (v : Int64) : Prop := d_fi D 260 Z = c ∧ d_fi D 261 Z = r ∧ d_fi D 262 Z = k ∧ d_fi D 263 Z = p ∧ d_fi D 264 Z = b ∧ d_fl D 265 Z = v
def KwL (g : GG) (S : ShT) (D : DaT) : Prop := s_tg S (gKa g) = 41 ∧ s_ln S (gKa g) = 11 ∧ ∀ k, k < 11 → d_al D (gKa g) k = asc (kwW k)
theorem KwL.out {g : GG} {S : ShT} {D D1 : DaT} {lo hi : Nat} (h : KwL g S D) (ho : Out lo hi D D1) (hd : gKa g < lo) : KwL g S D1 := ⟨h.1, h.2.1, fun k hk => by rw [(ho _ (Or.inl hd)).2.2.2]; exact h.2.2 k hk⟩
theorem TS.c {D : DaT} {Z : Nat} {c r k p b x : Int32} {v : Int64} (h : TS D Z c r k p b v) : TS (pfi D 260 Z x) Z x r k p b v := by
  obtain ⟨h1, h2, h3, h4, h5, h6⟩ := h
  exact ⟨by simp [rd_fi], by simp [rd_fi, h2], by simp [rd_fi, h3], by simp [rd_fi, h4], by simp [rd_fi, h5], h6⟩
theorem TS.r {D : DaT} {Z : Nat} {c r k p b x : Int32} {v : Int64} (h : TS D Z c r k p b v) : TS (pfi D 261 Z x) Z c x k p b v := by
  obtain ⟨h1, h2, h3, h4, h5, h6⟩ := h
  exact ⟨by simp [rd_fi, h1], by simp [rd_fi], by simp [rd_fi, h3], by simp [rd_fi, h4], by simp [rd_fi, h5], h6⟩
theorem TS.k {D : DaT} {Z : Nat} {c r k p b x : Int32} {v : Int64} (h : TS D Z c r k p b v) : TS (pfi D 262 Z x) Z c r x p b v := by
  obtain ⟨h1, h2, h3, h4, h5, h6⟩ := h
  exact ⟨by simp [rd_fi, h1], by simp [rd_fi, h2], by simp [rd_fi], by simp [rd_fi, h4], by simp [rd_fi, h5], h6⟩
theorem TS.p {D : DaT} {Z : Nat} {c r k p b x : Int32} {v : Int64} (h : TS D Z c r k p b v) : TS (pfi D 263 Z x) Z c r k x b v := by
  obtain ⟨h1, h2, h3, h4, h5, h6⟩ := h
  exact ⟨by simp [rd_fi, h1], by simp [rd_fi, h2], by simp [rd_fi, h3], by simp [rd_fi], by simp [rd_fi, h5], h6⟩
theorem TS.b {D : DaT} {Z : Nat} {c r k p b x : Int32} {v : Int64} (h : TS D Z c r k p b v) : TS (pfi D 264 Z x) Z c r k p x v := by
  obtain ⟨h1, h2, h3, h4, h5, h6⟩ := h
  exact ⟨by simp [rd_fi, h1], by simp [rd_fi, h2], by simp [rd_fi, h3], by simp [rd_fi, h4], by simp [rd_fi], h6⟩
theorem TS.v {D : DaT} {Z : Nat} {c r k p b : Int32} {v x : Int64} (h : TS D Z c r k p b v) : TS (pfl D 265 Z x) Z c r k p b x := by
  obtain ⟨h1, h2, h3, h4, h5, h6⟩ := h
  exact ⟨h1, h2, h3, h4, h5, by simp [rd_fl]⟩
theorem TS.out {D D1 : DaT} {Z lo hi : Nat} {c r k p b : Int32} {v : Int64} (h : TS D Z c r k p b v) (ho : Out lo hi D D1) (hd : Z < lo) : TS D1 Z c r k p b v := by
  obtain ⟨h1, h2, h3, h4, h5, h6⟩ := h
  obtain ⟨e1, e2, -⟩ := ho Z (Or.inl hd)
  exact ⟨by rw [e1, h1], by rw [e1, h2], by rw [e1, h3], by rw [e1, h4], by rw [e1, h5], by rw [e2, h6]⟩
theorem gD_lt {T : List Nat} (h : ∀ b ∈ T, b < 256) (i : Nat) : T.getD i 0 < 256 := by
  rw [List.getD_eq_getElem?_getD]
  cases hz : T[i]? with
  | none => decide
  | some b => exact h b (List.mem_of_getElem? hz)
theorem nI_iff {b c : Nat} (hb : b < 256) (hc : c < 256) : nI b = nI c ↔ b = c := nI_eq (by omega) (by omega)
/-- digits taken in one after the other -/
def dgV (w : List Nat) : Int64 := w.foldl (fun v b => v * 10 + (nI b - 48).toInt64) 0
theorem dgV_snoc (w : List Nat) (b : Nat) : dgV (w ++ [b]) = dgV w * 10 + (nI b - 48).toInt64 := by unfold dgV; rw [List.foldl_append]; rfl
theorem dgV_num : ∀ w : List Nat, (∀ b ∈ w, isDig b = true) → dgV w = lN (numV w) := by
  refine snoc_ind (fun _ => rfl) (fun w b ih hw => ?_)
  have h1 := ih (fun c hc => hw c (by simp [hc]))
  have h2 := of_decide_eq_true (hw b (by simp))
  have e : nI b - 48 = nI (b - 48) := by
    rw [show (48 : Int32) = nI 48 from rfl]
    conv => lhs; rw [show b = (b - 48) + 48 by omega, ← nI_add]
    rw [Int32.add_sub_cancel]
  rw [dgV_snoc, numV_snoc, h1, e, nI_l (by omega)]
  unfold lN
  rw [show (10 : Int64) = Int64.ofNat 10 from rfl, ← Int64.ofNat_mul, ← Int64.ofNat_add]
theorem asc_inj {v w : List Nat} (hv : wOk v) (hw : wOk w) : asc v = asc w ↔ v = w := by
  constructor
  · intro h
    have e : ascN v = ascN w := by rw [← asc_nat v (fun b hb => (hv.by.1 b hb).2) hv.2.1, ← asc_nat w (fun b hb => (hw.by.1 b hb).2) hw.2.1, h]
    rw [← dgs_asc v hv.by.1 8 hv.2.1, ← dgs_asc w hw.by.1 8 hw.2.1, e]
  · intro h; rw [h]
theorem kwW_ok : ∀ k, k < 11 → wOk (kwW k) := by
  unfold wOk
  decide +kernel
section TEXT
variable {g : GG} {d : Nat} {S : ShT} {D : DaT} {Z : Nat} {T : List Nat} {c r k p b : Int32} {v : Int64}
theorem c_isDigit {x : Nat} (hx : x < 256) {M : Mem} : EvM g d mX8_isDigit 0 0 [.int (nI x)] M (fun v M1 => M1 = M ∧ v = some (.int (b2i (isDig x)))) := by
  have e1 : (48 : Int32) = nI 48 := rfl
  have e2 : (57 : Int32) = nI 57 := rfl
  refine EvM.mk (by decide) (Nat.le_of_ble_eq_true rfl) ?_
  refine X_run rfl trivial ?_
  refine X_icmp_lt rfl (fun c0 => ?_) (fun c0 => ?_)
  · refine X_run rfl trivial ?_
    refine X_zret rfl rfl (Or.inl rfl) ⟨rfl, ?_⟩
    have : ¬ (48 ≤ x ∧ x ≤ 57) := fun z => by rw [show (48 : Int32) = nI 48 from rfl, nI_ltI (by omega) (by omega)] at c0; omega
    unfold isDig
    rw [decide_eq_false this]
    rfl
  · refine X_run rfl trivial ?_
    refine X_icmp_gt rfl (fun c1 => ?_) (fun c1 => ?_)
    · refine X_run rfl trivial ?_
      refine X_zret rfl rfl (Or.inl rfl) ⟨rfl, ?_⟩
      have : ¬ (48 ≤ x ∧ x ≤ 57) := fun z => by rw [show (57 : Int32) = nI 57 from rfl, nI_ltI (by omega) (by omega)] at c1; omega
      unfold isDig
      rw [decide_eq_false this]
      rfl
    · refine X_run rfl trivial ?_
      refine X_zret rfl rfl (Or.inr rfl) ⟨rfl, ?_⟩
      have : 48 ≤ x ∧ x ≤ 57 := by
        rw [show (48 : Int32) = nI 48 from rfl, nI_ltI (by omega) (by omega)] at c0
        rw [show (57 : Int32) = nI 57 from rfl, nI_ltI (by omega) (by omega)] at c1
        omega
      unfold isDig
      rw [decide_eq_true this]
      rfl
theorem c_isLetter {x : Nat} (hx : x < 256) {M : Mem} : EvM g d mX8_isLetter 0 0 [.int (nI x)] M (fun v M1 => M1 = M ∧ v = some (.int (b2i (isLet x)))) := by
  refine EvM.mk (by decide) (Nat.le_of_ble_eq_true rfl) ?_
  refine X_run rfl trivial ?_
  refine X_icmp_lt rfl (fun c0 => ?_) (fun c0 => ?_)
  · refine X_run rfl trivial ?_
    refine X_zret rfl rfl (Or.inl rfl) ⟨rfl, ?_⟩
    have : ¬ (97 ≤ x ∧ x ≤ 122) := fun z => by rw [show (97 : Int32) = nI 97 from rfl, nI_ltI (by omega) (by omega)] at c0; omega
    unfold isLet
    rw [decide_eq_false this]
    rfl
  · refine X_run rfl trivial ?_
    refine X_icmp_gt rfl (fun c1 => ?_) (fun c1 => ?_)
    · refine X_run rfl trivial ?_
      refine X_zret rfl rfl (Or.inl rfl) ⟨rfl, ?_⟩
      have : ¬ (97 ≤ x ∧ x ≤ 122) := fun z => by rw [show (122 : Int32) = nI 122 from rfl, nI_ltI (by omega) (by omega)] at c1; omega
      unfold isLet
      rw [decide_eq_false this]
      rfl
    · refine X_run rfl trivial ?_
      refine X_zret rfl rfl (Or.inr rfl) ⟨rfl, ?_⟩
      have : 97 ≤ x ∧ x ≤ 122 := by
        rw [show (97 : Int32) = nI 97 from rfl, nI_ltI (by omega) (by omega)] at c0
        rw [show (122 : Int32) = nI 122 from rfl, nI_ltI (by omega) (by omega)] at c1
        omega
      unfold isLet
      rw [decide_eq_true this]
      rfl
theorem c_tapeAt {i : Nat} (hZ : TxL S Z) (hB : BrR D (Z + 1) T) (hl : T.length ≤ 2000) (hi : i < T.length) : EvM g d mX1_at 0 0 [.ref (Z + 1), .int (nI i)] (md S D) (fun v M1 => M1 = md S D ∧ v = some (.int (nI (T.getD i 0)))) :=
  (c_B_at hZ.2 hB.1 hl hi).mono (fun v M1 hz => ⟨hz.1, by rw [hz.2, hB.2.1 i hi]⟩)
theorem c_kindOfWord {w : List Nat} (hK : KwL g S D) (hw : wOk w) : EvM g d mX8_kindOfWord 0 0 [.long (asc w)] (md S D) (fun v M1 => M1 = md S D ∧ v = some (.int (nI (kw w)))) := by
  obtain ⟨k1, k2, k3⟩ := hK
  refine EvM.mk (by decide) (Nat.le_of_ble_eq_true rfl) ?_
  refine X_run rfl trivial ?_
  refine Eg_find (E := fun i => Eg g d mX8_kindOfWord 0 0 (Zr g _) 2 [(0, .long (asc w)), (2, .int (nI i))] [] (md S D)) (c := fun k => decide (kwW k = w)) 11 (fun i hi hf hz => ?_) (fun i hi hz k => ?_) (fun hf => ?_)
  · refine X_run rfl ?_ ?_
    · simp [md_s, md_w, rget, r_a, r_b, r_c, r_i, r_l, k1, k2]
    try simp only [md_s, md_w, rget_some, r_a, r_b, r_c, r_i, r_l, r_nx, r_pc, Nat.reduceEqDiff, false_and, if_false, k1, k2]
    refine X_icmp_ge rfl (fun c1 => no_le c1 hi (by omega)) (fun c1 => ?_)
    refine X_run rfl ?_ ?_
    · simp [md_s, md_w, rget, r_a, r_b, r_c, r_i, r_l, k1, k2, nI_clamp (show i < 2 ^ 31 by omega), vp_in_nI hi (by decide), k3 i hi]
    try simp only [md_s, md_w, rget_some, r_a, r_b, r_c, r_i, r_l, r_nx, r_pc, Nat.reduceEqDiff, false_and, if_false, k1, k2, nI_clamp (show i < 2 ^ 31 by omega), vp_in_nI hi (by decide), k3 i hi]
    have hz := of_decide_eq_true hz
    refine X_if_ne rfl (fun c2 => absurd ((lg_cmp_eq _ _).mpr (by rw [hz])) c2) (fun c2 => ?_)
    refine X_run rfl trivial ?_
    exact X_iret rfl rfl ⟨rfl, by unfold kw; rw [hf]; rfl⟩
  · refine X_run rfl ?_ ?_
    · simp [md_s, md_w, rget, r_a, r_b, r_c, r_i, r_l, k1, k2]
    try simp only [md_s, md_w, rget_some, r_a, r_b, r_c, r_i, r_l, r_nx, r_pc, Nat.reduceEqDiff, false_and, if_false, k1, k2]
    refine X_icmp_ge rfl (fun c1 => no_le c1 hi (by omega)) (fun c1 => ?_)
    refine X_run rfl ?_ ?_
    · simp [md_s, md_w, rget, r_a, r_b, r_c, r_i, r_l, k1, k2, nI_clamp (show i < 2 ^ 31 by omega), vp_in_nI hi (by decide), k3 i hi]
    try simp only [md_s, md_w, rget_some, r_a, r_b, r_c, r_i, r_l, r_nx, r_pc, Nat.reduceEqDiff, false_and, if_false, k1, k2, nI_clamp (show i < 2 ^ 31 by omega), vp_in_nI hi (by decide), k3 i hi]
    have hz := of_decide_eq_false hz
    refine X_if_ne rfl (fun c2 => ?_) (fun c2 => absurd ((asc_inj (kwW_ok i hi) hw).mp ((lg_cmp_eq _ _).mp c2)) hz)
    refine X_run rfl ?_ ?_
    · simp [md_s, md_w, rget, r_a, r_b, r_c, r_i, r_l, nI_s1]
    try simp only [md_s, md_w, rget_some, r_a, r_b, r_c, r_i, r_l, r_nx, r_pc, Nat.reduceEqDiff, false_and, if_false, nI_s1]
    exact k
  · refine X_run rfl ?_ ?_
    · simp [md_s, md_w, rget, r_a, r_b, r_c, r_i, r_l, k1, k2]
    try simp only [md_s, md_w, rget_some, r_a, r_b, r_c, r_i, r_l, r_nx, r_pc, Nat.reduceEqDiff, false_and, if_false, k1, k2]
    refine X_icmp_ge rfl (fun c1 => ?_) (fun c1 => no_nle c1 (Nat.le_refl _) (by omega))
    refine X_run rfl trivial ?_
    exact X_iret rfl rfl ⟨rfl, by unfold kw; rw [hf]; rfl⟩
theorem c_skipBlanks {i0 : Nat} (hZ : TxL S Z) (hB : BrR D (Z + 1) T) (hl : T.length ≤ 2000) (hi0 : i0 ≤ T.length) (hT : TS D Z c r k p (nI i0) v) : EvM g (d + 1) mX8_skipBlanks 0 0 [.ref Z] (md S D) (fun v' M1 => ∃ D1, v' = none ∧ M1 = md S D1 ∧ TS D1 Z c r k (nI (fin isBlk T i0)) (nI i0) v ∧ Out Z (Z + 1) D D1) := by
  have hz := hZ.1
  have hp := hZ.2.1
  have h5 := hT.2.2.2.2.1
  have hT0 := hT.p (x := nI i0)
  have hO0 : Out Z (Z + 1) D (pfi D 263 Z (nI i0)) := Out.fi (by omega)
  refine EvM.mk (by decide) (Nat.le_of_ble_eq_true rfl) ?_
  refine X_run rfl ?_ ?_
  · simp [md_s, md_w, rget, r_a, r_b, r_c, r_i, r_l, hz, h5]
  try simp only [md_s, md_w, rget_some, r_a, r_b, r_c, r_i, r_l, r_nx, r_pc, Nat.reduceEqDiff, false_and, if_false, hz, h5]
  generalize pfi D 263 Z (nI i0) = D0 at hT0 hO0 ⊢
  refine fin_ind (p := isBlk) (T := T) (P := fun i => fin isBlk T i = fin isBlk T i0 → ∀ D', TS D' Z c r k (nI i) (nI i0) v → Out Z (Z + 1) D D' → Eg g (d + 1) mX8_skipBlanks 0 0 (Zr g (fun v' M1 => ∃ D1, v' = none ∧ M1 = md S D1 ∧ TS D1 Z c r k (nI (fin isBlk T i0)) (nI i0) v ∧ Out Z (Z + 1) D D1)) 8 [(0, .ref Z)] [] (md S D')) ?_ ?_ _ i0 rfl hi0 rfl D0 hT0 hO0
  · intro i hi hstop hF D' hT' hO'
    have h4 := hT'.2.2.2.1
    have hB' : BrR D' (Z + 1) T := hB.out hO' (by omega)
    have hl' := hB'.1
    refine X_run rfl ?_ ?_
    · simp [md_s, md_w, rget, r_a, r_b, r_c, r_i, r_l, hz, h4, hp, hl']
    try simp only [md_s, md_w, rget_some, r_a, r_b, r_c, r_i, r_l, r_nx, r_pc, Nat.reduceEqDiff, false_and, if_false, hz, h4, hp, hl']
    rcases hstop with hs | hs
    · refine X_icmp_ge rfl (fun c1 => ?_) (fun c1 => no_nle c1 hs (by omega))
      rw [fin_end hs] at hF
      rw [← hF]
      exact X_vret rfl rfl ⟨D', rfl, rfl, hT', hO'⟩
    · refine X_icmp_ge rfl (fun c1 => ?_) (fun c1 => ?_)
      · have hs2 : T.length ≤ i := (nI_leI (by omega) (by omega)).mp c1
        rw [fin_end hs2] at hF
        rw [← hF]
        exact X_vret rfl rfl ⟨D', rfl, rfl, hT', hO'⟩
      · have hlt : i < T.length := Nat.not_le.mp (fun z => c1 ((nI_leI (by omega) (by omega)).mpr z))
        rw [fin_stop hlt hs] at hF
        rw [← hF]
        have hb := gD_lt hB.2.2 i
        unfold isBlk at hs
        have hs := of_decide_eq_false hs
        refine X_run rfl ?_ ?_
        · simp [md_s, md_w, rget, r_a, r_b, r_c, r_i, r_l, hz, h4]
        try simp only [md_s, md_w, rget_some, r_a, r_b, r_c, r_i, r_l, r_nx, r_pc, Nat.reduceEqDiff, false_and, if_false, hz, h4]
        refine X_cV (args := [.int (nI i)]) rfl (by decide) hp rfl rfl (Nat.le_of_ble_eq_true rfl) (c_tapeAt hZ hB' hl hlt) ?_
        rintro _ _ ⟨rfl, rfl⟩
        refine X_run rfl trivial ?_
        refine X_icmp_eq rfl (fun c2 => absurd ((nI_iff (c := 32) hb (by decide)).mp c2) (fun z => hs (Or.inl z))) (fun c2 => ?_)
        refine X_run rfl ?_ ?_
        · simp [md_s, md_w, rget, r_a, r_b, r_c, r_i, r_l, hz, h4]
        try simp only [md_s, md_w, rget_some, r_a, r_b, r_c, r_i, r_l, r_nx, r_pc, Nat.reduceEqDiff, false_and, if_false, hz, h4]
        refine X_cV (args := [.int (nI i)]) rfl (by decide) hp rfl rfl (Nat.le_of_ble_eq_true rfl) (c_tapeAt hZ hB' hl hlt) ?_
        rintro _ _ ⟨rfl, rfl⟩
        refine X_run rfl trivial ?_
        refine X_icmp_ne rfl (fun c3 => ?_) (fun c3 => absurd ((nI_iff (c := 10) hb (by decide)).mp c3) (fun z => hs (Or.inr z)))
        exact X_vret rfl rfl ⟨D', rfl, rfl, hT', hO'⟩
  · intro i hlt hs ih hF D' hT' hO'
    have h4 := hT'.2.2.2.1
    have hB' : BrR D' (Z + 1) T := hB.out hO' (by omega)
    have hl' := hB'.1
    have hb := gD_lt hB.2.2 i
    rw [fin_step hlt hs] at hF
    unfold isBlk at hs
    have hs := of_decide_eq_true hs
    have next : Eg g (d + 1) mX8_skipBlanks 0 0 (Zr g (fun v' M1 => ∃ D1, v' = none ∧ M1 = md S D1 ∧ TS D1 Z c r k (nI (fin isBlk T i0)) (nI i0) v ∧ Out Z (Z + 1) D D1)) 54 [(0, .ref Z)] [] (md S D') := by
      have k1 := ih hF (pfi D' 263 Z (nI (i + 1))) hT'.p (hO'.tr (Out.fi (by omega)))
      refine X_run rfl ?_ ?_
      · simp [md_s, md_w, rget, r_a, r_b, r_c, r_i, r_l, hz, h4, nI_s1]
      try simp only [md_s, md_w, rget_some, r_a, r_b, r_c, r_i, r_l, r_nx, r_pc, Nat.reduceEqDiff, false_and, if_false, hz, h4, nI_s1]
      exact k1
    refine X_run rfl ?_ ?_
    · simp [md_s, md_w, rget, r_a, r_b, r_c, r_i, r_l, hz, h4, hp, hl']
    try simp only [md_s, md_w, rget_some, r_a, r_b, r_c, r_i, r_l, r_nx, r_pc, Nat.reduceEqDiff, false_and, if_false, hz, h4, hp, hl']
    refine X_icmp_ge rfl (fun c1 => no_le c1 hlt (by omega)) (fun c1 => ?_)
    refine X_run rfl ?_ ?_
    · simp [md_s, md_w, rget, r_a, r_b, r_c, r_i, r_l, hz, h4]
    try simp only [md_s, md_w, rget_some, r_a, r_b, r_c, r_i, r_l, r_nx, r_pc, Nat.reduceEqDiff, false_and, if_false, hz, h4]
    refine X_cV (args := [.int (nI i)]) rfl (by decide) hp rfl rfl (Nat.le_of_ble_eq_true rfl) (c_tapeAt hZ hB' hl hlt) ?_
    rintro _ _ ⟨rfl, rfl⟩
    refine X_run rfl trivial ?_
    refine X_icmp_eq rfl (fun c2 => next) (fun c2 => ?_)
    refine X_run rfl ?_ ?_
    · simp [md_s, md_w, rget, r_a, r_b, r_c, r_i, r_l, hz, h4]
    try simp only [md_s, md_w, rget_some, r_a, r_b, r_c, r_i, r_l, r_nx, r_pc, Nat.reduceEqDiff, false_and, if_false, hz, h4]
    refine X_cV (args := [.int (nI i)]) rfl (by decide) hp rfl rfl (Nat.le_of_ble_eq_true rfl) (c_tapeAt hZ hB' hl hlt) ?_
    rintro _ _ ⟨rfl, rfl⟩
    refine X_run rfl trivial ?_
    refine X_icmp_ne rfl (fun c3 => ?_) (fun c3 => next)
    rcases hs with hs | hs
    · exact absurd (by rw [hs]; rfl) c2
    · exact absurd (by rw [hs]; rfl) c3
theorem c_readNumber {i0 : Nat} (hZ : TxL S Z) (hB : BrR D (Z + 1) T) (hl : T.length ≤ 2000) (hi0 : i0 ≤ T.length) (hT : TS D Z c r k (nI i0) b 0) : EvM g (d + 1) mX8_readNumber 0 0 [.ref Z] (md S D) (fun v' M1 => ∃ D1, v' = none ∧ M1 = md S D1 ∧ TS D1 Z c r (if 7 < fin isDig T i0 - i0 then 15 else 12) (nI i0) (nI (fin isDig T i0)) (dgV (seg T i0 (fin isDig T i0))) ∧ Out Z (Z + 1) D D1) := by
  have hz := hZ.1
  have hp := hZ.2.1
  have h4 := hT.2.2.2.1
  have hT0 := hT.b (x := nI i0)
  have hO0 : Out Z (Z + 1) D (pfi D 264 Z (nI i0)) := Out.fi (by omega)
  refine EvM.mk (by decide) (Nat.le_of_ble_eq_true rfl) ?_
  refine X_run rfl ?_ ?_
  · simp [md_s, md_w, rget, r_a, r_b, r_c, r_i, r_l, hz, h4]
  try simp only [md_s, md_w, rget_some, r_a, r_b, r_c, r_i, r_l, r_nx, r_pc, Nat.reduceEqDiff, false_and, if_false, hz, h4]
  generalize pfi D 264 Z (nI i0) = D0 at hT0 hO0 ⊢
  have fi := fin_le (p := isDig) hi0
  have last : ∀ D', TS D' Z c r k (nI i0) (nI (fin isDig T i0)) (dgV (seg T i0 (fin isDig T i0))) → Out Z (Z + 1) D D' → Eg g (d + 1) mX8_readNumber 0 0 (Zr g (fun v' M1 => ∃ D1, v' = none ∧ M1 = md S D1 ∧ TS D1 Z c r (if 7 < fin isDig T i0 - i0 then 15 else 12) (nI i0) (nI (fin isDig T i0)) (dgV (seg T i0 (fin isDig T i0))) ∧ Out Z (Z + 1) D D1)) 80 [(0, .ref Z)] [] (md S D') := fun D' hT' hO' => by
    have h4' := hT'.2.2.2.1
    have h5' := hT'.2.2.2.2.1
    have es : nI (fin isDig T i0) - nI i0 = nI (fin isDig T i0 - i0) := by
      conv => lhs; rw [show fin isDig T i0 = (fin isDig T i0 - i0) + i0 by omega, ← nI_add]
      rw [Int32.add_sub_cancel]
    refine X_run rfl ?_ ?_
    · simp [md_s, md_w, rget, r_a, r_b, r_c, r_i, r_l, hz, h4', h5', es]
    try simp only [md_s, md_w, rget_some, r_a, r_b, r_c, r_i, r_l, r_nx, r_pc, Nat.reduceEqDiff, false_and, if_false, hz, h4', h5', es]
    refine X_icmp_le rfl (fun c1 => ?_) (fun c1 => ?_)
    · have : ¬ 7 < fin isDig T i0 - i0 := fun q => by rw [show (7 : Int32) = nI 7 from rfl, nI_leI (by omega) (by omega)] at c1; omega
      rw [if_neg this]
      refine X_run rfl ?_ ?_
      · simp [md_s, md_w, rget, r_a, r_b, r_c, r_i, r_l, hz]
      try simp only [md_s, md_w, rget_some, r_a, r_b, r_c, r_i, r_l, r_nx, r_pc, Nat.reduceEqDiff, false_and, if_false, hz]
      exact X_vret rfl rfl ⟨_, rfl, rfl, hT'.k, hO'.tr (Out.fi (by omega))⟩
    · have : 7 < fin isDig T i0 - i0 := Nat.not_le.mp (fun q => c1 ((nI_leI (b := 7) (by omega) (by omega)).mpr q))
      rw [if_pos this]
      refine X_run rfl ?_ ?_
      · simp [md_s, md_w, rget, r_a, r_b, r_c, r_i, r_l, hz]
      try simp only [md_s, md_w, rget_some, r_a, r_b, r_c, r_i, r_l, r_nx, r_pc, Nat.reduceEqDiff, false_and, if_false, hz]
      exact X_vret rfl rfl ⟨_, rfl, rfl, hT'.k, hO'.tr (Out.fi (by omega))⟩
  refine fin_ind (p := isDig) (T := T) (P := fun i => fin isDig T i = fin isDig T i0 → i0 ≤ i → ∀ D', TS D' Z c r k (nI i0) (nI i) (dgV (seg T i0 i)) → Out Z (Z + 1) D D' → Eg g (d + 1) mX8_readNumber 0 0 (Zr g (fun v' M1 => ∃ D1, v' = none ∧ M1 = md S D1 ∧ TS D1 Z c r (if 7 < fin isDig T i0 - i0 then 15 else 12) (nI i0) (nI (fin isDig T i0)) (dgV (seg T i0 (fin isDig T i0))) ∧ Out Z (Z + 1) D D1)) 8 [(0, .ref Z)] [] (md S D')) ?_ ?_ _ i0 rfl hi0 rfl (Nat.le_refl _) D0 (by rw [seg_nil]; exact hT0) hO0
  · intro i hi hstop hF hii D' hT' hO'
    have h5 := hT'.2.2.2.2.1
    have hB' : BrR D' (Z + 1) T := hB.out hO' (by omega)
    have hl' := hB'.1
    refine X_run rfl ?_ ?_
    · simp [md_s, md_w, rget, r_a, r_b, r_c, r_i, r_l, hz, h5, hp, hl']
    try simp only [md_s, md_w, rget_some, r_a, r_b, r_c, r_i, r_l, r_nx, r_pc, Nat.reduceEqDiff, false_and, if_false, hz, h5, hp, hl']
    refine X_icmp_ge rfl (fun c1 => ?_) (fun c1 => ?_)
    · have hs2 : T.length ≤ i := (nI_leI (by omega) (by omega)).mp c1
      rw [fin_end hs2] at hF
      exact last D' (by rw [← hF]; exact hT') hO'
    · have hlt : i < T.length := Nat.not_le.mp (fun z => c1 ((nI_leI (by omega) (by omega)).mpr z))
      rcases hstop with hs | hs
      · exact absurd hs (by omega)
      rw [fin_stop hlt hs] at hF
      refine X_run rfl ?_ ?_
      · simp [md_s, md_w, rget, r_a, r_b, r_c, r_i, r_l, hz, h5]
      try simp only [md_s, md_w, rget_some, r_a, r_b, r_c, r_i, r_l, r_nx, r_pc, Nat.reduceEqDiff, false_and, if_false, hz, h5]
      refine X_cV (args := [.int (nI i)]) rfl (by decide) hp rfl rfl (Nat.le_of_ble_eq_true rfl) (c_tapeAt hZ hB' hl hlt) ?_
      rintro _ _ ⟨rfl, rfl⟩
      refine X_cS (args := [.int (nI (T.getD i 0))]) rfl (by decide) rfl rfl (Nat.le_of_ble_eq_true rfl) (c_isDigit (gD_lt hB.2.2 i)) ?_
      rintro _ _ ⟨rfl, rfl⟩
      rw [hs]
      refine X_if_eq rfl (fun c2 => last D' (by rw [← hF]; exact hT') hO') (fun c2 => absurd rfl c2)
  · intro i hlt hs ih hF hii D' hT' hO'
    have h5 := hT'.2.2.2.2.1
    have h6 := hT'.2.2.2.2.2
    have hB' : BrR D' (Z + 1) T := hB.out hO' (by omega)
    have hl' := hB'.1
    rw [fin_step hlt hs] at hF
    have ih := ih hF (by omega)
    rw [seg_snoc hii hlt, dgV_snoc] at ih
    refine X_run rfl ?_ ?_
    · simp [md_s, md_w, rget, r_a, r_b, r_c, r_i, r_l, hz, h5, hp, hl']
    try simp only [md_s, md_w, rget_some, r_a, r_b, r_c, r_i, r_l, r_nx, r_pc, Nat.reduceEqDiff, false_and, if_false, hz, h5, hp, hl']
    refine X_icmp_ge rfl (fun c1 => no_le c1 hlt (by omega)) (fun c1 => ?_)
    refine X_run rfl ?_ ?_
    · simp [md_s, md_w, rget, r_a, r_b, r_c, r_i, r_l, hz, h5]
    try simp only [md_s, md_w, rget_some, r_a, r_b, r_c, r_i, r_l, r_nx, r_pc, Nat.reduceEqDiff, false_and, if_false, hz, h5]
    refine X_cV (args := [.int (nI i)]) rfl (by decide) hp rfl rfl (Nat.le_of_ble_eq_true rfl) (c_tapeAt hZ hB' hl hlt) ?_
    rintro _ _ ⟨rfl, rfl⟩
    refine X_cS (args := [.int (nI (T.getD i 0))]) rfl (by decide) rfl rfl (Nat.le_of_ble_eq_true rfl) (c_isDigit (gD_lt hB.2.2 i)) ?_
    rintro _ _ ⟨rfl, rfl⟩
    rw [hs]
    refine X_if_eq rfl (fun c2 => absurd c2 (by decide)) (fun c2 => ?_)
    refine X_run rfl ?_ ?_
    · simp [md_s, md_w, rget, r_a, r_b, r_c, r_i, r_l, hz, h5, h6]
    try simp only [md_s, md_w, rget_some, r_a, r_b, r_c, r_i, r_l, r_nx, r_pc, Nat.reduceEqDiff, false_and, if_false, hz, h5, h6]
    refine X_cV (args := [.int (nI i)]) rfl (by decide) hp rfl rfl (Nat.le_of_ble_eq_true rfl) (c_tapeAt hZ hB' hl hlt) ?_
    rintro _ _ ⟨rfl, rfl⟩
    have k1 := ih (pfi (pfl D' 265 Z (dgV (seg T i0 i) * 10 + (nI (T.getD i 0) - 48).toInt64)) 264 Z (nI (i + 1))) hT'.v.b ((hO'.tr (Out.fl (by omega))).tr (Out.fi (by omega)))
    obtain ⟨D1, e1, z1, y1⟩ := wr_fl D' 265 Z (dgV (seg T i0 i) * 10 + (nI (T.getD i 0) - 48).toInt64)
    have h5' : d_fi D1 264 Z = nI i := by rw [y1.1]; exact h5
    rw [e1] at k1
    refine X_run rfl ?_ ?_
    · simp [md_s, md_w, rget, r_a, r_b, r_c, r_i, r_l, hz, e1, h5', nI_s1]
    try simp only [md_s, md_w, rget_some, r_a, r_b, r_c, r_i, r_l, r_nx, r_pc, Nat.reduceEqDiff, false_and, if_false, hz, e1, h5', nI_s1]
    exact k1
end TEXT
