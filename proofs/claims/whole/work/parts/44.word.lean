theorem wr_ai (D : DaT) (k a : Nat) (v : Int32) : ∃ D1 : DaT, pai D k a v = D1 ∧ (∀ k' a', d_ai D1 k' a' = if k' = k ∧ a' = a then v else d_ai D k' a') ∧ d_fi D1 = d_fi D ∧ d_fl D1 = d_fl D ∧ d_al D1 = d_al D := ⟨_, rfl, fun _ _ => rfl, rfl, rfl, rfl⟩
theorem wr_al (D : DaT) (k a : Nat) (v : Int64) : ∃ D1 : DaT, pal D k a v = D1 ∧ (∀ k' a', d_al D1 k' a' = if k' = k ∧ a' = a then v else d_al D k' a') ∧ d_fi D1 = d_fi D ∧ d_fl D1 = d_fl D ∧ d_ai D1 = d_ai D := ⟨_, rfl, fun _ _ => rfl, rfl, rfl, rfl⟩
/-- what a token's value is -/
def TkV (t : TkT) (v : Int64) : Prop := (t.1 ≤ 11 → v = asc t.2.2.2) ∧ (t.1 = 12 → v = lN (numV t.2.2.2))
theorem TkV.hi {k p e : Nat} {w : List Nat} {v : Int64} (h : 13 ≤ k) : TkV (k, p, e, w) v := ⟨fun (z : k ≤ 11) => by omega, fun (z : k = 12) => by omega⟩
section WORD
variable {g : GG} {d : Nat} {S : ShT} {D : DaT} {Z : Nat} {T : List Nat} {c r k p b : Int32} {v : Int64}
theorem c_readWord {i0 : Nat} (hZ : TxL S Z) (hK : KwL g S D) (hg : gKa g < Z) (hB : BrR D (Z + 1) T) (hl : T.length ≤ 2000) (hi0 : i0 < T.length) (hlet : isLet (T.getD i0 0) = true) (hT : TS D Z c r k (nI i0) b 0) : EvM g (d + 1) mX8_readWord 0 0 [.ref Z] (md S D) (fun v' M1 => ∃ D1, v' = none ∧ M1 = md S D1 ∧ TS D1 Z c r (if 8 < fin isAl T i0 - i0 then 15 else nI (kw (seg T i0 (fin isAl T i0)))) (nI i0) (nI (fin isAl T i0)) (asc (seg T i0 (fin isAl T i0))) ∧ Out Z (Z + 1) D D1) := by
  have hz := hZ.1
  have hp := hZ.2.1
  have h4 := hT.2.2.2.1
  have hT0 := hT.b (x := nI i0)
  have hO0 : Out Z (Z + 1) D (pfi D 264 Z (nI i0)) := Out.fi (by omega)
  refine EvM.mk (by decide) (Nat.le_of_ble_eq_true rfl) ?_
  refine X_run rfl ?_ ?_
  · simp [md_s, md_w, rget, r_a, r_b, r_c, r_i, r_l, hz, h4]
  try simp only [md_s, md_w, rget_some, r_a, r_b, r_c, r_i, r_l, r_nx, r_pc, Nat.reduceEqDiff, false_and, if_false, hz, h4]
  generalize pfi D 264 Z (nI i0) = D0 at hT0 hO0 ⊢
  have fi := fin_le (p := isAl) (T := T) (i := i0) (by omega)
  have f1 : fin isAl T i0 = fin isAl T (i0 + 1) := fin_step hi0 (by unfold isAl; rw [hlet]; rfl)
  have f2 := (fin_le (p := isAl) (T := T) (i := i0 + 1) (by omega)).1
  have last : ∀ D', TS D' Z c r k (nI i0) (nI (fin isAl T i0)) (asc (seg T i0 (fin isAl T i0))) → Out Z (Z + 1) D D' → Eg g (d + 1) mX8_readWord 0 0 (Zr g (fun v' M1 => ∃ D1, v' = none ∧ M1 = md S D1 ∧ TS D1 Z c r (if 8 < fin isAl T i0 - i0 then 15 else nI (kw (seg T i0 (fin isAl T i0)))) (nI i0) (nI (fin isAl T i0)) (asc (seg T i0 (fin isAl T i0))) ∧ Out Z (Z + 1) D D1)) 93 [(0, .ref Z)] [] (md S D') := fun D' hT' hO' => by
    have h4' := hT'.2.2.2.1
    have h5' := hT'.2.2.2.2.1
    have h6' := hT'.2.2.2.2.2
    have hK' := hK.out hO' hg
    have es : nI (fin isAl T i0) - nI i0 = nI (fin isAl T i0 - i0) := by
      conv => lhs; rw [show fin isAl T i0 = (fin isAl T i0 - i0) + i0 by omega, ← nI_add]
      rw [Int32.add_sub_cancel]
    refine X_run rfl ?_ ?_
    · simp [md_s, md_w, rget, r_a, r_b, r_c, r_i, r_l, hz, h4', h5', es]
    try simp only [md_s, md_w, rget_some, r_a, r_b, r_c, r_i, r_l, r_nx, r_pc, Nat.reduceEqDiff, false_and, if_false, hz, h4', h5', es]
    refine X_icmp_le rfl (fun c1 => ?_) (fun c1 => ?_)
    · have hle : ¬ 8 < fin isAl T i0 - i0 := fun q => by rw [show (8 : Int32) = nI 8 from rfl, nI_leI (by omega) (by omega)] at c1; omega
      rw [if_neg hle]
      have hw : wOk (seg T i0 (fin isAl T i0)) := ⟨by rw [seg_len fi.1 fi.2]; omega, by rw [seg_len fi.1 fi.2]; omega, fun x hx => al_of (seg_all _ hx)⟩
      refine X_run rfl ?_ ?_
      · simp [md_s, md_w, rget, r_a, r_b, r_c, r_i, r_l, hz, h6']
      try simp only [md_s, md_w, rget_some, r_a, r_b, r_c, r_i, r_l, r_nx, r_pc, Nat.reduceEqDiff, false_and, if_false, hz, h6']
      refine X_cS (args := [.long (asc (seg T i0 (fin isAl T i0)))]) rfl (by decide) rfl rfl (Nat.le_of_ble_eq_true rfl) (c_kindOfWord hK' hw) ?_
      rintro _ _ ⟨rfl, rfl⟩
      refine X_run rfl ?_ ?_
      · simp [md_s, md_w, rget, r_a, r_b, r_c, r_i, r_l, hz]
      try simp only [md_s, md_w, rget_some, r_a, r_b, r_c, r_i, r_l, r_nx, r_pc, Nat.reduceEqDiff, false_and, if_false, hz]
      exact X_vret rfl rfl ⟨_, rfl, rfl, hT'.k, hO'.tr (Out.fi (by omega))⟩
    · have : 8 < fin isAl T i0 - i0 := Nat.not_le.mp (fun q => c1 ((nI_leI (b := 8) (by omega) (by omega)).mpr q))
      rw [if_pos this]
      refine X_run rfl ?_ ?_
      · simp [md_s, md_w, rget, r_a, r_b, r_c, r_i, r_l, hz]
      try simp only [md_s, md_w, rget_some, r_a, r_b, r_c, r_i, r_l, r_nx, r_pc, Nat.reduceEqDiff, false_and, if_false, hz]
      exact X_vret rfl rfl ⟨_, rfl, rfl, hT'.k, hO'.tr (Out.fi (by omega))⟩
  refine fin_ind (p := isAl) (T := T) (P := fun i => fin isAl T i = fin isAl T i0 → i0 ≤ i → ∀ D', TS D' Z c r k (nI i0) (nI i) (asc (seg T i0 i)) → Out Z (Z + 1) D D' → Eg g (d + 1) mX8_readWord 0 0 (Zr g (fun v' M1 => ∃ D1, v' = none ∧ M1 = md S D1 ∧ TS D1 Z c r (if 8 < fin isAl T i0 - i0 then 15 else nI (kw (seg T i0 (fin isAl T i0)))) (nI i0) (nI (fin isAl T i0)) (asc (seg T i0 (fin isAl T i0))) ∧ Out Z (Z + 1) D D1)) 8 [(0, .ref Z)] [] (md S D')) ?_ ?_ _ i0 rfl (by omega) rfl (Nat.le_refl _) D0 (by rw [seg_nil]; exact hT0) hO0
  · intro i hi hstop hF hii D' hT' hO'
    have h5 := hT'.2.2.2.2.1
    have hB' : BrR D' (Z + 1) T := hB.out hO' (by omega)
    have hl' := hB'.1
    refine X_run rfl ?_ ?_
    · simp [md_s, md_w, rget, r_a, r_b, r_c, r_i, r_l, hz, h5, hp, hl']
    try simp only [md_s, md_w, rget_some, r_a, r_b, r_c, r_i, r_l, r_nx, r_pc, Nat.reduceEqDiff, false_and, if_false, hz, h5, hp, hl']
    refine X_icmp_ge rfl (fun c1 => ?_) (fun c1 => ?_)
    · have hs2 : T.length ≤ i := (nI_leI (by omega) (by omega)).mp c1
      rw [fin_end hs2] at hF
      exact last D' (by rw [← hF]; exact hT') hO'
    · have hlt : i < T.length := Nat.not_le.mp (fun z => c1 ((nI_leI (by omega) (by omega)).mpr z))
      rcases hstop with hs | hs
      · exact absurd hs (by omega)
      rw [fin_stop hlt hs] at hF
      have hs2 : isLet (T.getD i 0) = false ∧ isDig (T.getD i 0) = false := by
        unfold isAl at hs
        exact Bool.or_eq_false_iff.mp hs
      refine X_run rfl ?_ ?_
      · simp [md_s, md_w, rget, r_a, r_b, r_c, r_i, r_l, hz, h5]
      try simp only [md_s, md_w, rget_some, r_a, r_b, r_c, r_i, r_l, r_nx, r_pc, Nat.reduceEqDiff, false_and, if_false, hz, h5]
      refine X_cV (args := [.int (nI i)]) rfl (by decide) hp rfl rfl (Nat.le_of_ble_eq_true rfl) (c_tapeAt hZ hB' hl hlt) ?_
      rintro _ _ ⟨rfl, rfl⟩
      refine X_cS (args := [.int (nI (T.getD i 0))]) rfl (by decide) rfl rfl (Nat.le_of_ble_eq_true rfl) (c_isLetter (gD_lt hB.2.2 i)) ?_
      rintro _ _ ⟨rfl, rfl⟩
      rw [hs2.1]
      refine X_if_ne rfl (fun c2 => absurd rfl c2) (fun c2 => ?_)
      refine X_run rfl ?_ ?_
      · simp [md_s, md_w, rget, r_a, r_b, r_c, r_i, r_l, hz, h5]
      try simp only [md_s, md_w, rget_some, r_a, r_b, r_c, r_i, r_l, r_nx, r_pc, Nat.reduceEqDiff, false_and, if_false, hz, h5]
      refine X_cV (args := [.int (nI i)]) rfl (by decide) hp rfl rfl (Nat.le_of_ble_eq_true rfl) (c_tapeAt hZ hB' hl hlt) ?_
      rintro _ _ ⟨rfl, rfl⟩
      refine X_cS (args := [.int (nI (T.getD i 0))]) rfl (by decide) rfl rfl (Nat.le_of_ble_eq_true rfl) (c_isDigit (gD_lt hB.2.2 i)) ?_
      rintro _ _ ⟨rfl, rfl⟩
      rw [hs2.2]
      refine X_if_eq rfl (fun c2 => last D' (by rw [← hF]; exact hT') hO') (fun c2 => absurd rfl c2)
  · intro i hlt hs ih hF hii D' hT' hO'
    have h5 := hT'.2.2.2.2.1
    have h6 := hT'.2.2.2.2.2
    have hB' : BrR D' (Z + 1) T := hB.out hO' (by omega)
    have hl' := hB'.1
    rw [fin_step hlt hs] at hF
    have ih := ih hF (by omega)
    rw [seg_snoc hii hlt, asc_snoc] at ih
    have next : Eg g (d + 1) mX8_readWord 0 0 (Zr g (fun v' M1 => ∃ D1, v' = none ∧ M1 = md S D1 ∧ TS D1 Z c r (if 8 < fin isAl T i0 - i0 then 15 else nI (kw (seg T i0 (fin isAl T i0)))) (nI i0) (nI (fin isAl T i0)) (asc (seg T i0 (fin isAl T i0))) ∧ Out Z (Z + 1) D D1)) 56 [(0, .ref Z)] [] (md S D') := by
      have k1 := ih (pfi (pfl D' 265 Z (asc (seg T i0 i) <<< 8 ||| Int64.ofNat (T.getD i 0))) 264 Z (nI (i + 1))) hT'.v.b ((hO'.tr (Out.fl (by omega))).tr (Out.fi (by omega)))
      obtain ⟨D1, e1, z1, y1⟩ := wr_fl D' 265 Z (asc (seg T i0 i) <<< 8 ||| Int64.ofNat (T.getD i 0))
      have h5' : d_fi D1 264 Z = nI i := by rw [y1.1]; exact h5
      have e8 : ((8 : Int32).toInt64 &&& 63 : Int64) = 8 := by decide
      have e9 : (nI (T.getD i 0)).toInt64 = Int64.ofNat (T.getD i 0) := nI_l (by have := gD_lt hB.2.2 i; omega)
      rw [e1] at k1
      refine X_run rfl ?_ ?_
      · simp [md_s, md_w, rget, r_a, r_b, r_c, r_i, r_l, hz, h5, h6, e8]
      try simp only [md_s, md_w, rget_some, r_a, r_b, r_c, r_i, r_l, r_nx, r_pc, Nat.reduceEqDiff, false_and, if_false, hz, h5, h6, e8]
      refine X_cV (args := [.int (nI i)]) rfl (by decide) hp rfl rfl (Nat.le_of_ble_eq_true rfl) (c_tapeAt hZ hB' hl hlt) ?_
      rintro _ _ ⟨rfl, rfl⟩
      refine X_run rfl ?_ ?_
      · simp [md_s, md_w, rget, r_a, r_b, r_c, r_i, r_l, hz, e8, e9, e1, h5', nI_s1]
      try simp only [md_s, md_w, rget_some, r_a, r_b, r_c, r_i, r_l, r_nx, r_pc, Nat.reduceEqDiff, false_and, if_false, hz, e8, e9, e1, h5', nI_s1]
      exact k1
    refine X_run rfl ?_ ?_
    · simp [md_s, md_w, rget, r_a, r_b, r_c, r_i, r_l, hz, h5, hp, hl']
    try simp only [md_s, md_w, rget_some, r_a, r_b, r_c, r_i, r_l, r_nx, r_pc, Nat.reduceEqDiff, false_and, if_false, hz, h5, hp, hl']
    refine X_icmp_ge rfl (fun c1 => no_le c1 hlt (by omega)) (fun c1 => ?_)
    refine X_run rfl ?_ ?_
    · simp [md_s, md_w, rget, r_a, r_b, r_c, r_i, r_l, hz, h5]
    try simp only [md_s, md_w, rget_some, r_a, r_b, r_c, r_i, r_l, r_nx, r_pc, Nat.reduceEqDiff, false_and, if_false, hz, h5]
    refine X_cV (args := [.int (nI i)]) rfl (by decide) hp rfl rfl (Nat.le_of_ble_eq_true rfl) (c_tapeAt hZ hB' hl hlt) ?_
    rintro _ _ ⟨rfl, rfl⟩
    refine X_cS (args := [.int (nI (T.getD i 0))]) rfl (by decide) rfl rfl (Nat.le_of_ble_eq_true rfl) (c_isLetter (gD_lt hB.2.2 i)) ?_
    rintro _ _ ⟨rfl, rfl⟩
    refine X_if_ne rfl (fun c2 => next) (fun c2 => ?_)
    refine X_run rfl ?_ ?_
    · simp [md_s, md_w, rget, r_a, r_b, r_c, r_i, r_l, hz, h5]
    try simp only [md_s, md_w, rget_some, r_a, r_b, r_c, r_i, r_l, r_nx, r_pc, Nat.reduceEqDiff, false_and, if_false, hz, h5]
    refine X_cV (args := [.int (nI i)]) rfl (by decide) hp rfl rfl (Nat.le_of_ble_eq_true rfl) (c_tapeAt hZ hB' hl hlt) ?_
    rintro _ _ ⟨rfl, rfl⟩
    refine X_cS (args := [.int (nI (T.getD i 0))]) rfl (by decide) rfl rfl (Nat.le_of_ble_eq_true rfl) (c_isDigit (gD_lt hB.2.2 i)) ?_
    rintro _ _ ⟨rfl, rfl⟩
    refine X_if_eq rfl (fun c3 => ?_) (fun c3 => next)
    exfalso
    unfold isAl at hs
    rw [b2i_zero.mp c2, b2i_zero.mp c3] at hs
    exact absurd hs (by decide)
theorem c_readToken {n b0 : Nat} (hZ : TxL S Z) (hK : KwL g S D) (hg : gKa g < Z) (hB : BrR D (Z + 1) T) (hl : T.length ≤ 2000) (hb0 : b0 ≤ T.length) (hn : n ≤ 400) (hT : TS D Z (nI n) r k p (nI b0) v) : EvM g (d + 2) mX8_readToken 0 0 [.ref Z] (md S D) (fun v' M1 => ∃ D1 v1, v' = none ∧ M1 = md S D1 ∧ TS D1 Z (nI n) r (nI (tok T n b0).1) (nI (tok T n b0).2.1) (nI (tok T n b0).2.2.1) v1 ∧ TkV (tok T n b0) v1 ∧ Out Z (Z + 1) D D1) := by
  have hz := hZ.1
  have hp := hZ.2.1
  have fi := fin_le (p := isBlk) hb0
  have e400 : (400 : Int32) = nI 400 := rfl
  refine EvM.mk (by decide) (Nat.le_of_ble_eq_true rfl) ?_
  refine X_run rfl trivial ?_
  refine X_cV rfl (by decide) hz.1 rfl rfl (Nat.le_of_ble_eq_true rfl) (c_skipBlanks hZ hB hl hb0 hT) ?_
  rintro _ _ ⟨D1, rfl, rfl, hT1, hO1⟩
  obtain ⟨D2, e2, z2, y2⟩ := wr_fl D1 265 Z 0
  have hT2 : TS D2 Z (nI n) r k (nI (fin isBlk T b0)) (nI b0) 0 := e2 ▸ hT1.v
  have hO2 : Out Z (Z + 1) D D2 := hO1.tr (e2 ▸ Out.fl (by omega))
  have hB2 : BrR D2 (Z + 1) T := hB.out hO2 (by omega)
  have hl2 := hB2.1
  have hK2 := hK.out hO2 hg
  have h41 := hT1.2.2.2.1
  have h4 := hT2.2.2.2.1
  have h1 := hT2.1
  have hx := gD_lt hB.2.2 (fin isBlk T b0)
  refine X_run rfl ?_ ?_
  · simp [md_s, md_w, rget, r_a, r_b, r_c, r_i, r_l, hz, e2, hp, hl2, h4]
  try simp only [md_s, md_w, rget_some, r_a, r_b, r_c, r_i, r_l, r_nx, r_pc, Nat.reduceEqDiff, false_and, if_false, hz, e2, hp, hl2, h4]
  generalize hF : fin isBlk T b0 = F at fi h4 hT2 hx ⊢
  have ok : ∀ (t : TkT) D' v', tok T n b0 = t → TS D' Z (nI n) r (nI t.1) (nI t.2.1) (nI t.2.2.1) v' → TkV t v' → Out Z (Z + 1) D D' → Eg g (d + 2) mX8_readToken 0 0 (Zr g (fun v' M1 => ∃ D1 v1, v' = none ∧ M1 = md S D1 ∧ TS D1 Z (nI n) r (nI (tok T n b0).1) (nI (tok T n b0).2.1) (nI (tok T n b0).2.2.1) v1 ∧ TkV (tok T n b0) v1 ∧ Out Z (Z + 1) D D1)) 140 [] [] (md S D') := fun t D' v' ht h1 h2 h3 => by
    refine X_vret rfl rfl ?_
    rw [ht]
    exact ⟨D', v', rfl, rfl, h1, h2, h3⟩
  refine X_icmp_lt rfl (fun c1 => ?_) (fun c1 => ?_)
  · have c1 : F < T.length := (nI_ltI (by omega) (by omega)).mp c1
    refine X_run rfl ?_ ?_
    · simp [md_s, md_w, rget, r_a, r_b, r_c, r_i, r_l, hz, h1]
    try simp only [md_s, md_w, rget_some, r_a, r_b, r_c, r_i, r_l, r_nx, r_pc, Nat.reduceEqDiff, false_and, if_false, hz, h1]
    refine X_icmp_ne rfl (fun c2 => ?_) (fun c2 => ?_)
    · have c2 : ¬ n = 400 := fun q => c2 (by rw [q]; rfl)
      refine X_run rfl ?_ ?_
      · simp [md_s, md_w, rget, r_a, r_b, r_c, r_i, r_l, hz, h4]
      try simp only [md_s, md_w, rget_some, r_a, r_b, r_c, r_i, r_l, r_nx, r_pc, Nat.reduceEqDiff, false_and, if_false, hz, h4]
      refine X_cV (args := [.int (nI F)]) rfl (by decide) hp rfl rfl (Nat.le_of_ble_eq_true rfl) (c_tapeAt hZ hB2 hl c1) ?_
      rintro _ _ ⟨rfl, rfl⟩
      refine X_run rfl trivial ?_
      refine X_icmp_ne rfl (fun c3 => ?_) (fun c3 => ?_)
      · have c3 : ¬ T.getD F 0 = 59 := fun q => c3 (by rw [q]; rfl)
        refine X_run rfl ?_ ?_
        · simp [md_s, md_w, rget, r_a, r_b, r_c, r_i, r_l, hz, h4]
        try simp only [md_s, md_w, rget_some, r_a, r_b, r_c, r_i, r_l, r_nx, r_pc, Nat.reduceEqDiff, false_and, if_false, hz, h4]
        refine X_cV (args := [.int (nI F)]) rfl (by decide) hp rfl rfl (Nat.le_of_ble_eq_true rfl) (c_tapeAt hZ hB2 hl c1) ?_
        rintro _ _ ⟨rfl, rfl⟩
        refine X_cS (args := [.int (nI (T.getD F 0))]) rfl (by decide) rfl rfl (Nat.le_of_ble_eq_true rfl) (c_isDigit hx) ?_
        rintro _ _ ⟨rfl, rfl⟩
        refine X_if_eq rfl (fun c4 => ?_) (fun c4 => ?_)
        · have c4 := nb2i c4
          refine X_run rfl ?_ ?_
          · simp [md_s, md_w, rget, r_a, r_b, r_c, r_i, r_l, hz, h4]
          try simp only [md_s, md_w, rget_some, r_a, r_b, r_c, r_i, r_l, r_nx, r_pc, Nat.reduceEqDiff, false_and, if_false, hz, h4]
          refine X_cV (args := [.int (nI F)]) rfl (by decide) hp rfl rfl (Nat.le_of_ble_eq_true rfl) (c_tapeAt hZ hB2 hl c1) ?_
          rintro _ _ ⟨rfl, rfl⟩
          refine X_cS (args := [.int (nI (T.getD F 0))]) rfl (by decide) rfl rfl (Nat.le_of_ble_eq_true rfl) (c_isLetter hx) ?_
          rintro _ _ ⟨rfl, rfl⟩
          refine X_if_eq rfl (fun c5 => ?_) (fun c5 => ?_)
          · have c5 := nb2i c5
            refine X_run rfl ?_ ?_
            · simp [md_s, md_w, rget, r_a, r_b, r_c, r_i, r_l, hz]
            try simp only [md_s, md_w, rget_some, r_a, r_b, r_c, r_i, r_l, r_nx, r_pc, Nat.reduceEqDiff, false_and, if_false, hz]
            refine Eg.sub (ok (15, F, b0, []) _ 0 ?_ (hT2.k (x := 15)) (TkV.hi (by decide)) (hO2.tr (Out.fi (by omega)))) trivial
            unfold tok
            rw [hF, if_neg (by omega), if_neg c2, if_neg c3, if_neg c4, if_neg c5]
          · have c5 := b2i_nz c5
            refine X_run rfl trivial ?_
            refine X_cV rfl (by decide) hz.1 rfl rfl (Nat.le_of_ble_eq_true rfl) (c_readWord hZ hK2 hg hB2 hl c1 c5 hT2) ?_
            rintro _ _ ⟨D3, rfl, rfl, hT3, hO3⟩
            refine X_run rfl trivial ?_
            by_cases c6 : 8 < fin isAl T F - F
            · rw [if_pos c6] at hT3
              refine Eg.sub (ok (15, F, fin isAl T F, []) _ _ ?_ hT3 (TkV.hi (by decide)) (hO2.tr hO3)) trivial
              unfold tok
              rw [hF, if_neg (by omega), if_neg c2, if_neg c3, if_neg c4, if_pos c5, if_pos c6]
            · rw [if_neg c6] at hT3
              refine Eg.sub (ok (kw (seg T F (fin isAl T F)), F, fin isAl T F, seg T F (fin isAl T F)) _ _ ?_ hT3 ⟨fun _ => rfl, fun (z : kw _ = 12) => absurd (kw_le (seg T F (fin isAl T F))) (by omega)⟩ (hO2.tr hO3)) trivial
              unfold tok
              rw [hF, if_neg (by omega), if_neg c2, if_neg c3, if_neg c4, if_pos c5, if_neg c6]
        · have c4 := b2i_nz c4
          refine X_run rfl trivial ?_
          refine X_cV rfl (by decide) hz.1 rfl rfl (Nat.le_of_ble_eq_true rfl) (c_readNumber hZ hB2 hl (by omega) hT2) ?_
          rintro _ _ ⟨D3, rfl, rfl, hT3, hO3⟩
          refine X_run rfl trivial ?_
          by_cases c6 : 7 < fin isDig T F - F
          · rw [if_pos c6] at hT3
            refine Eg.sub (ok (15, F, fin isDig T F, []) _ _ ?_ hT3 (TkV.hi (by decide)) (hO2.tr hO3)) trivial
            unfold tok
            rw [hF, if_neg (by omega), if_neg c2, if_neg c3, if_pos c4, if_pos c6]
          · rw [if_neg c6] at hT3
            refine Eg.sub (ok (12, F, fin isDig T F, seg T F (fin isDig T F)) _ _ ?_ hT3 ⟨fun (z : 12 ≤ 11) => absurd z (by decide), fun _ => dgV_num _ seg_all⟩ (hO2.tr hO3)) trivial
            unfold tok
            rw [hF, if_neg (by omega), if_neg c2, if_neg c3, if_pos c4, if_neg c6]
      · have c3 : T.getD F 0 = 59 := (nI_iff (c := 59) hx (by decide)).mp c3
        obtain ⟨D3, e3, z3, y3⟩ := wr_fi D2 262 Z 13
        have hT3 : TS D3 Z (nI n) r 13 (nI F) (nI b0) 0 := e3 ▸ hT2.k
        have h43 := hT3.2.2.2.1
        refine X_run rfl ?_ ?_
        · simp [md_s, md_w, rget, r_a, r_b, r_c, r_i, r_l, hz, e3, h43, nI_s1]
        try simp only [md_s, md_w, rget_some, r_a, r_b, r_c, r_i, r_l, r_nx, r_pc, Nat.reduceEqDiff, false_and, if_false, hz, e3, h43, nI_s1]
        refine Eg.sub (ok (13, F, F + 1, []) _ 0 ?_ (hT3.b (x := nI (F + 1))) (TkV.hi (by decide)) ((hO2.tr (e3 ▸ Out.fi (by omega))).tr (Out.fi (by omega)))) trivial
        unfold tok
        rw [hF, if_neg (by omega), if_neg c2, if_pos c3]
    · have c2 : n = 400 := (nI_eq (b := 400) (by omega) (by omega)).mp c2
      refine X_run rfl ?_ ?_
      · simp [md_s, md_w, rget, r_a, r_b, r_c, r_i, r_l, hz]
      try simp only [md_s, md_w, rget_some, r_a, r_b, r_c, r_i, r_l, r_nx, r_pc, Nat.reduceEqDiff, false_and, if_false, hz]
      refine Eg.sub (ok (15, F, b0, []) _ 0 ?_ (hT2.k (x := 15)) (TkV.hi (by decide)) (hO2.tr (Out.fi (by omega)))) trivial
      unfold tok
      rw [hF, if_neg (by omega), if_pos c2]
  · have c1 : T.length ≤ F := Nat.not_lt.mp (fun z => c1 ((nI_ltI (by omega) (by omega)).mpr z))
    refine X_run rfl ?_ ?_
    · simp [md_s, md_w, rget, r_a, r_b, r_c, r_i, r_l, hz]
    try simp only [md_s, md_w, rget_some, r_a, r_b, r_c, r_i, r_l, r_nx, r_pc, Nat.reduceEqDiff, false_and, if_false, hz]
    refine Eg.sub (ok (14, F, b0, []) _ 0 ?_ (hT2.k (x := 14)) (TkV.hi (by decide)) (hO2.tr (Out.fi (by omega)))) trivial
    unfold tok
    rw [hF, if_pos c1]
/-- the tokens as they lie in the class's rows -/
def TkA (D : DaT) (Z : Nat) (T : List Nat) (n : Nat) : Prop := ∀ j, j < n → d_ai D (Z + 3) j = nI (kd T j) ∧ d_ai D (Z + 4) j = nI (pl T j) ∧ TkV (tk T j) (d_al D (Z + 5) j)
theorem TkA.out {D D1 : DaT} {Z n lo hi : Nat} {T : List Nat} (h : TkA D Z T n) (ho : Out lo hi D D1) (hd : hi ≤ Z + 3 ∨ Z + 6 ≤ lo) : TkA D1 Z T n := fun j hj => by
  rw [(ho (Z + 3) (by omega)).2.2.1, (ho (Z + 4) (by omega)).2.2.1, (ho (Z + 5) (by omega)).2.2.2]
  exact h j hj
def pk (T : List Nat) : Nat → Nat
  | 0 => 13
  | k + 1 => kd T k
theorem c_readTokens (hZ : TxL S Z) (hK : KwL g S D) (hg : gKa g < Z) (hB : BrR D (Z + 1) T) (hl : T.length ≤ 2000) : EvM g (d + 3) mX8_readTokens 0 0 [.ref Z] (md S D) (fun v' M1 => ∃ D1, v' = none ∧ M1 = md S D1 ∧ d_fi D1 260 Z = nI (tN T + 1) ∧ TkA D1 Z T (tN T + 1) ∧ BrR D1 (Z + 1) T ∧ Out Z (Z + 6) D D1) := by
  have hz := hZ.1
  have hp := hZ.2.1
  have hN := tN_le T
  obtain ⟨D1, e1, z1, y1⟩ := wr_fi D 260 Z 0
  obtain ⟨D2, e2, z2, y2⟩ := wr_fi D1 264 Z 0
  obtain ⟨D3, e3, z3, y3⟩ := wr_fi D2 262 Z 13
  have hT3 : TS D3 Z (nI 0) (d_fi D 261 Z) (nI (pk T 0)) (d_fi D 263 Z) (nI (bh T 0)) (d_fl D 265 Z) := by
    refine ⟨by simp [z3, z2, z1]; rfl, by simp [z3, z2, z1], by simp [z3]; rfl, by simp [z3, z2, z1], by simp [z3, z2]; rfl, by rw [y3.1, y2.1, y1.1]⟩
  have hO3 : Out Z (Z + 1) D D3 := ((e1 ▸ Out.fi (by omega) : Out Z (Z + 1) D D1).tr (e2 ▸ Out.fi (by omega))).tr (e3 ▸ Out.fi (by omega))
  refine EvM.mk (by decide) (Nat.le_of_ble_eq_true rfl) ?_
  refine X_run rfl ?_ ?_
  · simp [md_s, md_w, rget, r_a, r_b, r_c, r_i, r_l, hz, e1, e2, e3]
  try simp only [md_s, md_w, rget_some, r_a, r_b, r_c, r_i, r_l, r_nx, r_pc, Nat.reduceEqDiff, false_and, if_false, hz, e1, e2, e3]
  refine X_min rfl (Nat.le_of_ble_eq_true rfl) ?_
  rw [ite_self]
  refine X_min rfl (Nat.le_of_ble_eq_true rfl) ?_
  rw [ite_self]
  refine X_run rfl trivial ?_
  refine Eg_up (α := DaT) (fun i D' => Eg g (d + 3) mX8_readTokens 0 0 (Zr g _) 40 [(0, .ref Z), (1, .int (nI 401)), (2, .int (nI i))] [] (md S D')) (fun i D' => (∃ p v, TS D' Z (nI i) (d_fi D 261 Z) (nI (pk T i)) p (nI (bh T i)) v) ∧ TkA D' Z T i ∧ BrR D' (Z + 1) T ∧ Out Z (Z + 6) D D') (tN T + 1) (fun i D4 hi hI kk => ?_) (fun D4 hI => ?_) D3 ⟨⟨_, _, hT3⟩, fun j hj => absurd hj (Nat.not_lt_zero j), hB.out hO3 (by omega), hO3.wide (by omega) (by omega)⟩
  · obtain ⟨⟨p4, v4, hT4⟩, hA4, hB4, hO4⟩ := hI
    have hk4 := hT4.2.2.1
    have hpk : pk T i ≤ 13 := by
      cases i with
      | zero => exact Nat.le_refl _
      | succ j => exact tN_lt (show j < tN T by omega)
    have hK4 := hK.out hO4 hg
    refine X_run rfl ?_ ?_
    · simp [md_s, md_w, rget, r_a, r_b, r_c, r_i, r_l, hz]
    try simp only [md_s, md_w, rget_some, r_a, r_b, r_c, r_i, r_l, r_nx, r_pc, Nat.reduceEqDiff, false_and, if_false, hz]
    refine X_icmp_ge rfl (fun c1 => no_le c1 (show i < 401 by omega) (by omega)) (fun c1 => ?_)
    refine X_run rfl ?_ ?_
    · simp [md_s, md_w, rget, r_a, r_b, r_c, r_i, r_l, hz, hk4]
    try simp only [md_s, md_w, rget_some, r_a, r_b, r_c, r_i, r_l, r_nx, r_pc, Nat.reduceEqDiff, false_and, if_false, hz, hk4]
    refine X_icmp_eq rfl (fun c2 => absurd ((nI_eq (b := 14) (by omega) (by omega)).mp c2) (by omega)) (fun c2 => ?_)
    refine X_run rfl ?_ ?_
    · simp [md_s, md_w, rget, r_a, r_b, r_c, r_i, r_l, hz, hk4]
    try simp only [md_s, md_w, rget_some, r_a, r_b, r_c, r_i, r_l, r_nx, r_pc, Nat.reduceEqDiff, false_and, if_false, hz, hk4]
    refine X_icmp_eq rfl (fun c3 => absurd ((nI_eq (b := 15) (by omega) (by omega)).mp c3) (by omega)) (fun c3 => ?_)
    refine X_run rfl trivial ?_
    refine X_cV rfl (by decide) hz.1 rfl rfl (Nat.le_of_ble_eq_true rfl) (c_readToken hZ hK4 hg hB4 hl (bh_le T i) (show i ≤ 400 by omega) hT4) ?_
    rintro _ _ ⟨D5, v5, rfl, rfl, hT5, hV5, hO5⟩
    change TS D5 Z (nI i) (d_fi D 261 Z) (nI (kd T i)) (nI (pl T i)) (nI (bh T (i + 1))) v5 at hT5
    obtain ⟨D6, e6, z6, y6⟩ := wr_ai D5 (Z + 3) i (nI (kd T i))
    obtain ⟨D7, e7, z7, y7⟩ := wr_ai D6 (Z + 4) i (nI (pl T i))
    obtain ⟨D8, e8, z8, y8⟩ := wr_al D7 (Z + 5) i v5
    obtain ⟨D9, e9, z9, y9⟩ := wr_fi D8 260 Z (nI (i + 1))
    have f5 := hT5.2.2.1
    have f6 : d_fi D6 263 Z = nI (pl T i) := by rw [y6.1]; exact hT5.2.2.2.1
    have f7 : d_fl D7 265 Z = v5 := by rw [y7.2.1, y6.2.1]; exact hT5.2.2.2.2.2
    refine X_run rfl ?_ ?_
    · simp [md_s, md_w, rget, r_a, r_b, r_c, r_i, r_l, hz, nI_clamp (show i < 2 ^ 31 by omega), vp_in_nI (show i < 401 by omega) (by decide), f5, f6, f7, e6, e7, e8, e9, nI_s1]
    try simp only [md_s, md_w, rget_some, r_a, r_b, r_c, r_i, r_l, r_nx, r_pc, Nat.reduceEqDiff, false_and, if_false, hz, nI_clamp (show i < 2 ^ 31 by omega), vp_in_nI (show i < 401 by omega) (by decide), f5, f6, f7, e6, e7, e8, e9, nI_s1]
    have hO6 : Out (Z + 3) (Z + 6) D5 D8 := ((e6 ▸ Out.ai (by omega) : Out (Z + 3) (Z + 6) D5 D6).tr (e7 ▸ Out.ai (by omega))).tr (e8 ▸ Out.al (by omega))
    have hT9 : TS D9 Z (nI (i + 1)) (d_fi D 261 Z) (nI (kd T i)) (nI (pl T i)) (nI (bh T (i + 1))) v5 := e9 ▸ (hT5.out hO6 (by omega)).c
    have hB9 : BrR D9 (Z + 1) T := ((hB4.out hO5 (by omega)).out hO6 (by omega)).out (e9 ▸ Out.fi (by omega) : Out Z (Z + 1) D8 D9) (by omega)
    have hA5 := hA4.out hO5 (by omega)
    have hA9 : TkA D9 Z T (i + 1) := fun j hj => by
      rw [y9.2.1, y9.2.2, z8, y8.2.2, z7, z7, z6, z6, y7.2.2, y6.2.2]
      by_cases hji : j = i
      · subst hji
        simp only [true_and, and_true, if_true, if_pos, Nat.add_right_cancel_iff, Nat.reduceEqDiff, if_false]
        exact ⟨if_neg (by omega), hV5⟩
      · simp only [hji, and_false, if_false]
        exact hA5 j (by omega)
    refine Eg.sub (kk D9 ⟨⟨_, _, hT9⟩, hA9, hB9, ?_⟩) ⟨rfl, rfl, rfl, trivial⟩
    exact ((hO4.tr (hO5.wide (by omega) (by omega))).tr (hO6.wide (by omega) (by omega))).tr ((e9 ▸ Out.fi (by omega) : Out Z (Z + 1) D8 D9).wide (by omega) (by omega))
  · obtain ⟨⟨p4, v4, hT4⟩, hA4, hB4, hO4⟩ := hI
    have hk4 := hT4.2.2.1
    change d_fi D4 262 Z = nI (kd T (tN T)) at hk4
    have hE := tN_end T
    have hE2 := (tk_ok T (tN T)).1
    change kd T (tN T) ≤ 15 at hE2
    have done : Eg g (d + 3) mX8_readTokens 0 0 (Zr g (fun v' M1 => ∃ D1, v' = none ∧ M1 = md S D1 ∧ d_fi D1 260 Z = nI (tN T + 1) ∧ TkA D1 Z T (tN T + 1) ∧ BrR D1 (Z + 1) T ∧ Out Z (Z + 6) D D1)) 110 [] [] (md S D4) := X_vret rfl rfl ⟨D4, rfl, rfl, hT4.1, hA4, hB4, hO4⟩
    refine X_run rfl ?_ ?_
    · simp [md_s, md_w, rget, r_a, r_b, r_c, r_i, r_l, hz]
    try simp only [md_s, md_w, rget_some, r_a, r_b, r_c, r_i, r_l, r_nx, r_pc, Nat.reduceEqDiff, false_and, if_false, hz]
    refine X_icmp_ge rfl (fun c1 => Eg.sub done trivial) (fun c1 => ?_)
    refine X_run rfl ?_ ?_
    · simp [md_s, md_w, rget, r_a, r_b, r_c, r_i, r_l, hz, hk4]
    try simp only [md_s, md_w, rget_some, r_a, r_b, r_c, r_i, r_l, r_nx, r_pc, Nat.reduceEqDiff, false_and, if_false, hz, hk4]
    refine X_icmp_eq rfl (fun c2 => Eg.sub done trivial) (fun c2 => ?_)
    refine X_run rfl ?_ ?_
    · simp [md_s, md_w, rget, r_a, r_b, r_c, r_i, r_l, hz, hk4]
    try simp only [md_s, md_w, rget_some, r_a, r_b, r_c, r_i, r_l, r_nx, r_pc, Nat.reduceEqDiff, false_and, if_false, hz, hk4]
    refine X_icmp_eq rfl (fun c3 => Eg.sub done trivial) (fun c3 => ?_)
    have : kd T (tN T) = 14 ∨ kd T (tN T) = 15 := by omega
    rcases this with h | h
    · exact absurd (by rw [h]; rfl) c2
    · exact absurd (by rw [h]; rfl) c3
end WORD
