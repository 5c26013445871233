theorem BrR.take {D : DaT} {r m : Nat} {T : List Nat} (h : BrR D r T) (hm : m ≤ T.length) : BrR (pfi D 33 r (nI m)) r (T.take m) := by
  obtain ⟨h1, h2, h3⟩ := h
  have hl : (T.take m).length = m := by rw [List.length_take]; omega
  refine ⟨by rw [rd_fi, if_pos ⟨rfl, rfl⟩, hl], fun i hi => ?_, fun b hb => h3 b (List.mem_of_mem_take hb)⟩
  rw [hl] at hi
  have e : (T.take m).getD i 0 = T.getD i 0 := by rw [List.getD_eq_getElem?_getD, List.getElem?_take_of_lt hi, ← List.getD_eq_getElem?_getD]
  rw [e]
  exact h2 i (by omega)
theorem pw_le {k : Nat} (h : k < 6) : 0 < 10 ^ k ∧ 10 ^ k ≤ 100000 := ⟨Nat.pow_pos (by decide), Nat.pow_le_pow_right (n := 10) (by decide) (show k ≤ 5 by omega)⟩
theorem lineY_len {K : KT} {n : Nat} (hK : WrK K) (hW : WfK K) (hn : n < k_ny K) : (lineY K n).length ≤ 36 := by
  obtain ⟨-, -, -, w4⟩ := hW
  obtain ⟨v1, v2, v3, -⟩ := w4 n hn
  have h1 := (hK.1 _ v1).2.1
  have h2 := (hK.1 _ v2).2.1
  have h3 := (hK.2.1 _ v3).2.1
  have h4 := decs_len (iN (k_am K n)) 6
  unfold lineY
  simp only [List.length_append, List.length_singleton]
  omega
theorem repL_len {K : KT} {x : Int32} (hK : WrK K) (hW : WfK K) : ∀ i, i ≤ k_ny K → (iter (repS K x) i []).length ≤ 36 * i
  | 0, _ => Nat.le_refl _
  | i + 1, hi => by
    have h1 := repL_len (x := x) hK hW i (by omega)
    have h2 := lineY_len hK hW (show i < k_ny K by omega)
    have e : iter (repS K x) (i + 1) [] = repS K x i (iter (repS K x) i []) := rfl
    rw [e]
    generalize iter (repS K x) i [] = L at h1 ⊢
    unfold repS
    split
    · rw [List.length_append]; omega
    · omega
section PAPER
variable {g : GG} {d : Nat} {S : ShT} {D : DaT} {r n X : Nat} {T : List Nat} {K : KT}
theorem c_appN {v : Nat} (h : BrL S r (r + 1) n) (hB : BrR D r T) (hv : 1 ≤ v ∧ v ≤ 100000) (hn : T.length + 6 ≤ n) : EvM g (d + 1) mX1_appendNumber 0 0 [.ref r, .int (nI v)] (md S D) (fun v' M1 => ∃ D1, v' = none ∧ M1 = md S D1 ∧ BrR D1 r (T ++ decs v 6) ∧ Out r (r + 2) D D1) := by
  have key : ∀ (k : Nat) (D1 : DaT) (T1 : List Nat), k ≤ 6 → BrR D1 r T1 → T1.length + k ≤ n → T1 ++ decs v k = T ++ decs v 6 → Out r (r + 2) D D1 → Eg g (d + 1) mX1_appendNumber 0 0 (Zr g (fun v' M1 => ∃ D1, v' = none ∧ M1 = md S D1 ∧ BrR D1 r (T ++ decs v 6) ∧ Out r (r + 2) D D1)) 3 [(0, .ref r), (1, .int (nI v)), (2, .int (nI (10 ^ k / 10)))] [] (md S D1) := by
    intro k
    induction k with
    | zero =>
      intro D1 T1 hk hB1 hl1 hT hO1
      rw [decs, List.append_nil] at hT
      refine X_run rfl trivial ?_
      refine X_if_le rfl (fun c => ?_) (fun c => absurd (show (nI (10 ^ 0 / 10) : Int32) ≤ 0 by decide) c)
      exact X_vret rfl rfl ⟨D1, rfl, rfl, hT ▸ hB1, hO1⟩
    | succ k ih =>
      intro D1 T1 hk hB1 hl1 hT hO1
      obtain ⟨u1, u2⟩ := pw_le (k := k) (by omega)
      have eu : 10 ^ (k + 1) / 10 = 10 ^ k := by rw [Nat.pow_succ]; omega
      rw [eu]
      have eT : decs v (k + 1) = (if 10 ^ k ≤ v then [48 + v / 10 ^ k % 10] else []) ++ decs v k := rfl
      rw [eT] at hT
      have ih := fun D1 T1 => ih D1 T1
      generalize 10 ^ k = u at u1 u2 hT ih ⊢
      have hne : ¬ nI u = 0 := nI_ne0 u1 (by omega)
      have e10 : (10 : Int32) = nI 10 := rfl
      have e1 : nI u / 10 = nI (u / 10) := by rw [e10]; exact pk_div (by omega) (by decide) (by decide)
      have e2 : 48 + (nI v / nI u - nI v / nI u / 10 * 10) = nI (48 + v / u % 10) := by
        rw [pk_div (by omega) u1 (by omega), e10, pk_rem (by have := Nat.div_le_self v u; omega) (by decide) (by decide), show (48 : Int32) = nI 48 from rfl, nI_add]
      refine X_run rfl trivial ?_
      refine X_if_le rfl (fun c => absurd c (nI_nle u1 (by omega))) (fun c => ?_)
      refine X_run rfl trivial ?_
      refine X_icmp_lt rfl (fun c2 => ?_) (fun c2 => ?_)
      · rw [nI_ltI (by omega) (by omega)] at c2
        rw [if_neg (by omega)] at hT
        refine X_run rfl ?_ ?_
        · simp [md_s, md_w, rget, r_a, r_b, r_c, r_i, r_l, e1]
        try simp only [md_s, md_w, rget_some, r_a, r_b, r_c, r_i, r_l, r_nx, r_pc, Nat.reduceEqDiff, false_and, if_false, e1]
        exact Eg.sub (ih D1 T1 (by omega) hB1 (by omega) hT hO1) ⟨rfl, rfl, rfl, trivial⟩
      · rw [nI_ltI (by omega) (by omega)] at c2
        rw [if_pos (by omega)] at hT
        have hlt : v / u % 10 < 10 := Nat.mod_lt _ (by decide)
        refine X_run rfl ?_ ?_
        · simp [md_s, md_w, rget, r_a, r_b, r_c, r_i, r_l, hne, e2]
        try simp only [md_s, md_w, rget_some, r_a, r_b, r_c, r_i, r_l, r_nx, r_pc, Nat.reduceEqDiff, false_and, if_false, hne, e2]
        refine X_cV (args := [.int (nI (48 + v / u % 10))]) rfl (by decide) h.1 rfl rfl (Nat.le_of_ble_eq_true rfl) (c_Bapp h hB1 (by omega)) ?_
        rintro _ _ ⟨D2, rfl, rfl, hB2, hO2⟩
        rw [lo8_nI (by omega)] at hB2
        refine X_run rfl ?_ ?_
        · simp [md_s, md_w, rget, r_a, r_b, r_c, r_i, r_l, e1]
        try simp only [md_s, md_w, rget_some, r_a, r_b, r_c, r_i, r_l, r_nx, r_pc, Nat.reduceEqDiff, false_and, if_false, e1]
        exact Eg.sub (ih D2 (T1 ++ [48 + v / u % 10]) (by omega) hB2 (by simp; omega) (by rw [List.append_assoc]; exact hT) (hO1.tr hO2)) ⟨rfl, rfl, rfl, trivial⟩
  refine EvM.mk (by decide) (Nat.le_of_ble_eq_true rfl) ?_
  refine X_run rfl trivial ?_
  exact Eg.sub (key 6 D T (Nat.le_refl _) hB hn rfl Out.rf) ⟨rfl, rfl, rfl, trivial⟩
theorem c_letterOf {x : Int32} {M : Mem} : EvM g d mX9_letterOf 0 0 [.int x] M (fun v M1 => M1 = M ∧ v = some (.int (nI (lett x)))) := by
  refine EvM.mk (by decide) (Nat.le_of_ble_eq_true rfl) ?_
  refine X_run rfl trivial ?_
  by_cases h0 : x = 0
  · subst h0
    refine X_tsw (t := 28) (k0 := 0) rfl (by decide) (by decide) rfl rfl ?_
    refine X_run rfl trivial ?_
    exact X_cret rfl rfl rfl ⟨rfl, rfl⟩
  by_cases h1 : x = 1
  · subst h1
    refine X_tsw (t := 31) (k0 := 1) rfl (by decide) (by decide) rfl rfl ?_
    refine X_run rfl trivial ?_
    exact X_cret rfl rfl rfl ⟨rfl, rfl⟩
  by_cases h2 : x = 2
  · subst h2
    refine X_tsw (t := 34) (k0 := 2) rfl (by decide) (by decide) rfl rfl ?_
    refine X_run rfl trivial ?_
    exact X_cret rfl rfl rfl ⟨rfl, rfl⟩
  · have h3 : x.toInt < 0 ∨ 2 < x.toInt := by
      have g0 : x.toInt ≠ 0 := fun z => h0 (Int32.toInt_inj.mp z)
      have g1 : x.toInt ≠ 1 := fun z => h1 (Int32.toInt_inj.mp z)
      have g2 : x.toInt ≠ 2 := fun z => h2 (Int32.toInt_inj.mp z)
      omega
    refine X_tswD (t := 37) rfl h3 rfl ?_
    refine X_run rfl trivial ?_
    refine X_cret rfl rfl rfl ⟨rfl, ?_⟩
    unfold lett
    rw [if_neg h0, if_neg h1, if_neg h2]
    rfl
theorem lett_lt (x : Int32) : lett x < 256 := by unfold lett; split <;> (try split) <;> (try split) <;> decide
theorem wOk.by {w : List Nat} (h : wOk w) : (∀ b ∈ w, 1 ≤ b ∧ b < 256) ∧ w.length ≤ 8 := ⟨fun b hb => by have := h.2.2 b hb; omega, h.2.1⟩
theorem c_writePayment {n : Nat} (hX : DkL S X) (hW : WfK K) (hK : WrK K) (hR : RepC D (X + 11) K) (hn : n < k_ny K) (hB : BrR D (X + 8) T) (hl : T.length + 36 ≤ 2160) : EvM g (d + 2) mX9_writePayment 0 0 [.ref X, .ref (ya (X + 11) n)] (md S D) (fun v M1 => ∃ D1, v = none ∧ M1 = md S D1 ∧ BrR D1 (X + 8) (T ++ lineY K n) ∧ Out (X + 8) (X + 10) D D1) := by
  obtain ⟨hx, -, hP, -, hL, -⟩ := id hX
  have hb := hL.1
  obtain ⟨w1, w2, w3, w4⟩ := id hW
  obtain ⟨v1, v2, v3, -⟩ := w4 n hn
  obtain ⟨a, ha1, ha2, ha⟩ := hK.2.2 n hn
  have hy := hL.2.2.2 n (by omega)
  obtain ⟨f1, f2⟩ := (hK.1 _ v1).by
  obtain ⟨t1, t2⟩ := (hK.1 _ v2).by
  obtain ⟨m1, m2⟩ := (hK.2.1 _ v3).by
  have hv := hR.2.2.2 n hn
  have hq1 := (hL.2.1 (k_fr K n) (by omega)).1
  have hq2 := (hL.2.1 (k_to K n) (by omega)).1
  have hq3 := hL.2.2.1 (k_mo K n) (by omega)
  have hdl := decs_len a 6
  have eline : lineY K n = k_pn K (k_fr K n) ++ ([32] ++ (k_pn K (k_to K n) ++ ([32] ++ (decs a 6 ++ ([32] ++ (k_mn K (k_mo K n) ++ ([32] ++ ([lett (k_st K n)] ++ [10])))))))) := by unfold lineY; rw [ha, iN_nI (by omega)]
  rw [eline]
  rw [ha] at hv
  refine EvM.mk (by decide) (Nat.le_of_ble_eq_true rfl) ?_
  refine X_run rfl ?_ ?_
  · simp [md_s, md_w, rget, r_a, r_b, r_c, r_i, r_l, hx, hy, hv]
  try simp only [md_s, md_w, rget_some, r_a, r_b, r_c, r_i, r_l, r_nx, r_pc, Nat.reduceEqDiff, false_and, if_false, hx, hy, hv]
  refine X_cV (args := [.int (nI (k_fr K n))]) rfl (by decide) hb.1 rfl rfl (Nat.le_of_ble_eq_true rfl) (c_partyAt hL (show k_fr K n < 10 by omega)) ?_
  rintro _ _ ⟨rfl, rfl⟩
  have hvp := (hR.2.1 (k_fr K n) v1).1
  refine X_run rfl ?_ ?_
  · simp [md_s, md_w, rget, r_a, r_b, r_c, r_i, r_l, hq1, hvp]
  try simp only [md_s, md_w, rget_some, r_a, r_b, r_c, r_i, r_l, r_nx, r_pc, Nat.reduceEqDiff, false_and, if_false, hq1, hvp]
  refine X_cV (args := [.long (asc (k_pn K (k_fr K n)))]) rfl (by decide) hP.1 rfl rfl (Nat.le_of_ble_eq_true rfl) (c_appW hP hB f1 f2 (by omega)) ?_
  rintro _ _ ⟨D1, rfl, rfl, hB1, hO1⟩
  refine X_run rfl ?_ ?_
  · simp [md_s, md_w, rget, r_a, r_b, r_c, r_i, r_l, hx]
  try simp only [md_s, md_w, rget_some, r_a, r_b, r_c, r_i, r_l, r_nx, r_pc, Nat.reduceEqDiff, false_and, if_false, hx]
  refine X_cV (args := [.int 32]) rfl (by decide) hP.1 rfl rfl (Nat.le_of_ble_eq_true rfl) (c_Bapp hP hB1 (by simp only [List.length_append]; omega)) ?_
  rintro _ _ ⟨D2, rfl, rfl, hB2, hO2⟩
  have hO2 := hO1.tr hO2
  have hR2 : RepC D2 (X + 11) K := hR.out hW hO2 (by omega)
  have hv2 := hR2.2.2.2 n hn
  rw [ha] at hv2
  have hvp2 := (hR2.2.1 (k_to K n) v2).1
  refine X_run rfl ?_ ?_
  · simp [md_s, md_w, rget, r_a, r_b, r_c, r_i, r_l, hx, hy, hv2]
  try simp only [md_s, md_w, rget_some, r_a, r_b, r_c, r_i, r_l, r_nx, r_pc, Nat.reduceEqDiff, false_and, if_false, hx, hy, hv2]
  refine X_cV (args := [.int (nI (k_to K n))]) rfl (by decide) hb.1 rfl rfl (Nat.le_of_ble_eq_true rfl) (c_partyAt hL (show k_to K n < 10 by omega)) ?_
  rintro _ _ ⟨rfl, rfl⟩
  refine X_run rfl ?_ ?_
  · simp [md_s, md_w, rget, r_a, r_b, r_c, r_i, r_l, hq2, hvp2]
  try simp only [md_s, md_w, rget_some, r_a, r_b, r_c, r_i, r_l, r_nx, r_pc, Nat.reduceEqDiff, false_and, if_false, hq2, hvp2]
  refine X_cV (args := [.long (asc (k_pn K (k_to K n)))]) rfl (by decide) hP.1 rfl rfl (Nat.le_of_ble_eq_true rfl) (c_appW hP hB2 t1 t2 (by simp only [List.length_append, List.length_singleton]; omega)) ?_
  rintro _ _ ⟨D3, rfl, rfl, hB3, hO3⟩
  have hO3 := hO2.tr hO3
  refine X_run rfl ?_ ?_
  · simp [md_s, md_w, rget, r_a, r_b, r_c, r_i, r_l, hx]
  try simp only [md_s, md_w, rget_some, r_a, r_b, r_c, r_i, r_l, r_nx, r_pc, Nat.reduceEqDiff, false_and, if_false, hx]
  refine X_cV (args := [.int 32]) rfl (by decide) hP.1 rfl rfl (Nat.le_of_ble_eq_true rfl) (c_Bapp hP hB3 (by simp only [List.length_append, List.length_singleton]; omega)) ?_
  rintro _ _ ⟨D4, rfl, rfl, hB4, hO4⟩
  have hO4 := hO3.tr hO4
  have hR4 : RepC D4 (X + 11) K := hR.out hW hO4 (by omega)
  have hv4 := hR4.2.2.2 n hn
  rw [ha] at hv4
  refine X_run rfl ?_ ?_
  · simp [md_s, md_w, rget, r_a, r_b, r_c, r_i, r_l, hx, hy, hv4]
  try simp only [md_s, md_w, rget_some, r_a, r_b, r_c, r_i, r_l, r_nx, r_pc, Nat.reduceEqDiff, false_and, if_false, hx, hy, hv4]
  refine X_cV (args := [.int (nI a)]) rfl (by decide) hP.1 rfl rfl (Nat.le_of_ble_eq_true rfl) (c_appN hP hB4 ⟨ha1, ha2⟩ (by simp only [List.length_append, List.length_singleton]; omega)) ?_
  rintro _ _ ⟨D5, rfl, rfl, hB5, hO5⟩
  have hO5 := hO4.tr hO5
  refine X_run rfl ?_ ?_
  · simp [md_s, md_w, rget, r_a, r_b, r_c, r_i, r_l, hx]
  try simp only [md_s, md_w, rget_some, r_a, r_b, r_c, r_i, r_l, r_nx, r_pc, Nat.reduceEqDiff, false_and, if_false, hx]
  refine X_cV (args := [.int 32]) rfl (by decide) hP.1 rfl rfl (Nat.le_of_ble_eq_true rfl) (c_Bapp hP hB5 (by simp only [List.length_append, List.length_singleton]; omega)) ?_
  rintro _ _ ⟨D6, rfl, rfl, hB6, hO6⟩
  have hO6 := hO5.tr hO6
  have hR6 : RepC D6 (X + 11) K := hR.out hW hO6 (by omega)
  have hv6 := hR6.2.2.2 n hn
  rw [ha] at hv6
  have hvm6 := hR6.2.2.1 (k_mo K n) v3
  refine X_run rfl ?_ ?_
  · simp [md_s, md_w, rget, r_a, r_b, r_c, r_i, r_l, hx, hy, hv6]
  try simp only [md_s, md_w, rget_some, r_a, r_b, r_c, r_i, r_l, r_nx, r_pc, Nat.reduceEqDiff, false_and, if_false, hx, hy, hv6]
  refine X_cV (args := [.int (nI (k_mo K n))]) rfl (by decide) hb.1 rfl rfl (Nat.le_of_ble_eq_true rfl) (c_moneyAt hL (show k_mo K n < 5 by omega)) ?_
  rintro _ _ ⟨rfl, rfl⟩
  refine X_run rfl ?_ ?_
  · simp [md_s, md_w, rget, r_a, r_b, r_c, r_i, r_l, hq3, hvm6]
  try simp only [md_s, md_w, rget_some, r_a, r_b, r_c, r_i, r_l, r_nx, r_pc, Nat.reduceEqDiff, false_and, if_false, hq3, hvm6]
  refine X_cV (args := [.long (asc (k_mn K (k_mo K n)))]) rfl (by decide) hP.1 rfl rfl (Nat.le_of_ble_eq_true rfl) (c_appW hP hB6 m1 m2 (by simp only [List.length_append, List.length_singleton]; omega)) ?_
  rintro _ _ ⟨D7, rfl, rfl, hB7, hO7⟩
  have hO7 := hO6.tr hO7
  refine X_run rfl ?_ ?_
  · simp [md_s, md_w, rget, r_a, r_b, r_c, r_i, r_l, hx]
  try simp only [md_s, md_w, rget_some, r_a, r_b, r_c, r_i, r_l, r_nx, r_pc, Nat.reduceEqDiff, false_and, if_false, hx]
  refine X_cV (args := [.int 32]) rfl (by decide) hP.1 rfl rfl (Nat.le_of_ble_eq_true rfl) (c_Bapp hP hB7 (by simp only [List.length_append, List.length_singleton]; omega)) ?_
  rintro _ _ ⟨D8, rfl, rfl, hB8, hO8⟩
  have hO8 := hO7.tr hO8
  have hR8 : RepC D8 (X + 11) K := hR.out hW hO8 (by omega)
  have hv8 := hR8.2.2.2 n hn
  refine X_run rfl ?_ ?_
  · simp [md_s, md_w, rget, r_a, r_b, r_c, r_i, r_l, hx, hy, hv8]
  try simp only [md_s, md_w, rget_some, r_a, r_b, r_c, r_i, r_l, r_nx, r_pc, Nat.reduceEqDiff, false_and, if_false, hx, hy, hv8]
  refine X_cS (args := [.int (k_st K n)]) rfl (by decide) rfl rfl (Nat.le_of_ble_eq_true rfl) c_letterOf ?_
  rintro _ _ ⟨rfl, rfl⟩
  refine X_cV (args := [.int (nI (lett (k_st K n)))]) rfl (by decide) hP.1 rfl rfl (Nat.le_of_ble_eq_true rfl) (c_Bapp hP hB8 (by simp only [List.length_append, List.length_singleton]; omega)) ?_
  rintro _ _ ⟨D9, rfl, rfl, hB9, hO9⟩
  rw [lo8_nI (lett_lt _)] at hB9
  have hO9 := hO8.tr hO9
  refine X_run rfl ?_ ?_
  · simp [md_s, md_w, rget, r_a, r_b, r_c, r_i, r_l, hx]
  try simp only [md_s, md_w, rget_some, r_a, r_b, r_c, r_i, r_l, r_nx, r_pc, Nat.reduceEqDiff, false_and, if_false, hx]
  refine X_cV (args := [.int 10]) rfl (by decide) hP.1 rfl rfl (Nat.le_of_ble_eq_true rfl) (c_Bapp hP hB9 (by simp only [List.length_append, List.length_singleton]; omega)) ?_
  rintro _ _ ⟨DA, rfl, rfl, hBA, hOA⟩
  have hOA := hO9.tr hOA
  refine X_run rfl trivial ?_
  refine X_vret rfl rfl ⟨DA, rfl, rfl, ?_, hOA⟩
  rw [show lo8 32 = 32 from rfl, show lo8 10 = 10 from rfl] at hBA
  simp only [List.append_assoc] at hBA
  exact hBA
theorem c_report {x : Int32} (hX : DkL S X) (hW : WfK K) (hK : WrK K) (hR : RepC D (X + 11) K) : EvX g (d + 6) mX9_report 1 6 [.ref X, .int x] (md S D) (fun v M1 => 0 ≤ x ∧ ∃ D1, v = some (.int (nI (repL K x).length)) ∧ M1 = md S D1 ∧ RepC D1 (X + 11) K ∧ BrR D1 (X + 8) (repL K x) ∧ Out (X + 8) (X + 10) D D1) (fun E M1 => ¬ 0 ≤ x ∧ E = eA ∧ ∃ k, M1 = w_opq (md S D) k) := by
  obtain ⟨hx, -, hP, -, hL, -⟩ := id hX
  have hb := hL.1
  obtain ⟨w1, w2, w3, w4⟩ := id hW
  have hp := hP.1
  refine EvX.mk (by decide) (Nat.le_of_ble_eq_true rfl) ?_
  refine X_run rfl trivial ?_
  refine X_if_ge rfl (fun c1 => ?_) (fun c1 => X_throwW ⟨rfl, rfl, rfl, rfl, rfl⟩ (by decide) rfl i_eA s_334 (Nat.zero_le _) (fun k => ⟨c1, rfl, k, rfl⟩))
  refine X_run rfl ?_ ?_
  · simp [md_s, md_w, rget, r_a, r_b, r_c, r_i, r_l, hx, hp]
  try simp only [md_s, md_w, rget_some, r_a, r_b, r_c, r_i, r_l, r_nx, r_pc, Nat.reduceEqDiff, false_and, if_false, hx, hp]
  have hB0 : BrR (pfi D 33 (X + 8) 0) (X + 8) [] := ⟨by rw [rd_fi, if_pos ⟨rfl, rfl⟩]; rfl, fun i hi => absurd hi (Nat.not_lt_zero i), fun b hb => by cases hb⟩
  have hO0 : Out (X + 8) (X + 10) D (pfi D 33 (X + 8) 0) := Out.fi (by omega)
  generalize pfi D 33 (X + 8) 0 = D0 at hB0 hO0 ⊢
  refine Eg_up (α := DaT) (fun i D' => Eg g (d + 6) mX9_report 1 6 (Zx g _ _) 25 [(0, .ref X), (1, .int x), (2, .int (nI i))] [] (md S D')) (fun i D' => BrR D' (X + 8) (iter (repS K x) i []) ∧ Out (X + 8) (X + 10) D D') (k_ny K) (fun i D1 hi hI k => ?_) (fun D1 hI => ?_) D0 ⟨hB0, hO0⟩
  · obtain ⟨hB1, hO1⟩ := hI
    have hR1 : RepC D1 (X + 11) K := hR.out hW hO1 (by omega)
    have hc := hR1.1
    have hi2 : i < 60 := by omega
    have hy := hL.2.2.2 i hi2
    have hv := hR1.2.2.2 i hi
    have hlen := repL_len (x := x) hK hW i (by omega)
    have e1 : iter (repS K x) (i + 1) [] = repS K x i (iter (repS K x) i []) := rfl
    rw [e1] at k
    generalize iter (repS K x) i [] = T1 at k hB1 hlen
    unfold repS at k
    refine X_run rfl ?_ ?_
    · simp [md_s, md_w, rget, r_a, r_b, r_c, r_i, r_l, hx, hb, hc]
    try simp only [md_s, md_w, rget_some, r_a, r_b, r_c, r_i, r_l, r_nx, r_pc, Nat.reduceEqDiff, false_and, if_false, hx, hb, hc]
    refine X_icmp_ge rfl (fun c2 => no_le c2 hi (by omega)) (fun c2 => ?_)
    refine X_run rfl ?_ ?_
    · simp [md_s, md_w, rget, r_a, r_b, r_c, r_i, r_l, hx]
    try simp only [md_s, md_w, rget_some, r_a, r_b, r_c, r_i, r_l, r_nx, r_pc, Nat.reduceEqDiff, false_and, if_false, hx]
    refine X_cV (args := [.int (nI i)]) rfl (by decide) hb.1 rfl rfl (Nat.le_of_ble_eq_true rfl) (c_paymentAt hL hi2) ?_
    rintro _ _ ⟨rfl, rfl⟩
    refine X_run rfl ?_ ?_
    · simp [md_s, md_w, rget, r_a, r_b, r_c, r_i, r_l, hy, hv]
    try simp only [md_s, md_w, rget_some, r_a, r_b, r_c, r_i, r_l, r_nx, r_pc, Nat.reduceEqDiff, false_and, if_false, hy, hv]
    refine X_icmp_ne rfl (fun c3 => ?_) (fun c3 => ?_)
    · rw [if_neg c3] at k
      refine X_run rfl ?_ ?_
      · simp [md_s, md_w, rget, r_a, r_b, r_c, r_i, r_l, nI_s1]
      try simp only [md_s, md_w, rget_some, r_a, r_b, r_c, r_i, r_l, r_nx, r_pc, Nat.reduceEqDiff, false_and, if_false, nI_s1]
      exact Eg.sub (k D1 ⟨hB1, hO1⟩) ⟨rfl, rfl, rfl, trivial⟩
    · rw [if_pos c3] at k
      refine X_run rfl trivial ?_
      refine X_cV (args := [.ref (ya (X + 11) i)]) rfl (by decide) hx.1 rfl rfl (Nat.le_of_ble_eq_true rfl) (c_writePayment hX hW hK hR1 hi hB1 (by omega)) ?_
      rintro _ _ ⟨D2, rfl, rfl, hB2, hO2⟩
      refine X_run rfl ?_ ?_
      · simp [md_s, md_w, rget, r_a, r_b, r_c, r_i, r_l, nI_s1]
      try simp only [md_s, md_w, rget_some, r_a, r_b, r_c, r_i, r_l, r_nx, r_pc, Nat.reduceEqDiff, false_and, if_false, nI_s1]
      exact Eg.sub (k D2 ⟨hB2, hO1.tr hO2⟩) ⟨rfl, rfl, rfl, trivial⟩
  · obtain ⟨hB1, hO1⟩ := hI
    have hR1 : RepC D1 (X + 11) K := hR.out hW hO1 (by omega)
    have hc := hR1.1
    have hl1 := hB1.1
    refine X_run rfl ?_ ?_
    · simp [md_s, md_w, rget, r_a, r_b, r_c, r_i, r_l, hx, hb, hc]
    try simp only [md_s, md_w, rget_some, r_a, r_b, r_c, r_i, r_l, r_nx, r_pc, Nat.reduceEqDiff, false_and, if_false, hx, hb, hc]
    refine X_icmp_ge rfl (fun c2 => ?_) (fun c2 => no_nle c2 (Nat.le_refl _) (by omega))
    refine X_run rfl ?_ ?_
    · simp [md_s, md_w, rget, r_a, r_b, r_c, r_i, r_l, hx, hp, hl1]
    try simp only [md_s, md_w, rget_some, r_a, r_b, r_c, r_i, r_l, r_nx, r_pc, Nat.reduceEqDiff, false_and, if_false, hx, hp, hl1]
    exact Eg.zx (X_iret rfl rfl ⟨c1, D1, rfl, rfl, hR1, hB1, hO1⟩)
theorem c_byteAt {x : Int32} (hX : DkL S X) (hB : BrR D (X + 8) T) (hl : T.length ≤ 2160) : EvX g (d + 6) mX9_byteAt 1 6 [.ref X, .int x] (md S D) (fun v M1 => M1 = md S D ∧ inB x T.length = true ∧ v = some (.int (nI (T.getD (iN x) 0)))) (fun E M1 => inB x T.length = false ∧ E = eB ∧ ∃ k, M1 = w_opq (md S D) k) := by
  obtain ⟨hx, -, hP, -⟩ := id hX
  have hp := hP.1
  have hl1 := hB.1
  refine EvX.mk (by decide) (Nat.le_of_ble_eq_true rfl) ?_
  refine X_run rfl ?_ ?_
  · simp [md_s, md_w, rget, r_a, r_b, r_c, r_i, r_l, hx, hp, hl1]
  try simp only [md_s, md_w, rget_some, r_a, r_b, r_c, r_i, r_l, r_nx, r_pc, Nat.reduceEqDiff, false_and, if_false, hx, hp, hl1]
  refine X_cS (args := [.int x, .int 0, .int (nI T.length - 1)]) rfl (by decide) rfl rfl (Nat.le_of_ble_eq_true rfl) c_isFrom ?_
  rintro _ _ ⟨rfl, rfl⟩
  rw [if_b2i, show decide (0 ≤ x ∧ x ≤ nI T.length - 1) = inB x T.length from rfl]
  refine X_if_ne rfl (fun c1 => ?_) (fun c1 => X_throwW ⟨rfl, rfl, rfl, rfl, rfl⟩ (by decide) rfl i_eB s_359 (Nat.zero_le _) (fun k => ⟨b2i_zero.mp c1, rfl, k, rfl⟩))
  have c1 := b2i_nz c1
  obtain ⟨u, hu, rfl⟩ := (inB_iff (by omega)).mp c1
  refine X_run rfl ?_ ?_
  · simp [md_s, md_w, rget, r_a, r_b, r_c, r_i, r_l, hx]
  try simp only [md_s, md_w, rget_some, r_a, r_b, r_c, r_i, r_l, r_nx, r_pc, Nat.reduceEqDiff, false_and, if_false, hx]
  refine X_cV (args := [.int (nI u)]) rfl (by decide) hp rfl rfl (Nat.le_of_ble_eq_true rfl) (c_B_at hP hB.1 hl hu) ?_
  rintro _ _ ⟨rfl, rfl⟩
  rw [hB.2.1 u hu]
  refine X_run rfl trivial ?_
  exact Eg.zx (X_iret rfl rfl ⟨rfl, c1, by rw [iN_nI (by omega)]⟩)
theorem c_errorAt (hX : DkL S X) : EvM g d mX9_errorAt 0 0 [.ref X] (md S D) (fun v M1 => M1 = md S D ∧ v = some (.int (d_fi D 297 X))) := by
  obtain ⟨hx, -⟩ := id hX
  refine EvM.mk (by decide) (Nat.le_of_ble_eq_true rfl) ?_
  refine X_run rfl ?_ ?_
  · simp [md_s, md_w, rget, r_a, r_b, r_c, r_i, r_l, hx]
  try simp only [md_s, md_w, rget_some, r_a, r_b, r_c, r_i, r_l, r_nx, r_pc, Nat.reduceEqDiff, false_and, if_false, hx]
  exact X_iret rfl rfl ⟨rfl, rfl⟩
theorem c_trim {x : Int32} (hX : DkL S X) (hB : BrR D (X + 3) T) (hl : T.length ≤ 2000) : EvX g (d + 6) mX9_trim 1 6 [.ref X, .int x] (md S D) (fun v M1 => ∃ D1, inB x (T.length + 1) = true ∧ v = some (.int x) ∧ M1 = md S D1 ∧ BrR D1 (X + 3) (T.take (iN x)) ∧ Out (X + 3) (X + 5) D D1) (fun E M1 => inB x (T.length + 1) = false ∧ E = eA ∧ ∃ k, M1 = w_opq (md S D) k) := by
  obtain ⟨hx, hP, -⟩ := id hX
  have hp := hP.1
  have hl1 := hB.1
  refine EvX.mk (by decide) (Nat.le_of_ble_eq_true rfl) ?_
  refine X_run rfl ?_ ?_
  · simp [md_s, md_w, rget, r_a, r_b, r_c, r_i, r_l, hx, hp, hl1]
  try simp only [md_s, md_w, rget_some, r_a, r_b, r_c, r_i, r_l, r_nx, r_pc, Nat.reduceEqDiff, false_and, if_false, hx, hp, hl1]
  refine X_cS (args := [.int x, .int 0, .int (nI T.length)]) rfl (by decide) rfl rfl (Nat.le_of_ble_eq_true rfl) c_isFrom ?_
  rintro _ _ ⟨rfl, rfl⟩
  rw [if_b2i, show decide (0 ≤ x ∧ x ≤ nI T.length) = inB x (T.length + 1) by unfold inB; rw [nI_pred]]
  refine X_if_ne rfl (fun c1 => ?_) (fun c1 => X_throw ⟨rfl, rfl, rfl, rfl, rfl⟩ (by decide) rfl i_eA s_84 (Nat.zero_le _) (fun k => ⟨b2i_zero.mp c1, rfl, k, rfl⟩))
  have c1 := b2i_nz c1
  obtain ⟨u, hu, rfl⟩ := (inB_iff (by omega)).mp c1
  refine X_run rfl ?_ ?_
  · simp [md_s, md_w, rget, r_a, r_b, r_c, r_i, r_l, hx, hp]
  try simp only [md_s, md_w, rget_some, r_a, r_b, r_c, r_i, r_l, r_nx, r_pc, Nat.reduceEqDiff, false_and, if_false, hx, hp]
  exact Eg.zx (X_iret rfl rfl ⟨_, c1, rfl, rfl, by rw [iN_nI (by omega)]; exact hB.take (by omega), Out.fi (by omega)⟩)
theorem c_feed {a b c e f : Int32} (hX : DkL S X) (hB : BrR D (X + 3) T) (hl : T.length ≤ 2000) : EvX g (d + 6) mX9_feed 1 6 [.ref X, .int a, .int b, .int c, .int e, .int f] (md S D) (fun v M1 => ∃ D1, T.length + 20 ≤ 2000 ∧ v = some (.int (nI (T.length + 20))) ∧ M1 = md S D1 ∧ BrR D1 (X + 3) (T ++ (b4 a ++ (b4 b ++ (b4 c ++ (b4 e ++ b4 f))))) ∧ Out (X + 3) (X + 5) D D1) (fun E M1 => ¬ T.length + 20 ≤ 2000 ∧ E = eS ∧ ∃ k, M1 = w_opq (md S D) k) := by
  obtain ⟨hx, hP, -⟩ := id hX
  have hp := hP.1
  have hl1 := hB.1
  have e20 : nI T.length + 20 = nI (T.length + 20) := nI_add _ 20
  have h4 : ∀ x, (b4 x).length = 4 := fun _ => rfl
  refine EvX.mk (by decide) (Nat.le_of_ble_eq_true rfl) ?_
  refine X_run rfl ?_ ?_
  · simp [md_s, md_w, rget, r_a, r_b, r_c, r_i, r_l, hx, hp, hl1, e20]
  try simp only [md_s, md_w, rget_some, r_a, r_b, r_c, r_i, r_l, r_nx, r_pc, Nat.reduceEqDiff, false_and, if_false, hx, hp, hl1, e20]
  refine X_icmp_le rfl (fun c1 => ?_) (fun c1 => X_throw ⟨rfl, rfl, rfl, rfl, rfl⟩ (by decide) rfl i_eS s_70 (Nat.zero_le _) (fun k => ⟨fun z => c1 ((nI_leI (b := 2000) (by omega) (by omega)).mpr z), rfl, k, rfl⟩))
  have c1 : T.length + 20 ≤ 2000 := (nI_leI (b := 2000) (by omega) (by omega)).mp c1
  refine X_run rfl ?_ ?_
  · simp [md_s, md_w, rget, r_a, r_b, r_c, r_i, r_l, hx]
  try simp only [md_s, md_w, rget_some, r_a, r_b, r_c, r_i, r_l, r_nx, r_pc, Nat.reduceEqDiff, false_and, if_false, hx]
  refine X_cV (args := [.int a]) rfl (by decide) hp rfl rfl (Nat.le_of_ble_eq_true rfl) (c_app4 hP hB (by omega)) ?_
  rintro _ _ ⟨D1, rfl, rfl, hB1, hO1⟩
  refine X_run rfl ?_ ?_
  · simp [md_s, md_w, rget, r_a, r_b, r_c, r_i, r_l, hx]
  try simp only [md_s, md_w, rget_some, r_a, r_b, r_c, r_i, r_l, r_nx, r_pc, Nat.reduceEqDiff, false_and, if_false, hx]
  refine X_cV (args := [.int b]) rfl (by decide) hp rfl rfl (Nat.le_of_ble_eq_true rfl) (c_app4 hP hB1 (by simp only [List.length_append, h4]; omega)) ?_
  rintro _ _ ⟨D2, rfl, rfl, hB2, hO2⟩
  refine X_run rfl ?_ ?_
  · simp [md_s, md_w, rget, r_a, r_b, r_c, r_i, r_l, hx]
  try simp only [md_s, md_w, rget_some, r_a, r_b, r_c, r_i, r_l, r_nx, r_pc, Nat.reduceEqDiff, false_and, if_false, hx]
  refine X_cV (args := [.int c]) rfl (by decide) hp rfl rfl (Nat.le_of_ble_eq_true rfl) (c_app4 hP hB2 (by simp only [List.length_append, h4]; omega)) ?_
  rintro _ _ ⟨D3, rfl, rfl, hB3, hO3⟩
  refine X_run rfl ?_ ?_
  · simp [md_s, md_w, rget, r_a, r_b, r_c, r_i, r_l, hx]
  try simp only [md_s, md_w, rget_some, r_a, r_b, r_c, r_i, r_l, r_nx, r_pc, Nat.reduceEqDiff, false_and, if_false, hx]
  refine X_cV (args := [.int e]) rfl (by decide) hp rfl rfl (Nat.le_of_ble_eq_true rfl) (c_app4 hP hB3 (by simp only [List.length_append, h4]; omega)) ?_
  rintro _ _ ⟨D4, rfl, rfl, hB4, hO4⟩
  refine X_run rfl ?_ ?_
  · simp [md_s, md_w, rget, r_a, r_b, r_c, r_i, r_l, hx]
  try simp only [md_s, md_w, rget_some, r_a, r_b, r_c, r_i, r_l, r_nx, r_pc, Nat.reduceEqDiff, false_and, if_false, hx]
  refine X_cV (args := [.int f]) rfl (by decide) hp rfl rfl (Nat.le_of_ble_eq_true rfl) (c_app4 hP hB4 (by simp only [List.length_append, h4]; omega)) ?_
  rintro _ _ ⟨D5, rfl, rfl, hB5, hO5⟩
  have hl5 := hB5.1
  simp only [List.length_append, h4, Nat.add_assoc, Nat.reduceAdd] at hl5
  simp only [List.append_assoc] at hB5
  refine X_run rfl ?_ ?_
  · simp [md_s, md_w, rget, r_a, r_b, r_c, r_i, r_l, hx, hp, hl5]
  try simp only [md_s, md_w, rget_some, r_a, r_b, r_c, r_i, r_l, r_nx, r_pc, Nat.reduceEqDiff, false_and, if_false, hx, hp, hl5]
  exact Eg.zx (X_iret rfl rfl ⟨D5, c1, rfl, rfl, hB5, (((hO1.tr hO2).tr hO3).tr hO4).tr hO5⟩)
end PAPER
