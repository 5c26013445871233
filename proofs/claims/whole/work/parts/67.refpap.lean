/-! the reference's paper and tape -/
def PapO (Y : Nat) (D D1 : DaT) : Prop := (∀ a, a ≠ Y → a ≠ Y + 2 → Same D D1 a) ∧ ∀ k, k ≠ 357 → d_fi D1 k Y = d_fi D k Y
theorem PapO.rf {Y : Nat} {D : DaT} : PapO Y D D := ⟨fun _ _ _ => ⟨fun _ => rfl, fun _ => rfl, rfl, rfl⟩, fun _ _ => rfl⟩
theorem PapO.tr {Y : Nat} {D D1 D2 : DaT} (h : PapO Y D D1) (h2 : PapO Y D1 D2) : PapO Y D D2 := ⟨fun a h3 h4 => (h.1 a h3 h4).tr (h2.1 a h3 h4), fun k hk => (h2.2 k hk).trans (h.2 k hk)⟩
theorem PapO.outR {S : ShT} {Y : Nat} {D D1 : DaT} (h : PapO Y D D1) : OutR S Y D D1 := fun a _ h4 => h.1 a (by omega) (by omega)
theorem RepR.pap {D D1 : DaT} {Y A : Nat} {K : KT} (h : RepR D A K) (ho : PapO Y D D1) (hA : Y + 8 ≤ A) : RepR D1 A K := h.same (fun k => (ho.1 A (by omega) (by omega)).1 k) (fun r h1 h2 => ⟨(ho.1 (A + r) (by omega) (by omega)).2.2.1, (ho.1 (A + r) (by omega) (by omega)).2.2.2⟩)
theorem RmR.pap {D D1 : DaT} {Y A : Nat} {K : KT} {T P P' : List Nat} {e : Int32} (h : RmR D Y A K T P e) (ho : PapO Y D D1) (hp : PapR D1 Y P') (hA : Y + 8 ≤ A) : RmR D1 Y A K T P' e := by
  obtain ⟨r1, ⟨t1, t2, t3⟩, -, r4, r5⟩ := h
  refine ⟨r1.pap ho hA, ⟨(ho.2 354 (by decide)).trans t1, ?_, t3⟩, hp, ?_, (ho.2 355 (by decide)).trans r5⟩
  · rw [(ho.1 (Y + 1) (by omega) (by omega)).2.2.1]; exact t2
  · unfold KwR
    rw [(ho.1 (Y + 3) (by omega) (by omega)).2.2.2]; exact r4
def v37 (b : Nat) : Nat := if isLet b = true then b - 96 else b - 21
def c37N (w : List Nat) : Nat := w.foldl (fun c b => c * 37 + v37 b) 0
theorem c37N_snoc (w : List Nat) (b : Nat) : c37N (w ++ [b]) = c37N w * 37 + v37 b := by unfold c37N; rw [List.foldl_append]; rfl
theorem c37_snoc (w : List Nat) (b : Nat) : c37 (w ++ [b]) = c37 w * 37 + (if isLet b = true then nI b - 97 + 1 else nI b - 48 + 27).toInt64 := by unfold c37; rw [List.foldl_append]; rfl
def wCh (b : Nat) : Prop := (97 ≤ b ∧ b ≤ 122) ∨ (48 ≤ b ∧ b ≤ 57)
theorem nI_sub {a b : Nat} (h : b ≤ a) : nI a - nI b = nI (a - b) := by
  have : nI a = nI (a - b) + nI b := by rw [nI_add]; congr 1; omega
  rw [this, Int32.add_sub_cancel]
theorem v37_b {b : Nat} (h : wCh b) : (1 ≤ v37 b ∧ v37 b ≤ 36) ∧ (if isLet b = true then nI b - 97 + 1 else nI b - 48 + 27) = nI (v37 b) := by
  unfold v37
  by_cases c : isLet b = true
  · have c' := of_decide_eq_true c
    rw [if_pos c, if_pos c, show (97 : Int32) = nI 97 from rfl, nI_sub c'.1, nI_s1]
    exact ⟨by omega, congrArg nI (by omega)⟩
  · have c' := of_decide_eq_false (Bool.eq_false_iff.mpr c)
    have : 48 ≤ b ∧ b ≤ 57 := by rcases h with h | h; exact absurd h c'; exact h
    rw [if_neg c, if_neg c, show (48 : Int32) = nI 48 from rfl, nI_sub this.1, show (27 : Int32) = nI 27 from rfl, nI_add]
    exact ⟨by omega, congrArg nI (by omega)⟩
theorem i2l_nI {n : Nat} (h : n < 2 ^ 31) : (nI n).toInt64 = lN n := by
  refine Int64.toInt_inj.mp ?_
  rw [i64_toInt, nI_toInt h, lN_toInt h]
theorem c37_nat : ∀ w : List Nat, (∀ b ∈ w, wCh b) → c37 w = lN (c37N w) := by
  intro w
  induction w using snoc_ind with
  | h0 => intro _; rfl
  | hs w b ih =>
    intro h
    have hb := v37_b (h b (by simp))
    rw [c37_snoc, c37N_snoc, ih (fun x hx => h x (by simp [hx])), hb.2, i2l_nI (by omega), show (37 : Int64) = lN 37 from rfl, lN_mul, lN_add]
theorem c37N_lt : ∀ w : List Nat, (∀ b ∈ w, wCh b) → c37N w < 37 ^ w.length := by
  intro w
  induction w using snoc_ind with
  | h0 => intro _; exact Nat.one_pos
  | hs w b ih =>
    intro h
    have hb := v37_b (h b (by simp))
    have := ih (fun x hx => h x (by simp [hx]))
    rw [c37N_snoc, List.length_append]
    show _ < 37 ^ (w.length + 1)
    rw [Nat.pow_succ]
    omega
theorem lN_big {n : Nat} (h : n < 2 ^ 62) : (lN n).toInt = (n : Int) := by
  exact Int64.toInt_ofNat_of_lt (by omega)
theorem lN_div37 {n : Nat} (h : n < 2 ^ 62) : lN n / 37 = lN (n / 37) := by
  refine Int64.toInt_inj.mp ?_
  rw [Int64.toInt_div_of_ne_right _ _ (by decide), lN_big h, lN_big (by omega), show ((37 : Int64)).toInt = 37 from rfl, Int.tdiv_eq_ediv_of_nonneg (by omega)]
  omega
theorem lN_rem37 {n : Nat} (h : n < 2 ^ 62) : lN n - lN n / 37 * 37 = lN (n % 37) := by
  rw [lN_div37 h, show (37 : Int64) = lN 37 from rfl, lN_mul, lN_sub (by omega)]
  congr 1
  omega
theorem decs_hi {v k : Nat} (h : v < 10 ^ k) : ∀ j, k ≤ j → decs v j = decs v k := by
  intro j
  induction j with
  | zero => intro hj; have : k = 0 := by omega
            subst this; rfl
  | succ j ih =>
    intro hj
    by_cases c : k = j + 1
    · subst c; rfl
    · have hp : 10 ^ k ≤ 10 ^ j := Nat.pow_le_pow_right (by decide) (by omega)
      have e : decs v (j + 1) = (if 10 ^ j ≤ v then [48 + v / 10 ^ j % 10] else []) ++ decs v j := rfl
      rw [e, if_neg (by omega)]
      exact ih (by omega)
section REFPAP
variable {g : GG} {d c : Nat} {S : ShT} {D : DaT} {Y A A2 : Nat} {K : KT} {T P : List Nat} {e : Int32}
theorem c_put {b : Nat} (hY : MoL S Y A A2) (hP : PapR D Y P) (hl : P.length + 1 ≤ 2160) (hb : b < 256) : EvM g d mX11_put 0 0 [.ref Y, .int (nI b)] (md S D) (fun v M1 => ∃ D1, v = none ∧ M1 = md S D1 ∧ PapR D1 Y (P ++ [b]) ∧ PapO Y D D1) := by
  obtain ⟨hy, hz, -⟩ := id hY
  obtain ⟨p1, p2, p3, p4⟩ := hP
  have x1 := vx (show P.length < 2400 by omega) (by decide)
  obtain ⟨D1, e1, z1, y1⟩ := wr_ai D (Y + 2) P.length (nI b)
  have f1 : d_fi D1 357 Y = nI P.length := by rw [y1.1]; exact p1
  obtain ⟨D2, e2, z2, y2⟩ := wr_fi D1 357 Y (nI (P.length + 1))
  refine EvM.mk (by decide) (Nat.le_of_ble_eq_true rfl) ?_
  refine X_run rfl ?_ ?_
  · simp [md_s, md_w, rget, r_a, r_b, r_c, r_i, r_l, hy, hz, p1, x1, e1, f1, nI_s1, e2]
  try simp only [md_s, md_w, rget_some, r_a, r_b, r_c, r_i, r_l, r_nx, r_pc, Nat.reduceEqDiff, false_and, if_false, hy, hz, p1, x1, e1, f1, nI_s1, e2]
  refine X_vret rfl rfl ⟨D2, rfl, rfl, ⟨?_, fun i hi => ?_, by simpa using hl, fun x hx => ?_⟩, fun a h3 h4 => ⟨fun k => ?_, fun k => ?_, ?_, ?_⟩, fun k hk => ?_⟩
  · rw [z2, if_pos ⟨rfl, rfl⟩]; simp
  · rw [y2.2.1, z1]
    by_cases c : i = P.length
    · subst c
      rw [if_pos ⟨rfl, rfl⟩, gD_r (Nat.le_refl _), Nat.sub_self]
      rfl
    · have hi2 : i < P.length := by simp at hi; omega
      rw [if_neg (fun z => c z.2), gD_l hi2]
      exact p2 i hi2
  · rcases List.mem_append.mp hx with h | h
    · exact p4 x h
    · simp at h; omega
  · rw [z2, if_neg (fun z => h3 z.2), y1.1]
  · rw [y2.1, y1.2.1]
  · rw [y2.2.1]
    funext j
    rw [z1, if_neg (fun z => h4 z.1)]
  · rw [y2.2.2, y1.2.2]
  · rw [z2, if_neg (fun z => hk z.1), y1.1]
theorem c_putNumber {v : Nat} (hY : MoL S Y A A2) (hP : PapR D Y P) (hl : P.length + 6 ≤ 2160) (hv : 1 ≤ v ∧ v ≤ 100000) : EvM g (d + 1) mX11_putNumber 0 0 [.ref Y, .int (nI v)] (md S D) (fun v' M1 => ∃ D1, v' = none ∧ M1 = md S D1 ∧ PapR D1 Y (P ++ decs v 6) ∧ PapO Y D D1) := by
  obtain ⟨hy, -⟩ := id hY
  let PP : Option Value → Mem → Prop := fun v' M1 => ∃ D1, v' = none ∧ M1 = md S D1 ∧ PapR D1 Y (P ++ decs v 6) ∧ PapO Y D D1
  have down : ∀ (k : Nat) (D1 : DaT) (P1 : List Nat), k ≤ 6 → (k = 0 ∨ 10 ^ (k - 1) ≤ v) → PapR D1 Y P1 → P1.length + k ≤ 2160 → P1 ++ decs v k = P ++ decs v 6 → PapO Y D D1 → Eg g (d + 1) mX11_putNumber 0 0 (Zr g PP) 18 [(0, .ref Y), (1, .int (nI v)), (2, .int (nI (10 ^ k / 10)))] [] (md S D1) := by
    intro k
    induction k with
    | zero =>
      intro D1 P1 hk _ hP1 hl1 hT hO1
      rw [decs, List.append_nil] at hT
      refine X_run rfl trivial ?_
      refine X_if_le rfl (fun c => ?_) (fun c => absurd (show (nI (10 ^ 0 / 10) : Int32) ≤ 0 by decide) c)
      refine X_run rfl trivial ?_
      exact X_vret rfl rfl ⟨D1, rfl, rfl, hT ▸ hP1, hO1⟩
    | succ k ih =>
      intro D1 P1 hk hkv hP1 hl1 hT hO1
      obtain ⟨u1, u2⟩ := pw_le (k := k) (by omega)
      have hge : 10 ^ k ≤ v := by
        rcases hkv with h | h
        · omega
        · exact h
      have hk1 : k = 0 ∨ 10 ^ (k - 1) ≤ v := by
        by_cases c : k = 0
        · exact Or.inl c
        · exact Or.inr (Nat.le_trans (Nat.pow_le_pow_right (by decide) (by omega)) hge)
      have eu : 10 ^ (k + 1) / 10 = 10 ^ k := by rw [Nat.pow_succ]; omega
      rw [eu]
      have eT : decs v (k + 1) = (if 10 ^ k ≤ v then [48 + v / 10 ^ k % 10] else []) ++ decs v k := rfl
      rw [eT, if_pos hge] at hT
      have ih := fun D1 P1 => ih D1 P1 (by omega) hk1
      generalize 10 ^ k = u at u1 u2 hT ih ⊢
      have hne : ¬ nI u = 0 := nI_ne0 u1 (by omega)
      have e10 : (10 : Int32) = nI 10 := rfl
      have e1 : nI u / 10 = nI (u / 10) := by rw [e10]; exact pk_div (by omega) (by decide) (by decide)
      have e2 : 48 + (nI v / nI u - nI v / nI u / 10 * 10) = nI (48 + v / u % 10) := by
        rw [pk_div (by omega) u1 (by omega), e10, pk_rem (by have := Nat.div_le_self v u; omega) (by decide) (by decide), show (48 : Int32) = nI 48 from rfl, nI_add]
      have hlt : v / u % 10 < 10 := Nat.mod_lt _ (by decide)
      refine X_run rfl trivial ?_
      refine X_if_le rfl (fun c => absurd c (nI_nle u1 (by omega))) (fun c => ?_)
      refine X_run rfl ?_ ?_
      · simp [md_s, md_w, rget, r_a, r_b, r_c, r_i, r_l, hne, e2]
      try simp only [md_s, md_w, rget_some, r_a, r_b, r_c, r_i, r_l, r_nx, r_pc, Nat.reduceEqDiff, false_and, if_false, hne, e2]
      refine X_cV (args := [.int (nI (48 + v / u % 10))]) rfl (by decide) hy.1 rfl rfl (Nat.le_of_ble_eq_true rfl) (c_put hY hP1 (by omega) (by omega)) ?_
      rintro _ _ ⟨D2, rfl, rfl, hP2, hO2⟩
      refine X_run rfl ?_ ?_
      · simp [md_s, md_w, rget, r_a, r_b, r_c, r_i, r_l, e1]
      try simp only [md_s, md_w, rget_some, r_a, r_b, r_c, r_i, r_l, r_nx, r_pc, Nat.reduceEqDiff, false_and, if_false, e1]
      exact Eg.sub (ih D2 (P1 ++ [48 + v / u % 10]) hP2 (by simp; omega) (by rw [List.append_assoc]; exact hT) (hO1.tr hO2)) ⟨rfl, rfl, rfl, trivial⟩
  have up : ∀ (j k : Nat), k + j = 5 → 10 ^ k ≤ v → Eg g (d + 1) mX11_putNumber 0 0 (Zr g PP) 2 [(0, .ref Y), (1, .int (nI v)), (2, .int (nI (10 ^ k)))] [] (md S D) := by
    intro j
    induction j with
    | zero =>
      intro k hk hge
      have hk : k = 5 := by omega
      subst hk
      have hne : ¬ nI (10 ^ 5) = 0 := by decide
      have e1 : nI v / nI (10 ^ 5) = nI (v / 10 ^ 5) := pk_div (by omega) (by decide) (by decide)
      refine X_run rfl ?_ ?_
      · simp [md_s, md_w, rget, r_a, r_b, r_c, r_i, r_l, hne, e1]
      try simp only [md_s, md_w, rget_some, r_a, r_b, r_c, r_i, r_l, r_nx, r_pc, Nat.reduceEqDiff, false_and, if_false, hne, e1]
      refine X_icmp_le rfl (fun c => ?_) (fun c => absurd (show nI (v / 10 ^ 5) ≤ nI 9 from (nI_leI (by omega) (by decide)).mpr (by omega)) c)
      exact down 6 D P (Nat.le_refl _) (Or.inr hge) hP (by omega) rfl PapO.rf
    | succ j ih =>
      intro k hk hge
      obtain ⟨u1, u2⟩ := pw_le (k := k) (by omega)
      have hne : ¬ nI (10 ^ k) = 0 := nI_ne0 u1 (by omega)
      have e1 : nI v / nI (10 ^ k) = nI (v / 10 ^ k) := pk_div (by omega) u1 (by omega)
      have e2 : nI (10 ^ k) * 10 = nI (10 ^ (k + 1)) := by
        rw [Nat.pow_succ]
        exact (Int32.ofNat_mul _ 10).symm
      have hd := Nat.div_add_mod v (10 ^ k)
      have hm := Nat.mod_lt v u1
      have ep : 10 ^ (k + 1) = 10 ^ k * 10 := Nat.pow_succ ..
      refine X_run rfl ?_ ?_
      · simp [md_s, md_w, rget, r_a, r_b, r_c, r_i, r_l, hne, e1]
      try simp only [md_s, md_w, rget_some, r_a, r_b, r_c, r_i, r_l, r_nx, r_pc, Nat.reduceEqDiff, false_and, if_false, hne, e1]
      refine X_icmp_le rfl (fun c => ?_) (fun c => ?_)
      · have c : v / 10 ^ k ≤ 9 := (nI_leI (b := 9) (by have := Nat.div_le_self v (10 ^ k); omega) (by decide)).mp c
        have hlt : v < 10 ^ (k + 1) := by
          have : 10 ^ k * (v / 10 ^ k) ≤ 10 ^ k * 9 := Nat.mul_le_mul_left _ c
          omega
        have := down (k + 1) D P (by omega) (Or.inr hge) hP (by omega) (by rw [decs_hi hlt 6 (by omega)]) PapO.rf
        rw [show 10 ^ (k + 1) / 10 = 10 ^ k by rw [ep]; omega] at this
        exact this
      · have c : ¬ v / 10 ^ k ≤ 9 := fun z => c ((nI_leI (b := 9) (by have := Nat.div_le_self v (10 ^ k); omega) (by decide)).mpr z)
        have hge2 : 10 ^ (k + 1) ≤ v := by
          have : 10 ^ k * 10 ≤ 10 ^ k * (v / 10 ^ k) := Nat.mul_le_mul_left _ (by omega)
          omega
        refine X_run rfl ?_ ?_
        · simp [md_s, md_w, rget, r_a, r_b, r_c, r_i, r_l, e2]
        try simp only [md_s, md_w, rget_some, r_a, r_b, r_c, r_i, r_l, r_nx, r_pc, Nat.reduceEqDiff, false_and, if_false, e2]
        exact ih (k + 1) (by omega) hge2
  refine EvM.mk (by decide) (Nat.le_of_ble_eq_true rfl) ?_
  refine X_run rfl trivial ?_
  exact up 5 0 (by omega) hv.1
theorem c_putWord (hY : MoL S Y A A2) : ∀ (w : List Nat) (d : Nat), (∀ b ∈ w, wCh b) → w.length ≤ 8 → PapR D Y P → P.length + w.length ≤ 2160 → EvM g (d + w.length) mX11_putWord 0 0 [.ref Y, .long (c37 w)] (md S D) (fun v M1 => ∃ D1, v = none ∧ M1 = md S D1 ∧ PapR D1 Y (P ++ w) ∧ PapO Y D D1) := by
  obtain ⟨hy, -⟩ := id hY
  intro w
  induction w using snoc_ind with
  | h0 =>
    intro d _ _ hP _
    refine EvM.mk (by decide) (Nat.le_of_ble_eq_true rfl) ?_
    refine X_run rfl trivial ?_
    refine X_if_ne rfl (fun c => absurd rfl c) (fun _ => ?_)
    refine X_run rfl trivial ?_
    exact X_vret rfl rfl ⟨D, rfl, rfl, by rw [List.append_nil]; exact hP, PapO.rf⟩
  | hs w b ih =>
    intro d hw hl8 hP hl
    have hlen : (w ++ [b]).length = w.length + 1 := by simp
    rw [hlen] at hl8 hl ⊢
    have hb := hw b (by simp)
    have hw' : ∀ x ∈ w, wCh x := fun x hx => hw x (by simp [hx])
    obtain ⟨⟨b1, b2⟩, -⟩ := v37_b hb
    have hlt := c37N_lt w hw'
    have hp8 : 37 ^ w.length ≤ 37 ^ 7 := Nat.pow_le_pow_right (by decide) (by omega)
    have h62 : c37N (w ++ [b]) < 2 ^ 62 := by
      rw [c37N_snoc]
      have : (37 : Nat) ^ 7 = 94931877133 := by decide
      omega
    have e1 : c37 (w ++ [b]) / 37 = c37 w := by
      rw [c37_nat _ hw, c37_nat _ hw', lN_div37 h62, c37N_snoc]
      congr 1
      omega
    have e2 : (c37 (w ++ [b]) - c37 (w ++ [b]) / 37 * 37).toInt32 = nI (v37 b) := by
      rw [c37_nat _ hw, lN_rem37 h62, lN_i, c37N_snoc]
      congr 1
      omega
    have ne0 : ¬ c37 (w ++ [b]) = 0 := by
      rw [c37_nat _ hw]
      intro z
      have := congrArg Int64.toInt z
      rw [lN_big h62, c37N_snoc, show ((0 : Int64)).toInt = 0 from rfl] at this
      omega
    refine EvM.mk (by decide) (Nat.le_of_ble_eq_true rfl) ?_
    refine X_run rfl trivial ?_
    refine X_if_ne rfl (fun _ => ?_) (fun c => absurd ((lg_cmp_eq _ _).mp c) ne0)
    rw [← Nat.add_assoc]
    refine X_run rfl ?_ ?_
    · simp [md_s, md_w, rget, r_a, r_b, r_c, r_i, r_l, e1]
    try simp only [md_s, md_w, rget_some, r_a, r_b, r_c, r_i, r_l, r_nx, r_pc, Nat.reduceEqDiff, false_and, if_false, e1]
    refine X_cV (args := [.long (c37 w)]) rfl (by decide) hy.1 rfl rfl (Nat.le_of_ble_eq_true rfl) (ih d hw' (by omega) hP (by omega)) ?_
    rintro _ _ ⟨D2, rfl, rfl, hP2, hO2⟩
    refine X_run rfl ?_ ?_
    · simp [md_s, md_w, rget, r_a, r_b, r_c, r_i, r_l, e2]
    try simp only [md_s, md_w, rget_some, r_a, r_b, r_c, r_i, r_l, r_nx, r_pc, Nat.reduceEqDiff, false_and, if_false, e2]
    have fin : Eg g (d + w.length + 1) mX11_putWord 0 0 (Zr g (fun v M1 => ∃ D1, v = none ∧ M1 = md S D1 ∧ PapR D1 Y (P ++ (w ++ [b])) ∧ PapO Y D D1)) 46 [] [.int (nI b), .ref Y] (md S D2) := by
      refine X_cV (args := [.int (nI b)]) rfl (by decide) hy.1 rfl rfl (Nat.le_of_ble_eq_true rfl) (c_put hY hP2 (by simp; omega) (by unfold wCh at hb; omega)) ?_
      rintro _ _ ⟨D3, rfl, rfl, hP3, hO3⟩
      refine X_run rfl trivial ?_
      exact X_vret rfl rfl ⟨D3, rfl, rfl, by rw [← List.append_assoc]; exact hP3, hO2.tr hO3⟩
    by_cases c : isLet b = true
    · have c' := of_decide_eq_true c
      have ev : v37 b = b - 96 := if_pos c
      refine X_icmp_ge rfl (fun c3 => absurd ((nI_leI (a := 27) (by decide) (by omega)).mp c3) (by omega)) (fun _ => ?_)
      have e3 : (97 : Int32) + nI (v37 b) - 1 = nI b := by
        rw [show (97 : Int32) = nI 97 from rfl, nI_add, show (1 : Int32) = nI 1 from rfl, nI_sub (by omega)]
        congr 1
        omega
      refine X_run rfl ?_ ?_
      · simp [md_s, md_w, rget, r_a, r_b, r_c, r_i, r_l, e3]
      try simp only [md_s, md_w, rget_some, r_a, r_b, r_c, r_i, r_l, r_nx, r_pc, Nat.reduceEqDiff, false_and, if_false, e3]
      exact Eg.sub fin trivial
    · have c' := of_decide_eq_false (Bool.eq_false_iff.mpr c)
      have ev : v37 b = b - 21 := if_neg c
      have hb2 : 48 ≤ b ∧ b ≤ 57 := by rcases hb with h | h; exact absurd h c'; exact h
      refine X_icmp_ge rfl (fun _ => ?_) (fun c3 => absurd (show (27 : Int32) ≤ nI (v37 b) from (nI_leI (a := 27) (by decide) (by omega)).mpr (by omega)) c3)
      have e3 : (48 : Int32) + nI (v37 b) - 27 = nI b := by
        rw [show (48 : Int32) = nI 48 from rfl, nI_add, show (27 : Int32) = nI 27 from rfl, nI_sub (by omega)]
        congr 1
        omega
      refine X_run rfl ?_ ?_
      · simp [md_s, md_w, rget, r_a, r_b, r_c, r_i, r_l, e3]
      try simp only [md_s, md_w, rget_some, r_a, r_b, r_c, r_i, r_l, r_nx, r_pc, Nat.reduceEqDiff, false_and, if_false, e3]
      exact Eg.sub fin trivial
theorem c_MbyteAt {x : Int32} (hY : MoL S Y A A2) (hW : WfK K) (hM : RmR D Y A K T P e) : EvM g (d + 2) mX11_byteAt 0 0 [.ref Y, .int x] (md S D) (RfP S D Y A 0 K T P e [eB] (if inB x P.length = true then .ok (nI (P.getD (iN x) 0)) else .error eB)) := by
  obtain ⟨l1, l2, l3⟩ := hY.lo
  obtain ⟨hy, -, ⟨hL, hL2⟩, -⟩ := id hY
  obtain ⟨hs, ha, hb⟩ := hL.all
  obtain ⟨w1, w2, w3, w4⟩ := id hW
  obtain ⟨D1, e1, z1, y1⟩ := wr_fi D 352 Y 0
  have hM1 : RmR D1 Y A K T P e := e1 ▸ hM.thr (by omega) (by decide)
  have hR1 := hM1.1
  have hO1 : OutR S Y D D1 := e1 ▸ OutR.fi
  have t1 : d_fi D1 352 Y = 0 := by rw [z1, if_pos ⟨rfl, rfl⟩]
  refine EvM.mk (by decide) (Nat.le_of_ble_eq_true rfl) ?_
  refine X_run rfl ?_ ?_
  · simp [md_s, md_w, rget, r_a, r_b, r_c, r_i, r_l, hy, e1]
  try simp only [md_s, md_w, rget_some, r_a, r_b, r_c, r_i, r_l, r_nx, r_pc, Nat.reduceEqDiff, false_and, if_false, hy, e1]
  obtain ⟨p1, p2, p3, p4⟩ := hM1.2.2.1
  have hz := hY.2.1
  refine X_run rfl ?_ ?_
  · simp [md_s, md_w, rget, r_a, r_b, r_c, r_i, r_l, hy, p1]
  try simp only [md_s, md_w, rget_some, r_a, r_b, r_c, r_i, r_l, r_nx, r_pc, Nat.reduceEqDiff, false_and, if_false, hy, p1]
  refine X_cS (args := [.int x, .int 0, .int (nI P.length - 1)]) rfl (by decide) rfl rfl (Nat.le_of_ble_eq_true rfl) c_isIn ?_
  rintro _ _ ⟨rfl, rfl⟩
  rw [if_b2i, show decide (0 ≤ x ∧ x ≤ nI P.length - 1) = inB x P.length from rfl]
  refine X_if_eq rfl (fun c1 => ?_) (fun c1 => ?_)
  · refine X_run rfl trivial ?_
    refine X_cV (args := [.int 1]) rfl (by decide) hy.1 rfl rfl (Nat.le_of_ble_eq_true rfl) (c_no hY) ?_
    rintro _ _ ⟨rfl, rfl⟩
    refine X_run rfl trivial ?_
    exact X_iret rfl rfl (RfP.no hM1 hO1 (by omega) rfl (if_neg (nb2i c1)))
  · have c1 := b2i_nz c1
    obtain ⟨u, hu, rfl⟩ := (inB_iff (by omega)).mp c1
    have x1 := vx (show u < 2400 by omega) (by decide)
    have v := p2 u hu
    refine X_run rfl ?_ ?_
    · simp [md_s, md_w, rget, r_a, r_b, r_c, r_i, r_l, hy, hz, x1, v]
    try simp only [md_s, md_w, rget_some, r_a, r_b, r_c, r_i, r_l, r_nx, r_pc, Nat.reduceEqDiff, false_and, if_false, hy, hz, x1, v]
    exact X_iret rfl rfl (RfP.ok hM1 hO1 t1 (by rw [if_pos c1]))
theorem c_Mtrim {x : Int32} (hY : MoL S Y A A2) (hW : WfK K) (hM : RmR D Y A K T P e) : EvM g (d + 2) mX11_trim 0 0 [.ref Y, .int x] (md S D) (RfP S D Y A 0 K (if inB x (T.length + 1) = true then T.take (iN x) else T) P e [eA] (if inB x (T.length + 1) = true then .ok x else .error eA)) := by
  obtain ⟨l1, l2, l3⟩ := hY.lo
  obtain ⟨hy, -, ⟨hL, hL2⟩, -⟩ := id hY
  obtain ⟨hs, ha, hb⟩ := hL.all
  obtain ⟨w1, w2, w3, w4⟩ := id hW
  obtain ⟨D1, e1, z1, y1⟩ := wr_fi D 352 Y 0
  have hM1 : RmR D1 Y A K T P e := e1 ▸ hM.thr (by omega) (by decide)
  have hR1 := hM1.1
  have hO1 : OutR S Y D D1 := e1 ▸ OutR.fi
  have t1 : d_fi D1 352 Y = 0 := by rw [z1, if_pos ⟨rfl, rfl⟩]
  refine EvM.mk (by decide) (Nat.le_of_ble_eq_true rfl) ?_
  refine X_run rfl ?_ ?_
  · simp [md_s, md_w, rget, r_a, r_b, r_c, r_i, r_l, hy, e1]
  try simp only [md_s, md_w, rget_some, r_a, r_b, r_c, r_i, r_l, r_nx, r_pc, Nat.reduceEqDiff, false_and, if_false, hy, e1]
  obtain ⟨q1, q2, q3, q4⟩ := hM1.2.1
  refine X_run rfl ?_ ?_
  · simp [md_s, md_w, rget, r_a, r_b, r_c, r_i, r_l, hy, q1]
  try simp only [md_s, md_w, rget_some, r_a, r_b, r_c, r_i, r_l, r_nx, r_pc, Nat.reduceEqDiff, false_and, if_false, hy, q1]
  refine X_cS (args := [.int x, .int 0, .int (nI T.length)]) rfl (by decide) rfl rfl (Nat.le_of_ble_eq_true rfl) c_isIn ?_
  rintro _ _ ⟨rfl, rfl⟩
  have ein : decide (0 ≤ x ∧ x ≤ nI T.length) = inB x (T.length + 1) := by unfold inB; rw [nI_pred]
  rw [if_b2i, ein]
  refine X_if_ne rfl (fun c1 => ?_) (fun c1 => ?_)
  · have c1 := b2i_nz c1
    rw [if_pos c1, if_pos c1]
    obtain ⟨u, hu, rfl⟩ := (inB_iff (by omega)).mp c1
    obtain ⟨D2, e2, z2, y2⟩ := wr_fi D1 354 Y (nI u)
    have hM2 : RmR D2 Y A K (T.take (iN (nI u))) P e := by
      obtain ⟨r1, r2, r3, r4, r5⟩ := hM1
      have hl : (T.take u).length = u := by rw [List.length_take]; omega
      refine ⟨r1.out (e2 ▸ Out.fi (lo := Y) (hi := Y + 1) (by omega)) (by omega), ?_, ⟨by rw [z2, if_neg (by omega)]; exact r3.1, by rw [y2.2.1]; exact r3.2.1, r3.2.2⟩, by unfold KwR; rw [y2.2.2]; exact r4, by rw [z2, if_neg (by omega)]; exact r5⟩
      rw [iN_nI (by omega)]
      refine ⟨by rw [z2, if_pos ⟨rfl, rfl⟩, hl], fun i hi => ?_, by omega, fun b hb => q4 b (List.mem_of_mem_take hb)⟩
      rw [hl] at hi
      rw [y2.2.1, q2 i (by omega), List.getD_eq_getElem?_getD, List.getD_eq_getElem?_getD, List.getElem?_take, if_pos hi]
    refine X_run rfl ?_ ?_
    · simp [md_s, md_w, rget, r_a, r_b, r_c, r_i, r_l, hy, e2]
    try simp only [md_s, md_w, rget_some, r_a, r_b, r_c, r_i, r_l, r_nx, r_pc, Nat.reduceEqDiff, false_and, if_false, hy, e2]
    exact X_iret rfl rfl (RfP.ok hM2 (hO1.tr (e2 ▸ OutR.fi)) (by rw [z2, if_neg (by omega)]; exact t1) rfl)
  · rw [if_neg (nb2i c1), if_neg (nb2i c1)]
    refine X_run rfl trivial ?_
    refine X_cV (args := [.int 1]) rfl (by decide) hy.1 rfl rfl (Nat.le_of_ble_eq_true rfl) (c_no hY) ?_
    rintro _ _ ⟨rfl, rfl⟩
    refine X_run rfl trivial ?_
    exact X_iret rfl rfl (RfP.no hM1 hO1 (by omega) rfl (rfl))
end REFPAP
