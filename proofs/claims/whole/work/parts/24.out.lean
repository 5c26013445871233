/-! leaving out, as numbers -/
abbrev RuT := (Nat → Bool) × (Nat → Nat → Int32)
def price (K : KT) (n : Nat) : Int64 := (k_am K n).toInt64 * (k_rt K (k_mo K n)).toInt64
def dear (K : KT) (tk : Nat → Bool) (p : Nat) : Nat → Option Nat × Int64 → Option Nat × Int64 := fun n s => if tk n = true ∧ k_fr K n = p ∧ s.2 ≤ price K n then (some n, price K n) else s
def dearO (K : KT) (tk : Nat → Bool) (o : Option Nat) : Option Nat := match o with | none => none | some p => (iter (dear K tk p) (k_ny K) (none, 0)).1
def leave1 (K : KT) (r : RuT) (n : Nat) : RuT := (fun n' => if n' = n then false else r.1 n', mvN K r.2 n (-(k_am K n)))
def leaves (K : KT) (r : RuT) : Option RuT := match dearO K r.1 (firstIx (k_np K) (short K r.2)) with
  | none => none
  | some n => match k_pr K n with
    | none => some (leave1 K r n)
    | some q => if (leave1 K r n).1 q = true then some (leave1 K (leave1 K r n) q) else some (leave1 K r n)
def outs (K : KT) : Nat → RuT → RuT
  | 0, r => r
  | k + 1, r => match leaves K r with | none => r | some r1 => outs K k r1
def ref0 (B : Nat) : Option Nat → Value
  | none => .null
  | some n => .ref (ya B n)
theorem short_eq {K : KT} {nt nt' : Nat → Nat → Int32} {p : Nat} (h : nt p = nt' p) : short K nt p = short K nt' p := by unfold short; rw [h]
theorem mvN_o {K : KT} {nt : Nat → Nat → Int32} {n p : Nat} {x : Int32} (h1 : p ≠ k_fr K n) (h2 : p ≠ k_to K n) : mvN K nt n x p = nt p := by
  funext m
  unfold mvN up2n
  rw [if_neg (fun z => h2 z.1), if_neg (fun z => h1 z.1)]
theorem dearO_lt {K : KT} {tk : Nat → Bool} {o : Option Nat} {n : Nat} (h : dearO K tk o = some n) : n < k_ny K := by
  cases o with
  | none => exact absurd h (by simp [dearO])
  | some p =>
    have key : ∀ i, i ≤ k_ny K → ∀ n, (iter (dear K tk p) i (none, 0)).1 = some n → n < k_ny K := by
      intro i
      induction i with
      | zero => intro _ n h; exact absurd h (by simp [iter])
      | succ i ih =>
        intro hi n h
        simp only [iter] at h
        unfold dear at h
        split at h
        · cases h; omega
        · exact ih (by omega) n h
    exact key _ (Nat.le_refl _) n h
theorem firstIx_lt {n i : Nat} {c : Nat → Bool} (h : firstIx n c = some i) : i < n := by
  unfold firstIx at h
  rw [List.find?_range_eq_some] at h
  simpa using h.2.1
theorem nI_inj {a b : Nat} (ha : a < 2 ^ 31) (hb : b < 2 ^ 31) (h : nI a = nI b) : a = b := by
  have h1 := nI_toInt ha
  have h2 := nI_toInt hb
  rw [h] at h1
  omega
section OUTA
variable {g : GG} {d : Nat} {S : ShT} {D : DaT} {B N : Nat} {K : KT}
theorem c_firstShort {sh : Nat → Bool} (hN : NtL S N B) (hL : BkL S B) (hW : WfK K) (hR : RepC D B K) (hS : ScS D B sh (k_np K)) : EvM g (d + 1) mX3_firstShort 0 0 [.ref N] (md S D) (fun v M1 => M1 = md S D ∧ v = some (.int (pE (firstIx (k_np K) sh)))) := by
  have hb := hL.1
  have hn0 := hN
  unfold NtL at hn0
  obtain ⟨w1, w2, w3, -⟩ := hW
  have hc := hR.1
  refine EvM.mk (by decide) (Nat.le_of_ble_eq_true rfl) ?_
  refine X_run rfl trivial ?_
  refine Eg_find (E := fun i => Eg g (d + 1) mX3_firstShort 0 0 (Zr g _) 2 [(0, .ref N), (1, .int (nI i))] [] (md S D)) (c := sh) (k_np K) (fun i hi hf hs => ?_) (fun i hi hs k => ?_) (fun hf => ?_)
  · have hi2 : i < 10 := by omega
    have hy := (hL.2.1 i hi2).1
    have hv := hS i hi
    refine X_run rfl ?_ ?_
    · simp [md_s, md_w, rget, r_a, r_b, r_c, r_i, r_l, hn0, hb, hc]
    try simp only [md_s, md_w, rget_some, r_a, r_b, r_c, r_i, r_l, r_nx, r_pc, Nat.reduceEqDiff, false_and, if_false, hn0, hb, hc]
    refine X_icmp_ge rfl (fun c1 => no_le c1 hi (by omega)) (fun c1 => ?_)
    refine X_run rfl ?_ ?_
    · simp [md_s, md_w, rget, r_a, r_b, r_c, r_i, r_l, hn0, hb]
    try simp only [md_s, md_w, rget_some, r_a, r_b, r_c, r_i, r_l, r_nx, r_pc, Nat.reduceEqDiff, false_and, if_false, hn0, hb]
    refine X_cV rfl (by decide) hb.1 rfl rfl (Nat.le_of_ble_eq_true rfl) (c_partyAt hL hi2) ?_
    rintro _ _ ⟨rfl, rfl⟩
    refine X_run rfl ?_ ?_
    · simp [md_s, md_w, rget, r_a, r_b, r_c, r_i, r_l, hy, hv, hs]
    try simp only [md_s, md_w, rget_some, r_a, r_b, r_c, r_i, r_l, r_nx, r_pc, Nat.reduceEqDiff, false_and, if_false, hy, hv, hs]
    refine X_if_eq rfl (fun c2 => absurd c2 (by decide)) (fun c2 => ?_)
    refine X_run rfl trivial ?_
    refine X_iret rfl rfl ⟨rfl, ?_⟩
    rw [hf]
    rfl
  · have hi2 : i < 10 := by omega
    have hy := (hL.2.1 i hi2).1
    have hv := hS i hi
    refine X_run rfl ?_ ?_
    · simp [md_s, md_w, rget, r_a, r_b, r_c, r_i, r_l, hn0, hb, hc]
    try simp only [md_s, md_w, rget_some, r_a, r_b, r_c, r_i, r_l, r_nx, r_pc, Nat.reduceEqDiff, false_and, if_false, hn0, hb, hc]
    refine X_icmp_ge rfl (fun c1 => no_le c1 hi (by omega)) (fun c1 => ?_)
    refine X_run rfl ?_ ?_
    · simp [md_s, md_w, rget, r_a, r_b, r_c, r_i, r_l, hn0, hb]
    try simp only [md_s, md_w, rget_some, r_a, r_b, r_c, r_i, r_l, r_nx, r_pc, Nat.reduceEqDiff, false_and, if_false, hn0, hb]
    refine X_cV rfl (by decide) hb.1 rfl rfl (Nat.le_of_ble_eq_true rfl) (c_partyAt hL hi2) ?_
    rintro _ _ ⟨rfl, rfl⟩
    refine X_run rfl ?_ ?_
    · simp [md_s, md_w, rget, r_a, r_b, r_c, r_i, r_l, hy, hv, hs]
    try simp only [md_s, md_w, rget_some, r_a, r_b, r_c, r_i, r_l, r_nx, r_pc, Nat.reduceEqDiff, false_and, if_false, hy, hv, hs]
    refine X_if_eq rfl (fun c2 => ?_) (fun c2 => absurd rfl c2)
    refine X_run rfl ?_ ?_
    · simp [md_s, md_w, rget, r_a, r_b, r_c, r_i, r_l, nI_s1]
    try simp only [md_s, md_w, rget_some, r_a, r_b, r_c, r_i, r_l, r_nx, r_pc, Nat.reduceEqDiff, false_and, if_false, nI_s1]
    exact k
  · refine X_run rfl ?_ ?_
    · simp [md_s, md_w, rget, r_a, r_b, r_c, r_i, r_l, hn0, hb, hc]
    try simp only [md_s, md_w, rget_some, r_a, r_b, r_c, r_i, r_l, r_nx, r_pc, Nat.reduceEqDiff, false_and, if_false, hn0, hb, hc]
    refine X_icmp_ge rfl (fun c1 => ?_) (fun c1 => no_nle c1 (Nat.le_refl _) (by omega))
    refine X_run rfl trivial ?_
    refine X_iret rfl rfl ⟨rfl, ?_⟩
    rw [hf]
    rfl
theorem c_dearest {tk : Nat → Bool} {o : Option Nat} (hN : NtL S N B) (hL : BkL S B) (hW : WfK K) (hR : RepC D B K) (hT : ScT D B tk (k_ny K)) (ho : ∀ p, o = some p → p < k_np K) : EvM g (d + 1) mX3_dearestOf 0 0 [.ref N, .int (pE o)] (md S D) (fun v M1 => M1 = md S D ∧ v = some (ref0 B (dearO K tk o))) := by
  have hb := hL.1
  have hn0 := hN
  unfold NtL at hn0
  obtain ⟨w1, w2, w3, w4⟩ := hW
  have hc := hR.1
  refine EvM.mk (by decide) (Nat.le_of_ble_eq_true rfl) ?_
  cases o with
  | none =>
    refine X_run rfl ?_ ?_
    · simp [md_s, md_w, rget, r_a, r_b, r_c, r_i, r_l, hn0, hb, hc]
    try simp only [md_s, md_w, rget_some, r_a, r_b, r_c, r_i, r_l, r_nx, r_pc, Nat.reduceEqDiff, false_and, if_false, hn0, hb, hc]
    have out : Eg g (d + 1) mX3_dearestOf 0 0 (Zr g (fun v M1 => M1 = md S D ∧ v = some (ref0 B (dearO K tk none)))) 96 [(2, .null)] [] (md S D) := by
      refine X_run rfl trivial ?_
      exact X_aret rfl rfl (Or.inl rfl) ⟨rfl, rfl⟩
    refine X_run rfl ?_ ?_
    · simp [md_s, md_w, rget, r_a, r_b, r_c, r_i, r_l, hn0, hb, hc]
    try simp only [md_s, md_w, rget_some, r_a, r_b, r_c, r_i, r_l, r_nx, r_pc, Nat.reduceEqDiff, false_and, if_false, hn0, hb, hc]
    refine X_icmp_ge rfl (fun c1 => Eg.sub out ⟨rfl, trivial⟩) (fun c1 => ?_)
    refine X_run rfl trivial ?_
    refine X_icmp_eq rfl (fun c1 => Eg.sub out ⟨rfl, trivial⟩) (fun c1 => absurd rfl c1)
  | some p =>
    have hp := ho p rfl
    refine X_run rfl trivial ?_
    refine Eg_iter (fun i (s : Option Nat × Int64) => Eg g (d + 1) mX3_dearestOf 0 0 (Zr g (fun v M1 => M1 = md S D ∧ v = some (ref0 B (dearO K tk (some p))))) 7 [(0, .ref N), (1, .int (nI p)), (2, ref0 B s.1), (3, .long s.2), (5, .int (nI i))] [] (md S D)) (dear K tk p) (k_ny K) (none, 0) (fun i hi k => ?_) ?_
    · have hi2 : i < 60 := by omega
      have hy := hL.2.2.2 i hi2
      have hv := hR.2.2.2 i hi
      obtain ⟨w5, w6, w7, -⟩ := w4 i hi
      have hm := hL.2.2.1 (k_mo K i) (by omega)
      have hmv := hR.2.2.1 (k_mo K i) w7
      have ht := hT i hi
      generalize iter (dear K tk p) i (none, 0) = s at k ⊢
      refine X_run rfl ?_ ?_
      · simp [md_s, md_w, rget, r_a, r_b, r_c, r_i, r_l, hn0, hb, hc]
      try simp only [md_s, md_w, rget_some, r_a, r_b, r_c, r_i, r_l, r_nx, r_pc, Nat.reduceEqDiff, false_and, if_false, hn0, hb, hc]
      refine X_icmp_ge rfl (fun c1 => no_le c1 hi (by omega)) (fun c1 => ?_)
      refine X_run rfl trivial ?_
      refine X_icmp_eq rfl (fun c1 => absurd ((pE_neg (o := some p) (fun q hq => by cases hq; omega)).mp c1) (by simp)) (fun c1 => ?_)
      refine X_run rfl ?_ ?_
      · simp [md_s, md_w, rget, r_a, r_b, r_c, r_i, r_l, hn0, hb]
      try simp only [md_s, md_w, rget_some, r_a, r_b, r_c, r_i, r_l, r_nx, r_pc, Nat.reduceEqDiff, false_and, if_false, hn0, hb]
      refine X_cV rfl (by decide) hb.1 rfl rfl (Nat.le_of_ble_eq_true rfl) (c_paymentAt hL hi2) ?_
      rintro _ _ ⟨rfl, rfl⟩
      refine X_run rfl ?_ ?_
      · simp [md_s, md_w, rget, r_a, r_b, r_c, r_i, r_l, hy, ht]
      try simp only [md_s, md_w, rget_some, r_a, r_b, r_c, r_i, r_l, r_nx, r_pc, Nat.reduceEqDiff, false_and, if_false, hy, ht]
      refine X_if_eq rfl (fun c2 => ?_) (fun c2 => ?_)
      · refine X_run rfl ?_ ?_
        · simp [md_s, md_w, rget, r_a, r_b, r_c, r_i, r_l, nI_s1]
        try simp only [md_s, md_w, rget_some, r_a, r_b, r_c, r_i, r_l, r_nx, r_pc, Nat.reduceEqDiff, false_and, if_false, nI_s1]
        rw [show dear K tk p i s = s by simp [dear, b2i_zero.mp c2]] at k
        exact Eg.sub k ⟨rfl, rfl, rfl, rfl, rfl, trivial⟩
      have c2 := b2i_nz c2
      refine X_run rfl ?_ ?_
      · simp [md_s, md_w, rget, r_a, r_b, r_c, r_i, r_l, hy, hv]
      try simp only [md_s, md_w, rget_some, r_a, r_b, r_c, r_i, r_l, r_nx, r_pc, Nat.reduceEqDiff, false_and, if_false, hy, hv]
      refine X_icmp_ne rfl (fun c3 => ?_) (fun c3 => ?_)
      · refine X_run rfl ?_ ?_
        · simp [md_s, md_w, rget, r_a, r_b, r_c, r_i, r_l, nI_s1]
        try simp only [md_s, md_w, rget_some, r_a, r_b, r_c, r_i, r_l, r_nx, r_pc, Nat.reduceEqDiff, false_and, if_false, nI_s1]
        rw [show dear K tk p i s = s by unfold dear; rw [if_neg (fun z => c3 (by rw [z.2.1]))]] at k
        exact Eg.sub k ⟨rfl, rfl, rfl, rfl, rfl, trivial⟩
      have c3 : k_fr K i = p := nI_inj (by omega) (by omega) c3
      refine X_run rfl ?_ ?_
      · simp [md_s, md_w, rget, r_a, r_b, r_c, r_i, r_l, hn0, hb, hy, hv]
      try simp only [md_s, md_w, rget_some, r_a, r_b, r_c, r_i, r_l, r_nx, r_pc, Nat.reduceEqDiff, false_and, if_false, hn0, hb, hy, hv]
      refine X_cV rfl (by decide) hb.1 rfl rfl (Nat.le_of_ble_eq_true rfl) (c_moneyAt hL (show k_mo K i < 5 by omega)) ?_
      rintro _ _ ⟨rfl, rfl⟩
      refine X_run rfl ?_ ?_
      · simp [md_s, md_w, rget, r_a, r_b, r_c, r_i, r_l, hm, hmv]
      try simp only [md_s, md_w, rget_some, r_a, r_b, r_c, r_i, r_l, r_nx, r_pc, Nat.reduceEqDiff, false_and, if_false, hm, hmv]
      refine X_if_lt rfl (fun c4 => ?_) (fun c4 => ?_)
      · refine X_run rfl ?_ ?_
        · simp [md_s, md_w, rget, r_a, r_b, r_c, r_i, r_l, nI_s1]
        try simp only [md_s, md_w, rget_some, r_a, r_b, r_c, r_i, r_l, r_nx, r_pc, Nat.reduceEqDiff, false_and, if_false, nI_s1]
        rw [show dear K tk p i s = s by unfold dear; rw [if_neg (fun z => absurd z.2.2 (Int64.not_le.mpr ((lg_cmp_lt _ _).mp c4)))]] at k
        exact Eg.sub k ⟨rfl, rfl, rfl, rfl, rfl, trivial⟩
      · rw [show dear K tk p i s = (some i, price K i) by unfold dear; rw [if_pos ⟨c2, c3, Int64.not_lt.mp (fun z => c4 ((lg_cmp_lt _ _).mpr z))⟩]] at k
        rcases s with ⟨_ | q, sm⟩
        · refine X_run rfl ?_ ?_
          · simp [md_s, md_w, rget, r_a, r_b, r_c, r_i, r_l, nI_s1]
          try simp only [md_s, md_w, rget_some, r_a, r_b, r_c, r_i, r_l, r_nx, r_pc, Nat.reduceEqDiff, false_and, if_false, nI_s1]
          exact Eg.sub k ⟨rfl, rfl, rfl, rfl, rfl, trivial⟩
        · refine X_run rfl ?_ ?_
          · simp [md_s, md_w, rget, r_a, r_b, r_c, r_i, r_l, nI_s1]
          try simp only [md_s, md_w, rget_some, r_a, r_b, r_c, r_i, r_l, r_nx, r_pc, Nat.reduceEqDiff, false_and, if_false, nI_s1]
          exact Eg.sub k ⟨rfl, rfl, rfl, rfl, rfl, trivial⟩
    · show Eg g (d + 1) mX3_dearestOf 0 0 _ 7 [(0, .ref N), (1, .int (nI p)), (2, ref0 B (dearO K tk (some p))), (3, .long _), (5, .int (nI (k_ny K)))] [] (md S D)
      refine X_run rfl ?_ ?_
      · simp [md_s, md_w, rget, r_a, r_b, r_c, r_i, r_l, hn0, hb, hc]
      try simp only [md_s, md_w, rget_some, r_a, r_b, r_c, r_i, r_l, r_nx, r_pc, Nat.reduceEqDiff, false_and, if_false, hn0, hb, hc]
      refine X_icmp_ge rfl (fun c1 => ?_) (fun c1 => no_nle c1 (Nat.le_refl _) (by omega))
      cases hz : dearO K tk (some p) with
      | none =>
        refine X_run rfl trivial ?_
        exact X_aret rfl rfl (Or.inl rfl) ⟨rfl, rfl⟩
      | some n =>
        refine X_run rfl trivial ?_
        exact X_aret rfl rfl (Or.inr ⟨_, rfl⟩) ⟨rfl, rfl⟩
theorem c_leaveOut {n : Nat} {r : RuT} (hN : NtL S N B) (hL : BkL S B) (hW : WfK K) (hR : RepC D B K) (hn : n < k_ny K) (hU : Run D B K r.1 r.2) : EvM g (d + 3) mX3_leaveOut 0 0 [.ref N, .ref (ya B n)] (md S D) (fun v M1 => ∃ D1, v = none ∧ M1 = md S D1 ∧ RepC D1 B K ∧ Run D1 B K (leave1 K r n).1 (leave1 K r n).2 ∧ Out B (B + 139) D D1) := by
  have hb := hL.1
  have hn0 := hN
  unfold NtL at hn0
  have hW' := hW
  obtain ⟨w1, w2, w3, w4⟩ := hW
  obtain ⟨w5, w6, w7, -⟩ := w4 n hn
  have hy := hL.2.2.2 n (by omega)
  obtain ⟨hT, hS, hSL, hSS⟩ := hU
  obtain ⟨D1, e1, z1, y1⟩ := wr_fi D 169 (ya B n) 0
  have hR1 : RepC D1 B K := e1 ▸ hR.s169
  have hv1 := hR1.2.2.2 n hn
  have hT1 : ScT D1 B (leave1 K r n).1 (k_ny K) := by
    intro n' hn'
    rw [z1]
    show _ = b2i (if n' = n then false else r.1 n')
    simp only [true_and, ya_inj]
    by_cases hz : n' = n
    · rw [if_pos hz, if_pos hz]; rfl
    · rw [if_neg hz, if_neg hz]; exact hT n' hn'
  have hO1 : Out B (B + 139) D D1 := e1 ▸ Out.fi (by unfold ya; omega)
  refine EvM.mk (by decide) (Nat.le_of_ble_eq_true rfl) ?_
  refine X_run rfl ?_ ?_
  · simp [md_s, md_w, rget, r_a, r_b, r_c, r_i, r_l, hy, e1, hv1]
  try simp only [md_s, md_w, rget_some, r_a, r_b, r_c, r_i, r_l, r_nx, r_pc, Nat.reduceEqDiff, false_and, if_false, hy, e1, hv1]
  refine X_cV (args := [.ref (ya B n), .int (-(k_am K n))]) rfl (by decide) hn0.1 rfl rfl (Nat.le_of_ble_eq_true rfl) (c_moveNetted hN hL hW' hR1 hn (hS.fi y1.2.1)) ?_
  rintro _ _ ⟨D2, rfl, rfl, hR2, hS2, hfi, hfl, hO2⟩
  have hv2 := hR2.2.2.2 n hn
  have hSL2 : ScL D2 B K (k_np K) := (hSL.fl y1.1).fl hfl
  refine X_run rfl ?_ ?_
  · simp [md_s, md_w, rget, r_a, r_b, r_c, r_i, r_l, hn0, hb, hy, hv2]
  try simp only [md_s, md_w, rget_some, r_a, r_b, r_c, r_i, r_l, r_nx, r_pc, Nat.reduceEqDiff, false_and, if_false, hn0, hb, hy, hv2]
  refine X_cV (args := [.int (nI (k_fr K n))]) rfl (by decide) hb.1 rfl rfl (Nat.le_of_ble_eq_true rfl) (c_partyAt hL (show k_fr K n < 10 by omega)) ?_
  rintro _ _ ⟨rfl, rfl⟩
  refine X_cV (args := [.ref (pa B (k_fr K n))]) rfl (by decide) hn0.1 rfl rfl (Nat.le_of_ble_eq_true rfl) (c_lookShort hN hL hW' hR2 w5 hS2 hSL2) ?_
  rintro _ _ ⟨rfl, rfl⟩
  obtain ⟨D3, e3, z3, y3⟩ := wr_fi D2 136 (pa B (k_fr K n)) (b2i (short K (mvN K r.2 n (-(k_am K n))) (k_fr K n)))
  rw [e3]
  have hR3 : RepC D3 B K := e3 ▸ hR2.s136
  have hv3 := hR3.2.2.2 n hn
  refine X_run rfl ?_ ?_
  · simp [md_s, md_w, rget, r_a, r_b, r_c, r_i, r_l, hn0, hb, hy, hv3]
  try simp only [md_s, md_w, rget_some, r_a, r_b, r_c, r_i, r_l, r_nx, r_pc, Nat.reduceEqDiff, false_and, if_false, hn0, hb, hy, hv3]
  refine X_cV (args := [.int (nI (k_to K n))]) rfl (by decide) hb.1 rfl rfl (Nat.le_of_ble_eq_true rfl) (c_partyAt hL (show k_to K n < 10 by omega)) ?_
  rintro _ _ ⟨rfl, rfl⟩
  refine X_cV (args := [.ref (pa B (k_to K n))]) rfl (by decide) hn0.1 rfl rfl (Nat.le_of_ble_eq_true rfl) (c_lookShort hN hL hW' hR3 w6 (hS2.fi y3.2.1) (hSL2.fl y3.1)) ?_
  rintro _ _ ⟨rfl, rfl⟩
  obtain ⟨D4, e4, z4, y4⟩ := wr_fi D3 136 (pa B (k_to K n)) (b2i (short K (mvN K r.2 n (-(k_am K n))) (k_to K n)))
  rw [e4]
  refine X_run rfl trivial ?_
  refine X_vret rfl rfl ⟨_, rfl, rfl, e4 ▸ hR3.s136, ⟨?_, (hS2.fi y3.2.1).fi y4.2.1, (hSL2.fl y3.1).fl y4.1, ?_⟩, ((hO1.tr hO2).tr (e3 ▸ Out.fi (by unfold pa; omega))).tr (e4 ▸ Out.fi (by unfold pa; omega))⟩
  · exact ((hT1.fi (fun a => by rw [hfi])).fi (fun a => by rw [z3, if_neg (by omega)])).fi (fun a => by rw [z4, if_neg (by omega)])
  · intro p hp
    show _ = b2i (short K (mvN K r.2 n (-(k_am K n))) p)
    rw [z4, z3]
    simp only [true_and, pa_inj]
    by_cases hz1 : p = k_to K n
    · rw [if_pos hz1, hz1]
    · rw [if_neg hz1]
      by_cases hz2 : p = k_fr K n
      · rw [if_pos hz2, hz2]
      · rw [if_neg hz2, hfi, z1, if_neg (by omega), short_eq (mvN_o hz2 hz1)]
        exact hSS p hp
theorem c_leavesOne {r : RuT} (hN : NtL S N B) (hL : BkL S B) (hW : WfK K) (hR : RepC D B K) (hU : Run D B K r.1 r.2) : EvM g (d + 4) mX3_leavesOneOut 0 0 [.ref N] (md S D) (fun v M1 => ∃ D1, v = some (.int (b2i (leaves K r).isSome)) ∧ M1 = md S D1 ∧ RepC D1 B K ∧ Run D1 B K ((leaves K r).getD r).1 ((leaves K r).getD r).2 ∧ Out B (B + 139) D D1) := by
  have hb := hL.1
  have hn0 := hN
  unfold NtL at hn0
  have hW' := hW
  obtain ⟨w1, w2, w3, w4⟩ := hW
  refine EvM.mk (by decide) (Nat.le_of_ble_eq_true rfl) ?_
  refine X_run rfl trivial ?_
  refine X_cV (args := []) rfl (by decide) hn0.1 rfl rfl (Nat.le_of_ble_eq_true rfl) (c_firstShort hN hL hW' hR hU.2.2.2) ?_
  rintro _ _ ⟨rfl, rfl⟩
  refine X_cV (args := [.int (pE (firstIx (k_np K) (short K r.2)))]) rfl (by decide) hn0.1 rfl rfl (Nat.le_of_ble_eq_true rfl) (c_dearest hN hL hW' hR hU.1 (fun p hp => firstIx_lt hp)) ?_
  rintro _ _ ⟨rfl, rfl⟩
  cases hz : dearO K r.1 (firstIx (k_np K) (short K r.2)) with
  | none =>
    have hl : leaves K r = none := by unfold leaves; rw [hz]
    refine X_run rfl trivial ?_
    refine X_ifnonnullN rfl ?_
    refine X_run rfl trivial ?_
    refine X_zret rfl rfl (Or.inl rfl) ⟨_, ?_, rfl, hR, ?_, Out.rf⟩
    · rw [hl]; rfl
    · rw [hl]; exact hU
  | some n =>
    have hn := dearO_lt hz
    refine X_run rfl trivial ?_
    refine X_ifnonnull rfl ?_
    refine X_run rfl trivial ?_
    refine X_cV (args := [.ref (ya B n)]) rfl (by decide) hn0.1 rfl rfl (Nat.le_of_ble_eq_true rfl) (c_leaveOut hN hL hW' hR hn hU) ?_
    rintro _ _ ⟨D1, rfl, rfl, hR1, hU1, hO1⟩
    refine X_run rfl ?_ ?_
    · simp [md_s, md_w, rget, r_a, r_b, r_c, r_i, r_l, hn0]
    try simp only [md_s, md_w, rget_some, r_a, r_b, r_c, r_i, r_l, r_nx, r_pc, Nat.reduceEqDiff, false_and, if_false, hn0]
    refine X_cV (args := [.ref (ya B n)]) rfl (by decide) hb.1 rfl rfl (Nat.le_of_ble_eq_true rfl) (c_partnerOf hL hW' hR1 hn) ?_
    rintro _ _ ⟨rfl, rfl⟩
    cases hp : k_pr K n with
    | none =>
      have hl : leaves K r = some (leave1 K r n) := by unfold leaves; rw [hz]; simp only [hp]
      refine X_run rfl trivial ?_
      refine X_ifnullN rfl ?_
      refine X_run rfl trivial ?_
      refine X_zret rfl rfl (Or.inr rfl) ⟨_, ?_, rfl, hR1, ?_, hO1⟩
      · rw [hl]; rfl
      · rw [hl]; exact hU1
    | some q =>
      have hq := (w4 n hn).2.2.2 q hp
      have hy := hL.2.2.2 q (by omega)
      have ht := hU1.1 q hq
      refine X_run rfl trivial ?_
      refine X_ifnull rfl ?_
      refine X_run rfl ?_ ?_
      · simp [md_s, md_w, rget, r_a, r_b, r_c, r_i, r_l, hy, ht]
      try simp only [md_s, md_w, rget_some, r_a, r_b, r_c, r_i, r_l, r_nx, r_pc, Nat.reduceEqDiff, false_and, if_false, hy, ht]
      refine X_if_eq rfl (fun c2 => ?_) (fun c2 => ?_)
      · have hl : leaves K r = some (leave1 K r n) := by unfold leaves; rw [hz]; simp only [hp]; rw [if_neg (by rw [b2i_zero.mp c2]; decide)]
        refine X_run rfl trivial ?_
        refine X_zret rfl rfl (Or.inr rfl) ⟨_, ?_, rfl, hR1, ?_, hO1⟩
        · rw [hl]; rfl
        · rw [hl]; exact hU1
      · have hl : leaves K r = some (leave1 K (leave1 K r n) q) := by unfold leaves; rw [hz]; simp only [hp]; rw [if_pos (b2i_nz c2)]
        refine X_run rfl trivial ?_
        refine X_cV (args := [.ref (ya B q)]) rfl (by decide) hn0.1 rfl rfl (Nat.le_of_ble_eq_true rfl) (c_leaveOut hN hL hW' hR1 hq hU1) ?_
        rintro _ _ ⟨D2, rfl, rfl, hR2, hU2, hO2⟩
        refine X_run rfl trivial ?_
        refine X_zret rfl rfl (Or.inr rfl) ⟨_, ?_, rfl, hR2, ?_, hO1.tr hO2⟩
        · rw [hl]; rfl
        · rw [hl]; exact hU2
end OUTA
