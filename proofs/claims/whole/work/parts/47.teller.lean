/-! the teller -/
def Same (D D1 : DaT) (a : Nat) : Prop := (∀ k, d_fi D1 k a = d_fi D k a) ∧ (∀ k, d_fl D1 k a = d_fl D k a) ∧ d_ai D1 a = d_ai D a ∧ d_al D1 a = d_al D a
def OutT (U B : Nat) (D D1 : DaT) : Prop := ∀ a, a ≠ U → (a < B ∨ B + 139 ≤ a) → Same D D1 a
theorem Same.tr {D D1 D2 : DaT} {a : Nat} (h : Same D D1 a) (h2 : Same D1 D2 a) : Same D D2 a := ⟨fun k => (h2.1 k).trans (h.1 k), fun k => (h2.2.1 k).trans (h.2.1 k), h2.2.2.1.trans h.2.2.1, h2.2.2.2.trans h.2.2.2⟩
theorem OutT.rf {U B : Nat} {D : DaT} : OutT U B D D := fun _ _ _ => ⟨fun _ => rfl, fun _ => rfl, rfl, rfl⟩
theorem OutT.tr {U B : Nat} {D D1 D2 : DaT} (h : OutT U B D D1) (h2 : OutT U B D1 D2) : OutT U B D D2 := fun a h3 h4 => (h a h3 h4).tr (h2 a h3 h4)
theorem OutT.u {U B k : Nat} {D : DaT} {v : Int32} : OutT U B D (pfi D k U v) := fun a h3 _ => ⟨fun k' => by rw [rd_fi, if_neg (fun z => h3 z.2)], fun _ => rfl, rfl, rfl⟩
theorem OutT.b {U B : Nat} {D D1 : DaT} (h : Out B (B + 139) D D1) : OutT U B D D1 := fun a _ h4 => h a h4
theorem TkR.outT {D D1 : DaT} {U B : Nat} {T : List Nat} (h : TkR D (U + 1) T) (ho : OutT U B D D1) (hd : U + 7 ≤ B) : TkR D1 (U + 1) T := by
  refine ⟨by rw [(ho (U + 1) (by omega) (by omega)).1]; exact h.1, fun j hj => ?_⟩
  rw [(ho (U + 1 + 3) (by omega) (by omega)).2.2.1, (ho (U + 1 + 4) (by omega) (by omega)).2.2.1, (ho (U + 1 + 5) (by omega) (by omega)).2.2.2]
  exact h.2 j hj
def TlL (S : ShT) (U : Nat) : Prop := s_tg S U = 8 ∧ s_fr S 224 U = some (U + 1)
def TlOk (D1 : DaT) (U B : Nat) (T : List Nat) (res : TlR) : Prop := match res with
  | .ok K1 => RepC D1 B K1 ∧ d_fi D1 226 U = 0
  | .error x => d_fi D1 226 U = nI x.1 ∧ d_fi D1 225 U = nI (pl T x.2)
def TlP (S : ShT) (D : DaT) (U B : Nat) (T : List Nat) (s : Nat) (res : TlR) : Option Value → Mem → Prop := fun v M1 => ∃ D1, v = none ∧ M1 = md S D1 ∧ TkR D1 (U + 1) T ∧ d_fi D1 227 U = nI s ∧ TlOk D1 U B T res ∧ OutT U B D D1
theorem inR_nI {v lo hi : Nat} (h1 : v < 2 ^ 31) (h2 : lo < 2 ^ 31) (h3 : hi < 2 ^ 31) : inR (nI v) (nI lo) (nI hi) = true ↔ lo ≤ v ∧ v ≤ hi := by
  unfold inR
  rw [decide_eq_true_iff, nI_leI h2 h1, nI_leI h1 h3]
theorem RepC.u {D : DaT} {U B k : Nat} {K : KT} {v : Int32} (hW : WfK K) (h : RepC D B K) (hu : U < B) : RepC (pfi D k U v) B K := h.out hW (Out.fi (lo := U) (hi := U + 1) (by omega)) (by omega)
section TELL
variable {g : GG} {d : Nat} {S : ShT} {D : DaT} {U B : Nat} {T : List Nat} {K : KT} {s e : Nat}
theorem c_refuse {e t : Nat} (hZ : TxL S (U + 1)) (hU : TlL S U) (hR : TkR D (U + 1) T) (ht : t ≤ tN T) : EvM g (d + 1) mX7_refuse 0 0 [.ref U, .int (nI e), .int (nI t)] (md S D) (fun v M1 => v = none ∧ M1 = md S (pfi (pfi D 226 U (nI e)) 225 U (nI (pl T t)))) := by
  unfold TlL at hU
  have hR1 : TkR (pfi D 226 U (nI e)) (U + 1) T := hR.out (Out.fi (lo := U) (hi := U + 1) (by omega)) (by omega)
  refine EvM.mk (by decide) (Nat.le_of_ble_eq_true rfl) ?_
  refine X_run rfl ?_ ?_
  · simp [md_s, md_w, rget, r_a, r_b, r_c, r_i, r_l, hU]
  try simp only [md_s, md_w, rget_some, r_a, r_b, r_c, r_i, r_l, r_nx, r_pc, Nat.reduceEqDiff, false_and, if_false, hU]
  generalize pfi D 226 U (nI e) = D1 at hR1 ⊢
  refine X_cV (args := [.int (nI t)]) rfl (by decide) hZ.1.1 rfl rfl (Nat.le_of_ble_eq_true rfl) (c_placeAt hZ hR1 ht) ?_
  rintro _ _ ⟨rfl, rfl⟩
  refine X_run rfl ?_ ?_
  · simp [md_s, md_w, rget, r_a, r_b, r_c, r_i, r_l, hU]
  try simp only [md_s, md_w, rget_some, r_a, r_b, r_c, r_i, r_l, r_nx, r_pc, Nat.reduceEqDiff, false_and, if_false, hU]
  exact X_vret rfl rfl ⟨rfl, rfl⟩
theorem G_ref {m pc i nx c w e t : Nat} {sp : Bool} {ki : Int32} {kl : Int64} {q0 : Nat} {ls : LsT} {Zq : ZT} (hr1 : rowAt m pc = some (q0, .invokevirtual i, nx, (72, 2, c, w, sp), ki, kl)) (hZ : TxL S (U + 1)) (hU : TlL S U) (hR : TkR D (U + 1) T) (hs : d_fi D 227 U = nI s) (ht : t ≤ tN T)
    (k : ∀ D1, TlP S D U B T s (.error (e, t)) none (md S D1) → Eg g (d + 2) m 0 0 Zq nx ls [] (md S D1)) : Eg g (d + 2) m 0 0 Zq pc ls [.int (nI t), .int (nI e), .ref U] (md S D) := by
  refine X_cV (args := [.int (nI e), .int (nI t)]) hr1 (by decide) hU.1 rfl rfl (Nat.zero_le _) (c_refuse hZ hU hR ht) ?_
  rintro _ _ ⟨rfl, rfl⟩
  refine k _ ⟨_, rfl, rfl, ?_, ?_, ⟨?_, ?_⟩, OutT.u.tr OutT.u⟩
  · exact (hR.out (Out.fi (lo := U) (hi := U + 1) (by omega)) (by omega)).out (Out.fi (lo := U) (hi := U + 1) (by omega)) (by omega)
  · simp [rd_fi, hs]
  · simp [rd_fi]
  · simp [rd_fi]
theorem G_end {res : TlR} {K1 : KT} {m pc : Nat} {q0 nx a b c w : Nat} {sp : Bool} {ki : Int32} {kl : Int64} {ls : LsT} {D1 : DaT} (hr : rowAt m pc = some (q0, .return_, nx, (a, b, c, w, sp), ki, kl)) (hm : h_r m = none) (e : res = .ok K1) (hR : TkR D (U + 1) T) (hs : d_fi D 227 U = nI s) (he : d_fi D 226 U = 0) (h1 : RepC D1 B K1) (ho : Out B (B + 139) D D1) (hd : U + 7 ≤ B) : Eg g d m 0 0 (Zr g (TlP S D U B T s res)) pc ls [] (md S D1) := by
  have ho2 : OutT U B D D1 := OutT.b ho
  obtain ⟨f1, -⟩ := ho U (by omega)
  refine X_vret hr hm ⟨D1, rfl, rfl, hR.outT ho2 hd, by rw [f1]; exact hs, ?_, ho2⟩
  rw [e]
  exact ⟨h1, by rw [f1]; exact he⟩
theorem c_tellParty (hZ : TxL S (U + 1)) (hU : TlL S U) (hL : BkL S B) (hd : U + 7 ≤ B) (hW : WfK K) (hK : WrK K) (hR : TkR D (U + 1) T) (hC : RepC D B K) (hs : d_fi D 227 U = nI s) (he : d_fi D 226 U = 0) (h1 : kdA T (s + 1) = 11) (h2 : kdA T (s + 2) = 1 ∧ kdA T (s + 3) = 12 ∨ ¬ kdA T (s + 2) = 1 ∧ kdA T (s + 2) = 13) : EvM g (d + 3) mX7_tellParty 0 0 [.ref U, .ref B] (md S D) (TlP S D U B T s (tellP T K s)) := by
  have hu := hU
  unfold TlL at hu
  have hb := hL.1
  have hc := hC.1
  obtain ⟨l1, k1⟩ := kdA_lo h1 (by decide)
  have hN := tN_le T
  have hw := wd_ok h1 (by decide)
  have l2 : s + 2 < 2 ^ 31 := by omega
  have e1 : nI s + 1 = nI (s + 1) := nI_add s 1
  have e2 : nI s + 2 = nI (s + 2) := nI_add s 2
  have e3 : nI s + 3 = nI (s + 3) := nI_add s 3
  have hv1 : d_al D (U + 1 + 5) (s + 1) = asc (wd T (s + 1)) := (hR.2 (s + 1) (by omega)).2.2.1 (by rw [show (tk T (s + 1)).1 = kd T (s + 1) from rfl, k1]; decide)
  have tail : ∀ (x : Int32), tellP T K s = (if (pIx K (wd T (s + 1))).isSome || (mIx K (wd T (s + 1))).isSome then .error (2, s + 1) else if 10 ≤ k_np K then .error (4, s + 1) else if inR x 0 1000000 = true then .ok (addP K (wd T (s + 1)) x) else .error (5, s + 3)) → (inR x 0 1000000 = false → s + 3 ≤ tN T) → Eg g (d + 3) mX7_tellParty 0 0 (Zr g (TlP S D U B T s (tellP T K s))) 64 [(0, .ref U), (1, .ref B), (2, .long (asc (wd T (s + 1)))), (5, .int x)] [.long (asc (wd T (s + 1))), .ref B] (md S D) := fun x hx hx3 => by
    rw [hx]
    refine X_cV (args := [.long (asc (wd T (s + 1)))]) rfl (by decide) hb.1 rfl rfl (Nat.le_of_ble_eq_true rfl) (c_isNamed hL hW hC) ?_
    rintro _ _ ⟨rfl, rfl⟩
    rw [named_asc hK hw]
    generalize hnm : ((pIx K (wd T (s + 1))).isSome || (mIx K (wd T (s + 1))).isSome) = nm
    refine X_if_eq rfl (fun c1 => ?_) (fun c1 => ?_)
    · have c1 := b2i_zero.mp c1
      subst c1
      rw [if_neg (by decide)]
      refine X_run rfl ?_ ?_
      · simp [md_s, md_w, rget, r_a, r_b, r_c, r_i, r_l, hb, hc]
      try simp only [md_s, md_w, rget_some, r_a, r_b, r_c, r_i, r_l, r_nx, r_pc, Nat.reduceEqDiff, false_and, if_false, hb, hc]
      refine X_icmp_lt rfl (fun c2 => ?_) (fun c2 => ?_)
      · have c2 : k_np K < 10 := (nI_ltI (b := 10) (by have := hW.1; omega) (by omega)).mp c2
        rw [if_neg (by omega)]
        refine X_run rfl trivial ?_
        refine X_cS (args := [.int x, .int 0, .int 1000000]) rfl (by decide) rfl rfl (Nat.le_of_ble_eq_true rfl) c_isFrom ?_
        rintro _ _ ⟨rfl, rfl⟩
        rw [if_b2i, show decide (0 ≤ x ∧ x ≤ 1000000) = inR x 0 1000000 from rfl]
        refine X_if_ne rfl (fun c3 => ?_) (fun c3 => ?_)
        · have c3 := b2i_nz c3
          rw [if_pos c3]
          refine X_run rfl trivial ?_
          refine X_cV (args := [.long (asc (wd T (s + 1))), .int x]) rfl (by decide) hb.1 rfl rfl (Nat.le_of_ble_eq_true rfl) (c_addParty hL hW hC c2) ?_
          rintro _ _ ⟨D1, rfl, rfl, hC1, hO1⟩
          exact G_end rfl rfl rfl hR hs he hC1 hO1 hd
        · rw [if_neg (nb2i c3)]
          refine X_run rfl ?_ ?_
          · simp [md_s, md_w, rget, r_a, r_b, r_c, r_i, r_l, hu, hs, e3]
          try simp only [md_s, md_w, rget_some, r_a, r_b, r_c, r_i, r_l, r_nx, r_pc, Nat.reduceEqDiff, false_and, if_false, hu, hs, e3]
          refine G_ref (B := B) (e := 5) (t := s + 3) rfl hZ hU hR hs (hx3 (b2i_zero.mp c3)) (fun D1 h => ?_)
          refine X_run rfl trivial ?_
          exact X_vret rfl rfl h
      · have c2 : 10 ≤ k_np K := Nat.not_lt.mp (fun z => c2 ((nI_ltI (b := 10) (by omega) (by omega)).mpr z))
        rw [if_pos c2]
        refine X_run rfl ?_ ?_
        · simp [md_s, md_w, rget, r_a, r_b, r_c, r_i, r_l, hu, hs, e1]
        try simp only [md_s, md_w, rget_some, r_a, r_b, r_c, r_i, r_l, r_nx, r_pc, Nat.reduceEqDiff, false_and, if_false, hu, hs, e1]
        refine G_ref (B := B) (e := 4) (t := s + 1) rfl hZ hU hR hs (by omega) (fun D1 h => ?_)
        refine X_run rfl trivial ?_
        exact X_vret rfl rfl h
    · have c1 := b2i_nz c1
      subst c1
      rw [if_pos rfl]
      refine X_run rfl ?_ ?_
      · simp [md_s, md_w, rget, r_a, r_b, r_c, r_i, r_l, hu, hs, e1]
      try simp only [md_s, md_w, rget_some, r_a, r_b, r_c, r_i, r_l, r_nx, r_pc, Nat.reduceEqDiff, false_and, if_false, hu, hs, e1]
      refine G_ref (B := B) (e := 2) (t := s + 1) rfl hZ hU hR hs (by omega) (fun D1 h => ?_)
      refine X_run rfl trivial ?_
      exact X_vret rfl rfl h
  refine EvM.mk (by decide) (Nat.le_of_ble_eq_true rfl) ?_
  refine X_run rfl ?_ ?_
  · simp [md_s, md_w, rget, r_a, r_b, r_c, r_i, r_l, hu, hs, e1]
  try simp only [md_s, md_w, rget_some, r_a, r_b, r_c, r_i, r_l, r_nx, r_pc, Nat.reduceEqDiff, false_and, if_false, hu, hs, e1]
  refine X_cV (args := [.int (nI (s + 1))]) rfl (by decide) hZ.1.1 rfl rfl (Nat.le_of_ble_eq_true rfl) (c_wordAt hZ hR (by omega)) ?_
  rintro _ _ ⟨rfl, rfl⟩
  rw [hv1]
  refine X_run rfl ?_ ?_
  · simp [md_s, md_w, rget, r_a, r_b, r_c, r_i, r_l, hu, hs, e2]
  try simp only [md_s, md_w, rget_some, r_a, r_b, r_c, r_i, r_l, r_nx, r_pc, Nat.reduceEqDiff, false_and, if_false, hu, hs, e2]
  refine X_cV (args := [.int (nI (s + 2))]) rfl (by decide) hZ.1.1 rfl rfl (Nat.le_of_ble_eq_true rfl) (c_kindAt hZ hR l2) ?_
  rintro _ _ ⟨rfl, rfl⟩
  refine X_run rfl trivial ?_
  rcases h2 with ⟨h2, h3⟩ | ⟨h2, h3⟩
  · rw [h2]
    obtain ⟨l3, k3⟩ := kdA_lo h3 (by decide)
    refine X_icmp_ne rfl (fun c => absurd rfl c) (fun c => ?_)
    refine X_run rfl trivial ?_
    refine X_if_eq rfl (fun c => absurd c (by decide)) (fun c => ?_)
    refine X_run rfl ?_ ?_
    · simp [md_s, md_w, rget, r_a, r_b, r_c, r_i, r_l, hu, hs, e3]
    try simp only [md_s, md_w, rget_some, r_a, r_b, r_c, r_i, r_l, r_nx, r_pc, Nat.reduceEqDiff, false_and, if_false, hu, hs, e3]
    refine X_cV (args := [.int (nI (s + 3))]) rfl (by decide) hZ.1.1 rfl rfl (Nat.le_of_ble_eq_true rfl) (c_numberAt hZ hR (by omega) k3) ?_
    rintro _ _ ⟨rfl, rfl⟩
    refine X_run rfl trivial ?_
    have hle := nm_le h3
    refine Eg.sub (tail (nI (nmV T (s + 3))) ?_ (fun _ => by omega)) ⟨rfl, rfl, rfl, rfl, trivial⟩
    unfold tellP
    rw [if_pos h2]
    have : inR (nI (nmV T (s + 3))) 0 1000000 = true ↔ 0 ≤ nmV T (s + 3) ∧ nmV T (s + 3) ≤ 1000000 := inR_nI (v := nmV T (s + 3)) (lo := 0) (hi := 1000000) (by omega) (by omega) (by omega)
    by_cases c : nmV T (s + 3) ≤ 1000000
    · rw [if_pos c, if_pos (this.mpr ⟨Nat.zero_le _, c⟩)]
    · rw [if_neg c, if_neg (fun z => c (this.mp z).2)]
  · rw [h3]
    refine X_icmp_ne rfl (fun c => ?_) (fun c => absurd c (show ¬ (nI 13 : Int32) = 1 by decide))
    refine X_run rfl trivial ?_
    refine X_if_eq rfl (fun c => ?_) (fun c => absurd rfl c)
    refine X_run rfl trivial ?_
    refine Eg.sub (tail 0 ?_ (fun z => absurd z (by decide))) ⟨rfl, rfl, rfl, rfl, trivial⟩
    unfold tellP
    rw [if_neg h2, if_pos (show inR 0 0 1000000 = true by decide)]
theorem c_tellMoney (hZ : TxL S (U + 1)) (hU : TlL S U) (hL : BkL S B) (hd : U + 7 ≤ B) (hW : WfK K) (hK : WrK K) (hR : TkR D (U + 1) T) (hC : RepC D B K) (hs : d_fi D 227 U = nI s) (he : d_fi D 226 U = 0) (h1 : kdA T (s + 1) = 11) (h3 : kdA T (s + 3) = 12) (h5 : kdA T (s + 5) = 12) : EvM g (d + 3) mX7_tellMoney 0 0 [.ref U, .ref B] (md S D) (TlP S D U B T s (tellM T K s)) := by
  have hu := hU
  unfold TlL at hu
  have hb := hL.1
  have hc := hC.1
  obtain ⟨l1, k1⟩ := kdA_lo h1 (by decide)
  obtain ⟨l3, k3⟩ := kdA_lo h3 (by decide)
  obtain ⟨l5, k5⟩ := kdA_lo h5 (by decide)
  have hN := tN_le T
  have hw := wd_ok h1 (by decide)
  have n3 := nm_le h3
  have n5 := nm_le h5
  have e1 : nI s + 1 = nI (s + 1) := nI_add s 1
  have e3 : nI s + 3 = nI (s + 3) := nI_add s 3
  have e5 : nI s + 5 = nI (s + 5) := nI_add s 5
  have hv1 : d_al D (U + 1 + 5) (s + 1) = asc (wd T (s + 1)) := (hR.2 (s + 1) (by omega)).2.2.1 (by rw [show (tk T (s + 1)).1 = kd T (s + 1) from rfl, k1]; decide)
  refine EvM.mk (by decide) (Nat.le_of_ble_eq_true rfl) ?_
  refine X_run rfl ?_ ?_
  · simp [md_s, md_w, rget, r_a, r_b, r_c, r_i, r_l, hu, hs, e1]
  try simp only [md_s, md_w, rget_some, r_a, r_b, r_c, r_i, r_l, r_nx, r_pc, Nat.reduceEqDiff, false_and, if_false, hu, hs, e1]
  refine X_cV (args := [.int (nI (s + 1))]) rfl (by decide) hZ.1.1 rfl rfl (Nat.le_of_ble_eq_true rfl) (c_wordAt hZ hR (by omega)) ?_
  rintro _ _ ⟨rfl, rfl⟩
  rw [hv1]
  refine X_run rfl ?_ ?_
  · simp [md_s, md_w, rget, r_a, r_b, r_c, r_i, r_l, hu, hs, e3]
  try simp only [md_s, md_w, rget_some, r_a, r_b, r_c, r_i, r_l, r_nx, r_pc, Nat.reduceEqDiff, false_and, if_false, hu, hs, e3]
  refine X_cV (args := [.int (nI (s + 3))]) rfl (by decide) hZ.1.1 rfl rfl (Nat.le_of_ble_eq_true rfl) (c_numberAt hZ hR (by omega) k3) ?_
  rintro _ _ ⟨rfl, rfl⟩
  refine X_run rfl ?_ ?_
  · simp [md_s, md_w, rget, r_a, r_b, r_c, r_i, r_l, hu, hs, e5]
  try simp only [md_s, md_w, rget_some, r_a, r_b, r_c, r_i, r_l, r_nx, r_pc, Nat.reduceEqDiff, false_and, if_false, hu, hs, e5]
  refine X_cV (args := [.int (nI (s + 5))]) rfl (by decide) hZ.1.1 rfl rfl (Nat.le_of_ble_eq_true rfl) (c_numberAt hZ hR (by omega) k5) ?_
  rintro _ _ ⟨rfl, rfl⟩
  refine X_run rfl trivial ?_
  refine X_cV (args := [.long (asc (wd T (s + 1)))]) rfl (by decide) hb.1 rfl rfl (Nat.le_of_ble_eq_true rfl) (c_isNamed hL hW hC) ?_
  rintro _ _ ⟨rfl, rfl⟩
  rw [named_asc hK hw]
  unfold tellM
  have hr := inR_nI (v := nmV T (s + 3)) (lo := 1) (hi := 1000) (by omega) (by omega) (by omega)
  have hq := inR_nI (v := nmV T (s + 5)) (lo := 1) (hi := 23) (by omega) (by omega) (by omega)
  rw [show numV (wd T (s + 3)) = nmV T (s + 3) from rfl, show numV (wd T (s + 5)) = nmV T (s + 5) from rfl]
  generalize nmV T (s + 3) = x at n3 hr ⊢
  generalize nmV T (s + 5) = y at n5 hq ⊢
  generalize ((pIx K (wd T (s + 1))).isSome || (mIx K (wd T (s + 1))).isSome) = nm
  refine X_if_eq rfl (fun c1 => ?_) (fun c1 => ?_)
  · have c1 := b2i_zero.mp c1
    subst c1
    rw [if_neg (by decide)]
    refine X_run rfl ?_ ?_
    · simp [md_s, md_w, rget, r_a, r_b, r_c, r_i, r_l, hb, hc]
    try simp only [md_s, md_w, rget_some, r_a, r_b, r_c, r_i, r_l, r_nx, r_pc, Nat.reduceEqDiff, false_and, if_false, hb, hc]
    refine X_icmp_lt rfl (fun c2 => ?_) (fun c2 => ?_)
    · have c2 : k_nm K < 5 := (nI_ltI (b := 5) (by have := hW.2.1; omega) (by omega)).mp c2
      rw [if_neg (by omega)]
      refine X_run rfl trivial ?_
      refine X_cS (args := [.int (nI x), .int 1, .int 1000]) rfl (by decide) rfl rfl (Nat.le_of_ble_eq_true rfl) c_isFrom ?_
      rintro _ _ ⟨rfl, rfl⟩
      rw [if_b2i, show decide (1 ≤ nI x ∧ nI x ≤ 1000) = inR (nI x) (nI 1) (nI 1000) from rfl]
      refine X_if_ne rfl (fun c3 => ?_) (fun c3 => ?_)
      · have c3 := hr.mp (b2i_nz c3)
        rw [if_neg (fun z => z c3)]
        refine X_run rfl trivial ?_
        refine X_cS (args := [.int (nI y), .int 1, .int 23]) rfl (by decide) rfl rfl (Nat.le_of_ble_eq_true rfl) c_isFrom ?_
        rintro _ _ ⟨rfl, rfl⟩
        rw [if_b2i, show decide (1 ≤ nI y ∧ nI y ≤ 23) = inR (nI y) (nI 1) (nI 23) from rfl]
        refine X_if_ne rfl (fun c4 => ?_) (fun c4 => ?_)
        · have c4 := hq.mp (b2i_nz c4)
          rw [if_neg (fun z => z c4)]
          refine X_run rfl trivial ?_
          refine X_cV (args := [.long (asc (wd T (s + 1))), .int (nI x), .int (nI y)]) rfl (by decide) hb.1 rfl rfl (Nat.le_of_ble_eq_true rfl) (c_addMoney hL hW hC c2) ?_
          rintro _ _ ⟨D1, rfl, rfl, hC1, hO1⟩
          exact G_end rfl rfl rfl hR hs he hC1 hO1 hd
        · rw [if_pos (fun z => nb2i c4 (hq.mpr z))]
          refine X_run rfl ?_ ?_
          · simp [md_s, md_w, rget, r_a, r_b, r_c, r_i, r_l, hu, hs, e5]
          try simp only [md_s, md_w, rget_some, r_a, r_b, r_c, r_i, r_l, r_nx, r_pc, Nat.reduceEqDiff, false_and, if_false, hu, hs, e5]
          refine G_ref (B := B) (e := 5) (t := s + 5) rfl hZ hU hR hs (by omega) (fun D1 h => ?_)
          refine X_run rfl trivial ?_
          exact X_vret rfl rfl h
      · rw [if_pos (fun z => nb2i c3 (hr.mpr z))]
        refine X_run rfl ?_ ?_
        · simp [md_s, md_w, rget, r_a, r_b, r_c, r_i, r_l, hu, hs, e3]
        try simp only [md_s, md_w, rget_some, r_a, r_b, r_c, r_i, r_l, r_nx, r_pc, Nat.reduceEqDiff, false_and, if_false, hu, hs, e3]
        refine G_ref (B := B) (e := 5) (t := s + 3) rfl hZ hU hR hs (by omega) (fun D1 h => ?_)
        refine X_run rfl trivial ?_
        exact X_vret rfl rfl h
    · have c2 : 5 ≤ k_nm K := Nat.not_lt.mp (fun z => c2 ((nI_ltI (b := 5) (by omega) (by omega)).mpr z))
      rw [if_pos c2]
      refine X_run rfl ?_ ?_
      · simp [md_s, md_w, rget, r_a, r_b, r_c, r_i, r_l, hu, hs, e1]
      try simp only [md_s, md_w, rget_some, r_a, r_b, r_c, r_i, r_l, r_nx, r_pc, Nat.reduceEqDiff, false_and, if_false, hu, hs, e1]
      refine G_ref (B := B) (e := 4) (t := s + 1) rfl hZ hU hR hs (by omega) (fun D1 h => ?_)
      refine X_run rfl trivial ?_
      exact X_vret rfl rfl h
  · have c1 := b2i_nz c1
    subst c1
    rw [if_pos rfl]
    refine X_run rfl ?_ ?_
    · simp [md_s, md_w, rget, r_a, r_b, r_c, r_i, r_l, hu, hs, e1]
    try simp only [md_s, md_w, rget_some, r_a, r_b, r_c, r_i, r_l, r_nx, r_pc, Nat.reduceEqDiff, false_and, if_false, hu, hs, e1]
    refine G_ref (B := B) (e := 2) (t := s + 1) rfl hZ hU hR hs (by omega) (fun D1 h => ?_)
    refine X_run rfl trivial ?_
    exact X_vret rfl rfl h
theorem c_isWtg {q : Nat} (hL : BkL S B) (hW : WfK K) (hC : RepC D B K) (hq : q < 2 ^ 31) : EvM g (d + 1) mX0_isWaiting 0 0 [.ref B, .int (nI q)] (md S D) (fun v M1 => M1 = md S D ∧ v = some (.int (b2i (wtg K q)))) := by
  have w3 := hW.2.2.1
  by_cases c : q < k_ny K
  · refine (c_isWaiting hL hW hC c).mono (fun v M1 h => ⟨h.1, ?_⟩)
    rw [h.2, if_b2i]
    unfold wtg
    rw [decide_eq_true c]
    rfl
  · refine (c_isWaiting_no hL hW hC (fun z => ?_)).mono (fun v M1 h => ⟨h.1, ?_⟩)
    · obtain ⟨n, h1, h2⟩ := z
      rw [nI_eq hq (by omega)] at h2
      omega
    · rw [h.2]
      unfold wtg
      rw [decide_eq_false c]
      rfl
theorem c_canP {q : Nat} (hL : BkL S B) (hW : WfK K) (hC : RepC D B K) (hq : q < 2 ^ 31) : EvM g (d + 2) mX0_canBePartner 0 0 [.ref B, .int (nI q)] (md S D) (fun v M1 => M1 = md S D ∧ v = some (.int (b2i (wtg K q && (k_pr K q).isNone)))) := by
  have w3 := hW.2.2.1
  by_cases c : q < k_ny K
  · refine (c_canBePartner hL hW hC c).mono (fun v M1 h => ⟨h.1, ?_⟩)
    rw [h.2]
    unfold wtg
    rw [decide_eq_true c]
    rfl
  · refine (c_canBePartner_no hL hW hC (fun z => ?_)).mono (fun v M1 h => ⟨h.1, ?_⟩)
    · obtain ⟨n, h1, h2⟩ := z
      rw [nI_eq hq (by omega)] at h2
      omega
    · rw [h.2]
      unfold wtg
      rw [decide_eq_false c]
      rfl
theorem c_tellHold (hZ : TxL S (U + 1)) (hU : TlL S U) (hL : BkL S B) (hd : U + 7 ≤ B) (hW : WfK K) (hR : TkR D (U + 1) T) (hC : RepC D B K) (hs : d_fi D 227 U = nI s) (he : d_fi D 226 U = 0) (h1 : kdA T (s + 1) = 12) : EvM g (d + 3) mX7_tellHold 0 0 [.ref U, .ref B] (md S D) (TlP S D U B T s (tellH T K s)) := by
  have hu := hU
  unfold TlL at hu
  have hb := hL.1
  obtain ⟨l1, k1⟩ := kdA_lo h1 (by decide)
  have hN := tN_le T
  have n1 := nm_le h1
  have e1 : nI s + 1 = nI (s + 1) := nI_add s 1
  refine EvM.mk (by decide) (Nat.le_of_ble_eq_true rfl) ?_
  refine X_run rfl ?_ ?_
  · simp [md_s, md_w, rget, r_a, r_b, r_c, r_i, r_l, hu, hs, e1]
  try simp only [md_s, md_w, rget_some, r_a, r_b, r_c, r_i, r_l, r_nx, r_pc, Nat.reduceEqDiff, false_and, if_false, hu, hs, e1]
  refine X_cV (args := [.int (nI (s + 1))]) rfl (by decide) hZ.1.1 rfl rfl (Nat.le_of_ble_eq_true rfl) (c_numberAt hZ hR (by omega) k1) ?_
  rintro _ _ ⟨rfl, rfl⟩
  rw [show numV (wd T (s + 1)) = nmV T (s + 1) from rfl]
  unfold tellH
  generalize nmV T (s + 1) = q at n1 ⊢
  refine X_run rfl trivial ?_
  refine X_cV (args := [.int (nI q)]) rfl (by decide) hb.1 rfl rfl (Nat.le_of_ble_eq_true rfl) (c_isWtg hL hW hC (by omega)) ?_
  rintro _ _ ⟨rfl, rfl⟩
  refine X_if_ne rfl (fun c1 => ?_) (fun c1 => ?_)
  · have c1 := b2i_nz c1
    rw [if_pos c1]
    have hq : q < k_ny K := by
      unfold wtg at c1
      rw [Bool.and_eq_true, decide_eq_true_iff] at c1
      exact c1.1
    have w3 := hW.2.2.1
    have hy := hL.2.2.2 q (by omega)
    have hv := hC.2.2.2 q hq
    refine X_run rfl trivial ?_
    refine X_cV (args := [.int (nI q)]) rfl (by decide) hb.1 rfl rfl (Nat.le_of_ble_eq_true rfl) (c_paymentAt hL (by omega)) ?_
    rintro _ _ ⟨rfl, rfl⟩
    have hC1 := hC.he (n := q) (!(k_he K q))
    have hO1 : Out B (B + 139) D (pfi D 168 (ya B q) (b2i (!(k_he K q)))) := Out.fi (by unfold ya; omega)
    refine X_run rfl ?_ ?_
    · simp [md_s, md_w, rget, r_a, r_b, r_c, r_i, r_l, hy, hv]
    try simp only [md_s, md_w, rget_some, r_a, r_b, r_c, r_i, r_l, r_nx, r_pc, Nat.reduceEqDiff, false_and, if_false, hy, hv]
    refine X_if_ne rfl (fun c2 => ?_) (fun c2 => ?_)
    · have c2 := b2i_nz c2
      rw [c2] at hC1 hO1 ⊢
      refine X_run rfl ?_ ?_
      · simp [md_s, md_w, rget, r_a, r_b, r_c, r_i, r_l, hy]
      try simp only [md_s, md_w, rget_some, r_a, r_b, r_c, r_i, r_l, r_nx, r_pc, Nat.reduceEqDiff, false_and, if_false, hy]
      exact G_end rfl rfl rfl hR hs he hC1 hO1 hd
    · have c2 := b2i_zero.mp c2
      rw [c2] at hC1 hO1 ⊢
      refine X_run rfl ?_ ?_
      · simp [md_s, md_w, rget, r_a, r_b, r_c, r_i, r_l, hy]
      try simp only [md_s, md_w, rget_some, r_a, r_b, r_c, r_i, r_l, r_nx, r_pc, Nat.reduceEqDiff, false_and, if_false, hy]
      exact G_end rfl rfl rfl hR hs he hC1 hO1 hd
  · rw [if_neg (nb2i c1)]
    refine X_run rfl ?_ ?_
    · simp [md_s, md_w, rget, r_a, r_b, r_c, r_i, r_l, hu, hs, e1]
    try simp only [md_s, md_w, rget_some, r_a, r_b, r_c, r_i, r_l, r_nx, r_pc, Nat.reduceEqDiff, false_and, if_false, hu, hs, e1]
    refine G_ref (B := B) (e := 5) (t := s + 1) rfl hZ hU hR hs (by omega) (fun D1 h => ?_)
    refine X_run rfl trivial ?_
    exact X_vret rfl rfl h
theorem c_tellCancel (hZ : TxL S (U + 1)) (hU : TlL S U) (hL : BkL S B) (hd : U + 7 ≤ B) (hW : WfK K) (hR : TkR D (U + 1) T) (hC : RepC D B K) (hs : d_fi D 227 U = nI s) (he : d_fi D 226 U = 0) (h1 : kdA T (s + 1) = 12) : EvM g (d + 3) mX7_tellCancel 0 0 [.ref U, .ref B] (md S D) (TlP S D U B T s (tellC T K s)) := by
  have hu := hU
  unfold TlL at hu
  have hb := hL.1
  obtain ⟨l1, k1⟩ := kdA_lo h1 (by decide)
  have hN := tN_le T
  have n1 := nm_le h1
  have e1 : nI s + 1 = nI (s + 1) := nI_add s 1
  refine EvM.mk (by decide) (Nat.le_of_ble_eq_true rfl) ?_
  refine X_run rfl ?_ ?_
  · simp [md_s, md_w, rget, r_a, r_b, r_c, r_i, r_l, hu, hs, e1]
  try simp only [md_s, md_w, rget_some, r_a, r_b, r_c, r_i, r_l, r_nx, r_pc, Nat.reduceEqDiff, false_and, if_false, hu, hs, e1]
  refine X_cV (args := [.int (nI (s + 1))]) rfl (by decide) hZ.1.1 rfl rfl (Nat.le_of_ble_eq_true rfl) (c_numberAt hZ hR (by omega) k1) ?_
  rintro _ _ ⟨rfl, rfl⟩
  rw [show numV (wd T (s + 1)) = nmV T (s + 1) from rfl]
  unfold tellC
  generalize nmV T (s + 1) = q at n1 ⊢
  refine X_run rfl trivial ?_
  refine X_cV (args := [.int (nI q)]) rfl (by decide) hb.1 rfl rfl (Nat.le_of_ble_eq_true rfl) (c_isWtg hL hW hC (by omega)) ?_
  rintro _ _ ⟨rfl, rfl⟩
  refine X_if_ne rfl (fun c1 => ?_) (fun c1 => ?_)
  · have c1 := b2i_nz c1
    rw [if_pos c1]
    have hq : q < k_ny K := by
      unfold wtg at c1
      rw [Bool.and_eq_true, decide_eq_true_iff] at c1
      exact c1.1
    have w3 := hW.2.2.1
    refine X_run rfl trivial ?_
    refine X_cV (args := [.int (nI q)]) rfl (by decide) hb.1 rfl rfl (Nat.le_of_ble_eq_true rfl) (c_paymentAt hL (by omega)) ?_
    rintro _ _ ⟨rfl, rfl⟩
    refine X_cV (args := [.ref (ya B q)]) rfl (by decide) hb.1 rfl rfl (Nat.le_of_ble_eq_true rfl) (c_callOff hL hW hC hq) ?_
    rintro _ _ ⟨D1, rfl, rfl, hC1, hO1⟩
    exact G_end rfl rfl rfl hR hs he hC1 hO1 hd
  · rw [if_neg (nb2i c1)]
    refine X_run rfl ?_ ?_
    · simp [md_s, md_w, rget, r_a, r_b, r_c, r_i, r_l, hu, hs, e1]
    try simp only [md_s, md_w, rget_some, r_a, r_b, r_c, r_i, r_l, r_nx, r_pc, Nat.reduceEqDiff, false_and, if_false, hu, hs, e1]
    refine G_ref (B := B) (e := 5) (t := s + 1) rfl hZ hU hR hs (by omega) (fun D1 h => ?_)
    refine X_run rfl trivial ?_
    exact X_vret rfl rfl h
end TELL
