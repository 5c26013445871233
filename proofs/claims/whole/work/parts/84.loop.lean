/-! the law's loop -/
theorem x_nI (x : Int32) : x = nI x.toBitVec.toNat := Int32.toBitVec_inj.mp (by
  show x.toBitVec = BitVec.ofNat 32 x.toBitVec.toNat
  simp)
theorem nx_an (a b : Nat) : nI a &&& nI b = nI (a &&& b) := Int32.toBitVec_inj.mp (by
  rw [Int32.toBitVec_and]
  show BitVec.ofNat 32 a &&& BitVec.ofNat 32 b = BitVec.ofNat 32 (a &&& b)
  rw [BitVec.ofNat_and])
theorem and31 (x : Int32) : ∃ k, k < 32 ∧ x &&& 31 = nI k := by
  refine ⟨x.toBitVec.toNat % 32, Nat.mod_lt _ (by decide), ?_⟩
  rw [show x &&& 31 = nI x.toBitVec.toNat &&& nI 31 from by rw [← x_nI]; rfl, nx_an, show (31 : Nat) = 2 ^ 5 - 1 from rfl, Nat.and_two_pow_sub_one_eq_mod]
theorem LawS.later {g : GG} {sc : Nat → Int32} {N : Nat} {S : ShT} {D : DaT} {X A A2 : Nat} {K : KT} {T P : List Nat} {e : Int32} {c : Nat} (h : LawS g sc N S D X A A2 K T P e c) (hc : c + 1 ≤ 1000) : LawS g sc N S D X A A2 K T P e (c + 1) :=
  h.step (k := 0) (h.hI.mono (Nat.le_succ _) hc) h.hD OutX.rf Gro.rf.y h.hY OutR.rf h.hM
section LOOP
variable {g : GG} {d : Nat} {Z : ZT} {sc : Nat → Int32} {N : Nat} {X : Nat}
set_option maxRecDepth 20000 in
theorem Law_call {bc bs i c : Nat} {S : ShT} {D : DaT} {A A2 : Nat} {K : KT} {T P : List Nat} {e : Int32} (h : LawS g sc N S D X A A2 K T P e c) (hc : c + 1 ≤ 1000) (hi : i + 6 ≤ N) (k : NxT g (d + 12) bc bs Z sc N i X (c + 1)) {x : Int32} (q : Nat) (hq : q < 32) (hx : x = nI q) : Eg g (d + 12) mL_law (bc + 560) (bs + 5100) Z 40 (LL g X i) [.int x] (md S D) := by
  subst hx
  match q, hq with
  | 0, _ => exact X_tsw (k0 := 0) (t := 164) rfl rfl (by decide) rfl rfl (Op_feed h hc hi k)
  | 1, _ => exact X_tsw (k0 := 1) (t := 268) rfl rfl (by decide) rfl rfl (Op_trim h hc hi k)
  | 2, _ => exact X_tsw (k0 := 2) (t := 324) rfl rfl (by decide) rfl rfl (Op_teach h hc k)
  | 3, _ => exact X_tsw (k0 := 3) (t := 337) rfl rfl (by decide) rfl rfl (Op_errorAt h hc k)
  | 4, _ => exact X_tsw (k0 := 4) (t := 350) rfl rfl (by decide) rfl rfl (Op_count h hc hi k)
  | 5, _ => exact X_tsw (k0 := 5) (t := 406) rfl rfl (by decide) rfl rfl (Op_party h hc hi k)
  | 6, _ => exact X_tsw (k0 := 6) (t := 474) rfl rfl (by decide) rfl rfl (Op_money h hc hi k)
  | 7, _ => exact X_tsw (k0 := 7) (t := 542) rfl rfl (by decide) rfl rfl (Op_setRate h hc hi k)
  | 8, _ => exact X_tsw (k0 := 8) (t := 610) rfl rfl (by decide) rfl rfl (Op_has h hc hi k)
  | 9, _ => exact X_tsw (k0 := 9) (t := 706) rfl rfl (by decide) rfl rfl (Op_deposit h hc hi k)
  | 10, _ => exact X_tsw (k0 := 10) (t := 786) rfl rfl (by decide) rfl rfl (Op_withdraw h hc hi k)
  | 11, _ => exact X_tsw (k0 := 11) (t := 866) rfl rfl (by decide) rfl rfl (Op_pledge h hc hi k)
  | 12, _ => exact X_tsw (k0 := 12) (t := 946) rfl rfl (by decide) rfl rfl (Op_payment h hc hi k)
  | 13, _ => exact X_tsw (k0 := 13) (t := 1014) rfl rfl (by decide) rfl rfl (Op_amend h hc hi k)
  | 14, _ => exact X_tsw (k0 := 14) (t := 1082) rfl rfl (by decide) rfl rfl (Op_putOff h hc hi k)
  | 15, _ => exact X_tsw (k0 := 15) (t := 1150) rfl rfl (by decide) rfl rfl (Op_owes h hc hi k)
  | 16, _ => exact X_tsw (k0 := 16) (t := 1230) rfl rfl (by decide) rfl rfl (Op_pass h hc hi k)
  | 17, _ => exact X_tsw (k0 := 17) (t := 1286) rfl rfl (by decide) rfl rfl (Op_run h hc hi k)
  | 18, _ => exact X_tsw (k0 := 18) (t := 1342) rfl rfl (by decide) rfl rfl (Op_settles h hc hi k)
  | 19, _ => exact X_tsw (k0 := 19) (t := 1405) rfl rfl (by decide) rfl rfl (Op_when h hc hi k)
  | 20, _ => exact X_tsw (k0 := 20) (t := 1461) rfl rfl (by decide) rfl rfl (Op_frees h hc hi k)
  | 21, _ => exact X_tsw (k0 := 21) (t := 1529) rfl rfl (by decide) rfl rfl (Op_advise h hc hi k)
  | 22, _ => exact X_tsw (k0 := 22) (t := 1597) rfl rfl (by decide) rfl rfl (Op_ring h hc hi k)
  | 23, _ => exact X_tsw (k0 := 23) (t := 1653) rfl rfl (by decide) rfl rfl (Op_report h hc hi k)
  | 24, _ => exact X_tsw (k0 := 24) (t := 1709) rfl rfl (by decide) rfl rfl (Op_byteAt h hc hi k)
  | 25, _ => exact X_tsw (k0 := 25) (t := 1765) rfl rfl (by decide) rfl rfl (Op_kept h hc k)
  | 26, _ => exact X_tsw (k0 := 26) (t := 1806) rfl rfl (by decide) rfl rfl (Op_digest h hc k)
  | 27, _ =>
    refine X_tswD (t := 1820) rfl (Or.inr (by decide)) rfl ?_
    refine X_run rfl trivial ?_
    exact Eg.cost (Eg.sub (k _ _ _ _ _ _ _ _ (h.later hc)) ⟨rfl, rfl, rfl, rfl, congrArg (fun x => some (Value.int x)) (nI_plus i 6).symm, trivial⟩) (by omega) (by omega)
  | 28, _ =>
    refine X_tswD (t := 1820) rfl (Or.inr (by decide)) rfl ?_
    refine X_run rfl trivial ?_
    exact Eg.cost (Eg.sub (k _ _ _ _ _ _ _ _ (h.later hc)) ⟨rfl, rfl, rfl, rfl, congrArg (fun x => some (Value.int x)) (nI_plus i 6).symm, trivial⟩) (by omega) (by omega)
  | 29, _ =>
    refine X_tswD (t := 1820) rfl (Or.inr (by decide)) rfl ?_
    refine X_run rfl trivial ?_
    exact Eg.cost (Eg.sub (k _ _ _ _ _ _ _ _ (h.later hc)) ⟨rfl, rfl, rfl, rfl, congrArg (fun x => some (Value.int x)) (nI_plus i 6).symm, trivial⟩) (by omega) (by omega)
  | 30, _ =>
    refine X_tswD (t := 1820) rfl (Or.inr (by decide)) rfl ?_
    refine X_run rfl trivial ?_
    exact Eg.cost (Eg.sub (k _ _ _ _ _ _ _ _ (h.later hc)) ⟨rfl, rfl, rfl, rfl, congrArg (fun x => some (Value.int x)) (nI_plus i 6).symm, trivial⟩) (by omega) (by omega)
  | 31, _ =>
    refine X_tswD (t := 1820) rfl (Or.inr (by decide)) rfl ?_
    refine X_run rfl trivial ?_
    exact Eg.cost (Eg.sub (k _ _ _ _ _ _ _ _ (h.later hc)) ⟨rfl, rfl, rfl, rfl, congrArg (fun x => some (Value.int x)) (nI_plus i 6).symm, trivial⟩) (by omega) (by omega)
  | n + 32, h => exact absurd h (by omega)
set_option maxRecDepth 20000 in
theorem Law_loop {Q : Option Value → Mem → Prop} (hQ : ∀ M, Q (some (.int 1)) M) : ∀ (r i c : Nat) (S : ShT) (D : DaT) (A A2 : Nat) (K : KT) (T P : List Nat) (e : Int32), LawS g sc N S D X A A2 K T P e c → c + r ≤ 1000 → N < i + 6 + 6 * r → i ≤ N → Eg g (d + 12) mL_law (560 * r) (5100 * r) (Zr g Q) 23 (LL g X i) [] (md S D) := by
  intro r
  induction r with
  | zero =>
    intro i c S D A A2 K T P e h hc hN hiN
    obtain ⟨s1, s2, s3⟩ := h.hS
    have e6 : (nI N - 6).toInt = (N : Int) - 6 := by
      have h1 := nI_toInt (n := N) (by omega)
      rw [t32_sub (by rw [h1]; show _ ≤ (N : Int) - 6; omega) (by rw [h1]; show (N : Int) - 6 < _; omega), h1]
      rfl
    refine X_run rfl ?_ ?_
    · simp [md_s, md_w, rget, r_a, r_b, r_c, r_i, r_l, s1, s2]
    try simp only [md_s, md_w, rget_some, r_a, r_b, r_c, r_i, r_l, r_nx, r_pc, Nat.reduceEqDiff, false_and, if_false, s1, s2]
    refine X_icmp_gt rfl (fun _ => ?_) (fun z => absurd (Int32.lt_iff_toInt_lt.mpr (by rw [e6, nI_toInt (by omega)]; omega)) z)
    refine X_run rfl trivial ?_
    exact X_zret rfl rfl (Or.inr rfl) (hQ _)
  | succ r ih =>
    intro i c S D A A2 K T P e h hc hN hiN
    obtain ⟨s1, s2, s3⟩ := h.hS
    have e6 : (nI N - 6).toInt = (N : Int) - 6 := by
      have h1 := nI_toInt (n := N) (by omega)
      rw [t32_sub (by rw [h1]; show _ ≤ (N : Int) - 6; omega) (by rw [h1]; show (N : Int) - 6 < _; omega), h1]
      rfl
    refine X_run rfl ?_ ?_
    · simp [md_s, md_w, rget, r_a, r_b, r_c, r_i, r_l, s1, s2]
    try simp only [md_s, md_w, rget_some, r_a, r_b, r_c, r_i, r_l, r_nx, r_pc, Nat.reduceEqDiff, false_and, if_false, s1, s2]
    refine X_icmp_gt rfl (fun _ => ?_) (fun z => ?_)
    · refine X_run rfl trivial ?_
      exact X_zret rfl rfl (Or.inr rfl) (hQ _)
    · have hi : i + 6 ≤ N := by
        refine Nat.le_of_not_lt (fun z2 => z (Int32.lt_iff_toInt_lt.mpr ?_))
        rw [e6, nI_toInt (by omega)]
        omega
      obtain ⟨⟨x1, x2⟩, x3⟩ := h.at hi 0 (by decide)
      rw [Nat.add_zero] at x1 x2 x3
      obtain ⟨q, hq, hx⟩ := and31 (sc i)
      refine X_run rfl ?_ ?_
      · simp [md_s, md_w, rget, r_a, r_b, r_c, r_i, r_l, s1, s2, x1, x2, x3]
      try simp only [md_s, md_w, rget_some, r_a, r_b, r_c, r_i, r_l, r_nx, r_pc, Nat.reduceEqDiff, false_and, if_false, s1, s2, x1, x2, x3]
      exact Law_call (bc := 560 * r) (bs := 5100 * r) h (by omega) hi (fun S' D' A' A2' K' T' P' e' h' => ih _ _ _ _ _ _ _ _ _ _ h' (by omega) (by omega) (by omega)) q hq hx
end LOOP
