/-! the checksum, by the reference -/
def New (S : ShT) (D D1 : DaT) : Prop := ∀ a, a < s_sz S → Same D D1 a
theorem New.rf {S : ShT} {D : DaT} : New S D D := fun _ _ => ⟨fun _ => rfl, fun _ => rfl, rfl, rfl⟩
theorem New.tr {S S1 : ShT} {D D1 D2 : DaT} (h : New S D D1) (h2 : New S1 D1 D2) (hl : s_sz S ≤ s_sz S1) : New S D D2 := fun a ha => (h a ha).tr (h2 a (by omega))
theorem New.o {S : ShT} {D D1 : DaT} (h : Out (s_sz S) (s_sz S + 1) D D1) : New S D D1 := fun a ha => h a (by omega)
theorem RmR.new {S : ShT} {D D1 : DaT} {Y A : Nat} {K : KT} {T P : List Nat} {e : Int32} (h : RmR D Y A K T P e) (ho : New S D D1) (hz : Y + 48 ≤ s_sz S) (hA : A + 20 ≤ s_sz S) : RmR D1 Y A K T P e :=
  h.keep (h.1.same (fun k => (ho A (by omega)).1 k) (fun r h1 h2 => ⟨(ho (A + r) (by omega)).2.2.1, (ho (A + r) (by omega)).2.2.2⟩)) (fun k _ _ => (ho Y (by omega)).1 k) (fun r h1 h2 => ⟨(ho (Y + r) (by omega)).2.2.1, (ho (Y + r) (by omega)).2.2.2⟩)
theorem New.outR {S : ShT} {D D1 : DaT} {Y : Nat} (h : New S D D1) : OutR S Y D D1 := fun a h1 _ => h a h1
def dgR (K : KT) (tl pl : Int32) (P : List Nat) : Int64 := iter (fun i acc => acc * 31 + (nI (P.getD i 0)).toInt64) P.length (dgY K (dgM K (dgP K (dgC K tl pl 647))))
theorem dgR_eq {K : KT} {D : DaT} {r : Nat} {tl pl : Int32} {P : List Nat} (h : BrR D r P) : dgK K tl pl (d_ai D (r + 1)) P.length = dgR K tl pl P := by
  unfold dgK dgR dgB
  exact iter_congr (fun i x hi => by rw [h.2.1 i hi])
section REFDIG
variable {g : GG} {d c : Nat} {S : ShT} {D : DaT} {Y A A2 : Nat} {K : KT} {T P : List Nat} {e : Int32}
def DgP (S : ShT) (D : DaT) (Y A : Nat) (K : KT) (T P : List Nat) (e : Int32) (d0 : Int64) : Option Value → Mem → Prop := fun v M1 => ∃ S1 D1 k, k ≤ 552 ∧ v = some (.long d0) ∧ M1 = md S1 D1 ∧ Gro S S1 k ∧ OutR S Y D D1 ∧ RmR D1 Y A K T P e
theorem c_Mdigest (hY : MoL S Y A A2) (hz : Y + 48 ≤ s_sz S) (hW : WfK K) (hM : RmR D Y A K T P e) : EvM g (d + 4) mX11_digest 552 5004 [.ref Y] (md S D) (DgP S D Y A K T P e (dgR K (nI T.length) (nI P.length) P)) := by
  obtain ⟨l1, l2, l3⟩ := hY.lo
  obtain ⟨hy, -⟩ := id hY
  obtain ⟨w1, w2, w3, w4⟩ := id hW
  obtain ⟨D1, e1, z1, y1⟩ := wr_fi D 352 Y 0
  have hM1 : RmR D1 Y A K T P e := e1 ▸ hM.thr (by omega) (by decide)
  have hO1 : OutR S Y D D1 := e1 ▸ OutR.fi
  refine EvM.mk (by decide) (Nat.le_of_ble_eq_true rfl) ?_
  refine X_run rfl ?_ ?_
  · simp [md_s, md_w, rget, r_a, r_b, r_c, r_i, r_l, hy, e1]
  try simp only [md_s, md_w, rget_some, r_a, r_b, r_c, r_i, r_l, r_nx, r_pc, Nat.reduceEqDiff, false_and, if_false, hy, e1]
  let PP := DgP S D Y A K T P e (dgR K (nI T.length) (nI P.length) P)
  refine Eg_up (α := ShT × DaT) (fun i x => Eg g (d + 4) mX11_digest (540 + (12 - i)) (4860 + 12 * (12 - i)) (Zr g PP) 11 [(0, .ref Y), (1, .long (iter (fun w acc => acc * 31 + (cnts K (nI T.length) (nI P.length) w).toInt64) i 647)), (3, .int (nI i))] [] (md x.1 x.2)) (fun i x => Gro S x.1 i ∧ New S D1 x.2) 12 (fun i x hi hI k => ?_) (fun x hI => ?_) (S, D1) ⟨Gro.rf, New.rf⟩
  · obtain ⟨S2, D2⟩ := x
    obtain ⟨hG, hN⟩ := hI
    dsimp only at hG hN ⊢
    have hY2 := hY.gro hG hz
    have hz2 : Y + 48 ≤ s_sz S2 := by have := hG.1; omega
    have hM2 := hM1.new hN hz (by omega)
    generalize hacc : iter (fun w acc => acc * 31 + (cnts K (nI T.length) (nI P.length) w).toInt64) i (647 : Int64) = acc
    refine X_run rfl trivial ?_
    refine X_icmp_ge rfl (fun c1 => no_le (a := 12) c1 hi (by omega)) (fun c1 => ?_)
    rw [show 540 + (12 - i) = (540 + (12 - (i + 1))) + 1 by omega, show 4860 + 12 * (12 - i) = (4860 + 12 * (12 - (i + 1))) + 12 by omega]
    refine X_run rfl trivial ?_
    refine X_callV (args := [.int (nI i)]) (bc1 := 1) (bs1 := 12) rfl (by decide) hY2.1.1 rfl rfl (Nat.le_of_ble_eq_true rfl) (c_Rcounted (d := d + 2) hY2 hz2 hW hM2.1 hM2.2.1.1 hM2.2.2.1.1 (by omega)) ?_
    rintro _ _ ⟨S3, D3, rfl, rfl, hG3, hO3⟩
    refine X_run rfl ?_ ?_
    · simp [md_s, md_w, rget, r_a, r_b, r_c, r_i, r_l, nI_s1]
    try simp only [md_s, md_w, rget_some, r_a, r_b, r_c, r_i, r_l, r_nx, r_pc, Nat.reduceEqDiff, false_and, if_false, nI_s1]
    have k2 := k (S3, D3) ⟨hG.tr hG3, hN.tr (New.o hO3) (by have := hG.1; omega)⟩
    simp only [iter] at k2
    rw [hacc] at k2
    exact k2
  · obtain ⟨S2, D2⟩ := x
    obtain ⟨hG, hN⟩ := hI
    dsimp only at hG hN ⊢
    have hY2 := hY.gro hG hz
    have hz2 : Y + 48 ≤ s_sz S2 := by have := hG.1; omega
    have hM2 := hM1.new hN hz (by omega)
    obtain ⟨hy2, -, ⟨hL2, -⟩, -⟩ := id hY2
    obtain ⟨hs2, ha2, hb2⟩ := hL2.all
    have hc2 := hM2.1.1
    unfold RrC at hc2
    rw [show iter (fun w acc => acc * 31 + (cnts K (nI T.length) (nI P.length) w).toInt64) 12 (647 : Int64) = dgC K (nI T.length) (nI P.length) 647 from rfl]
    refine X_run rfl trivial ?_
    refine X_icmp_ge rfl (fun c1 => ?_) (fun c1 => absurd (show (12 : Int32) ≤ nI 12 by decide) c1)
    refine X_run rfl trivial ?_
    refine Eg.sub (ls' := [(0, .ref Y), (1, .long (dgC K (nI T.length) (nI P.length) 647)), (3, .int (nI 0))]) ?_ ⟨rfl, rfl, rfl, trivial⟩
    refine Eg_iter (fun p (acc : Int64) => Eg g (d + 4) mX11_digest 540 4860 (Zr g PP) 38 [(0, .ref Y), (1, .long acc), (3, .int (nI p))] [] (md S2 D2)) (dgP1 K) (k_np K) (dgC K (nI T.length) (nI P.length) 647) (fun p hp k => ?_) ?_
    · generalize iter (dgP1 K) p (dgC K (nI T.length) (nI P.length) 647) = a0 at k ⊢
      refine X_run rfl ?_ ?_
      · simp [md_s, md_w, rget, r_a, r_b, r_c, r_i, r_l, hy2, hs2, hc2]
      try simp only [md_s, md_w, rget_some, r_a, r_b, r_c, r_i, r_l, r_nx, r_pc, Nat.reduceEqDiff, false_and, if_false, hy2, hs2, hc2]
      refine X_icmp_ge rfl (fun c1 => no_le c1 hp (by omega)) (fun c1 => ?_)
      refine X_run rfl trivial ?_
      refine Eg_iter (fun w (acc : Int64) => Eg g (d + 4) mX11_digest 540 4860 (Zr g PP) 52 [(0, .ref Y), (1, .long acc), (3, .int (nI p)), (4, .int (nI w))] [] (md S2 D2)) (fun w acc => acc * 31 + (toldP K p w).toInt64) 7 a0 (fun w hw k2 => ?_) ?_
      · refine X_run rfl trivial ?_
        refine X_icmp_ge rfl (fun c2 => no_le (a := 7) c2 hw (by omega)) (fun c2 => ?_)
        refine X_run rfl trivial ?_
        refine X_callV (args := [.int (nI p), .int (nI w)]) (bc := 540) (bs := 4860) (bc1 := 0) (bs1 := 0) rfl (by decide) hy2.1 rfl rfl (Nat.le_of_ble_eq_true rfl) (c_RpartyTold hY2 hW hM2.1 hp (by omega)) ?_
        rintro _ _ ⟨rfl, rfl⟩
        refine X_run rfl ?_ ?_
        · simp [md_s, md_w, rget, r_a, r_b, r_c, r_i, r_l, nI_s1]
        try simp only [md_s, md_w, rget_some, r_a, r_b, r_c, r_i, r_l, r_nx, r_pc, Nat.reduceEqDiff, false_and, if_false, nI_s1]
        exact k2
      · refine X_run rfl trivial ?_
        refine X_icmp_ge rfl (fun c2 => ?_) (fun c2 => absurd (show (7 : Int32) ≤ nI 7 by decide) c2)
        refine X_run rfl trivial ?_
        unfold dgP1 at k
        generalize iter (fun w acc => acc * 31 + (toldP K p w).toInt64) 7 a0 = a1 at k ⊢
        refine Eg.sub (ls' := [(0, .ref Y), (1, .long a1), (3, .int (nI p)), (4, .int (nI 0))]) ?_ ⟨rfl, rfl, rfl, rfl, trivial⟩
        refine Eg_iter (fun m (acc : Int64) => Eg g (d + 4) mX11_digest 540 4860 (Zr g PP) 83 [(0, .ref Y), (1, .long acc), (3, .int (nI p)), (4, .int (nI m))] [] (md S2 D2)) (fun m acc => (acc * 31 + (k_ba K p m).toInt64) * 31 + (k_co K p m).toInt64) (k_nm K) a1 (fun m hm k2 => ?_) ?_
        · have v := (hM2.1.2.1 p hp).2.2.2 m (by omega)
          refine X_run rfl ?_ ?_
          · simp [md_s, md_w, rget, r_a, r_b, r_c, r_i, r_l, hy2, hs2, hc2]
          try simp only [md_s, md_w, rget_some, r_a, r_b, r_c, r_i, r_l, r_nx, r_pc, Nat.reduceEqDiff, false_and, if_false, hy2, hs2, hc2]
          refine X_icmp_ge rfl (fun c2 => no_le c2 hm (by omega)) (fun c2 => ?_)
          refine X_run rfl ?_ ?_
          · simp [md_s, md_w, rget, r_a, r_b, r_c, r_i, r_l, hy2, hs2, ha2, i5, vx (show 5 * p + m < 50 by omega) (by decide), v, nI_s1]
          try simp only [md_s, md_w, rget_some, r_a, r_b, r_c, r_i, r_l, r_nx, r_pc, Nat.reduceEqDiff, false_and, if_false, hy2, hs2, ha2, i5, vx (show 5 * p + m < 50 by omega) (by decide), v, nI_s1]
          exact k2
        · refine X_run rfl ?_ ?_
          · simp [md_s, md_w, rget, r_a, r_b, r_c, r_i, r_l, hy2, hs2, hc2]
          try simp only [md_s, md_w, rget_some, r_a, r_b, r_c, r_i, r_l, r_nx, r_pc, Nat.reduceEqDiff, false_and, if_false, hy2, hs2, hc2]
          refine X_icmp_ge rfl (fun c2 => ?_) (fun c2 => no_nle c2 (Nat.le_refl _) (by omega))
          refine X_run rfl ?_ ?_
          · simp [md_s, md_w, rget, r_a, r_b, r_c, r_i, r_l, nI_s1]
          try simp only [md_s, md_w, rget_some, r_a, r_b, r_c, r_i, r_l, r_nx, r_pc, Nat.reduceEqDiff, false_and, if_false, nI_s1]
          exact Eg.sub k ⟨rfl, rfl, rfl, trivial⟩
    · rw [show iter (dgP1 K) (k_np K) (dgC K (nI T.length) (nI P.length) 647) = dgP K (dgC K (nI T.length) (nI P.length) 647) from rfl]
      generalize hdp : dgP K (dgC K (nI T.length) (nI P.length) 647) = d2
      refine X_run rfl ?_ ?_
      · simp [md_s, md_w, rget, r_a, r_b, r_c, r_i, r_l, hy2, hs2, hc2]
      try simp only [md_s, md_w, rget_some, r_a, r_b, r_c, r_i, r_l, r_nx, r_pc, Nat.reduceEqDiff, false_and, if_false, hy2, hs2, hc2]
      refine X_icmp_ge rfl (fun c1 => ?_) (fun c1 => no_nle c1 (Nat.le_refl _) (by omega))
      refine X_run rfl trivial ?_
      refine Eg.sub (ls' := [(0, .ref Y), (1, .long d2), (3, .int (nI 0))]) ?_ ⟨rfl, rfl, rfl, trivial⟩
      refine Eg_iter (fun m (acc : Int64) => Eg g (d + 4) mX11_digest 540 4860 (Zr g PP) 151 [(0, .ref Y), (1, .long acc), (3, .int (nI m))] [] (md S2 D2)) (fun m acc => iter (fun w acc => acc * 31 + (toldM K m w).toInt64) 4 acc) (k_nm K) d2 (fun m hm k => ?_) ?_
      · generalize iter (fun m acc => iter (fun w acc => acc * 31 + (toldM K m w).toInt64) 4 acc) m d2 = a0 at k ⊢
        refine X_run rfl ?_ ?_
        · simp [md_s, md_w, rget, r_a, r_b, r_c, r_i, r_l, hy2, hs2, hc2]
        try simp only [md_s, md_w, rget_some, r_a, r_b, r_c, r_i, r_l, r_nx, r_pc, Nat.reduceEqDiff, false_and, if_false, hy2, hs2, hc2]
        refine X_icmp_ge rfl (fun c2 => no_le c2 hm (by omega)) (fun c2 => ?_)
        refine X_run rfl trivial ?_
        refine Eg_iter (fun w (acc : Int64) => Eg g (d + 4) mX11_digest 540 4860 (Zr g PP) 165 [(0, .ref Y), (1, .long acc), (3, .int (nI m)), (4, .int (nI w))] [] (md S2 D2)) (fun w acc => acc * 31 + (toldM K m w).toInt64) 4 a0 (fun w hw k2 => ?_) ?_
        · refine X_run rfl trivial ?_
          refine X_icmp_ge rfl (fun c2 => no_le (a := 4) c2 hw (by omega)) (fun c2 => ?_)
          refine X_run rfl trivial ?_
          refine X_callV (args := [.int (nI m), .int (nI w)]) (bc := 540) (bs := 4860) (bc1 := 0) (bs1 := 0) rfl (by decide) hy2.1 rfl rfl (Nat.le_of_ble_eq_true rfl) (c_RmoneyTold hY2 hW hM2.1 hm (by omega)) ?_
          rintro _ _ ⟨rfl, rfl⟩
          refine X_run rfl ?_ ?_
          · simp [md_s, md_w, rget, r_a, r_b, r_c, r_i, r_l, nI_s1]
          try simp only [md_s, md_w, rget_some, r_a, r_b, r_c, r_i, r_l, r_nx, r_pc, Nat.reduceEqDiff, false_and, if_false, nI_s1]
          exact k2
        · refine X_run rfl trivial ?_
          refine X_icmp_ge rfl (fun c2 => ?_) (fun c2 => absurd (show (4 : Int32) ≤ nI 4 by decide) c2)
          refine X_run rfl ?_ ?_
          · simp [md_s, md_w, rget, r_a, r_b, r_c, r_i, r_l, nI_s1]
          try simp only [md_s, md_w, rget_some, r_a, r_b, r_c, r_i, r_l, r_nx, r_pc, Nat.reduceEqDiff, false_and, if_false, nI_s1]
          exact Eg.sub k ⟨rfl, rfl, rfl, trivial⟩
      · rw [show iter (fun m acc => iter (fun w acc => acc * 31 + (toldM K m w).toInt64) 4 acc) (k_nm K) d2 = dgM K d2 from rfl]
        generalize hdm : dgM K d2 = d3
        refine X_run rfl ?_ ?_
        · simp [md_s, md_w, rget, r_a, r_b, r_c, r_i, r_l, hy2, hs2, hc2]
        try simp only [md_s, md_w, rget_some, r_a, r_b, r_c, r_i, r_l, r_nx, r_pc, Nat.reduceEqDiff, false_and, if_false, hy2, hs2, hc2]
        refine X_icmp_ge rfl (fun c1 => ?_) (fun c1 => no_nle c1 (Nat.le_refl _) (by omega))
        refine X_run rfl trivial ?_
        refine Eg.sub (ls' := [(0, .ref Y), (1, .long d3), (3, .int (nI 0))]) ?_ ⟨rfl, rfl, rfl, trivial⟩
        refine Eg.fit (bc := 9 * (k_ny K - 0)) (bs := 81 * (k_ny K - 0)) ?_ (by omega) (by omega)
        have hF : ∃ F : Nat → Int64 → Int64, (∀ n a, F n a = iter (fun w acc => acc * 31 + (toldY K n w).toInt64) 9 a) ∧ iter F (k_ny K) d3 = dgY K d3 := ⟨fun n acc => iter (fun w acc => acc * 31 + (toldY K n w).toInt64) 9 acc, fun _ _ => rfl, rfl⟩
        obtain ⟨F, hF, hFY⟩ := hF
        refine Eg_up (α := ShT × DaT) (fun n x => Eg g (d + 4) mX11_digest (9 * (k_ny K - n)) (81 * (k_ny K - n)) (Zr g PP) 200 [(0, .ref Y), (1, .long (iter F n d3)), (3, .int (nI n))] [] (md x.1 x.2)) (fun n x => Gro S2 x.1 (9 * n) ∧ New S2 D2 x.2) (k_ny K) (fun n x hn hI k => ?_) (fun x hI => ?_) (S2, D2) ⟨Gro.rf, New.rf⟩
        · obtain ⟨S4, D4⟩ := x
          obtain ⟨hG4, hN4⟩ := hI
          dsimp only at hG4 hN4 ⊢
          have hY4 := hY2.gro hG4 hz2
          have hz4 : Y + 48 ≤ s_sz S4 := by have := hG4.1; omega
          have hM4 := hM2.new hN4 hz2 (by omega)
          obtain ⟨hy4, -, ⟨hL4, -⟩, -⟩ := id hY4
          have hs4 := hL4.all.1
          have hc4 := hM4.1.1
          unfold RrC at hc4
          have k : ∀ y : ShT × DaT, Gro S2 y.1 (9 * (n + 1)) ∧ New S2 D2 y.2 → Eg g (d + 4) mX11_digest (9 * (k_ny K - (n + 1))) (81 * (k_ny K - (n + 1))) (Zr g PP) 200 [(0, .ref Y), (1, .long (F n (iter F n d3))), (3, .int (nI (n + 1)))] [] (md y.1 y.2) := k
          generalize iter F n d3 = a0 at k ⊢
          rw [hF] at k
          refine X_run rfl ?_ ?_
          · simp [md_s, md_w, rget, r_a, r_b, r_c, r_i, r_l, hy4, hs4, hc4]
          try simp only [md_s, md_w, rget_some, r_a, r_b, r_c, r_i, r_l, r_nx, r_pc, Nat.reduceEqDiff, false_and, if_false, hy4, hs4, hc4]
          refine X_icmp_ge rfl (fun c2 => no_le c2 hn (by omega)) (fun c2 => ?_)
          refine X_run rfl trivial ?_
          refine Eg.fit (bc := 9 * (k_ny K - (n + 1)) + (9 - 0)) (bs := 81 * (k_ny K - (n + 1)) + 9 * (9 - 0)) ?_ (by omega) (by omega)
          refine Eg_up (α := ShT × DaT) (fun w x => Eg g (d + 4) mX11_digest (9 * (k_ny K - (n + 1)) + (9 - w)) (81 * (k_ny K - (n + 1)) + 9 * (9 - w)) (Zr g PP) 214 [(0, .ref Y), (1, .long (iter (fun w acc => acc * 31 + (toldY K n w).toInt64) w a0)), (3, .int (nI n)), (4, .int (nI w))] [] (md x.1 x.2)) (fun w x => Gro S4 x.1 w ∧ New S4 D4 x.2) 9 (fun w x hw hI k2 => ?_) (fun x hI => ?_) (S4, D4) ⟨Gro.rf, New.rf⟩
          · obtain ⟨S5, D5⟩ := x
            obtain ⟨hG5, hN5⟩ := hI
            dsimp only at hG5 hN5 ⊢
            have hY5 := hY4.gro hG5 hz4
            have hz5 : Y + 48 ≤ s_sz S5 := by have := hG5.1; omega
            have hM5 := hM4.new hN5 hz4 (by omega)
            have k2 : ∀ y : ShT × DaT, Gro S4 y.1 (w + 1) ∧ New S4 D4 y.2 → Eg g (d + 4) mX11_digest (9 * (k_ny K - (n + 1)) + (9 - (w + 1))) (81 * (k_ny K - (n + 1)) + 9 * (9 - (w + 1))) (Zr g PP) 214 [(0, .ref Y), (1, .long (iter (fun w acc => acc * 31 + (toldY K n w).toInt64) w a0 * 31 + (toldY K n w).toInt64)), (3, .int (nI n)), (4, .int (nI (w + 1)))] [] (md y.1 y.2) := k2
            generalize iter (fun w acc => acc * 31 + (toldY K n w).toInt64) w a0 = a1 at k2 ⊢
            refine X_run rfl trivial ?_
            refine X_icmp_ge rfl (fun c3 => no_le (a := 9) c3 hw (by omega)) (fun c3 => ?_)
            rw [show 9 * (k_ny K - (n + 1)) + (9 - w) = (9 * (k_ny K - (n + 1)) + (9 - (w + 1))) + 1 by omega, show 81 * (k_ny K - (n + 1)) + 9 * (9 - w) = (81 * (k_ny K - (n + 1)) + 9 * (9 - (w + 1))) + 9 by omega]
            refine X_run rfl trivial ?_
            refine X_callV (args := [.int (nI n), .int (nI w)]) (bc1 := 1) (bs1 := 9) rfl (by decide) hY5.1.1 rfl rfl (Nat.le_of_ble_eq_true rfl) (c_RpaymentTold (d := d + 3) hY5 hz5 hW hM5.1 hn (by omega)) ?_
            rintro _ _ ⟨S6, D6, rfl, rfl, hG6, hO6⟩
            refine X_run rfl ?_ ?_
            · simp [md_s, md_w, rget, r_a, r_b, r_c, r_i, r_l, nI_s1]
            try simp only [md_s, md_w, rget_some, r_a, r_b, r_c, r_i, r_l, r_nx, r_pc, Nat.reduceEqDiff, false_and, if_false, nI_s1]
            exact k2 (S6, D6) ⟨hG5.tr hG6, hN5.tr (New.o hO6) (by have := hG5.1; omega)⟩
          · obtain ⟨S5, D5⟩ := x
            obtain ⟨hG5, hN5⟩ := hI
            dsimp only at hG5 hN5 ⊢
            refine X_run rfl trivial ?_
            refine X_icmp_ge rfl (fun c2 => ?_) (fun c2 => absurd (show (9 : Int32) ≤ nI 9 by decide) c2)
            refine X_run rfl ?_ ?_
            · simp [md_s, md_w, rget, r_a, r_b, r_c, r_i, r_l, nI_s1]
            try simp only [md_s, md_w, rget_some, r_a, r_b, r_c, r_i, r_l, r_nx, r_pc, Nat.reduceEqDiff, false_and, if_false, nI_s1]
            exact Eg.fit (Eg.sub (k (S5, D5) ⟨by have := hG4.tr hG5; rw [show 9 * n + 9 = 9 * (n + 1) by omega] at this; exact this, hN4.tr hN5 (by have := hG4.1; omega)⟩) ⟨rfl, rfl, rfl, trivial⟩) (by omega) (by omega)
        · obtain ⟨S4, D4⟩ := x
          obtain ⟨hG4, hN4⟩ := hI
          dsimp only at hG4 hN4 ⊢
          rw [hFY]
          generalize hdy : dgY K d3 = d4
          have hY4 := hY2.gro hG4 hz2
          have hM4 := hM2.new hN4 hz2 (by omega)
          obtain ⟨hy4, hzz4, ⟨hL4, -⟩, -⟩ := id hY4
          have hs4 := hL4.all.1
          have hc4 := hM4.1.1
          unfold RrC at hc4
          obtain ⟨p1, p2, p3, p4⟩ := hM4.2.2.1
          refine X_run rfl ?_ ?_
          · simp [md_s, md_w, rget, r_a, r_b, r_c, r_i, r_l, hy4, hs4, hc4]
          try simp only [md_s, md_w, rget_some, r_a, r_b, r_c, r_i, r_l, r_nx, r_pc, Nat.reduceEqDiff, false_and, if_false, hy4, hs4, hc4]
          refine X_icmp_ge rfl (fun c1 => ?_) (fun c1 => no_nle c1 (Nat.le_refl _) (by omega))
          refine X_run rfl trivial ?_
          refine Eg.fit (bc := 0) (bs := 0) ?_ (Nat.zero_le _) (Nat.zero_le _)
          refine Eg.sub (ls' := [(0, .ref Y), (1, .long d4), (3, .int (nI 0))]) ?_ ⟨rfl, rfl, rfl, trivial⟩
          refine Eg_iter (fun i (acc : Int64) => Eg g (d + 4) mX11_digest 0 0 (Zr g PP) 250 [(0, .ref Y), (1, .long acc), (3, .int (nI i))] [] (md S4 D4)) (fun i acc => acc * 31 + (nI (P.getD i 0)).toInt64) P.length d4 (fun i hi k => ?_) ?_
          · have v := p2 i hi
            refine X_run rfl ?_ ?_
            · simp [md_s, md_w, rget, r_a, r_b, r_c, r_i, r_l, hy4, p1]
            try simp only [md_s, md_w, rget_some, r_a, r_b, r_c, r_i, r_l, r_nx, r_pc, Nat.reduceEqDiff, false_and, if_false, hy4, p1]
            refine X_icmp_ge rfl (fun c2 => no_le c2 hi (by omega)) (fun c2 => ?_)
            refine X_run rfl ?_ ?_
            · simp [md_s, md_w, rget, r_a, r_b, r_c, r_i, r_l, hy4, hzz4, vx (show i < 2400 by omega) (by decide), v, nI_s1]
            try simp only [md_s, md_w, rget_some, r_a, r_b, r_c, r_i, r_l, r_nx, r_pc, Nat.reduceEqDiff, false_and, if_false, hy4, hzz4, vx (show i < 2400 by omega) (by decide), v, nI_s1]
            exact k
          · refine X_run rfl ?_ ?_
            · simp [md_s, md_w, rget, r_a, r_b, r_c, r_i, r_l, hy4, p1]
            try simp only [md_s, md_w, rget_some, r_a, r_b, r_c, r_i, r_l, r_nx, r_pc, Nat.reduceEqDiff, false_and, if_false, hy4, p1]
            refine X_icmp_ge rfl (fun c2 => ?_) (fun c2 => no_nle c2 (Nat.le_refl _) (by omega))
            refine X_run rfl trivial ?_
            refine X_lret rfl rfl ⟨S4, D4, 12 + 9 * k_ny K, by omega, ?_, rfl, hG.tr hG4, ((hO1.tr hN.outR).tr (OutR.mono hN4.outR (by have := hG.1; omega))), hM4⟩
            unfold dgR
            rw [hdp, hdm, hdy]
end REFDIG
