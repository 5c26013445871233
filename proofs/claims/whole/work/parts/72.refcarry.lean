/-! a sentence carried out, by the reference -/
def CoO (Y A2 : Nat) (D D1 : DaT) : Prop := ∀ a, (a < A2 ∨ A2 + 20 ≤ a) → (∀ k, ¬ (k = 364 ∧ a = Y) → d_fi D1 k a = d_fi D k a) ∧ (∀ k, d_fl D1 k a = d_fl D k a) ∧ d_ai D1 a = d_ai D a ∧ d_al D1 a = d_al D a
theorem CoO.rf {Y A2 : Nat} {D : DaT} : CoO Y A2 D D := fun _ _ => ⟨fun _ _ => rfl, fun _ => rfl, rfl, rfl⟩
theorem CoO.tr {Y A2 : Nat} {D D1 D2 : DaT} (h : CoO Y A2 D D1) (h2 : CoO Y A2 D1 D2) : CoO Y A2 D D2 := fun a ha => ⟨fun k hk => ((h2 a ha).1 k hk).trans ((h a ha).1 k hk), fun k => ((h2 a ha).2.1 k).trans ((h a ha).2.1 k), (h2 a ha).2.2.1.trans (h a ha).2.2.1, (h2 a ha).2.2.2.trans (h a ha).2.2.2⟩
theorem CoO.at {Y A2 : Nat} {D : DaT} {v : Int32} : CoO Y A2 D (pfi D 364 Y v) := fun a ha => ⟨fun k hk => by rw [rd_fi, if_neg hk], fun _ => rfl, rfl, rfl⟩
theorem CoO.o {Y A2 : Nat} {D D1 : DaT} (h : Out A2 (A2 + 20) D D1) : CoO Y A2 D D1 := fun a ha => ⟨fun k _ => (h a ha).1 k, (h a ha).2.1, (h a ha).2.2.1, (h a ha).2.2.2⟩
theorem TokR.co {D D1 : DaT} {Y A2 n : Nat} {T : List Nat} (h : TokR D Y T n) (ho : CoO Y A2 D D1) (hA : Y + 8 ≤ A2) : TokR D1 Y T n := fun j hj => by
  have := h j hj
  unfold TkP at this ⊢
  rw [(ho (Y + 4) (by omega)).2.2.1, (ho (Y + 5) (by omega)).2.2.1, (ho (Y + 6) (by omega)).2.2.1, (ho (Y + 7) (by omega)).2.2.2]
  exact this
/-- the place that is looked at is written -/
theorem at_wr (D : DaT) {Y A2 : Nat} (v : Int32) (h : Y < A2) : ∃ D1, pfi D 364 Y v = D1 ∧ (d_fi D1 364 Y = v ∧ (∀ k, d_fi D1 k A2 = d_fi D k A2) ∧ d_ai D1 = d_ai D ∧ d_al D1 = d_al D) ∧ CoO Y A2 D D1 ∧ ∀ K, RepR D A2 K → RepR D1 A2 K :=
  ⟨_, rfl, ⟨by rw [rd_fi, if_pos ⟨rfl, rfl⟩], fun k => by rw [rd_fi, if_neg (by omega)], rfl, rfl⟩, CoO.at, fun K hR => hR.out (Out.fi (lo := Y) (hi := Y + 1) (by omega)) (by omega)⟩
def CoP (S : ShT) (D : DaT) (Y A2 : Nat) (T : List Nat) (res : TlR) (e : Nat) : Option Value → Mem → Prop := fun v M1 => ∃ D1, M1 = md S D1 ∧ CoO Y A2 D D1 ∧ match res with
  | .error x => v = some (.int (nI x.1)) ∧ d_fi D1 364 Y = nI x.2 ∧ x.2 ≤ tN T
  | .ok K1 => v = some (.int 0) ∧ d_fi D1 364 Y = nI e ∧ RepR D1 A2 K1
theorem CoP.err {S : ShT} {D D1 : DaT} {Y A2 e x1 x2 : Nat} {T : List Nat} {res : TlR} (hr : res = .error (x1, x2)) (ho : CoO Y A2 D D1) (h : d_fi D1 364 Y = nI x2) (hN : x2 ≤ tN T) : CoP S D Y A2 T res e (some (.int (nI x1))) (md S D1) := by
  subst hr
  exact ⟨D1, rfl, ho, rfl, h, hN⟩
theorem CoP.ok {S : ShT} {D D1 : DaT} {Y A2 e : Nat} {K1 : KT} {T : List Nat} {res : TlR} (hr : res = .ok K1) (ho : CoO Y A2 D D1) (h : d_fi D1 364 Y = nI e) (hR : RepR D1 A2 K1) : CoP S D Y A2 T res e (some (.int 0)) (md S D1) := by
  subst hr
  exact ⟨D1, rfl, ho, rfl, h, hR⟩
theorem pIx_c37 {K : KT} {w : List Nat} (hK : WrK K) (hw : wOk w) : firstIx (k_np K) (fun p => decide (c37 (k_pn K p) = c37 w)) = pIx K w := firstIx_congr (fun i hi => by
  have := c37_inj (hK.1 i hi) hw
  by_cases c : k_pn K i = w
  · rw [decide_eq_true (this.mpr c), decide_eq_true c]
  · rw [decide_eq_false (fun z => c (this.mp z)), decide_eq_false c])
theorem mIx_c37 {K : KT} {w : List Nat} (hK : WrK K) (hw : wOk w) : firstIx (k_nm K) (fun p => decide (c37 (k_mn K p) = c37 w)) = mIx K w := firstIx_congr (fun i hi => by
  have := c37_inj (hK.2.1 i hi) hw
  by_cases c : k_mn K i = w
  · rw [decide_eq_true (this.mpr c), decide_eq_true c]
  · rw [decide_eq_false (fun z => c (this.mp z)), decide_eq_false c])
theorem sN (s k : Nat) : nI s + nI k = nI (s + k) := nI_add s k
theorem pE_none {n : Nat} {o : Option Nat} (h : ∀ q, o = some q → q < n) (hn : n < 2 ^ 31) : pE o = -1 ↔ o.isSome = false := by
  rw [pE_some h hn]
  cases o <;> simp
theorem not_b2i (b : Bool) : 1 - b2i b = b2i (!b) := by cases b <;> decide
theorem inR_n {v lo hi : Nat} (h1 : v < 2 ^ 31) (h2 : lo < 2 ^ 31) (h3 : hi < 2 ^ 31) : b2i (inR (nI v) (nI lo) (nI hi)) = b2i (decide (lo ≤ v ∧ v ≤ hi)) := by
  congr 1
  rw [Bool.eq_iff_iff, inR_nI h1 h2 h3, decide_eq_true_eq]
section REFCARRY
variable {g : GG} {d c : Nat} {S : ShT} {D : DaT} {Y A A2 s e : Nat} {K : KT} {T : List Nat}
theorem c_carry1 (hY : MoL S Y A A2) (hT : TokR D Y T (tN T + 1)) (hW : WfK K) (hK : WrK K) (hR : RepR D A2 K) (hs : d_fi D 364 Y = nI s) (hk : kdA T s = 9 ∨ kdA T s = 10) (h1 : kdA T (s + 1) = 12) : EvM g (d + 3) mX11_carryOut 0 0 [.ref Y] (md S D) (CoP S D Y A2 T (tellS T K s) (s + 3)) := by
  obtain ⟨l1, l2, l3⟩ := hY.lo
  obtain ⟨hy, hz, ⟨-, hL⟩, -⟩ := id hY
  obtain ⟨hts, hta, htb⟩ := hL.all
  obtain ⟨w1, w2, w3, w4⟩ := id hW
  have hN := tN_le T
  have hs1 := kdA_lo h1 (by decide)
  have x0 := vx (show s < 402 by omega) (by decide)
  have x1 := vx (show s + 1 < 402 by omega) (by decide)
  have ty := kdA_ty hT (show s ≤ tN T by omega)
  have v1 : d_ai D (Y + 6) (s + 1) = nI (nmV T (s + 1)) := (hT (s + 1) (by omega)).2.2.2 hs1.2
  have hq := nm_le h1
  have k3 : (3 : Int32) = nI 3 := rfl
  obtain ⟨D1, e1, ⟨f1, g1, y1, y1'⟩, o1, r1⟩ := at_wr D (Y := Y) (A2 := A2) (nI (s + 1)) (by omega)
  have hR1 := r1 K hR
  have hc1 := hR1.1
  unfold RrC at hc1
  have go : ∀ D2 K1, tellS T K s = .ok K1 → CoO Y A2 D D2 → RepR D2 A2 K1 → Eg g (d + 3) mX11_carryOut 0 0 (Zr g (CoP S D Y A2 T (tellS T K s) (s + 3))) 89 [(0, .ref Y), (2, .int (nI s))] [] (md S D2) := fun D2 K1 hr ho hR2 => by
    obtain ⟨D3, e3, ⟨f3, g3, y3, y3'⟩, o3, r3⟩ := at_wr D2 (Y := Y) (A2 := A2) (nI (s + 3)) (by omega)
    refine X_run rfl ?_ ?_
    · simp [md_s, md_w, rget, r_a, r_b, r_c, r_i, r_l, hy, k3, sN, e3]
    try simp only [md_s, md_w, rget_some, r_a, r_b, r_c, r_i, r_l, r_nx, r_pc, Nat.reduceEqDiff, false_and, if_false, hy, k3, sN, e3]
    exact X_iret rfl rfl (CoP.ok hr (ho.tr o3) f3 (r3 K1 hR2))
  have mid : Eg g (d + 3) mX11_carryOut 0 0 (Zr g (CoP S D Y A2 T (tellS T K s) (s + 3))) 29 [(0, .ref Y), (1, .ref A2), (2, .int (nI s)), (3, .int (nI (rk (kdA T s))))] [] (md S D) := by
    refine X_run rfl ?_ ?_
    · simp [md_s, md_w, rget, r_a, r_b, r_c, r_i, r_l, hy, hz, nI_s1, e1, f1, y1, x1, v1]
    try simp only [md_s, md_w, rget_some, r_a, r_b, r_c, r_i, r_l, r_nx, r_pc, Nat.reduceEqDiff, false_and, if_false, hy, hz, nI_s1, e1, f1, y1, x1, v1]
    refine X_cV (args := [.int (nI (nmV T (s + 1)))]) rfl (by decide) hts.1 rfl rfl (Nat.le_of_ble_eq_true rfl) (c_RisWaiting (d := d + 1) hL hW hR1 (by omega)) ?_
    rintro _ _ ⟨rfl, rfl⟩
    refine X_if_ne rfl (fun c2 => ?_) (fun c2 => ?_)
    · have c2 := b2i_nz c2
      have hlt : nmV T (s + 1) < k_ny K := by unfold wtg at c2; rw [Bool.and_eq_true] at c2; exact of_decide_eq_true c2.1
      have xq := vx (show nmV T (s + 1) < 60 by omega) (by decide)
      have hv := hR1.2.2.2 _ hlt
      unfold RrY at hv
      refine X_run rfl trivial ?_
      rcases hk with hk | hk
      · rw [hk]
        refine X_icmp_ne rfl (fun z => absurd (by decide) z) (fun _ => ?_)
        have hr : tellS T K s = .ok (ks_he K (up1 (k_he K) (nmV T (s + 1)) (!(k_he K (nmV T (s + 1)))))) := by
          unfold tellS tellH
          rw [hk, if_neg (by decide), if_neg (by decide), if_neg (by decide), if_pos rfl, if_pos c2]
        obtain ⟨D2, e2, z2, y2⟩ := wr_ai D1 (A2 + 16) (nmV T (s + 1)) (b2i (!(k_he K (nmV T (s + 1)))))
        have hR2 : RepR D2 A2 (ks_he K (up1 (k_he K) (nmV T (s + 1)) (!(k_he K (nmV T (s + 1)))))) := e2 ▸ hR1.he _
        have o2 : CoO Y A2 D1 D2 := CoO.o (e2 ▸ Out.ai (by omega))
        obtain ⟨D3, e3, ⟨f3, g3, y3, y3'⟩, o3, r3⟩ := at_wr D2 (Y := Y) (A2 := A2) (nI (s + 3)) (by omega)
        refine X_run rfl ?_ ?_
        · simp [md_s, md_w, rget, r_a, r_b, r_c, r_i, r_l, hts, htb, xq, hv, not_b2i, e2, hy, k3, sN, e3]
        try simp only [md_s, md_w, rget_some, r_a, r_b, r_c, r_i, r_l, r_nx, r_pc, Nat.reduceEqDiff, false_and, if_false, hts, htb, xq, hv, not_b2i, e2, hy, k3, sN, e3]
        exact X_iret rfl rfl (CoP.ok hr ((o1.tr o2).tr o3) f3 (r3 _ hR2))
      · rw [hk]
        refine X_icmp_ne rfl (fun _ => ?_) (fun z => absurd z (by decide))
        have hr : tellS T K s = .ok (callOffK K (nmV T (s + 1))) := by
          unfold tellS tellC
          rw [hk, if_neg (by decide), if_neg (by decide), if_neg (by decide), if_neg (by decide), if_pos rfl, if_pos c2]
        refine X_run rfl trivial ?_
        refine X_cV (args := [.int (nI (nmV T (s + 1)))]) rfl (by decide) hts.1 rfl rfl (Nat.le_of_ble_eq_true rfl) (c_Rcancel hL hW hR1 hlt) ?_
        rintro _ _ ⟨D2, rfl, rfl, hR2, hO2⟩
        exact Eg.sub (go D2 _ hr (o1.tr (CoO.o hO2)) hR2) ⟨rfl, rfl, trivial⟩
    · have hr : tellS T K s = .error (5, s + 1) := by
        unfold tellS tellH tellC
        rcases hk with hk | hk
        · rw [hk, if_neg (by decide), if_neg (by decide), if_neg (by decide), if_pos rfl, if_neg (nb2i c2)]
        · rw [hk, if_neg (by decide), if_neg (by decide), if_neg (by decide), if_neg (by decide), if_pos rfl, if_neg (nb2i c2)]
      refine X_run rfl trivial ?_
      exact X_iret rfl rfl (CoP.err hr o1 f1 (by omega))
  refine EvM.mk (by decide) (Nat.le_of_ble_eq_true rfl) ?_
  refine X_run rfl ?_ ?_
  · simp [md_s, md_w, rget, r_a, r_b, r_c, r_i, r_l, hy, hz, hs, x0, ty]
  try simp only [md_s, md_w, rget_some, r_a, r_b, r_c, r_i, r_l, r_nx, r_pc, Nat.reduceEqDiff, false_and, if_false, hy, hz, hs, x0, ty]
  rcases hk with hk | hk
  · refine X_icmp_eq rfl (fun _ => mid) (fun z => absurd (by rw [hk]; decide) z)
  · refine X_icmp_eq rfl (fun _ => mid) (fun _ => ?_)
    refine X_run rfl trivial ?_
    refine X_icmp_ne rfl (fun z => absurd (by rw [hk]; decide) z) (fun _ => mid)
theorem c_carry2 (hY : MoL S Y A A2) (hT : TokR D Y T (tN T + 1)) (hW : WfK K) (hK : WrK K) (hR : RepR D A2 K) (hs : d_fi D 364 Y = nI s) (hk : kdA T s = 0 ∨ kdA T s = 2) (h1 : kdA T (s + 1) = 11) (k : ∀ D1, ¬ ((pIx K (wd T (s + 1))).isSome || (mIx K (wd T (s + 1))).isSome) = true → pfi D 364 Y (nI (s + 1)) = D1 → Eg g (d + 3) mX11_carryOut 0 0 (Zr g (CoP S D Y A2 T (tellS T K s) e)) 153 [(0, .ref Y), (1, .ref A2), (2, .int (nI s)), (3, .int (nI (rk (kdA T s))))] [] (md S D1)) : EvM g (d + 3) mX11_carryOut 0 0 [.ref Y] (md S D) (CoP S D Y A2 T (tellS T K s) e) := by
  obtain ⟨l1, l2, l3⟩ := hY.lo
  obtain ⟨hy, hz, ⟨-, hL⟩, -⟩ := id hY
  obtain ⟨hts, hta, htb⟩ := hL.all
  obtain ⟨w1, w2, w3, w4⟩ := id hW
  have hN := tN_le T
  have hs1 := kdA_lo h1 (by decide)
  have x0 := vx (show s < 402 by omega) (by decide)
  have x1 := vx (show s + 1 < 402 by omega) (by decide)
  have ty := kdA_ty hT (show s ≤ tN T by omega)
  have hw := wd_ok h1 (by decide)
  have v1 : d_al D (Y + 7) (s + 1) = c37 (wd T (s + 1)) := (hT (s + 1) (by omega)).2.2.1 (by have := hs1.2; unfold kd at this; omega)
  obtain ⟨D1, e1, ⟨f1, g1, y1, y1'⟩, o1, r1⟩ := at_wr D (Y := Y) (A2 := A2) (nI (s + 1)) (by omega)
  have hR1 := r1 K hR
  have dup : ((pIx K (wd T (s + 1))).isSome || (mIx K (wd T (s + 1))).isSome) = true → CoP S D Y A2 T (tellS T K s) e (some (.int (nI 2))) (md S D1) := fun hc => by
    refine CoP.err ?_ o1 f1 (by omega)
    unfold tellS tellP tellM
    rcases hk with hk | hk
    · rw [hk, if_pos rfl, if_pos hc]
    · rw [hk, if_neg (by decide), if_pos rfl, if_pos hc]
  have mid : Eg g (d + 3) mX11_carryOut 0 0 (Zr g (CoP S D Y A2 T (tellS T K s) e)) 110 [(0, .ref Y), (1, .ref A2), (2, .int (nI s)), (3, .int (nI (rk (kdA T s))))] [] (md S D) := by
    refine X_run rfl ?_ ?_
    · simp [md_s, md_w, rget, r_a, r_b, r_c, r_i, r_l, hy, hz, nI_s1, e1, f1, y1', x1, v1]
    try simp only [md_s, md_w, rget_some, r_a, r_b, r_c, r_i, r_l, r_nx, r_pc, Nat.reduceEqDiff, false_and, if_false, hy, hz, nI_s1, e1, f1, y1', x1, v1]
    refine X_cV (args := [.long (c37 (wd T (s + 1)))]) rfl (by decide) hts.1 rfl rfl (Nat.le_of_ble_eq_true rfl) (c_Rparty hL hW hR1) ?_
    rintro _ _ ⟨rfl, rfl⟩
    rw [pIx_c37 hK hw]
    have hp : pE (pIx K (wd T (s + 1))) = -1 ↔ (pIx K (wd T (s + 1))).isSome = false := pE_none (fun q hq => pIx_lt hq) (by omega)
    have hm : pE (mIx K (wd T (s + 1))) = -1 ↔ (mIx K (wd T (s + 1))).isSome = false := pE_none (fun q hq => mIx_lt hq) (by omega)
    refine X_run rfl trivial ?_
    refine X_icmp_ne rfl (fun c2 => ?_) (fun c2 => ?_)
    · have c2 : (pIx K (wd T (s + 1))).isSome = true := by
        cases hb : (pIx K (wd T (s + 1))).isSome with
        | true => rfl
        | false => exact absurd (hp.mpr hb) c2
      refine X_run rfl trivial ?_
      exact X_iret rfl rfl (dup (by rw [c2]; rfl))
    · have c2 := hp.mp c2
      refine X_run rfl ?_ ?_
      · simp [md_s, md_w, rget, r_a, r_b, r_c, r_i, r_l, hy, hz, f1, y1', x1, v1]
      try simp only [md_s, md_w, rget_some, r_a, r_b, r_c, r_i, r_l, r_nx, r_pc, Nat.reduceEqDiff, false_and, if_false, hy, hz, f1, y1', x1, v1]
      refine X_cV (args := [.long (c37 (wd T (s + 1)))]) rfl (by decide) hts.1 rfl rfl (Nat.le_of_ble_eq_true rfl) (c_Rmoney hL hW hR1) ?_
      rintro _ _ ⟨rfl, rfl⟩
      rw [mIx_c37 hK hw]
      refine X_run rfl trivial ?_
      refine (fun (kf : ¬ pE (mIx K (wd T (s + 1))) = -1 → _) (kt : pE (mIx K (wd T (s + 1))) = -1 → _) => X_icmp_eq rfl kt kf) (fun c3 => ?_) (fun c3 => ?_)
      · have c3 : (mIx K (wd T (s + 1))).isSome = true := by
          cases hb : (mIx K (wd T (s + 1))).isSome with
          | true => rfl
          | false => exact absurd (hm.mpr hb) c3
        refine X_run rfl trivial ?_
        exact X_iret rfl rfl (dup (by rw [c3, Bool.or_true]))
      · exact k D1 (by rw [c2, hm.mp c3]; decide) e1
  refine EvM.mk (by decide) (Nat.le_of_ble_eq_true rfl) ?_
  refine X_run rfl ?_ ?_
  · simp [md_s, md_w, rget, r_a, r_b, r_c, r_i, r_l, hy, hz, hs, x0, ty]
  try simp only [md_s, md_w, rget_some, r_a, r_b, r_c, r_i, r_l, r_nx, r_pc, Nat.reduceEqDiff, false_and, if_false, hy, hz, hs, x0, ty]
  refine X_icmp_eq rfl (fun z => absurd z (by rcases hk with hk | hk <;> (rw [hk]; decide))) (fun _ => ?_)
  refine X_run rfl trivial ?_
  refine X_icmp_ne rfl (fun _ => ?_) (fun z => absurd z (by rcases hk with hk | hk <;> (rw [hk]; decide)))
  refine X_run rfl trivial ?_
  rcases hk with hk | hk
  · exact X_icmp_eq rfl (fun _ => mid) (fun z => absurd (by rw [hk]; decide) z)
  · refine X_icmp_eq rfl (fun _ => mid) (fun _ => ?_)
    refine X_run rfl trivial ?_
    exact X_icmp_ne rfl (fun z => absurd (by rw [hk]; decide) z) (fun _ => mid)
theorem c_carryP (hY : MoL S Y A A2) (hT : TokR D Y T (tN T + 1)) (hW : WfK K) (hK : WrK K) (hR : RepR D A2 K) (hs : d_fi D 364 Y = nI s) (h0 : kdA T s = 0) (h1 : kdA T (s + 1) = 11) (h2 : (kdA T (s + 2) = 1 ∧ kdA T (s + 3) = 12 ∧ e = s + 5) ∨ (kdA T (s + 2) = 13 ∧ e = s + 3)) : EvM g (d + 3) mX11_carryOut 0 0 [.ref Y] (md S D) (CoP S D Y A2 T (tellS T K s) e) := by
  obtain ⟨l1, l2, l3⟩ := hY.lo
  obtain ⟨hy, hz, ⟨-, hL⟩, -⟩ := id hY
  obtain ⟨hts, hta, htb⟩ := hL.all
  obtain ⟨w1, w2, w3, w4⟩ := id hW
  have hN := tN_le T
  have hs1 := kdA_lo h1 (by decide)
  have hs2 : s + 2 < tN T := by rcases h2 with h | h; exact (kdA_lo h.1 (by decide)).1; exact (kdA_lo h.1 (by decide)).1
  have x1 := vx (show s + 1 < 402 by omega) (by decide)
  have x2 := vx (show s + 2 < 402 by omega) (by decide)
  have x3 := vx (show s + 3 < 402 by omega) (by decide)
  have ty2 := kdA_ty hT (show s + 2 ≤ tN T by omega)
  have v1 : d_al D (Y + 7) (s + 1) = c37 (wd T (s + 1)) := (hT (s + 1) (by omega)).2.2.1 (by have := hs1.2; unfold kd at this; omega)
  have k2 : (2 : Int32) = nI 2 := rfl
  have k3 : (3 : Int32) = nI 3 := rfl
  have k5 : (5 : Int32) = nI 5 := rfl
  refine c_carry2 hY hT hW hK hR hs (Or.inl h0) h1 (fun D1 hc e1 => ?_)
  obtain ⟨D1', e1', ⟨f1, g1, y1, y1'⟩, o1, r1⟩ := at_wr D (Y := Y) (A2 := A2) (nI (s + 1)) (by omega)
  have hdd : D1' = D1 := e1'.symm.trans e1
  subst hdd
  have hR1 := r1 K hR
  have hc1 := hR1.1
  unfold RrC at hc1
  rw [h0]
  have et : tellS T K s = (if 10 ≤ k_np K then .error (4, s + 1) else if kdA T (s + 2) = 1 then (if nmV T (s + 3) ≤ 1000000 then .ok (addP K (wd T (s + 1)) (nI (nmV T (s + 3)))) else .error (5, s + 3)) else .ok (addP K (wd T (s + 1)) 0)) := by
    unfold tellS tellP
    rw [h0, if_pos rfl, if_neg hc]
  refine X_run rfl trivial ?_
  refine X_icmp_ne rfl (fun z => absurd (by decide) z) (fun _ => ?_)
  refine X_run rfl ?_ ?_
  · simp [md_s, md_w, rget, r_a, r_b, r_c, r_i, r_l, hts, hc1]
  try simp only [md_s, md_w, rget_some, r_a, r_b, r_c, r_i, r_l, r_nx, r_pc, Nat.reduceEqDiff, false_and, if_false, hts, hc1]
  refine X_icmp_ne rfl (fun c2 => ?_) (fun c2 => ?_)
  · have c2 : ¬ 10 ≤ k_np K := fun z => c2 (by rw [show k_np K = 10 by omega]; rfl)
    rw [if_neg c2] at et
    refine X_run rfl trivial ?_
    refine X_icmp_ne rfl (fun z => absurd (by decide) z) (fun _ => ?_)
    obtain ⟨D2, e2, ⟨f2, g2, y2, y2'⟩, o2, r2⟩ := at_wr D1' (Y := Y) (A2 := A2) (nI (s + 3)) (by omega)
    have hR2 := r2 K hR1
    refine X_run rfl ?_ ?_
    · simp [md_s, md_w, rget, r_a, r_b, r_c, r_i, r_l, hy, hz, k2, sN, x2, y1, ty2]
    try simp only [md_s, md_w, rget_some, r_a, r_b, r_c, r_i, r_l, r_nx, r_pc, Nat.reduceEqDiff, false_and, if_false, hy, hz, k2, sN, x2, y1, ty2]
    rcases h2 with ⟨h2, h3, he⟩ | ⟨h2, he⟩
    · rw [h2] at et ⊢
      rw [if_pos rfl] at et
      refine X_icmp_ne rfl (fun z => absurd (by decide) z) (fun _ => ?_)
      have hs3 := kdA_lo h3 (by decide)
      have v3 : d_ai D (Y + 6) (s + 3) = nI (nmV T (s + 3)) := (hT (s + 3) (by have := kdA_lo h3 (by decide); omega)).2.2.2 (kdA_lo h3 (by decide)).2
      have hq := nm_le h3
      refine X_run rfl ?_ ?_
      · simp [md_s, md_w, rget, r_a, r_b, r_c, r_i, r_l, hy, k3, sN, e2]
      try simp only [md_s, md_w, rget_some, r_a, r_b, r_c, r_i, r_l, r_nx, r_pc, Nat.reduceEqDiff, false_and, if_false, hy, k3, sN, e2]
      refine X_if_eq rfl (fun z => absurd z (by decide)) (fun _ => ?_)
      refine X_run rfl ?_ ?_
      · simp [md_s, md_w, rget, r_a, r_b, r_c, r_i, r_l, hy, hz, f2, y2, y1, x3, v3]
      try simp only [md_s, md_w, rget_some, r_a, r_b, r_c, r_i, r_l, r_nx, r_pc, Nat.reduceEqDiff, false_and, if_false, hy, hz, f2, y2, y1, x3, v3]
      refine X_cS (args := [.int (nI (nmV T (s + 3))), .int 0, .int 1000000]) rfl (by decide) rfl rfl (Nat.le_of_ble_eq_true rfl) c_isIn ?_
      rintro _ _ ⟨rfl, rfl⟩
      rw [if_inR, show inR (nI (nmV T (s + 3))) 0 1000000 = inR (nI (nmV T (s + 3))) (nI 0) (nI 1000000) from rfl, inR_n (by omega) (by decide) (by decide)]
      refine X_if_ne rfl (fun c3 => ?_) (fun c3 => ?_)
      · have c3 := of_decide_eq_true (b2i_nz c3)
        rw [if_pos c3.2] at et
        obtain ⟨D4, e4, ⟨f4, g4, y4, y4'⟩, o4, r4⟩ : ∃ D4, D4 = D2 ∧ (True ∧ True ∧ True ∧ True) ∧ True ∧ True := ⟨_, rfl, ⟨trivial, trivial, trivial, trivial⟩, trivial, trivial⟩
        refine X_run rfl ?_ ?_
        · simp [md_s, md_w, rget, r_a, r_b, r_c, r_i, r_l, hy, hz, nI_s1, y2', y1', x1, v1]
        try simp only [md_s, md_w, rget_some, r_a, r_b, r_c, r_i, r_l, r_nx, r_pc, Nat.reduceEqDiff, false_and, if_false, hy, hz, nI_s1, y2', y1', x1, v1]
        refine X_if_eq rfl (fun z => absurd z (by decide)) (fun _ => ?_)
        refine X_run rfl ?_ ?_
        · simp [md_s, md_w, rget, r_a, r_b, r_c, r_i, r_l, hy, hz, f2, y2, y1, x3, v3]
        try simp only [md_s, md_w, rget_some, r_a, r_b, r_c, r_i, r_l, r_nx, r_pc, Nat.reduceEqDiff, false_and, if_false, hy, hz, f2, y2, y1, x3, v3]
        refine X_cV (args := [.long (c37 (wd T (s + 1))), .int (nI (nmV T (s + 3)))]) rfl (by decide) hts.1 rfl rfl (Nat.le_of_ble_eq_true rfl) (c_RaddParty hL hW hR2 (by omega)) ?_
        rintro _ _ ⟨D5, rfl, rfl, hR5, hO5⟩
        refine X_run rfl trivial ?_
        refine X_if_eq rfl (fun z => absurd z (by decide)) (fun _ => ?_)
        obtain ⟨D6, e6, ⟨f6, g6, y6, y6'⟩, o6, r6⟩ := at_wr D5 (Y := Y) (A2 := A2) (nI (s + 5)) (by omega)
        refine X_run rfl ?_ ?_
        · simp [md_s, md_w, rget, r_a, r_b, r_c, r_i, r_l, hy, k5, sN, e6]
        try simp only [md_s, md_w, rget_some, r_a, r_b, r_c, r_i, r_l, r_nx, r_pc, Nat.reduceEqDiff, false_and, if_false, hy, k5, sN, e6]
        exact X_iret rfl rfl (CoP.ok et (((o1.tr o2).tr (CoO.o hO5)).tr o6) (by rw [he]; exact f6) (r6 _ hR5))
      · have c3 : ¬ nmV T (s + 3) ≤ 1000000 := fun z => nb2i c3 (decide_eq_true ⟨Nat.zero_le _, z⟩)
        rw [if_neg c3] at et
        refine X_run rfl trivial ?_
        exact X_iret rfl rfl (CoP.err et (o1.tr o2) f2 (by omega))
    · rw [h2] at et ⊢
      rw [if_neg (by decide)] at et
      refine X_icmp_ne rfl (fun _ => ?_) (fun z => absurd z (by decide))
      refine X_run rfl ?_ ?_
      · simp [md_s, md_w, rget, r_a, r_b, r_c, r_i, r_l, hy, k3, sN, e2]
      try simp only [md_s, md_w, rget_some, r_a, r_b, r_c, r_i, r_l, r_nx, r_pc, Nat.reduceEqDiff, false_and, if_false, hy, k3, sN, e2]
      refine X_if_eq rfl (fun _ => ?_) (fun z => absurd rfl z)
      refine X_run rfl ?_ ?_
      · simp [md_s, md_w, rget, r_a, r_b, r_c, r_i, r_l, hy, hz, nI_s1, y2', y1', x1, v1]
      try simp only [md_s, md_w, rget_some, r_a, r_b, r_c, r_i, r_l, r_nx, r_pc, Nat.reduceEqDiff, false_and, if_false, hy, hz, nI_s1, y2', y1', x1, v1]
      refine X_if_eq rfl (fun _ => ?_) (fun z => absurd rfl z)
      refine X_run rfl trivial ?_
      refine X_cV (args := [.long (c37 (wd T (s + 1))), .int 0]) rfl (by decide) hts.1 rfl rfl (Nat.le_of_ble_eq_true rfl) (c_RaddParty hL hW hR2 (by omega)) ?_
      rintro _ _ ⟨D5, rfl, rfl, hR5, hO5⟩
      refine X_run rfl trivial ?_
      refine X_if_eq rfl (fun _ => ?_) (fun z => absurd rfl z)
      obtain ⟨D6, e6, ⟨f6, g6, y6, y6'⟩, o6, r6⟩ := at_wr D5 (Y := Y) (A2 := A2) (nI (s + 3)) (by omega)
      refine X_run rfl ?_ ?_
      · simp [md_s, md_w, rget, r_a, r_b, r_c, r_i, r_l, hy, k3, sN, e6]
      try simp only [md_s, md_w, rget_some, r_a, r_b, r_c, r_i, r_l, r_nx, r_pc, Nat.reduceEqDiff, false_and, if_false, hy, k3, sN, e6]
      exact X_iret rfl rfl (CoP.ok et (((o1.tr o2).tr (CoO.o hO5)).tr o6) (by rw [he]; exact f6) (r6 _ hR5))
  · have c2 : k_np K = 10 := nI_inj (by omega) (by decide) c2
    rw [if_pos (by omega)] at et
    refine X_run rfl trivial ?_
    exact X_iret rfl rfl (CoP.err et o1 f1 (by omega))
theorem c_carryM (hY : MoL S Y A A2) (hT : TokR D Y T (tN T + 1)) (hW : WfK K) (hK : WrK K) (hR : RepR D A2 K) (hs : d_fi D 364 Y = nI s) (h0 : kdA T s = 2) (h1 : kdA T (s + 1) = 11) (h3 : kdA T (s + 3) = 12) (h5 : kdA T (s + 5) = 12) : EvM g (d + 3) mX11_carryOut 0 0 [.ref Y] (md S D) (CoP S D Y A2 T (tellS T K s) (s + 7)) := by
  obtain ⟨l1, l2, l3⟩ := hY.lo
  obtain ⟨hy, hz, ⟨-, hL⟩, -⟩ := id hY
  obtain ⟨hts, hta, htb⟩ := hL.all
  obtain ⟨w1, w2, w3, w4⟩ := id hW
  have hN := tN_le T
  have hs1 := kdA_lo h1 (by decide)
  have hs3 := kdA_lo h3 (by decide)
  have hs5 := kdA_lo h5 (by decide)
  have x1 := vx (show s + 1 < 402 by omega) (by decide)
  have x3 := vx (show s + 3 < 402 by omega) (by decide)
  have x5 := vx (show s + 5 < 402 by omega) (by decide)
  have v1 : d_al D (Y + 7) (s + 1) = c37 (wd T (s + 1)) := (hT (s + 1) (by omega)).2.2.1 (by have := hs1.2; unfold kd at this; omega)
  have v3 : d_ai D (Y + 6) (s + 3) = nI (nmV T (s + 3)) := (hT (s + 3) (by omega)).2.2.2 hs3.2
  have v5 : d_ai D (Y + 6) (s + 5) = nI (nmV T (s + 5)) := (hT (s + 5) (by omega)).2.2.2 hs5.2
  have hq3 := nm_le h3
  have hq5 := nm_le h5
  have k3 : (3 : Int32) = nI 3 := rfl
  have k5 : (5 : Int32) = nI 5 := rfl
  have k7 : (7 : Int32) = nI 7 := rfl
  refine c_carry2 hY hT hW hK hR hs (Or.inr h0) h1 (fun D1 hc e1 => ?_)
  obtain ⟨D1', e1', ⟨f1, g1, y1, y1'⟩, o1, r1⟩ := at_wr D (Y := Y) (A2 := A2) (nI (s + 1)) (by omega)
  have hdd : D1' = D1 := e1'.symm.trans e1
  subst hdd
  have hR1 := r1 K hR
  have hc1 := hR1.1
  unfold RrC at hc1
  rw [h0]
  have et : tellS T K s = (if 5 ≤ k_nm K then .error (4, s + 1) else if ¬ (1 ≤ nmV T (s + 3) ∧ nmV T (s + 3) ≤ 1000) then .error (5, s + 3) else if ¬ (1 ≤ nmV T (s + 5) ∧ nmV T (s + 5) ≤ 23) then .error (5, s + 5) else .ok (addM K (wd T (s + 1)) (nI (nmV T (s + 3))) (nI (nmV T (s + 5))))) := by
    unfold tellS tellM
    rw [h0, if_neg (by decide), if_pos rfl, if_neg hc]
  refine X_run rfl trivial ?_
  refine X_icmp_ne rfl (fun _ => ?_) (fun z => absurd z (by decide))
  refine X_run rfl ?_ ?_
  · simp [md_s, md_w, rget, r_a, r_b, r_c, r_i, r_l, hts, hc1]
  try simp only [md_s, md_w, rget_some, r_a, r_b, r_c, r_i, r_l, r_nx, r_pc, Nat.reduceEqDiff, false_and, if_false, hts, hc1]
  refine X_icmp_ne rfl (fun c2 => ?_) (fun c2 => ?_)
  · have c2 : ¬ 5 ≤ k_nm K := fun z => c2 (by rw [show k_nm K = 5 by omega]; rfl)
    rw [if_neg c2] at et
    refine X_run rfl trivial ?_
    refine X_icmp_ne rfl (fun _ => ?_) (fun z => absurd z (by decide))
    obtain ⟨D2, e2, ⟨f2, g2, y2, y2'⟩, o2, r2⟩ := at_wr D1' (Y := Y) (A2 := A2) (nI (s + 3)) (by omega)
    have hR2 := r2 K hR1
    refine X_run rfl ?_ ?_
    · simp [md_s, md_w, rget, r_a, r_b, r_c, r_i, r_l, hy, hz, k3, sN, e2, f2, y2, y1, x3, v3]
    try simp only [md_s, md_w, rget_some, r_a, r_b, r_c, r_i, r_l, r_nx, r_pc, Nat.reduceEqDiff, false_and, if_false, hy, hz, k3, sN, e2, f2, y2, y1, x3, v3]
    refine X_cS (args := [.int (nI (nmV T (s + 3))), .int 1, .int 1000]) rfl (by decide) rfl rfl (Nat.le_of_ble_eq_true rfl) c_isIn ?_
    rintro _ _ ⟨rfl, rfl⟩
    rw [if_inR, show inR (nI (nmV T (s + 3))) 1 1000 = inR (nI (nmV T (s + 3))) (nI 1) (nI 1000) from rfl, inR_n (by omega) (by decide) (by decide)]
    refine X_if_ne rfl (fun c3 => ?_) (fun c3 => ?_)
    · have c3 := of_decide_eq_true (b2i_nz c3)
      rw [if_neg (fun z => z c3)] at et
      obtain ⟨D3, e3, ⟨f3, g3, y3, y3'⟩, o3, r3⟩ := at_wr D2 (Y := Y) (A2 := A2) (nI (s + 5)) (by omega)
      have hR3 := r3 K hR2
      refine X_run rfl ?_ ?_
      · simp [md_s, md_w, rget, r_a, r_b, r_c, r_i, r_l, hy, hz, k5, sN, e3, f3, y3, y2, y1, x5, v5]
      try simp only [md_s, md_w, rget_some, r_a, r_b, r_c, r_i, r_l, r_nx, r_pc, Nat.reduceEqDiff, false_and, if_false, hy, hz, k5, sN, e3, f3, y3, y2, y1, x5, v5]
      refine X_cS (args := [.int (nI (nmV T (s + 5))), .int 1, .int 23]) rfl (by decide) rfl rfl (Nat.le_of_ble_eq_true rfl) c_isIn ?_
      rintro _ _ ⟨rfl, rfl⟩
      rw [if_inR, show inR (nI (nmV T (s + 5))) 1 23 = inR (nI (nmV T (s + 5))) (nI 1) (nI 23) from rfl, inR_n (by omega) (by decide) (by decide)]
      refine X_if_ne rfl (fun c4 => ?_) (fun c4 => ?_)
      · have c4 := of_decide_eq_true (b2i_nz c4)
        rw [if_neg (fun z => z c4)] at et
        refine X_run rfl ?_ ?_
        · simp [md_s, md_w, rget, r_a, r_b, r_c, r_i, r_l, hy, hz, nI_s1, y3', y2', y1', x1, v1, k3, sN, x3, y3, y2, y1, v3, f3, x5, v5]
        try simp only [md_s, md_w, rget_some, r_a, r_b, r_c, r_i, r_l, r_nx, r_pc, Nat.reduceEqDiff, false_and, if_false, hy, hz, nI_s1, y3', y2', y1', x1, v1, k3, sN, x3, y3, y2, y1, v3, f3, x5, v5]
        refine X_cV (args := [.long (c37 (wd T (s + 1))), .int (nI (nmV T (s + 3))), .int (nI (nmV T (s + 5)))]) rfl (by decide) hts.1 rfl rfl (Nat.le_of_ble_eq_true rfl) (c_RaddMoney hL hW hR3 (by omega)) ?_
        rintro _ _ ⟨D5, rfl, rfl, hR5, hO5⟩
        obtain ⟨D6, e6, ⟨f6, g6, y6, y6'⟩, o6, r6⟩ := at_wr D5 (Y := Y) (A2 := A2) (nI (s + 7)) (by omega)
        refine X_run rfl ?_ ?_
        · simp [md_s, md_w, rget, r_a, r_b, r_c, r_i, r_l, hy, k7, sN, e6]
        try simp only [md_s, md_w, rget_some, r_a, r_b, r_c, r_i, r_l, r_nx, r_pc, Nat.reduceEqDiff, false_and, if_false, hy, k7, sN, e6]
        exact X_iret rfl rfl (CoP.ok et ((((o1.tr o2).tr o3).tr (CoO.o hO5)).tr o6) f6 (r6 _ hR5))
      · rw [if_pos (fun z => nb2i c4 (decide_eq_true z))] at et
        refine X_run rfl trivial ?_
        exact X_iret rfl rfl (CoP.err et ((o1.tr o2).tr o3) f3 (by omega))
    · rw [if_pos (fun z => nb2i c3 (decide_eq_true z))] at et
      refine X_run rfl trivial ?_
      exact X_iret rfl rfl (CoP.err et (o1.tr o2) f2 (by omega))
  · have c2 : k_nm K = 5 := nI_inj (by omega) (by decide) c2
    rw [if_pos (by omega)] at et
    refine X_run rfl trivial ?_
    exact X_iret rfl rfl (CoP.err et o1 f1 (by omega))
end REFCARRY
