/-! the reference: its places, and what they say -/
def SamS (S S1 : ShT) (lo hi : Nat) : Prop := ∀ a, lo ≤ a → a < hi → s_tg S1 a = s_tg S a ∧ s_ln S1 a = s_ln S a ∧ (∀ k, s_fr S1 k a = s_fr S k a) ∧ s_ar S1 a = s_ar S a
theorem SamS.sub {S S1 : ShT} {lo hi lo' hi' : Nat} (h : SamS S S1 lo hi) (h1 : lo ≤ lo') (h2 : hi' ≤ hi) : SamS S S1 lo' hi' := fun a ha hb => h a (by omega) (by omega)
theorem SamS.tr {S S1 S2 : ShT} {lo hi : Nat} (h : SamS S S1 lo hi) (h2 : SamS S1 S2 lo hi) : SamS S S2 lo hi := fun a ha hb => by
  obtain ⟨x1, x2, x3, x4⟩ := h a ha hb
  obtain ⟨y1, y2, y3, y4⟩ := h2 a ha hb
  exact ⟨y1.trans x1, y2.trans x2, fun k => (y3 k).trans (x3 k), y4.trans x4⟩
/-- k cells more, the others as they were -/
def Gro (S S1 : ShT) (k : Nat) : Prop := s_sz S1 = s_sz S + k ∧ SamS S S1 0 (s_sz S)
theorem Gro.rf {S : ShT} : Gro S S 0 := ⟨rfl, fun _ _ _ => ⟨rfl, rfl, fun _ => rfl, rfl⟩⟩
theorem Gro.tr {S S1 S2 : ShT} {j k : Nat} (h : Gro S S1 j) (h2 : Gro S1 S2 k) : Gro S S2 (j + k) := ⟨by rw [h2.1, h.1]; omega, h.2.tr (h2.2.sub (Nat.le_refl _) (by rw [h.1]; omega))⟩
theorem new_md (S : ShT) (D : DaT) (t n : Nat) : ∃ S1 D1, w_new (md S D) t n = md S1 D1 ∧ Gro S S1 1 ∧ (s_tg S1 (s_sz S) = t ∧ s_ln S1 (s_sz S) = n) ∧ Out (s_sz S) (s_sz S + 1) D D1 ∧ (∀ j, d_ai D1 (s_sz S) j = 0) ∧ (∀ j, d_al D1 (s_sz S) j = 0) ∧ (∀ k, d_fi D1 k (s_sz S) = 0) ∧ ∀ k, s_fr S1 k (s_sz S) = none := by
  refine ⟨(s_sz S + 1, up1 (s_tg S) (s_sz S) t, up1 (s_ln S) (s_sz S) n, (fun k a => if a = s_sz S then none else s_fr S k a), up1 (s_ar S) (s_sz S) (fun _ => none)), ((fun k a => if a = s_sz S then 0 else d_fi D k a), (fun k a => if a = s_sz S then 0 else d_fl D k a), up1 (d_ai D) (s_sz S) (fun _ => 0), up1 (d_al D) (s_sz S) (fun _ => 0)), rfl, ⟨rfl, fun a _ ha => ?_⟩, ⟨u1_eq, u1_eq⟩, fun a ha => ?_, fun j => ?_, fun j => ?_, fun k => ?_, fun k => ?_⟩
  · have hne : a ≠ s_sz S := by omega
    exact ⟨u1_no hne, u1_no hne, fun k => if_neg hne, u1_no hne⟩
  · have hne : a ≠ s_sz S := by omega
    exact ⟨fun k => if_neg hne, fun k => if_neg hne, u1_no hne, u1_no hne⟩
  · show up1 (d_ai D) (s_sz S) (fun _ => 0) (s_sz S) j = 0
    rw [u1_eq]
  · show up1 (d_al D) (s_sz S) (fun _ => 0) (s_sz S) j = 0
    rw [u1_eq]
  · exact if_pos rfl
  · exact if_pos rfl
theorem StL.sam {S S1 : ShT} {A : Nat} (h : StL S A) (hs : SamS S S1 A (A + 20)) : StL S1 A := by
  have e : ∀ r, r < 20 → s_tg S1 (A + r) = s_tg S (A + r) ∧ s_ln S1 (A + r) = s_ln S (A + r) := fun r hr => ⟨(hs _ (by omega) (by omega)).1, (hs _ (by omega) (by omega)).2.1⟩
  obtain ⟨h1, h2, h3, h4, h5, h6, h7, h8, h9, h10, h11, h12⟩ := h
  refine ⟨(hs A (by omega) (by omega)).1.trans h1, fun i hi => ((hs A (by omega) (by omega)).2.2.1 _).trans (h2 i hi), ?_, ?_, ?_, ?_, ?_, ?_, ?_, ?_, fun i hi => ?_, ?_⟩
  · rw [(e 1 (by decide)).1, (e 1 (by decide)).2]; exact h3
  · rw [(e 2 (by decide)).1, (e 2 (by decide)).2]; exact h4
  · rw [(e 3 (by decide)).1, (e 3 (by decide)).2]; exact h5
  · rw [(e 4 (by decide)).1, (e 4 (by decide)).2]; exact h6
  · rw [(e 5 (by decide)).1, (e 5 (by decide)).2]; exact h7
  · rw [(e 6 (by decide)).1, (e 6 (by decide)).2]; exact h8
  · rw [(e 7 (by decide)).1, (e 7 (by decide)).2]; exact h9
  · rw [(e 8 (by decide)).1, (e 8 (by decide)).2]; exact h10
  · rw [(e (9 + i) (by omega)).1, (e (9 + i) (by omega)).2]; exact h11 i hi
  · rw [(e 19 (by decide)).1, (e 19 (by decide)).2]; exact h12
def MoL (S : ShT) (Y A A2 : Nat) : Prop :=
  (s_tg S Y = 12 ∧ s_fr S 353 Y = some (Y + 1) ∧ s_fr S 356 Y = some (Y + 2) ∧ s_fr S 358 Y = some (Y + 3) ∧ s_fr S 360 Y = some (Y + 4) ∧ s_fr S 361 Y = some (Y + 5) ∧ s_fr S 362 Y = some (Y + 6) ∧ s_fr S 363 Y = some (Y + 7) ∧ s_fr S 365 Y = some A ∧ s_fr S 366 Y = some A2) ∧
  ((s_tg S (Y + 1) = 20 ∧ s_ln S (Y + 1) = 2000) ∧ (s_tg S (Y + 2) = 20 ∧ s_ln S (Y + 2) = 2400) ∧ (s_tg S (Y + 3) = 21 ∧ s_ln S (Y + 3) = 11) ∧ (s_tg S (Y + 4) = 20 ∧ s_ln S (Y + 4) = 402) ∧ (s_tg S (Y + 5) = 20 ∧ s_ln S (Y + 5) = 402) ∧ (s_tg S (Y + 6) = 20 ∧ s_ln S (Y + 6) = 402) ∧ (s_tg S (Y + 7) = 21 ∧ s_ln S (Y + 7) = 402)) ∧
  (StL S A ∧ StL S A2) ∧ (A = Y + 8 ∧ A2 = Y + 28 ∨ A = Y + 28 ∧ A2 = Y + 8)
theorem MoL.sam {S S1 : ShT} {Y A A2 : Nat} (h : MoL S Y A A2) (hs : SamS S S1 Y (Y + 48)) : MoL S1 Y A A2 := by
  have e : ∀ r, r < 48 → s_tg S1 (Y + r) = s_tg S (Y + r) ∧ s_ln S1 (Y + r) = s_ln S (Y + r) := fun r hr => ⟨(hs _ (by omega) (by omega)).1, (hs _ (by omega) (by omega)).2.1⟩
  have e0 := hs Y (by omega) (by omega)
  obtain ⟨h1, h2, ⟨h3, h4⟩, h5⟩ := h
  refine ⟨?_, ?_, ⟨h3.sam (hs.sub (by omega) (by omega)), h4.sam (hs.sub (by omega) (by omega))⟩, h5⟩
  · rw [e0.1, e0.2.2.1, e0.2.2.1, e0.2.2.1, e0.2.2.1, e0.2.2.1, e0.2.2.1, e0.2.2.1, e0.2.2.1, e0.2.2.1]
    exact h1
  · rw [(e 1 (by decide)).1, (e 1 (by decide)).2, (e 2 (by decide)).1, (e 2 (by decide)).2, (e 3 (by decide)).1, (e 3 (by decide)).2, (e 4 (by decide)).1, (e 4 (by decide)).2, (e 5 (by decide)).1, (e 5 (by decide)).2, (e 6 (by decide)).1, (e 6 (by decide)).2, (e 7 (by decide)).1, (e 7 (by decide)).2]
    exact h2
theorem MoL.gro {S S1 : ShT} {Y A A2 k : Nat} (h : MoL S Y A A2) (hg : Gro S S1 k) (hz : Y + 48 ≤ s_sz S) : MoL S1 Y A A2 := h.sam (hg.2.sub (Nat.zero_le _) hz)
def TapR (D : DaT) (Y : Nat) (T : List Nat) : Prop := d_fi D 354 Y = nI T.length ∧ (∀ i, i < T.length → d_ai D (Y + 1) i = nI (T.getD i 0)) ∧ T.length ≤ 2000 ∧ ∀ b ∈ T, b < 256
def PapR (D : DaT) (Y : Nat) (P : List Nat) : Prop := d_fi D 357 Y = nI P.length ∧ (∀ i, i < P.length → d_ai D (Y + 2) i = nI (P.getD i 0)) ∧ P.length ≤ 2160 ∧ ∀ b ∈ P, b < 256
def KwR (D : DaT) (Y : Nat) : Prop := ∀ k, k < 11 → d_al D (Y + 3) k = c37 (kwW k)
/-- what the reference holds: desk, tape, paper, where the last error was -/
def RmR (D : DaT) (Y A : Nat) (K : KT) (T P : List Nat) (e : Int32) : Prop := RepR D A K ∧ TapR D Y T ∧ PapR D Y P ∧ KwR D Y ∧ d_fi D 355 Y = e
theorem RmR.keep {D D1 : DaT} {Y A : Nat} {K K1 : KT} {T P : List Nat} {e : Int32} (h : RmR D Y A K T P e) (hR : RepR D1 A K1) (h1 : ∀ k, 354 ≤ k → k ≤ 357 → d_fi D1 k Y = d_fi D k Y) (h2 : ∀ r, 1 ≤ r → r ≤ 3 → d_ai D1 (Y + r) = d_ai D (Y + r) ∧ d_al D1 (Y + r) = d_al D (Y + r)) : RmR D1 Y A K1 T P e := by
  obtain ⟨r1, ⟨t1, t2, t3⟩, ⟨p1, p2, p3⟩, r4, r5⟩ := h
  refine ⟨hR, ⟨(h1 354 (by decide) (by decide)).trans t1, ?_, t3⟩, ⟨(h1 357 (by decide) (by decide)).trans p1, ?_, p3⟩, ?_, (h1 355 (by decide) (by decide)).trans r5⟩
  · rw [(h2 1 (by decide) (by decide)).1]; exact t2
  · rw [(h2 2 (by decide) (by decide)).1]; exact p2
  · unfold KwR
    rw [(h2 3 (by decide) (by decide)).2]; exact r4
/-- nothing of it is written, but the scratch of the states -/
theorem RmR.out {D D1 : DaT} {Y A lo hi : Nat} {K : KT} {T P : List Nat} {e : Int32} (h : RmR D Y A K T P e) (ho : Out lo hi D D1) (hA : hi ≤ A ∨ A + 18 ≤ lo) (hd : Y + 4 ≤ lo ∨ hi ≤ Y) : RmR D1 Y A K T P e :=
  h.keep (h.1.out ho hA) (fun k _ _ => (ho Y (by omega)).1 k) (fun r h1 h2 => ⟨(ho _ (by omega)).2.2.1, (ho _ (by omega)).2.2.2⟩)
theorem RmR.thr {D : DaT} {Y A : Nat} {K : KT} {T P : List Nat} {e x : Int32} {k : Nat} (h : RmR D Y A K T P e) (hA : Y < A) (hk : k < 354 ∨ 357 < k) : RmR (pfi D k Y x) Y A K T P e :=
  h.keep (h.1.out (Out.fi (lo := Y) (hi := Y + 1) (by omega)) (by omega)) (fun q h1 h2 => by rw [rd_fi, if_neg (by omega)]) (fun r _ _ => ⟨rfl, rfl⟩)
theorem RmR.state {D D1 : DaT} {Y A : Nat} {K K1 : KT} {T P : List Nat} {e : Int32} (h : RmR D Y A K T P e) (hR : RepR D1 A K1) (ho : Out A (A + 20) D D1) (hA : Y + 8 ≤ A) : RmR D1 Y A K1 T P e :=
  h.keep hR (fun k _ _ => (ho Y (by omega)).1 k) (fun r h1 h2 => ⟨(ho _ (by omega)).2.2.1, (ho _ (by omega)).2.2.2⟩)
/-- how a call of the reference ends: the number of its exception, or its answer -/
def cod (L : List String) (E : String) : Int32 := nI (L.findIdx (fun e => decide (e = E)) + 1)
def RAns (D1 : DaT) (Y : Nat) (L : List String) (v : Option Value) (p : Except String Int32) : Prop := match p with
  | .ok r => d_fi D1 352 Y = 0 ∧ v = some (.int r)
  | .error E => d_fi D1 352 Y = cod L E ∧ v = some (.int 0)
section MODEL
variable {g : GG} {d : Nat} {S : ShT} {D : DaT} {Y A A2 : Nat} {K : KT}
theorem c_no {x : Int32} (hY : MoL S Y A A2) : EvM g d mX11_no 0 0 [.ref Y, .int x] (md S D) (fun v M1 => v = some (.int 0) ∧ M1 = md S (pfi D 352 Y x)) := by
  obtain ⟨hy, -⟩ := hY
  refine EvM.mk (by decide) (Nat.le_of_ble_eq_true rfl) ?_
  refine X_run rfl ?_ ?_
  · simp [md_s, md_w, rget, r_a, r_b, r_c, r_i, r_l, hy]
  try simp only [md_s, md_w, rget_some, r_a, r_b, r_c, r_i, r_l, r_nx, r_pc, Nat.reduceEqDiff, false_and, if_false, hy]
  exact X_iret rfl rfl ⟨rfl, rfl⟩
theorem c_thrown (hY : MoL S Y A A2) : EvM g d mX11_thrown 0 0 [.ref Y] (md S D) (fun v M1 => v = some (.int (d_fi D 352 Y)) ∧ M1 = md S D) := by
  obtain ⟨hy, -⟩ := hY
  refine EvM.mk (by decide) (Nat.le_of_ble_eq_true rfl) ?_
  refine X_run rfl ?_ ?_
  · simp [md_s, md_w, rget, r_a, r_b, r_c, r_i, r_l, hy]
  try simp only [md_s, md_w, rget_some, r_a, r_b, r_c, r_i, r_l, r_nx, r_pc, Nat.reduceEqDiff, false_and, if_false, hy]
  exact X_iret rfl rfl ⟨rfl, rfl⟩
theorem c_RisParty {x : Int32} (hY : MoL S Y A A2) (hR : RepR D A K) : EvM g (d + 1) mX11_isParty 0 0 [.ref Y, .int x] (md S D) (fun v M1 => M1 = md S D ∧ v = some (.int (b2i (inB x (k_np K))))) := by
  obtain ⟨hy, -, ⟨hL, -⟩, -⟩ := hY
  have hs := hL.all.1
  have hc := hR.1
  unfold RrC at hc
  refine EvM.mk (by decide) (Nat.le_of_ble_eq_true rfl) ?_
  refine X_run rfl ?_ ?_
  · simp [md_s, md_w, rget, r_a, r_b, r_c, r_i, r_l, hy, hs, hc]
  try simp only [md_s, md_w, rget_some, r_a, r_b, r_c, r_i, r_l, r_nx, r_pc, Nat.reduceEqDiff, false_and, if_false, hy, hs, hc]
  refine X_cS (args := [.int x, .int 0, .int (nI (k_np K) - 1)]) rfl (by decide) rfl rfl (Nat.le_of_ble_eq_true rfl) c_isIn ?_
  rintro _ _ ⟨rfl, rfl⟩
  rw [if_b2i]
  refine X_run rfl trivial ?_
  exact X_zret rfl rfl (b2i_01 _) ⟨rfl, rfl⟩
theorem c_RisMoney {x : Int32} (hY : MoL S Y A A2) (hR : RepR D A K) : EvM g (d + 1) mX11_isMoney 0 0 [.ref Y, .int x] (md S D) (fun v M1 => M1 = md S D ∧ v = some (.int (b2i (inB x (k_nm K))))) := by
  obtain ⟨hy, -, ⟨hL, -⟩, -⟩ := hY
  have hs := hL.all.1
  have hc := hR.1
  unfold RrC at hc
  refine EvM.mk (by decide) (Nat.le_of_ble_eq_true rfl) ?_
  refine X_run rfl ?_ ?_
  · simp [md_s, md_w, rget, r_a, r_b, r_c, r_i, r_l, hy, hs, hc]
  try simp only [md_s, md_w, rget_some, r_a, r_b, r_c, r_i, r_l, r_nx, r_pc, Nat.reduceEqDiff, false_and, if_false, hy, hs, hc]
  refine X_cS (args := [.int x, .int 0, .int (nI (k_nm K) - 1)]) rfl (by decide) rfl rfl (Nat.le_of_ble_eq_true rfl) c_isIn ?_
  rintro _ _ ⟨rfl, rfl⟩
  rw [if_b2i]
  refine X_run rfl trivial ?_
  exact X_zret rfl rfl (b2i_01 _) ⟨rfl, rfl⟩
theorem c_RisPayment {x : Int32} (hY : MoL S Y A A2) (hR : RepR D A K) : EvM g (d + 1) mX11_isPayment 0 0 [.ref Y, .int x] (md S D) (fun v M1 => M1 = md S D ∧ v = some (.int (b2i (inB x (k_ny K))))) := by
  obtain ⟨hy, -, ⟨hL, -⟩, -⟩ := hY
  have hs := hL.all.1
  have hc := hR.1
  unfold RrC at hc
  refine EvM.mk (by decide) (Nat.le_of_ble_eq_true rfl) ?_
  refine X_run rfl ?_ ?_
  · simp [md_s, md_w, rget, r_a, r_b, r_c, r_i, r_l, hy, hs, hc]
  try simp only [md_s, md_w, rget_some, r_a, r_b, r_c, r_i, r_l, r_nx, r_pc, Nat.reduceEqDiff, false_and, if_false, hy, hs, hc]
  refine X_cS (args := [.int x, .int 0, .int (nI (k_ny K) - 1)]) rfl (by decide) rfl rfl (Nat.le_of_ble_eq_true rfl) c_isIn ?_
  rintro _ _ ⟨rfl, rfl⟩
  rw [if_b2i]
  refine X_run rfl trivial ?_
  exact X_zret rfl rfl (b2i_01 _) ⟨rfl, rfl⟩
theorem c_with {x : Int32} (hY : MoL S Y A A2) (hW : WfK K) (hR : RepR D A K) : EvM g d mX11_with 0 0 [.ref Y, .int x] (md S D) (fun v M1 => M1 = md S D ∧ v = some (.int (cntI K x))) := by
  obtain ⟨hy, -, ⟨hL, -⟩, -⟩ := hY
  obtain ⟨hs, ha, hb⟩ := hL.all
  obtain ⟨w1, w2, w3, -⟩ := hW
  have hc := hR.1
  unfold RrC at hc
  refine EvM.mk (by decide) (Nat.le_of_ble_eq_true rfl) ?_
  refine X_run rfl trivial ?_
  refine Eg_iter (fun i (a : Int32) => Eg g d mX11_with 0 0 (Zr g _) 4 [(0, .ref Y), (1, .int x), (2, .int a), (3, .int (nI i))] [] (md S D)) (fun i acc => if k_st K i = x then acc + 1 else acc) (k_ny K) 0 (fun i hi k => ?_) ?_
  · have hv := hR.2.2.2 i hi
    unfold RrY at hv
    have x1 := vx (show i < 60 by omega) (by decide)
    refine X_run rfl ?_ ?_
    · simp [md_s, md_w, rget, r_a, r_b, r_c, r_i, r_l, hy, hs, hc]
    try simp only [md_s, md_w, rget_some, r_a, r_b, r_c, r_i, r_l, r_nx, r_pc, Nat.reduceEqDiff, false_and, if_false, hy, hs, hc]
    refine X_icmp_ge rfl (fun c1 => no_le c1 hi (by omega)) (fun c1 => ?_)
    refine X_run rfl ?_ ?_
    · simp [md_s, md_w, rget, r_a, r_b, r_c, r_i, r_l, hy, hs, hb, x1, hv]
    try simp only [md_s, md_w, rget_some, r_a, r_b, r_c, r_i, r_l, r_nx, r_pc, Nat.reduceEqDiff, false_and, if_false, hy, hs, hb, x1, hv]
    refine X_icmp_ne rfl (fun c2 => ?_) (fun c2 => ?_)
    · rw [if_neg c2] at k
      refine X_run rfl ?_ ?_
      · simp [md_s, md_w, rget, r_a, r_b, r_c, r_i, r_l, nI_s1]
      try simp only [md_s, md_w, rget_some, r_a, r_b, r_c, r_i, r_l, r_nx, r_pc, Nat.reduceEqDiff, false_and, if_false, nI_s1]
      rw [Int32.add_zero]
      exact k
    · rw [if_pos c2] at k
      refine X_run rfl ?_ ?_
      · simp [md_s, md_w, rget, r_a, r_b, r_c, r_i, r_l, nI_s1]
      try simp only [md_s, md_w, rget_some, r_a, r_b, r_c, r_i, r_l, r_nx, r_pc, Nat.reduceEqDiff, false_and, if_false, nI_s1]
      exact k
  · refine X_run rfl ?_ ?_
    · simp [md_s, md_w, rget, r_a, r_b, r_c, r_i, r_l, hy, hs, hc]
    try simp only [md_s, md_w, rget_some, r_a, r_b, r_c, r_i, r_l, r_nx, r_pc, Nat.reduceEqDiff, false_and, if_false, hy, hs, hc]
    refine X_icmp_ge rfl (fun c1 => ?_) (fun c1 => no_nle c1 (Nat.le_refl _) (by omega))
    refine X_run rfl trivial ?_
    exact X_iret rfl rfl ⟨rfl, rfl⟩
theorem c_RmoneyTold {m w : Nat} (hY : MoL S Y A A2) (hW : WfK K) (hR : RepR D A K) (hm : m < k_nm K) (hw : w ≤ 3) : EvM g d mX11_moneyTold 0 0 [.ref Y, .int (nI m), .int (nI w)] (md S D) (fun v M1 => M1 = md S D ∧ v = some (.int (toldM K m w))) := by
  obtain ⟨hy, -, ⟨hL, -⟩, -⟩ := hY
  obtain ⟨hs, ha, hb⟩ := hL.all
  obtain ⟨w1, w2, w3, -⟩ := hW
  have hc := hR.1
  unfold RrC at hc
  have hm2 := hR.2.2.1 m hm
  unfold RrM at hm2
  have x2 := vx (show m < 5 by omega) (by decide)
  refine EvM.mk (by decide) (Nat.le_of_ble_eq_true rfl) ?_
  refine X_run rfl trivial ?_
  refine Eg_iter (fun i (a : Int32) => Eg g d mX11_moneyTold 0 0 (Zr g _) 5 [(0, .ref Y), (1, .int (nI m)), (2, .int (nI w)), (3, .int a), (4, .int (nI i))] [] (md S D)) (fun i acc => if k_st K i = 0 ∧ nI (k_mo K i) = nI m then acc + k_am K i else acc) (k_ny K) 0 (fun i hi k => ?_) ?_
  · have hv := hR.2.2.2 i hi
    unfold RrY at hv
    have x1 := vx (show i < 60 by omega) (by decide)
    refine X_run rfl ?_ ?_
    · simp [md_s, md_w, rget, r_a, r_b, r_c, r_i, r_l, hy, hs, hc]
    try simp only [md_s, md_w, rget_some, r_a, r_b, r_c, r_i, r_l, r_nx, r_pc, Nat.reduceEqDiff, false_and, if_false, hy, hs, hc]
    refine X_icmp_ge rfl (fun c1 => no_le c1 hi (by omega)) (fun c1 => ?_)
    refine X_run rfl ?_ ?_
    · simp [md_s, md_w, rget, r_a, r_b, r_c, r_i, r_l, hy, hs, hb, x1, hv]
    try simp only [md_s, md_w, rget_some, r_a, r_b, r_c, r_i, r_l, r_nx, r_pc, Nat.reduceEqDiff, false_and, if_false, hy, hs, hb, x1, hv]
    refine X_if_ne rfl (fun c2 => ?_) (fun c2 => ?_)
    · rw [if_neg (fun z => c2 z.1)] at k
      refine X_run rfl ?_ ?_
      · simp [md_s, md_w, rget, r_a, r_b, r_c, r_i, r_l, nI_s1]
      try simp only [md_s, md_w, rget_some, r_a, r_b, r_c, r_i, r_l, r_nx, r_pc, Nat.reduceEqDiff, false_and, if_false, nI_s1]
      rw [Int32.add_zero]
      exact k
    refine X_run rfl ?_ ?_
    · simp [md_s, md_w, rget, r_a, r_b, r_c, r_i, r_l, hy, hs, hb, x1, hv]
    try simp only [md_s, md_w, rget_some, r_a, r_b, r_c, r_i, r_l, r_nx, r_pc, Nat.reduceEqDiff, false_and, if_false, hy, hs, hb, x1, hv]
    refine X_icmp_ne rfl (fun c3 => ?_) (fun c3 => ?_)
    · rw [if_neg (fun z => c3 z.2)] at k
      refine X_run rfl ?_ ?_
      · simp [md_s, md_w, rget, r_a, r_b, r_c, r_i, r_l, nI_s1]
      try simp only [md_s, md_w, rget_some, r_a, r_b, r_c, r_i, r_l, r_nx, r_pc, Nat.reduceEqDiff, false_and, if_false, nI_s1]
      rw [Int32.add_zero]
      exact k
    · rw [if_pos ⟨c2, c3⟩] at k
      refine X_run rfl ?_ ?_
      · simp [md_s, md_w, rget, r_a, r_b, r_c, r_i, r_l, hy, hs, hb, x1, hv, nI_s1]
      try simp only [md_s, md_w, rget_some, r_a, r_b, r_c, r_i, r_l, r_nx, r_pc, Nat.reduceEqDiff, false_and, if_false, hy, hs, hb, x1, hv, nI_s1]
      exact k
  · rw [show iter (fun i acc => if k_st K i = 0 ∧ nI (k_mo K i) = nI m then acc + k_am K i else acc) (k_ny K) (0 : Int32) = sumW K (nI m) from rfl]
    refine X_run rfl ?_ ?_
    · simp [md_s, md_w, rget, r_a, r_b, r_c, r_i, r_l, hy, hs, hc]
    try simp only [md_s, md_w, rget_some, r_a, r_b, r_c, r_i, r_l, r_nx, r_pc, Nat.reduceEqDiff, false_and, if_false, hy, hs, hc]
    refine X_icmp_ge rfl (fun c1 => ?_) (fun c1 => no_nle c1 (Nat.le_refl _) (by omega))
    refine X_run rfl trivial ?_
    rcases (show w = 0 ∨ w = 1 ∨ w = 2 ∨ w = 3 by omega) with rfl | rfl | rfl | rfl
    · refine X_if_ne rfl (fun c => absurd rfl c) (fun _ => ?_)
      refine X_run rfl ?_ ?_
      · simp [md_s, md_w, rget, r_a, r_b, r_c, r_i, r_l, hy, hs, ha, x2, hm2]
      try simp only [md_s, md_w, rget_some, r_a, r_b, r_c, r_i, r_l, r_nx, r_pc, Nat.reduceEqDiff, false_and, if_false, hy, hs, ha, x2, hm2]
      exact X_iret rfl rfl ⟨rfl, rfl⟩
    · refine X_if_ne rfl (fun _ => ?_) (fun c => absurd c (by decide))
      refine X_run rfl trivial ?_
      refine X_icmp_ne rfl (fun c => absurd rfl c) (fun _ => ?_)
      refine X_run rfl ?_ ?_
      · simp [md_s, md_w, rget, r_a, r_b, r_c, r_i, r_l, hy, hs, ha, x2, hm2]
      try simp only [md_s, md_w, rget_some, r_a, r_b, r_c, r_i, r_l, r_nx, r_pc, Nat.reduceEqDiff, false_and, if_false, hy, hs, ha, x2, hm2]
      exact X_iret rfl rfl ⟨rfl, rfl⟩
    · refine X_if_ne rfl (fun _ => ?_) (fun c => absurd c (by decide))
      refine X_run rfl trivial ?_
      refine X_icmp_ne rfl (fun _ => ?_) (fun c => absurd c (by decide))
      refine X_run rfl trivial ?_
      refine X_icmp_ne rfl (fun c => absurd rfl c) (fun _ => ?_)
      refine X_run rfl ?_ ?_
      · simp [md_s, md_w, rget, r_a, r_b, r_c, r_i, r_l, hy, hs, ha, x2, hm2, hc]
      try simp only [md_s, md_w, rget_some, r_a, r_b, r_c, r_i, r_l, r_nx, r_pc, Nat.reduceEqDiff, false_and, if_false, hy, hs, ha, x2, hm2, hc]
      refine X_icmp_le rfl (fun c1 => ?_) (fun c1 => ?_)
      · refine X_run rfl trivial ?_
        refine X_iret rfl rfl ⟨rfl, ?_⟩
        show _ = some (Value.int (b2i (decide (k_hr K < k_ct K m))))
        rw [decide_eq_false (Int32.not_lt.mpr c1)]
        rfl
      · refine X_run rfl trivial ?_
        refine X_iret rfl rfl ⟨rfl, ?_⟩
        show _ = some (Value.int (b2i (decide (k_hr K < k_ct K m))))
        rw [decide_eq_true (Int32.not_le.mp c1)]
        rfl
    · refine X_if_ne rfl (fun _ => ?_) (fun c => absurd c (by decide))
      refine X_run rfl trivial ?_
      refine X_icmp_ne rfl (fun _ => ?_) (fun c => absurd c (by decide))
      refine X_run rfl trivial ?_
      refine X_icmp_ne rfl (fun _ => ?_) (fun c => absurd c (by decide))
      refine X_run rfl trivial ?_
      exact X_iret rfl rfl ⟨rfl, rfl⟩
theorem c_RpartyTold {p w : Nat} (hY : MoL S Y A A2) (hW : WfK K) (hR : RepR D A K) (hp : p < k_np K) (hw : w ≤ 6) : EvM g (d + 3) mX11_partyTold 0 0 [.ref Y, .int (nI p), .int (nI w)] (md S D) (fun v M1 => M1 = md S D ∧ v = some (.int (toldP K p w))) := by
  obtain ⟨hy, -, ⟨hL, -⟩, -⟩ := hY
  obtain ⟨hs, ha, hb⟩ := hL.all
  have hW' := hW
  obtain ⟨w1, w2, w3, -⟩ := hW
  have hc := hR.1
  unfold RrC at hc
  obtain ⟨v1, v2, v3, v4⟩ := hR.2.1 p hp
  have x2 := vx (show p < 10 by omega) (by decide)
  refine EvM.mk (by decide) (Nat.le_of_ble_eq_true rfl) ?_
  refine X_run rfl trivial ?_
  have cnt : ∀ (f : Nat → Nat), (∀ i, i < k_ny K → (w = 5 ∧ d_ai D (A + 9) i = nI (f i)) ∨ (w = 6 ∧ d_ai D (A + 10) i = nI (f i))) → toldP K p w = cntW K f (nI p) → Eg g (d + 3) mX11_partyTold 0 0 (Zr g (fun v M1 => M1 = md S D ∧ v = some (.int (toldP K p w)))) 87 [(0, .ref Y), (1, .int (nI p)), (2, .int (nI w))] [] (md S D) := by
    intro f hf ht
    rw [ht]
    refine X_run rfl trivial ?_
    refine Eg_iter (fun i (a : Int32) => Eg g (d + 3) mX11_partyTold 0 0 (Zr g _) 92 [(0, .ref Y), (1, .int (nI p)), (2, .int (nI w)), (3, .int a), (4, .int (nI i))] [] (md S D)) (fun i acc => if k_st K i = 0 ∧ nI (f i) = nI p then acc + 1 else acc) (k_ny K) 0 (fun i hi k => ?_) ?_
    · have hv := hR.2.2.2 i hi
      unfold RrY at hv
      have x1 := vx (show i < 60 by omega) (by decide)
      refine X_run rfl ?_ ?_
      · simp [md_s, md_w, rget, r_a, r_b, r_c, r_i, r_l, hy, hs, hc]
      try simp only [md_s, md_w, rget_some, r_a, r_b, r_c, r_i, r_l, r_nx, r_pc, Nat.reduceEqDiff, false_and, if_false, hy, hs, hc]
      refine X_icmp_ge rfl (fun c1 => no_le c1 hi (by omega)) (fun c1 => ?_)
      refine X_run rfl ?_ ?_
      · simp [md_s, md_w, rget, r_a, r_b, r_c, r_i, r_l, hy, hs, hb, x1, hv]
      try simp only [md_s, md_w, rget_some, r_a, r_b, r_c, r_i, r_l, r_nx, r_pc, Nat.reduceEqDiff, false_and, if_false, hy, hs, hb, x1, hv]
      refine X_if_ne rfl (fun c2 => ?_) (fun c2 => ?_)
      · rw [if_neg (fun z => c2 z.1)] at k
        refine X_run rfl ?_ ?_
        · simp [md_s, md_w, rget, r_a, r_b, r_c, r_i, r_l, nI_s1]
        try simp only [md_s, md_w, rget_some, r_a, r_b, r_c, r_i, r_l, r_nx, r_pc, Nat.reduceEqDiff, false_and, if_false, nI_s1]
        rw [Int32.add_zero]
        exact k
      refine X_run rfl trivial ?_
      rcases hf i hi with ⟨rfl, hfi⟩ | ⟨rfl, hfi⟩
      · refine X_icmp_ne rfl (fun c => absurd rfl c) (fun _ => ?_)
        refine X_run rfl ?_ ?_
        · simp [md_s, md_w, rget, r_a, r_b, r_c, r_i, r_l, hy, hs, hb, x1, hfi]
        try simp only [md_s, md_w, rget_some, r_a, r_b, r_c, r_i, r_l, r_nx, r_pc, Nat.reduceEqDiff, false_and, if_false, hy, hs, hb, x1, hfi]
        refine X_icmp_ne rfl (fun c3 => ?_) (fun c3 => ?_)
        · rw [if_neg (fun z => c3 z.2)] at k
          refine X_run rfl ?_ ?_
          · simp [md_s, md_w, rget, r_a, r_b, r_c, r_i, r_l, nI_s1]
          try simp only [md_s, md_w, rget_some, r_a, r_b, r_c, r_i, r_l, r_nx, r_pc, Nat.reduceEqDiff, false_and, if_false, nI_s1]
          rw [Int32.add_zero]
          exact k
        · rw [if_pos ⟨c2, c3⟩] at k
          refine X_run rfl ?_ ?_
          · simp [md_s, md_w, rget, r_a, r_b, r_c, r_i, r_l, nI_s1]
          try simp only [md_s, md_w, rget_some, r_a, r_b, r_c, r_i, r_l, r_nx, r_pc, Nat.reduceEqDiff, false_and, if_false, nI_s1]
          exact k
      · refine X_icmp_ne rfl (fun _ => ?_) (fun c => absurd c (by decide))
        refine X_run rfl ?_ ?_
        · simp [md_s, md_w, rget, r_a, r_b, r_c, r_i, r_l, hy, hs, hb, x1, hfi]
        try simp only [md_s, md_w, rget_some, r_a, r_b, r_c, r_i, r_l, r_nx, r_pc, Nat.reduceEqDiff, false_and, if_false, hy, hs, hb, x1, hfi]
        refine X_icmp_ne rfl (fun c3 => ?_) (fun c3 => ?_)
        · rw [if_neg (fun z => c3 z.2)] at k
          refine X_run rfl ?_ ?_
          · simp [md_s, md_w, rget, r_a, r_b, r_c, r_i, r_l, nI_s1]
          try simp only [md_s, md_w, rget_some, r_a, r_b, r_c, r_i, r_l, r_nx, r_pc, Nat.reduceEqDiff, false_and, if_false, nI_s1]
          rw [Int32.add_zero]
          exact k
        · rw [if_pos ⟨c2, c3⟩] at k
          refine X_run rfl ?_ ?_
          · simp [md_s, md_w, rget, r_a, r_b, r_c, r_i, r_l, nI_s1]
          try simp only [md_s, md_w, rget_some, r_a, r_b, r_c, r_i, r_l, r_nx, r_pc, Nat.reduceEqDiff, false_and, if_false, nI_s1]
          exact k
    · refine X_run rfl ?_ ?_
      · simp [md_s, md_w, rget, r_a, r_b, r_c, r_i, r_l, hy, hs, hc]
      try simp only [md_s, md_w, rget_some, r_a, r_b, r_c, r_i, r_l, r_nx, r_pc, Nat.reduceEqDiff, false_and, if_false, hy, hs, hc]
      refine X_icmp_ge rfl (fun c1 => ?_) (fun c1 => no_nle c1 (Nat.le_refl _) (by omega))
      refine X_run rfl trivial ?_
      exact X_iret rfl rfl ⟨rfl, rfl⟩
  rcases (show w = 0 ∨ w = 1 ∨ w = 2 ∨ w = 3 ∨ w = 4 ∨ w = 5 ∨ w = 6 by omega) with rfl | rfl | rfl | rfl | rfl | rfl | rfl
  · refine X_tsw (t := 36) (k0 := 0) rfl (by decide) (by decide) rfl rfl ?_
    refine X_run rfl ?_ ?_
    · simp [md_s, md_w, rget, r_a, r_b, r_c, r_i, r_l, hy, hs, ha, x2, v2]
    try simp only [md_s, md_w, rget_some, r_a, r_b, r_c, r_i, r_l, r_nx, r_pc, Nat.reduceEqDiff, false_and, if_false, hy, hs, ha, x2, v2]
    exact X_iret rfl rfl ⟨rfl, rfl⟩
  · refine X_tsw (t := 46) (k0 := 1) rfl (by decide) (by decide) rfl rfl ?_
    refine X_run rfl ?_ ?_
    · simp [md_s, md_w, rget, r_a, r_b, r_c, r_i, r_l, hy, hs]
    try simp only [md_s, md_w, rget_some, r_a, r_b, r_c, r_i, r_l, r_nx, r_pc, Nat.reduceEqDiff, false_and, if_false, hy, hs]
    refine X_cV (args := [.int (nI p)]) rfl (by decide) hs.1 rfl rfl (Nat.le_of_ble_eq_true rfl) (c_Rlimit hL hW' hR hp) ?_
    rintro _ _ ⟨rfl, rfl⟩
    refine X_run rfl trivial ?_
    exact X_iret rfl rfl ⟨rfl, rfl⟩
  · refine X_tsw (t := 56) (k0 := 2) rfl (by decide) (by decide) rfl rfl ?_
    refine X_run rfl ?_ ?_
    · simp [md_s, md_w, rget, r_a, r_b, r_c, r_i, r_l, hy, hs]
    try simp only [md_s, md_w, rget_some, r_a, r_b, r_c, r_i, r_l, r_nx, r_pc, Nat.reduceEqDiff, false_and, if_false, hy, hs]
    refine X_cV (args := [.int (nI p), .int 0]) rfl (by decide) hs.1 rfl rfl (Nat.le_of_ble_eq_true rfl) (c_Rexpo0 hL hW' hR hp) ?_
    rintro _ _ ⟨rfl, rfl⟩
    refine X_run rfl trivial ?_
    exact X_iret rfl rfl ⟨rfl, rfl⟩
  · refine X_tsw (t := 67) (k0 := 3) rfl (by decide) (by decide) rfl rfl ?_
    refine X_run rfl ?_ ?_
    · simp [md_s, md_w, rget, r_a, r_b, r_c, r_i, r_l, hy, hs]
    try simp only [md_s, md_w, rget_some, r_a, r_b, r_c, r_i, r_l, r_nx, r_pc, Nat.reduceEqDiff, false_and, if_false, hy, hs]
    refine X_cV (args := [.int (nI p)]) rfl (by decide) hs.1 rfl rfl (Nat.le_of_ble_eq_true rfl) (c_Rroom hL hW' hR hp) ?_
    rintro _ _ ⟨rfl, rfl⟩
    refine X_run rfl trivial ?_
    exact X_iret rfl rfl ⟨rfl, rfl⟩
  · refine X_tsw (t := 77) (k0 := 4) rfl (by decide) (by decide) rfl rfl ?_
    refine X_run rfl ?_ ?_
    · simp [md_s, md_w, rget, r_a, r_b, r_c, r_i, r_l, hy, hs, ha, x2, v3]
    try simp only [md_s, md_w, rget_some, r_a, r_b, r_c, r_i, r_l, r_nx, r_pc, Nat.reduceEqDiff, false_and, if_false, hy, hs, ha, x2, v3]
    exact X_iret rfl rfl ⟨rfl, rfl⟩
  · refine X_tswD (t := 87) rfl (Or.inr (by decide)) rfl ?_
    exact cnt (k_fr K) (fun i hi => Or.inl ⟨rfl, (hR.2.2.2 i hi).1⟩) rfl
  · refine X_tswD (t := 87) rfl (Or.inr (by decide)) rfl ?_
    exact cnt (k_to K) (fun i hi => Or.inr ⟨rfl, (hR.2.2.2 i hi).2.1⟩) rfl
end MODEL
