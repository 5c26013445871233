/-! the share kept: doubles -/
section DBL
variable {g : GG} {d m bc bs pc : Nat} {Z : ZT} {ls : LsT} {st : List Value} {M : Mem}
theorem X_dc1 (hr : (rowAt m pc).map r_in = some (.dconst 1)) (k : Eg g d m bc bs Z (pc + 1) ls (.double FP.dconst1 :: st) M) : Eg g d m bc bs Z pc ls st M := Eg.mk1 (fun p e R s mi ar be me c H lo ce sl lsA C hH hl Q => lv_dconst1 C.ex C.cc (row_in hr rfl C.lt)) k
theorem X_i2d {x : Int32} (hr : (rowAt m pc).map r_in = some .i2d) (k : Eg g d m bc bs Z (pc + 1) ls (.double (FP.i2d x) :: st) M) : Eg g d m bc bs Z pc ls (.int x :: st) M := Eg.mk1 (fun p e R s mi ar be me c H lo ce sl lsA C hH hl Q => lv_i2d C.ex C.cc (row_in hr rfl C.lt)) k
theorem X_ddiv {x y : UInt64} (hr : (rowAt m pc).map r_in = some .ddiv) (hn : vf_n64 (FP.ddiv x y)) (k : Eg g d m bc bs Z (pc + 1) ls (.double (FP.ddiv x y) :: st) M) : Eg g d m bc bs Z pc ls (.double y :: .double x :: st) M := Eg.mk1 (fun p e R s mi ar be me c H lo ce sl lsA C hH hl Q => lv_ddiv C.ex C.cc (row_in hr rfl C.lt) hn) k
theorem X_dcmp {x y : UInt64} {op : CmpOp} (hr : (rowAt m pc).map r_in = some (.dcmp op)) (k : Eg g d m bc bs Z (pc + 1) ls (.int (Op.cmpValue (FP.dcmp x y) op) :: st) M) : Eg g d m bc bs Z pc ls (.double y :: .double x :: st) M := Eg.mk1 (fun p e R s mi ar be me c H lo ce sl lsA C hH hl Q => lv_dcmp C.ex C.cc (row_in hr rfl C.lt)) k
theorem X_dload {a : Nat} {x : UInt64} (hr : (rowAt m pc).map r_in = some (.dload a)) (hx : ldv ls a = some (.double x)) (k : Eg g d m bc bs Z (pc + 2) ls (.double x :: st) M) : Eg g d m bc bs Z pc ls st M := Eg.mk1 (fun p e R s mi ar be me c H lo ce sl lsA C hH hl Q => lv_dload C.ex C.cc (row_in hr rfl C.lt) (ldv_at hl hx)) k
theorem X_dstore {a : Nat} {x : UInt64} (hr : (rowAt m pc).map r_in = some (.dstore a)) (ha : a + 1 < h_n m) (k : Eg g d m bc bs Z (pc + 2) (stv ls a (.double x)) st M) : Eg g d m bc bs Z pc ls (.double x :: st) M := Eg.mk2 (fun p e R s mi ar be me c H lo ce sl lsA C hH hl Q kk => lv_dstore C.ex C.cc (row_in hr rfl C.lt) hl ha rfl (fun lsB hB => kk lsB (stv_has2 rfl hB))) k
theorem X_dret {Q : Option Value → Mem → Prop} {v : UInt64} (hr : h_r m = some .double) (hi : (rowAt m pc).map r_in = some .dreturn) (hq : Q (some (.double v)) M) : Eg g d m bc bs (Zr g Q) pc ls [.double v] M := fun p e R s mi ar be me cd H lo ce sl lsA C h1 h2 h3 h4 hH hl hL =>
  W.widen (by omega) (by omega) (W.dret C.ex C.cc (C.rt.trans hr) (fun t ht hW => ⟨_, M, rfl, hq, hH.of_heap ht⟩) hL (row_in hi rfl C.lt) C.lk)
end DBL
def kq (i t : Nat) : UInt64 := FP.ddiv (FP.i2d (nI i)) (FP.i2d (nI t))
def dOk (v : UInt64) : Bool := decide (v &&& 0x7fffffffffffffff ≤ 0x7ff0000000000000) && decide (Op.cmpValue (FP.dcmp v v) .l = 0)
theorem kq_all : ∀ t, t < 61 → ∀ i, i < t + 1 → (decide (t = 0) || dOk (kq i t)) = true := by decide +kernel
theorem k1_ok : dOk FP.dconst1 = true := by decide +kernel
def kv (K : KT) : UInt64 := if cntI K 1 + cntI K 2 = 0 then FP.dconst1 else FP.ddiv (FP.i2d (cntI K 1)) (FP.i2d (cntI K 1 + cntI K 2))
theorem cntI_n (K : KT) (x : Int32) : cntI K x = nI (cnN (fun n => decide (k_st K n = x)) (k_ny K)) := by
  unfold cntI
  generalize k_ny K = n
  induction n with
  | zero => rfl
  | succ n ih =>
    show (if k_st K n = x then iter (fun i acc => if k_st K i = x then acc + 1 else acc) n 0 + 1 else iter (fun i acc => if k_st K i = x then acc + 1 else acc) n 0) = nI (cnN (fun n => decide (k_st K n = x)) n + (if decide (k_st K n = x) = true then 1 else 0))
    rw [ih]
    by_cases c : k_st K n = x
    · rw [if_pos c, if_pos (decide_eq_true c), nI_plus]; rfl
    · rw [if_neg c, if_neg (by rw [decide_eq_true_iff]; exact c)]; rfl
theorem kv_ok {K : KT} (hW : WfK K) : dOk (kv K) = true := by
  unfold kv
  split
  · exact k1_ok
  · rename_i hz
    have hs : cnN (fun n => decide (k_st K n = 1 ∨ k_st K n = 2)) (k_ny K) = cnN (fun n => decide (k_st K n = 1)) (k_ny K) + cnN (fun n => decide (k_st K n = 2)) (k_ny K) := cnN_add _ (fun n _ => by
      simp only [decide_eq_true_iff]
      refine ⟨trivial, fun z => ?_⟩
      rw [z.1] at z
      exact absurd z.2 (by decide))
    have hl := cnN_le (fun n => decide (k_st K n = 1 ∨ k_st K n = 2)) (k_ny K)
    have h60 := hW.2.2.1
    rw [cntI_n, cntI_n, ← nI_plus, ← hs] at hz ⊢
    generalize cnN (fun n => decide (k_st K n = 1)) (k_ny K) = i at hs hz ⊢
    generalize cnN (fun n => decide (k_st K n = 1 ∨ k_st K n = 2)) (k_ny K) = t at hs hz hl ⊢
    have h1 := kq_all t (by omega) i (by omega)
    rw [Bool.or_eq_true, decide_eq_true_iff] at h1
    rcases h1 with h1 | h1
    · subst h1
      exact absurd rfl hz
    · exact h1
section KEPT
variable {g : GG} {d bc bs : Nat} {S : ShT} {D : DaT} {X Y A A2 : Nat} {K : KT} {T P : List Nat} {e : Int32}
theorem c_kept (hX : DkL S X) (hW : WfK K) (hR : RepC D (X + 11) K) : EvM g (d + 2) mX9_kept 0 0 [.ref X] (md S D) (fun v M1 => M1 = md S D ∧ v = some (.double (kv K))) := by
  obtain ⟨hx, -, -, -, hL, -⟩ := hX
  have hb := hL.1
  have ho := kv_ok hW
  have hc : ∀ x, EvM g (d + 1) mX0_countInState 0 0 [.ref (X + 11), .int x] (md S D) (fun v M1 => M1 = md S D ∧ v = some (.int (cntI K x))) := fun x => c_countInState hL hW hR
  refine EvM.mk (by decide) (Nat.le_of_ble_eq_true rfl) ?_
  refine X_run rfl ?_ ?_
  · simp [md_s, md_w, rget, r_a, r_b, r_c, r_i, r_l, hx]
  try simp only [md_s, md_w, rget_some, r_a, r_b, r_c, r_i, r_l, r_nx, r_pc, Nat.reduceEqDiff, false_and, if_false, hx]
  refine X_cV (args := [.int 1]) rfl (by decide) hb.1 rfl rfl (Nat.le_of_ble_eq_true rfl) (hc _) ?_
  rintro _ _ ⟨rfl, rfl⟩
  refine X_run rfl ?_ ?_
  · simp [md_s, md_w, rget, r_a, r_b, r_c, r_i, r_l, hx]
  try simp only [md_s, md_w, rget_some, r_a, r_b, r_c, r_i, r_l, r_nx, r_pc, Nat.reduceEqDiff, false_and, if_false, hx]
  refine X_cV (args := [.int 2]) rfl (by decide) hb.1 rfl rfl (Nat.le_of_ble_eq_true rfl) (hc _) ?_
  rintro _ _ ⟨rfl, rfl⟩
  refine X_run rfl trivial ?_
  unfold kv at ho ⊢
  refine X_if_ne rfl (fun c1 => ?_) (fun c1 => ?_)
  · rw [if_neg c1] at ho ⊢
    unfold dOk at ho
    rw [Bool.and_eq_true, decide_eq_true_iff] at ho
    refine X_run rfl trivial ?_
    refine X_i2d rfl ?_
    refine X_run rfl trivial ?_
    refine X_i2d rfl ?_
    refine X_ddiv rfl ho.1 ?_
    exact X_dret rfl rfl ⟨rfl, rfl⟩
  · rw [if_pos c1]
    refine X_dc1 rfl ?_
    refine X_run rfl trivial ?_
    exact X_dret rfl rfl ⟨rfl, rfl⟩
theorem c_Mkept (hY : MoL S Y A A2) (hW : WfK K) (hM : RmR D Y A K T P e) : EvM g (d + 1) mX11_kept 0 0 [.ref Y] (md S D) (fun v M1 => ∃ D1, v = some (.double (kv K)) ∧ M1 = md S D1 ∧ OutR S Y D D1 ∧ RmR D1 Y A K T P e) := by
  obtain ⟨l1, l2, l3⟩ := hY.lo
  obtain ⟨hy, -, ⟨hL, hL2⟩, -⟩ := id hY
  obtain ⟨hs, ha, hb⟩ := hL.all
  obtain ⟨w1, w2, w3, w4⟩ := id hW
  obtain ⟨D1, e1, z1, y1⟩ := wr_fi D 352 Y 0
  have hM1 : RmR D1 Y A K T P e := e1 ▸ hM.thr (by omega) (by decide)
  have hR1 := hM1.1
  have hO1 : OutR S Y D D1 := e1 ▸ OutR.fi
  have t1 : d_fi D1 352 Y = 0 := by rw [z1, if_pos ⟨rfl, rfl⟩]
  refine EvM.mk (by decide) (Nat.le_of_ble_eq_true rfl) ?_
  refine X_run rfl ?_ ?_
  · simp [md_s, md_w, rget, r_a, r_b, r_c, r_i, r_l, hy, e1]
  try simp only [md_s, md_w, rget_some, r_a, r_b, r_c, r_i, r_l, r_nx, r_pc, Nat.reduceEqDiff, false_and, if_false, hy, e1]
  have ho := kv_ok hW
  refine X_cV (args := [.int 1]) rfl (by decide) hy.1 rfl rfl (Nat.le_of_ble_eq_true rfl) (c_with hY hW hR1) ?_
  rintro _ _ ⟨rfl, rfl⟩
  refine X_run rfl trivial ?_
  refine X_cV (args := [.int 2]) rfl (by decide) hy.1 rfl rfl (Nat.le_of_ble_eq_true rfl) (c_with hY hW hR1) ?_
  rintro _ _ ⟨rfl, rfl⟩
  refine X_run rfl trivial ?_
  unfold kv at ho ⊢
  refine X_if_ne rfl (fun c1 => ?_) (fun c1 => ?_)
  · rw [if_neg c1] at ho ⊢
    unfold dOk at ho
    rw [Bool.and_eq_true, decide_eq_true_iff] at ho
    refine X_run rfl trivial ?_
    refine X_i2d rfl ?_
    refine X_run rfl trivial ?_
    refine X_i2d rfl ?_
    refine X_ddiv rfl ho.1 ?_
    exact X_dret rfl rfl ⟨_, rfl, rfl, hO1, hM1⟩
  · rw [if_pos c1]
    refine X_dc1 rfl ?_
    refine X_run rfl trivial ?_
    exact X_dret rfl rfl ⟨_, rfl, rfl, hO1, hM1⟩
variable {Z : ZT} {sc : Nat → Int32} {N i c : Nat}
set_option maxRecDepth 20000 in
theorem Op_kept (h : LawS g sc N S D X A A2 K T P e c) (hc : c + 1 ≤ 1000) (k : NxT g (d + 12) bc bs Z sc N i X (c + 1)) : Eg g (d + 12) mL_law (bc + 560) (bs + 5100) Z 1765 (LL g X i) [] (md S D) := by
  have hW := h.hI.1
  have ho := kv_ok hW
  unfold dOk at ho
  rw [Bool.and_eq_true, decide_eq_true_iff, decide_eq_true_iff] at ho
  refine Eg.cost (bc := bc) (bs := bs) ?_ (by omega) (by omega)
  refine X_run rfl trivial ?_
  refine X_cV (args := []) rfl (by decide) h.hX.1.1 rfl rfl (Nat.le_of_ble_eq_true rfl) (c_kept h.hX hW h.hD.1) ?_
  rintro _ _ ⟨rfl, rfl⟩
  refine X_dstore rfl (by decide) ?_
  refine X_run rfl trivial ?_
  refine X_cV (args := []) rfl (by decide) h.hY.1.1 rfl rfl (Nat.le_of_ble_eq_true rfl) (c_Mkept h.hY hW h.hM) ?_
  rintro _ _ ⟨D2, rfl, rfl, hO2, hM2⟩
  have h1 := h.step (k := 0) (h.hI.mono (Nat.le_succ _) hc) h.hD OutX.rf Gro.rf.y h.hY hO2 hM2
  refine X_dstore rfl (by decide) ?_
  refine X_dload rfl rfl ?_
  refine X_dload rfl rfl ?_
  refine X_dcmp rfl ?_
  refine X_if_eq rfl (fun _ => ?_) (fun z => absurd ho.2 z)
  refine X_run rfl trivial ?_
  exact Eg.sub (k _ _ _ _ _ _ _ _ h1) ⟨rfl, rfl, rfl, rfl, congrArg (fun x => some (Value.int x)) (nI_plus i 6).symm, trivial⟩
end KEPT
