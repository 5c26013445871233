/-! methods with a table; a method that may throw, called where its throws are caught -/
def EvW (g : GG) (d m bc bs : Nat) (args : List Value) (M : Mem) (Q : Option Value → Mem → Prop) : Prop :=
  Met (gL g) (h_y m) (Cond.codeWith (h_y m) (h_c m) (h_n m) (h_r m) (tb_hh m) :: T0) (rmD d bc bs) (EPc g args M) (QQ g Q) bc bs (fun q => gB g ≤ q)
theorem met_ofWH {l : Launch} {y : MethodName} {ws ws' : List Cond} {rm : Room} {Pc : Array Value → State → Prop} {Qc : Array Value → State → Outcome → State → Prop} {mc ms : Nat} {free : Addr → Prop} {cc : ByteArray} {maxL : Nat} {ret : Option FieldType} {hh : List (Nat × Nat × Nat × Nat)}
    (hy : plainName y.cls = true) (hw : ws = Cond.codeWith y cc maxL ret hh :: ws')
    (body : ∀ p e s m args below meth c s₁, BodyLoose p l y (headSpec ws rm) cc maxL ret e s m args below meth c s₁ → c.maxLocals = maxL → Pc args s →
      W p l e (headSpec ws rm).room s m args below meth c s.heap [] 0 0 (MQ below Qc args s mc ms free) (entryFrame m args maxL)) : Met l y ws rm Pc Qc mc ms free := by
  refine MetFree.of_bodyS (code := cc) (maxLocals := maxL) (ret := ret) hy ?_ ?_
  · intro args s m h hn
    obtain ⟨m9, meth, c, hn9, h1, h2, h3, h4, -, h5, h6, -⟩ := Cond.codeWith_spec (atoms_spec (ws := ws) h _ (by rw [hw]; exact List.mem_cons_self))
    cases hn.symm.trans hn9
    exact ⟨meth, c, h1, h2, h3, h4, h5, h6⟩
  · intro p e s m args below meth c s₁ B hml hP _
    have hh0 : s₁.heap = s.heap := by rw [B.state]; rfl
    obtain ⟨t, a1, o, b1, b2, b3⟩ := body p e s m args below meth c s₁ B hml hP s₁ hh0 (Stand.of_body B)
    exact ⟨t, o, a1, b1, b2, b3⟩
theorem cw_t0 {y : MethodName} {c : ByteArray} {n : Nat} {r : Option FieldType} {hh : List (Nat × Nat × Nat × Nat)} (h : Cond.codeWith y c n r hh ∈ lw_tbl) : Cond.codeWith y c n r hh ∈ T0 := List.mem_filter.mpr ⟨h, rfl⟩
abbrev cwIn (m : Nat) : Prop := Cond.codeWith (h_y m) (h_c m) (h_n m) (h_r m) (tb_hh m) ∈ T0
theorem cw_215 : cwIn 215 := cw_t0 (mem_tbl_3 (List.mem_of_getElem? (i := 179) rfl))
theorem cw_216 : cwIn 216 := cw_t0 (mem_tbl_4 (List.mem_of_getElem? (i := 22) rfl))
theorem cw_217 : cwIn 217 := cw_t0 (mem_tbl_4 (List.mem_of_getElem? (i := 47) rfl))
theorem cw_218 : cwIn 218 := cw_t0 (mem_tbl_4 (List.mem_of_getElem? (i := 71) rfl))
theorem cw_219 : cwIn 219 := cw_t0 (mem_tbl_4 (List.mem_of_getElem? (i := 83) rfl))
theorem cw_220 : cwIn 220 := cw_t0 (mem_tbl_4 (List.mem_of_getElem? (i := 95) rfl))
theorem cw_221 : cwIn 221 := cw_t0 (mem_tbl_4 (List.mem_of_getElem? (i := 104) rfl))
theorem cw_222 : cwIn 222 := cw_t0 (mem_tbl_4 (List.mem_of_getElem? (i := 112) rfl))
theorem cw_223 : cwIn 223 := cw_t0 (mem_tbl_4 (List.mem_of_getElem? (i := 125) rfl))
theorem cw_224 : cwIn 224 := cw_t0 (mem_tbl_4 (List.mem_of_getElem? (i := 133) rfl))
theorem cw_225 : cwIn 225 := cw_t0 (mem_tbl_4 (List.mem_of_getElem? (i := 148) rfl))
theorem cw_226 : cwIn 226 := cw_t0 (mem_tbl_4 (List.mem_of_getElem? (i := 160) rfl))
theorem cw_227 : cwIn 227 := cw_t0 (mem_tbl_4 (List.mem_of_getElem? (i := 169) rfl))
theorem cw_228 : cwIn 228 := cw_t0 (mem_tbl_4 (List.mem_of_getElem? (i := 177) rfl))
theorem cw_229 : cwIn 229 := cw_t0 (mem_tbl_4 (List.mem_of_getElem? (i := 193) rfl))
theorem cw_230 : cwIn 230 := cw_t0 (mem_tbl_5 (List.mem_of_getElem? (i := 42) rfl))
theorem cw_231 : cwIn 231 := cw_t0 (mem_tbl_5 (List.mem_of_getElem? (i := 70) rfl))
theorem cw_232 : cwIn 232 := cw_t0 (mem_tbl_5 (List.mem_of_getElem? (i := 77) rfl))
theorem cw_233 : cwIn 233 := cw_t0 (mem_tbl_5 (List.mem_of_getElem? (i := 84) rfl))
theorem cw_234 : cwIn 234 := cw_t0 (mem_tbl_5 (List.mem_of_getElem? (i := 100) rfl))
theorem cw_235 : cwIn 235 := cw_t0 (mem_tbl_5 (List.mem_of_getElem? (i := 112) rfl))
theorem cw_236 : cwIn 236 := cw_t0 (mem_tbl_5 (List.mem_of_getElem? (i := 120) rfl))
theorem cw_237 : cwIn 237 := cw_t0 (mem_tbl_5 (List.mem_of_getElem? (i := 145) rfl))
theorem cw_all {m : Nat} (h : 215 ≤ m ∧ m < 238) : cwIn m := by
  have H : ∀ i, i < 23 → cwIn (215 + i) := (lt_s (lt_s (lt_s (lt_s (lt_s (lt_s (lt_s (lt_s (lt_s (lt_s (lt_s (lt_s (lt_s (lt_s (lt_s (lt_s (lt_s (lt_s (lt_s (lt_s (lt_s (lt_s (lt_s lt_0 cw_215) cw_216) cw_217) cw_218) cw_219) cw_220) cw_221) cw_222) cw_223) cw_224) cw_225) cw_226) cw_227) cw_228) cw_229) cw_230) cw_231) cw_232) cw_233) cw_234) cw_235) cw_236) cw_237)
  have := H (m - 215) (by omega)
  rwa [show 215 + (m - 215) = m by omega] at this
theorem wk_all : ∀ i, i < 23 → (headOk (215 + i) && statOk (215 + i)) = true := by decide +kernel
theorem wk {m : Nat} (h : 215 ≤ m ∧ m < 238) : h_n m ≤ 40 ∧ Cond.initialized (h_y m).cls ∈ T0 ∧ ((h_y m).cls ≠ "java/lang/invoke/MethodHandle" ∧ (h_y m).cls ≠ "java/lang/invoke/VarHandle") ∧ plainName (h_y m).cls = true ∧ Cond.static (h_y m) ∈ T0 := by
  have h0 := wk_all (m - 215) (by omega)
  rw [show 215 + (m - 215) = m by omega, Bool.and_eq_true] at h0
  obtain ⟨h, h9⟩ := h0
  simp only [headOk, Bool.and_eq_true] at h
  obtain ⟨⟨⟨h1, h3⟩, h4⟩, h5⟩ := h
  exact ⟨of_decide_eq_true h1, wAt_in h3, of_decide_eq_true h4, h5, wAt_in h9⟩
/-- the classes of the tables -/
def tb_cn : List (Nat × String) := [(13, "java/lang/IllegalStateException"), (19, "java/lang/IllegalArgumentException"), (24, "java/lang/IndexOutOfBoundsException")]
theorem tb_cn_in : ∀ q ∈ tb_cn, Cond.classLink RL q.1 q.2 ∈ T0 := by
  intro q hq
  exact inT0 (L := tb_cn.map fun q => Cond.classLink RL q.1 q.2) (by decide +kernel) _ (List.mem_map_of_mem hq)
theorem tb_cn_cast : ∀ q ∈ tb_cn, Cond.castable q.2 q.2 ∈ TD := by
  intro q hq
  have h : ((tb_cn.map fun q => Cond.castable q.2 q.2).all fun w => (lw_tbl.any fun u => decide (u = w)) && isDecl w) = true := by decide +kernel
  have h1 := List.all_eq_true.mp h _ (List.mem_map_of_mem hq)
  simp only [Bool.and_eq_true, List.any_eq_true, decide_eq_true_eq] at h1
  obtain ⟨⟨u, h2, rfl⟩, h3⟩ := h1
  exact List.mem_filter.mpr ⟨h2, h3⟩
/-- where a throw of E at pc goes on -/
def hnd (pc : Nat) (E : String) : List ExceptionTableEntry → Option Nat
  | [] => none
  | x :: l => if covers x pc = true then (if (x.catchType, E) ∈ tb_cn then some x.handlerPc else if (tb_cn.any fun q => decide (q.1 = x.catchType) && decide ((E, q.2) ∈ ncL)) = true then hnd pc E l else none) else hnd pc E l
section WRAP
variable {g : GG} {d m bc bs pc : Nat} {Z : ZT} {ls : LsT} {st : List Value} {M : Mem} {Q : Option Value → Mem → Prop} {XQ : String → Mem → Prop}
theorem EvW.mk {args : List Value} (hm : 215 ≤ m ∧ m < 238) (hlen : (lg_sl args).length ≤ h_n m) (k : Eg g d m bc bs (Zr g Q) 0 (lv_args 0 args) [] M) : EvW g d m bc bs args M Q := by
  obtain ⟨-, -, -, hpl, -⟩ := wk hm
  refine met_ofWH (cc := h_c m) (maxL := h_n m) (ret := h_r m) (hh := tb_hh m) hpl rfl ?_
  intro p e s mi ar be me cd s₁ B hml hv
  obtain ⟨rfl, hW, hH⟩ := hv
  have hts := atoms_spec (ws := Cond.codeWith (h_y m) (h_c m) (h_n m) (h_r m) (tb_hh m) :: T0) B.pre
  have C : Cx g m p s mi args.toArray me cd := ⟨by show m < 239; omega, B.exec, B.bytes, B.returns, ⟨B.notSynchronized, vx_table (x := h_y m) B (hts _ List.mem_cons_self), _, hH⟩, hml, findClass_of_methodNamed B.named, fun w hw => hts w (List.mem_cons_of_mem _ hw), (name_of_methodNamed B.named B.method).1, hW⟩
  have hl := lv_entry args (n := h_n m) hlen
  rw [lg_entry_eq]
  exact k p e _ s mi args.toArray be me cd s.heap [] 0 0 _ C (Nat.le_refl _) (Nat.le_refl _) (by simp [headSpec]) (by simp [headSpec]) hH hl (fun q hq => by cases hq)
theorem W_catch {p : Program} {e : Env} {R : Room} {s : State} {mi : MethodId} {ar : Array Value} {be : List Frame} {me : Method} {cd : Code} {H : Heap} {lo : List Loc} {ce sl h : Nat} {lsA : Array Slot} {rest : List Value} {P : State → Prop} {E : String} {cl : Cell} {q : Addr}
    (C : Cx g m p s mi ar me cd) (hm : (h_y m).cls = RL) (hcell : H[q]? = some cl) (hv : cl.vm = .none) (hcl : s.vm.findClass E = some cl.cls)
    (kk : W p (gL g) e R s mi ar be me cd H lo ce sl P (F0 mi h lsA [.ref q])) :
    ∀ (l pre : List ExceptionTableEntry), cd.exceptionTable.toList = pre ++ l → (∀ z ∈ pre, covers z pc = false ∨ (z.catchType ≠ 0 ∧ ∃ nm : String, (Cond.classLink (h_y m).cls z.catchType nm).before ar s = true ∧ va_Nc E nm s)) → hnd pc E l = some h →
      vx_W p (gL g) e R s mi ar be me cd H lo ce sl P (F0 mi pc lsA rest) q := by
  obtain ⟨-, -, ⟨-, -, -, -, -, -, -, t5, t6, -⟩, -⟩ := C.wd
  have hc0 : ∀ z : Nat × String, z ∈ tb_cn → z.1 ≠ 0 := by decide +kernel
  intro l
  induction l with
  | nil => intro pre _ _ hh; cases hh
  | cons x l ih =>
    intro pre hs hp hh
    unfold hnd at hh
    by_cases hx : covers x pc = true
    · rw [if_pos hx] at hh
      by_cases h1 : (x.catchType, E) ∈ tb_cn
      · rw [if_pos h1] at hh
        cases hh
        have hca : (Cond.castable E E).before ar s = true := va_tabs (c := Cond.castable E E) (by rfl) (u := s) (U := s) rfl (t5 _ (tb_cn_cast _ h1))
        exact vx_catch C.ow pre x l hs hp hx (hc0 _ h1) (hm ▸ C.ts _ (tb_cn_in _ h1)) hca hcell hv hcl kk
      · rw [if_neg h1] at hh
        by_cases h2 : (tb_cn.any fun q => decide (q.1 = x.catchType) && decide ((E, q.2) ∈ ncL)) = true
        · rw [if_pos h2] at hh
          obtain ⟨z, hz, h3⟩ := List.any_eq_true.mp h2
          simp only [Bool.and_eq_true, decide_eq_true_eq] at h3
          refine ih (pre ++ [x]) (by rw [hs]; simp) (fun y hy => ?_) hh
          rcases List.mem_append.mp hy with hy | hy
          · exact hp y hy
          · rw [List.mem_singleton.mp hy]
            exact Or.inr ⟨by rw [← h3.1]; exact hc0 _ hz, z.2, by rw [← h3.1, hm]; exact C.ts _ (tb_cn_in _ hz), t6 _ h3.2⟩
        · rw [if_neg h2] at hh
          cases hh
    · rw [if_neg hx] at hh
      refine ih (pre ++ [x]) (by rw [hs]; simp) (fun y hy => ?_) hh
      rcases List.mem_append.mp hy with hy | hy
      · exact hp y hy
      · rw [List.mem_singleton.mp hy]
        exact Or.inl (Bool.eq_false_iff.mpr hx)
theorem X_callX {i bc1 bs1 : Nat} {o : Nat} {args rest : List Value} {q0 nx a b w : Nat} {sp : Bool} {ki : Int32} {kl : Int64} (hr : rowAt m pc = some (q0, .invokevirtual i, nx, (a, b, 0, w, sp), ki, kl)) (hml : (h_y m).cls = RL) (ha : a < 215 ∧ tb_kind a = 1) (ht : m_tg M o = tb_tag a) (hn : args.length = b) (hs : st = args.reverse ++ .ref o :: rest) (hsum : (rest.map fun v => v.category).sum ≤ 8) (hM : EvX g d a bc1 bs1 (.ref o :: args) M Q XQ) (k : ∀ v M1, Q v M1 → Eg g (d + 1) m bc bs Z nx ls (v.toList ++ rest) M1)
    (kx : ∀ E M1, XQ E M1 → ∃ h, hnd pc E (tableOf (tb_hh m)) = some h ∧ ∀ q, Eg g (d + 1) m bc bs Z h ls [.ref q] M1) : Eg g (d + 1) m (bc + bc1) (bs + bs1) Z pc ls st M := by
  by_cases hm : m < tb_n
  · obtain ⟨g1, g2⟩ := row_use hr hm
    obtain ⟨hd1, hd2⟩ := dec_of (n := 3) g1 rfl rfl
    have hx := g1
    simp only [rowOk, Bool.and_eq_true, Bool.or_eq_true, decide_eq_true_eq] at hx
    have h3 : q0 = pc := g2
    subst h3
    have h4 : nx = q0 + 3 := hd2
    subst h4
    have hk : linkOk (h_y m) i a b 0 w = true := by
      have h9 := hx.2
      rw [if_neg (show ¬ 1000 ≤ a by omega)] at h9
      exact h9
    unfold linkOk at hk
    rw [if_neg (by decide), Bool.and_eq_true, decide_eq_true_eq] at hk
    have hlink := wAt_in hk.1
    have hnn := hk.2
    have hh := (kind_spec ha.1).1
    intro p e R s mi ar be me cd H lo ce sl lsA C h1 h2 h3 h4 hH hl hL
    obtain ⟨hi, hse, ci, q, hci, hci2, hq, hqn⟩ := virt_spec ((kind_spec ha.1).2.2.1 ha.2)
    obtain ⟨-, r, hr, cell, q1, q2, q3, -⟩ := hH.2.1 o ci (by rw [ht, hci]) hci2
    cases hq.symm.trans hr
    have hcl := (C.wd.k.1 ci _ hq).2.1
    have hpre : PreV s H (h_y a).cls o (EPc g (.ref o :: args) M) args := ⟨EPc.blind, ⟨cell, q1, by rw [q3]; rfl, by rw [q2, ← hqn]; exact hcl⟩, fun U hU hW => EPc.of C.wd hH hU hW⟩
    have hrun := vx_runV (e := e) (below := be) (meth := me) (g := F0 mi q0 lsA st) (rest := rest) (cells := ce) (slots := sl) (locs := lo) ⟨C.ex, C.cc, C.ml, C.ow, C.ts⟩ hM ⟨E_cB C hh h1 h2 hnn hlink, C.ts _ hi, C.ts _ hse⟩ hpre rfl hn hl.1 hs (sum_ok hsum) (hd1) ⟨by omega, by omega⟩
    intro T hT X
    rcases hrun T hT X with ⟨v, st₀, t, T', L, h0, X', hLL, e1, e2, ⟨v', M', hv, hq, hH'⟩, stp⟩ | ⟨qa, st₀, t, T', L, E, cx, h0, X', hLL, e1, e2, ⟨M1, hq, hH'⟩, hce, hcv, hcc, stp⟩
    · cases hv
      obtain ⟨t2, a1, b1⟩ := k v M' hq p e R s mi ar be me cd T'.heap (lo ++ L) (ce + bc1) (sl + bs1) lsA C h1 h2 (by omega) (by omega) (hH'.of_heap e1) hl (fun q hq => by
        rcases List.mem_append.mp hq with h | h
        · exact hL q h
        · exact hLL q h) T' rfl X'
      exact ⟨t2, stp t2 a1, b1⟩
    · obtain ⟨h, hh1, hh2⟩ := kx E M1 hq
      obtain ⟨t2, a1, b1⟩ := W_catch (pc := q0) (rest := rest) (P := Z be ar s R.cells R.slots) C hml (H := T'.heap) (lo := lo ++ L) (ce := ce + bc1) (sl := sl + bs1) (by rw [e1]; exact hce) hcv hcc (hh2 qa p e R s mi ar be me cd T'.heap (lo ++ L) (ce + bc1) (sl + bs1) lsA C h1 h2 (by omega) (by omega) (hH'.of_heap e1) hl (fun q hq => by
        rcases List.mem_append.mp hq with h | h
        · exact hL q h
        · exact hLL q h)) _ [] C.tab (fun z hz => by cases hz) hh1 T' rfl X'
      exact ⟨t2, stp.trans a1, b1⟩
  · exact Eg.vac hm
theorem X_callW {i bc1 bs1 : Nat} {args rest : List Value} {q0 nx a b w : Nat} {sp : Bool} {ki : Int32} {kl : Int64} (hr : rowAt m pc = some (q0, .invokestatic i, nx, (a, b, 0, w, sp), ki, kl)) (ha : 215 ≤ a ∧ a < 238) (hn : args.length = b) (hs : st = args.reverse ++ rest) (hsum : (rest.map fun v => v.category).sum ≤ 8) (hM : EvW g d a bc1 bs1 args M Q) (k : ∀ v M1, Q v M1 → Eg g (d + 1) m bc bs Z nx ls (v.toList ++ rest) M1) : Eg g (d + 1) m (bc + bc1) (bs + bs1) Z pc ls st M := by
  by_cases hm : m < tb_n
  · obtain ⟨g1, g2⟩ := row_use hr hm
    obtain ⟨hd1, hd2⟩ := dec_of (n := 3) g1 rfl rfl
    have hx := g1
    simp only [rowOk, Bool.and_eq_true, Bool.or_eq_true, decide_eq_true_eq] at hx
    have h3 : q0 = pc := g2
    subst h3
    have h4 : nx = q0 + 3 := hd2
    subst h4
    have hk : linkOk (h_y m) i a b 0 w = true := by
      have h9 := hx.2
      rw [if_neg (show ¬ 1000 ≤ a by omega)] at h9
      exact h9
    unfold linkOk at hk
    rw [if_neg (by decide), Bool.and_eq_true, decide_eq_true_eq] at hk
    have hlink := wAt_in hk.1
    have hnn := hk.2
    obtain ⟨w1, w2, w3, -, w5⟩ := wk ha
    have w6 := cw_all ha
    intro p e R s mi ar be me cd H lo ce sl lsA C h1 h2 h3 h4 hH hl hL
    have hpre : PreS s H (EPc g args M) args := ⟨EPc.blind, fun U hU hW => EPc.of C.wd hH hU hW⟩
    refine E_after (a := a) (bc1 := bc1) (bs1 := bs1) (args := args) (rest := rest) (Q := Q) C h1 h2 (by omega) (by omega) hl hL ?_ k
    have cw : vx_CSW R s ar (h_y m).cls i (h_y a) (h_c a) (h_n a) (h_r a) (tb_hh a) (Cond.codeWith (h_y a) (h_c a) (h_n a) (h_r a) (tb_hh a) :: T0) (rmD d bc1 bs1) bc1 bs1 b := by
      refine ⟨⟨rfl, rfl, h1, by show 8 + (h_n a + 11) + 80 * d ≤ R.locals; omega, fun w hw => ?_, List.mem_cons_self⟩, C.ts _ w6, C.ts _ w2, w3, fun sig h => ?_, C.ts _ hlink, C.ts _ w5⟩
      · rcases List.mem_cons.mp hw with rfl | hw
        · exact t0_good C.ts w6
        · exact t0_good C.ts hw
      · rw [h] at hnn
        exact (Option.some.inj hnn).symm
    exact vx_runSW ⟨C.ex, C.cc, C.ml, C.ow, C.ts⟩ hM cw hpre rfl hn hl.1 hs (sum_ok hsum) hd1 ⟨by omega, by omega⟩
  · exact Eg.vac hm
end WRAP
