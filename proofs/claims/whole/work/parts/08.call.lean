section CALLS
variable {g : GG} {d m bc bs pc : Nat} {Z : ZT} {ls : LsT} {st : List Value} {M : Mem}
theorem head_spec {a : Nat} (h : Cond.code (h_y a) (h_c a) (h_n a) (h_r a) ∈ T0 ∧ headOk a = true) : h_n a ≤ 40 ∧ Cond.code (h_y a) (h_c a) (h_n a) (h_r a) ∈ T0 ∧ Cond.initialized (h_y a).cls ∈ T0 ∧ ((h_y a).cls ≠ "java/lang/invoke/MethodHandle" ∧ (h_y a).cls ≠ "java/lang/invoke/VarHandle") ∧ plainName (h_y a).cls = true := by
  obtain ⟨hc, h⟩ := h
  simp only [headOk, Bool.and_eq_true] at h
  obtain ⟨⟨⟨h1, h3⟩, h4⟩, h5⟩ := h
  exact ⟨of_decide_eq_true h1, hc, wAt_in h3, of_decide_eq_true h4, h5⟩
theorem t0_good {s : State} {args : Array Value} (hts : ∀ w ∈ T0, w.before args s = true) {w : Cond} (hw : w ∈ T0) : ∀ (a' : Array Value) (U : State), s.WarmedH U.vm → w.before a' U = true :=
  fun a' U hW => word_at hW (good_of_word (List.mem_filter.mp hw).2) (hts w hw)
theorem EPc.of {s U : State} {H : Heap} {args : List Value} (hW : Wd g s) (hH : HR g M H) (hu : U.heap = H) (hw : s.WarmedH U.vm) : EPc g args M args.toArray U := ⟨rfl, Wd.moved hw hW, hH.of_heap hu⟩
/-- how a call goes on -/
theorem E_after {a bc1 bs1 : Nat} {args : List Value} {rest : List Value} {Q : Option Value → Mem → Prop} {p : Program} {e : Env} {R : Room} {s : State} {mi : MethodId} {ar : Array Value} {be : List Frame} {me : Method} {cd : Code} {H : Heap} {lo : List Loc} {ce sl : Nat} {lsA : Array Slot}
    (C : Cx g m p s mi ar me cd) (h1 : d ≤ R.frames) (h2 : 80 * d ≤ R.locals) (h3 : ce + bc1 + bc ≤ R.cells) (h4 : sl + bs1 + bs ≤ R.slots) (hl : lv_has lsA (h_n m) ls) (hL : ∀ q ∈ lo, gB g ≤ q.base)
    (hr : va_Run p (gL g) e R s mi ar be me cd H lo ce sl bc1 bs1 (F0 mi pc lsA st) rest (QQ g Q args.toArray) (fun q => gB g ≤ q))
    (k : ∀ v M', Q v M' → Eg g d m bc bs Z (pc + 3) ls (v.toList ++ rest) M') : W p (gL g) e R s mi ar be me cd H lo ce sl (Z be ar s R.cells R.slots) (F0 mi pc lsA st) := by
  intro T hT X
  obtain ⟨v, st₀, t, T', L, h0, X', hLL, e1, e2, ⟨v', M', hv, hq, hH'⟩, stp⟩ := hr T hT X
  cases hv
  obtain ⟨t2, a1, b1⟩ := k v M' hq p e R s mi ar be me cd T'.heap (lo ++ L) (ce + bc1) (sl + bs1) lsA C h1 h2 h3 h4 (hH'.of_heap e1) hl (fun q hq => by
    rcases List.mem_append.mp hq with h | h
    · exact hL q h
    · exact hLL q h) T' rfl X'
  exact ⟨t2, stp t2 a1, b1⟩
theorem E_cB {a n bc1 bs1 i : Nat} {R : Room} {s : State} {mi : MethodId} {ar : Array Value} {p : Program} {me : Method} {cd : Code} (C : Cx g m p s mi ar me cd) (hh : Cond.code (h_y a) (h_c a) (h_n a) (h_r a) ∈ T0 ∧ headOk a = true) (h1 : d + 1 ≤ R.frames) (h2 : 80 * (d + 1) ≤ R.locals)
    (hn : (parseMethodDescriptor (h_y a).desc).map (fun d => d.parameters.length) = some n) (hl : Cond.methodLink (h_y m).cls i (h_y a) ∈ T0) :
    CallB R s ar (h_y m).cls i (h_y a) (h_c a) (h_n a) (h_r a) (Cond.code (h_y a) (h_c a) (h_n a) (h_r a) :: T0) (rmD d bc1 bs1) bc1 bs1 n := by
  obtain ⟨g1, g2, g3, g4, g5⟩ := head_spec hh
  refine ⟨rfl, rfl, h1, by show 8 + (h_n a + 11) + 80 * d ≤ R.locals; omega, fun w hw => ?_, List.mem_cons_self, C.ts _ g2, C.ts _ g3, g4, fun sig h => ?_, C.ts _ hl⟩
  · rcases List.mem_cons.mp hw with rfl | hw
    · exact t0_good C.ts g2
    · exact t0_good C.ts hw
  · rw [h] at hn
    exact (Option.some.inj hn).symm
theorem E_cN {a n bc1 bs1 i : Nat} {R : Room} {s : State} {mi : MethodId} {ar : Array Value} {p : Program} {me : Method} {cd : Code} {host : String} (C : Cx g m p s mi ar me cd) (hh : Cond.code (h_y a) (h_c a) (h_n a) (h_r a) ∈ T0 ∧ headOk a = true) (h1 : d + 1 ≤ R.frames) (h2 : 80 * (d + 1) ≤ R.locals)
    (hn : (parseMethodDescriptor (h_y a).desc).map (fun d => d.parameters.length) = some n) (hl : Cond.methodLinkNest (h_y m).cls i (h_y a) host ∈ TN) :
    va_CN R s ar (h_y m).cls i (h_y a) host (h_c a) (h_n a) (h_r a) (Cond.code (h_y a) (h_c a) (h_n a) (h_r a) :: T0) (rmD d bc1 bs1) bc1 bs1 n := by
  obtain ⟨g1, g2, g3, g4, g5⟩ := head_spec hh
  refine ⟨⟨rfl, rfl, h1, by show 8 + (h_n a + 11) + 80 * d ≤ R.locals; omega, fun w hw => ?_, List.mem_cons_self⟩, C.ts _ g2, C.ts _ g3, g4, fun sig h => ?_, va_Nw.use rfl (C.wd.tn hl)⟩
  · rcases List.mem_cons.mp hw with rfl | hw
    · exact t0_good C.ts g2
    · exact t0_good C.ts hw
  · rw [h] at hn
    exact (Option.some.inj hn).symm
theorem virt_spec {a : Nat} (h : virtOk a = true) : Cond.instanceMethod (h_y a) ∈ T0 ∧ Cond.selects (h_y a).cls (h_y a) (h_y a) ∈ T0 ∧ ∃ (ci : Nat) (q : vw_C), tb_tag a = ci + 1 ∧ ci < 12 ∧ vwCl[ci]? = some q ∧ q.1 = (h_y a).cls := by
  simp only [virtOk, Bool.and_eq_true] at h
  obtain ⟨⟨h1, h2⟩, h3⟩ := h
  refine ⟨wAt_in h1, wAt_in h2, ?_⟩
  split at h3
  · rename_i q hq
    have := of_decide_eq_true h3
    exact ⟨tb_tag a - 1, q, by omega, by omega, hq, this.1⟩
  · cases h3
theorem lk_spec {y : MethodName} {i a b c w : Nat} (h : linkOk y i a b c w = true) : (Cond.methodLinkNest y.cls i (h_y a) (hostOf y.cls) ∈ TN ∨ Cond.methodLink y.cls i (h_y a) ∈ T0) ∧ (parseMethodDescriptor (h_y a).desc).map (fun d => d.parameters.length) = some b := by
  simp only [linkOk, Bool.and_eq_true] at h
  refine ⟨?_, of_decide_eq_true h.2⟩
  have h1 := h.1
  split at h1
  · exact Or.inl (nAt_in h1)
  · exact Or.inr (wAt_in h1)
theorem sum_ok {mi : MethodId} {lsA : Array Slot} {rest : List Value} (h : (rest.map fun v => v.category).sum ≤ 8) : 2 * (F0 mi pc lsA st).monitorRoom + (rest.map fun v => v.category).sum ≤ 8 := by
  have : (F0 mi pc lsA st).monitorRoom = 0 := rfl
  omega
theorem E_callV {a i b c w bc1 bs1 o : Nat} {args rest : List Value} {Q : Option Value → Mem → Prop} (hk : m < tb_n → linkOk (h_y m) i a b c w = true) (hh : Cond.code (h_y a) (h_c a) (h_n a) (h_r a) ∈ T0 ∧ headOk a = true) (hv : virtOk a = true) (ht : m_tg M o = tb_tag a) (hn : args.length = b) (hs : st = args.reverse ++ .ref o :: rest) (hsum : (rest.map fun v => v.category).sum ≤ 8)
    (hd : m < tb_n → decode (h_c m) pc = .ok (.invokevirtual i, 3)) (hM : EvM g d a bc1 bs1 (.ref o :: args) M Q) (k : ∀ v M', Q v M' → Eg g (d + 1) m bc bs Z (pc + 3) ls (v.toList ++ rest) M') : Eg g (d + 1) m (bc + bc1) (bs + bs1) Z pc ls st M := by
  intro p e R s mi ar be me cd H lo ce sl lsA C h1 h2 h3 h4 hH hl hL
  obtain ⟨hlink, hnn⟩ := lk_spec (hk C.lt)
  obtain ⟨hi, hse, ci, q, hci, hci2, hq, hqn⟩ := virt_spec hv
  obtain ⟨-, r, hr, cell, q1, q2, q3, -⟩ := hH.2.1 o ci (by rw [ht, hci]) hci2
  cases hq.symm.trans hr
  have hcl := (C.wd.k.1 ci _ hq).2.1
  have hpre : PreV s H (h_y a).cls o (EPc g (.ref o :: args) M) args := ⟨EPc.blind, ⟨cell, q1, by rw [q3]; rfl, by rw [q2, ← hqn]; exact hcl⟩, fun U hU hW => EPc.of C.wd hH hU hW⟩
  refine E_after (a := a) (bc1 := bc1) (bs1 := bs1) (args := .ref o :: args) (rest := rest) (Q := Q) C h1 h2 (by omega) (by omega) hl hL ?_ k
  rcases hlink with hlink | hlink
  · exact va_runVN ⟨C.ex, C.cc, C.ml, C.ow, C.ts⟩ hM ⟨E_cN C hh h1 h2 hnn hlink, C.ts _ hi, C.ts _ hse⟩ hpre rfl hn hl.1 hs (sum_ok hsum) (hd C.lt) ⟨by omega, by omega⟩
  · exact va_runV ⟨C.ex, C.cc, C.ml, C.ow, C.ts⟩ hM ⟨E_cB C hh h1 h2 hnn hlink, C.ts _ hi, C.ts _ hse⟩ hpre rfl hn hl.1 hs (sum_ok hsum) (hd C.lt) ⟨by omega, by omega⟩
theorem E_callS {a i b c w bc1 bs1 : Nat} {args rest : List Value} {Q : Option Value → Mem → Prop} (hk : m < tb_n → linkOk (h_y m) i a b c w = true) (hh : Cond.code (h_y a) (h_c a) (h_n a) (h_r a) ∈ T0 ∧ headOk a = true) (hv : statOk a = true) (hn : args.length = b) (hs : st = args.reverse ++ rest) (hsum : (rest.map fun v => v.category).sum ≤ 8)
    (hd : m < tb_n → decode (h_c m) pc = .ok (.invokestatic i, 3)) (hM : EvM g d a bc1 bs1 args M Q) (k : ∀ v M', Q v M' → Eg g (d + 1) m bc bs Z (pc + 3) ls (v.toList ++ rest) M') : Eg g (d + 1) m (bc + bc1) (bs + bs1) Z pc ls st M := by
  intro p e R s mi ar be me cd H lo ce sl lsA C h1 h2 h3 h4 hH hl hL
  obtain ⟨hlink, hnn⟩ := lk_spec (hk C.lt)
  have hst : Cond.static (h_y a) ∈ T0 := wAt_in hv
  have hpre : PreS s H (EPc g args M) args := ⟨EPc.blind, fun U hU hW => EPc.of C.wd hH hU hW⟩
  refine E_after (a := a) (bc1 := bc1) (bs1 := bs1) (args := args) (rest := rest) (Q := Q) C h1 h2 (by omega) (by omega) hl hL ?_ k
  rcases hlink with hlink | hlink
  · exact va_runSN ⟨C.ex, C.cc, C.ml, C.ow, C.ts⟩ hM ⟨E_cN C hh h1 h2 hnn hlink, C.ts _ hst, trivial⟩ hpre rfl hn hl.1 hs (sum_ok hsum) (hd C.lt) ⟨by omega, by omega⟩
  · exact va_runS ⟨C.ex, C.cc, C.ml, C.ow, C.ts⟩ hM ⟨E_cB C hh h1 h2 hnn hlink, C.ts _ hst⟩ hpre rfl hn hl.1 hs (sum_ok hsum) (hd C.lt) ⟨by omega, by omega⟩
theorem E_callI {a i b c w bc1 bs1 o : Nat} {args rest : List Value} {Q : Option Value → Mem → Prop} (hk : m < tb_n → linkOk (h_y m) i a b c w = true) (hh : Cond.code (h_y a) (h_c a) (h_n a) (h_r a) ∈ T0 ∧ headOk a = true) (hv : initOk a = true) (hn : args.length = b) (hs : st = args.reverse ++ .ref o :: rest) (hsum : (rest.map fun v => v.category).sum ≤ 8)
    (hd : m < tb_n → decode (h_c m) pc = .ok (.invokespecial i, 3)) (hM : EvM g d a bc1 bs1 (.ref o :: args) M Q) (k : ∀ v M', Q v M' → Eg g (d + 1) m bc bs Z (pc + 3) ls (v.toList ++ rest) M') : Eg g (d + 1) m (bc + bc1) (bs + bs1) Z pc ls st M := by
  intro p e R s mi ar be me cd H lo ce sl lsA C h1 h2 h3 h4 hH hl hL
  obtain ⟨hlink, hnn⟩ := lk_spec (hk C.lt)
  simp only [initOk, Bool.and_eq_true] at hv
  have hi : Cond.instanceMethod (h_y a) ∈ T0 := wAt_in hv.1
  obtain ⟨hnm, hret⟩ := of_decide_eq_true hv.2
  have hpre : PreS s H (EPc g (.ref o :: args) M) (.ref o :: args) := ⟨EPc.blind, fun U hU hW => EPc.of C.wd hH hU hW⟩
  refine E_after (a := a) (bc1 := bc1) (bs1 := bs1) (args := .ref o :: args) (rest := rest) (Q := Q) C h1 h2 (by omega) (by omega) hl hL ?_ k
  rcases hlink with hlink | hlink
  · exact va_runIN ⟨C.ex, C.cc, C.ml, C.ow, C.ts⟩ hM ⟨by have := E_cN (bc1 := bc1) (bs1 := bs1) C hh h1 h2 hnn hlink; rw [hret] at this ⊢; exact this, hnm, C.ts _ hi⟩ hpre rfl hn hl.1 hs (sum_ok hsum) (hd C.lt) ⟨by omega, by omega⟩
  · exact va_runI ⟨C.ex, C.cc, C.ml, C.ow, C.ts⟩ hM ⟨by have := E_cB (bc1 := bc1) (bs1 := bs1) C hh h1 h2 hnn hlink; rw [hret] at this ⊢; exact this, hnm, C.ts _ hi⟩ hpre rfl hn hl.1 hs (sum_ok hsum) (hd C.lt) ⟨by omega, by omega⟩
/-- Object's own -/
theorem E_obj {i o : Nat} {rest : List Value} (hk : m < tb_n → Cond.methodLink (h_y m).cls i objectInit ∈ T0) (hio : Cond.instanceMethod objectInit ∈ T0 ∧ Cond.code objectInit ⟨#[0xb1]⟩ 1 none ∈ T0) (hd : m < tb_n → decode (h_c m) pc = .ok (.invokespecial i, 3)) (hsum : (rest.map fun v => v.category).sum ≤ 8) (k : Eg g (d + 1) m bc bs Z (pc + 3) ls rest M) : Eg g (d + 1) m bc bs Z pc ls (.ref o :: rest) M := by
  intro p e R s mi ar be me cd H lo ce sl lsA C h1 h2 h3 h4 hH hl hL
  have hz := sum_ok (st := Value.ref o :: rest) (pc := pc) (mi := mi) (lsA := lsA) hsum
  exact W.objInit C.ex C.cc C.ow (C.ts _ (hk C.lt)) (C.ts _ hio.1) (C.ts _ hio.2) rfl (by rw [C.ml]; exact hl.1) rfl (hd C.lt) (by omega) (by omega) (k p e R s mi ar be me cd H lo ce sl lsA C h1 h2 h3 h4 hH hl hL)
/-- a method's own walk -/
theorem EvM.enter {args : List Value} {Q : Option Value → Mem → Prop} (hm : m < tb_n) (hm' : m < 215) (hh : Cond.code (h_y m) (h_c m) (h_n m) (h_r m) ∈ T0 ∧ headOk m = true) (hlen : (lg_sl args).length ≤ h_n m) (k : Eg g d m bc bs (Zr g Q) 0 (lv_args 0 args) [] M) : EvM g d m bc bs args M Q := by
  refine Met.ofW (cc := h_c m) (maxL := h_n m) (ret := h_r m) (head_spec hh).2.2.2.2 rfl ?_
  intro p e s mi ar be me cd s₁ B hml hv
  obtain ⟨rfl, hW, hH⟩ := hv
  have hts := atoms_spec (ws := Cond.code (h_y m) (h_c m) (h_n m) (h_r m) :: T0) B.pre
  have ht : ∀ x ∈ cd.exceptionTable.toList, False := by
    obtain ⟨meth9, c9, h1, h2, -, -, -, -, h7, -⟩ := Cond.code_spec B.named (hts _ List.mem_cons_self)
    cases Option.some.inj (h1.symm.trans B.method)
    cases Option.some.inj (h2.symm.trans (Stand.of_body B).code)
    intro x hx
    rw [Array.isEmpty_iff.mp h7] at hx
    cases hx
  have C : Cx g m p s mi args.toArray me cd := ⟨hm, B.exec, B.bytes, B.returns, ⟨B.notSynchronized, by rw [tb_hh_lo hm']; exact List.eq_nil_iff_forall_not_mem.mpr ht, _, hH⟩, hml, findClass_of_methodNamed B.named, fun w hw => hts w (List.mem_cons_of_mem _ hw), (name_of_methodNamed B.named B.method).1, hW⟩
  have hl := lv_entry args (n := h_n m) hlen
  rw [lg_entry_eq]
  exact k p e _ s mi args.toArray be me cd s.heap [] 0 0 _ C (Nat.le_refl _) (Nat.le_refl _) (by simp [headSpec]) (by simp [headSpec]) hH hl (fun q hq => by cases hq)
end CALLS
theorem all_chunks {l : List RowT} {p : RowT → Bool} (n K : Nat) (hl : l.length ≤ n * K) (h : ∀ j, j < K → ((l.drop (n * j)).take n).all p = true) : l.all p = true := by
  rw [List.all_eq_true]
  intro r hr
  obtain ⟨i, hi, rfl⟩ := List.getElem_of_mem hr
  have hn : 0 < n := by
    rcases Nat.eq_zero_or_pos n with z | z
    · subst z; omega
    · exact z
  have hj : i / n < K := by
    rw [Nat.div_lt_iff_lt_mul hn]
    have := Nat.mul_comm n K
    omega
  refine List.all_eq_true.mp (h (i / n) hj) _ ?_
  have hm := Nat.div_add_mod i n
  have hlt := Nat.mod_lt i hn
  rw [List.mem_take_iff_getElem]
  refine ⟨i % n, ?_, ?_⟩
  · simp only [List.length_drop]; omega
  · simp only [List.getElem_drop, hm]
