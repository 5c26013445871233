/-! String.length and String.charAt over the reference's texts; a text as a number -/
def chS (i j : Nat) : Int32 := (smB.getD i []).getD j 0
theorem sm_all : ∀ i, i < 11 → (smL.getD i 0 ≤ 6 ∧ smL.getD i 0 = (kwW i).length ∧ nI (smL.getD i 0) >>> ((0 : Int32) &&& 31) = nI (smL.getD i 0)) ∧ ∀ j, j < smL.getD i 0 → (((chS i j &&& 255).toUInt32 % 65536).toInt32 = chS i j ∧ (chS i j).toUInt32.toUInt16.toUInt32.toInt32 = chS i j ∧ chS i j = nI ((kwW i).getD j 0) ∧ (kwW i).getD j 0 < 256) := by decide +kernel
abbrev CbT (R : Room) (s : State) (ar : Array Value) (own : String) (ix : Nat) (y' : MethodName) (cc' : ByteArray) (n' : Nat) (r' : Option FieldType) (d b : Nat) : Prop := CallB R s ar own ix y' cc' n' r' (Cond.code y' cc' n' r' :: T0) (rmD d 0 0) 0 0 b
theorem cb_of {R : Room} {s : State} {ar : Array Value} {own : String} {ix n' d b : Nat} {y' : MethodName} {cc' : ByteArray} {r' : Option FieldType} (ht : ∀ w ∈ T0, w.before ar s = true) (hl : Cond.methodLink own ix y' ∈ T0) (hc : Cond.code y' cc' n' r' ∈ T0) (hi : Cond.initialized y'.cls ∈ T0) (hn : n' ≤ 40) (hy : y'.cls ≠ "java/lang/invoke/MethodHandle" ∧ y'.cls ≠ "java/lang/invoke/VarHandle") (hp : (parseMethodDescriptor y'.desc).map (fun d => d.parameters.length) = some b) (h1 : d + 1 ≤ R.frames) (h2 : 80 * (d + 1) ≤ R.locals) : CbT R s ar own ix y' cc' n' r' d b := by
  refine ⟨rfl, rfl, h1, by show 8 + (n' + 11) + 80 * d ≤ R.locals; omega, fun w hw => ?_, List.mem_cons_self, ht _ hc, ht _ hi, hy, fun sig h => ?_, ht _ hl⟩
  · rcases List.mem_cons.mp hw with rfl | hw
    · exact t0_good ht hc
    · exact t0_good ht hw
  · rw [h] at hp
    exact (Option.some.inj hp).symm
/-- the words of a virtual call of a JDK method, and of a static one -/
def WvJ (own : String) (ix : Nat) (y' : MethodName) (cc' : ByteArray) (n' : Nat) (r' : Option FieldType) (b : Nat) : Prop := (Cond.methodLink own ix y' ∈ T0 ∧ Cond.code y' cc' n' r' ∈ T0 ∧ Cond.initialized y'.cls ∈ T0) ∧ n' ≤ 40 ∧ (y'.cls ≠ "java/lang/invoke/MethodHandle" ∧ y'.cls ≠ "java/lang/invoke/VarHandle") ∧ (parseMethodDescriptor y'.desc).map (fun d => d.parameters.length) = some b
section STR
variable {g : GG} {d n pc : Nat} {y : MethodName} {cc : ByteArray} {r : Option FieldType} {Z : ZT} {ls : LsT} {st : List Value} {M : Mem} {Q : Option Value → Mem → Prop}
theorem J_callV {i ix n' : Nat} {y' : MethodName} {cc' : ByteArray} {r' : Option FieldType} {args rest : List Value} (hi : i < 11) (hw : WvJ y.cls ix y' cc' n' r' args.length) (hv : Cond.instanceMethod y' ∈ T0 ∧ Cond.selects "java/lang/String" y' y' ∈ T0) (hs : st = args.reverse ++ .ref (gSk g i) :: rest) (hsum : (rest.map fun v => v.category).sum ≤ 8) (hd : decode cc pc = .ok (.invokevirtual ix, 3)) (hM : EvJ g d y' cc' n' r' (.ref (gSk g i) :: args) M Q) (k : ∀ v M', Q v M' → Jg g (d + 1) y cc n r Z (pc + 3) ls (v.toList ++ rest) M') : Jg g (d + 1) y cc n r Z pc ls st M := by
  intro p e R s mi ar be me c H lo ce sl lsA C h1 h2 h3 h4 hH hl hL T hT X
  obtain ⟨⟨w1, w2, w3⟩, w4, w5, w6⟩ := hw
  have hpre : PreV s H "java/lang/String" (gSk g i) (EPc g (.ref (gSk g i) :: args) M) args := ⟨EPc.blind, vk_recv C.str hi (vs_of C.2.2.2.2 hH hL hT X), fun U hU hW => EPc.of C.2.2.2.1 hH hU hW⟩
  obtain ⟨v, st₀, t, T', L, h0, X', hLL, e1, e2, ⟨v', M', hv', hq, hH'⟩, stp⟩ := va_runV (e := e) (below := be) (meth := me) (g := F0 mi pc lsA st) (rest := rest) (cells := ce) (slots := sl) (locs := lo) ⟨C.1.1, C.1.2.1, C.1.2.2.2.2, C.2.1, C.2.2.1⟩ hM ⟨cb_of C.2.2.1 w1 w2 w3 w4 w5 w6 h1 h2, C.2.2.1 _ hv.1, C.2.2.1 _ hv.2⟩ hpre rfl rfl hl.1 hs (sum_ok hsum) hd ⟨by omega, by omega⟩ T hT X
  cases hv'
  obtain ⟨t2, a1, b1⟩ := k v M' hq p e R s mi ar be me c T'.heap (lo ++ L) (ce + 0) (sl + 0) lsA C h1 h2 (by omega) (by omega) (hH'.of_heap e1) hl (fun q hq => by
    rcases List.mem_append.mp hq with h | h
    · exact hL q h
    · exact hLL q h) T' rfl X'
  exact ⟨t2, stp t2 a1, b1⟩
theorem J_callS {ix n' : Nat} {y' : MethodName} {cc' : ByteArray} {r' : Option FieldType} {args rest : List Value} (hw : WvJ y.cls ix y' cc' n' r' args.length) (hv : Cond.static y' ∈ T0) (hs : st = args.reverse ++ rest) (hsum : (rest.map fun v => v.category).sum ≤ 8) (hd : decode cc pc = .ok (.invokestatic ix, 3)) (hM : EvJ g d y' cc' n' r' args M Q) (k : ∀ v M', Q v M' → Jg g (d + 1) y cc n r Z (pc + 3) ls (v.toList ++ rest) M') : Jg g (d + 1) y cc n r Z pc ls st M := by
  intro p e R s mi ar be me c H lo ce sl lsA C h1 h2 h3 h4 hH hl hL T hT X
  obtain ⟨⟨w1, w2, w3⟩, w4, w5, w6⟩ := hw
  have hpre : PreS s H (EPc g args M) args := ⟨EPc.blind, fun U hU hW => EPc.of C.2.2.2.1 hH hU hW⟩
  obtain ⟨v, st₀, t, T', L, h0, X', hLL, e1, e2, ⟨v', M', hv', hq, hH'⟩, stp⟩ := va_runS (e := e) (below := be) (meth := me) (g := F0 mi pc lsA st) (rest := rest) (cells := ce) (slots := sl) (locs := lo) ⟨C.1.1, C.1.2.1, C.1.2.2.2.2, C.2.1, C.2.2.1⟩ hM ⟨cb_of C.2.2.1 w1 w2 w3 w4 w5 w6 h1 h2, C.2.2.1 _ hv⟩ hpre rfl rfl hl.1 hs (sum_ok hsum) hd ⟨by omega, by omega⟩ T hT X
  cases hv'
  obtain ⟨t2, a1, b1⟩ := k v M' hq p e R s mi ar be me c T'.heap (lo ++ L) (ce + 0) (sl + 0) lsA C h1 h2 (by omega) (by omega) (hH'.of_heap e1) hl (fun q hq => by
    rcases List.mem_append.mp hq with h | h
    · exact hL q h
    · exact hLL q h) T' rfl X'
  exact ⟨t2, stp t2 a1, b1⟩
variable {m bc bs : Nat}
theorem Cx.str {p : Program} {s : State} {mi : MethodId} {args : Array Value} {meth : Method} {c : Code} (C : Cx g m p s mi args meth c) : vk_S 11 smL smB (gSk g) (gSv g) (fun a => gB g ≤ a) s s.heap := by
  obtain ⟨-, -, ⟨-, -, -, -, -, -, -, -, -, ⟨-, t2⟩, -⟩, -⟩ := C.wd
  exact t2.kept (zA_of C.h0)
/-- the same from a frame of ours -/
theorem X_callStr {i ix n' : Nat} {y' : MethodName} {cc' : ByteArray} {r' : Option FieldType} {args rest : List Value} (hi : i < 11) (hw : WvJ (h_y m).cls ix y' cc' n' r' args.length) (hv : Cond.instanceMethod y' ∈ T0 ∧ Cond.selects "java/lang/String" y' y' ∈ T0) (hs : st = args.reverse ++ .ref (gSk g i) :: rest) (hsum : (rest.map fun v => v.category).sum ≤ 8) (hd : m < tb_n → decode (h_c m) pc = .ok (.invokevirtual ix, 3)) (hM : EvJ g d y' cc' n' r' (.ref (gSk g i) :: args) M Q) (k : ∀ v M', Q v M' → Eg g (d + 1) m bc bs Z (pc + 3) ls (v.toList ++ rest) M') : Eg g (d + 1) m bc bs Z pc ls st M := by
  intro p e R s mi ar be me c H lo ce sl lsA C h1 h2 h3 h4 hH hl hL T hT X
  obtain ⟨⟨w1, w2, w3⟩, w4, w5, w6⟩ := hw
  have hpre : PreV s H "java/lang/String" (gSk g i) (EPc g (.ref (gSk g i) :: args) M) args := ⟨EPc.blind, vk_recv C.str hi (vs_of C.h0 hH hL hT X), fun U hU hW => EPc.of C.wd hH hU hW⟩
  obtain ⟨v, st₀, t, T', L, h0, X', hLL, e1, e2, ⟨v', M', hv', hq, hH'⟩, stp⟩ := va_runV (e := e) (below := be) (meth := me) (g := F0 mi pc lsA st) (rest := rest) (cells := ce) (slots := sl) (locs := lo) ⟨C.ex, C.cc, C.ml, C.ow, C.ts⟩ hM ⟨cb_of C.ts w1 w2 w3 w4 w5 w6 h1 h2, C.ts _ hv.1, C.ts _ hv.2⟩ hpre rfl rfl hl.1 hs (sum_ok hsum) (hd C.lt) ⟨by omega, by omega⟩ T hT X
  cases hv'
  obtain ⟨t2, a1, b1⟩ := k v M' hq p e R s mi ar be me c T'.heap (lo ++ L) (ce + 0) (sl + 0) lsA C h1 h2 (by omega) (by omega) (hH'.of_heap e1) hl (fun q hq => by
    rcases List.mem_append.mp hq with h | h
    · exact hL q h
    · exact hLL q h) T' rfl X'
  exact ⟨t2, stp t2 a1, b1⟩
theorem X_ldcS {i : Nat} (hi : i < 11) (hm : (h_y m).cls = RX11) (hr : (rowAt m pc).map r_in = some (.ldc (smK i))) (k : Eg g d m bc bs Z (pc + 2) ls (.ref (gSk g i) :: st) M) : Eg g d m bc bs Z pc ls st M := by
  intro p e R s mi ar be me c H lo ce sl lsA C h1 h2 h3 h4 hH hl hL
  obtain ⟨-, -, ⟨-, -, -, -, -, -, -, -, -, ⟨t1, -⟩, -⟩, -⟩ := C.wd
  exact va_ldcS C.ex C.cc (by rw [← hm]; exact C.ow) (t1 i hi) (row_in hr rfl C.lt) (k p e R s mi ar be me c H lo ce sl lsA C h1 h2 h3 h4 hH hl hL)
end STR
