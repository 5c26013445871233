/-! the JDK's own methods over the reference's texts -/
def Jx (g : GG) (y : MethodName) (cc : ByteArray) (n : Nat) (r : Option FieldType) (p : Program) (s : State) (mi : MethodId) (args : Array Value) (meth : Method) (c : Code) : Prop :=
  (p.tables.exec = Jvm.exec ∧ c.code = cc ∧ meth.sig.returnType = r ∧ meth.locks = false ∧ c.maxLocals = n) ∧ s.vm.findClass y.cls = some mi.cls ∧ (∀ w ∈ T0, w.before args s = true) ∧ Wd g s ∧ ∃ M0, HR g M0 s.heap
def Jg (g : GG) (d : Nat) (y : MethodName) (cc : ByteArray) (n : Nat) (r : Option FieldType) (Z : ZT) (pc : Nat) (ls : LsT) (st : List Value) (M : Mem) : Prop :=
  ∀ (p : Program) (e : Env) (R : Room) (s : State) (mi : MethodId) (args : Array Value) (below : List Frame) (meth : Method) (c : Code) (H : Heap) (locs : List Loc) (cells slots : Nat) (lsA : Array Slot),
    Jx g y cc n r p s mi args meth c → d ≤ R.frames → 80 * d ≤ R.locals → cells ≤ R.cells → slots ≤ R.slots → HR g M H → lv_has lsA n ls → (∀ q ∈ locs, gB g ≤ q.base) →
      W p (gL g) e R s mi args below meth c H locs cells slots (Z below args s R.cells R.slots) (F0 mi pc lsA st)
def EvJ (g : GG) (d : Nat) (y : MethodName) (cc : ByteArray) (n : Nat) (r : Option FieldType) (args : List Value) (M : Mem) (Q : Option Value → Mem → Prop) : Prop :=
  Met (gL g) y (Cond.code y cc n r :: T0) (rmD d 0 0) (EPc g args M) (QQ g Q) 0 0 (fun q => gB g ≤ q)
theorem zA_of {g : GG} {s : State} (h : ∃ M0, HR g M0 s.heap) : ∀ a : Nat, a < (gH g).size → ¬ gB g ≤ a → s.heap[a]? = (gH g)[a]? := by
  obtain ⟨M0, hM0⟩ := h
  have b0 := hM0.2.2.2.2.2.1.2.2.2
  exact fun a _ hn => b0 a (Nat.lt_of_not_le hn)
theorem vs_of {g : GG} {p : Program} {e : Env} {R : Room} {s : State} {mi : MethodId} {ar : Array Value} {be : List Frame} {me : Method} {cd : Code} {T : State} {H : Heap} {lo : List Loc} {ce sl : Nat} {M : Mem} (h : ∃ M0, HR g M0 s.heap) (hH : HR g M H) (hL : ∀ q ∈ lo, gB g ≤ q.base) (hT : T.heap = H) (X : Stand p (gL g) e R s mi ar be me cd T lo ce sl) : va_S (fun a => gB g ≤ a) s.heap H lo := by
  obtain ⟨M0, hM0⟩ := h
  have b0 := hM0.2.2.2.2.2.1.2.2.2
  have bH := hH.2.2.2.2.2.1.2.2.2
  have hsz : s.heap.size ≤ H.size := by
    have := (vx_frame X.same).1
    rw [← hT]
    exact this
  exact ⟨hsz, fun q _ hn => (bH q (Nat.lt_of_not_le hn)).trans (b0 q (Nat.lt_of_not_le hn)).symm, hL⟩
section JDK
variable {g : GG} {d n pc : Nat} {y : MethodName} {cc : ByteArray} {r : Option FieldType} {Z : ZT} {ls : LsT} {st : List Value} {M : Mem} {Q : Option Value → Mem → Prop}
theorem EvJ.mk {args : List Value} (hy : plainName y.cls = true) (hlen : (lg_sl args).length ≤ n) (k : Jg g d y cc n r (Zr g Q) 0 (lv_args 0 args) [] M) : EvJ g d y cc n r args M Q := by
  refine Met.ofW (cc := cc) (maxL := n) (ret := r) hy rfl ?_
  intro p e s mi ar be me cd s₁ B hml hv
  obtain ⟨rfl, hW, hH⟩ := hv
  have hts := atoms_spec (ws := Cond.code y cc n r :: T0) B.pre
  have C : Jx g y cc n r p s mi args.toArray me cd := ⟨⟨B.exec, B.bytes, B.returns, B.notSynchronized, hml⟩, findClass_of_methodNamed B.named, fun w hw => hts w (List.mem_cons_of_mem _ hw), hW, _, hH⟩
  have hl := lv_entry args (n := n) hlen
  rw [lg_entry_eq]
  exact k p e _ s mi args.toArray be me cd s.heap [] 0 0 _ C (Nat.le_refl _) (Nat.le_refl _) (by simp [headSpec]) (by simp [headSpec]) hH hl (fun q hq => by cases hq)
theorem Jg.mk1 {pc' : Nat} {st' : List Value}
    (h : ∀ (p : Program) (e : Env) (R : Room) (s : State) (mi : MethodId) (args : Array Value) (below : List Frame) (meth : Method) (c : Code) (H : Heap) (locs : List Loc) (cells slots : Nat) (lsA : Array Slot), p.tables.exec = Jvm.exec → c.code = cc → lv_has lsA n ls → ∀ P : State → Prop, W p (gL g) e R s mi args below meth c H locs cells slots P (F0 mi pc' lsA st') → W p (gL g) e R s mi args below meth c H locs cells slots P (F0 mi pc lsA st))
    (k : Jg g d y cc n r Z pc' ls st' M) : Jg g d y cc n r Z pc ls st M := fun p e R s mi ar be me c H lo ce sl lsA C h1 h2 h3 h4 hH hl hL => h p e R s mi ar be me c H lo ce sl lsA C.1.1 C.1.2.1 hl _ (k p e R s mi ar be me c H lo ce sl lsA C h1 h2 h3 h4 hH hl hL)
theorem J_aload {a x : Nat} {q : Fin 4} (hd : decode cc pc = .ok (.aload_n q, 1)) (ha : (q : Nat) = a) (hx : ldv ls a = some (.ref x)) (k : Jg g d y cc n r Z (pc + 1) ls (.ref x :: st) M) : Jg g d y cc n r Z pc ls st M := Jg.mk1 (fun p e R s mi ar be me c H lo ce sl lsA hx1 hb hl P => lv_aload_n hx1 hb hd ha (ldv_at hl hx)) k
theorem J_iload {a : Nat} {x : Int32} {q : Fin 4} (hd : decode cc pc = .ok (.iload_n q, 1)) (ha : (q : Nat) = a) (hx : ldv ls a = some (.int x)) (k : Jg g d y cc n r Z (pc + 1) ls (.int x :: st) M) : Jg g d y cc n r Z pc ls st M := Jg.mk1 (fun p e R s mi ar be me c H lo ce sl lsA hx1 hb hl P => lv_iload_n hx1 hb hd ha (ldv_at hl hx)) k
theorem J_iconst {i : Int} {v : Int32} (hd : decode cc pc = .ok (.iconst i, 1)) (hv : Int32.ofInt i = v) (k : Jg g d y cc n r Z (pc + 1) ls (.int v :: st) M) : Jg g d y cc n r Z pc ls st M := Jg.mk1 (fun p e R s mi ar be me c H lo ce sl lsA hx1 hb hl P => lv_iconst hx1 hb hd hv) k
theorem J_sipush {i : Int} {v : Int32} (hd : decode cc pc = .ok (.sipush i, 3)) (hv : (Int16.ofInt i).toInt32 = v) (k : Jg g d y cc n r Z (pc + 3) ls (.int v :: st) M) : Jg g d y cc n r Z pc ls st M := Jg.mk1 (fun p e R s mi ar be me c H lo ce sl lsA hx1 hb hl P => lv_sipush hx1 hb hd hv) k
theorem J_iand {x z : Int32} (hd : decode cc pc = .ok (.iand, 1)) (k : Jg g d y cc n r Z (pc + 1) ls (.int (x &&& z) :: st) M) : Jg g d y cc n r Z pc ls (.int z :: .int x :: st) M := Jg.mk1 (fun p e R s mi ar be me c H lo ce sl lsA hx1 hb hl P => lv_iand hx1 hb hd) k
theorem J_ishr {x z : Int32} (hd : decode cc pc = .ok (.ishr, 1)) (k : Jg g d y cc n r Z (pc + 1) ls (.int (x >>> (z &&& 31)) :: st) M) : Jg g d y cc n r Z pc ls (.int z :: .int x :: st) M := Jg.mk1 (fun p e R s mi ar be me c H lo ce sl lsA hx1 hb hl P => lv_ishr hx1 hb hd) k
theorem J_i2c {x v : Int32} (hd : decode cc pc = .ok (.i2c, 1)) (hv : (x.toUInt32 % 65536).toInt32 = v) (k : Jg g d y cc n r Z (pc + 1) ls (.int v :: st) M) : Jg g d y cc n r Z pc ls (.int x :: st) M := Jg.mk1 (fun p e R s mi ar be me c H lo ce sl lsA hx1 hb hl P => lv_i2c hx1 hb hd hv) k
theorem J_pop {v : Value} (hd : decode cc pc = .ok (.pop, 1)) (hv : v.category = 1) (k : Jg g d y cc n r Z (pc + 1) ls st M) : Jg g d y cc n r Z pc ls (v :: st) M := Jg.mk1 (fun p e R s mi ar be me c H lo ce sl lsA hx1 hb hl P => lv_pop hx1 hb hd hv) k
theorem J_goto {o : Int} {t : Nat} (hd : decode cc pc = .ok (.goto o, 3)) (ht : (pc : Int) + o = (t : Int)) (k : Jg g d y cc n r Z t ls st M) : Jg g d y cc n r Z pc ls st M := Jg.mk1 (fun p e R s mi ar be me c H lo ce sl lsA hx1 hb hl P => lv_goto hx1 hb hd ht) k
theorem J_if_eq {x : Int32} {o : Int} {t : Nat} (hd : decode cc pc = .ok (.ifCond .eq o, 3)) (ht : (pc : Int) + o = (t : Int)) (kt : x = 0 → Jg g d y cc n r Z t ls st M) (kf : ¬ x = 0 → Jg g d y cc n r Z (pc + 3) ls st M) : Jg g d y cc n r Z pc ls (.int x :: st) M := fun p e R s mi ar be me c H lo ce sl lsA C h1 h2 h3 h4 hH hl hL =>
  lv_if_eq C.1.1 C.1.2.1 hd ht (fun z => kt z p e R s mi ar be me c H lo ce sl lsA C h1 h2 h3 h4 hH hl hL) (fun z => kf z p e R s mi ar be me c H lo ce sl lsA C h1 h2 h3 h4 hH hl hL)
theorem J_if_ne {x : Int32} {o : Int} {t : Nat} (hd : decode cc pc = .ok (.ifCond .ne o, 3)) (ht : (pc : Int) + o = (t : Int)) (kt : ¬ x = 0 → Jg g d y cc n r Z t ls st M) (kf : x = 0 → Jg g d y cc n r Z (pc + 3) ls st M) : Jg g d y cc n r Z pc ls (.int x :: st) M := fun p e R s mi ar be me c H lo ce sl lsA C h1 h2 h3 h4 hH hl hL =>
  lv_if_ne C.1.1 C.1.2.1 hd ht (fun z => kt z p e R s mi ar be me c H lo ce sl lsA C h1 h2 h3 h4 hH hl hL) (fun z => kf z p e R s mi ar be me c H lo ce sl lsA C h1 h2 h3 h4 hH hl hL)
theorem J_if_lt {x : Int32} {o : Int} {t : Nat} (hd : decode cc pc = .ok (.ifCond .lt o, 3)) (ht : (pc : Int) + o = (t : Int)) (kt : x < 0 → Jg g d y cc n r Z t ls st M) (kf : ¬ x < 0 → Jg g d y cc n r Z (pc + 3) ls st M) : Jg g d y cc n r Z pc ls (.int x :: st) M := fun p e R s mi ar be me c H lo ce sl lsA C h1 h2 h3 h4 hH hl hL =>
  lv_if_lt C.1.1 C.1.2.1 hd ht (fun z => kt z p e R s mi ar be me c H lo ce sl lsA C h1 h2 h3 h4 hH hl hL) (fun z => kf z p e R s mi ar be me c H lo ce sl lsA C h1 h2 h3 h4 hH hl hL)
theorem J_icmp_lt {x z0 : Int32} {o : Int} {t : Nat} (hd : decode cc pc = .ok (.if_icmp .lt o, 3)) (ht : (pc : Int) + o = (t : Int)) (kt : x < z0 → Jg g d y cc n r Z t ls st M) (kf : ¬ x < z0 → Jg g d y cc n r Z (pc + 3) ls st M) : Jg g d y cc n r Z pc ls (.int z0 :: .int x :: st) M := fun p e R s mi ar be me c H lo ce sl lsA C h1 h2 h3 h4 hH hl hL =>
  lv_icmp_lt C.1.1 C.1.2.1 hd ht (fun z => kt z p e R s mi ar be me c H lo ce sl lsA C h1 h2 h3 h4 hH hl hL) (fun z => kf z p e R s mi ar be me c H lo ce sl lsA C h1 h2 h3 h4 hH hl hL)
theorem J_iret {v : Int32} (hr : r = some .int) (hd : decode cc pc = .ok (.ireturn, 1)) (hq : Q (some (.int v)) M) : Jg g d y cc n r (Zr g Q) pc ls [.int v] M := fun p e R s mi ar be me cd H lo ce sl lsA C h1 h2 h3 h4 hH hl hL =>
  W.widen h3 h4 (W.iret C.1.1 C.1.2.1 (C.1.2.2.1.trans hr) (fun t ht hW => ⟨_, M, rfl, hq, hH.of_heap ht⟩) hL hd C.1.2.2.2.1)
theorem J_zret {v : Int32} {ty : FieldType} (hr : r = some ty) (hn : narrow ty (.int v) = .int v) (hd : decode cc pc = .ok (.ireturn, 1)) (hq : Q (some (.int v)) M) : Jg g d y cc n r (Zr g Q) pc ls [.int v] M := fun p e R s mi ar be me cd H lo ce sl lsA C h1 h2 h3 h4 hH hl hL =>
  W.widen h3 h4 (W.zret C.1.1 C.1.2.1 (C.1.2.2.1.trans hr) hn (fun t ht hW => ⟨_, M, rfl, hq, hH.of_heap ht⟩) hL hd C.1.2.2.2.1)
theorem J_vret (hr : r = none) (hd : decode cc pc = .ok (.return_, 1)) (hq : Q none M) : Jg g d y cc n r (Zr g Q) pc ls [] M := fun p e R s mi ar be me cd H lo ce sl lsA C h1 h2 h3 h4 hH hl hL =>
  W.widen h3 h4 (W.vret C.1.1 C.1.2.1 (C.1.2.2.1.trans hr) (fun t ht hW => ⟨_, M, rfl, hq, hH.of_heap ht⟩) hL hd C.1.2.2.2.1)
theorem Jx.str {p : Program} {s : State} {mi : MethodId} {args : Array Value} {meth : Method} {c : Code} (C : Jx g y cc n r p s mi args meth c) : vk_S 11 smL smB (gSk g) (gSv g) (fun a => gB g ≤ a) s s.heap := by
  obtain ⟨-, -, ⟨-, -, -, -, -, -, -, -, -, ⟨-, t2⟩, -⟩, -⟩ := C.2.2.2.1
  exact t2.kept (zA_of C.2.2.2.2)
theorem J_value {i ix : Nat} (hi : i < 11) (hk : Cond.fieldLink y.cls ix "java/lang/String" "value" "[B" ∈ T0) (hd : decode cc pc = .ok (.getfield ix, 3)) (k : Jg g d y cc n r Z (pc + 3) ls (.ref (gSv g i) :: st) M) : Jg g d y cc n r Z pc ls (.ref (gSk g i) :: st) M := by
  intro p e R s mi ar be me c H lo ce sl lsA C h1 h2 h3 h4 hH hl hL T hT X
  exact vk_getf C.1.1 C.1.2.1 (C.str.1 i hi).2.2.1 (vs_of C.2.2.2.2 hH hL hT X) C.2.1 (C.2.2.1 _ hk) (fun _ h => h) hd (k p e R s mi ar be me c H lo ce sl lsA C h1 h2 h3 h4 hH hl hL) T hT X
theorem J_coder {i ix : Nat} (hi : i < 11) (hk : Cond.fieldLink y.cls ix "java/lang/String" "coder" "B" ∈ T0) (hd : decode cc pc = .ok (.getfield ix, 3)) (k : Jg g d y cc n r Z (pc + 3) ls (.int 0 :: st) M) : Jg g d y cc n r Z pc ls (.ref (gSk g i) :: st) M := by
  intro p e R s mi ar be me c H lo ce sl lsA C h1 h2 h3 h4 hH hl hL T hT X
  exact vk_getf C.1.1 C.1.2.1 (C.str.1 i hi).2.1 (vs_of C.2.2.2.2 hH hL hT X) C.2.1 (C.2.2.1 _ hk) (fun _ h => h) hd (k p e R s mi ar be me c H lo ce sl lsA C h1 h2 h3 h4 hH hl hL) T hT X
theorem J_compact {ix : Nat} (hk : Cond.fieldLink y.cls ix "java/lang/String" "COMPACT_STRINGS" "Z" ∈ T0) (hd : decode cc pc = .ok (.getstatic ix, 3)) (k : Jg g d y cc n r Z (pc + 3) ls (.int 1 :: st) M) : Jg g d y cc n r Z pc ls st M := by
  intro p e R s mi ar be me c H lo ce sl lsA C h1 h2 h3 h4 hH hl hL T hT X
  obtain ⟨-, -, ⟨-, -, -, -, -, -, -, -, -, -, t3, -⟩, -⟩ := C.2.2.2.1
  exact va_gets C.1.1 C.1.2.1 (t3.kept (zA_of C.2.2.2.2)) (vs_of C.2.2.2.2 hH hL hT X) C.2.1 (C.2.2.1 _ hk) (fun _ h => h) hd (k p e R s mi ar be me c H lo ce sl lsA C h1 h2 h3 h4 hH hl hL) T hT X
theorem J_sioobe {ix : Nat} (hk : Cond.fieldLink y.cls ix "jdk/internal/util/Preconditions" "SIOOBE_FORMATTER" "Ljava/util/function/BiFunction;" ∈ T0) (hd : decode cc pc = .ok (.getstatic ix, 3)) (k : ∀ v, v = .null ∨ (∃ t, v = .ref t) → Jg g d y cc n r Z (pc + 3) ls (v :: st) M) : Jg g d y cc n r Z pc ls st M := by
  intro p e R s mi ar be me c H lo ce sl lsA C h1 h2 h3 h4 hH hl hL T hT X
  obtain ⟨-, -, ⟨-, -, -, -, -, -, -, -, -, -, -, t4⟩, -⟩ := C.2.2.2.1
  rcases t4 with t4 | ⟨t, t4⟩
  · exact va_gets C.1.1 C.1.2.1 (t4.kept (zA_of C.2.2.2.2)) (vs_of C.2.2.2.2 hH hL hT X) C.2.1 (C.2.2.1 _ hk) (fun _ h => h) hd (k _ (Or.inl rfl) p e R s mi ar be me c H lo ce sl lsA C h1 h2 h3 h4 hH hl hL) T hT X
  · exact va_gets C.1.1 C.1.2.1 (t4.kept (zA_of C.2.2.2.2)) (vs_of C.2.2.2.2 hH hL hT X) C.2.1 (C.2.2.1 _ hk) (fun _ h => h) hd (k _ (Or.inr ⟨t, rfl⟩) p e R s mi ar be me c H lo ce sl lsA C h1 h2 h3 h4 hH hl hL) T hT X
theorem J_alen {i : Nat} (hi : i < 11) (hd : decode cc pc = .ok (.arraylength, 1)) (k : Jg g d y cc n r Z (pc + 1) ls (.int (nI (smL.getD i 0)) :: st) M) : Jg g d y cc n r Z pc ls (.ref (gSv g i) :: st) M := by
  intro p e R s mi ar be me c H lo ce sl lsA C h1 h2 h3 h4 hH hl hL T hT X
  have vs := vs_of C.2.2.2.2 hH hL hT X
  have ht := (C.str.1 i hi).2.2.2
  generalize smL.getD i 0 = N at ht k
  obtain ⟨cell, q1, q2, q3, q4, q5, q6, q7⟩ := ht
  have e5 : cell.slots.size.toInt32 = nI N := q5
  have e1 : H[gSv g i]? = some cell := (vs.2.1 (gSv g i) (Array.getElem?_eq_some_iff.mp q1).1 q7).trans q1
  have w := k p e R s mi ar be me c H lo ce sl lsA C h1 h2 h3 h4 hH hl hL
  generalize nI N = nn at e5 w
  have w2 : W p (gL g) e R s mi ar be me c H lo ce sl (Z be ar s R.cells R.slots) (F0 mi pc lsA (.ref (gSv g i) :: st)) := W.alen (n := nn) C.1.1 C.1.2.1 e1 q2 e5 rfl rfl hd w
  exact w2 T hT X
theorem J_baload {i j : Nat} (hi : i < 11) (hj : j < smL.getD i 0) (h6 : smL.getD i 0 ≤ 6) (hd : decode cc pc = .ok (.baload, 1)) (k : Jg g d y cc n r Z (pc + 1) ls (.int ((smB.getD i []).getD j 0) :: st) M) : Jg g d y cc n r Z pc ls (.int (nI j) :: .ref (gSv g i) :: st) M := by
  intro p e R s mi ar be me c H lo ce sl lsA C h1 h2 h3 h4 hH hl hL T hT X
  exact va_tb C.1.1 C.1.2.1 (C.str.1 i hi).2.2.2 (vs_of C.2.2.2.2 hH hL hT X) (vp_in_nI hj (by omega)) (by rw [nI_clamp (by omega)]) hd (k p e R s mi ar be me c H lo ce sl lsA C h1 h2 h3 h4 hH hl hL) T hT X
end JDK
