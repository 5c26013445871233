section THROW
variable {g : GG} {d m bc bs pc : Nat} {ls : LsT} {st : List Value} {M : Mem} {Q : Option Value → Mem → Prop} {XQ : String → Mem → Prop}
theorem row_in {i : Instr} {n : Nat} (h : (rowAt m pc).map r_in = some i) (hn : lenIs i n = true) (hm : m < tb_n) : decode (h_c m) pc = .ok (i, n) := by
  cases hr : rowAt m pc with
  | none => rw [hr] at h; cases h
  | some r =>
    rw [hr] at h
    obtain ⟨h1, h2⟩ := row_use hr hm
    have := (dec_of (n := n) h1 (Option.some.inj h) hn).1
    rw [h2] at this
    exact this
theorem thr_w {q : Nat × Nat × String} (hq : q ∈ thr) : Cond.classLink RX9 q.1 q.2.2 ∈ T0 ∧ Cond.initialized q.2.2 ∈ T0 :=
  ⟨List.mem_filter.mpr ⟨(thr_in q hq).1.1, (thr_good q hq).1.1⟩, List.mem_filter.mpr ⟨(thr_in q hq).1.2, (thr_good q hq).1.2⟩⟩
theorem thr_at {q : Nat × Nat × String} (hq : q ∈ thr) {args : Array Value} {s : State} (h1 : ∀ w ∈ T0, w.before args s = true) (h2 : ∀ w ∈ TD, w.before #[] s = true) : ∀ w ∈ vx_atS RX9 q.2.1 q.2.2 thrN, w.before args s = true := by
  intro w hw
  have h3 := (thr_in q hq).2 w hw
  obtain ⟨h4, h5⟩ := (thr_good q hq).2 w hw
  by_cases h6 : goodWord w = true
  · exact h1 w (List.mem_filter.mpr ⟨h3, h6⟩)
  · have h7 : isDecl w = true := by
      cases hz : isDecl w with
      | true => rfl
      | false => rw [hz, Bool.or_false] at h5; exact absurd h5 h6
    have h8 := h2 w (List.mem_filter.mpr ⟨h3, h7⟩)
    unfold isDecl at h7
    rw [Bool.and_eq_true] at h7
    exact va_tabs (c := w) h7.2 (u := s) (U := s) rfl h8
theorem thr_ot {q : Nat × Nat × String} (hq : q ∈ thr) : ∀ w ∈ Cond.classLink RX9 q.1 q.2.2 :: Cond.initialized q.2.2 :: vx_atS RX9 q.2.1 q.2.2 thrN, vx_ot w = true := by
  intro w hw
  rcases List.mem_cons.mp hw with rfl | hw
  · unfold vx_ot
    rw [(thr_good q hq).1.1, Bool.or_true]
  · rcases List.mem_cons.mp hw with rfl | hw
    · unfold vx_ot
      rw [(thr_good q hq).1.2, Bool.or_true]
    · exact ((thr_good q hq).2 w hw).1
theorem X_throw {ik is ic : Nat} {E tx : String} (hr : (rowAt m pc).map r_in = some (.new ik) ∧ (rowAt m (pc + 3)).map r_in = some .dup ∧ (rowAt m (pc + 4)).map r_in = some (.ldc is) ∧ (rowAt m (pc + 6)).map r_in = some (.invokespecial ic) ∧ (rowAt m (pc + 9)).map r_in = some .athrow) (hm : m < 215) (hc : (h_y m).cls = RX9) (hq : (ik, ic, E) ∈ thr) (hs : (is, tx) ∈ strL) (hsum : (st.map fun v => v.category).sum ≤ 8) (hX : ∀ k, XQ E (w_opq M k)) : Eg g (d + 6) m (bc + 1) (bs + 6) (Zx g Q XQ) pc ls st M := by
  intro p e R s mi ar be me cd H lo ce sl lsA C h1 h2 h3 h4 hH hl hL
  obtain ⟨r0, r3, r4, r6, r9⟩ := hr
  have hm' := C.lt
  obtain ⟨-, -, ⟨-, -, -, t1, t2, t3, t4, t5, -⟩, -⟩ := C.wd
  obtain ⟨M0, hM0⟩ := C.h0
  have b0 := hM0.2.2.2.2.2.1.2.2.2
  have bH := hH.2.2.2.2.2.1.2.2.2
  have zA : ∀ a : Nat, a < (gH g).size → ¬ gB g ≤ a → s.heap[a]? = (gH g)[a]? := fun a _ hn => b0 a (Nat.lt_of_not_le hn)
  obtain ⟨sa, hsa⟩ := t4 _ hs
  have hw := thr_w hq
  intro T hT X
  have hsz : s.heap.size ≤ H.size := by
    have := (vx_frame X.same).1
    rw [← hT]
    exact this
  refine vx_throwS (names := thrN) (text := tx) (sa := sa) (A := fun a => gB g ≤ a) C.ex C.cc t1 (by rw [← hc]; exact C.ow) (thr_fit _ hq) thrN_fit (C.ts _ hw.1) (C.ts _ hw.2) hsa (thr_at hq C.ts t5) (thr_ot hq) (t2.kept zA) (t3.kept zA) ⟨hsz, fun q _ hn => (bH q (Nat.lt_of_not_le hn)).trans (b0 q (Nat.lt_of_not_le hn)).symm, hL⟩ (hl.1.trans C.ml.symm) (row_in r0 rfl hm') (row_in r3 rfl hm') (row_in r4 rfl hm') (row_in r6 rfl hm') (row_in r9 rfl hm') (fun x hx => (C.et hm x hx).elim) (by show 2 + 3 < R.frames; omega) (by show _ + (13 * (2 + 1) + 43) ≤ R.locals; omega) (by omega) (by omega) C.lk (fun t _ hz ho => ?_) hL (by omega) (by omega) T hT X
  obtain ⟨k, hk⟩ := Nat.exists_eq_add_of_le hz
  exact ⟨_, hX k, hH.opq hk ho⟩
theorem X_throwW {ik is ic : Nat} {E tx : String} (hr : (rowAt m pc).map r_in = some (.new ik) ∧ (rowAt m (pc + 3)).map r_in = some .dup ∧ (rowAt m (pc + 4)).map r_in = some (.ldc_w is) ∧ (rowAt m (pc + 7)).map r_in = some (.invokespecial ic) ∧ (rowAt m (pc + 10)).map r_in = some .athrow) (hm : m < 215) (hc : (h_y m).cls = RX9) (hq : (ik, ic, E) ∈ thr) (hs : (is, tx) ∈ strL) (hsum : (st.map fun v => v.category).sum ≤ 8) (hX : ∀ k, XQ E (w_opq M k)) : Eg g (d + 6) m (bc + 1) (bs + 6) (Zx g Q XQ) pc ls st M := by
  intro p e R s mi ar be me cd H lo ce sl lsA C h1 h2 h3 h4 hH hl hL
  obtain ⟨r0, r3, r4, r6, r9⟩ := hr
  have hm' := C.lt
  obtain ⟨-, -, ⟨-, -, -, t1, t2, t3, t4, t5, -⟩, -⟩ := C.wd
  obtain ⟨M0, hM0⟩ := C.h0
  have b0 := hM0.2.2.2.2.2.1.2.2.2
  have bH := hH.2.2.2.2.2.1.2.2.2
  have zA : ∀ a : Nat, a < (gH g).size → ¬ gB g ≤ a → s.heap[a]? = (gH g)[a]? := fun a _ hn => b0 a (Nat.lt_of_not_le hn)
  obtain ⟨sa, hsa⟩ := t4 _ hs
  have hw := thr_w hq
  intro T hT X
  have hsz : s.heap.size ≤ H.size := by
    have := (vx_frame X.same).1
    rw [← hT]
    exact this
  refine vx_throwSW (names := thrN) (text := tx) (sa := sa) (A := fun a => gB g ≤ a) C.ex C.cc t1 (by rw [← hc]; exact C.ow) (thr_fit _ hq) thrN_fit (C.ts _ hw.1) (C.ts _ hw.2) hsa (thr_at hq C.ts t5) (thr_ot hq) (t2.kept zA) (t3.kept zA) ⟨hsz, fun q _ hn => (bH q (Nat.lt_of_not_le hn)).trans (b0 q (Nat.lt_of_not_le hn)).symm, hL⟩ (hl.1.trans C.ml.symm) (row_in r0 rfl hm') (row_in r3 rfl hm') (row_in r4 rfl hm') (row_in r6 rfl hm') (row_in r9 rfl hm') (fun x hx => (C.et hm x hx).elim) (by show 2 + 3 < R.frames; omega) (by show _ + (13 * (2 + 1) + 43) ≤ R.locals; omega) (by omega) (by omega) C.lk (fun t _ hz ho => ?_) hL (by omega) (by omega) T hT X
  obtain ⟨k, hk⟩ := Nat.exists_eq_add_of_le hz
  exact ⟨_, hX k, hH.opq hk ho⟩
end THROW
