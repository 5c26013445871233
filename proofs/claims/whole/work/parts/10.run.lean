/-- one step of a stretch without branch and call: what it needs goes before what is needed already -/
def sx (kw : Nat) (r : RowT) (ls : LsT) (st : List Value) (M : Mem) : Option (LsT × List Value × Mem × (Prop → Prop)) :=
  match r_in r with
  | .iconst _ => some (ls, .int (r_i r) :: st, M, fun o => o)
  | .bipush _ => some (ls, .int (r_i r) :: st, M, fun o => o)
  | .sipush _ => some (ls, .int (r_i r) :: st, M, fun o => o)
  | .lconst _ => some (ls, .long (r_l r) :: st, M, fun o => o)
  | .ldc _ => cond (Nat.beq (r_c r) 1) (some (ls, .int (r_i r) :: st, M, fun o => o)) none
  | .ldc_w _ => cond (Nat.beq (r_c r) 1) (some (ls, .int (r_i r) :: st, M, fun o => o)) none
  | .ldc2_w _ => cond (Nat.beq (r_c r) 1) (some (ls, .long (r_l r) :: st, M, fun o => o)) none
  | .iload_n _ => (match ldv ls (r_a r) with | some (.int x) => some (ls, .int x :: st, M, fun o => o) | _ => none)
  | .iload _ => (match ldv ls (r_a r) with | some (.int x) => some (ls, .int x :: st, M, fun o => o) | _ => none)
  | .lload_n _ => (match ldv ls (r_a r) with | some (.long x) => some (ls, .long x :: st, M, fun o => o) | _ => none)
  | .lload _ => (match ldv ls (r_a r) with | some (.long x) => some (ls, .long x :: st, M, fun o => o) | _ => none)
  | .aload_n _ => (match ldv ls (r_a r) with | some (.ref x) => some (ls, .ref x :: st, M, fun o => o) | some .null => some (ls, .null :: st, M, fun o => o) | _ => none)
  | .aload _ => (match ldv ls (r_a r) with | some (.ref x) => some (ls, .ref x :: st, M, fun o => o) | some .null => some (ls, .null :: st, M, fun o => o) | _ => none)
  | .istore_n _ => (match st with | .int x :: t => some (stv ls (r_a r) (.int x), t, M, fun o => o) | _ => none)
  | .istore _ => (match st with | .int x :: t => some (stv ls (r_a r) (.int x), t, M, fun o => o) | _ => none)
  | .lstore_n _ => (match st with | .long x :: t => some (stv ls (r_a r) (.long x), t, M, fun o => o) | _ => none)
  | .lstore _ => (match st with | .long x :: t => some (stv ls (r_a r) (.long x), t, M, fun o => o) | _ => none)
  | .astore_n _ => (match st with | .ref x :: t => some (stv ls (r_a r) (.ref x), t, M, fun o => o) | .null :: t => some (stv ls (r_a r) .null, t, M, fun o => o) | _ => none)
  | .astore _ => (match st with | .ref x :: t => some (stv ls (r_a r) (.ref x), t, M, fun o => o) | .null :: t => some (stv ls (r_a r) .null, t, M, fun o => o) | _ => none)
  | .iinc _ _ => (match ldv ls (r_a r) with | some (.int x) => some (stv ls (r_a r) (.int (x + r_i r)), st, M, fun o => o) | _ => none)
  | .iadd => (match st with | .int y :: .int x :: t => some (ls, .int (x + y) :: t, M, fun o => o) | _ => none)
  | .isub => (match st with | .int y :: .int x :: t => some (ls, .int (x - y) :: t, M, fun o => o) | _ => none)
  | .imul => (match st with | .int y :: .int x :: t => some (ls, .int (x * y) :: t, M, fun o => o) | _ => none)
  | .iand => (match st with | .int y :: .int x :: t => some (ls, .int (x &&& y) :: t, M, fun o => o) | _ => none)
  | .ior => (match st with | .int y :: .int x :: t => some (ls, .int (x ||| y) :: t, M, fun o => o) | _ => none)
  | .ishl => (match st with | .int y :: .int x :: t => some (ls, .int (x <<< (y &&& 31)) :: t, M, fun o => o) | _ => none)
  | .ishr => (match st with | .int y :: .int x :: t => some (ls, .int (x >>> (y &&& 31)) :: t, M, fun o => o) | _ => none)
  | .iushr => (match st with | .int y :: .int x :: t => some (ls, .int ((x.toUInt32 >>> (y.toUInt32 &&& Int32.toUInt32 31)).toInt32) :: t, M, fun o => o) | _ => none)
  | .idiv => (match st with | .int y :: .int x :: t => some (ls, .int (x / y) :: t, M, fun o => (¬ y = 0) ∧ o) | _ => none)
  | .irem => (match st with | .int y :: .int x :: t => some (ls, .int (x - x / y * y) :: t, M, fun o => (¬ y = 0) ∧ o) | _ => none)
  | .ineg => (match st with | .int x :: t => some (ls, .int (-x) :: t, M, fun o => o) | _ => none)
  | .ladd => (match st with | .long y :: .long x :: t => some (ls, .long (x + y) :: t, M, fun o => o) | _ => none)
  | .lsub => (match st with | .long y :: .long x :: t => some (ls, .long (x - y) :: t, M, fun o => o) | _ => none)
  | .lmul => (match st with | .long y :: .long x :: t => some (ls, .long (x * y) :: t, M, fun o => o) | _ => none)
  | .lor => (match st with | .long y :: .long x :: t => some (ls, .long (x ||| y) :: t, M, fun o => o) | _ => none)
  | .ldiv => (match st with | .long y :: .long x :: t => some (ls, .long (x / y) :: t, M, fun o => (¬ y = 0) ∧ o) | _ => none)
  | .lrem => (match st with | .long y :: .long x :: t => some (ls, .long (x - x / y * y) :: t, M, fun o => (¬ y = 0) ∧ o) | _ => none)
  | .lneg => (match st with | .long x :: t => some (ls, .long (-x) :: t, M, fun o => o) | _ => none)
  | .lushr => (match st with | .int y :: .long x :: t => some (ls, .long ((x.toUInt64 >>> (y.toInt64.toUInt64 &&& Int64.toUInt64 63)).toInt64) :: t, M, fun o => o) | _ => none)
  | .lshl => (match st with | .int y :: .long x :: t => some (ls, .long (x <<< (y.toInt64 &&& 63)) :: t, M, fun o => o) | _ => none)
  | .i2l => (match st with | .int x :: t => some (ls, .long x.toInt64 :: t, M, fun o => o) | _ => none)
  | .l2i => (match st with | .long x :: t => some (ls, .int x.toInt32 :: t, M, fun o => o) | _ => none)
  | .i2b => (match st with | .int x :: t => some (ls, .int x.toInt8.toInt32 :: t, M, fun o => o) | _ => none)
  | .i2c => (match st with | .int x :: t => some (ls, .int (x.toUInt32 % 65536).toInt32 :: t, M, fun o => o) | _ => none)
  | .lcmp => (match st with | .long y :: .long x :: t => some (ls, .int (lg_cmp x y) :: t, M, fun o => o) | _ => none)
  | .aconst_null => some (ls, .null :: st, M, fun o => o)
  | .dup => (match st with | .int x :: t => some (ls, .int x :: .int x :: t, M, fun o => o) | .ref x :: t => some (ls, .ref x :: .ref x :: t, M, fun o => o) | _ => none)
  | .pop => (match st with | .int x :: t => some (ls, t, M, fun o => o) | .ref x :: t => some (ls, t, M, fun o => o) | _ => none)
  | .dup2 => (match st with | .int i :: .ref a :: t => some (ls, .int i :: .ref a :: .int i :: .ref a :: t, M, fun o => o) | .long x :: t => some (ls, .long x :: .long x :: t, M, fun o => o) | _ => none)
  | .getfield _ => (match st with
    | .ref a :: t => cond (Nat.beq (r_c r % 10) 2) (some (ls, .ref (rget (m_fr M (r_a r) a)) :: t, M, fun o => m_tg M a = r_b r ∧ m_fr M (r_a r) a ≠ none ∧ o)) (cond (Nat.beq (r_c r % 10) 1) (some (ls, .long (m_fl M (r_a r) a) :: t, M, fun o => m_tg M a = r_b r ∧ o)) (some (ls, .int (m_fi M (r_a r) a) :: t, M, fun o => m_tg M a = r_b r ∧ o)))
    | _ => none)
  | .putfield _ => (match st with
    | .ref v :: .ref a :: t => cond (Nat.beq (r_c r % 10) 2) (some (ls, t, w_fr M (r_a r) a (some v), fun o => m_tg M a = r_b r ∧ o)) none
    | .long v :: .ref a :: t => cond (Nat.beq (r_c r % 10) 1) (some (ls, t, w_fl M (r_a r) a v, fun o => m_tg M a = r_b r ∧ o)) none
    | .int v :: .ref a :: t => cond (Nat.beq (r_c r % 10) 3) (some (ls, t, w_fi M (r_a r) a v, fun o => m_tg M a = r_b r ∧ (v = 0 ∨ v = 1) ∧ o)) (cond (Nat.beq (r_c r % 10) 0) (some (ls, t, w_fi M (r_a r) a v, fun o => m_tg M a = r_b r ∧ o)) none)
    | _ => none)
  | .iaload => (match st with | .int i :: .ref a :: t => some (ls, .int (m_ai M a i.toNatClampNeg) :: t, M, fun o => ((m_tg M a = 20 ∨ m_tg M a = 40) ∧ vp_in i (m_ln M a)) ∧ o) | _ => none)
  | .laload => (match st with | .int i :: .ref a :: t => some (ls, .long (m_al M a i.toNatClampNeg) :: t, M, fun o => ((m_tg M a = 21 ∨ m_tg M a = 41) ∧ vp_in i (m_ln M a)) ∧ o) | _ => none)
  | .baload => (match st with | .int i :: .ref a :: t => some (ls, .int (m_ai M a i.toNatClampNeg) :: t, M, fun o => (m_tg M a = 22 ∧ vp_in i (m_ln M a)) ∧ o) | _ => none)
  | .aaload => (match st with | .int i :: .ref a :: t => some (ls, .ref (rget (m_ar M a i.toNatClampNeg)) :: t, M, fun o => ((23 ≤ m_tg M a ∧ m_tg M a ≤ 25) ∧ vp_in i (m_ln M a) ∧ m_ar M a i.toNatClampNeg ≠ none) ∧ o) | _ => none)
  | .iastore => (match st with | .int v :: .int i :: .ref a :: t => some (ls, t, w_ai M a i.toNatClampNeg v, fun o => (m_tg M a = 20 ∧ vp_in i (m_ln M a)) ∧ o) | _ => none)
  | .lastore => (match st with | .long v :: .int i :: .ref a :: t => some (ls, t, w_al M a i.toNatClampNeg v, fun o => (m_tg M a = 21 ∧ vp_in i (m_ln M a)) ∧ o) | _ => none)
  | .bastore => (match st with | .int v :: .int i :: .ref a :: t => some (ls, t, w_ai M a i.toNatClampNeg (vp_nar .byte v), fun o => (m_tg M a = 22 ∧ vp_in i (m_ln M a)) ∧ o) | _ => none)
  | .aastore => (match st with | .ref v :: .int i :: .ref a :: t => some (ls, t, w_ar M a i.toNatClampNeg (some v), fun o => (((m_tg M a = 23 ∧ m_tg M v = 5) ∨ (m_tg M a = 24 ∧ m_tg M v = 3) ∨ (m_tg M a = 25 ∧ m_tg M v = 6)) ∧ vp_in i (m_ln M a)) ∧ o) | _ => none)
  | .arraylength => (match st with | .ref a :: t => some (ls, .int (nI (m_ln M a)) :: t, M, fun o => (20 ≤ m_tg M a ∧ m_tg M a ≤ 25 ∨ m_tg M a = 40 ∨ m_tg M a = 41) ∧ o) | _ => none)
  | .getstatic _ => some (ls, .ref kw :: st, M, fun o => o)
  | _ => none
def lenIs (i : Instr) (n : Nat) : Bool := match i with
  | .tableswitch _ _ _ _ => false
  | .iinc _ _ => false
  | i => Nat.beq (lenOf i) n
theorem dec_of {m : Nat} {r : RowT} {i : Instr} {n : Nat} (hr : rowOk m r = true) (heq : r_in r = i) (hn : lenIs i n = true) : decode (h_c m) (r_pc r) = .ok (i, n) ∧ r_nx r = r_pc r + n := by
  obtain ⟨h1, h2, h3⟩ := row_dec hr
  unfold lenOk at h3
  rw [heq] at h3 h1
  unfold lenIs at hn
  split at hn
  · cases hn
  · cases hn
  · rename_i hne hne2
    have e1 := Nat.eq_of_beq_eq_true hn
    have e2 : r_nx r = r_pc r + lenOf i := by
      cases i <;> first | exact Nat.eq_of_beq_eq_true h3 | exact absurd rfl (hne _ _ _ _) | exact absurd rfl (hne2 _ _)
    rw [e1] at e2
    refine ⟨?_, e2⟩
    rw [h1, e2, Nat.add_sub_cancel_left]
set_option maxHeartbeats 4000000 in
theorem sx_ok {g : GG} {d m bc bs : Nat} {Z : ZT} {r : RowT} {ls ls' : LsT} {st st' : List Value} {M M' : Mem} {f : Prop → Prop} (hr : rowOk m r = true) (h : sx (gKa g) r ls st M = some (ls', st', M', f)) {o : Prop} (ho : f o) : o ∧ (Eg g d m bc bs Z (r_nx r) ls' st' M' → Eg g d m bc bs Z (r_pc r) ls st M) := by
  unfold sx at h
  split at h
  · rename_i heq
    obtain ⟨hd1, hd2⟩ := dec_of (n := 1) hr heq rfl
    have hx := hr
    simp only [rowOk, heq, Bool.and_eq_true, Bool.or_eq_true, decide_eq_true_eq] at hx
    rw [hd2]
    cases h; exact ⟨ho, fun k => E_iconst (fun _ => hx.2) (fun _ => hd1) k⟩
  · rename_i heq
    obtain ⟨hd1, hd2⟩ := dec_of (n := 2) hr heq rfl
    have hx := hr
    simp only [rowOk, heq, Bool.and_eq_true, Bool.or_eq_true, decide_eq_true_eq] at hx
    rw [hd2]
    cases h; exact ⟨ho, fun k => E_bipush (fun _ => hx.2) (fun _ => hd1) k⟩
  · rename_i heq
    obtain ⟨hd1, hd2⟩ := dec_of (n := 3) hr heq rfl
    have hx := hr
    simp only [rowOk, heq, Bool.and_eq_true, Bool.or_eq_true, decide_eq_true_eq] at hx
    rw [hd2]
    cases h; exact ⟨ho, fun k => E_sipush (fun _ => hx.2) (fun _ => hd1) k⟩
  · rename_i heq
    obtain ⟨hd1, hd2⟩ := dec_of (n := 1) hr heq rfl
    have hx := hr
    simp only [rowOk, heq, Bool.and_eq_true, Bool.or_eq_true, decide_eq_true_eq] at hx
    rw [hd2]
    cases h; exact ⟨ho, fun k => E_lconst (fun _ => hx.2) (fun _ => hd1) k⟩
  · rename_i heq
    obtain ⟨hd1, hd2⟩ := dec_of (n := 2) hr heq rfl
    have hx := hr
    simp only [rowOk, heq, Bool.and_eq_true, Bool.or_eq_true, decide_eq_true_eq] at hx
    rw [hd2]
    cases hc : Nat.beq (r_c r) 1 with
    | false => rw [hc] at h; cases h
    | true =>
      rw [hc] at h; cases h
      have h1 := Nat.eq_of_beq_eq_true hc
      exact ⟨ho, fun k => E_ldc (fun _ => wAt_in (hx.2.resolve_left (by omega)).2) (fun _ => hd1) k⟩
  · rename_i heq
    obtain ⟨hd1, hd2⟩ := dec_of (n := 3) hr heq rfl
    have hx := hr
    simp only [rowOk, heq, Bool.and_eq_true, Bool.or_eq_true, decide_eq_true_eq] at hx
    rw [hd2]
    cases hc : Nat.beq (r_c r) 1 with
    | false => rw [hc] at h; cases h
    | true =>
      rw [hc] at h; cases h
      have h1 := Nat.eq_of_beq_eq_true hc
      exact ⟨ho, fun k => E_ldc_w (fun _ => wAt_in (hx.2.resolve_left (by omega))) (fun _ => hd1) k⟩
  · rename_i heq
    obtain ⟨hd1, hd2⟩ := dec_of (n := 3) hr heq rfl
    have hx := hr
    simp only [rowOk, heq, Bool.and_eq_true, Bool.or_eq_true, decide_eq_true_eq] at hx
    rw [hd2]
    cases hc : Nat.beq (r_c r) 1 with
    | false => rw [hc] at h; cases h
    | true =>
      rw [hc] at h; cases h
      have h1 := Nat.eq_of_beq_eq_true hc
      exact ⟨ho, fun k => E_ldc2_w (fun _ => wAt_in (hx.2.resolve_left (by omega))) (fun _ => hd1) k⟩
  · rename_i heq
    obtain ⟨hd1, hd2⟩ := dec_of (n := 1) hr heq rfl
    have hx := hr
    simp only [rowOk, heq, Bool.and_eq_true, Bool.or_eq_true, decide_eq_true_eq] at hx
    rw [hd2]
    split at h <;> first | (rename_i x hv; cases h; exact ⟨ho, fun k => E_iload_n (fun _ => hx.2) hv (fun _ => hd1) k⟩) | (cases h)
  · rename_i heq
    obtain ⟨hd1, hd2⟩ := dec_of (n := 2) hr heq rfl
    have hx := hr
    simp only [rowOk, heq, Bool.and_eq_true, Bool.or_eq_true, decide_eq_true_eq] at hx
    rw [hd2]
    split at h <;> first | (rename_i x hv; cases h; exact ⟨ho, fun k => E_iload hv (fun _ => hx.2 ▸ hd1) k⟩) | (cases h)
  · rename_i heq
    obtain ⟨hd1, hd2⟩ := dec_of (n := 1) hr heq rfl
    have hx := hr
    simp only [rowOk, heq, Bool.and_eq_true, Bool.or_eq_true, decide_eq_true_eq] at hx
    rw [hd2]
    split at h <;> first | (rename_i x hv; cases h; exact ⟨ho, fun k => E_lload_n (fun _ => hx.2) hv (fun _ => hd1) k⟩) | (cases h)
  · rename_i heq
    obtain ⟨hd1, hd2⟩ := dec_of (n := 2) hr heq rfl
    have hx := hr
    simp only [rowOk, heq, Bool.and_eq_true, Bool.or_eq_true, decide_eq_true_eq] at hx
    rw [hd2]
    split at h <;> first | (rename_i x hv; cases h; exact ⟨ho, fun k => E_lload hv (fun _ => hx.2 ▸ hd1) k⟩) | (cases h)
  · rename_i heq
    obtain ⟨hd1, hd2⟩ := dec_of (n := 1) hr heq rfl
    have hx := hr
    simp only [rowOk, heq, Bool.and_eq_true, Bool.or_eq_true, decide_eq_true_eq] at hx
    rw [hd2]
    split at h <;> first | (rename_i x hv; cases h; exact ⟨ho, fun k => E_aload_n (fun _ => hx.2) hv (fun _ => hd1) k⟩) | (rename_i hv; cases h; exact ⟨ho, fun k => E_aload_nN (fun _ => hx.2) hv (fun _ => hd1) k⟩) | (cases h)
  · rename_i heq
    obtain ⟨hd1, hd2⟩ := dec_of (n := 2) hr heq rfl
    have hx := hr
    simp only [rowOk, heq, Bool.and_eq_true, Bool.or_eq_true, decide_eq_true_eq] at hx
    rw [hd2]
    split at h <;> first | (rename_i x hv; cases h; exact ⟨ho, fun k => E_aload hv (fun _ => hx.2 ▸ hd1) k⟩) | (rename_i hv; cases h; exact ⟨ho, fun k => E_aloadN hv (fun _ => hx.2 ▸ hd1) k⟩) | (cases h)
  · rename_i heq
    obtain ⟨hd1, hd2⟩ := dec_of (n := 1) hr heq rfl
    have hx := hr
    simp only [rowOk, heq, Bool.and_eq_true, Bool.or_eq_true, decide_eq_true_eq] at hx
    rw [hd2]
    split at h <;> first | (cases h; exact ⟨ho, fun k => E_istore_n (fun _ => hx.2) (fun _ => hd1) k⟩) | (cases h)
  · rename_i heq
    obtain ⟨hd1, hd2⟩ := dec_of (n := 2) hr heq rfl
    have hx := hr
    simp only [rowOk, heq, Bool.and_eq_true, Bool.or_eq_true, decide_eq_true_eq] at hx
    rw [hd2]
    split at h <;> first | (cases h; exact ⟨ho, fun k => E_istore (fun _ => hx.2.2) (fun _ => hx.2.1 ▸ hd1) k⟩) | (cases h)
  · rename_i heq
    obtain ⟨hd1, hd2⟩ := dec_of (n := 1) hr heq rfl
    have hx := hr
    simp only [rowOk, heq, Bool.and_eq_true, Bool.or_eq_true, decide_eq_true_eq] at hx
    rw [hd2]
    split at h <;> first | (cases h; exact ⟨ho, fun k => E_lstore_n (fun _ => hx.2) (fun _ => hd1) k⟩) | (cases h)
  · rename_i heq
    obtain ⟨hd1, hd2⟩ := dec_of (n := 2) hr heq rfl
    have hx := hr
    simp only [rowOk, heq, Bool.and_eq_true, Bool.or_eq_true, decide_eq_true_eq] at hx
    rw [hd2]
    split at h <;> first | (cases h; exact ⟨ho, fun k => E_lstore (fun _ => hx.2.2) (fun _ => hx.2.1 ▸ hd1) k⟩) | (cases h)
  · rename_i heq
    obtain ⟨hd1, hd2⟩ := dec_of (n := 1) hr heq rfl
    have hx := hr
    simp only [rowOk, heq, Bool.and_eq_true, Bool.or_eq_true, decide_eq_true_eq] at hx
    rw [hd2]
    split at h <;> first | (cases h; exact ⟨ho, fun k => E_astore_n (fun _ => hx.2) (fun _ => hd1) k⟩) | (cases h; exact ⟨ho, fun k => E_astore_nN (fun _ => hx.2) (fun _ => hd1) k⟩) | (cases h)
  · rename_i heq
    obtain ⟨hd1, hd2⟩ := dec_of (n := 2) hr heq rfl
    have hx := hr
    simp only [rowOk, heq, Bool.and_eq_true, Bool.or_eq_true, decide_eq_true_eq] at hx
    rw [hd2]
    split at h <;> first | (cases h; exact ⟨ho, fun k => E_astore (fun _ => hx.2.2) (fun _ => hx.2.1 ▸ hd1) k⟩) | (cases h; exact ⟨ho, fun k => E_astoreN (fun _ => hx.2.2) (fun _ => hx.2.1 ▸ hd1) k⟩) | (cases h)
  · rename_i heq
    obtain ⟨hd1, -, hd3⟩ := row_dec hr
    have hx := hr
    simp only [rowOk, heq, Bool.and_eq_true, Bool.or_eq_true, decide_eq_true_eq] at hx
    rw [heq] at hd1
    simp only [lenOk, heq, Bool.or_eq_true] at hd3
    split at h
    · rename_i x hv
      cases h
      refine ⟨ho, fun k => ?_⟩
      rcases hd3 with hd3 | hd3
      · have hd2 := Nat.eq_of_beq_eq_true hd3
        rw [hd2] at k hd1
        rw [Nat.add_sub_cancel_left] at hd1
        exact E_iinc (fun _ => ⟨hx.2.2.1, hx.2.2.2⟩) hv (fun _ => hx.2.1 ▸ hd1) k
      · have hd2 := Nat.eq_of_beq_eq_true hd3
        rw [hd2] at k hd1
        rw [Nat.add_sub_cancel_left] at hd1
        exact E_iincW (fun _ => ⟨hx.2.2.1, hx.2.2.2⟩) hv (fun _ => hx.2.1 ▸ hd1) k
    · cases h
  · rename_i heq
    obtain ⟨hd1, hd2⟩ := dec_of (n := 1) hr heq rfl
    have hx := hr
    simp only [rowOk, heq, Bool.and_eq_true, Bool.or_eq_true, decide_eq_true_eq] at hx
    rw [hd2]
    split at h <;> first | (cases h; exact ⟨ho, fun k => E_iadd (fun _ => hd1) k⟩) | (cases h)
  · rename_i heq
    obtain ⟨hd1, hd2⟩ := dec_of (n := 1) hr heq rfl
    have hx := hr
    simp only [rowOk, heq, Bool.and_eq_true, Bool.or_eq_true, decide_eq_true_eq] at hx
    rw [hd2]
    split at h <;> first | (cases h; exact ⟨ho, fun k => E_isub (fun _ => hd1) k⟩) | (cases h)
  · rename_i heq
    obtain ⟨hd1, hd2⟩ := dec_of (n := 1) hr heq rfl
    have hx := hr
    simp only [rowOk, heq, Bool.and_eq_true, Bool.or_eq_true, decide_eq_true_eq] at hx
    rw [hd2]
    split at h <;> first | (cases h; exact ⟨ho, fun k => E_imul (fun _ => hd1) k⟩) | (cases h)
  · rename_i heq
    obtain ⟨hd1, hd2⟩ := dec_of (n := 1) hr heq rfl
    have hx := hr
    simp only [rowOk, heq, Bool.and_eq_true, Bool.or_eq_true, decide_eq_true_eq] at hx
    rw [hd2]
    split at h <;> first | (cases h; exact ⟨ho, fun k => E_iand (fun _ => hd1) k⟩) | (cases h)
  · rename_i heq
    obtain ⟨hd1, hd2⟩ := dec_of (n := 1) hr heq rfl
    have hx := hr
    simp only [rowOk, heq, Bool.and_eq_true, Bool.or_eq_true, decide_eq_true_eq] at hx
    rw [hd2]
    split at h <;> first | (cases h; exact ⟨ho, fun k => E_ior (fun _ => hd1) k⟩) | (cases h)
  · rename_i heq
    obtain ⟨hd1, hd2⟩ := dec_of (n := 1) hr heq rfl
    have hx := hr
    simp only [rowOk, heq, Bool.and_eq_true, Bool.or_eq_true, decide_eq_true_eq] at hx
    rw [hd2]
    split at h <;> first | (cases h; exact ⟨ho, fun k => E_ishl (fun _ => hd1) k⟩) | (cases h)
  · rename_i heq
    obtain ⟨hd1, hd2⟩ := dec_of (n := 1) hr heq rfl
    have hx := hr
    simp only [rowOk, heq, Bool.and_eq_true, Bool.or_eq_true, decide_eq_true_eq] at hx
    rw [hd2]
    split at h <;> first | (cases h; exact ⟨ho, fun k => E_ishr (fun _ => hd1) k⟩) | (cases h)
  · rename_i heq
    obtain ⟨hd1, hd2⟩ := dec_of (n := 1) hr heq rfl
    have hx := hr
    simp only [rowOk, heq, Bool.and_eq_true, Bool.or_eq_true, decide_eq_true_eq] at hx
    rw [hd2]
    split at h <;> first | (cases h; exact ⟨ho, fun k => E_iushr (fun _ => hd1) k⟩) | (cases h)
  · rename_i heq
    obtain ⟨hd1, hd2⟩ := dec_of (n := 1) hr heq rfl
    have hx := hr
    simp only [rowOk, heq, Bool.and_eq_true, Bool.or_eq_true, decide_eq_true_eq] at hx
    rw [hd2]
    split at h <;> first | (cases h; exact ⟨ho.2, fun k => E_idiv (fun _ => hd1) ho.1 k⟩) | (cases h)
  · rename_i heq
    obtain ⟨hd1, hd2⟩ := dec_of (n := 1) hr heq rfl
    have hx := hr
    simp only [rowOk, heq, Bool.and_eq_true, Bool.or_eq_true, decide_eq_true_eq] at hx
    rw [hd2]
    split at h <;> first | (cases h; exact ⟨ho.2, fun k => E_irem (fun _ => hd1) ho.1 k⟩) | (cases h)
  · rename_i heq
    obtain ⟨hd1, hd2⟩ := dec_of (n := 1) hr heq rfl
    have hx := hr
    simp only [rowOk, heq, Bool.and_eq_true, Bool.or_eq_true, decide_eq_true_eq] at hx
    rw [hd2]
    split at h <;> first | (cases h; exact ⟨ho, fun k => E_ineg (y := 0) (fun _ => hd1) k⟩) | (cases h)
  · rename_i heq
    obtain ⟨hd1, hd2⟩ := dec_of (n := 1) hr heq rfl
    have hx := hr
    simp only [rowOk, heq, Bool.and_eq_true, Bool.or_eq_true, decide_eq_true_eq] at hx
    rw [hd2]
    split at h <;> first | (cases h; exact ⟨ho, fun k => E_ladd (fun _ => hd1) k⟩) | (cases h)
  · rename_i heq
    obtain ⟨hd1, hd2⟩ := dec_of (n := 1) hr heq rfl
    have hx := hr
    simp only [rowOk, heq, Bool.and_eq_true, Bool.or_eq_true, decide_eq_true_eq] at hx
    rw [hd2]
    split at h <;> first | (cases h; exact ⟨ho, fun k => E_lsub (fun _ => hd1) k⟩) | (cases h)
  · rename_i heq
    obtain ⟨hd1, hd2⟩ := dec_of (n := 1) hr heq rfl
    have hx := hr
    simp only [rowOk, heq, Bool.and_eq_true, Bool.or_eq_true, decide_eq_true_eq] at hx
    rw [hd2]
    split at h <;> first | (cases h; exact ⟨ho, fun k => E_lmul (fun _ => hd1) k⟩) | (cases h)
  · rename_i heq
    obtain ⟨hd1, hd2⟩ := dec_of (n := 1) hr heq rfl
    have hx := hr
    simp only [rowOk, heq, Bool.and_eq_true, Bool.or_eq_true, decide_eq_true_eq] at hx
    rw [hd2]
    split at h <;> first | (cases h; exact ⟨ho, fun k => E_lor (fun _ => hd1) k⟩) | (cases h)
  · rename_i heq
    obtain ⟨hd1, hd2⟩ := dec_of (n := 1) hr heq rfl
    have hx := hr
    simp only [rowOk, heq, Bool.and_eq_true, Bool.or_eq_true, decide_eq_true_eq] at hx
    rw [hd2]
    split at h <;> first | (cases h; exact ⟨ho.2, fun k => E_ldiv (fun _ => hd1) ho.1 k⟩) | (cases h)
  · rename_i heq
    obtain ⟨hd1, hd2⟩ := dec_of (n := 1) hr heq rfl
    have hx := hr
    simp only [rowOk, heq, Bool.and_eq_true, Bool.or_eq_true, decide_eq_true_eq] at hx
    rw [hd2]
    split at h <;> first | (cases h; exact ⟨ho.2, fun k => E_lrem (fun _ => hd1) ho.1 k⟩) | (cases h)
  · rename_i heq
    obtain ⟨hd1, hd2⟩ := dec_of (n := 1) hr heq rfl
    have hx := hr
    simp only [rowOk, heq, Bool.and_eq_true, Bool.or_eq_true, decide_eq_true_eq] at hx
    rw [hd2]
    split at h <;> first | (cases h; exact ⟨ho, fun k => E_lneg (y := 0) (fun _ => hd1) k⟩) | (cases h)
  · rename_i heq
    obtain ⟨hd1, hd2⟩ := dec_of (n := 1) hr heq rfl
    have hx := hr
    simp only [rowOk, heq, Bool.and_eq_true, Bool.or_eq_true, decide_eq_true_eq] at hx
    rw [hd2]
    split at h <;> first | (cases h; exact ⟨ho, fun k => E_lushr (fun _ => hd1) k⟩) | (cases h)
  · rename_i heq
    obtain ⟨hd1, hd2⟩ := dec_of (n := 1) hr heq rfl
    have hx := hr
    simp only [rowOk, heq, Bool.and_eq_true, Bool.or_eq_true, decide_eq_true_eq] at hx
    rw [hd2]
    split at h <;> first | (cases h; exact ⟨ho, fun k => E_lshl (fun _ => hd1) k⟩) | (cases h)
  · rename_i heq
    obtain ⟨hd1, hd2⟩ := dec_of (n := 1) hr heq rfl
    have hx := hr
    simp only [rowOk, heq, Bool.and_eq_true, Bool.or_eq_true, decide_eq_true_eq] at hx
    rw [hd2]
    split at h <;> first | (cases h; exact ⟨ho, fun k => E_i2l (y := 0) (fun _ => hd1) k⟩) | (cases h)
  · rename_i heq
    obtain ⟨hd1, hd2⟩ := dec_of (n := 1) hr heq rfl
    have hx := hr
    simp only [rowOk, heq, Bool.and_eq_true, Bool.or_eq_true, decide_eq_true_eq] at hx
    rw [hd2]
    split at h <;> first | (cases h; exact ⟨ho, fun k => E_l2i (y := 0) (fun _ => hd1) k⟩) | (cases h)
  · rename_i heq
    obtain ⟨hd1, hd2⟩ := dec_of (n := 1) hr heq rfl
    have hx := hr
    simp only [rowOk, heq, Bool.and_eq_true, Bool.or_eq_true, decide_eq_true_eq] at hx
    rw [hd2]
    split at h <;> first | (cases h; exact ⟨ho, fun k => E_i2b (y := 0) (fun _ => hd1) k⟩) | (cases h)
  · rename_i heq
    obtain ⟨hd1, hd2⟩ := dec_of (n := 1) hr heq rfl
    have hx := hr
    simp only [rowOk, heq, Bool.and_eq_true, Bool.or_eq_true, decide_eq_true_eq] at hx
    rw [hd2]
    split at h <;> first | (cases h; exact ⟨ho, fun k => E_i2c (y := 0) (fun _ => hd1) k⟩) | (cases h)
  · rename_i heq
    obtain ⟨hd1, hd2⟩ := dec_of (n := 1) hr heq rfl
    have hx := hr
    simp only [rowOk, heq, Bool.and_eq_true, Bool.or_eq_true, decide_eq_true_eq] at hx
    rw [hd2]
    split at h <;> first | (cases h; exact ⟨ho, fun k => E_lcmp (fun _ => hd1) k⟩) | (cases h)
  · rename_i heq
    obtain ⟨hd1, hd2⟩ := dec_of (n := 1) hr heq rfl
    have hx := hr
    simp only [rowOk, heq, Bool.and_eq_true, Bool.or_eq_true, decide_eq_true_eq] at hx
    rw [hd2]
    cases h; exact ⟨ho, fun k => E_null (fun _ => hd1) k⟩
  · rename_i heq
    obtain ⟨hd1, hd2⟩ := dec_of (n := 1) hr heq rfl
    have hx := hr
    simp only [rowOk, heq, Bool.and_eq_true, Bool.or_eq_true, decide_eq_true_eq] at hx
    rw [hd2]
    split at h <;> first | (cases h; exact ⟨ho, fun k => E_dup rfl (fun _ => hd1) k⟩) | (cases h)
  · rename_i heq
    obtain ⟨hd1, hd2⟩ := dec_of (n := 1) hr heq rfl
    have hx := hr
    simp only [rowOk, heq, Bool.and_eq_true, Bool.or_eq_true, decide_eq_true_eq] at hx
    rw [hd2]
    split at h <;> first | (cases h; exact ⟨ho, fun k => E_pop rfl (fun _ => hd1) k⟩) | (cases h)
  · rename_i heq
    obtain ⟨hd1, hd2⟩ := dec_of (n := 1) hr heq rfl
    have hx := hr
    simp only [rowOk, heq, Bool.and_eq_true, Bool.or_eq_true, decide_eq_true_eq] at hx
    rw [hd2]
    split at h <;> first | (cases h; exact ⟨ho, fun k => E_dup2b rfl rfl (fun _ => hd1) k⟩) | (cases h; exact ⟨ho, fun k => E_dup2a rfl (fun _ => hd1) k⟩) | (cases h)
  · rename_i heq
    obtain ⟨hd1, hd2⟩ := dec_of (n := 3) hr heq rfl
    have hx := hr
    simp only [rowOk, heq, Bool.and_eq_true, Bool.or_eq_true, decide_eq_true_eq] at hx
    rw [hd2]
    split at h
    · rename_i a t
      obtain ⟨-, -, -, -, -, -, -, -, hs, -⟩ := fld_spec hx.2
      cases h2 : Nat.beq (r_c r % 10) 2 with
      | true =>
        rw [h2] at h; cases h
        have h3 := Nat.eq_of_beq_eq_true h2
        refine ⟨ho.2.2, fun k => E_getf (fun _ => hx.2) ho.1 (fun _ => hd1) ?_⟩
        have : fv M (r_a r) a = .ref (rget (m_fr M (r_a r) a)) := by
          simp only [fv, ← hs, h3]
          exact rf_get ho.2.1
        rw [this]; exact k
      | false =>
        rw [h2] at h
        cases h4 : Nat.beq (r_c r % 10) 1 with
        | true =>
          rw [h4] at h; cases h
          have h3 := Nat.eq_of_beq_eq_true h4
          refine ⟨ho.2, fun k => E_getf (fun _ => hx.2) ho.1 (fun _ => hd1) ?_⟩
          have : fv M (r_a r) a = .long (m_fl M (r_a r) a) := by simp only [fv, ← hs, h3]
          rw [this]; exact k
        | false =>
          rw [h4] at h; cases h
          refine ⟨ho.2, fun k => E_getf (fun _ => hx.2) ho.1 (fun _ => hd1) ?_⟩
          have n2 := Nat.ne_of_beq_eq_false h2
          have n1 := Nat.ne_of_beq_eq_false h4
          have : fv M (r_a r) a = .int (m_fi M (r_a r) a) := by
            simp only [fv]
            split
            · omega
            · omega
            · rfl
          rw [this]; exact k
    · cases h
  · rename_i heq
    obtain ⟨hd1, hd2⟩ := dec_of (n := 3) hr heq rfl
    have hx := hr
    simp only [rowOk, heq, Bool.and_eq_true, Bool.or_eq_true, decide_eq_true_eq] at hx
    rw [hd2]
    obtain ⟨-, -, -, -, -, -, -, -, hs, -⟩ := fld_spec hx.2
    split at h
    · rename_i v a t
      cases h2 : Nat.beq (r_c r % 10) 2 with
      | false => rw [h2] at h; cases h
      | true =>
        rw [h2] at h; cases h
        have h3 : srt (r_a r) = 2 := hs.symm.trans (Nat.eq_of_beq_eq_true h2)
        refine ⟨ho.2, fun k => E_putf (M' := w_fr M (r_a r) a (some v)) (fun _ => hx.2) ho.1 (fun _ => hd1) (fun ty hty => ?_) rfl rfl rfl rfl rfl rfl (fun k' o' => ?_) k⟩
        · rw [h3] at hty
          cases ty <;> first | exact ⟨rfl, rfl⟩ | (simp [sortFits] at hty)
        · by_cases hk : k' = r_a r
          · subst hk
            simp only [fv, h3, w_fr, m_fr, up2, true_and]
            by_cases ho' : o' = a <;> simp [ho', va_rf]
          · rw [if_neg (fun z => hk z.1)]
            simp [fv, w_fr, m_fr, m_fl, m_fi, up2, hk]
    · rename_i v a t
      cases h2 : Nat.beq (r_c r % 10) 1 with
      | false => rw [h2] at h; cases h
      | true =>
        rw [h2] at h; cases h
        have h3 : srt (r_a r) = 1 := hs.symm.trans (Nat.eq_of_beq_eq_true h2)
        refine ⟨ho.2, fun k => E_putf (M' := w_fl M (r_a r) a v) (fun _ => hx.2) ho.1 (fun _ => hd1) (fun ty hty => ?_) rfl rfl rfl rfl rfl rfl (fun k' o' => ?_) k⟩
        · rw [h3] at hty
          cases ty <;> first | exact ⟨rfl, rfl⟩ | (simp [sortFits] at hty)
        · by_cases hk : k' = r_a r
          · subst hk
            simp only [fv, h3, w_fl, m_fl, up2, true_and]
            by_cases ho' : o' = a <;> simp [ho']
          · rw [if_neg (fun z => hk z.1)]
            simp [fv, w_fl, m_fr, m_fl, m_fi, up2, hk]
    · rename_i v a t
      have hfv : (srt (r_a r) = 3 ∨ srt (r_a r) = 0) → ∀ k' o', fv (w_fi M (r_a r) a v) k' o' = if k' = r_a r ∧ o' = a then .int v else fv M k' o' := fun h3 k' o' => by
        by_cases hk : k' = r_a r
        · subst hk
          rcases h3 with h3 | h3 <;>
          · simp only [fv, h3, w_fi, m_fi, up2, true_and]
            by_cases ho' : o' = a <;> simp [ho']
        · rw [if_neg (fun z => hk z.1)]
          simp [fv, w_fi, m_fr, m_fl, m_fi, up2, hk]
      cases h2 : Nat.beq (r_c r % 10) 3 with
      | true =>
        rw [h2] at h; cases h
        have h3 : srt (r_a r) = 3 := hs.symm.trans (Nat.eq_of_beq_eq_true h2)
        refine ⟨ho.2.2, fun k => E_putf (M' := w_fi M (r_a r) a v) (fun _ => hx.2) ho.1 (fun _ => hd1) (fun ty hty => ?_) rfl rfl rfl rfl rfl rfl (hfv (Or.inl h3)) k⟩
        rw [h3] at hty
        cases ty <;> first | (rcases ho.2.1 with rfl | rfl <;> exact ⟨rfl, rfl⟩) | (simp [sortFits] at hty)
      | false =>
        rw [h2] at h
        cases h4 : Nat.beq (r_c r % 10) 0 with
        | false => rw [h4] at h; cases h
        | true =>
          rw [h4] at h; cases h
          have h3 : srt (r_a r) = 0 := hs.symm.trans (Nat.eq_of_beq_eq_true h4)
          refine ⟨ho.2, fun k => E_putf (M' := w_fi M (r_a r) a v) (fun _ => hx.2) ho.1 (fun _ => hd1) (fun ty hty => ?_) rfl rfl rfl rfl rfl rfl (hfv (Or.inr h3)) k⟩
          rw [h3] at hty
          cases ty <;> first | exact ⟨rfl, rfl⟩ | (simp [sortFits] at hty)
    · cases h
  · rename_i heq
    obtain ⟨hd1, hd2⟩ := dec_of (n := 1) hr heq rfl
    have hx := hr
    simp only [rowOk, heq, Bool.and_eq_true, Bool.or_eq_true, decide_eq_true_eq] at hx
    rw [hd2]
    split at h <;> first | (cases h; exact ⟨ho.2, fun k => E_iaload ho.1.1 ho.1.2 (fun _ => hd1) k⟩) | (cases h)
  · rename_i heq
    obtain ⟨hd1, hd2⟩ := dec_of (n := 1) hr heq rfl
    have hx := hr
    simp only [rowOk, heq, Bool.and_eq_true, Bool.or_eq_true, decide_eq_true_eq] at hx
    rw [hd2]
    split at h <;> first | (cases h; exact ⟨ho.2, fun k => E_laload ho.1.1 ho.1.2 (fun _ => hd1) k⟩) | (cases h)
  · rename_i heq
    obtain ⟨hd1, hd2⟩ := dec_of (n := 1) hr heq rfl
    have hx := hr
    simp only [rowOk, heq, Bool.and_eq_true, Bool.or_eq_true, decide_eq_true_eq] at hx
    rw [hd2]
    split at h <;> first | (cases h; exact ⟨ho.2, fun k => E_baload ho.1.1 ho.1.2 (fun _ => hd1) k⟩) | (cases h)
  · rename_i heq
    obtain ⟨hd1, hd2⟩ := dec_of (n := 1) hr heq rfl
    have hx := hr
    simp only [rowOk, heq, Bool.and_eq_true, Bool.or_eq_true, decide_eq_true_eq] at hx
    rw [hd2]
    split at h <;> first | (cases h; exact ⟨ho.2, fun k => E_aaload ho.1.1 ho.1.2.1 ho.1.2.2 (fun _ => hd1) k⟩) | (cases h)
  · rename_i heq
    obtain ⟨hd1, hd2⟩ := dec_of (n := 1) hr heq rfl
    have hx := hr
    simp only [rowOk, heq, Bool.and_eq_true, Bool.or_eq_true, decide_eq_true_eq] at hx
    rw [hd2]
    split at h <;> first | (cases h; exact ⟨ho.2, fun k => E_iastore ho.1.1 ho.1.2 (fun _ => hd1) k⟩) | (cases h)
  · rename_i heq
    obtain ⟨hd1, hd2⟩ := dec_of (n := 1) hr heq rfl
    have hx := hr
    simp only [rowOk, heq, Bool.and_eq_true, Bool.or_eq_true, decide_eq_true_eq] at hx
    rw [hd2]
    split at h <;> first | (cases h; exact ⟨ho.2, fun k => E_lastore ho.1.1 ho.1.2 (fun _ => hd1) k⟩) | (cases h)
  · rename_i heq
    obtain ⟨hd1, hd2⟩ := dec_of (n := 1) hr heq rfl
    have hx := hr
    simp only [rowOk, heq, Bool.and_eq_true, Bool.or_eq_true, decide_eq_true_eq] at hx
    rw [hd2]
    split at h <;> first | (cases h; exact ⟨ho.2, fun k => E_bastore ho.1.1 ho.1.2 (fun _ => hd1) k⟩) | (cases h)
  · rename_i heq
    obtain ⟨hd1, hd2⟩ := dec_of (n := 1) hr heq rfl
    have hx := hr
    simp only [rowOk, heq, Bool.and_eq_true, Bool.or_eq_true, decide_eq_true_eq] at hx
    rw [hd2]
    split at h <;> first | (cases h; exact ⟨ho.2, fun k => E_aastore ho.1.1 ho.1.2 (fun _ => hd1) k⟩) | (cases h)
  · rename_i heq
    obtain ⟨hd1, hd2⟩ := dec_of (n := 1) hr heq rfl
    have hx := hr
    simp only [rowOk, heq, Bool.and_eq_true, Bool.or_eq_true, decide_eq_true_eq] at hx
    rw [hd2]
    split at h <;> first | (cases h; exact ⟨ho.2, fun k => E_arraylength ho.1 (fun _ => hd1) k⟩) | (cases h)
  · rename_i heq
    obtain ⟨hd1, hd2⟩ := dec_of (n := 3) hr heq rfl
    have hx := hr
    simp only [rowOk, heq, Bool.and_eq_true, Bool.or_eq_true, decide_eq_true_eq] at hx
    rw [hd2]
    cases h; exact ⟨ho, fun k => E_getstatic (fun _ => nAt_in hx.2) (fun _ => hd1) k⟩
  · cases h
def dropTo : List RowT → Nat → List RowT
  | [], _ => []
  | r :: t, pc => cond (Nat.beq r.1 pc) (r :: t) (dropTo t pc)
theorem dropTo_sub {l : List RowT} {pc : Nat} : ∀ r ∈ dropTo l pc, r ∈ l := by
  induction l with
  | nil => intro r h; cases h
  | cons q t ih =>
    intro r h
    simp only [dropTo] at h
    cases hq : Nat.beq q.1 pc with
    | true => rw [hq] at h; exact h
    | false => rw [hq] at h; exact List.mem_cons_of_mem _ (ih r h)
/-- a whole stretch: up to a branch, a call, an end, or a marked row -/
def xr : Nat → Nat → Nat → Nat → List RowT → Bool → LsT → List Value → Mem → Prop → Nat × LsT × List Value × Mem × Prop
  | 0, _, _, pc, _, _, ls, st, M, o => (pc, ls, st, M, o)
  | _ + 1, _, _, pc, [], _, ls, st, M, o => (pc, ls, st, M, o)
  | n + 1, kw, m, pc, r :: rs, f, ls, st, M, o =>
    cond (Nat.beq r.1 pc) (cond (r_s r && f) (pc, ls, st, M, o)
      (match r_in r with
      | .goto _ => xr n kw m (r_a r) (dropTo (tb_rows m) (r_a r)) true ls st M o
      | _ => match sx kw r ls st M with
        | some (ls', st', M', t) => xr n kw m (r_nx r) rs true ls' st' M' (t o)
        | none => (pc, ls, st, M, o))) (pc, ls, st, M, o)
theorem Eg.vac {g : GG} {d m bc bs pc : Nat} {Z : ZT} {ls : LsT} {st : List Value} {M : Mem} (h : ¬ m < tb_n) : Eg g d m bc bs Z pc ls st M := fun p e R s mi ar be me cd H lo ce sl lsA C => absurd C.lt h
theorem xr_ok {g : GG} {d m bc bs : Nat} {Z : ZT} (hm : m < tb_n) : ∀ (n pc : Nat) (rs : List RowT) (f : Bool) (ls : LsT) (st : List Value) (M : Mem) (o : Prop), (∀ r ∈ rs, r ∈ tb_rows m) → ∀ (pc' : Nat) (ls' : LsT) (st' : List Value) (M' : Mem) (o' : Prop), xr n (gKa g) m pc rs f ls st M o = (pc', ls', st', M', o') → o' → o ∧ (Eg g d m bc bs Z pc' ls' st' M' → Eg g d m bc bs Z pc ls st M) := by
  intro n
  induction n with
  | zero =>
    intro pc rs f ls st M o hs pc' ls' st' M' o' h ho
    cases h
    exact ⟨ho, id⟩
  | succ n ih =>
    intro pc rs f ls st M o hs pc' ls' st' M' o' h ho
    cases rs with
    | nil => cases h; exact ⟨ho, id⟩
    | cons r rs =>
      simp only [xr] at h
      cases h1 : Nat.beq r.1 pc with
      | false => rw [h1] at h; cases h; exact ⟨ho, id⟩
      | true =>
        rw [h1] at h
        have hpc : r_pc r = pc := Nat.eq_of_beq_eq_true h1
        have hrm : r ∈ tb_rows m := hs r List.mem_cons_self
        have hr : rowOk m r = true := rows_ok hm hrm
        cases h2 : (r_s r && f) with
        | true => rw [h2] at h; cases h; exact ⟨ho, id⟩
        | false =>
          rw [h2] at h
          simp only [cond_true, cond_false] at h
          split at h
          · rename_i off heq
            obtain ⟨g1, g2⟩ := ih _ _ _ _ _ _ _ dropTo_sub _ _ _ _ _ h ho
            obtain ⟨hd1, hd2⟩ := dec_of (n := 3) hr heq rfl
            have hx := hr
            simp only [rowOk, heq, Bool.and_eq_true, decide_eq_true_eq] at hx
            refine ⟨g1, fun k => ?_⟩
            rw [← hpc]
            exact E_goto (fun _ => hx.2) (fun _ => hd1) (g2 k)
          · split at h
            · rename_i ls1 st1 M1 t1 hsx
              obtain ⟨g1, g2⟩ := ih _ _ _ _ _ _ _ (fun q hq => hs q (List.mem_cons_of_mem _ hq)) _ _ _ _ _ h ho
              obtain ⟨g3, g4⟩ := sx_ok (d := d) (bc := bc) (bs := bs) (Z := Z) hr hsx g1
              exact ⟨g3, fun k => hpc ▸ g4 (g2 k)⟩
            · cases h; exact ⟨ho, id⟩
theorem max_words : Cond.static Lib.Math.max.name ∈ T0 ∧ Cond.initialized "java/lang/Math" ∈ T0 ∧ Cond.code Lib.Math.max.name Lib.Math.max.code 2 (some .int) ∈ T0 := ⟨inT0 (L := [Cond.static Lib.Math.max.name]) (by decide +kernel) _ List.mem_cons_self, inT0 (L := [Cond.initialized "java/lang/Math"]) (by decide +kernel) _ List.mem_cons_self, inT0 (L := [Cond.code Lib.Math.max.name Lib.Math.max.code 2 (some .int)]) (by decide +kernel) _ List.mem_cons_self⟩
theorem min_words : Cond.static Lib.Math.min.name ∈ T0 ∧ Cond.initialized "java/lang/Math" ∈ T0 ∧ Cond.code Lib.Math.min.name Lib.Math.min.code 2 (some .int) ∈ T0 := ⟨inT0 (L := [Cond.static Lib.Math.min.name]) (by decide +kernel) _ List.mem_cons_self, inT0 (L := [Cond.initialized "java/lang/Math"]) (by decide +kernel) _ List.mem_cons_self, inT0 (L := [Cond.code Lib.Math.min.name Lib.Math.min.code 2 (some .int)]) (by decide +kernel) _ List.mem_cons_self⟩
section XS
variable {g : GG} {d m bc bs pc : Nat} {Z : ZT} {ls : LsT} {st : List Value} {M : Mem}
theorem X_run {pc' : Nat} {ls' : LsT} {st' : List Value} {M' : Mem} {o : Prop} (h : xr 400 (gKa g) m pc (dropTo (tb_rows m) pc) false ls st M True = (pc', ls', st', M', o)) (ho : o) (k : Eg g d m bc bs Z pc' ls' st' M') : Eg g d m bc bs Z pc ls st M := by
  by_cases hm : m < tb_n
  · exact (xr_ok hm _ _ _ _ _ _ _ _ dropTo_sub _ _ _ _ _ h ho).2 k
  · exact Eg.vac hm
theorem row_use {r : RowT} (hr : rowAt m pc = some r) (hm : m < tb_n) : rowOk m r = true ∧ r_pc r = pc := ⟨rows_ok hm (rowAt_spec hr).1, (rowAt_spec hr).2⟩
theorem X_icmp_eq {x y : Int32} {o : Int} {q0 nx t b c w : Nat} {sp : Bool} {ki : Int32} {kl : Int64} (hr : rowAt m pc = some (q0, .if_icmp .eq o, nx, (t, b, c, w, sp), ki, kl)) (kt : x = y → Eg g d m bc bs Z t ls st M) (kf : ¬ (x = y) → Eg g d m bc bs Z nx ls st M) : Eg g d m bc bs Z pc ls (.int y :: .int x :: st) M := by
  by_cases hm : m < tb_n
  · obtain ⟨h1, h2⟩ := row_use hr hm
    obtain ⟨hd1, hd2⟩ := dec_of (n := 3) h1 rfl rfl
    have hx := h1
    simp only [rowOk, Bool.and_eq_true, decide_eq_true_eq] at hx
    have h3 : q0 = pc := h2
    subst h3
    have h4 : nx = q0 + 3 := hd2
    subst h4
    exact E_icmp_eq (fun _ => hx.2) (fun _ => hd1) kt kf
  · exact Eg.vac hm
theorem X_if_eq {x : Int32} {o : Int} {q0 nx t b c w : Nat} {sp : Bool} {ki : Int32} {kl : Int64} (hr : rowAt m pc = some (q0, .ifCond .eq o, nx, (t, b, c, w, sp), ki, kl)) (kt : x = 0 → Eg g d m bc bs Z t ls st M) (kf : ¬ (x = 0) → Eg g d m bc bs Z nx ls st M) : Eg g d m bc bs Z pc ls (.int x :: st) M := by
  by_cases hm : m < tb_n
  · obtain ⟨h1, h2⟩ := row_use hr hm
    obtain ⟨hd1, hd2⟩ := dec_of (n := 3) h1 rfl rfl
    have hx := h1
    simp only [rowOk, Bool.and_eq_true, decide_eq_true_eq] at hx
    have h3 : q0 = pc := h2
    subst h3
    have h4 : nx = q0 + 3 := hd2
    subst h4
    exact E_if_eq (fun _ => hx.2) (fun _ => hd1) kt kf
  · exact Eg.vac hm
theorem X_icmp_ne {x y : Int32} {o : Int} {q0 nx t b c w : Nat} {sp : Bool} {ki : Int32} {kl : Int64} (hr : rowAt m pc = some (q0, .if_icmp .ne o, nx, (t, b, c, w, sp), ki, kl)) (kt : ¬ x = y → Eg g d m bc bs Z t ls st M) (kf : x = y → Eg g d m bc bs Z nx ls st M) : Eg g d m bc bs Z pc ls (.int y :: .int x :: st) M := by
  by_cases hm : m < tb_n
  · obtain ⟨h1, h2⟩ := row_use hr hm
    obtain ⟨hd1, hd2⟩ := dec_of (n := 3) h1 rfl rfl
    have hx := h1
    simp only [rowOk, Bool.and_eq_true, decide_eq_true_eq] at hx
    have h3 : q0 = pc := h2
    subst h3
    have h4 : nx = q0 + 3 := hd2
    subst h4
    exact E_icmp_ne (fun _ => hx.2) (fun _ => hd1) kt kf
  · exact Eg.vac hm
theorem X_if_ne {x : Int32} {o : Int} {q0 nx t b c w : Nat} {sp : Bool} {ki : Int32} {kl : Int64} (hr : rowAt m pc = some (q0, .ifCond .ne o, nx, (t, b, c, w, sp), ki, kl)) (kt : ¬ x = 0 → Eg g d m bc bs Z t ls st M) (kf : x = 0 → Eg g d m bc bs Z nx ls st M) : Eg g d m bc bs Z pc ls (.int x :: st) M := by
  by_cases hm : m < tb_n
  · obtain ⟨h1, h2⟩ := row_use hr hm
    obtain ⟨hd1, hd2⟩ := dec_of (n := 3) h1 rfl rfl
    have hx := h1
    simp only [rowOk, Bool.and_eq_true, decide_eq_true_eq] at hx
    have h3 : q0 = pc := h2
    subst h3
    have h4 : nx = q0 + 3 := hd2
    subst h4
    exact E_if_ne (fun _ => hx.2) (fun _ => hd1) kt kf
  · exact Eg.vac hm
theorem X_icmp_lt {x y : Int32} {o : Int} {q0 nx t b c w : Nat} {sp : Bool} {ki : Int32} {kl : Int64} (hr : rowAt m pc = some (q0, .if_icmp .lt o, nx, (t, b, c, w, sp), ki, kl)) (kt : x < y → Eg g d m bc bs Z t ls st M) (kf : ¬ (x < y) → Eg g d m bc bs Z nx ls st M) : Eg g d m bc bs Z pc ls (.int y :: .int x :: st) M := by
  by_cases hm : m < tb_n
  · obtain ⟨h1, h2⟩ := row_use hr hm
    obtain ⟨hd1, hd2⟩ := dec_of (n := 3) h1 rfl rfl
    have hx := h1
    simp only [rowOk, Bool.and_eq_true, decide_eq_true_eq] at hx
    have h3 : q0 = pc := h2
    subst h3
    have h4 : nx = q0 + 3 := hd2
    subst h4
    exact E_icmp_lt (fun _ => hx.2) (fun _ => hd1) kt kf
  · exact Eg.vac hm
theorem X_if_lt {x : Int32} {o : Int} {q0 nx t b c w : Nat} {sp : Bool} {ki : Int32} {kl : Int64} (hr : rowAt m pc = some (q0, .ifCond .lt o, nx, (t, b, c, w, sp), ki, kl)) (kt : x < 0 → Eg g d m bc bs Z t ls st M) (kf : ¬ (x < 0) → Eg g d m bc bs Z nx ls st M) : Eg g d m bc bs Z pc ls (.int x :: st) M := by
  by_cases hm : m < tb_n
  · obtain ⟨h1, h2⟩ := row_use hr hm
    obtain ⟨hd1, hd2⟩ := dec_of (n := 3) h1 rfl rfl
    have hx := h1
    simp only [rowOk, Bool.and_eq_true, decide_eq_true_eq] at hx
    have h3 : q0 = pc := h2
    subst h3
    have h4 : nx = q0 + 3 := hd2
    subst h4
    exact E_if_lt (fun _ => hx.2) (fun _ => hd1) kt kf
  · exact Eg.vac hm
theorem X_icmp_ge {x y : Int32} {o : Int} {q0 nx t b c w : Nat} {sp : Bool} {ki : Int32} {kl : Int64} (hr : rowAt m pc = some (q0, .if_icmp .ge o, nx, (t, b, c, w, sp), ki, kl)) (kt : y ≤ x → Eg g d m bc bs Z t ls st M) (kf : ¬ (y ≤ x) → Eg g d m bc bs Z nx ls st M) : Eg g d m bc bs Z pc ls (.int y :: .int x :: st) M := by
  by_cases hm : m < tb_n
  · obtain ⟨h1, h2⟩ := row_use hr hm
    obtain ⟨hd1, hd2⟩ := dec_of (n := 3) h1 rfl rfl
    have hx := h1
    simp only [rowOk, Bool.and_eq_true, decide_eq_true_eq] at hx
    have h3 : q0 = pc := h2
    subst h3
    have h4 : nx = q0 + 3 := hd2
    subst h4
    exact E_icmp_ge (fun _ => hx.2) (fun _ => hd1) kt kf
  · exact Eg.vac hm
theorem X_if_ge {x : Int32} {o : Int} {q0 nx t b c w : Nat} {sp : Bool} {ki : Int32} {kl : Int64} (hr : rowAt m pc = some (q0, .ifCond .ge o, nx, (t, b, c, w, sp), ki, kl)) (kt : 0 ≤ x → Eg g d m bc bs Z t ls st M) (kf : ¬ (0 ≤ x) → Eg g d m bc bs Z nx ls st M) : Eg g d m bc bs Z pc ls (.int x :: st) M := by
  by_cases hm : m < tb_n
  · obtain ⟨h1, h2⟩ := row_use hr hm
    obtain ⟨hd1, hd2⟩ := dec_of (n := 3) h1 rfl rfl
    have hx := h1
    simp only [rowOk, Bool.and_eq_true, decide_eq_true_eq] at hx
    have h3 : q0 = pc := h2
    subst h3
    have h4 : nx = q0 + 3 := hd2
    subst h4
    exact E_if_ge (fun _ => hx.2) (fun _ => hd1) kt kf
  · exact Eg.vac hm
theorem X_icmp_gt {x y : Int32} {o : Int} {q0 nx t b c w : Nat} {sp : Bool} {ki : Int32} {kl : Int64} (hr : rowAt m pc = some (q0, .if_icmp .gt o, nx, (t, b, c, w, sp), ki, kl)) (kt : y < x → Eg g d m bc bs Z t ls st M) (kf : ¬ (y < x) → Eg g d m bc bs Z nx ls st M) : Eg g d m bc bs Z pc ls (.int y :: .int x :: st) M := by
  by_cases hm : m < tb_n
  · obtain ⟨h1, h2⟩ := row_use hr hm
    obtain ⟨hd1, hd2⟩ := dec_of (n := 3) h1 rfl rfl
    have hx := h1
    simp only [rowOk, Bool.and_eq_true, decide_eq_true_eq] at hx
    have h3 : q0 = pc := h2
    subst h3
    have h4 : nx = q0 + 3 := hd2
    subst h4
    exact E_icmp_gt (fun _ => hx.2) (fun _ => hd1) kt kf
  · exact Eg.vac hm
theorem X_if_gt {x : Int32} {o : Int} {q0 nx t b c w : Nat} {sp : Bool} {ki : Int32} {kl : Int64} (hr : rowAt m pc = some (q0, .ifCond .gt o, nx, (t, b, c, w, sp), ki, kl)) (kt : 0 < x → Eg g d m bc bs Z t ls st M) (kf : ¬ (0 < x) → Eg g d m bc bs Z nx ls st M) : Eg g d m bc bs Z pc ls (.int x :: st) M := by
  by_cases hm : m < tb_n
  · obtain ⟨h1, h2⟩ := row_use hr hm
    obtain ⟨hd1, hd2⟩ := dec_of (n := 3) h1 rfl rfl
    have hx := h1
    simp only [rowOk, Bool.and_eq_true, decide_eq_true_eq] at hx
    have h3 : q0 = pc := h2
    subst h3
    have h4 : nx = q0 + 3 := hd2
    subst h4
    exact E_if_gt (fun _ => hx.2) (fun _ => hd1) kt kf
  · exact Eg.vac hm
theorem X_icmp_le {x y : Int32} {o : Int} {q0 nx t b c w : Nat} {sp : Bool} {ki : Int32} {kl : Int64} (hr : rowAt m pc = some (q0, .if_icmp .le o, nx, (t, b, c, w, sp), ki, kl)) (kt : x ≤ y → Eg g d m bc bs Z t ls st M) (kf : ¬ (x ≤ y) → Eg g d m bc bs Z nx ls st M) : Eg g d m bc bs Z pc ls (.int y :: .int x :: st) M := by
  by_cases hm : m < tb_n
  · obtain ⟨h1, h2⟩ := row_use hr hm
    obtain ⟨hd1, hd2⟩ := dec_of (n := 3) h1 rfl rfl
    have hx := h1
    simp only [rowOk, Bool.and_eq_true, decide_eq_true_eq] at hx
    have h3 : q0 = pc := h2
    subst h3
    have h4 : nx = q0 + 3 := hd2
    subst h4
    exact E_icmp_le (fun _ => hx.2) (fun _ => hd1) kt kf
  · exact Eg.vac hm
theorem X_if_le {x : Int32} {o : Int} {q0 nx t b c w : Nat} {sp : Bool} {ki : Int32} {kl : Int64} (hr : rowAt m pc = some (q0, .ifCond .le o, nx, (t, b, c, w, sp), ki, kl)) (kt : x ≤ 0 → Eg g d m bc bs Z t ls st M) (kf : ¬ (x ≤ 0) → Eg g d m bc bs Z nx ls st M) : Eg g d m bc bs Z pc ls (.int x :: st) M := by
  by_cases hm : m < tb_n
  · obtain ⟨h1, h2⟩ := row_use hr hm
    obtain ⟨hd1, hd2⟩ := dec_of (n := 3) h1 rfl rfl
    have hx := h1
    simp only [rowOk, Bool.and_eq_true, decide_eq_true_eq] at hx
    have h3 : q0 = pc := h2
    subst h3
    have h4 : nx = q0 + 3 := hd2
    subst h4
    exact E_if_le (fun _ => hx.2) (fun _ => hd1) kt kf
  · exact Eg.vac hm
theorem X_ifnull {x : Nat} {o : Int} {q0 nx a b c w : Nat} {sp : Bool} {ki : Int32} {kl : Int64} (hr : rowAt m pc = some (q0, .ifnull o, nx, (a, b, c, w, sp), ki, kl)) (k : Eg g d m bc bs Z nx ls st M) : Eg g d m bc bs Z pc ls (.ref x :: st) M := by
  by_cases hm : m < tb_n
  · obtain ⟨h1, h2⟩ := row_use hr hm
    obtain ⟨hd1, hd2⟩ := dec_of (n := 3) h1 rfl rfl
    have hx := h1
    simp only [rowOk, Bool.and_eq_true, Bool.or_eq_true, decide_eq_true_eq] at hx
    have h3 : q0 = pc := h2
    subst h3
    have h4 : nx = q0 + 3 := hd2
    subst h4
    exact E_ifnull (fun _ => hd1) k
  · exact Eg.vac hm
theorem X_ifnullN {o : Int} {q0 nx a b c w : Nat} {sp : Bool} {ki : Int32} {kl : Int64} (hr : rowAt m pc = some (q0, .ifnull o, nx, (a, b, c, w, sp), ki, kl)) (k : Eg g d m bc bs Z a ls st M) : Eg g d m bc bs Z pc ls (.null :: st) M := by
  by_cases hm : m < tb_n
  · obtain ⟨h1, h2⟩ := row_use hr hm
    obtain ⟨hd1, hd2⟩ := dec_of (n := 3) h1 rfl rfl
    have hx := h1
    simp only [rowOk, Bool.and_eq_true, Bool.or_eq_true, decide_eq_true_eq] at hx
    have h3 : q0 = pc := h2
    subst h3
    have h4 : nx = q0 + 3 := hd2
    subst h4
    exact E_ifnullN (fun _ => hx.2) (fun _ => hd1) k
  · exact Eg.vac hm
theorem X_ifnonnull {x : Nat} {o : Int} {q0 nx a b c w : Nat} {sp : Bool} {ki : Int32} {kl : Int64} (hr : rowAt m pc = some (q0, .ifnonnull o, nx, (a, b, c, w, sp), ki, kl)) (k : Eg g d m bc bs Z a ls st M) : Eg g d m bc bs Z pc ls (.ref x :: st) M := by
  by_cases hm : m < tb_n
  · obtain ⟨h1, h2⟩ := row_use hr hm
    obtain ⟨hd1, hd2⟩ := dec_of (n := 3) h1 rfl rfl
    have hx := h1
    simp only [rowOk, Bool.and_eq_true, Bool.or_eq_true, decide_eq_true_eq] at hx
    have h3 : q0 = pc := h2
    subst h3
    have h4 : nx = q0 + 3 := hd2
    subst h4
    exact E_ifnonnull (fun _ => hx.2) (fun _ => hd1) k
  · exact Eg.vac hm
theorem X_ifnonnullN {o : Int} {q0 nx a b c w : Nat} {sp : Bool} {ki : Int32} {kl : Int64} (hr : rowAt m pc = some (q0, .ifnonnull o, nx, (a, b, c, w, sp), ki, kl)) (k : Eg g d m bc bs Z nx ls st M) : Eg g d m bc bs Z pc ls (.null :: st) M := by
  by_cases hm : m < tb_n
  · obtain ⟨h1, h2⟩ := row_use hr hm
    obtain ⟨hd1, hd2⟩ := dec_of (n := 3) h1 rfl rfl
    have hx := h1
    simp only [rowOk, Bool.and_eq_true, Bool.or_eq_true, decide_eq_true_eq] at hx
    have h3 : q0 = pc := h2
    subst h3
    have h4 : nx = q0 + 3 := hd2
    subst h4
    exact E_ifnonnullN (fun _ => hd1) k
  · exact Eg.vac hm
theorem X_iret {Q : Option Value → Mem → Prop} {v : Int32} {q0 nx a b c w : Nat} {sp : Bool} {ki : Int32} {kl : Int64} (hr : rowAt m pc = some (q0, .ireturn, nx, (a, b, c, w, sp), ki, kl)) (ht : h_r m = some .int) (hq : Q (some (.int v)) M) : Eg g d m bc bs (Zr g Q) pc ls [.int v] M := by
  by_cases hm : m < tb_n
  · obtain ⟨h1, h2⟩ := row_use hr hm
    obtain ⟨hd1, hd2⟩ := dec_of (n := 1) h1 rfl rfl
    have hx := h1
    simp only [rowOk, Bool.and_eq_true, Bool.or_eq_true, decide_eq_true_eq] at hx
    have h3 : q0 = pc := h2
    subst h3
    have h4 : nx = q0 + 1 := hd2
    subst h4
    exact E_iret ht (fun _ => hd1) hq
  · exact Eg.vac hm
theorem X_zret {Q : Option Value → Mem → Prop} {v : Int32} {q0 nx a b c w : Nat} {sp : Bool} {ki : Int32} {kl : Int64} (hr : rowAt m pc = some (q0, .ireturn, nx, (a, b, c, w, sp), ki, kl)) (ht : h_r m = some .boolean) (hv : v = 0 ∨ v = 1) (hq : Q (some (.int v)) M) : Eg g d m bc bs (Zr g Q) pc ls [.int v] M := by
  by_cases hm : m < tb_n
  · obtain ⟨h1, h2⟩ := row_use hr hm
    obtain ⟨hd1, hd2⟩ := dec_of (n := 1) h1 rfl rfl
    have hx := h1
    simp only [rowOk, Bool.and_eq_true, Bool.or_eq_true, decide_eq_true_eq] at hx
    have h3 : q0 = pc := h2
    subst h3
    have h4 : nx = q0 + 1 := hd2
    subst h4
    exact E_zret ht (by rcases hv with rfl | rfl <;> rfl) (fun _ => hd1) hq
  · exact Eg.vac hm
theorem X_cret {Q : Option Value → Mem → Prop} {v : Int32} {q0 nx a b c w : Nat} {sp : Bool} {ki : Int32} {kl : Int64} (hr : rowAt m pc = some (q0, .ireturn, nx, (a, b, c, w, sp), ki, kl)) (ht : h_r m = some .char) (hv : narrow .char (.int v) = .int v) (hq : Q (some (.int v)) M) : Eg g d m bc bs (Zr g Q) pc ls [.int v] M := by
  by_cases hm : m < tb_n
  · obtain ⟨h1, h2⟩ := row_use hr hm
    obtain ⟨hd1, hd2⟩ := dec_of (n := 1) h1 rfl rfl
    have hx := h1
    simp only [rowOk, Bool.and_eq_true, Bool.or_eq_true, decide_eq_true_eq] at hx
    have h3 : q0 = pc := h2
    subst h3
    have h4 : nx = q0 + 1 := hd2
    subst h4
    exact E_zret ht hv (fun _ => hd1) hq
  · exact Eg.vac hm
theorem X_lret {Q : Option Value → Mem → Prop} {v : Int64} {q0 nx a b c w : Nat} {sp : Bool} {ki : Int32} {kl : Int64} (hr : rowAt m pc = some (q0, .lreturn, nx, (a, b, c, w, sp), ki, kl)) (ht : h_r m = some .long) (hq : Q (some (.long v)) M) : Eg g d m bc bs (Zr g Q) pc ls [.long v] M := by
  by_cases hm : m < tb_n
  · obtain ⟨h1, h2⟩ := row_use hr hm
    obtain ⟨hd1, hd2⟩ := dec_of (n := 1) h1 rfl rfl
    have hx := h1
    simp only [rowOk, Bool.and_eq_true, Bool.or_eq_true, decide_eq_true_eq] at hx
    have h3 : q0 = pc := h2
    subst h3
    have h4 : nx = q0 + 1 := hd2
    subst h4
    exact E_lret ht (fun _ => hd1) hq
  · exact Eg.vac hm
theorem X_vret {Q : Option Value → Mem → Prop} {q0 nx a b c w : Nat} {sp : Bool} {ki : Int32} {kl : Int64} (hr : rowAt m pc = some (q0, .return_, nx, (a, b, c, w, sp), ki, kl)) (ht : h_r m = none) (hq : Q none M) : Eg g d m bc bs (Zr g Q) pc ls [] M := by
  by_cases hm : m < tb_n
  · obtain ⟨h1, h2⟩ := row_use hr hm
    obtain ⟨hd1, hd2⟩ := dec_of (n := 1) h1 rfl rfl
    have hx := h1
    simp only [rowOk, Bool.and_eq_true, Bool.or_eq_true, decide_eq_true_eq] at hx
    have h3 : q0 = pc := h2
    subst h3
    have h4 : nx = q0 + 1 := hd2
    subst h4
    exact E_vret ht (fun _ => hd1) hq
  · exact Eg.vac hm
theorem X_aret {Q : Option Value → Mem → Prop} {v : Value} {C0 : String} {q0 nx a b c w : Nat} {sp : Bool} {ki : Int32} {kl : Int64} (hr : rowAt m pc = some (q0, .areturn, nx, (a, b, c, w, sp), ki, kl)) (ht : h_r m = some (.object C0)) (hv : v = .null ∨ ∃ x, v = .ref x) (hq : Q (some v) M) : Eg g d m bc bs (Zr g Q) pc ls [v] M := by
  by_cases hm : m < tb_n
  · obtain ⟨h1, h2⟩ := row_use hr hm
    obtain ⟨hd1, hd2⟩ := dec_of (n := 1) h1 rfl rfl
    have hx := h1
    simp only [rowOk, Bool.and_eq_true, Bool.or_eq_true, decide_eq_true_eq] at hx
    have h3 : q0 = pc := h2
    subst h3
    have h4 : nx = q0 + 1 := hd2
    subst h4
    exact E_aret ht hv (fun _ => hd1) hq
  · exact Eg.vac hm
theorem X_callV {i bc1 bs1 : Nat} {o : Nat} {args rest : List Value} {Q : Option Value → Mem → Prop} {q0 nx a b c w : Nat} {sp : Bool} {ki : Int32} {kl : Int64} (hr : rowAt m pc = some (q0, .invokevirtual i, nx, (a, b, c, w, sp), ki, kl)) (ha : a < 215 ∧ tb_kind a = 1) (ht : m_tg M o = tb_tag a) (hn : args.length = b) (hs : st = args.reverse ++ .ref o :: rest) (hsum : (rest.map fun v => v.category).sum ≤ 8) (hM : EvM g d a bc1 bs1 (.ref o :: args) M Q) (k : ∀ v M1, Q v M1 → Eg g (d + 1) m bc bs Z nx ls (v.toList ++ rest) M1) : Eg g (d + 1) m (bc + bc1) (bs + bs1) Z pc ls st M := by
  by_cases hm : m < tb_n
  · obtain ⟨h1, h2⟩ := row_use hr hm
    obtain ⟨hd1, hd2⟩ := dec_of (n := 3) h1 rfl rfl
    have hx := h1
    simp only [rowOk, Bool.and_eq_true, Bool.or_eq_true, decide_eq_true_eq] at hx
    have h3 : q0 = pc := h2
    subst h3
    have h4 : nx = q0 + 3 := hd2
    subst h4
    exact E_callV (fun _ => (by have h9 := hx.2; rw [if_neg (show ¬ 1000 ≤ a by omega)] at h9; exact h9)) (kind_spec ha.1).1 ((kind_spec ha.1).2.2.1 ha.2) ht hn hs hsum (fun _ => hd1) hM k
  · exact Eg.vac hm
theorem X_callS {i bc1 bs1 : Nat} {args rest : List Value} {Q : Option Value → Mem → Prop} {q0 nx a b c w : Nat} {sp : Bool} {ki : Int32} {kl : Int64} (hr : rowAt m pc = some (q0, .invokestatic i, nx, (a, b, c, w, sp), ki, kl)) (ha : a < 215 ∧ tb_kind a = 0) (hn : args.length = b) (hs : st = args.reverse ++ rest) (hsum : (rest.map fun v => v.category).sum ≤ 8) (hM : EvM g d a bc1 bs1 (args) M Q) (k : ∀ v M1, Q v M1 → Eg g (d + 1) m bc bs Z nx ls (v.toList ++ rest) M1) : Eg g (d + 1) m (bc + bc1) (bs + bs1) Z pc ls st M := by
  by_cases hm : m < tb_n
  · obtain ⟨h1, h2⟩ := row_use hr hm
    obtain ⟨hd1, hd2⟩ := dec_of (n := 3) h1 rfl rfl
    have hx := h1
    simp only [rowOk, Bool.and_eq_true, Bool.or_eq_true, decide_eq_true_eq] at hx
    have h3 : q0 = pc := h2
    subst h3
    have h4 : nx = q0 + 3 := hd2
    subst h4
    exact E_callS (fun _ => (by have h9 := hx.2; rw [if_neg (show ¬ 1000 ≤ a by omega)] at h9; exact h9)) (kind_spec ha.1).1 ((kind_spec ha.1).2.1 ha.2) hn hs hsum (fun _ => hd1) hM k
  · exact Eg.vac hm
theorem X_callI {i bc1 bs1 : Nat} {o : Nat} {args rest : List Value} {Q : Option Value → Mem → Prop} {q0 nx a b c w : Nat} {sp : Bool} {ki : Int32} {kl : Int64} (hr : rowAt m pc = some (q0, .invokespecial i, nx, (a, b, c, w, sp), ki, kl)) (ha : a < 215 ∧ tb_kind a = 2) (hn : args.length = b) (hs : st = args.reverse ++ .ref o :: rest) (hsum : (rest.map fun v => v.category).sum ≤ 8) (hM : EvM g d a bc1 bs1 (.ref o :: args) M Q) (k : ∀ v M1, Q v M1 → Eg g (d + 1) m bc bs Z nx ls (v.toList ++ rest) M1) : Eg g (d + 1) m (bc + bc1) (bs + bs1) Z pc ls st M := by
  by_cases hm : m < tb_n
  · obtain ⟨h1, h2⟩ := row_use hr hm
    obtain ⟨hd1, hd2⟩ := dec_of (n := 3) h1 rfl rfl
    have hx := h1
    simp only [rowOk, Bool.and_eq_true, Bool.or_eq_true, decide_eq_true_eq] at hx
    have h3 : q0 = pc := h2
    subst h3
    have h4 : nx = q0 + 3 := hd2
    subst h4
    exact E_callI (fun _ => (by have h9 := hx.2; rw [if_neg (show ¬ a = 1005 by omega)] at h9; rw [Bool.or_eq_true, decide_eq_true_eq] at h9; exact h9.resolve_left (Nat.not_le.mpr (show a < 1000 by omega)))) (kind_spec ha.1).1 ((kind_spec ha.1).2.2.2 ha.2) hn hs hsum (fun _ => hd1) hM k
  · exact Eg.vac hm
theorem X_obj {i o : Nat} {q0 nx a b c w : Nat} {sp : Bool} {ki : Int32} {kl : Int64} (hr : rowAt m pc = some (q0, .invokespecial i, nx, (1005, b, c, w, sp), ki, kl)) (hsum : (st.map fun v => v.category).sum ≤ 8) (k : Eg g (d + 1) m bc bs Z nx ls st M) : Eg g (d + 1) m bc bs Z pc ls (.ref o :: st) M := by
  by_cases hm : m < tb_n
  · obtain ⟨h1, h2⟩ := row_use hr hm
    obtain ⟨hd1, hd2⟩ := dec_of (n := 3) h1 rfl rfl
    have hx := h1
    simp only [rowOk, Bool.and_eq_true, Bool.or_eq_true, decide_eq_true_eq] at hx
    have h3 : q0 = pc := h2
    subst h3
    have h4 : nx = q0 + 3 := hd2
    subst h4
    exact E_obj (fun _ => wAt_in (by have h9 := hx.2; rw [if_pos trivial] at h9; exact h9)) ⟨inT0 (L := [Cond.instanceMethod objectInit]) (by decide +kernel) _ List.mem_cons_self, inT0 (L := [Cond.code objectInit ⟨#[0xb1]⟩ 1 none]) (by decide +kernel) _ List.mem_cons_self⟩ (fun _ => hd1) hsum k
  · exact Eg.vac hm
theorem X_new {i N n : Nat} {q0 nx a b c w : Nat} {sp : Bool} {ki : Int32} {kl : Int64} (hr : rowAt m pc = some (q0, .new i, nx, (a + 1, b, c, w, sp), ki, kl)) (ha : a < 12) (hN : ∀ q, vwCl[a]? = some q → q.2.2 = N) (k : Eg g d m bc bs Z nx ls (.ref (m_sz M) :: st) (w_new M (a + 1) n)) : Eg g d m (bc + 1) (bs + N) Z pc ls st M := by
  by_cases hm : m < tb_n
  · obtain ⟨h1, h2⟩ := row_use hr hm
    obtain ⟨hd1, hd2⟩ := dec_of (n := 3) h1 rfl rfl
    have hx := h1
    simp only [rowOk, Bool.and_eq_true, Bool.or_eq_true, decide_eq_true_eq, Nat.add_sub_cancel] at hx
    have h3 : q0 = pc := h2
    subst h3
    have h4 : nx = q0 + 3 := hd2
    subst h4
    have h5 := hx.2.resolve_left (show ¬ a + 1 = 9999 by omega)
    split at h5
    · rename_i q hq
      simp only [Bool.and_eq_true, decide_eq_true_eq] at h5
      exact E_new (q := q) (fun _ => ⟨hq, ha, wAt_in h5.1.2, wAt_in h5.2, hN q hq⟩) (fun _ => hd1) k
    · cases h5
  · exact Eg.vac hm
theorem X_newarray {t : ArrayType} {n : Int32} {N : Nat} {q0 nx a b c w : Nat} {sp : Bool} {ki : Int32} {kl : Int64} (hr : rowAt m pc = some (q0, .newarray t, nx, (a + 20, b, c, w, sp), ki, kl)) (hn : ¬ n < 0) (hN : n.toNatClampNeg = N) (hb : N ≤ 60000) (k : Eg g d m bc bs Z nx ls (.ref (m_sz M) :: st) (w_new M (a + 20) N)) : Eg g d m (bc + 1) (bs + N) Z pc ls (.int n :: st) M := by
  by_cases hm : m < tb_n
  · obtain ⟨h1, h2⟩ := row_use hr hm
    obtain ⟨hd1, hd2⟩ := dec_of (n := 2) h1 rfl rfl
    have hx := h1
    simp only [rowOk, Bool.and_eq_true, Bool.or_eq_true, decide_eq_true_eq, Nat.add_sub_cancel] at hx
    have h3 : q0 = pc := h2
    subst h3
    have h4 : nx = q0 + 2 := hd2
    subst h4
    exact E_newarray (fun _ => ⟨hx.2.1.1, by omega, wAt_in hx.2.2⟩) hn hN hb (fun _ => hd1) k
  · exact Eg.vac hm
theorem X_anewarray {i : Nat} {n : Int32} {N : Nat} {q0 nx a b c w : Nat} {sp : Bool} {ki : Int32} {kl : Int64} (hr : rowAt m pc = some (q0, .anewarray i, nx, (a + 20, b, c, w, sp), ki, kl)) (hn : ¬ n < 0) (hN : n.toNatClampNeg = N) (hb : N ≤ 60000) (k : Eg g d m bc bs Z nx ls (.ref (m_sz M) :: st) (w_new M (a + 20) N)) : Eg g d m (bc + 1) (bs + N) Z pc ls (.int n :: st) M := by
  by_cases hm : m < tb_n
  · obtain ⟨h1, h2⟩ := row_use hr hm
    obtain ⟨hd1, hd2⟩ := dec_of (n := 3) h1 rfl rfl
    have hx := h1
    simp only [rowOk, Bool.and_eq_true, Nat.add_sub_cancel] at hx
    have h3 : q0 = pc := h2
    subst h3
    have h4 : nx = q0 + 3 := hd2
    subst h4
    have h5 := hx.2
    split at h5
    · rename_i Cn hC
      simp only [Bool.and_eq_true, decide_eq_true_eq] at h5
      exact E_anewarray (fun _ => ⟨hC, by omega, by omega, wAt_in h5.2⟩) hn hN hb (fun _ => hd1) k
    · cases h5
  · exact Eg.vac hm
theorem X_tsw {x : Int32} {dflt l0 hi off : Int} {offs : Array Int} {t k0 : Nat} {q0 nx a b c w : Nat} {sp : Bool} {ki : Int32} {kl : Int64} (hr : rowAt m pc = some (q0,   .tableswitch dflt l0 hi offs, nx, (a, b, c, w, sp), ki, kl)) (hx : x.toInt = l0 + k0) (hk : l0 + k0 ≤ hi) (ho : offs[k0]? = some off) (ht : (pc : Int) + off = (t : Int)) (k : Eg g d m bc bs Z t ls st M) : Eg g d m bc bs Z pc ls (.int x :: st) M := by
  by_cases hm : m < tb_n
  · obtain ⟨h1, h2⟩ := row_use hr hm
    have h3 : q0 = pc := h2
    subst h3
    refine Eg.mk1 (fun p e R s mi ar be me cd H lo ce sl lsA C hH hl Q kk => ?_) k
    exact lv_tableIn C.ex C.cc (row_dec h1).1 (by omega) (by omega) (by rw [show (x.toInt - l0).toNat = k0 by omega]; exact ho) ht kk
  · exact Eg.vac hm
theorem X_tswD {x : Int32} {dflt lo hi : Int} {offs : Array Int} {t : Nat} {q0 nx a b c w : Nat} {sp : Bool} {ki : Int32} {kl : Int64} (hr : rowAt m pc = some (q0, .tableswitch dflt lo hi offs, nx, (a, b, c, w, sp), ki, kl)) (hx : x.toInt < lo ∨ hi < x.toInt) (ht : (pc : Int) + dflt = (t : Int)) (k : Eg g d m bc bs Z t ls st M) : Eg g d m bc bs Z pc ls (.int x :: st) M := by
  by_cases hm : m < tb_n
  · obtain ⟨h1, h2⟩ := row_use hr hm
    have h3 : q0 = pc := h2
    subst h3
    refine Eg.mk1 (fun p e R s mi ar be me cd H lo ce sl lsA C hH hl Q kk => ?_) k
    exact lv_tableOut C.ex C.cc (row_dec h1).1 hx ht kk
  · exact Eg.vac hm
theorem X_max {i : Nat} {x y : Int32} {q0 nx b c w : Nat} {sp : Bool} {ki : Int32} {kl : Int64} (hr : rowAt m pc = some (q0, .invokestatic i, nx, (1000, b, c, w, sp), ki, kl)) (hsum : (st.map fun v => v.category).sum ≤ 8) (k : Eg g (d + 1) m bc bs Z nx ls (.int (if x < y then y else x) :: st) M) : Eg g (d + 1) m bc bs Z pc ls (.int y :: .int x :: st) M := by
  by_cases hm : m < tb_n
  · obtain ⟨h1, h2⟩ := row_use hr hm
    obtain ⟨hd1, hd2⟩ := dec_of (n := 3) h1 rfl rfl
    have hx := h1
    simp only [rowOk, Bool.and_eq_true, decide_eq_true_eq] at hx
    have h3 : q0 = pc := h2
    subst h3
    have h4 : nx = q0 + 3 := hd2
    subst h4
    have h5 : Cond.methodLink (h_y m).cls i Lib.Math.max.name ∈ T0 := wAt_in (by have h9 := hx.2; rw [if_pos (show 1000 ≤ 1000 by omega)] at h9; exact h9)
    intro p e R s mi ar be me cd H lo ce sl lsA C h1 h2 h3 h4 hH hl hL
    exact va_mmax C.ex C.cc (by rw [C.ml]; exact hl.1.symm) C.ow (C.ts _ h5) (C.ts _ max_words.1) (C.ts _ max_words.2.1) (C.ts _ max_words.2.2) (by omega) (by omega) (by omega) (by omega) hd1 (k p e R s mi ar be me cd H lo ce sl lsA C h1 h2 h3 h4 hH hl hL)
  · exact Eg.vac hm
theorem X_min {i : Nat} {x y : Int32} {q0 nx b c w : Nat} {sp : Bool} {ki : Int32} {kl : Int64} (hr : rowAt m pc = some (q0, .invokestatic i, nx, (1001, b, c, w, sp), ki, kl)) (hsum : (st.map fun v => v.category).sum ≤ 8) (k : Eg g (d + 1) m bc bs Z nx ls (.int (if y < x then y else x) :: st) M) : Eg g (d + 1) m bc bs Z pc ls (.int y :: .int x :: st) M := by
  by_cases hm : m < tb_n
  · obtain ⟨h1, h2⟩ := row_use hr hm
    obtain ⟨hd1, hd2⟩ := dec_of (n := 3) h1 rfl rfl
    have hx := h1
    simp only [rowOk, Bool.and_eq_true, decide_eq_true_eq] at hx
    have h3 : q0 = pc := h2
    subst h3
    have h4 : nx = q0 + 3 := hd2
    subst h4
    have h5 : Cond.methodLink (h_y m).cls i Lib.Math.min.name ∈ T0 := wAt_in (by have h9 := hx.2; rw [if_pos (show 1000 ≤ 1001 by omega)] at h9; exact h9)
    intro p e R s mi ar be me cd H lo ce sl lsA C h1 h2 h3 h4 hH hl hL
    exact va_mmin C.ex C.cc (by rw [C.ml]; exact hl.1.symm) C.ow (C.ts _ h5) (C.ts _ min_words.1) (C.ts _ min_words.2.1) (C.ts _ min_words.2.2) (by omega) (by omega) (by omega) (by omega) hd1 (k p e R s mi ar be me cd H lo ce sl lsA C h1 h2 h3 h4 hH hl hL)
  · exact Eg.vac hm
theorem X_cV {i : Nat} {o : Nat} {args rest : List Value} {Q : Option Value → Mem → Prop} {q0 nx a b c w : Nat} {sp : Bool} {ki : Int32} {kl : Int64} (hr : rowAt m pc = some (q0, .invokevirtual i, nx, (a, b, c, w, sp), ki, kl)) (ha : a < 215 ∧ tb_kind a = 1) (ht : m_tg M o = tb_tag a) (hn : args.length = b) (hs : st = args.reverse ++ .ref o :: rest) (hsum : (rest.map fun v => v.category).sum ≤ 8) (hM : EvM g d a 0 0 (.ref o :: args) M Q) (k : ∀ v M1, Q v M1 → Eg g (d + 1) m bc bs Z nx ls (v.toList ++ rest) M1) : Eg g (d + 1) m bc bs Z pc ls st M := X_callV (bc1 := 0) (bs1 := 0) hr ha ht hn hs hsum hM k
theorem X_cS {i : Nat} {args rest : List Value} {Q : Option Value → Mem → Prop} {q0 nx a b c w : Nat} {sp : Bool} {ki : Int32} {kl : Int64} (hr : rowAt m pc = some (q0, .invokestatic i, nx, (a, b, c, w, sp), ki, kl)) (ha : a < 215 ∧ tb_kind a = 0) (hn : args.length = b) (hs : st = args.reverse ++ rest) (hsum : (rest.map fun v => v.category).sum ≤ 8) (hM : EvM g d a 0 0 args M Q) (k : ∀ v M1, Q v M1 → Eg g (d + 1) m bc bs Z nx ls (v.toList ++ rest) M1) : Eg g (d + 1) m bc bs Z pc ls st M := X_callS (bc1 := 0) (bs1 := 0) hr ha hn hs hsum hM k
theorem X_cI {i : Nat} {o : Nat} {args rest : List Value} {Q : Option Value → Mem → Prop} {q0 nx a b c w : Nat} {sp : Bool} {ki : Int32} {kl : Int64} (hr : rowAt m pc = some (q0, .invokespecial i, nx, (a, b, c, w, sp), ki, kl)) (ha : a < 215 ∧ tb_kind a = 2) (hn : args.length = b) (hs : st = args.reverse ++ .ref o :: rest) (hsum : (rest.map fun v => v.category).sum ≤ 8) (hM : EvM g d a 0 0 (.ref o :: args) M Q) (k : ∀ v M1, Q v M1 → Eg g (d + 1) m bc bs Z nx ls (v.toList ++ rest) M1) : Eg g (d + 1) m bc bs Z pc ls st M := X_callI (bc1 := 0) (bs1 := 0) hr ha hn hs hsum hM k
theorem EvM.mk {args : List Value} {Q : Option Value → Mem → Prop} (hm : m < 215) (hlen : (lg_sl args).length ≤ h_n m) (k : Eg g d m bc bs (Zr g Q) 0 (lv_args 0 args) [] M) : EvM g d m bc bs args M Q := EvM.enter (Nat.lt_of_lt_of_le hm (Nat.le_of_ble_eq_true rfl)) hm (kind_spec hm).1 hlen k
theorem EvM.mono {args : List Value} {Q Q' : Option Value → Mem → Prop} (h : EvM g d m bc bs args M Q) (hq : ∀ v M1, Q v M1 → Q' v M1) : EvM g d m bc bs args M Q' := by
  intro p e ha hc hk s mi ar be hf hp ht hk2
  obtain ⟨k, o, h1, h2, h3, ⟨v, M1, z1, z2, z3⟩, h4⟩ := h p e ha hc hk s mi ar be hf hp ht hk2
  exact ⟨k, o, h1, h2, h3, ⟨v, M1, z1, hq v M1 z2, z3⟩, h4⟩
end XS
