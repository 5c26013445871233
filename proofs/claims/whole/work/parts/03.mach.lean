/-! A small machine over a typed memory: what a method does is said by Eg (a frame within a method) and EvM (a method called); both are statements over the machine itself. -/
abbrev LsT : Type := List (Nat × Value)
abbrev Mem : Type := Nat × (Nat → Nat) × (Nat → Nat) × (Nat → Nat → Int32) × (Nat → Nat → Int64) × (Nat → Nat → Option Nat) × (Nat → Nat → Int32) × (Nat → Nat → Int64) × (Nat → Nat → Option Nat)
def m_sz (M : Mem) : Nat := M.1
def m_tg (M : Mem) : Nat → Nat := M.2.1
def m_ln (M : Mem) : Nat → Nat := M.2.2.1
def m_fi (M : Mem) : Nat → Nat → Int32 := M.2.2.2.1
def m_fl (M : Mem) : Nat → Nat → Int64 := M.2.2.2.2.1
def m_fr (M : Mem) : Nat → Nat → Option Nat := M.2.2.2.2.2.1
def m_ai (M : Mem) : Nat → Nat → Int32 := M.2.2.2.2.2.2.1
def m_al (M : Mem) : Nat → Nat → Int64 := M.2.2.2.2.2.2.2.1
def m_ar (M : Mem) : Nat → Nat → Option Nat := M.2.2.2.2.2.2.2.2
def up1 {α : Type} (f : Nat → α) (k : Nat) (v : α) : Nat → α := fun k' => if k' = k then v else f k'
def up2 {α : Type} (f : Nat → Nat → α) (k a : Nat) (v : α) : Nat → Nat → α := fun k' a' => if k' = k ∧ a' = a then v else f k' a'
def w_fi (M : Mem) (k a : Nat) (v : Int32) : Mem := (m_sz M, m_tg M, m_ln M, up2 (m_fi M) k a v, m_fl M, m_fr M, m_ai M, m_al M, m_ar M)
def w_fl (M : Mem) (k a : Nat) (v : Int64) : Mem := (m_sz M, m_tg M, m_ln M, m_fi M, up2 (m_fl M) k a v, m_fr M, m_ai M, m_al M, m_ar M)
def w_fr (M : Mem) (k a : Nat) (v : Option Nat) : Mem := (m_sz M, m_tg M, m_ln M, m_fi M, m_fl M, up2 (m_fr M) k a v, m_ai M, m_al M, m_ar M)
def w_ai (M : Mem) (k a : Nat) (v : Int32) : Mem := (m_sz M, m_tg M, m_ln M, m_fi M, m_fl M, m_fr M, up2 (m_ai M) k a v, m_al M, m_ar M)
def w_al (M : Mem) (k a : Nat) (v : Int64) : Mem := (m_sz M, m_tg M, m_ln M, m_fi M, m_fl M, m_fr M, m_ai M, up2 (m_al M) k a v, m_ar M)
def w_ar (M : Mem) (k a : Nat) (v : Option Nat) : Mem := (m_sz M, m_tg M, m_ln M, m_fi M, m_fl M, m_fr M, m_ai M, m_al M, up2 (m_ar M) k a v)
/-- a new cell: an object (its fields 0 and null), or a row of n places -/
def w_new (M : Mem) (t n : Nat) : Mem := (m_sz M + 1, up1 (m_tg M) (m_sz M) t, up1 (m_ln M) (m_sz M) n, (fun k a => if a = m_sz M then 0 else m_fi M k a), (fun k a => if a = m_sz M then 0 else m_fl M k a), (fun k a => if a = m_sz M then none else m_fr M k a), up1 (m_ai M) (m_sz M) (fun _ => 0), up1 (m_al M) (m_sz M) (fun _ => 0), up1 (m_ar M) (m_sz M) (fun _ => none))
def rget (o : Option Nat) : Nat := o.getD 0
/-- the run's own: launch, the numbers of its kinds, its rows' kinds, addresses (base, script, key words, statics), cells (script, key words, statics) -/
abbrev GG : Type := Launch × va_G × (Nat → ClassId) × (Nat × Nat × Nat × Nat) × (Cell × Cell × Cell × Heap × (Nat → Nat) × (Nat → Nat))
abbrev gL (g : GG) : Launch := g.1
abbrev gD (g : GG) : va_G := g.2.1
abbrev gA (g : GG) : Nat → ClassId := g.2.2.1
abbrev gB (g : GG) : Nat := g.2.2.2.1.1
abbrev gSa (g : GG) : Nat := g.2.2.2.1.2.1
abbrev gKa (g : GG) : Nat := g.2.2.2.1.2.2.1
abbrev gZa (g : GG) : Nat := g.2.2.2.1.2.2.2
abbrev gSc (g : GG) : Cell := g.2.2.2.2.1
abbrev gKc (g : GG) : Cell := g.2.2.2.2.2.1
abbrev gZc (g : GG) : Cell := g.2.2.2.2.2.2.1
abbrev gH (g : GG) : Heap := g.2.2.2.2.2.2.2.1
abbrev gSk (g : GG) : Nat → Nat := g.2.2.2.2.2.2.2.2.1
abbrev gSv (g : GG) : Nat → Nat := g.2.2.2.2.2.2.2.2.2
def srt (k : Nat) : Nat := cond (tb_ref.elem k) 2 (cond (tb_long.elem k) 1 (cond (tb_bool.elem k) 3 0))
def fv (M : Mem) (k a : Nat) : Value := match srt k with
  | 2 => va_rf (m_fr M k a)
  | 1 => .long (m_fl M k a)
  | _ => .int (m_fi M k a)
def av (M : Mem) (t a : Nat) (i : Nat) : Value := match t with
  | 1 => .long (m_al M a i)
  | 3 => va_rf (m_ar M a i)
  | 4 => va_rf (m_ar M a i)
  | 5 => va_rf (m_ar M a i)
  | _ => .int (m_ai M a i)
def tyA : Nat → FieldType
  | 0 => .int
  | 1 => .long
  | 2 => .byte
  | 3 => .object RX4
  | 4 => .object RX2
  | _ => .object RX5
def tysOf (g : GG) : List (ClassId × FieldType) := [(gA g 0, tyA 0), (gA g 1, tyA 1), (gA g 2, tyA 2), (gA g 3, tyA 3), (gA g 4, tyA 4), (gA g 5, tyA 5)]
def isNest : Cond → Bool
  | .fieldLinkNest _ _ _ _ _ _ => true
  | .methodLinkNest _ _ _ _ => true
  | _ => false
def T0 : List Cond := lw_tbl.filter goodWord
def TN : List Cond := lw_tbl.filter isNest
def isDecl (w : Cond) : Bool := w.faceAtom && w.onTables
def TD : List Cond := lw_tbl.filter isDecl
/-- the texts that the desk throws, by their places in its pool -/
def strL : List (Nat × String) := [(70, "the tape is full"), (84, "the tape has no such length"), (111, "nothing such is counted"), (143, "no such party, or nothing such of it"), (185, "no such money, or nothing such of it"), (205, "no such money"), (207, "no such rate"), (209, "no such party or money"), (218, "no such amount"), (224, "the balance is too small"), (227, "there is not so much to move"), (232, "there would be no room"), (237, "no such payment, or nothing such of it"), (275, "no such payment"), (277, "the payment does not wait"), (279, "no such number of days"), (290, "no such number of hours"), (298, "nothing such of a run"), (334, "no such day"), (359, "no such place on the paper")]
/-- the texts that the reference turns into numbers: place in its pool, text, bytes -/
def strM : List (Nat × String × List Int32) := [(20, "party", [112, 97, 114, 116, 121]), (26, "line", [108, 105, 110, 101]), (28, "money", [109, 111, 110, 101, 121]), (30, "rate", [114, 97, 116, 101]), (32, "cut", [99, 117, 116]), (34, "pay", [112, 97, 121]), (36, "to", [116, 111]), (38, "on", [111, 110]), (40, "for", [102, 111, 114]), (42, "hold", [104, 111, 108, 100]), (44, "cancel", [99, 97, 110, 99, 101, 108])]
def smL : List Nat := strM.map fun q => q.2.2.length
def smB : List (List Int32) := strM.map fun q => q.2.2
def smK (i : Nat) : Nat := (strM.map fun q => q.1).getD i 0
def smT (i : Nat) : String := (strM.map fun q => q.2.1).getD i ""
def ncL : List (String × String) := [("java/lang/IllegalStateException", "java/lang/IllegalArgumentException"), ("java/lang/IllegalStateException", "java/lang/IndexOutOfBoundsException"), ("java/lang/IllegalArgumentException", "java/lang/IllegalStateException"), ("java/lang/IllegalArgumentException", "java/lang/IndexOutOfBoundsException"), ("java/lang/IndexOutOfBoundsException", "java/lang/IllegalStateException"), ("java/lang/IndexOutOfBoundsException", "java/lang/IllegalArgumentException")]
/-- classes that are not castable, the reference's texts, the statics that String reads -/
def Wx (g : GG) (s : State) : Prop :=
  (∀ q ∈ ncL, va_Nc q.1 q.2 s) ∧ ((∀ i, i < 11 → vk_R RX11 (smK i) (smT i) (gSk g i) s) ∧ vk_S 11 smL smB (gSk g) (gSv g) (fun a => gB g ≤ a) s (gH g)) ∧
  va_Z "java/lang/String" "COMPACT_STRINGS" "Z" (.int 1) (fun a => gB g ≤ a) s (gH g) ∧ va_Zq "jdk/internal/util/Preconditions" "SIOOBE_FORMATTER" "Ljava/util/function/BiFunction;" (fun a => gB g ≤ a) s (gH g)
theorem Wx.moved {g : GG} {s U : State} (hW : s.WarmedH U.vm) (h : Wx g s) : Wx g U := by
  obtain ⟨h1, ⟨h2, h3⟩, h4, h5⟩ := h
  have hvm := hW.alike
  exact ⟨fun q hq => va_Nc.moved hvm (h1 q hq), ⟨fun i hi => vk_R.warm hW (h2 i hi), vk_S.moved hvm h3⟩, va_Z.moved hvm h4, va_Zq.moved hvm h5⟩
/-- what the tables say, wherever a method begins -/
def Wd (g : GG) (s : State) : Prop :=
  va_K (gD g) vwCl (tysOf g) s ∧ (∀ w ∈ TN, va_Nw w s) ∧ (va_AO RX4 s ∧ va_AO RX2 s ∧ va_AO RX5 s ∧ (gL g).stackTraces = false ∧ vx_Zq Bundle.tN "UNASSIGNED_STACK" Bundle.steD (fun a => gB g ≤ a) s (gH g) ∧ vx_Zq Bundle.tN "SUPPRESSED_SENTINEL" Bundle.listD (fun a => gB g ≤ a) s (gH g) ∧ (∀ q ∈ strL, ∃ a, vk_R RX9 q.1 q.2 a s) ∧ (∀ w ∈ TD, w.before #[] s = true) ∧ Wx g s) ∧ s.isArrayOf (gSc g) .int ∧ s.isArrayOf (gKc g) .long ∧
  ∃ (cf : ClassId) (kf : Class) (fi : Nat) (f : Field), s.fieldFound? "NettingDesk" "KEYWORDS" "[J" = some (cf, kf, fi, f) ∧ f.isStatic = true ∧ kf.init = .initialized ∧ kf.statics = some (gZa g) ∧ (gZc g).slots[f.slot]? = some (.ref (gKa g))
/-- the heap holds the memory -/
def HRo (g : GG) (M : Mem) (H : Heap) : Prop := ∀ a ci, m_tg M a = ci + 1 → ci < 12 → gB g ≤ a ∧ ∃ r : vw_C, vwCl[ci]? = some r ∧ t_OB a ((gD g).1 ci) r.2.2 ((gD g).2 ci) H (fun k => fv M (32 * ci + k) a)
def HRa (g : GG) (M : Mem) (H : Heap) : Prop := ∀ a t, m_tg M a = t + 20 → t < 6 → gB g ≤ a ∧ m_ln M a < 2 ^ 31 ∧ H[a]? = some (arrV (gA g t) (m_ln M a) (av M t a))
def HRs (g : GG) (M : Mem) (H : Heap) : Prop :=
  (∀ a, m_tg M a = 40 → a = gSa g ∧ (gSc g).vm ≠ .unknown ∧ (gSc g).slots.size = m_ln M a ∧ m_ln M a < 2 ^ 31 ∧ ∀ j : Nat, j < m_ln M a → (gSc g).slots[j]? = some (.int (m_ai M a j))) ∧
  (∀ a, m_tg M a = 41 → a = gKa g ∧ (gKc g).vm ≠ .unknown ∧ (m_ln M a ≤ (gKc g).slots.size ∧ (gKc g).slots.size.toInt32 = nI (m_ln M a)) ∧ m_ln M a < 2 ^ 31 ∧ ∀ j : Nat, j < m_ln M a → (gKc g).slots[j]? = some (.long (m_al M a j))) ∧
  (gSa g < gB g ∧ gKa g < gB g ∧ gZa g < gB g ∧ ∀ a : Nat, a < gB g → H[a]? = (gH g)[a]?) ∧ H[gSa g]? = some (gSc g) ∧ H[gKa g]? = some (gKc g) ∧ H[gZa g]? = some (gZc g) ∧ (gZc g).vm.isStatics = true
def HR (g : GG) (M : Mem) (H : Heap) : Prop := (H.size = m_sz M ∧ gB g ≤ m_sz M ∧ ∀ a, m_sz M ≤ a → m_tg M a = 0) ∧ HRo g M H ∧ HRa g M H ∧ HRs g M H
theorem decl_moved {w : Cond} {s U : State} (hd : isDecl w = true) (hvm : s.vm.Alike U.vm) (h : w.before #[] s = true) : w.before #[] U = true := by
  unfold isDecl at hd
  rw [Bool.and_eq_true] at hd
  exact va_tabs (c := w) hd.2 (u := s.setVm U.vm) (U := U) rfl (Cond.faceAtom_setVm hvm w hd.1 h)
theorem Wd.moved {g : GG} {s U : State} (hW : s.WarmedH U.vm) (h : Wd g s) : Wd g U := by
  obtain ⟨h1, h2, ⟨h3, h4, h5, i1, i2, i3, i4, i5, i6⟩, h6, h7, cf, kf, fi, f, h8, h9, h10, h11, h12⟩ := h
  have hvm := hW.alike
  refine ⟨va_K.moved hvm h1, fun w hw => ?_, ⟨va_AO.moved hvm h3, va_AO.moved hvm h4, va_AO.moved hvm h5, i1, vx_Zq.moved hvm i2, vx_Zq.moved hvm i3, fun q hq => (i4 q hq).elim (fun a z => ⟨a, vk_R.warm hW z⟩), fun w hw => decl_moved (List.mem_filter.mp hw).2 hvm (i5 w hw), Wx.moved hW i6⟩, State.isArrayOf_alike hvm h6, State.isArrayOf_alike hvm h7, ?_⟩
  · have hn : isNest w = true := (List.mem_filter.mp hw).2
    have hz := h2 w hw
    cases w <;> first | exact va_Nw.warmF hW hz | exact va_Nw.warmM hW hz | (simp [isNest] at hn)
  · obtain ⟨k', hi', he⟩ := State.fieldFound?_setVm hvm h8
    exact ⟨cf, k', fi, f, hi', h9, by rw [he]; exact h10, by rw [he]; exact h11, h12⟩
theorem HR.of_heap {g : GG} {M : Mem} {H H' : Heap} (h : HR g M H) (e : H' = H) : HR g M H' := e ▸ h
/-! the tables' rows -/
abbrev r_pc (r : RowT) : Nat := r.1
abbrev r_in (r : RowT) : Instr := r.2.1
abbrev r_nx (r : RowT) : Nat := r.2.2.1
abbrev r_a (r : RowT) : Nat := r.2.2.2.1.1
abbrev r_b (r : RowT) : Nat := r.2.2.2.1.2.1
abbrev r_c (r : RowT) : Nat := r.2.2.2.1.2.2.1
abbrev r_w (r : RowT) : Nat := r.2.2.2.1.2.2.2.1
abbrev r_s (r : RowT) : Bool := r.2.2.2.1.2.2.2.2
abbrev r_i (r : RowT) : Int32 := r.2.2.2.2.1
abbrev r_l (r : RowT) : Int64 := r.2.2.2.2.2
abbrev h_y (m : Nat) : MethodName := (tb_head m).1
abbrev h_c (m : Nat) : ByteArray := (tb_head m).2.1
abbrev h_n (m : Nat) : Nat := (tb_head m).2.2.1
abbrev h_r (m : Nat) : Option FieldType := (tb_head m).2.2.2
def hostOf (own : String) : String := cond (decide (own = RX10 ∨ own = RX11)) "NettingDeskModel" "NettingDesk"
def wAt (i : Nat) (w : Cond) : Bool := decide (lw_tbl[i]? = some w) && goodWord w
def nAt (i : Nat) (w : Cond) : Bool := decide (lw_tbl[i]? = some w) && isNest w
theorem wAt_in {i : Nat} {w : Cond} (h : wAt i w = true) : w ∈ T0 := by
  simp only [wAt, Bool.and_eq_true, decide_eq_true_eq] at h
  exact List.mem_filter.mpr ⟨List.mem_of_getElem? h.1, h.2⟩
theorem nAt_in {i : Nat} {w : Cond} (h : nAt i w = true) : w ∈ TN := by
  simp only [nAt, Bool.and_eq_true, decide_eq_true_eq] at h
  exact List.mem_filter.mpr ⟨List.mem_of_getElem? h.1, h.2⟩
/-- a field's row: key a = 32 * ci + k, b = ci + 1, c = sort + 10 (nest) + 20 (final) -/
def fldOk (y : MethodName) (i a b c w : Nat) (put : Bool) : Bool :=
  match vwCl[b - 1]? with
  | some q =>
    decide (1 ≤ b ∧ 32 * (b - 1) ≤ a ∧ a - 32 * (b - 1) < q.2.2 ∧ c % 10 = srt a ∧ b ≤ 12) &&
    (if (c / 10) % 2 = 1 then nAt w (.fieldLinkNest y.cls i (q.2.1 (a - 32 * (b - 1))).1 (q.2.1 (a - 32 * (b - 1))).2.1 (q.2.1 (a - 32 * (b - 1))).2.2.1 (hostOf y.cls))
      else wAt w (.fieldLink y.cls i (q.2.1 (a - 32 * (b - 1))).1 (q.2.1 (a - 32 * (b - 1))).2.1 (q.2.1 (a - 32 * (b - 1))).2.2.1)) &&
    (!put || (decide ((q.2.1 (a - 32 * (b - 1))).2.2.2 = decide (20 ≤ c)) && (decide (c < 20) || decide ((c / 10) % 2 = 0 ∧ y.name = "<init>" ∧ (q.2.1 (a - 32 * (b - 1))).1 = y.cls))))
  | none => false
/-- a method's own words -/
def headOk (m : Nat) : Bool := decide (h_n m ≤ 40) && wAt (tb_w m).2.1 (.initialized (h_y m).cls) && decide ((h_y m).cls ≠ "java/lang/invoke/MethodHandle" ∧ (h_y m).cls ≠ "java/lang/invoke/VarHandle") && plainName (h_y m).cls
def virtOk (m : Nat) : Bool := wAt (tb_w m).2.2.1 (.instanceMethod (h_y m)) && wAt (tb_w m).2.2.2 (.selects (h_y m).cls (h_y m) (h_y m)) && (match vwCl[tb_tag m - 1]? with | some q => decide (q.1 = (h_y m).cls ∧ 1 ≤ tb_tag m ∧ tb_tag m ≤ 12) | none => false)
def statOk (m : Nat) : Bool := wAt (tb_w m).2.2.1 (.static (h_y m))
def initOk (m : Nat) : Bool := wAt (tb_w m).2.2.1 (.instanceMethod (h_y m)) && decide ((h_y m).name = "<init>" ∧ h_r m = none)
def kindOk (m : Nat) : Bool := headOk m && (match tb_kind m with | 0 => statOk m | 1 => virtOk m | _ => initOk m)
/-- a call's row: a the method, b how many arguments, c 1 for a nest mate's -/
def linkOk (y : MethodName) (i a b c w : Nat) : Bool := (if c = 1 then nAt w (.methodLinkNest y.cls i (h_y a) (hostOf y.cls)) else wAt w (.methodLink y.cls i (h_y a))) && decide ((parseMethodDescriptor (h_y a).desc).map (fun d => d.parameters.length) = some b)
def lenOf (i : Instr) : Nat := match i with
  | .iload _ => 2 | .lload _ => 2 | .aload _ => 2 | .istore _ => 2 | .lstore _ => 2 | .astore _ => 2 | .dload _ => 2 | .dstore _ => 2 | .bipush _ => 2 | .ldc _ => 2 | .newarray _ => 2
  | .sipush _ => 3 | .ldc_w _ => 3 | .ldc2_w _ => 3 | .iinc _ _ => 3 | .getfield _ => 3 | .putfield _ => 3 | .getstatic _ => 3 | .invokevirtual _ => 3 | .invokestatic _ => 3 | .invokespecial _ => 3 | .new _ => 3 | .anewarray _ => 3
  | .ifCond _ _ => 3 | .if_icmp _ _ => 3 | .goto _ => 3 | .ifnull _ => 3 | .ifnonnull _ => 3
  | _ => 1
def lenOk (r : RowT) : Bool := match r_in r with
  | .tableswitch _ _ _ _ => true
  | .iinc _ _ => Nat.beq (r_nx r) (r_pc r + 3) || Nat.beq (r_nx r) (r_pc r + 6)
  | i => Nat.beq (r_nx r) (r_pc r + lenOf i)
def linkX (own : String) (i a w : Nat) : Bool := match a with
  | 1000 => wAt w (.methodLink own i Lib.Math.max.name)
  | 1001 => wAt w (.methodLink own i Lib.Math.min.name)
  | 1002 => wAt w (.methodLink own i arraycopyName)
  | _ => true
def rowOk (m : Nat) (r : RowT) : Bool :=
  decide (decode (h_c m) (r_pc r) = .ok (r_in r, r_nx r - r_pc r) ∧ r_pc r ≤ r_nx r) && lenOk r &&
  match r_in r with
  | .iconst n => decide (Int32.ofInt n = r_i r)
  | .bipush n => decide ((Int8.ofInt n).toInt32 = r_i r)
  | .sipush n => decide ((Int16.ofInt n).toInt32 = r_i r)
  | .lconst n => decide (Int64.ofNat (n : Nat) = r_l r)
  | .ldc i => decide (r_c r = 0) || decide (r_c r = 1) && wAt (r_w r) (.constant (h_y m).cls i (r_i r))
  | .ldc_w i => decide (r_c r = 0) || wAt (r_w r) (.constant (h_y m).cls i (r_i r))
  | .ldc2_w i => decide (r_c r = 0) || wAt (r_w r) (.constantLong (h_y m).cls i (r_l r))
  | .iload_n k => decide ((k : Nat) = r_a r)
  | .lload_n k => decide ((k : Nat) = r_a r)
  | .aload_n k => decide ((k : Nat) = r_a r)
  | .istore_n k => decide ((k : Nat) = r_a r ∧ r_a r < h_n m)
  | .lstore_n k => decide ((k : Nat) = r_a r ∧ r_a r + 1 < h_n m)
  | .astore_n k => decide ((k : Nat) = r_a r ∧ r_a r < h_n m)
  | .iload k => decide (k = r_a r)
  | .lload k => decide (k = r_a r)
  | .aload k => decide (k = r_a r)
  | .istore k => decide (k = r_a r ∧ r_a r < h_n m)
  | .lstore k => decide (k = r_a r ∧ r_a r + 1 < h_n m)
  | .astore k => decide (k = r_a r ∧ r_a r < h_n m)
  | .iinc k n => decide (k = r_a r ∧ Int32.ofInt n = r_i r ∧ r_a r < h_n m)
  | .goto o => decide ((r_pc r : Int) + o = (r_a r : Int))
  | .ifCond _ o => decide ((r_pc r : Int) + o = (r_a r : Int))
  | .if_icmp _ o => decide ((r_pc r : Int) + o = (r_a r : Int))
  | .ifnull o => decide ((r_pc r : Int) + o = (r_a r : Int))
  | .ifnonnull o => decide ((r_pc r : Int) + o = (r_a r : Int))
  | .getfield i => fldOk (h_y m) i (r_a r) (r_b r) (r_c r) (r_w r) false
  | .putfield i => fldOk (h_y m) i (r_a r) (r_b r) (r_c r) (r_w r) true
  | .getstatic i => nAt (r_w r) (.fieldLinkNest (h_y m).cls i "NettingDesk" "KEYWORDS" "[J" "NettingDesk")
  | .invokevirtual i => if 1000 ≤ r_a r then true else linkOk (h_y m) i (r_a r) (r_b r) (r_c r) (r_w r)
  | .invokestatic i => if 1000 ≤ r_a r then linkX (h_y m).cls i (r_a r) (r_w r) else linkOk (h_y m) i (r_a r) (r_b r) (r_c r) (r_w r)
  | .invokespecial i => if r_a r = 1005 then wAt (r_w r) (.methodLink (h_y m).cls i objectInit) else decide (1000 ≤ r_a r) || linkOk (h_y m) i (r_a r) (r_b r) (r_c r) (r_w r)
  | .new i => decide (r_a r = 9999) || (match vwCl[r_a r - 1]? with | some q => decide (1 ≤ r_a r ∧ r_a r ≤ 12) && wAt (r_w r) (.classLink (h_y m).cls i q.1) && wAt (r_b r) (.instantiable q.1 q.2.2) | none => false)
  | .newarray t => decide (newarray.typeOf t = tyA (r_a r - 20) ∧ 20 ≤ r_a r ∧ r_a r < 23) && wAt (r_w r) (.arrayClass (newarray.typeOf t))
  | .anewarray i => (match tyA (r_a r - 20) with | .object C => decide (23 ≤ r_a r ∧ r_a r < 26) && wAt (r_w r) (.classLink (h_y m).cls i C) | _ => false)
  | _ => true
