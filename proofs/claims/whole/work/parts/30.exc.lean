/-! methods that may throw -/
def XCg (g : GG) (XQ : String → Mem → Prop) : String → State → State → Prop := fun E _ t => ∃ M1, XQ E M1 ∧ HR g M1 t.heap
def Zx (g : GG) (Q : Option Value → Mem → Prop) (XQ : String → Mem → Prop) : ZT := fun below args s mc ms => vx_MQ below (QQ g Q) (XCg g XQ) args s mc ms (fun q => gB g ≤ q)
def EvX (g : GG) (d m bc bs : Nat) (args : List Value) (M : Mem) (Q : Option Value → Mem → Prop) (XQ : String → Mem → Prop) : Prop :=
  vx_Met (gL g) (h_y m) (Cond.code (h_y m) (h_c m) (h_n m) (h_r m) :: T0) (rmD d bc bs) (EPc g args M) (QQ g Q) (XCg g XQ) bc bs (fun q => gB g ≤ q)
/-- memory behind a throw: k cells more, of no kind -/
def w_opq (M : Mem) (k : Nat) : Mem := (m_sz M + k, M.2)
theorem HR.opq {g : GG} {M : Mem} {H H1 : Heap} (h : HR g M H) {k : Nat} (z : H1.size = H.size + k) (oq : ∀ q : Nat, q < H.size → H1[q]? = H[q]?) : HR g (w_opq M k) H1 := by
  obtain ⟨⟨s1, s2, s3⟩, ho, ha, hs1, hs2, ⟨b1, b2, b3, b4⟩, hs3, hs4, hs5, hs6⟩ := h
  have hne : ∀ x, m_tg M x ≠ 0 → x < H.size := fun x hx => by
    rw [s1]
    exact Nat.lt_of_not_le (fun z => hx (s3 _ z))
  refine ⟨⟨by rw [z, s1]; rfl, Nat.le_trans s2 (Nat.le_add_right _ _), fun x hx => s3 x (Nat.le_trans (Nat.le_add_right _ _) hx)⟩, fun x cx hx hcx => ?_, fun x u hx hux => ?_, hs1, hs2, ⟨b1, b2, b3, fun a hb => (oq _ (by omega)).trans (b4 a hb)⟩, ?_, ?_, ?_, hs6⟩
  · obtain ⟨z1, r, hr, cx', q1, q2, q3, q4⟩ := ho x cx hx hcx
    exact ⟨z1, r, hr, cx', by rw [oq x (hne x (by have : m_tg M x = cx + 1 := hx; omega))]; exact q1, q2, q3, q4⟩
  · obtain ⟨z1, z2, z3⟩ := ha x u hx hux
    exact ⟨z1, z2, by rw [oq x (hne x (by have : m_tg M x = u + 20 := hx; omega))]; exact z3⟩
  · rw [oq _ (by omega)]; exact hs3
  · rw [oq _ (by omega)]; exact hs4
  · rw [oq _ (by omega)]; exact hs5
def thr : List (Nat × Nat × String) := [(68, 72, "java/lang/IllegalStateException"), (82, 86, "java/lang/IllegalArgumentException"), (109, 113, "java/lang/IndexOutOfBoundsException")]
def thrN : List String := ["java/lang/RuntimeException", "java/lang/Exception"]
theorem thr_in : ∀ q ∈ thr, (Cond.classLink RX9 q.1 q.2.2 ∈ lw_tbl ∧ Cond.initialized q.2.2 ∈ lw_tbl) ∧ ∀ w ∈ vx_atS RX9 q.2.1 q.2.2 thrN, w ∈ lw_tbl := by decide +kernel
theorem thr_good : ∀ q ∈ thr, (goodWord (Cond.classLink RX9 q.1 q.2.2) = true ∧ goodWord (Cond.initialized q.2.2) = true) ∧ ∀ w ∈ vx_atS RX9 q.2.1 q.2.2 thrN, vx_ot w = true ∧ (goodWord w || isDecl w) = true := by decide +kernel
theorem thr_fit : ∀ q ∈ thr, Bundle.fit q.2.2 = true := by decide +kernel
theorem thrN_fit : ∀ n ∈ thrN, Bundle.fit n = true := by decide +kernel
section EXC
variable {g : GG} {d m bc bs pc : Nat} {ls : LsT} {st : List Value} {M : Mem} {Q : Option Value → Mem → Prop} {XQ : String → Mem → Prop}
theorem Eg.zx (k : Eg g d m bc bs (Zr g Q) pc ls st M) : Eg g d m bc bs (Zx g Q XQ) pc ls st M := fun p e R s mi ar be me cd H lo ce sl lsA C h1 h2 h3 h4 hH hl hL => vx_ret (k p e R s mi ar be me cd H lo ce sl lsA C h1 h2 h3 h4 hH hl hL)
theorem EvX.mk {args : List Value} (hm : m < 215) (hlen : (lg_sl args).length ≤ h_n m) (k : Eg g d m bc bs (Zx g Q XQ) 0 (lv_args 0 args) [] M) : EvX g d m bc bs args M Q XQ := by
  have hh := (kind_spec hm).1
  refine vx_ofW (cc := h_c m) (maxL := h_n m) (ret := h_r m) (head_spec hh).2.2.2.2 rfl ?_
  intro p e s mi ar be me cd s₁ B hml hte hv
  obtain ⟨rfl, hW, hH⟩ := hv
  have hts := atoms_spec (ws := Cond.code (h_y m) (h_c m) (h_n m) (h_r m) :: T0) B.pre
  have C : Cx g m p s mi args.toArray me cd := ⟨Nat.lt_of_lt_of_le hm (Nat.le_of_ble_eq_true rfl), B.exec, B.bytes, B.returns, ⟨B.notSynchronized, by rw [tb_hh_lo hm]; exact List.eq_nil_iff_forall_not_mem.mpr hte, _, hH⟩, hml, findClass_of_methodNamed B.named, fun w hw => hts w (List.mem_cons_of_mem _ hw), (name_of_methodNamed B.named B.method).1, hW⟩
  have hl := lv_entry args (n := h_n m) hlen
  rw [lg_entry_eq]
  exact k p e _ s mi args.toArray be me cd s.heap [] 0 0 _ C (Nat.le_refl _) (Nat.le_refl _) (by simp [headSpec]) (by simp [headSpec]) hH hl (fun q hq => by cases hq)
end EXC
