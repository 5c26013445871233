section EVS
variable {g : GG} {d m bc bs pc : Nat} {Z : ZT} {ls : LsT} {st : List Value} {M : Mem}
theorem cls_init : ∀ (ci : Nat) (q : vw_C), vwCl[ci]? = some q → Cond.initialized q.1 ∈ T0 :=
  cls_cases (P := fun ci q => Cond.initialized q.1 ∈ T0) (inT0 (L := [Cond.initialized RX0]) (by decide +kernel) _ List.mem_cons_self) (inT0 (L := [Cond.initialized RX1]) (by decide +kernel) _ List.mem_cons_self) (inT0 (L := [Cond.initialized RX2]) (by decide +kernel) _ List.mem_cons_self) (inT0 (L := [Cond.initialized RX3]) (by decide +kernel) _ List.mem_cons_self) (inT0 (L := [Cond.initialized RX4]) (by decide +kernel) _ List.mem_cons_self) (inT0 (L := [Cond.initialized RX5]) (by decide +kernel) _ List.mem_cons_self) (inT0 (L := [Cond.initialized RX6]) (by decide +kernel) _ List.mem_cons_self) (inT0 (L := [Cond.initialized RX7]) (by decide +kernel) _ List.mem_cons_self) (inT0 (L := [Cond.initialized RX8]) (by decide +kernel) _ List.mem_cons_self) (inT0 (L := [Cond.initialized RX9]) (by decide +kernel) _ List.mem_cons_self) (inT0 (L := [Cond.initialized RX10]) (by decide +kernel) _ List.mem_cons_self) (inT0 (L := [Cond.initialized RX11]) (by decide +kernel) _ List.mem_cons_self)
theorem sort_new {ty : FieldType} {k a t n : Nat} (h : sortFits ty (srt k) = true) (ha : a = m_sz M) : defaultValue ty = fv (w_new M t n) k a := by
  subst ha
  cases ty <;> simp only [sortFits, Nat.beq_eq] at h <;> first | (cases h; done) | (simp [fv, h, defaultValue, w_new, m_fi, m_fl, m_fr, va_rf, m_sz])
theorem E_new {i a n : Nat} {q : vw_C} {N : Nat} (hq : m < tb_n → vwCl[a]? = some q ∧ a < 12 ∧ Cond.classLink (h_y m).cls i q.1 ∈ T0 ∧ Cond.instantiable q.1 q.2.2 ∈ T0 ∧ q.2.2 = N) (hd : m < tb_n → decode (h_c m) pc = .ok (.new i, 3)) (k : Eg g d m bc bs Z (pc + 3) ls (.ref (m_sz M) :: st) (w_new M (a + 1) n)) : Eg g d m (bc + 1) (bs + N) Z pc ls st M := by
  intro p e R s mi ar be me cd H lo ce sl lsA C h1 h2 h3 h4 hH hl hL
  obtain ⟨hq', ha, hw1, hw2, hN⟩ := hq C.lt
  subst hN
  have hq := hq'
  have hKn := C.wd.k.1 a q hq
  refine W.newcK C.ex C.cc C.ow (C.ts _ hw1) (C.ts _ hw2) (C.ts _ (cls_init a q hq)) rfl (hd C.lt) (by omega) (by omega) hKn.2.1 rfl fun H1 kC hkC e1 z1 o1 => ?_
  have hs : H.size = m_sz M := hH.1.1
  rw [hs]
  refine k p e R s mi ar be me cd H1 lo (ce + 1) (sl + q.2.2) lsA C h1 h2 (by omega) (by omega) (hH.push z1 o1 (fun ci hci hc => ?_) (fun u hu huu => by omega) (by omega) (by omega)) hl hL
  have hca : ci = a := by omega
  subst hca
  refine ⟨q, hq, ?_⟩
  rw [hs] at e1
  exact (u_born (tyC ci) C.ts (cls_in ci q hq) hKn hkC e1 (cls_ty ci q hq)).to (fun j hj => sort_new (cls_srt ci q hq j hj) rfl)
theorem E_newarray {t : ArrayType} {a : Nat} {n : Int32} {N : Nat} (hq : m < tb_n → newarray.typeOf t = tyA a ∧ a < 3 ∧ Cond.arrayClass (newarray.typeOf t) ∈ T0) (hn : ¬ n < 0) (hN : n.toNatClampNeg = N) (hb : N ≤ 60000) (hd : m < tb_n → decode (h_c m) pc = .ok (.newarray t, 2)) (k : Eg g d m bc bs Z (pc + 2) ls (.ref (m_sz M) :: st) (w_new M (a + 20) N)) : Eg g d m (bc + 1) (bs + N) Z pc ls (.int n :: st) M := by
  intro p e R s mi ar be me cd H lo ce sl lsA C h1 h2 h3 h4 hH hl hL
  obtain ⟨hty, ha, hw⟩ := hq C.lt
  have hcb : N * componentBytes (newarray.typeOf t) ≤ 536870912 := by
    have : componentBytes (newarray.typeOf t) ≤ 8 := by cases t <;> decide
    have := Nat.mul_le_mul hb this
    omega
  refine va_newaK C.ex C.cc (C.ts _ hw) rfl (hd C.lt) rfl hn hN hcb (by omega) (by omega) rfl fun H1 cA e1 z1 o1 hAr hNm => ?_
  have hs : H.size = m_sz M := hH.1.1
  rw [hs]
  rw [hs] at e1
  refine k p e R s mi ar be me cd H1 lo (ce + 1) (sl + N) lsA C h1 h2 (by omega) (by omega) (hH.push z1 o1 (fun ci hci hc => by omega) (fun u hu huu => ?_) (by omega) (by omega)) hl hL
  have hca : u = a := by omega
  subst hca
  refine ⟨by omega, ?_⟩
  rw [hty] at hNm e1
  rcases (show u = 0 ∨ u = 1 ∨ u = 2 by omega) with rfl | rfl | rfl
  · have hg : s.vm.findClass ("[" ++ (tyA 0).toString) = some (gA g 0) := (C.wd.k.2 0 _ rfl).2
    cases hNm.symm.trans hg
    rw [e1]
    congr 2
    funext j
    simp [av, w_new, m_ai, up1, tyA, defaultValue, m_sz]
  · have hg : s.vm.findClass ("[" ++ (tyA 1).toString) = some (gA g 1) := (C.wd.k.2 1 _ rfl).2
    cases hNm.symm.trans hg
    rw [e1]
    congr 2
    funext j
    simp [av, w_new, m_al, up1, tyA, defaultValue, m_sz]
  · have hg : s.vm.findClass ("[" ++ (tyA 2).toString) = some (gA g 2) := (C.wd.k.2 2 _ rfl).2
    cases hNm.symm.trans hg
    rw [e1]
    congr 2
    funext j
    simp [av, w_new, m_ai, up1, tyA, defaultValue, m_sz]
theorem E_anewarray {i a : Nat} {n : Int32} {N : Nat} {Cn : String} (hq : m < tb_n → tyA a = .object Cn ∧ 3 ≤ a ∧ a < 6 ∧ Cond.classLink (h_y m).cls i Cn ∈ T0) (hn : ¬ n < 0) (hN : n.toNatClampNeg = N) (hb : N ≤ 60000) (hd : m < tb_n → decode (h_c m) pc = .ok (.anewarray i, 3)) (k : Eg g d m bc bs Z (pc + 3) ls (.ref (m_sz M) :: st) (w_new M (a + 20) N)) : Eg g d m (bc + 1) (bs + N) Z pc ls (.int n :: st) M := by
  intro p e R s mi ar be me cd H lo ce sl lsA C h1 h2 h3 h4 hH hl hL
  obtain ⟨hty, ha3, ha, hw⟩ := hq C.lt
  subst hN
  have hs : H.size = m_sz M := hH.1.1
  have key : ∀ (hover : va_AO Cn s) (hh : ∃ (kA : Class) (comp : ClassId), s.vm.classes[gA g a]? = some kA ∧ kA.kind = .array comp (.object Cn) ∧ s.vm.findClass Cn = some comp ∧ s.vm.findClass ("[" ++ (FieldType.object Cn).toString) = some (gA g a)), W p (gL g) e R s mi ar be me cd H lo ce sl (Z be ar s R.cells R.slots) (F0 mi pc lsA (.int n :: st)) := by
    intro hover hhh
    obtain ⟨kA', comp', -, -, -, hg⟩ := hhh
    refine W.anew C.ex C.cc C.ow (C.ts _ hw) (va_AO.use hover) rfl (hd C.lt) rfl hn (by omega) (by omega) (by omega) fun cA kA comp f1 f2 f3 f4 => ?_
    cases f1.symm.trans hg
    generalize hH1 : H.push ({ cls := gA g a, slots := Array.replicate n.toNatClampNeg .null, vm := .none } : Cell) = H1
    have z1 : H1.size = H.size + 1 := by rw [← hH1, Array.size_push]
    have e1 : H1[H.size]? = some (arrV (gA g a) n.toNatClampNeg (fun _ => .null)) := by rw [← hH1, Array.getElem?_push_size, ← arrV_new]
    have o1 : ∀ q : Nat, q < H.size → H1[q]? = H[q]? := fun q hq => by rw [← hH1, Array.getElem?_push, if_neg (Nat.ne_of_lt hq)]
    rw [hs]
    rw [hs] at e1
    refine k p e R s mi ar be me cd H1 lo (ce + 1) (sl + n.toNatClampNeg) lsA C h1 h2 (by omega) (by omega) (hH.push z1 o1 (fun ci hci hc => by omega) (fun u hu huu => ?_) (by omega) (by omega)) hl hL
    have hca : u = a := by omega
    subst hca
    refine ⟨by omega, ?_⟩
    rw [e1]
    congr 2
    funext j
    rcases (show u = 3 ∨ u = 4 ∨ u = 5 by omega) with rfl | rfl | rfl <;> simp [av, w_new, m_ar, up1, m_sz, va_rf]
  rcases (show a = 3 ∨ a = 4 ∨ a = 5 by omega) with rfl | rfl | rfl
  · cases hty; exact key C.wd.2.2.1.1 (C.wd.k.2 3 _ rfl).2
  · cases hty; exact key C.wd.2.2.1.2.1 (C.wd.k.2 4 _ rfl).2
  · cases hty; exact key C.wd.2.2.1.2.2.1 (C.wd.k.2 5 _ rfl).2
theorem E_getstatic {i : Nat} (hq : m < tb_n → Cond.fieldLinkNest (h_y m).cls i "NettingDesk" "KEYWORDS" "[J" "NettingDesk" ∈ TN) (hd : m < tb_n → decode (h_c m) pc = .ok (.getstatic i, 3)) (k : Eg g d m bc bs Z (pc + 3) ls (.ref (gKa g) :: st) M) : Eg g d m bc bs Z pc ls st M := by
  refine Eg.mk1 (fun p e R s mi ar be me cd H lo ce sl lsA C hH hl Q kk => ?_) k
  obtain ⟨cf, kf, fi, f, h8, h9, h10, h11, h12⟩ := C.wd.2.2.2.2.2
  exact va_WgetsN C.ex C.cc C.ow (va_Nw.use rfl (C.wd.tn (hq C.lt))) h8 h9 h10 h11 hH.2.2.2.2.2.2.2.2.1 (fun e => by have := hH.2.2.2.2.2.2.2.2.2; rw [e] at this; cases this) h12 rfl (hd C.lt) kk
theorem E_icmp_eq {x y : Int32} {o : Int} {t : Nat} (ht : m < tb_n → (pc : Int) + o = (t : Int)) (hd : m < tb_n → decode (h_c m) pc = .ok (.if_icmp .eq o, 3)) (kt : x = y → Eg g d m bc bs Z t ls st M) (kf : ¬ (x = y) → Eg g d m bc bs Z (pc + 3) ls st M) : Eg g d m bc bs Z pc ls (.int y :: .int x :: st) M := fun p e R s mi ar be me cd H lo ce sl lsA C h1 h2 h3 h4 hH hl hL => lv_icmp_eq C.ex C.cc (hd C.lt) (ht C.lt) (fun z => kt z p e R s mi ar be me cd H lo ce sl lsA C h1 h2 h3 h4 hH hl hL) (fun z => kf z p e R s mi ar be me cd H lo ce sl lsA C h1 h2 h3 h4 hH hl hL)
theorem E_if_eq {x : Int32} {o : Int} {t : Nat} (ht : m < tb_n → (pc : Int) + o = (t : Int)) (hd : m < tb_n → decode (h_c m) pc = .ok (.ifCond .eq o, 3)) (kt : x = 0 → Eg g d m bc bs Z t ls st M) (kf : ¬ (x = 0) → Eg g d m bc bs Z (pc + 3) ls st M) : Eg g d m bc bs Z pc ls (.int x :: st) M := fun p e R s mi ar be me cd H lo ce sl lsA C h1 h2 h3 h4 hH hl hL => lv_if_eq C.ex C.cc (hd C.lt) (ht C.lt) (fun z => kt z p e R s mi ar be me cd H lo ce sl lsA C h1 h2 h3 h4 hH hl hL) (fun z => kf z p e R s mi ar be me cd H lo ce sl lsA C h1 h2 h3 h4 hH hl hL)
theorem E_icmp_ne {x y : Int32} {o : Int} {t : Nat} (ht : m < tb_n → (pc : Int) + o = (t : Int)) (hd : m < tb_n → decode (h_c m) pc = .ok (.if_icmp .ne o, 3)) (kt : ¬ x = y → Eg g d m bc bs Z t ls st M) (kf : x = y → Eg g d m bc bs Z (pc + 3) ls st M) : Eg g d m bc bs Z pc ls (.int y :: .int x :: st) M := fun p e R s mi ar be me cd H lo ce sl lsA C h1 h2 h3 h4 hH hl hL => lv_icmp_ne C.ex C.cc (hd C.lt) (ht C.lt) (fun z => kt z p e R s mi ar be me cd H lo ce sl lsA C h1 h2 h3 h4 hH hl hL) (fun z => kf z p e R s mi ar be me cd H lo ce sl lsA C h1 h2 h3 h4 hH hl hL)
theorem E_if_ne {x : Int32} {o : Int} {t : Nat} (ht : m < tb_n → (pc : Int) + o = (t : Int)) (hd : m < tb_n → decode (h_c m) pc = .ok (.ifCond .ne o, 3)) (kt : ¬ x = 0 → Eg g d m bc bs Z t ls st M) (kf : x = 0 → Eg g d m bc bs Z (pc + 3) ls st M) : Eg g d m bc bs Z pc ls (.int x :: st) M := fun p e R s mi ar be me cd H lo ce sl lsA C h1 h2 h3 h4 hH hl hL => lv_if_ne C.ex C.cc (hd C.lt) (ht C.lt) (fun z => kt z p e R s mi ar be me cd H lo ce sl lsA C h1 h2 h3 h4 hH hl hL) (fun z => kf z p e R s mi ar be me cd H lo ce sl lsA C h1 h2 h3 h4 hH hl hL)
theorem E_icmp_lt {x y : Int32} {o : Int} {t : Nat} (ht : m < tb_n → (pc : Int) + o = (t : Int)) (hd : m < tb_n → decode (h_c m) pc = .ok (.if_icmp .lt o, 3)) (kt : x < y → Eg g d m bc bs Z t ls st M) (kf : ¬ (x < y) → Eg g d m bc bs Z (pc + 3) ls st M) : Eg g d m bc bs Z pc ls (.int y :: .int x :: st) M := fun p e R s mi ar be me cd H lo ce sl lsA C h1 h2 h3 h4 hH hl hL => lv_icmp_lt C.ex C.cc (hd C.lt) (ht C.lt) (fun z => kt z p e R s mi ar be me cd H lo ce sl lsA C h1 h2 h3 h4 hH hl hL) (fun z => kf z p e R s mi ar be me cd H lo ce sl lsA C h1 h2 h3 h4 hH hl hL)
theorem E_if_lt {x : Int32} {o : Int} {t : Nat} (ht : m < tb_n → (pc : Int) + o = (t : Int)) (hd : m < tb_n → decode (h_c m) pc = .ok (.ifCond .lt o, 3)) (kt : x < 0 → Eg g d m bc bs Z t ls st M) (kf : ¬ (x < 0) → Eg g d m bc bs Z (pc + 3) ls st M) : Eg g d m bc bs Z pc ls (.int x :: st) M := fun p e R s mi ar be me cd H lo ce sl lsA C h1 h2 h3 h4 hH hl hL => lv_if_lt C.ex C.cc (hd C.lt) (ht C.lt) (fun z => kt z p e R s mi ar be me cd H lo ce sl lsA C h1 h2 h3 h4 hH hl hL) (fun z => kf z p e R s mi ar be me cd H lo ce sl lsA C h1 h2 h3 h4 hH hl hL)
theorem E_icmp_ge {x y : Int32} {o : Int} {t : Nat} (ht : m < tb_n → (pc : Int) + o = (t : Int)) (hd : m < tb_n → decode (h_c m) pc = .ok (.if_icmp .ge o, 3)) (kt : y ≤ x → Eg g d m bc bs Z t ls st M) (kf : ¬ (y ≤ x) → Eg g d m bc bs Z (pc + 3) ls st M) : Eg g d m bc bs Z pc ls (.int y :: .int x :: st) M := fun p e R s mi ar be me cd H lo ce sl lsA C h1 h2 h3 h4 hH hl hL => lv_icmp_ge C.ex C.cc (hd C.lt) (ht C.lt) (fun z => kt z p e R s mi ar be me cd H lo ce sl lsA C h1 h2 h3 h4 hH hl hL) (fun z => kf z p e R s mi ar be me cd H lo ce sl lsA C h1 h2 h3 h4 hH hl hL)
theorem E_if_ge {x : Int32} {o : Int} {t : Nat} (ht : m < tb_n → (pc : Int) + o = (t : Int)) (hd : m < tb_n → decode (h_c m) pc = .ok (.ifCond .ge o, 3)) (kt : 0 ≤ x → Eg g d m bc bs Z t ls st M) (kf : ¬ (0 ≤ x) → Eg g d m bc bs Z (pc + 3) ls st M) : Eg g d m bc bs Z pc ls (.int x :: st) M := fun p e R s mi ar be me cd H lo ce sl lsA C h1 h2 h3 h4 hH hl hL => lv_if_ge C.ex C.cc (hd C.lt) (ht C.lt) (fun z => kt z p e R s mi ar be me cd H lo ce sl lsA C h1 h2 h3 h4 hH hl hL) (fun z => kf z p e R s mi ar be me cd H lo ce sl lsA C h1 h2 h3 h4 hH hl hL)
theorem E_icmp_gt {x y : Int32} {o : Int} {t : Nat} (ht : m < tb_n → (pc : Int) + o = (t : Int)) (hd : m < tb_n → decode (h_c m) pc = .ok (.if_icmp .gt o, 3)) (kt : y < x → Eg g d m bc bs Z t ls st M) (kf : ¬ (y < x) → Eg g d m bc bs Z (pc + 3) ls st M) : Eg g d m bc bs Z pc ls (.int y :: .int x :: st) M := fun p e R s mi ar be me cd H lo ce sl lsA C h1 h2 h3 h4 hH hl hL => lv_icmp_gt C.ex C.cc (hd C.lt) (ht C.lt) (fun z => kt z p e R s mi ar be me cd H lo ce sl lsA C h1 h2 h3 h4 hH hl hL) (fun z => kf z p e R s mi ar be me cd H lo ce sl lsA C h1 h2 h3 h4 hH hl hL)
theorem E_if_gt {x : Int32} {o : Int} {t : Nat} (ht : m < tb_n → (pc : Int) + o = (t : Int)) (hd : m < tb_n → decode (h_c m) pc = .ok (.ifCond .gt o, 3)) (kt : 0 < x → Eg g d m bc bs Z t ls st M) (kf : ¬ (0 < x) → Eg g d m bc bs Z (pc + 3) ls st M) : Eg g d m bc bs Z pc ls (.int x :: st) M := fun p e R s mi ar be me cd H lo ce sl lsA C h1 h2 h3 h4 hH hl hL => lv_if_gt C.ex C.cc (hd C.lt) (ht C.lt) (fun z => kt z p e R s mi ar be me cd H lo ce sl lsA C h1 h2 h3 h4 hH hl hL) (fun z => kf z p e R s mi ar be me cd H lo ce sl lsA C h1 h2 h3 h4 hH hl hL)
theorem E_icmp_le {x y : Int32} {o : Int} {t : Nat} (ht : m < tb_n → (pc : Int) + o = (t : Int)) (hd : m < tb_n → decode (h_c m) pc = .ok (.if_icmp .le o, 3)) (kt : x ≤ y → Eg g d m bc bs Z t ls st M) (kf : ¬ (x ≤ y) → Eg g d m bc bs Z (pc + 3) ls st M) : Eg g d m bc bs Z pc ls (.int y :: .int x :: st) M := fun p e R s mi ar be me cd H lo ce sl lsA C h1 h2 h3 h4 hH hl hL => lv_icmp_le C.ex C.cc (hd C.lt) (ht C.lt) (fun z => kt z p e R s mi ar be me cd H lo ce sl lsA C h1 h2 h3 h4 hH hl hL) (fun z => kf z p e R s mi ar be me cd H lo ce sl lsA C h1 h2 h3 h4 hH hl hL)
theorem E_if_le {x : Int32} {o : Int} {t : Nat} (ht : m < tb_n → (pc : Int) + o = (t : Int)) (hd : m < tb_n → decode (h_c m) pc = .ok (.ifCond .le o, 3)) (kt : x ≤ 0 → Eg g d m bc bs Z t ls st M) (kf : ¬ (x ≤ 0) → Eg g d m bc bs Z (pc + 3) ls st M) : Eg g d m bc bs Z pc ls (.int x :: st) M := fun p e R s mi ar be me cd H lo ce sl lsA C h1 h2 h3 h4 hH hl hL => lv_if_le C.ex C.cc (hd C.lt) (ht C.lt) (fun z => kt z p e R s mi ar be me cd H lo ce sl lsA C h1 h2 h3 h4 hH hl hL) (fun z => kf z p e R s mi ar be me cd H lo ce sl lsA C h1 h2 h3 h4 hH hl hL)
theorem E_ifnull {a : Nat} {o : Int} (hd : m < tb_n → decode (h_c m) pc = .ok (.ifnull o, 3)) (k : Eg g d m bc bs Z (pc + 3) ls st M) : Eg g d m bc bs Z pc ls (.ref a :: st) M := Eg.mk1 (fun p e R s mi ar be me c H lo ce sl lsA C hH hl Q => lv_ifnull C.ex C.cc (hd C.lt)) k
theorem E_ifnullN {o : Int} {t : Nat} (ht : m < tb_n → (pc : Int) + o = (t : Int)) (hd : m < tb_n → decode (h_c m) pc = .ok (.ifnull o, 3)) (k : Eg g d m bc bs Z t ls st M) : Eg g d m bc bs Z pc ls (.null :: st) M := Eg.mk1 (fun p e R s mi ar be me c H lo ce sl lsA C hH hl Q => lv_ifnullN C.ex C.cc (hd C.lt) (ht C.lt)) k
theorem E_ifnonnull {a : Nat} {o : Int} {t : Nat} (ht : m < tb_n → (pc : Int) + o = (t : Int)) (hd : m < tb_n → decode (h_c m) pc = .ok (.ifnonnull o, 3)) (k : Eg g d m bc bs Z t ls st M) : Eg g d m bc bs Z pc ls (.ref a :: st) M := Eg.mk1 (fun p e R s mi ar be me c H lo ce sl lsA C hH hl Q => lv_ifnonnull C.ex C.cc (hd C.lt) (ht C.lt)) k
theorem E_ifnonnullN {o : Int} (hd : m < tb_n → decode (h_c m) pc = .ok (.ifnonnull o, 3)) (k : Eg g d m bc bs Z (pc + 3) ls st M) : Eg g d m bc bs Z pc ls (.null :: st) M := Eg.mk1 (fun p e R s mi ar be me c H lo ce sl lsA C hH hl Q => lv_ifnonnullN C.ex C.cc (hd C.lt)) k
/-- what a method called says: from any heap that holds M it returns with Q -/
def QQ (g : GG) (Q : Option Value → Mem → Prop) : Array Value → State → Outcome → State → Prop := fun _ _ o t => ∃ (v : Option Value) (M' : Mem), o = .returned v ∧ Q v M' ∧ HR g M' t.heap
def Zr (g : GG) (Q : Option Value → Mem → Prop) : ZT := fun below args s mc ms => MQ below (QQ g Q) args s mc ms (fun q => gB g ≤ q)
abbrev rmD (d bc bs : Nat) : Room := { frames := d, cells := bc, slots := bs, locals := 80 * d }
def EPc (g : GG) (args : List Value) (M : Mem) : Array Value → State → Prop := fun a U => a = args.toArray ∧ Wd g U ∧ HR g M U.heap
def EvM (g : GG) (d m bc bs : Nat) (args : List Value) (M : Mem) (Q : Option Value → Mem → Prop) : Prop :=
  Met (gL g) (h_y m) (Cond.code (h_y m) (h_c m) (h_n m) (h_r m) :: T0) (rmD d bc bs) (EPc g args M) (QQ g Q) bc bs (fun q => gB g ≤ q)
theorem EPc.blind {args : List Value} : FrameBlind (EPc g args M) := by
  intro a U gf mk h
  exact ⟨h.1, Wd.moved (s := U) (U := U.calling gf mk a) (State.WarmedH.refl U) h.2.1, h.2.2⟩
theorem E_iret {Q : Option Value → Mem → Prop} {v : Int32} (hr : h_r m = some .int) (hd : m < tb_n → decode (h_c m) pc = .ok (.ireturn, 1)) (hq : Q (some (.int v)) M) : Eg g d m bc bs (Zr g Q) pc ls [.int v] M := fun p e R s mi ar be me cd H lo ce sl lsA C h1 h2 h3 h4 hH hl hL =>
  W.widen (by omega) (by omega) (W.iret C.ex C.cc (C.rt.trans hr) (fun t ht hW => ⟨_, M, rfl, hq, hH.of_heap ht⟩) hL (hd C.lt) C.lk)
theorem E_zret {Q : Option Value → Mem → Prop} {v : Int32} {ty : FieldType} (hr : h_r m = some ty) (hn : narrow ty (.int v) = .int v) (hd : m < tb_n → decode (h_c m) pc = .ok (.ireturn, 1)) (hq : Q (some (.int v)) M) : Eg g d m bc bs (Zr g Q) pc ls [.int v] M := fun p e R s mi ar be me cd H lo ce sl lsA C h1 h2 h3 h4 hH hl hL =>
  W.widen (by omega) (by omega) (W.zret C.ex C.cc (C.rt.trans hr) hn (fun t ht hW => ⟨_, M, rfl, hq, hH.of_heap ht⟩) hL (hd C.lt) C.lk)
theorem E_lret {Q : Option Value → Mem → Prop} {v : Int64} (hr : h_r m = some .long) (hd : m < tb_n → decode (h_c m) pc = .ok (.lreturn, 1)) (hq : Q (some (.long v)) M) : Eg g d m bc bs (Zr g Q) pc ls [.long v] M := fun p e R s mi ar be me cd H lo ce sl lsA C h1 h2 h3 h4 hH hl hL =>
  W.widen (by omega) (by omega) (W.lret C.ex C.cc (C.rt.trans hr) (fun t ht hW => ⟨_, M, rfl, hq, hH.of_heap ht⟩) hL (hd C.lt) C.lk)
theorem E_vret {Q : Option Value → Mem → Prop} (hr : h_r m = none) (hd : m < tb_n → decode (h_c m) pc = .ok (.return_, 1)) (hq : Q none M) : Eg g d m bc bs (Zr g Q) pc ls [] M := fun p e R s mi ar be me cd H lo ce sl lsA C h1 h2 h3 h4 hH hl hL =>
  W.widen (by omega) (by omega) (W.vret C.ex C.cc (C.rt.trans hr) (fun t ht hW => ⟨_, M, rfl, hq, hH.of_heap ht⟩) hL (hd C.lt) C.lk)
theorem E_aret {Q : Option Value → Mem → Prop} {v : Value} {C0 : String} (hr : h_r m = some (.object C0)) (hv : v = .null ∨ ∃ a, v = .ref a) (hd : m < tb_n → decode (h_c m) pc = .ok (.areturn, 1)) (hq : Q (some v) M) : Eg g d m bc bs (Zr g Q) pc ls [v] M := fun p e R s mi ar be me cd H lo ce sl lsA C h1 h2 h3 h4 hH hl hL =>
  W.widen (by omega) (by omega) (W.aret C.ex C.cc (C.rt.trans hr) (Or.inl ⟨_, rfl⟩) hv (fun t ht hW => ⟨_, M, rfl, hq, hH.of_heap ht⟩) hL (hd C.lt) C.lk)
end EVS
