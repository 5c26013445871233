section ARRS
variable {g : GG} {d m bc bs pc : Nat} {Z : ZT} {ls : LsT} {st : List Value} {M : Mem}
theorem HR.arr {H : Heap} (h : HR g M H) {o t : Nat} (ht : m_tg M o = t + 20) (htx : t < 6) : H[o]? = some (arrV (gA g t) (m_ln M o) (av M t o)) := (h.2.2.1 o t ht htx).2.2
theorem Wd.ar {s : State} (h : Wd g s) (t : Nat) {ty : FieldType} (ht : (tysOf g)[t]? = some (gA g t, ty)) (n : Nat) (z : Nat → Value) : s.isArrayOf (arrV (gA g t) n z) ty := (h.k.2 t _ ht).1 n z
theorem vp_in_lt {i : Int32} {n : Nat} (h : vp_in i n) : i.toNatClampNeg < n := Nat.not_le.mp fun q => h (Or.inr q)
theorem E_iaload {i : Int32} {o : Nat} (ht : m_tg M o = 20 ∨ m_tg M o = 40) (hin : vp_in i (m_ln M o)) (hd : m < tb_n → decode (h_c m) pc = .ok (.iaload, 1)) (k : Eg g d m bc bs Z (pc + 1) ls (.int (m_ai M o i.toNatClampNeg) :: st) M) : Eg g d m bc bs Z pc ls (.int i :: .ref o :: st) M := by
  refine Eg.mk1 (fun p e R s mi ar be me cd H lo ce sl lsA C hH hl Q kk => ?_) k
  have hlt := vp_in_lt hin
  rcases ht with ht | ht
  · exact W.iald (v := .int (m_ai M o i.toNatClampNeg)) C.ex C.cc (hH.arr (t := 0) ht (by decide)) (C.wd.ar 0 rfl _ _) (fun q => by cases q) (by rw [arrV_size]; exact hin) (by rw [arrV_read _ _ hlt]; rfl) rfl rfl (hd C.lt) kk
  · obtain ⟨e1, e2, e3, -, e4⟩ := hH.2.2.2.1 o ht
    subst e1
    exact W.iald (v := .int (m_ai M (gSa g) i.toNatClampNeg)) C.ex C.cc hH.2.2.2.2.2.2.1 C.wd.2.2.2.1 e2 (by rw [e3]; exact hin) (e4 _ hlt) rfl rfl (hd C.lt) kk
theorem E_laload {i : Int32} {o : Nat} (ht : m_tg M o = 21 ∨ m_tg M o = 41) (hin : vp_in i (m_ln M o)) (hd : m < tb_n → decode (h_c m) pc = .ok (.laload, 1)) (k : Eg g d m bc bs Z (pc + 1) ls (.long (m_al M o i.toNatClampNeg) :: st) M) : Eg g d m bc bs Z pc ls (.int i :: .ref o :: st) M := by
  refine Eg.mk1 (fun p e R s mi ar be me cd H lo ce sl lsA C hH hl Q kk => ?_) k
  have hlt := vp_in_lt hin
  rcases ht with ht | ht
  · exact W.lald (v := .long (m_al M o i.toNatClampNeg)) C.ex C.cc (hH.arr (t := 1) ht (by decide)) (C.wd.ar 1 rfl _ _) (fun q => by cases q) (by rw [arrV_size]; exact hin) (by rw [arrV_read _ _ hlt]; rfl) rfl rfl (hd C.lt) kk
  · obtain ⟨e1, e2, e3, -, e4⟩ := hH.2.2.2.2.1 o ht
    subst e1
    exact W.lald (v := .long (m_al M (gKa g) i.toNatClampNeg)) C.ex C.cc hH.2.2.2.2.2.2.2.1 C.wd.2.2.2.2.1 e2 (fun z => hin (z.imp id (fun z2 => Nat.le_trans e3.1 z2))) (e4 _ hlt) rfl rfl (hd C.lt) kk
theorem E_baload {i : Int32} {o : Nat} (ht : m_tg M o = 22) (hin : vp_in i (m_ln M o)) (hd : m < tb_n → decode (h_c m) pc = .ok (.baload, 1)) (k : Eg g d m bc bs Z (pc + 1) ls (.int (m_ai M o i.toNatClampNeg) :: st) M) : Eg g d m bc bs Z pc ls (.int i :: .ref o :: st) M := by
  refine Eg.mk1 (fun p e R s mi ar be me cd H lo ce sl lsA C hH hl Q kk => ?_) k
  have hlt := vp_in_lt hin
  exact W.bald (v := .int (m_ai M o i.toNatClampNeg)) C.ex C.cc (hH.arr (t := 2) ht (by decide)) (C.wd.ar 2 rfl _ _) (fun q => by cases q) (by rw [arrV_size]; exact hin) (by rw [arrV_read _ _ hlt]; rfl) rfl rfl (hd C.lt) kk
theorem rf_get {o : Option Nat} (h : o ≠ none) : va_rf o = .ref (rget o) := by
  cases o with
  | none => exact absurd rfl h
  | some a => rfl
theorem E_aaload {i : Int32} {o : Nat} (ht : 23 ≤ m_tg M o ∧ m_tg M o ≤ 25) (hin : vp_in i (m_ln M o)) (hne : m_ar M o i.toNatClampNeg ≠ none) (hd : m < tb_n → decode (h_c m) pc = .ok (.aaload, 1)) (k : Eg g d m bc bs Z (pc + 1) ls (.ref (rget (m_ar M o i.toNatClampNeg)) :: st) M) : Eg g d m bc bs Z pc ls (.int i :: .ref o :: st) M := by
  refine Eg.mk1 (fun p e R s mi ar be me cd H lo ce sl lsA C hH hl Q kk => ?_) k
  have hlt := vp_in_lt hin
  rw [← rf_get hne] at kk
  rcases (show m_tg M o = 3 + 20 ∨ m_tg M o = 4 + 20 ∨ m_tg M o = 5 + 20 by omega) with ht | ht | ht
  · exact W.aald (v := va_rf (m_ar M o i.toNatClampNeg)) (ty := tyA 3) C.ex C.cc (hH.arr (t := 3) ht (by decide)) (C.wd.ar 3 rfl _ _) rfl (fun q => by cases q) (by rw [arrV_size]; exact hin) (by rw [arrV_read _ _ hlt]; rfl) rfl rfl (hd C.lt) kk
  · exact W.aald (v := va_rf (m_ar M o i.toNatClampNeg)) (ty := tyA 4) C.ex C.cc (hH.arr (t := 4) ht (by decide)) (C.wd.ar 4 rfl _ _) rfl (fun q => by cases q) (by rw [arrV_size]; exact hin) (by rw [arrV_read _ _ hlt]; rfl) rfl rfl (hd C.lt) kk
  · exact W.aald (v := va_rf (m_ar M o i.toNatClampNeg)) (ty := tyA 5) C.ex C.cc (hH.arr (t := 5) ht (by decide)) (C.wd.ar 5 rfl _ _) rfl (fun q => by cases q) (by rw [arrV_size]; exact hin) (by rw [arrV_read _ _ hlt]; rfl) rfl rfl (hd C.lt) kk
theorem HR.aput {M' : Mem} {H H' : Heap} {o t i : Nat} {v : Value} (h : HR g M H) (ht : m_tg M o = t + 20) (htx : t < 6)
    (e1 : H'[o]? = some ((arrV (gA g t) (m_ln M o) (av M t o)).setSlot i v)) (e2 : H'.size = H.size) (e3 : ∀ q, q ≠ o → H'[q]? = H[q]?)
    (g1 : m_sz M' = m_sz M) (g2 : m_tg M' = m_tg M) (g3 : m_ln M' = m_ln M) (g4 : m_fi M' = m_fi M) (g5 : m_fl M' = m_fl M) (g6 : m_fr M' = m_fr M)
    (ga : ∀ a, a ≠ o → m_ai M' a = m_ai M a ∧ m_al M' a = m_al M a ∧ m_ar M' a = m_ar M a) (hv : ∀ j, av M' t o j = updV (av M t o) i v j) : HR g M' H' := by
  obtain ⟨⟨s1, s2, s3⟩, ho, ha, hs1, hs2, ⟨b1, b2, b3, b4⟩, hs3, hs4, hs5, hs6⟩ := h
  have hbo := (ha o t ht htx).1
  rw [arrV_store] at e1
  refine ⟨⟨by rw [e2, g1]; exact s1, by rw [g1]; exact s2, by rw [g1, g2]; exact s3⟩, fun x cx hx hcx => ?_, fun x u hx hux => ?_, fun x hx => ?_, fun x hx => ?_, ⟨b1, b2, b3, fun a ha => (e3 _ (by omega)).trans (b4 a ha)⟩, ?_, ?_, ?_, hs6⟩
  · rw [g2] at hx
    obtain ⟨z1, r, hr, cx', q1, q2, q3, q4⟩ := ho x cx hx hcx
    have hxo : x ≠ o := fun z => by subst z; omega
    refine ⟨z1, r, hr, cx', by rw [e3 x hxo]; exact q1, q2, q3, fun j hj => ?_⟩
    rw [q4 j hj]
    simp only [fv, g4, g5, g6]
  · rw [g2] at hx
    obtain ⟨z1, z2, z3⟩ := ha x u hx hux
    refine ⟨z1, by rw [g3]; exact z2, ?_⟩
    by_cases hxo : x = o
    · subst hxo
      have hcc : u = t := by omega
      subst hcc
      rw [e1, g3]
      congr 2
      funext j
      exact (hv j).symm
    · rw [e3 x hxo, z3, g3]
      congr 2
      funext j
      obtain ⟨y1, y2, y3⟩ := ga x hxo
      simp only [av, y1, y2, y3]
  · rw [g2] at hx
    have hxo : x ≠ o := fun z => by subst z; omega
    rw [g3, (ga x hxo).1]
    exact hs1 x hx
  · rw [g2] at hx
    have hxo : x ≠ o := fun z => by subst z; omega
    rw [g3, (ga x hxo).2.1]
    exact hs2 x hx
  · rw [e3 _ (by omega)]; exact hs3
  · rw [e3 _ (by omega)]; exact hs4
  · rw [e3 _ (by omega)]; exact hs5
theorem up2_ne {α : Type} {f : Nat → Nat → α} {k a k' : Nat} {v : α} (h : k' ≠ k) : up2 f k a v k' = f k' := by
  funext a'
  simp [up2, h]
theorem E_iastore {i v : Int32} {o : Nat} (ht : m_tg M o = 20) (hin : vp_in i (m_ln M o)) (hd : m < tb_n → decode (h_c m) pc = .ok (.iastore, 1)) (k : Eg g d m bc bs Z (pc + 1) ls st (w_ai M o i.toNatClampNeg v)) : Eg g d m bc bs Z pc ls (.int v :: .int i :: .ref o :: st) M := by
  refine Eg.mk3 (fun p e R s mi ar be me cd H lo ce sl lsA C hH hl Q kk => ?_) k
  refine W.iast C.ex C.cc (hH.arr (t := 0) ht (by decide)) (C.wd.ar 0 rfl _ _) (fun q => by cases q) (by rw [arrV_size]; exact hin) rfl rfl (hd C.lt) fun H1 e z oq => ?_
  refine kk H1 o _ (hH.2.2.1 o 0 ht (by decide)).1 (hH.aput (t := 0) ht (by decide) e z oq rfl rfl rfl rfl rfl rfl (fun a ha => ⟨up2_ne ha, rfl, rfl⟩) (fun j => ?_))
  simp only [av, updV, w_ai, m_ai, up2]
  by_cases hj : j = i.toNatClampNeg <;> simp [hj]
theorem E_lastore {i : Int32} {v : Int64} {o : Nat} (ht : m_tg M o = 21) (hin : vp_in i (m_ln M o)) (hd : m < tb_n → decode (h_c m) pc = .ok (.lastore, 1)) (k : Eg g d m bc bs Z (pc + 1) ls st (w_al M o i.toNatClampNeg v)) : Eg g d m bc bs Z pc ls (.long v :: .int i :: .ref o :: st) M := by
  refine Eg.mk3 (fun p e R s mi ar be me cd H lo ce sl lsA C hH hl Q kk => ?_) k
  refine W.last C.ex C.cc (hH.arr (t := 1) ht (by decide)) (C.wd.ar 1 rfl _ _) (fun q => by cases q) (by rw [arrV_size]; exact hin) rfl rfl (hd C.lt) fun H1 e z oq => ?_
  refine kk H1 o _ (hH.2.2.1 o 1 ht (by decide)).1 (hH.aput (t := 1) ht (by decide) e z oq rfl rfl rfl rfl rfl rfl (fun a ha => ⟨rfl, up2_ne ha, rfl⟩) (fun j => ?_))
  simp only [av, updV, w_al, m_al, up2]
  by_cases hj : j = i.toNatClampNeg <;> simp [hj]
theorem E_bastore {i v : Int32} {o : Nat} (ht : m_tg M o = 22) (hin : vp_in i (m_ln M o)) (hd : m < tb_n → decode (h_c m) pc = .ok (.bastore, 1)) (k : Eg g d m bc bs Z (pc + 1) ls st (w_ai M o i.toNatClampNeg (vp_nar .byte v))) : Eg g d m bc bs Z pc ls (.int v :: .int i :: .ref o :: st) M := by
  refine Eg.mk3 (fun p e R s mi ar be me cd H lo ce sl lsA C hH hl Q kk => ?_) k
  refine W.bast C.ex C.cc (hH.arr (t := 2) ht (by decide)) (C.wd.ar 2 rfl _ _) (fun q => by cases q) (by rw [arrV_size]; exact hin) rfl rfl (hd C.lt) fun H1 e z oq => ?_
  refine kk H1 o _ (hH.2.2.1 o 2 ht (by decide)).1 (hH.aput (t := 2) ht (by decide) e z oq rfl rfl rfl rfl rfl rfl (fun a ha => ⟨up2_ne ha, rfl, rfl⟩) (fun j => ?_))
  simp only [av, updV, w_ai, m_ai, up2]
  by_cases hj : j = i.toNatClampNeg
  · simp only [hj, if_true, and_self, vp_nar]
    rfl
  · simp [hj]
theorem E_arraylength {o : Nat} (ht : 20 ≤ m_tg M o ∧ m_tg M o ≤ 25 ∨ m_tg M o = 40 ∨ m_tg M o = 41) (hd : m < tb_n → decode (h_c m) pc = .ok (.arraylength, 1)) (k : Eg g d m bc bs Z (pc + 1) ls (.int (nI (m_ln M o)) :: st) M) : Eg g d m bc bs Z pc ls (.ref o :: st) M := by
  refine Eg.mk1 (fun p e R s mi ar be me cd H lo ce sl lsA C hH hl Q kk => ?_) k
  have key : ∀ (t : Nat) (ty : FieldType), (tysOf g)[t]? = some (gA g t, ty) → m_tg M o = t + 20 → t < 6 → W p (gL g) e R s mi ar be me cd H lo ce sl Q (F0 mi pc lsA (.ref o :: st)) := fun t ty h1 h2 h3 =>
    W.alen (n := nI (m_ln M o)) C.ex C.cc (hH.arr (t := t) h2 h3) (C.wd.ar t h1 _ _) (by rw [arrV_size] <;> rfl) rfl rfl (hd C.lt) kk
  rcases (show m_tg M o = 0 + 20 ∨ m_tg M o = 1 + 20 ∨ m_tg M o = 2 + 20 ∨ m_tg M o = 3 + 20 ∨ m_tg M o = 4 + 20 ∨ m_tg M o = 5 + 20 ∨ m_tg M o = 40 ∨ m_tg M o = 41 by omega) with ht | ht | ht | ht | ht | ht | ht | ht
  · exact key 0 _ rfl ht (by decide)
  · exact key 1 _ rfl ht (by decide)
  · exact key 2 _ rfl ht (by decide)
  · exact key 3 _ rfl ht (by decide)
  · exact key 4 _ rfl ht (by decide)
  · exact key 5 _ rfl ht (by decide)
  · obtain ⟨e1, e2, e3, -, e4⟩ := hH.2.2.2.1 o ht
    subst e1
    exact W.alen (n := nI (m_ln M (gSa g))) C.ex C.cc hH.2.2.2.2.2.2.1 C.wd.2.2.2.1 (by rw [e3] <;> rfl) rfl rfl (hd C.lt) kk
  · obtain ⟨e1, e2, e3, -, e4⟩ := hH.2.2.2.2.1 o ht
    subst e1
    exact W.alen (n := nI (m_ln M (gKa g))) C.ex C.cc hH.2.2.2.2.2.2.2.1 C.wd.2.2.2.2.1 e3.2 rfl rfl (hd C.lt) kk
theorem E_aastore {i : Int32} {v o : Nat} (ht : (m_tg M o = 23 ∧ m_tg M v = 5) ∨ (m_tg M o = 24 ∧ m_tg M v = 3) ∨ (m_tg M o = 25 ∧ m_tg M v = 6)) (hin : vp_in i (m_ln M o)) (hd : m < tb_n → decode (h_c m) pc = .ok (.aastore, 1)) (k : Eg g d m bc bs Z (pc + 1) ls st (w_ar M o i.toNatClampNeg (some v))) : Eg g d m bc bs Z pc ls (.ref v :: .int i :: .ref o :: st) M := by
  refine Eg.mk3 (fun p e R s mi ar be me cd H lo ce sl lsA C hH hl Q kk => ?_) k
  have hlt := vp_in_lt hin
  have h0 : ¬ i < 0 := fun q => hin (Or.inl q)
  have key : ∀ (t ci : Nat) (r : vw_C), (tysOf g)[t]? = some (gA g t, .object r.1) → vwCl[ci]? = some r → m_tg M o = t + 20 → t < 6 → 3 ≤ t → m_tg M v = ci + 1 → ci < 12 → W p (gL g) e R s mi ar be me cd H lo ce sl Q (F0 mi pc lsA (.ref v :: .int i :: .ref o :: st)) := by
    intro t ci r h1 hr h2 h3 h3' h4 h5
    obtain ⟨-, r', hr', cellV, g1, g2, g3, -⟩ := hH.2.1 v ci h4 h5
    cases hr.symm.trans hr'
    have hcls := (C.wd.k.1 ci r hr).2
    obtain ⟨kA, comp, k1, k2, k3, -⟩ := (C.wd.k.2 t _ h1).2
    have hcomp : comp = (gD g).1 ci := Option.some.inj (k3.symm.trans hcls.1)
    subst hcomp
    obtain ⟨kC, hkC, -⟩ := hcls.2
    refine W.aast C.ex C.cc (hH.arr (t := t) h2 h3) (fun q h => by cases h) (fun h => by cases h) k1 k2 rfl hkC ⟨h0, by rw [arrV_size]; exact hlt⟩ g1 (fun q h => by rw [g3] at h; cases h) (by rw [g2]; exact hkC) (by rw [g2]; exact va_assign hcls) rfl rfl (hd C.lt) fun H1 e z oq => ?_
    refine kk H1 o _ (hH.2.2.1 o t h2 h3).1 (hH.aput (t := t) h2 h3 e z oq rfl rfl rfl rfl rfl rfl (fun a ha => ⟨rfl, rfl, up2_ne ha⟩) (fun j => ?_))
    rcases (show t = 3 ∨ t = 4 ∨ t = 5 by omega) with rfl | rfl | rfl <;>
    · simp only [av, updV, w_ar, m_ar, up2]
      by_cases hj : j = i.toNatClampNeg <;> simp [hj, va_rf]
  rcases ht with ⟨ht, hv⟩ | ⟨ht, hv⟩ | ⟨ht, hv⟩
  · exact key 3 4 _ rfl rfl ht (by decide) (by decide) hv (by decide)
  · exact key 4 2 _ rfl rfl ht (by decide) (by decide) hv (by decide)
  · exact key 5 5 _ rfl rfl ht (by decide) (by decide) hv (by decide)
theorem HR.push {H H' : Heap} (h : HR g M H) {t n : Nat} (z : H'.size = H.size + 1) (oq : ∀ q : Nat, q < H.size → H'[q]? = H[q]?)
    (hobj : ∀ ci, t = ci + 1 → ci < 12 → ∃ r : vw_C, vwCl[ci]? = some r ∧ t_OB (m_sz M) ((gD g).1 ci) r.2.2 ((gD g).2 ci) H' (fun k => fv (w_new M t n) (32 * ci + k) (m_sz M)))
    (harr : ∀ u, t = u + 20 → u < 6 → n < 2 ^ 31 ∧ H'[m_sz M]? = some (arrV (gA g u) n (av (w_new M t n) u (m_sz M)))) (h40 : t ≠ 40) (h41 : t ≠ 41) : HR g (w_new M t n) H' := by
  obtain ⟨⟨s1, s2, s3⟩, ho, ha, hs1, hs2, ⟨b1, b2, b3, b4⟩, hs3, hs4, hs5, hs6⟩ := h
  have tgn : m_tg (w_new M t n) (m_sz M) = t := by simp [m_tg, w_new, up1]
  have tgo : ∀ x, x ≠ m_sz M → m_tg (w_new M t n) x = m_tg M x := fun x hx => by
    show up1 (m_tg M) (m_sz M) t x = _
    simp [up1, hx]
  have lnn : m_ln (w_new M t n) (m_sz M) = n := by simp [m_ln, w_new, up1]
  have lno : ∀ x, x ≠ m_sz M → m_ln (w_new M t n) x = m_ln M x := fun x hx => by
    show up1 (m_ln M) (m_sz M) n x = _
    simp [up1, hx]
  have aio : ∀ x, x ≠ m_sz M → m_ai (w_new M t n) x = m_ai M x ∧ m_al (w_new M t n) x = m_al M x ∧ m_ar (w_new M t n) x = m_ar M x := fun x hx => by
    refine ⟨?_, ?_, ?_⟩
    · show up1 (m_ai M) (m_sz M) _ x = _
      simp [up1, hx]
    · show up1 (m_al M) (m_sz M) _ x = _
      simp [up1, hx]
    · show up1 (m_ar M) (m_sz M) _ x = _
      simp [up1, hx]
  have fvo : ∀ k x, x ≠ m_sz M → fv (w_new M t n) k x = fv M k x := fun k x hx => by
    simp [fv, w_new, m_fi, m_fl, m_fr, m_sz] at *
    simp [hx]
  have hne : ∀ x, m_tg M x ≠ 0 → x ≠ m_sz M := fun x hx e => hx (by rw [e]; exact s3 _ (Nat.le_refl _))
  refine ⟨⟨by rw [z, s1]; rfl, Nat.le_succ_of_le s2, fun x hx => ?_⟩, fun x cx hx hcx => ?_, fun x u hx hux => ?_, fun x hx => ?_, fun x hx => ?_, ⟨b1, b2, b3, fun a ha => (oq _ (by omega)).trans (b4 a ha)⟩, ?_, ?_, ?_, hs6⟩
  · have hx' : m_sz M + 1 ≤ x := hx
    rw [tgo x (by omega)]
    exact s3 x (by omega)
  · by_cases hxn : x = m_sz M
    · subst hxn
      rw [tgn] at hx
      exact ⟨s2, hobj cx hx hcx⟩
    · rw [tgo x hxn] at hx
      obtain ⟨z1, r, hr, cx', q1, q2, q3, q4⟩ := ho x cx hx hcx
      have hlt : x < H.size := (Array.getElem?_eq_some_iff.mp q1).1
      refine ⟨z1, r, hr, cx', by rw [oq x hlt]; exact q1, q2, q3, fun j hj => ?_⟩
      rw [q4 j hj]
      show some (fv M (32 * cx + j) x) = some (fv (w_new M t n) (32 * cx + j) x)
      rw [fvo _ _ hxn]
  · by_cases hxn : x = m_sz M
    · subst hxn
      rw [tgn] at hx
      obtain ⟨y1, y2⟩ := harr u hx hux
      exact ⟨s2, by rw [lnn]; exact y1, by rw [lnn]; exact y2⟩
    · rw [tgo x hxn] at hx
      obtain ⟨z1, z2, z3⟩ := ha x u hx hux
      have hlt : x < H.size := (Array.getElem?_eq_some_iff.mp z3).1
      obtain ⟨y1, y2, y3⟩ := aio x hxn
      refine ⟨z1, by rw [lno x hxn]; exact z2, ?_⟩
      rw [oq x hlt, z3, lno x hxn]
      congr 2
      funext j
      simp only [av, y1, y2, y3]
  · by_cases hxn : x = m_sz M
    · subst hxn
      rw [tgn] at hx
      exact absurd hx h40
    · rw [tgo x hxn] at hx
      rw [lno x hxn, (aio x hxn).1]
      exact hs1 x hx
  · by_cases hxn : x = m_sz M
    · subst hxn
      rw [tgn] at hx
      exact absurd hx h41
    · rw [tgo x hxn] at hx
      rw [lno x hxn, (aio x hxn).2.1]
      exact hs2 x hx
  · rw [oq _ (by omega)]; exact hs3
  · rw [oq _ (by omega)]; exact hs4
  · rw [oq _ (by omega)]; exact hs5
end ARRS
