/-! System.arraycopy: the first n numbers of a row into another -/
theorem copy_words : Cond.native arraycopyName ∈ T0 ∧ Cond.static arraycopyName ∈ T0 ∧ Cond.initialized "java/lang/System" ∈ T0 := ⟨inT0 (L := [Cond.native arraycopyName]) (by decide +kernel) _ List.mem_cons_self, inT0 (L := [Cond.static arraycopyName]) (by decide +kernel) _ List.mem_cons_self, inT0 (L := [Cond.initialized "java/lang/System"]) (by decide +kernel) _ List.mem_cons_self⟩
theorem copy_room : nativeFrameWords "java/lang/System" "arraycopy" 5 + 11 + 8 ≤ 80 := by decide +kernel
section COPY
variable {g : GG} {d m bc bs pc : Nat} {Z : ZT} {ls : LsT} {st : List Value} {M : Mem}
theorem HR.arow {M' : Mem} {H H' : Heap} {o t : Nat} (h : HR g M H) (ht : m_tg M o = t + 20) (htx : t < 6)
    (e1 : H'[o]? = some (arrV (gA g t) (m_ln M o) (av M' t o))) (e2 : H'.size = H.size) (e3 : ∀ q, q ≠ o → H'[q]? = H[q]?)
    (g1 : m_sz M' = m_sz M) (g2 : m_tg M' = m_tg M) (g3 : m_ln M' = m_ln M) (g4 : m_fi M' = m_fi M) (g5 : m_fl M' = m_fl M) (g6 : m_fr M' = m_fr M)
    (ga : ∀ a, a ≠ o → m_ai M' a = m_ai M a ∧ m_al M' a = m_al M a ∧ m_ar M' a = m_ar M a) : HR g M' H' := by
  obtain ⟨⟨s1, s2, s3⟩, ho, ha, hs1, hs2, ⟨b1, b2, b3, b4⟩, hs3, hs4, hs5, hs6⟩ := h
  have hbo := (ha o t ht htx).1
  refine ⟨⟨by rw [e2, g1]; exact s1, by rw [g1]; exact s2, by rw [g1, g2]; exact s3⟩, fun x cx hx hcx => ?_, fun x u hx hux => ?_, fun x hx => ?_, fun x hx => ?_, ⟨b1, b2, b3, fun a ha => (e3 _ (by omega)).trans (b4 a ha)⟩, ?_, ?_, ?_, hs6⟩
  · rw [g2] at hx
    obtain ⟨z1, r, hr, cx', q1, q2, q3, q4⟩ := ho x cx hx hcx
    have hxo : x ≠ o := fun z => by subst z; omega
    refine ⟨z1, r, hr, cx', by rw [e3 x hxo]; exact q1, q2, q3, fun j hj => ?_⟩
    rw [q4 j hj]
    simp only [fv, g4, g5, g6]
  · rw [g2] at hx
    obtain ⟨z1, z2, z3⟩ := ha x u hx hux
    refine ⟨z1, by rw [g3]; exact z2, ?_⟩
    by_cases hxo : x = o
    · subst hxo
      have hcc : u = t := by omega
      subst hcc
      rw [e1, g3]
    · rw [e3 x hxo, z3, g3]
      congr 2
      funext j
      obtain ⟨y1, y2, y3⟩ := ga x hxo
      simp only [av, y1, y2, y3]
  · rw [g2] at hx
    have hxo : x ≠ o := fun z => by subst z; omega
    rw [g3, (ga x hxo).1]
    exact hs1 x hx
  · rw [g2] at hx
    have hxo : x ≠ o := fun z => by subst z; omega
    rw [g3, (ga x hxo).2.1]
    exact hs2 x hx
  · rw [e3 _ (by omega)]; exact hs3
  · rw [e3 _ (by omega)]; exact hs4
  · rw [e3 _ (by omega)]; exact hs5
theorem E_copy {i a0 a t N : Nat} {rest : List Value} {M' : Mem} (ht : t = 0 ∨ t = 1) (h0 : m_tg M a0 = t + 20) (h1 : m_tg M a = t + 20) (hN : N < 2 ^ 31) (h4 : N ≤ m_ln M a0) (h5 : N ≤ m_ln M a) (hw : m < tb_n → Cond.methodLink (h_y m).cls i arraycopyName ∈ T0) (hsum : (rest.map fun v => v.category).sum ≤ 8) (hd : m < tb_n → decode (h_c m) pc = .ok (.invokestatic i, 3))
    (g1 : m_sz M' = m_sz M) (g2 : m_tg M' = m_tg M) (g3 : m_ln M' = m_ln M) (g4 : m_fi M' = m_fi M) (g5 : m_fl M' = m_fl M) (g6 : m_fr M' = m_fr M)
    (ga : ∀ x, x ≠ a → m_ai M' x = m_ai M x ∧ m_al M' x = m_al M x ∧ m_ar M' x = m_ar M x) (hv : ∀ j, av M' t a j = if j < N then av M t a0 j else av M t a j)
    (k : Eg g (d + 1) m bc bs Z (pc + 3) ls rest M') : Eg g (d + 1) m bc bs Z pc ls (.int (nI N) :: .int 0 :: .ref a :: .int 0 :: .ref a0 :: rest) M := by
  intro p e R s mi ar be me cd H lo ce sl lsA C hr1 hr2 hr3 hr4 hH hl hL
  have hroom := copy_room
  have hcl : (nI N).toNatClampNeg = N := nI_clamp hN
  have hti : (nI N).toInt = (N : Int) := nI_toInt hN
  have htx : t < 6 := by omega
  have hty : (tysOf g)[t]? = some (gA g t, tyA t) := by rcases ht with rfl | rfl <;> rfl
  have hfit : ∀ j, fits (tyA t) (av M t a0 j) = true := by rcases ht with rfl | rfl <;> (intro j; rfl)
  have hprim : refKind (tyA t) = false := by rcases ht with rfl | rfl <;> rfl
  have hcat : ∀ j, ∀ b, av M t a0 j ≠ .ref b := by rcases ht with rfl | rfl <;> (intro j b z; cases z)
  intro T hT X
  have hc0 : H[a0]? = some (arrV (gA g t) (m_ln M a0) (av M t a0)) := hH.arr h0 htx
  have hc1 : H[a]? = some (arrV (gA g t) (m_ln M a) (av M t a)) := hH.arr h1 htx
  obtain ⟨-, k0, hk0, cm0, hkk0⟩ := (C.wd.k.2 t _ hty).1 (m_ln M a0) (av M t a0)
  obtain ⟨-, k1, hk1, cm1, hkk1⟩ := (C.wd.k.2 t _ hty).1 (m_ln M a) (av M t a)
  obtain ⟨vm', X', step⟩ := X.arraycopy C.ex C.ow (C.ts _ (hw C.lt)) (C.ts _ copy_words.1) (C.ts _ copy_words.2.1) (C.ts _ copy_words.2.2) (src := a0) (dst := a) (cs := arrV (gA g t) (m_ln M a0) (av M t a0)) (cd := arrV (gA g t) (m_ln M a) (av M t a)) (srcPos := 0) (destPos := 0) (n := nI N) (by rw [hT]; exact hc0) (by rw [hT]; exact hc1)
    (fun _ h => by cases h) (fun _ h => by cases h) (fun h => by cases h) (fun h => by cases h) hk0 hk1 hkk0 hkk1 (by simp [hprim]) (by decide) (by decide) (nI_pos hN)
    (by rw [hti, arrV_size]; show ¬ ((0 : Int) + N > _); omega)
    (by rw [hti, arrV_size]; show ¬ ((0 : Int) + N > _); omega)
    (fun vm₁ _ j hj => by
      have e : (arrV (gA g t) (m_ln M a0) (av M t a0)).slots.getD ((0 : Int32).toNatClampNeg + j) .null = av M t a0 j := by
        rw [hcl] at hj
        rw [show (0 : Int32).toNatClampNeg + j = j from Nat.zero_add j, Array.getD_eq_getD_getElem?, arrV_read _ _ (by omega)]
        rfl
      refine ⟨?_, ?_⟩
      · rw [e]
        exact hfit j
      · rw [e]
        rcases ht with rfl | rfl <;> exact trivial)
    (g := F0 mi pc lsA (.int (nI N) :: .int 0 :: .ref a :: .int 0 :: .ref a0 :: rest)) rfl (by rw [C.ml]; exact hl.1) (rest := rest) rfl (by rw [C.cc]; exact hd C.lt) (by omega) (by show 2 * 0 + _ + _ ≤ _; omega)
  have e1 : copied (arrV (gA g t) (m_ln M a0) (av M t a0)) (arrV (gA g t) (m_ln M a) (av M t a)) 0 0 (nI N) = arrV (gA g t) (m_ln M a) (av M' t a) := by
    have e2 : copied (arrV (gA g t) (m_ln M a0) (av M t a0)) (arrV (gA g t) (m_ln M a) (av M t a)) 0 0 (nI N) = arrV (gA g t) (m_ln M a) (va_cpy (av M t a0) (av M t a) (0 : Int32).toNatClampNeg (0 : Int32).toNatClampNeg (nI N).toNatClampNeg) := va_copied (fun z => z) (gA g t) (gA g t) (av M t a0) (av M t a) (by rw [hcl]; show 0 + N ≤ _; omega)
    rw [e2, hcl]
    congr 1
    funext j
    rw [hv]
    unfold va_cpy
    by_cases hj : j < N
    · rw [if_pos hj, if_pos ⟨Nat.zero_le _, by show j < 0 + N; omega⟩]
      congr 1
      show 0 + (j - 0) = j
      omega
    · rw [if_neg hj, if_neg (fun z => hj (by have := z.2; change j < 0 + N at this; omega))]
  rw [e1] at X' step
  have hlt : a < H.size := (Array.getElem?_eq_some_iff.mp hc1).1
  have hheap : ((T.setVm vm').setCell a (arrV (gA g t) (m_ln M a) (av M' t a))).heap = H.setIfInBounds a (arrV (gA g t) (m_ln M a) (av M' t a)) := by rw [← hT]; rfl
  have hHn : HR g M' (H.setIfInBounds a (arrV (gA g t) (m_ln M a) (av M' t a))) := hH.arow h1 htx (by simp [Array.getElem?_setIfInBounds, hlt]) (by simp) (fun q hq => by simp [Array.getElem?_setIfInBounds, Ne.symm hq]) g1 g2 g3 g4 g5 g6 ga
  obtain ⟨t', a1, b1⟩ := k p e R s mi ar be me cd _ _ ce sl lsA C hr1 hr2 hr3 hr4 hHn hl (fun q hq => by
      rcases List.mem_append.mp hq with h | h
      · exact hL q h
      · obtain ⟨z, -, hz⟩ := List.mem_map.mp h
        rw [← hz]
        exact (hH.2.2.1 a t h1 htx).1) _ hheap X'
  exact ⟨t', step t' a1, b1⟩
theorem X_copy {i a0 a t N : Nat} {rest : List Value} {M' : Mem} {q0 nx b c w : Nat} {sp : Bool} {ki : Int32} {kl : Int64} (hr : rowAt m pc = some (q0, .invokestatic i, nx, (1002, b, c, w, sp), ki, kl)) (ht : t = 0 ∨ t = 1) (h0 : m_tg M a0 = t + 20) (h1 : m_tg M a = t + 20) (hN : N < 2 ^ 31) (h4 : N ≤ m_ln M a0) (h5 : N ≤ m_ln M a) (hsum : (rest.map fun v => v.category).sum ≤ 8)
    (g1 : m_sz M' = m_sz M) (g2 : m_tg M' = m_tg M) (g3 : m_ln M' = m_ln M) (g4 : m_fi M' = m_fi M) (g5 : m_fl M' = m_fl M) (g6 : m_fr M' = m_fr M)
    (ga : ∀ x, x ≠ a → m_ai M' x = m_ai M x ∧ m_al M' x = m_al M x ∧ m_ar M' x = m_ar M x) (hv : ∀ j, av M' t a j = if j < N then av M t a0 j else av M t a j)
    (k : Eg g (d + 1) m bc bs Z nx ls rest M') : Eg g (d + 1) m bc bs Z pc ls (.int (nI N) :: .int 0 :: .ref a :: .int 0 :: .ref a0 :: rest) M := by
  by_cases hm : m < tb_n
  · obtain ⟨y1, y2⟩ := row_use hr hm
    obtain ⟨hd1, hd2⟩ := dec_of (n := 3) y1 rfl rfl
    have hx := y1
    simp only [rowOk, Bool.and_eq_true, decide_eq_true_eq] at hx
    have y3 : q0 = pc := y2
    subst y3
    have y4 : nx = q0 + 3 := hd2
    subst y4
    have y5 : Cond.methodLink (h_y m).cls i arraycopyName ∈ T0 := wAt_in (by have h9 := hx.2; rw [if_pos (show 1000 ≤ 1002 by omega)] at h9; exact h9)
    exact E_copy ht h0 h1 hN h4 h5 (fun _ => y5) hsum (fun _ => hd1) g1 g2 g3 g4 g5 g6 ga hv k
  · exact Eg.vac hm
/-- a row's numbers as they become -/
def pAi (D : DaT) (a : Nat) (f : Nat → Int32) : DaT := (d_fi D, d_fl D, up1 (d_ai D) a f, d_al D)
def pAl (D : DaT) (a : Nat) (f : Nat → Int64) : DaT := (d_fi D, d_fl D, d_ai D, up1 (d_al D) a f)
theorem X_copyI {S : ShT} {D : DaT} {i a0 a N : Nat} {rest : List Value} {q0 nx b c w : Nat} {sp : Bool} {ki : Int32} {kl : Int64} (hr : rowAt m pc = some (q0, .invokestatic i, nx, (1002, b, c, w, sp), ki, kl)) (h0 : s_tg S a0 = 20 ∧ s_ln S a0 = N) (h1 : s_tg S a = 20 ∧ s_ln S a = N) (hN : N < 2 ^ 31) (hsum : (rest.map fun v => v.category).sum ≤ 8)
    (k : Eg g (d + 1) m bc bs Z nx ls rest (md S (pAi D a (fun j => if j < N then d_ai D a0 j else d_ai D a j)))) : Eg g (d + 1) m bc bs Z pc ls (.int (nI N) :: .int 0 :: .ref a :: .int 0 :: .ref a0 :: rest) (md S D) :=
  X_copy (t := 0) (M' := md S (pAi D a (fun j => if j < N then d_ai D a0 j else d_ai D a j))) hr (Or.inl rfl) h0.1 h1.1 hN (Nat.le_of_eq h0.2.symm) (Nat.le_of_eq h1.2.symm) hsum rfl rfl rfl rfl rfl rfl (fun x hx => ⟨if_neg hx, rfl, rfl⟩) (fun j => by
    show Value.int (up1 (d_ai D) a _ a j) = if j < N then Value.int (d_ai D a0 j) else Value.int (d_ai D a j)
    rw [u1_eq]
    split <;> rfl) k
theorem X_copyL {S : ShT} {D : DaT} {i a0 a N : Nat} {rest : List Value} {q0 nx b c w : Nat} {sp : Bool} {ki : Int32} {kl : Int64} (hr : rowAt m pc = some (q0, .invokestatic i, nx, (1002, b, c, w, sp), ki, kl)) (h0 : s_tg S a0 = 21 ∧ s_ln S a0 = N) (h1 : s_tg S a = 21 ∧ s_ln S a = N) (hN : N < 2 ^ 31) (hsum : (rest.map fun v => v.category).sum ≤ 8)
    (k : Eg g (d + 1) m bc bs Z nx ls rest (md S (pAl D a (fun j => if j < N then d_al D a0 j else d_al D a j)))) : Eg g (d + 1) m bc bs Z pc ls (.int (nI N) :: .int 0 :: .ref a :: .int 0 :: .ref a0 :: rest) (md S D) :=
  X_copy (t := 1) (M' := md S (pAl D a (fun j => if j < N then d_al D a0 j else d_al D a j))) hr (Or.inr rfl) h0.1 h1.1 hN (Nat.le_of_eq h0.2.symm) (Nat.le_of_eq h1.2.symm) hsum rfl rfl rfl rfl rfl rfl (fun x hx => ⟨rfl, if_neg hx, rfl⟩) (fun j => by
    show Value.long (up1 (d_al D) a _ a j) = if j < N then Value.long (d_al D a0 j) else Value.long (d_al D a j)
    rw [u1_eq]
    split <;> rfl) k
end COPY
