/-! the tables' own facts of the kinds -/
def tyC : Nat → Nat → FieldType
  | 0 => tyX0 | 1 => tyX1 | 2 => tyX2 | 3 => tyX3 | 4 => tyX4 | 5 => tyX5 | 6 => tyX6 | 7 => tyX7 | 8 => tyX8 | 9 => tyX9 | 10 => tyX10 | _ => tyX11
theorem cls_cases {P : Nat → vw_C → Prop} (h0 : P 0 (RX0, TX0, 8)) (h1 : P 1 (RX1, TX1, 2)) (h2 : P 2 (RX2, TX2, 3)) (h3 : P 3 (RX3, TX3, 1)) (h4 : P 4 (RX4, TX4, 9)) (h5 : P 5 (RX5, TX5, 10)) (h6 : P 6 (RX6, TX6, 1)) (h7 : P 7 (RX7, TX7, 4)) (h8 : P 8 (RX8, TX8, 10)) (h9 : P 9 (RX9, TX9, 10)) (h10 : P 10 (RX10, TX10, 25)) (h11 : P 11 (RX11, TX11, 15)) : ∀ ci q, vwCl[ci]? = some q → P ci q := by
  intro ci q h
  match ci, h with
  | 0, h => cases h; exact h0
  | 1, h => cases h; exact h1
  | 2, h => cases h; exact h2
  | 3, h => cases h; exact h3
  | 4, h => cases h; exact h4
  | 5, h => cases h; exact h5
  | 6, h => cases h; exact h6
  | 7, h => cases h; exact h7
  | 8, h => cases h; exact h8
  | 9, h => cases h; exact h9
  | 10, h => cases h; exact h10
  | 11, h => cases h; exact h11
  | n + 12, h => simp [vwCl] at h
theorem cls_ty : ∀ (ci : Nat) (q : vw_C), vwCl[ci]? = some q → ∀ k, k < q.2.2 → parseFieldDescriptor (q.2.1 k).2.2.1 = some (tyC ci k) :=
  cls_cases (P := fun ci q => ∀ k, k < q.2.2 → parseFieldDescriptor (q.2.1 k).2.2.1 = some (tyC ci k)) tyX0_ok tyX1_ok tyX2_ok tyX3_ok tyX4_ok tyX5_ok tyX6_ok tyX7_ok tyX8_ok tyX9_ok tyX10_ok tyX11_ok
theorem cls_nm : ∀ (ci : Nat) (q : vw_C), vwCl[ci]? = some q → ∀ a, a < q.2.2 → ∀ b, b < q.2.2 → a ≠ b → (q.2.1 a).2.1 ≠ (q.2.1 b).2.1 :=
  cls_cases (P := fun ci q => ∀ a, a < q.2.2 → ∀ b, b < q.2.2 → a ≠ b → (q.2.1 a).2.1 ≠ (q.2.1 b).2.1) nmX0 nmX1 nmX2 nmX3 nmX4 nmX5 nmX6 nmX7 nmX8 nmX9 nmX10 nmX11
theorem inT0 {L : List Cond} (h : (L.all fun w => (lw_tbl.any fun u => decide (u = w)) && goodWord w) = true) : ∀ w ∈ L, w ∈ T0 := by
  intro w hw
  have h1 := List.all_eq_true.mp h w hw
  simp only [Bool.and_eq_true, List.any_eq_true, decide_eq_true_eq] at h1
  obtain ⟨⟨u, hu, rfl⟩, h2⟩ := h1
  exact List.mem_filter.mpr ⟨hu, h2⟩
set_option maxRecDepth 100000 in
theorem cls_in : ∀ (ci : Nat) (q : vw_C), vwCl[ci]? = some q → ∀ w ∈ u_ws q.1 q.2.1 q.2.2, w ∈ T0 :=
  cls_cases (P := fun ci q => ∀ w ∈ u_ws q.1 q.2.1 q.2.2, w ∈ T0) (inT0 (by decide +kernel)) (inT0 (by decide +kernel)) (inT0 (by decide +kernel)) (inT0 (by decide +kernel)) (inT0 (by decide +kernel)) (inT0 (by decide +kernel)) (inT0 (by decide +kernel)) (inT0 (by decide +kernel)) (inT0 (by decide +kernel)) (inT0 (by decide +kernel)) (inT0 (by decide +kernel)) (inT0 (by decide +kernel))
def sortFits (ty : FieldType) (k : Nat) : Bool := match ty with
  | .int => Nat.beq k 0
  | .long => Nat.beq k 1
  | .boolean => Nat.beq k 3
  | .object _ => Nat.beq k 2
  | .array _ => Nat.beq k 2
  | _ => false
theorem cls_srt : ∀ (ci : Nat) (q : vw_C), vwCl[ci]? = some q → ∀ k, k < q.2.2 → sortFits (tyC ci k) (srt (32 * ci + k)) = true :=
  cls_cases (P := fun ci q => ∀ k, k < q.2.2 → sortFits (tyC ci k) (srt (32 * ci + k)) = true) (by decide +kernel) (by decide +kernel) (by decide +kernel) (by decide +kernel) (by decide +kernel) (by decide +kernel) (by decide +kernel) (by decide +kernel) (by decide +kernel) (by decide +kernel) (by decide +kernel) (by decide +kernel)
/-- what a field's row says -/
theorem fld_spec {y : MethodName} {i a b c w : Nat} {pt : Bool} (h : fldOk y i a b c w pt = true) : ∃ (ci k : Nat) (q : vw_C), b = ci + 1 ∧ a = 32 * ci + k ∧ ci < 12 ∧ vwCl[ci]? = some q ∧ k < q.2.2 ∧ c % 10 = srt a ∧
    (Cond.fieldLinkNest y.cls i (q.2.1 k).1 (q.2.1 k).2.1 (q.2.1 k).2.2.1 (hostOf y.cls) ∈ TN ∧ (c / 10) % 2 = 1 ∨ Cond.fieldLink y.cls i (q.2.1 k).1 (q.2.1 k).2.1 (q.2.1 k).2.2.1 ∈ T0 ∧ ¬ (c / 10) % 2 = 1) ∧
    (pt = true → ((q.2.1 k).2.2.2 = false ∨ ((q.2.1 k).2.2.2 = true ∧ ¬ (c / 10) % 2 = 1 ∧ y.name = "<init>" ∧ (q.2.1 k).1 = y.cls))) := by
  unfold fldOk at h
  split at h
  · rename_i q hq
    simp only [Bool.and_eq_true, decide_eq_true_eq, Bool.or_eq_true, Bool.not_eq_true'] at h
    obtain ⟨⟨⟨h1, h2, h3, h4, h5⟩, h6⟩, h7⟩ := h
    refine ⟨b - 1, a - 32 * (b - 1), q, by omega, by omega, by omega, hq, h3, h4, ?_, fun hp => ?_⟩
    · split at h6
      · rename_i hc
        exact Or.inl ⟨nAt_in h6, hc⟩
      · rename_i hc
        exact Or.inr ⟨wAt_in h6, hc⟩
    · rw [hp] at h7
      rcases h7 with h7 | ⟨h7, h8⟩
      · cases h7
      · rcases h8 with h8 | h8
        · left
          rw [h7]
          exact decide_eq_false (by omega)
        · by_cases h9 : 20 ≤ c
          · right
            exact ⟨by rw [h7]; exact decide_eq_true h9, by omega, h8.2.1, h8.2.2⟩
          · left
            rw [h7]
            exact decide_eq_false h9
  · cases h
section HEAP
variable {g : GG} {d m bc bs pc : Nat} {Z : ZT} {ls : LsT} {st : List Value} {M : Mem}
theorem E_getf {i a b c w o : Nat} {pt : Bool} (hf : m < tb_n → fldOk (h_y m) i a b c w pt = true) (ht : m_tg M o = b) (hd : m < tb_n → decode (h_c m) pc = .ok (.getfield i, 3)) (k : Eg g d m bc bs Z (pc + 3) ls (fv M a o :: st) M) : Eg g d m bc bs Z pc ls (.ref o :: st) M := by
  refine Eg.mk1 (fun p e R s mi ar be me cd H lo ce sl lsA C hH hl Q kk => ?_) k
  obtain ⟨ci, kf, q, hb, ha, hci, hq, hk, hs, hlink, -⟩ := fld_spec (hf C.lt)
  obtain ⟨-, r, hr, cell, q1, q2, q3, q4⟩ := hH.2.1 o ci (by rw [ht, hb]) hci
  cases hq.symm.trans hr
  obtain ⟨hS, hfc, kC, hkC, hkind⟩ := C.wd.k.1 ci _ hq
  obtain ⟨cf, kf', fi, f, hi, hsl⟩ := hS kf hk
  have hst := (u_facts hfc hkC (u_lays C.ts (cls_in ci q hq) hk) hi).1
  have hv : cell.slots[f.slot]? = some (fv M a o) := by rw [hsl, q4 kf hk, ha]
  rcases hlink with ⟨hlink, -⟩ | ⟨hlink, -⟩
  · exact va_Wgetf C.ex C.cc C.ow (va_Nw.use rfl (C.wd.tn hlink)) hi hst q1 (by rw [q3]; exact fun h => by cases h) hv rfl rfl (hd C.lt) kk
  · exact W.getf C.ex C.cc C.ow (C.ts _ hlink) hi hst q1 (by rw [q3]; exact fun h => by cases h) hv rfl rfl (hd C.lt) kk
theorem HR.put {M M' : Mem} {H H' : Heap} {o ci k : Nat} {q : vw_C} {cell : Cell} {v : Value} (h : HR g M H) (ht : m_tg M o = ci + 1) (hci : ci < 12) (hq : vwCl[ci]? = some q) (hk : k < q.2.2)
    (hap : ∀ x y, x < q.2.2 → y < q.2.2 → x ≠ y → (gD g).2 ci x ≠ (gD g).2 ci y) (hc : H[o]? = some cell) (e1 : H'[o]? = some (cell.setSlot ((gD g).2 ci k) v)) (e2 : H'.size = H.size) (e3 : ∀ q, q ≠ o → H'[q]? = H[q]?)
    (g1 : m_sz M' = m_sz M) (g2 : m_tg M' = m_tg M) (g3 : m_ln M' = m_ln M) (g4 : m_ai M' = m_ai M) (g5 : m_al M' = m_al M) (g6 : m_ar M' = m_ar M)
    (hfv : ∀ k' o', fv M' k' o' = if k' = 32 * ci + k ∧ o' = o then v else fv M k' o') : HR g M' H' := by
  obtain ⟨⟨s1, s2, s3⟩, ho, ha, hs1, hs2, ⟨b1, b2, b3, b4⟩, hs3, hs4, hs5, hs6⟩ := h
  have hbo := (ho o ci ht hci).1
  refine ⟨⟨by rw [e2, g1]; exact s1, by rw [g1]; exact s2, by rw [g1, g2]; exact s3⟩, fun x cx hx hcx => ?_, fun x t hx htx => ?_, ?_, ?_, ⟨b1, b2, b3, fun a ha => (e3 _ (by omega)).trans (b4 a ha)⟩, ?_, ?_, ?_, hs6⟩
  · rw [g2] at hx
    obtain ⟨z1, r, hr, cx', q1, q2, q3, q4⟩ := ho x cx hx hcx
    refine ⟨z1, r, hr, ?_⟩
    by_cases hxo : x = o
    · subst hxo
      have hcc : cx = ci := by omega
      subst hcc
      cases hq.symm.trans hr
      cases hc.symm.trans q1
      refine ⟨_, e1, q2, q3, fun j hj => ?_⟩
      rw [t_set q4 hap hk v j hj]
      show some (updV _ k v j) = some (fv M' (32 * cx + j) x)
      simp only [updV]
      by_cases hjk : j = k
      · subst hjk
        rw [if_pos rfl, hfv, if_pos ⟨rfl, rfl⟩]
      · rw [if_neg hjk, hfv, if_neg (fun z => hjk (by omega))]
    · refine ⟨cx', by rw [e3 x hxo]; exact q1, q2, q3, fun j hj => ?_⟩
      rw [q4 j hj]
      show some (fv M (32 * cx + j) x) = some (fv M' (32 * cx + j) x)
      rw [hfv, if_neg (fun z => hxo z.2)]
  · rw [g2] at hx
    obtain ⟨z1, z2, z3⟩ := ha x t hx htx
    have hxo : x ≠ o := fun z => by subst z; omega
    refine ⟨z1, by rw [g3]; exact z2, ?_⟩
    rw [e3 x hxo, z3, g3]
    congr 2
    funext j
    simp only [av, g4, g5, g6]
  · rw [g2, g3, g4]; exact hs1
  · rw [g2, g3, g5]; exact hs2
  · rw [e3 _ (by omega)]; exact hs3
  · rw [e3 _ (by omega)]; exact hs4
  · rw [e3 _ (by omega)]; exact hs5
theorem E_putf {i a b c w o : Nat} {M' : Mem} {v : Value} (hf : m < tb_n → fldOk (h_y m) i a b c w true = true) (ht : m_tg M o = b) (hd : m < tb_n → decode (h_c m) pc = .ok (.putfield i, 3))
    (hty : ∀ ty, sortFits ty (srt a) = true → narrow ty v = v ∧ fits ty v = true)
    (g1 : m_sz M' = m_sz M) (g2 : m_tg M' = m_tg M) (g3 : m_ln M' = m_ln M) (g4 : m_ai M' = m_ai M) (g5 : m_al M' = m_al M) (g6 : m_ar M' = m_ar M)
    (hfv : ∀ k' o', fv M' k' o' = if k' = a ∧ o' = o then v else fv M k' o')
    (k : Eg g d m bc bs Z (pc + 3) ls st M') : Eg g d m bc bs Z pc ls (v :: .ref o :: st) M := by
  refine Eg.mk3 (fun p e R s mi ar be me cd H lo ce sl lsA C hH hl Q kk => ?_) k
  obtain ⟨ci, kf, q, hb, ha, hci, hq, hk, hs, hlink, hput⟩ := fld_spec (hf C.lt)
  have ht' : m_tg M o = ci + 1 := by rw [ht, hb]
  obtain ⟨hbo, r, hr, cell, q1, q2, q3, q4⟩ := hH.2.1 o ci ht' hci
  cases hq.symm.trans hr
  obtain ⟨hS, hfc, kC, hkC, hkind⟩ := C.wd.k.1 ci _ hq
  obtain ⟨cf, kf', fi, f, hi, hsl⟩ := hS kf hk
  have hap := va_apart (own := (h_y m).cls) C.ts (cls_in ci q hq) (tyC ci) (cls_ty ci q hq) (cls_nm ci q hq) C.wd.k hq
  have hlay := C.ts _ (cls_in ci q hq _ (u_in_lay hk))
  have hst := (u_facts hfc hkC (u_lays C.ts (cls_in ci q hq) hk) hi).1
  have hd0 := cls_ty ci q hq kf hk
  obtain ⟨hn, hfit⟩ := hty (tyC ci kf) (by rw [ha]; exact cls_srt ci q hq kf hk)
  have fin : ∀ H' : Heap, H'[o]? = some (cell.setSlot f.slot v) → H'.size = H.size → (∀ q, q ≠ o → H'[q]? = H[q]?) → W p (gL g) e R s mi ar be me cd H' (lo ++ [⟨o, f.slot⟩]) ce sl Q (F0 mi (pc + 3) lsA st) := fun H' e1 e2 e3 =>
    kk H' o f.slot hbo (hH.put ht' hci hq hk hap q1 (by rw [← hsl]; exact e1) e2 e3 g1 g2 g3 g4 g5 g6 (by rw [← ha]; exact hfv))
  unfold u_lay at hlay
  rcases hput rfl with hfin | ⟨hfin, hnn, hnm, hdecl⟩
  · rw [if_neg (by rw [hfin]; decide)] at hlay
    have h6 := u_store hfc hkC hkind hlay hi hd0 hn hfit
    rcases hlink with ⟨hlink, -⟩ | ⟨hlink, -⟩
    · exact va_WputK C.ex C.cc (f := f) C.ow (va_Nw.use rfl (C.wd.tn hlink)) hi hst (by rw [q2]; exact h6) q1 q3 (by rw [hsl]; exact k2_hasslot (q4 kf hk)) rfl rfl (hd C.lt) fin
    · exact W.putK C.ex C.cc (f := f) ⟨C.ow, C.ts _ hlink, ⟨_, _, _, hi⟩, hst⟩ (by rw [q2]; exact h6) q1 q3 (by rw [hsl]; exact k2_hasslot (q4 kf hk)) rfl rfl (hd C.lt) fin
  · rw [if_pos hfin] at hlay
    have hcf : mi.cls = cf := by
      obtain ⟨_, _, c', _, _, _, -, -, hf', -, -, -, hown2, -⟩ := Cond.laysFinal_spec hlay
      have e1 : c' = cf := by have := hi.symm.trans hf'; simp at this; exact this.1.symm
      rw [hdecl] at hown2
      rw [← e1]; exact Option.some.inj (C.ow.symm.trans hown2)
    have h6 := u_fits hfc hkC hkind (Or.inr hlay) hi hd0 hn hfit
    rcases hlink with ⟨-, hlink⟩ | ⟨hlink, -⟩
    · exact absurd hlink hnn
    · exact W.putFinK C.ex C.cc C.ow (C.ts _ hlink) hi hst hcf (C.nm.trans hnm) (by rw [q2]; exact h6) q1 q3 (by rw [hsl]; exact k2_hasslot (q4 kf hk)) rfl rfl (hd C.lt) fin
end HEAP
