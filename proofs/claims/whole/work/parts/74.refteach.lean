/-! a text, taught to the reference -/
theorem Eg.fit {g : GG} {d m bc bs bc' bs' pc : Nat} {Z : ZT} {ls : LsT} {st : List Value} {M : Mem} (k : Eg g d m bc bs Z pc ls st M) (h1 : bc ≤ bc') (h2 : bs ≤ bs') : Eg g d m bc' bs' Z pc ls st M :=
  fun p e R s mi ar be me cd H lo ce sl lsA C a1 a2 a3 a4 => k p e R s mi ar be me cd H lo ce sl lsA C a1 a2 (by omega) (by omega)
def pfr (S : ShT) (k a : Nat) (v : Option Nat) : ShT := (s_sz S, s_tg S, s_ln S, up2 (s_fr S) k a v, s_ar S)
theorem w_fr_md (S : ShT) (D : DaT) (k a : Nat) (v : Option Nat) : w_fr (md S D) k a v = md (pfr S k a v) D := rfl
theorem rd_fr {S : ShT} {k a k' a' : Nat} {v : Option Nat} : s_fr (pfr S k a v) k' a' = if k' = k ∧ a' = a then v else s_fr S k' a' := rfl
def GroY (S S1 : ShT) (k Y : Nat) : Prop := s_sz S1 = s_sz S + k ∧ ∀ a, a < s_sz S → (s_tg S1 a = s_tg S a ∧ s_ln S1 a = s_ln S a ∧ s_ar S1 a = s_ar S a) ∧ (a ≠ Y → ∀ q, s_fr S1 q a = s_fr S q a)
theorem Gro.y {S S1 : ShT} {k Y : Nat} (h : Gro S S1 k) : GroY S S1 k Y := ⟨h.1, fun a ha => ⟨⟨(h.2 a (Nat.zero_le _) ha).1, (h.2 a (Nat.zero_le _) ha).2.1, (h.2 a (Nat.zero_le _) ha).2.2.2⟩, fun _ => (h.2 a (Nat.zero_le _) ha).2.2.1⟩⟩
def TeP (S : ShT) (D : DaT) (Y : Nat) (K : KT) (T P : List Nat) : Option Value → Mem → Prop := fun v M1 => ∃ S1 D1 k A' A2', k ≤ 403 ∧ v = some (.int (nI (teachR T K).1)) ∧ M1 = md S1 D1 ∧ GroY S S1 k Y ∧ MoL S1 Y A' A2' ∧ OutR S Y D D1 ∧ RmR D1 Y A' (teachR T K).2.2 [] P (teachR T K).2.1
/-- what the reading leaves as it was -/
theorem RepR.at {S : ShT} {D D1 : DaT} {Y A : Nat} {K : KT} (h : RepR D A K) (ho : AtO S Y D D1) (hA : Y < A) (hz : A + 18 ≤ s_sz S) : RepR D1 A K := h.same (fun k => (ho A (by omega)).1 k (by omega)) (fun r h1 h2 => ⟨(ho (A + r) (by omega)).2.2.1, (ho (A + r) (by omega)).2.2.2⟩)
theorem PapR.fi {D : DaT} {Y k : Nat} {P : List Nat} {v : Int32} (h : PapR D Y P) (hk : k ≠ 357) : PapR (pfi D k Y v) Y P := ⟨by rw [rd_fi, if_neg (by omega)]; exact h.1, h.2⟩
theorem PapR.at {S : ShT} {D D1 : DaT} {Y : Nat} {P : List Nat} (h : PapR D Y P) (ho : AtO S Y D D1) (hz : Y + 8 ≤ s_sz S) : PapR D1 Y P := ⟨by rw [(ho Y (by omega)).1 357 (by omega)]; exact h.1, by rw [(ho (Y + 2) (by omega)).2.2.1]; exact h.2.1, h.2.2⟩
theorem KwR.at {S : ShT} {D D1 : DaT} {Y : Nat} (h : KwR D Y) (ho : AtO S Y D D1) (hz : Y + 8 ≤ s_sz S) : KwR D1 Y := by
  unfold KwR
  rw [(ho (Y + 3) (by omega)).2.2.2]
  exact h
theorem PapR.co {D D1 : DaT} {Y A2 : Nat} {P : List Nat} (h : PapR D Y P) (ho : CoO Y A2 D D1) (hA : Y + 8 ≤ A2) : PapR D1 Y P := ⟨by rw [(ho Y (by omega)).1 357 (by omega)]; exact h.1, by rw [(ho (Y + 2) (by omega)).2.2.1]; exact h.2.1, h.2.2⟩
theorem KwR.co {D D1 : DaT} {Y A2 : Nat} (h : KwR D Y) (ho : CoO Y A2 D D1) (hA : Y + 8 ≤ A2) : KwR D1 Y := by
  unfold KwR
  rw [(ho (Y + 3) (by omega)).2.2.2]
  exact h
theorem RepR.cy {D D1 : DaT} {Y A A2 : Nat} {K : KT} (h : RepR D A K) (ho : CoO Y A2 D D1) (hA : Y < A) (hd : A + 20 ≤ A2 ∨ A2 + 20 ≤ A) : RepR D1 A K := h.same (fun k => (ho A (by omega)).1 k (by omega)) (fun r h1 h2 => ⟨(ho (A + r) (by omega)).2.2.1, (ho (A + r) (by omega)).2.2.2⟩)
theorem OutR.at {S : ShT} {D D1 : DaT} {Y : Nat} (ho : AtO S Y D D1) : OutR S Y D D1 := fun a h1 h2 => ⟨fun k => (ho a h1).1 k (by omega), (ho a h1).2.1, (ho a h1).2.2.1, (ho a h1).2.2.2⟩
theorem OutR.co {S : ShT} {D D1 : DaT} {Y A2 : Nat} (ho : CoO Y A2 D D1) (hA : Y ≤ A2 ∧ A2 + 20 ≤ Y + 48) : OutR S Y D D1 := fun a h1 h2 => ⟨fun k => (ho a (by omega)).1 k (by omega), (ho a (by omega)).2.1, (ho a (by omega)).2.2.1, (ho a (by omega)).2.2.2⟩
theorem OutR.w {S : ShT} {D D1 : DaT} {Y : Nat} (ho : TkW Y D D1) : OutR S Y D D1 := fun a h1 h2 => ⟨fun k => ho.1 k a (by omega), fun k => by rw [ho.2.1], (ho.2.2 a (by omega)).1, (ho.2.2 a (by omega)).2⟩
theorem OutR.mono {S S1 : ShT} {D D1 : DaT} {Y : Nat} (h : OutR S1 Y D D1) (hl : s_sz S ≤ s_sz S1) : OutR S Y D D1 := fun a h1 h2 => h a (by omega) h2
theorem RepR.w {D D1 : DaT} {Y A : Nat} {K : KT} (h : RepR D A K) (ho : TkW Y D D1) (hA : Y + 8 ≤ A) : RepR D1 A K := h.same (fun k => ho.1 k A (by omega)) (fun r h1 h2 => ho.2.2 (A + r) (by omega))
theorem PapR.w {D D1 : DaT} {Y : Nat} {P : List Nat} (h : PapR D Y P) (ho : TkW Y D D1) : PapR D1 Y P := ⟨by rw [ho.1 357 Y (by omega)]; exact h.1, by rw [(ho.2.2 (Y + 2) (by omega)).1]; exact h.2.1, h.2.2⟩
section REFTEACH
variable {g : GG} {d c : Nat} {S : ShT} {D : DaT} {Y A A2 : Nat} {K : KT} {T P : List Nat} {e : Int32}
/-- the sentences, one by one: their form -/
theorem Rforms {e1 : Nat} {b0 : Bool} {Q : Option Value → Mem → Prop} (hY : MoL S Y A A2) (hz : Y + 48 ≤ s_sz S) (hT : TokR D Y T (tN T + 1))
    (k : ∀ S1 D1, (∃ q, q ≤ 403 ∧ Gro S S1 q) → AtO S Y D D1 → d_fi D1 364 Y = nI e1 → Eg g (d + 2) mX11_teach 0 0 (Zr g Q) 53 [(0, .ref Y), (1, .int (b2i (!b0)))] [] (md S1 D1)) :
    ∀ (n r : Nat) (S1 : ShT) (D1 : DaT) (q : Nat), r ≤ tN T → textR (kdA T) n r = (b0, e1) → n ≠ 0 → tN T + 1 ≤ r + n → q ≤ r → Gro S S1 q → AtO S Y D D1 → d_fi D1 364 Y = nI r → Eg g (d + 2) mX11_teach (403 - r) (4 * (403 - r)) (Zr g Q) 21 [(0, .ref Y), (1, .int 0)] [] (md S1 D1) := by
  intro n
  induction n with
  | zero => intro r S1 D1 q _ _ h; exact absurd rfl h
  | succ n ih =>
    intro r S1 D1 q hr ht _ hn hq hG hA hat
    have hN := tN_le T
    have hY1 := hY.gro hG hz
    obtain ⟨hy, hzz, -⟩ := id hY1
    have hz1 : Y + 48 ≤ s_sz S1 := by have := hG.1; omega
    have hT1 := hT.at hA (by omega)
    have xr := vx (show r < 402 by omega) (by decide)
    have ty := kdA_ty hT1 hr
    have hle := kdA_le T r
    refine X_run rfl trivial ?_
    refine X_if_ne rfl (fun z => absurd rfl z) (fun _ => ?_)
    refine X_run rfl ?_ ?_
    · simp [md_s, md_w, rget, r_a, r_b, r_c, r_i, r_l, hy, hzz, hat, xr, ty]
    try simp only [md_s, md_w, rget_some, r_a, r_b, r_c, r_i, r_l, r_nx, r_pc, Nat.reduceEqDiff, false_and, if_false, hy, hzz, hat, xr, ty]
    by_cases c1 : kdA T r = 14
    · have : textR (kdA T) (n + 1) r = (true, r) := if_pos c1
      rw [this] at ht
      cases ht
      rw [c1]
      refine X_if_eq rfl (fun _ => ?_) (fun z => absurd (by decide) z)
      exact Eg.fit (k S1 D1 ⟨q, by omega, hG⟩ hA hat) (by omega) (by omega)
    · have ht' : andR (sentK (kdA T) r) (textR (kdA T) n) = (b0, e1) := by rw [← ht]; exact (if_neg c1).symm
      refine X_if_eq rfl (fun z => absurd ((rkd_0 _ hle).mp (nI_inj (by have := rk_le _ hle; omega) (by decide) z)) c1) (fun _ => ?_)
      refine X_run rfl trivial ?_
      rw [show 403 - r = (400 - r) + 3 by omega, show 4 * (400 - r + 3) = (4 * (400 - r) + 1) + 11 by omega]
      refine X_callV (args := []) (bc1 := 3) (bs1 := 11) rfl (by decide) hy.1 rfl rfl (Nat.le_of_ble_eq_true rfl) (c_isSentence hY1 hz1 hT1 hat hr) ?_
      rintro _ _ ⟨S2, D2, q2, hq2, rfl, rfl, hG2, hat2, hA2⟩
      have hG3 := hG.tr hG2
      have hA3 : AtO S Y D D2 := hA.tr (hA2.sub (by have := hG.1; omega))
      cases hb : (sentK (kdA T) r).1 with
      | false =>
        have : andR (sentK (kdA T) r) (textR (kdA T) n) = sentK (kdA T) r := by unfold andR; rw [hb]; rfl
        rw [this] at ht'
        rw [ht'] at hb hat2
        dsimp only at hb hat2
        subst hb
        refine X_if_eq rfl (fun _ => ?_) (fun z => absurd rfl z)
        have k2 := k S2 D2 ⟨q + q2, by omega, hG3⟩ hA3 hat2
        refine X_run rfl trivial ?_
        refine X_run rfl trivial ?_
        refine X_if_ne rfl (fun _ => ?_) (fun z => absurd z (by decide))
        exact Eg.fit (Eg.sub k2 ⟨rfl, rfl, trivial⟩) (by omega) (by omega)
      | true =>
        have : andR (sentK (kdA T) r) (textR (kdA T) n) = textR (kdA T) n (sentK (kdA T) r).2 := if_pos hb
        rw [this] at ht'
        have hV : VS (kdA T) r (sentK (kdA T) r).2 := sent_VS (e := (sentK (kdA T) r).2) (Prod.ext hb rfl)
        have hse := hV.semi
        have hin := sent_in (kdA_N T) hr
        generalize (sentK (kdA T) r).2 = r2 at ht' hat2 hse hin
        have hn0 : n ≠ 0 := fun z => by omega
        refine X_if_eq rfl (fun z => absurd z (by decide)) (fun _ => ?_)
        refine X_run rfl trivial ?_
        exact Eg.fit (Eg.sub (ih r2 S2 D2 (q + q2) hin ht' hn0 (by omega) (by omega) hG3 hA3 hat2) ⟨rfl, rfl, trivial⟩) (by omega) (by omega)
/-- the sentences, one by one: carried out on the copy -/
theorem Rcarry {e0 : Nat} {Q : Option Value → Mem → Prop} (hY : MoL S Y A A2)
    (kerr : ∀ (D1 : DaT) (x : Nat × Nat), tellR T (tN T + 1) K 0 = .error x → x.2 ≤ tN T → CoO Y A2 D D1 → d_fi D1 364 Y = nI x.2 → Eg g (d + 4) mX11_teach 0 0 (Zr g Q) 97 [(0, .ref Y), (1, .int (nI x.1))] [] (md S D1))
    (kok : ∀ (D1 : DaT) (K1 : KT), tellR T (tN T + 1) K 0 = .ok K1 → CoO Y A2 D D1 → RepR D1 A2 K1 → Eg g (d + 4) mX11_teach 0 0 (Zr g Q) 97 [(0, .ref Y), (1, .int 0)] [] (md S D1)) (hT : TokR D Y T (tN T + 1)) :
    ∀ (n s : Nat) (K' : KT) (D1 : DaT), s ≤ tN T → textR (kdA T) n s = (true, e0) → n ≠ 0 → tN T + 1 ≤ s + n → tellR T n K' s = tellR T (tN T + 1) K 0 → WfK K' → WrK K' → RepR D1 A2 K' → CoO Y A2 D D1 → d_fi D1 364 Y = nI s → Eg g (d + 4) mX11_teach 0 0 (Zr g Q) 73 [(0, .ref Y), (1, .int 0)] [] (md S D1) := by
  intro n
  induction n with
  | zero => intro s K' D1 _ _ h; exact absurd rfl h
  | succ n ih =>
    intro s K' D1 hs ht _ hn hte hW hK hR hO hat
    obtain ⟨l1, l2, l3⟩ := hY.lo
    have hN := tN_le T
    obtain ⟨hy, hzz, -⟩ := id hY
    have hT1 := hT.co hO (by omega)
    have xs := vx (show s < 402 by omega) (by decide)
    have ty := kdA_ty hT1 hs
    have hle := kdA_le T s
    refine X_run rfl trivial ?_
    refine X_if_ne rfl (fun z => absurd rfl z) (fun _ => ?_)
    refine X_run rfl ?_ ?_
    · simp [md_s, md_w, rget, r_a, r_b, r_c, r_i, r_l, hy, hzz, hat, xs, ty]
    try simp only [md_s, md_w, rget_some, r_a, r_b, r_c, r_i, r_l, r_nx, r_pc, Nat.reduceEqDiff, false_and, if_false, hy, hzz, hat, xs, ty]
    by_cases c1 : kdA T s = 14
    · have e1 : tellR T (n + 1) K' s = .ok K' := if_pos c1
      rw [c1]
      refine X_if_eq rfl (fun _ => ?_) (fun z => absurd (by decide) z)
      exact kok D1 K' (by rw [← hte, e1]) hO hR
    · obtain ⟨s2, h1, h2⟩ := textR_t ht c1
      have hV := sent_VS h1
      have hse := hV.semi
      have hin := sent_in (kdA_N T) hs
      have e2 : (sentK (kdA T) s).2 = s2 := by rw [h1]
      rw [e2] at hin
      refine X_if_eq rfl (fun z => absurd ((rkd_0 _ hle).mp (nI_inj (by have := rk_le _ hle; omega) (by decide) z)) c1) (fun _ => ?_)
      refine X_run rfl trivial ?_
      refine X_cV (args := []) rfl (by decide) hy.1 rfl rfl (Nat.le_of_ble_eq_true rfl) (c_carryOut hY hT1 hW hK hR hat hV) ?_
      rintro _ _ ⟨D2, rfl, hO2, hres⟩
      have eR : tellR T (n + 1) K' s = (match tellS T K' s with | .error x => .error x | .ok K1 => tellR T n K1 (sentK (kdA T) s).2) := if_neg c1
      cases hs' : tellS T K' s with
      | error x =>
        rw [hs'] at hres eR
        obtain ⟨rfl, hat2, hx⟩ := hres
        have hx6 := tellS_err hs'
        refine X_run rfl trivial ?_
        refine X_run rfl trivial ?_
        refine X_if_ne rfl (fun _ => ?_) (fun z => absurd (nI_inj (b := 0) (by omega) (by decide) z) (by omega))
        exact kerr D2 x (by rw [← hte, eR]) hx (hO.tr hO2) hat2
      | ok K1 =>
        rw [hs'] at hres eR
        obtain ⟨rfl, hat2, hR2⟩ := hres
        dsimp only at eR
        rw [e2] at eR
        obtain ⟨hW1, hK1⟩ := tellS_ok hW hK hV hs'
        have hn0 : n ≠ 0 := fun z => by omega
        refine X_run rfl trivial ?_
        exact ih s2 K1 D2 hin h2 hn0 (by omega) (by rw [← hte, eR]) hW1 hK1 hR2 (hO.tr hO2) hat2
theorem c_Mteach (hY : MoL S Y A A2) (hz : Y + 48 ≤ s_sz S) (hW : WfK K) (hK : WrK K) (hM : RmR D Y A K T P e) : EvM g (d + 5) mX11_teach 403 1612 [.ref Y] (md S D) (TeP S D Y K T P) := by
  obtain ⟨l1, l2, l3⟩ := hY.lo
  obtain ⟨hy, hzz, ⟨hL, hL2⟩, -⟩ := id hY
  obtain ⟨D1, e1, z1, y1⟩ := wr_fi D 352 Y 0
  have hM1 : RmR D1 Y A K T P e := e1 ▸ hM.thr (by omega) (by decide)
  have hO1 : OutR S Y D D1 := e1 ▸ OutR.fi
  obtain ⟨r1, r2, r3, r4, r5⟩ := hM1
  refine EvM.mk (by decide) (Nat.le_of_ble_eq_true rfl) ?_
  refine X_run rfl ?_ ?_
  · simp [md_s, md_w, rget, r_a, r_b, r_c, r_i, r_l, hy, e1]
  try simp only [md_s, md_w, rget_some, r_a, r_b, r_c, r_i, r_l, r_nx, r_pc, Nat.reduceEqDiff, false_and, if_false, hy, e1]
  refine X_callV (args := []) (bc := 403) (bs := 1612) (bc1 := 0) (bs1 := 0) rfl (by decide) hy.1 rfl rfl (Nat.le_of_ble_eq_true rfl) (c_read hY r2 r4) ?_
  rintro _ _ ⟨D2, rfl, rfl, hT2, hW2⟩
  have hR2 := r1.w hW2 (by omega)
  have hP2 := r3.w hW2
  have hK2 := r4.w hW2
  obtain ⟨D3, e3, z3, y3⟩ := wr_fi D2 354 Y 0
  obtain ⟨D4, e4, z4, y4⟩ := wr_fi D3 364 Y 0
  have hO4 : OutR S Y D D4 := ((hO1.tr (OutR.w hW2)).tr (e3 ▸ OutR.fi)).tr (e4 ▸ OutR.fi)
  have hR4 : RepR D4 A K := (hR2.out (e3 ▸ Out.fi (lo := Y) (hi := Y + 1) (by omega)) (by omega)).out (e4 ▸ Out.fi (lo := Y) (hi := Y + 1) (by omega)) (by omega)
  have hP4 : PapR D4 Y P := e4 ▸ (e3 ▸ hP2.fi (by decide) : PapR D3 Y P).fi (by decide)
  have hK4 : KwR D4 Y := by unfold KwR; rw [y4.2.2, y3.2.2]; exact hK2
  have hT4 : TokR D4 Y T (tN T + 1) := e4 ▸ (e3 ▸ hT2.fi : TokR D3 Y T (tN T + 1)).fi
  have b4 : d_fi D4 354 Y = 0 := by rw [z4, if_neg (by omega), z3, if_pos ⟨rfl, rfl⟩]
  have a4 : d_fi D4 364 Y = nI 0 := by rw [z4, if_pos ⟨rfl, rfl⟩]; rfl
  refine X_run rfl ?_ ?_
  · simp [md_s, md_w, rget, r_a, r_b, r_c, r_i, r_l, hy, e3, e4]
  try simp only [md_s, md_w, rget_some, r_a, r_b, r_c, r_i, r_l, r_nx, r_pc, Nat.reduceEqDiff, false_and, if_false, hy, e3, e4]
  /- how it ends with an error -/
  have fail : ∀ (S5 : ShT) (D5 : DaT) (x1 x2 : Nat), (∃ q, q ≤ 403 ∧ Gro S S5 q) → teachR T K = (x1, nI (pl T x2), K) → x1 ≠ 0 → x1 < 100 → x2 ≤ tN T → TokR D5 Y T (tN T + 1) → d_fi D5 364 Y = nI x2 → d_fi D5 354 Y = 0 → OutR S Y D D5 → RepR D5 A K → PapR D5 Y P → KwR D5 Y → Eg g (d + 5) mX11_teach 0 0 (Zr g (TeP S D Y K T P)) 97 [(0, .ref Y), (1, .int (nI x1))] [] (md S5 D5) := by
    intro S5 D5 x1 x2 ⟨q, hq, hG⟩ hte h0 h100 hx hT5 hat5 hb5 hO5 hR5 hP5 hK5
    have hY5 := hY.gro hG hz
    obtain ⟨hy5, hzz5, -⟩ := id hY5
    have hN := tN_le T
    have xx := vx (show x2 < 402 by omega) (by decide)
    have vp : d_ai D5 (Y + 5) x2 = nI (pl T x2) := (hT5 x2 (by omega)).2.1
    obtain ⟨D6, e6, z6, y6⟩ := wr_fi D5 355 Y (nI (pl T x2))
    have ne : ¬ nI x1 = 0 := nI_ne0 (by omega) (by omega)
    refine X_run rfl trivial ?_
    refine X_if_ne rfl (fun _ => ?_) (fun z => absurd z ne)
    refine X_run rfl ?_ ?_
    · simp [md_s, md_w, rget, r_a, r_b, r_c, r_i, r_l, hy5, hzz5, hat5, xx, vp, e6]
    try simp only [md_s, md_w, rget_some, r_a, r_b, r_c, r_i, r_l, r_nx, r_pc, Nat.reduceEqDiff, false_and, if_false, hy5, hzz5, hat5, xx, vp, e6]
    refine X_if_eq rfl (fun z => absurd z ne) (fun _ => ?_)
    refine X_run rfl trivial ?_
    refine X_iret rfl rfl ⟨S5, D6, q, A, A2, hq, by rw [hte], rfl, hG.y, hY5, hO5.tr (e6 ▸ OutR.fi), ?_⟩
    rw [hte]
    exact ⟨hR5.out (e6 ▸ Out.fi (lo := Y) (hi := Y + 1) (by omega)) (by omega), ⟨by rw [z6, if_neg (by omega)]; exact hb5, fun i hi => absurd hi (Nat.not_lt_zero _), Nat.zero_le _, fun b hb => by cases hb⟩, e6 ▸ hP5.fi (by decide), by unfold KwR; rw [y6.2.2]; exact hK5, by rw [z6, if_pos ⟨rfl, rfl⟩]⟩
  cases ht : textR (kdA T) (tN T + 1) 0 with
  | mk b0 e1' =>
    have hin : e1' ≤ tN T := by have := text_in (kdA_N T) (tN T + 1) 0 (Nat.zero_le _); rw [ht] at this; exact this
    refine Rforms (d := d + 3) (b0 := b0) (e1 := e1') hY hz hT4 (fun S5 D5 hGq hA5 hat5 => ?_) (tN T + 1) 0 S D4 0 (Nat.zero_le _) ht (by omega) (by omega) (Nat.le_refl _) Gro.rf AtO.rf a4
    have hT5 := hT4.at hA5 (by omega)
    have hR5 := hR4.at hA5 (by omega) (by omega)
    have hP5 := hP4.at hA5 (by omega)
    have hK5 := hK4.at hA5 (by omega)
    have hO5 : OutR S Y D D5 := hO4.tr (OutR.at hA5)
    have b5 : d_fi D5 354 Y = 0 := by rw [(hA5 Y (by omega)).1 354 (by omega)]; exact b4
    cases b0 with
    | false =>
      have hte : teachR T K = (1, nI (pl T e1'), K) := by unfold teachR; rw [ht]; rfl
      refine X_run rfl trivial ?_
      refine X_if_ne rfl (fun _ => ?_) (fun z => absurd z (by decide))
      exact Eg.sub (fail S5 D5 1 e1' hGq hte (by decide) (by decide) hin hT5 hat5 b5 hO5 hR5 hP5 hK5) ⟨rfl, rfl, trivial⟩
    | true =>
      have hte : teachR T K = (match tellR T (tN T + 1) K 0 with | .error x => (x.1, nI (pl T x.2), K) | .ok K1 => (0, -1, K1)) := by unfold teachR; rw [ht]; rfl
      obtain ⟨q, hq, hG⟩ := id hGq
      have hY5 := hY.gro hG hz
      obtain ⟨hy5, hzz5, ⟨hL5, hL25⟩, -⟩ := id hY5
      refine X_run rfl trivial ?_
      refine X_if_ne rfl (fun z => absurd rfl z) (fun _ => ?_)
      refine X_run rfl ?_ ?_
      · simp [md_s, md_w, rget, r_a, r_b, r_c, r_i, r_l, hy5]
      try simp only [md_s, md_w, rget_some, r_a, r_b, r_c, r_i, r_l, r_nx, r_pc, Nat.reduceEqDiff, false_and, if_false, hy5]
      refine X_cV (args := [.ref A]) rfl (by decide) hL25.all.1.1 rfl rfl (Nat.le_of_ble_eq_true rfl) (c_become (d := d + 2) hL25 hL5 l3 hW hR5) ?_
      rintro _ _ ⟨D6, rfl, rfl, hR6, hO6⟩
      have hO6c : CoO Y A2 D5 D6 := CoO.o (hO6.wide (Nat.le_refl _) (by omega))
      obtain ⟨D7, e7, ⟨f7, g7, y7, y7'⟩, o7, r7⟩ := at_wr D6 (Y := Y) (A2 := A2) 0 (by omega)
      have hO7c := hO6c.tr o7
      refine X_run rfl ?_ ?_
      · simp [md_s, md_w, rget, r_a, r_b, r_c, r_i, r_l, hy5, e7]
      try simp only [md_s, md_w, rget_some, r_a, r_b, r_c, r_i, r_l, r_nx, r_pc, Nat.reduceEqDiff, false_and, if_false, hy5, e7]
      have wfwr := teachR_ok (T := T) hW hK
      refine Rcarry (d := d + 1) (e0 := e1') (S := S5) (D := D5) (K := K) hY5 (fun D8 x hx hxN hO8 hat8 => ?_) (fun D8 K1 hx hO8 hR8 => ?_) hT5 (tN T + 1) 0 K D7 (Nat.zero_le _) ht (by omega) (by omega) rfl hW hK (r7 K hR6) hO7c (by rw [f7]; rfl)
      · rw [hx] at hte
        have hx6 := tellR_err _ _ _ hx
        exact fail S5 D8 x.1 x.2 hGq hte (by omega) (by omega) hxN (hT5.co hO8 (by omega)) hat8 (by rw [(hO8 Y (by omega)).1 354 (by omega)]; exact b5) (hO5.tr (OutR.co hO8 (by omega))) (hR5.cy hO8 (by omega) (by omega)) (hP5.co hO8 (by omega)) (hK5.co hO8 (by omega))
      · rw [hx] at hte
        obtain ⟨D9, e9, z9, y9⟩ := wr_fi D8 355 Y (-1)
        obtain ⟨S6, eS6, rS6⟩ : ∃ S6, pfr S5 365 Y (some A2) = S6 ∧ (s_sz S6 = s_sz S5 ∧ s_tg S6 = s_tg S5 ∧ s_ln S6 = s_ln S5 ∧ s_ar S6 = s_ar S5) ∧ ∀ k a, s_fr S6 k a = if k = 365 ∧ a = Y then some A2 else s_fr S5 k a := ⟨_, rfl, ⟨rfl, rfl, rfl, rfl⟩, fun _ _ => rfl⟩
        obtain ⟨S7, eS7, rS7⟩ : ∃ S7, pfr S6 366 Y (some A) = S7 ∧ (s_sz S7 = s_sz S6 ∧ s_tg S7 = s_tg S6 ∧ s_ln S7 = s_ln S6 ∧ s_ar S7 = s_ar S6) ∧ ∀ k a, s_fr S7 k a = if k = 366 ∧ a = Y then some A else s_fr S6 k a := ⟨_, rfl, ⟨rfl, rfl, rfl, rfl⟩, fun _ _ => rfl⟩
        have tY6 : s_tg S6 Y = 12 := by rw [rS6.1.2.1]; exact hy5.1
        have sam : ∀ a, a ≠ Y → s_tg S7 a = s_tg S5 a ∧ s_ln S7 a = s_ln S5 a ∧ (∀ k, s_fr S7 k a = s_fr S5 k a) ∧ s_ar S7 a = s_ar S5 a := fun a ha => ⟨by rw [rS7.1.2.1, rS6.1.2.1], by rw [rS7.1.2.2.1, rS6.1.2.2.1], fun k => by rw [rS7.2, if_neg (by omega), rS6.2, if_neg (by omega)], by rw [rS7.1.2.2.2, rS6.1.2.2.2]⟩
        have fr7 : ∀ k, k ≠ 365 → k ≠ 366 → s_fr S7 k Y = s_fr S5 k Y := fun k h1 h2 => by rw [rS7.2, if_neg (by omega), rS6.2, if_neg (by omega)]
        have hY7 : MoL S7 Y A2 A := by
          obtain ⟨m1, m2, ⟨m3, m4⟩, m5⟩ := hY5
          refine ⟨⟨by rw [rS7.1.2.1]; exact tY6, by rw [fr7 _ (by decide) (by decide)]; exact m1.2.1, by rw [fr7 _ (by decide) (by decide)]; exact m1.2.2.1, by rw [fr7 _ (by decide) (by decide)]; exact m1.2.2.2.1, by rw [fr7 _ (by decide) (by decide)]; exact m1.2.2.2.2.1, by rw [fr7 _ (by decide) (by decide)]; exact m1.2.2.2.2.2.1, by rw [fr7 _ (by decide) (by decide)]; exact m1.2.2.2.2.2.2.1, by rw [fr7 _ (by decide) (by decide)]; exact m1.2.2.2.2.2.2.2.1, by rw [rS7.2, if_neg (by omega), rS6.2, if_pos ⟨rfl, rfl⟩], by rw [rS7.2, if_pos ⟨rfl, rfl⟩]⟩, ?_, ⟨m4.sam (fun a h1 h2 => sam a (by omega)), m3.sam (fun a h1 h2 => sam a (by omega))⟩, by omega⟩
          rw [rS7.1.2.1, rS6.1.2.1, rS7.1.2.2.1, rS6.1.2.2.1]
          exact m2
        have hGY : GroY S S7 q Y := ⟨by rw [rS7.1.1, rS6.1.1]; exact hG.1, fun a ha => by
          obtain ⟨u1, u2, u3, u4⟩ := hG.2 a (Nat.zero_le _) ha
          refine ⟨⟨by rw [rS7.1.2.1, rS6.1.2.1]; exact u1, by rw [rS7.1.2.2.1, rS6.1.2.2.1]; exact u2, by rw [rS7.1.2.2.2, rS6.1.2.2.2]; exact u4⟩, fun hne k => by rw [(sam a hne).2.2.1]; exact u3 k⟩⟩
        have f365 : s_fr S6 366 Y = some A2 := by rw [rS6.2, if_neg (by omega)]; exact hy5.2.2.2.2.2.2.2.2.2
        refine X_run rfl trivial ?_
        refine X_if_ne rfl (fun z => absurd rfl z) (fun _ => ?_)
        refine X_run rfl ?_ ?_
        · simp [md_s, md_w, rget, r_a, r_b, r_c, r_i, r_l, hy5, e9]
        try simp only [md_s, md_w, rget_some, r_a, r_b, r_c, r_i, r_l, r_nx, r_pc, Nat.reduceEqDiff, false_and, if_false, hy5, e9]
        refine X_if_eq rfl (fun _ => ?_) (fun z => absurd rfl z)
        refine X_run rfl ?_ ?_
        · simp [md_s, md_w, rget, r_a, r_b, r_c, r_i, r_l, hy5, w_fr_md, eS6, tY6, f365, eS7]
        try simp only [md_s, md_w, rget_some, r_a, r_b, r_c, r_i, r_l, r_nx, r_pc, Nat.reduceEqDiff, false_and, if_false, hy5, w_fr_md, eS6, tY6, f365, eS7]
        refine X_iret rfl rfl ⟨S7, D9, q, A2, A, hq, by rw [hte]; rfl, rfl, hGY, hY7, (hO5.tr (OutR.co hO8 (by omega))).tr (e9 ▸ OutR.fi), ?_⟩
        rw [hte]
        exact ⟨hR8.out (e9 ▸ Out.fi (lo := Y) (hi := Y + 1) (by omega)) (by omega), ⟨by rw [z9, if_neg (by omega), (hO8 Y (by omega)).1 354 (by omega)]; exact b5, fun i hi => absurd hi (Nat.not_lt_zero _), Nat.zero_le _, fun b hb => by cases hb⟩, e9 ▸ (hP5.co hO8 (by omega)).fi (by decide), by unfold KwR; rw [y9.2.2]; exact hK5.co hO8 (by omega), by rw [z9, if_pos ⟨rfl, rfl⟩]⟩
end REFTEACH
