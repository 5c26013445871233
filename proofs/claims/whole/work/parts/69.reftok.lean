/-! a token, read by the reference -/
def rk (k : Nat) : Nat := if k ≤ 10 then 10 + k else if k = 11 then 4 else if k = 12 then 3 else if k = 13 then 2 else if k = 14 then 0 else 1
def TkP (D1 : DaT) (Y n : Nat) (t : TkT) : Prop := d_ai D1 (Y + 4) n = nI (rk t.1) ∧ d_ai D1 (Y + 5) n = nI t.2.1 ∧ (t.1 ≤ 11 → d_al D1 (Y + 7) n = c37 t.2.2.2) ∧ (t.1 = 12 → d_ai D1 (Y + 6) n = nI (numV t.2.2.2))
def TkO (Y n : Nat) (D D1 : DaT) : Prop := d_fi D1 = d_fi D ∧ d_fl D1 = d_fl D ∧ ∀ x j, ¬ ((Y + 4 ≤ x ∧ x ≤ Y + 7) ∧ j = n) → d_ai D1 x j = d_ai D x j ∧ d_al D1 x j = d_al D x j
theorem TkO.rf {Y n : Nat} {D : DaT} : TkO Y n D D := ⟨rfl, rfl, fun _ _ _ => ⟨rfl, rfl⟩⟩
theorem TkO.tr {Y n : Nat} {D D1 D2 : DaT} (h : TkO Y n D D1) (h2 : TkO Y n D1 D2) : TkO Y n D D2 := ⟨h2.1.trans h.1, h2.2.1.trans h.2.1, fun x j hx => ⟨(h2.2.2 x j hx).1.trans (h.2.2 x j hx).1, (h2.2.2 x j hx).2.trans (h.2.2 x j hx).2⟩⟩
theorem TkO.ai {Y n r : Nat} {D : DaT} {v : Int32} (hr : 4 ≤ r ∧ r ≤ 7) : TkO Y n D (pai D (Y + r) n v) := ⟨rfl, rfl, fun x j hx => ⟨by rw [rd_ai, if_neg (fun z => hx ⟨by omega, z.2⟩)], rfl⟩⟩
theorem TkO.al {Y n r : Nat} {D : DaT} {v : Int64} (hr : 4 ≤ r ∧ r ≤ 7) : TkO Y n D (pal D (Y + r) n v) := ⟨rfl, rfl, fun x j hx => ⟨rfl, by rw [rd_al, if_neg (fun z => hx ⟨by omega, z.2⟩)]⟩⟩
theorem TapR.tk {D D1 : DaT} {Y n : Nat} {T : List Nat} (h : TapR D Y T) (ho : TkO Y n D D1) : TapR D1 Y T := ⟨by rw [ho.1]; exact h.1, fun i hi => by rw [(ho.2.2 (Y + 1) i (by omega)).1]; exact h.2.1 i hi, h.2.2⟩
theorem KwR.tk {D D1 : DaT} {Y n : Nat} (h : KwR D Y) (ho : TkO Y n D D1) : KwR D1 Y := fun k hk => by rw [(ho.2.2 (Y + 3) k (by omega)).2]; exact h k hk
theorem v37_inj {a b : Nat} (ha : wCh a) (hb : wCh b) (h : v37 a = v37 b) : a = b := by
  unfold v37 isLet at h
  unfold wCh at ha hb
  by_cases c1 : 97 ≤ a ∧ a ≤ 122
  · by_cases c2 : 97 ≤ b ∧ b ≤ 122
    · simp [c1, c2] at h; omega
    · simp [c1, c2] at h; omega
  · by_cases c2 : 97 ≤ b ∧ b ≤ 122
    · simp [c1, c2] at h; omega
    · simp [c1, c2] at h; omega
theorem c37N_inj : ∀ v w : List Nat, (∀ b ∈ v, wCh b) → (∀ b ∈ w, wCh b) → c37N v = c37N w → v = w := by
  intro v
  induction v using snoc_ind with
  | h0 =>
    intro w
    induction w using snoc_ind with
    | h0 => intro _ _ _; rfl
    | hs w b _ =>
      intro _ hw h
      have hb := (v37_b (hw b (by simp))).1
      rw [c37N_snoc] at h
      have : c37N [] = 0 := rfl
      omega
  | hs v a ih =>
    intro w
    induction w using snoc_ind with
    | h0 =>
      intro hv _ h
      have hb := (v37_b (hv a (by simp))).1
      rw [c37N_snoc] at h
      have : c37N [] = 0 := rfl
      omega
    | hs w b _ =>
      intro hv hw h
      have ha := (v37_b (hv a (by simp))).1
      have hb := (v37_b (hw b (by simp))).1
      rw [c37N_snoc, c37N_snoc] at h
      have e1 : v37 a = v37 b := by omega
      have e2 : c37N v = c37N w := by omega
      rw [v37_inj (hv a (by simp)) (hw b (by simp)) e1, ih w (fun x hx => hv x (by simp [hx])) (fun x hx => hw x (by simp [hx])) e2]
theorem c37_inj {v w : List Nat} (hv : wOk v) (hw : wOk w) : c37 v = c37 w ↔ v = w := by
  refine ⟨fun h => ?_, fun h => by rw [h]⟩
  rw [c37_nat _ hv.ch, c37_nat _ hw.ch] at h
  have b1 := c37N_lt v hv.ch
  have b2 := c37N_lt w hw.ch
  have p : ∀ {u : List Nat}, u.length ≤ 8 → 37 ^ u.length ≤ 3512479453921 := fun {u} hu => by
    have : 37 ^ u.length ≤ 37 ^ 8 := Nat.pow_le_pow_right (by decide) hu
    exact Nat.le_trans this (by decide)
  have p1 := p hv.2.1
  have p2 := p hw.2.1
  have := congrArg Int64.toInt h
  rw [lN_big (by omega), lN_big (by omega)] at this
  exact c37N_inj v w hv.ch hw.ch (by omega)
theorem kwW_inj : ∀ i, i < 11 → ∀ j, j < 11 → kwW i = kwW j → i = j := by decide
/-- the key word found in the first k -/
def kwT (w : List Nat) (k : Nat) : Nat := (firstIx k (fun q => decide (kwW q = w))).getD 11
theorem kwT_hit {w : List Nat} {k : Nat} (hk : k < 11) (h : kwW k = w) : kwT w k = 11 ∧ kwT w (k + 1) = k := by
  have h0 : firstIx k (fun q => decide (kwW q = w)) = none := firstIx_none (fun j hj => decide_eq_false (fun z => by have := kwW_inj j (by omega) k hk (z.trans h.symm); omega))
  refine ⟨by unfold kwT; rw [h0]; rfl, ?_⟩
  have h1 : firstIx (k + 1) (fun q => decide (kwW q = w)) = some k := firstIx_some (by omega) (fun j hj => decide_eq_false (fun z => by have := kwW_inj j (by omega) k hk (z.trans h.symm); omega)) (decide_eq_true h)
  unfold kwT
  rw [h1]
  rfl
theorem kwT_miss {w : List Nat} {k : Nat} (h : ¬ kwW k = w) : kwT w (k + 1) = kwT w k := by
  unfold kwT
  cases hf : firstIx k (fun q => decide (kwW q = w)) with
  | none =>
    have : firstIx (k + 1) (fun q => decide (kwW q = w)) = none := firstIx_none (fun j hj => by
      by_cases c : j = k
      · subst c; exact decide_eq_false h
      · unfold firstIx at hf
        rw [List.find?_range_eq_none] at hf
        exact Bool.eq_false_iff.mpr (by have := hf j (by omega); simpa using this))
    rw [this]
  | some i =>
    obtain ⟨s1, s2, s3⟩ := firstIx_spec hf
    rw [firstIx_some (n := k + 1) (by omega) s3 s2]
theorem kwT_11 (w : List Nat) : kwT w 11 = kw w := rfl
theorem al_ch {b : Nat} (h : isAl b = true) : wCh b := al_of h
theorem numV_i (w : List Nat) (b : Nat) (hb : isDig b = true) : 10 * nI (numV w) + nI b - 48 = nI (numV (w ++ [b])) := by
  have c := of_decide_eq_true hb
  rw [numV_snoc, show (10 : Int32) = nI 10 from rfl, show nI 10 * nI (numV w) = nI (10 * numV w) from (Int32.ofNat_mul _ _).symm, nI_add, show (48 : Int32) = nI 48 from rfl, nI_sub (by omega)]
  congr 1
  omega
section REFTOK
variable {g : GG} {d c : Nat} {S : ShT} {D : DaT} {Y A A2 : Nat} {K : KT} {T P : List Nat} {e : Int32}
theorem c_RisLetter {x : Nat} (hx : x < 256) {M : Mem} : EvM g (d + 1) mX11_isLetter 0 0 [.int (nI x)] M (fun v M1 => M1 = M ∧ v = some (.int (b2i (isLet x)))) := by
  refine EvM.mk (by decide) (Nat.le_of_ble_eq_true rfl) ?_
  refine X_run rfl trivial ?_
  refine X_cS (args := [.int (nI x), .int 97, .int 122]) rfl (by decide) rfl rfl (Nat.le_of_ble_eq_true rfl) c_isIn ?_
  rintro _ _ ⟨rfl, rfl⟩
  have : (if (97 : Int32) ≤ nI x ∧ nI x ≤ 122 then (1 : Int32) else 0) = b2i (isLet x) := by
    rw [if_b2i]
    congr 1
    unfold isLet
    exact decide_eq_decide.mpr (by rw [show (97 : Int32) = nI 97 from rfl, show (122 : Int32) = nI 122 from rfl, nI_leI (by omega) (by omega), nI_leI (by omega) (by omega)])
  rw [this]
  refine X_run rfl trivial ?_
  exact X_zret rfl rfl (b2i_01 _) ⟨rfl, rfl⟩
theorem c_RisDigit {x : Nat} (hx : x < 256) {M : Mem} : EvM g (d + 1) mX11_isDigit 0 0 [.int (nI x)] M (fun v M1 => M1 = M ∧ v = some (.int (b2i (isDig x)))) := by
  refine EvM.mk (by decide) (Nat.le_of_ble_eq_true rfl) ?_
  refine X_run rfl trivial ?_
  refine X_cS (args := [.int (nI x), .int 48, .int 57]) rfl (by decide) rfl rfl (Nat.le_of_ble_eq_true rfl) c_isIn ?_
  rintro _ _ ⟨rfl, rfl⟩
  have : (if (48 : Int32) ≤ nI x ∧ nI x ≤ 57 then (1 : Int32) else 0) = b2i (isDig x) := by
    rw [if_b2i]
    congr 1
    unfold isDig
    exact decide_eq_decide.mpr (by rw [show (48 : Int32) = nI 48 from rfl, show (57 : Int32) = nI 57 from rfl, nI_leI (by omega) (by omega), nI_leI (by omega) (by omega)])
  rw [this]
  refine X_run rfl trivial ?_
  exact X_zret rfl rfl (b2i_01 _) ⟨rfl, rfl⟩
theorem c_next {x : Nat} {q : Int64} (hx : x < 256) {M : Mem} : EvM g (d + 2) mX11_next 0 0 [.long q, .int (nI x)] M (fun v M1 => M1 = M ∧ v = some (.long (q * 37 + (if isLet x = true then nI x - 97 + 1 else nI x - 48 + 27).toInt64))) := by
  refine EvM.mk (by decide) (Nat.le_of_ble_eq_true rfl) ?_
  refine X_run rfl trivial ?_
  refine X_cS (args := [.int (nI x)]) rfl (by decide) rfl rfl (Nat.le_of_ble_eq_true rfl) (c_RisLetter hx) ?_
  rintro _ _ ⟨rfl, rfl⟩
  refine X_if_eq rfl (fun c => ?_) (fun c => ?_)
  · refine X_run rfl trivial ?_
    exact X_lret rfl rfl ⟨rfl, by rw [if_neg (nb2i c)]⟩
  · refine X_run rfl trivial ?_
    exact X_lret rfl rfl ⟨rfl, by rw [if_pos (b2i_nz c)]⟩
theorem c_token {n b0 F : Nat} (hY : MoL S Y A A2) (hT : TapR D Y T) (hK : KwR D Y) (hn : d_fi D 359 Y = nI n) (hn4 : n ≤ 400) (hF : fin isBlk T b0 = F) (hFl : F < T.length) : EvM g (d + 3) mX11_token 0 0 [.ref Y, .int (nI F)] (md S D) (fun v M1 => ∃ D1 bb, v = some (.int (nI bb)) ∧ M1 = md S D1 ∧ TkP D1 Y n (tok T 0 b0) ∧ ((tok T 0 b0).1 ≤ 13 → bb = (tok T 0 b0).2.2.1) ∧ bb ≤ T.length ∧ TkO Y n D D1) := by
  obtain ⟨hy, hz, -⟩ := id hY
  obtain ⟨q1, q2, q3, q4⟩ := id hT
  have xF := vx (show F < 2000 by omega) (by decide)
  have xn := vx (show n < 402 by omega) (by decide)
  have vF := q2 F hFl
  have hlt := gD_lt q4
  obtain ⟨D1, e1, z1, y1⟩ := wr_ai D (Y + 5) n (nI F)
  have hO1 : TkO Y n D D1 := e1 ▸ TkO.ai (by decide)
  have n1 : d_fi D1 359 Y = nI n := by rw [y1.1]; exact hn
  obtain ⟨D2, e2, z2, y2⟩ := wr_ai D1 (Y + 4) n 1
  have hO2 : TkO Y n D D2 := hO1.tr (e2 ▸ TkO.ai (by decide))
  have n2 : d_fi D2 359 Y = nI n := by rw [y2.1]; exact n1
  have p2 : d_ai D2 (Y + 5) n = nI F := by rw [z2, if_neg (by omega), z1, if_pos ⟨rfl, rfl⟩]
  have ty2 : d_ai D2 (Y + 4) n = 1 := by rw [z2, if_pos ⟨rfl, rfl⟩]
  have hT2 := hT.tk hO2
  obtain ⟨b1, b2, -⟩ := id hT2
  /- a bad one -/
  have bad : ∀ bb, (tok T 0 b0).1 = 15 → (tok T 0 b0).2.1 = F → TkP D2 Y n (tok T 0 b0) ∧ ((tok T 0 b0).1 ≤ 13 → bb = (tok T 0 b0).2.2.1) := fun bb h1 h2 => by
    unfold TkP
    rw [h1, h2]
    exact ⟨⟨ty2, p2, fun z => absurd z (by decide), fun z => absurd z (by decide)⟩, fun z => absurd z (by decide)⟩
  have t0 : ∀ t, (if T.getD F 0 = 59 then (13, F, F + 1, []) else if isDig (T.getD F 0) = true then (if 7 < fin isDig T F - F then (15, F, fin isDig T F, []) else (12, F, fin isDig T F, seg T F (fin isDig T F))) else if isLet (T.getD F 0) = true then (if 8 < fin isAl T F - F then (15, F, fin isAl T F, []) else (kw (seg T F (fin isAl T F)), F, fin isAl T F, seg T F (fin isAl T F))) else (15, F, b0, [])) = t → tok T 0 b0 = t := fun t ht => by
    unfold tok
    rw [hF, if_neg (by omega), if_neg (by decide)]
    exact ht
  refine EvM.mk (by decide) (Nat.le_of_ble_eq_true rfl) ?_
  refine X_run rfl ?_ ?_
  · simp [md_s, md_w, rget, r_a, r_b, r_c, r_i, r_l, hy, hz, xF, vF, nI_s1, hn, xn, e1, n1, e2]
  try simp only [md_s, md_w, rget_some, r_a, r_b, r_c, r_i, r_l, r_nx, r_pc, Nat.reduceEqDiff, false_and, if_false, hy, hz, xF, vF, nI_s1, hn, xn, e1, n1, e2]
  refine X_cS (args := [.int (nI (T.getD F 0))]) rfl (by decide) rfl rfl (Nat.le_of_ble_eq_true rfl) (c_RisLetter (hlt F)) ?_
  rintro _ _ ⟨rfl, rfl⟩
  refine X_if_eq rfl (fun c1 => ?_) (fun c1 => ?_)
  · have c1 := b2f c1
    refine X_run rfl trivial ?_
    refine X_cS (args := [.int (nI (T.getD F 0))]) rfl (by decide) rfl rfl (Nat.le_of_ble_eq_true rfl) (c_RisDigit (hlt F)) ?_
    rintro _ _ ⟨rfl, rfl⟩
    refine X_if_eq rfl (fun c2 => ?_) (fun c2 => ?_)
    · have c2 := b2f c2
      refine X_run rfl trivial ?_
      refine X_icmp_ne rfl (fun c3 => ?_) (fun c3 => ?_)
      · have c3 : ¬ T.getD F 0 = 59 := fun z => c3 (by rw [z]; rfl)
        have e0 := t0 _ (show _ = (15, F, b0, []) by rw [if_neg c3, if_neg (by rw [c2]; decide), if_neg (by rw [c1]; decide)])
        refine X_run rfl trivial ?_
        have bd := bad (F + 1) (by rw [e0]) (by rw [e0])
        exact X_iret rfl rfl ⟨D2, F + 1, rfl, rfl, bd.1, bd.2, by omega, hO2⟩
      · have c3 : T.getD F 0 = 59 := (nI_iff (hlt F) (by decide)).mp c3
        have e0 := t0 _ (show _ = (13, F, F + 1, []) by rw [if_pos c3])
        obtain ⟨D3, e3, z3, y3⟩ := wr_ai D2 (Y + 4) n 2
        have p3 : d_ai D3 (Y + 5) n = nI F := by rw [z3, if_neg (by omega)]; exact p2
        have ty3 : d_ai D3 (Y + 4) n = 2 := by rw [z3, if_pos ⟨rfl, rfl⟩]
        refine X_run rfl ?_ ?_
        · simp [md_s, md_w, rget, r_a, r_b, r_c, r_i, r_l, hy, hz, n2, xn, e3]
        try simp only [md_s, md_w, rget_some, r_a, r_b, r_c, r_i, r_l, r_nx, r_pc, Nat.reduceEqDiff, false_and, if_false, hy, hz, n2, xn, e3]
        refine X_iret rfl rfl ⟨D3, F + 1, rfl, rfl, ?_, fun _ => by rw [e0], by omega, hO2.tr (e3 ▸ TkO.ai (by decide))⟩
        rw [e0]
        exact ⟨ty3, p3, fun z => absurd z (show ¬ 13 ≤ 11 by decide), fun z => absurd z (show ¬ 13 = 12 by decide)⟩
    · have c2 := b2i_nz c2
      have c3 : ¬ T.getD F 0 = 59 := fun z => by rw [z] at c2; exact absurd c2 (by decide)
      generalize hE : fin isDig T F = E
      obtain ⟨le1, le2⟩ := fin_le (p := isDig) (T := T) (i := F) (by omega)
      rw [hE] at le1 le2
      have key : ∀ i, i ≤ T.length → fin isDig T i = E → Eg g (d + 3) mX11_token 0 0 (Zr g (fun v M1 => ∃ D1 bb, v = some (.int (nI bb)) ∧ M1 = md S D1 ∧ TkP D1 Y n (tok T 0 b0) ∧ ((tok T 0 b0).1 ≤ 13 → bb = (tok T 0 b0).2.2.1) ∧ bb ≤ T.length ∧ TkO Y n D D1)) 238 [(0, .ref Y), (1, .int (nI F)), (3, .int (nI E))] [] (md S D2) → Eg g (d + 3) mX11_token 0 0 (Zr g (fun v M1 => ∃ D1 bb, v = some (.int (nI bb)) ∧ M1 = md S D1 ∧ TkP D1 Y n (tok T 0 b0) ∧ ((tok T 0 b0).1 ≤ 13 → bb = (tok T 0 b0).2.2.1) ∧ bb ≤ T.length ∧ TkO Y n D D1)) 212 [(0, .ref Y), (1, .int (nI F)), (3, .int (nI i))] [] (md S D2) := by
        intro i hi hEi k
        refine fin_ind (p := isDig) (T := T) (P := fun i => fin isDig T i = E → Eg g (d + 3) mX11_token 0 0 (Zr g (fun v M1 => ∃ D1 bb, v = some (.int (nI bb)) ∧ M1 = md S D1 ∧ TkP D1 Y n (tok T 0 b0) ∧ ((tok T 0 b0).1 ≤ 13 → bb = (tok T 0 b0).2.2.1) ∧ bb ≤ T.length ∧ TkO Y n D D1)) 212 [(0, .ref Y), (1, .int (nI F)), (3, .int (nI i))] [] (md S D2)) (fun i hi hs he => ?_) (fun i hi hp ih he => ?_) _ i rfl hi hEi
        · rcases hs with hs | hs
          · have : i = E := by rw [fin_end hs] at he; exact he
            subst this
            refine X_run rfl ?_ ?_
            · simp [md_s, md_w, rget, r_a, r_b, r_c, r_i, r_l, hy, b1]
            try simp only [md_s, md_w, rget_some, r_a, r_b, r_c, r_i, r_l, r_nx, r_pc, Nat.reduceEqDiff, false_and, if_false, hy, b1]
            refine X_icmp_ge rfl (fun _ => k) (fun c4 => no_nle c4 hs (by omega))
          · by_cases hil : T.length ≤ i
            · have : i = E := by rw [fin_end hil] at he; exact he
              subst this
              refine X_run rfl ?_ ?_
              · simp [md_s, md_w, rget, r_a, r_b, r_c, r_i, r_l, hy, b1]
              try simp only [md_s, md_w, rget_some, r_a, r_b, r_c, r_i, r_l, r_nx, r_pc, Nat.reduceEqDiff, false_and, if_false, hy, b1]
              refine X_icmp_ge rfl (fun _ => k) (fun c4 => no_nle c4 hil (by omega))
            · have : i = E := by rw [fin_stop (by omega) hs] at he; exact he
              subst this
              have vi := b2 i (by omega)
              refine X_run rfl ?_ ?_
              · simp [md_s, md_w, rget, r_a, r_b, r_c, r_i, r_l, hy, b1]
              try simp only [md_s, md_w, rget_some, r_a, r_b, r_c, r_i, r_l, r_nx, r_pc, Nat.reduceEqDiff, false_and, if_false, hy, b1]
              refine X_icmp_ge rfl (fun _ => k) (fun c4 => ?_)
              refine X_run rfl ?_ ?_
              · simp [md_s, md_w, rget, r_a, r_b, r_c, r_i, r_l, hy, hz, vx (show i < 2000 by omega) (by decide), vi]
              try simp only [md_s, md_w, rget_some, r_a, r_b, r_c, r_i, r_l, r_nx, r_pc, Nat.reduceEqDiff, false_and, if_false, hy, hz, vx (show i < 2000 by omega) (by decide), vi]
              refine X_cS (args := [.int (nI (T.getD i 0))]) rfl (by decide) rfl rfl (Nat.le_of_ble_eq_true rfl) (c_RisDigit (hlt i)) ?_
              rintro _ _ ⟨rfl, rfl⟩
              exact X_if_eq rfl (fun _ => k) (fun c5 => absurd (b2i_zero.mpr hs) c5)
        · have vi := b2 i (by omega)
          refine X_run rfl ?_ ?_
          · simp [md_s, md_w, rget, r_a, r_b, r_c, r_i, r_l, hy, b1]
          try simp only [md_s, md_w, rget_some, r_a, r_b, r_c, r_i, r_l, r_nx, r_pc, Nat.reduceEqDiff, false_and, if_false, hy, b1]
          refine X_icmp_ge rfl (fun c4 => no_le c4 hi (by omega)) (fun c4 => ?_)
          refine X_run rfl ?_ ?_
          · simp [md_s, md_w, rget, r_a, r_b, r_c, r_i, r_l, hy, hz, vx (show i < 2000 by omega) (by decide), vi]
          try simp only [md_s, md_w, rget_some, r_a, r_b, r_c, r_i, r_l, r_nx, r_pc, Nat.reduceEqDiff, false_and, if_false, hy, hz, vx (show i < 2000 by omega) (by decide), vi]
          refine X_cS (args := [.int (nI (T.getD i 0))]) rfl (by decide) rfl rfl (Nat.le_of_ble_eq_true rfl) (c_RisDigit (hlt i)) ?_
          rintro _ _ ⟨rfl, rfl⟩
          refine X_if_eq rfl (fun c5 => absurd (b2i_zero.mp c5) (by rw [hp]; decide)) (fun _ => ?_)
          refine X_run rfl ?_ ?_
          · simp [md_s, md_w, rget, r_a, r_b, r_c, r_i, r_l, nI_s1]
          try simp only [md_s, md_w, rget_some, r_a, r_b, r_c, r_i, r_l, r_nx, r_pc, Nat.reduceEqDiff, false_and, if_false, nI_s1]
          exact ih (by rw [← fin_step hi hp]; exact he)
      refine Eg.sub (key (F + 1) (by omega) (by rw [← fin_step hFl c2]; exact hE) ?_) ⟨rfl, rfl, rfl, trivial⟩
      refine X_run rfl ?_ ?_
      · simp
      try simp only [md_s, md_w, rget_some, r_a, r_b, r_c, r_i, r_l, r_nx, r_pc, nI_sub le1]
      refine X_icmp_le rfl (fun c4 => ?_) (fun c4 => ?_)
      · have c4 : ¬ 7 < E - F := Nat.not_lt.mpr ((nI_leI (b := 7) (by omega) (by decide)).mp c4)
        have e0 := t0 _ (show _ = (12, F, E, seg T F E) by rw [if_neg c3, if_pos c2, hE, if_neg c4])
        obtain ⟨D3, e3, z3, y3⟩ := wr_ai D2 (Y + 6) n 0
        have hO3 : TkO Y n D2 D3 := e3 ▸ TkO.ai (by decide)
        refine X_run rfl ?_ ?_
        · simp [md_s, md_w, rget, r_a, r_b, r_c, r_i, r_l, hy, hz, n2, xn, e3]
        try simp only [md_s, md_w, rget_some, r_a, r_b, r_c, r_i, r_l, r_nx, r_pc, Nat.reduceEqDiff, false_and, if_false, hy, hz, n2, xn, e3]
        refine Eg.sub (ls' := [(0, .ref Y), (1, .int (nI F)), (3, .int (nI E)), (4, .int (nI (F + 0)))]) ?_ ⟨rfl, rfl, rfl, rfl, trivial⟩
        refine Eg_up (α := DaT) (fun i D' => Eg g (d + 3) mX11_token 0 0 (Zr g _) 261 [(0, .ref Y), (1, .int (nI F)), (3, .int (nI E)), (4, .int (nI (F + i)))] [] (md S D')) (fun i D' => TkO Y n D2 D' ∧ d_ai D' (Y + 6) n = nI (numV (seg T F (F + i))) ∧ d_ai D' (Y + 5) n = nI F) (E - F) (fun i D4 hi hI k => ?_) (fun D4 hI => ?_) D3 ⟨hO3, by rw [z3, if_pos ⟨rfl, rfl⟩, Nat.add_zero, seg_nil]; rfl, by rw [z3, if_neg (by omega)]; exact p2⟩
        · obtain ⟨hO4, v4, pp4⟩ := hI
          have hT4 := hT2.tk hO4
          have n4 : d_fi D4 359 Y = nI n := by rw [hO4.1]; exact n2
          have vi := hT4.2.1 (F + i) (by omega)
          have xi := vx (show F + i < 2000 by omega) (by decide)
          have hsub : (T.getD (F + i) 0) ∈ seg T F E := by
            have hl := seg_len (T := T) le1 le2
            have : (seg T F E)[i]? = some (T.getD (F + i) 0) := by
              unfold seg
              rw [List.getElem?_take, if_pos (by omega), List.getElem?_drop, List.getD_eq_getElem?_getD]
              rw [List.getElem?_eq_getElem (show F + i < T.length by omega)]
              rfl
            exact List.mem_of_getElem? this
          have hdg : isDig (T.getD (F + i) 0) = true := by rw [← hE] at hsub; exact seg_all _ hsub
          have e5' : 10 * nI (numV (seg T F (F + i))) + nI (T.getD (F + i) 0) - 48 = nI (numV (seg T F (F + i + 1))) := by
            rw [numV_i _ _ hdg, seg_snoc (by omega) (by omega)]
          obtain ⟨D5, e5, z5, y5⟩ := wr_ai D4 (Y + 6) n (nI (numV (seg T F (F + i + 1))))
          refine X_run rfl trivial ?_
          refine X_icmp_ge rfl (fun c5 => no_le c5 (show F + i < E by omega) (by omega)) (fun c5 => ?_)
          refine X_run rfl ?_ ?_
          · simp [md_s, md_w, rget, r_a, r_b, r_c, r_i, r_l, hy, hz, n4, xn, v4, xi, vi, e5', e5, nI_s1]
          try simp only [md_s, md_w, rget_some, r_a, r_b, r_c, r_i, r_l, r_nx, r_pc, Nat.reduceEqDiff, false_and, if_false, hy, hz, n4, xn, v4, xi, vi, e5', e5, nI_s1]
          exact k D5 ⟨hO4.tr (e5 ▸ TkO.ai (by decide)), by rw [z5, if_pos ⟨rfl, rfl⟩]; rfl, by rw [z5, if_neg (by omega)]; exact pp4⟩
        · obtain ⟨hO4, v4, pp4⟩ := hI
          rw [show F + (E - F) = E by omega] at v4 ⊢
          have n4 : d_fi D4 359 Y = nI n := by rw [hO4.1]; exact n2
          obtain ⟨D5, e5, z5, y5⟩ := wr_ai D4 (Y + 4) n 3
          refine X_run rfl trivial ?_
          refine X_icmp_ge rfl (fun _ => ?_) (fun c5 => no_nle c5 (Nat.le_refl _) (by omega))
          refine X_run rfl ?_ ?_
          · simp [md_s, md_w, rget, r_a, r_b, r_c, r_i, r_l, hy, hz, n4, xn, e5]
          try simp only [md_s, md_w, rget_some, r_a, r_b, r_c, r_i, r_l, r_nx, r_pc, Nat.reduceEqDiff, false_and, if_false, hy, hz, n4, xn, e5]
          refine X_iret rfl rfl ⟨D5, E, rfl, rfl, ?_, fun _ => by rw [e0], le2, (hO2.tr hO4).tr (e5 ▸ TkO.ai (by decide))⟩
          rw [e0]
          exact ⟨by rw [z5, if_pos ⟨rfl, rfl⟩]; rfl, by rw [z5, if_neg (by omega)]; exact pp4, fun z => absurd z (show ¬ 12 ≤ 11 by decide), fun _ => by rw [z5, if_neg (by omega)]; exact v4⟩
      · have c4 : 7 < E - F := Nat.lt_of_not_le (fun z => c4 ((nI_leI (b := 7) (by omega) (by decide)).mpr z))
        have e0 := t0 _ (show _ = (15, F, E, []) by rw [if_neg c3, if_pos c2, hE, if_pos c4])
        refine X_run rfl trivial ?_
        have bd := bad E (by rw [e0]) (by rw [e0])
        exact X_iret rfl rfl ⟨D2, E, rfl, rfl, bd.1, bd.2, le2, hO2⟩
  · have c1 := b2i_nz c1
    have c3 : ¬ T.getD F 0 = 59 := fun z => by rw [z] at c1; exact absurd c1 (by decide)
    have c2 : ¬ isDig (T.getD F 0) = true := fun z => by
      have u1 := of_decide_eq_true z
      have u2 := of_decide_eq_true c1
      omega
    have cA : isAl (T.getD F 0) = true := by unfold isAl; rw [c1]; rfl
    generalize hE : fin isAl T F = E
    obtain ⟨le1, le2⟩ := fin_le (p := isAl) (T := T) (i := F) (by omega)
    rw [hE] at le1 le2
    have key : ∀ i, i ≤ T.length → fin isAl T i = E → Eg g (d + 3) mX11_token 0 0 (Zr g (fun v M1 => ∃ D1 bb, v = some (.int (nI bb)) ∧ M1 = md S D1 ∧ TkP D1 Y n (tok T 0 b0) ∧ ((tok T 0 b0).1 ≤ 13 → bb = (tok T 0 b0).2.2.1) ∧ bb ≤ T.length ∧ TkO Y n D D1)) 76 [(0, .ref Y), (1, .int (nI F)), (3, .int (nI E))] [] (md S D2) → Eg g (d + 3) mX11_token 0 0 (Zr g (fun v M1 => ∃ D1 bb, v = some (.int (nI bb)) ∧ M1 = md S D1 ∧ TkP D1 Y n (tok T 0 b0) ∧ ((tok T 0 b0).1 ≤ 13 → bb = (tok T 0 b0).2.2.1) ∧ bb ≤ T.length ∧ TkO Y n D D1)) 38 [(0, .ref Y), (1, .int (nI F)), (3, .int (nI i))] [] (md S D2) := by
      intro i hi hEi k
      refine fin_ind (p := isAl) (T := T) (P := fun i => fin isAl T i = E → Eg g (d + 3) mX11_token 0 0 (Zr g (fun v M1 => ∃ D1 bb, v = some (.int (nI bb)) ∧ M1 = md S D1 ∧ TkP D1 Y n (tok T 0 b0) ∧ ((tok T 0 b0).1 ≤ 13 → bb = (tok T 0 b0).2.2.1) ∧ bb ≤ T.length ∧ TkO Y n D D1)) 38 [(0, .ref Y), (1, .int (nI F)), (3, .int (nI i))] [] (md S D2)) (fun i hi hs he => ?_) (fun i hi hp ih he => ?_) _ i rfl hi hEi
      · by_cases hil : T.length ≤ i
        · have : i = E := by rw [fin_end hil] at he; exact he
          subst this
          refine X_run rfl ?_ ?_
          · simp [md_s, md_w, rget, r_a, r_b, r_c, r_i, r_l, hy, b1]
          try simp only [md_s, md_w, rget_some, r_a, r_b, r_c, r_i, r_l, r_nx, r_pc, Nat.reduceEqDiff, false_and, if_false, hy, b1]
          refine X_icmp_ge rfl (fun _ => k) (fun c4 => no_nle c4 hil (by omega))
        · have hs : isAl (T.getD i 0) = false := by rcases hs with h | h; exact absurd h hil; exact h
          have : i = E := by rw [fin_stop (by omega) hs] at he; exact he
          subst this
          have vi := b2 i (by omega)
          have hs1 : isLet (T.getD i 0) = false := by unfold isAl at hs; exact (Bool.or_eq_false_iff.mp hs).1
          have hs2 : isDig (T.getD i 0) = false := by unfold isAl at hs; exact (Bool.or_eq_false_iff.mp hs).2
          refine X_run rfl ?_ ?_
          · simp [md_s, md_w, rget, r_a, r_b, r_c, r_i, r_l, hy, b1]
          try simp only [md_s, md_w, rget_some, r_a, r_b, r_c, r_i, r_l, r_nx, r_pc, Nat.reduceEqDiff, false_and, if_false, hy, b1]
          refine X_icmp_ge rfl (fun _ => k) (fun c4 => ?_)
          refine X_run rfl ?_ ?_
          · simp [md_s, md_w, rget, r_a, r_b, r_c, r_i, r_l, hy, hz, vx (show i < 2000 by omega) (by decide), vi]
          try simp only [md_s, md_w, rget_some, r_a, r_b, r_c, r_i, r_l, r_nx, r_pc, Nat.reduceEqDiff, false_and, if_false, hy, hz, vx (show i < 2000 by omega) (by decide), vi]
          refine X_cS (args := [.int (nI (T.getD i 0))]) rfl (by decide) rfl rfl (Nat.le_of_ble_eq_true rfl) (c_RisLetter (hlt i)) ?_
          rintro _ _ ⟨rfl, rfl⟩
          refine X_if_ne rfl (fun c5 => absurd (b2i_zero.mpr hs1) c5) (fun _ => ?_)
          refine X_run rfl ?_ ?_
          · simp [md_s, md_w, rget, r_a, r_b, r_c, r_i, r_l, hy, hz, vx (show i < 2000 by omega) (by decide), vi]
          try simp only [md_s, md_w, rget_some, r_a, r_b, r_c, r_i, r_l, r_nx, r_pc, Nat.reduceEqDiff, false_and, if_false, hy, hz, vx (show i < 2000 by omega) (by decide), vi]
          refine X_cS (args := [.int (nI (T.getD i 0))]) rfl (by decide) rfl rfl (Nat.le_of_ble_eq_true rfl) (c_RisDigit (hlt i)) ?_
          rintro _ _ ⟨rfl, rfl⟩
          exact X_if_eq rfl (fun _ => k) (fun c5 => absurd (b2i_zero.mpr hs2) c5)
      · have vi := b2 i (by omega)
        refine X_run rfl ?_ ?_
        · simp [md_s, md_w, rget, r_a, r_b, r_c, r_i, r_l, hy, b1]
        try simp only [md_s, md_w, rget_some, r_a, r_b, r_c, r_i, r_l, r_nx, r_pc, Nat.reduceEqDiff, false_and, if_false, hy, b1]
        refine X_icmp_ge rfl (fun c4 => no_le c4 hi (by omega)) (fun c4 => ?_)
        refine X_run rfl ?_ ?_
        · simp [md_s, md_w, rget, r_a, r_b, r_c, r_i, r_l, hy, hz, vx (show i < 2000 by omega) (by decide), vi]
        try simp only [md_s, md_w, rget_some, r_a, r_b, r_c, r_i, r_l, r_nx, r_pc, Nat.reduceEqDiff, false_and, if_false, hy, hz, vx (show i < 2000 by omega) (by decide), vi]
        refine X_cS (args := [.int (nI (T.getD i 0))]) rfl (by decide) rfl rfl (Nat.le_of_ble_eq_true rfl) (c_RisLetter (hlt i)) ?_
        rintro _ _ ⟨rfl, rfl⟩
        refine X_if_ne rfl (fun c5 => ?_) (fun c5 => ?_)
        · refine X_run rfl ?_ ?_
          · simp [md_s, md_w, rget, r_a, r_b, r_c, r_i, r_l, nI_s1]
          try simp only [md_s, md_w, rget_some, r_a, r_b, r_c, r_i, r_l, r_nx, r_pc, Nat.reduceEqDiff, false_and, if_false, nI_s1]
          exact ih (by rw [← fin_step hi hp]; exact he)
        · have hs1 := b2f c5
          have hs2 : isDig (T.getD i 0) = true := by unfold isAl at hp; rw [hs1] at hp; exact hp
          refine X_run rfl ?_ ?_
          · simp [md_s, md_w, rget, r_a, r_b, r_c, r_i, r_l, hy, hz, vx (show i < 2000 by omega) (by decide), vi]
          try simp only [md_s, md_w, rget_some, r_a, r_b, r_c, r_i, r_l, r_nx, r_pc, Nat.reduceEqDiff, false_and, if_false, hy, hz, vx (show i < 2000 by omega) (by decide), vi]
          refine X_cS (args := [.int (nI (T.getD i 0))]) rfl (by decide) rfl rfl (Nat.le_of_ble_eq_true rfl) (c_RisDigit (hlt i)) ?_
          rintro _ _ ⟨rfl, rfl⟩
          refine X_if_eq rfl (fun c6 => absurd (b2i_zero.mp c6) (by rw [hs2]; decide)) (fun _ => ?_)
          refine X_run rfl ?_ ?_
          · simp [md_s, md_w, rget, r_a, r_b, r_c, r_i, r_l, nI_s1]
          try simp only [md_s, md_w, rget_some, r_a, r_b, r_c, r_i, r_l, r_nx, r_pc, Nat.reduceEqDiff, false_and, if_false, nI_s1]
          exact ih (by rw [← fin_step hi hp]; exact he)
    refine Eg.sub (key (F + 1) (by omega) (by rw [← fin_step hFl cA]; exact hE) ?_) ⟨rfl, rfl, rfl, trivial⟩
    refine X_run rfl ?_ ?_
    · simp
    try simp only [md_s, md_w, rget_some, r_a, r_b, r_c, r_i, r_l, r_nx, r_pc, nI_sub le1]
    refine X_icmp_le rfl (fun c4 => ?_) (fun c4 => ?_)
    · have c4 : ¬ 8 < E - F := Nat.not_lt.mpr ((nI_leI (b := 8) (by omega) (by decide)).mp c4)
      have e0 := t0 _ (show _ = (kw (seg T F E), F, E, seg T F E) by rw [if_neg c3, if_neg c2, if_pos c1, hE, if_neg c4])
      have hEF : F < E := by
        rw [← hE, fin_step hFl cA]
        have := (fin_le (p := isAl) (T := T) (i := F + 1) (by omega)).1
        omega
      have hw : wOk (seg T F E) := by
        refine ⟨by rw [seg_len le1 le2]; omega, by rw [seg_len le1 le2]; omega, fun b hb => ?_⟩
        rw [← hE] at hb
        exact al_of (seg_all b hb)
      obtain ⟨D3, e3, z3, y3⟩ := wr_al D2 (Y + 7) n 0
      have hO3 : TkO Y n D2 D3 := e3 ▸ TkO.al (by decide)
      refine X_run rfl ?_ ?_
      · simp [md_s, md_w, rget, r_a, r_b, r_c, r_i, r_l, hy, hz, n2, xn, e3]
      try simp only [md_s, md_w, rget_some, r_a, r_b, r_c, r_i, r_l, r_nx, r_pc, Nat.reduceEqDiff, false_and, if_false, hy, hz, n2, xn, e3]
      refine Eg.sub (ls' := [(0, .ref Y), (1, .int (nI F)), (3, .int (nI E)), (4, .int (nI (F + 0)))]) ?_ ⟨rfl, rfl, rfl, rfl, trivial⟩
      refine Eg_up (α := DaT) (fun i D' => Eg g (d + 3) mX11_token 0 0 (Zr g _) 99 [(0, .ref Y), (1, .int (nI F)), (3, .int (nI E)), (4, .int (nI (F + i)))] [] (md S D')) (fun i D' => TkO Y n D2 D' ∧ d_al D' (Y + 7) n = c37 (seg T F (F + i)) ∧ d_ai D' (Y + 5) n = nI F) (E - F) (fun i D4 hi hI k => ?_) (fun D4 hI => ?_) D3 ⟨hO3, by rw [z3, if_pos ⟨rfl, rfl⟩, Nat.add_zero, seg_nil]; rfl, by rw [y3.2.2]; exact p2⟩
      · obtain ⟨hO4, v4, pp4⟩ := hI
        have hT4 := hT2.tk hO4
        have n4 : d_fi D4 359 Y = nI n := by rw [hO4.1]; exact n2
        have vi := hT4.2.1 (F + i) (by omega)
        have xi := vx (show F + i < 2000 by omega) (by decide)
        obtain ⟨D5, e5, z5, y5⟩ := wr_al D4 (Y + 7) n (c37 (seg T F (F + i + 1)))
        refine X_run rfl trivial ?_
        refine X_icmp_ge rfl (fun c5 => no_le c5 (show F + i < E by omega) (by omega)) (fun c5 => ?_)
        refine X_run rfl ?_ ?_
        · simp [md_s, md_w, rget, r_a, r_b, r_c, r_i, r_l, hy, hz, n4, xn, v4, xi, vi]
        try simp only [md_s, md_w, rget_some, r_a, r_b, r_c, r_i, r_l, r_nx, r_pc, Nat.reduceEqDiff, false_and, if_false, hy, hz, n4, xn, v4, xi, vi]
        refine X_cS (args := [.long (c37 (seg T F (F + i))), .int (nI (T.getD (F + i) 0))]) rfl (by decide) rfl rfl (Nat.le_of_ble_eq_true rfl) (c_next (hlt (F + i))) ?_
        rintro _ _ ⟨rfl, rfl⟩
        rw [← c37_snoc, ← seg_snoc (by omega) (by omega)]
        refine X_run rfl ?_ ?_
        · simp [md_s, md_w, rget, r_a, r_b, r_c, r_i, r_l, hz, xn, e5, nI_s1]
        try simp only [md_s, md_w, rget_some, r_a, r_b, r_c, r_i, r_l, r_nx, r_pc, Nat.reduceEqDiff, false_and, if_false, hz, xn, e5, nI_s1]
        exact k D5 ⟨hO4.tr (e5 ▸ TkO.al (by decide)), by rw [z5, if_pos ⟨rfl, rfl⟩]; rfl, by rw [y5.2.2]; exact pp4⟩
      · obtain ⟨hO4, v4, pp4⟩ := hI
        rw [show F + (E - F) = E by omega] at v4 ⊢
        have n4 : d_fi D4 359 Y = nI n := by rw [hO4.1]; exact n2
        obtain ⟨D5, e5, z5, y5⟩ := wr_ai D4 (Y + 4) n 4
        have hO5 : TkO Y n D2 D5 := hO4.tr (e5 ▸ TkO.ai (by decide))
        refine X_run rfl trivial ?_
        refine X_icmp_ge rfl (fun _ => ?_) (fun c5 => no_nle c5 (Nat.le_refl _) (by omega))
        refine X_run rfl ?_ ?_
        · simp [md_s, md_w, rget, r_a, r_b, r_c, r_i, r_l, hy, hz, n4, xn, e5]
        try simp only [md_s, md_w, rget_some, r_a, r_b, r_c, r_i, r_l, r_nx, r_pc, Nat.reduceEqDiff, false_and, if_false, hy, hz, n4, xn, e5]
        refine Eg.sub (ls' := [(0, .ref Y), (3, .int (nI E)), (4, .int (nI 0))]) ?_ ⟨rfl, rfl, rfl, trivial⟩
        refine Eg_up (α := DaT) (fun i D' => Eg g (d + 3) mX11_token 0 0 (Zr g _) 152 [(0, .ref Y), (3, .int (nI E)), (4, .int (nI i))] [] (md S D')) (fun i D' => TkO Y n D2 D' ∧ d_al D' (Y + 7) n = c37 (seg T F E) ∧ d_ai D' (Y + 5) n = nI F ∧ d_ai D' (Y + 4) n = nI (rk (kwT (seg T F E) i))) 11 (fun i D6 hi hI k => ?_) (fun D6 hI => ?_) D5 ⟨hO5, by rw [y5.2.2]; exact v4, by rw [z5, if_neg (by omega)]; exact pp4, by rw [z5, if_pos ⟨rfl, rfl⟩]; rfl⟩
        · obtain ⟨hO6, v6, pp6, tt6⟩ := hI
          have n6 : d_fi D6 359 Y = nI n := by rw [hO6.1]; exact n2
          have hk6 := (hK.tk (hO2.tr hO6)) i hi
          have xi := vx (show i < 11 by omega) (by decide)
          refine X_run rfl ?_ ?_
          · simp [md_s, md_w, rget, r_a, r_b, r_c, r_i, r_l, hy, hz]
          try simp only [md_s, md_w, rget_some, r_a, r_b, r_c, r_i, r_l, r_nx, r_pc, Nat.reduceEqDiff, false_and, if_false, hy, hz]
          refine X_icmp_ge rfl (fun c5 => no_le c5 hi (by omega)) (fun c5 => ?_)
          refine X_run rfl ?_ ?_
          · simp [md_s, md_w, rget, r_a, r_b, r_c, r_i, r_l, hy, hz, n6, xn, v6, xi, hk6]
          try simp only [md_s, md_w, rget_some, r_a, r_b, r_c, r_i, r_l, r_nx, r_pc, Nat.reduceEqDiff, false_and, if_false, hy, hz, n6, xn, v6, xi, hk6]
          refine X_if_ne rfl (fun c6 => ?_) (fun c6 => ?_)
          · have c7 : ¬ kwW i = seg T F E := fun z => c6 ((lg_cmp_eq _ _).mpr (by rw [z]))
            refine X_run rfl ?_ ?_
            · simp [md_s, md_w, rget, r_a, r_b, r_c, r_i, r_l, nI_s1]
            try simp only [md_s, md_w, rget_some, r_a, r_b, r_c, r_i, r_l, r_nx, r_pc, Nat.reduceEqDiff, false_and, if_false, nI_s1]
            exact k D6 ⟨hO6, v6, pp6, by rw [kwT_miss c7]; exact tt6⟩
          · have c7 : kwW i = seg T F E := (c37_inj (kwW_ok i hi) hw).mp ((lg_cmp_eq _ _).mp c6)
            obtain ⟨D7, e7, z7, y7⟩ := wr_ai D6 (Y + 4) n (nI (10 + i))
            refine X_run rfl ?_ ?_
            · simp [md_s, md_w, rget, r_a, r_b, r_c, r_i, r_l, hy, hz, n6, xn, show (10 : Int32) = nI 10 from rfl, nI_add, e7, nI_s1]
            try simp only [md_s, md_w, rget_some, r_a, r_b, r_c, r_i, r_l, r_nx, r_pc, Nat.reduceEqDiff, false_and, if_false, hy, hz, n6, xn, show (10 : Int32) = nI 10 from rfl, nI_add, e7, nI_s1]
            refine k D7 ⟨hO6.tr (e7 ▸ TkO.ai (by decide)), by rw [y7.2.2]; exact v6, by rw [z7, if_neg (by omega)]; exact pp6, ?_⟩
            rw [z7, if_pos ⟨rfl, rfl⟩, (kwT_hit hi c7).2, rk, if_pos (by omega)]
        · obtain ⟨hO6, v6, pp6, tt6⟩ := hI
          refine X_run rfl ?_ ?_
          · simp [md_s, md_w, rget, r_a, r_b, r_c, r_i, r_l, hy, hz]
          try simp only [md_s, md_w, rget_some, r_a, r_b, r_c, r_i, r_l, r_nx, r_pc, Nat.reduceEqDiff, false_and, if_false, hy, hz]
          refine X_icmp_ge rfl (fun _ => ?_) (fun c5 => no_nle c5 (Nat.le_refl _) (by omega))
          refine X_run rfl trivial ?_
          refine X_iret rfl rfl ⟨D6, E, rfl, rfl, ?_, fun _ => by rw [e0], le2, hO2.tr hO6⟩
          rw [e0]
          exact ⟨tt6, pp6, fun _ => v6, fun z => absurd z (by have := kw_le (seg T F E); show ¬ kw _ = 12; omega)⟩
    · have c4 : 8 < E - F := Nat.lt_of_not_le (fun z => c4 ((nI_leI (b := 8) (by omega) (by decide)).mpr z))
      have e0 := t0 _ (show _ = (15, F, E, []) by rw [if_neg c3, if_neg c2, if_pos c1, hE, if_pos c4])
      refine X_run rfl trivial ?_
      have bd := bad E (by rw [e0]) (by rw [e0])
      exact X_iret rfl rfl ⟨D2, E, rfl, rfl, bd.1, bd.2, le2, hO2⟩
end REFTOK
