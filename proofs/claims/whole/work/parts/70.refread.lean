/-! reading tokens, by the reference -/
def TokR (D : DaT) (Y : Nat) (T : List Nat) (n : Nat) : Prop := ∀ j, j < n → TkP D Y j (tk T j)
def TkW (Y : Nat) (D D1 : DaT) : Prop := (∀ k a, ¬ (k = 359 ∧ a = Y) → d_fi D1 k a = d_fi D k a) ∧ d_fl D1 = d_fl D ∧ ∀ x, ¬ (Y + 4 ≤ x ∧ x ≤ Y + 7) → d_ai D1 x = d_ai D x ∧ d_al D1 x = d_al D x
theorem TkW.rf {Y : Nat} {D : DaT} : TkW Y D D := ⟨fun _ _ _ => rfl, rfl, fun _ _ => ⟨rfl, rfl⟩⟩
theorem TkW.tr {Y : Nat} {D D1 D2 : DaT} (h : TkW Y D D1) (h2 : TkW Y D1 D2) : TkW Y D D2 := ⟨fun k a hk => (h2.1 k a hk).trans (h.1 k a hk), h2.2.1.trans h.2.1, fun x hx => ⟨(h2.2.2 x hx).1.trans (h.2.2 x hx).1, (h2.2.2 x hx).2.trans (h.2.2 x hx).2⟩⟩
theorem TkW.o {Y n : Nat} {D D1 : DaT} (h : TkO Y n D D1) : TkW Y D D1 := ⟨fun k a _ => by rw [h.1], h.2.1, fun x hx => ⟨funext fun j => (h.2.2 x j (fun z => hx z.1)).1, funext fun j => (h.2.2 x j (fun z => hx z.1)).2⟩⟩
theorem TkW.n {Y : Nat} {D : DaT} {v : Int32} : TkW Y D (pfi D 359 Y v) := ⟨fun k a hk => by rw [rd_fi, if_neg hk], rfl, fun _ _ => ⟨rfl, rfl⟩⟩
theorem TapR.w {D D1 : DaT} {Y : Nat} {T : List Nat} (h : TapR D Y T) (ho : TkW Y D D1) : TapR D1 Y T := ⟨by rw [ho.1 _ _ (by omega)]; exact h.1, by rw [(ho.2.2 (Y + 1) (by omega)).1]; exact h.2.1, h.2.2⟩
theorem KwR.w {D D1 : DaT} {Y : Nat} (h : KwR D Y) (ho : TkW Y D D1) : KwR D1 Y := by
  unfold KwR
  rw [(ho.2.2 (Y + 3) (by omega)).2]
  exact h
theorem TokR.o {D D1 : DaT} {Y n : Nat} {T : List Nat} (h : TokR D Y T n) (ho : TkO Y n D D1) (hn : TkP D1 Y n (tk T n)) : TokR D1 Y T (n + 1) := fun j hj => by
  by_cases c : j = n
  · subst c; exact hn
  · have := h j (by omega)
    unfold TkP at this ⊢
    rw [(ho.2.2 (Y + 4) j (by omega)).1, (ho.2.2 (Y + 5) j (by omega)).1, (ho.2.2 (Y + 6) j (by omega)).1, (ho.2.2 (Y + 7) j (by omega)).2]
    exact this
theorem TokR.fi {D : DaT} {Y n k : Nat} {T : List Nat} {v : Int32} (h : TokR D Y T n) : TokR (pfi D k Y v) Y T n := h
theorem rkd_1 : ∀ k, k ≤ 15 → (rk k = 1 ↔ k = 15) := by decide
theorem rk_inj : ∀ i, i ≤ 15 → ∀ j, j ≤ 15 → rk i = rk j → i = j := by decide
theorem rk_le : ∀ k, k ≤ 15 → rk k ≤ 20 := by decide
theorem rkd_0 : ∀ k, k ≤ 15 → (rk k = 0 ↔ k = 14) := by decide
theorem tok_c {T : List Nat} {n b : Nat} (h : n ≠ 400) : tok T n b = tok T 0 b := by
  unfold tok
  rw [if_neg h, if_neg (show ¬ (0 : Nat) = 400 by decide)]
section REFREAD
variable {g : GG} {d c : Nat} {S : ShT} {D : DaT} {Y A A2 : Nat} {K : KT} {T P : List Nat} {e : Int32}
theorem c_read (hY : MoL S Y A A2) (hT : TapR D Y T) (hK : KwR D Y) : EvM g (d + 4) mX11_read 0 0 [.ref Y] (md S D) (fun v M1 => ∃ D1, v = none ∧ M1 = md S D1 ∧ TokR D1 Y T (tN T + 1) ∧ TkW Y D D1) := by
  obtain ⟨hy, hz, -⟩ := id hY
  have hN := tN_le T
  have hlt := gD_lt hT.2.2.2
  have h20 := hT.2.2.1
  let PP : Option Value → Mem → Prop := fun v M1 => ∃ D1, v = none ∧ M1 = md S D1 ∧ TokR D1 Y T (tN T + 1) ∧ TkW Y D D1
  have body : ∀ n D', n ≤ 400 → TokR D' Y T n → d_fi D' 359 Y = nI n → TkW Y D D' → (kd T n ≤ 13 → ∀ D2, TokR D2 Y T (n + 1) → d_fi D2 359 Y = nI (n + 1) → TkW Y D D2 → Eg g (d + 4) mX11_read 0 0 (Zr g PP) 9 [(0, .ref Y), (1, .int (nI (bh T (n + 1)))), (2, .int 0)] [] (md S D2)) → (14 ≤ kd T n → ∀ D2, TokR D2 Y T (n + 1) → TkW Y D D2 → Eg g (d + 4) mX11_read 0 0 (Zr g PP) 9 [(0, .ref Y), (2, .int 1)] [] (md S D2)) → Eg g (d + 4) mX11_read 0 0 (Zr g PP) 9 [(0, .ref Y), (1, .int (nI (bh T n))), (2, .int 0)] [] (md S D') := by
    intro n D' hn4 hTk hn hW kc ke
    have hT' := hT.w hW
    have hK' := hK.w hW
    obtain ⟨b1, b2, -⟩ := id hT'
    have xn := vx (show n < 402 by omega) (by decide)
    have hbl := bh_le T n
    obtain ⟨fl1, fl2⟩ := fin_le (p := isBlk) (T := T) (i := bh T n) hbl
    generalize hF : fin isBlk T (bh T n) = F at fl1 fl2
    refine X_run rfl trivial ?_
    refine X_if_ne rfl (fun z => absurd rfl z) (fun _ => ?_)
    have skip : Eg g (d + 4) mX11_read 0 0 (Zr g PP) 49 [(0, .ref Y), (1, .int (nI F)), (2, .int 0)] [] (md S D') → ∀ i, i ≤ T.length → fin isBlk T i = F → Eg g (d + 4) mX11_read 0 0 (Zr g PP) 13 [(0, .ref Y), (1, .int (nI i)), (2, .int 0)] [] (md S D') := by
      intro k i hi hEi
      refine fin_ind (p := isBlk) (T := T) (P := fun i => fin isBlk T i = F → Eg g (d + 4) mX11_read 0 0 (Zr g PP) 13 [(0, .ref Y), (1, .int (nI i)), (2, .int 0)] [] (md S D')) (fun i hi hs he => ?_) (fun i hi hp ih he => ?_) _ i rfl hi hEi
      · by_cases hil : T.length ≤ i
        · have : i = F := by rw [fin_end hil] at he; exact he
          subst this
          refine X_run rfl ?_ ?_
          · simp [md_s, md_w, rget, r_a, r_b, r_c, r_i, r_l, hy, b1]
          try simp only [md_s, md_w, rget_some, r_a, r_b, r_c, r_i, r_l, r_nx, r_pc, Nat.reduceEqDiff, false_and, if_false, hy, b1]
          refine X_icmp_ge rfl (fun _ => k) (fun c4 => no_nle c4 hil (by omega))
        · have hs : isBlk (T.getD i 0) = false := by rcases hs with h | h; exact absurd h hil; exact h
          have : i = F := by rw [fin_stop (by omega) hs] at he; exact he
          subst this
          have vi := b2 i (by omega)
          have hs' := of_decide_eq_false hs
          refine X_run rfl ?_ ?_
          · simp [md_s, md_w, rget, r_a, r_b, r_c, r_i, r_l, hy, b1]
          try simp only [md_s, md_w, rget_some, r_a, r_b, r_c, r_i, r_l, r_nx, r_pc, Nat.reduceEqDiff, false_and, if_false, hy, b1]
          refine X_icmp_ge rfl (fun _ => k) (fun c4 => ?_)
          refine X_run rfl ?_ ?_
          · simp [md_s, md_w, rget, r_a, r_b, r_c, r_i, r_l, hy, hz, vx (show i < 2000 by omega) (by decide), vi]
          try simp only [md_s, md_w, rget_some, r_a, r_b, r_c, r_i, r_l, r_nx, r_pc, Nat.reduceEqDiff, false_and, if_false, hy, hz, vx (show i < 2000 by omega) (by decide), vi]
          refine X_icmp_eq rfl (fun c5 => absurd (Or.inl ((nI_iff (hlt i) (by decide)).mp c5)) hs') (fun _ => ?_)
          refine X_run rfl ?_ ?_
          · simp [md_s, md_w, rget, r_a, r_b, r_c, r_i, r_l, hy, hz, vx (show i < 2000 by omega) (by decide), vi]
          try simp only [md_s, md_w, rget_some, r_a, r_b, r_c, r_i, r_l, r_nx, r_pc, Nat.reduceEqDiff, false_and, if_false, hy, hz, vx (show i < 2000 by omega) (by decide), vi]
          refine X_icmp_ne rfl (fun _ => k) (fun c5 => absurd (Or.inr ((nI_iff (c := 10) (hlt i) (by decide)).mp c5)) hs')
      · have vi := b2 i (by omega)
        have hp' := of_decide_eq_true hp
        have ih := ih (by rw [← fin_step hi hp]; exact he)
        refine X_run rfl ?_ ?_
        · simp [md_s, md_w, rget, r_a, r_b, r_c, r_i, r_l, hy, b1]
        try simp only [md_s, md_w, rget_some, r_a, r_b, r_c, r_i, r_l, r_nx, r_pc, Nat.reduceEqDiff, false_and, if_false, hy, b1]
        refine X_icmp_ge rfl (fun c4 => no_le c4 hi (by omega)) (fun c4 => ?_)
        refine X_run rfl ?_ ?_
        · simp [md_s, md_w, rget, r_a, r_b, r_c, r_i, r_l, hy, hz, vx (show i < 2000 by omega) (by decide), vi]
        try simp only [md_s, md_w, rget_some, r_a, r_b, r_c, r_i, r_l, r_nx, r_pc, Nat.reduceEqDiff, false_and, if_false, hy, hz, vx (show i < 2000 by omega) (by decide), vi]
        refine X_icmp_eq rfl (fun c5 => ?_) (fun c5 => ?_)
        · refine X_run rfl ?_ ?_
          · simp [md_s, md_w, rget, r_a, r_b, r_c, r_i, r_l, nI_s1]
          try simp only [md_s, md_w, rget_some, r_a, r_b, r_c, r_i, r_l, r_nx, r_pc, Nat.reduceEqDiff, false_and, if_false, nI_s1]
          exact ih
        · refine X_run rfl ?_ ?_
          · simp [md_s, md_w, rget, r_a, r_b, r_c, r_i, r_l, hy, hz, vx (show i < 2000 by omega) (by decide), vi]
          try simp only [md_s, md_w, rget_some, r_a, r_b, r_c, r_i, r_l, r_nx, r_pc, Nat.reduceEqDiff, false_and, if_false, hy, hz, vx (show i < 2000 by omega) (by decide), vi]
          refine X_icmp_ne rfl (fun c6 => ?_) (fun _ => ?_)
          · rcases hp' with h | h
            · exact absurd (by rw [h]; rfl) c5
            · exact absurd (by rw [h]; rfl) c6
          · refine X_run rfl ?_ ?_
            · simp [md_s, md_w, rget, r_a, r_b, r_c, r_i, r_l, nI_s1]
            try simp only [md_s, md_w, rget_some, r_a, r_b, r_c, r_i, r_l, r_nx, r_pc, Nat.reduceEqDiff, false_and, if_false, nI_s1]
            exact ih
    refine skip ?_ (bh T n) hbl hF
    refine X_run rfl ?_ ?_
    · simp [md_s, md_w, rget, r_a, r_b, r_c, r_i, r_l, hy, b1]
    try simp only [md_s, md_w, rget_some, r_a, r_b, r_c, r_i, r_l, r_nx, r_pc, Nat.reduceEqDiff, false_and, if_false, hy, b1]
    have over : 14 ≤ kd T n → ∀ D2, TkO Y n D' D2 → TkP D2 Y n (tk T n) → ∀ D3, pfi D2 359 Y (nI (n + 1)) = D3 → Eg g (d + 4) mX11_read 0 0 (Zr g PP) 9 [(0, .ref Y), (2, .int 1)] [] (md S D3) := fun hk D2 hO2 hP2 D3 e3 => by
      refine ke hk D3 ?_ ?_
      · have := hTk.o hO2 hP2
        exact e3 ▸ this.fi
      · exact hW.tr ((TkW.o hO2).tr (e3 ▸ TkW.n))
    refine X_icmp_ne rfl (fun c1 => ?_) (fun c1 => ?_)
    · have c1 : ¬ F = T.length := fun z => c1 (by rw [z])
      have hFl : F < T.length := by omega
      refine X_run rfl trivial ?_
      refine X_cV (args := [.int (nI F)]) rfl (by decide) hy.1 rfl rfl (Nat.le_of_ble_eq_true rfl) (c_token hY hT' hK' hn hn4 hF hFl) ?_
      rintro _ _ ⟨D2, bb, rfl, rfl, hP2, hbb, hbl2, hO2⟩
      have n2 : d_fi D2 359 Y = nI n := by rw [hO2.1]; exact hn
      have hk15 := (tok_ok (T := T) (c := 0) hbl).1
      refine X_run rfl ?_ ?_
      · simp [md_s, md_w, rget, r_a, r_b, r_c, r_i, r_l, hy, n2]
      try simp only [md_s, md_w, rget_some, r_a, r_b, r_c, r_i, r_l, r_nx, r_pc, Nat.reduceEqDiff, false_and, if_false, hy, n2]
      refine X_icmp_ne rfl (fun c2 => ?_) (fun c2 => ?_)
      · have c2 : n ≠ 400 := fun z => c2 (by rw [z]; rfl)
        have et : tk T n = tok T 0 (bh T n) := tok_c c2
        have ek : kd T n = (tok T 0 (bh T n)).1 := by unfold kd; rw [et]
        rw [← et] at hP2 hbb
        have ty := hP2.1
        have ek2 : (tk T n).1 = kd T n := rfl
        rw [ek2] at ty hbb
        rw [← ek] at hk15
        refine X_run rfl ?_ ?_
        · simp [md_s, md_w, rget, r_a, r_b, r_c, r_i, r_l, hy, hz, n2, xn, ty]
        try simp only [md_s, md_w, rget_some, r_a, r_b, r_c, r_i, r_l, r_nx, r_pc, Nat.reduceEqDiff, false_and, if_false, hy, hz, n2, xn, ty]
        refine X_icmp_ne rfl (fun c3 => ?_) (fun c3 => ?_)
        · have c3 : ¬ kd T n = 15 := fun z => c3 (by rw [z]; rfl)
          have hne14 : ¬ kd T n = 14 := fun z => by
            rw [ek] at z
            unfold tok at z
            rw [hF, if_neg (by omega), if_neg (by decide)] at z
            split at z
            · cases z
            · split at z
              · split at z <;> cases z
              · split at z
                · split at z
                  · cases z
                  · have := kw_le (seg T F (fin isAl T F))
                    have z : kw (seg T F (fin isAl T F)) = 14 := z
                    omega
                · cases z
          have hk13 : kd T n ≤ 13 := by omega
          obtain ⟨D3, e3, z3, y3⟩ := wr_fi D2 359 Y (nI (n + 1))
          have hb1 : bb = bh T (n + 1) := by rw [hbb hk13]; rfl
          refine X_run rfl ?_ ?_
          · simp [md_s, md_w, rget, r_a, r_b, r_c, r_i, r_l, hy, n2, nI_s1, e3]
          try simp only [md_s, md_w, rget_some, r_a, r_b, r_c, r_i, r_l, r_nx, r_pc, Nat.reduceEqDiff, false_and, if_false, hy, n2, nI_s1, e3]
          have k2 := kc hk13 D3 (e3 ▸ (hTk.o hO2 hP2).fi) (by rw [z3, if_pos ⟨rfl, rfl⟩]) (hW.tr ((TkW.o hO2).tr (e3 ▸ TkW.n)))
          rw [← hb1] at k2
          exact k2
        · have c3 : kd T n = 15 := (rkd_1 _ hk15).mp (nI_inj (by have := rk_le _ hk15; omega) (by decide) c3)
          obtain ⟨D3, e3, z3, y3⟩ := wr_fi D2 359 Y (nI (n + 1))
          refine X_run rfl ?_ ?_
          · simp [md_s, md_w, rget, r_a, r_b, r_c, r_i, r_l, hy, n2, nI_s1, e3]
          try simp only [md_s, md_w, rget_some, r_a, r_b, r_c, r_i, r_l, r_nx, r_pc, Nat.reduceEqDiff, false_and, if_false, hy, n2, nI_s1, e3]
          exact Eg.sub (over (by omega) D2 hO2 hP2 D3 e3) ⟨rfl, rfl, trivial⟩
      · have c2 : n = 400 := nI_inj (by omega) (by decide) c2
        have et : tk T n = (15, F, bh T n, []) := by
          show tok T n (bh T n) = _
          unfold tok
          rw [hF, if_neg (by omega), if_pos c2]
        obtain ⟨D3, e3, z3, y3⟩ := wr_ai D2 (Y + 4) n 1
        have hO3 : TkO Y n D' D3 := hO2.tr (e3 ▸ TkO.ai (by decide))
        have n3 : d_fi D3 359 Y = nI n := by rw [y3.1]; exact n2
        have ty3 : d_ai D3 (Y + 4) n = 1 := by rw [z3, if_pos ⟨rfl, rfl⟩]
        have hpl : (tok T 0 (bh T n)).2.1 = F := by
          unfold tok
          rw [hF, if_neg (by omega), if_neg (by decide)]
          split
          · rfl
          · split
            · split <;> rfl
            · split
              · split <;> rfl
              · rfl
        have hP3 : TkP D3 Y n (tk T n) := by
          rw [et]
          refine ⟨ty3, ?_, fun z => absurd z (show ¬ 15 ≤ 11 by decide), fun z => absurd z (show ¬ 15 = 12 by decide)⟩
          rw [z3, if_neg (by omega), hP2.2.1, hpl]
        obtain ⟨D4, e4, z4, y4⟩ := wr_fi D3 359 Y (nI (n + 1))
        refine X_run rfl ?_ ?_
        · simp [md_s, md_w, rget, r_a, r_b, r_c, r_i, r_l, hy, hz, n2, xn, e3, n3, ty3]
        try simp only [md_s, md_w, rget_some, r_a, r_b, r_c, r_i, r_l, r_nx, r_pc, Nat.reduceEqDiff, false_and, if_false, hy, hz, n2, xn, e3, n3, ty3]
        refine X_icmp_ne rfl (fun c3 => absurd rfl c3) (fun _ => ?_)
        refine X_run rfl ?_ ?_
        · simp [md_s, md_w, rget, r_a, r_b, r_c, r_i, r_l, hy, n3, nI_s1, e4]
        try simp only [md_s, md_w, rget_some, r_a, r_b, r_c, r_i, r_l, r_nx, r_pc, Nat.reduceEqDiff, false_and, if_false, hy, n3, nI_s1, e4]
        exact Eg.sub (over (by unfold kd; rw [et]; exact (show 14 ≤ 15 by decide)) D3 hO3 hP3 D4 e4) ⟨rfl, rfl, trivial⟩
    · have c1 : F = T.length := nI_inj (by omega) (by omega) c1
      have et : tk T n = (14, F, bh T n, []) := by
        show tok T n (bh T n) = _
        unfold tok
        rw [hF, if_pos (by omega)]
      obtain ⟨D2, e2, z2, y2⟩ := wr_ai D' (Y + 5) n (nI T.length)
      have n2 : d_fi D2 359 Y = nI n := by rw [y2.1]; exact hn
      obtain ⟨D3, e3, z3, y3⟩ := wr_ai D2 (Y + 4) n 0
      have n3 : d_fi D3 359 Y = nI n := by rw [y3.1]; exact n2
      have hO3 : TkO Y n D' D3 := (e2 ▸ TkO.ai (by decide) : TkO Y n D' D2).tr (e3 ▸ TkO.ai (by decide))
      have hP3 : TkP D3 Y n (tk T n) := by
        rw [et]
        exact ⟨by rw [z3, if_pos ⟨rfl, rfl⟩]; rfl, by rw [z3, if_neg (by omega), z2, if_pos ⟨rfl, rfl⟩, c1], fun z => absurd z (show ¬ 14 ≤ 11 by decide), fun z => absurd z (show ¬ 14 = 12 by decide)⟩
      obtain ⟨D4, e4, z4, y4⟩ := wr_fi D3 359 Y (nI (n + 1))
      refine X_run rfl ?_ ?_
      · simp [md_s, md_w, rget, r_a, r_b, r_c, r_i, r_l, hy, hz, hn, b1, xn, e2, n2, e3, n3, nI_s1, e4]
      try simp only [md_s, md_w, rget_some, r_a, r_b, r_c, r_i, r_l, r_nx, r_pc, Nat.reduceEqDiff, false_and, if_false, hy, hz, hn, b1, xn, e2, n2, e3, n3, nI_s1, e4]
      exact Eg.sub (over (by unfold kd; rw [et]; exact Nat.le_refl 14) D3 hO3 hP3 D4 e4) ⟨rfl, rfl, trivial⟩
  obtain ⟨D1, e1, z1, y1⟩ := wr_fi D 359 Y 0
  refine EvM.mk (by decide) (Nat.le_of_ble_eq_true rfl) ?_
  refine X_run rfl ?_ ?_
  · simp [md_s, md_w, rget, r_a, r_b, r_c, r_i, r_l, hy, e1]
  try simp only [md_s, md_w, rget_some, r_a, r_b, r_c, r_i, r_l, r_nx, r_pc, Nat.reduceEqDiff, false_and, if_false, hy, e1]
  refine Eg.sub (ls' := [(0, .ref Y), (1, .int (nI (bh T 0))), (2, .int 0)]) ?_ ⟨rfl, rfl, rfl, trivial⟩
  refine Eg_up (α := DaT) (fun i D' => Eg g (d + 4) mX11_read 0 0 (Zr g PP) 9 [(0, .ref Y), (1, .int (nI (bh T i))), (2, .int 0)] [] (md S D')) (fun i D' => TokR D' Y T i ∧ d_fi D' 359 Y = nI i ∧ TkW Y D D') (tN T) (fun i D2 hi hI k => ?_) (fun D2 hI => ?_) D1 ⟨fun j hj => absurd hj (Nat.not_lt_zero _), by rw [z1, if_pos ⟨rfl, rfl⟩]; rfl, e1 ▸ TkW.n⟩
  · obtain ⟨h1, h2, h3⟩ := hI
    exact body i D2 (by omega) h1 h2 h3 (fun _ D3 j1 j2 j3 => k D3 ⟨j1, j2, j3⟩) (fun z => absurd (tN_lt hi) (by omega))
  · obtain ⟨h1, h2, h3⟩ := hI
    refine body (tN T) D2 hN h1 h2 h3 (fun z => absurd (tN_end T) (by omega)) (fun _ D3 j1 j3 => ?_)
    refine X_run rfl trivial ?_
    refine X_if_ne rfl (fun _ => ?_) (fun z => absurd z (by decide))
    refine X_run rfl trivial ?_
    exact X_vret rfl rfl ⟨D3, rfl, rfl, j1, j3⟩
end REFREAD
