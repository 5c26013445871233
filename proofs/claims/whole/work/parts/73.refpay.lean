section REFPAY
variable {g : GG} {d c : Nat} {S : ShT} {D : DaT} {Y A A2 s e : Nat} {K : KT} {T : List Nat}
theorem wtg_lt {K : KT} {q : Nat} (h : wtg K q = true) : q < k_ny K := by
  unfold wtg at h
  rw [Bool.and_eq_true] at h
  exact of_decide_eq_true h.1
set_option maxRecDepth 20000 in
theorem c_carryY (hY : MoL S Y A A2) (hT : TokR D Y T (tN T + 1)) (hW : WfK K) (hK : WrK K) (hR : RepR D A2 K) (hs : d_fi D 364 Y = nI s) (h0 : kdA T s = 5) (h1 : kdA T (s + 1) = 11) (h3 : kdA T (s + 3) = 11) (h4 : kdA T (s + 4) = 12) (h5 : kdA T (s + 5) = 11) (h7 : kdA T (s + 7) = 12) (h8 : (kdA T (s + 8) = 8 ∧ kdA T (s + 9) = 12 ∧ e = s + 11) ∨ (kdA T (s + 8) = 13 ∧ e = s + 9)) : EvM g (d + 3) mX11_carryOut 0 0 [.ref Y] (md S D) (CoP S D Y A2 T (tellS T K s) e) := by
  obtain ⟨l1, l2, l3⟩ := hY.lo
  obtain ⟨hy, hz, ⟨-, hL⟩, -⟩ := id hY
  obtain ⟨hts, hta, htb⟩ := hL.all
  obtain ⟨w1, w2, w3, w4⟩ := id hW
  have hN := tN_le T
  have hs1 := kdA_lo h1 (by decide)
  have hs3 := kdA_lo h3 (by decide)
  have hs4 := kdA_lo h4 (by decide)
  have hs5 := kdA_lo h5 (by decide)
  have hs7 := kdA_lo h7 (by decide)
  have hs8 : s + 8 < tN T := by rcases h8 with h | h; exact (kdA_lo h.1 (by decide)).1; exact (kdA_lo h.1 (by decide)).1
  have x0 := vx (show s < 402 by omega) (by decide)
  have x1 := vx (show s + 1 < 402 by omega) (by decide)
  have x3 := vx (show s + 3 < 402 by omega) (by decide)
  have x4 := vx (show s + 4 < 402 by omega) (by decide)
  have x5 := vx (show s + 5 < 402 by omega) (by decide)
  have x7 := vx (show s + 7 < 402 by omega) (by decide)
  have x8 := vx (show s + 8 < 402 by omega) (by decide)
  have x9 := vx (show s + 9 < 402 by omega) (by decide)
  have ty := kdA_ty hT (show s ≤ tN T by omega)
  have ty8 := kdA_ty hT (show s + 8 ≤ tN T by omega)
  have hw1 := wd_ok h1 (by decide)
  have hw3 := wd_ok h3 (by decide)
  have hw5 := wd_ok h5 (by decide)
  have v1 : d_al D (Y + 7) (s + 1) = c37 (wd T (s + 1)) := (hT (s + 1) (by omega)).2.2.1 (by have := hs1.2; unfold kd at this; omega)
  have v3 : d_al D (Y + 7) (s + 3) = c37 (wd T (s + 3)) := (hT (s + 3) (by omega)).2.2.1 (by have := hs3.2; unfold kd at this; omega)
  have v5 : d_al D (Y + 7) (s + 5) = c37 (wd T (s + 5)) := (hT (s + 5) (by omega)).2.2.1 (by have := hs5.2; unfold kd at this; omega)
  have v4 : d_ai D (Y + 6) (s + 4) = nI (nmV T (s + 4)) := (hT (s + 4) (by omega)).2.2.2 hs4.2
  have v7 : d_ai D (Y + 6) (s + 7) = nI (nmV T (s + 7)) := (hT (s + 7) (by omega)).2.2.2 hs7.2
  have hq4 := nm_le h4
  have hq7 := nm_le h7
  have k3 : (3 : Int32) = nI 3 := rfl
  have k4 : (4 : Int32) = nI 4 := rfl
  have k5 : (5 : Int32) = nI 5 := rfl
  have k7 : (7 : Int32) = nI 7 := rfl
  have k8 : (8 : Int32) = nI 8 := rfl
  have k9 : (9 : Int32) = nI 9 := rfl
  have k11 : (11 : Int32) = nI 11 := rfl
  obtain ⟨D1, e1, ⟨f1, g1, y1, y1'⟩, o1, r1⟩ := at_wr D (Y := Y) (A2 := A2) (nI (s + 1)) (by omega)
  have hR1 := r1 K hR
  have hc1 := hR1.1
  unfold RrC at hc1
  have et : tellS T K s = tellY T K s := by
    unfold tellS
    rw [h0, if_neg (by decide), if_neg (by decide), if_pos rfl]
  unfold tellY at et
  refine EvM.mk (by decide) (Nat.le_of_ble_eq_true rfl) ?_
  refine X_run rfl ?_ ?_
  · simp [md_s, md_w, rget, r_a, r_b, r_c, r_i, r_l, hy, hz, hs, x0, ty]
  try simp only [md_s, md_w, rget_some, r_a, r_b, r_c, r_i, r_l, r_nx, r_pc, Nat.reduceEqDiff, false_and, if_false, hy, hz, hs, x0, ty]
  rw [h0]
  refine X_icmp_eq rfl (fun z => absurd z (by decide)) (fun _ => ?_)
  refine X_run rfl trivial ?_
  refine X_icmp_ne rfl (fun _ => ?_) (fun z => absurd z (by decide))
  refine X_run rfl trivial ?_
  refine X_icmp_eq rfl (fun z => absurd z (by decide)) (fun _ => ?_)
  refine X_run rfl trivial ?_
  refine X_icmp_ne rfl (fun _ => ?_) (fun z => absurd z (by decide))
  refine X_run rfl ?_ ?_
  · simp [md_s, md_w, rget, r_a, r_b, r_c, r_i, r_l, hy, hz, nI_s1, e1, f1, y1', x1, v1]
  try simp only [md_s, md_w, rget_some, r_a, r_b, r_c, r_i, r_l, r_nx, r_pc, Nat.reduceEqDiff, false_and, if_false, hy, hz, nI_s1, e1, f1, y1', x1, v1]
  refine X_cV (args := [.long (c37 (wd T (s + 1)))]) rfl (by decide) hts.1 rfl rfl (Nat.le_of_ble_eq_true rfl) (c_Rparty hL hW hR1) ?_
  rintro _ _ ⟨rfl, rfl⟩
  rw [pIx_c37 hK hw1]
  refine X_run rfl trivial ?_
  cases hp1 : pIx K (wd T (s + 1)) with
  | none =>
    rw [hp1] at et
    refine X_icmp_ne rfl (fun z => absurd rfl z) (fun _ => ?_)
    refine X_run rfl trivial ?_
    exact X_iret rfl rfl (CoP.err et o1 f1 (by omega))
  | some a =>
    have ha := pIx_lt hp1
    rw [hp1] at et
    dsimp only at et
    refine X_icmp_ne rfl (fun _ => ?_) (fun z => absurd ((pE_some (o := some a) (fun q hq => by cases hq; exact ha) (show k_np K < 2 ^ 31 by omega)).mp z) (by simp))
    refine X_run rfl ?_ ?_
    · simp [md_s, md_w, rget, r_a, r_b, r_c, r_i, r_l, hts, hc1]
    try simp only [md_s, md_w, rget_some, r_a, r_b, r_c, r_i, r_l, r_nx, r_pc, Nat.reduceEqDiff, false_and, if_false, hts, hc1]
    refine X_icmp_ne rfl (fun c2 => ?_) (fun c2 => ?_)
    · have c2 : ¬ 60 ≤ k_ny K := fun z => c2 (by rw [show k_ny K = 60 by omega]; rfl)
      rw [if_neg c2] at et
      obtain ⟨D2, e2, ⟨f2, g2, y2, y2'⟩, o2, r2⟩ := at_wr D1 (Y := Y) (A2 := A2) (nI (s + 3)) (by omega)
      have hR2 := r2 K hR1
      refine X_run rfl ?_ ?_
      · simp [md_s, md_w, rget, r_a, r_b, r_c, r_i, r_l, hy, hz, k3, sN, e2, f2, y2', y1', x3, v3]
      try simp only [md_s, md_w, rget_some, r_a, r_b, r_c, r_i, r_l, r_nx, r_pc, Nat.reduceEqDiff, false_and, if_false, hy, hz, k3, sN, e2, f2, y2', y1', x3, v3]
      refine X_cV (args := [.long (c37 (wd T (s + 3)))]) rfl (by decide) hts.1 rfl rfl (Nat.le_of_ble_eq_true rfl) (c_Rparty hL hW hR2) ?_
      rintro _ _ ⟨rfl, rfl⟩
      rw [pIx_c37 hK hw3]
      refine X_run rfl trivial ?_
      cases hp3 : pIx K (wd T (s + 3)) with
      | none =>
        rw [hp3] at et
        refine X_icmp_ne rfl (fun z => absurd rfl z) (fun _ => ?_)
        refine X_run rfl trivial ?_
        exact X_iret rfl rfl (CoP.err et (o1.tr o2) f2 (by omega))
      | some b =>
        have hb := pIx_lt hp3
        rw [hp3] at et
        dsimp only at et
        unfold tellY2 at et
        refine X_icmp_ne rfl (fun _ => ?_) (fun z => absurd ((pE_some (o := some b) (fun q hq => by cases hq; exact hb) (show k_np K < 2 ^ 31 by omega)).mp z) (by simp))
        refine X_run rfl trivial ?_
        refine X_icmp_ne rfl (fun c3 => ?_) (fun c3 => ?_)
        · have c3 : ¬ b = a := fun z => c3 (by rw [z])
          rw [if_neg c3] at et
          obtain ⟨D3, e3, ⟨f3, g3, y3, y3'⟩, o3, r3⟩ := at_wr D2 (Y := Y) (A2 := A2) (nI (s + 4)) (by omega)
          have hR3 := r3 K hR2
          refine X_run rfl ?_ ?_
          · simp [md_s, md_w, rget, r_a, r_b, r_c, r_i, r_l, hy, hz, k4, sN, e3, f3, y3, y2, y1, x4, v4]
          try simp only [md_s, md_w, rget_some, r_a, r_b, r_c, r_i, r_l, r_nx, r_pc, Nat.reduceEqDiff, false_and, if_false, hy, hz, k4, sN, e3, f3, y3, y2, y1, x4, v4]
          refine X_cS (args := [.int (nI (nmV T (s + 4))), .int 1, .int 100000]) rfl (by decide) rfl rfl (Nat.le_of_ble_eq_true rfl) c_isIn ?_
          rintro _ _ ⟨rfl, rfl⟩
          rw [if_inR, show inR (nI (nmV T (s + 4))) 1 100000 = inR (nI (nmV T (s + 4))) (nI 1) (nI 100000) from rfl, inR_n (by omega) (by decide) (by decide)]
          refine X_if_ne rfl (fun c4 => ?_) (fun c4 => ?_)
          · have c4 := of_decide_eq_true (b2i_nz c4)
            rw [if_neg (fun z => z c4)] at et
            obtain ⟨D4, e4, ⟨f4, g4, y4, y4'⟩, o4, r4⟩ := at_wr D3 (Y := Y) (A2 := A2) (nI (s + 5)) (by omega)
            have hR4 := r4 K hR3
            refine X_run rfl ?_ ?_
            · simp [md_s, md_w, rget, r_a, r_b, r_c, r_i, r_l, hy, hz, k5, sN, e4, f4, y4', y3', y2', y1', x5, v5]
            try simp only [md_s, md_w, rget_some, r_a, r_b, r_c, r_i, r_l, r_nx, r_pc, Nat.reduceEqDiff, false_and, if_false, hy, hz, k5, sN, e4, f4, y4', y3', y2', y1', x5, v5]
            refine X_cV (args := [.long (c37 (wd T (s + 5)))]) rfl (by decide) hts.1 rfl rfl (Nat.le_of_ble_eq_true rfl) (c_Rmoney hL hW hR4) ?_
            rintro _ _ ⟨rfl, rfl⟩
            rw [mIx_c37 hK hw5]
            refine X_run rfl trivial ?_
            cases hm5 : mIx K (wd T (s + 5)) with
            | none =>
              rw [hm5] at et
              refine X_icmp_ne rfl (fun z => absurd rfl z) (fun _ => ?_)
              refine X_run rfl trivial ?_
              exact X_iret rfl rfl (CoP.err et (((o1.tr o2).tr o3).tr o4) f4 (by omega))
            | some m =>
              have hm := mIx_lt hm5
              rw [hm5] at et
              dsimp only at et
              unfold tellY3 at et
              refine X_icmp_ne rfl (fun _ => ?_) (fun z => absurd ((pE_some (o := some m) (fun q hq => by cases hq; exact hm) (show k_nm K < 2 ^ 31 by omega)).mp z) (by simp))
              obtain ⟨D5, e5, ⟨f5, g5, y5, y5'⟩, o5, r5⟩ := at_wr D4 (Y := Y) (A2 := A2) (nI (s + 7)) (by omega)
              have hR5 := r5 K hR4
              have hc5 := hR5.1
              unfold RrC at hc5
              refine X_run rfl ?_ ?_
              · simp [md_s, md_w, rget, r_a, r_b, r_c, r_i, r_l, hy, hz, hts, k7, sN, e5, f5, y5, y4, y3, y2, y1, x7, v7, hc5]
              try simp only [md_s, md_w, rget_some, r_a, r_b, r_c, r_i, r_l, r_nx, r_pc, Nat.reduceEqDiff, false_and, if_false, hy, hz, hts, k7, sN, e5, f5, y5, y4, y3, y2, y1, x7, v7, hc5]
              refine X_cS (args := [.int (nI (nmV T (s + 7))), .int (k_day K), .int (k_day K + 30)]) rfl (by decide) rfl rfl (Nat.le_of_ble_eq_true rfl) c_isIn ?_
              rintro _ _ ⟨rfl, rfl⟩
              rw [if_inR]
              refine X_if_ne rfl (fun c5 => ?_) (fun c5 => ?_)
              · rw [if_neg (fun z => z (b2i_nz c5))] at et
                obtain ⟨D6, e6, ⟨f6, g6, y6, y6'⟩, o6, r6⟩ := at_wr D5 (Y := Y) (A2 := A2) (nI (s + 9)) (by omega)
                have hR6 := r6 K hR5
                have oo : CoO Y A2 D D6 := ((((o1.tr o2).tr o3).tr o4).tr o5).tr o6
                refine X_run rfl ?_ ?_
                · simp [md_s, md_w, rget, r_a, r_b, r_c, r_i, r_l, hy, hz, k8, sN, x8, y5, y4, y3, y2, y1, ty8]
                try simp only [md_s, md_w, rget_some, r_a, r_b, r_c, r_i, r_l, r_nx, r_pc, Nat.reduceEqDiff, false_and, if_false, hy, hz, k8, sN, x8, y5, y4, y3, y2, y1, ty8]
                rcases h8 with ⟨h8, h9, he⟩ | ⟨h8, he⟩
                · have hs9 := kdA_lo h9 (by decide)
                  have v9 : d_ai D (Y + 6) (s + 9) = nI (nmV T (s + 9)) := (hT (s + 9) (by omega)).2.2.2 hs9.2
                  have hq9 := nm_le h9
                  rw [h8] at et ⊢
                  rw [if_pos rfl] at et
                  refine X_icmp_ne rfl (fun z => absurd (by decide) z) (fun _ => ?_)
                  refine X_run rfl ?_ ?_
                  · simp [md_s, md_w, rget, r_a, r_b, r_c, r_i, r_l, hy, k9, sN, e6]
                  try simp only [md_s, md_w, rget_some, r_a, r_b, r_c, r_i, r_l, r_nx, r_pc, Nat.reduceEqDiff, false_and, if_false, hy, k9, sN, e6]
                  refine X_if_eq rfl (fun z => absurd z (by decide)) (fun _ => ?_)
                  refine X_run rfl ?_ ?_
                  · simp [md_s, md_w, rget, r_a, r_b, r_c, r_i, r_l, hy, hz, f6, y6, y5, y4, y3, y2, y1, x9, v9]
                  try simp only [md_s, md_w, rget_some, r_a, r_b, r_c, r_i, r_l, r_nx, r_pc, Nat.reduceEqDiff, false_and, if_false, hy, hz, f6, y6, y5, y4, y3, y2, y1, x9, v9]
                  refine X_if_eq rfl (fun z => absurd z (by decide)) (fun _ => ?_)
                  refine X_run rfl trivial ?_
                  refine X_cV (args := [.int (nI (nmV T (s + 9)))]) rfl (by decide) hts.1 rfl rfl (Nat.le_of_ble_eq_true rfl) (c_RisWaiting (d := d + 1) hL hW hR6 (by omega)) ?_
                  rintro _ _ ⟨rfl, rfl⟩
                  refine X_if_eq rfl (fun c6 => ?_) (fun c6 => ?_)
                  · rw [b2f c6, Bool.false_and, if_neg (by decide)] at et
                    refine X_run rfl trivial ?_
                    exact X_iret rfl rfl (CoP.err et oo f6 (by omega))
                  · have c6 := b2i_nz c6
                    have hlt := wtg_lt c6
                    rw [c6, Bool.true_and] at et
                    have xq := vx (show nmV T (s + 9) < 60 by omega) (by decide)
                    have hv := hR6.2.2.2 _ hlt
                    unfold RrY at hv
                    refine X_run rfl ?_ ?_
                    · simp [md_s, md_w, rget, r_a, r_b, r_c, r_i, r_l, hts, htb, xq, hv]
                    try simp only [md_s, md_w, rget_some, r_a, r_b, r_c, r_i, r_l, r_nx, r_pc, Nat.reduceEqDiff, false_and, if_false, hts, htb, xq, hv]
                    cases hpr : k_pr K (nmV T (s + 9)) with
                    | some q =>
                      rw [hpr, if_neg (show ¬ (some q).isNone = true from fun z => by cases z)] at et
                      have hq := (w4 _ hlt).2.2.2 q hpr
                      refine X_icmp_eq rfl (fun z => absurd ((pE_some (o := some q) (fun q' hq' => by cases hq'; exact hq) (show k_ny K < 2 ^ 31 by omega)).mp z) (by simp)) (fun _ => ?_)
                      refine X_run rfl trivial ?_
                      exact X_iret rfl rfl (CoP.err et oo f6 (by omega))
                    | none =>
                      rw [hpr, if_pos (show (none : Option Nat).isNone = true from rfl)] at et
                      refine X_icmp_eq rfl (fun _ => ?_) (fun z => absurd rfl z)
                      refine X_run rfl ?_ ?_
                      · simp [md_s, md_w, rget, r_a, r_b, r_c, r_i, r_l, hy, hz, k4, k7, sN, x4, x7, y6, y5, y4, y3, y2, y1, v4, v7]
                      try simp only [md_s, md_w, rget_some, r_a, r_b, r_c, r_i, r_l, r_nx, r_pc, Nat.reduceEqDiff, false_and, if_false, hy, hz, k4, k7, sN, x4, x7, y6, y5, y4, y3, y2, y1, v4, v7]
                      refine X_cV (args := [.int (nI a), .int (nI b), .int (nI (nmV T (s + 4))), .int (nI m), .int (nI (nmV T (s + 7))), .int (pE (some (nmV T (s + 9))))]) rfl (by decide) hts.1 rfl rfl (Nat.le_of_ble_eq_true rfl) (c_RaddPayment (o := some (nmV T (s + 9))) hL hW hR6 (by omega) (fun q hq => by cases hq; exact hlt)) ?_
                      rintro _ _ ⟨D7, rfl, rfl, hR7, hO7⟩
                      refine X_run rfl trivial ?_
                      refine X_if_eq rfl (fun z => absurd z (by decide)) (fun _ => ?_)
                      obtain ⟨D8, e8, ⟨f8, g8, y8, y8'⟩, o8, r8⟩ := at_wr D7 (Y := Y) (A2 := A2) (nI (s + 11)) (by omega)
                      refine X_run rfl ?_ ?_
                      · simp [md_s, md_w, rget, r_a, r_b, r_c, r_i, r_l, hy, k11, sN, e8]
                      try simp only [md_s, md_w, rget_some, r_a, r_b, r_c, r_i, r_l, r_nx, r_pc, Nat.reduceEqDiff, false_and, if_false, hy, k11, sN, e8]
                      exact X_iret rfl rfl (CoP.ok et ((oo.tr (CoO.o hO7)).tr o8) (by rw [he]; exact f8) (r8 _ hR7))
                · rw [h8] at et ⊢
                  rw [if_neg (by decide)] at et
                  refine X_icmp_ne rfl (fun _ => ?_) (fun z => absurd z (by decide))
                  refine X_run rfl ?_ ?_
                  · simp [md_s, md_w, rget, r_a, r_b, r_c, r_i, r_l, hy, k9, sN, e6]
                  try simp only [md_s, md_w, rget_some, r_a, r_b, r_c, r_i, r_l, r_nx, r_pc, Nat.reduceEqDiff, false_and, if_false, hy, k9, sN, e6]
                  refine X_if_eq rfl (fun _ => ?_) (fun z => absurd rfl z)
                  refine X_run rfl trivial ?_
                  refine X_if_eq rfl (fun _ => ?_) (fun z => absurd rfl z)
                  refine X_run rfl ?_ ?_
                  · simp [md_s, md_w, rget, r_a, r_b, r_c, r_i, r_l, hy, hz, k4, k7, sN, x4, x7, y6, y5, y4, y3, y2, y1, v4, v7]
                  try simp only [md_s, md_w, rget_some, r_a, r_b, r_c, r_i, r_l, r_nx, r_pc, Nat.reduceEqDiff, false_and, if_false, hy, hz, k4, k7, sN, x4, x7, y6, y5, y4, y3, y2, y1, v4, v7]
                  refine X_cV (args := [.int (nI a), .int (nI b), .int (nI (nmV T (s + 4))), .int (nI m), .int (nI (nmV T (s + 7))), .int (pE none)]) rfl (by decide) hts.1 rfl rfl (Nat.le_of_ble_eq_true rfl) (c_RaddPayment (o := none) hL hW hR6 (by omega) (fun q hq => by cases hq)) ?_
                  rintro _ _ ⟨D7, rfl, rfl, hR7, hO7⟩
                  refine X_run rfl trivial ?_
                  refine X_if_eq rfl (fun _ => ?_) (fun z => absurd rfl z)
                  obtain ⟨D8, e8, ⟨f8, g8, y8, y8'⟩, o8, r8⟩ := at_wr D7 (Y := Y) (A2 := A2) (nI (s + 9)) (by omega)
                  refine X_run rfl ?_ ?_
                  · simp [md_s, md_w, rget, r_a, r_b, r_c, r_i, r_l, hy, k9, sN, e8]
                  try simp only [md_s, md_w, rget_some, r_a, r_b, r_c, r_i, r_l, r_nx, r_pc, Nat.reduceEqDiff, false_and, if_false, hy, k9, sN, e8]
                  exact X_iret rfl rfl (CoP.ok et ((oo.tr (CoO.o hO7)).tr o8) (by rw [he]; exact f8) (r8 _ hR7))
              · rw [if_pos (nb2i c5)] at et
                refine X_run rfl trivial ?_
                exact X_iret rfl rfl (CoP.err et ((((o1.tr o2).tr o3).tr o4).tr o5) f5 (by omega))
          · rw [if_pos (fun z => nb2i c4 (decide_eq_true z))] at et
            refine X_run rfl trivial ?_
            exact X_iret rfl rfl (CoP.err et ((o1.tr o2).tr o3) f3 (by omega))
        · have c3 : a = b := nI_inj (by omega) (by omega) c3
          rw [if_pos c3.symm] at et
          refine X_run rfl trivial ?_
          exact X_iret rfl rfl (CoP.err et (o1.tr o2) f2 (by omega))
    · have c2 : k_ny K = 60 := nI_inj (by omega) (by decide) c2
      rw [if_pos (by omega)] at et
      refine X_run rfl trivial ?_
      exact X_iret rfl rfl (CoP.err et o1 f1 (by omega))
theorem c_carryOut (hY : MoL S Y A A2) (hT : TokR D Y T (tN T + 1)) (hW : WfK K) (hK : WrK K) (hR : RepR D A2 K) (hs : d_fi D 364 Y = nI s) (hV : VS (kdA T) s e) : EvM g (d + 3) mX11_carryOut 0 0 [.ref Y] (md S D) (CoP S D Y A2 T (tellS T K s) e) := by
  rcases hV with ⟨a0, a1, hV⟩ | ⟨a0, a1, a2, a3, a4, a5, a6, rfl⟩ | ⟨a0, a1, a2, a3, a4, a5, a6, a7, hV⟩ | ⟨a0, a1, a2, rfl⟩ | ⟨a0, a1, a2, rfl⟩
  · exact c_carryP hY hT hW hK hR hs a0 a1 (by
      rcases hV with h | h
      · exact Or.inl ⟨h.1, h.2.1, h.2.2.2⟩
      · exact Or.inr h)
  · exact c_carryM hY hT hW hK hR hs a0 a1 a3 a5
  · exact c_carryY hY hT hW hK hR hs a0 a1 a3 a4 a5 a7 (by
      rcases hV with h | h
      · exact Or.inl ⟨h.1, h.2.1, h.2.2.2⟩
      · exact Or.inr h)
  · exact c_carry1 hY hT hW hK hR hs (Or.inl a0) a1
  · exact c_carry1 hY hT hW hK hR hs (Or.inr a0) a1
end REFPAY
